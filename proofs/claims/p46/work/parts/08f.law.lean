/-! The law's own methods, walked by a program. -/
theorem dL_judges_0 : decode cL_judges 0 = .ok (.iconst 1, 1) := by decide +kernel
theorem dL_judges_1 : decode cL_judges 1 = .ok (.istore_n 1, 1) := by decide +kernel
theorem dL_judges_2 : decode cL_judges 2 = .ok (.iconst 0, 1) := by decide +kernel
theorem dL_judges_3 : decode cL_judges 3 = .ok (.istore_n 2, 1) := by decide +kernel
theorem dL_judges_4 : decode cL_judges 4 = .ok (.iload_n 2, 1) := by decide +kernel
theorem dL_judges_5 : decode cL_judges 5 = .ok (.aload_n 0, 1) := by decide +kernel
theorem dL_judges_6 : decode cL_judges 6 = .ok (.iconst 2, 1) := by decide +kernel
theorem dL_judges_7 : decode cL_judges 7 = .ok (.invokevirtual 40, 3) := by decide +kernel
theorem dL_judges_10 : decode cL_judges 10 = .ok (.if_icmp .ge 426, 3) := by decide +kernel
theorem dL_judges_13 : decode cL_judges 13 = .ok (.aload_n 0, 1) := by decide +kernel
theorem dL_judges_14 : decode cL_judges 14 = .ok (.invokevirtual 66, 3) := by decide +kernel
theorem dL_judges_17 : decode cL_judges 17 = .ok (.iconst 1, 1) := by decide +kernel
theorem dL_judges_18 : decode cL_judges 18 = .ok (.if_icmp .ne 418, 3) := by decide +kernel
theorem dL_judges_21 : decode cL_judges 21 = .ok (.aload_n 0, 1) := by decide +kernel
theorem dL_judges_22 : decode cL_judges 22 = .ok (.iconst 3, 1) := by decide +kernel
theorem dL_judges_23 : decode cL_judges 23 = .ok (.iconst 1, 1) := by decide +kernel
theorem dL_judges_24 : decode cL_judges 24 = .ok (.invokevirtual 47, 3) := by decide +kernel
theorem dL_judges_27 : decode cL_judges 27 = .ok (.istore_n 3, 1) := by decide +kernel
theorem dL_judges_28 : decode cL_judges 28 = .ok (.aload_n 0, 1) := by decide +kernel
theorem dL_judges_29 : decode cL_judges 29 = .ok (.iconst 3, 1) := by decide +kernel
theorem dL_judges_30 : decode cL_judges 30 = .ok (.iload_n 3, 1) := by decide +kernel
theorem dL_judges_31 : decode cL_judges 31 = .ok (.invokevirtual 47, 3) := by decide +kernel
theorem dL_judges_34 : decode cL_judges 34 = .ok (.pop, 1) := by decide +kernel
theorem dL_judges_35 : decode cL_judges 35 = .ok (.aload_n 0, 1) := by decide +kernel
theorem dL_judges_36 : decode cL_judges 36 = .ok (.iload_n 2, 1) := by decide +kernel
theorem dL_judges_37 : decode cL_judges 37 = .ok (.iconst 0, 1) := by decide +kernel
theorem dL_judges_38 : decode cL_judges 38 = .ok (.invokevirtual 70, 3) := by decide +kernel
theorem dL_judges_41 : decode cL_judges 41 = .ok (.istore 4, 2) := by decide +kernel
theorem dL_judges_43 : decode cL_judges 43 = .ok (.aload_n 0, 1) := by decide +kernel
theorem dL_judges_44 : decode cL_judges 44 = .ok (.iload_n 2, 1) := by decide +kernel
theorem dL_judges_45 : decode cL_judges 45 = .ok (.iconst 1, 1) := by decide +kernel
theorem dL_judges_46 : decode cL_judges 46 = .ok (.invokevirtual 70, 3) := by decide +kernel
theorem dL_judges_49 : decode cL_judges 49 = .ok (.istore 5, 2) := by decide +kernel
theorem dL_judges_51 : decode cL_judges 51 = .ok (.aload_n 0, 1) := by decide +kernel
theorem dL_judges_52 : decode cL_judges 52 = .ok (.iload_n 2, 1) := by decide +kernel
theorem dL_judges_53 : decode cL_judges 53 = .ok (.iconst 0, 1) := by decide +kernel
theorem dL_judges_54 : decode cL_judges 54 = .ok (.invokevirtual 98, 3) := by decide +kernel
theorem dL_judges_57 : decode cL_judges 57 = .ok (.istore 6, 2) := by decide +kernel
theorem dL_judges_59 : decode cL_judges 59 = .ok (.aload_n 0, 1) := by decide +kernel
theorem dL_judges_60 : decode cL_judges 60 = .ok (.iload_n 2, 1) := by decide +kernel
theorem dL_judges_61 : decode cL_judges 61 = .ok (.iconst 1, 1) := by decide +kernel
theorem dL_judges_62 : decode cL_judges 62 = .ok (.invokevirtual 98, 3) := by decide +kernel
theorem dL_judges_65 : decode cL_judges 65 = .ok (.istore 7, 2) := by decide +kernel
theorem dL_judges_67 : decode cL_judges 67 = .ok (.iload_n 1, 1) := by decide +kernel
theorem dL_judges_68 : decode cL_judges 68 = .ok (.ifCond .eq 33, 3) := by decide +kernel
theorem dL_judges_71 : decode cL_judges 71 = .ok (.iload 6, 2) := by decide +kernel
theorem dL_judges_73 : decode cL_judges 73 = .ok (.iconst 1, 1) := by decide +kernel
theorem dL_judges_74 : decode cL_judges 74 = .ok (.if_icmp .lt 27, 3) := by decide +kernel
theorem dL_judges_77 : decode cL_judges 77 = .ok (.iload 6, 2) := by decide +kernel
theorem dL_judges_79 : decode cL_judges 79 = .ok (.iload_n 3, 1) := by decide +kernel
theorem dL_judges_80 : decode cL_judges 80 = .ok (.if_icmp .gt 21, 3) := by decide +kernel
theorem dL_judges_83 : decode cL_judges 83 = .ok (.iload 7, 2) := by decide +kernel
theorem dL_judges_85 : decode cL_judges 85 = .ok (.iload_n 3, 1) := by decide +kernel
theorem dL_judges_86 : decode cL_judges 86 = .ok (.if_icmp .lt 15, 3) := by decide +kernel
theorem dL_judges_89 : decode cL_judges 89 = .ok (.iload 7, 2) := by decide +kernel
theorem dL_judges_91 : decode cL_judges 91 = .ok (.sipush 200, 3) := by decide +kernel
theorem dL_judges_94 : decode cL_judges 94 = .ok (.if_icmp .gt 7, 3) := by decide +kernel
theorem dL_judges_97 : decode cL_judges 97 = .ok (.iconst 1, 1) := by decide +kernel
theorem dL_judges_98 : decode cL_judges 98 = .ok (.goto 4, 3) := by decide +kernel
theorem dL_judges_101 : decode cL_judges 101 = .ok (.iconst 0, 1) := by decide +kernel
theorem dL_judges_102 : decode cL_judges 102 = .ok (.istore_n 1, 1) := by decide +kernel
theorem dL_judges_103 : decode cL_judges 103 = .ok (.iconst 5, 1) := by decide +kernel
theorem dL_judges_104 : decode cL_judges 104 = .ok (.newarray .int, 2) := by decide +kernel
theorem dL_judges_106 : decode cL_judges 106 = .ok (.dup, 1) := by decide +kernel
theorem dL_judges_107 : decode cL_judges 107 = .ok (.iconst 0, 1) := by decide +kernel
theorem dL_judges_108 : decode cL_judges 108 = .ok (.iload 6, 2) := by decide +kernel
theorem dL_judges_110 : decode cL_judges 110 = .ok (.iconst 1, 1) := by decide +kernel
theorem dL_judges_111 : decode cL_judges 111 = .ok (.isub, 1) := by decide +kernel
theorem dL_judges_112 : decode cL_judges 112 = .ok (.iastore, 1) := by decide +kernel
theorem dL_judges_113 : decode cL_judges 113 = .ok (.dup, 1) := by decide +kernel
theorem dL_judges_114 : decode cL_judges 114 = .ok (.iconst 1, 1) := by decide +kernel
theorem dL_judges_115 : decode cL_judges 115 = .ok (.iload 6, 2) := by decide +kernel
theorem dL_judges_117 : decode cL_judges 117 = .ok (.iastore, 1) := by decide +kernel
theorem dL_judges_118 : decode cL_judges 118 = .ok (.dup, 1) := by decide +kernel
theorem dL_judges_119 : decode cL_judges 119 = .ok (.iconst 2, 1) := by decide +kernel
theorem dL_judges_120 : decode cL_judges 120 = .ok (.iload 6, 2) := by decide +kernel
theorem dL_judges_122 : decode cL_judges 122 = .ok (.iload 7, 2) := by decide +kernel
theorem dL_judges_124 : decode cL_judges 124 = .ok (.iadd, 1) := by decide +kernel
theorem dL_judges_125 : decode cL_judges 125 = .ok (.iconst 2, 1) := by decide +kernel
theorem dL_judges_126 : decode cL_judges 126 = .ok (.idiv, 1) := by decide +kernel
theorem dL_judges_127 : decode cL_judges 127 = .ok (.iastore, 1) := by decide +kernel
theorem dL_judges_128 : decode cL_judges 128 = .ok (.dup, 1) := by decide +kernel
theorem dL_judges_129 : decode cL_judges 129 = .ok (.iconst 3, 1) := by decide +kernel
theorem dL_judges_130 : decode cL_judges 130 = .ok (.iload 7, 2) := by decide +kernel
theorem dL_judges_132 : decode cL_judges 132 = .ok (.iastore, 1) := by decide +kernel
theorem dL_judges_133 : decode cL_judges 133 = .ok (.dup, 1) := by decide +kernel
theorem dL_judges_134 : decode cL_judges 134 = .ok (.iconst 4, 1) := by decide +kernel
theorem dL_judges_135 : decode cL_judges 135 = .ok (.iload 7, 2) := by decide +kernel
theorem dL_judges_137 : decode cL_judges 137 = .ok (.iconst 1, 1) := by decide +kernel
theorem dL_judges_138 : decode cL_judges 138 = .ok (.iadd, 1) := by decide +kernel
theorem dL_judges_139 : decode cL_judges 139 = .ok (.iastore, 1) := by decide +kernel
theorem dL_judges_140 : decode cL_judges 140 = .ok (.astore 8, 2) := by decide +kernel
theorem dL_judges_142 : decode cL_judges 142 = .ok (.aload 8, 2) := by decide +kernel
theorem dL_judges_144 : decode cL_judges 144 = .ok (.astore 9, 2) := by decide +kernel
theorem dL_judges_146 : decode cL_judges 146 = .ok (.aload 9, 2) := by decide +kernel
theorem dL_judges_148 : decode cL_judges 148 = .ok (.arraylength, 1) := by decide +kernel
theorem dL_judges_149 : decode cL_judges 149 = .ok (.istore 10, 2) := by decide +kernel
theorem dL_judges_151 : decode cL_judges 151 = .ok (.iconst 0, 1) := by decide +kernel
theorem dL_judges_152 : decode cL_judges 152 = .ok (.istore 11, 2) := by decide +kernel
theorem dL_judges_154 : decode cL_judges 154 = .ok (.iload 11, 2) := by decide +kernel
theorem dL_judges_156 : decode cL_judges 156 = .ok (.iload 10, 2) := by decide +kernel
theorem dL_judges_158 : decode cL_judges 158 = .ok (.if_icmp .ge 96, 3) := by decide +kernel
theorem dL_judges_161 : decode cL_judges 161 = .ok (.aload 9, 2) := by decide +kernel
theorem dL_judges_163 : decode cL_judges 163 = .ok (.iload 11, 2) := by decide +kernel
theorem dL_judges_165 : decode cL_judges 165 = .ok (.iaload, 1) := by decide +kernel
theorem dL_judges_166 : decode cL_judges 166 = .ok (.istore 12, 2) := by decide +kernel
theorem dL_judges_168 : decode cL_judges 168 = .ok (.iload 12, 2) := by decide +kernel
theorem dL_judges_170 : decode cL_judges 170 = .ok (.ifCond .le 78, 3) := by decide +kernel
theorem dL_judges_173 : decode cL_judges 173 = .ok (.iload 12, 2) := by decide +kernel
theorem dL_judges_175 : decode cL_judges 175 = .ok (.sipush 200, 3) := by decide +kernel
theorem dL_judges_178 : decode cL_judges 178 = .ok (.if_icmp .gt 70, 3) := by decide +kernel
theorem dL_judges_181 : decode cL_judges 181 = .ok (.aload_n 0, 1) := by decide +kernel
theorem dL_judges_182 : decode cL_judges 182 = .ok (.iconst 3, 1) := by decide +kernel
theorem dL_judges_183 : decode cL_judges 183 = .ok (.iload 12, 2) := by decide +kernel
theorem dL_judges_185 : decode cL_judges 185 = .ok (.invokevirtual 47, 3) := by decide +kernel
theorem dL_judges_188 : decode cL_judges 188 = .ok (.pop, 1) := by decide +kernel
theorem dL_judges_189 : decode cL_judges 189 = .ok (.iload_n 1, 1) := by decide +kernel
theorem dL_judges_190 : decode cL_judges 190 = .ok (.ifCond .eq 56, 3) := by decide +kernel
theorem dL_judges_193 : decode cL_judges 193 = .ok (.aload_n 0, 1) := by decide +kernel
theorem dL_judges_194 : decode cL_judges 194 = .ok (.iload_n 2, 1) := by decide +kernel
theorem dL_judges_195 : decode cL_judges 195 = .ok (.iconst 0, 1) := by decide +kernel
theorem dL_judges_196 : decode cL_judges 196 = .ok (.invokevirtual 70, 3) := by decide +kernel
theorem dL_judges_199 : decode cL_judges 199 = .ok (.iload 4, 2) := by decide +kernel
theorem dL_judges_201 : decode cL_judges 201 = .ok (.if_icmp .ne 18, 3) := by decide +kernel
theorem dL_judges_204 : decode cL_judges 204 = .ok (.aload_n 0, 1) := by decide +kernel
theorem dL_judges_205 : decode cL_judges 205 = .ok (.iload_n 2, 1) := by decide +kernel
theorem dL_judges_206 : decode cL_judges 206 = .ok (.iconst 1, 1) := by decide +kernel
theorem dL_judges_207 : decode cL_judges 207 = .ok (.invokevirtual 70, 3) := by decide +kernel
theorem dL_judges_210 : decode cL_judges 210 = .ok (.iload 5, 2) := by decide +kernel
theorem dL_judges_212 : decode cL_judges 212 = .ok (.if_icmp .ne 7, 3) := by decide +kernel
theorem dL_judges_215 : decode cL_judges 215 = .ok (.iconst 1, 1) := by decide +kernel
theorem dL_judges_216 : decode cL_judges 216 = .ok (.goto 4, 3) := by decide +kernel
theorem dL_judges_219 : decode cL_judges 219 = .ok (.iconst 0, 1) := by decide +kernel
theorem dL_judges_220 : decode cL_judges 220 = .ok (.iload 12, 2) := by decide +kernel
theorem dL_judges_222 : decode cL_judges 222 = .ok (.iload 6, 2) := by decide +kernel
theorem dL_judges_224 : decode cL_judges 224 = .ok (.if_icmp .lt 14, 3) := by decide +kernel
theorem dL_judges_227 : decode cL_judges 227 = .ok (.iload 12, 2) := by decide +kernel
theorem dL_judges_229 : decode cL_judges 229 = .ok (.iload 7, 2) := by decide +kernel
theorem dL_judges_231 : decode cL_judges 231 = .ok (.if_icmp .gt 7, 3) := by decide +kernel
theorem dL_judges_234 : decode cL_judges 234 = .ok (.iconst 1, 1) := by decide +kernel
theorem dL_judges_235 : decode cL_judges 235 = .ok (.goto 4, 3) := by decide +kernel
theorem dL_judges_238 : decode cL_judges 238 = .ok (.iconst 0, 1) := by decide +kernel
theorem dL_judges_239 : decode cL_judges 239 = .ok (.if_icmp .ne 7, 3) := by decide +kernel
theorem dL_judges_242 : decode cL_judges 242 = .ok (.iconst 1, 1) := by decide +kernel
theorem dL_judges_243 : decode cL_judges 243 = .ok (.goto 4, 3) := by decide +kernel
theorem dL_judges_246 : decode cL_judges 246 = .ok (.iconst 0, 1) := by decide +kernel
theorem dL_judges_247 : decode cL_judges 247 = .ok (.istore_n 1, 1) := by decide +kernel
theorem dL_judges_248 : decode cL_judges 248 = .ok (.iinc 11 1, 3) := by decide +kernel
theorem dL_judges_251 : decode cL_judges 251 = .ok (.goto (-97), 3) := by decide +kernel
theorem dL_judges_254 : decode cL_judges 254 = .ok (.aload_n 0, 1) := by decide +kernel
theorem dL_judges_255 : decode cL_judges 255 = .ok (.iconst 3, 1) := by decide +kernel
theorem dL_judges_256 : decode cL_judges 256 = .ok (.iload_n 3, 1) := by decide +kernel
theorem dL_judges_257 : decode cL_judges 257 = .ok (.invokevirtual 47, 3) := by decide +kernel
theorem dL_judges_260 : decode cL_judges 260 = .ok (.pop, 1) := by decide +kernel
theorem dL_judges_261 : decode cL_judges 261 = .ok (.aload_n 0, 1) := by decide +kernel
theorem dL_judges_262 : decode cL_judges 262 = .ok (.iload_n 2, 1) := by decide +kernel
theorem dL_judges_263 : decode cL_judges 263 = .ok (.iconst 2, 1) := by decide +kernel
theorem dL_judges_264 : decode cL_judges 264 = .ok (.invokevirtual 70, 3) := by decide +kernel
theorem dL_judges_267 : decode cL_judges 267 = .ok (.istore 9, 2) := by decide +kernel
theorem dL_judges_269 : decode cL_judges 269 = .ok (.sipush 1000, 3) := by decide +kernel
theorem dL_judges_272 : decode cL_judges 272 = .ok (.istore 10, 2) := by decide +kernel
theorem dL_judges_274 : decode cL_judges 274 = .ok (.aload_n 0, 1) := by decide +kernel
theorem dL_judges_275 : decode cL_judges 275 = .ok (.iload_n 2, 1) := by decide +kernel
theorem dL_judges_276 : decode cL_judges 276 = .ok (.iconst (-1), 1) := by decide +kernel
theorem dL_judges_277 : decode cL_judges 277 = .ok (.invokevirtual 73, 3) := by decide +kernel
theorem dL_judges_280 : decode cL_judges 280 = .ok (.istore 11, 2) := by decide +kernel
theorem dL_judges_282 : decode cL_judges 282 = .ok (.iconst 0, 1) := by decide +kernel
theorem dL_judges_283 : decode cL_judges 283 = .ok (.istore 12, 2) := by decide +kernel
theorem dL_judges_285 : decode cL_judges 285 = .ok (.iload 12, 2) := by decide +kernel
theorem dL_judges_287 : decode cL_judges 287 = .ok (.aload_n 0, 1) := by decide +kernel
theorem dL_judges_288 : decode cL_judges 288 = .ok (.iload_n 2, 1) := by decide +kernel
theorem dL_judges_289 : decode cL_judges 289 = .ok (.iconst 1, 1) := by decide +kernel
theorem dL_judges_290 : decode cL_judges 290 = .ok (.invokevirtual 101, 3) := by decide +kernel
theorem dL_judges_293 : decode cL_judges 293 = .ok (.if_icmp .ge 60, 3) := by decide +kernel
theorem dL_judges_296 : decode cL_judges 296 = .ok (.aload_n 0, 1) := by decide +kernel
theorem dL_judges_297 : decode cL_judges 297 = .ok (.iload_n 2, 1) := by decide +kernel
theorem dL_judges_298 : decode cL_judges 298 = .ok (.iload 12, 2) := by decide +kernel
theorem dL_judges_300 : decode cL_judges 300 = .ok (.invokevirtual 73, 3) := by decide +kernel
theorem dL_judges_303 : decode cL_judges 303 = .ok (.istore 13, 2) := by decide +kernel
theorem dL_judges_305 : decode cL_judges 305 = .ok (.iload 4, 2) := by decide +kernel
theorem dL_judges_307 : decode cL_judges 307 = .ok (.iload 12, 2) := by decide +kernel
theorem dL_judges_309 : decode cL_judges 309 = .ok (.ishr, 1) := by decide +kernel
theorem dL_judges_310 : decode cL_judges 310 = .ok (.iconst 1, 1) := by decide +kernel
theorem dL_judges_311 : decode cL_judges 311 = .ok (.iand, 1) := by decide +kernel
theorem dL_judges_312 : decode cL_judges 312 = .ok (.iconst 1, 1) := by decide +kernel
theorem dL_judges_313 : decode cL_judges 313 = .ok (.if_icmp .ne 15, 3) := by decide +kernel
theorem dL_judges_316 : decode cL_judges 316 = .ok (.iload 10, 2) := by decide +kernel
theorem dL_judges_318 : decode cL_judges 318 = .ok (.iload 13, 2) := by decide +kernel
theorem dL_judges_320 : decode cL_judges 320 = .ok (.invokestatic 104, 3) := by decide +kernel
theorem dL_judges_323 : decode cL_judges 323 = .ok (.istore 10, 2) := by decide +kernel
theorem dL_judges_325 : decode cL_judges 325 = .ok (.goto 22, 3) := by decide +kernel
theorem dL_judges_328 : decode cL_judges 328 = .ok (.iload 9, 2) := by decide +kernel
theorem dL_judges_330 : decode cL_judges 330 = .ok (.iload 12, 2) := by decide +kernel
theorem dL_judges_332 : decode cL_judges 332 = .ok (.ishr, 1) := by decide +kernel
theorem dL_judges_333 : decode cL_judges 333 = .ok (.iconst 1, 1) := by decide +kernel
theorem dL_judges_334 : decode cL_judges 334 = .ok (.iand, 1) := by decide +kernel
theorem dL_judges_335 : decode cL_judges 335 = .ok (.ifCond .ne 12, 3) := by decide +kernel
theorem dL_judges_338 : decode cL_judges 338 = .ok (.iload 11, 2) := by decide +kernel
theorem dL_judges_340 : decode cL_judges 340 = .ok (.iload 13, 2) := by decide +kernel
theorem dL_judges_342 : decode cL_judges 342 = .ok (.invokestatic 109, 3) := by decide +kernel
theorem dL_judges_345 : decode cL_judges 345 = .ok (.istore 11, 2) := by decide +kernel
theorem dL_judges_347 : decode cL_judges 347 = .ok (.iinc 12 1, 3) := by decide +kernel
theorem dL_judges_350 : decode cL_judges 350 = .ok (.goto (-65), 3) := by decide +kernel
theorem dL_judges_353 : decode cL_judges 353 = .ok (.iload_n 1, 1) := by decide +kernel
theorem dL_judges_354 : decode cL_judges 354 = .ok (.ifCond .eq 74, 3) := by decide +kernel
theorem dL_judges_357 : decode cL_judges 357 = .ok (.iload 4, 2) := by decide +kernel
theorem dL_judges_359 : decode cL_judges 359 = .ok (.iload 9, 2) := by decide +kernel
theorem dL_judges_361 : decode cL_judges 361 = .ok (.iand, 1) := by decide +kernel
theorem dL_judges_362 : decode cL_judges 362 = .ok (.ifCond .ne 66, 3) := by decide +kernel
theorem dL_judges_365 : decode cL_judges 365 = .ok (.iload 4, 2) := by decide +kernel
theorem dL_judges_367 : decode cL_judges 367 = .ok (.ifCond .eq 12, 3) := by decide +kernel
theorem dL_judges_370 : decode cL_judges 370 = .ok (.iload 10, 2) := by decide +kernel
theorem dL_judges_372 : decode cL_judges 372 = .ok (.iload 11, 2) := by decide +kernel
theorem dL_judges_374 : decode cL_judges 374 = .ok (.isub, 1) := by decide +kernel
theorem dL_judges_375 : decode cL_judges 375 = .ok (.iload_n 3, 1) := by decide +kernel
theorem dL_judges_376 : decode cL_judges 376 = .ok (.if_icmp .lt 52, 3) := by decide +kernel
theorem dL_judges_379 : decode cL_judges 379 = .ok (.iload 5, 2) := by decide +kernel
theorem dL_judges_381 : decode cL_judges 381 = .ok (.iconst 1, 1) := by decide +kernel
theorem dL_judges_382 : decode cL_judges 382 = .ok (.if_icmp .ne 8, 3) := by decide +kernel
theorem dL_judges_385 : decode cL_judges 385 = .ok (.iload 4, 2) := by decide +kernel
theorem dL_judges_387 : decode cL_judges 387 = .ok (.ifCond .ne 41, 3) := by decide +kernel
theorem dL_judges_390 : decode cL_judges 390 = .ok (.iload 5, 2) := by decide +kernel
theorem dL_judges_392 : decode cL_judges 392 = .ok (.iconst 2, 1) := by decide +kernel
theorem dL_judges_393 : decode cL_judges 393 = .ok (.if_icmp .ne 22, 3) := by decide +kernel
theorem dL_judges_396 : decode cL_judges 396 = .ok (.iload 4, 2) := by decide +kernel
theorem dL_judges_398 : decode cL_judges 398 = .ok (.invokestatic 58, 3) := by decide +kernel
theorem dL_judges_401 : decode cL_judges 401 = .ok (.iconst 1, 1) := by decide +kernel
theorem dL_judges_402 : decode cL_judges 402 = .ok (.if_icmp .le 26, 3) := by decide +kernel
theorem dL_judges_405 : decode cL_judges 405 = .ok (.aload_n 0, 1) := by decide +kernel
theorem dL_judges_406 : decode cL_judges 406 = .ok (.iload_n 2, 1) := by decide +kernel
theorem dL_judges_407 : decode cL_judges 407 = .ok (.iconst 0, 1) := by decide +kernel
theorem dL_judges_408 : decode cL_judges 408 = .ok (.invokevirtual 101, 3) := by decide +kernel
theorem dL_judges_411 : decode cL_judges 411 = .ok (.iconst 1, 1) := by decide +kernel
theorem dL_judges_412 : decode cL_judges 412 = .ok (.if_icmp .ne 16, 3) := by decide +kernel
theorem dL_judges_415 : decode cL_judges 415 = .ok (.aload_n 0, 1) := by decide +kernel
theorem dL_judges_416 : decode cL_judges 416 = .ok (.iload_n 2, 1) := by decide +kernel
theorem dL_judges_417 : decode cL_judges 417 = .ok (.iconst 1, 1) := by decide +kernel
theorem dL_judges_418 : decode cL_judges 418 = .ok (.invokevirtual 101, 3) := by decide +kernel
theorem dL_judges_421 : decode cL_judges 421 = .ok (.ifCond .le 7, 3) := by decide +kernel
theorem dL_judges_424 : decode cL_judges 424 = .ok (.iconst 1, 1) := by decide +kernel
theorem dL_judges_425 : decode cL_judges 425 = .ok (.goto 4, 3) := by decide +kernel
theorem dL_judges_428 : decode cL_judges 428 = .ok (.iconst 0, 1) := by decide +kernel
theorem dL_judges_429 : decode cL_judges 429 = .ok (.istore_n 1, 1) := by decide +kernel
theorem dL_judges_430 : decode cL_judges 430 = .ok (.iinc 2 1, 3) := by decide +kernel
theorem dL_judges_433 : decode cL_judges 433 = .ok (.goto (-429), 3) := by decide +kernel
theorem dL_judges_436 : decode cL_judges 436 = .ok (.iload_n 1, 1) := by decide +kernel
theorem dL_judges_437 : decode cL_judges 437 = .ok (.ireturn, 1) := by decide +kernel
def mL_judges : MM := (yL_judges, cL_judges, 14, Option.some Jvm.ClassFile.FieldType.boolean, { frames := 7, cells := 12, slots := 60, locals := 170 })
def L_judges_L154 (u2_ : Int32) (u4_ : Int32) (u5_ : Int32) (u6_ : Int32) (u7_ : Int32) (o9_ : Nat) (u10_ : Int32) (k254 : Int32 → SS → Option (Bool × SS)) : Nat → Int32 → Int32 → SS → Option (Bool × SS) :=
  lp (fun _ _ _ => none) fun rec v1_ v11_ σ_ =>
    if u10_ ≤ v11_ then (
      k254 v1_ σ_
      ) else (
      grd (lin σ_ o9_ v11_) <|
      vthen (gI σ_ o9_ (Int32.toNatClampNeg v11_)) fun v51 =>
      if v51 ≤ 0 then (
        rec v1_ (v11_ + (1 : Int32)) σ_
        ) else (
        if (200 : Int32) < v51 then (
          rec v1_ (v11_ + (1 : Int32)) σ_
          ) else (
          bnd (fX7_set σ_ (3 : Int32) v51) fun v52 σ55 =>
          vthen (fun (s56 : Int32) (σ57 : SS) =>
            rec s56 (v11_ + (1 : Int32)) σ57
            ) fun j247 =>
          vthen (fun  (σ58 : SS) =>
            j247 (0 : Int32) σ58
            ) fun j246 =>
          if v1_ = 0 then (
            j246 σ55
            ) else (
            bnd (fX7_judged σ55 u2_ (0 : Int32)) fun v59 σ62 =>
            vthen (fun (s63 : Int32) (σ64 : SS) =>
              vthen (fun (s65 : Int32) =>
                if s63 = s65 then (
                  j247 (1 : Int32) σ64
                  ) else (
                  j246 σ64
                  )
                ) fun j239 =>
              vthen (fun (_u : Unit) =>
                j239 (0 : Int32)
                ) fun j238 =>
              if v51 < u6_ then (
                j238 ()
                ) else (
                if u7_ < v51 then (
                  j238 ()
                  ) else (
                  j239 (1 : Int32)
                  )
                )
              ) fun j220 =>
            vthen (fun  (σ66 : SS) =>
              j220 (0 : Int32) σ66
              ) fun j219 =>
            if v59 = u4_ then (
              bnd (fX7_judged σ62 u2_ (1 : Int32)) fun v67 σ70 =>
              if v67 = u5_ then (
                j220 (1 : Int32) σ70
                ) else (
                j219 σ70
                )
              ) else (
              j219 σ62
              )
            )
          )
        )
      )

def L_judges_L285 (u2_ : Int32) (u4_ : Int32) (u9_ : Int32) (k353 : Int32 → Int32 → SS → Option (Bool × SS)) : Nat → Int32 → Int32 → Int32 → SS → Option (Bool × SS) :=
  lp (fun _ _ _ _ => none) fun rec v10_ v11_ v12_ σ_ =>
    bnd1 (fX7_question σ_ u2_ (1 : Int32)) fun v85 =>
    if v85 ≤ v12_ then (
      k353 v10_ v11_ σ_
      ) else (
      bnd (fX7_dark σ_ u2_ v12_) fun v88 σ91 =>
      if ((u4_ >>> (v12_ &&& 31)) &&& (1 : Int32)) = (1 : Int32) then (
        vthen (fJ9_min_7cf53 σ91 v10_ v88) fun v93 =>
        rec v93 v11_ (v12_ + (1 : Int32)) σ91
        ) else (
        if ((u9_ >>> (v12_ &&& 31)) &&& (1 : Int32)) = 0 then (
          vthen (fJ9_max_7cf53 σ91 v11_ v88) fun v92 =>
          rec v10_ v92 (v12_ + (1 : Int32)) σ91
          ) else (
          rec v10_ v11_ (v12_ + (1 : Int32)) σ91
          )
        )
      )

def L_judges_L4   : Nat → Int32 → Int32 → SS → Option (Bool × SS) :=
  lp (fun _ _ _ => none) fun rec v1_ v2_ σ_ =>
    grd (inb v2_ 13) <|
    bnd1 (fX7_count σ_ (2 : Int32)) fun v1 =>
    if v1 ≤ v2_ then (
      grd (isb v1_) <|
      some ((i2b v1_), σ_)
      ) else (
      bnd (fX7_marked σ_) fun v5 σ8 =>
      if v5 = (1 : Int32) then (
        bnd (fX7_set σ8 (3 : Int32) (1 : Int32)) fun v10 σ13 =>
        bnd (fX7_set σ13 (3 : Int32) v10) fun v14 σ17 =>
        bnd (fX7_judged σ17 v2_ (0 : Int32)) fun v18 σ21 =>
        bnd (fX7_judged σ21 v2_ (1 : Int32)) fun v22 σ25 =>
        bnd (fX7_steady σ25 v2_ (0 : Int32)) fun v26 σ29 =>
        bnd (fX7_steady σ29 v2_ (1 : Int32)) fun v30 σ33 =>
        vthen (fun (s34 : Int32) =>
          grd (inb v2_ 12) <|
          vthen (2000 + gR σ33 0 0) fun c37 =>
          vthen (mkL σ33 5) fun σ36 =>
          grd (lin σ36 c37 (0 : Int32)) <|
          vthen (sI σ36 c37 0 (v26 - (1 : Int32))) fun σ39 =>
          grd (lin σ39 c37 (1 : Int32)) <|
          vthen (sI σ39 c37 1 v26) fun σ41 =>
          grd (lin σ41 c37 (2 : Int32)) <|
          vthen (sI σ41 c37 2 ((v26 + v30) / (2 : Int32))) fun σ43 =>
          grd (lin σ43 c37 (3 : Int32)) <|
          vthen (sI σ43 c37 3 v30) fun σ45 =>
          grd (lin σ45 c37 (4 : Int32)) <|
          vthen (sI σ45 c37 4 (v30 + (1 : Int32))) fun σ47 =>
          grd (lav σ47 c37) <|
          vthen (nI (gR σ47 c37 0)) fun v49 =>
          L_judges_L154 v2_ v18 v22 v26 v30 c37 v49
          (fun v71 σ72 =>
            bnd (fX7_set σ72 (3 : Int32) v10) fun v73 σ76 =>
            bnd (fX7_judged σ76 v2_ (2 : Int32)) fun v77 σ80 =>
            bnd (fX7_dark σ80 v2_ (-1 : Int32)) fun v81 σ84 =>
            L_judges_L285 v2_ v18 v77
            (fun v94 v95 σ96 =>
              vthen (fun (_u : Unit) =>
                rec (0 : Int32) (v2_ + (1 : Int32)) σ96
                ) fun j428 =>
              if v71 = 0 then (
                j428 ()
                ) else (
                if (v18 &&& v77) = 0 then (
                  vthen (fun (_u : Unit) =>
                    vthen (fun (_u : Unit) =>
                      vthen (fun (_u : Unit) =>
                        bnd1 (fX7_question σ96 v2_ (1 : Int32)) fun v97 =>
                        if v97 ≤ 0 then (
                          j428 ()
                          ) else (
                          rec (1 : Int32) (v2_ + (1 : Int32)) σ96
                          )
                        ) fun j415 =>
                      if v22 = (2 : Int32) then (
                        if (fJ6_bitCount_0f7a4 σ96 v18) ≤ (1 : Int32) then (
                          j428 ()
                          ) else (
                          bnd1 (fX7_question σ96 v2_ (0 : Int32)) fun v100 =>
                          if v100 = (1 : Int32) then (
                            j415 ()
                            ) else (
                            j428 ()
                            )
                          )
                        ) else (
                        j415 ()
                        )
                      ) fun j390 =>
                    if v22 = (1 : Int32) then (
                      if v18 = 0 then (
                        j390 ()
                        ) else (
                        j428 ()
                        )
                      ) else (
                      j390 ()
                      )
                    ) fun j379 =>
                  if v18 = 0 then (
                    j379 ()
                    ) else (
                    if (v94 - v95) < v10 then (
                      j428 ()
                      ) else (
                      j379 ()
                      )
                    )
                  ) else (
                  j428 ()
                  )
                )
              )
            fuel (1000 : Int32) v81 (0 : Int32) σ84
            )
          fuel s34 (0 : Int32) σ47
          ) fun j102 =>
        vthen (fun (_u : Unit) =>
          j102 (0 : Int32)
          ) fun j101 =>
        if v1_ = 0 then (
          j101 ()
          ) else (
          if v26 < (1 : Int32) then (
            j101 ()
            ) else (
            if v10 < v26 then (
              j101 ()
              ) else (
              if v30 < v10 then (
                j101 ()
                ) else (
                if (200 : Int32) < v30 then (
                  j101 ()
                  ) else (
                  j102 (1 : Int32)
                  )
                )
              )
            )
          )
        ) else (
        grd (isb v1_) <|
        some ((i2b v1_), σ8)
        )
      )

def fL_judges (σ : SS)  : Option (Bool × SS) :=
  L_judges_L4
  fuel (1 : Int32) (0 : Int32) σ

set_option maxRecDepth 20000 in
theorem sL_judges_L154 {g : GG} {r : Bool × SS} {u2_ : Int32} {x3_ : Int32} {u4_ : Int32} {u5_ : Int32} {u6_ : Int32} {u7_ : Int32} {o9_ : Nat} {u10_ : Int32} {zc_ zs_ : Nat} {k254 : Int32 → SS → Option (Bool × SS)} (hz_ : zc_ ≤ mL_judges.2.2.2.2.cells ∧ zs_ ≤ mL_judges.2.2.2.2.slots)
    (hk254 : ∀ (y1 : Int32) (σ_ : SS), k254 y1 σ_ = some r → WT σ_ → RR g mL_judges (FinR g mL_judges (some (.int (b2i r.1))) NF r.2) (NF, zc_, zs_) 254 [(0, .ref (ad g 1)), (1, .int y1), (2, .int u2_), (3, .int x3_), (4, .int u4_), (5, .int u5_)] [] σ_)
    (n : Nat) : ∀ (v1_ : Int32) (v11_ : Int32) (σ_ : SS), L_judges_L154 u2_ u4_ u5_ u6_ u7_ o9_ u10_ k254 n v1_ v11_ σ_ = some r → WT σ_ → RR g mL_judges (FinR g mL_judges (some (.int (b2i r.1))) NF r.2) (NF, zc_, zs_) 154 [(0, .ref (ad g 1)), (1, .int v1_), (2, .int u2_), (3, .int x3_), (4, .int u4_), (5, .int u5_), (6, .int u6_), (7, .int u7_), (9, .ref (ad g o9_)), (10, .int u10_), (11, .int v11_)] [] σ_ := by
  unfold L_judges_L154
  refine lp_ind (P := fun (rec : Int32 → Int32 → SS → Option (Bool × SS)) => ∀ (v1_ : Int32) (v11_ : Int32) (σ_ : SS), rec v1_ v11_ σ_ = some r → WT σ_ → RR g mL_judges (FinR g mL_judges (some (.int (b2i r.1))) NF r.2) (NF, zc_, zs_) 154 [(0, .ref (ad g 1)), (1, .int v1_), (2, .int u2_), (3, .int x3_), (4, .int u4_), (5, .int u5_), (6, .int u6_), (7, .int u7_), (9, .ref (ad g o9_)), (10, .int u10_), (11, .int v11_)] [] σ_) ?_ ?_ n
  · intro v1_ v11_ σ_ hr; cases hr
  intro rec ih v1_ v11_ σ_ hr hw_
  refine r_iload (pc := 154) (j := 10) dL_judges_154 rfl ?_
  refine r_iload (pc := 156) (j := 9) dL_judges_156 rfl ?_
  refine r_icmp_ge (pc := 158) (tgt := 254) dL_judges_158 rfl (fun hc => ?_) (fun hc => ?_)
  · replace hr := ite_t hc hr
    exact r_pick (ls1 := [(0, .ref (ad g 1)), (1, .int v1_), (2, .int u2_), (3, .int x3_), (4, .int u4_), (5, .int u5_)]) [0, 1, 2, 3, 4, 5] rfl (hk254 v1_ σ_ hr hw_)
  replace hr := ite_f hc hr
  refine r_aload (pc := 161) (j := 8) dL_judges_161 rfl ?_
  refine r_iload (pc := 163) (j := 10) dL_judges_163 rfl ?_
  obtain ⟨h50, hr⟩ := grd_inv hr
  refine y_iald (pc := 165) (k := (Int32.toNatClampNeg v11_)) h50 rfl dL_judges_165 ?_
  refine r_topi fun v51 ev51 => ?_
  replace hr := vthen_inv hr v51 ev51
  refine r_istore (pc := 166) (ls1 := [(12, .int v51), (0, .ref (ad g 1)), (1, .int v1_), (2, .int u2_), (3, .int x3_), (4, .int u4_), (5, .int u5_), (6, .int u6_), (7, .int u7_), (9, .ref (ad g o9_)), (10, .int u10_), (11, .int v11_)]) dL_judges_166 (nle rfl) rfl ?_
  refine r_iload (pc := 168) (j := 0) dL_judges_168 rfl ?_
  refine r_if_le (pc := 170) (tgt := 248) dL_judges_170 rfl (fun hc => ?_) (fun hc => ?_)
  · replace hr := ite_t hc hr
    refine r_iinc (pc := 248) (j := 11) (v := (v11_ + (1 : Int32))) (ls1 := [(11, .int (v11_ + (1 : Int32))), (12, .int v51), (0, .ref (ad g 1)), (1, .int v1_), (2, .int u2_), (3, .int x3_), (4, .int u4_), (5, .int u5_), (6, .int u6_), (7, .int u7_), (9, .ref (ad g o9_)), (10, .int u10_)]) dL_judges_248 rfl rfl (nle rfl) rfl ?_
    refine r_goto (pc := 251) (tgt := 154) dL_judges_251 rfl ?_
    exact r_pick (ls1 := [(0, .ref (ad g 1)), (1, .int v1_), (2, .int u2_), (3, .int x3_), (4, .int u4_), (5, .int u5_), (6, .int u6_), (7, .int u7_), (9, .ref (ad g o9_)), (10, .int u10_), (11, .int (v11_ + (1 : Int32)))]) [2, 3, 4, 5, 6, 7, 8, 9, 10, 11, 0] rfl (ih v1_ (v11_ + (1 : Int32)) σ_ hr hw_)
  replace hr := ite_f hc hr
  refine r_iload (pc := 173) (j := 0) dL_judges_173 rfl ?_
  refine r_sipush (pc := 175) (v := (200 : Int32)) dL_judges_175 rfl ?_
  refine r_icmp_gt (pc := 178) (tgt := 248) dL_judges_178 rfl (fun hc => ?_) (fun hc => ?_)
  · replace hr := ite_t hc hr
    refine r_iinc (pc := 248) (j := 11) (v := (v11_ + (1 : Int32))) (ls1 := [(11, .int (v11_ + (1 : Int32))), (12, .int v51), (0, .ref (ad g 1)), (1, .int v1_), (2, .int u2_), (3, .int x3_), (4, .int u4_), (5, .int u5_), (6, .int u6_), (7, .int u7_), (9, .ref (ad g o9_)), (10, .int u10_)]) dL_judges_248 rfl rfl (nle rfl) rfl ?_
    refine r_goto (pc := 251) (tgt := 154) dL_judges_251 rfl ?_
    exact r_pick (ls1 := [(0, .ref (ad g 1)), (1, .int v1_), (2, .int u2_), (3, .int x3_), (4, .int u4_), (5, .int u5_), (6, .int u6_), (7, .int u7_), (9, .ref (ad g o9_)), (10, .int u10_), (11, .int (v11_ + (1 : Int32)))]) [2, 3, 4, 5, 6, 7, 8, 9, 10, 11, 0] rfl (ih v1_ (v11_ + (1 : Int32)) σ_ hr hw_)
  replace hr := ite_f hc hr
  refine r_aload_n (pc := 181) (j := 1) dL_judges_181 rfl rfl ?_
  refine r_iconst (pc := 182) (v := (3 : Int32)) dL_judges_182 rfl ?_
  refine r_iload (pc := 183) (j := 0) dL_judges_183 rfl ?_
  obtain ⟨v52, σ55, eσ55, hr⟩ := bnd_inv hr
  refine qX7_set (pc := 185) eσ55 tw_4_66 hz_ ⟨nle rfl, nle rfl⟩ (nle rfl) dL_judges_185 fun hσ55 => ?_
  refine r_pop (pc := 188) dL_judges_188 rfl ?_
  refine r_iload_n (pc := 189) (j := 2) dL_judges_189 rfl rfl ?_
  obtain ⟨j247, ej247, hr⟩ := vth_ex hr
  have hj247 : ∀ (s56 : Int32) (σ57 : SS), j247 s56 σ57 = some r → WT σ57 → RR g mL_judges (FinR g mL_judges (some (.int (b2i r.1))) NF r.2) (NF, zc_, zs_) 247 [(0, .ref (ad g 1)), (2, .int u2_), (3, .int x3_), (4, .int u4_), (5, .int u5_), (6, .int u6_), (7, .int u7_), (9, .ref (ad g o9_)), (10, .int u10_), (11, .int v11_)] [.int s56] σ57 := by
    intro s56 σ57 hr hσ57
    replace hr := (congrFun (congrFun ej247 s56) σ57).symm.trans hr
    refine r_istore_n (pc := 247) (ls1 := [(1, .int s56), (0, .ref (ad g 1)), (2, .int u2_), (3, .int x3_), (4, .int u4_), (5, .int u5_), (6, .int u6_), (7, .int u7_), (9, .ref (ad g o9_)), (10, .int u10_), (11, .int v11_)]) dL_judges_247 rfl (nle rfl) rfl ?_
    refine r_iinc (pc := 248) (j := 10) (v := (v11_ + (1 : Int32))) (ls1 := [(11, .int (v11_ + (1 : Int32))), (1, .int s56), (0, .ref (ad g 1)), (2, .int u2_), (3, .int x3_), (4, .int u4_), (5, .int u5_), (6, .int u6_), (7, .int u7_), (9, .ref (ad g o9_)), (10, .int u10_)]) dL_judges_248 rfl rfl (nle rfl) rfl ?_
    refine r_goto (pc := 251) (tgt := 154) dL_judges_251 rfl ?_
    exact r_pick (ls1 := [(0, .ref (ad g 1)), (1, .int s56), (2, .int u2_), (3, .int x3_), (4, .int u4_), (5, .int u5_), (6, .int u6_), (7, .int u7_), (9, .ref (ad g o9_)), (10, .int u10_), (11, .int (v11_ + (1 : Int32)))]) [2, 1, 3, 4, 5, 6, 7, 8, 9, 10, 0] rfl (ih s56 (v11_ + (1 : Int32)) σ57 hr hσ57)
  obtain ⟨j246, ej246, hr⟩ := vth_ex hr
  have hj246 : ∀ (σ58 : SS), j246 σ58 = some r → WT σ58 → RR g mL_judges (FinR g mL_judges (some (.int (b2i r.1))) NF r.2) (NF, zc_, zs_) 246 [(0, .ref (ad g 1)), (2, .int u2_), (3, .int x3_), (4, .int u4_), (5, .int u5_), (6, .int u6_), (7, .int u7_), (9, .ref (ad g o9_)), (10, .int u10_), (11, .int v11_)] [] σ58 := by
    intro σ58 hr hσ58
    replace hr := (congrFun ej246 σ58).symm.trans hr
    refine r_iconst (pc := 246) (v := (0 : Int32)) dL_judges_246 rfl ?_
    exact r_pick (ls1 := [(0, .ref (ad g 1)), (2, .int u2_), (3, .int x3_), (4, .int u4_), (5, .int u5_), (6, .int u6_), (7, .int u7_), (9, .ref (ad g o9_)), (10, .int u10_), (11, .int v11_)]) [0, 1, 2, 3, 4, 5, 6, 7, 8, 9] rfl (hj247 (0 : Int32) σ58 hr hσ58)
  refine r_if_eq (pc := 190) (tgt := 246) dL_judges_190 rfl (fun hc => ?_) (fun hc => ?_)
  · replace hr := ite_t hc hr
    exact r_pick (ls1 := [(0, .ref (ad g 1)), (2, .int u2_), (3, .int x3_), (4, .int u4_), (5, .int u5_), (6, .int u6_), (7, .int u7_), (9, .ref (ad g o9_)), (10, .int u10_), (11, .int v11_)]) [1, 3, 4, 5, 6, 7, 8, 9, 10, 11] rfl (hj246 σ55 hr hσ55)
  replace hr := ite_f hc hr
  refine r_aload_n (pc := 193) (j := 1) dL_judges_193 rfl rfl ?_
  refine r_iload_n (pc := 194) (j := 3) dL_judges_194 rfl rfl ?_
  refine r_iconst (pc := 195) (v := (0 : Int32)) dL_judges_195 rfl ?_
  obtain ⟨v59, σ62, eσ62, hr⟩ := bnd_inv hr
  refine qX7_judged (pc := 196) eσ62 tw_4_87 hz_ ⟨nle rfl, nle rfl⟩ (nle rfl) dL_judges_196 fun hσ62 => ?_
  refine r_iload (pc := 199) (j := 5) dL_judges_199 rfl ?_
  obtain ⟨j220, ej220, hr⟩ := vth_ex hr
  have hj220 : ∀ (s63 : Int32) (σ64 : SS), j220 s63 σ64 = some r → WT σ64 → RR g mL_judges (FinR g mL_judges (some (.int (b2i r.1))) NF r.2) (NF, zc_, zs_) 220 [(0, .ref (ad g 1)), (2, .int u2_), (3, .int x3_), (4, .int u4_), (5, .int u5_), (6, .int u6_), (7, .int u7_), (9, .ref (ad g o9_)), (10, .int u10_), (11, .int v11_), (12, .int v51)] [.int s63] σ64 := by
    intro s63 σ64 hr hσ64
    replace hr := (congrFun (congrFun ej220 s63) σ64).symm.trans hr
    refine r_iload (pc := 220) (j := 10) dL_judges_220 rfl ?_
    refine r_iload (pc := 222) (j := 5) dL_judges_222 rfl ?_
    obtain ⟨j239, ej239, hr⟩ := vth_ex hr
    have hj239 : ∀ (s65 : Int32), j239 s65 = some r → RR g mL_judges (FinR g mL_judges (some (.int (b2i r.1))) NF r.2) (NF, zc_, zs_) 239 [(0, .ref (ad g 1)), (2, .int u2_), (3, .int x3_), (4, .int u4_), (5, .int u5_), (6, .int u6_), (7, .int u7_), (9, .ref (ad g o9_)), (10, .int u10_), (11, .int v11_)] [.int s65, .int s63] σ64 := by
      intro s65 hr
      replace hr := (congrFun ej239 s65).symm.trans hr
      refine r_icmp_ne (pc := 239) (tgt := 246) dL_judges_239 rfl (fun hc => ?_) (fun hc => ?_)
      · replace hr := ite_f hc hr
        exact r_pick (ls1 := [(0, .ref (ad g 1)), (2, .int u2_), (3, .int x3_), (4, .int u4_), (5, .int u5_), (6, .int u6_), (7, .int u7_), (9, .ref (ad g o9_)), (10, .int u10_), (11, .int v11_)]) [0, 1, 2, 3, 4, 5, 6, 7, 8, 9] rfl (hj246 σ64 hr hσ64)
      replace hr := ite_t hc hr
      refine r_iconst (pc := 242) (v := (1 : Int32)) dL_judges_242 rfl ?_
      refine r_goto (pc := 243) (tgt := 247) dL_judges_243 rfl ?_
      exact r_pick (ls1 := [(0, .ref (ad g 1)), (2, .int u2_), (3, .int x3_), (4, .int u4_), (5, .int u5_), (6, .int u6_), (7, .int u7_), (9, .ref (ad g o9_)), (10, .int u10_), (11, .int v11_)]) [0, 1, 2, 3, 4, 5, 6, 7, 8, 9] rfl (hj247 (1 : Int32) σ64 hr hσ64)
    obtain ⟨j238, ej238, hr⟩ := vth_ex hr
    have hj238 : j238 () = some r → RR g mL_judges (FinR g mL_judges (some (.int (b2i r.1))) NF r.2) (NF, zc_, zs_) 238 [(0, .ref (ad g 1)), (2, .int u2_), (3, .int x3_), (4, .int u4_), (5, .int u5_), (6, .int u6_), (7, .int u7_), (9, .ref (ad g o9_)), (10, .int u10_), (11, .int v11_)] [.int s63] σ64 := by
      intro  hr
      replace hr := (congrFun ej238 ()).symm.trans hr
      refine r_iconst (pc := 238) (v := (0 : Int32)) dL_judges_238 rfl ?_
      exact r_pick (ls1 := [(0, .ref (ad g 1)), (2, .int u2_), (3, .int x3_), (4, .int u4_), (5, .int u5_), (6, .int u6_), (7, .int u7_), (9, .ref (ad g o9_)), (10, .int u10_), (11, .int v11_)]) [0, 1, 2, 3, 4, 5, 6, 7, 8, 9] rfl (hj239 (0 : Int32) hr)
    refine r_icmp_lt (pc := 224) (tgt := 238) dL_judges_224 rfl (fun hc => ?_) (fun hc => ?_)
    · replace hr := ite_t hc hr
      exact r_pick (ls1 := [(0, .ref (ad g 1)), (2, .int u2_), (3, .int x3_), (4, .int u4_), (5, .int u5_), (6, .int u6_), (7, .int u7_), (9, .ref (ad g o9_)), (10, .int u10_), (11, .int v11_)]) [0, 1, 2, 3, 4, 5, 6, 7, 8, 9] rfl (hj238  hr)
    replace hr := ite_f hc hr
    refine r_iload (pc := 227) (j := 10) dL_judges_227 rfl ?_
    refine r_iload (pc := 229) (j := 6) dL_judges_229 rfl ?_
    refine r_icmp_gt (pc := 231) (tgt := 238) dL_judges_231 rfl (fun hc => ?_) (fun hc => ?_)
    · replace hr := ite_t hc hr
      exact r_pick (ls1 := [(0, .ref (ad g 1)), (2, .int u2_), (3, .int x3_), (4, .int u4_), (5, .int u5_), (6, .int u6_), (7, .int u7_), (9, .ref (ad g o9_)), (10, .int u10_), (11, .int v11_)]) [0, 1, 2, 3, 4, 5, 6, 7, 8, 9] rfl (hj238  hr)
    replace hr := ite_f hc hr
    refine r_iconst (pc := 234) (v := (1 : Int32)) dL_judges_234 rfl ?_
    refine r_goto (pc := 235) (tgt := 239) dL_judges_235 rfl ?_
    exact r_pick (ls1 := [(0, .ref (ad g 1)), (2, .int u2_), (3, .int x3_), (4, .int u4_), (5, .int u5_), (6, .int u6_), (7, .int u7_), (9, .ref (ad g o9_)), (10, .int u10_), (11, .int v11_)]) [0, 1, 2, 3, 4, 5, 6, 7, 8, 9] rfl (hj239 (1 : Int32) hr)
  obtain ⟨j219, ej219, hr⟩ := vth_ex hr
  have hj219 : ∀ (σ66 : SS), j219 σ66 = some r → WT σ66 → RR g mL_judges (FinR g mL_judges (some (.int (b2i r.1))) NF r.2) (NF, zc_, zs_) 219 [(0, .ref (ad g 1)), (2, .int u2_), (3, .int x3_), (4, .int u4_), (5, .int u5_), (6, .int u6_), (7, .int u7_), (9, .ref (ad g o9_)), (10, .int u10_), (11, .int v11_), (12, .int v51)] [] σ66 := by
    intro σ66 hr hσ66
    replace hr := (congrFun ej219 σ66).symm.trans hr
    refine r_iconst (pc := 219) (v := (0 : Int32)) dL_judges_219 rfl ?_
    exact r_pick (ls1 := [(0, .ref (ad g 1)), (2, .int u2_), (3, .int x3_), (4, .int u4_), (5, .int u5_), (6, .int u6_), (7, .int u7_), (9, .ref (ad g o9_)), (10, .int u10_), (11, .int v11_), (12, .int v51)]) [0, 1, 2, 3, 4, 5, 6, 7, 8, 9, 10] rfl (hj220 (0 : Int32) σ66 hr hσ66)
  refine r_icmp_ne (pc := 201) (tgt := 219) dL_judges_201 rfl (fun hc => ?_) (fun hc => ?_)
  · replace hr := ite_f hc hr
    exact r_pick (ls1 := [(0, .ref (ad g 1)), (2, .int u2_), (3, .int x3_), (4, .int u4_), (5, .int u5_), (6, .int u6_), (7, .int u7_), (9, .ref (ad g o9_)), (10, .int u10_), (11, .int v11_), (12, .int v51)]) [1, 3, 4, 5, 6, 7, 8, 9, 10, 11, 0] rfl (hj219 σ62 hr hσ62)
  replace hr := ite_t hc hr
  refine r_aload_n (pc := 204) (j := 1) dL_judges_204 rfl rfl ?_
  refine r_iload_n (pc := 205) (j := 3) dL_judges_205 rfl rfl ?_
  refine r_iconst (pc := 206) (v := (1 : Int32)) dL_judges_206 rfl ?_
  obtain ⟨v67, σ70, eσ70, hr⟩ := bnd_inv hr
  refine qX7_judged (pc := 207) eσ70 tw_4_87 hz_ ⟨nle rfl, nle rfl⟩ (nle rfl) dL_judges_207 fun hσ70 => ?_
  refine r_iload (pc := 210) (j := 6) dL_judges_210 rfl ?_
  refine r_icmp_ne (pc := 212) (tgt := 219) dL_judges_212 rfl (fun hc => ?_) (fun hc => ?_)
  · replace hr := ite_f hc hr
    exact r_pick (ls1 := [(0, .ref (ad g 1)), (2, .int u2_), (3, .int x3_), (4, .int u4_), (5, .int u5_), (6, .int u6_), (7, .int u7_), (9, .ref (ad g o9_)), (10, .int u10_), (11, .int v11_), (12, .int v51)]) [1, 3, 4, 5, 6, 7, 8, 9, 10, 11, 0] rfl (hj219 σ70 hr hσ70)
  replace hr := ite_t hc hr
  refine r_iconst (pc := 215) (v := (1 : Int32)) dL_judges_215 rfl ?_
  refine r_goto (pc := 216) (tgt := 220) dL_judges_216 rfl ?_
  exact r_pick (ls1 := [(0, .ref (ad g 1)), (2, .int u2_), (3, .int x3_), (4, .int u4_), (5, .int u5_), (6, .int u6_), (7, .int u7_), (9, .ref (ad g o9_)), (10, .int u10_), (11, .int v11_), (12, .int v51)]) [1, 3, 4, 5, 6, 7, 8, 9, 10, 11, 0] rfl (hj220 (1 : Int32) σ70 hr hσ70)

set_option maxRecDepth 20000 in
theorem sL_judges_L285 {g : GG} {r : Bool × SS} {x1_ : Int32} {u2_ : Int32} {x3_ : Int32} {u4_ : Int32} {x5_ : Int32} {u9_ : Int32} {zc_ zs_ : Nat} {k353 : Int32 → Int32 → SS → Option (Bool × SS)} (hz_ : zc_ ≤ mL_judges.2.2.2.2.cells ∧ zs_ ≤ mL_judges.2.2.2.2.slots)
    (hk353 : ∀ (y10 : Int32) (y11 : Int32) (σ_ : SS), k353 y10 y11 σ_ = some r → WT σ_ → RR g mL_judges (FinR g mL_judges (some (.int (b2i r.1))) NF r.2) (NF, zc_, zs_) 353 [(0, .ref (ad g 1)), (1, .int x1_), (2, .int u2_), (3, .int x3_), (4, .int u4_), (5, .int x5_), (9, .int u9_), (10, .int y10), (11, .int y11)] [] σ_)
    (n : Nat) : ∀ (v10_ : Int32) (v11_ : Int32) (v12_ : Int32) (σ_ : SS), L_judges_L285 u2_ u4_ u9_ k353 n v10_ v11_ v12_ σ_ = some r → WT σ_ → RR g mL_judges (FinR g mL_judges (some (.int (b2i r.1))) NF r.2) (NF, zc_, zs_) 285 [(0, .ref (ad g 1)), (1, .int x1_), (2, .int u2_), (3, .int x3_), (4, .int u4_), (5, .int x5_), (9, .int u9_), (10, .int v10_), (11, .int v11_), (12, .int v12_)] [] σ_ := by
  unfold L_judges_L285
  refine lp_ind (P := fun (rec : Int32 → Int32 → Int32 → SS → Option (Bool × SS)) => ∀ (v10_ : Int32) (v11_ : Int32) (v12_ : Int32) (σ_ : SS), rec v10_ v11_ v12_ σ_ = some r → WT σ_ → RR g mL_judges (FinR g mL_judges (some (.int (b2i r.1))) NF r.2) (NF, zc_, zs_) 285 [(0, .ref (ad g 1)), (1, .int x1_), (2, .int u2_), (3, .int x3_), (4, .int u4_), (5, .int x5_), (9, .int u9_), (10, .int v10_), (11, .int v11_), (12, .int v12_)] [] σ_) ?_ ?_ n
  · intro v10_ v11_ v12_ σ_ hr; cases hr
  intro rec ih v10_ v11_ v12_ σ_ hr hw_
  refine r_iload (pc := 285) (j := 9) dL_judges_285 rfl ?_
  refine r_aload_n (pc := 287) (j := 0) dL_judges_287 rfl rfl ?_
  refine r_iload_n (pc := 288) (j := 2) dL_judges_288 rfl rfl ?_
  refine r_iconst (pc := 289) (v := (1 : Int32)) dL_judges_289 rfl ?_
  obtain ⟨v85, hv85, hr⟩ := bnd1_inv hr
  refine qX7_question (pc := 290) hv85 tw_4_169 hz_ ⟨nle rfl, nle rfl⟩ (nle rfl) dL_judges_290 ?_
  refine r_icmp_ge (pc := 293) (tgt := 353) dL_judges_293 rfl (fun hc => ?_) (fun hc => ?_)
  · replace hr := ite_t hc hr
    exact r_pick (ls1 := [(0, .ref (ad g 1)), (1, .int x1_), (2, .int u2_), (3, .int x3_), (4, .int u4_), (5, .int x5_), (9, .int u9_), (10, .int v10_), (11, .int v11_)]) [0, 1, 2, 3, 4, 5, 6, 7, 8] rfl (hk353 v10_ v11_ σ_ hr hw_)
  replace hr := ite_f hc hr
  refine r_aload_n (pc := 296) (j := 0) dL_judges_296 rfl rfl ?_
  refine r_iload_n (pc := 297) (j := 2) dL_judges_297 rfl rfl ?_
  refine r_iload (pc := 298) (j := 9) dL_judges_298 rfl ?_
  obtain ⟨v88, σ91, eσ91, hr⟩ := bnd_inv hr
  refine qX7_dark (pc := 300) eσ91 tw_4_91 hz_ ⟨nle rfl, nle rfl⟩ (nle rfl) dL_judges_300 fun hσ91 => ?_
  refine r_istore (pc := 303) (ls1 := [(13, .int v88), (0, .ref (ad g 1)), (1, .int x1_), (2, .int u2_), (3, .int x3_), (4, .int u4_), (5, .int x5_), (9, .int u9_), (10, .int v10_), (11, .int v11_), (12, .int v12_)]) dL_judges_303 (nle rfl) rfl ?_
  refine r_iload (pc := 305) (j := 5) dL_judges_305 rfl ?_
  refine r_iload (pc := 307) (j := 10) dL_judges_307 rfl ?_
  refine r_ishr (pc := 309) dL_judges_309 ?_
  refine r_iconst (pc := 310) (v := (1 : Int32)) dL_judges_310 rfl ?_
  refine r_iand (pc := 311) dL_judges_311 ?_
  refine r_iconst (pc := 312) (v := (1 : Int32)) dL_judges_312 rfl ?_
  refine r_icmp_ne (pc := 313) (tgt := 328) dL_judges_313 rfl (fun hc => ?_) (fun hc => ?_)
  · replace hr := ite_f hc hr
    refine r_iload (pc := 328) (j := 7) dL_judges_328 rfl ?_
    refine r_iload (pc := 330) (j := 10) dL_judges_330 rfl ?_
    refine r_ishr (pc := 332) dL_judges_332 ?_
    refine r_iconst (pc := 333) (v := (1 : Int32)) dL_judges_333 rfl ?_
    refine r_iand (pc := 334) dL_judges_334 ?_
    refine r_if_ne (pc := 335) (tgt := 347) dL_judges_335 rfl (fun hc => ?_) (fun hc => ?_)
    · replace hr := ite_f hc hr
      refine r_iinc (pc := 347) (j := 10) (v := (v12_ + (1 : Int32))) (ls1 := [(12, .int (v12_ + (1 : Int32))), (13, .int v88), (0, .ref (ad g 1)), (1, .int x1_), (2, .int u2_), (3, .int x3_), (4, .int u4_), (5, .int x5_), (9, .int u9_), (10, .int v10_), (11, .int v11_)]) dL_judges_347 rfl rfl (nle rfl) rfl ?_
      refine r_goto (pc := 350) (tgt := 285) dL_judges_350 rfl ?_
      exact r_pick (ls1 := [(0, .ref (ad g 1)), (1, .int x1_), (2, .int u2_), (3, .int x3_), (4, .int u4_), (5, .int x5_), (9, .int u9_), (10, .int v10_), (11, .int v11_), (12, .int (v12_ + (1 : Int32)))]) [2, 3, 4, 5, 6, 7, 8, 9, 10, 0] rfl (ih v10_ v11_ (v12_ + (1 : Int32)) σ91 hr hσ91)
    replace hr := ite_t hc hr
    refine r_iload (pc := 338) (j := 9) dL_judges_338 rfl ?_
    refine r_iload (pc := 340) (j := 0) dL_judges_340 rfl ?_
    refine qJ9_max_7cf53 (pc := 342) (hf := rfl) tw_4_174 hz_ ⟨nle rfl, nle rfl⟩ (nle rfl) dL_judges_342 ?_
    refine r_topi fun v92 ev92 => ?_
    replace hr := vthen_inv hr v92 ev92
    refine r_istore (pc := 345) (ls1 := [(11, .int v92), (13, .int v88), (0, .ref (ad g 1)), (1, .int x1_), (2, .int u2_), (3, .int x3_), (4, .int u4_), (5, .int x5_), (9, .int u9_), (10, .int v10_), (12, .int v12_)]) dL_judges_345 (nle rfl) rfl ?_
    refine r_iinc (pc := 347) (j := 10) (v := (v12_ + (1 : Int32))) (ls1 := [(12, .int (v12_ + (1 : Int32))), (11, .int v92), (13, .int v88), (0, .ref (ad g 1)), (1, .int x1_), (2, .int u2_), (3, .int x3_), (4, .int u4_), (5, .int x5_), (9, .int u9_), (10, .int v10_)]) dL_judges_347 rfl rfl (nle rfl) rfl ?_
    refine r_goto (pc := 350) (tgt := 285) dL_judges_350 rfl ?_
    exact r_pick (ls1 := [(0, .ref (ad g 1)), (1, .int x1_), (2, .int u2_), (3, .int x3_), (4, .int u4_), (5, .int x5_), (9, .int u9_), (10, .int v10_), (11, .int v92), (12, .int (v12_ + (1 : Int32)))]) [3, 4, 5, 6, 7, 8, 9, 10, 1, 0] rfl (ih v10_ v92 (v12_ + (1 : Int32)) σ91 hr hσ91)
  replace hr := ite_t hc hr
  refine r_iload (pc := 316) (j := 8) dL_judges_316 rfl ?_
  refine r_iload (pc := 318) (j := 0) dL_judges_318 rfl ?_
  refine qJ9_min_7cf53 (pc := 320) (hf := rfl) tw_4_173 hz_ ⟨nle rfl, nle rfl⟩ (nle rfl) dL_judges_320 ?_
  refine r_topi fun v93 ev93 => ?_
  replace hr := vthen_inv hr v93 ev93
  refine r_istore (pc := 323) (ls1 := [(10, .int v93), (13, .int v88), (0, .ref (ad g 1)), (1, .int x1_), (2, .int u2_), (3, .int x3_), (4, .int u4_), (5, .int x5_), (9, .int u9_), (11, .int v11_), (12, .int v12_)]) dL_judges_323 (nle rfl) rfl ?_
  refine r_goto (pc := 325) (tgt := 347) dL_judges_325 rfl ?_
  refine r_iinc (pc := 347) (j := 10) (v := (v12_ + (1 : Int32))) (ls1 := [(12, .int (v12_ + (1 : Int32))), (10, .int v93), (13, .int v88), (0, .ref (ad g 1)), (1, .int x1_), (2, .int u2_), (3, .int x3_), (4, .int u4_), (5, .int x5_), (9, .int u9_), (11, .int v11_)]) dL_judges_347 rfl rfl (nle rfl) rfl ?_
  refine r_goto (pc := 350) (tgt := 285) dL_judges_350 rfl ?_
  exact r_pick (ls1 := [(0, .ref (ad g 1)), (1, .int x1_), (2, .int u2_), (3, .int x3_), (4, .int u4_), (5, .int x5_), (9, .int u9_), (10, .int v93), (11, .int v11_), (12, .int (v12_ + (1 : Int32)))]) [3, 4, 5, 6, 7, 8, 9, 1, 10, 0] rfl (ih v93 v11_ (v12_ + (1 : Int32)) σ91 hr hσ91)

set_option maxRecDepth 20000 in
theorem sL_judges_L4 {g : GG} {r : Bool × SS}   
    (n : Nat) : ∀ (v1_ : Int32) (v2_ : Int32) (σ_ : SS), L_judges_L4 n v1_ v2_ σ_ = some r → WT σ_ → RR g mL_judges (FinR g mL_judges (some (.int (b2i r.1))) NF r.2) (NF, (0 + 1 * Int32.toNatClampNeg v2_ + 0), (0 + 5 * Int32.toNatClampNeg v2_ + 0)) 4 [(0, .ref (ad g 1)), (1, .int v1_), (2, .int v2_)] [] σ_ := by
  unfold L_judges_L4
  refine lp_ind (P := fun (rec : Int32 → Int32 → SS → Option (Bool × SS)) => ∀ (v1_ : Int32) (v2_ : Int32) (σ_ : SS), rec v1_ v2_ σ_ = some r → WT σ_ → RR g mL_judges (FinR g mL_judges (some (.int (b2i r.1))) NF r.2) (NF, (0 + 1 * Int32.toNatClampNeg v2_ + 0), (0 + 5 * Int32.toNatClampNeg v2_ + 0)) 4 [(0, .ref (ad g 1)), (1, .int v1_), (2, .int v2_)] [] σ_) ?_ ?_ n
  · intro v1_ v2_ σ_ hr; cases hr
  intro rec ih v1_ v2_ σ_ hr hw_
  obtain ⟨hh_, hr⟩ := grd_inv hr
  refine r_iload_n (pc := 4) (j := 2) dL_judges_4 rfl rfl ?_
  refine r_aload_n (pc := 5) (j := 0) dL_judges_5 rfl rfl ?_
  refine r_iconst (pc := 6) (v := (2 : Int32)) dL_judges_6 rfl ?_
  obtain ⟨v1, hv1, hr⟩ := bnd1_inv hr
  refine qX7_count (pc := 7) hv1 tw_2_146 (by have := z_lt hh_; exact ⟨by show (0 + 1 * Int32.toNatClampNeg v2_ + 0) ≤ 12; omega, by show (0 + 5 * Int32.toNatClampNeg v2_ + 0) ≤ 60; omega⟩) ⟨nle rfl, nle rfl⟩ (nle rfl) dL_judges_7 ?_
  refine r_icmp_ge (pc := 10) (tgt := 436) dL_judges_10 rfl (fun hc => ?_) (fun hc => ?_)
  · replace hr := ite_t hc hr
    refine r_iload_n (pc := 436) (j := 1) dL_judges_436 rfl rfl ?_
    obtain ⟨h4, hr⟩ := grd_inv hr
    refine r_toz h4 ?_
    exact l_osz hr (r_zret (pc := 437) (v := b2i (i2b v1_)) (ty := .boolean) rfl (b2i_nar _) rfl (by have := z_lt hh_; exact ⟨by show (0 + 1 * Int32.toNatClampNeg v2_ + 0) ≤ 12; omega, by show (0 + 5 * Int32.toNatClampNeg v2_ + 0) ≤ 60; omega⟩) dL_judges_437)
  replace hr := ite_f hc hr
  refine r_aload_n (pc := 13) (j := 0) dL_judges_13 rfl rfl ?_
  obtain ⟨v5, σ8, eσ8, hr⟩ := bnd_inv hr
  refine qX7_marked (pc := 14) eσ8 tw_2_200 (by have := z_lt hh_; exact ⟨by show (0 + 1 * Int32.toNatClampNeg v2_ + 0) ≤ 12; omega, by show (0 + 5 * Int32.toNatClampNeg v2_ + 0) ≤ 60; omega⟩) ⟨nle rfl, nle rfl⟩ (nle rfl) dL_judges_14 fun hσ8 => ?_
  refine r_iconst (pc := 17) (v := (1 : Int32)) dL_judges_17 rfl ?_
  refine r_icmp_ne (pc := 18) (tgt := 436) dL_judges_18 rfl (fun hc => ?_) (fun hc => ?_)
  · replace hr := ite_f hc hr
    refine r_iload_n (pc := 436) (j := 1) dL_judges_436 rfl rfl ?_
    obtain ⟨h9, hr⟩ := grd_inv hr
    refine r_toz h9 ?_
    exact l_osz hr (r_zret (pc := 437) (v := b2i (i2b v1_)) (ty := .boolean) rfl (b2i_nar _) rfl (by have := z_lt hh_; exact ⟨by show (0 + 1 * Int32.toNatClampNeg v2_ + 0) ≤ 12; omega, by show (0 + 5 * Int32.toNatClampNeg v2_ + 0) ≤ 60; omega⟩) dL_judges_437)
  replace hr := ite_t hc hr
  refine r_aload_n (pc := 21) (j := 0) dL_judges_21 rfl rfl ?_
  refine r_iconst (pc := 22) (v := (3 : Int32)) dL_judges_22 rfl ?_
  refine r_iconst (pc := 23) (v := (1 : Int32)) dL_judges_23 rfl ?_
  obtain ⟨v10, σ13, eσ13, hr⟩ := bnd_inv hr
  refine qX7_set (pc := 24) eσ13 tw_4_66 (by have := z_lt hh_; exact ⟨by show (0 + 1 * Int32.toNatClampNeg v2_ + 0) ≤ 12; omega, by show (0 + 5 * Int32.toNatClampNeg v2_ + 0) ≤ 60; omega⟩) ⟨nle rfl, nle rfl⟩ (nle rfl) dL_judges_24 fun hσ13 => ?_
  refine r_istore_n (pc := 27) (ls1 := [(3, .int v10), (0, .ref (ad g 1)), (1, .int v1_), (2, .int v2_)]) dL_judges_27 rfl (nle rfl) rfl ?_
  refine r_aload_n (pc := 28) (j := 1) dL_judges_28 rfl rfl ?_
  refine r_iconst (pc := 29) (v := (3 : Int32)) dL_judges_29 rfl ?_
  refine r_iload_n (pc := 30) (j := 0) dL_judges_30 rfl rfl ?_
  obtain ⟨v14, σ17, eσ17, hr⟩ := bnd_inv hr
  refine qX7_set (pc := 31) eσ17 tw_4_66 (by have := z_lt hh_; exact ⟨by show (0 + 1 * Int32.toNatClampNeg v2_ + 0) ≤ 12; omega, by show (0 + 5 * Int32.toNatClampNeg v2_ + 0) ≤ 60; omega⟩) ⟨nle rfl, nle rfl⟩ (nle rfl) dL_judges_31 fun hσ17 => ?_
  refine r_pop (pc := 34) dL_judges_34 rfl ?_
  refine r_aload_n (pc := 35) (j := 1) dL_judges_35 rfl rfl ?_
  refine r_iload_n (pc := 36) (j := 3) dL_judges_36 rfl rfl ?_
  refine r_iconst (pc := 37) (v := (0 : Int32)) dL_judges_37 rfl ?_
  obtain ⟨v18, σ21, eσ21, hr⟩ := bnd_inv hr
  refine qX7_judged (pc := 38) eσ21 tw_4_87 (by have := z_lt hh_; exact ⟨by show (0 + 1 * Int32.toNatClampNeg v2_ + 0) ≤ 12; omega, by show (0 + 5 * Int32.toNatClampNeg v2_ + 0) ≤ 60; omega⟩) ⟨nle rfl, nle rfl⟩ (nle rfl) dL_judges_38 fun hσ21 => ?_
  refine r_istore (pc := 41) (ls1 := [(4, .int v18), (3, .int v10), (0, .ref (ad g 1)), (1, .int v1_), (2, .int v2_)]) dL_judges_41 (nle rfl) rfl ?_
  refine r_aload_n (pc := 43) (j := 2) dL_judges_43 rfl rfl ?_
  refine r_iload_n (pc := 44) (j := 4) dL_judges_44 rfl rfl ?_
  refine r_iconst (pc := 45) (v := (1 : Int32)) dL_judges_45 rfl ?_
  obtain ⟨v22, σ25, eσ25, hr⟩ := bnd_inv hr
  refine qX7_judged (pc := 46) eσ25 tw_4_87 (by have := z_lt hh_; exact ⟨by show (0 + 1 * Int32.toNatClampNeg v2_ + 0) ≤ 12; omega, by show (0 + 5 * Int32.toNatClampNeg v2_ + 0) ≤ 60; omega⟩) ⟨nle rfl, nle rfl⟩ (nle rfl) dL_judges_46 fun hσ25 => ?_
  refine r_istore (pc := 49) (ls1 := [(5, .int v22), (4, .int v18), (3, .int v10), (0, .ref (ad g 1)), (1, .int v1_), (2, .int v2_)]) dL_judges_49 (nle rfl) rfl ?_
  refine r_aload_n (pc := 51) (j := 3) dL_judges_51 rfl rfl ?_
  refine r_iload_n (pc := 52) (j := 5) dL_judges_52 rfl rfl ?_
  refine r_iconst (pc := 53) (v := (0 : Int32)) dL_judges_53 rfl ?_
  obtain ⟨v26, σ29, eσ29, hr⟩ := bnd_inv hr
  refine qX7_steady (pc := 54) eσ29 tw_4_157 (by have := z_lt hh_; exact ⟨by show (0 + 1 * Int32.toNatClampNeg v2_ + 0) ≤ 12; omega, by show (0 + 5 * Int32.toNatClampNeg v2_ + 0) ≤ 60; omega⟩) ⟨nle rfl, nle rfl⟩ (nle rfl) dL_judges_54 fun hσ29 => ?_
  refine r_istore (pc := 57) (ls1 := [(6, .int v26), (5, .int v22), (4, .int v18), (3, .int v10), (0, .ref (ad g 1)), (1, .int v1_), (2, .int v2_)]) dL_judges_57 (nle rfl) rfl ?_
  refine r_aload_n (pc := 59) (j := 4) dL_judges_59 rfl rfl ?_
  refine r_iload_n (pc := 60) (j := 6) dL_judges_60 rfl rfl ?_
  refine r_iconst (pc := 61) (v := (1 : Int32)) dL_judges_61 rfl ?_
  obtain ⟨v30, σ33, eσ33, hr⟩ := bnd_inv hr
  refine qX7_steady (pc := 62) eσ33 tw_4_157 (by have := z_lt hh_; exact ⟨by show (0 + 1 * Int32.toNatClampNeg v2_ + 0) ≤ 12; omega, by show (0 + 5 * Int32.toNatClampNeg v2_ + 0) ≤ 60; omega⟩) ⟨nle rfl, nle rfl⟩ (nle rfl) dL_judges_62 fun hσ33 => ?_
  refine r_istore (pc := 65) (ls1 := [(7, .int v30), (6, .int v26), (5, .int v22), (4, .int v18), (3, .int v10), (0, .ref (ad g 1)), (1, .int v1_), (2, .int v2_)]) dL_judges_65 (nle rfl) rfl ?_
  refine r_iload_n (pc := 67) (j := 6) dL_judges_67 rfl rfl ?_
  obtain ⟨j102, ej102, hr⟩ := vth_ex hr
  have hj102 : ∀ (s34 : Int32), j102 s34 = some r → RR g mL_judges (FinR g mL_judges (some (.int (b2i r.1))) NF r.2) (NF, (0 + 1 * Int32.toNatClampNeg v2_ + 0), (0 + 5 * Int32.toNatClampNeg v2_ + 0)) 102 [(0, .ref (ad g 1)), (2, .int v2_), (3, .int v10), (4, .int v18), (5, .int v22), (6, .int v26), (7, .int v30)] [.int s34] σ33 := by
    intro s34 hr
    replace hr := (congrFun ej102 s34).symm.trans hr
    refine r_istore_n (pc := 102) (ls1 := [(1, .int s34), (0, .ref (ad g 1)), (2, .int v2_), (3, .int v10), (4, .int v18), (5, .int v22), (6, .int v26), (7, .int v30)]) dL_judges_102 rfl (nle rfl) rfl ?_
    refine r_iconst (pc := 103) (v := (5 : Int32)) dL_judges_103 rfl ?_
    obtain ⟨h35, hr⟩ := grd_inv hr
    refine y_new (pc := 104) (N := 5) tw_1_50 (by decide) rfl (nle rfl) (by have := z_lt h35; exact ⟨by show (0 + 1 * Int32.toNatClampNeg v2_ + 0) + 1 ≤ 12; omega, by show (0 + 5 * Int32.toNatClampNeg v2_ + 0) + 5 ≤ 60; omega⟩) dL_judges_104 fun c37 ec37 σ36 eσ36 => ?_
    replace hr := vthen_inv hr c37 ec37
    replace hr := vthen_inv hr σ36 eσ36
    have hσ36 := wtM eσ36 hσ33
    change RR _ _ _ (NF, (0 + 1 * Int32.toNatClampNeg v2_ + 1), (0 + 5 * Int32.toNatClampNeg v2_ + 5)) _ _ _ _
    refine r_dup (pc := 106) dL_judges_106 rfl ?_
    refine r_iconst (pc := 107) (v := (0 : Int32)) dL_judges_107 rfl ?_
    refine r_iload (pc := 108) (j := 6) dL_judges_108 rfl ?_
    refine r_iconst (pc := 110) (v := (1 : Int32)) dL_judges_110 rfl ?_
    refine r_isub (pc := 111) dL_judges_111 ?_
    obtain ⟨h38, hr⟩ := grd_inv hr
    refine y_iast (pc := 112) (j := 0) h38 rfl dL_judges_112 fun σ39 eσ39 => ?_
    replace hr := vthen_inv hr σ39 eσ39
    have hσ39 := wtI eσ39 hσ36
    refine r_dup (pc := 113) dL_judges_113 rfl ?_
    refine r_iconst (pc := 114) (v := (1 : Int32)) dL_judges_114 rfl ?_
    refine r_iload (pc := 115) (j := 6) dL_judges_115 rfl ?_
    obtain ⟨h40, hr⟩ := grd_inv hr
    refine y_iast (pc := 117) (j := 1) h40 rfl dL_judges_117 fun σ41 eσ41 => ?_
    replace hr := vthen_inv hr σ41 eσ41
    have hσ41 := wtI eσ41 hσ39
    refine r_dup (pc := 118) dL_judges_118 rfl ?_
    refine r_iconst (pc := 119) (v := (2 : Int32)) dL_judges_119 rfl ?_
    refine r_iload (pc := 120) (j := 6) dL_judges_120 rfl ?_
    refine r_iload (pc := 122) (j := 7) dL_judges_122 rfl ?_
    refine r_iadd (pc := 124) dL_judges_124 ?_
    refine r_iconst (pc := 125) (v := (2 : Int32)) dL_judges_125 rfl ?_
    refine r_idiv (pc := 126) dL_judges_126 (by decide) ?_
    obtain ⟨h42, hr⟩ := grd_inv hr
    refine y_iast (pc := 127) (j := 2) h42 rfl dL_judges_127 fun σ43 eσ43 => ?_
    replace hr := vthen_inv hr σ43 eσ43
    have hσ43 := wtI eσ43 hσ41
    refine r_dup (pc := 128) dL_judges_128 rfl ?_
    refine r_iconst (pc := 129) (v := (3 : Int32)) dL_judges_129 rfl ?_
    refine r_iload (pc := 130) (j := 7) dL_judges_130 rfl ?_
    obtain ⟨h44, hr⟩ := grd_inv hr
    refine y_iast (pc := 132) (j := 3) h44 rfl dL_judges_132 fun σ45 eσ45 => ?_
    replace hr := vthen_inv hr σ45 eσ45
    have hσ45 := wtI eσ45 hσ43
    refine r_dup (pc := 133) dL_judges_133 rfl ?_
    refine r_iconst (pc := 134) (v := (4 : Int32)) dL_judges_134 rfl ?_
    refine r_iload (pc := 135) (j := 7) dL_judges_135 rfl ?_
    refine r_iconst (pc := 137) (v := (1 : Int32)) dL_judges_137 rfl ?_
    refine r_iadd (pc := 138) dL_judges_138 ?_
    obtain ⟨h46, hr⟩ := grd_inv hr
    refine y_iast (pc := 139) (j := 4) h46 rfl dL_judges_139 fun σ47 eσ47 => ?_
    replace hr := vthen_inv hr σ47 eσ47
    have hσ47 := wtI eσ47 hσ45
    refine r_astore (pc := 140) (ls1 := [(8, .ref (ad g c37)), (1, .int s34), (0, .ref (ad g 1)), (2, .int v2_), (3, .int v10), (4, .int v18), (5, .int v22), (6, .int v26), (7, .int v30)]) dL_judges_140 (nle rfl) rfl ?_
    refine r_aload (pc := 142) (j := 0) dL_judges_142 rfl ?_
    refine r_astore (pc := 144) (ls1 := [(9, .ref (ad g c37)), (8, .ref (ad g c37)), (1, .int s34), (0, .ref (ad g 1)), (2, .int v2_), (3, .int v10), (4, .int v18), (5, .int v22), (6, .int v26), (7, .int v30)]) dL_judges_144 (nle rfl) rfl ?_
    refine r_aload (pc := 146) (j := 0) dL_judges_146 rfl ?_
    obtain ⟨h48, hr⟩ := grd_inv hr
    refine y_alen (pc := 148) h48 dL_judges_148 ?_
    refine r_topi fun v49 ev49 => ?_
    replace hr := vthen_inv hr v49 ev49
    refine r_istore (pc := 149) (ls1 := [(10, .int v49), (9, .ref (ad g c37)), (8, .ref (ad g c37)), (1, .int s34), (0, .ref (ad g 1)), (2, .int v2_), (3, .int v10), (4, .int v18), (5, .int v22), (6, .int v26), (7, .int v30)]) dL_judges_149 (nle rfl) rfl ?_
    refine r_iconst (pc := 151) (v := (0 : Int32)) dL_judges_151 rfl ?_
    refine r_istore (pc := 152) (ls1 := [(11, .int (0 : Int32)), (10, .int v49), (9, .ref (ad g c37)), (8, .ref (ad g c37)), (1, .int s34), (0, .ref (ad g 1)), (2, .int v2_), (3, .int v10), (4, .int v18), (5, .int v22), (6, .int v26), (7, .int v30)]) dL_judges_152 (nle rfl) rfl ?_
    refine r_pick (ls1 := [(0, .ref (ad g 1)), (1, .int s34), (2, .int v2_), (3, .int v10), (4, .int v18), (5, .int v22), (6, .int v26), (7, .int v30), (9, .ref (ad g c37)), (10, .int v49), (11, .int (0 : Int32))]) [5, 4, 6, 7, 8, 9, 10, 11, 2, 1, 0] rfl ?_
    refine sL_judges_L154 (by have := z_lt h35; exact ⟨by show (0 + 1 * Int32.toNatClampNeg v2_ + 1) ≤ 12; omega, by show (0 + 5 * Int32.toNatClampNeg v2_ + 5) ≤ 60; omega⟩)   (fun v71 σ72 hr hσ72 => ?_) fuel s34 (0 : Int32) σ47 hr hσ47
    refine r_aload_n (pc := 254) (j := 0) dL_judges_254 rfl rfl ?_
    refine r_iconst (pc := 255) (v := (3 : Int32)) dL_judges_255 rfl ?_
    refine r_iload_n (pc := 256) (j := 3) dL_judges_256 rfl rfl ?_
    obtain ⟨v73, σ76, eσ76, hr⟩ := bnd_inv hr
    refine qX7_set (pc := 257) eσ76 tw_4_66 (by have := z_lt h35; exact ⟨by show (0 + 1 * Int32.toNatClampNeg v2_ + 1) ≤ 12; omega, by show (0 + 5 * Int32.toNatClampNeg v2_ + 5) ≤ 60; omega⟩) ⟨nle rfl, nle rfl⟩ (nle rfl) dL_judges_257 fun hσ76 => ?_
    refine r_pop (pc := 260) dL_judges_260 rfl ?_
    refine r_aload_n (pc := 261) (j := 0) dL_judges_261 rfl rfl ?_
    refine r_iload_n (pc := 262) (j := 2) dL_judges_262 rfl rfl ?_
    refine r_iconst (pc := 263) (v := (2 : Int32)) dL_judges_263 rfl ?_
    obtain ⟨v77, σ80, eσ80, hr⟩ := bnd_inv hr
    refine qX7_judged (pc := 264) eσ80 tw_4_87 (by have := z_lt h35; exact ⟨by show (0 + 1 * Int32.toNatClampNeg v2_ + 1) ≤ 12; omega, by show (0 + 5 * Int32.toNatClampNeg v2_ + 5) ≤ 60; omega⟩) ⟨nle rfl, nle rfl⟩ (nle rfl) dL_judges_264 fun hσ80 => ?_
    refine r_istore (pc := 267) (ls1 := [(9, .int v77), (0, .ref (ad g 1)), (1, .int v71), (2, .int v2_), (3, .int v10), (4, .int v18), (5, .int v22)]) dL_judges_267 (nle rfl) rfl ?_
    refine r_sipush (pc := 269) (v := (1000 : Int32)) dL_judges_269 rfl ?_
    refine r_istore (pc := 272) (ls1 := [(10, .int (1000 : Int32)), (9, .int v77), (0, .ref (ad g 1)), (1, .int v71), (2, .int v2_), (3, .int v10), (4, .int v18), (5, .int v22)]) dL_judges_272 (nle rfl) rfl ?_
    refine r_aload_n (pc := 274) (j := 2) dL_judges_274 rfl rfl ?_
    refine r_iload_n (pc := 275) (j := 4) dL_judges_275 rfl rfl ?_
    refine r_iconst (pc := 276) (v := (-1 : Int32)) dL_judges_276 rfl ?_
    obtain ⟨v81, σ84, eσ84, hr⟩ := bnd_inv hr
    refine qX7_dark (pc := 277) eσ84 tw_4_91 (by have := z_lt h35; exact ⟨by show (0 + 1 * Int32.toNatClampNeg v2_ + 1) ≤ 12; omega, by show (0 + 5 * Int32.toNatClampNeg v2_ + 5) ≤ 60; omega⟩) ⟨nle rfl, nle rfl⟩ (nle rfl) dL_judges_277 fun hσ84 => ?_
    refine r_istore (pc := 280) (ls1 := [(11, .int v81), (10, .int (1000 : Int32)), (9, .int v77), (0, .ref (ad g 1)), (1, .int v71), (2, .int v2_), (3, .int v10), (4, .int v18), (5, .int v22)]) dL_judges_280 (nle rfl) rfl ?_
    refine r_iconst (pc := 282) (v := (0 : Int32)) dL_judges_282 rfl ?_
    refine r_istore (pc := 283) (ls1 := [(12, .int (0 : Int32)), (11, .int v81), (10, .int (1000 : Int32)), (9, .int v77), (0, .ref (ad g 1)), (1, .int v71), (2, .int v2_), (3, .int v10), (4, .int v18), (5, .int v22)]) dL_judges_283 (nle rfl) rfl ?_
    refine r_pick (ls1 := [(0, .ref (ad g 1)), (1, .int v71), (2, .int v2_), (3, .int v10), (4, .int v18), (5, .int v22), (9, .int v77), (10, .int (1000 : Int32)), (11, .int v81), (12, .int (0 : Int32))]) [4, 5, 6, 7, 8, 9, 3, 2, 1, 0] rfl ?_
    refine sL_judges_L285 (by have := z_lt h35; exact ⟨by show (0 + 1 * Int32.toNatClampNeg v2_ + 1) ≤ 12; omega, by show (0 + 5 * Int32.toNatClampNeg v2_ + 5) ≤ 60; omega⟩)   (fun v94 v95 σ96 hr hσ96 => ?_) fuel (1000 : Int32) v81 (0 : Int32) σ84 hr hσ84
    refine r_iload_n (pc := 353) (j := 1) dL_judges_353 rfl rfl ?_
    obtain ⟨j428, ej428, hr⟩ := vth_ex hr
    have hj428 : j428 () = some r → RR g mL_judges (FinR g mL_judges (some (.int (b2i r.1))) NF r.2) (NF, (0 + 1 * Int32.toNatClampNeg v2_ + 1), (0 + 5 * Int32.toNatClampNeg v2_ + 5)) 428 [(0, .ref (ad g 1)), (2, .int v2_)] [] σ96 := by
      intro  hr
      replace hr := (congrFun ej428 ()).symm.trans hr
      refine r_iconst (pc := 428) (v := (0 : Int32)) dL_judges_428 rfl ?_
      refine r_istore_n (pc := 429) (ls1 := [(1, .int (0 : Int32)), (0, .ref (ad g 1)), (2, .int v2_)]) dL_judges_429 rfl (nle rfl) rfl ?_
      refine r_iinc (pc := 430) (j := 2) (v := (v2_ + (1 : Int32))) (ls1 := [(2, .int (v2_ + (1 : Int32))), (1, .int (0 : Int32)), (0, .ref (ad g 1))]) dL_judges_430 rfl rfl (nle rfl) rfl ?_
      refine r_goto (pc := 433) (tgt := 4) dL_judges_433 rfl ?_
      refine r_wid (c2 := (0 + 1 * Int32.toNatClampNeg (v2_ + (1 : Int32)) + 0)) (s2 := (0 + 5 * Int32.toNatClampNeg (v2_ + (1 : Int32)) + 0)) (by have e := z_add (w := (1 : Int32)) (k := 1) h35 rfl (by decide); rw [e]; exact ⟨by omega, by omega⟩) ?_
      exact r_pick (ls1 := [(0, .ref (ad g 1)), (1, .int (0 : Int32)), (2, .int (v2_ + (1 : Int32)))]) [2, 1, 0] rfl (ih (0 : Int32) (v2_ + (1 : Int32)) σ96 hr hσ96)
    refine r_if_eq (pc := 354) (tgt := 428) dL_judges_354 rfl (fun hc => ?_) (fun hc => ?_)
    · replace hr := ite_t hc hr
      exact r_pick (ls1 := [(0, .ref (ad g 1)), (2, .int v2_)]) [0, 2] rfl (hj428  hr)
    replace hr := ite_f hc hr
    refine r_iload (pc := 357) (j := 4) dL_judges_357 rfl ?_
    refine r_iload (pc := 359) (j := 6) dL_judges_359 rfl ?_
    refine r_iand (pc := 361) dL_judges_361 ?_
    refine r_if_ne (pc := 362) (tgt := 428) dL_judges_362 rfl (fun hc => ?_) (fun hc => ?_)
    · replace hr := ite_f hc hr
      exact r_pick (ls1 := [(0, .ref (ad g 1)), (2, .int v2_)]) [0, 2] rfl (hj428  hr)
    replace hr := ite_t hc hr
    refine r_iload (pc := 365) (j := 4) dL_judges_365 rfl ?_
    obtain ⟨j379, ej379, hr⟩ := vth_ex hr
    have hj379 : j379 () = some r → RR g mL_judges (FinR g mL_judges (some (.int (b2i r.1))) NF r.2) (NF, (0 + 1 * Int32.toNatClampNeg v2_ + 1), (0 + 5 * Int32.toNatClampNeg v2_ + 5)) 379 [(0, .ref (ad g 1)), (2, .int v2_), (4, .int v18), (5, .int v22)] [] σ96 := by
      intro  hr
      replace hr := (congrFun ej379 ()).symm.trans hr
      refine r_iload (pc := 379) (j := 3) dL_judges_379 rfl ?_
      refine r_iconst (pc := 381) (v := (1 : Int32)) dL_judges_381 rfl ?_
      obtain ⟨j390, ej390, hr⟩ := vth_ex hr
      have hj390 : j390 () = some r → RR g mL_judges (FinR g mL_judges (some (.int (b2i r.1))) NF r.2) (NF, (0 + 1 * Int32.toNatClampNeg v2_ + 1), (0 + 5 * Int32.toNatClampNeg v2_ + 5)) 390 [(0, .ref (ad g 1)), (2, .int v2_), (4, .int v18), (5, .int v22)] [] σ96 := by
        intro  hr
        replace hr := (congrFun ej390 ()).symm.trans hr
        refine r_iload (pc := 390) (j := 3) dL_judges_390 rfl ?_
        refine r_iconst (pc := 392) (v := (2 : Int32)) dL_judges_392 rfl ?_
        obtain ⟨j415, ej415, hr⟩ := vth_ex hr
        have hj415 : j415 () = some r → RR g mL_judges (FinR g mL_judges (some (.int (b2i r.1))) NF r.2) (NF, (0 + 1 * Int32.toNatClampNeg v2_ + 1), (0 + 5 * Int32.toNatClampNeg v2_ + 5)) 415 [(0, .ref (ad g 1)), (2, .int v2_)] [] σ96 := by
          intro  hr
          replace hr := (congrFun ej415 ()).symm.trans hr
          refine r_aload_n (pc := 415) (j := 0) dL_judges_415 rfl rfl ?_
          refine r_iload_n (pc := 416) (j := 1) dL_judges_416 rfl rfl ?_
          refine r_iconst (pc := 417) (v := (1 : Int32)) dL_judges_417 rfl ?_
          obtain ⟨v97, hv97, hr⟩ := bnd1_inv hr
          refine qX7_question (pc := 418) hv97 tw_4_169 (by have := z_lt h35; exact ⟨by show (0 + 1 * Int32.toNatClampNeg v2_ + 1) ≤ 12; omega, by show (0 + 5 * Int32.toNatClampNeg v2_ + 5) ≤ 60; omega⟩) ⟨nle rfl, nle rfl⟩ (nle rfl) dL_judges_418 ?_
          refine r_if_le (pc := 421) (tgt := 428) dL_judges_421 rfl (fun hc => ?_) (fun hc => ?_)
          · replace hr := ite_t hc hr
            exact r_pick (ls1 := [(0, .ref (ad g 1)), (2, .int v2_)]) [0, 1] rfl (hj428  hr)
          replace hr := ite_f hc hr
          refine r_iconst (pc := 424) (v := (1 : Int32)) dL_judges_424 rfl ?_
          refine r_goto (pc := 425) (tgt := 429) dL_judges_425 rfl ?_
          refine r_istore_n (pc := 429) (ls1 := [(1, .int (1 : Int32)), (0, .ref (ad g 1)), (2, .int v2_)]) dL_judges_429 rfl (nle rfl) rfl ?_
          refine r_iinc (pc := 430) (j := 2) (v := (v2_ + (1 : Int32))) (ls1 := [(2, .int (v2_ + (1 : Int32))), (1, .int (1 : Int32)), (0, .ref (ad g 1))]) dL_judges_430 rfl rfl (nle rfl) rfl ?_
          refine r_goto (pc := 433) (tgt := 4) dL_judges_433 rfl ?_
          refine r_wid (c2 := (0 + 1 * Int32.toNatClampNeg (v2_ + (1 : Int32)) + 0)) (s2 := (0 + 5 * Int32.toNatClampNeg (v2_ + (1 : Int32)) + 0)) (by have e := z_add (w := (1 : Int32)) (k := 1) h35 rfl (by decide); rw [e]; exact ⟨by omega, by omega⟩) ?_
          exact r_pick (ls1 := [(0, .ref (ad g 1)), (1, .int (1 : Int32)), (2, .int (v2_ + (1 : Int32)))]) [2, 1, 0] rfl (ih (1 : Int32) (v2_ + (1 : Int32)) σ96 hr hσ96)
        refine r_icmp_ne (pc := 393) (tgt := 415) dL_judges_393 rfl (fun hc => ?_) (fun hc => ?_)
        · replace hr := ite_f hc hr
          exact r_pick (ls1 := [(0, .ref (ad g 1)), (2, .int v2_)]) [0, 1] rfl (hj415  hr)
        replace hr := ite_t hc hr
        refine r_iload (pc := 396) (j := 2) dL_judges_396 rfl ?_
        refine qJ6_bitCount_0f7a4 (pc := 398) (hf := rfl) tw_4_86 (by have := z_lt h35; exact ⟨by show (0 + 1 * Int32.toNatClampNeg v2_ + 1) ≤ 12; omega, by show (0 + 5 * Int32.toNatClampNeg v2_ + 5) ≤ 60; omega⟩) ⟨nle rfl, nle rfl⟩ (nle rfl) dL_judges_398 ?_
        refine r_iconst (pc := 401) (v := (1 : Int32)) dL_judges_401 rfl ?_
        refine r_icmp_le (pc := 402) (tgt := 428) dL_judges_402 rfl (fun hc => ?_) (fun hc => ?_)
        · replace hr := ite_t hc hr
          exact r_pick (ls1 := [(0, .ref (ad g 1)), (2, .int v2_)]) [0, 1] rfl (hj428  hr)
        replace hr := ite_f hc hr
        refine r_aload_n (pc := 405) (j := 0) dL_judges_405 rfl rfl ?_
        refine r_iload_n (pc := 406) (j := 1) dL_judges_406 rfl rfl ?_
        refine r_iconst (pc := 407) (v := (0 : Int32)) dL_judges_407 rfl ?_
        obtain ⟨v100, hv100, hr⟩ := bnd1_inv hr
        refine qX7_question (pc := 408) hv100 tw_4_169 (by have := z_lt h35; exact ⟨by show (0 + 1 * Int32.toNatClampNeg v2_ + 1) ≤ 12; omega, by show (0 + 5 * Int32.toNatClampNeg v2_ + 5) ≤ 60; omega⟩) ⟨nle rfl, nle rfl⟩ (nle rfl) dL_judges_408 ?_
        refine r_iconst (pc := 411) (v := (1 : Int32)) dL_judges_411 rfl ?_
        refine r_icmp_ne (pc := 412) (tgt := 428) dL_judges_412 rfl (fun hc => ?_) (fun hc => ?_)
        · replace hr := ite_f hc hr
          exact r_pick (ls1 := [(0, .ref (ad g 1)), (2, .int v2_)]) [0, 1] rfl (hj428  hr)
        replace hr := ite_t hc hr
        exact r_pick (ls1 := [(0, .ref (ad g 1)), (2, .int v2_)]) [0, 1] rfl (hj415  hr)
      refine r_icmp_ne (pc := 382) (tgt := 390) dL_judges_382 rfl (fun hc => ?_) (fun hc => ?_)
      · replace hr := ite_f hc hr
        exact r_pick (ls1 := [(0, .ref (ad g 1)), (2, .int v2_), (4, .int v18), (5, .int v22)]) [0, 1, 2, 3] rfl (hj390  hr)
      replace hr := ite_t hc hr
      refine r_iload (pc := 385) (j := 2) dL_judges_385 rfl ?_
      refine r_if_ne (pc := 387) (tgt := 428) dL_judges_387 rfl (fun hc => ?_) (fun hc => ?_)
      · replace hr := ite_f hc hr
        exact r_pick (ls1 := [(0, .ref (ad g 1)), (2, .int v2_)]) [0, 1] rfl (hj428  hr)
      replace hr := ite_t hc hr
      exact r_pick (ls1 := [(0, .ref (ad g 1)), (2, .int v2_), (4, .int v18), (5, .int v22)]) [0, 1, 2, 3] rfl (hj390  hr)
    refine r_if_eq (pc := 367) (tgt := 379) dL_judges_367 rfl (fun hc => ?_) (fun hc => ?_)
    · replace hr := ite_t hc hr
      exact r_pick (ls1 := [(0, .ref (ad g 1)), (2, .int v2_), (4, .int v18), (5, .int v22)]) [0, 2, 4, 5] rfl (hj379  hr)
    replace hr := ite_f hc hr
    refine r_iload (pc := 370) (j := 7) dL_judges_370 rfl ?_
    refine r_iload (pc := 372) (j := 8) dL_judges_372 rfl ?_
    refine r_isub (pc := 374) dL_judges_374 ?_
    refine r_iload_n (pc := 375) (j := 3) dL_judges_375 rfl rfl ?_
    refine r_icmp_lt (pc := 376) (tgt := 428) dL_judges_376 rfl (fun hc => ?_) (fun hc => ?_)
    · replace hr := ite_t hc hr
      exact r_pick (ls1 := [(0, .ref (ad g 1)), (2, .int v2_)]) [0, 2] rfl (hj428  hr)
    replace hr := ite_f hc hr
    exact r_pick (ls1 := [(0, .ref (ad g 1)), (2, .int v2_), (4, .int v18), (5, .int v22)]) [0, 2, 4, 5] rfl (hj379  hr)
  obtain ⟨j101, ej101, hr⟩ := vth_ex hr
  have hj101 : j101 () = some r → RR g mL_judges (FinR g mL_judges (some (.int (b2i r.1))) NF r.2) (NF, (0 + 1 * Int32.toNatClampNeg v2_ + 0), (0 + 5 * Int32.toNatClampNeg v2_ + 0)) 101 [(0, .ref (ad g 1)), (2, .int v2_), (3, .int v10), (4, .int v18), (5, .int v22), (6, .int v26), (7, .int v30)] [] σ33 := by
    intro  hr
    replace hr := (congrFun ej101 ()).symm.trans hr
    refine r_iconst (pc := 101) (v := (0 : Int32)) dL_judges_101 rfl ?_
    exact r_pick (ls1 := [(0, .ref (ad g 1)), (2, .int v2_), (3, .int v10), (4, .int v18), (5, .int v22), (6, .int v26), (7, .int v30)]) [0, 1, 2, 3, 4, 5, 6] rfl (hj102 (0 : Int32) hr)
  refine r_if_eq (pc := 68) (tgt := 101) dL_judges_68 rfl (fun hc => ?_) (fun hc => ?_)
  · replace hr := ite_t hc hr
    exact r_pick (ls1 := [(0, .ref (ad g 1)), (2, .int v2_), (3, .int v10), (4, .int v18), (5, .int v22), (6, .int v26), (7, .int v30)]) [5, 7, 4, 3, 2, 1, 0] rfl (hj101  hr)
  replace hr := ite_f hc hr
  refine r_iload (pc := 71) (j := 1) dL_judges_71 rfl ?_
  refine r_iconst (pc := 73) (v := (1 : Int32)) dL_judges_73 rfl ?_
  refine r_icmp_lt (pc := 74) (tgt := 101) dL_judges_74 rfl (fun hc => ?_) (fun hc => ?_)
  · replace hr := ite_t hc hr
    exact r_pick (ls1 := [(0, .ref (ad g 1)), (2, .int v2_), (3, .int v10), (4, .int v18), (5, .int v22), (6, .int v26), (7, .int v30)]) [5, 7, 4, 3, 2, 1, 0] rfl (hj101  hr)
  replace hr := ite_f hc hr
  refine r_iload (pc := 77) (j := 1) dL_judges_77 rfl ?_
  refine r_iload_n (pc := 79) (j := 4) dL_judges_79 rfl rfl ?_
  refine r_icmp_gt (pc := 80) (tgt := 101) dL_judges_80 rfl (fun hc => ?_) (fun hc => ?_)
  · replace hr := ite_t hc hr
    exact r_pick (ls1 := [(0, .ref (ad g 1)), (2, .int v2_), (3, .int v10), (4, .int v18), (5, .int v22), (6, .int v26), (7, .int v30)]) [5, 7, 4, 3, 2, 1, 0] rfl (hj101  hr)
  replace hr := ite_f hc hr
  refine r_iload (pc := 83) (j := 0) dL_judges_83 rfl ?_
  refine r_iload_n (pc := 85) (j := 4) dL_judges_85 rfl rfl ?_
  refine r_icmp_lt (pc := 86) (tgt := 101) dL_judges_86 rfl (fun hc => ?_) (fun hc => ?_)
  · replace hr := ite_t hc hr
    exact r_pick (ls1 := [(0, .ref (ad g 1)), (2, .int v2_), (3, .int v10), (4, .int v18), (5, .int v22), (6, .int v26), (7, .int v30)]) [5, 7, 4, 3, 2, 1, 0] rfl (hj101  hr)
  replace hr := ite_f hc hr
  refine r_iload (pc := 89) (j := 0) dL_judges_89 rfl ?_
  refine r_sipush (pc := 91) (v := (200 : Int32)) dL_judges_91 rfl ?_
  refine r_icmp_gt (pc := 94) (tgt := 101) dL_judges_94 rfl (fun hc => ?_) (fun hc => ?_)
  · replace hr := ite_t hc hr
    exact r_pick (ls1 := [(0, .ref (ad g 1)), (2, .int v2_), (3, .int v10), (4, .int v18), (5, .int v22), (6, .int v26), (7, .int v30)]) [5, 7, 4, 3, 2, 1, 0] rfl (hj101  hr)
  replace hr := ite_f hc hr
  refine r_iconst (pc := 97) (v := (1 : Int32)) dL_judges_97 rfl ?_
  refine r_goto (pc := 98) (tgt := 102) dL_judges_98 rfl ?_
  exact r_pick (ls1 := [(0, .ref (ad g 1)), (2, .int v2_), (3, .int v10), (4, .int v18), (5, .int v22), (6, .int v26), (7, .int v30)]) [5, 7, 4, 3, 2, 1, 0] rfl (hj102 (1 : Int32) hr)

set_option maxRecDepth 20000 in
set_option maxHeartbeats 4000000 in
theorem sL_judges {g : GG} {σ : SS}  {r : Bool × SS} (hr : fL_judges σ = some r)  : Ct g mL_judges [.ref (ad g 1)] NF σ (some (.int (b2i r.1))) NF r.2 := by
  refine Ct.of (by decide +kernel) (nle rfl) fun hw0 => ?_
  have hw := hw0 rfl
  unfold fL_judges at hr
  change RR g mL_judges (FinR g mL_judges (some (.int (b2i r.1))) NF r.2) (NF, 0, 0) 0 [(0, .ref (ad g 1))] [] σ
  refine r_iconst (pc := 0) (v := (1 : Int32)) dL_judges_0 rfl ?_
  refine r_istore_n (pc := 1) (ls1 := [(1, .int (1 : Int32)), (0, .ref (ad g 1))]) dL_judges_1 rfl (nle rfl) rfl ?_
  refine r_iconst (pc := 2) (v := (0 : Int32)) dL_judges_2 rfl ?_
  refine r_istore_n (pc := 3) (ls1 := [(2, .int (0 : Int32)), (1, .int (1 : Int32)), (0, .ref (ad g 1))]) dL_judges_3 rfl (nle rfl) rfl ?_
  refine r_pick (ls1 := [(0, .ref (ad g 1)), (1, .int (1 : Int32)), (2, .int (0 : Int32))]) [2, 1, 0] rfl ?_
  refine r_wid (c2 := (0 + 1 * Int32.toNatClampNeg (0 : Int32) + 0)) (s2 := (0 + 5 * Int32.toNatClampNeg (0 : Int32) + 0)) ⟨by omega, by omega⟩ ?_
  refine sL_judges_L4     fuel (1 : Int32) (0 : Int32) σ hr hw

theorem qL_judges {g : GG} {σ : SS}  {v : Bool} {σ2 : SS} {M : MM} {F : State → Array Value → List Frame → State → Prop} {zc zs pc index : Nat} {ls : List (Nat × Value)} {rest : List Value} (hf : fL_judges σ = some (v, σ2))  (hl : Cond.methodLink M.1.cls index yL_judges ∈ lw_gt) (hz : zc + 12 ≤ M.2.2.2.2.cells ∧ zs + 60 ≤ M.2.2.2.2.slots) (hR : mL_judges.2.2.2.2.frames + 1 ≤ M.2.2.2.2.frames ∧ 8 + (mL_judges.2.2.1 + 11) + mL_judges.2.2.2.2.locals ≤ M.2.2.2.2.locals) (hrest : (rest.map fun v => v.category).sum ≤ 8) (hd : decode M.2.1 pc = .ok (.invokestatic index, 3)) (k : WT σ2 → RR g M F (NF, zc + 12, zs + 60) (pc + 3) ls (.int (b2i v) :: rest) σ2) : RR g M F (NF, zc, zs) pc ls (.ref (ad g 1) :: rest) σ :=
  r_callS (z := (NF, zc, zs)) (N := mL_judges) (nn := 1) (o1 := some (.int (b2i v))) (sL_judges hf ) tw_4_156 tw_1_0 hl tw_4_155 ⟨by decide, by decide, rfl⟩ hR rfl hrest hd hz rfl (fun h => k (h rfl))

theorem dL_scans_0 : decode cL_scans 0 = .ok (.aload_n 0, 1) := by decide +kernel
theorem dL_scans_1 : decode cL_scans 1 = .ok (.iconst 0, 1) := by decide +kernel
theorem dL_scans_2 : decode cL_scans 2 = .ok (.invokevirtual 112, 3) := by decide +kernel
theorem dL_scans_5 : decode cL_scans 5 = .ok (.istore_n 2, 1) := by decide +kernel
theorem dL_scans_6 : decode cL_scans 6 = .ok (.aload_n 0, 1) := by decide +kernel
theorem dL_scans_7 : decode cL_scans 7 = .ok (.iconst 0, 1) := by decide +kernel
theorem dL_scans_8 : decode cL_scans 8 = .ok (.invokevirtual 40, 3) := by decide +kernel
theorem dL_scans_11 : decode cL_scans 11 = .ok (.istore_n 3, 1) := by decide +kernel
theorem dL_scans_12 : decode cL_scans 12 = .ok (.aload_n 0, 1) := by decide +kernel
theorem dL_scans_13 : decode cL_scans 13 = .ok (.iconst 1, 1) := by decide +kernel
theorem dL_scans_14 : decode cL_scans 14 = .ok (.invokevirtual 40, 3) := by decide +kernel
theorem dL_scans_17 : decode cL_scans 17 = .ok (.istore 4, 2) := by decide +kernel
theorem dL_scans_19 : decode cL_scans 19 = .ok (.aload_n 1, 1) := by decide +kernel
theorem dL_scans_20 : decode cL_scans 20 = .ok (.invokestatic 14, 3) := by decide +kernel
theorem dL_scans_23 : decode cL_scans 23 = .ok (.iconst 4, 1) := by decide +kernel
theorem dL_scans_24 : decode cL_scans 24 = .ok (.irem, 1) := by decide +kernel
theorem dL_scans_25 : decode cL_scans 25 = .ok (.istore 5, 2) := by decide +kernel
theorem dL_scans_27 : decode cL_scans 27 = .ok (.iload_n 3, 1) := by decide +kernel
theorem dL_scans_28 : decode cL_scans 28 = .ok (.iload 4, 2) := by decide +kernel
theorem dL_scans_30 : decode cL_scans 30 = .ok (.imul, 1) := by decide +kernel
theorem dL_scans_31 : decode cL_scans 31 = .ok (.newarray .int, 2) := by decide +kernel
theorem dL_scans_33 : decode cL_scans 33 = .ok (.astore 6, 2) := by decide +kernel
theorem dL_scans_35 : decode cL_scans 35 = .ok (.iconst 0, 1) := by decide +kernel
theorem dL_scans_36 : decode cL_scans 36 = .ok (.istore 7, 2) := by decide +kernel
theorem dL_scans_38 : decode cL_scans 38 = .ok (.iload 7, 2) := by decide +kernel
theorem dL_scans_40 : decode cL_scans 40 = .ok (.iload_n 3, 1) := by decide +kernel
theorem dL_scans_41 : decode cL_scans 41 = .ok (.iload 4, 2) := by decide +kernel
theorem dL_scans_43 : decode cL_scans 43 = .ok (.imul, 1) := by decide +kernel
theorem dL_scans_44 : decode cL_scans 44 = .ok (.if_icmp .ge 26, 3) := by decide +kernel
theorem dL_scans_47 : decode cL_scans 47 = .ok (.aload 6, 2) := by decide +kernel
theorem dL_scans_49 : decode cL_scans 49 = .ok (.iload 7, 2) := by decide +kernel
theorem dL_scans_51 : decode cL_scans 51 = .ok (.aload_n 0, 1) := by decide +kernel
theorem dL_scans_52 : decode cL_scans 52 = .ok (.iload 7, 2) := by decide +kernel
theorem dL_scans_54 : decode cL_scans 54 = .ok (.iload_n 3, 1) := by decide +kernel
theorem dL_scans_55 : decode cL_scans 55 = .ok (.irem, 1) := by decide +kernel
theorem dL_scans_56 : decode cL_scans 56 = .ok (.iload 7, 2) := by decide +kernel
theorem dL_scans_58 : decode cL_scans 58 = .ok (.iload_n 3, 1) := by decide +kernel
theorem dL_scans_59 : decode cL_scans 59 = .ok (.idiv, 1) := by decide +kernel
theorem dL_scans_60 : decode cL_scans 60 = .ok (.invokevirtual 116, 3) := by decide +kernel
theorem dL_scans_63 : decode cL_scans 63 = .ok (.iastore, 1) := by decide +kernel
theorem dL_scans_64 : decode cL_scans 64 = .ok (.iinc 7 1, 3) := by decide +kernel
theorem dL_scans_67 : decode cL_scans 67 = .ok (.goto (-29), 3) := by decide +kernel
theorem dL_scans_70 : decode cL_scans 70 = .ok (.aload_n 0, 1) := by decide +kernel
theorem dL_scans_71 : decode cL_scans 71 = .ok (.invokevirtual 119, 3) := by decide +kernel
theorem dL_scans_74 : decode cL_scans 74 = .ok (.istore 7, 2) := by decide +kernel
theorem dL_scans_76 : decode cL_scans 76 = .ok (.iload_n 2, 1) := by decide +kernel
theorem dL_scans_77 : decode cL_scans 77 = .ok (.ifCond .eq 43, 3) := by decide +kernel
theorem dL_scans_80 : decode cL_scans 80 = .ok (.aload_n 0, 1) := by decide +kernel
theorem dL_scans_81 : decode cL_scans 81 = .ok (.iload 5, 2) := by decide +kernel
theorem dL_scans_83 : decode cL_scans 83 = .ok (.invokevirtual 122, 3) := by decide +kernel
theorem dL_scans_86 : decode cL_scans 86 = .ok (.iload 5, 2) := by decide +kernel
theorem dL_scans_88 : decode cL_scans 88 = .ok (.iconst 2, 1) := by decide +kernel
theorem dL_scans_89 : decode cL_scans 89 = .ok (.irem, 1) := by decide +kernel
theorem dL_scans_90 : decode cL_scans 90 = .ok (.ifCond .ne 7, 3) := by decide +kernel
theorem dL_scans_93 : decode cL_scans 93 = .ok (.iload_n 3, 1) := by decide +kernel
theorem dL_scans_94 : decode cL_scans 94 = .ok (.goto 5, 3) := by decide +kernel
theorem dL_scans_97 : decode cL_scans 97 = .ok (.iload 4, 2) := by decide +kernel
theorem dL_scans_99 : decode cL_scans 99 = .ok (.if_icmp .ne 21, 3) := by decide +kernel
theorem dL_scans_102 : decode cL_scans 102 = .ok (.aload_n 0, 1) := by decide +kernel
theorem dL_scans_103 : decode cL_scans 103 = .ok (.iconst 4, 1) := by decide +kernel
theorem dL_scans_104 : decode cL_scans 104 = .ok (.iload 5, 2) := by decide +kernel
theorem dL_scans_106 : decode cL_scans 106 = .ok (.isub, 1) := by decide +kernel
theorem dL_scans_107 : decode cL_scans 107 = .ok (.iconst 4, 1) := by decide +kernel
theorem dL_scans_108 : decode cL_scans 108 = .ok (.irem, 1) := by decide +kernel
theorem dL_scans_109 : decode cL_scans 109 = .ok (.invokevirtual 122, 3) := by decide +kernel
theorem dL_scans_112 : decode cL_scans 112 = .ok (.iload_n 3, 1) := by decide +kernel
theorem dL_scans_113 : decode cL_scans 113 = .ok (.if_icmp .ne 7, 3) := by decide +kernel
theorem dL_scans_116 : decode cL_scans 116 = .ok (.iconst 1, 1) := by decide +kernel
theorem dL_scans_117 : decode cL_scans 117 = .ok (.goto 4, 3) := by decide +kernel
theorem dL_scans_120 : decode cL_scans 120 = .ok (.iconst 0, 1) := by decide +kernel
theorem dL_scans_121 : decode cL_scans 121 = .ok (.istore_n 2, 1) := by decide +kernel
theorem dL_scans_122 : decode cL_scans 122 = .ok (.iconst 0, 1) := by decide +kernel
theorem dL_scans_123 : decode cL_scans 123 = .ok (.istore 8, 2) := by decide +kernel
theorem dL_scans_125 : decode cL_scans 125 = .ok (.iload 8, 2) := by decide +kernel
theorem dL_scans_127 : decode cL_scans 127 = .ok (.iload_n 3, 1) := by decide +kernel
theorem dL_scans_128 : decode cL_scans 128 = .ok (.iload 4, 2) := by decide +kernel
theorem dL_scans_130 : decode cL_scans 130 = .ok (.imul, 1) := by decide +kernel
theorem dL_scans_131 : decode cL_scans 131 = .ok (.if_icmp .ge 39, 3) := by decide +kernel
theorem dL_scans_134 : decode cL_scans 134 = .ok (.iload_n 2, 1) := by decide +kernel
theorem dL_scans_135 : decode cL_scans 135 = .ok (.ifCond .eq 27, 3) := by decide +kernel
theorem dL_scans_138 : decode cL_scans 138 = .ok (.aload_n 0, 1) := by decide +kernel
theorem dL_scans_139 : decode cL_scans 139 = .ok (.iload 8, 2) := by decide +kernel
theorem dL_scans_141 : decode cL_scans 141 = .ok (.iload_n 3, 1) := by decide +kernel
theorem dL_scans_142 : decode cL_scans 142 = .ok (.irem, 1) := by decide +kernel
theorem dL_scans_143 : decode cL_scans 143 = .ok (.iload 8, 2) := by decide +kernel
theorem dL_scans_145 : decode cL_scans 145 = .ok (.iload_n 3, 1) := by decide +kernel
theorem dL_scans_146 : decode cL_scans 146 = .ok (.idiv, 1) := by decide +kernel
theorem dL_scans_147 : decode cL_scans 147 = .ok (.invokevirtual 116, 3) := by decide +kernel
theorem dL_scans_150 : decode cL_scans 150 = .ok (.aload 6, 2) := by decide +kernel
theorem dL_scans_152 : decode cL_scans 152 = .ok (.iload 8, 2) := by decide +kernel
theorem dL_scans_154 : decode cL_scans 154 = .ok (.iaload, 1) := by decide +kernel
theorem dL_scans_155 : decode cL_scans 155 = .ok (.if_icmp .ne 7, 3) := by decide +kernel
theorem dL_scans_158 : decode cL_scans 158 = .ok (.iconst 1, 1) := by decide +kernel
theorem dL_scans_159 : decode cL_scans 159 = .ok (.goto 4, 3) := by decide +kernel
theorem dL_scans_162 : decode cL_scans 162 = .ok (.iconst 0, 1) := by decide +kernel
theorem dL_scans_163 : decode cL_scans 163 = .ok (.istore_n 2, 1) := by decide +kernel
theorem dL_scans_164 : decode cL_scans 164 = .ok (.iinc 8 1, 3) := by decide +kernel
theorem dL_scans_167 : decode cL_scans 167 = .ok (.goto (-42), 3) := by decide +kernel
theorem dL_scans_170 : decode cL_scans 170 = .ok (.bipush (-2), 2) := by decide +kernel
theorem dL_scans_172 : decode cL_scans 172 = .ok (.istore 8, 2) := by decide +kernel
theorem dL_scans_174 : decode cL_scans 174 = .ok (.iconst 0, 1) := by decide +kernel
theorem dL_scans_175 : decode cL_scans 175 = .ok (.istore 9, 2) := by decide +kernel
theorem dL_scans_177 : decode cL_scans 177 = .ok (.iconst 0, 1) := by decide +kernel
theorem dL_scans_178 : decode cL_scans 178 = .ok (.istore 10, 2) := by decide +kernel
theorem dL_scans_180 : decode cL_scans 180 = .ok (.iload 10, 2) := by decide +kernel
theorem dL_scans_182 : decode cL_scans 182 = .ok (.iconst 4, 1) := by decide +kernel
theorem dL_scans_183 : decode cL_scans 183 = .ok (.if_icmp .ge 49, 3) := by decide +kernel
theorem dL_scans_186 : decode cL_scans 186 = .ok (.aload_n 0, 1) := by decide +kernel
theorem dL_scans_187 : decode cL_scans 187 = .ok (.invokevirtual 66, 3) := by decide +kernel
theorem dL_scans_190 : decode cL_scans 190 = .ok (.iconst 1, 1) := by decide +kernel
theorem dL_scans_191 : decode cL_scans 191 = .ok (.if_icmp .ne 29, 3) := by decide +kernel
theorem dL_scans_194 : decode cL_scans 194 = .ok (.iload 8, 2) := by decide +kernel
theorem dL_scans_196 : decode cL_scans 196 = .ok (.ifCond .lt 13, 3) := by decide +kernel
theorem dL_scans_199 : decode cL_scans 199 = .ok (.aload_n 0, 1) := by decide +kernel
theorem dL_scans_200 : decode cL_scans 200 = .ok (.iconst 0, 1) := by decide +kernel
theorem dL_scans_201 : decode cL_scans 201 = .ok (.invokevirtual 79, 3) := by decide +kernel
theorem dL_scans_204 : decode cL_scans 204 = .ok (.iload 9, 2) := by decide +kernel
theorem dL_scans_206 : decode cL_scans 206 = .ok (.if_icmp .le 14, 3) := by decide +kernel
theorem dL_scans_209 : decode cL_scans 209 = .ok (.iload 10, 2) := by decide +kernel
theorem dL_scans_211 : decode cL_scans 211 = .ok (.istore 8, 2) := by decide +kernel
theorem dL_scans_213 : decode cL_scans 213 = .ok (.aload_n 0, 1) := by decide +kernel
theorem dL_scans_214 : decode cL_scans 214 = .ok (.iconst 0, 1) := by decide +kernel
theorem dL_scans_215 : decode cL_scans 215 = .ok (.invokevirtual 79, 3) := by decide +kernel
theorem dL_scans_218 : decode cL_scans 218 = .ok (.istore 9, 2) := by decide +kernel
theorem dL_scans_220 : decode cL_scans 220 = .ok (.aload_n 0, 1) := by decide +kernel
theorem dL_scans_221 : decode cL_scans 221 = .ok (.iconst 1, 1) := by decide +kernel
theorem dL_scans_222 : decode cL_scans 222 = .ok (.invokevirtual 122, 3) := by decide +kernel
theorem dL_scans_225 : decode cL_scans 225 = .ok (.pop, 1) := by decide +kernel
theorem dL_scans_226 : decode cL_scans 226 = .ok (.iinc 10 1, 3) := by decide +kernel
theorem dL_scans_229 : decode cL_scans 229 = .ok (.goto (-49), 3) := by decide +kernel
theorem dL_scans_232 : decode cL_scans 232 = .ok (.iload_n 2, 1) := by decide +kernel
theorem dL_scans_233 : decode cL_scans 233 = .ok (.ifCond .eq 32, 3) := by decide +kernel
theorem dL_scans_236 : decode cL_scans 236 = .ok (.iload 7, 2) := by decide +kernel
theorem dL_scans_238 : decode cL_scans 238 = .ok (.iload 8, 2) := by decide +kernel
theorem dL_scans_240 : decode cL_scans 240 = .ok (.if_icmp .ne 25, 3) := by decide +kernel
theorem dL_scans_243 : decode cL_scans 243 = .ok (.aload_n 0, 1) := by decide +kernel
theorem dL_scans_244 : decode cL_scans 244 = .ok (.iconst 0, 1) := by decide +kernel
theorem dL_scans_245 : decode cL_scans 245 = .ok (.invokevirtual 40, 3) := by decide +kernel
theorem dL_scans_248 : decode cL_scans 248 = .ok (.iload_n 3, 1) := by decide +kernel
theorem dL_scans_249 : decode cL_scans 249 = .ok (.if_icmp .ne 16, 3) := by decide +kernel
theorem dL_scans_252 : decode cL_scans 252 = .ok (.aload_n 0, 1) := by decide +kernel
theorem dL_scans_253 : decode cL_scans 253 = .ok (.bipush 10, 2) := by decide +kernel
theorem dL_scans_255 : decode cL_scans 255 = .ok (.invokevirtual 40, 3) := by decide +kernel
theorem dL_scans_258 : decode cL_scans 258 = .ok (.ifCond .lt 7, 3) := by decide +kernel
theorem dL_scans_261 : decode cL_scans 261 = .ok (.iconst 1, 1) := by decide +kernel
theorem dL_scans_262 : decode cL_scans 262 = .ok (.goto 4, 3) := by decide +kernel
theorem dL_scans_265 : decode cL_scans 265 = .ok (.iconst 0, 1) := by decide +kernel
theorem dL_scans_266 : decode cL_scans 266 = .ok (.istore_n 2, 1) := by decide +kernel
theorem dL_scans_267 : decode cL_scans 267 = .ok (.aload_n 1, 1) := by decide +kernel
theorem dL_scans_268 : decode cL_scans 268 = .ok (.invokestatic 14, 3) := by decide +kernel
theorem dL_scans_271 : decode cL_scans 271 = .ok (.ldc 125, 2) := by decide +kernel
theorem dL_scans_273 : decode cL_scans 273 = .ok (.irem, 1) := by decide +kernel
theorem dL_scans_274 : decode cL_scans 274 = .ok (.istore 10, 2) := by decide +kernel
theorem dL_scans_276 : decode cL_scans 276 = .ok (.aload_n 0, 1) := by decide +kernel
theorem dL_scans_277 : decode cL_scans 277 = .ok (.iload 10, 2) := by decide +kernel
theorem dL_scans_279 : decode cL_scans 279 = .ok (.invokevirtual 126, 3) := by decide +kernel
theorem dL_scans_282 : decode cL_scans 282 = .ok (.pop, 1) := by decide +kernel
theorem dL_scans_283 : decode cL_scans 283 = .ok (.aload_n 0, 1) := by decide +kernel
theorem dL_scans_284 : decode cL_scans 284 = .ok (.bipush 60, 2) := by decide +kernel
theorem dL_scans_286 : decode cL_scans 286 = .ok (.invokevirtual 129, 3) := by decide +kernel
theorem dL_scans_289 : decode cL_scans 289 = .ok (.istore 11, 2) := by decide +kernel
theorem dL_scans_291 : decode cL_scans 291 = .ok (.aload_n 0, 1) := by decide +kernel
theorem dL_scans_292 : decode cL_scans 292 = .ok (.bipush 10, 2) := by decide +kernel
theorem dL_scans_294 : decode cL_scans 294 = .ok (.invokevirtual 40, 3) := by decide +kernel
theorem dL_scans_297 : decode cL_scans 297 = .ok (.istore 12, 2) := by decide +kernel
theorem dL_scans_299 : decode cL_scans 299 = .ok (.aload_n 0, 1) := by decide +kernel
theorem dL_scans_300 : decode cL_scans 300 = .ok (.bipush 7, 2) := by decide +kernel
theorem dL_scans_302 : decode cL_scans 302 = .ok (.invokevirtual 40, 3) := by decide +kernel
theorem dL_scans_305 : decode cL_scans 305 = .ok (.istore 13, 2) := by decide +kernel
theorem dL_scans_307 : decode cL_scans 307 = .ok (.iload_n 2, 1) := by decide +kernel
theorem dL_scans_308 : decode cL_scans 308 = .ok (.ifCond .eq 71, 3) := by decide +kernel
theorem dL_scans_311 : decode cL_scans 311 = .ok (.iload 11, 2) := by decide +kernel
theorem dL_scans_313 : decode cL_scans 313 = .ok (.ifCond .lt 66, 3) := by decide +kernel
theorem dL_scans_316 : decode cL_scans 316 = .ok (.iload 11, 2) := by decide +kernel
theorem dL_scans_318 : decode cL_scans 318 = .ok (.bipush 60, 2) := by decide +kernel
theorem dL_scans_320 : decode cL_scans 320 = .ok (.if_icmp .gt 59, 3) := by decide +kernel
theorem dL_scans_323 : decode cL_scans 323 = .ok (.aload_n 0, 1) := by decide +kernel
theorem dL_scans_324 : decode cL_scans 324 = .ok (.iconst 0, 1) := by decide +kernel
theorem dL_scans_325 : decode cL_scans 325 = .ok (.invokevirtual 132, 3) := by decide +kernel
theorem dL_scans_328 : decode cL_scans 328 = .ok (.ifCond .eq 51, 3) := by decide +kernel
theorem dL_scans_331 : decode cL_scans 331 = .ok (.aload_n 0, 1) := by decide +kernel
theorem dL_scans_332 : decode cL_scans 332 = .ok (.iload 10, 2) := by decide +kernel
theorem dL_scans_334 : decode cL_scans 334 = .ok (.invokevirtual 126, 3) := by decide +kernel
theorem dL_scans_337 : decode cL_scans 337 = .ok (.iload 13, 2) := by decide +kernel
theorem dL_scans_339 : decode cL_scans 339 = .ok (.if_icmp .ne 40, 3) := by decide +kernel
theorem dL_scans_342 : decode cL_scans 342 = .ok (.aload_n 0, 1) := by decide +kernel
theorem dL_scans_343 : decode cL_scans 343 = .ok (.bipush 60, 2) := by decide +kernel
theorem dL_scans_345 : decode cL_scans 345 = .ok (.invokevirtual 129, 3) := by decide +kernel
theorem dL_scans_348 : decode cL_scans 348 = .ok (.iload 11, 2) := by decide +kernel
theorem dL_scans_350 : decode cL_scans 350 = .ok (.if_icmp .ne 29, 3) := by decide +kernel
theorem dL_scans_353 : decode cL_scans 353 = .ok (.aload_n 0, 1) := by decide +kernel
theorem dL_scans_354 : decode cL_scans 354 = .ok (.bipush 10, 2) := by decide +kernel
theorem dL_scans_356 : decode cL_scans 356 = .ok (.invokevirtual 40, 3) := by decide +kernel
theorem dL_scans_359 : decode cL_scans 359 = .ok (.iload 12, 2) := by decide +kernel
theorem dL_scans_361 : decode cL_scans 361 = .ok (.if_icmp .ne 18, 3) := by decide +kernel
theorem dL_scans_364 : decode cL_scans 364 = .ok (.aload_n 0, 1) := by decide +kernel
theorem dL_scans_365 : decode cL_scans 365 = .ok (.bipush 7, 2) := by decide +kernel
theorem dL_scans_367 : decode cL_scans 367 = .ok (.invokevirtual 40, 3) := by decide +kernel
theorem dL_scans_370 : decode cL_scans 370 = .ok (.iload 13, 2) := by decide +kernel
theorem dL_scans_372 : decode cL_scans 372 = .ok (.if_icmp .ne 7, 3) := by decide +kernel
theorem dL_scans_375 : decode cL_scans 375 = .ok (.iconst 1, 1) := by decide +kernel
theorem dL_scans_376 : decode cL_scans 376 = .ok (.goto 4, 3) := by decide +kernel
theorem dL_scans_379 : decode cL_scans 379 = .ok (.iconst 0, 1) := by decide +kernel
theorem dL_scans_380 : decode cL_scans 380 = .ok (.istore_n 2, 1) := by decide +kernel
theorem dL_scans_381 : decode cL_scans 381 = .ok (.iload_n 2, 1) := by decide +kernel
theorem dL_scans_382 : decode cL_scans 382 = .ok (.ireturn, 1) := by decide +kernel
def mL_scans : MM := (yL_scans, cL_scans, 14, Option.some Jvm.ClassFile.FieldType.boolean, { frames := 7, cells := 1, slots := 1600, locals := 172 })
def L_scans_L38 (u3_ : Int32) (u4_ : Int32) (o6_ : Nat) (k70 : SS → Option (Bool × SS)) : Nat → Int32 → SS → Option (Bool × SS) :=
  lp (fun _ _ => none) fun rec v7_ σ_ =>
    if (u3_ * u4_) ≤ v7_ then (
      k70 σ_
      ) else (
      grd (nz u3_) <|
      bnd1 (fX7_dot σ_ (irm v7_ u3_) (v7_ / u3_)) fun v20 =>
      grd (lin σ_ o6_ v7_) <|
      vthen (sI σ_ o6_ (Int32.toNatClampNeg v7_) v20) fun σ24 =>
      rec (v7_ + (1 : Int32)) σ24
      )

def L_scans_L125 (σ_ : SS) (u3_ : Int32) (u4_ : Int32) (o6_ : Nat) (k170 : Int32 → Option (Bool × SS)) : Nat → Int32 → Int32 → Option (Bool × SS) :=
  lp (fun _ _ => none) fun rec v2_ v8_ =>
    if (u3_ * u4_) ≤ v8_ then (
      k170 v2_
      ) else (
      vthen (fun (_u : Unit) =>
        rec (0 : Int32) (v8_ + (1 : Int32))
        ) fun j162 =>
      if v2_ = 0 then (
        j162 ()
        ) else (
        grd (nz u3_) <|
        bnd1 (fX7_dot σ_ (irm v8_ u3_) (v8_ / u3_)) fun v33 =>
        grd (lin σ_ o6_ v8_) <|
        if v33 = (gI σ_ o6_ (Int32.toNatClampNeg v8_)) then (
          rec (1 : Int32) (v8_ + (1 : Int32))
          ) else (
          j162 ()
          )
        )
      )

def L_scans_L180  (k232 : Int32 → SS → Option (Bool × SS)) : Nat → Int32 → Int32 → Int32 → SS → Option (Bool × SS) :=
  lp (fun _ _ _ _ => none) fun rec v8_ v9_ v10_ σ_ =>
    if (4 : Int32) ≤ v10_ then (
      k232 v8_ σ_
      ) else (
      bnd (fX7_marked σ_) fun v38 σ41 =>
      vthen (fun (v42 : Int32) (v43 : Int32) (σ44 : SS) =>
        bnd (fX7_turn σ44 (1 : Int32)) fun v45 σ48 =>
        rec v42 v43 (v10_ + (1 : Int32)) σ48
        ) fun j220 =>
      if v38 = (1 : Int32) then (
        vthen (fun  (σ49 : SS) =>
          bnd (fX7_sheet σ49 (0 : Int32)) fun v50 σ53 =>
          j220 v10_ v50 σ53
          ) fun j209 =>
        if v8_ < 0 then (
          j209 σ41
          ) else (
          bnd (fX7_sheet σ41 (0 : Int32)) fun v54 σ57 =>
          if v54 ≤ v9_ then (
            j220 v8_ v9_ σ57
            ) else (
            j209 σ57
            )
          )
        ) else (
        j220 v8_ v9_ σ41
        )
      )

def fL_scans (σ : SS) (a1 : Nat) : Option (Bool × SS) :=
  bnd (fX7_keep σ (0 : Int32)) fun b2 σ4 =>
  bnd1 (fX7_count σ4 (0 : Int32)) fun v5 =>
  bnd1 (fX7_count σ4 (1 : Int32)) fun v8 =>
  bnd (fL_next σ4 a1) fun v11 σ14 =>
  vthen (irm v11 (4 : Int32)) fun v15 =>
  grd (inb (v5 * v8) 1601) <|
  vthen (2000 + gR σ14 0 0) fun c17 =>
  vthen (mkL σ14 (Int32.toNatClampNeg (v5 * v8))) fun σ16 =>
  L_scans_L38 v5 v8 c17
  (fun σ25 =>
    bnd (fX7_up σ25) fun v26 σ29 =>
    vthen (fun (s30 : Int32) (σ31 : SS) =>
      L_scans_L125 σ31 v5 v8 c17
      (fun v37 =>
        L_scans_L180
        (fun v58 σ59 =>
          vthen (fun (s60 : Int32) =>
            bnd (fL_next σ59 a1) fun v61 σ64 =>
            vthen (irm v61 (65536 : Int32)) fun v65 =>
            bnd (fX7_seed σ64 v65) fun v66 σ69 =>
            bnd (fX7_noise σ69 (60 : Int32)) fun v70 σ73 =>
            bnd1 (fX7_count σ73 (10 : Int32)) fun v74 =>
            bnd1 (fX7_count σ73 (7 : Int32)) fun v77 =>
            vthen (fun  (σ80 : SS) =>
              some (false, σ80)
              ) fun j379 =>
            if s60 = 0 then (
              j379 σ73
              ) else (
              if v70 < 0 then (
                j379 σ73
                ) else (
                if (60 : Int32) < v70 then (
                  j379 σ73
                  ) else (
                  bnd (fX7_back σ73 (0 : Int32)) fun b82 σ84 =>
                  if b82 = true then (
                    bnd (fX7_seed σ84 v65) fun v85 σ88 =>
                    if v85 = v77 then (
                      bnd (fX7_noise σ88 (60 : Int32)) fun v89 σ92 =>
                      if v89 = v70 then (
                        bnd1 (fX7_count σ92 (10 : Int32)) fun v93 =>
                        if v93 = v74 then (
                          bnd1 (fX7_count σ92 (7 : Int32)) fun v96 =>
                          if v96 = v77 then (
                            some (true, σ92)
                            ) else (
                            j379 σ92
                            )
                          ) else (
                          j379 σ92
                          )
                        ) else (
                        j379 σ92
                        )
                      ) else (
                      j379 σ88
                      )
                    ) else (
                    j379 σ84
                    )
                  )
                )
              )
            ) fun j266 =>
          vthen (fun (_u : Unit) =>
            j266 (0 : Int32)
            ) fun j265 =>
          if v37 = 0 then (
            j265 ()
            ) else (
            if v26 = v58 then (
              bnd1 (fX7_count σ59 (0 : Int32)) fun v99 =>
              if v99 = v5 then (
                bnd1 (fX7_count σ59 (10 : Int32)) fun v102 =>
                if v102 < 0 then (
                  j265 ()
                  ) else (
                  j266 (1 : Int32)
                  )
                ) else (
                j265 ()
                )
              ) else (
              j265 ()
              )
            )
          )
        fuel (-2 : Int32) (0 : Int32) (0 : Int32) σ31
        )
      fuel s30 (0 : Int32)
      ) fun j121 =>
    vthen (fun  (σ105 : SS) =>
      j121 (0 : Int32) σ105
      ) fun j120 =>
    if b2 = true then (
      bnd (fX7_turn σ29 v15) fun v106 σ109 =>
      vthen (fun (s110 : Int32) =>
        if v106 = s110 then (
          bnd (fX7_turn σ109 (irm ((4 : Int32) - v15) (4 : Int32))) fun v111 σ114 =>
          if v111 = v5 then (
            j121 (1 : Int32) σ114
            ) else (
            j120 σ114
            )
          ) else (
          j120 σ109
          )
        ) fun j99 =>
      if (irm v15 (2 : Int32)) = 0 then (
        j99 v5
        ) else (
        j99 v8
        )
      ) else (
      j120 σ29
      )
    )
  fuel (0 : Int32) σ16

set_option maxRecDepth 20000 in
theorem sL_scans_L38 {g : GG} {r : Bool × SS} {x1_ : Nat} {x2_ : Int32} {u3_ : Int32} {u4_ : Int32} {x5_ : Int32} {o6_ : Nat} {zc_ zs_ : Nat} {k70 : SS → Option (Bool × SS)} (hz_ : zc_ ≤ mL_scans.2.2.2.2.cells ∧ zs_ ≤ mL_scans.2.2.2.2.slots)
    (hk70 : ∀ (σ_ : SS), k70 σ_ = some r → WT σ_ → RR g mL_scans (FinR g mL_scans (some (.int (b2i r.1))) NF r.2) (NF, zc_, zs_) 70 [(0, .ref (ad g 1)), (1, .ref (ad g x1_)), (2, .int x2_), (3, .int u3_), (4, .int u4_), (5, .int x5_), (6, .ref (ad g o6_))] [] σ_)
    (n : Nat) : ∀ (v7_ : Int32) (σ_ : SS), L_scans_L38 u3_ u4_ o6_ k70 n v7_ σ_ = some r → WT σ_ → RR g mL_scans (FinR g mL_scans (some (.int (b2i r.1))) NF r.2) (NF, zc_, zs_) 38 [(0, .ref (ad g 1)), (1, .ref (ad g x1_)), (2, .int x2_), (3, .int u3_), (4, .int u4_), (5, .int x5_), (6, .ref (ad g o6_)), (7, .int v7_)] [] σ_ := by
  unfold L_scans_L38
  refine lp_ind (P := fun (rec : Int32 → SS → Option (Bool × SS)) => ∀ (v7_ : Int32) (σ_ : SS), rec v7_ σ_ = some r → WT σ_ → RR g mL_scans (FinR g mL_scans (some (.int (b2i r.1))) NF r.2) (NF, zc_, zs_) 38 [(0, .ref (ad g 1)), (1, .ref (ad g x1_)), (2, .int x2_), (3, .int u3_), (4, .int u4_), (5, .int x5_), (6, .ref (ad g o6_)), (7, .int v7_)] [] σ_) ?_ ?_ n
  · intro v7_ σ_ hr; cases hr
  intro rec ih v7_ σ_ hr hw_
  refine r_iload (pc := 38) (j := 7) dL_scans_38 rfl ?_
  refine r_iload_n (pc := 40) (j := 3) dL_scans_40 rfl rfl ?_
  refine r_iload (pc := 41) (j := 4) dL_scans_41 rfl ?_
  refine r_imul (pc := 43) dL_scans_43 ?_
  refine r_icmp_ge (pc := 44) (tgt := 70) dL_scans_44 rfl (fun hc => ?_) (fun hc => ?_)
  · replace hr := ite_t hc hr
    exact r_pick (ls1 := [(0, .ref (ad g 1)), (1, .ref (ad g x1_)), (2, .int x2_), (3, .int u3_), (4, .int u4_), (5, .int x5_), (6, .ref (ad g o6_))]) [0, 1, 2, 3, 4, 5, 6] rfl (hk70 σ_ hr hw_)
  replace hr := ite_f hc hr
  refine r_aload (pc := 47) (j := 6) dL_scans_47 rfl ?_
  refine r_iload (pc := 49) (j := 7) dL_scans_49 rfl ?_
  refine r_aload_n (pc := 51) (j := 0) dL_scans_51 rfl rfl ?_
  refine r_iload (pc := 52) (j := 7) dL_scans_52 rfl ?_
  refine r_iload_n (pc := 54) (j := 3) dL_scans_54 rfl rfl ?_
  obtain ⟨h19, hr⟩ := grd_inv hr
  refine r_irem (pc := 55) dL_scans_55 (nz_ne h19) ?_
  refine r_iload (pc := 56) (j := 7) dL_scans_56 rfl ?_
  refine r_iload_n (pc := 58) (j := 3) dL_scans_58 rfl rfl ?_
  refine r_idiv (pc := 59) dL_scans_59 (nz_ne h19) ?_
  obtain ⟨v20, hv20, hr⟩ := bnd1_inv hr
  refine qX7_dot (pc := 60) hv20 tw_4_182 hz_ ⟨nle rfl, nle rfl⟩ (nle rfl) dL_scans_60 ?_
  obtain ⟨h23, hr⟩ := grd_inv hr
  refine y_iast (pc := 63) (j := (Int32.toNatClampNeg v7_)) h23 rfl dL_scans_63 fun σ24 eσ24 => ?_
  replace hr := vthen_inv hr σ24 eσ24
  have hσ24 := wtI eσ24 hw_
  refine r_iinc (pc := 64) (j := 7) (v := (v7_ + (1 : Int32))) (ls1 := [(7, .int (v7_ + (1 : Int32))), (0, .ref (ad g 1)), (1, .ref (ad g x1_)), (2, .int x2_), (3, .int u3_), (4, .int u4_), (5, .int x5_), (6, .ref (ad g o6_))]) dL_scans_64 rfl rfl (nle rfl) rfl ?_
  refine r_goto (pc := 67) (tgt := 38) dL_scans_67 rfl ?_
  exact r_pick (ls1 := [(0, .ref (ad g 1)), (1, .ref (ad g x1_)), (2, .int x2_), (3, .int u3_), (4, .int u4_), (5, .int x5_), (6, .ref (ad g o6_)), (7, .int (v7_ + (1 : Int32)))]) [1, 2, 3, 4, 5, 6, 7, 0] rfl (ih (v7_ + (1 : Int32)) σ24 hr hσ24)

set_option maxRecDepth 20000 in
theorem sL_scans_L125 {g : GG} {r : Bool × SS} {σ_ : SS} {x1_ : Nat} {u3_ : Int32} {u4_ : Int32} {o6_ : Nat} {x7_ : Int32} {zc_ zs_ : Nat} {k170 : Int32 → Option (Bool × SS)} (hz_ : zc_ ≤ mL_scans.2.2.2.2.cells ∧ zs_ ≤ mL_scans.2.2.2.2.slots)
    (hw_ : WT σ_)
    (hk170 : ∀ (y2 : Int32), k170 y2 = some r → RR g mL_scans (FinR g mL_scans (some (.int (b2i r.1))) NF r.2) (NF, zc_, zs_) 170 [(0, .ref (ad g 1)), (1, .ref (ad g x1_)), (2, .int y2), (3, .int u3_), (7, .int x7_)] [] σ_)
    (n : Nat) : ∀ (v2_ : Int32) (v8_ : Int32), L_scans_L125 σ_ u3_ u4_ o6_ k170 n v2_ v8_ = some r → RR g mL_scans (FinR g mL_scans (some (.int (b2i r.1))) NF r.2) (NF, zc_, zs_) 125 [(0, .ref (ad g 1)), (1, .ref (ad g x1_)), (2, .int v2_), (3, .int u3_), (4, .int u4_), (6, .ref (ad g o6_)), (7, .int x7_), (8, .int v8_)] [] σ_ := by
  unfold L_scans_L125
  refine lp_ind (P := fun (rec : Int32 → Int32 → Option (Bool × SS)) => ∀ (v2_ : Int32) (v8_ : Int32), rec v2_ v8_ = some r → RR g mL_scans (FinR g mL_scans (some (.int (b2i r.1))) NF r.2) (NF, zc_, zs_) 125 [(0, .ref (ad g 1)), (1, .ref (ad g x1_)), (2, .int v2_), (3, .int u3_), (4, .int u4_), (6, .ref (ad g o6_)), (7, .int x7_), (8, .int v8_)] [] σ_) ?_ ?_ n
  · intro v2_ v8_ hr; cases hr
  intro rec ih v2_ v8_ hr
  refine r_iload (pc := 125) (j := 7) dL_scans_125 rfl ?_
  refine r_iload_n (pc := 127) (j := 3) dL_scans_127 rfl rfl ?_
  refine r_iload (pc := 128) (j := 4) dL_scans_128 rfl ?_
  refine r_imul (pc := 130) dL_scans_130 ?_
  refine r_icmp_ge (pc := 131) (tgt := 170) dL_scans_131 rfl (fun hc => ?_) (fun hc => ?_)
  · replace hr := ite_t hc hr
    exact r_pick (ls1 := [(0, .ref (ad g 1)), (1, .ref (ad g x1_)), (2, .int v2_), (3, .int u3_), (7, .int x7_)]) [0, 1, 2, 3, 6] rfl (hk170 v2_ hr)
  replace hr := ite_f hc hr
  refine r_iload_n (pc := 134) (j := 2) dL_scans_134 rfl rfl ?_
  obtain ⟨j162, ej162, hr⟩ := vth_ex hr
  have hj162 : j162 () = some r → RR g mL_scans (FinR g mL_scans (some (.int (b2i r.1))) NF r.2) (NF, zc_, zs_) 162 [(0, .ref (ad g 1)), (1, .ref (ad g x1_)), (3, .int u3_), (4, .int u4_), (6, .ref (ad g o6_)), (7, .int x7_), (8, .int v8_)] [] σ_ := by
    intro  hr
    replace hr := (congrFun ej162 ()).symm.trans hr
    refine r_iconst (pc := 162) (v := (0 : Int32)) dL_scans_162 rfl ?_
    refine r_istore_n (pc := 163) (ls1 := [(2, .int (0 : Int32)), (0, .ref (ad g 1)), (1, .ref (ad g x1_)), (3, .int u3_), (4, .int u4_), (6, .ref (ad g o6_)), (7, .int x7_), (8, .int v8_)]) dL_scans_163 rfl (nle rfl) rfl ?_
    refine r_iinc (pc := 164) (j := 7) (v := (v8_ + (1 : Int32))) (ls1 := [(8, .int (v8_ + (1 : Int32))), (2, .int (0 : Int32)), (0, .ref (ad g 1)), (1, .ref (ad g x1_)), (3, .int u3_), (4, .int u4_), (6, .ref (ad g o6_)), (7, .int x7_)]) dL_scans_164 rfl rfl (nle rfl) rfl ?_
    refine r_goto (pc := 167) (tgt := 125) dL_scans_167 rfl ?_
    exact r_pick (ls1 := [(0, .ref (ad g 1)), (1, .ref (ad g x1_)), (2, .int (0 : Int32)), (3, .int u3_), (4, .int u4_), (6, .ref (ad g o6_)), (7, .int x7_), (8, .int (v8_ + (1 : Int32)))]) [2, 3, 1, 4, 5, 6, 7, 0] rfl (ih (0 : Int32) (v8_ + (1 : Int32)) hr)
  refine r_if_eq (pc := 135) (tgt := 162) dL_scans_135 rfl (fun hc => ?_) (fun hc => ?_)
  · replace hr := ite_t hc hr
    exact r_pick (ls1 := [(0, .ref (ad g 1)), (1, .ref (ad g x1_)), (3, .int u3_), (4, .int u4_), (6, .ref (ad g o6_)), (7, .int x7_), (8, .int v8_)]) [0, 1, 3, 4, 5, 6, 7] rfl (hj162  hr)
  replace hr := ite_f hc hr
  refine r_aload_n (pc := 138) (j := 0) dL_scans_138 rfl rfl ?_
  refine r_iload (pc := 139) (j := 7) dL_scans_139 rfl ?_
  refine r_iload_n (pc := 141) (j := 3) dL_scans_141 rfl rfl ?_
  obtain ⟨h32, hr⟩ := grd_inv hr
  refine r_irem (pc := 142) dL_scans_142 (nz_ne h32) ?_
  refine r_iload (pc := 143) (j := 7) dL_scans_143 rfl ?_
  refine r_iload_n (pc := 145) (j := 3) dL_scans_145 rfl rfl ?_
  refine r_idiv (pc := 146) dL_scans_146 (nz_ne h32) ?_
  obtain ⟨v33, hv33, hr⟩ := bnd1_inv hr
  refine qX7_dot (pc := 147) hv33 tw_4_182 hz_ ⟨nle rfl, nle rfl⟩ (nle rfl) dL_scans_147 ?_
  refine r_aload (pc := 150) (j := 5) dL_scans_150 rfl ?_
  refine r_iload (pc := 152) (j := 7) dL_scans_152 rfl ?_
  obtain ⟨h36, hr⟩ := grd_inv hr
  refine y_iald (pc := 154) (k := (Int32.toNatClampNeg v8_)) h36 rfl dL_scans_154 ?_
  refine r_icmp_ne (pc := 155) (tgt := 162) dL_scans_155 rfl (fun hc => ?_) (fun hc => ?_)
  · replace hr := ite_f hc hr
    exact r_pick (ls1 := [(0, .ref (ad g 1)), (1, .ref (ad g x1_)), (3, .int u3_), (4, .int u4_), (6, .ref (ad g o6_)), (7, .int x7_), (8, .int v8_)]) [0, 1, 3, 4, 5, 6, 7] rfl (hj162  hr)
  replace hr := ite_t hc hr
  refine r_iconst (pc := 158) (v := (1 : Int32)) dL_scans_158 rfl ?_
  refine r_goto (pc := 159) (tgt := 163) dL_scans_159 rfl ?_
  refine r_istore_n (pc := 163) (ls1 := [(2, .int (1 : Int32)), (0, .ref (ad g 1)), (1, .ref (ad g x1_)), (3, .int u3_), (4, .int u4_), (6, .ref (ad g o6_)), (7, .int x7_), (8, .int v8_)]) dL_scans_163 rfl (nle rfl) rfl ?_
  refine r_iinc (pc := 164) (j := 7) (v := (v8_ + (1 : Int32))) (ls1 := [(8, .int (v8_ + (1 : Int32))), (2, .int (1 : Int32)), (0, .ref (ad g 1)), (1, .ref (ad g x1_)), (3, .int u3_), (4, .int u4_), (6, .ref (ad g o6_)), (7, .int x7_)]) dL_scans_164 rfl rfl (nle rfl) rfl ?_
  refine r_goto (pc := 167) (tgt := 125) dL_scans_167 rfl ?_
  exact r_pick (ls1 := [(0, .ref (ad g 1)), (1, .ref (ad g x1_)), (2, .int (1 : Int32)), (3, .int u3_), (4, .int u4_), (6, .ref (ad g o6_)), (7, .int x7_), (8, .int (v8_ + (1 : Int32)))]) [2, 3, 1, 4, 5, 6, 7, 0] rfl (ih (1 : Int32) (v8_ + (1 : Int32)) hr)

set_option maxRecDepth 20000 in
theorem sL_scans_L180 {g : GG} {r : Bool × SS} {x1_ : Nat} {x2_ : Int32} {x3_ : Int32} {x7_ : Int32} {zc_ zs_ : Nat} {k232 : Int32 → SS → Option (Bool × SS)} (hz_ : zc_ ≤ mL_scans.2.2.2.2.cells ∧ zs_ ≤ mL_scans.2.2.2.2.slots)
    (hk232 : ∀ (y8 : Int32) (σ_ : SS), k232 y8 σ_ = some r → WT σ_ → RR g mL_scans (FinR g mL_scans (some (.int (b2i r.1))) NF r.2) (NF, zc_, zs_) 232 [(0, .ref (ad g 1)), (1, .ref (ad g x1_)), (2, .int x2_), (3, .int x3_), (7, .int x7_), (8, .int y8)] [] σ_)
    (n : Nat) : ∀ (v8_ : Int32) (v9_ : Int32) (v10_ : Int32) (σ_ : SS), L_scans_L180 k232 n v8_ v9_ v10_ σ_ = some r → WT σ_ → RR g mL_scans (FinR g mL_scans (some (.int (b2i r.1))) NF r.2) (NF, zc_, zs_) 180 [(0, .ref (ad g 1)), (1, .ref (ad g x1_)), (2, .int x2_), (3, .int x3_), (7, .int x7_), (8, .int v8_), (9, .int v9_), (10, .int v10_)] [] σ_ := by
  unfold L_scans_L180
  refine lp_ind (P := fun (rec : Int32 → Int32 → Int32 → SS → Option (Bool × SS)) => ∀ (v8_ : Int32) (v9_ : Int32) (v10_ : Int32) (σ_ : SS), rec v8_ v9_ v10_ σ_ = some r → WT σ_ → RR g mL_scans (FinR g mL_scans (some (.int (b2i r.1))) NF r.2) (NF, zc_, zs_) 180 [(0, .ref (ad g 1)), (1, .ref (ad g x1_)), (2, .int x2_), (3, .int x3_), (7, .int x7_), (8, .int v8_), (9, .int v9_), (10, .int v10_)] [] σ_) ?_ ?_ n
  · intro v8_ v9_ v10_ σ_ hr; cases hr
  intro rec ih v8_ v9_ v10_ σ_ hr hw_
  refine r_iload (pc := 180) (j := 7) dL_scans_180 rfl ?_
  refine r_iconst (pc := 182) (v := (4 : Int32)) dL_scans_182 rfl ?_
  refine r_icmp_ge (pc := 183) (tgt := 232) dL_scans_183 rfl (fun hc => ?_) (fun hc => ?_)
  · replace hr := ite_t hc hr
    exact r_pick (ls1 := [(0, .ref (ad g 1)), (1, .ref (ad g x1_)), (2, .int x2_), (3, .int x3_), (7, .int x7_), (8, .int v8_)]) [0, 1, 2, 3, 4, 5] rfl (hk232 v8_ σ_ hr hw_)
  replace hr := ite_f hc hr
  refine r_aload_n (pc := 186) (j := 0) dL_scans_186 rfl rfl ?_
  obtain ⟨v38, σ41, eσ41, hr⟩ := bnd_inv hr
  refine qX7_marked (pc := 187) eσ41 tw_2_200 hz_ ⟨nle rfl, nle rfl⟩ (nle rfl) dL_scans_187 fun hσ41 => ?_
  refine r_iconst (pc := 190) (v := (1 : Int32)) dL_scans_190 rfl ?_
  obtain ⟨j220, ej220, hr⟩ := vth_ex hr
  have hj220 : ∀ (v42 : Int32) (v43 : Int32) (σ44 : SS), j220 v42 v43 σ44 = some r → WT σ44 → RR g mL_scans (FinR g mL_scans (some (.int (b2i r.1))) NF r.2) (NF, zc_, zs_) 220 [(0, .ref (ad g 1)), (1, .ref (ad g x1_)), (2, .int x2_), (3, .int x3_), (7, .int x7_), (8, .int v42), (9, .int v43), (10, .int v10_)] [] σ44 := by
    intro v42 v43 σ44 hr hσ44
    replace hr := (congrFun (congrFun (congrFun ej220 v42) v43) σ44).symm.trans hr
    refine r_aload_n (pc := 220) (j := 0) dL_scans_220 rfl rfl ?_
    refine r_iconst (pc := 221) (v := (1 : Int32)) dL_scans_221 rfl ?_
    obtain ⟨v45, σ48, eσ48, hr⟩ := bnd_inv hr
    refine qX7_turn (pc := 222) eσ48 tw_4_187 hz_ ⟨nle rfl, nle rfl⟩ (nle rfl) dL_scans_222 fun hσ48 => ?_
    refine r_pop (pc := 225) dL_scans_225 rfl ?_
    refine r_iinc (pc := 226) (j := 7) (v := (v10_ + (1 : Int32))) (ls1 := [(10, .int (v10_ + (1 : Int32))), (0, .ref (ad g 1)), (1, .ref (ad g x1_)), (2, .int x2_), (3, .int x3_), (7, .int x7_), (8, .int v42), (9, .int v43)]) dL_scans_226 rfl rfl (nle rfl) rfl ?_
    refine r_goto (pc := 229) (tgt := 180) dL_scans_229 rfl ?_
    exact r_pick (ls1 := [(0, .ref (ad g 1)), (1, .ref (ad g x1_)), (2, .int x2_), (3, .int x3_), (7, .int x7_), (8, .int v42), (9, .int v43), (10, .int (v10_ + (1 : Int32)))]) [1, 2, 3, 4, 5, 6, 7, 0] rfl (ih v42 v43 (v10_ + (1 : Int32)) σ48 hr hσ48)
  refine r_icmp_ne (pc := 191) (tgt := 220) dL_scans_191 rfl (fun hc => ?_) (fun hc => ?_)
  · replace hr := ite_f hc hr
    exact r_pick (ls1 := [(0, .ref (ad g 1)), (1, .ref (ad g x1_)), (2, .int x2_), (3, .int x3_), (7, .int x7_), (8, .int v8_), (9, .int v9_), (10, .int v10_)]) [0, 1, 2, 3, 4, 5, 6, 7] rfl (hj220 v8_ v9_ σ41 hr hσ41)
  replace hr := ite_t hc hr
  refine r_iload (pc := 194) (j := 5) dL_scans_194 rfl ?_
  obtain ⟨j209, ej209, hr⟩ := vth_ex hr
  have hj209 : ∀ (σ49 : SS), j209 σ49 = some r → WT σ49 → RR g mL_scans (FinR g mL_scans (some (.int (b2i r.1))) NF r.2) (NF, zc_, zs_) 209 [(0, .ref (ad g 1)), (1, .ref (ad g x1_)), (2, .int x2_), (3, .int x3_), (7, .int x7_), (10, .int v10_)] [] σ49 := by
    intro σ49 hr hσ49
    replace hr := (congrFun ej209 σ49).symm.trans hr
    refine r_iload (pc := 209) (j := 5) dL_scans_209 rfl ?_
    refine r_istore (pc := 211) (ls1 := [(8, .int v10_), (0, .ref (ad g 1)), (1, .ref (ad g x1_)), (2, .int x2_), (3, .int x3_), (7, .int x7_), (10, .int v10_)]) dL_scans_211 (nle rfl) rfl ?_
    refine r_aload_n (pc := 213) (j := 1) dL_scans_213 rfl rfl ?_
    refine r_iconst (pc := 214) (v := (0 : Int32)) dL_scans_214 rfl ?_
    obtain ⟨v50, σ53, eσ53, hr⟩ := bnd_inv hr
    refine qX7_sheet (pc := 215) eσ53 tw_3_5 hz_ ⟨nle rfl, nle rfl⟩ (nle rfl) dL_scans_215 fun hσ53 => ?_
    refine r_istore (pc := 218) (ls1 := [(9, .int v50), (8, .int v10_), (0, .ref (ad g 1)), (1, .ref (ad g x1_)), (2, .int x2_), (3, .int x3_), (7, .int x7_), (10, .int v10_)]) dL_scans_218 (nle rfl) rfl ?_
    exact r_pick (ls1 := [(0, .ref (ad g 1)), (1, .ref (ad g x1_)), (2, .int x2_), (3, .int x3_), (7, .int x7_), (8, .int v10_), (9, .int v50), (10, .int v10_)]) [2, 3, 4, 5, 6, 1, 0, 7] rfl (hj220 v10_ v50 σ53 hr hσ53)
  refine r_if_lt (pc := 196) (tgt := 209) dL_scans_196 rfl (fun hc => ?_) (fun hc => ?_)
  · replace hr := ite_t hc hr
    exact r_pick (ls1 := [(0, .ref (ad g 1)), (1, .ref (ad g x1_)), (2, .int x2_), (3, .int x3_), (7, .int x7_), (10, .int v10_)]) [0, 1, 2, 3, 4, 7] rfl (hj209 σ41 hr hσ41)
  replace hr := ite_f hc hr
  refine r_aload_n (pc := 199) (j := 0) dL_scans_199 rfl rfl ?_
  refine r_iconst (pc := 200) (v := (0 : Int32)) dL_scans_200 rfl ?_
  obtain ⟨v54, σ57, eσ57, hr⟩ := bnd_inv hr
  refine qX7_sheet (pc := 201) eσ57 tw_3_5 hz_ ⟨nle rfl, nle rfl⟩ (nle rfl) dL_scans_201 fun hσ57 => ?_
  refine r_iload (pc := 204) (j := 6) dL_scans_204 rfl ?_
  refine r_icmp_le (pc := 206) (tgt := 220) dL_scans_206 rfl (fun hc => ?_) (fun hc => ?_)
  · replace hr := ite_t hc hr
    exact r_pick (ls1 := [(0, .ref (ad g 1)), (1, .ref (ad g x1_)), (2, .int x2_), (3, .int x3_), (7, .int x7_), (8, .int v8_), (9, .int v9_), (10, .int v10_)]) [0, 1, 2, 3, 4, 5, 6, 7] rfl (hj220 v8_ v9_ σ57 hr hσ57)
  replace hr := ite_f hc hr
  exact r_pick (ls1 := [(0, .ref (ad g 1)), (1, .ref (ad g x1_)), (2, .int x2_), (3, .int x3_), (7, .int x7_), (10, .int v10_)]) [0, 1, 2, 3, 4, 7] rfl (hj209 σ57 hr hσ57)

set_option maxRecDepth 20000 in
set_option maxHeartbeats 4000000 in
theorem sL_scans {g : GG} {σ : SS} {a1 : Nat} {r : Bool × SS} (hr : fL_scans σ a1 = some r)  : Ct g mL_scans [.ref (ad g 1), .ref (ad g a1)] NF σ (some (.int (b2i r.1))) NF r.2 := by
  refine Ct.of (by decide +kernel) (nle rfl) fun hw0 => ?_
  have hw := hw0 rfl
  unfold fL_scans at hr
  change RR g mL_scans (FinR g mL_scans (some (.int (b2i r.1))) NF r.2) (NF, 0, 0) 0 [(0, .ref (ad g 1)), (1, .ref (ad g a1))] [] σ
  refine r_aload_n (pc := 0) (j := 0) dL_scans_0 rfl rfl ?_
  refine r_iconst (pc := 1) (v := (0 : Int32)) dL_scans_1 rfl ?_
  obtain ⟨b2, σ4, eσ4, hr⟩ := bnd_inv hr
  refine qX7_keep (pc := 2) eσ4 tw_4_178 ⟨nle rfl, nle rfl⟩ ⟨nle rfl, nle rfl⟩ (nle rfl) dL_scans_2 fun hσ4 => ?_
  refine r_istore_n (pc := 5) (ls1 := [(2, .int (b2i b2)), (0, .ref (ad g 1)), (1, .ref (ad g a1))]) dL_scans_5 rfl (nle rfl) rfl ?_
  refine r_aload_n (pc := 6) (j := 1) dL_scans_6 rfl rfl ?_
  refine r_iconst (pc := 7) (v := (0 : Int32)) dL_scans_7 rfl ?_
  obtain ⟨v5, hv5, hr⟩ := bnd1_inv hr
  refine qX7_count (pc := 8) hv5 tw_2_146 ⟨nle rfl, nle rfl⟩ ⟨nle rfl, nle rfl⟩ (nle rfl) dL_scans_8 ?_
  refine r_istore_n (pc := 11) (ls1 := [(3, .int v5), (2, .int (b2i b2)), (0, .ref (ad g 1)), (1, .ref (ad g a1))]) dL_scans_11 rfl (nle rfl) rfl ?_
  refine r_aload_n (pc := 12) (j := 2) dL_scans_12 rfl rfl ?_
  refine r_iconst (pc := 13) (v := (1 : Int32)) dL_scans_13 rfl ?_
  obtain ⟨v8, hv8, hr⟩ := bnd1_inv hr
  refine qX7_count (pc := 14) hv8 tw_2_146 ⟨nle rfl, nle rfl⟩ ⟨nle rfl, nle rfl⟩ (nle rfl) dL_scans_14 ?_
  refine r_istore (pc := 17) (ls1 := [(4, .int v8), (3, .int v5), (2, .int (b2i b2)), (0, .ref (ad g 1)), (1, .ref (ad g a1))]) dL_scans_17 (nle rfl) rfl ?_
  refine r_aload_n (pc := 19) (j := 4) dL_scans_19 rfl rfl ?_
  obtain ⟨v11, σ14, eσ14, hr⟩ := bnd_inv hr
  refine qL_next (pc := 20) eσ14 tw_3_125 ⟨nle rfl, nle rfl⟩ ⟨nle rfl, nle rfl⟩ (nle rfl) dL_scans_20 fun hσ14 => ?_
  refine r_iconst (pc := 23) (v := (4 : Int32)) dL_scans_23 rfl ?_
  refine r_irem (pc := 24) dL_scans_24 (by decide) ?_
  refine r_topi fun v15 ev15 => ?_
  replace hr := vthen_inv hr v15 ev15
  refine r_istore (pc := 25) (ls1 := [(5, .int v15), (4, .int v8), (3, .int v5), (2, .int (b2i b2)), (0, .ref (ad g 1)), (1, .ref (ad g a1))]) dL_scans_25 (nle rfl) rfl ?_
  refine r_iload_n (pc := 27) (j := 2) dL_scans_27 rfl rfl ?_
  refine r_iload (pc := 28) (j := 1) dL_scans_28 rfl ?_
  refine r_imul (pc := 30) dL_scans_30 ?_
  obtain ⟨h18, hr⟩ := grd_inv hr
  refine y_new (pc := 31) (N := (Int32.toNatClampNeg (v5 * v8))) tw_1_50 (z_nn h18) rfl (by have := z_lt h18; omega) (by have := z_lt h18; exact ⟨nle rfl, by show 0 + _ ≤ 1600; omega⟩) dL_scans_31 fun c17 ec17 σ16 eσ16 => ?_
  replace hr := vthen_inv hr c17 ec17
  replace hr := vthen_inv hr σ16 eσ16
  have hσ16 := wtM eσ16 hσ14
  refine r_wid (c2 := 1) (s2 := 1600) (by have := z_lt h18; exact ⟨nle rfl, by omega⟩) ?_
  refine r_astore (pc := 33) (ls1 := [(6, .ref (ad g c17)), (5, .int v15), (4, .int v8), (3, .int v5), (2, .int (b2i b2)), (0, .ref (ad g 1)), (1, .ref (ad g a1))]) dL_scans_33 (nle rfl) rfl ?_
  refine r_iconst (pc := 35) (v := (0 : Int32)) dL_scans_35 rfl ?_
  refine r_istore (pc := 36) (ls1 := [(7, .int (0 : Int32)), (6, .ref (ad g c17)), (5, .int v15), (4, .int v8), (3, .int v5), (2, .int (b2i b2)), (0, .ref (ad g 1)), (1, .ref (ad g a1))]) dL_scans_36 (nle rfl) rfl ?_
  refine r_pick (ls1 := [(0, .ref (ad g 1)), (1, .ref (ad g a1)), (2, .int (b2i b2)), (3, .int v5), (4, .int v8), (5, .int v15), (6, .ref (ad g c17)), (7, .int (0 : Int32))]) [6, 7, 5, 4, 3, 2, 1, 0] rfl ?_
  refine sL_scans_L38 ⟨nle rfl, nle rfl⟩   (fun σ25 hr hσ25 => ?_) fuel (0 : Int32) σ16 hr hσ16
  refine r_aload_n (pc := 70) (j := 0) dL_scans_70 rfl rfl ?_
  obtain ⟨v26, σ29, eσ29, hr⟩ := bnd_inv hr
  refine qX7_up (pc := 71) eσ29 tw_3_102 ⟨nle rfl, nle rfl⟩ ⟨nle rfl, nle rfl⟩ (nle rfl) dL_scans_71 fun hσ29 => ?_
  refine r_istore (pc := 74) (ls1 := [(7, .int v26), (0, .ref (ad g 1)), (1, .ref (ad g a1)), (2, .int (b2i b2)), (3, .int v5), (4, .int v8), (5, .int v15), (6, .ref (ad g c17))]) dL_scans_74 (nle rfl) rfl ?_
  refine r_iload_n (pc := 76) (j := 3) dL_scans_76 rfl rfl ?_
  obtain ⟨j121, ej121, hr⟩ := vth_ex hr
  have hj121 : ∀ (s30 : Int32) (σ31 : SS), j121 s30 σ31 = some r → WT σ31 → RR g mL_scans (FinR g mL_scans (some (.int (b2i r.1))) NF r.2) (NF, 1, 1600) 121 [(0, .ref (ad g 1)), (1, .ref (ad g a1)), (3, .int v5), (4, .int v8), (6, .ref (ad g c17)), (7, .int v26)] [.int s30] σ31 := by
    intro s30 σ31 hr hσ31
    replace hr := (congrFun (congrFun ej121 s30) σ31).symm.trans hr
    refine r_istore_n (pc := 121) (ls1 := [(2, .int s30), (0, .ref (ad g 1)), (1, .ref (ad g a1)), (3, .int v5), (4, .int v8), (6, .ref (ad g c17)), (7, .int v26)]) dL_scans_121 rfl (nle rfl) rfl ?_
    refine r_iconst (pc := 122) (v := (0 : Int32)) dL_scans_122 rfl ?_
    refine r_istore (pc := 123) (ls1 := [(8, .int (0 : Int32)), (2, .int s30), (0, .ref (ad g 1)), (1, .ref (ad g a1)), (3, .int v5), (4, .int v8), (6, .ref (ad g c17)), (7, .int v26)]) dL_scans_123 (nle rfl) rfl ?_
    refine r_pick (ls1 := [(0, .ref (ad g 1)), (1, .ref (ad g a1)), (2, .int s30), (3, .int v5), (4, .int v8), (6, .ref (ad g c17)), (7, .int v26), (8, .int (0 : Int32))]) [2, 3, 1, 4, 5, 6, 7, 0] rfl ?_
    refine sL_scans_L125 ⟨nle rfl, nle rfl⟩ hσ31  (fun v37 hr => ?_) fuel s30 (0 : Int32) hr
    refine r_bipush (pc := 170) (v := (-2 : Int32)) dL_scans_170 rfl ?_
    refine r_istore (pc := 172) (ls1 := [(8, .int (-2 : Int32)), (0, .ref (ad g 1)), (1, .ref (ad g a1)), (2, .int v37), (3, .int v5), (7, .int v26)]) dL_scans_172 (nle rfl) rfl ?_
    refine r_iconst (pc := 174) (v := (0 : Int32)) dL_scans_174 rfl ?_
    refine r_istore (pc := 175) (ls1 := [(9, .int (0 : Int32)), (8, .int (-2 : Int32)), (0, .ref (ad g 1)), (1, .ref (ad g a1)), (2, .int v37), (3, .int v5), (7, .int v26)]) dL_scans_175 (nle rfl) rfl ?_
    refine r_iconst (pc := 177) (v := (0 : Int32)) dL_scans_177 rfl ?_
    refine r_istore (pc := 178) (ls1 := [(10, .int (0 : Int32)), (9, .int (0 : Int32)), (8, .int (-2 : Int32)), (0, .ref (ad g 1)), (1, .ref (ad g a1)), (2, .int v37), (3, .int v5), (7, .int v26)]) dL_scans_178 (nle rfl) rfl ?_
    refine r_pick (ls1 := [(0, .ref (ad g 1)), (1, .ref (ad g a1)), (2, .int v37), (3, .int v5), (7, .int v26), (8, .int (-2 : Int32)), (9, .int (0 : Int32)), (10, .int (0 : Int32))]) [3, 4, 5, 6, 7, 2, 1, 0] rfl ?_
    refine sL_scans_L180 ⟨nle rfl, nle rfl⟩   (fun v58 σ59 hr hσ59 => ?_) fuel (-2 : Int32) (0 : Int32) (0 : Int32) σ31 hr hσ31
    refine r_iload_n (pc := 232) (j := 2) dL_scans_232 rfl rfl ?_
    obtain ⟨j266, ej266, hr⟩ := vth_ex hr
    have hj266 : ∀ (s60 : Int32), j266 s60 = some r → RR g mL_scans (FinR g mL_scans (some (.int (b2i r.1))) NF r.2) (NF, 1, 1600) 266 [(0, .ref (ad g 1)), (1, .ref (ad g a1))] [.int s60] σ59 := by
      intro s60 hr
      replace hr := (congrFun ej266 s60).symm.trans hr
      refine r_istore_n (pc := 266) (ls1 := [(2, .int s60), (0, .ref (ad g 1)), (1, .ref (ad g a1))]) dL_scans_266 rfl (nle rfl) rfl ?_
      refine r_aload_n (pc := 267) (j := 2) dL_scans_267 rfl rfl ?_
      obtain ⟨v61, σ64, eσ64, hr⟩ := bnd_inv hr
      refine qL_next (pc := 268) eσ64 tw_3_125 ⟨nle rfl, nle rfl⟩ ⟨nle rfl, nle rfl⟩ (nle rfl) dL_scans_268 fun hσ64 => ?_
      refine r_ldc (pc := 271) (v := (65536 : Int32)) dL_scans_271 tw_4_195 ?_
      refine r_irem (pc := 273) dL_scans_273 (by decide) ?_
      refine r_topi fun v65 ev65 => ?_
      replace hr := vthen_inv hr v65 ev65
      refine r_istore (pc := 274) (ls1 := [(10, .int v65), (2, .int s60), (0, .ref (ad g 1)), (1, .ref (ad g a1))]) dL_scans_274 (nle rfl) rfl ?_
      refine r_aload_n (pc := 276) (j := 2) dL_scans_276 rfl rfl ?_
      refine r_iload (pc := 277) (j := 0) dL_scans_277 rfl ?_
      obtain ⟨v66, σ69, eσ69, hr⟩ := bnd_inv hr
      refine qX7_seed (pc := 279) eσ69 tw_4_196 ⟨nle rfl, nle rfl⟩ ⟨nle rfl, nle rfl⟩ (nle rfl) dL_scans_279 fun hσ69 => ?_
      refine r_pop (pc := 282) dL_scans_282 rfl ?_
      refine r_aload_n (pc := 283) (j := 2) dL_scans_283 rfl rfl ?_
      refine r_bipush (pc := 284) (v := (60 : Int32)) dL_scans_284 rfl ?_
      obtain ⟨v70, σ73, eσ73, hr⟩ := bnd_inv hr
      refine qX7_noise (pc := 286) eσ73 tw_2_158 ⟨nle rfl, nle rfl⟩ ⟨nle rfl, nle rfl⟩ (nle rfl) dL_scans_286 fun hσ73 => ?_
      refine r_istore (pc := 289) (ls1 := [(11, .int v70), (10, .int v65), (2, .int s60), (0, .ref (ad g 1)), (1, .ref (ad g a1))]) dL_scans_289 (nle rfl) rfl ?_
      refine r_aload_n (pc := 291) (j := 3) dL_scans_291 rfl rfl ?_
      refine r_bipush (pc := 292) (v := (10 : Int32)) dL_scans_292 rfl ?_
      obtain ⟨v74, hv74, hr⟩ := bnd1_inv hr
      refine qX7_count (pc := 294) hv74 tw_2_146 ⟨nle rfl, nle rfl⟩ ⟨nle rfl, nle rfl⟩ (nle rfl) dL_scans_294 ?_
      refine r_istore (pc := 297) (ls1 := [(12, .int v74), (11, .int v70), (10, .int v65), (2, .int s60), (0, .ref (ad g 1)), (1, .ref (ad g a1))]) dL_scans_297 (nle rfl) rfl ?_
      refine r_aload_n (pc := 299) (j := 4) dL_scans_299 rfl rfl ?_
      refine r_bipush (pc := 300) (v := (7 : Int32)) dL_scans_300 rfl ?_
      obtain ⟨v77, hv77, hr⟩ := bnd1_inv hr
      refine qX7_count (pc := 302) hv77 tw_2_146 ⟨nle rfl, nle rfl⟩ ⟨nle rfl, nle rfl⟩ (nle rfl) dL_scans_302 ?_
      refine r_istore (pc := 305) (ls1 := [(13, .int v77), (12, .int v74), (11, .int v70), (10, .int v65), (2, .int s60), (0, .ref (ad g 1)), (1, .ref (ad g a1))]) dL_scans_305 (nle rfl) rfl ?_
      refine r_iload_n (pc := 307) (j := 4) dL_scans_307 rfl rfl ?_
      obtain ⟨j379, ej379, hr⟩ := vth_ex hr
      have hj379 : ∀ (σ80 : SS), j379 σ80 = some r → WT σ80 → RR g mL_scans (FinR g mL_scans (some (.int (b2i r.1))) NF r.2) (NF, 1, 1600) 379 [] [] σ80 := by
        intro σ80 hr hσ80
        replace hr := (congrFun ej379 σ80).symm.trans hr
        refine r_iconst (pc := 379) (v := (0 : Int32)) dL_scans_379 rfl ?_
        refine r_istore_n (pc := 380) (ls1 := [(2, .int (0 : Int32))]) dL_scans_380 rfl (nle rfl) rfl ?_
        refine r_iload_n (pc := 381) (j := 0) dL_scans_381 rfl rfl ?_
        exact l_osz hr (r_zret (pc := 382) (v := b2i false) (ty := .boolean) rfl (b2i_nar _) rfl ⟨nle rfl, nle rfl⟩ dL_scans_382)
      refine r_if_eq (pc := 308) (tgt := 379) dL_scans_308 rfl (fun hc => ?_) (fun hc => ?_)
      · replace hr := ite_t hc hr
        exact r_pick (ls1 := []) [] rfl (hj379 σ73 hr hσ73)
      replace hr := ite_f hc hr
      refine r_iload (pc := 311) (j := 2) dL_scans_311 rfl ?_
      refine r_if_lt (pc := 313) (tgt := 379) dL_scans_313 rfl (fun hc => ?_) (fun hc => ?_)
      · replace hr := ite_t hc hr
        exact r_pick (ls1 := []) [] rfl (hj379 σ73 hr hσ73)
      replace hr := ite_f hc hr
      refine r_iload (pc := 316) (j := 2) dL_scans_316 rfl ?_
      refine r_bipush (pc := 318) (v := (60 : Int32)) dL_scans_318 rfl ?_
      refine r_icmp_gt (pc := 320) (tgt := 379) dL_scans_320 rfl (fun hc => ?_) (fun hc => ?_)
      · replace hr := ite_t hc hr
        exact r_pick (ls1 := []) [] rfl (hj379 σ73 hr hσ73)
      replace hr := ite_f hc hr
      refine r_aload_n (pc := 323) (j := 5) dL_scans_323 rfl rfl ?_
      refine r_iconst (pc := 324) (v := (0 : Int32)) dL_scans_324 rfl ?_
      obtain ⟨b82, σ84, eσ84, hr⟩ := bnd_inv hr
      refine qX7_back (pc := 325) eσ84 tw_2_185 ⟨nle rfl, nle rfl⟩ ⟨nle rfl, nle rfl⟩ (nle rfl) dL_scans_325 fun hσ84 => ?_
      refine r_ifB_eq (pc := 328) (tgt := 379) dL_scans_328 rfl (fun hc => ?_) (fun hc => ?_)
      · replace hr := ite_f hc hr
        exact r_pick (ls1 := []) [] rfl (hj379 σ84 hr hσ84)
      replace hr := ite_t hc hr
      refine r_aload_n (pc := 331) (j := 5) dL_scans_331 rfl rfl ?_
      refine r_iload (pc := 332) (j := 3) dL_scans_332 rfl ?_
      obtain ⟨v85, σ88, eσ88, hr⟩ := bnd_inv hr
      refine qX7_seed (pc := 334) eσ88 tw_4_196 ⟨nle rfl, nle rfl⟩ ⟨nle rfl, nle rfl⟩ (nle rfl) dL_scans_334 fun hσ88 => ?_
      refine r_iload (pc := 337) (j := 0) dL_scans_337 rfl ?_
      refine r_icmp_ne (pc := 339) (tgt := 379) dL_scans_339 rfl (fun hc => ?_) (fun hc => ?_)
      · replace hr := ite_f hc hr
        exact r_pick (ls1 := []) [] rfl (hj379 σ88 hr hσ88)
      replace hr := ite_t hc hr
      refine r_aload_n (pc := 342) (j := 5) dL_scans_342 rfl rfl ?_
      refine r_bipush (pc := 343) (v := (60 : Int32)) dL_scans_343 rfl ?_
      obtain ⟨v89, σ92, eσ92, hr⟩ := bnd_inv hr
      refine qX7_noise (pc := 345) eσ92 tw_2_158 ⟨nle rfl, nle rfl⟩ ⟨nle rfl, nle rfl⟩ (nle rfl) dL_scans_345 fun hσ92 => ?_
      refine r_iload (pc := 348) (j := 2) dL_scans_348 rfl ?_
      refine r_icmp_ne (pc := 350) (tgt := 379) dL_scans_350 rfl (fun hc => ?_) (fun hc => ?_)
      · replace hr := ite_f hc hr
        exact r_pick (ls1 := []) [] rfl (hj379 σ92 hr hσ92)
      replace hr := ite_t hc hr
      refine r_aload_n (pc := 353) (j := 5) dL_scans_353 rfl rfl ?_
      refine r_bipush (pc := 354) (v := (10 : Int32)) dL_scans_354 rfl ?_
      obtain ⟨v93, hv93, hr⟩ := bnd1_inv hr
      refine qX7_count (pc := 356) hv93 tw_2_146 ⟨nle rfl, nle rfl⟩ ⟨nle rfl, nle rfl⟩ (nle rfl) dL_scans_356 ?_
      refine r_iload (pc := 359) (j := 1) dL_scans_359 rfl ?_
      refine r_icmp_ne (pc := 361) (tgt := 379) dL_scans_361 rfl (fun hc => ?_) (fun hc => ?_)
      · replace hr := ite_f hc hr
        exact r_pick (ls1 := []) [] rfl (hj379 σ92 hr hσ92)
      replace hr := ite_t hc hr
      refine r_aload_n (pc := 364) (j := 5) dL_scans_364 rfl rfl ?_
      refine r_bipush (pc := 365) (v := (7 : Int32)) dL_scans_365 rfl ?_
      obtain ⟨v96, hv96, hr⟩ := bnd1_inv hr
      refine qX7_count (pc := 367) hv96 tw_2_146 ⟨nle rfl, nle rfl⟩ ⟨nle rfl, nle rfl⟩ (nle rfl) dL_scans_367 ?_
      refine r_iload (pc := 370) (j := 0) dL_scans_370 rfl ?_
      refine r_icmp_ne (pc := 372) (tgt := 379) dL_scans_372 rfl (fun hc => ?_) (fun hc => ?_)
      · replace hr := ite_f hc hr
        exact r_pick (ls1 := []) [] rfl (hj379 σ92 hr hσ92)
      replace hr := ite_t hc hr
      refine r_iconst (pc := 375) (v := (1 : Int32)) dL_scans_375 rfl ?_
      refine r_goto (pc := 376) (tgt := 380) dL_scans_376 rfl ?_
      refine r_istore_n (pc := 380) (ls1 := [(2, .int (1 : Int32)), (13, .int v77), (12, .int v74), (11, .int v70), (10, .int v65), (0, .ref (ad g 1)), (1, .ref (ad g a1))]) dL_scans_380 rfl (nle rfl) rfl ?_
      refine r_iload_n (pc := 381) (j := 0) dL_scans_381 rfl rfl ?_
      exact l_osz hr (r_zret (pc := 382) (v := b2i true) (ty := .boolean) rfl (b2i_nar _) rfl ⟨nle rfl, nle rfl⟩ dL_scans_382)
    obtain ⟨j265, ej265, hr⟩ := vth_ex hr
    have hj265 : j265 () = some r → RR g mL_scans (FinR g mL_scans (some (.int (b2i r.1))) NF r.2) (NF, 1, 1600) 265 [(0, .ref (ad g 1)), (1, .ref (ad g a1))] [] σ59 := by
      intro  hr
      replace hr := (congrFun ej265 ()).symm.trans hr
      refine r_iconst (pc := 265) (v := (0 : Int32)) dL_scans_265 rfl ?_
      exact r_pick (ls1 := [(0, .ref (ad g 1)), (1, .ref (ad g a1))]) [0, 1] rfl (hj266 (0 : Int32) hr)
    refine r_if_eq (pc := 233) (tgt := 265) dL_scans_233 rfl (fun hc => ?_) (fun hc => ?_)
    · replace hr := ite_t hc hr
      exact r_pick (ls1 := [(0, .ref (ad g 1)), (1, .ref (ad g a1))]) [0, 1] rfl (hj265  hr)
    replace hr := ite_f hc hr
    refine r_iload (pc := 236) (j := 4) dL_scans_236 rfl ?_
    refine r_iload (pc := 238) (j := 5) dL_scans_238 rfl ?_
    refine r_icmp_ne (pc := 240) (tgt := 265) dL_scans_240 rfl (fun hc => ?_) (fun hc => ?_)
    · replace hr := ite_f hc hr
      exact r_pick (ls1 := [(0, .ref (ad g 1)), (1, .ref (ad g a1))]) [0, 1] rfl (hj265  hr)
    replace hr := ite_t hc hr
    refine r_aload_n (pc := 243) (j := 0) dL_scans_243 rfl rfl ?_
    refine r_iconst (pc := 244) (v := (0 : Int32)) dL_scans_244 rfl ?_
    obtain ⟨v99, hv99, hr⟩ := bnd1_inv hr
    refine qX7_count (pc := 245) hv99 tw_2_146 ⟨nle rfl, nle rfl⟩ ⟨nle rfl, nle rfl⟩ (nle rfl) dL_scans_245 ?_
    refine r_iload_n (pc := 248) (j := 3) dL_scans_248 rfl rfl ?_
    refine r_icmp_ne (pc := 249) (tgt := 265) dL_scans_249 rfl (fun hc => ?_) (fun hc => ?_)
    · replace hr := ite_f hc hr
      exact r_pick (ls1 := [(0, .ref (ad g 1)), (1, .ref (ad g a1))]) [0, 1] rfl (hj265  hr)
    replace hr := ite_t hc hr
    refine r_aload_n (pc := 252) (j := 0) dL_scans_252 rfl rfl ?_
    refine r_bipush (pc := 253) (v := (10 : Int32)) dL_scans_253 rfl ?_
    obtain ⟨v102, hv102, hr⟩ := bnd1_inv hr
    refine qX7_count (pc := 255) hv102 tw_2_146 ⟨nle rfl, nle rfl⟩ ⟨nle rfl, nle rfl⟩ (nle rfl) dL_scans_255 ?_
    refine r_if_lt (pc := 258) (tgt := 265) dL_scans_258 rfl (fun hc => ?_) (fun hc => ?_)
    · replace hr := ite_t hc hr
      exact r_pick (ls1 := [(0, .ref (ad g 1)), (1, .ref (ad g a1))]) [0, 1] rfl (hj265  hr)
    replace hr := ite_f hc hr
    refine r_iconst (pc := 261) (v := (1 : Int32)) dL_scans_261 rfl ?_
    refine r_goto (pc := 262) (tgt := 266) dL_scans_262 rfl ?_
    exact r_pick (ls1 := [(0, .ref (ad g 1)), (1, .ref (ad g a1))]) [0, 1] rfl (hj266 (1 : Int32) hr)
  obtain ⟨j120, ej120, hr⟩ := vth_ex hr
  have hj120 : ∀ (σ105 : SS), j120 σ105 = some r → WT σ105 → RR g mL_scans (FinR g mL_scans (some (.int (b2i r.1))) NF r.2) (NF, 1, 1600) 120 [(0, .ref (ad g 1)), (1, .ref (ad g a1)), (3, .int v5), (4, .int v8), (6, .ref (ad g c17)), (7, .int v26)] [] σ105 := by
    intro σ105 hr hσ105
    replace hr := (congrFun ej120 σ105).symm.trans hr
    refine r_iconst (pc := 120) (v := (0 : Int32)) dL_scans_120 rfl ?_
    exact r_pick (ls1 := [(0, .ref (ad g 1)), (1, .ref (ad g a1)), (3, .int v5), (4, .int v8), (6, .ref (ad g c17)), (7, .int v26)]) [0, 1, 2, 3, 4, 5] rfl (hj121 (0 : Int32) σ105 hr hσ105)
  refine r_ifB_eq (pc := 77) (tgt := 120) dL_scans_77 rfl (fun hc => ?_) (fun hc => ?_)
  · replace hr := ite_f hc hr
    exact r_pick (ls1 := [(0, .ref (ad g 1)), (1, .ref (ad g a1)), (3, .int v5), (4, .int v8), (6, .ref (ad g c17)), (7, .int v26)]) [1, 2, 4, 5, 7, 0] rfl (hj120 σ29 hr hσ29)
  replace hr := ite_t hc hr
  refine r_aload_n (pc := 80) (j := 1) dL_scans_80 rfl rfl ?_
  refine r_iload (pc := 81) (j := 6) dL_scans_81 rfl ?_
  obtain ⟨v106, σ109, eσ109, hr⟩ := bnd_inv hr
  refine qX7_turn (pc := 83) eσ109 tw_4_187 ⟨nle rfl, nle rfl⟩ ⟨nle rfl, nle rfl⟩ (nle rfl) dL_scans_83 fun hσ109 => ?_
  refine r_iload (pc := 86) (j := 6) dL_scans_86 rfl ?_
  refine r_iconst (pc := 88) (v := (2 : Int32)) dL_scans_88 rfl ?_
  refine r_irem (pc := 89) dL_scans_89 (by decide) ?_
  obtain ⟨j99, ej99, hr⟩ := vth_ex hr
  have hj99 : ∀ (s110 : Int32), j99 s110 = some r → RR g mL_scans (FinR g mL_scans (some (.int (b2i r.1))) NF r.2) (NF, 1, 1600) 99 [(0, .ref (ad g 1)), (1, .ref (ad g a1)), (3, .int v5), (4, .int v8), (5, .int v15), (6, .ref (ad g c17)), (7, .int v26)] [.int s110, .int v106] σ109 := by
    intro s110 hr
    replace hr := (congrFun ej99 s110).symm.trans hr
    refine r_icmp_ne (pc := 99) (tgt := 120) dL_scans_99 rfl (fun hc => ?_) (fun hc => ?_)
    · replace hr := ite_f hc hr
      exact r_pick (ls1 := [(0, .ref (ad g 1)), (1, .ref (ad g a1)), (3, .int v5), (4, .int v8), (6, .ref (ad g c17)), (7, .int v26)]) [0, 1, 2, 3, 5, 6] rfl (hj120 σ109 hr hσ109)
    replace hr := ite_t hc hr
    refine r_aload_n (pc := 102) (j := 0) dL_scans_102 rfl rfl ?_
    refine r_iconst (pc := 103) (v := (4 : Int32)) dL_scans_103 rfl ?_
    refine r_iload (pc := 104) (j := 4) dL_scans_104 rfl ?_
    refine r_isub (pc := 106) dL_scans_106 ?_
    refine r_iconst (pc := 107) (v := (4 : Int32)) dL_scans_107 rfl ?_
    refine r_irem (pc := 108) dL_scans_108 (by decide) ?_
    obtain ⟨v111, σ114, eσ114, hr⟩ := bnd_inv hr
    refine qX7_turn (pc := 109) eσ114 tw_4_187 ⟨nle rfl, nle rfl⟩ ⟨nle rfl, nle rfl⟩ (nle rfl) dL_scans_109 fun hσ114 => ?_
    refine r_iload_n (pc := 112) (j := 2) dL_scans_112 rfl rfl ?_
    refine r_icmp_ne (pc := 113) (tgt := 120) dL_scans_113 rfl (fun hc => ?_) (fun hc => ?_)
    · replace hr := ite_f hc hr
      exact r_pick (ls1 := [(0, .ref (ad g 1)), (1, .ref (ad g a1)), (3, .int v5), (4, .int v8), (6, .ref (ad g c17)), (7, .int v26)]) [0, 1, 2, 3, 5, 6] rfl (hj120 σ114 hr hσ114)
    replace hr := ite_t hc hr
    refine r_iconst (pc := 116) (v := (1 : Int32)) dL_scans_116 rfl ?_
    refine r_goto (pc := 117) (tgt := 121) dL_scans_117 rfl ?_
    exact r_pick (ls1 := [(0, .ref (ad g 1)), (1, .ref (ad g a1)), (3, .int v5), (4, .int v8), (6, .ref (ad g c17)), (7, .int v26)]) [0, 1, 2, 3, 5, 6] rfl (hj121 (1 : Int32) σ114 hr hσ114)
  refine r_if_ne (pc := 90) (tgt := 97) dL_scans_90 rfl (fun hc => ?_) (fun hc => ?_)
  · replace hr := ite_f hc hr
    refine r_iload (pc := 97) (j := 5) dL_scans_97 rfl ?_
    exact r_pick (ls1 := [(0, .ref (ad g 1)), (1, .ref (ad g a1)), (3, .int v5), (4, .int v8), (5, .int v15), (6, .ref (ad g c17)), (7, .int v26)]) [1, 2, 4, 5, 6, 7, 0] rfl (hj99 v8 hr)
  replace hr := ite_t hc hr
  refine r_iload_n (pc := 93) (j := 4) dL_scans_93 rfl rfl ?_
  refine r_goto (pc := 94) (tgt := 99) dL_scans_94 rfl ?_
  exact r_pick (ls1 := [(0, .ref (ad g 1)), (1, .ref (ad g a1)), (3, .int v5), (4, .int v8), (5, .int v15), (6, .ref (ad g c17)), (7, .int v26)]) [1, 2, 4, 5, 6, 7, 0] rfl (hj99 v5 hr)

theorem qL_scans {g : GG} {σ : SS} {a1 : Nat} {v : Bool} {σ2 : SS} {M : MM} {F : State → Array Value → List Frame → State → Prop} {zc zs pc index : Nat} {ls : List (Nat × Value)} {rest : List Value} (hf : fL_scans σ a1 = some (v, σ2))  (hl : Cond.methodLink M.1.cls index yL_scans ∈ lw_gt) (hz : zc + 1 ≤ M.2.2.2.2.cells ∧ zs + 1600 ≤ M.2.2.2.2.slots) (hR : mL_scans.2.2.2.2.frames + 1 ≤ M.2.2.2.2.frames ∧ 8 + (mL_scans.2.2.1 + 11) + mL_scans.2.2.2.2.locals ≤ M.2.2.2.2.locals) (hrest : (rest.map fun v => v.category).sum ≤ 8) (hd : decode M.2.1 pc = .ok (.invokestatic index, 3)) (k : WT σ2 → RR g M F (NF, zc + 1, zs + 1600) (pc + 3) ls (.int (b2i v) :: rest) σ2) : RR g M F (NF, zc, zs) pc ls (.ref (ad g a1) :: .ref (ad g 1) :: rest) σ :=
  r_callS (z := (NF, zc, zs)) (N := mL_scans) (nn := 2) (o1 := some (.int (b2i v))) (sL_scans hf ) tw_4_177 tw_1_0 hl tw_4_176 ⟨by decide, by decide, rfl⟩ hR rfl hrest hd hz rfl (fun h => k (h rfl))

