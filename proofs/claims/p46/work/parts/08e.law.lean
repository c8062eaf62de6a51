/-! The law's own methods, walked by a program. -/
theorem dL_reads_0 : decode cL_reads 0 = .ok (.iconst 1, 1) := by decide +kernel
theorem dL_reads_1 : decode cL_reads 1 = .ok (.aload_n 2, 1) := by decide +kernel
theorem dL_reads_2 : decode cL_reads 2 = .ok (.invokestatic 14, 3) := by decide +kernel
theorem dL_reads_5 : decode cL_reads 5 = .ok (.bipush 9, 2) := by decide +kernel
theorem dL_reads_7 : decode cL_reads 7 = .ok (.irem, 1) := by decide +kernel
theorem dL_reads_8 : decode cL_reads 8 = .ok (.iadd, 1) := by decide +kernel
theorem dL_reads_9 : decode cL_reads 9 = .ok (.istore 5, 2) := by decide +kernel
theorem dL_reads_11 : decode cL_reads 11 = .ok (.iconst 1, 1) := by decide +kernel
theorem dL_reads_12 : decode cL_reads 12 = .ok (.aload_n 2, 1) := by decide +kernel
theorem dL_reads_13 : decode cL_reads 13 = .ok (.invokestatic 14, 3) := by decide +kernel
theorem dL_reads_16 : decode cL_reads 16 = .ok (.bipush 30, 2) := by decide +kernel
theorem dL_reads_18 : decode cL_reads 18 = .ok (.irem, 1) := by decide +kernel
theorem dL_reads_19 : decode cL_reads 19 = .ok (.iadd, 1) := by decide +kernel
theorem dL_reads_20 : decode cL_reads 20 = .ok (.istore 6, 2) := by decide +kernel
theorem dL_reads_22 : decode cL_reads 22 = .ok (.iconst 1, 1) := by decide +kernel
theorem dL_reads_23 : decode cL_reads 23 = .ok (.aload_n 2, 1) := by decide +kernel
theorem dL_reads_24 : decode cL_reads 24 = .ok (.invokestatic 14, 3) := by decide +kernel
theorem dL_reads_27 : decode cL_reads 27 = .ok (.bipush 20, 2) := by decide +kernel
theorem dL_reads_29 : decode cL_reads 29 = .ok (.irem, 1) := by decide +kernel
theorem dL_reads_30 : decode cL_reads 30 = .ok (.iadd, 1) := by decide +kernel
theorem dL_reads_31 : decode cL_reads 31 = .ok (.istore 7, 2) := by decide +kernel
theorem dL_reads_33 : decode cL_reads 33 = .ok (.iconst 1, 1) := by decide +kernel
theorem dL_reads_34 : decode cL_reads 34 = .ok (.aload_n 2, 1) := by decide +kernel
theorem dL_reads_35 : decode cL_reads 35 = .ok (.invokestatic 14, 3) := by decide +kernel
theorem dL_reads_38 : decode cL_reads 38 = .ok (.bipush 20, 2) := by decide +kernel
theorem dL_reads_40 : decode cL_reads 40 = .ok (.irem, 1) := by decide +kernel
theorem dL_reads_41 : decode cL_reads 41 = .ok (.iadd, 1) := by decide +kernel
theorem dL_reads_42 : decode cL_reads 42 = .ok (.istore 8, 2) := by decide +kernel
theorem dL_reads_44 : decode cL_reads 44 = .ok (.aload_n 2, 1) := by decide +kernel
theorem dL_reads_45 : decode cL_reads 45 = .ok (.invokestatic 14, 3) := by decide +kernel
theorem dL_reads_48 : decode cL_reads 48 = .ok (.iconst 5, 1) := by decide +kernel
theorem dL_reads_49 : decode cL_reads 49 = .ok (.irem, 1) := by decide +kernel
theorem dL_reads_50 : decode cL_reads 50 = .ok (.istore 9, 2) := by decide +kernel
theorem dL_reads_52 : decode cL_reads 52 = .ok (.aload_n 0, 1) := by decide +kernel
theorem dL_reads_53 : decode cL_reads 53 = .ok (.iload_n 3, 1) := by decide +kernel
theorem dL_reads_54 : decode cL_reads 54 = .ok (.bipush 7, 2) := by decide +kernel
theorem dL_reads_56 : decode cL_reads 56 = .ok (.iadd, 1) := by decide +kernel
theorem dL_reads_57 : decode cL_reads 57 = .ok (.iload 4, 2) := by decide +kernel
theorem dL_reads_59 : decode cL_reads 59 = .ok (.bipush 7, 2) := by decide +kernel
theorem dL_reads_61 : decode cL_reads 61 = .ok (.iadd, 1) := by decide +kernel
theorem dL_reads_62 : decode cL_reads 62 = .ok (.invokevirtual 43, 3) := by decide +kernel
theorem dL_reads_65 : decode cL_reads 65 = .ok (.ifCond .eq 91, 3) := by decide +kernel
theorem dL_reads_68 : decode cL_reads 68 = .ok (.aload_n 0, 1) := by decide +kernel
theorem dL_reads_69 : decode cL_reads 69 = .ok (.iconst 0, 1) := by decide +kernel
theorem dL_reads_70 : decode cL_reads 70 = .ok (.iconst 1, 1) := by decide +kernel
theorem dL_reads_71 : decode cL_reads 71 = .ok (.aload_n 2, 1) := by decide +kernel
theorem dL_reads_72 : decode cL_reads 72 = .ok (.invokestatic 14, 3) := by decide +kernel
theorem dL_reads_75 : decode cL_reads 75 = .ok (.bipush 9, 2) := by decide +kernel
theorem dL_reads_77 : decode cL_reads 77 = .ok (.irem, 1) := by decide +kernel
theorem dL_reads_78 : decode cL_reads 78 = .ok (.iadd, 1) := by decide +kernel
theorem dL_reads_79 : decode cL_reads 79 = .ok (.invokevirtual 47, 3) := by decide +kernel
theorem dL_reads_82 : decode cL_reads 82 = .ok (.ifCond .le 74, 3) := by decide +kernel
theorem dL_reads_85 : decode cL_reads 85 = .ok (.aload_n 0, 1) := by decide +kernel
theorem dL_reads_86 : decode cL_reads 86 = .ok (.iconst 2, 1) := by decide +kernel
theorem dL_reads_87 : decode cL_reads 87 = .ok (.bipush 9, 2) := by decide +kernel
theorem dL_reads_89 : decode cL_reads 89 = .ok (.invokevirtual 47, 3) := by decide +kernel
theorem dL_reads_92 : decode cL_reads 92 = .ok (.ifCond .le 64, 3) := by decide +kernel
theorem dL_reads_95 : decode cL_reads 95 = .ok (.aload_n 0, 1) := by decide +kernel
theorem dL_reads_96 : decode cL_reads 96 = .ok (.iconst 3, 1) := by decide +kernel
theorem dL_reads_97 : decode cL_reads 97 = .ok (.iload 6, 2) := by decide +kernel
theorem dL_reads_99 : decode cL_reads 99 = .ok (.invokevirtual 47, 3) := by decide +kernel
theorem dL_reads_102 : decode cL_reads 102 = .ok (.ifCond .le 54, 3) := by decide +kernel
theorem dL_reads_105 : decode cL_reads 105 = .ok (.aload_n 0, 1) := by decide +kernel
theorem dL_reads_106 : decode cL_reads 106 = .ok (.iconst 4, 1) := by decide +kernel
theorem dL_reads_107 : decode cL_reads 107 = .ok (.iload 7, 2) := by decide +kernel
theorem dL_reads_109 : decode cL_reads 109 = .ok (.invokevirtual 47, 3) := by decide +kernel
theorem dL_reads_112 : decode cL_reads 112 = .ok (.ifCond .lt 44, 3) := by decide +kernel
theorem dL_reads_115 : decode cL_reads 115 = .ok (.aload_n 0, 1) := by decide +kernel
theorem dL_reads_116 : decode cL_reads 116 = .ok (.iconst 5, 1) := by decide +kernel
theorem dL_reads_117 : decode cL_reads 117 = .ok (.iload 8, 2) := by decide +kernel
theorem dL_reads_119 : decode cL_reads 119 = .ok (.invokevirtual 47, 3) := by decide +kernel
theorem dL_reads_122 : decode cL_reads 122 = .ok (.ifCond .lt 34, 3) := by decide +kernel
theorem dL_reads_125 : decode cL_reads 125 = .ok (.aload_n 0, 1) := by decide +kernel
theorem dL_reads_126 : decode cL_reads 126 = .ok (.bipush 6, 2) := by decide +kernel
theorem dL_reads_128 : decode cL_reads 128 = .ok (.iload 9, 2) := by decide +kernel
theorem dL_reads_130 : decode cL_reads 130 = .ok (.invokevirtual 47, 3) := by decide +kernel
theorem dL_reads_133 : decode cL_reads 133 = .ok (.ifCond .lt 23, 3) := by decide +kernel
theorem dL_reads_136 : decode cL_reads 136 = .ok (.aload_n 0, 1) := by decide +kernel
theorem dL_reads_137 : decode cL_reads 137 = .ok (.iconst 1, 1) := by decide +kernel
theorem dL_reads_138 : decode cL_reads 138 = .ok (.iconst 1, 1) := by decide +kernel
theorem dL_reads_139 : decode cL_reads 139 = .ok (.aload_n 2, 1) := by decide +kernel
theorem dL_reads_140 : decode cL_reads 140 = .ok (.invokestatic 14, 3) := by decide +kernel
theorem dL_reads_143 : decode cL_reads 143 = .ok (.iconst 3, 1) := by decide +kernel
theorem dL_reads_144 : decode cL_reads 144 = .ok (.irem, 1) := by decide +kernel
theorem dL_reads_145 : decode cL_reads 145 = .ok (.iadd, 1) := by decide +kernel
theorem dL_reads_146 : decode cL_reads 146 = .ok (.invokevirtual 47, 3) := by decide +kernel
theorem dL_reads_149 : decode cL_reads 149 = .ok (.ifCond .le 7, 3) := by decide +kernel
theorem dL_reads_152 : decode cL_reads 152 = .ok (.iconst 1, 1) := by decide +kernel
theorem dL_reads_153 : decode cL_reads 153 = .ok (.goto 4, 3) := by decide +kernel
theorem dL_reads_156 : decode cL_reads 156 = .ok (.iconst 0, 1) := by decide +kernel
theorem dL_reads_157 : decode cL_reads 157 = .ok (.istore 10, 2) := by decide +kernel
theorem dL_reads_159 : decode cL_reads 159 = .ok (.iconst 0, 1) := by decide +kernel
theorem dL_reads_160 : decode cL_reads 160 = .ok (.istore 11, 2) := by decide +kernel
theorem dL_reads_162 : decode cL_reads 162 = .ok (.iload 11, 2) := by decide +kernel
theorem dL_reads_164 : decode cL_reads 164 = .ok (.iconst 4, 1) := by decide +kernel
theorem dL_reads_165 : decode cL_reads 165 = .ok (.if_icmp .ge 58, 3) := by decide +kernel
theorem dL_reads_168 : decode cL_reads 168 = .ok (.iload 10, 2) := by decide +kernel
theorem dL_reads_170 : decode cL_reads 170 = .ok (.ifCond .eq 44, 3) := by decide +kernel
theorem dL_reads_173 : decode cL_reads 173 = .ok (.aload_n 0, 1) := by decide +kernel
theorem dL_reads_174 : decode cL_reads 174 = .ok (.iload 11, 2) := by decide +kernel
theorem dL_reads_176 : decode cL_reads 176 = .ok (.iload 11, 2) := by decide +kernel
theorem dL_reads_178 : decode cL_reads 178 = .ok (.iconst 2, 1) := by decide +kernel
theorem dL_reads_179 : decode cL_reads 179 = .ok (.irem, 1) := by decide +kernel
theorem dL_reads_180 : decode cL_reads 180 = .ok (.ifCond .ne 7, 3) := by decide +kernel
theorem dL_reads_183 : decode cL_reads 183 = .ok (.iconst 3, 1) := by decide +kernel
theorem dL_reads_184 : decode cL_reads 184 = .ok (.goto 6, 3) := by decide +kernel
theorem dL_reads_187 : decode cL_reads 187 = .ok (.iload_n 3, 1) := by decide +kernel
theorem dL_reads_188 : decode cL_reads 188 = .ok (.iconst 3, 1) := by decide +kernel
theorem dL_reads_189 : decode cL_reads 189 = .ok (.iadd, 1) := by decide +kernel
theorem dL_reads_190 : decode cL_reads 190 = .ok (.iload 11, 2) := by decide +kernel
theorem dL_reads_192 : decode cL_reads 192 = .ok (.iconst 2, 1) := by decide +kernel
theorem dL_reads_193 : decode cL_reads 193 = .ok (.if_icmp .ge 7, 3) := by decide +kernel
theorem dL_reads_196 : decode cL_reads 196 = .ok (.iconst 3, 1) := by decide +kernel
theorem dL_reads_197 : decode cL_reads 197 = .ok (.goto 7, 3) := by decide +kernel
theorem dL_reads_200 : decode cL_reads 200 = .ok (.iload 4, 2) := by decide +kernel
theorem dL_reads_202 : decode cL_reads 202 = .ok (.iconst 3, 1) := by decide +kernel
theorem dL_reads_203 : decode cL_reads 203 = .ok (.iadd, 1) := by decide +kernel
theorem dL_reads_204 : decode cL_reads 204 = .ok (.invokevirtual 51, 3) := by decide +kernel
theorem dL_reads_207 : decode cL_reads 207 = .ok (.ifCond .eq 7, 3) := by decide +kernel
theorem dL_reads_210 : decode cL_reads 210 = .ok (.iconst 1, 1) := by decide +kernel
theorem dL_reads_211 : decode cL_reads 211 = .ok (.goto 4, 3) := by decide +kernel
theorem dL_reads_214 : decode cL_reads 214 = .ok (.iconst 0, 1) := by decide +kernel
theorem dL_reads_215 : decode cL_reads 215 = .ok (.istore 10, 2) := by decide +kernel
theorem dL_reads_217 : decode cL_reads 217 = .ok (.iinc 11 1, 3) := by decide +kernel
theorem dL_reads_220 : decode cL_reads 220 = .ok (.goto (-58), 3) := by decide +kernel
theorem dL_reads_223 : decode cL_reads 223 = .ok (.bipush 12, 2) := by decide +kernel
theorem dL_reads_225 : decode cL_reads 225 = .ok (.newarray .int, 2) := by decide +kernel
theorem dL_reads_227 : decode cL_reads 227 = .ok (.astore 11, 2) := by decide +kernel
theorem dL_reads_229 : decode cL_reads 229 = .ok (.iconst 0, 1) := by decide +kernel
theorem dL_reads_230 : decode cL_reads 230 = .ok (.istore 12, 2) := by decide +kernel
theorem dL_reads_232 : decode cL_reads 232 = .ok (.iconst 0, 1) := by decide +kernel
theorem dL_reads_233 : decode cL_reads 233 = .ok (.istore 13, 2) := by decide +kernel
theorem dL_reads_235 : decode cL_reads 235 = .ok (.iconst 0, 1) := by decide +kernel
theorem dL_reads_236 : decode cL_reads 236 = .ok (.istore 14, 2) := by decide +kernel
theorem dL_reads_238 : decode cL_reads 238 = .ok (.iload 14, 2) := by decide +kernel
theorem dL_reads_240 : decode cL_reads 240 = .ok (.aload_n 1, 1) := by decide +kernel
theorem dL_reads_241 : decode cL_reads 241 = .ok (.iconst 0, 1) := by decide +kernel
theorem dL_reads_242 : decode cL_reads 242 = .ok (.iaload, 1) := by decide +kernel
theorem dL_reads_243 : decode cL_reads 243 = .ok (.if_icmp .ge 119, 3) := by decide +kernel
theorem dL_reads_246 : decode cL_reads 246 = .ok (.aload_n 1, 1) := by decide +kernel
theorem dL_reads_247 : decode cL_reads 247 = .ok (.bipush 17, 2) := by decide +kernel
theorem dL_reads_249 : decode cL_reads 249 = .ok (.bipush 16, 2) := by decide +kernel
theorem dL_reads_251 : decode cL_reads 251 = .ok (.iload 14, 2) := by decide +kernel
theorem dL_reads_253 : decode cL_reads 253 = .ok (.imul, 1) := by decide +kernel
theorem dL_reads_254 : decode cL_reads 254 = .ok (.iadd, 1) := by decide +kernel
theorem dL_reads_255 : decode cL_reads 255 = .ok (.iaload, 1) := by decide +kernel
theorem dL_reads_256 : decode cL_reads 256 = .ok (.istore 15, 2) := by decide +kernel
theorem dL_reads_258 : decode cL_reads 258 = .ok (.aload 11, 2) := by decide +kernel
theorem dL_reads_260 : decode cL_reads 260 = .ok (.iload 14, 2) := by decide +kernel
theorem dL_reads_262 : decode cL_reads 262 = .ok (.aload_n 2, 1) := by decide +kernel
theorem dL_reads_263 : decode cL_reads 263 = .ok (.invokestatic 14, 3) := by decide +kernel
theorem dL_reads_266 : decode cL_reads 266 = .ok (.iconst 1, 1) := by decide +kernel
theorem dL_reads_267 : decode cL_reads 267 = .ok (.iload 15, 2) := by decide +kernel
theorem dL_reads_269 : decode cL_reads 269 = .ok (.ishl, 1) := by decide +kernel
theorem dL_reads_270 : decode cL_reads 270 = .ok (.irem, 1) := by decide +kernel
theorem dL_reads_271 : decode cL_reads 271 = .ok (.iastore, 1) := by decide +kernel
theorem dL_reads_272 : decode cL_reads 272 = .ok (.aload 11, 2) := by decide +kernel
theorem dL_reads_274 : decode cL_reads 274 = .ok (.iload 14, 2) := by decide +kernel
theorem dL_reads_276 : decode cL_reads 276 = .ok (.dup2, 1) := by decide +kernel
theorem dL_reads_277 : decode cL_reads 277 = .ok (.iaload, 1) := by decide +kernel
theorem dL_reads_278 : decode cL_reads 278 = .ok (.iload 14, 2) := by decide +kernel
theorem dL_reads_280 : decode cL_reads 280 = .ok (.ifCond .ne 8, 3) := by decide +kernel
theorem dL_reads_283 : decode cL_reads 283 = .ok (.bipush (-2), 2) := by decide +kernel
theorem dL_reads_285 : decode cL_reads 285 = .ok (.goto 4, 3) := by decide +kernel
theorem dL_reads_288 : decode cL_reads 288 = .ok (.iconst (-1), 1) := by decide +kernel
theorem dL_reads_289 : decode cL_reads 289 = .ok (.iand, 1) := by decide +kernel
theorem dL_reads_290 : decode cL_reads 290 = .ok (.iastore, 1) := by decide +kernel
theorem dL_reads_291 : decode cL_reads 291 = .ok (.iload 10, 2) := by decide +kernel
theorem dL_reads_293 : decode cL_reads 293 = .ok (.ifCond .eq 40, 3) := by decide +kernel
theorem dL_reads_296 : decode cL_reads 296 = .ok (.aload_n 0, 1) := by decide +kernel
theorem dL_reads_297 : decode cL_reads 297 = .ok (.iload 14, 2) := by decide +kernel
theorem dL_reads_299 : decode cL_reads 299 = .ok (.aload 11, 2) := by decide +kernel
theorem dL_reads_301 : decode cL_reads 301 = .ok (.iload 14, 2) := by decide +kernel
theorem dL_reads_303 : decode cL_reads 303 = .ok (.iaload, 1) := by decide +kernel
theorem dL_reads_304 : decode cL_reads 304 = .ok (.invokevirtual 55, 3) := by decide +kernel
theorem dL_reads_307 : decode cL_reads 307 = .ok (.ifCond .ne 26, 3) := by decide +kernel
theorem dL_reads_310 : decode cL_reads 310 = .ok (.aload_n 0, 1) := by decide +kernel
theorem dL_reads_311 : decode cL_reads 311 = .ok (.iload 14, 2) := by decide +kernel
theorem dL_reads_313 : decode cL_reads 313 = .ok (.aload 11, 2) := by decide +kernel
theorem dL_reads_315 : decode cL_reads 315 = .ok (.iload 14, 2) := by decide +kernel
theorem dL_reads_317 : decode cL_reads 317 = .ok (.iaload, 1) := by decide +kernel
theorem dL_reads_318 : decode cL_reads 318 = .ok (.invokevirtual 55, 3) := by decide +kernel
theorem dL_reads_321 : decode cL_reads 321 = .ok (.aload 11, 2) := by decide +kernel
theorem dL_reads_323 : decode cL_reads 323 = .ok (.iload 14, 2) := by decide +kernel
theorem dL_reads_325 : decode cL_reads 325 = .ok (.iaload, 1) := by decide +kernel
theorem dL_reads_326 : decode cL_reads 326 = .ok (.if_icmp .ne 7, 3) := by decide +kernel
theorem dL_reads_329 : decode cL_reads 329 = .ok (.iconst 1, 1) := by decide +kernel
theorem dL_reads_330 : decode cL_reads 330 = .ok (.goto 4, 3) := by decide +kernel
theorem dL_reads_333 : decode cL_reads 333 = .ok (.iconst 0, 1) := by decide +kernel
theorem dL_reads_334 : decode cL_reads 334 = .ok (.istore 10, 2) := by decide +kernel
theorem dL_reads_336 : decode cL_reads 336 = .ok (.iload 12, 2) := by decide +kernel
theorem dL_reads_338 : decode cL_reads 338 = .ok (.iload 15, 2) := by decide +kernel
theorem dL_reads_340 : decode cL_reads 340 = .ok (.iadd, 1) := by decide +kernel
theorem dL_reads_341 : decode cL_reads 341 = .ok (.istore 12, 2) := by decide +kernel
theorem dL_reads_343 : decode cL_reads 343 = .ok (.iload 13, 2) := by decide +kernel
theorem dL_reads_345 : decode cL_reads 345 = .ok (.aload 11, 2) := by decide +kernel
theorem dL_reads_347 : decode cL_reads 347 = .ok (.iload 14, 2) := by decide +kernel
theorem dL_reads_349 : decode cL_reads 349 = .ok (.iaload, 1) := by decide +kernel
theorem dL_reads_350 : decode cL_reads 350 = .ok (.invokestatic 58, 3) := by decide +kernel
theorem dL_reads_353 : decode cL_reads 353 = .ok (.iadd, 1) := by decide +kernel
theorem dL_reads_354 : decode cL_reads 354 = .ok (.istore 13, 2) := by decide +kernel
theorem dL_reads_356 : decode cL_reads 356 = .ok (.iinc 14 1, 3) := by decide +kernel
theorem dL_reads_359 : decode cL_reads 359 = .ok (.goto (-121), 3) := by decide +kernel
theorem dL_reads_362 : decode cL_reads 362 = .ok (.aload_n 1, 1) := by decide +kernel
theorem dL_reads_363 : decode cL_reads 363 = .ok (.iconst 1, 1) := by decide +kernel
theorem dL_reads_364 : decode cL_reads 364 = .ok (.iaload, 1) := by decide +kernel
theorem dL_reads_365 : decode cL_reads 365 = .ok (.aload_n 1, 1) := by decide +kernel
theorem dL_reads_366 : decode cL_reads 366 = .ok (.iconst 2, 1) := by decide +kernel
theorem dL_reads_367 : decode cL_reads 367 = .ok (.iaload, 1) := by decide +kernel
theorem dL_reads_368 : decode cL_reads 368 = .ok (.imul, 1) := by decide +kernel
theorem dL_reads_369 : decode cL_reads 369 = .ok (.iload 5, 2) := by decide +kernel
theorem dL_reads_371 : decode cL_reads 371 = .ok (.imul, 1) := by decide +kernel
theorem dL_reads_372 : decode cL_reads 372 = .ok (.istore 14, 2) := by decide +kernel
theorem dL_reads_374 : decode cL_reads 374 = .ok (.iload 10, 2) := by decide +kernel
theorem dL_reads_376 : decode cL_reads 376 = .ok (.ifCond .eq 55, 3) := by decide +kernel
theorem dL_reads_379 : decode cL_reads 379 = .ok (.aload_n 0, 1) := by decide +kernel
theorem dL_reads_380 : decode cL_reads 380 = .ok (.iload 5, 2) := by decide +kernel
theorem dL_reads_382 : decode cL_reads 382 = .ok (.invokevirtual 63, 3) := by decide +kernel
theorem dL_reads_385 : decode cL_reads 385 = .ok (.bipush 36, 2) := by decide +kernel
theorem dL_reads_387 : decode cL_reads 387 = .ok (.iload 13, 2) := by decide +kernel
theorem dL_reads_389 : decode cL_reads 389 = .ok (.aload_n 1, 1) := by decide +kernel
theorem dL_reads_390 : decode cL_reads 390 = .ok (.iconst 1, 1) := by decide +kernel
theorem dL_reads_391 : decode cL_reads 391 = .ok (.iaload, 1) := by decide +kernel
theorem dL_reads_392 : decode cL_reads 392 = .ok (.imul, 1) := by decide +kernel
theorem dL_reads_393 : decode cL_reads 393 = .ok (.aload_n 1, 1) := by decide +kernel
theorem dL_reads_394 : decode cL_reads 394 = .ok (.iconst 2, 1) := by decide +kernel
theorem dL_reads_395 : decode cL_reads 395 = .ok (.iaload, 1) := by decide +kernel
theorem dL_reads_396 : decode cL_reads 396 = .ok (.imul, 1) := by decide +kernel
theorem dL_reads_397 : decode cL_reads 397 = .ok (.iadd, 1) := by decide +kernel
theorem dL_reads_398 : decode cL_reads 398 = .ok (.if_icmp .ne 33, 3) := by decide +kernel
theorem dL_reads_401 : decode cL_reads 401 = .ok (.aload_n 0, 1) := by decide +kernel
theorem dL_reads_402 : decode cL_reads 402 = .ok (.bipush 10, 2) := by decide +kernel
theorem dL_reads_404 : decode cL_reads 404 = .ok (.invokevirtual 40, 3) := by decide +kernel
theorem dL_reads_407 : decode cL_reads 407 = .ok (.sipush 324, 3) := by decide +kernel
theorem dL_reads_410 : decode cL_reads 410 = .ok (.iload 13, 2) := by decide +kernel
theorem dL_reads_412 : decode cL_reads 412 = .ok (.iload 14, 2) := by decide +kernel
theorem dL_reads_414 : decode cL_reads 414 = .ok (.imul, 1) := by decide +kernel
theorem dL_reads_415 : decode cL_reads 415 = .ok (.iadd, 1) := by decide +kernel
theorem dL_reads_416 : decode cL_reads 416 = .ok (.if_icmp .ne 15, 3) := by decide +kernel
theorem dL_reads_419 : decode cL_reads 419 = .ok (.aload_n 0, 1) := by decide +kernel
theorem dL_reads_420 : decode cL_reads 420 = .ok (.invokevirtual 66, 3) := by decide +kernel
theorem dL_reads_423 : decode cL_reads 423 = .ok (.iconst 1, 1) := by decide +kernel
theorem dL_reads_424 : decode cL_reads 424 = .ok (.if_icmp .ne 7, 3) := by decide +kernel
theorem dL_reads_427 : decode cL_reads 427 = .ok (.iconst 1, 1) := by decide +kernel
theorem dL_reads_428 : decode cL_reads 428 = .ok (.goto 4, 3) := by decide +kernel
theorem dL_reads_431 : decode cL_reads 431 = .ok (.iconst 0, 1) := by decide +kernel
theorem dL_reads_432 : decode cL_reads 432 = .ok (.istore 10, 2) := by decide +kernel
theorem dL_reads_434 : decode cL_reads 434 = .ok (.iconst 0, 1) := by decide +kernel
theorem dL_reads_435 : decode cL_reads 435 = .ok (.istore 15, 2) := by decide +kernel
theorem dL_reads_437 : decode cL_reads 437 = .ok (.iconst 0, 1) := by decide +kernel
theorem dL_reads_438 : decode cL_reads 438 = .ok (.istore 16, 2) := by decide +kernel
theorem dL_reads_440 : decode cL_reads 440 = .ok (.iconst 0, 1) := by decide +kernel
theorem dL_reads_441 : decode cL_reads 441 = .ok (.istore 17, 2) := by decide +kernel
theorem dL_reads_443 : decode cL_reads 443 = .ok (.iconst 0, 1) := by decide +kernel
theorem dL_reads_444 : decode cL_reads 444 = .ok (.istore 18, 2) := by decide +kernel
theorem dL_reads_446 : decode cL_reads 446 = .ok (.iconst 0, 1) := by decide +kernel
theorem dL_reads_447 : decode cL_reads 447 = .ok (.istore 19, 2) := by decide +kernel
theorem dL_reads_449 : decode cL_reads 449 = .ok (.iload 19, 2) := by decide +kernel
theorem dL_reads_451 : decode cL_reads 451 = .ok (.aload_n 1, 1) := by decide +kernel
theorem dL_reads_452 : decode cL_reads 452 = .ok (.iconst 0, 1) := by decide +kernel
theorem dL_reads_453 : decode cL_reads 453 = .ok (.iaload, 1) := by decide +kernel
theorem dL_reads_454 : decode cL_reads 454 = .ok (.if_icmp .ge 446, 3) := by decide +kernel
theorem dL_reads_457 : decode cL_reads 457 = .ok (.iload 10, 2) := by decide +kernel
theorem dL_reads_459 : decode cL_reads 459 = .ok (.ifCond .eq 441, 3) := by decide +kernel
theorem dL_reads_462 : decode cL_reads 462 = .ok (.aload 11, 2) := by decide +kernel
theorem dL_reads_464 : decode cL_reads 464 = .ok (.iload 19, 2) := by decide +kernel
theorem dL_reads_466 : decode cL_reads 466 = .ok (.iaload, 1) := by decide +kernel
theorem dL_reads_467 : decode cL_reads 467 = .ok (.invokestatic 58, 3) := by decide +kernel
theorem dL_reads_470 : decode cL_reads 470 = .ok (.istore 20, 2) := by decide +kernel
theorem dL_reads_472 : decode cL_reads 472 = .ok (.aload_n 1, 1) := by decide +kernel
theorem dL_reads_473 : decode cL_reads 473 = .ok (.bipush 18, 2) := by decide +kernel
theorem dL_reads_475 : decode cL_reads 475 = .ok (.bipush 16, 2) := by decide +kernel
theorem dL_reads_477 : decode cL_reads 477 = .ok (.iload 19, 2) := by decide +kernel
theorem dL_reads_479 : decode cL_reads 479 = .ok (.imul, 1) := by decide +kernel
theorem dL_reads_480 : decode cL_reads 480 = .ok (.iadd, 1) := by decide +kernel
theorem dL_reads_481 : decode cL_reads 481 = .ok (.iaload, 1) := by decide +kernel
theorem dL_reads_482 : decode cL_reads 482 = .ok (.istore 21, 2) := by decide +kernel
theorem dL_reads_484 : decode cL_reads 484 = .ok (.iload 14, 2) := by decide +kernel
theorem dL_reads_486 : decode cL_reads 486 = .ok (.iload 6, 2) := by decide +kernel
theorem dL_reads_488 : decode cL_reads 488 = .ok (.if_icmp .lt 7, 3) := by decide +kernel
theorem dL_reads_491 : decode cL_reads 491 = .ok (.iconst 1, 1) := by decide +kernel
theorem dL_reads_492 : decode cL_reads 492 = .ok (.goto 4, 3) := by decide +kernel
theorem dL_reads_495 : decode cL_reads 495 = .ok (.iconst 0, 1) := by decide +kernel
theorem dL_reads_496 : decode cL_reads 496 = .ok (.istore 22, 2) := by decide +kernel
theorem dL_reads_498 : decode cL_reads 498 = .ok (.iload 22, 2) := by decide +kernel
theorem dL_reads_500 : decode cL_reads 500 = .ok (.ifCond .eq 11, 3) := by decide +kernel
theorem dL_reads_503 : decode cL_reads 503 = .ok (.aload 11, 2) := by decide +kernel
theorem dL_reads_505 : decode cL_reads 505 = .ok (.iload 19, 2) := by decide +kernel
theorem dL_reads_507 : decode cL_reads 507 = .ok (.iaload, 1) := by decide +kernel
theorem dL_reads_508 : decode cL_reads 508 = .ok (.goto 4, 3) := by decide +kernel
theorem dL_reads_511 : decode cL_reads 511 = .ok (.iconst 0, 1) := by decide +kernel
theorem dL_reads_512 : decode cL_reads 512 = .ok (.istore 23, 2) := by decide +kernel
theorem dL_reads_514 : decode cL_reads 514 = .ok (.iload 20, 2) := by decide +kernel
theorem dL_reads_516 : decode cL_reads 516 = .ok (.ifCond .le 21, 3) := by decide +kernel
theorem dL_reads_519 : decode cL_reads 519 = .ok (.iload 22, 2) := by decide +kernel
theorem dL_reads_521 : decode cL_reads 521 = .ok (.ifCond .ne 16, 3) := by decide +kernel
theorem dL_reads_524 : decode cL_reads 524 = .ok (.iconst 2, 1) := by decide +kernel
theorem dL_reads_525 : decode cL_reads 525 = .ok (.iload 14, 2) := by decide +kernel
theorem dL_reads_527 : decode cL_reads 527 = .ok (.imul, 1) := by decide +kernel
theorem dL_reads_528 : decode cL_reads 528 = .ok (.iload 6, 2) := by decide +kernel
theorem dL_reads_530 : decode cL_reads 530 = .ok (.if_icmp .lt 7, 3) := by decide +kernel
theorem dL_reads_533 : decode cL_reads 533 = .ok (.iconst 1, 1) := by decide +kernel
theorem dL_reads_534 : decode cL_reads 534 = .ok (.goto 4, 3) := by decide +kernel
theorem dL_reads_537 : decode cL_reads 537 = .ok (.iconst 0, 1) := by decide +kernel
theorem dL_reads_538 : decode cL_reads 538 = .ok (.istore 24, 2) := by decide +kernel
theorem dL_reads_540 : decode cL_reads 540 = .ok (.iload 22, 2) := by decide +kernel
theorem dL_reads_542 : decode cL_reads 542 = .ok (.ifCond .eq 27, 3) := by decide +kernel
theorem dL_reads_545 : decode cL_reads 545 = .ok (.iload 20, 2) := by decide +kernel
theorem dL_reads_547 : decode cL_reads 547 = .ok (.iconst 1, 1) := by decide +kernel
theorem dL_reads_548 : decode cL_reads 548 = .ok (.if_icmp .le 21, 3) := by decide +kernel
theorem dL_reads_551 : decode cL_reads 551 = .ok (.aload_n 1, 1) := by decide +kernel
theorem dL_reads_552 : decode cL_reads 552 = .ok (.bipush 16, 2) := by decide +kernel
theorem dL_reads_554 : decode cL_reads 554 = .ok (.bipush 16, 2) := by decide +kernel
theorem dL_reads_556 : decode cL_reads 556 = .ok (.iload 19, 2) := by decide +kernel
theorem dL_reads_558 : decode cL_reads 558 = .ok (.imul, 1) := by decide +kernel
theorem dL_reads_559 : decode cL_reads 559 = .ok (.iadd, 1) := by decide +kernel
theorem dL_reads_560 : decode cL_reads 560 = .ok (.iaload, 1) := by decide +kernel
theorem dL_reads_561 : decode cL_reads 561 = .ok (.iconst 1, 1) := by decide +kernel
theorem dL_reads_562 : decode cL_reads 562 = .ok (.if_icmp .ne 7, 3) := by decide +kernel
theorem dL_reads_565 : decode cL_reads 565 = .ok (.iconst 1, 1) := by decide +kernel
theorem dL_reads_566 : decode cL_reads 566 = .ok (.goto 4, 3) := by decide +kernel
theorem dL_reads_569 : decode cL_reads 569 = .ok (.iconst 0, 1) := by decide +kernel
theorem dL_reads_570 : decode cL_reads 570 = .ok (.istore 25, 2) := by decide +kernel
theorem dL_reads_572 : decode cL_reads 572 = .ok (.iload 25, 2) := by decide +kernel
theorem dL_reads_574 : decode cL_reads 574 = .ok (.ifCond .eq 7, 3) := by decide +kernel
theorem dL_reads_577 : decode cL_reads 577 = .ok (.iconst 2, 1) := by decide +kernel
theorem dL_reads_578 : decode cL_reads 578 = .ok (.goto 5, 3) := by decide +kernel
theorem dL_reads_581 : decode cL_reads 581 = .ok (.iload 24, 2) := by decide +kernel
theorem dL_reads_583 : decode cL_reads 583 = .ok (.istore 24, 2) := by decide +kernel
theorem dL_reads_585 : decode cL_reads 585 = .ok (.iload 23, 2) := by decide +kernel
theorem dL_reads_587 : decode cL_reads 587 = .ok (.ifCond .ne 18, 3) := by decide +kernel
theorem dL_reads_590 : decode cL_reads 590 = .ok (.iload 14, 2) := by decide +kernel
theorem dL_reads_592 : decode cL_reads 592 = .ok (.iload 8, 2) := by decide +kernel
theorem dL_reads_594 : decode cL_reads 594 = .ok (.if_icmp .lt 11, 3) := by decide +kernel
theorem dL_reads_597 : decode cL_reads 597 = .ok (.aload 11, 2) := by decide +kernel
theorem dL_reads_599 : decode cL_reads 599 = .ok (.iload 19, 2) := by decide +kernel
theorem dL_reads_601 : decode cL_reads 601 = .ok (.iaload, 1) := by decide +kernel
theorem dL_reads_602 : decode cL_reads 602 = .ok (.goto 4, 3) := by decide +kernel
theorem dL_reads_605 : decode cL_reads 605 = .ok (.iconst 0, 1) := by decide +kernel
theorem dL_reads_606 : decode cL_reads 606 = .ok (.istore 26, 2) := by decide +kernel
theorem dL_reads_608 : decode cL_reads 608 = .ok (.iload 21, 2) := by decide +kernel
theorem dL_reads_610 : decode cL_reads 610 = .ok (.ifCond .eq 8, 3) := by decide +kernel
theorem dL_reads_613 : decode cL_reads 613 = .ok (.iload 24, 2) := by decide +kernel
theorem dL_reads_615 : decode cL_reads 615 = .ok (.ifCond .le 7, 3) := by decide +kernel
theorem dL_reads_618 : decode cL_reads 618 = .ok (.iconst 0, 1) := by decide +kernel
theorem dL_reads_619 : decode cL_reads 619 = .ok (.goto 35, 3) := by decide +kernel
theorem dL_reads_622 : decode cL_reads 622 = .ok (.iload 23, 2) := by decide +kernel
theorem dL_reads_624 : decode cL_reads 624 = .ok (.iload 21, 2) := by decide +kernel
theorem dL_reads_626 : decode cL_reads 626 = .ok (.if_icmp .ne 16, 3) := by decide +kernel
theorem dL_reads_629 : decode cL_reads 629 = .ok (.aload_n 1, 1) := by decide +kernel
theorem dL_reads_630 : decode cL_reads 630 = .ok (.bipush 19, 2) := by decide +kernel
theorem dL_reads_632 : decode cL_reads 632 = .ok (.bipush 16, 2) := by decide +kernel
theorem dL_reads_634 : decode cL_reads 634 = .ok (.iload 19, 2) := by decide +kernel
theorem dL_reads_636 : decode cL_reads 636 = .ok (.imul, 1) := by decide +kernel
theorem dL_reads_637 : decode cL_reads 637 = .ok (.iadd, 1) := by decide +kernel
theorem dL_reads_638 : decode cL_reads 638 = .ok (.iaload, 1) := by decide +kernel
theorem dL_reads_639 : decode cL_reads 639 = .ok (.goto 15, 3) := by decide +kernel
theorem dL_reads_642 : decode cL_reads 642 = .ok (.iload 23, 2) := by decide +kernel
theorem dL_reads_644 : decode cL_reads 644 = .ok (.ifCond .le 9, 3) := by decide +kernel
theorem dL_reads_647 : decode cL_reads 647 = .ok (.iload 9, 2) := by decide +kernel
theorem dL_reads_649 : decode cL_reads 649 = .ok (.ineg, 1) := by decide +kernel
theorem dL_reads_650 : decode cL_reads 650 = .ok (.goto 4, 3) := by decide +kernel
theorem dL_reads_653 : decode cL_reads 653 = .ok (.iconst 0, 1) := by decide +kernel
theorem dL_reads_654 : decode cL_reads 654 = .ok (.istore 27, 2) := by decide +kernel
theorem dL_reads_656 : decode cL_reads 656 = .ok (.aload_n 0, 1) := by decide +kernel
theorem dL_reads_657 : decode cL_reads 657 = .ok (.iload 19, 2) := by decide +kernel
theorem dL_reads_659 : decode cL_reads 659 = .ok (.iconst 0, 1) := by decide +kernel
theorem dL_reads_660 : decode cL_reads 660 = .ok (.invokevirtual 70, 3) := by decide +kernel
theorem dL_reads_663 : decode cL_reads 663 = .ok (.iload 23, 2) := by decide +kernel
theorem dL_reads_665 : decode cL_reads 665 = .ok (.if_icmp .ne 64, 3) := by decide +kernel
theorem dL_reads_668 : decode cL_reads 668 = .ok (.aload_n 0, 1) := by decide +kernel
theorem dL_reads_669 : decode cL_reads 669 = .ok (.iload 19, 2) := by decide +kernel
theorem dL_reads_671 : decode cL_reads 671 = .ok (.iconst 1, 1) := by decide +kernel
theorem dL_reads_672 : decode cL_reads 672 = .ok (.invokevirtual 70, 3) := by decide +kernel
theorem dL_reads_675 : decode cL_reads 675 = .ok (.iload 24, 2) := by decide +kernel
theorem dL_reads_677 : decode cL_reads 677 = .ok (.if_icmp .ne 52, 3) := by decide +kernel
theorem dL_reads_680 : decode cL_reads 680 = .ok (.aload_n 0, 1) := by decide +kernel
theorem dL_reads_681 : decode cL_reads 681 = .ok (.iload 19, 2) := by decide +kernel
theorem dL_reads_683 : decode cL_reads 683 = .ok (.iconst 2, 1) := by decide +kernel
theorem dL_reads_684 : decode cL_reads 684 = .ok (.invokevirtual 70, 3) := by decide +kernel
theorem dL_reads_687 : decode cL_reads 687 = .ok (.iload 26, 2) := by decide +kernel
theorem dL_reads_689 : decode cL_reads 689 = .ok (.if_icmp .ne 40, 3) := by decide +kernel
theorem dL_reads_692 : decode cL_reads 692 = .ok (.aload_n 0, 1) := by decide +kernel
theorem dL_reads_693 : decode cL_reads 693 = .ok (.iload 19, 2) := by decide +kernel
theorem dL_reads_695 : decode cL_reads 695 = .ok (.iconst 3, 1) := by decide +kernel
theorem dL_reads_696 : decode cL_reads 696 = .ok (.invokevirtual 70, 3) := by decide +kernel
theorem dL_reads_699 : decode cL_reads 699 = .ok (.iload 20, 2) := by decide +kernel
theorem dL_reads_701 : decode cL_reads 701 = .ok (.ifCond .le 8, 3) := by decide +kernel
theorem dL_reads_704 : decode cL_reads 704 = .ok (.iload 14, 2) := by decide +kernel
theorem dL_reads_706 : decode cL_reads 706 = .ok (.goto 4, 3) := by decide +kernel
theorem dL_reads_709 : decode cL_reads 709 = .ok (.iconst 0, 1) := by decide +kernel
theorem dL_reads_710 : decode cL_reads 710 = .ok (.if_icmp .ne 19, 3) := by decide +kernel
theorem dL_reads_713 : decode cL_reads 713 = .ok (.aload_n 0, 1) := by decide +kernel
theorem dL_reads_714 : decode cL_reads 714 = .ok (.iload 19, 2) := by decide +kernel
theorem dL_reads_716 : decode cL_reads 716 = .ok (.iconst 4, 1) := by decide +kernel
theorem dL_reads_717 : decode cL_reads 717 = .ok (.invokevirtual 70, 3) := by decide +kernel
theorem dL_reads_720 : decode cL_reads 720 = .ok (.iload 27, 2) := by decide +kernel
theorem dL_reads_722 : decode cL_reads 722 = .ok (.if_icmp .ne 7, 3) := by decide +kernel
theorem dL_reads_725 : decode cL_reads 725 = .ok (.iconst 1, 1) := by decide +kernel
theorem dL_reads_726 : decode cL_reads 726 = .ok (.goto 4, 3) := by decide +kernel
theorem dL_reads_729 : decode cL_reads 729 = .ok (.iconst 0, 1) := by decide +kernel
theorem dL_reads_730 : decode cL_reads 730 = .ok (.istore 10, 2) := by decide +kernel
theorem dL_reads_732 : decode cL_reads 732 = .ok (.iconst 0, 1) := by decide +kernel
theorem dL_reads_733 : decode cL_reads 733 = .ok (.istore 28, 2) := by decide +kernel
theorem dL_reads_735 : decode cL_reads 735 = .ok (.iload 28, 2) := by decide +kernel
theorem dL_reads_737 : decode cL_reads 737 = .ok (.aload_n 1, 1) := by decide +kernel
theorem dL_reads_738 : decode cL_reads 738 = .ok (.bipush 17, 2) := by decide +kernel
theorem dL_reads_740 : decode cL_reads 740 = .ok (.bipush 16, 2) := by decide +kernel
theorem dL_reads_742 : decode cL_reads 742 = .ok (.iload 19, 2) := by decide +kernel
theorem dL_reads_744 : decode cL_reads 744 = .ok (.imul, 1) := by decide +kernel
theorem dL_reads_745 : decode cL_reads 745 = .ok (.iadd, 1) := by decide +kernel
theorem dL_reads_746 : decode cL_reads 746 = .ok (.iaload, 1) := by decide +kernel
theorem dL_reads_747 : decode cL_reads 747 = .ok (.if_icmp .ge 88, 3) := by decide +kernel
theorem dL_reads_750 : decode cL_reads 750 = .ok (.aload 11, 2) := by decide +kernel
theorem dL_reads_752 : decode cL_reads 752 = .ok (.iload 19, 2) := by decide +kernel
theorem dL_reads_754 : decode cL_reads 754 = .ok (.iaload, 1) := by decide +kernel
theorem dL_reads_755 : decode cL_reads 755 = .ok (.iload 28, 2) := by decide +kernel
theorem dL_reads_757 : decode cL_reads 757 = .ok (.ishr, 1) := by decide +kernel
theorem dL_reads_758 : decode cL_reads 758 = .ok (.iconst 1, 1) := by decide +kernel
theorem dL_reads_759 : decode cL_reads 759 = .ok (.iand, 1) := by decide +kernel
theorem dL_reads_760 : decode cL_reads 760 = .ok (.iconst 1, 1) := by decide +kernel
theorem dL_reads_761 : decode cL_reads 761 = .ok (.if_icmp .ne 7, 3) := by decide +kernel
theorem dL_reads_764 : decode cL_reads 764 = .ok (.iconst 1, 1) := by decide +kernel
theorem dL_reads_765 : decode cL_reads 765 = .ok (.goto 4, 3) := by decide +kernel
theorem dL_reads_768 : decode cL_reads 768 = .ok (.iconst 0, 1) := by decide +kernel
theorem dL_reads_769 : decode cL_reads 769 = .ok (.istore 29, 2) := by decide +kernel
theorem dL_reads_771 : decode cL_reads 771 = .ok (.iload 10, 2) := by decide +kernel
theorem dL_reads_773 : decode cL_reads 773 = .ok (.ifCond .eq 53, 3) := by decide +kernel
theorem dL_reads_776 : decode cL_reads 776 = .ok (.aload_n 0, 1) := by decide +kernel
theorem dL_reads_777 : decode cL_reads 777 = .ok (.iload 19, 2) := by decide +kernel
theorem dL_reads_779 : decode cL_reads 779 = .ok (.iload 28, 2) := by decide +kernel
theorem dL_reads_781 : decode cL_reads 781 = .ok (.invokevirtual 73, 3) := by decide +kernel
theorem dL_reads_784 : decode cL_reads 784 = .ok (.iload 29, 2) := by decide +kernel
theorem dL_reads_786 : decode cL_reads 786 = .ok (.ifCond .eq 8, 3) := by decide +kernel
theorem dL_reads_789 : decode cL_reads 789 = .ok (.iload 14, 2) := by decide +kernel
theorem dL_reads_791 : decode cL_reads 791 = .ok (.goto 4, 3) := by decide +kernel
theorem dL_reads_794 : decode cL_reads 794 = .ok (.iconst 0, 1) := by decide +kernel
theorem dL_reads_795 : decode cL_reads 795 = .ok (.if_icmp .ne 31, 3) := by decide +kernel
theorem dL_reads_798 : decode cL_reads 798 = .ok (.aload_n 0, 1) := by decide +kernel
theorem dL_reads_799 : decode cL_reads 799 = .ok (.iload 19, 2) := by decide +kernel
theorem dL_reads_801 : decode cL_reads 801 = .ok (.iload 28, 2) := by decide +kernel
theorem dL_reads_803 : decode cL_reads 803 = .ok (.invokevirtual 76, 3) := by decide +kernel
theorem dL_reads_806 : decode cL_reads 806 = .ok (.iload 29, 2) := by decide +kernel
theorem dL_reads_808 : decode cL_reads 808 = .ok (.ifCond .eq 7, 3) := by decide +kernel
theorem dL_reads_811 : decode cL_reads 811 = .ok (.iconst 1, 1) := by decide +kernel
theorem dL_reads_812 : decode cL_reads 812 = .ok (.goto 7, 3) := by decide +kernel
theorem dL_reads_815 : decode cL_reads 815 = .ok (.iload 13, 2) := by decide +kernel
theorem dL_reads_817 : decode cL_reads 817 = .ok (.iconst 1, 1) := by decide +kernel
theorem dL_reads_818 : decode cL_reads 818 = .ok (.iadd, 1) := by decide +kernel
theorem dL_reads_819 : decode cL_reads 819 = .ok (.if_icmp .ne 7, 3) := by decide +kernel
theorem dL_reads_822 : decode cL_reads 822 = .ok (.iconst 1, 1) := by decide +kernel
theorem dL_reads_823 : decode cL_reads 823 = .ok (.goto 4, 3) := by decide +kernel
theorem dL_reads_826 : decode cL_reads 826 = .ok (.iconst 0, 1) := by decide +kernel
theorem dL_reads_827 : decode cL_reads 827 = .ok (.istore 10, 2) := by decide +kernel
theorem dL_reads_829 : decode cL_reads 829 = .ok (.iinc 28 1, 3) := by decide +kernel
theorem dL_reads_832 : decode cL_reads 832 = .ok (.goto (-97), 3) := by decide +kernel
theorem dL_reads_835 : decode cL_reads 835 = .ok (.iload 15, 2) := by decide +kernel
theorem dL_reads_837 : decode cL_reads 837 = .ok (.iload 27, 2) := by decide +kernel
theorem dL_reads_839 : decode cL_reads 839 = .ok (.iadd, 1) := by decide +kernel
theorem dL_reads_840 : decode cL_reads 840 = .ok (.istore 15, 2) := by decide +kernel
theorem dL_reads_842 : decode cL_reads 842 = .ok (.iload 16, 2) := by decide +kernel
theorem dL_reads_844 : decode cL_reads 844 = .ok (.iload 24, 2) := by decide +kernel
theorem dL_reads_846 : decode cL_reads 846 = .ok (.iconst 1, 1) := by decide +kernel
theorem dL_reads_847 : decode cL_reads 847 = .ok (.if_icmp .ne 7, 3) := by decide +kernel
theorem dL_reads_850 : decode cL_reads 850 = .ok (.iconst 1, 1) := by decide +kernel
theorem dL_reads_851 : decode cL_reads 851 = .ok (.goto 4, 3) := by decide +kernel
theorem dL_reads_854 : decode cL_reads 854 = .ok (.iconst 0, 1) := by decide +kernel
theorem dL_reads_855 : decode cL_reads 855 = .ok (.iadd, 1) := by decide +kernel
theorem dL_reads_856 : decode cL_reads 856 = .ok (.istore 16, 2) := by decide +kernel
theorem dL_reads_858 : decode cL_reads 858 = .ok (.iload 17, 2) := by decide +kernel
theorem dL_reads_860 : decode cL_reads 860 = .ok (.iload 24, 2) := by decide +kernel
theorem dL_reads_862 : decode cL_reads 862 = .ok (.iconst 2, 1) := by decide +kernel
theorem dL_reads_863 : decode cL_reads 863 = .ok (.if_icmp .ne 7, 3) := by decide +kernel
theorem dL_reads_866 : decode cL_reads 866 = .ok (.iconst 1, 1) := by decide +kernel
theorem dL_reads_867 : decode cL_reads 867 = .ok (.goto 4, 3) := by decide +kernel
theorem dL_reads_870 : decode cL_reads 870 = .ok (.iconst 0, 1) := by decide +kernel
theorem dL_reads_871 : decode cL_reads 871 = .ok (.iadd, 1) := by decide +kernel
theorem dL_reads_872 : decode cL_reads 872 = .ok (.istore 17, 2) := by decide +kernel
theorem dL_reads_874 : decode cL_reads 874 = .ok (.iload 18, 2) := by decide +kernel
theorem dL_reads_876 : decode cL_reads 876 = .ok (.iload 23, 2) := by decide +kernel
theorem dL_reads_878 : decode cL_reads 878 = .ok (.aload 11, 2) := by decide +kernel
theorem dL_reads_880 : decode cL_reads 880 = .ok (.iload 19, 2) := by decide +kernel
theorem dL_reads_882 : decode cL_reads 882 = .ok (.iaload, 1) := by decide +kernel
theorem dL_reads_883 : decode cL_reads 883 = .ok (.if_icmp .ne 7, 3) := by decide +kernel
theorem dL_reads_886 : decode cL_reads 886 = .ok (.iconst 0, 1) := by decide +kernel
theorem dL_reads_887 : decode cL_reads 887 = .ok (.goto 4, 3) := by decide +kernel
theorem dL_reads_890 : decode cL_reads 890 = .ok (.iconst 1, 1) := by decide +kernel
theorem dL_reads_891 : decode cL_reads 891 = .ok (.iadd, 1) := by decide +kernel
theorem dL_reads_892 : decode cL_reads 892 = .ok (.istore 18, 2) := by decide +kernel
theorem dL_reads_894 : decode cL_reads 894 = .ok (.iinc 19 1, 3) := by decide +kernel
theorem dL_reads_897 : decode cL_reads 897 = .ok (.goto (-448), 3) := by decide +kernel
theorem dL_reads_900 : decode cL_reads 900 = .ok (.iload 10, 2) := by decide +kernel
theorem dL_reads_902 : decode cL_reads 902 = .ok (.ifCond .eq 55, 3) := by decide +kernel
theorem dL_reads_905 : decode cL_reads 905 = .ok (.aload_n 0, 1) := by decide +kernel
theorem dL_reads_906 : decode cL_reads 906 = .ok (.iconst 0, 1) := by decide +kernel
theorem dL_reads_907 : decode cL_reads 907 = .ok (.iconst (-1), 1) := by decide +kernel
theorem dL_reads_908 : decode cL_reads 908 = .ok (.invokevirtual 73, 3) := by decide +kernel
theorem dL_reads_911 : decode cL_reads 911 = .ok (.ifCond .ne 46, 3) := by decide +kernel
theorem dL_reads_914 : decode cL_reads 914 = .ok (.aload_n 0, 1) := by decide +kernel
theorem dL_reads_915 : decode cL_reads 915 = .ok (.iconst 0, 1) := by decide +kernel
theorem dL_reads_916 : decode cL_reads 916 = .ok (.invokevirtual 79, 3) := by decide +kernel
theorem dL_reads_919 : decode cL_reads 919 = .ok (.iload 15, 2) := by decide +kernel
theorem dL_reads_921 : decode cL_reads 921 = .ok (.if_icmp .ne 36, 3) := by decide +kernel
theorem dL_reads_924 : decode cL_reads 924 = .ok (.aload_n 0, 1) := by decide +kernel
theorem dL_reads_925 : decode cL_reads 925 = .ok (.iconst 1, 1) := by decide +kernel
theorem dL_reads_926 : decode cL_reads 926 = .ok (.invokevirtual 79, 3) := by decide +kernel
theorem dL_reads_929 : decode cL_reads 929 = .ok (.iload 16, 2) := by decide +kernel
theorem dL_reads_931 : decode cL_reads 931 = .ok (.if_icmp .ne 26, 3) := by decide +kernel
theorem dL_reads_934 : decode cL_reads 934 = .ok (.aload_n 0, 1) := by decide +kernel
theorem dL_reads_935 : decode cL_reads 935 = .ok (.iconst 2, 1) := by decide +kernel
theorem dL_reads_936 : decode cL_reads 936 = .ok (.invokevirtual 79, 3) := by decide +kernel
theorem dL_reads_939 : decode cL_reads 939 = .ok (.iload 17, 2) := by decide +kernel
theorem dL_reads_941 : decode cL_reads 941 = .ok (.if_icmp .ne 16, 3) := by decide +kernel
theorem dL_reads_944 : decode cL_reads 944 = .ok (.aload_n 0, 1) := by decide +kernel
theorem dL_reads_945 : decode cL_reads 945 = .ok (.invokevirtual 82, 3) := by decide +kernel
theorem dL_reads_948 : decode cL_reads 948 = .ok (.iload 18, 2) := by decide +kernel
theorem dL_reads_950 : decode cL_reads 950 = .ok (.if_icmp .ne 7, 3) := by decide +kernel
theorem dL_reads_953 : decode cL_reads 953 = .ok (.iconst 1, 1) := by decide +kernel
theorem dL_reads_954 : decode cL_reads 954 = .ok (.goto 4, 3) := by decide +kernel
theorem dL_reads_957 : decode cL_reads 957 = .ok (.iconst 0, 1) := by decide +kernel
theorem dL_reads_958 : decode cL_reads 958 = .ok (.istore 10, 2) := by decide +kernel
theorem dL_reads_960 : decode cL_reads 960 = .ok (.iload 10, 2) := by decide +kernel
theorem dL_reads_962 : decode cL_reads 962 = .ok (.ifCond .eq 43, 3) := by decide +kernel
theorem dL_reads_965 : decode cL_reads 965 = .ok (.aload_n 0, 1) := by decide +kernel
theorem dL_reads_966 : decode cL_reads 966 = .ok (.iconst 0, 1) := by decide +kernel
theorem dL_reads_967 : decode cL_reads 967 = .ok (.invokevirtual 85, 3) := by decide +kernel
theorem dL_reads_970 : decode cL_reads 970 = .ok (.iload 13, 2) := by decide +kernel
theorem dL_reads_972 : decode cL_reads 972 = .ok (.ifCond .le 8, 3) := by decide +kernel
theorem dL_reads_975 : decode cL_reads 975 = .ok (.iload 14, 2) := by decide +kernel
theorem dL_reads_977 : decode cL_reads 977 = .ok (.goto 4, 3) := by decide +kernel
theorem dL_reads_980 : decode cL_reads 980 = .ok (.iconst 0, 1) := by decide +kernel
theorem dL_reads_981 : decode cL_reads 981 = .ok (.if_icmp .ne 24, 3) := by decide +kernel
theorem dL_reads_984 : decode cL_reads 984 = .ok (.aload_n 0, 1) := by decide +kernel
theorem dL_reads_985 : decode cL_reads 985 = .ok (.iconst 1, 1) := by decide +kernel
theorem dL_reads_986 : decode cL_reads 986 = .ok (.invokevirtual 85, 3) := by decide +kernel
theorem dL_reads_989 : decode cL_reads 989 = .ok (.iload 13, 2) := by decide +kernel
theorem dL_reads_991 : decode cL_reads 991 = .ok (.if_icmp .ne 14, 3) := by decide +kernel
theorem dL_reads_994 : decode cL_reads 994 = .ok (.iload 12, 2) := by decide +kernel
theorem dL_reads_996 : decode cL_reads 996 = .ok (.iload 13, 2) := by decide +kernel
theorem dL_reads_998 : decode cL_reads 998 = .ok (.if_icmp .le 7, 3) := by decide +kernel
theorem dL_reads_1001 : decode cL_reads 1001 = .ok (.iconst 1, 1) := by decide +kernel
theorem dL_reads_1002 : decode cL_reads 1002 = .ok (.goto 4, 3) := by decide +kernel
theorem dL_reads_1005 : decode cL_reads 1005 = .ok (.iconst 0, 1) := by decide +kernel
theorem dL_reads_1006 : decode cL_reads 1006 = .ok (.ireturn, 1) := by decide +kernel
def mL_reads : MM := (yL_reads, cL_reads, 30, Option.some Jvm.ClassFile.FieldType.boolean, { frames := 7, cells := 1, slots := 12, locals := 170 })
def L_reads_L162 (u3_ : Int32) (u4_ : Int32) (k223 : Int32 → SS → Option (Bool × SS)) : Nat → Int32 → Int32 → SS → Option (Bool × SS) :=
  lp (fun _ _ _ => none) fun rec v10_ v11_ σ_ =>
    if (4 : Int32) ≤ v11_ then (
      k223 v10_ σ_
      ) else (
      vthen (fun  (σ32 : SS) =>
        rec (0 : Int32) (v11_ + (1 : Int32)) σ32
        ) fun j214 =>
      if v10_ = 0 then (
        j214 σ_
        ) else (
        vthen (fun (s33 : Int32) =>
          vthen (fun (s34 : Int32) =>
            bnd (fX7_corner σ_ v11_ s33 s34) fun b36 σ38 =>
            if b36 = true then (
              rec (1 : Int32) (v11_ + (1 : Int32)) σ38
              ) else (
              j214 σ38
              )
            ) fun j204 =>
          if (2 : Int32) ≤ v11_ then (
            j204 (u4_ + (3 : Int32))
            ) else (
            j204 (3 : Int32)
            )
          ) fun j190 =>
        if (irm v11_ (2 : Int32)) = 0 then (
          j190 (3 : Int32)
          ) else (
          j190 (u3_ + (3 : Int32))
          )
        )
      )

def L_reads_L238 (o1_ : Nat) (o2_ : Nat) (o11_ : Nat) (k362 : Int32 → Int32 → Int32 → SS → Option (Bool × SS)) : Nat → Int32 → Int32 → Int32 → Int32 → SS → Option (Bool × SS) :=
  lp (fun _ _ _ _ _ => none) fun rec v10_ v12_ v13_ v14_ σ_ =>
    grd (lin σ_ o1_ (0 : Int32)) <|
    if (gI σ_ o1_ 0) ≤ v14_ then (
      k362 v10_ v12_ v13_ σ_
      ) else (
      grd (lin σ_ o1_ ((17 : Int32) + ((16 : Int32) * v14_))) <|
      vthen (gI σ_ o1_ (Int32.toNatClampNeg ((17 : Int32) + ((16 : Int32) * v14_)))) fun v45 =>
      bnd (fL_next σ_ o2_) fun v46 σ49 =>
      grd (nz ((1 : Int32) <<< (v45 &&& 31))) <|
      grd (lin σ49 o11_ v14_) <|
      vthen (sI σ49 o11_ (Int32.toNatClampNeg v14_) (irm v46 ((1 : Int32) <<< (v45 &&& 31)))) fun σ52 =>
      grd (lin σ52 o11_ v14_) <|
      vthen (fun (s54 : Int32) =>
        vthen (sI σ52 o11_ (Int32.toNatClampNeg v14_) ((gI σ52 o11_ (Int32.toNatClampNeg v14_)) &&& s54)) fun σ55 =>
        vthen (fun (s56 : Int32) (σ57 : SS) =>
          vthen (v12_ + v45) fun v58 =>
          grd (lin σ57 o11_ v14_) <|
          vthen (v13_ + (fJ6_bitCount_0f7a4 σ57 (gI σ57 o11_ (Int32.toNatClampNeg v14_)))) fun v60 =>
          rec s56 v58 v60 (v14_ + (1 : Int32)) σ57
          ) fun j334 =>
        vthen (fun  (σ61 : SS) =>
          j334 (0 : Int32) σ61
          ) fun j333 =>
        if v10_ = 0 then (
          j333 σ55
          ) else (
          grd (lin σ55 o11_ v14_) <|
          bnd (fX7_tick σ55 v14_ (gI σ55 o11_ (Int32.toNatClampNeg v14_))) fun v63 σ66 =>
          if v63 = 0 then (
            grd (lin σ66 o11_ v14_) <|
            bnd (fX7_tick σ66 v14_ (gI σ66 o11_ (Int32.toNatClampNeg v14_))) fun v68 σ71 =>
            grd (lin σ71 o11_ v14_) <|
            if v68 = (gI σ71 o11_ (Int32.toNatClampNeg v14_)) then (
              j334 (1 : Int32) σ71
              ) else (
              j333 σ71
              )
            ) else (
            j333 σ66
            )
          )
        ) fun j289 =>
      if v14_ = 0 then (
        j289 (-2 : Int32)
        ) else (
        j289 (-1 : Int32)
        )
      )

def L_reads_L735 (o1_ : Nat) (o11_ : Nat) (u13_ : Int32) (u14_ : Int32) (u19_ : Int32) (k835 : Int32 → SS → Option (Bool × SS)) : Nat → Int32 → Int32 → SS → Option (Bool × SS) :=
  lp (fun _ _ _ => none) fun rec v10_ v28_ σ_ =>
    grd (lin σ_ o1_ ((17 : Int32) + ((16 : Int32) * u19_))) <|
    if (gI σ_ o1_ (Int32.toNatClampNeg ((17 : Int32) + ((16 : Int32) * u19_)))) ≤ v28_ then (
      k835 v10_ σ_
      ) else (
      grd (lin σ_ o11_ u19_) <|
      vthen (fun (s102 : Int32) =>
        vthen (fun  (σ103 : SS) =>
          rec (0 : Int32) (v28_ + (1 : Int32)) σ103
          ) fun j826 =>
        if v10_ = 0 then (
          j826 σ_
          ) else (
          bnd (fX7_dark σ_ u19_ v28_) fun v104 σ107 =>
          vthen (fun (s108 : Int32) =>
            if v104 = s108 then (
              bnd (fX7_rank σ107 u19_ v28_) fun v109 σ112 =>
              vthen (fun (s113 : Int32) =>
                if v109 = s113 then (
                  rec (1 : Int32) (v28_ + (1 : Int32)) σ112
                  ) else (
                  j826 σ112
                  )
                ) fun j819 =>
              if s102 = 0 then (
                j819 (u13_ + (1 : Int32))
                ) else (
                j819 (1 : Int32)
                )
              ) else (
              j826 σ107
              )
            ) fun j795 =>
          if s102 = 0 then (
            j795 (0 : Int32)
            ) else (
            j795 u14_
            )
          )
        ) fun j769 =>
      if (((gI σ_ o11_ (Int32.toNatClampNeg u19_)) >>> (v28_ &&& 31)) &&& (1 : Int32)) = (1 : Int32) then (
        j769 (1 : Int32)
        ) else (
        j769 (0 : Int32)
        )
      )

def L_reads_L449 (o1_ : Nat) (u6_ : Int32) (u8_ : Int32) (u9_ : Int32) (o11_ : Nat) (u13_ : Int32) (u14_ : Int32) (k900 : Int32 → Int32 → Int32 → Int32 → Int32 → SS → Option (Bool × SS)) : Nat → Int32 → Int32 → Int32 → Int32 → Int32 → Int32 → SS → Option (Bool × SS) :=
  lp (fun _ _ _ _ _ _ _ => none) fun rec v10_ v15_ v16_ v17_ v18_ v19_ σ_ =>
    grd (lin σ_ o1_ (0 : Int32)) <|
    if (gI σ_ o1_ 0) ≤ v19_ then (
      k900 v10_ v15_ v16_ v17_ v18_ σ_
      ) else (
      if v10_ = 0 then (
        k900 v10_ v15_ v16_ v17_ v18_ σ_
        ) else (
        grd (lin σ_ o11_ v19_) <|
        vthen (fJ6_bitCount_0f7a4 σ_ (gI σ_ o11_ (Int32.toNatClampNeg v19_))) fun v84 =>
        grd (lin σ_ o1_ ((18 : Int32) + ((16 : Int32) * v19_))) <|
        vthen (gI σ_ o1_ (Int32.toNatClampNeg ((18 : Int32) + ((16 : Int32) * v19_)))) fun v86 =>
        vthen (fun (s87 : Int32) =>
          vthen (fun (s88 : Int32) =>
            vthen (fun (s89 : Int32) =>
              vthen (fun (s90 : Int32) =>
                vthen (fun (s91 : Int32) =>
                  vthen (fun (s92 : Int32) =>
                    vthen (fun (s93 : Int32) =>
                      bnd (fX7_judged σ_ v19_ (0 : Int32)) fun v94 σ97 =>
                      vthen (fun (s98 : Int32) (σ99 : SS) =>
                        L_reads_L735 o1_ o11_ u13_ u14_ v19_
                        (fun v114 σ115 =>
                          vthen (v15_ + s93) fun v116 =>
                          vthen (fun (s117 : Int32) =>
                            vthen (v16_ + s117) fun v118 =>
                            vthen (fun (s119 : Int32) =>
                              vthen (v17_ + s119) fun v120 =>
                              grd (lin σ115 o11_ v19_) <|
                              if s88 = (gI σ115 o11_ (Int32.toNatClampNeg v19_)) then (
                                vthen (v18_ + (0 : Int32)) fun v123 =>
                                rec v114 v116 v118 v120 v123 (v19_ + (1 : Int32)) σ115
                                ) else (
                                vthen (v18_ + (1 : Int32)) fun v122 =>
                                rec v114 v116 v118 v120 v122 (v19_ + (1 : Int32)) σ115
                                )
                              ) fun j871 =>
                            if s91 = (2 : Int32) then (
                              j871 (1 : Int32)
                              ) else (
                              j871 (0 : Int32)
                              )
                            ) fun j855 =>
                          if s91 = (1 : Int32) then (
                            j855 (1 : Int32)
                            ) else (
                            j855 (0 : Int32)
                            )
                          )
                        fuel s98 (0 : Int32) σ99
                        ) fun j730 =>
                      vthen (fun  (σ124 : SS) =>
                        j730 (0 : Int32) σ124
                        ) fun j729 =>
                      if v94 = s88 then (
                        bnd (fX7_judged σ97 v19_ (1 : Int32)) fun v125 σ128 =>
                        if v125 = s91 then (
                          bnd (fX7_judged σ128 v19_ (2 : Int32)) fun v129 σ132 =>
                          if v129 = s92 then (
                            bnd (fX7_judged σ132 v19_ (3 : Int32)) fun v133 σ136 =>
                            vthen (fun (s137 : Int32) =>
                              if v133 = s137 then (
                                bnd (fX7_judged σ136 v19_ (4 : Int32)) fun v138 σ141 =>
                                if v138 = s93 then (
                                  j730 (1 : Int32) σ141
                                  ) else (
                                  j729 σ141
                                  )
                                ) else (
                                j729 σ136
                                )
                              ) fun j710 =>
                            if v84 ≤ 0 then (
                              j710 (0 : Int32)
                              ) else (
                              j710 u14_
                              )
                            ) else (
                            j729 σ132
                            )
                          ) else (
                          j729 σ128
                          )
                        ) else (
                        j729 σ97
                        )
                      ) fun j654 =>
                    vthen (fun (_u : Unit) =>
                      j654 (0 : Int32)
                      ) fun j618 =>
                    if v86 = 0 then (
                      j618 ()
                      ) else (
                      if s91 ≤ 0 then (
                        if s88 = v86 then (
                          grd (lin σ_ o1_ ((19 : Int32) + ((16 : Int32) * v19_))) <|
                          j654 (gI σ_ o1_ (Int32.toNatClampNeg ((19 : Int32) + ((16 : Int32) * v19_))))
                          ) else (
                          if s88 ≤ 0 then (
                            j654 (0 : Int32)
                            ) else (
                            j654 (-u9_)
                            )
                          )
                        ) else (
                        j618 ()
                        )
                      )
                    ) fun j606 =>
                  vthen (fun (_u : Unit) =>
                    j606 (0 : Int32)
                    ) fun j605 =>
                  if s88 = 0 then (
                    if u14_ < u8_ then (
                      j605 ()
                      ) else (
                      j606 (gI σ_ o11_ (Int32.toNatClampNeg v19_))
                      )
                    ) else (
                    j605 ()
                    )
                  ) fun j583 =>
                if s90 = 0 then (
                  j583 s89
                  ) else (
                  j583 (2 : Int32)
                  )
                ) fun j570 =>
              vthen (fun (_u : Unit) =>
                j570 (0 : Int32)
                ) fun j569 =>
              if s87 = 0 then (
                j569 ()
                ) else (
                if v84 ≤ (1 : Int32) then (
                  j569 ()
                  ) else (
                  grd (lin σ_ o1_ ((16 : Int32) + ((16 : Int32) * v19_))) <|
                  if (gI σ_ o1_ (Int32.toNatClampNeg ((16 : Int32) + ((16 : Int32) * v19_)))) = (1 : Int32) then (
                    j570 (1 : Int32)
                    ) else (
                    j569 ()
                    )
                  )
                )
              ) fun j538 =>
            vthen (fun (_u : Unit) =>
              j538 (0 : Int32)
              ) fun j537 =>
            if v84 ≤ 0 then (
              j537 ()
              ) else (
              if s87 = 0 then (
                if ((2 : Int32) * u14_) < u6_ then (
                  j537 ()
                  ) else (
                  j538 (1 : Int32)
                  )
                ) else (
                j537 ()
                )
              )
            ) fun j512 =>
          if s87 = 0 then (
            j512 (0 : Int32)
            ) else (
            j512 (gI σ_ o11_ (Int32.toNatClampNeg v19_))
            )
          ) fun j496 =>
        if u14_ < u6_ then (
          j496 (0 : Int32)
          ) else (
          j496 (1 : Int32)
          )
        )
      )

def fL_reads (σ : SS) (a1 : Nat) (a2 : Nat) (a3 : Int32) (a4 : Int32) : Option (Bool × SS) :=
  bnd (fL_next σ a2) fun v1 σ4 =>
  vthen ((1 : Int32) + (irm v1 (9 : Int32))) fun v5 =>
  bnd (fL_next σ4 a2) fun v6 σ9 =>
  vthen ((1 : Int32) + (irm v6 (30 : Int32))) fun v10 =>
  bnd (fL_next σ9 a2) fun v11 σ14 =>
  vthen ((1 : Int32) + (irm v11 (20 : Int32))) fun v15 =>
  bnd (fL_next σ14 a2) fun v16 σ19 =>
  vthen ((1 : Int32) + (irm v16 (20 : Int32))) fun v20 =>
  bnd (fL_next σ19 a2) fun v21 σ24 =>
  vthen (irm v21 (5 : Int32)) fun v25 =>
  bnd (fX7_blank σ24 (a3 + (7 : Int32)) (a4 + (7 : Int32))) fun b27 σ29 =>
  vthen (fun (s30 : Int32) (σ31 : SS) =>
    L_reads_L162 a3 a4
    (fun v39 σ40 =>
      vthen (2000 + gR σ40 0 0) fun c42 =>
      vthen (mkL σ40 12) fun σ41 =>
      L_reads_L238 a1 a2 c42
      (fun v73 v74 v75 σ76 =>
        grd (lin σ76 a1 (1 : Int32)) <|
        grd (lin σ76 a1 (2 : Int32)) <|
        vthen (((gI σ76 a1 1) * (gI σ76 a1 2)) * v5) fun v79 =>
        vthen (fun (s80 : Int32) (σ81 : SS) =>
          L_reads_L449 a1 v10 v20 v25 c42 v75 v79
          (fun v144 v145 v146 v147 v148 σ149 =>
            vthen (fun (s150 : Int32) (σ151 : SS) =>
              vthen (fun  (σ152 : SS) =>
                some (false, σ152)
                ) fun j1005 =>
              if s150 = 0 then (
                j1005 σ151
                ) else (
                bnd (fX7_apart σ151 (0 : Int32)) fun v153 σ156 =>
                vthen (fun (s157 : Int32) =>
                  if v153 = s157 then (
                    bnd (fX7_apart σ156 (1 : Int32)) fun v158 σ161 =>
                    if v158 = v75 then (
                      if v74 ≤ v75 then (
                        j1005 σ161
                        ) else (
                        some (true, σ161)
                        )
                      ) else (
                      j1005 σ161
                      )
                    ) else (
                    j1005 σ156
                    )
                  ) fun j981 =>
                if v75 ≤ 0 then (
                  j981 (0 : Int32)
                  ) else (
                  j981 v79
                  )
                )
              ) fun j958 =>
            vthen (fun  (σ162 : SS) =>
              j958 (0 : Int32) σ162
              ) fun j957 =>
            if v144 = 0 then (
              j957 σ149
              ) else (
              bnd (fX7_dark σ149 (0 : Int32) (-1 : Int32)) fun v163 σ166 =>
              if v163 = 0 then (
                bnd (fX7_sheet σ166 (0 : Int32)) fun v167 σ170 =>
                if v167 = v145 then (
                  bnd (fX7_sheet σ170 (1 : Int32)) fun v171 σ174 =>
                  if v171 = v146 then (
                    bnd (fX7_sheet σ174 (2 : Int32)) fun v175 σ178 =>
                    if v175 = v147 then (
                      bnd (fX7_unlike σ178) fun v179 σ182 =>
                      if v179 = v148 then (
                        j958 (1 : Int32) σ182
                        ) else (
                        j957 σ182
                        )
                      ) else (
                      j957 σ178
                      )
                    ) else (
                    j957 σ174
                    )
                  ) else (
                  j957 σ170
                  )
                ) else (
                j957 σ166
                )
              )
            )
          fuel s80 (0 : Int32) (0 : Int32) (0 : Int32) (0 : Int32) (0 : Int32) σ81
          ) fun j432 =>
        vthen (fun  (σ183 : SS) =>
          j432 (0 : Int32) σ183
          ) fun j431 =>
        if v73 = 0 then (
          j431 σ76
          ) else (
          bnd (fX7_print σ76 v5) fun v184 σ187 =>
          grd (lin σ187 a1 (1 : Int32)) <|
          grd (lin σ187 a1 (2 : Int32)) <|
          if v184 = ((36 : Int32) + ((v75 * (gI σ187 a1 1)) * (gI σ187 a1 2))) then (
            bnd1 (fX7_count σ187 (10 : Int32)) fun v190 =>
            if v190 = ((324 : Int32) + (v75 * v79)) then (
              bnd (fX7_marked σ187) fun v193 σ196 =>
              if v193 = (1 : Int32) then (
                j432 (1 : Int32) σ196
                ) else (
                j431 σ196
                )
              ) else (
              j431 σ187
              )
            ) else (
            j431 σ187
            )
          )
        )
      fuel v39 (0 : Int32) (0 : Int32) (0 : Int32) σ41
      )
    fuel s30 (0 : Int32) σ31
    ) fun j157 =>
  vthen (fun  (σ197 : SS) =>
    j157 (0 : Int32) σ197
    ) fun j156 =>
  if b27 = true then (
    bnd (fL_next σ29 a2) fun v198 σ201 =>
    bnd (fX7_set σ201 (0 : Int32) ((1 : Int32) + (irm v198 (9 : Int32)))) fun v202 σ205 =>
    if v202 ≤ 0 then (
      j156 σ205
      ) else (
      bnd (fX7_set σ205 (2 : Int32) (9 : Int32)) fun v206 σ209 =>
      if v206 ≤ 0 then (
        j156 σ209
        ) else (
        bnd (fX7_set σ209 (3 : Int32) v10) fun v210 σ213 =>
        if v210 ≤ 0 then (
          j156 σ213
          ) else (
          bnd (fX7_set σ213 (4 : Int32) v15) fun v214 σ217 =>
          if v214 < 0 then (
            j156 σ217
            ) else (
            bnd (fX7_set σ217 (5 : Int32) v20) fun v218 σ221 =>
            if v218 < 0 then (
              j156 σ221
              ) else (
              bnd (fX7_set σ221 (6 : Int32) v25) fun v222 σ225 =>
              if v222 < 0 then (
                j156 σ225
                ) else (
                bnd (fL_next σ225 a2) fun v226 σ229 =>
                bnd (fX7_set σ229 (1 : Int32) ((1 : Int32) + (irm v226 (3 : Int32)))) fun v230 σ233 =>
                if v230 ≤ 0 then (
                  j156 σ233
                  ) else (
                  j157 (1 : Int32) σ233
                  )
                )
              )
            )
          )
        )
      )
    ) else (
    j156 σ29
    )

set_option maxRecDepth 20000 in
theorem sL_reads_L162 {g : GG} {r : Bool × SS} {x1_ : Nat} {x2_ : Nat} {u3_ : Int32} {u4_ : Int32} {x5_ : Int32} {x6_ : Int32} {x8_ : Int32} {x9_ : Int32} {zc_ zs_ : Nat} {k223 : Int32 → SS → Option (Bool × SS)} (hz_ : zc_ ≤ mL_reads.2.2.2.2.cells ∧ zs_ ≤ mL_reads.2.2.2.2.slots)
    (hk223 : ∀ (y10 : Int32) (σ_ : SS), k223 y10 σ_ = some r → WT σ_ → RR g mL_reads (FinR g mL_reads (some (.int (b2i r.1))) NF r.2) (NF, zc_, zs_) 223 [(0, .ref (ad g 1)), (1, .ref (ad g x1_)), (2, .ref (ad g x2_)), (5, .int x5_), (6, .int x6_), (8, .int x8_), (9, .int x9_), (10, .int y10)] [] σ_)
    (n : Nat) : ∀ (v10_ : Int32) (v11_ : Int32) (σ_ : SS), L_reads_L162 u3_ u4_ k223 n v10_ v11_ σ_ = some r → WT σ_ → RR g mL_reads (FinR g mL_reads (some (.int (b2i r.1))) NF r.2) (NF, zc_, zs_) 162 [(0, .ref (ad g 1)), (1, .ref (ad g x1_)), (2, .ref (ad g x2_)), (3, .int u3_), (4, .int u4_), (5, .int x5_), (6, .int x6_), (8, .int x8_), (9, .int x9_), (10, .int v10_), (11, .int v11_)] [] σ_ := by
  unfold L_reads_L162
  refine lp_ind (P := fun (rec : Int32 → Int32 → SS → Option (Bool × SS)) => ∀ (v10_ : Int32) (v11_ : Int32) (σ_ : SS), rec v10_ v11_ σ_ = some r → WT σ_ → RR g mL_reads (FinR g mL_reads (some (.int (b2i r.1))) NF r.2) (NF, zc_, zs_) 162 [(0, .ref (ad g 1)), (1, .ref (ad g x1_)), (2, .ref (ad g x2_)), (3, .int u3_), (4, .int u4_), (5, .int x5_), (6, .int x6_), (8, .int x8_), (9, .int x9_), (10, .int v10_), (11, .int v11_)] [] σ_) ?_ ?_ n
  · intro v10_ v11_ σ_ hr; cases hr
  intro rec ih v10_ v11_ σ_ hr hw_
  refine r_iload (pc := 162) (j := 10) dL_reads_162 rfl ?_
  refine r_iconst (pc := 164) (v := (4 : Int32)) dL_reads_164 rfl ?_
  refine r_icmp_ge (pc := 165) (tgt := 223) dL_reads_165 rfl (fun hc => ?_) (fun hc => ?_)
  · replace hr := ite_t hc hr
    exact r_pick (ls1 := [(0, .ref (ad g 1)), (1, .ref (ad g x1_)), (2, .ref (ad g x2_)), (5, .int x5_), (6, .int x6_), (8, .int x8_), (9, .int x9_), (10, .int v10_)]) [0, 1, 2, 5, 6, 7, 8, 9] rfl (hk223 v10_ σ_ hr hw_)
  replace hr := ite_f hc hr
  refine r_iload (pc := 168) (j := 9) dL_reads_168 rfl ?_
  obtain ⟨j214, ej214, hr⟩ := vth_ex hr
  have hj214 : ∀ (σ32 : SS), j214 σ32 = some r → WT σ32 → RR g mL_reads (FinR g mL_reads (some (.int (b2i r.1))) NF r.2) (NF, zc_, zs_) 214 [(0, .ref (ad g 1)), (1, .ref (ad g x1_)), (2, .ref (ad g x2_)), (3, .int u3_), (4, .int u4_), (5, .int x5_), (6, .int x6_), (8, .int x8_), (9, .int x9_), (11, .int v11_)] [] σ32 := by
    intro σ32 hr hσ32
    replace hr := (congrFun ej214 σ32).symm.trans hr
    refine r_iconst (pc := 214) (v := (0 : Int32)) dL_reads_214 rfl ?_
    refine r_istore (pc := 215) (ls1 := [(10, .int (0 : Int32)), (0, .ref (ad g 1)), (1, .ref (ad g x1_)), (2, .ref (ad g x2_)), (3, .int u3_), (4, .int u4_), (5, .int x5_), (6, .int x6_), (8, .int x8_), (9, .int x9_), (11, .int v11_)]) dL_reads_215 (nle rfl) rfl ?_
    refine r_iinc (pc := 217) (j := 10) (v := (v11_ + (1 : Int32))) (ls1 := [(11, .int (v11_ + (1 : Int32))), (10, .int (0 : Int32)), (0, .ref (ad g 1)), (1, .ref (ad g x1_)), (2, .ref (ad g x2_)), (3, .int u3_), (4, .int u4_), (5, .int x5_), (6, .int x6_), (8, .int x8_), (9, .int x9_)]) dL_reads_217 rfl rfl (nle rfl) rfl ?_
    refine r_goto (pc := 220) (tgt := 162) dL_reads_220 rfl ?_
    exact r_pick (ls1 := [(0, .ref (ad g 1)), (1, .ref (ad g x1_)), (2, .ref (ad g x2_)), (3, .int u3_), (4, .int u4_), (5, .int x5_), (6, .int x6_), (8, .int x8_), (9, .int x9_), (10, .int (0 : Int32)), (11, .int (v11_ + (1 : Int32)))]) [2, 3, 4, 5, 6, 7, 8, 9, 10, 1, 0] rfl (ih (0 : Int32) (v11_ + (1 : Int32)) σ32 hr hσ32)
  refine r_if_eq (pc := 170) (tgt := 214) dL_reads_170 rfl (fun hc => ?_) (fun hc => ?_)
  · replace hr := ite_t hc hr
    exact r_pick (ls1 := [(0, .ref (ad g 1)), (1, .ref (ad g x1_)), (2, .ref (ad g x2_)), (3, .int u3_), (4, .int u4_), (5, .int x5_), (6, .int x6_), (8, .int x8_), (9, .int x9_), (11, .int v11_)]) [0, 1, 2, 3, 4, 5, 6, 7, 8, 10] rfl (hj214 σ_ hr hw_)
  replace hr := ite_f hc hr
  refine r_aload_n (pc := 173) (j := 0) dL_reads_173 rfl rfl ?_
  refine r_iload (pc := 174) (j := 10) dL_reads_174 rfl ?_
  refine r_iload (pc := 176) (j := 10) dL_reads_176 rfl ?_
  refine r_iconst (pc := 178) (v := (2 : Int32)) dL_reads_178 rfl ?_
  refine r_irem (pc := 179) dL_reads_179 (by decide) ?_
  obtain ⟨j190, ej190, hr⟩ := vth_ex hr
  have hj190 : ∀ (s33 : Int32), j190 s33 = some r → RR g mL_reads (FinR g mL_reads (some (.int (b2i r.1))) NF r.2) (NF, zc_, zs_) 190 [(0, .ref (ad g 1)), (1, .ref (ad g x1_)), (2, .ref (ad g x2_)), (3, .int u3_), (4, .int u4_), (5, .int x5_), (6, .int x6_), (8, .int x8_), (9, .int x9_), (11, .int v11_)] [.int s33, .int v11_, .ref (ad g 1)] σ_ := by
    intro s33 hr
    replace hr := (congrFun ej190 s33).symm.trans hr
    refine r_iload (pc := 190) (j := 9) dL_reads_190 rfl ?_
    refine r_iconst (pc := 192) (v := (2 : Int32)) dL_reads_192 rfl ?_
    obtain ⟨j204, ej204, hr⟩ := vth_ex hr
    have hj204 : ∀ (s34 : Int32), j204 s34 = some r → RR g mL_reads (FinR g mL_reads (some (.int (b2i r.1))) NF r.2) (NF, zc_, zs_) 204 [(0, .ref (ad g 1)), (1, .ref (ad g x1_)), (2, .ref (ad g x2_)), (3, .int u3_), (4, .int u4_), (5, .int x5_), (6, .int x6_), (8, .int x8_), (9, .int x9_), (11, .int v11_)] [.int s34, .int s33, .int v11_, .ref (ad g 1)] σ_ := by
      intro s34 hr
      replace hr := (congrFun ej204 s34).symm.trans hr
      obtain ⟨b36, σ38, eσ38, hr⟩ := bnd_inv hr
      refine qX7_corner (pc := 204) eσ38 tw_4_74 hz_ ⟨nle rfl, nle rfl⟩ (nle rfl) dL_reads_204 fun hσ38 => ?_
      refine r_ifB_eq (pc := 207) (tgt := 214) dL_reads_207 rfl (fun hc => ?_) (fun hc => ?_)
      · replace hr := ite_f hc hr
        exact r_pick (ls1 := [(0, .ref (ad g 1)), (1, .ref (ad g x1_)), (2, .ref (ad g x2_)), (3, .int u3_), (4, .int u4_), (5, .int x5_), (6, .int x6_), (8, .int x8_), (9, .int x9_), (11, .int v11_)]) [0, 1, 2, 3, 4, 5, 6, 7, 8, 9] rfl (hj214 σ38 hr hσ38)
      replace hr := ite_t hc hr
      refine r_iconst (pc := 210) (v := (1 : Int32)) dL_reads_210 rfl ?_
      refine r_goto (pc := 211) (tgt := 215) dL_reads_211 rfl ?_
      refine r_istore (pc := 215) (ls1 := [(10, .int (1 : Int32)), (0, .ref (ad g 1)), (1, .ref (ad g x1_)), (2, .ref (ad g x2_)), (3, .int u3_), (4, .int u4_), (5, .int x5_), (6, .int x6_), (8, .int x8_), (9, .int x9_), (11, .int v11_)]) dL_reads_215 (nle rfl) rfl ?_
      refine r_iinc (pc := 217) (j := 10) (v := (v11_ + (1 : Int32))) (ls1 := [(11, .int (v11_ + (1 : Int32))), (10, .int (1 : Int32)), (0, .ref (ad g 1)), (1, .ref (ad g x1_)), (2, .ref (ad g x2_)), (3, .int u3_), (4, .int u4_), (5, .int x5_), (6, .int x6_), (8, .int x8_), (9, .int x9_)]) dL_reads_217 rfl rfl (nle rfl) rfl ?_
      refine r_goto (pc := 220) (tgt := 162) dL_reads_220 rfl ?_
      exact r_pick (ls1 := [(0, .ref (ad g 1)), (1, .ref (ad g x1_)), (2, .ref (ad g x2_)), (3, .int u3_), (4, .int u4_), (5, .int x5_), (6, .int x6_), (8, .int x8_), (9, .int x9_), (10, .int (1 : Int32)), (11, .int (v11_ + (1 : Int32)))]) [2, 3, 4, 5, 6, 7, 8, 9, 10, 1, 0] rfl (ih (1 : Int32) (v11_ + (1 : Int32)) σ38 hr hσ38)
    refine r_icmp_ge (pc := 193) (tgt := 200) dL_reads_193 rfl (fun hc => ?_) (fun hc => ?_)
    · replace hr := ite_t hc hr
      refine r_iload (pc := 200) (j := 4) dL_reads_200 rfl ?_
      refine r_iconst (pc := 202) (v := (3 : Int32)) dL_reads_202 rfl ?_
      refine r_iadd (pc := 203) dL_reads_203 ?_
      exact r_pick (ls1 := [(0, .ref (ad g 1)), (1, .ref (ad g x1_)), (2, .ref (ad g x2_)), (3, .int u3_), (4, .int u4_), (5, .int x5_), (6, .int x6_), (8, .int x8_), (9, .int x9_), (11, .int v11_)]) [0, 1, 2, 3, 4, 5, 6, 7, 8, 9] rfl (hj204 (u4_ + (3 : Int32)) hr)
    replace hr := ite_f hc hr
    refine r_iconst (pc := 196) (v := (3 : Int32)) dL_reads_196 rfl ?_
    refine r_goto (pc := 197) (tgt := 204) dL_reads_197 rfl ?_
    exact r_pick (ls1 := [(0, .ref (ad g 1)), (1, .ref (ad g x1_)), (2, .ref (ad g x2_)), (3, .int u3_), (4, .int u4_), (5, .int x5_), (6, .int x6_), (8, .int x8_), (9, .int x9_), (11, .int v11_)]) [0, 1, 2, 3, 4, 5, 6, 7, 8, 9] rfl (hj204 (3 : Int32) hr)
  refine r_if_ne (pc := 180) (tgt := 187) dL_reads_180 rfl (fun hc => ?_) (fun hc => ?_)
  · replace hr := ite_f hc hr
    refine r_iload_n (pc := 187) (j := 3) dL_reads_187 rfl rfl ?_
    refine r_iconst (pc := 188) (v := (3 : Int32)) dL_reads_188 rfl ?_
    refine r_iadd (pc := 189) dL_reads_189 ?_
    exact r_pick (ls1 := [(0, .ref (ad g 1)), (1, .ref (ad g x1_)), (2, .ref (ad g x2_)), (3, .int u3_), (4, .int u4_), (5, .int x5_), (6, .int x6_), (8, .int x8_), (9, .int x9_), (11, .int v11_)]) [0, 1, 2, 3, 4, 5, 6, 7, 8, 10] rfl (hj190 (u3_ + (3 : Int32)) hr)
  replace hr := ite_t hc hr
  refine r_iconst (pc := 183) (v := (3 : Int32)) dL_reads_183 rfl ?_
  refine r_goto (pc := 184) (tgt := 190) dL_reads_184 rfl ?_
  exact r_pick (ls1 := [(0, .ref (ad g 1)), (1, .ref (ad g x1_)), (2, .ref (ad g x2_)), (3, .int u3_), (4, .int u4_), (5, .int x5_), (6, .int x6_), (8, .int x8_), (9, .int x9_), (11, .int v11_)]) [0, 1, 2, 3, 4, 5, 6, 7, 8, 10] rfl (hj190 (3 : Int32) hr)

set_option maxRecDepth 20000 in
theorem sL_reads_L238 {g : GG} {r : Bool × SS} {o1_ : Nat} {o2_ : Nat} {x5_ : Int32} {x6_ : Int32} {x8_ : Int32} {x9_ : Int32} {o11_ : Nat} {zc_ zs_ : Nat} {k362 : Int32 → Int32 → Int32 → SS → Option (Bool × SS)} (hz_ : zc_ ≤ mL_reads.2.2.2.2.cells ∧ zs_ ≤ mL_reads.2.2.2.2.slots)
    (hk362 : ∀ (y10 : Int32) (y12 : Int32) (y13 : Int32) (σ_ : SS), k362 y10 y12 y13 σ_ = some r → WT σ_ → RR g mL_reads (FinR g mL_reads (some (.int (b2i r.1))) NF r.2) (NF, zc_, zs_) 362 [(0, .ref (ad g 1)), (1, .ref (ad g o1_)), (5, .int x5_), (6, .int x6_), (8, .int x8_), (9, .int x9_), (10, .int y10), (11, .ref (ad g o11_)), (12, .int y12), (13, .int y13)] [] σ_)
    (n : Nat) : ∀ (v10_ : Int32) (v12_ : Int32) (v13_ : Int32) (v14_ : Int32) (σ_ : SS), L_reads_L238 o1_ o2_ o11_ k362 n v10_ v12_ v13_ v14_ σ_ = some r → WT σ_ → RR g mL_reads (FinR g mL_reads (some (.int (b2i r.1))) NF r.2) (NF, zc_, zs_) 238 [(0, .ref (ad g 1)), (1, .ref (ad g o1_)), (2, .ref (ad g o2_)), (5, .int x5_), (6, .int x6_), (8, .int x8_), (9, .int x9_), (10, .int v10_), (11, .ref (ad g o11_)), (12, .int v12_), (13, .int v13_), (14, .int v14_)] [] σ_ := by
  unfold L_reads_L238
  refine lp_ind (P := fun (rec : Int32 → Int32 → Int32 → Int32 → SS → Option (Bool × SS)) => ∀ (v10_ : Int32) (v12_ : Int32) (v13_ : Int32) (v14_ : Int32) (σ_ : SS), rec v10_ v12_ v13_ v14_ σ_ = some r → WT σ_ → RR g mL_reads (FinR g mL_reads (some (.int (b2i r.1))) NF r.2) (NF, zc_, zs_) 238 [(0, .ref (ad g 1)), (1, .ref (ad g o1_)), (2, .ref (ad g o2_)), (5, .int x5_), (6, .int x6_), (8, .int x8_), (9, .int x9_), (10, .int v10_), (11, .ref (ad g o11_)), (12, .int v12_), (13, .int v13_), (14, .int v14_)] [] σ_) ?_ ?_ n
  · intro v10_ v12_ v13_ v14_ σ_ hr; cases hr
  intro rec ih v10_ v12_ v13_ v14_ σ_ hr hw_
  refine r_iload (pc := 238) (j := 11) dL_reads_238 rfl ?_
  refine r_aload_n (pc := 240) (j := 1) dL_reads_240 rfl rfl ?_
  refine r_iconst (pc := 241) (v := (0 : Int32)) dL_reads_241 rfl ?_
  obtain ⟨h43, hr⟩ := grd_inv hr
  refine y_iald (pc := 242) (k := 0) h43 rfl dL_reads_242 ?_
  refine r_icmp_ge (pc := 243) (tgt := 362) dL_reads_243 rfl (fun hc => ?_) (fun hc => ?_)
  · replace hr := ite_t hc hr
    exact r_pick (ls1 := [(0, .ref (ad g 1)), (1, .ref (ad g o1_)), (5, .int x5_), (6, .int x6_), (8, .int x8_), (9, .int x9_), (10, .int v10_), (11, .ref (ad g o11_)), (12, .int v12_), (13, .int v13_)]) [0, 1, 3, 4, 5, 6, 7, 8, 9, 10] rfl (hk362 v10_ v12_ v13_ σ_ hr hw_)
  replace hr := ite_f hc hr
  refine r_aload_n (pc := 246) (j := 1) dL_reads_246 rfl rfl ?_
  refine r_bipush (pc := 247) (v := (17 : Int32)) dL_reads_247 rfl ?_
  refine r_bipush (pc := 249) (v := (16 : Int32)) dL_reads_249 rfl ?_
  refine r_iload (pc := 251) (j := 11) dL_reads_251 rfl ?_
  refine r_imul (pc := 253) dL_reads_253 ?_
  refine r_iadd (pc := 254) dL_reads_254 ?_
  obtain ⟨h44, hr⟩ := grd_inv hr
  refine y_iald (pc := 255) (k := (Int32.toNatClampNeg ((17 : Int32) + ((16 : Int32) * v14_)))) h44 rfl dL_reads_255 ?_
  refine r_topi fun v45 ev45 => ?_
  replace hr := vthen_inv hr v45 ev45
  refine r_istore (pc := 256) (ls1 := [(15, .int v45), (0, .ref (ad g 1)), (1, .ref (ad g o1_)), (2, .ref (ad g o2_)), (5, .int x5_), (6, .int x6_), (8, .int x8_), (9, .int x9_), (10, .int v10_), (11, .ref (ad g o11_)), (12, .int v12_), (13, .int v13_), (14, .int v14_)]) dL_reads_256 (nle rfl) rfl ?_
  refine r_aload (pc := 258) (j := 9) dL_reads_258 rfl ?_
  refine r_iload (pc := 260) (j := 12) dL_reads_260 rfl ?_
  refine r_aload_n (pc := 262) (j := 3) dL_reads_262 rfl rfl ?_
  obtain ⟨v46, σ49, eσ49, hr⟩ := bnd_inv hr
  refine qL_next (pc := 263) eσ49 tw_3_125 hz_ ⟨nle rfl, nle rfl⟩ (nle rfl) dL_reads_263 fun hσ49 => ?_
  refine r_iconst (pc := 266) (v := (1 : Int32)) dL_reads_266 rfl ?_
  refine r_iload (pc := 267) (j := 0) dL_reads_267 rfl ?_
  refine r_ishl (pc := 269) dL_reads_269 ?_
  obtain ⟨h50, hr⟩ := grd_inv hr
  refine r_irem (pc := 270) dL_reads_270 (nz_ne h50) ?_
  obtain ⟨h51, hr⟩ := grd_inv hr
  refine y_iast (pc := 271) (j := (Int32.toNatClampNeg v14_)) h51 rfl dL_reads_271 fun σ52 eσ52 => ?_
  replace hr := vthen_inv hr σ52 eσ52
  have hσ52 := wtI eσ52 hσ49
  refine r_aload (pc := 272) (j := 9) dL_reads_272 rfl ?_
  refine r_iload (pc := 274) (j := 12) dL_reads_274 rfl ?_
  refine r_dup2 (pc := 276) dL_reads_276 rfl rfl ?_
  obtain ⟨h53, hr⟩ := grd_inv hr
  refine y_iald (pc := 277) (k := (Int32.toNatClampNeg v14_)) h53 rfl dL_reads_277 ?_
  refine r_iload (pc := 278) (j := 12) dL_reads_278 rfl ?_
  obtain ⟨j289, ej289, hr⟩ := vth_ex hr
  have hj289 : ∀ (s54 : Int32), j289 s54 = some r → RR g mL_reads (FinR g mL_reads (some (.int (b2i r.1))) NF r.2) (NF, zc_, zs_) 289 [(0, .ref (ad g 1)), (1, .ref (ad g o1_)), (2, .ref (ad g o2_)), (5, .int x5_), (6, .int x6_), (8, .int x8_), (9, .int x9_), (10, .int v10_), (11, .ref (ad g o11_)), (12, .int v12_), (13, .int v13_), (14, .int v14_), (15, .int v45)] [.int s54, .int (gI σ52 o11_ (Int32.toNatClampNeg v14_)), .int v14_, .ref (ad g o11_)] σ52 := by
    intro s54 hr
    replace hr := (congrFun ej289 s54).symm.trans hr
    refine r_iand (pc := 289) dL_reads_289 ?_
    refine y_iast (pc := 290) (j := (Int32.toNatClampNeg v14_)) h53 rfl dL_reads_290 fun σ55 eσ55 => ?_
    replace hr := vthen_inv hr σ55 eσ55
    have hσ55 := wtI eσ55 hσ52
    refine r_iload (pc := 291) (j := 7) dL_reads_291 rfl ?_
    obtain ⟨j334, ej334, hr⟩ := vth_ex hr
    have hj334 : ∀ (s56 : Int32) (σ57 : SS), j334 s56 σ57 = some r → WT σ57 → RR g mL_reads (FinR g mL_reads (some (.int (b2i r.1))) NF r.2) (NF, zc_, zs_) 334 [(0, .ref (ad g 1)), (1, .ref (ad g o1_)), (2, .ref (ad g o2_)), (5, .int x5_), (6, .int x6_), (8, .int x8_), (9, .int x9_), (11, .ref (ad g o11_)), (12, .int v12_), (13, .int v13_), (14, .int v14_), (15, .int v45)] [.int s56] σ57 := by
      intro s56 σ57 hr hσ57
      replace hr := (congrFun (congrFun ej334 s56) σ57).symm.trans hr
      refine r_istore (pc := 334) (ls1 := [(10, .int s56), (0, .ref (ad g 1)), (1, .ref (ad g o1_)), (2, .ref (ad g o2_)), (5, .int x5_), (6, .int x6_), (8, .int x8_), (9, .int x9_), (11, .ref (ad g o11_)), (12, .int v12_), (13, .int v13_), (14, .int v14_), (15, .int v45)]) dL_reads_334 (nle rfl) rfl ?_
      refine r_iload (pc := 336) (j := 9) dL_reads_336 rfl ?_
      refine r_iload (pc := 338) (j := 12) dL_reads_338 rfl ?_
      refine r_iadd (pc := 340) dL_reads_340 ?_
      refine r_topi fun v58 ev58 => ?_
      replace hr := vthen_inv hr v58 ev58
      refine r_istore (pc := 341) (ls1 := [(12, .int v58), (10, .int s56), (0, .ref (ad g 1)), (1, .ref (ad g o1_)), (2, .ref (ad g o2_)), (5, .int x5_), (6, .int x6_), (8, .int x8_), (9, .int x9_), (11, .ref (ad g o11_)), (13, .int v13_), (14, .int v14_), (15, .int v45)]) dL_reads_341 (nle rfl) rfl ?_
      refine r_iload (pc := 343) (j := 10) dL_reads_343 rfl ?_
      refine r_aload (pc := 345) (j := 9) dL_reads_345 rfl ?_
      refine r_iload (pc := 347) (j := 11) dL_reads_347 rfl ?_
      obtain ⟨h59, hr⟩ := grd_inv hr
      refine y_iald (pc := 349) (k := (Int32.toNatClampNeg v14_)) h59 rfl dL_reads_349 ?_
      refine qJ6_bitCount_0f7a4 (pc := 350) (hf := rfl) tw_4_86 hz_ ⟨nle rfl, nle rfl⟩ (nle rfl) dL_reads_350 ?_
      refine r_iadd (pc := 353) dL_reads_353 ?_
      refine r_topi fun v60 ev60 => ?_
      replace hr := vthen_inv hr v60 ev60
      refine r_istore (pc := 354) (ls1 := [(13, .int v60), (12, .int v58), (10, .int s56), (0, .ref (ad g 1)), (1, .ref (ad g o1_)), (2, .ref (ad g o2_)), (5, .int x5_), (6, .int x6_), (8, .int x8_), (9, .int x9_), (11, .ref (ad g o11_)), (14, .int v14_), (15, .int v45)]) dL_reads_354 (nle rfl) rfl ?_
      refine r_iinc (pc := 356) (j := 11) (v := (v14_ + (1 : Int32))) (ls1 := [(14, .int (v14_ + (1 : Int32))), (13, .int v60), (12, .int v58), (10, .int s56), (0, .ref (ad g 1)), (1, .ref (ad g o1_)), (2, .ref (ad g o2_)), (5, .int x5_), (6, .int x6_), (8, .int x8_), (9, .int x9_), (11, .ref (ad g o11_)), (15, .int v45)]) dL_reads_356 rfl rfl (nle rfl) rfl ?_
      refine r_goto (pc := 359) (tgt := 238) dL_reads_359 rfl ?_
      exact r_pick (ls1 := [(0, .ref (ad g 1)), (1, .ref (ad g o1_)), (2, .ref (ad g o2_)), (5, .int x5_), (6, .int x6_), (8, .int x8_), (9, .int x9_), (10, .int s56), (11, .ref (ad g o11_)), (12, .int v58), (13, .int v60), (14, .int (v14_ + (1 : Int32)))]) [4, 5, 6, 7, 8, 9, 10, 3, 11, 2, 1, 0] rfl (ih s56 v58 v60 (v14_ + (1 : Int32)) σ57 hr hσ57)
    obtain ⟨j333, ej333, hr⟩ := vth_ex hr
    have hj333 : ∀ (σ61 : SS), j333 σ61 = some r → WT σ61 → RR g mL_reads (FinR g mL_reads (some (.int (b2i r.1))) NF r.2) (NF, zc_, zs_) 333 [(0, .ref (ad g 1)), (1, .ref (ad g o1_)), (2, .ref (ad g o2_)), (5, .int x5_), (6, .int x6_), (8, .int x8_), (9, .int x9_), (11, .ref (ad g o11_)), (12, .int v12_), (13, .int v13_), (14, .int v14_), (15, .int v45)] [] σ61 := by
      intro σ61 hr hσ61
      replace hr := (congrFun ej333 σ61).symm.trans hr
      refine r_iconst (pc := 333) (v := (0 : Int32)) dL_reads_333 rfl ?_
      exact r_pick (ls1 := [(0, .ref (ad g 1)), (1, .ref (ad g o1_)), (2, .ref (ad g o2_)), (5, .int x5_), (6, .int x6_), (8, .int x8_), (9, .int x9_), (11, .ref (ad g o11_)), (12, .int v12_), (13, .int v13_), (14, .int v14_), (15, .int v45)]) [0, 1, 2, 3, 4, 5, 6, 7, 8, 9, 10, 11] rfl (hj334 (0 : Int32) σ61 hr hσ61)
    refine r_if_eq (pc := 293) (tgt := 333) dL_reads_293 rfl (fun hc => ?_) (fun hc => ?_)
    · replace hr := ite_t hc hr
      exact r_pick (ls1 := [(0, .ref (ad g 1)), (1, .ref (ad g o1_)), (2, .ref (ad g o2_)), (5, .int x5_), (6, .int x6_), (8, .int x8_), (9, .int x9_), (11, .ref (ad g o11_)), (12, .int v12_), (13, .int v13_), (14, .int v14_), (15, .int v45)]) [0, 1, 2, 3, 4, 5, 6, 8, 9, 10, 11, 12] rfl (hj333 σ55 hr hσ55)
    replace hr := ite_f hc hr
    refine r_aload_n (pc := 296) (j := 0) dL_reads_296 rfl rfl ?_
    refine r_iload (pc := 297) (j := 11) dL_reads_297 rfl ?_
    refine r_aload (pc := 299) (j := 8) dL_reads_299 rfl ?_
    refine r_iload (pc := 301) (j := 11) dL_reads_301 rfl ?_
    obtain ⟨h62, hr⟩ := grd_inv hr
    refine y_iald (pc := 303) (k := (Int32.toNatClampNeg v14_)) h62 rfl dL_reads_303 ?_
    obtain ⟨v63, σ66, eσ66, hr⟩ := bnd_inv hr
    refine qX7_tick (pc := 304) eσ66 tw_4_78 hz_ ⟨nle rfl, nle rfl⟩ (nle rfl) dL_reads_304 fun hσ66 => ?_
    refine r_if_ne (pc := 307) (tgt := 333) dL_reads_307 rfl (fun hc => ?_) (fun hc => ?_)
    · replace hr := ite_f hc hr
      exact r_pick (ls1 := [(0, .ref (ad g 1)), (1, .ref (ad g o1_)), (2, .ref (ad g o2_)), (5, .int x5_), (6, .int x6_), (8, .int x8_), (9, .int x9_), (11, .ref (ad g o11_)), (12, .int v12_), (13, .int v13_), (14, .int v14_), (15, .int v45)]) [0, 1, 2, 3, 4, 5, 6, 8, 9, 10, 11, 12] rfl (hj333 σ66 hr hσ66)
    replace hr := ite_t hc hr
    refine r_aload_n (pc := 310) (j := 0) dL_reads_310 rfl rfl ?_
    refine r_iload (pc := 311) (j := 11) dL_reads_311 rfl ?_
    refine r_aload (pc := 313) (j := 8) dL_reads_313 rfl ?_
    refine r_iload (pc := 315) (j := 11) dL_reads_315 rfl ?_
    obtain ⟨h67, hr⟩ := grd_inv hr
    refine y_iald (pc := 317) (k := (Int32.toNatClampNeg v14_)) h67 rfl dL_reads_317 ?_
    obtain ⟨v68, σ71, eσ71, hr⟩ := bnd_inv hr
    refine qX7_tick (pc := 318) eσ71 tw_4_78 hz_ ⟨nle rfl, nle rfl⟩ (nle rfl) dL_reads_318 fun hσ71 => ?_
    refine r_aload (pc := 321) (j := 8) dL_reads_321 rfl ?_
    refine r_iload (pc := 323) (j := 11) dL_reads_323 rfl ?_
    obtain ⟨h72, hr⟩ := grd_inv hr
    refine y_iald (pc := 325) (k := (Int32.toNatClampNeg v14_)) h72 rfl dL_reads_325 ?_
    refine r_icmp_ne (pc := 326) (tgt := 333) dL_reads_326 rfl (fun hc => ?_) (fun hc => ?_)
    · replace hr := ite_f hc hr
      exact r_pick (ls1 := [(0, .ref (ad g 1)), (1, .ref (ad g o1_)), (2, .ref (ad g o2_)), (5, .int x5_), (6, .int x6_), (8, .int x8_), (9, .int x9_), (11, .ref (ad g o11_)), (12, .int v12_), (13, .int v13_), (14, .int v14_), (15, .int v45)]) [0, 1, 2, 3, 4, 5, 6, 8, 9, 10, 11, 12] rfl (hj333 σ71 hr hσ71)
    replace hr := ite_t hc hr
    refine r_iconst (pc := 329) (v := (1 : Int32)) dL_reads_329 rfl ?_
    refine r_goto (pc := 330) (tgt := 334) dL_reads_330 rfl ?_
    exact r_pick (ls1 := [(0, .ref (ad g 1)), (1, .ref (ad g o1_)), (2, .ref (ad g o2_)), (5, .int x5_), (6, .int x6_), (8, .int x8_), (9, .int x9_), (11, .ref (ad g o11_)), (12, .int v12_), (13, .int v13_), (14, .int v14_), (15, .int v45)]) [0, 1, 2, 3, 4, 5, 6, 8, 9, 10, 11, 12] rfl (hj334 (1 : Int32) σ71 hr hσ71)
  refine r_if_ne (pc := 280) (tgt := 288) dL_reads_280 rfl (fun hc => ?_) (fun hc => ?_)
  · replace hr := ite_f hc hr
    refine r_iconst (pc := 288) (v := (-1 : Int32)) dL_reads_288 rfl ?_
    exact r_pick (ls1 := [(0, .ref (ad g 1)), (1, .ref (ad g o1_)), (2, .ref (ad g o2_)), (5, .int x5_), (6, .int x6_), (8, .int x8_), (9, .int x9_), (10, .int v10_), (11, .ref (ad g o11_)), (12, .int v12_), (13, .int v13_), (14, .int v14_), (15, .int v45)]) [1, 2, 3, 4, 5, 6, 7, 8, 9, 10, 11, 12, 0] rfl (hj289 (-1 : Int32) hr)
  replace hr := ite_t hc hr
  refine r_bipush (pc := 283) (v := (-2 : Int32)) dL_reads_283 rfl ?_
  refine r_goto (pc := 285) (tgt := 289) dL_reads_285 rfl ?_
  exact r_pick (ls1 := [(0, .ref (ad g 1)), (1, .ref (ad g o1_)), (2, .ref (ad g o2_)), (5, .int x5_), (6, .int x6_), (8, .int x8_), (9, .int x9_), (10, .int v10_), (11, .ref (ad g o11_)), (12, .int v12_), (13, .int v13_), (14, .int v14_), (15, .int v45)]) [1, 2, 3, 4, 5, 6, 7, 8, 9, 10, 11, 12, 0] rfl (hj289 (-2 : Int32) hr)

set_option maxRecDepth 20000 in
theorem sL_reads_L735 {g : GG} {r : Bool × SS} {o1_ : Nat} {x6_ : Int32} {x8_ : Int32} {x9_ : Int32} {o11_ : Nat} {x12_ : Int32} {u13_ : Int32} {u14_ : Int32} {x15_ : Int32} {x16_ : Int32} {x17_ : Int32} {x18_ : Int32} {u19_ : Int32} {x23_ : Int32} {x24_ : Int32} {x27_ : Int32} {zc_ zs_ : Nat} {k835 : Int32 → SS → Option (Bool × SS)} (hz_ : zc_ ≤ mL_reads.2.2.2.2.cells ∧ zs_ ≤ mL_reads.2.2.2.2.slots)
    (hk835 : ∀ (y10 : Int32) (σ_ : SS), k835 y10 σ_ = some r → WT σ_ → RR g mL_reads (FinR g mL_reads (some (.int (b2i r.1))) NF r.2) (NF, zc_, zs_) 835 [(0, .ref (ad g 1)), (1, .ref (ad g o1_)), (6, .int x6_), (8, .int x8_), (9, .int x9_), (10, .int y10), (11, .ref (ad g o11_)), (12, .int x12_), (13, .int u13_), (14, .int u14_), (15, .int x15_), (16, .int x16_), (17, .int x17_), (18, .int x18_), (19, .int u19_), (23, .int x23_), (24, .int x24_), (27, .int x27_)] [] σ_)
    (n : Nat) : ∀ (v10_ : Int32) (v28_ : Int32) (σ_ : SS), L_reads_L735 o1_ o11_ u13_ u14_ u19_ k835 n v10_ v28_ σ_ = some r → WT σ_ → RR g mL_reads (FinR g mL_reads (some (.int (b2i r.1))) NF r.2) (NF, zc_, zs_) 735 [(0, .ref (ad g 1)), (1, .ref (ad g o1_)), (6, .int x6_), (8, .int x8_), (9, .int x9_), (10, .int v10_), (11, .ref (ad g o11_)), (12, .int x12_), (13, .int u13_), (14, .int u14_), (15, .int x15_), (16, .int x16_), (17, .int x17_), (18, .int x18_), (19, .int u19_), (23, .int x23_), (24, .int x24_), (27, .int x27_), (28, .int v28_)] [] σ_ := by
  unfold L_reads_L735
  refine lp_ind (P := fun (rec : Int32 → Int32 → SS → Option (Bool × SS)) => ∀ (v10_ : Int32) (v28_ : Int32) (σ_ : SS), rec v10_ v28_ σ_ = some r → WT σ_ → RR g mL_reads (FinR g mL_reads (some (.int (b2i r.1))) NF r.2) (NF, zc_, zs_) 735 [(0, .ref (ad g 1)), (1, .ref (ad g o1_)), (6, .int x6_), (8, .int x8_), (9, .int x9_), (10, .int v10_), (11, .ref (ad g o11_)), (12, .int x12_), (13, .int u13_), (14, .int u14_), (15, .int x15_), (16, .int x16_), (17, .int x17_), (18, .int x18_), (19, .int u19_), (23, .int x23_), (24, .int x24_), (27, .int x27_), (28, .int v28_)] [] σ_) ?_ ?_ n
  · intro v10_ v28_ σ_ hr; cases hr
  intro rec ih v10_ v28_ σ_ hr hw_
  refine r_iload (pc := 735) (j := 18) dL_reads_735 rfl ?_
  refine r_aload_n (pc := 737) (j := 1) dL_reads_737 rfl rfl ?_
  refine r_bipush (pc := 738) (v := (17 : Int32)) dL_reads_738 rfl ?_
  refine r_bipush (pc := 740) (v := (16 : Int32)) dL_reads_740 rfl ?_
  refine r_iload (pc := 742) (j := 14) dL_reads_742 rfl ?_
  refine r_imul (pc := 744) dL_reads_744 ?_
  refine r_iadd (pc := 745) dL_reads_745 ?_
  obtain ⟨h100, hr⟩ := grd_inv hr
  refine y_iald (pc := 746) (k := (Int32.toNatClampNeg ((17 : Int32) + ((16 : Int32) * u19_)))) h100 rfl dL_reads_746 ?_
  refine r_icmp_ge (pc := 747) (tgt := 835) dL_reads_747 rfl (fun hc => ?_) (fun hc => ?_)
  · replace hr := ite_t hc hr
    exact r_pick (ls1 := [(0, .ref (ad g 1)), (1, .ref (ad g o1_)), (6, .int x6_), (8, .int x8_), (9, .int x9_), (10, .int v10_), (11, .ref (ad g o11_)), (12, .int x12_), (13, .int u13_), (14, .int u14_), (15, .int x15_), (16, .int x16_), (17, .int x17_), (18, .int x18_), (19, .int u19_), (23, .int x23_), (24, .int x24_), (27, .int x27_)]) [0, 1, 2, 3, 4, 5, 6, 7, 8, 9, 10, 11, 12, 13, 14, 15, 16, 17] rfl (hk835 v10_ σ_ hr hw_)
  replace hr := ite_f hc hr
  refine r_aload (pc := 750) (j := 6) dL_reads_750 rfl ?_
  refine r_iload (pc := 752) (j := 14) dL_reads_752 rfl ?_
  obtain ⟨h101, hr⟩ := grd_inv hr
  refine y_iald (pc := 754) (k := (Int32.toNatClampNeg u19_)) h101 rfl dL_reads_754 ?_
  refine r_iload (pc := 755) (j := 18) dL_reads_755 rfl ?_
  refine r_ishr (pc := 757) dL_reads_757 ?_
  refine r_iconst (pc := 758) (v := (1 : Int32)) dL_reads_758 rfl ?_
  refine r_iand (pc := 759) dL_reads_759 ?_
  refine r_iconst (pc := 760) (v := (1 : Int32)) dL_reads_760 rfl ?_
  obtain ⟨j769, ej769, hr⟩ := vth_ex hr
  have hj769 : ∀ (s102 : Int32), j769 s102 = some r → RR g mL_reads (FinR g mL_reads (some (.int (b2i r.1))) NF r.2) (NF, zc_, zs_) 769 [(0, .ref (ad g 1)), (1, .ref (ad g o1_)), (6, .int x6_), (8, .int x8_), (9, .int x9_), (10, .int v10_), (11, .ref (ad g o11_)), (12, .int x12_), (13, .int u13_), (14, .int u14_), (15, .int x15_), (16, .int x16_), (17, .int x17_), (18, .int x18_), (19, .int u19_), (23, .int x23_), (24, .int x24_), (27, .int x27_), (28, .int v28_)] [.int s102] σ_ := by
    intro s102 hr
    replace hr := (congrFun ej769 s102).symm.trans hr
    refine r_istore (pc := 769) (ls1 := [(29, .int s102), (0, .ref (ad g 1)), (1, .ref (ad g o1_)), (6, .int x6_), (8, .int x8_), (9, .int x9_), (10, .int v10_), (11, .ref (ad g o11_)), (12, .int x12_), (13, .int u13_), (14, .int u14_), (15, .int x15_), (16, .int x16_), (17, .int x17_), (18, .int x18_), (19, .int u19_), (23, .int x23_), (24, .int x24_), (27, .int x27_), (28, .int v28_)]) dL_reads_769 (nle rfl) rfl ?_
    refine r_iload (pc := 771) (j := 6) dL_reads_771 rfl ?_
    obtain ⟨j826, ej826, hr⟩ := vth_ex hr
    have hj826 : ∀ (σ103 : SS), j826 σ103 = some r → WT σ103 → RR g mL_reads (FinR g mL_reads (some (.int (b2i r.1))) NF r.2) (NF, zc_, zs_) 826 [(0, .ref (ad g 1)), (1, .ref (ad g o1_)), (6, .int x6_), (8, .int x8_), (9, .int x9_), (11, .ref (ad g o11_)), (12, .int x12_), (13, .int u13_), (14, .int u14_), (15, .int x15_), (16, .int x16_), (17, .int x17_), (18, .int x18_), (19, .int u19_), (23, .int x23_), (24, .int x24_), (27, .int x27_), (28, .int v28_)] [] σ103 := by
      intro σ103 hr hσ103
      replace hr := (congrFun ej826 σ103).symm.trans hr
      refine r_iconst (pc := 826) (v := (0 : Int32)) dL_reads_826 rfl ?_
      refine r_istore (pc := 827) (ls1 := [(10, .int (0 : Int32)), (0, .ref (ad g 1)), (1, .ref (ad g o1_)), (6, .int x6_), (8, .int x8_), (9, .int x9_), (11, .ref (ad g o11_)), (12, .int x12_), (13, .int u13_), (14, .int u14_), (15, .int x15_), (16, .int x16_), (17, .int x17_), (18, .int x18_), (19, .int u19_), (23, .int x23_), (24, .int x24_), (27, .int x27_), (28, .int v28_)]) dL_reads_827 (nle rfl) rfl ?_
      refine r_iinc (pc := 829) (j := 18) (v := (v28_ + (1 : Int32))) (ls1 := [(28, .int (v28_ + (1 : Int32))), (10, .int (0 : Int32)), (0, .ref (ad g 1)), (1, .ref (ad g o1_)), (6, .int x6_), (8, .int x8_), (9, .int x9_), (11, .ref (ad g o11_)), (12, .int x12_), (13, .int u13_), (14, .int u14_), (15, .int x15_), (16, .int x16_), (17, .int x17_), (18, .int x18_), (19, .int u19_), (23, .int x23_), (24, .int x24_), (27, .int x27_)]) dL_reads_829 rfl rfl (nle rfl) rfl ?_
      refine r_goto (pc := 832) (tgt := 735) dL_reads_832 rfl ?_
      exact r_pick (ls1 := [(0, .ref (ad g 1)), (1, .ref (ad g o1_)), (6, .int x6_), (8, .int x8_), (9, .int x9_), (10, .int (0 : Int32)), (11, .ref (ad g o11_)), (12, .int x12_), (13, .int u13_), (14, .int u14_), (15, .int x15_), (16, .int x16_), (17, .int x17_), (18, .int x18_), (19, .int u19_), (23, .int x23_), (24, .int x24_), (27, .int x27_), (28, .int (v28_ + (1 : Int32)))]) [2, 3, 4, 5, 6, 1, 7, 8, 9, 10, 11, 12, 13, 14, 15, 16, 17, 18, 0] rfl (ih (0 : Int32) (v28_ + (1 : Int32)) σ103 hr hσ103)
    refine r_if_eq (pc := 773) (tgt := 826) dL_reads_773 rfl (fun hc => ?_) (fun hc => ?_)
    · replace hr := ite_t hc hr
      exact r_pick (ls1 := [(0, .ref (ad g 1)), (1, .ref (ad g o1_)), (6, .int x6_), (8, .int x8_), (9, .int x9_), (11, .ref (ad g o11_)), (12, .int x12_), (13, .int u13_), (14, .int u14_), (15, .int x15_), (16, .int x16_), (17, .int x17_), (18, .int x18_), (19, .int u19_), (23, .int x23_), (24, .int x24_), (27, .int x27_), (28, .int v28_)]) [1, 2, 3, 4, 5, 7, 8, 9, 10, 11, 12, 13, 14, 15, 16, 17, 18, 19] rfl (hj826 σ_ hr hw_)
    replace hr := ite_f hc hr
    refine r_aload_n (pc := 776) (j := 1) dL_reads_776 rfl rfl ?_
    refine r_iload (pc := 777) (j := 15) dL_reads_777 rfl ?_
    refine r_iload (pc := 779) (j := 19) dL_reads_779 rfl ?_
    obtain ⟨v104, σ107, eσ107, hr⟩ := bnd_inv hr
    refine qX7_dark (pc := 781) eσ107 tw_4_91 hz_ ⟨nle rfl, nle rfl⟩ (nle rfl) dL_reads_781 fun hσ107 => ?_
    refine r_iload (pc := 784) (j := 0) dL_reads_784 rfl ?_
    obtain ⟨j795, ej795, hr⟩ := vth_ex hr
    have hj795 : ∀ (s108 : Int32), j795 s108 = some r → RR g mL_reads (FinR g mL_reads (some (.int (b2i r.1))) NF r.2) (NF, zc_, zs_) 795 [(0, .ref (ad g 1)), (1, .ref (ad g o1_)), (6, .int x6_), (8, .int x8_), (9, .int x9_), (11, .ref (ad g o11_)), (12, .int x12_), (13, .int u13_), (14, .int u14_), (15, .int x15_), (16, .int x16_), (17, .int x17_), (18, .int x18_), (19, .int u19_), (23, .int x23_), (24, .int x24_), (27, .int x27_), (28, .int v28_), (29, .int s102)] [.int s108, .int v104] σ107 := by
      intro s108 hr
      replace hr := (congrFun ej795 s108).symm.trans hr
      refine r_icmp_ne (pc := 795) (tgt := 826) dL_reads_795 rfl (fun hc => ?_) (fun hc => ?_)
      · replace hr := ite_f hc hr
        exact r_pick (ls1 := [(0, .ref (ad g 1)), (1, .ref (ad g o1_)), (6, .int x6_), (8, .int x8_), (9, .int x9_), (11, .ref (ad g o11_)), (12, .int x12_), (13, .int u13_), (14, .int u14_), (15, .int x15_), (16, .int x16_), (17, .int x17_), (18, .int x18_), (19, .int u19_), (23, .int x23_), (24, .int x24_), (27, .int x27_), (28, .int v28_)]) [0, 1, 2, 3, 4, 5, 6, 7, 8, 9, 10, 11, 12, 13, 14, 15, 16, 17] rfl (hj826 σ107 hr hσ107)
      replace hr := ite_t hc hr
      refine r_aload_n (pc := 798) (j := 0) dL_reads_798 rfl rfl ?_
      refine r_iload (pc := 799) (j := 13) dL_reads_799 rfl ?_
      refine r_iload (pc := 801) (j := 17) dL_reads_801 rfl ?_
      obtain ⟨v109, σ112, eσ112, hr⟩ := bnd_inv hr
      refine qX7_rank (pc := 803) eσ112 tw_4_101 hz_ ⟨nle rfl, nle rfl⟩ (nle rfl) dL_reads_803 fun hσ112 => ?_
      refine r_iload (pc := 806) (j := 18) dL_reads_806 rfl ?_
      obtain ⟨j819, ej819, hr⟩ := vth_ex hr
      have hj819 : ∀ (s113 : Int32), j819 s113 = some r → RR g mL_reads (FinR g mL_reads (some (.int (b2i r.1))) NF r.2) (NF, zc_, zs_) 819 [(0, .ref (ad g 1)), (1, .ref (ad g o1_)), (6, .int x6_), (8, .int x8_), (9, .int x9_), (11, .ref (ad g o11_)), (12, .int x12_), (13, .int u13_), (14, .int u14_), (15, .int x15_), (16, .int x16_), (17, .int x17_), (18, .int x18_), (19, .int u19_), (23, .int x23_), (24, .int x24_), (27, .int x27_), (28, .int v28_)] [.int s113, .int v109] σ112 := by
        intro s113 hr
        replace hr := (congrFun ej819 s113).symm.trans hr
        refine r_icmp_ne (pc := 819) (tgt := 826) dL_reads_819 rfl (fun hc => ?_) (fun hc => ?_)
        · replace hr := ite_f hc hr
          exact r_pick (ls1 := [(0, .ref (ad g 1)), (1, .ref (ad g o1_)), (6, .int x6_), (8, .int x8_), (9, .int x9_), (11, .ref (ad g o11_)), (12, .int x12_), (13, .int u13_), (14, .int u14_), (15, .int x15_), (16, .int x16_), (17, .int x17_), (18, .int x18_), (19, .int u19_), (23, .int x23_), (24, .int x24_), (27, .int x27_), (28, .int v28_)]) [0, 1, 2, 3, 4, 5, 6, 7, 8, 9, 10, 11, 12, 13, 14, 15, 16, 17] rfl (hj826 σ112 hr hσ112)
        replace hr := ite_t hc hr
        refine r_iconst (pc := 822) (v := (1 : Int32)) dL_reads_822 rfl ?_
        refine r_goto (pc := 823) (tgt := 827) dL_reads_823 rfl ?_
        refine r_istore (pc := 827) (ls1 := [(10, .int (1 : Int32)), (0, .ref (ad g 1)), (1, .ref (ad g o1_)), (6, .int x6_), (8, .int x8_), (9, .int x9_), (11, .ref (ad g o11_)), (12, .int x12_), (13, .int u13_), (14, .int u14_), (15, .int x15_), (16, .int x16_), (17, .int x17_), (18, .int x18_), (19, .int u19_), (23, .int x23_), (24, .int x24_), (27, .int x27_), (28, .int v28_)]) dL_reads_827 (nle rfl) rfl ?_
        refine r_iinc (pc := 829) (j := 18) (v := (v28_ + (1 : Int32))) (ls1 := [(28, .int (v28_ + (1 : Int32))), (10, .int (1 : Int32)), (0, .ref (ad g 1)), (1, .ref (ad g o1_)), (6, .int x6_), (8, .int x8_), (9, .int x9_), (11, .ref (ad g o11_)), (12, .int x12_), (13, .int u13_), (14, .int u14_), (15, .int x15_), (16, .int x16_), (17, .int x17_), (18, .int x18_), (19, .int u19_), (23, .int x23_), (24, .int x24_), (27, .int x27_)]) dL_reads_829 rfl rfl (nle rfl) rfl ?_
        refine r_goto (pc := 832) (tgt := 735) dL_reads_832 rfl ?_
        exact r_pick (ls1 := [(0, .ref (ad g 1)), (1, .ref (ad g o1_)), (6, .int x6_), (8, .int x8_), (9, .int x9_), (10, .int (1 : Int32)), (11, .ref (ad g o11_)), (12, .int x12_), (13, .int u13_), (14, .int u14_), (15, .int x15_), (16, .int x16_), (17, .int x17_), (18, .int x18_), (19, .int u19_), (23, .int x23_), (24, .int x24_), (27, .int x27_), (28, .int (v28_ + (1 : Int32)))]) [2, 3, 4, 5, 6, 1, 7, 8, 9, 10, 11, 12, 13, 14, 15, 16, 17, 18, 0] rfl (ih (1 : Int32) (v28_ + (1 : Int32)) σ112 hr hσ112)
      refine r_if_eq (pc := 808) (tgt := 815) dL_reads_808 rfl (fun hc => ?_) (fun hc => ?_)
      · replace hr := ite_t hc hr
        refine r_iload (pc := 815) (j := 7) dL_reads_815 rfl ?_
        refine r_iconst (pc := 817) (v := (1 : Int32)) dL_reads_817 rfl ?_
        refine r_iadd (pc := 818) dL_reads_818 ?_
        exact r_pick (ls1 := [(0, .ref (ad g 1)), (1, .ref (ad g o1_)), (6, .int x6_), (8, .int x8_), (9, .int x9_), (11, .ref (ad g o11_)), (12, .int x12_), (13, .int u13_), (14, .int u14_), (15, .int x15_), (16, .int x16_), (17, .int x17_), (18, .int x18_), (19, .int u19_), (23, .int x23_), (24, .int x24_), (27, .int x27_), (28, .int v28_)]) [0, 1, 2, 3, 4, 5, 6, 7, 8, 9, 10, 11, 12, 13, 14, 15, 16, 17] rfl (hj819 (u13_ + (1 : Int32)) hr)
      replace hr := ite_f hc hr
      refine r_iconst (pc := 811) (v := (1 : Int32)) dL_reads_811 rfl ?_
      refine r_goto (pc := 812) (tgt := 819) dL_reads_812 rfl ?_
      exact r_pick (ls1 := [(0, .ref (ad g 1)), (1, .ref (ad g o1_)), (6, .int x6_), (8, .int x8_), (9, .int x9_), (11, .ref (ad g o11_)), (12, .int x12_), (13, .int u13_), (14, .int u14_), (15, .int x15_), (16, .int x16_), (17, .int x17_), (18, .int x18_), (19, .int u19_), (23, .int x23_), (24, .int x24_), (27, .int x27_), (28, .int v28_)]) [0, 1, 2, 3, 4, 5, 6, 7, 8, 9, 10, 11, 12, 13, 14, 15, 16, 17] rfl (hj819 (1 : Int32) hr)
    refine r_if_eq (pc := 786) (tgt := 794) dL_reads_786 rfl (fun hc => ?_) (fun hc => ?_)
    · replace hr := ite_t hc hr
      refine r_iconst (pc := 794) (v := (0 : Int32)) dL_reads_794 rfl ?_
      exact r_pick (ls1 := [(0, .ref (ad g 1)), (1, .ref (ad g o1_)), (6, .int x6_), (8, .int x8_), (9, .int x9_), (11, .ref (ad g o11_)), (12, .int x12_), (13, .int u13_), (14, .int u14_), (15, .int x15_), (16, .int x16_), (17, .int x17_), (18, .int x18_), (19, .int u19_), (23, .int x23_), (24, .int x24_), (27, .int x27_), (28, .int v28_), (29, .int s102)]) [1, 2, 3, 4, 5, 7, 8, 9, 10, 11, 12, 13, 14, 15, 16, 17, 18, 19, 0] rfl (hj795 (0 : Int32) hr)
    replace hr := ite_f hc hr
    refine r_iload (pc := 789) (j := 10) dL_reads_789 rfl ?_
    refine r_goto (pc := 791) (tgt := 795) dL_reads_791 rfl ?_
    exact r_pick (ls1 := [(0, .ref (ad g 1)), (1, .ref (ad g o1_)), (6, .int x6_), (8, .int x8_), (9, .int x9_), (11, .ref (ad g o11_)), (12, .int x12_), (13, .int u13_), (14, .int u14_), (15, .int x15_), (16, .int x16_), (17, .int x17_), (18, .int x18_), (19, .int u19_), (23, .int x23_), (24, .int x24_), (27, .int x27_), (28, .int v28_), (29, .int s102)]) [1, 2, 3, 4, 5, 7, 8, 9, 10, 11, 12, 13, 14, 15, 16, 17, 18, 19, 0] rfl (hj795 u14_ hr)
  refine r_icmp_ne (pc := 761) (tgt := 768) dL_reads_761 rfl (fun hc => ?_) (fun hc => ?_)
  · replace hr := ite_f hc hr
    refine r_iconst (pc := 768) (v := (0 : Int32)) dL_reads_768 rfl ?_
    exact r_pick (ls1 := [(0, .ref (ad g 1)), (1, .ref (ad g o1_)), (6, .int x6_), (8, .int x8_), (9, .int x9_), (10, .int v10_), (11, .ref (ad g o11_)), (12, .int x12_), (13, .int u13_), (14, .int u14_), (15, .int x15_), (16, .int x16_), (17, .int x17_), (18, .int x18_), (19, .int u19_), (23, .int x23_), (24, .int x24_), (27, .int x27_), (28, .int v28_)]) [0, 1, 2, 3, 4, 5, 6, 7, 8, 9, 10, 11, 12, 13, 14, 15, 16, 17, 18] rfl (hj769 (0 : Int32) hr)
  replace hr := ite_t hc hr
  refine r_iconst (pc := 764) (v := (1 : Int32)) dL_reads_764 rfl ?_
  refine r_goto (pc := 765) (tgt := 769) dL_reads_765 rfl ?_
  exact r_pick (ls1 := [(0, .ref (ad g 1)), (1, .ref (ad g o1_)), (6, .int x6_), (8, .int x8_), (9, .int x9_), (10, .int v10_), (11, .ref (ad g o11_)), (12, .int x12_), (13, .int u13_), (14, .int u14_), (15, .int x15_), (16, .int x16_), (17, .int x17_), (18, .int x18_), (19, .int u19_), (23, .int x23_), (24, .int x24_), (27, .int x27_), (28, .int v28_)]) [0, 1, 2, 3, 4, 5, 6, 7, 8, 9, 10, 11, 12, 13, 14, 15, 16, 17, 18] rfl (hj769 (1 : Int32) hr)

set_option maxRecDepth 20000 in
theorem sL_reads_L449 {g : GG} {r : Bool × SS} {o1_ : Nat} {u6_ : Int32} {u8_ : Int32} {u9_ : Int32} {o11_ : Nat} {x12_ : Int32} {u13_ : Int32} {u14_ : Int32} {zc_ zs_ : Nat} {k900 : Int32 → Int32 → Int32 → Int32 → Int32 → SS → Option (Bool × SS)} (hz_ : zc_ ≤ mL_reads.2.2.2.2.cells ∧ zs_ ≤ mL_reads.2.2.2.2.slots)
    (hk900 : ∀ (y10 : Int32) (y15 : Int32) (y16 : Int32) (y17 : Int32) (y18 : Int32) (σ_ : SS), k900 y10 y15 y16 y17 y18 σ_ = some r → WT σ_ → RR g mL_reads (FinR g mL_reads (some (.int (b2i r.1))) NF r.2) (NF, zc_, zs_) 900 [(0, .ref (ad g 1)), (10, .int y10), (12, .int x12_), (13, .int u13_), (14, .int u14_), (15, .int y15), (16, .int y16), (17, .int y17), (18, .int y18)] [] σ_)
    (n : Nat) : ∀ (v10_ : Int32) (v15_ : Int32) (v16_ : Int32) (v17_ : Int32) (v18_ : Int32) (v19_ : Int32) (σ_ : SS), L_reads_L449 o1_ u6_ u8_ u9_ o11_ u13_ u14_ k900 n v10_ v15_ v16_ v17_ v18_ v19_ σ_ = some r → WT σ_ → RR g mL_reads (FinR g mL_reads (some (.int (b2i r.1))) NF r.2) (NF, zc_, zs_) 449 [(0, .ref (ad g 1)), (1, .ref (ad g o1_)), (6, .int u6_), (8, .int u8_), (9, .int u9_), (10, .int v10_), (11, .ref (ad g o11_)), (12, .int x12_), (13, .int u13_), (14, .int u14_), (15, .int v15_), (16, .int v16_), (17, .int v17_), (18, .int v18_), (19, .int v19_)] [] σ_ := by
  unfold L_reads_L449
  refine lp_ind (P := fun (rec : Int32 → Int32 → Int32 → Int32 → Int32 → Int32 → SS → Option (Bool × SS)) => ∀ (v10_ : Int32) (v15_ : Int32) (v16_ : Int32) (v17_ : Int32) (v18_ : Int32) (v19_ : Int32) (σ_ : SS), rec v10_ v15_ v16_ v17_ v18_ v19_ σ_ = some r → WT σ_ → RR g mL_reads (FinR g mL_reads (some (.int (b2i r.1))) NF r.2) (NF, zc_, zs_) 449 [(0, .ref (ad g 1)), (1, .ref (ad g o1_)), (6, .int u6_), (8, .int u8_), (9, .int u9_), (10, .int v10_), (11, .ref (ad g o11_)), (12, .int x12_), (13, .int u13_), (14, .int u14_), (15, .int v15_), (16, .int v16_), (17, .int v17_), (18, .int v18_), (19, .int v19_)] [] σ_) ?_ ?_ n
  · intro v10_ v15_ v16_ v17_ v18_ v19_ σ_ hr; cases hr
  intro rec ih v10_ v15_ v16_ v17_ v18_ v19_ σ_ hr hw_
  refine r_iload (pc := 449) (j := 14) dL_reads_449 rfl ?_
  refine r_aload_n (pc := 451) (j := 1) dL_reads_451 rfl rfl ?_
  refine r_iconst (pc := 452) (v := (0 : Int32)) dL_reads_452 rfl ?_
  obtain ⟨h82, hr⟩ := grd_inv hr
  refine y_iald (pc := 453) (k := 0) h82 rfl dL_reads_453 ?_
  refine r_icmp_ge (pc := 454) (tgt := 900) dL_reads_454 rfl (fun hc => ?_) (fun hc => ?_)
  · replace hr := ite_t hc hr
    exact r_pick (ls1 := [(0, .ref (ad g 1)), (10, .int v10_), (12, .int x12_), (13, .int u13_), (14, .int u14_), (15, .int v15_), (16, .int v16_), (17, .int v17_), (18, .int v18_)]) [0, 5, 7, 8, 9, 10, 11, 12, 13] rfl (hk900 v10_ v15_ v16_ v17_ v18_ σ_ hr hw_)
  replace hr := ite_f hc hr
  refine r_iload (pc := 457) (j := 5) dL_reads_457 rfl ?_
  refine r_if_eq (pc := 459) (tgt := 900) dL_reads_459 rfl (fun hc => ?_) (fun hc => ?_)
  · replace hr := ite_t hc hr
    exact r_pick (ls1 := [(0, .ref (ad g 1)), (10, .int v10_), (12, .int x12_), (13, .int u13_), (14, .int u14_), (15, .int v15_), (16, .int v16_), (17, .int v17_), (18, .int v18_)]) [0, 5, 7, 8, 9, 10, 11, 12, 13] rfl (hk900 v10_ v15_ v16_ v17_ v18_ σ_ hr hw_)
  replace hr := ite_f hc hr
  refine r_aload (pc := 462) (j := 6) dL_reads_462 rfl ?_
  refine r_iload (pc := 464) (j := 14) dL_reads_464 rfl ?_
  obtain ⟨h83, hr⟩ := grd_inv hr
  refine y_iald (pc := 466) (k := (Int32.toNatClampNeg v19_)) h83 rfl dL_reads_466 ?_
  refine qJ6_bitCount_0f7a4 (pc := 467) (hf := rfl) tw_4_86 hz_ ⟨nle rfl, nle rfl⟩ (nle rfl) dL_reads_467 ?_
  refine r_topi fun v84 ev84 => ?_
  replace hr := vthen_inv hr v84 ev84
  refine r_istore (pc := 470) (ls1 := [(20, .int v84), (0, .ref (ad g 1)), (1, .ref (ad g o1_)), (6, .int u6_), (8, .int u8_), (9, .int u9_), (10, .int v10_), (11, .ref (ad g o11_)), (12, .int x12_), (13, .int u13_), (14, .int u14_), (15, .int v15_), (16, .int v16_), (17, .int v17_), (18, .int v18_), (19, .int v19_)]) dL_reads_470 (nle rfl) rfl ?_
  refine r_aload_n (pc := 472) (j := 2) dL_reads_472 rfl rfl ?_
  refine r_bipush (pc := 473) (v := (18 : Int32)) dL_reads_473 rfl ?_
  refine r_bipush (pc := 475) (v := (16 : Int32)) dL_reads_475 rfl ?_
  refine r_iload (pc := 477) (j := 15) dL_reads_477 rfl ?_
  refine r_imul (pc := 479) dL_reads_479 ?_
  refine r_iadd (pc := 480) dL_reads_480 ?_
  obtain ⟨h85, hr⟩ := grd_inv hr
  refine y_iald (pc := 481) (k := (Int32.toNatClampNeg ((18 : Int32) + ((16 : Int32) * v19_)))) h85 rfl dL_reads_481 ?_
  refine r_topi fun v86 ev86 => ?_
  replace hr := vthen_inv hr v86 ev86
  refine r_istore (pc := 482) (ls1 := [(21, .int v86), (20, .int v84), (0, .ref (ad g 1)), (1, .ref (ad g o1_)), (6, .int u6_), (8, .int u8_), (9, .int u9_), (10, .int v10_), (11, .ref (ad g o11_)), (12, .int x12_), (13, .int u13_), (14, .int u14_), (15, .int v15_), (16, .int v16_), (17, .int v17_), (18, .int v18_), (19, .int v19_)]) dL_reads_482 (nle rfl) rfl ?_
  refine r_iload (pc := 484) (j := 11) dL_reads_484 rfl ?_
  refine r_iload (pc := 486) (j := 4) dL_reads_486 rfl ?_
  obtain ⟨j496, ej496, hr⟩ := vth_ex hr
  have hj496 : ∀ (s87 : Int32), j496 s87 = some r → RR g mL_reads (FinR g mL_reads (some (.int (b2i r.1))) NF r.2) (NF, zc_, zs_) 496 [(0, .ref (ad g 1)), (1, .ref (ad g o1_)), (6, .int u6_), (8, .int u8_), (9, .int u9_), (11, .ref (ad g o11_)), (12, .int x12_), (13, .int u13_), (14, .int u14_), (15, .int v15_), (16, .int v16_), (17, .int v17_), (18, .int v18_), (19, .int v19_), (20, .int v84), (21, .int v86)] [.int s87] σ_ := by
    intro s87 hr
    replace hr := (congrFun ej496 s87).symm.trans hr
    refine r_istore (pc := 496) (ls1 := [(22, .int s87), (0, .ref (ad g 1)), (1, .ref (ad g o1_)), (6, .int u6_), (8, .int u8_), (9, .int u9_), (11, .ref (ad g o11_)), (12, .int x12_), (13, .int u13_), (14, .int u14_), (15, .int v15_), (16, .int v16_), (17, .int v17_), (18, .int v18_), (19, .int v19_), (20, .int v84), (21, .int v86)]) dL_reads_496 (nle rfl) rfl ?_
    refine r_iload (pc := 498) (j := 0) dL_reads_498 rfl ?_
    obtain ⟨j512, ej512, hr⟩ := vth_ex hr
    have hj512 : ∀ (s88 : Int32), j512 s88 = some r → RR g mL_reads (FinR g mL_reads (some (.int (b2i r.1))) NF r.2) (NF, zc_, zs_) 512 [(0, .ref (ad g 1)), (1, .ref (ad g o1_)), (6, .int u6_), (8, .int u8_), (9, .int u9_), (11, .ref (ad g o11_)), (12, .int x12_), (13, .int u13_), (14, .int u14_), (15, .int v15_), (16, .int v16_), (17, .int v17_), (18, .int v18_), (19, .int v19_), (20, .int v84), (21, .int v86), (22, .int s87)] [.int s88] σ_ := by
      intro s88 hr
      replace hr := (congrFun ej512 s88).symm.trans hr
      refine r_istore (pc := 512) (ls1 := [(23, .int s88), (0, .ref (ad g 1)), (1, .ref (ad g o1_)), (6, .int u6_), (8, .int u8_), (9, .int u9_), (11, .ref (ad g o11_)), (12, .int x12_), (13, .int u13_), (14, .int u14_), (15, .int v15_), (16, .int v16_), (17, .int v17_), (18, .int v18_), (19, .int v19_), (20, .int v84), (21, .int v86), (22, .int s87)]) dL_reads_512 (nle rfl) rfl ?_
      refine r_iload (pc := 514) (j := 15) dL_reads_514 rfl ?_
      obtain ⟨j538, ej538, hr⟩ := vth_ex hr
      have hj538 : ∀ (s89 : Int32), j538 s89 = some r → RR g mL_reads (FinR g mL_reads (some (.int (b2i r.1))) NF r.2) (NF, zc_, zs_) 538 [(0, .ref (ad g 1)), (1, .ref (ad g o1_)), (6, .int u6_), (8, .int u8_), (9, .int u9_), (11, .ref (ad g o11_)), (12, .int x12_), (13, .int u13_), (14, .int u14_), (15, .int v15_), (16, .int v16_), (17, .int v17_), (18, .int v18_), (19, .int v19_), (20, .int v84), (21, .int v86), (22, .int s87), (23, .int s88)] [.int s89] σ_ := by
        intro s89 hr
        replace hr := (congrFun ej538 s89).symm.trans hr
        refine r_istore (pc := 538) (ls1 := [(24, .int s89), (0, .ref (ad g 1)), (1, .ref (ad g o1_)), (6, .int u6_), (8, .int u8_), (9, .int u9_), (11, .ref (ad g o11_)), (12, .int x12_), (13, .int u13_), (14, .int u14_), (15, .int v15_), (16, .int v16_), (17, .int v17_), (18, .int v18_), (19, .int v19_), (20, .int v84), (21, .int v86), (22, .int s87), (23, .int s88)]) dL_reads_538 (nle rfl) rfl ?_
        refine r_iload (pc := 540) (j := 17) dL_reads_540 rfl ?_
        obtain ⟨j570, ej570, hr⟩ := vth_ex hr
        have hj570 : ∀ (s90 : Int32), j570 s90 = some r → RR g mL_reads (FinR g mL_reads (some (.int (b2i r.1))) NF r.2) (NF, zc_, zs_) 570 [(0, .ref (ad g 1)), (1, .ref (ad g o1_)), (6, .int u6_), (8, .int u8_), (9, .int u9_), (11, .ref (ad g o11_)), (12, .int x12_), (13, .int u13_), (14, .int u14_), (15, .int v15_), (16, .int v16_), (17, .int v17_), (18, .int v18_), (19, .int v19_), (20, .int v84), (21, .int v86), (23, .int s88), (24, .int s89)] [.int s90] σ_ := by
          intro s90 hr
          replace hr := (congrFun ej570 s90).symm.trans hr
          refine r_istore (pc := 570) (ls1 := [(25, .int s90), (0, .ref (ad g 1)), (1, .ref (ad g o1_)), (6, .int u6_), (8, .int u8_), (9, .int u9_), (11, .ref (ad g o11_)), (12, .int x12_), (13, .int u13_), (14, .int u14_), (15, .int v15_), (16, .int v16_), (17, .int v17_), (18, .int v18_), (19, .int v19_), (20, .int v84), (21, .int v86), (23, .int s88), (24, .int s89)]) dL_reads_570 (nle rfl) rfl ?_
          refine r_iload (pc := 572) (j := 0) dL_reads_572 rfl ?_
          obtain ⟨j583, ej583, hr⟩ := vth_ex hr
          have hj583 : ∀ (s91 : Int32), j583 s91 = some r → RR g mL_reads (FinR g mL_reads (some (.int (b2i r.1))) NF r.2) (NF, zc_, zs_) 583 [(0, .ref (ad g 1)), (1, .ref (ad g o1_)), (6, .int u6_), (8, .int u8_), (9, .int u9_), (11, .ref (ad g o11_)), (12, .int x12_), (13, .int u13_), (14, .int u14_), (15, .int v15_), (16, .int v16_), (17, .int v17_), (18, .int v18_), (19, .int v19_), (20, .int v84), (21, .int v86), (23, .int s88)] [.int s91] σ_ := by
            intro s91 hr
            replace hr := (congrFun ej583 s91).symm.trans hr
            refine r_istore (pc := 583) (ls1 := [(24, .int s91), (0, .ref (ad g 1)), (1, .ref (ad g o1_)), (6, .int u6_), (8, .int u8_), (9, .int u9_), (11, .ref (ad g o11_)), (12, .int x12_), (13, .int u13_), (14, .int u14_), (15, .int v15_), (16, .int v16_), (17, .int v17_), (18, .int v18_), (19, .int v19_), (20, .int v84), (21, .int v86), (23, .int s88)]) dL_reads_583 (nle rfl) rfl ?_
            refine r_iload (pc := 585) (j := 17) dL_reads_585 rfl ?_
            obtain ⟨j606, ej606, hr⟩ := vth_ex hr
            have hj606 : ∀ (s92 : Int32), j606 s92 = some r → RR g mL_reads (FinR g mL_reads (some (.int (b2i r.1))) NF r.2) (NF, zc_, zs_) 606 [(0, .ref (ad g 1)), (1, .ref (ad g o1_)), (6, .int u6_), (8, .int u8_), (9, .int u9_), (11, .ref (ad g o11_)), (12, .int x12_), (13, .int u13_), (14, .int u14_), (15, .int v15_), (16, .int v16_), (17, .int v17_), (18, .int v18_), (19, .int v19_), (20, .int v84), (21, .int v86), (23, .int s88), (24, .int s91)] [.int s92] σ_ := by
              intro s92 hr
              replace hr := (congrFun ej606 s92).symm.trans hr
              refine r_istore (pc := 606) (ls1 := [(26, .int s92), (0, .ref (ad g 1)), (1, .ref (ad g o1_)), (6, .int u6_), (8, .int u8_), (9, .int u9_), (11, .ref (ad g o11_)), (12, .int x12_), (13, .int u13_), (14, .int u14_), (15, .int v15_), (16, .int v16_), (17, .int v17_), (18, .int v18_), (19, .int v19_), (20, .int v84), (21, .int v86), (23, .int s88), (24, .int s91)]) dL_reads_606 (nle rfl) rfl ?_
              refine r_iload (pc := 608) (j := 16) dL_reads_608 rfl ?_
              obtain ⟨j654, ej654, hr⟩ := vth_ex hr
              have hj654 : ∀ (s93 : Int32), j654 s93 = some r → RR g mL_reads (FinR g mL_reads (some (.int (b2i r.1))) NF r.2) (NF, zc_, zs_) 654 [(0, .ref (ad g 1)), (1, .ref (ad g o1_)), (6, .int u6_), (8, .int u8_), (9, .int u9_), (11, .ref (ad g o11_)), (12, .int x12_), (13, .int u13_), (14, .int u14_), (15, .int v15_), (16, .int v16_), (17, .int v17_), (18, .int v18_), (19, .int v19_), (20, .int v84), (23, .int s88), (24, .int s91), (26, .int s92)] [.int s93] σ_ := by
                intro s93 hr
                replace hr := (congrFun ej654 s93).symm.trans hr
                refine r_istore (pc := 654) (ls1 := [(27, .int s93), (0, .ref (ad g 1)), (1, .ref (ad g o1_)), (6, .int u6_), (8, .int u8_), (9, .int u9_), (11, .ref (ad g o11_)), (12, .int x12_), (13, .int u13_), (14, .int u14_), (15, .int v15_), (16, .int v16_), (17, .int v17_), (18, .int v18_), (19, .int v19_), (20, .int v84), (23, .int s88), (24, .int s91), (26, .int s92)]) dL_reads_654 (nle rfl) rfl ?_
                refine r_aload_n (pc := 656) (j := 1) dL_reads_656 rfl rfl ?_
                refine r_iload (pc := 657) (j := 14) dL_reads_657 rfl ?_
                refine r_iconst (pc := 659) (v := (0 : Int32)) dL_reads_659 rfl ?_
                obtain ⟨v94, σ97, eσ97, hr⟩ := bnd_inv hr
                refine qX7_judged (pc := 660) eσ97 tw_4_87 hz_ ⟨nle rfl, nle rfl⟩ (nle rfl) dL_reads_660 fun hσ97 => ?_
                refine r_iload (pc := 663) (j := 16) dL_reads_663 rfl ?_
                obtain ⟨j730, ej730, hr⟩ := vth_ex hr
                have hj730 : ∀ (s98 : Int32) (σ99 : SS), j730 s98 σ99 = some r → WT σ99 → RR g mL_reads (FinR g mL_reads (some (.int (b2i r.1))) NF r.2) (NF, zc_, zs_) 730 [(0, .ref (ad g 1)), (1, .ref (ad g o1_)), (6, .int u6_), (8, .int u8_), (9, .int u9_), (11, .ref (ad g o11_)), (12, .int x12_), (13, .int u13_), (14, .int u14_), (15, .int v15_), (16, .int v16_), (17, .int v17_), (18, .int v18_), (19, .int v19_), (23, .int s88), (24, .int s91), (27, .int s93)] [.int s98] σ99 := by
                  intro s98 σ99 hr hσ99
                  replace hr := (congrFun (congrFun ej730 s98) σ99).symm.trans hr
                  refine r_istore (pc := 730) (ls1 := [(10, .int s98), (0, .ref (ad g 1)), (1, .ref (ad g o1_)), (6, .int u6_), (8, .int u8_), (9, .int u9_), (11, .ref (ad g o11_)), (12, .int x12_), (13, .int u13_), (14, .int u14_), (15, .int v15_), (16, .int v16_), (17, .int v17_), (18, .int v18_), (19, .int v19_), (23, .int s88), (24, .int s91), (27, .int s93)]) dL_reads_730 (nle rfl) rfl ?_
                  refine r_iconst (pc := 732) (v := (0 : Int32)) dL_reads_732 rfl ?_
                  refine r_istore (pc := 733) (ls1 := [(28, .int (0 : Int32)), (10, .int s98), (0, .ref (ad g 1)), (1, .ref (ad g o1_)), (6, .int u6_), (8, .int u8_), (9, .int u9_), (11, .ref (ad g o11_)), (12, .int x12_), (13, .int u13_), (14, .int u14_), (15, .int v15_), (16, .int v16_), (17, .int v17_), (18, .int v18_), (19, .int v19_), (23, .int s88), (24, .int s91), (27, .int s93)]) dL_reads_733 (nle rfl) rfl ?_
                  refine r_pick (ls1 := [(0, .ref (ad g 1)), (1, .ref (ad g o1_)), (6, .int u6_), (8, .int u8_), (9, .int u9_), (10, .int s98), (11, .ref (ad g o11_)), (12, .int x12_), (13, .int u13_), (14, .int u14_), (15, .int v15_), (16, .int v16_), (17, .int v17_), (18, .int v18_), (19, .int v19_), (23, .int s88), (24, .int s91), (27, .int s93), (28, .int (0 : Int32))]) [2, 3, 4, 5, 6, 1, 7, 8, 9, 10, 11, 12, 13, 14, 15, 16, 17, 18, 0] rfl ?_
                  refine sL_reads_L735 hz_   (fun v114 σ115 hr hσ115 => ?_) fuel s98 (0 : Int32) σ99 hr hσ99
                  refine r_iload (pc := 835) (j := 10) dL_reads_835 rfl ?_
                  refine r_iload (pc := 837) (j := 17) dL_reads_837 rfl ?_
                  refine r_iadd (pc := 839) dL_reads_839 ?_
                  refine r_topi fun v116 ev116 => ?_
                  replace hr := vthen_inv hr v116 ev116
                  refine r_istore (pc := 840) (ls1 := [(15, .int v116), (0, .ref (ad g 1)), (1, .ref (ad g o1_)), (6, .int u6_), (8, .int u8_), (9, .int u9_), (10, .int v114), (11, .ref (ad g o11_)), (12, .int x12_), (13, .int u13_), (14, .int u14_), (16, .int v16_), (17, .int v17_), (18, .int v18_), (19, .int v19_), (23, .int s88), (24, .int s91), (27, .int s93)]) dL_reads_840 (nle rfl) rfl ?_
                  refine r_iload (pc := 842) (j := 11) dL_reads_842 rfl ?_
                  refine r_iload (pc := 844) (j := 16) dL_reads_844 rfl ?_
                  refine r_iconst (pc := 846) (v := (1 : Int32)) dL_reads_846 rfl ?_
                  obtain ⟨j855, ej855, hr⟩ := vth_ex hr
                  have hj855 : ∀ (s117 : Int32), j855 s117 = some r → RR g mL_reads (FinR g mL_reads (some (.int (b2i r.1))) NF r.2) (NF, zc_, zs_) 855 [(0, .ref (ad g 1)), (1, .ref (ad g o1_)), (6, .int u6_), (8, .int u8_), (9, .int u9_), (10, .int v114), (11, .ref (ad g o11_)), (12, .int x12_), (13, .int u13_), (14, .int u14_), (15, .int v116), (17, .int v17_), (18, .int v18_), (19, .int v19_), (23, .int s88), (24, .int s91)] [.int s117, .int v16_] σ115 := by
                    intro s117 hr
                    replace hr := (congrFun ej855 s117).symm.trans hr
                    refine r_iadd (pc := 855) dL_reads_855 ?_
                    refine r_topi fun v118 ev118 => ?_
                    replace hr := vthen_inv hr v118 ev118
                    refine r_istore (pc := 856) (ls1 := [(16, .int v118), (0, .ref (ad g 1)), (1, .ref (ad g o1_)), (6, .int u6_), (8, .int u8_), (9, .int u9_), (10, .int v114), (11, .ref (ad g o11_)), (12, .int x12_), (13, .int u13_), (14, .int u14_), (15, .int v116), (17, .int v17_), (18, .int v18_), (19, .int v19_), (23, .int s88), (24, .int s91)]) dL_reads_856 (nle rfl) rfl ?_
                    refine r_iload (pc := 858) (j := 12) dL_reads_858 rfl ?_
                    refine r_iload (pc := 860) (j := 16) dL_reads_860 rfl ?_
                    refine r_iconst (pc := 862) (v := (2 : Int32)) dL_reads_862 rfl ?_
                    obtain ⟨j871, ej871, hr⟩ := vth_ex hr
                    have hj871 : ∀ (s119 : Int32), j871 s119 = some r → RR g mL_reads (FinR g mL_reads (some (.int (b2i r.1))) NF r.2) (NF, zc_, zs_) 871 [(0, .ref (ad g 1)), (1, .ref (ad g o1_)), (6, .int u6_), (8, .int u8_), (9, .int u9_), (10, .int v114), (11, .ref (ad g o11_)), (12, .int x12_), (13, .int u13_), (14, .int u14_), (15, .int v116), (16, .int v118), (18, .int v18_), (19, .int v19_), (23, .int s88)] [.int s119, .int v17_] σ115 := by
                      intro s119 hr
                      replace hr := (congrFun ej871 s119).symm.trans hr
                      refine r_iadd (pc := 871) dL_reads_871 ?_
                      refine r_topi fun v120 ev120 => ?_
                      replace hr := vthen_inv hr v120 ev120
                      refine r_istore (pc := 872) (ls1 := [(17, .int v120), (0, .ref (ad g 1)), (1, .ref (ad g o1_)), (6, .int u6_), (8, .int u8_), (9, .int u9_), (10, .int v114), (11, .ref (ad g o11_)), (12, .int x12_), (13, .int u13_), (14, .int u14_), (15, .int v116), (16, .int v118), (18, .int v18_), (19, .int v19_), (23, .int s88)]) dL_reads_872 (nle rfl) rfl ?_
                      refine r_iload (pc := 874) (j := 13) dL_reads_874 rfl ?_
                      refine r_iload (pc := 876) (j := 15) dL_reads_876 rfl ?_
                      refine r_aload (pc := 878) (j := 7) dL_reads_878 rfl ?_
                      refine r_iload (pc := 880) (j := 14) dL_reads_880 rfl ?_
                      obtain ⟨h121, hr⟩ := grd_inv hr
                      refine y_iald (pc := 882) (k := (Int32.toNatClampNeg v19_)) h121 rfl dL_reads_882 ?_
                      refine r_icmp_ne (pc := 883) (tgt := 890) dL_reads_883 rfl (fun hc => ?_) (fun hc => ?_)
                      · replace hr := ite_f hc hr
                        refine r_iconst (pc := 890) (v := (1 : Int32)) dL_reads_890 rfl ?_
                        refine r_iadd (pc := 891) dL_reads_891 ?_
                        refine r_topi fun v122 ev122 => ?_
                        replace hr := vthen_inv hr v122 ev122
                        refine r_istore (pc := 892) (ls1 := [(18, .int v122), (17, .int v120), (0, .ref (ad g 1)), (1, .ref (ad g o1_)), (6, .int u6_), (8, .int u8_), (9, .int u9_), (10, .int v114), (11, .ref (ad g o11_)), (12, .int x12_), (13, .int u13_), (14, .int u14_), (15, .int v116), (16, .int v118), (19, .int v19_), (23, .int s88)]) dL_reads_892 (nle rfl) rfl ?_
                        refine r_iinc (pc := 894) (j := 14) (v := (v19_ + (1 : Int32))) (ls1 := [(19, .int (v19_ + (1 : Int32))), (18, .int v122), (17, .int v120), (0, .ref (ad g 1)), (1, .ref (ad g o1_)), (6, .int u6_), (8, .int u8_), (9, .int u9_), (10, .int v114), (11, .ref (ad g o11_)), (12, .int x12_), (13, .int u13_), (14, .int u14_), (15, .int v116), (16, .int v118), (23, .int s88)]) dL_reads_894 rfl rfl (nle rfl) rfl ?_
                        refine r_goto (pc := 897) (tgt := 449) dL_reads_897 rfl ?_
                        exact r_pick (ls1 := [(0, .ref (ad g 1)), (1, .ref (ad g o1_)), (6, .int u6_), (8, .int u8_), (9, .int u9_), (10, .int v114), (11, .ref (ad g o11_)), (12, .int x12_), (13, .int u13_), (14, .int u14_), (15, .int v116), (16, .int v118), (17, .int v120), (18, .int v122), (19, .int (v19_ + (1 : Int32)))]) [3, 4, 5, 6, 7, 8, 9, 10, 11, 12, 13, 14, 2, 1, 0] rfl (ih v114 v116 v118 v120 v122 (v19_ + (1 : Int32)) σ115 hr hσ115)
                      replace hr := ite_t hc hr
                      refine r_iconst (pc := 886) (v := (0 : Int32)) dL_reads_886 rfl ?_
                      refine r_goto (pc := 887) (tgt := 891) dL_reads_887 rfl ?_
                      refine r_iadd (pc := 891) dL_reads_891 ?_
                      refine r_topi fun v123 ev123 => ?_
                      replace hr := vthen_inv hr v123 ev123
                      refine r_istore (pc := 892) (ls1 := [(18, .int v123), (17, .int v120), (0, .ref (ad g 1)), (1, .ref (ad g o1_)), (6, .int u6_), (8, .int u8_), (9, .int u9_), (10, .int v114), (11, .ref (ad g o11_)), (12, .int x12_), (13, .int u13_), (14, .int u14_), (15, .int v116), (16, .int v118), (19, .int v19_), (23, .int s88)]) dL_reads_892 (nle rfl) rfl ?_
                      refine r_iinc (pc := 894) (j := 14) (v := (v19_ + (1 : Int32))) (ls1 := [(19, .int (v19_ + (1 : Int32))), (18, .int v123), (17, .int v120), (0, .ref (ad g 1)), (1, .ref (ad g o1_)), (6, .int u6_), (8, .int u8_), (9, .int u9_), (10, .int v114), (11, .ref (ad g o11_)), (12, .int x12_), (13, .int u13_), (14, .int u14_), (15, .int v116), (16, .int v118), (23, .int s88)]) dL_reads_894 rfl rfl (nle rfl) rfl ?_
                      refine r_goto (pc := 897) (tgt := 449) dL_reads_897 rfl ?_
                      exact r_pick (ls1 := [(0, .ref (ad g 1)), (1, .ref (ad g o1_)), (6, .int u6_), (8, .int u8_), (9, .int u9_), (10, .int v114), (11, .ref (ad g o11_)), (12, .int x12_), (13, .int u13_), (14, .int u14_), (15, .int v116), (16, .int v118), (17, .int v120), (18, .int v123), (19, .int (v19_ + (1 : Int32)))]) [3, 4, 5, 6, 7, 8, 9, 10, 11, 12, 13, 14, 2, 1, 0] rfl (ih v114 v116 v118 v120 v123 (v19_ + (1 : Int32)) σ115 hr hσ115)
                    refine r_icmp_ne (pc := 863) (tgt := 870) dL_reads_863 rfl (fun hc => ?_) (fun hc => ?_)
                    · replace hr := ite_f hc hr
                      refine r_iconst (pc := 870) (v := (0 : Int32)) dL_reads_870 rfl ?_
                      exact r_pick (ls1 := [(0, .ref (ad g 1)), (1, .ref (ad g o1_)), (6, .int u6_), (8, .int u8_), (9, .int u9_), (10, .int v114), (11, .ref (ad g o11_)), (12, .int x12_), (13, .int u13_), (14, .int u14_), (15, .int v116), (16, .int v118), (18, .int v18_), (19, .int v19_), (23, .int s88)]) [1, 2, 3, 4, 5, 6, 7, 8, 9, 10, 11, 0, 13, 14, 15] rfl (hj871 (0 : Int32) hr)
                    replace hr := ite_t hc hr
                    refine r_iconst (pc := 866) (v := (1 : Int32)) dL_reads_866 rfl ?_
                    refine r_goto (pc := 867) (tgt := 871) dL_reads_867 rfl ?_
                    exact r_pick (ls1 := [(0, .ref (ad g 1)), (1, .ref (ad g o1_)), (6, .int u6_), (8, .int u8_), (9, .int u9_), (10, .int v114), (11, .ref (ad g o11_)), (12, .int x12_), (13, .int u13_), (14, .int u14_), (15, .int v116), (16, .int v118), (18, .int v18_), (19, .int v19_), (23, .int s88)]) [1, 2, 3, 4, 5, 6, 7, 8, 9, 10, 11, 0, 13, 14, 15] rfl (hj871 (1 : Int32) hr)
                  refine r_icmp_ne (pc := 847) (tgt := 854) dL_reads_847 rfl (fun hc => ?_) (fun hc => ?_)
                  · replace hr := ite_f hc hr
                    refine r_iconst (pc := 854) (v := (0 : Int32)) dL_reads_854 rfl ?_
                    exact r_pick (ls1 := [(0, .ref (ad g 1)), (1, .ref (ad g o1_)), (6, .int u6_), (8, .int u8_), (9, .int u9_), (10, .int v114), (11, .ref (ad g o11_)), (12, .int x12_), (13, .int u13_), (14, .int u14_), (15, .int v116), (17, .int v17_), (18, .int v18_), (19, .int v19_), (23, .int s88), (24, .int s91)]) [1, 2, 3, 4, 5, 6, 7, 8, 9, 10, 0, 12, 13, 14, 15, 16] rfl (hj855 (0 : Int32) hr)
                  replace hr := ite_t hc hr
                  refine r_iconst (pc := 850) (v := (1 : Int32)) dL_reads_850 rfl ?_
                  refine r_goto (pc := 851) (tgt := 855) dL_reads_851 rfl ?_
                  exact r_pick (ls1 := [(0, .ref (ad g 1)), (1, .ref (ad g o1_)), (6, .int u6_), (8, .int u8_), (9, .int u9_), (10, .int v114), (11, .ref (ad g o11_)), (12, .int x12_), (13, .int u13_), (14, .int u14_), (15, .int v116), (17, .int v17_), (18, .int v18_), (19, .int v19_), (23, .int s88), (24, .int s91)]) [1, 2, 3, 4, 5, 6, 7, 8, 9, 10, 0, 12, 13, 14, 15, 16] rfl (hj855 (1 : Int32) hr)
                obtain ⟨j729, ej729, hr⟩ := vth_ex hr
                have hj729 : ∀ (σ124 : SS), j729 σ124 = some r → WT σ124 → RR g mL_reads (FinR g mL_reads (some (.int (b2i r.1))) NF r.2) (NF, zc_, zs_) 729 [(0, .ref (ad g 1)), (1, .ref (ad g o1_)), (6, .int u6_), (8, .int u8_), (9, .int u9_), (11, .ref (ad g o11_)), (12, .int x12_), (13, .int u13_), (14, .int u14_), (15, .int v15_), (16, .int v16_), (17, .int v17_), (18, .int v18_), (19, .int v19_), (23, .int s88), (24, .int s91), (27, .int s93)] [] σ124 := by
                  intro σ124 hr hσ124
                  replace hr := (congrFun ej729 σ124).symm.trans hr
                  refine r_iconst (pc := 729) (v := (0 : Int32)) dL_reads_729 rfl ?_
                  exact r_pick (ls1 := [(0, .ref (ad g 1)), (1, .ref (ad g o1_)), (6, .int u6_), (8, .int u8_), (9, .int u9_), (11, .ref (ad g o11_)), (12, .int x12_), (13, .int u13_), (14, .int u14_), (15, .int v15_), (16, .int v16_), (17, .int v17_), (18, .int v18_), (19, .int v19_), (23, .int s88), (24, .int s91), (27, .int s93)]) [0, 1, 2, 3, 4, 5, 6, 7, 8, 9, 10, 11, 12, 13, 14, 15, 16] rfl (hj730 (0 : Int32) σ124 hr hσ124)
                refine r_icmp_ne (pc := 665) (tgt := 729) dL_reads_665 rfl (fun hc => ?_) (fun hc => ?_)
                · replace hr := ite_f hc hr
                  exact r_pick (ls1 := [(0, .ref (ad g 1)), (1, .ref (ad g o1_)), (6, .int u6_), (8, .int u8_), (9, .int u9_), (11, .ref (ad g o11_)), (12, .int x12_), (13, .int u13_), (14, .int u14_), (15, .int v15_), (16, .int v16_), (17, .int v17_), (18, .int v18_), (19, .int v19_), (23, .int s88), (24, .int s91), (27, .int s93)]) [1, 2, 3, 4, 5, 6, 7, 8, 9, 10, 11, 12, 13, 14, 16, 17, 0] rfl (hj729 σ97 hr hσ97)
                replace hr := ite_t hc hr
                refine r_aload_n (pc := 668) (j := 1) dL_reads_668 rfl rfl ?_
                refine r_iload (pc := 669) (j := 14) dL_reads_669 rfl ?_
                refine r_iconst (pc := 671) (v := (1 : Int32)) dL_reads_671 rfl ?_
                obtain ⟨v125, σ128, eσ128, hr⟩ := bnd_inv hr
                refine qX7_judged (pc := 672) eσ128 tw_4_87 hz_ ⟨nle rfl, nle rfl⟩ (nle rfl) dL_reads_672 fun hσ128 => ?_
                refine r_iload (pc := 675) (j := 17) dL_reads_675 rfl ?_
                refine r_icmp_ne (pc := 677) (tgt := 729) dL_reads_677 rfl (fun hc => ?_) (fun hc => ?_)
                · replace hr := ite_f hc hr
                  exact r_pick (ls1 := [(0, .ref (ad g 1)), (1, .ref (ad g o1_)), (6, .int u6_), (8, .int u8_), (9, .int u9_), (11, .ref (ad g o11_)), (12, .int x12_), (13, .int u13_), (14, .int u14_), (15, .int v15_), (16, .int v16_), (17, .int v17_), (18, .int v18_), (19, .int v19_), (23, .int s88), (24, .int s91), (27, .int s93)]) [1, 2, 3, 4, 5, 6, 7, 8, 9, 10, 11, 12, 13, 14, 16, 17, 0] rfl (hj729 σ128 hr hσ128)
                replace hr := ite_t hc hr
                refine r_aload_n (pc := 680) (j := 1) dL_reads_680 rfl rfl ?_
                refine r_iload (pc := 681) (j := 14) dL_reads_681 rfl ?_
                refine r_iconst (pc := 683) (v := (2 : Int32)) dL_reads_683 rfl ?_
                obtain ⟨v129, σ132, eσ132, hr⟩ := bnd_inv hr
                refine qX7_judged (pc := 684) eσ132 tw_4_87 hz_ ⟨nle rfl, nle rfl⟩ (nle rfl) dL_reads_684 fun hσ132 => ?_
                refine r_iload (pc := 687) (j := 18) dL_reads_687 rfl ?_
                refine r_icmp_ne (pc := 689) (tgt := 729) dL_reads_689 rfl (fun hc => ?_) (fun hc => ?_)
                · replace hr := ite_f hc hr
                  exact r_pick (ls1 := [(0, .ref (ad g 1)), (1, .ref (ad g o1_)), (6, .int u6_), (8, .int u8_), (9, .int u9_), (11, .ref (ad g o11_)), (12, .int x12_), (13, .int u13_), (14, .int u14_), (15, .int v15_), (16, .int v16_), (17, .int v17_), (18, .int v18_), (19, .int v19_), (23, .int s88), (24, .int s91), (27, .int s93)]) [1, 2, 3, 4, 5, 6, 7, 8, 9, 10, 11, 12, 13, 14, 16, 17, 0] rfl (hj729 σ132 hr hσ132)
                replace hr := ite_t hc hr
                refine r_aload_n (pc := 692) (j := 1) dL_reads_692 rfl rfl ?_
                refine r_iload (pc := 693) (j := 14) dL_reads_693 rfl ?_
                refine r_iconst (pc := 695) (v := (3 : Int32)) dL_reads_695 rfl ?_
                obtain ⟨v133, σ136, eσ136, hr⟩ := bnd_inv hr
                refine qX7_judged (pc := 696) eσ136 tw_4_87 hz_ ⟨nle rfl, nle rfl⟩ (nle rfl) dL_reads_696 fun hσ136 => ?_
                refine r_iload (pc := 699) (j := 15) dL_reads_699 rfl ?_
                obtain ⟨j710, ej710, hr⟩ := vth_ex hr
                have hj710 : ∀ (s137 : Int32), j710 s137 = some r → RR g mL_reads (FinR g mL_reads (some (.int (b2i r.1))) NF r.2) (NF, zc_, zs_) 710 [(0, .ref (ad g 1)), (1, .ref (ad g o1_)), (6, .int u6_), (8, .int u8_), (9, .int u9_), (11, .ref (ad g o11_)), (12, .int x12_), (13, .int u13_), (14, .int u14_), (15, .int v15_), (16, .int v16_), (17, .int v17_), (18, .int v18_), (19, .int v19_), (23, .int s88), (24, .int s91), (27, .int s93)] [.int s137, .int v133] σ136 := by
                  intro s137 hr
                  replace hr := (congrFun ej710 s137).symm.trans hr
                  refine r_icmp_ne (pc := 710) (tgt := 729) dL_reads_710 rfl (fun hc => ?_) (fun hc => ?_)
                  · replace hr := ite_f hc hr
                    exact r_pick (ls1 := [(0, .ref (ad g 1)), (1, .ref (ad g o1_)), (6, .int u6_), (8, .int u8_), (9, .int u9_), (11, .ref (ad g o11_)), (12, .int x12_), (13, .int u13_), (14, .int u14_), (15, .int v15_), (16, .int v16_), (17, .int v17_), (18, .int v18_), (19, .int v19_), (23, .int s88), (24, .int s91), (27, .int s93)]) [0, 1, 2, 3, 4, 5, 6, 7, 8, 9, 10, 11, 12, 13, 14, 15, 16] rfl (hj729 σ136 hr hσ136)
                  replace hr := ite_t hc hr
                  refine r_aload_n (pc := 713) (j := 0) dL_reads_713 rfl rfl ?_
                  refine r_iload (pc := 714) (j := 13) dL_reads_714 rfl ?_
                  refine r_iconst (pc := 716) (v := (4 : Int32)) dL_reads_716 rfl ?_
                  obtain ⟨v138, σ141, eσ141, hr⟩ := bnd_inv hr
                  refine qX7_judged (pc := 717) eσ141 tw_4_87 hz_ ⟨nle rfl, nle rfl⟩ (nle rfl) dL_reads_717 fun hσ141 => ?_
                  refine r_iload (pc := 720) (j := 16) dL_reads_720 rfl ?_
                  refine r_icmp_ne (pc := 722) (tgt := 729) dL_reads_722 rfl (fun hc => ?_) (fun hc => ?_)
                  · replace hr := ite_f hc hr
                    exact r_pick (ls1 := [(0, .ref (ad g 1)), (1, .ref (ad g o1_)), (6, .int u6_), (8, .int u8_), (9, .int u9_), (11, .ref (ad g o11_)), (12, .int x12_), (13, .int u13_), (14, .int u14_), (15, .int v15_), (16, .int v16_), (17, .int v17_), (18, .int v18_), (19, .int v19_), (23, .int s88), (24, .int s91), (27, .int s93)]) [0, 1, 2, 3, 4, 5, 6, 7, 8, 9, 10, 11, 12, 13, 14, 15, 16] rfl (hj729 σ141 hr hσ141)
                  replace hr := ite_t hc hr
                  refine r_iconst (pc := 725) (v := (1 : Int32)) dL_reads_725 rfl ?_
                  refine r_goto (pc := 726) (tgt := 730) dL_reads_726 rfl ?_
                  exact r_pick (ls1 := [(0, .ref (ad g 1)), (1, .ref (ad g o1_)), (6, .int u6_), (8, .int u8_), (9, .int u9_), (11, .ref (ad g o11_)), (12, .int x12_), (13, .int u13_), (14, .int u14_), (15, .int v15_), (16, .int v16_), (17, .int v17_), (18, .int v18_), (19, .int v19_), (23, .int s88), (24, .int s91), (27, .int s93)]) [0, 1, 2, 3, 4, 5, 6, 7, 8, 9, 10, 11, 12, 13, 14, 15, 16] rfl (hj730 (1 : Int32) σ141 hr hσ141)
                refine r_if_le (pc := 701) (tgt := 709) dL_reads_701 rfl (fun hc => ?_) (fun hc => ?_)
                · replace hr := ite_t hc hr
                  refine r_iconst (pc := 709) (v := (0 : Int32)) dL_reads_709 rfl ?_
                  exact r_pick (ls1 := [(0, .ref (ad g 1)), (1, .ref (ad g o1_)), (6, .int u6_), (8, .int u8_), (9, .int u9_), (11, .ref (ad g o11_)), (12, .int x12_), (13, .int u13_), (14, .int u14_), (15, .int v15_), (16, .int v16_), (17, .int v17_), (18, .int v18_), (19, .int v19_), (23, .int s88), (24, .int s91), (27, .int s93)]) [1, 2, 3, 4, 5, 6, 7, 8, 9, 10, 11, 12, 13, 14, 16, 17, 0] rfl (hj710 (0 : Int32) hr)
                replace hr := ite_f hc hr
                refine r_iload (pc := 704) (j := 9) dL_reads_704 rfl ?_
                refine r_goto (pc := 706) (tgt := 710) dL_reads_706 rfl ?_
                exact r_pick (ls1 := [(0, .ref (ad g 1)), (1, .ref (ad g o1_)), (6, .int u6_), (8, .int u8_), (9, .int u9_), (11, .ref (ad g o11_)), (12, .int x12_), (13, .int u13_), (14, .int u14_), (15, .int v15_), (16, .int v16_), (17, .int v17_), (18, .int v18_), (19, .int v19_), (23, .int s88), (24, .int s91), (27, .int s93)]) [1, 2, 3, 4, 5, 6, 7, 8, 9, 10, 11, 12, 13, 14, 16, 17, 0] rfl (hj710 u14_ hr)
              obtain ⟨j618, ej618, hr⟩ := vth_ex hr
              have hj618 : j618 () = some r → RR g mL_reads (FinR g mL_reads (some (.int (b2i r.1))) NF r.2) (NF, zc_, zs_) 618 [(0, .ref (ad g 1)), (1, .ref (ad g o1_)), (6, .int u6_), (8, .int u8_), (9, .int u9_), (11, .ref (ad g o11_)), (12, .int x12_), (13, .int u13_), (14, .int u14_), (15, .int v15_), (16, .int v16_), (17, .int v17_), (18, .int v18_), (19, .int v19_), (20, .int v84), (23, .int s88), (24, .int s91), (26, .int s92)] [] σ_ := by
                intro  hr
                replace hr := (congrFun ej618 ()).symm.trans hr
                refine r_iconst (pc := 618) (v := (0 : Int32)) dL_reads_618 rfl ?_
                refine r_goto (pc := 619) (tgt := 654) dL_reads_619 rfl ?_
                exact r_pick (ls1 := [(0, .ref (ad g 1)), (1, .ref (ad g o1_)), (6, .int u6_), (8, .int u8_), (9, .int u9_), (11, .ref (ad g o11_)), (12, .int x12_), (13, .int u13_), (14, .int u14_), (15, .int v15_), (16, .int v16_), (17, .int v17_), (18, .int v18_), (19, .int v19_), (20, .int v84), (23, .int s88), (24, .int s91), (26, .int s92)]) [0, 1, 2, 3, 4, 5, 6, 7, 8, 9, 10, 11, 12, 13, 14, 15, 16, 17] rfl (hj654 (0 : Int32) hr)
              refine r_if_eq (pc := 610) (tgt := 618) dL_reads_610 rfl (fun hc => ?_) (fun hc => ?_)
              · replace hr := ite_t hc hr
                exact r_pick (ls1 := [(0, .ref (ad g 1)), (1, .ref (ad g o1_)), (6, .int u6_), (8, .int u8_), (9, .int u9_), (11, .ref (ad g o11_)), (12, .int x12_), (13, .int u13_), (14, .int u14_), (15, .int v15_), (16, .int v16_), (17, .int v17_), (18, .int v18_), (19, .int v19_), (20, .int v84), (23, .int s88), (24, .int s91), (26, .int s92)]) [1, 2, 3, 4, 5, 6, 7, 8, 9, 10, 11, 12, 13, 14, 15, 17, 18, 0] rfl (hj618  hr)
              replace hr := ite_f hc hr
              refine r_iload (pc := 613) (j := 18) dL_reads_613 rfl ?_
              refine r_if_le (pc := 615) (tgt := 622) dL_reads_615 rfl (fun hc => ?_) (fun hc => ?_)
              · replace hr := ite_t hc hr
                refine r_iload (pc := 622) (j := 17) dL_reads_622 rfl ?_
                refine r_iload (pc := 624) (j := 16) dL_reads_624 rfl ?_
                refine r_icmp_ne (pc := 626) (tgt := 642) dL_reads_626 rfl (fun hc => ?_) (fun hc => ?_)
                · replace hr := ite_f hc hr
                  refine r_iload (pc := 642) (j := 17) dL_reads_642 rfl ?_
                  refine r_if_le (pc := 644) (tgt := 653) dL_reads_644 rfl (fun hc => ?_) (fun hc => ?_)
                  · replace hr := ite_t hc hr
                    refine r_iconst (pc := 653) (v := (0 : Int32)) dL_reads_653 rfl ?_
                    exact r_pick (ls1 := [(0, .ref (ad g 1)), (1, .ref (ad g o1_)), (6, .int u6_), (8, .int u8_), (9, .int u9_), (11, .ref (ad g o11_)), (12, .int x12_), (13, .int u13_), (14, .int u14_), (15, .int v15_), (16, .int v16_), (17, .int v17_), (18, .int v18_), (19, .int v19_), (20, .int v84), (23, .int s88), (24, .int s91), (26, .int s92)]) [1, 2, 3, 4, 5, 6, 7, 8, 9, 10, 11, 12, 13, 14, 15, 17, 18, 0] rfl (hj654 (0 : Int32) hr)
                  replace hr := ite_f hc hr
                  refine r_iload (pc := 647) (j := 5) dL_reads_647 rfl ?_
                  refine r_ineg (pc := 649) dL_reads_649 ?_
                  refine r_goto (pc := 650) (tgt := 654) dL_reads_650 rfl ?_
                  exact r_pick (ls1 := [(0, .ref (ad g 1)), (1, .ref (ad g o1_)), (6, .int u6_), (8, .int u8_), (9, .int u9_), (11, .ref (ad g o11_)), (12, .int x12_), (13, .int u13_), (14, .int u14_), (15, .int v15_), (16, .int v16_), (17, .int v17_), (18, .int v18_), (19, .int v19_), (20, .int v84), (23, .int s88), (24, .int s91), (26, .int s92)]) [1, 2, 3, 4, 5, 6, 7, 8, 9, 10, 11, 12, 13, 14, 15, 17, 18, 0] rfl (hj654 (-u9_) hr)
                replace hr := ite_t hc hr
                refine r_aload_n (pc := 629) (j := 2) dL_reads_629 rfl rfl ?_
                refine r_bipush (pc := 630) (v := (19 : Int32)) dL_reads_630 rfl ?_
                refine r_bipush (pc := 632) (v := (16 : Int32)) dL_reads_632 rfl ?_
                refine r_iload (pc := 634) (j := 14) dL_reads_634 rfl ?_
                refine r_imul (pc := 636) dL_reads_636 ?_
                refine r_iadd (pc := 637) dL_reads_637 ?_
                obtain ⟨h142, hr⟩ := grd_inv hr
                refine y_iald (pc := 638) (k := (Int32.toNatClampNeg ((19 : Int32) + ((16 : Int32) * v19_)))) h142 rfl dL_reads_638 ?_
                refine r_goto (pc := 639) (tgt := 654) dL_reads_639 rfl ?_
                exact r_pick (ls1 := [(0, .ref (ad g 1)), (1, .ref (ad g o1_)), (6, .int u6_), (8, .int u8_), (9, .int u9_), (11, .ref (ad g o11_)), (12, .int x12_), (13, .int u13_), (14, .int u14_), (15, .int v15_), (16, .int v16_), (17, .int v17_), (18, .int v18_), (19, .int v19_), (20, .int v84), (23, .int s88), (24, .int s91), (26, .int s92)]) [1, 2, 3, 4, 5, 6, 7, 8, 9, 10, 11, 12, 13, 14, 15, 17, 18, 0] rfl (hj654 (gI σ_ o1_ (Int32.toNatClampNeg ((19 : Int32) + ((16 : Int32) * v19_)))) hr)
              replace hr := ite_f hc hr
              exact r_pick (ls1 := [(0, .ref (ad g 1)), (1, .ref (ad g o1_)), (6, .int u6_), (8, .int u8_), (9, .int u9_), (11, .ref (ad g o11_)), (12, .int x12_), (13, .int u13_), (14, .int u14_), (15, .int v15_), (16, .int v16_), (17, .int v17_), (18, .int v18_), (19, .int v19_), (20, .int v84), (23, .int s88), (24, .int s91), (26, .int s92)]) [1, 2, 3, 4, 5, 6, 7, 8, 9, 10, 11, 12, 13, 14, 15, 17, 18, 0] rfl (hj618  hr)
            obtain ⟨j605, ej605, hr⟩ := vth_ex hr
            have hj605 : j605 () = some r → RR g mL_reads (FinR g mL_reads (some (.int (b2i r.1))) NF r.2) (NF, zc_, zs_) 605 [(0, .ref (ad g 1)), (1, .ref (ad g o1_)), (6, .int u6_), (8, .int u8_), (9, .int u9_), (11, .ref (ad g o11_)), (12, .int x12_), (13, .int u13_), (14, .int u14_), (15, .int v15_), (16, .int v16_), (17, .int v17_), (18, .int v18_), (19, .int v19_), (20, .int v84), (21, .int v86), (23, .int s88), (24, .int s91)] [] σ_ := by
              intro  hr
              replace hr := (congrFun ej605 ()).symm.trans hr
              refine r_iconst (pc := 605) (v := (0 : Int32)) dL_reads_605 rfl ?_
              exact r_pick (ls1 := [(0, .ref (ad g 1)), (1, .ref (ad g o1_)), (6, .int u6_), (8, .int u8_), (9, .int u9_), (11, .ref (ad g o11_)), (12, .int x12_), (13, .int u13_), (14, .int u14_), (15, .int v15_), (16, .int v16_), (17, .int v17_), (18, .int v18_), (19, .int v19_), (20, .int v84), (21, .int v86), (23, .int s88), (24, .int s91)]) [0, 1, 2, 3, 4, 5, 6, 7, 8, 9, 10, 11, 12, 13, 14, 15, 16, 17] rfl (hj606 (0 : Int32) hr)
            refine r_if_ne (pc := 587) (tgt := 605) dL_reads_587 rfl (fun hc => ?_) (fun hc => ?_)
            · replace hr := ite_f hc hr
              exact r_pick (ls1 := [(0, .ref (ad g 1)), (1, .ref (ad g o1_)), (6, .int u6_), (8, .int u8_), (9, .int u9_), (11, .ref (ad g o11_)), (12, .int x12_), (13, .int u13_), (14, .int u14_), (15, .int v15_), (16, .int v16_), (17, .int v17_), (18, .int v18_), (19, .int v19_), (20, .int v84), (21, .int v86), (23, .int s88), (24, .int s91)]) [1, 2, 3, 4, 5, 6, 7, 8, 9, 10, 11, 12, 13, 14, 15, 16, 17, 0] rfl (hj605  hr)
            replace hr := ite_t hc hr
            refine r_iload (pc := 590) (j := 9) dL_reads_590 rfl ?_
            refine r_iload (pc := 592) (j := 4) dL_reads_592 rfl ?_
            refine r_icmp_lt (pc := 594) (tgt := 605) dL_reads_594 rfl (fun hc => ?_) (fun hc => ?_)
            · replace hr := ite_t hc hr
              exact r_pick (ls1 := [(0, .ref (ad g 1)), (1, .ref (ad g o1_)), (6, .int u6_), (8, .int u8_), (9, .int u9_), (11, .ref (ad g o11_)), (12, .int x12_), (13, .int u13_), (14, .int u14_), (15, .int v15_), (16, .int v16_), (17, .int v17_), (18, .int v18_), (19, .int v19_), (20, .int v84), (21, .int v86), (23, .int s88), (24, .int s91)]) [1, 2, 3, 4, 5, 6, 7, 8, 9, 10, 11, 12, 13, 14, 15, 16, 17, 0] rfl (hj605  hr)
            replace hr := ite_f hc hr
            refine r_aload (pc := 597) (j := 6) dL_reads_597 rfl ?_
            refine r_iload (pc := 599) (j := 14) dL_reads_599 rfl ?_
            refine y_iald (pc := 601) (k := (Int32.toNatClampNeg v19_)) h83 rfl dL_reads_601 ?_
            refine r_goto (pc := 602) (tgt := 606) dL_reads_602 rfl ?_
            exact r_pick (ls1 := [(0, .ref (ad g 1)), (1, .ref (ad g o1_)), (6, .int u6_), (8, .int u8_), (9, .int u9_), (11, .ref (ad g o11_)), (12, .int x12_), (13, .int u13_), (14, .int u14_), (15, .int v15_), (16, .int v16_), (17, .int v17_), (18, .int v18_), (19, .int v19_), (20, .int v84), (21, .int v86), (23, .int s88), (24, .int s91)]) [1, 2, 3, 4, 5, 6, 7, 8, 9, 10, 11, 12, 13, 14, 15, 16, 17, 0] rfl (hj606 (gI σ_ o11_ (Int32.toNatClampNeg v19_)) hr)
          refine r_if_eq (pc := 574) (tgt := 581) dL_reads_574 rfl (fun hc => ?_) (fun hc => ?_)
          · replace hr := ite_t hc hr
            refine r_iload (pc := 581) (j := 18) dL_reads_581 rfl ?_
            exact r_pick (ls1 := [(0, .ref (ad g 1)), (1, .ref (ad g o1_)), (6, .int u6_), (8, .int u8_), (9, .int u9_), (11, .ref (ad g o11_)), (12, .int x12_), (13, .int u13_), (14, .int u14_), (15, .int v15_), (16, .int v16_), (17, .int v17_), (18, .int v18_), (19, .int v19_), (20, .int v84), (21, .int v86), (23, .int s88)]) [1, 2, 3, 4, 5, 6, 7, 8, 9, 10, 11, 12, 13, 14, 15, 16, 17] rfl (hj583 s89 hr)
          replace hr := ite_f hc hr
          refine r_iconst (pc := 577) (v := (2 : Int32)) dL_reads_577 rfl ?_
          refine r_goto (pc := 578) (tgt := 583) dL_reads_578 rfl ?_
          exact r_pick (ls1 := [(0, .ref (ad g 1)), (1, .ref (ad g o1_)), (6, .int u6_), (8, .int u8_), (9, .int u9_), (11, .ref (ad g o11_)), (12, .int x12_), (13, .int u13_), (14, .int u14_), (15, .int v15_), (16, .int v16_), (17, .int v17_), (18, .int v18_), (19, .int v19_), (20, .int v84), (21, .int v86), (23, .int s88)]) [1, 2, 3, 4, 5, 6, 7, 8, 9, 10, 11, 12, 13, 14, 15, 16, 17] rfl (hj583 (2 : Int32) hr)
        obtain ⟨j569, ej569, hr⟩ := vth_ex hr
        have hj569 : j569 () = some r → RR g mL_reads (FinR g mL_reads (some (.int (b2i r.1))) NF r.2) (NF, zc_, zs_) 569 [(0, .ref (ad g 1)), (1, .ref (ad g o1_)), (6, .int u6_), (8, .int u8_), (9, .int u9_), (11, .ref (ad g o11_)), (12, .int x12_), (13, .int u13_), (14, .int u14_), (15, .int v15_), (16, .int v16_), (17, .int v17_), (18, .int v18_), (19, .int v19_), (20, .int v84), (21, .int v86), (23, .int s88), (24, .int s89)] [] σ_ := by
          intro  hr
          replace hr := (congrFun ej569 ()).symm.trans hr
          refine r_iconst (pc := 569) (v := (0 : Int32)) dL_reads_569 rfl ?_
          exact r_pick (ls1 := [(0, .ref (ad g 1)), (1, .ref (ad g o1_)), (6, .int u6_), (8, .int u8_), (9, .int u9_), (11, .ref (ad g o11_)), (12, .int x12_), (13, .int u13_), (14, .int u14_), (15, .int v15_), (16, .int v16_), (17, .int v17_), (18, .int v18_), (19, .int v19_), (20, .int v84), (21, .int v86), (23, .int s88), (24, .int s89)]) [0, 1, 2, 3, 4, 5, 6, 7, 8, 9, 10, 11, 12, 13, 14, 15, 16, 17] rfl (hj570 (0 : Int32) hr)
        refine r_if_eq (pc := 542) (tgt := 569) dL_reads_542 rfl (fun hc => ?_) (fun hc => ?_)
        · replace hr := ite_t hc hr
          exact r_pick (ls1 := [(0, .ref (ad g 1)), (1, .ref (ad g o1_)), (6, .int u6_), (8, .int u8_), (9, .int u9_), (11, .ref (ad g o11_)), (12, .int x12_), (13, .int u13_), (14, .int u14_), (15, .int v15_), (16, .int v16_), (17, .int v17_), (18, .int v18_), (19, .int v19_), (20, .int v84), (21, .int v86), (23, .int s88), (24, .int s89)]) [1, 2, 3, 4, 5, 6, 7, 8, 9, 10, 11, 12, 13, 14, 15, 16, 18, 0] rfl (hj569  hr)
        replace hr := ite_f hc hr
        refine r_iload (pc := 545) (j := 15) dL_reads_545 rfl ?_
        refine r_iconst (pc := 547) (v := (1 : Int32)) dL_reads_547 rfl ?_
        refine r_icmp_le (pc := 548) (tgt := 569) dL_reads_548 rfl (fun hc => ?_) (fun hc => ?_)
        · replace hr := ite_t hc hr
          exact r_pick (ls1 := [(0, .ref (ad g 1)), (1, .ref (ad g o1_)), (6, .int u6_), (8, .int u8_), (9, .int u9_), (11, .ref (ad g o11_)), (12, .int x12_), (13, .int u13_), (14, .int u14_), (15, .int v15_), (16, .int v16_), (17, .int v17_), (18, .int v18_), (19, .int v19_), (20, .int v84), (21, .int v86), (23, .int s88), (24, .int s89)]) [1, 2, 3, 4, 5, 6, 7, 8, 9, 10, 11, 12, 13, 14, 15, 16, 18, 0] rfl (hj569  hr)
        replace hr := ite_f hc hr
        refine r_aload_n (pc := 551) (j := 2) dL_reads_551 rfl rfl ?_
        refine r_bipush (pc := 552) (v := (16 : Int32)) dL_reads_552 rfl ?_
        refine r_bipush (pc := 554) (v := (16 : Int32)) dL_reads_554 rfl ?_
        refine r_iload (pc := 556) (j := 14) dL_reads_556 rfl ?_
        refine r_imul (pc := 558) dL_reads_558 ?_
        refine r_iadd (pc := 559) dL_reads_559 ?_
        obtain ⟨h143, hr⟩ := grd_inv hr
        refine y_iald (pc := 560) (k := (Int32.toNatClampNeg ((16 : Int32) + ((16 : Int32) * v19_)))) h143 rfl dL_reads_560 ?_
        refine r_iconst (pc := 561) (v := (1 : Int32)) dL_reads_561 rfl ?_
        refine r_icmp_ne (pc := 562) (tgt := 569) dL_reads_562 rfl (fun hc => ?_) (fun hc => ?_)
        · replace hr := ite_f hc hr
          exact r_pick (ls1 := [(0, .ref (ad g 1)), (1, .ref (ad g o1_)), (6, .int u6_), (8, .int u8_), (9, .int u9_), (11, .ref (ad g o11_)), (12, .int x12_), (13, .int u13_), (14, .int u14_), (15, .int v15_), (16, .int v16_), (17, .int v17_), (18, .int v18_), (19, .int v19_), (20, .int v84), (21, .int v86), (23, .int s88), (24, .int s89)]) [1, 2, 3, 4, 5, 6, 7, 8, 9, 10, 11, 12, 13, 14, 15, 16, 18, 0] rfl (hj569  hr)
        replace hr := ite_t hc hr
        refine r_iconst (pc := 565) (v := (1 : Int32)) dL_reads_565 rfl ?_
        refine r_goto (pc := 566) (tgt := 570) dL_reads_566 rfl ?_
        exact r_pick (ls1 := [(0, .ref (ad g 1)), (1, .ref (ad g o1_)), (6, .int u6_), (8, .int u8_), (9, .int u9_), (11, .ref (ad g o11_)), (12, .int x12_), (13, .int u13_), (14, .int u14_), (15, .int v15_), (16, .int v16_), (17, .int v17_), (18, .int v18_), (19, .int v19_), (20, .int v84), (21, .int v86), (23, .int s88), (24, .int s89)]) [1, 2, 3, 4, 5, 6, 7, 8, 9, 10, 11, 12, 13, 14, 15, 16, 18, 0] rfl (hj570 (1 : Int32) hr)
      obtain ⟨j537, ej537, hr⟩ := vth_ex hr
      have hj537 : j537 () = some r → RR g mL_reads (FinR g mL_reads (some (.int (b2i r.1))) NF r.2) (NF, zc_, zs_) 537 [(0, .ref (ad g 1)), (1, .ref (ad g o1_)), (6, .int u6_), (8, .int u8_), (9, .int u9_), (11, .ref (ad g o11_)), (12, .int x12_), (13, .int u13_), (14, .int u14_), (15, .int v15_), (16, .int v16_), (17, .int v17_), (18, .int v18_), (19, .int v19_), (20, .int v84), (21, .int v86), (22, .int s87), (23, .int s88)] [] σ_ := by
        intro  hr
        replace hr := (congrFun ej537 ()).symm.trans hr
        refine r_iconst (pc := 537) (v := (0 : Int32)) dL_reads_537 rfl ?_
        exact r_pick (ls1 := [(0, .ref (ad g 1)), (1, .ref (ad g o1_)), (6, .int u6_), (8, .int u8_), (9, .int u9_), (11, .ref (ad g o11_)), (12, .int x12_), (13, .int u13_), (14, .int u14_), (15, .int v15_), (16, .int v16_), (17, .int v17_), (18, .int v18_), (19, .int v19_), (20, .int v84), (21, .int v86), (22, .int s87), (23, .int s88)]) [0, 1, 2, 3, 4, 5, 6, 7, 8, 9, 10, 11, 12, 13, 14, 15, 16, 17] rfl (hj538 (0 : Int32) hr)
      refine r_if_le (pc := 516) (tgt := 537) dL_reads_516 rfl (fun hc => ?_) (fun hc => ?_)
      · replace hr := ite_t hc hr
        exact r_pick (ls1 := [(0, .ref (ad g 1)), (1, .ref (ad g o1_)), (6, .int u6_), (8, .int u8_), (9, .int u9_), (11, .ref (ad g o11_)), (12, .int x12_), (13, .int u13_), (14, .int u14_), (15, .int v15_), (16, .int v16_), (17, .int v17_), (18, .int v18_), (19, .int v19_), (20, .int v84), (21, .int v86), (22, .int s87), (23, .int s88)]) [1, 2, 3, 4, 5, 6, 7, 8, 9, 10, 11, 12, 13, 14, 15, 16, 17, 0] rfl (hj537  hr)
      replace hr := ite_f hc hr
      refine r_iload (pc := 519) (j := 17) dL_reads_519 rfl ?_
      refine r_if_ne (pc := 521) (tgt := 537) dL_reads_521 rfl (fun hc => ?_) (fun hc => ?_)
      · replace hr := ite_f hc hr
        exact r_pick (ls1 := [(0, .ref (ad g 1)), (1, .ref (ad g o1_)), (6, .int u6_), (8, .int u8_), (9, .int u9_), (11, .ref (ad g o11_)), (12, .int x12_), (13, .int u13_), (14, .int u14_), (15, .int v15_), (16, .int v16_), (17, .int v17_), (18, .int v18_), (19, .int v19_), (20, .int v84), (21, .int v86), (22, .int s87), (23, .int s88)]) [1, 2, 3, 4, 5, 6, 7, 8, 9, 10, 11, 12, 13, 14, 15, 16, 17, 0] rfl (hj537  hr)
      replace hr := ite_t hc hr
      refine r_iconst (pc := 524) (v := (2 : Int32)) dL_reads_524 rfl ?_
      refine r_iload (pc := 525) (j := 9) dL_reads_525 rfl ?_
      refine r_imul (pc := 527) dL_reads_527 ?_
      refine r_iload (pc := 528) (j := 3) dL_reads_528 rfl ?_
      refine r_icmp_lt (pc := 530) (tgt := 537) dL_reads_530 rfl (fun hc => ?_) (fun hc => ?_)
      · replace hr := ite_t hc hr
        exact r_pick (ls1 := [(0, .ref (ad g 1)), (1, .ref (ad g o1_)), (6, .int u6_), (8, .int u8_), (9, .int u9_), (11, .ref (ad g o11_)), (12, .int x12_), (13, .int u13_), (14, .int u14_), (15, .int v15_), (16, .int v16_), (17, .int v17_), (18, .int v18_), (19, .int v19_), (20, .int v84), (21, .int v86), (22, .int s87), (23, .int s88)]) [1, 2, 3, 4, 5, 6, 7, 8, 9, 10, 11, 12, 13, 14, 15, 16, 17, 0] rfl (hj537  hr)
      replace hr := ite_f hc hr
      refine r_iconst (pc := 533) (v := (1 : Int32)) dL_reads_533 rfl ?_
      refine r_goto (pc := 534) (tgt := 538) dL_reads_534 rfl ?_
      exact r_pick (ls1 := [(0, .ref (ad g 1)), (1, .ref (ad g o1_)), (6, .int u6_), (8, .int u8_), (9, .int u9_), (11, .ref (ad g o11_)), (12, .int x12_), (13, .int u13_), (14, .int u14_), (15, .int v15_), (16, .int v16_), (17, .int v17_), (18, .int v18_), (19, .int v19_), (20, .int v84), (21, .int v86), (22, .int s87), (23, .int s88)]) [1, 2, 3, 4, 5, 6, 7, 8, 9, 10, 11, 12, 13, 14, 15, 16, 17, 0] rfl (hj538 (1 : Int32) hr)
    refine r_if_eq (pc := 500) (tgt := 511) dL_reads_500 rfl (fun hc => ?_) (fun hc => ?_)
    · replace hr := ite_t hc hr
      refine r_iconst (pc := 511) (v := (0 : Int32)) dL_reads_511 rfl ?_
      exact r_pick (ls1 := [(0, .ref (ad g 1)), (1, .ref (ad g o1_)), (6, .int u6_), (8, .int u8_), (9, .int u9_), (11, .ref (ad g o11_)), (12, .int x12_), (13, .int u13_), (14, .int u14_), (15, .int v15_), (16, .int v16_), (17, .int v17_), (18, .int v18_), (19, .int v19_), (20, .int v84), (21, .int v86), (22, .int s87)]) [1, 2, 3, 4, 5, 6, 7, 8, 9, 10, 11, 12, 13, 14, 15, 16, 0] rfl (hj512 (0 : Int32) hr)
    replace hr := ite_f hc hr
    refine r_aload (pc := 503) (j := 6) dL_reads_503 rfl ?_
    refine r_iload (pc := 505) (j := 14) dL_reads_505 rfl ?_
    refine y_iald (pc := 507) (k := (Int32.toNatClampNeg v19_)) h83 rfl dL_reads_507 ?_
    refine r_goto (pc := 508) (tgt := 512) dL_reads_508 rfl ?_
    exact r_pick (ls1 := [(0, .ref (ad g 1)), (1, .ref (ad g o1_)), (6, .int u6_), (8, .int u8_), (9, .int u9_), (11, .ref (ad g o11_)), (12, .int x12_), (13, .int u13_), (14, .int u14_), (15, .int v15_), (16, .int v16_), (17, .int v17_), (18, .int v18_), (19, .int v19_), (20, .int v84), (21, .int v86), (22, .int s87)]) [1, 2, 3, 4, 5, 6, 7, 8, 9, 10, 11, 12, 13, 14, 15, 16, 0] rfl (hj512 (gI σ_ o11_ (Int32.toNatClampNeg v19_)) hr)
  refine r_icmp_lt (pc := 488) (tgt := 495) dL_reads_488 rfl (fun hc => ?_) (fun hc => ?_)
  · replace hr := ite_t hc hr
    refine r_iconst (pc := 495) (v := (0 : Int32)) dL_reads_495 rfl ?_
    exact r_pick (ls1 := [(0, .ref (ad g 1)), (1, .ref (ad g o1_)), (6, .int u6_), (8, .int u8_), (9, .int u9_), (11, .ref (ad g o11_)), (12, .int x12_), (13, .int u13_), (14, .int u14_), (15, .int v15_), (16, .int v16_), (17, .int v17_), (18, .int v18_), (19, .int v19_), (20, .int v84), (21, .int v86)]) [2, 3, 4, 5, 6, 8, 9, 10, 11, 12, 13, 14, 15, 16, 1, 0] rfl (hj496 (0 : Int32) hr)
  replace hr := ite_f hc hr
  refine r_iconst (pc := 491) (v := (1 : Int32)) dL_reads_491 rfl ?_
  refine r_goto (pc := 492) (tgt := 496) dL_reads_492 rfl ?_
  exact r_pick (ls1 := [(0, .ref (ad g 1)), (1, .ref (ad g o1_)), (6, .int u6_), (8, .int u8_), (9, .int u9_), (11, .ref (ad g o11_)), (12, .int x12_), (13, .int u13_), (14, .int u14_), (15, .int v15_), (16, .int v16_), (17, .int v17_), (18, .int v18_), (19, .int v19_), (20, .int v84), (21, .int v86)]) [2, 3, 4, 5, 6, 8, 9, 10, 11, 12, 13, 14, 15, 16, 1, 0] rfl (hj496 (1 : Int32) hr)

set_option maxRecDepth 20000 in
set_option maxHeartbeats 4000000 in
theorem sL_reads {g : GG} {σ : SS} {a1 : Nat} {a2 : Nat} {a3 : Int32} {a4 : Int32} {r : Bool × SS} (hr : fL_reads σ a1 a2 a3 a4 = some r)  : Ct g mL_reads [.ref (ad g 1), .ref (ad g a1), .ref (ad g a2), .int a3, .int a4] NF σ (some (.int (b2i r.1))) NF r.2 := by
  refine Ct.of (by decide +kernel) (nle rfl) fun hw0 => ?_
  have hw := hw0 rfl
  unfold fL_reads at hr
  change RR g mL_reads (FinR g mL_reads (some (.int (b2i r.1))) NF r.2) (NF, 0, 0) 0 [(0, .ref (ad g 1)), (1, .ref (ad g a1)), (2, .ref (ad g a2)), (3, .int a3), (4, .int a4)] [] σ
  refine r_iconst (pc := 0) (v := (1 : Int32)) dL_reads_0 rfl ?_
  refine r_aload_n (pc := 1) (j := 2) dL_reads_1 rfl rfl ?_
  obtain ⟨v1, σ4, eσ4, hr⟩ := bnd_inv hr
  refine qL_next (pc := 2) eσ4 tw_3_125 ⟨nle rfl, nle rfl⟩ ⟨nle rfl, nle rfl⟩ (nle rfl) dL_reads_2 fun hσ4 => ?_
  refine r_bipush (pc := 5) (v := (9 : Int32)) dL_reads_5 rfl ?_
  refine r_irem (pc := 7) dL_reads_7 (by decide) ?_
  refine r_iadd (pc := 8) dL_reads_8 ?_
  refine r_topi fun v5 ev5 => ?_
  replace hr := vthen_inv hr v5 ev5
  refine r_istore (pc := 9) (ls1 := [(5, .int v5), (0, .ref (ad g 1)), (1, .ref (ad g a1)), (2, .ref (ad g a2)), (3, .int a3), (4, .int a4)]) dL_reads_9 (nle rfl) rfl ?_
  refine r_iconst (pc := 11) (v := (1 : Int32)) dL_reads_11 rfl ?_
  refine r_aload_n (pc := 12) (j := 3) dL_reads_12 rfl rfl ?_
  obtain ⟨v6, σ9, eσ9, hr⟩ := bnd_inv hr
  refine qL_next (pc := 13) eσ9 tw_3_125 ⟨nle rfl, nle rfl⟩ ⟨nle rfl, nle rfl⟩ (nle rfl) dL_reads_13 fun hσ9 => ?_
  refine r_bipush (pc := 16) (v := (30 : Int32)) dL_reads_16 rfl ?_
  refine r_irem (pc := 18) dL_reads_18 (by decide) ?_
  refine r_iadd (pc := 19) dL_reads_19 ?_
  refine r_topi fun v10 ev10 => ?_
  replace hr := vthen_inv hr v10 ev10
  refine r_istore (pc := 20) (ls1 := [(6, .int v10), (5, .int v5), (0, .ref (ad g 1)), (1, .ref (ad g a1)), (2, .ref (ad g a2)), (3, .int a3), (4, .int a4)]) dL_reads_20 (nle rfl) rfl ?_
  refine r_iconst (pc := 22) (v := (1 : Int32)) dL_reads_22 rfl ?_
  refine r_aload_n (pc := 23) (j := 4) dL_reads_23 rfl rfl ?_
  obtain ⟨v11, σ14, eσ14, hr⟩ := bnd_inv hr
  refine qL_next (pc := 24) eσ14 tw_3_125 ⟨nle rfl, nle rfl⟩ ⟨nle rfl, nle rfl⟩ (nle rfl) dL_reads_24 fun hσ14 => ?_
  refine r_bipush (pc := 27) (v := (20 : Int32)) dL_reads_27 rfl ?_
  refine r_irem (pc := 29) dL_reads_29 (by decide) ?_
  refine r_iadd (pc := 30) dL_reads_30 ?_
  refine r_topi fun v15 ev15 => ?_
  replace hr := vthen_inv hr v15 ev15
  refine r_istore (pc := 31) (ls1 := [(7, .int v15), (6, .int v10), (5, .int v5), (0, .ref (ad g 1)), (1, .ref (ad g a1)), (2, .ref (ad g a2)), (3, .int a3), (4, .int a4)]) dL_reads_31 (nle rfl) rfl ?_
  refine r_iconst (pc := 33) (v := (1 : Int32)) dL_reads_33 rfl ?_
  refine r_aload_n (pc := 34) (j := 5) dL_reads_34 rfl rfl ?_
  obtain ⟨v16, σ19, eσ19, hr⟩ := bnd_inv hr
  refine qL_next (pc := 35) eσ19 tw_3_125 ⟨nle rfl, nle rfl⟩ ⟨nle rfl, nle rfl⟩ (nle rfl) dL_reads_35 fun hσ19 => ?_
  refine r_bipush (pc := 38) (v := (20 : Int32)) dL_reads_38 rfl ?_
  refine r_irem (pc := 40) dL_reads_40 (by decide) ?_
  refine r_iadd (pc := 41) dL_reads_41 ?_
  refine r_topi fun v20 ev20 => ?_
  replace hr := vthen_inv hr v20 ev20
  refine r_istore (pc := 42) (ls1 := [(8, .int v20), (7, .int v15), (6, .int v10), (5, .int v5), (0, .ref (ad g 1)), (1, .ref (ad g a1)), (2, .ref (ad g a2)), (3, .int a3), (4, .int a4)]) dL_reads_42 (nle rfl) rfl ?_
  refine r_aload_n (pc := 44) (j := 6) dL_reads_44 rfl rfl ?_
  obtain ⟨v21, σ24, eσ24, hr⟩ := bnd_inv hr
  refine qL_next (pc := 45) eσ24 tw_3_125 ⟨nle rfl, nle rfl⟩ ⟨nle rfl, nle rfl⟩ (nle rfl) dL_reads_45 fun hσ24 => ?_
  refine r_iconst (pc := 48) (v := (5 : Int32)) dL_reads_48 rfl ?_
  refine r_irem (pc := 49) dL_reads_49 (by decide) ?_
  refine r_topi fun v25 ev25 => ?_
  replace hr := vthen_inv hr v25 ev25
  refine r_istore (pc := 50) (ls1 := [(9, .int v25), (8, .int v20), (7, .int v15), (6, .int v10), (5, .int v5), (0, .ref (ad g 1)), (1, .ref (ad g a1)), (2, .ref (ad g a2)), (3, .int a3), (4, .int a4)]) dL_reads_50 (nle rfl) rfl ?_
  refine r_aload_n (pc := 52) (j := 5) dL_reads_52 rfl rfl ?_
  refine r_iload_n (pc := 53) (j := 8) dL_reads_53 rfl rfl ?_
  refine r_bipush (pc := 54) (v := (7 : Int32)) dL_reads_54 rfl ?_
  refine r_iadd (pc := 56) dL_reads_56 ?_
  refine r_iload (pc := 57) (j := 9) dL_reads_57 rfl ?_
  refine r_bipush (pc := 59) (v := (7 : Int32)) dL_reads_59 rfl ?_
  refine r_iadd (pc := 61) dL_reads_61 ?_
  obtain ⟨b27, σ29, eσ29, hr⟩ := bnd_inv hr
  refine qX7_blank (pc := 62) eσ29 tw_4_62 ⟨nle rfl, nle rfl⟩ ⟨nle rfl, nle rfl⟩ (nle rfl) dL_reads_62 fun hσ29 => ?_
  obtain ⟨j157, ej157, hr⟩ := vth_ex hr
  have hj157 : ∀ (s30 : Int32) (σ31 : SS), j157 s30 σ31 = some r → WT σ31 → RR g mL_reads (FinR g mL_reads (some (.int (b2i r.1))) NF r.2) (NF, 0, 0) 157 [(0, .ref (ad g 1)), (1, .ref (ad g a1)), (2, .ref (ad g a2)), (3, .int a3), (4, .int a4), (5, .int v5), (6, .int v10), (8, .int v20), (9, .int v25)] [.int s30] σ31 := by
    intro s30 σ31 hr hσ31
    replace hr := (congrFun (congrFun ej157 s30) σ31).symm.trans hr
    refine r_istore (pc := 157) (ls1 := [(10, .int s30), (0, .ref (ad g 1)), (1, .ref (ad g a1)), (2, .ref (ad g a2)), (3, .int a3), (4, .int a4), (5, .int v5), (6, .int v10), (8, .int v20), (9, .int v25)]) dL_reads_157 (nle rfl) rfl ?_
    refine r_iconst (pc := 159) (v := (0 : Int32)) dL_reads_159 rfl ?_
    refine r_istore (pc := 160) (ls1 := [(11, .int (0 : Int32)), (10, .int s30), (0, .ref (ad g 1)), (1, .ref (ad g a1)), (2, .ref (ad g a2)), (3, .int a3), (4, .int a4), (5, .int v5), (6, .int v10), (8, .int v20), (9, .int v25)]) dL_reads_160 (nle rfl) rfl ?_
    refine r_pick (ls1 := [(0, .ref (ad g 1)), (1, .ref (ad g a1)), (2, .ref (ad g a2)), (3, .int a3), (4, .int a4), (5, .int v5), (6, .int v10), (8, .int v20), (9, .int v25), (10, .int s30), (11, .int (0 : Int32))]) [2, 3, 4, 5, 6, 7, 8, 9, 10, 1, 0] rfl ?_
    refine sL_reads_L162 ⟨nle rfl, nle rfl⟩   (fun v39 σ40 hr hσ40 => ?_) fuel s30 (0 : Int32) σ31 hr hσ31
    refine r_bipush (pc := 223) (v := (12 : Int32)) dL_reads_223 rfl ?_
    refine y_new (pc := 225) (N := 12) tw_1_50 (by decide) rfl (nle rfl) ⟨nle rfl, nle rfl⟩ dL_reads_225 fun c42 ec42 σ41 eσ41 => ?_
    replace hr := vthen_inv hr c42 ec42
    replace hr := vthen_inv hr σ41 eσ41
    have hσ41 := wtM eσ41 hσ40
    change RR _ _ _ (NF, 1, 12) _ _ _ _
    refine r_astore (pc := 227) (ls1 := [(11, .ref (ad g c42)), (0, .ref (ad g 1)), (1, .ref (ad g a1)), (2, .ref (ad g a2)), (5, .int v5), (6, .int v10), (8, .int v20), (9, .int v25), (10, .int v39)]) dL_reads_227 (nle rfl) rfl ?_
    refine r_iconst (pc := 229) (v := (0 : Int32)) dL_reads_229 rfl ?_
    refine r_istore (pc := 230) (ls1 := [(12, .int (0 : Int32)), (11, .ref (ad g c42)), (0, .ref (ad g 1)), (1, .ref (ad g a1)), (2, .ref (ad g a2)), (5, .int v5), (6, .int v10), (8, .int v20), (9, .int v25), (10, .int v39)]) dL_reads_230 (nle rfl) rfl ?_
    refine r_iconst (pc := 232) (v := (0 : Int32)) dL_reads_232 rfl ?_
    refine r_istore (pc := 233) (ls1 := [(13, .int (0 : Int32)), (12, .int (0 : Int32)), (11, .ref (ad g c42)), (0, .ref (ad g 1)), (1, .ref (ad g a1)), (2, .ref (ad g a2)), (5, .int v5), (6, .int v10), (8, .int v20), (9, .int v25), (10, .int v39)]) dL_reads_233 (nle rfl) rfl ?_
    refine r_iconst (pc := 235) (v := (0 : Int32)) dL_reads_235 rfl ?_
    refine r_istore (pc := 236) (ls1 := [(14, .int (0 : Int32)), (13, .int (0 : Int32)), (12, .int (0 : Int32)), (11, .ref (ad g c42)), (0, .ref (ad g 1)), (1, .ref (ad g a1)), (2, .ref (ad g a2)), (5, .int v5), (6, .int v10), (8, .int v20), (9, .int v25), (10, .int v39)]) dL_reads_236 (nle rfl) rfl ?_
    refine r_pick (ls1 := [(0, .ref (ad g 1)), (1, .ref (ad g a1)), (2, .ref (ad g a2)), (5, .int v5), (6, .int v10), (8, .int v20), (9, .int v25), (10, .int v39), (11, .ref (ad g c42)), (12, .int (0 : Int32)), (13, .int (0 : Int32)), (14, .int (0 : Int32))]) [4, 5, 6, 7, 8, 9, 10, 11, 3, 2, 1, 0] rfl ?_
    refine sL_reads_L238 ⟨nle rfl, nle rfl⟩   (fun v73 v74 v75 σ76 hr hσ76 => ?_) fuel v39 (0 : Int32) (0 : Int32) (0 : Int32) σ41 hr hσ41
    refine r_aload_n (pc := 362) (j := 1) dL_reads_362 rfl rfl ?_
    refine r_iconst (pc := 363) (v := (1 : Int32)) dL_reads_363 rfl ?_
    obtain ⟨h77, hr⟩ := grd_inv hr
    refine y_iald (pc := 364) (k := 1) h77 rfl dL_reads_364 ?_
    refine r_aload_n (pc := 365) (j := 1) dL_reads_365 rfl rfl ?_
    refine r_iconst (pc := 366) (v := (2 : Int32)) dL_reads_366 rfl ?_
    obtain ⟨h78, hr⟩ := grd_inv hr
    refine y_iald (pc := 367) (k := 2) h78 rfl dL_reads_367 ?_
    refine r_imul (pc := 368) dL_reads_368 ?_
    refine r_iload (pc := 369) (j := 2) dL_reads_369 rfl ?_
    refine r_imul (pc := 371) dL_reads_371 ?_
    refine r_topi fun v79 ev79 => ?_
    replace hr := vthen_inv hr v79 ev79
    refine r_istore (pc := 372) (ls1 := [(14, .int v79), (0, .ref (ad g 1)), (1, .ref (ad g a1)), (5, .int v5), (6, .int v10), (8, .int v20), (9, .int v25), (10, .int v73), (11, .ref (ad g c42)), (12, .int v74), (13, .int v75)]) dL_reads_372 (nle rfl) rfl ?_
    refine r_iload (pc := 374) (j := 7) dL_reads_374 rfl ?_
    obtain ⟨j432, ej432, hr⟩ := vth_ex hr
    have hj432 : ∀ (s80 : Int32) (σ81 : SS), j432 s80 σ81 = some r → WT σ81 → RR g mL_reads (FinR g mL_reads (some (.int (b2i r.1))) NF r.2) (NF, 1, 12) 432 [(0, .ref (ad g 1)), (1, .ref (ad g a1)), (6, .int v10), (8, .int v20), (9, .int v25), (11, .ref (ad g c42)), (12, .int v74), (13, .int v75), (14, .int v79)] [.int s80] σ81 := by
      intro s80 σ81 hr hσ81
      replace hr := (congrFun (congrFun ej432 s80) σ81).symm.trans hr
      refine r_istore (pc := 432) (ls1 := [(10, .int s80), (0, .ref (ad g 1)), (1, .ref (ad g a1)), (6, .int v10), (8, .int v20), (9, .int v25), (11, .ref (ad g c42)), (12, .int v74), (13, .int v75), (14, .int v79)]) dL_reads_432 (nle rfl) rfl ?_
      refine r_iconst (pc := 434) (v := (0 : Int32)) dL_reads_434 rfl ?_
      refine r_istore (pc := 435) (ls1 := [(15, .int (0 : Int32)), (10, .int s80), (0, .ref (ad g 1)), (1, .ref (ad g a1)), (6, .int v10), (8, .int v20), (9, .int v25), (11, .ref (ad g c42)), (12, .int v74), (13, .int v75), (14, .int v79)]) dL_reads_435 (nle rfl) rfl ?_
      refine r_iconst (pc := 437) (v := (0 : Int32)) dL_reads_437 rfl ?_
      refine r_istore (pc := 438) (ls1 := [(16, .int (0 : Int32)), (15, .int (0 : Int32)), (10, .int s80), (0, .ref (ad g 1)), (1, .ref (ad g a1)), (6, .int v10), (8, .int v20), (9, .int v25), (11, .ref (ad g c42)), (12, .int v74), (13, .int v75), (14, .int v79)]) dL_reads_438 (nle rfl) rfl ?_
      refine r_iconst (pc := 440) (v := (0 : Int32)) dL_reads_440 rfl ?_
      refine r_istore (pc := 441) (ls1 := [(17, .int (0 : Int32)), (16, .int (0 : Int32)), (15, .int (0 : Int32)), (10, .int s80), (0, .ref (ad g 1)), (1, .ref (ad g a1)), (6, .int v10), (8, .int v20), (9, .int v25), (11, .ref (ad g c42)), (12, .int v74), (13, .int v75), (14, .int v79)]) dL_reads_441 (nle rfl) rfl ?_
      refine r_iconst (pc := 443) (v := (0 : Int32)) dL_reads_443 rfl ?_
      refine r_istore (pc := 444) (ls1 := [(18, .int (0 : Int32)), (17, .int (0 : Int32)), (16, .int (0 : Int32)), (15, .int (0 : Int32)), (10, .int s80), (0, .ref (ad g 1)), (1, .ref (ad g a1)), (6, .int v10), (8, .int v20), (9, .int v25), (11, .ref (ad g c42)), (12, .int v74), (13, .int v75), (14, .int v79)]) dL_reads_444 (nle rfl) rfl ?_
      refine r_iconst (pc := 446) (v := (0 : Int32)) dL_reads_446 rfl ?_
      refine r_istore (pc := 447) (ls1 := [(19, .int (0 : Int32)), (18, .int (0 : Int32)), (17, .int (0 : Int32)), (16, .int (0 : Int32)), (15, .int (0 : Int32)), (10, .int s80), (0, .ref (ad g 1)), (1, .ref (ad g a1)), (6, .int v10), (8, .int v20), (9, .int v25), (11, .ref (ad g c42)), (12, .int v74), (13, .int v75), (14, .int v79)]) dL_reads_447 (nle rfl) rfl ?_
      refine r_pick (ls1 := [(0, .ref (ad g 1)), (1, .ref (ad g a1)), (6, .int v10), (8, .int v20), (9, .int v25), (10, .int s80), (11, .ref (ad g c42)), (12, .int v74), (13, .int v75), (14, .int v79), (15, .int (0 : Int32)), (16, .int (0 : Int32)), (17, .int (0 : Int32)), (18, .int (0 : Int32)), (19, .int (0 : Int32))]) [6, 7, 8, 9, 10, 5, 11, 12, 13, 14, 4, 3, 2, 1, 0] rfl ?_
      refine sL_reads_L449 ⟨nle rfl, nle rfl⟩   (fun v144 v145 v146 v147 v148 σ149 hr hσ149 => ?_) fuel s80 (0 : Int32) (0 : Int32) (0 : Int32) (0 : Int32) (0 : Int32) σ81 hr hσ81
      refine r_iload (pc := 900) (j := 1) dL_reads_900 rfl ?_
      obtain ⟨j958, ej958, hr⟩ := vth_ex hr
      have hj958 : ∀ (s150 : Int32) (σ151 : SS), j958 s150 σ151 = some r → WT σ151 → RR g mL_reads (FinR g mL_reads (some (.int (b2i r.1))) NF r.2) (NF, 1, 12) 958 [(0, .ref (ad g 1)), (12, .int v74), (13, .int v75), (14, .int v79)] [.int s150] σ151 := by
        intro s150 σ151 hr hσ151
        replace hr := (congrFun (congrFun ej958 s150) σ151).symm.trans hr
        refine r_istore (pc := 958) (ls1 := [(10, .int s150), (0, .ref (ad g 1)), (12, .int v74), (13, .int v75), (14, .int v79)]) dL_reads_958 (nle rfl) rfl ?_
        refine r_iload (pc := 960) (j := 0) dL_reads_960 rfl ?_
        obtain ⟨j1005, ej1005, hr⟩ := vth_ex hr
        have hj1005 : ∀ (σ152 : SS), j1005 σ152 = some r → WT σ152 → RR g mL_reads (FinR g mL_reads (some (.int (b2i r.1))) NF r.2) (NF, 1, 12) 1005 [] [] σ152 := by
          intro σ152 hr hσ152
          replace hr := (congrFun ej1005 σ152).symm.trans hr
          refine r_iconst (pc := 1005) (v := (0 : Int32)) dL_reads_1005 rfl ?_
          exact l_osz hr (r_zret (pc := 1006) (v := b2i false) (ty := .boolean) rfl (b2i_nar _) rfl ⟨nle rfl, nle rfl⟩ dL_reads_1006)
        refine r_if_eq (pc := 962) (tgt := 1005) dL_reads_962 rfl (fun hc => ?_) (fun hc => ?_)
        · replace hr := ite_t hc hr
          exact r_pick (ls1 := []) [] rfl (hj1005 σ151 hr hσ151)
        replace hr := ite_f hc hr
        refine r_aload_n (pc := 965) (j := 1) dL_reads_965 rfl rfl ?_
        refine r_iconst (pc := 966) (v := (0 : Int32)) dL_reads_966 rfl ?_
        obtain ⟨v153, σ156, eσ156, hr⟩ := bnd_inv hr
        refine qX7_apart (pc := 967) eσ156 tw_4_113 ⟨nle rfl, nle rfl⟩ ⟨nle rfl, nle rfl⟩ (nle rfl) dL_reads_967 fun hσ156 => ?_
        refine r_iload (pc := 970) (j := 3) dL_reads_970 rfl ?_
        obtain ⟨j981, ej981, hr⟩ := vth_ex hr
        have hj981 : ∀ (s157 : Int32), j981 s157 = some r → RR g mL_reads (FinR g mL_reads (some (.int (b2i r.1))) NF r.2) (NF, 1, 12) 981 [(0, .ref (ad g 1)), (12, .int v74), (13, .int v75)] [.int s157, .int v153] σ156 := by
          intro s157 hr
          replace hr := (congrFun ej981 s157).symm.trans hr
          refine r_icmp_ne (pc := 981) (tgt := 1005) dL_reads_981 rfl (fun hc => ?_) (fun hc => ?_)
          · replace hr := ite_f hc hr
            exact r_pick (ls1 := []) [] rfl (hj1005 σ156 hr hσ156)
          replace hr := ite_t hc hr
          refine r_aload_n (pc := 984) (j := 0) dL_reads_984 rfl rfl ?_
          refine r_iconst (pc := 985) (v := (1 : Int32)) dL_reads_985 rfl ?_
          obtain ⟨v158, σ161, eσ161, hr⟩ := bnd_inv hr
          refine qX7_apart (pc := 986) eσ161 tw_4_113 ⟨nle rfl, nle rfl⟩ ⟨nle rfl, nle rfl⟩ (nle rfl) dL_reads_986 fun hσ161 => ?_
          refine r_iload (pc := 989) (j := 2) dL_reads_989 rfl ?_
          refine r_icmp_ne (pc := 991) (tgt := 1005) dL_reads_991 rfl (fun hc => ?_) (fun hc => ?_)
          · replace hr := ite_f hc hr
            exact r_pick (ls1 := []) [] rfl (hj1005 σ161 hr hσ161)
          replace hr := ite_t hc hr
          refine r_iload (pc := 994) (j := 1) dL_reads_994 rfl ?_
          refine r_iload (pc := 996) (j := 2) dL_reads_996 rfl ?_
          refine r_icmp_le (pc := 998) (tgt := 1005) dL_reads_998 rfl (fun hc => ?_) (fun hc => ?_)
          · replace hr := ite_t hc hr
            exact r_pick (ls1 := []) [] rfl (hj1005 σ161 hr hσ161)
          replace hr := ite_f hc hr
          refine r_iconst (pc := 1001) (v := (1 : Int32)) dL_reads_1001 rfl ?_
          refine r_goto (pc := 1002) (tgt := 1006) dL_reads_1002 rfl ?_
          exact l_osz hr (r_zret (pc := 1006) (v := b2i true) (ty := .boolean) rfl (b2i_nar _) rfl ⟨nle rfl, nle rfl⟩ dL_reads_1006)
        refine r_if_le (pc := 972) (tgt := 980) dL_reads_972 rfl (fun hc => ?_) (fun hc => ?_)
        · replace hr := ite_t hc hr
          refine r_iconst (pc := 980) (v := (0 : Int32)) dL_reads_980 rfl ?_
          exact r_pick (ls1 := [(0, .ref (ad g 1)), (12, .int v74), (13, .int v75)]) [1, 2, 3] rfl (hj981 (0 : Int32) hr)
        replace hr := ite_f hc hr
        refine r_iload (pc := 975) (j := 4) dL_reads_975 rfl ?_
        refine r_goto (pc := 977) (tgt := 981) dL_reads_977 rfl ?_
        exact r_pick (ls1 := [(0, .ref (ad g 1)), (12, .int v74), (13, .int v75)]) [1, 2, 3] rfl (hj981 v79 hr)
      obtain ⟨j957, ej957, hr⟩ := vth_ex hr
      have hj957 : ∀ (σ162 : SS), j957 σ162 = some r → WT σ162 → RR g mL_reads (FinR g mL_reads (some (.int (b2i r.1))) NF r.2) (NF, 1, 12) 957 [(0, .ref (ad g 1)), (12, .int v74), (13, .int v75), (14, .int v79)] [] σ162 := by
        intro σ162 hr hσ162
        replace hr := (congrFun ej957 σ162).symm.trans hr
        refine r_iconst (pc := 957) (v := (0 : Int32)) dL_reads_957 rfl ?_
        exact r_pick (ls1 := [(0, .ref (ad g 1)), (12, .int v74), (13, .int v75), (14, .int v79)]) [0, 1, 2, 3] rfl (hj958 (0 : Int32) σ162 hr hσ162)
      refine r_if_eq (pc := 902) (tgt := 957) dL_reads_902 rfl (fun hc => ?_) (fun hc => ?_)
      · replace hr := ite_t hc hr
        exact r_pick (ls1 := [(0, .ref (ad g 1)), (12, .int v74), (13, .int v75), (14, .int v79)]) [0, 2, 3, 4] rfl (hj957 σ149 hr hσ149)
      replace hr := ite_f hc hr
      refine r_aload_n (pc := 905) (j := 0) dL_reads_905 rfl rfl ?_
      refine r_iconst (pc := 906) (v := (0 : Int32)) dL_reads_906 rfl ?_
      refine r_iconst (pc := 907) (v := (-1 : Int32)) dL_reads_907 rfl ?_
      obtain ⟨v163, σ166, eσ166, hr⟩ := bnd_inv hr
      refine qX7_dark (pc := 908) eσ166 tw_4_91 ⟨nle rfl, nle rfl⟩ ⟨nle rfl, nle rfl⟩ (nle rfl) dL_reads_908 fun hσ166 => ?_
      refine r_if_ne (pc := 911) (tgt := 957) dL_reads_911 rfl (fun hc => ?_) (fun hc => ?_)
      · replace hr := ite_f hc hr
        exact r_pick (ls1 := [(0, .ref (ad g 1)), (12, .int v74), (13, .int v75), (14, .int v79)]) [0, 2, 3, 4] rfl (hj957 σ166 hr hσ166)
      replace hr := ite_t hc hr
      refine r_aload_n (pc := 914) (j := 0) dL_reads_914 rfl rfl ?_
      refine r_iconst (pc := 915) (v := (0 : Int32)) dL_reads_915 rfl ?_
      obtain ⟨v167, σ170, eσ170, hr⟩ := bnd_inv hr
      refine qX7_sheet (pc := 916) eσ170 tw_3_5 ⟨nle rfl, nle rfl⟩ ⟨nle rfl, nle rfl⟩ (nle rfl) dL_reads_916 fun hσ170 => ?_
      refine r_iload (pc := 919) (j := 5) dL_reads_919 rfl ?_
      refine r_icmp_ne (pc := 921) (tgt := 957) dL_reads_921 rfl (fun hc => ?_) (fun hc => ?_)
      · replace hr := ite_f hc hr
        exact r_pick (ls1 := [(0, .ref (ad g 1)), (12, .int v74), (13, .int v75), (14, .int v79)]) [0, 2, 3, 4] rfl (hj957 σ170 hr hσ170)
      replace hr := ite_t hc hr
      refine r_aload_n (pc := 924) (j := 0) dL_reads_924 rfl rfl ?_
      refine r_iconst (pc := 925) (v := (1 : Int32)) dL_reads_925 rfl ?_
      obtain ⟨v171, σ174, eσ174, hr⟩ := bnd_inv hr
      refine qX7_sheet (pc := 926) eσ174 tw_3_5 ⟨nle rfl, nle rfl⟩ ⟨nle rfl, nle rfl⟩ (nle rfl) dL_reads_926 fun hσ174 => ?_
      refine r_iload (pc := 929) (j := 6) dL_reads_929 rfl ?_
      refine r_icmp_ne (pc := 931) (tgt := 957) dL_reads_931 rfl (fun hc => ?_) (fun hc => ?_)
      · replace hr := ite_f hc hr
        exact r_pick (ls1 := [(0, .ref (ad g 1)), (12, .int v74), (13, .int v75), (14, .int v79)]) [0, 2, 3, 4] rfl (hj957 σ174 hr hσ174)
      replace hr := ite_t hc hr
      refine r_aload_n (pc := 934) (j := 0) dL_reads_934 rfl rfl ?_
      refine r_iconst (pc := 935) (v := (2 : Int32)) dL_reads_935 rfl ?_
      obtain ⟨v175, σ178, eσ178, hr⟩ := bnd_inv hr
      refine qX7_sheet (pc := 936) eσ178 tw_3_5 ⟨nle rfl, nle rfl⟩ ⟨nle rfl, nle rfl⟩ (nle rfl) dL_reads_936 fun hσ178 => ?_
      refine r_iload (pc := 939) (j := 7) dL_reads_939 rfl ?_
      refine r_icmp_ne (pc := 941) (tgt := 957) dL_reads_941 rfl (fun hc => ?_) (fun hc => ?_)
      · replace hr := ite_f hc hr
        exact r_pick (ls1 := [(0, .ref (ad g 1)), (12, .int v74), (13, .int v75), (14, .int v79)]) [0, 2, 3, 4] rfl (hj957 σ178 hr hσ178)
      replace hr := ite_t hc hr
      refine r_aload_n (pc := 944) (j := 0) dL_reads_944 rfl rfl ?_
      obtain ⟨v179, σ182, eσ182, hr⟩ := bnd_inv hr
      refine qX7_unlike (pc := 945) eσ182 tw_4_109 ⟨nle rfl, nle rfl⟩ ⟨nle rfl, nle rfl⟩ (nle rfl) dL_reads_945 fun hσ182 => ?_
      refine r_iload (pc := 948) (j := 8) dL_reads_948 rfl ?_
      refine r_icmp_ne (pc := 950) (tgt := 957) dL_reads_950 rfl (fun hc => ?_) (fun hc => ?_)
      · replace hr := ite_f hc hr
        exact r_pick (ls1 := [(0, .ref (ad g 1)), (12, .int v74), (13, .int v75), (14, .int v79)]) [0, 2, 3, 4] rfl (hj957 σ182 hr hσ182)
      replace hr := ite_t hc hr
      refine r_iconst (pc := 953) (v := (1 : Int32)) dL_reads_953 rfl ?_
      refine r_goto (pc := 954) (tgt := 958) dL_reads_954 rfl ?_
      exact r_pick (ls1 := [(0, .ref (ad g 1)), (12, .int v74), (13, .int v75), (14, .int v79)]) [0, 2, 3, 4] rfl (hj958 (1 : Int32) σ182 hr hσ182)
    obtain ⟨j431, ej431, hr⟩ := vth_ex hr
    have hj431 : ∀ (σ183 : SS), j431 σ183 = some r → WT σ183 → RR g mL_reads (FinR g mL_reads (some (.int (b2i r.1))) NF r.2) (NF, 1, 12) 431 [(0, .ref (ad g 1)), (1, .ref (ad g a1)), (6, .int v10), (8, .int v20), (9, .int v25), (11, .ref (ad g c42)), (12, .int v74), (13, .int v75), (14, .int v79)] [] σ183 := by
      intro σ183 hr hσ183
      replace hr := (congrFun ej431 σ183).symm.trans hr
      refine r_iconst (pc := 431) (v := (0 : Int32)) dL_reads_431 rfl ?_
      exact r_pick (ls1 := [(0, .ref (ad g 1)), (1, .ref (ad g a1)), (6, .int v10), (8, .int v20), (9, .int v25), (11, .ref (ad g c42)), (12, .int v74), (13, .int v75), (14, .int v79)]) [0, 1, 2, 3, 4, 5, 6, 7, 8] rfl (hj432 (0 : Int32) σ183 hr hσ183)
    refine r_if_eq (pc := 376) (tgt := 431) dL_reads_376 rfl (fun hc => ?_) (fun hc => ?_)
    · replace hr := ite_t hc hr
      exact r_pick (ls1 := [(0, .ref (ad g 1)), (1, .ref (ad g a1)), (6, .int v10), (8, .int v20), (9, .int v25), (11, .ref (ad g c42)), (12, .int v74), (13, .int v75), (14, .int v79)]) [1, 2, 4, 5, 6, 8, 9, 10, 0] rfl (hj431 σ76 hr hσ76)
    replace hr := ite_f hc hr
    refine r_aload_n (pc := 379) (j := 1) dL_reads_379 rfl rfl ?_
    refine r_iload (pc := 380) (j := 3) dL_reads_380 rfl ?_
    obtain ⟨v184, σ187, eσ187, hr⟩ := bnd_inv hr
    refine qX7_print (pc := 382) eσ187 tw_3_81 ⟨nle rfl, nle rfl⟩ ⟨nle rfl, nle rfl⟩ (nle rfl) dL_reads_382 fun hσ187 => ?_
    refine r_bipush (pc := 385) (v := (36 : Int32)) dL_reads_385 rfl ?_
    refine r_iload (pc := 387) (j := 10) dL_reads_387 rfl ?_
    refine r_aload_n (pc := 389) (j := 2) dL_reads_389 rfl rfl ?_
    refine r_iconst (pc := 390) (v := (1 : Int32)) dL_reads_390 rfl ?_
    obtain ⟨h188, hr⟩ := grd_inv hr
    refine y_iald (pc := 391) (k := 1) h188 rfl dL_reads_391 ?_
    refine r_imul (pc := 392) dL_reads_392 ?_
    refine r_aload_n (pc := 393) (j := 2) dL_reads_393 rfl rfl ?_
    refine r_iconst (pc := 394) (v := (2 : Int32)) dL_reads_394 rfl ?_
    obtain ⟨h189, hr⟩ := grd_inv hr
    refine y_iald (pc := 395) (k := 2) h189 rfl dL_reads_395 ?_
    refine r_imul (pc := 396) dL_reads_396 ?_
    refine r_iadd (pc := 397) dL_reads_397 ?_
    refine r_icmp_ne (pc := 398) (tgt := 431) dL_reads_398 rfl (fun hc => ?_) (fun hc => ?_)
    · replace hr := ite_f hc hr
      exact r_pick (ls1 := [(0, .ref (ad g 1)), (1, .ref (ad g a1)), (6, .int v10), (8, .int v20), (9, .int v25), (11, .ref (ad g c42)), (12, .int v74), (13, .int v75), (14, .int v79)]) [1, 2, 4, 5, 6, 8, 9, 10, 0] rfl (hj431 σ187 hr hσ187)
    replace hr := ite_t hc hr
    refine r_aload_n (pc := 401) (j := 1) dL_reads_401 rfl rfl ?_
    refine r_bipush (pc := 402) (v := (10 : Int32)) dL_reads_402 rfl ?_
    obtain ⟨v190, hv190, hr⟩ := bnd1_inv hr
    refine qX7_count (pc := 404) hv190 tw_2_146 ⟨nle rfl, nle rfl⟩ ⟨nle rfl, nle rfl⟩ (nle rfl) dL_reads_404 ?_
    refine r_sipush (pc := 407) (v := (324 : Int32)) dL_reads_407 rfl ?_
    refine r_iload (pc := 410) (j := 10) dL_reads_410 rfl ?_
    refine r_iload (pc := 412) (j := 0) dL_reads_412 rfl ?_
    refine r_imul (pc := 414) dL_reads_414 ?_
    refine r_iadd (pc := 415) dL_reads_415 ?_
    refine r_icmp_ne (pc := 416) (tgt := 431) dL_reads_416 rfl (fun hc => ?_) (fun hc => ?_)
    · replace hr := ite_f hc hr
      exact r_pick (ls1 := [(0, .ref (ad g 1)), (1, .ref (ad g a1)), (6, .int v10), (8, .int v20), (9, .int v25), (11, .ref (ad g c42)), (12, .int v74), (13, .int v75), (14, .int v79)]) [1, 2, 4, 5, 6, 8, 9, 10, 0] rfl (hj431 σ187 hr hσ187)
    replace hr := ite_t hc hr
    refine r_aload_n (pc := 419) (j := 1) dL_reads_419 rfl rfl ?_
    obtain ⟨v193, σ196, eσ196, hr⟩ := bnd_inv hr
    refine qX7_marked (pc := 420) eσ196 tw_2_200 ⟨nle rfl, nle rfl⟩ ⟨nle rfl, nle rfl⟩ (nle rfl) dL_reads_420 fun hσ196 => ?_
    refine r_iconst (pc := 423) (v := (1 : Int32)) dL_reads_423 rfl ?_
    refine r_icmp_ne (pc := 424) (tgt := 431) dL_reads_424 rfl (fun hc => ?_) (fun hc => ?_)
    · replace hr := ite_f hc hr
      exact r_pick (ls1 := [(0, .ref (ad g 1)), (1, .ref (ad g a1)), (6, .int v10), (8, .int v20), (9, .int v25), (11, .ref (ad g c42)), (12, .int v74), (13, .int v75), (14, .int v79)]) [1, 2, 4, 5, 6, 8, 9, 10, 0] rfl (hj431 σ196 hr hσ196)
    replace hr := ite_t hc hr
    refine r_iconst (pc := 427) (v := (1 : Int32)) dL_reads_427 rfl ?_
    refine r_goto (pc := 428) (tgt := 432) dL_reads_428 rfl ?_
    exact r_pick (ls1 := [(0, .ref (ad g 1)), (1, .ref (ad g a1)), (6, .int v10), (8, .int v20), (9, .int v25), (11, .ref (ad g c42)), (12, .int v74), (13, .int v75), (14, .int v79)]) [1, 2, 4, 5, 6, 8, 9, 10, 0] rfl (hj432 (1 : Int32) σ196 hr hσ196)
  obtain ⟨j156, ej156, hr⟩ := vth_ex hr
  have hj156 : ∀ (σ197 : SS), j156 σ197 = some r → WT σ197 → RR g mL_reads (FinR g mL_reads (some (.int (b2i r.1))) NF r.2) (NF, 0, 0) 156 [(0, .ref (ad g 1)), (1, .ref (ad g a1)), (2, .ref (ad g a2)), (3, .int a3), (4, .int a4), (5, .int v5), (6, .int v10), (8, .int v20), (9, .int v25)] [] σ197 := by
    intro σ197 hr hσ197
    replace hr := (congrFun ej156 σ197).symm.trans hr
    refine r_iconst (pc := 156) (v := (0 : Int32)) dL_reads_156 rfl ?_
    exact r_pick (ls1 := [(0, .ref (ad g 1)), (1, .ref (ad g a1)), (2, .ref (ad g a2)), (3, .int a3), (4, .int a4), (5, .int v5), (6, .int v10), (8, .int v20), (9, .int v25)]) [0, 1, 2, 3, 4, 5, 6, 7, 8] rfl (hj157 (0 : Int32) σ197 hr hσ197)
  refine r_ifB_eq (pc := 65) (tgt := 156) dL_reads_65 rfl (fun hc => ?_) (fun hc => ?_)
  · replace hr := ite_f hc hr
    exact r_pick (ls1 := [(0, .ref (ad g 1)), (1, .ref (ad g a1)), (2, .ref (ad g a2)), (3, .int a3), (4, .int a4), (5, .int v5), (6, .int v10), (8, .int v20), (9, .int v25)]) [5, 6, 7, 8, 9, 4, 3, 1, 0] rfl (hj156 σ29 hr hσ29)
  replace hr := ite_t hc hr
  refine r_aload_n (pc := 68) (j := 5) dL_reads_68 rfl rfl ?_
  refine r_iconst (pc := 69) (v := (0 : Int32)) dL_reads_69 rfl ?_
  refine r_iconst (pc := 70) (v := (1 : Int32)) dL_reads_70 rfl ?_
  refine r_aload_n (pc := 71) (j := 7) dL_reads_71 rfl rfl ?_
  obtain ⟨v198, σ201, eσ201, hr⟩ := bnd_inv hr
  refine qL_next (pc := 72) eσ201 tw_3_125 ⟨nle rfl, nle rfl⟩ ⟨nle rfl, nle rfl⟩ (nle rfl) dL_reads_72 fun hσ201 => ?_
  refine r_bipush (pc := 75) (v := (9 : Int32)) dL_reads_75 rfl ?_
  refine r_irem (pc := 77) dL_reads_77 (by decide) ?_
  refine r_iadd (pc := 78) dL_reads_78 ?_
  obtain ⟨v202, σ205, eσ205, hr⟩ := bnd_inv hr
  refine qX7_set (pc := 79) eσ205 tw_4_66 ⟨nle rfl, nle rfl⟩ ⟨nle rfl, nle rfl⟩ (nle rfl) dL_reads_79 fun hσ205 => ?_
  refine r_if_le (pc := 82) (tgt := 156) dL_reads_82 rfl (fun hc => ?_) (fun hc => ?_)
  · replace hr := ite_t hc hr
    exact r_pick (ls1 := [(0, .ref (ad g 1)), (1, .ref (ad g a1)), (2, .ref (ad g a2)), (3, .int a3), (4, .int a4), (5, .int v5), (6, .int v10), (8, .int v20), (9, .int v25)]) [5, 6, 7, 8, 9, 4, 3, 1, 0] rfl (hj156 σ205 hr hσ205)
  replace hr := ite_f hc hr
  refine r_aload_n (pc := 85) (j := 5) dL_reads_85 rfl rfl ?_
  refine r_iconst (pc := 86) (v := (2 : Int32)) dL_reads_86 rfl ?_
  refine r_bipush (pc := 87) (v := (9 : Int32)) dL_reads_87 rfl ?_
  obtain ⟨v206, σ209, eσ209, hr⟩ := bnd_inv hr
  refine qX7_set (pc := 89) eσ209 tw_4_66 ⟨nle rfl, nle rfl⟩ ⟨nle rfl, nle rfl⟩ (nle rfl) dL_reads_89 fun hσ209 => ?_
  refine r_if_le (pc := 92) (tgt := 156) dL_reads_92 rfl (fun hc => ?_) (fun hc => ?_)
  · replace hr := ite_t hc hr
    exact r_pick (ls1 := [(0, .ref (ad g 1)), (1, .ref (ad g a1)), (2, .ref (ad g a2)), (3, .int a3), (4, .int a4), (5, .int v5), (6, .int v10), (8, .int v20), (9, .int v25)]) [5, 6, 7, 8, 9, 4, 3, 1, 0] rfl (hj156 σ209 hr hσ209)
  replace hr := ite_f hc hr
  refine r_aload_n (pc := 95) (j := 5) dL_reads_95 rfl rfl ?_
  refine r_iconst (pc := 96) (v := (3 : Int32)) dL_reads_96 rfl ?_
  refine r_iload (pc := 97) (j := 3) dL_reads_97 rfl ?_
  obtain ⟨v210, σ213, eσ213, hr⟩ := bnd_inv hr
  refine qX7_set (pc := 99) eσ213 tw_4_66 ⟨nle rfl, nle rfl⟩ ⟨nle rfl, nle rfl⟩ (nle rfl) dL_reads_99 fun hσ213 => ?_
  refine r_if_le (pc := 102) (tgt := 156) dL_reads_102 rfl (fun hc => ?_) (fun hc => ?_)
  · replace hr := ite_t hc hr
    exact r_pick (ls1 := [(0, .ref (ad g 1)), (1, .ref (ad g a1)), (2, .ref (ad g a2)), (3, .int a3), (4, .int a4), (5, .int v5), (6, .int v10), (8, .int v20), (9, .int v25)]) [5, 6, 7, 8, 9, 4, 3, 1, 0] rfl (hj156 σ213 hr hσ213)
  replace hr := ite_f hc hr
  refine r_aload_n (pc := 105) (j := 5) dL_reads_105 rfl rfl ?_
  refine r_iconst (pc := 106) (v := (4 : Int32)) dL_reads_106 rfl ?_
  refine r_iload (pc := 107) (j := 2) dL_reads_107 rfl ?_
  obtain ⟨v214, σ217, eσ217, hr⟩ := bnd_inv hr
  refine qX7_set (pc := 109) eσ217 tw_4_66 ⟨nle rfl, nle rfl⟩ ⟨nle rfl, nle rfl⟩ (nle rfl) dL_reads_109 fun hσ217 => ?_
  refine r_if_lt (pc := 112) (tgt := 156) dL_reads_112 rfl (fun hc => ?_) (fun hc => ?_)
  · replace hr := ite_t hc hr
    exact r_pick (ls1 := [(0, .ref (ad g 1)), (1, .ref (ad g a1)), (2, .ref (ad g a2)), (3, .int a3), (4, .int a4), (5, .int v5), (6, .int v10), (8, .int v20), (9, .int v25)]) [5, 6, 7, 8, 9, 4, 3, 1, 0] rfl (hj156 σ217 hr hσ217)
  replace hr := ite_f hc hr
  refine r_aload_n (pc := 115) (j := 5) dL_reads_115 rfl rfl ?_
  refine r_iconst (pc := 116) (v := (5 : Int32)) dL_reads_116 rfl ?_
  refine r_iload (pc := 117) (j := 1) dL_reads_117 rfl ?_
  obtain ⟨v218, σ221, eσ221, hr⟩ := bnd_inv hr
  refine qX7_set (pc := 119) eσ221 tw_4_66 ⟨nle rfl, nle rfl⟩ ⟨nle rfl, nle rfl⟩ (nle rfl) dL_reads_119 fun hσ221 => ?_
  refine r_if_lt (pc := 122) (tgt := 156) dL_reads_122 rfl (fun hc => ?_) (fun hc => ?_)
  · replace hr := ite_t hc hr
    exact r_pick (ls1 := [(0, .ref (ad g 1)), (1, .ref (ad g a1)), (2, .ref (ad g a2)), (3, .int a3), (4, .int a4), (5, .int v5), (6, .int v10), (8, .int v20), (9, .int v25)]) [5, 6, 7, 8, 9, 4, 3, 1, 0] rfl (hj156 σ221 hr hσ221)
  replace hr := ite_f hc hr
  refine r_aload_n (pc := 125) (j := 5) dL_reads_125 rfl rfl ?_
  refine r_bipush (pc := 126) (v := (6 : Int32)) dL_reads_126 rfl ?_
  refine r_iload (pc := 128) (j := 0) dL_reads_128 rfl ?_
  obtain ⟨v222, σ225, eσ225, hr⟩ := bnd_inv hr
  refine qX7_set (pc := 130) eσ225 tw_4_66 ⟨nle rfl, nle rfl⟩ ⟨nle rfl, nle rfl⟩ (nle rfl) dL_reads_130 fun hσ225 => ?_
  refine r_if_lt (pc := 133) (tgt := 156) dL_reads_133 rfl (fun hc => ?_) (fun hc => ?_)
  · replace hr := ite_t hc hr
    exact r_pick (ls1 := [(0, .ref (ad g 1)), (1, .ref (ad g a1)), (2, .ref (ad g a2)), (3, .int a3), (4, .int a4), (5, .int v5), (6, .int v10), (8, .int v20), (9, .int v25)]) [5, 6, 7, 8, 9, 4, 3, 1, 0] rfl (hj156 σ225 hr hσ225)
  replace hr := ite_f hc hr
  refine r_aload_n (pc := 136) (j := 5) dL_reads_136 rfl rfl ?_
  refine r_iconst (pc := 137) (v := (1 : Int32)) dL_reads_137 rfl ?_
  refine r_iconst (pc := 138) (v := (1 : Int32)) dL_reads_138 rfl ?_
  refine r_aload_n (pc := 139) (j := 7) dL_reads_139 rfl rfl ?_
  obtain ⟨v226, σ229, eσ229, hr⟩ := bnd_inv hr
  refine qL_next (pc := 140) eσ229 tw_3_125 ⟨nle rfl, nle rfl⟩ ⟨nle rfl, nle rfl⟩ (nle rfl) dL_reads_140 fun hσ229 => ?_
  refine r_iconst (pc := 143) (v := (3 : Int32)) dL_reads_143 rfl ?_
  refine r_irem (pc := 144) dL_reads_144 (by decide) ?_
  refine r_iadd (pc := 145) dL_reads_145 ?_
  obtain ⟨v230, σ233, eσ233, hr⟩ := bnd_inv hr
  refine qX7_set (pc := 146) eσ233 tw_4_66 ⟨nle rfl, nle rfl⟩ ⟨nle rfl, nle rfl⟩ (nle rfl) dL_reads_146 fun hσ233 => ?_
  refine r_if_le (pc := 149) (tgt := 156) dL_reads_149 rfl (fun hc => ?_) (fun hc => ?_)
  · replace hr := ite_t hc hr
    exact r_pick (ls1 := [(0, .ref (ad g 1)), (1, .ref (ad g a1)), (2, .ref (ad g a2)), (3, .int a3), (4, .int a4), (5, .int v5), (6, .int v10), (8, .int v20), (9, .int v25)]) [5, 6, 7, 8, 9, 4, 3, 1, 0] rfl (hj156 σ233 hr hσ233)
  replace hr := ite_f hc hr
  refine r_iconst (pc := 152) (v := (1 : Int32)) dL_reads_152 rfl ?_
  refine r_goto (pc := 153) (tgt := 157) dL_reads_153 rfl ?_
  exact r_pick (ls1 := [(0, .ref (ad g 1)), (1, .ref (ad g a1)), (2, .ref (ad g a2)), (3, .int a3), (4, .int a4), (5, .int v5), (6, .int v10), (8, .int v20), (9, .int v25)]) [5, 6, 7, 8, 9, 4, 3, 1, 0] rfl (hj157 (1 : Int32) σ233 hr hσ233)

theorem qL_reads {g : GG} {σ : SS} {a1 : Nat} {a2 : Nat} {a3 : Int32} {a4 : Int32} {v : Bool} {σ2 : SS} {M : MM} {F : State → Array Value → List Frame → State → Prop} {zc zs pc index : Nat} {ls : List (Nat × Value)} {rest : List Value} (hf : fL_reads σ a1 a2 a3 a4 = some (v, σ2))  (hl : Cond.methodLink M.1.cls index yL_reads ∈ lw_gt) (hz : zc + 1 ≤ M.2.2.2.2.cells ∧ zs + 12 ≤ M.2.2.2.2.slots) (hR : mL_reads.2.2.2.2.frames + 1 ≤ M.2.2.2.2.frames ∧ 8 + (mL_reads.2.2.1 + 11) + mL_reads.2.2.2.2.locals ≤ M.2.2.2.2.locals) (hrest : (rest.map fun v => v.category).sum ≤ 8) (hd : decode M.2.1 pc = .ok (.invokestatic index, 3)) (k : WT σ2 → RR g M F (NF, zc + 1, zs + 12) (pc + 3) ls (.int (b2i v) :: rest) σ2) : RR g M F (NF, zc, zs) pc ls (.int a4 :: .int a3 :: .ref (ad g a2) :: .ref (ad g a1) :: .ref (ad g 1) :: rest) σ :=
  r_callS (z := (NF, zc, zs)) (N := mL_reads) (nn := 5) (o1 := some (.int (b2i v))) (sL_reads hf ) tw_4_61 tw_1_0 hl tw_4_60 ⟨by decide, by decide, rfl⟩ hR rfl hrest hd hz rfl (fun h => k (h rfl))

