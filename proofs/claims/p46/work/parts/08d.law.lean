/-! The law's own methods, walked by a program. -/
theorem dL_draws_0 : decode cL_draws 0 = .ok (.iconst 4, 1) := by decide +kernel
theorem dL_draws_1 : decode cL_draws 1 = .ok (.newarray .int, 2) := by decide +kernel
theorem dL_draws_3 : decode cL_draws 3 = .ok (.dup, 1) := by decide +kernel
theorem dL_draws_4 : decode cL_draws 4 = .ok (.iconst 0, 1) := by decide +kernel
theorem dL_draws_5 : decode cL_draws 5 = .ok (.bipush 115, 2) := by decide +kernel
theorem dL_draws_7 : decode cL_draws 7 = .ok (.iastore, 1) := by decide +kernel
theorem dL_draws_8 : decode cL_draws 8 = .ok (.dup, 1) := by decide +kernel
theorem dL_draws_9 : decode cL_draws 9 = .ok (.iconst 1, 1) := by decide +kernel
theorem dL_draws_10 : decode cL_draws 10 = .ok (.bipush 105, 2) := by decide +kernel
theorem dL_draws_12 : decode cL_draws 12 = .ok (.iastore, 1) := by decide +kernel
theorem dL_draws_13 : decode cL_draws 13 = .ok (.dup, 1) := by decide +kernel
theorem dL_draws_14 : decode cL_draws 14 = .ok (.iconst 2, 1) := by decide +kernel
theorem dL_draws_15 : decode cL_draws 15 = .ok (.bipush 122, 2) := by decide +kernel
theorem dL_draws_17 : decode cL_draws 17 = .ok (.iastore, 1) := by decide +kernel
theorem dL_draws_18 : decode cL_draws 18 = .ok (.dup, 1) := by decide +kernel
theorem dL_draws_19 : decode cL_draws 19 = .ok (.iconst 3, 1) := by decide +kernel
theorem dL_draws_20 : decode cL_draws 20 = .ok (.bipush 101, 2) := by decide +kernel
theorem dL_draws_22 : decode cL_draws 22 = .ok (.iastore, 1) := by decide +kernel
theorem dL_draws_23 : decode cL_draws 23 = .ok (.astore 5, 2) := by decide +kernel
theorem dL_draws_25 : decode cL_draws 25 = .ok (.iconst 4, 1) := by decide +kernel
theorem dL_draws_26 : decode cL_draws 26 = .ok (.newarray .int, 2) := by decide +kernel
theorem dL_draws_28 : decode cL_draws 28 = .ok (.dup, 1) := by decide +kernel
theorem dL_draws_29 : decode cL_draws 29 = .ok (.iconst 0, 1) := by decide +kernel
theorem dL_draws_30 : decode cL_draws 30 = .ok (.bipush 59, 2) := by decide +kernel
theorem dL_draws_32 : decode cL_draws 32 = .ok (.iastore, 1) := by decide +kernel
theorem dL_draws_33 : decode cL_draws 33 = .ok (.dup, 1) := by decide +kernel
theorem dL_draws_34 : decode cL_draws 34 = .ok (.iconst 1, 1) := by decide +kernel
theorem dL_draws_35 : decode cL_draws 35 = .ok (.bipush 98, 2) := by decide +kernel
theorem dL_draws_37 : decode cL_draws 37 = .ok (.iastore, 1) := by decide +kernel
theorem dL_draws_38 : decode cL_draws 38 = .ok (.dup, 1) := by decide +kernel
theorem dL_draws_39 : decode cL_draws 39 = .ok (.iconst 2, 1) := by decide +kernel
theorem dL_draws_40 : decode cL_draws 40 = .ok (.bipush 111, 2) := by decide +kernel
theorem dL_draws_42 : decode cL_draws 42 = .ok (.iastore, 1) := by decide +kernel
theorem dL_draws_43 : decode cL_draws 43 = .ok (.dup, 1) := by decide +kernel
theorem dL_draws_44 : decode cL_draws 44 = .ok (.iconst 3, 1) := by decide +kernel
theorem dL_draws_45 : decode cL_draws 45 = .ok (.bipush 120, 2) := by decide +kernel
theorem dL_draws_47 : decode cL_draws 47 = .ok (.iastore, 1) := by decide +kernel
theorem dL_draws_48 : decode cL_draws 48 = .ok (.astore 6, 2) := by decide +kernel
theorem dL_draws_50 : decode cL_draws 50 = .ok (.iconst 3, 1) := by decide +kernel
theorem dL_draws_51 : decode cL_draws 51 = .ok (.newarray .int, 2) := by decide +kernel
theorem dL_draws_53 : decode cL_draws 53 = .ok (.dup, 1) := by decide +kernel
theorem dL_draws_54 : decode cL_draws 54 = .ok (.iconst 0, 1) := by decide +kernel
theorem dL_draws_55 : decode cL_draws 55 = .ok (.bipush 111, 2) := by decide +kernel
theorem dL_draws_57 : decode cL_draws 57 = .ok (.iastore, 1) := by decide +kernel
theorem dL_draws_58 : decode cL_draws 58 = .ok (.dup, 1) := by decide +kernel
theorem dL_draws_59 : decode cL_draws 59 = .ok (.iconst 1, 1) := by decide +kernel
theorem dL_draws_60 : decode cL_draws 60 = .ok (.bipush 110, 2) := by decide +kernel
theorem dL_draws_62 : decode cL_draws 62 = .ok (.iastore, 1) := by decide +kernel
theorem dL_draws_63 : decode cL_draws 63 = .ok (.dup, 1) := by decide +kernel
theorem dL_draws_64 : decode cL_draws 64 = .ok (.iconst 2, 1) := by decide +kernel
theorem dL_draws_65 : decode cL_draws 65 = .ok (.bipush 101, 2) := by decide +kernel
theorem dL_draws_67 : decode cL_draws 67 = .ok (.iastore, 1) := by decide +kernel
theorem dL_draws_68 : decode cL_draws 68 = .ok (.astore 7, 2) := by decide +kernel
theorem dL_draws_70 : decode cL_draws 70 = .ok (.iconst 4, 1) := by decide +kernel
theorem dL_draws_71 : decode cL_draws 71 = .ok (.newarray .int, 2) := by decide +kernel
theorem dL_draws_73 : decode cL_draws 73 = .ok (.dup, 1) := by decide +kernel
theorem dL_draws_74 : decode cL_draws 74 = .ok (.iconst 0, 1) := by decide +kernel
theorem dL_draws_75 : decode cL_draws 75 = .ok (.bipush 109, 2) := by decide +kernel
theorem dL_draws_77 : decode cL_draws 77 = .ok (.iastore, 1) := by decide +kernel
theorem dL_draws_78 : decode cL_draws 78 = .ok (.dup, 1) := by decide +kernel
theorem dL_draws_79 : decode cL_draws 79 = .ok (.iconst 1, 1) := by decide +kernel
theorem dL_draws_80 : decode cL_draws 80 = .ok (.bipush 97, 2) := by decide +kernel
theorem dL_draws_82 : decode cL_draws 82 = .ok (.iastore, 1) := by decide +kernel
theorem dL_draws_83 : decode cL_draws 83 = .ok (.dup, 1) := by decide +kernel
theorem dL_draws_84 : decode cL_draws 84 = .ok (.iconst 2, 1) := by decide +kernel
theorem dL_draws_85 : decode cL_draws 85 = .ok (.bipush 110, 2) := by decide +kernel
theorem dL_draws_87 : decode cL_draws 87 = .ok (.iastore, 1) := by decide +kernel
theorem dL_draws_88 : decode cL_draws 88 = .ok (.dup, 1) := by decide +kernel
theorem dL_draws_89 : decode cL_draws 89 = .ok (.iconst 3, 1) := by decide +kernel
theorem dL_draws_90 : decode cL_draws 90 = .ok (.bipush 121, 2) := by decide +kernel
theorem dL_draws_92 : decode cL_draws 92 = .ok (.iastore, 1) := by decide +kernel
theorem dL_draws_93 : decode cL_draws 93 = .ok (.astore 8, 2) := by decide +kernel
theorem dL_draws_95 : decode cL_draws 95 = .ok (.iconst 4, 1) := by decide +kernel
theorem dL_draws_96 : decode cL_draws 96 = .ok (.newarray .int, 2) := by decide +kernel
theorem dL_draws_98 : decode cL_draws 98 = .ok (.dup, 1) := by decide +kernel
theorem dL_draws_99 : decode cL_draws 99 = .ok (.iconst 0, 1) := by decide +kernel
theorem dL_draws_100 : decode cL_draws 100 = .ok (.bipush 32, 2) := by decide +kernel
theorem dL_draws_102 : decode cL_draws 102 = .ok (.iastore, 1) := by decide +kernel
theorem dL_draws_103 : decode cL_draws 103 = .ok (.dup, 1) := by decide +kernel
theorem dL_draws_104 : decode cL_draws 104 = .ok (.iconst 1, 1) := by decide +kernel
theorem dL_draws_105 : decode cL_draws 105 = .ok (.bipush 107, 2) := by decide +kernel
theorem dL_draws_107 : decode cL_draws 107 = .ok (.iastore, 1) := by decide +kernel
theorem dL_draws_108 : decode cL_draws 108 = .ok (.dup, 1) := by decide +kernel
theorem dL_draws_109 : decode cL_draws 109 = .ok (.iconst 2, 1) := by decide +kernel
theorem dL_draws_110 : decode cL_draws 110 = .ok (.bipush 101, 2) := by decide +kernel
theorem dL_draws_112 : decode cL_draws 112 = .ok (.iastore, 1) := by decide +kernel
theorem dL_draws_113 : decode cL_draws 113 = .ok (.dup, 1) := by decide +kernel
theorem dL_draws_114 : decode cL_draws 114 = .ok (.iconst 3, 1) := by decide +kernel
theorem dL_draws_115 : decode cL_draws 115 = .ok (.bipush 121, 2) := by decide +kernel
theorem dL_draws_117 : decode cL_draws 117 = .ok (.iastore, 1) := by decide +kernel
theorem dL_draws_118 : decode cL_draws 118 = .ok (.astore 9, 2) := by decide +kernel
theorem dL_draws_120 : decode cL_draws 120 = .ok (.bipush 6, 2) := by decide +kernel
theorem dL_draws_122 : decode cL_draws 122 = .ok (.newarray .int, 2) := by decide +kernel
theorem dL_draws_124 : decode cL_draws 124 = .ok (.dup, 1) := by decide +kernel
theorem dL_draws_125 : decode cL_draws 125 = .ok (.iconst 0, 1) := by decide +kernel
theorem dL_draws_126 : decode cL_draws 126 = .ok (.bipush 32, 2) := by decide +kernel
theorem dL_draws_128 : decode cL_draws 128 = .ok (.iastore, 1) := by decide +kernel
theorem dL_draws_129 : decode cL_draws 129 = .ok (.dup, 1) := by decide +kernel
theorem dL_draws_130 : decode cL_draws 130 = .ok (.iconst 1, 1) := by decide +kernel
theorem dL_draws_131 : decode cL_draws 131 = .ok (.bipush 119, 2) := by decide +kernel
theorem dL_draws_133 : decode cL_draws 133 = .ok (.iastore, 1) := by decide +kernel
theorem dL_draws_134 : decode cL_draws 134 = .ok (.dup, 1) := by decide +kernel
theorem dL_draws_135 : decode cL_draws 135 = .ok (.iconst 2, 1) := by decide +kernel
theorem dL_draws_136 : decode cL_draws 136 = .ok (.bipush 111, 2) := by decide +kernel
theorem dL_draws_138 : decode cL_draws 138 = .ok (.iastore, 1) := by decide +kernel
theorem dL_draws_139 : decode cL_draws 139 = .ok (.dup, 1) := by decide +kernel
theorem dL_draws_140 : decode cL_draws 140 = .ok (.iconst 3, 1) := by decide +kernel
theorem dL_draws_141 : decode cL_draws 141 = .ok (.bipush 114, 2) := by decide +kernel
theorem dL_draws_143 : decode cL_draws 143 = .ok (.iastore, 1) := by decide +kernel
theorem dL_draws_144 : decode cL_draws 144 = .ok (.dup, 1) := by decide +kernel
theorem dL_draws_145 : decode cL_draws 145 = .ok (.iconst 4, 1) := by decide +kernel
theorem dL_draws_146 : decode cL_draws 146 = .ok (.bipush 116, 2) := by decide +kernel
theorem dL_draws_148 : decode cL_draws 148 = .ok (.iastore, 1) := by decide +kernel
theorem dL_draws_149 : decode cL_draws 149 = .ok (.dup, 1) := by decide +kernel
theorem dL_draws_150 : decode cL_draws 150 = .ok (.iconst 5, 1) := by decide +kernel
theorem dL_draws_151 : decode cL_draws 151 = .ok (.bipush 104, 2) := by decide +kernel
theorem dL_draws_153 : decode cL_draws 153 = .ok (.iastore, 1) := by decide +kernel
theorem dL_draws_154 : decode cL_draws 154 = .ok (.astore 10, 2) := by decide +kernel
theorem dL_draws_156 : decode cL_draws 156 = .ok (.sipush 600, 3) := by decide +kernel
theorem dL_draws_159 : decode cL_draws 159 = .ok (.newarray .int, 2) := by decide +kernel
theorem dL_draws_161 : decode cL_draws 161 = .ok (.astore 11, 2) := by decide +kernel
theorem dL_draws_163 : decode cL_draws 163 = .ok (.aload_n 1, 1) := by decide +kernel
theorem dL_draws_164 : decode cL_draws 164 = .ok (.iconst 1, 1) := by decide +kernel
theorem dL_draws_165 : decode cL_draws 165 = .ok (.iconst 1, 1) := by decide +kernel
theorem dL_draws_166 : decode cL_draws 166 = .ok (.aload_n 2, 1) := by decide +kernel
theorem dL_draws_167 : decode cL_draws 167 = .ok (.invokestatic 14, 3) := by decide +kernel
theorem dL_draws_170 : decode cL_draws 170 = .ok (.iconst 3, 1) := by decide +kernel
theorem dL_draws_171 : decode cL_draws 171 = .ok (.irem, 1) := by decide +kernel
theorem dL_draws_172 : decode cL_draws 172 = .ok (.iadd, 1) := by decide +kernel
theorem dL_draws_173 : decode cL_draws 173 = .ok (.iastore, 1) := by decide +kernel
theorem dL_draws_174 : decode cL_draws 174 = .ok (.aload_n 1, 1) := by decide +kernel
theorem dL_draws_175 : decode cL_draws 175 = .ok (.iconst 2, 1) := by decide +kernel
theorem dL_draws_176 : decode cL_draws 176 = .ok (.iconst 1, 1) := by decide +kernel
theorem dL_draws_177 : decode cL_draws 177 = .ok (.aload_n 2, 1) := by decide +kernel
theorem dL_draws_178 : decode cL_draws 178 = .ok (.invokestatic 14, 3) := by decide +kernel
theorem dL_draws_181 : decode cL_draws 181 = .ok (.iconst 3, 1) := by decide +kernel
theorem dL_draws_182 : decode cL_draws 182 = .ok (.irem, 1) := by decide +kernel
theorem dL_draws_183 : decode cL_draws 183 = .ok (.iadd, 1) := by decide +kernel
theorem dL_draws_184 : decode cL_draws 184 = .ok (.iastore, 1) := by decide +kernel
theorem dL_draws_185 : decode cL_draws 185 = .ok (.aload 11, 2) := by decide +kernel
theorem dL_draws_187 : decode cL_draws 187 = .ok (.aload 11, 2) := by decide +kernel
theorem dL_draws_189 : decode cL_draws 189 = .ok (.aload 11, 2) := by decide +kernel
theorem dL_draws_191 : decode cL_draws 191 = .ok (.iconst 0, 1) := by decide +kernel
theorem dL_draws_192 : decode cL_draws 192 = .ok (.aload 5, 2) := by decide +kernel
theorem dL_draws_194 : decode cL_draws 194 = .ok (.invokestatic 20, 3) := by decide +kernel
theorem dL_draws_197 : decode cL_draws 197 = .ok (.iload_n 3, 1) := by decide +kernel
theorem dL_draws_198 : decode cL_draws 198 = .ok (.invokestatic 24, 3) := by decide +kernel
theorem dL_draws_201 : decode cL_draws 201 = .ok (.iload 4, 2) := by decide +kernel
theorem dL_draws_203 : decode cL_draws 203 = .ok (.invokestatic 24, 3) := by decide +kernel
theorem dL_draws_206 : decode cL_draws 206 = .ok (.istore 12, 2) := by decide +kernel
theorem dL_draws_208 : decode cL_draws 208 = .ok (.aload 11, 2) := by decide +kernel
theorem dL_draws_210 : decode cL_draws 210 = .ok (.aload 11, 2) := by decide +kernel
theorem dL_draws_212 : decode cL_draws 212 = .ok (.aload 11, 2) := by decide +kernel
theorem dL_draws_214 : decode cL_draws 214 = .ok (.iload 12, 2) := by decide +kernel
theorem dL_draws_216 : decode cL_draws 216 = .ok (.aload 6, 2) := by decide +kernel
theorem dL_draws_218 : decode cL_draws 218 = .ok (.invokestatic 20, 3) := by decide +kernel
theorem dL_draws_221 : decode cL_draws 221 = .ok (.aload_n 1, 1) := by decide +kernel
theorem dL_draws_222 : decode cL_draws 222 = .ok (.iconst 1, 1) := by decide +kernel
theorem dL_draws_223 : decode cL_draws 223 = .ok (.iaload, 1) := by decide +kernel
theorem dL_draws_224 : decode cL_draws 224 = .ok (.invokestatic 24, 3) := by decide +kernel
theorem dL_draws_227 : decode cL_draws 227 = .ok (.aload_n 1, 1) := by decide +kernel
theorem dL_draws_228 : decode cL_draws 228 = .ok (.iconst 2, 1) := by decide +kernel
theorem dL_draws_229 : decode cL_draws 229 = .ok (.iaload, 1) := by decide +kernel
theorem dL_draws_230 : decode cL_draws 230 = .ok (.invokestatic 24, 3) := by decide +kernel
theorem dL_draws_233 : decode cL_draws 233 = .ok (.istore 12, 2) := by decide +kernel
theorem dL_draws_235 : decode cL_draws 235 = .ok (.aload 11, 2) := by decide +kernel
theorem dL_draws_237 : decode cL_draws 237 = .ok (.iload 12, 2) := by decide +kernel
theorem dL_draws_239 : decode cL_draws 239 = .ok (.bipush 59, 2) := by decide +kernel
theorem dL_draws_241 : decode cL_draws 241 = .ok (.iastore, 1) := by decide +kernel
theorem dL_draws_242 : decode cL_draws 242 = .ok (.iinc 12 1, 3) := by decide +kernel
theorem dL_draws_245 : decode cL_draws 245 = .ok (.iconst 1, 1) := by decide +kernel
theorem dL_draws_246 : decode cL_draws 246 = .ok (.aload_n 2, 1) := by decide +kernel
theorem dL_draws_247 : decode cL_draws 247 = .ok (.invokestatic 14, 3) := by decide +kernel
theorem dL_draws_250 : decode cL_draws 250 = .ok (.iconst 5, 1) := by decide +kernel
theorem dL_draws_251 : decode cL_draws 251 = .ok (.irem, 1) := by decide +kernel
theorem dL_draws_252 : decode cL_draws 252 = .ok (.iadd, 1) := by decide +kernel
theorem dL_draws_253 : decode cL_draws 253 = .ok (.istore 13, 2) := by decide +kernel
theorem dL_draws_255 : decode cL_draws 255 = .ok (.iconst 0, 1) := by decide +kernel
theorem dL_draws_256 : decode cL_draws 256 = .ok (.istore 14, 2) := by decide +kernel
theorem dL_draws_258 : decode cL_draws 258 = .ok (.iconst 0, 1) := by decide +kernel
theorem dL_draws_259 : decode cL_draws 259 = .ok (.istore 15, 2) := by decide +kernel
theorem dL_draws_261 : decode cL_draws 261 = .ok (.iload 15, 2) := by decide +kernel
theorem dL_draws_263 : decode cL_draws 263 = .ok (.iload 13, 2) := by decide +kernel
theorem dL_draws_265 : decode cL_draws 265 = .ok (.if_icmp .ge 405, 3) := by decide +kernel
theorem dL_draws_268 : decode cL_draws 268 = .ok (.bipush 16, 2) := by decide +kernel
theorem dL_draws_270 : decode cL_draws 270 = .ok (.bipush 16, 2) := by decide +kernel
theorem dL_draws_272 : decode cL_draws 272 = .ok (.iload 14, 2) := by decide +kernel
theorem dL_draws_274 : decode cL_draws 274 = .ok (.imul, 1) := by decide +kernel
theorem dL_draws_275 : decode cL_draws 275 = .ok (.iadd, 1) := by decide +kernel
theorem dL_draws_276 : decode cL_draws 276 = .ok (.istore 16, 2) := by decide +kernel
theorem dL_draws_278 : decode cL_draws 278 = .ok (.aload_n 1, 1) := by decide +kernel
theorem dL_draws_279 : decode cL_draws 279 = .ok (.iload 16, 2) := by decide +kernel
theorem dL_draws_281 : decode cL_draws 281 = .ok (.iconst 1, 1) := by decide +kernel
theorem dL_draws_282 : decode cL_draws 282 = .ok (.aload_n 2, 1) := by decide +kernel
theorem dL_draws_283 : decode cL_draws 283 = .ok (.invokestatic 14, 3) := by decide +kernel
theorem dL_draws_286 : decode cL_draws 286 = .ok (.iconst 2, 1) := by decide +kernel
theorem dL_draws_287 : decode cL_draws 287 = .ok (.irem, 1) := by decide +kernel
theorem dL_draws_288 : decode cL_draws 288 = .ok (.iadd, 1) := by decide +kernel
theorem dL_draws_289 : decode cL_draws 289 = .ok (.iastore, 1) := by decide +kernel
theorem dL_draws_290 : decode cL_draws 290 = .ok (.aload_n 1, 1) := by decide +kernel
theorem dL_draws_291 : decode cL_draws 291 = .ok (.iload 16, 2) := by decide +kernel
theorem dL_draws_293 : decode cL_draws 293 = .ok (.iconst 1, 1) := by decide +kernel
theorem dL_draws_294 : decode cL_draws 294 = .ok (.iadd, 1) := by decide +kernel
theorem dL_draws_295 : decode cL_draws 295 = .ok (.iconst 0, 1) := by decide +kernel
theorem dL_draws_296 : decode cL_draws 296 = .ok (.iastore, 1) := by decide +kernel
theorem dL_draws_297 : decode cL_draws 297 = .ok (.aload_n 1, 1) := by decide +kernel
theorem dL_draws_298 : decode cL_draws 298 = .ok (.iload 16, 2) := by decide +kernel
theorem dL_draws_300 : decode cL_draws 300 = .ok (.iconst 2, 1) := by decide +kernel
theorem dL_draws_301 : decode cL_draws 301 = .ok (.iadd, 1) := by decide +kernel
theorem dL_draws_302 : decode cL_draws 302 = .ok (.iconst 0, 1) := by decide +kernel
theorem dL_draws_303 : decode cL_draws 303 = .ok (.iastore, 1) := by decide +kernel
theorem dL_draws_304 : decode cL_draws 304 = .ok (.aload_n 1, 1) := by decide +kernel
theorem dL_draws_305 : decode cL_draws 305 = .ok (.iload 16, 2) := by decide +kernel
theorem dL_draws_307 : decode cL_draws 307 = .ok (.iconst 3, 1) := by decide +kernel
theorem dL_draws_308 : decode cL_draws 308 = .ok (.iadd, 1) := by decide +kernel
theorem dL_draws_309 : decode cL_draws 309 = .ok (.aload_n 2, 1) := by decide +kernel
theorem dL_draws_310 : decode cL_draws 310 = .ok (.invokestatic 14, 3) := by decide +kernel
theorem dL_draws_313 : decode cL_draws 313 = .ok (.bipush 10, 2) := by decide +kernel
theorem dL_draws_315 : decode cL_draws 315 = .ok (.irem, 1) := by decide +kernel
theorem dL_draws_316 : decode cL_draws 316 = .ok (.iastore, 1) := by decide +kernel
theorem dL_draws_317 : decode cL_draws 317 = .ok (.iload 12, 2) := by decide +kernel
theorem dL_draws_319 : decode cL_draws 319 = .ok (.istore 17, 2) := by decide +kernel
theorem dL_draws_321 : decode cL_draws 321 = .ok (.aload 11, 2) := by decide +kernel
theorem dL_draws_323 : decode cL_draws 323 = .ok (.iload 12, 2) := by decide +kernel
theorem dL_draws_325 : decode cL_draws 325 = .ok (.aload_n 1, 1) := by decide +kernel
theorem dL_draws_326 : decode cL_draws 326 = .ok (.iload 16, 2) := by decide +kernel
theorem dL_draws_328 : decode cL_draws 328 = .ok (.iaload, 1) := by decide +kernel
theorem dL_draws_329 : decode cL_draws 329 = .ok (.iconst 1, 1) := by decide +kernel
theorem dL_draws_330 : decode cL_draws 330 = .ok (.if_icmp .ne 8, 3) := by decide +kernel
theorem dL_draws_333 : decode cL_draws 333 = .ok (.aload 7, 2) := by decide +kernel
theorem dL_draws_335 : decode cL_draws 335 = .ok (.goto 5, 3) := by decide +kernel
theorem dL_draws_338 : decode cL_draws 338 = .ok (.aload 8, 2) := by decide +kernel
theorem dL_draws_340 : decode cL_draws 340 = .ok (.invokestatic 20, 3) := by decide +kernel
theorem dL_draws_343 : decode cL_draws 343 = .ok (.istore 12, 2) := by decide +kernel
theorem dL_draws_345 : decode cL_draws 345 = .ok (.iconst 1, 1) := by decide +kernel
theorem dL_draws_346 : decode cL_draws 346 = .ok (.aload_n 2, 1) := by decide +kernel
theorem dL_draws_347 : decode cL_draws 347 = .ok (.invokestatic 14, 3) := by decide +kernel
theorem dL_draws_350 : decode cL_draws 350 = .ok (.iconst 5, 1) := by decide +kernel
theorem dL_draws_351 : decode cL_draws 351 = .ok (.irem, 1) := by decide +kernel
theorem dL_draws_352 : decode cL_draws 352 = .ok (.iadd, 1) := by decide +kernel
theorem dL_draws_353 : decode cL_draws 353 = .ok (.istore 18, 2) := by decide +kernel
theorem dL_draws_355 : decode cL_draws 355 = .ok (.iconst 0, 1) := by decide +kernel
theorem dL_draws_356 : decode cL_draws 356 = .ok (.istore 19, 2) := by decide +kernel
theorem dL_draws_358 : decode cL_draws 358 = .ok (.iload 19, 2) := by decide +kernel
theorem dL_draws_360 : decode cL_draws 360 = .ok (.iload 18, 2) := by decide +kernel
theorem dL_draws_362 : decode cL_draws 362 = .ok (.bipush 8, 2) := by decide +kernel
theorem dL_draws_364 : decode cL_draws 364 = .ok (.iadd, 1) := by decide +kernel
theorem dL_draws_365 : decode cL_draws 365 = .ok (.if_icmp .ge 152, 3) := by decide +kernel
theorem dL_draws_368 : decode cL_draws 368 = .ok (.aload_n 1, 1) := by decide +kernel
theorem dL_draws_369 : decode cL_draws 369 = .ok (.iload 16, 2) := by decide +kernel
theorem dL_draws_371 : decode cL_draws 371 = .ok (.iconst 1, 1) := by decide +kernel
theorem dL_draws_372 : decode cL_draws 372 = .ok (.iadd, 1) := by decide +kernel
theorem dL_draws_373 : decode cL_draws 373 = .ok (.iaload, 1) := by decide +kernel
theorem dL_draws_374 : decode cL_draws 374 = .ok (.iload 18, 2) := by decide +kernel
theorem dL_draws_376 : decode cL_draws 376 = .ok (.if_icmp .ge 141, 3) := by decide +kernel
theorem dL_draws_379 : decode cL_draws 379 = .ok (.iconst 2, 1) := by decide +kernel
theorem dL_draws_380 : decode cL_draws 380 = .ok (.aload_n 2, 1) := by decide +kernel
theorem dL_draws_381 : decode cL_draws 381 = .ok (.invokestatic 14, 3) := by decide +kernel
theorem dL_draws_384 : decode cL_draws 384 = .ok (.iload_n 3, 1) := by decide +kernel
theorem dL_draws_385 : decode cL_draws 385 = .ok (.iconst 3, 1) := by decide +kernel
theorem dL_draws_386 : decode cL_draws 386 = .ok (.isub, 1) := by decide +kernel
theorem dL_draws_387 : decode cL_draws 387 = .ok (.aload_n 1, 1) := by decide +kernel
theorem dL_draws_388 : decode cL_draws 388 = .ok (.iconst 1, 1) := by decide +kernel
theorem dL_draws_389 : decode cL_draws 389 = .ok (.iaload, 1) := by decide +kernel
theorem dL_draws_390 : decode cL_draws 390 = .ok (.isub, 1) := by decide +kernel
theorem dL_draws_391 : decode cL_draws 391 = .ok (.irem, 1) := by decide +kernel
theorem dL_draws_392 : decode cL_draws 392 = .ok (.iadd, 1) := by decide +kernel
theorem dL_draws_393 : decode cL_draws 393 = .ok (.istore 20, 2) := by decide +kernel
theorem dL_draws_395 : decode cL_draws 395 = .ok (.iconst 2, 1) := by decide +kernel
theorem dL_draws_396 : decode cL_draws 396 = .ok (.aload_n 2, 1) := by decide +kernel
theorem dL_draws_397 : decode cL_draws 397 = .ok (.invokestatic 14, 3) := by decide +kernel
theorem dL_draws_400 : decode cL_draws 400 = .ok (.iload 4, 2) := by decide +kernel
theorem dL_draws_402 : decode cL_draws 402 = .ok (.iconst 3, 1) := by decide +kernel
theorem dL_draws_403 : decode cL_draws 403 = .ok (.isub, 1) := by decide +kernel
theorem dL_draws_404 : decode cL_draws 404 = .ok (.aload_n 1, 1) := by decide +kernel
theorem dL_draws_405 : decode cL_draws 405 = .ok (.iconst 2, 1) := by decide +kernel
theorem dL_draws_406 : decode cL_draws 406 = .ok (.iaload, 1) := by decide +kernel
theorem dL_draws_407 : decode cL_draws 407 = .ok (.isub, 1) := by decide +kernel
theorem dL_draws_408 : decode cL_draws 408 = .ok (.irem, 1) := by decide +kernel
theorem dL_draws_409 : decode cL_draws 409 = .ok (.iadd, 1) := by decide +kernel
theorem dL_draws_410 : decode cL_draws 410 = .ok (.istore 21, 2) := by decide +kernel
theorem dL_draws_412 : decode cL_draws 412 = .ok (.aload_n 1, 1) := by decide +kernel
theorem dL_draws_413 : decode cL_draws 413 = .ok (.iload 14, 2) := by decide +kernel
theorem dL_draws_415 : decode cL_draws 415 = .ok (.iconst 1, 1) := by decide +kernel
theorem dL_draws_416 : decode cL_draws 416 = .ok (.iadd, 1) := by decide +kernel
theorem dL_draws_417 : decode cL_draws 417 = .ok (.iload 20, 2) := by decide +kernel
theorem dL_draws_419 : decode cL_draws 419 = .ok (.iload 21, 2) := by decide +kernel
theorem dL_draws_421 : decode cL_draws 421 = .ok (.invokestatic 28, 3) := by decide +kernel
theorem dL_draws_424 : decode cL_draws 424 = .ok (.ifCond .eq 6, 3) := by decide +kernel
theorem dL_draws_427 : decode cL_draws 427 = .ok (.goto 84, 3) := by decide +kernel
theorem dL_draws_430 : decode cL_draws 430 = .ok (.aload_n 1, 1) := by decide +kernel
theorem dL_draws_431 : decode cL_draws 431 = .ok (.iload 16, 2) := by decide +kernel
theorem dL_draws_433 : decode cL_draws 433 = .ok (.iconst 1, 1) := by decide +kernel
theorem dL_draws_434 : decode cL_draws 434 = .ok (.iadd, 1) := by decide +kernel
theorem dL_draws_435 : decode cL_draws 435 = .ok (.iaload, 1) := by decide +kernel
theorem dL_draws_436 : decode cL_draws 436 = .ok (.ifCond .le 13, 3) := by decide +kernel
theorem dL_draws_439 : decode cL_draws 439 = .ok (.aload 11, 2) := by decide +kernel
theorem dL_draws_441 : decode cL_draws 441 = .ok (.iload 12, 2) := by decide +kernel
theorem dL_draws_443 : decode cL_draws 443 = .ok (.bipush 44, 2) := by decide +kernel
theorem dL_draws_445 : decode cL_draws 445 = .ok (.iastore, 1) := by decide +kernel
theorem dL_draws_446 : decode cL_draws 446 = .ok (.iinc 12 1, 3) := by decide +kernel
theorem dL_draws_449 : decode cL_draws 449 = .ok (.aload 11, 2) := by decide +kernel
theorem dL_draws_451 : decode cL_draws 451 = .ok (.aload 11, 2) := by decide +kernel
theorem dL_draws_453 : decode cL_draws 453 = .ok (.iload 12, 2) := by decide +kernel
theorem dL_draws_455 : decode cL_draws 455 = .ok (.iload 20, 2) := by decide +kernel
theorem dL_draws_457 : decode cL_draws 457 = .ok (.invokestatic 24, 3) := by decide +kernel
theorem dL_draws_460 : decode cL_draws 460 = .ok (.iload 21, 2) := by decide +kernel
theorem dL_draws_462 : decode cL_draws 462 = .ok (.invokestatic 24, 3) := by decide +kernel
theorem dL_draws_465 : decode cL_draws 465 = .ok (.istore 12, 2) := by decide +kernel
theorem dL_draws_467 : decode cL_draws 467 = .ok (.aload_n 1, 1) := by decide +kernel
theorem dL_draws_468 : decode cL_draws 468 = .ok (.iload 16, 2) := by decide +kernel
theorem dL_draws_470 : decode cL_draws 470 = .ok (.iconst 4, 1) := by decide +kernel
theorem dL_draws_471 : decode cL_draws 471 = .ok (.iadd, 1) := by decide +kernel
theorem dL_draws_472 : decode cL_draws 472 = .ok (.iconst 2, 1) := by decide +kernel
theorem dL_draws_473 : decode cL_draws 473 = .ok (.aload_n 1, 1) := by decide +kernel
theorem dL_draws_474 : decode cL_draws 474 = .ok (.iload 16, 2) := by decide +kernel
theorem dL_draws_476 : decode cL_draws 476 = .ok (.iconst 1, 1) := by decide +kernel
theorem dL_draws_477 : decode cL_draws 477 = .ok (.iadd, 1) := by decide +kernel
theorem dL_draws_478 : decode cL_draws 478 = .ok (.iaload, 1) := by decide +kernel
theorem dL_draws_479 : decode cL_draws 479 = .ok (.imul, 1) := by decide +kernel
theorem dL_draws_480 : decode cL_draws 480 = .ok (.iadd, 1) := by decide +kernel
theorem dL_draws_481 : decode cL_draws 481 = .ok (.iload 20, 2) := by decide +kernel
theorem dL_draws_483 : decode cL_draws 483 = .ok (.iastore, 1) := by decide +kernel
theorem dL_draws_484 : decode cL_draws 484 = .ok (.aload_n 1, 1) := by decide +kernel
theorem dL_draws_485 : decode cL_draws 485 = .ok (.iload 16, 2) := by decide +kernel
theorem dL_draws_487 : decode cL_draws 487 = .ok (.iconst 5, 1) := by decide +kernel
theorem dL_draws_488 : decode cL_draws 488 = .ok (.iadd, 1) := by decide +kernel
theorem dL_draws_489 : decode cL_draws 489 = .ok (.iconst 2, 1) := by decide +kernel
theorem dL_draws_490 : decode cL_draws 490 = .ok (.aload_n 1, 1) := by decide +kernel
theorem dL_draws_491 : decode cL_draws 491 = .ok (.iload 16, 2) := by decide +kernel
theorem dL_draws_493 : decode cL_draws 493 = .ok (.iconst 1, 1) := by decide +kernel
theorem dL_draws_494 : decode cL_draws 494 = .ok (.iadd, 1) := by decide +kernel
theorem dL_draws_495 : decode cL_draws 495 = .ok (.iaload, 1) := by decide +kernel
theorem dL_draws_496 : decode cL_draws 496 = .ok (.imul, 1) := by decide +kernel
theorem dL_draws_497 : decode cL_draws 497 = .ok (.iadd, 1) := by decide +kernel
theorem dL_draws_498 : decode cL_draws 498 = .ok (.iload 21, 2) := by decide +kernel
theorem dL_draws_500 : decode cL_draws 500 = .ok (.iastore, 1) := by decide +kernel
theorem dL_draws_501 : decode cL_draws 501 = .ok (.aload_n 1, 1) := by decide +kernel
theorem dL_draws_502 : decode cL_draws 502 = .ok (.iload 16, 2) := by decide +kernel
theorem dL_draws_504 : decode cL_draws 504 = .ok (.iconst 1, 1) := by decide +kernel
theorem dL_draws_505 : decode cL_draws 505 = .ok (.iadd, 1) := by decide +kernel
theorem dL_draws_506 : decode cL_draws 506 = .ok (.dup2, 1) := by decide +kernel
theorem dL_draws_507 : decode cL_draws 507 = .ok (.iaload, 1) := by decide +kernel
theorem dL_draws_508 : decode cL_draws 508 = .ok (.iconst 1, 1) := by decide +kernel
theorem dL_draws_509 : decode cL_draws 509 = .ok (.iadd, 1) := by decide +kernel
theorem dL_draws_510 : decode cL_draws 510 = .ok (.iastore, 1) := by decide +kernel
theorem dL_draws_511 : decode cL_draws 511 = .ok (.iinc 19 1, 3) := by decide +kernel
theorem dL_draws_514 : decode cL_draws 514 = .ok (.goto (-156), 3) := by decide +kernel
theorem dL_draws_517 : decode cL_draws 517 = .ok (.aload_n 1, 1) := by decide +kernel
theorem dL_draws_518 : decode cL_draws 518 = .ok (.iload 16, 2) := by decide +kernel
theorem dL_draws_520 : decode cL_draws 520 = .ok (.iconst 1, 1) := by decide +kernel
theorem dL_draws_521 : decode cL_draws 521 = .ok (.iadd, 1) := by decide +kernel
theorem dL_draws_522 : decode cL_draws 522 = .ok (.iaload, 1) := by decide +kernel
theorem dL_draws_523 : decode cL_draws 523 = .ok (.ifCond .ne 10, 3) := by decide +kernel
theorem dL_draws_526 : decode cL_draws 526 = .ok (.iload 17, 2) := by decide +kernel
theorem dL_draws_528 : decode cL_draws 528 = .ok (.istore 12, 2) := by decide +kernel
theorem dL_draws_530 : decode cL_draws 530 = .ok (.goto 134, 3) := by decide +kernel
theorem dL_draws_533 : decode cL_draws 533 = .ok (.aload_n 1, 1) := by decide +kernel
theorem dL_draws_534 : decode cL_draws 534 = .ok (.iload 16, 2) := by decide +kernel
theorem dL_draws_536 : decode cL_draws 536 = .ok (.iconst 2, 1) := by decide +kernel
theorem dL_draws_537 : decode cL_draws 537 = .ok (.iadd, 1) := by decide +kernel
theorem dL_draws_538 : decode cL_draws 538 = .ok (.aload_n 2, 1) := by decide +kernel
theorem dL_draws_539 : decode cL_draws 539 = .ok (.invokestatic 14, 3) := by decide +kernel
theorem dL_draws_542 : decode cL_draws 542 = .ok (.iconst 1, 1) := by decide +kernel
theorem dL_draws_543 : decode cL_draws 543 = .ok (.aload_n 1, 1) := by decide +kernel
theorem dL_draws_544 : decode cL_draws 544 = .ok (.iload 16, 2) := by decide +kernel
theorem dL_draws_546 : decode cL_draws 546 = .ok (.iconst 1, 1) := by decide +kernel
theorem dL_draws_547 : decode cL_draws 547 = .ok (.iadd, 1) := by decide +kernel
theorem dL_draws_548 : decode cL_draws 548 = .ok (.iaload, 1) := by decide +kernel
theorem dL_draws_549 : decode cL_draws 549 = .ok (.ishl, 1) := by decide +kernel
theorem dL_draws_550 : decode cL_draws 550 = .ok (.irem, 1) := by decide +kernel
theorem dL_draws_551 : decode cL_draws 551 = .ok (.iastore, 1) := by decide +kernel
theorem dL_draws_552 : decode cL_draws 552 = .ok (.aload_n 1, 1) := by decide +kernel
theorem dL_draws_553 : decode cL_draws 553 = .ok (.iload 16, 2) := by decide +kernel
theorem dL_draws_555 : decode cL_draws 555 = .ok (.iconst 2, 1) := by decide +kernel
theorem dL_draws_556 : decode cL_draws 556 = .ok (.iadd, 1) := by decide +kernel
theorem dL_draws_557 : decode cL_draws 557 = .ok (.iaload, 1) := by decide +kernel
theorem dL_draws_558 : decode cL_draws 558 = .ok (.ifCond .le 71, 3) := by decide +kernel
theorem dL_draws_561 : decode cL_draws 561 = .ok (.aload 11, 2) := by decide +kernel
theorem dL_draws_563 : decode cL_draws 563 = .ok (.iload 12, 2) := by decide +kernel
theorem dL_draws_565 : decode cL_draws 565 = .ok (.aload 9, 2) := by decide +kernel
theorem dL_draws_567 : decode cL_draws 567 = .ok (.invokestatic 20, 3) := by decide +kernel
theorem dL_draws_570 : decode cL_draws 570 = .ok (.istore 12, 2) := by decide +kernel
theorem dL_draws_572 : decode cL_draws 572 = .ok (.iconst 0, 1) := by decide +kernel
theorem dL_draws_573 : decode cL_draws 573 = .ok (.istore 19, 2) := by decide +kernel
theorem dL_draws_575 : decode cL_draws 575 = .ok (.iload 19, 2) := by decide +kernel
theorem dL_draws_577 : decode cL_draws 577 = .ok (.aload_n 1, 1) := by decide +kernel
theorem dL_draws_578 : decode cL_draws 578 = .ok (.iload 16, 2) := by decide +kernel
theorem dL_draws_580 : decode cL_draws 580 = .ok (.iconst 1, 1) := by decide +kernel
theorem dL_draws_581 : decode cL_draws 581 = .ok (.iadd, 1) := by decide +kernel
theorem dL_draws_582 : decode cL_draws 582 = .ok (.iaload, 1) := by decide +kernel
theorem dL_draws_583 : decode cL_draws 583 = .ok (.if_icmp .ge 46, 3) := by decide +kernel
theorem dL_draws_586 : decode cL_draws 586 = .ok (.aload_n 1, 1) := by decide +kernel
theorem dL_draws_587 : decode cL_draws 587 = .ok (.iload 16, 2) := by decide +kernel
theorem dL_draws_589 : decode cL_draws 589 = .ok (.iconst 2, 1) := by decide +kernel
theorem dL_draws_590 : decode cL_draws 590 = .ok (.iadd, 1) := by decide +kernel
theorem dL_draws_591 : decode cL_draws 591 = .ok (.iaload, 1) := by decide +kernel
theorem dL_draws_592 : decode cL_draws 592 = .ok (.iload 19, 2) := by decide +kernel
theorem dL_draws_594 : decode cL_draws 594 = .ok (.ishr, 1) := by decide +kernel
theorem dL_draws_595 : decode cL_draws 595 = .ok (.iconst 1, 1) := by decide +kernel
theorem dL_draws_596 : decode cL_draws 596 = .ok (.iand, 1) := by decide +kernel
theorem dL_draws_597 : decode cL_draws 597 = .ok (.iconst 1, 1) := by decide +kernel
theorem dL_draws_598 : decode cL_draws 598 = .ok (.if_icmp .ne 25, 3) := by decide +kernel
theorem dL_draws_601 : decode cL_draws 601 = .ok (.aload 11, 2) := by decide +kernel
theorem dL_draws_603 : decode cL_draws 603 = .ok (.iload 12, 2) := by decide +kernel
theorem dL_draws_605 : decode cL_draws 605 = .ok (.bipush 32, 2) := by decide +kernel
theorem dL_draws_607 : decode cL_draws 607 = .ok (.iastore, 1) := by decide +kernel
theorem dL_draws_608 : decode cL_draws 608 = .ok (.aload 11, 2) := by decide +kernel
theorem dL_draws_610 : decode cL_draws 610 = .ok (.iload 12, 2) := by decide +kernel
theorem dL_draws_612 : decode cL_draws 612 = .ok (.iconst 1, 1) := by decide +kernel
theorem dL_draws_613 : decode cL_draws 613 = .ok (.iadd, 1) := by decide +kernel
theorem dL_draws_614 : decode cL_draws 614 = .ok (.bipush 97, 2) := by decide +kernel
theorem dL_draws_616 : decode cL_draws 616 = .ok (.iload 19, 2) := by decide +kernel
theorem dL_draws_618 : decode cL_draws 618 = .ok (.iadd, 1) := by decide +kernel
theorem dL_draws_619 : decode cL_draws 619 = .ok (.iastore, 1) := by decide +kernel
theorem dL_draws_620 : decode cL_draws 620 = .ok (.iinc 12 2, 3) := by decide +kernel
theorem dL_draws_623 : decode cL_draws 623 = .ok (.iinc 19 1, 3) := by decide +kernel
theorem dL_draws_626 : decode cL_draws 626 = .ok (.goto (-51), 3) := by decide +kernel
theorem dL_draws_629 : decode cL_draws 629 = .ok (.aload 11, 2) := by decide +kernel
theorem dL_draws_631 : decode cL_draws 631 = .ok (.aload 11, 2) := by decide +kernel
theorem dL_draws_633 : decode cL_draws 633 = .ok (.iload 12, 2) := by decide +kernel
theorem dL_draws_635 : decode cL_draws 635 = .ok (.aload 10, 2) := by decide +kernel
theorem dL_draws_637 : decode cL_draws 637 = .ok (.invokestatic 20, 3) := by decide +kernel
theorem dL_draws_640 : decode cL_draws 640 = .ok (.aload_n 1, 1) := by decide +kernel
theorem dL_draws_641 : decode cL_draws 641 = .ok (.iload 16, 2) := by decide +kernel
theorem dL_draws_643 : decode cL_draws 643 = .ok (.iconst 3, 1) := by decide +kernel
theorem dL_draws_644 : decode cL_draws 644 = .ok (.iadd, 1) := by decide +kernel
theorem dL_draws_645 : decode cL_draws 645 = .ok (.iaload, 1) := by decide +kernel
theorem dL_draws_646 : decode cL_draws 646 = .ok (.invokestatic 24, 3) := by decide +kernel
theorem dL_draws_649 : decode cL_draws 649 = .ok (.istore 12, 2) := by decide +kernel
theorem dL_draws_651 : decode cL_draws 651 = .ok (.aload 11, 2) := by decide +kernel
theorem dL_draws_653 : decode cL_draws 653 = .ok (.iload 12, 2) := by decide +kernel
theorem dL_draws_655 : decode cL_draws 655 = .ok (.bipush 59, 2) := by decide +kernel
theorem dL_draws_657 : decode cL_draws 657 = .ok (.iastore, 1) := by decide +kernel
theorem dL_draws_658 : decode cL_draws 658 = .ok (.iinc 12 1, 3) := by decide +kernel
theorem dL_draws_661 : decode cL_draws 661 = .ok (.iinc 14 1, 3) := by decide +kernel
theorem dL_draws_664 : decode cL_draws 664 = .ok (.iinc 15 1, 3) := by decide +kernel
theorem dL_draws_667 : decode cL_draws 667 = .ok (.goto (-406), 3) := by decide +kernel
theorem dL_draws_670 : decode cL_draws 670 = .ok (.aload_n 1, 1) := by decide +kernel
theorem dL_draws_671 : decode cL_draws 671 = .ok (.iconst 0, 1) := by decide +kernel
theorem dL_draws_672 : decode cL_draws 672 = .ok (.iload 14, 2) := by decide +kernel
theorem dL_draws_674 : decode cL_draws 674 = .ok (.iastore, 1) := by decide +kernel
theorem dL_draws_675 : decode cL_draws 675 = .ok (.aload_n 0, 1) := by decide +kernel
theorem dL_draws_676 : decode cL_draws 676 = .ok (.aload 11, 2) := by decide +kernel
theorem dL_draws_678 : decode cL_draws 678 = .ok (.iload 12, 2) := by decide +kernel
theorem dL_draws_680 : decode cL_draws 680 = .ok (.invokestatic 32, 3) := by decide +kernel
theorem dL_draws_683 : decode cL_draws 683 = .ok (.iload 12, 2) := by decide +kernel
theorem dL_draws_685 : decode cL_draws 685 = .ok (.sipush 400, 3) := by decide +kernel
theorem dL_draws_688 : decode cL_draws 688 = .ok (.if_icmp .gt 37, 3) := by decide +kernel
theorem dL_draws_691 : decode cL_draws 691 = .ok (.aload_n 0, 1) := by decide +kernel
theorem dL_draws_692 : decode cL_draws 692 = .ok (.iload 12, 2) := by decide +kernel
theorem dL_draws_694 : decode cL_draws 694 = .ok (.invokevirtual 36, 3) := by decide +kernel
theorem dL_draws_697 : decode cL_draws 697 = .ok (.iload 14, 2) := by decide +kernel
theorem dL_draws_699 : decode cL_draws 699 = .ok (.if_icmp .ne 26, 3) := by decide +kernel
theorem dL_draws_702 : decode cL_draws 702 = .ok (.aload_n 0, 1) := by decide +kernel
theorem dL_draws_703 : decode cL_draws 703 = .ok (.iconst 2, 1) := by decide +kernel
theorem dL_draws_704 : decode cL_draws 704 = .ok (.invokevirtual 40, 3) := by decide +kernel
theorem dL_draws_707 : decode cL_draws 707 = .ok (.iload 14, 2) := by decide +kernel
theorem dL_draws_709 : decode cL_draws 709 = .ok (.if_icmp .ne 16, 3) := by decide +kernel
theorem dL_draws_712 : decode cL_draws 712 = .ok (.aload_n 0, 1) := by decide +kernel
theorem dL_draws_713 : decode cL_draws 713 = .ok (.bipush 8, 2) := by decide +kernel
theorem dL_draws_715 : decode cL_draws 715 = .ok (.invokevirtual 40, 3) := by decide +kernel
theorem dL_draws_718 : decode cL_draws 718 = .ok (.ifCond .ne 7, 3) := by decide +kernel
theorem dL_draws_721 : decode cL_draws 721 = .ok (.iconst 1, 1) := by decide +kernel
theorem dL_draws_722 : decode cL_draws 722 = .ok (.goto 4, 3) := by decide +kernel
theorem dL_draws_725 : decode cL_draws 725 = .ok (.iconst 0, 1) := by decide +kernel
theorem dL_draws_726 : decode cL_draws 726 = .ok (.ireturn, 1) := by decide +kernel
def mL_draws : MM := (yL_draws, cL_draws, 22, Option.some Jvm.ClassFile.FieldType.boolean, { frames := 10, cells := 31, slots := 745, locals := 265 })
def L_draws_L358 (o1_ : Nat) (o2_ : Nat) (u3_ : Int32) (u4_ : Int32) (o11_ : Nat) (u14_ : Int32) (u16_ : Int32) (u18_ : Int32) (k517 : Int32 → SS → Option (Bool × SS)) : Nat → Int32 → Int32 → SS → Option (Bool × SS) :=
  lp (fun _ _ _ => none) fun rec v12_ v19_ σ_ =>
    if (u18_ + (8 : Int32)) ≤ v19_ then (
      k517 v12_ σ_
      ) else (
      grd (lin σ_ o1_ (u16_ + (1 : Int32))) <|
      if u18_ ≤ (gI σ_ o1_ (Int32.toNatClampNeg (u16_ + (1 : Int32)))) then (
        k517 v12_ σ_
        ) else (
        bnd (fL_next σ_ o2_) fun v139 σ142 =>
        grd (lin σ142 o1_ (1 : Int32)) <|
        grd (nz ((u3_ - (3 : Int32)) - (gI σ142 o1_ 1))) <|
        vthen ((2 : Int32) + (irm v139 ((u3_ - (3 : Int32)) - (gI σ142 o1_ 1)))) fun v145 =>
        bnd (fL_next σ142 o2_) fun v146 σ149 =>
        grd (lin σ149 o1_ (2 : Int32)) <|
        grd (nz ((u4_ - (3 : Int32)) - (gI σ149 o1_ 2))) <|
        vthen ((2 : Int32) + (irm v146 ((u4_ - (3 : Int32)) - (gI σ149 o1_ 2)))) fun v152 =>
        bnd1 (fL_isOver σ149 o1_ (u14_ + (1 : Int32)) v145 v152) fun b154 =>
        if b154 = true then (
          rec v12_ (v19_ + (1 : Int32)) σ149
          ) else (
          grd (lin σ149 o1_ (u16_ + (1 : Int32))) <|
          vthen (fun (v157 : Int32) (σ158 : SS) =>
            bnd (fL_number σ158 o11_ v157 v145) fun v159 σ162 =>
            bnd (fL_number σ162 o11_ v159 v152) fun v163 σ166 =>
            grd (lin σ166 o1_ (u16_ + (1 : Int32))) <|
            grd (lin σ166 o1_ ((u16_ + (4 : Int32)) + ((2 : Int32) * (gI σ166 o1_ (Int32.toNatClampNeg (u16_ + (1 : Int32))))))) <|
            vthen (sI σ166 o1_ (Int32.toNatClampNeg ((u16_ + (4 : Int32)) + ((2 : Int32) * (gI σ166 o1_ (Int32.toNatClampNeg (u16_ + (1 : Int32))))))) v145) fun σ169 =>
            grd (lin σ169 o1_ (u16_ + (1 : Int32))) <|
            grd (lin σ169 o1_ ((u16_ + (5 : Int32)) + ((2 : Int32) * (gI σ169 o1_ (Int32.toNatClampNeg (u16_ + (1 : Int32))))))) <|
            vthen (sI σ169 o1_ (Int32.toNatClampNeg ((u16_ + (5 : Int32)) + ((2 : Int32) * (gI σ169 o1_ (Int32.toNatClampNeg (u16_ + (1 : Int32))))))) v152) fun σ172 =>
            grd (lin σ172 o1_ (u16_ + (1 : Int32))) <|
            vthen (sI σ172 o1_ (Int32.toNatClampNeg (u16_ + (1 : Int32))) ((gI σ172 o1_ (Int32.toNatClampNeg (u16_ + (1 : Int32)))) + (1 : Int32))) fun σ174 =>
            rec v163 (v19_ + (1 : Int32)) σ174
            ) fun j449 =>
          if (gI σ149 o1_ (Int32.toNatClampNeg (u16_ + (1 : Int32)))) ≤ 0 then (
            j449 v12_ σ149
            ) else (
            grd (lin σ149 o11_ v12_) <|
            vthen (sI σ149 o11_ (Int32.toNatClampNeg v12_) (44 : Int32)) fun σ176 =>
            j449 (v12_ + (1 : Int32)) σ176
            )
          )
        )
      )

def L_draws_L575 (o1_ : Nat) (o11_ : Nat) (u16_ : Int32) (k629 : Int32 → SS → Option (Bool × SS)) : Nat → Int32 → Int32 → SS → Option (Bool × SS) :=
  lp (fun _ _ _ => none) fun rec v12_ v19_ σ_ =>
    grd (lin σ_ o1_ (u16_ + (1 : Int32))) <|
    if (gI σ_ o1_ (Int32.toNatClampNeg (u16_ + (1 : Int32)))) ≤ v19_ then (
      k629 v12_ σ_
      ) else (
      grd (lin σ_ o1_ (u16_ + (2 : Int32))) <|
      if (((gI σ_ o1_ (Int32.toNatClampNeg (u16_ + (2 : Int32)))) >>> (v19_ &&& 31)) &&& (1 : Int32)) = (1 : Int32) then (
        grd (lin σ_ o11_ v12_) <|
        vthen (sI σ_ o11_ (Int32.toNatClampNeg v12_) (32 : Int32)) fun σ209 =>
        grd (lin σ209 o11_ (v12_ + (1 : Int32))) <|
        vthen (sI σ209 o11_ (Int32.toNatClampNeg (v12_ + (1 : Int32))) ((97 : Int32) + v19_)) fun σ211 =>
        rec (v12_ + (2 : Int32)) (v19_ + (1 : Int32)) σ211
        ) else (
        rec v12_ (v19_ + (1 : Int32)) σ_
        )
      )

def L_draws_L261 (o1_ : Nat) (o2_ : Nat) (u3_ : Int32) (u4_ : Int32) (o7_ : Nat) (o8_ : Nat) (o9_ : Nat) (o10_ : Nat) (o11_ : Nat) (u13_ : Int32) (k670 : Int32 → Int32 → SS → Option (Bool × SS)) : Nat → Int32 → Int32 → Int32 → SS → Option (Bool × SS) :=
  lp (fun _ _ _ _ => none) fun rec v12_ v14_ v15_ σ_ =>
    if u13_ ≤ v15_ then (
      k670 v12_ v14_ σ_
      ) else (
      vthen ((16 : Int32) + ((16 : Int32) * v14_)) fun v110 =>
      bnd (fL_next σ_ o2_) fun v111 σ114 =>
      grd (lin σ114 o1_ v110) <|
      vthen (sI σ114 o1_ (Int32.toNatClampNeg v110) ((1 : Int32) + (irm v111 (2 : Int32)))) fun σ116 =>
      grd (lin σ116 o1_ (v110 + (1 : Int32))) <|
      vthen (sI σ116 o1_ (Int32.toNatClampNeg (v110 + (1 : Int32))) (0 : Int32)) fun σ118 =>
      grd (lin σ118 o1_ (v110 + (2 : Int32))) <|
      vthen (sI σ118 o1_ (Int32.toNatClampNeg (v110 + (2 : Int32))) (0 : Int32)) fun σ120 =>
      bnd (fL_next σ120 o2_) fun v121 σ124 =>
      grd (lin σ124 o1_ (v110 + (3 : Int32))) <|
      vthen (sI σ124 o1_ (Int32.toNatClampNeg (v110 + (3 : Int32))) (irm v121 (10 : Int32))) fun σ126 =>
      grd (lin σ126 o1_ v110) <|
      vthen (fun (s128 : Nat) =>
        bnd (fL_put σ126 o11_ v12_ s128) fun v129 σ132 =>
        bnd (fL_next σ132 o2_) fun v133 σ136 =>
        vthen ((1 : Int32) + (irm v133 (5 : Int32))) fun v137 =>
        L_draws_L358 o1_ o2_ u3_ u4_ o11_ v14_ v110 v137
        (fun v177 σ178 =>
          grd (lin σ178 o1_ (v110 + (1 : Int32))) <|
          if (gI σ178 o1_ (Int32.toNatClampNeg (v110 + (1 : Int32)))) = 0 then (
            rec v12_ v14_ (v15_ + (1 : Int32)) σ178
            ) else (
            bnd (fL_next σ178 o2_) fun v180 σ183 =>
            grd (lin σ183 o1_ (v110 + (1 : Int32))) <|
            grd (nz ((1 : Int32) <<< ((gI σ183 o1_ (Int32.toNatClampNeg (v110 + (1 : Int32)))) &&& 31))) <|
            grd (lin σ183 o1_ (v110 + (2 : Int32))) <|
            vthen (sI σ183 o1_ (Int32.toNatClampNeg (v110 + (2 : Int32))) (irm v180 ((1 : Int32) <<< ((gI σ183 o1_ (Int32.toNatClampNeg (v110 + (1 : Int32)))) &&& 31)))) fun σ187 =>
            grd (lin σ187 o1_ (v110 + (2 : Int32))) <|
            vthen (fun (v189 : Int32) (σ190 : SS) =>
              bnd (fL_put σ190 o11_ v189 o10_) fun v191 σ194 =>
              grd (lin σ194 o1_ (v110 + (3 : Int32))) <|
              bnd (fL_number σ194 o11_ v191 (gI σ194 o1_ (Int32.toNatClampNeg (v110 + (3 : Int32))))) fun v196 σ199 =>
              grd (lin σ199 o11_ v196) <|
              vthen (sI σ199 o11_ (Int32.toNatClampNeg v196) (59 : Int32)) fun σ201 =>
              rec (v196 + (1 : Int32)) (v14_ + (1 : Int32)) (v15_ + (1 : Int32)) σ201
              ) fun j629 =>
            if (gI σ187 o1_ (Int32.toNatClampNeg (v110 + (2 : Int32)))) ≤ 0 then (
              j629 v177 σ187
              ) else (
              bnd (fL_put σ187 o11_ v177 o9_) fun v202 σ205 =>
              L_draws_L575 o1_ o11_ v110
              (fun v212 σ213 =>
                j629 v212 σ213
                )
              fuel v202 (0 : Int32) σ205
              )
            )
          )
        fuel v129 (0 : Int32) σ136
        ) fun j340 =>
      if (gI σ126 o1_ (Int32.toNatClampNeg v110)) = (1 : Int32) then (
        j340 o7_
        ) else (
        j340 o8_
        )
      )

def fL_draws (σ : SS) (a1 : Nat) (a2 : Nat) (a3 : Int32) (a4 : Int32) : Option (Bool × SS) :=
  vthen (2000 + gR σ 0 0) fun c2 =>
  vthen (mkL σ 4) fun σ1 =>
  grd (lin σ1 c2 (0 : Int32)) <|
  vthen (sI σ1 c2 0 (115 : Int32)) fun σ4 =>
  grd (lin σ4 c2 (1 : Int32)) <|
  vthen (sI σ4 c2 1 (105 : Int32)) fun σ6 =>
  grd (lin σ6 c2 (2 : Int32)) <|
  vthen (sI σ6 c2 2 (122 : Int32)) fun σ8 =>
  grd (lin σ8 c2 (3 : Int32)) <|
  vthen (sI σ8 c2 3 (101 : Int32)) fun σ10 =>
  vthen (2000 + gR σ10 0 0) fun c12 =>
  vthen (mkL σ10 4) fun σ11 =>
  grd (lin σ11 c12 (0 : Int32)) <|
  vthen (sI σ11 c12 0 (59 : Int32)) fun σ14 =>
  grd (lin σ14 c12 (1 : Int32)) <|
  vthen (sI σ14 c12 1 (98 : Int32)) fun σ16 =>
  grd (lin σ16 c12 (2 : Int32)) <|
  vthen (sI σ16 c12 2 (111 : Int32)) fun σ18 =>
  grd (lin σ18 c12 (3 : Int32)) <|
  vthen (sI σ18 c12 3 (120 : Int32)) fun σ20 =>
  vthen (2000 + gR σ20 0 0) fun c22 =>
  vthen (mkL σ20 3) fun σ21 =>
  grd (lin σ21 c22 (0 : Int32)) <|
  vthen (sI σ21 c22 0 (111 : Int32)) fun σ24 =>
  grd (lin σ24 c22 (1 : Int32)) <|
  vthen (sI σ24 c22 1 (110 : Int32)) fun σ26 =>
  grd (lin σ26 c22 (2 : Int32)) <|
  vthen (sI σ26 c22 2 (101 : Int32)) fun σ28 =>
  vthen (2000 + gR σ28 0 0) fun c30 =>
  vthen (mkL σ28 4) fun σ29 =>
  grd (lin σ29 c30 (0 : Int32)) <|
  vthen (sI σ29 c30 0 (109 : Int32)) fun σ32 =>
  grd (lin σ32 c30 (1 : Int32)) <|
  vthen (sI σ32 c30 1 (97 : Int32)) fun σ34 =>
  grd (lin σ34 c30 (2 : Int32)) <|
  vthen (sI σ34 c30 2 (110 : Int32)) fun σ36 =>
  grd (lin σ36 c30 (3 : Int32)) <|
  vthen (sI σ36 c30 3 (121 : Int32)) fun σ38 =>
  vthen (2000 + gR σ38 0 0) fun c40 =>
  vthen (mkL σ38 4) fun σ39 =>
  grd (lin σ39 c40 (0 : Int32)) <|
  vthen (sI σ39 c40 0 (32 : Int32)) fun σ42 =>
  grd (lin σ42 c40 (1 : Int32)) <|
  vthen (sI σ42 c40 1 (107 : Int32)) fun σ44 =>
  grd (lin σ44 c40 (2 : Int32)) <|
  vthen (sI σ44 c40 2 (101 : Int32)) fun σ46 =>
  grd (lin σ46 c40 (3 : Int32)) <|
  vthen (sI σ46 c40 3 (121 : Int32)) fun σ48 =>
  vthen (2000 + gR σ48 0 0) fun c50 =>
  vthen (mkL σ48 6) fun σ49 =>
  grd (lin σ49 c50 (0 : Int32)) <|
  vthen (sI σ49 c50 0 (32 : Int32)) fun σ52 =>
  grd (lin σ52 c50 (1 : Int32)) <|
  vthen (sI σ52 c50 1 (119 : Int32)) fun σ54 =>
  grd (lin σ54 c50 (2 : Int32)) <|
  vthen (sI σ54 c50 2 (111 : Int32)) fun σ56 =>
  grd (lin σ56 c50 (3 : Int32)) <|
  vthen (sI σ56 c50 3 (114 : Int32)) fun σ58 =>
  grd (lin σ58 c50 (4 : Int32)) <|
  vthen (sI σ58 c50 4 (116 : Int32)) fun σ60 =>
  grd (lin σ60 c50 (5 : Int32)) <|
  vthen (sI σ60 c50 5 (104 : Int32)) fun σ62 =>
  vthen (2000 + gR σ62 0 0) fun c64 =>
  vthen (mkL σ62 600) fun σ63 =>
  bnd (fL_next σ63 a2) fun v65 σ68 =>
  grd (lin σ68 a1 (1 : Int32)) <|
  vthen (sI σ68 a1 1 ((1 : Int32) + (irm v65 (3 : Int32)))) fun σ70 =>
  bnd (fL_next σ70 a2) fun v71 σ74 =>
  grd (lin σ74 a1 (2 : Int32)) <|
  vthen (sI σ74 a1 2 ((1 : Int32) + (irm v71 (3 : Int32)))) fun σ76 =>
  bnd (fL_put σ76 c64 (0 : Int32) c2) fun v77 σ80 =>
  bnd (fL_number σ80 c64 v77 a3) fun v81 σ84 =>
  bnd (fL_number σ84 c64 v81 a4) fun v85 σ88 =>
  bnd (fL_put σ88 c64 v85 c12) fun v89 σ92 =>
  grd (lin σ92 a1 (1 : Int32)) <|
  bnd (fL_number σ92 c64 v89 (gI σ92 a1 1)) fun v94 σ97 =>
  grd (lin σ97 a1 (2 : Int32)) <|
  bnd (fL_number σ97 c64 v94 (gI σ97 a1 2)) fun v99 σ102 =>
  grd (lin σ102 c64 v99) <|
  vthen (sI σ102 c64 (Int32.toNatClampNeg v99) (59 : Int32)) fun σ104 =>
  bnd (fL_next σ104 a2) fun v105 σ108 =>
  vthen ((1 : Int32) + (irm v105 (5 : Int32))) fun v109 =>
  L_draws_L261 a1 a2 a3 a4 c22 c30 c40 c50 c64 v109
  (fun v214 v215 σ216 =>
    grd (lin σ216 a1 (0 : Int32)) <|
    vthen (sI σ216 a1 0 v215) fun σ218 =>
    bnd1 (fL_tell σ218 c64 v214) fun σ219 =>
    vthen (fun  (σ220 : SS) =>
      some (false, σ220)
      ) fun j725 =>
    if (400 : Int32) < v214 then (
      j725 σ219
      ) else (
      bnd (fX7_form σ219 v214) fun v221 σ224 =>
      if v221 = v215 then (
        bnd1 (fX7_count σ224 (2 : Int32)) fun v225 =>
        if v225 = v215 then (
          bnd1 (fX7_count σ224 (8 : Int32)) fun v228 =>
          if v228 = 0 then (
            some (true, σ224)
            ) else (
            j725 σ224
            )
          ) else (
          j725 σ224
          )
        ) else (
        j725 σ224
        )
      )
    )
  fuel (v99 + (1 : Int32)) (0 : Int32) (0 : Int32) σ108

set_option maxRecDepth 20000 in
theorem sL_draws_L358 {g : GG} {r : Bool × SS} {o1_ : Nat} {o2_ : Nat} {u3_ : Int32} {u4_ : Int32} {x7_ : Nat} {x8_ : Nat} {x9_ : Nat} {x10_ : Nat} {o11_ : Nat} {x13_ : Int32} {u14_ : Int32} {x15_ : Int32} {u16_ : Int32} {x17_ : Int32} {u18_ : Int32} {zc_ zs_ : Nat} {k517 : Int32 → SS → Option (Bool × SS)} (hz_ : zc_ ≤ mL_draws.2.2.2.2.cells ∧ zs_ ≤ mL_draws.2.2.2.2.slots)
    (hk517 : ∀ (y12 : Int32) (σ_ : SS), k517 y12 σ_ = some r → WT σ_ → RR g mL_draws (FinR g mL_draws (some (.int (b2i r.1))) NF r.2) (NF, zc_, zs_) 517 [(0, .ref (ad g 1)), (1, .ref (ad g o1_)), (2, .ref (ad g o2_)), (3, .int u3_), (4, .int u4_), (7, .ref (ad g x7_)), (8, .ref (ad g x8_)), (9, .ref (ad g x9_)), (10, .ref (ad g x10_)), (11, .ref (ad g o11_)), (12, .int y12), (13, .int x13_), (14, .int u14_), (15, .int x15_), (16, .int u16_), (17, .int x17_)] [] σ_)
    (n : Nat) : ∀ (v12_ : Int32) (v19_ : Int32) (σ_ : SS), L_draws_L358 o1_ o2_ u3_ u4_ o11_ u14_ u16_ u18_ k517 n v12_ v19_ σ_ = some r → WT σ_ → RR g mL_draws (FinR g mL_draws (some (.int (b2i r.1))) NF r.2) (NF, zc_, zs_) 358 [(0, .ref (ad g 1)), (1, .ref (ad g o1_)), (2, .ref (ad g o2_)), (3, .int u3_), (4, .int u4_), (7, .ref (ad g x7_)), (8, .ref (ad g x8_)), (9, .ref (ad g x9_)), (10, .ref (ad g x10_)), (11, .ref (ad g o11_)), (12, .int v12_), (13, .int x13_), (14, .int u14_), (15, .int x15_), (16, .int u16_), (17, .int x17_), (18, .int u18_), (19, .int v19_)] [] σ_ := by
  unfold L_draws_L358
  refine lp_ind (P := fun (rec : Int32 → Int32 → SS → Option (Bool × SS)) => ∀ (v12_ : Int32) (v19_ : Int32) (σ_ : SS), rec v12_ v19_ σ_ = some r → WT σ_ → RR g mL_draws (FinR g mL_draws (some (.int (b2i r.1))) NF r.2) (NF, zc_, zs_) 358 [(0, .ref (ad g 1)), (1, .ref (ad g o1_)), (2, .ref (ad g o2_)), (3, .int u3_), (4, .int u4_), (7, .ref (ad g x7_)), (8, .ref (ad g x8_)), (9, .ref (ad g x9_)), (10, .ref (ad g x10_)), (11, .ref (ad g o11_)), (12, .int v12_), (13, .int x13_), (14, .int u14_), (15, .int x15_), (16, .int u16_), (17, .int x17_), (18, .int u18_), (19, .int v19_)] [] σ_) ?_ ?_ n
  · intro v12_ v19_ σ_ hr; cases hr
  intro rec ih v12_ v19_ σ_ hr hw_
  refine r_iload (pc := 358) (j := 17) dL_draws_358 rfl ?_
  refine r_iload (pc := 360) (j := 16) dL_draws_360 rfl ?_
  refine r_bipush (pc := 362) (v := (8 : Int32)) dL_draws_362 rfl ?_
  refine r_iadd (pc := 364) dL_draws_364 ?_
  refine r_icmp_ge (pc := 365) (tgt := 517) dL_draws_365 rfl (fun hc => ?_) (fun hc => ?_)
  · replace hr := ite_t hc hr
    exact r_pick (ls1 := [(0, .ref (ad g 1)), (1, .ref (ad g o1_)), (2, .ref (ad g o2_)), (3, .int u3_), (4, .int u4_), (7, .ref (ad g x7_)), (8, .ref (ad g x8_)), (9, .ref (ad g x9_)), (10, .ref (ad g x10_)), (11, .ref (ad g o11_)), (12, .int v12_), (13, .int x13_), (14, .int u14_), (15, .int x15_), (16, .int u16_), (17, .int x17_)]) [0, 1, 2, 3, 4, 5, 6, 7, 8, 9, 10, 11, 12, 13, 14, 15] rfl (hk517 v12_ σ_ hr hw_)
  replace hr := ite_f hc hr
  refine r_aload_n (pc := 368) (j := 1) dL_draws_368 rfl rfl ?_
  refine r_iload (pc := 369) (j := 14) dL_draws_369 rfl ?_
  refine r_iconst (pc := 371) (v := (1 : Int32)) dL_draws_371 rfl ?_
  refine r_iadd (pc := 372) dL_draws_372 ?_
  obtain ⟨h138, hr⟩ := grd_inv hr
  refine y_iald (pc := 373) (k := (Int32.toNatClampNeg (u16_ + (1 : Int32)))) h138 rfl dL_draws_373 ?_
  refine r_iload (pc := 374) (j := 16) dL_draws_374 rfl ?_
  refine r_icmp_ge (pc := 376) (tgt := 517) dL_draws_376 rfl (fun hc => ?_) (fun hc => ?_)
  · replace hr := ite_t hc hr
    exact r_pick (ls1 := [(0, .ref (ad g 1)), (1, .ref (ad g o1_)), (2, .ref (ad g o2_)), (3, .int u3_), (4, .int u4_), (7, .ref (ad g x7_)), (8, .ref (ad g x8_)), (9, .ref (ad g x9_)), (10, .ref (ad g x10_)), (11, .ref (ad g o11_)), (12, .int v12_), (13, .int x13_), (14, .int u14_), (15, .int x15_), (16, .int u16_), (17, .int x17_)]) [0, 1, 2, 3, 4, 5, 6, 7, 8, 9, 10, 11, 12, 13, 14, 15] rfl (hk517 v12_ σ_ hr hw_)
  replace hr := ite_f hc hr
  refine r_iconst (pc := 379) (v := (2 : Int32)) dL_draws_379 rfl ?_
  refine r_aload_n (pc := 380) (j := 2) dL_draws_380 rfl rfl ?_
  obtain ⟨v139, σ142, eσ142, hr⟩ := bnd_inv hr
  refine qL_next (pc := 381) eσ142 tw_3_125 hz_ ⟨nle rfl, nle rfl⟩ (nle rfl) dL_draws_381 fun hσ142 => ?_
  refine r_iload_n (pc := 384) (j := 3) dL_draws_384 rfl rfl ?_
  refine r_iconst (pc := 385) (v := (3 : Int32)) dL_draws_385 rfl ?_
  refine r_isub (pc := 386) dL_draws_386 ?_
  refine r_aload_n (pc := 387) (j := 1) dL_draws_387 rfl rfl ?_
  refine r_iconst (pc := 388) (v := (1 : Int32)) dL_draws_388 rfl ?_
  obtain ⟨h143, hr⟩ := grd_inv hr
  refine y_iald (pc := 389) (k := 1) h143 rfl dL_draws_389 ?_
  refine r_isub (pc := 390) dL_draws_390 ?_
  obtain ⟨h144, hr⟩ := grd_inv hr
  refine r_irem (pc := 391) dL_draws_391 (nz_ne h144) ?_
  refine r_iadd (pc := 392) dL_draws_392 ?_
  refine r_topi fun v145 ev145 => ?_
  replace hr := vthen_inv hr v145 ev145
  refine r_istore (pc := 393) (ls1 := [(20, .int v145), (0, .ref (ad g 1)), (1, .ref (ad g o1_)), (2, .ref (ad g o2_)), (3, .int u3_), (4, .int u4_), (7, .ref (ad g x7_)), (8, .ref (ad g x8_)), (9, .ref (ad g x9_)), (10, .ref (ad g x10_)), (11, .ref (ad g o11_)), (12, .int v12_), (13, .int x13_), (14, .int u14_), (15, .int x15_), (16, .int u16_), (17, .int x17_), (18, .int u18_), (19, .int v19_)]) dL_draws_393 (nle rfl) rfl ?_
  refine r_iconst (pc := 395) (v := (2 : Int32)) dL_draws_395 rfl ?_
  refine r_aload_n (pc := 396) (j := 3) dL_draws_396 rfl rfl ?_
  obtain ⟨v146, σ149, eσ149, hr⟩ := bnd_inv hr
  refine qL_next (pc := 397) eσ149 tw_3_125 hz_ ⟨nle rfl, nle rfl⟩ (nle rfl) dL_draws_397 fun hσ149 => ?_
  refine r_iload (pc := 400) (j := 5) dL_draws_400 rfl ?_
  refine r_iconst (pc := 402) (v := (3 : Int32)) dL_draws_402 rfl ?_
  refine r_isub (pc := 403) dL_draws_403 ?_
  refine r_aload_n (pc := 404) (j := 2) dL_draws_404 rfl rfl ?_
  refine r_iconst (pc := 405) (v := (2 : Int32)) dL_draws_405 rfl ?_
  obtain ⟨h150, hr⟩ := grd_inv hr
  refine y_iald (pc := 406) (k := 2) h150 rfl dL_draws_406 ?_
  refine r_isub (pc := 407) dL_draws_407 ?_
  obtain ⟨h151, hr⟩ := grd_inv hr
  refine r_irem (pc := 408) dL_draws_408 (nz_ne h151) ?_
  refine r_iadd (pc := 409) dL_draws_409 ?_
  refine r_topi fun v152 ev152 => ?_
  replace hr := vthen_inv hr v152 ev152
  refine r_istore (pc := 410) (ls1 := [(21, .int v152), (20, .int v145), (0, .ref (ad g 1)), (1, .ref (ad g o1_)), (2, .ref (ad g o2_)), (3, .int u3_), (4, .int u4_), (7, .ref (ad g x7_)), (8, .ref (ad g x8_)), (9, .ref (ad g x9_)), (10, .ref (ad g x10_)), (11, .ref (ad g o11_)), (12, .int v12_), (13, .int x13_), (14, .int u14_), (15, .int x15_), (16, .int u16_), (17, .int x17_), (18, .int u18_), (19, .int v19_)]) dL_draws_410 (nle rfl) rfl ?_
  refine r_aload_n (pc := 412) (j := 3) dL_draws_412 rfl rfl ?_
  refine r_iload (pc := 413) (j := 14) dL_draws_413 rfl ?_
  refine r_iconst (pc := 415) (v := (1 : Int32)) dL_draws_415 rfl ?_
  refine r_iadd (pc := 416) dL_draws_416 ?_
  refine r_iload (pc := 417) (j := 1) dL_draws_417 rfl ?_
  refine r_iload (pc := 419) (j := 0) dL_draws_419 rfl ?_
  obtain ⟨b154, hb154, hr⟩ := bnd1_inv hr
  refine qL_isOver (pc := 421) hb154 tw_3_138 hz_ ⟨nle rfl, nle rfl⟩ (nle rfl) dL_draws_421 ?_
  refine r_ifB_eq (pc := 424) (tgt := 430) dL_draws_424 rfl (fun hc => ?_) (fun hc => ?_)
  · replace hr := ite_f hc hr
    refine r_aload_n (pc := 430) (j := 3) dL_draws_430 rfl rfl ?_
    refine r_iload (pc := 431) (j := 16) dL_draws_431 rfl ?_
    refine r_iconst (pc := 433) (v := (1 : Int32)) dL_draws_433 rfl ?_
    refine r_iadd (pc := 434) dL_draws_434 ?_
    obtain ⟨h156, hr⟩ := grd_inv hr
    refine y_iald (pc := 435) (k := (Int32.toNatClampNeg (u16_ + (1 : Int32)))) h156 rfl dL_draws_435 ?_
    obtain ⟨j449, ej449, hr⟩ := vth_ex hr
    have hj449 : ∀ (v157 : Int32) (σ158 : SS), j449 v157 σ158 = some r → WT σ158 → RR g mL_draws (FinR g mL_draws (some (.int (b2i r.1))) NF r.2) (NF, zc_, zs_) 449 [(0, .ref (ad g 1)), (1, .ref (ad g o1_)), (2, .ref (ad g o2_)), (3, .int u3_), (4, .int u4_), (7, .ref (ad g x7_)), (8, .ref (ad g x8_)), (9, .ref (ad g x9_)), (10, .ref (ad g x10_)), (11, .ref (ad g o11_)), (12, .int v157), (13, .int x13_), (14, .int u14_), (15, .int x15_), (16, .int u16_), (17, .int x17_), (18, .int u18_), (19, .int v19_), (20, .int v145), (21, .int v152)] [] σ158 := by
      intro v157 σ158 hr hσ158
      replace hr := (congrFun (congrFun ej449 v157) σ158).symm.trans hr
      refine r_aload (pc := 449) (j := 9) dL_draws_449 rfl ?_
      refine r_aload (pc := 451) (j := 9) dL_draws_451 rfl ?_
      refine r_iload (pc := 453) (j := 10) dL_draws_453 rfl ?_
      refine r_iload (pc := 455) (j := 18) dL_draws_455 rfl ?_
      obtain ⟨v159, σ162, eσ162, hr⟩ := bnd_inv hr
      refine qL_number (pc := 457) eσ162 tw_3_135 hz_ ⟨nle rfl, nle rfl⟩ (nle rfl) dL_draws_457 fun hσ162 => ?_
      refine r_iload (pc := 460) (j := 19) dL_draws_460 rfl ?_
      obtain ⟨v163, σ166, eσ166, hr⟩ := bnd_inv hr
      refine qL_number (pc := 462) eσ166 tw_3_135 hz_ ⟨nle rfl, nle rfl⟩ (nle rfl) dL_draws_462 fun hσ166 => ?_
      refine r_istore (pc := 465) (ls1 := [(12, .int v163), (0, .ref (ad g 1)), (1, .ref (ad g o1_)), (2, .ref (ad g o2_)), (3, .int u3_), (4, .int u4_), (7, .ref (ad g x7_)), (8, .ref (ad g x8_)), (9, .ref (ad g x9_)), (10, .ref (ad g x10_)), (11, .ref (ad g o11_)), (13, .int x13_), (14, .int u14_), (15, .int x15_), (16, .int u16_), (17, .int x17_), (18, .int u18_), (19, .int v19_), (20, .int v145), (21, .int v152)]) dL_draws_465 (nle rfl) rfl ?_
      refine r_aload_n (pc := 467) (j := 2) dL_draws_467 rfl rfl ?_
      refine r_iload (pc := 468) (j := 14) dL_draws_468 rfl ?_
      refine r_iconst (pc := 470) (v := (4 : Int32)) dL_draws_470 rfl ?_
      refine r_iadd (pc := 471) dL_draws_471 ?_
      refine r_iconst (pc := 472) (v := (2 : Int32)) dL_draws_472 rfl ?_
      refine r_aload_n (pc := 473) (j := 2) dL_draws_473 rfl rfl ?_
      refine r_iload (pc := 474) (j := 14) dL_draws_474 rfl ?_
      refine r_iconst (pc := 476) (v := (1 : Int32)) dL_draws_476 rfl ?_
      refine r_iadd (pc := 477) dL_draws_477 ?_
      obtain ⟨h167, hr⟩ := grd_inv hr
      refine y_iald (pc := 478) (k := (Int32.toNatClampNeg (u16_ + (1 : Int32)))) h167 rfl dL_draws_478 ?_
      refine r_imul (pc := 479) dL_draws_479 ?_
      refine r_iadd (pc := 480) dL_draws_480 ?_
      refine r_iload (pc := 481) (j := 18) dL_draws_481 rfl ?_
      obtain ⟨h168, hr⟩ := grd_inv hr
      refine y_iast (pc := 483) (j := (Int32.toNatClampNeg ((u16_ + (4 : Int32)) + ((2 : Int32) * (gI σ166 o1_ (Int32.toNatClampNeg (u16_ + (1 : Int32)))))))) h168 rfl dL_draws_483 fun σ169 eσ169 => ?_
      replace hr := vthen_inv hr σ169 eσ169
      have hσ169 := wtI eσ169 hσ166
      refine r_aload_n (pc := 484) (j := 2) dL_draws_484 rfl rfl ?_
      refine r_iload (pc := 485) (j := 14) dL_draws_485 rfl ?_
      refine r_iconst (pc := 487) (v := (5 : Int32)) dL_draws_487 rfl ?_
      refine r_iadd (pc := 488) dL_draws_488 ?_
      refine r_iconst (pc := 489) (v := (2 : Int32)) dL_draws_489 rfl ?_
      refine r_aload_n (pc := 490) (j := 2) dL_draws_490 rfl rfl ?_
      refine r_iload (pc := 491) (j := 14) dL_draws_491 rfl ?_
      refine r_iconst (pc := 493) (v := (1 : Int32)) dL_draws_493 rfl ?_
      refine r_iadd (pc := 494) dL_draws_494 ?_
      obtain ⟨h170, hr⟩ := grd_inv hr
      refine y_iald (pc := 495) (k := (Int32.toNatClampNeg (u16_ + (1 : Int32)))) h170 rfl dL_draws_495 ?_
      refine r_imul (pc := 496) dL_draws_496 ?_
      refine r_iadd (pc := 497) dL_draws_497 ?_
      refine r_iload (pc := 498) (j := 19) dL_draws_498 rfl ?_
      obtain ⟨h171, hr⟩ := grd_inv hr
      refine y_iast (pc := 500) (j := (Int32.toNatClampNeg ((u16_ + (5 : Int32)) + ((2 : Int32) * (gI σ169 o1_ (Int32.toNatClampNeg (u16_ + (1 : Int32)))))))) h171 rfl dL_draws_500 fun σ172 eσ172 => ?_
      replace hr := vthen_inv hr σ172 eσ172
      have hσ172 := wtI eσ172 hσ169
      refine r_aload_n (pc := 501) (j := 2) dL_draws_501 rfl rfl ?_
      refine r_iload (pc := 502) (j := 14) dL_draws_502 rfl ?_
      refine r_iconst (pc := 504) (v := (1 : Int32)) dL_draws_504 rfl ?_
      refine r_iadd (pc := 505) dL_draws_505 ?_
      refine r_dup2 (pc := 506) dL_draws_506 rfl rfl ?_
      obtain ⟨h173, hr⟩ := grd_inv hr
      refine y_iald (pc := 507) (k := (Int32.toNatClampNeg (u16_ + (1 : Int32)))) h173 rfl dL_draws_507 ?_
      refine r_iconst (pc := 508) (v := (1 : Int32)) dL_draws_508 rfl ?_
      refine r_iadd (pc := 509) dL_draws_509 ?_
      refine y_iast (pc := 510) (j := (Int32.toNatClampNeg (u16_ + (1 : Int32)))) h173 rfl dL_draws_510 fun σ174 eσ174 => ?_
      replace hr := vthen_inv hr σ174 eσ174
      have hσ174 := wtI eσ174 hσ172
      refine r_iinc (pc := 511) (j := 17) (v := (v19_ + (1 : Int32))) (ls1 := [(19, .int (v19_ + (1 : Int32))), (12, .int v163), (0, .ref (ad g 1)), (1, .ref (ad g o1_)), (2, .ref (ad g o2_)), (3, .int u3_), (4, .int u4_), (7, .ref (ad g x7_)), (8, .ref (ad g x8_)), (9, .ref (ad g x9_)), (10, .ref (ad g x10_)), (11, .ref (ad g o11_)), (13, .int x13_), (14, .int u14_), (15, .int x15_), (16, .int u16_), (17, .int x17_), (18, .int u18_), (20, .int v145), (21, .int v152)]) dL_draws_511 rfl rfl (nle rfl) rfl ?_
      refine r_goto (pc := 514) (tgt := 358) dL_draws_514 rfl ?_
      exact r_pick (ls1 := [(0, .ref (ad g 1)), (1, .ref (ad g o1_)), (2, .ref (ad g o2_)), (3, .int u3_), (4, .int u4_), (7, .ref (ad g x7_)), (8, .ref (ad g x8_)), (9, .ref (ad g x9_)), (10, .ref (ad g x10_)), (11, .ref (ad g o11_)), (12, .int v163), (13, .int x13_), (14, .int u14_), (15, .int x15_), (16, .int u16_), (17, .int x17_), (18, .int u18_), (19, .int (v19_ + (1 : Int32)))]) [2, 3, 4, 5, 6, 7, 8, 9, 10, 11, 1, 12, 13, 14, 15, 16, 17, 0] rfl (ih v163 (v19_ + (1 : Int32)) σ174 hr hσ174)
    refine r_if_le (pc := 436) (tgt := 449) dL_draws_436 rfl (fun hc => ?_) (fun hc => ?_)
    · replace hr := ite_t hc hr
      exact r_pick (ls1 := [(0, .ref (ad g 1)), (1, .ref (ad g o1_)), (2, .ref (ad g o2_)), (3, .int u3_), (4, .int u4_), (7, .ref (ad g x7_)), (8, .ref (ad g x8_)), (9, .ref (ad g x9_)), (10, .ref (ad g x10_)), (11, .ref (ad g o11_)), (12, .int v12_), (13, .int x13_), (14, .int u14_), (15, .int x15_), (16, .int u16_), (17, .int x17_), (18, .int u18_), (19, .int v19_), (20, .int v145), (21, .int v152)]) [2, 3, 4, 5, 6, 7, 8, 9, 10, 11, 12, 13, 14, 15, 16, 17, 18, 19, 1, 0] rfl (hj449 v12_ σ149 hr hσ149)
    replace hr := ite_f hc hr
    refine r_aload (pc := 439) (j := 11) dL_draws_439 rfl ?_
    refine r_iload (pc := 441) (j := 12) dL_draws_441 rfl ?_
    refine r_bipush (pc := 443) (v := (44 : Int32)) dL_draws_443 rfl ?_
    obtain ⟨h175, hr⟩ := grd_inv hr
    refine y_iast (pc := 445) (j := (Int32.toNatClampNeg v12_)) h175 rfl dL_draws_445 fun σ176 eσ176 => ?_
    replace hr := vthen_inv hr σ176 eσ176
    have hσ176 := wtI eσ176 hσ149
    refine r_iinc (pc := 446) (j := 12) (v := (v12_ + (1 : Int32))) (ls1 := [(12, .int (v12_ + (1 : Int32))), (21, .int v152), (20, .int v145), (0, .ref (ad g 1)), (1, .ref (ad g o1_)), (2, .ref (ad g o2_)), (3, .int u3_), (4, .int u4_), (7, .ref (ad g x7_)), (8, .ref (ad g x8_)), (9, .ref (ad g x9_)), (10, .ref (ad g x10_)), (11, .ref (ad g o11_)), (13, .int x13_), (14, .int u14_), (15, .int x15_), (16, .int u16_), (17, .int x17_), (18, .int u18_), (19, .int v19_)]) dL_draws_446 rfl rfl (nle rfl) rfl ?_
    exact r_pick (ls1 := [(0, .ref (ad g 1)), (1, .ref (ad g o1_)), (2, .ref (ad g o2_)), (3, .int u3_), (4, .int u4_), (7, .ref (ad g x7_)), (8, .ref (ad g x8_)), (9, .ref (ad g x9_)), (10, .ref (ad g x10_)), (11, .ref (ad g o11_)), (12, .int (v12_ + (1 : Int32))), (13, .int x13_), (14, .int u14_), (15, .int x15_), (16, .int u16_), (17, .int x17_), (18, .int u18_), (19, .int v19_), (20, .int v145), (21, .int v152)]) [3, 4, 5, 6, 7, 8, 9, 10, 11, 12, 0, 13, 14, 15, 16, 17, 18, 19, 2, 1] rfl (hj449 (v12_ + (1 : Int32)) σ176 hr hσ176)
  replace hr := ite_t hc hr
  refine r_goto (pc := 427) (tgt := 511) dL_draws_427 rfl ?_
  refine r_iinc (pc := 511) (j := 19) (v := (v19_ + (1 : Int32))) (ls1 := [(19, .int (v19_ + (1 : Int32))), (21, .int v152), (20, .int v145), (0, .ref (ad g 1)), (1, .ref (ad g o1_)), (2, .ref (ad g o2_)), (3, .int u3_), (4, .int u4_), (7, .ref (ad g x7_)), (8, .ref (ad g x8_)), (9, .ref (ad g x9_)), (10, .ref (ad g x10_)), (11, .ref (ad g o11_)), (12, .int v12_), (13, .int x13_), (14, .int u14_), (15, .int x15_), (16, .int u16_), (17, .int x17_), (18, .int u18_)]) dL_draws_511 rfl rfl (nle rfl) rfl ?_
  refine r_goto (pc := 514) (tgt := 358) dL_draws_514 rfl ?_
  exact r_pick (ls1 := [(0, .ref (ad g 1)), (1, .ref (ad g o1_)), (2, .ref (ad g o2_)), (3, .int u3_), (4, .int u4_), (7, .ref (ad g x7_)), (8, .ref (ad g x8_)), (9, .ref (ad g x9_)), (10, .ref (ad g x10_)), (11, .ref (ad g o11_)), (12, .int v12_), (13, .int x13_), (14, .int u14_), (15, .int x15_), (16, .int u16_), (17, .int x17_), (18, .int u18_), (19, .int (v19_ + (1 : Int32)))]) [3, 4, 5, 6, 7, 8, 9, 10, 11, 12, 13, 14, 15, 16, 17, 18, 19, 0] rfl (ih v12_ (v19_ + (1 : Int32)) σ149 hr hσ149)

set_option maxRecDepth 20000 in
theorem sL_draws_L575 {g : GG} {r : Bool × SS} {o1_ : Nat} {x2_ : Nat} {x3_ : Int32} {x4_ : Int32} {x7_ : Nat} {x8_ : Nat} {x9_ : Nat} {x10_ : Nat} {o11_ : Nat} {x13_ : Int32} {x14_ : Int32} {x15_ : Int32} {u16_ : Int32} {zc_ zs_ : Nat} {k629 : Int32 → SS → Option (Bool × SS)} (hz_ : zc_ ≤ mL_draws.2.2.2.2.cells ∧ zs_ ≤ mL_draws.2.2.2.2.slots)
    (hk629 : ∀ (y12 : Int32) (σ_ : SS), k629 y12 σ_ = some r → WT σ_ → RR g mL_draws (FinR g mL_draws (some (.int (b2i r.1))) NF r.2) (NF, zc_, zs_) 629 [(0, .ref (ad g 1)), (1, .ref (ad g o1_)), (2, .ref (ad g x2_)), (3, .int x3_), (4, .int x4_), (7, .ref (ad g x7_)), (8, .ref (ad g x8_)), (9, .ref (ad g x9_)), (10, .ref (ad g x10_)), (11, .ref (ad g o11_)), (12, .int y12), (13, .int x13_), (14, .int x14_), (15, .int x15_), (16, .int u16_)] [] σ_)
    (n : Nat) : ∀ (v12_ : Int32) (v19_ : Int32) (σ_ : SS), L_draws_L575 o1_ o11_ u16_ k629 n v12_ v19_ σ_ = some r → WT σ_ → RR g mL_draws (FinR g mL_draws (some (.int (b2i r.1))) NF r.2) (NF, zc_, zs_) 575 [(0, .ref (ad g 1)), (1, .ref (ad g o1_)), (2, .ref (ad g x2_)), (3, .int x3_), (4, .int x4_), (7, .ref (ad g x7_)), (8, .ref (ad g x8_)), (9, .ref (ad g x9_)), (10, .ref (ad g x10_)), (11, .ref (ad g o11_)), (12, .int v12_), (13, .int x13_), (14, .int x14_), (15, .int x15_), (16, .int u16_), (19, .int v19_)] [] σ_ := by
  unfold L_draws_L575
  refine lp_ind (P := fun (rec : Int32 → Int32 → SS → Option (Bool × SS)) => ∀ (v12_ : Int32) (v19_ : Int32) (σ_ : SS), rec v12_ v19_ σ_ = some r → WT σ_ → RR g mL_draws (FinR g mL_draws (some (.int (b2i r.1))) NF r.2) (NF, zc_, zs_) 575 [(0, .ref (ad g 1)), (1, .ref (ad g o1_)), (2, .ref (ad g x2_)), (3, .int x3_), (4, .int x4_), (7, .ref (ad g x7_)), (8, .ref (ad g x8_)), (9, .ref (ad g x9_)), (10, .ref (ad g x10_)), (11, .ref (ad g o11_)), (12, .int v12_), (13, .int x13_), (14, .int x14_), (15, .int x15_), (16, .int u16_), (19, .int v19_)] [] σ_) ?_ ?_ n
  · intro v12_ v19_ σ_ hr; cases hr
  intro rec ih v12_ v19_ σ_ hr hw_
  refine r_iload (pc := 575) (j := 15) dL_draws_575 rfl ?_
  refine r_aload_n (pc := 577) (j := 1) dL_draws_577 rfl rfl ?_
  refine r_iload (pc := 578) (j := 14) dL_draws_578 rfl ?_
  refine r_iconst (pc := 580) (v := (1 : Int32)) dL_draws_580 rfl ?_
  refine r_iadd (pc := 581) dL_draws_581 ?_
  obtain ⟨h206, hr⟩ := grd_inv hr
  refine y_iald (pc := 582) (k := (Int32.toNatClampNeg (u16_ + (1 : Int32)))) h206 rfl dL_draws_582 ?_
  refine r_icmp_ge (pc := 583) (tgt := 629) dL_draws_583 rfl (fun hc => ?_) (fun hc => ?_)
  · replace hr := ite_t hc hr
    exact r_pick (ls1 := [(0, .ref (ad g 1)), (1, .ref (ad g o1_)), (2, .ref (ad g x2_)), (3, .int x3_), (4, .int x4_), (7, .ref (ad g x7_)), (8, .ref (ad g x8_)), (9, .ref (ad g x9_)), (10, .ref (ad g x10_)), (11, .ref (ad g o11_)), (12, .int v12_), (13, .int x13_), (14, .int x14_), (15, .int x15_), (16, .int u16_)]) [0, 1, 2, 3, 4, 5, 6, 7, 8, 9, 10, 11, 12, 13, 14] rfl (hk629 v12_ σ_ hr hw_)
  replace hr := ite_f hc hr
  refine r_aload_n (pc := 586) (j := 1) dL_draws_586 rfl rfl ?_
  refine r_iload (pc := 587) (j := 14) dL_draws_587 rfl ?_
  refine r_iconst (pc := 589) (v := (2 : Int32)) dL_draws_589 rfl ?_
  refine r_iadd (pc := 590) dL_draws_590 ?_
  obtain ⟨h207, hr⟩ := grd_inv hr
  refine y_iald (pc := 591) (k := (Int32.toNatClampNeg (u16_ + (2 : Int32)))) h207 rfl dL_draws_591 ?_
  refine r_iload (pc := 592) (j := 15) dL_draws_592 rfl ?_
  refine r_ishr (pc := 594) dL_draws_594 ?_
  refine r_iconst (pc := 595) (v := (1 : Int32)) dL_draws_595 rfl ?_
  refine r_iand (pc := 596) dL_draws_596 ?_
  refine r_iconst (pc := 597) (v := (1 : Int32)) dL_draws_597 rfl ?_
  refine r_icmp_ne (pc := 598) (tgt := 623) dL_draws_598 rfl (fun hc => ?_) (fun hc => ?_)
  · replace hr := ite_f hc hr
    refine r_iinc (pc := 623) (j := 15) (v := (v19_ + (1 : Int32))) (ls1 := [(19, .int (v19_ + (1 : Int32))), (0, .ref (ad g 1)), (1, .ref (ad g o1_)), (2, .ref (ad g x2_)), (3, .int x3_), (4, .int x4_), (7, .ref (ad g x7_)), (8, .ref (ad g x8_)), (9, .ref (ad g x9_)), (10, .ref (ad g x10_)), (11, .ref (ad g o11_)), (12, .int v12_), (13, .int x13_), (14, .int x14_), (15, .int x15_), (16, .int u16_)]) dL_draws_623 rfl rfl (nle rfl) rfl ?_
    refine r_goto (pc := 626) (tgt := 575) dL_draws_626 rfl ?_
    exact r_pick (ls1 := [(0, .ref (ad g 1)), (1, .ref (ad g o1_)), (2, .ref (ad g x2_)), (3, .int x3_), (4, .int x4_), (7, .ref (ad g x7_)), (8, .ref (ad g x8_)), (9, .ref (ad g x9_)), (10, .ref (ad g x10_)), (11, .ref (ad g o11_)), (12, .int v12_), (13, .int x13_), (14, .int x14_), (15, .int x15_), (16, .int u16_), (19, .int (v19_ + (1 : Int32)))]) [1, 2, 3, 4, 5, 6, 7, 8, 9, 10, 11, 12, 13, 14, 15, 0] rfl (ih v12_ (v19_ + (1 : Int32)) σ_ hr hw_)
  replace hr := ite_t hc hr
  refine r_aload (pc := 601) (j := 9) dL_draws_601 rfl ?_
  refine r_iload (pc := 603) (j := 10) dL_draws_603 rfl ?_
  refine r_bipush (pc := 605) (v := (32 : Int32)) dL_draws_605 rfl ?_
  obtain ⟨h208, hr⟩ := grd_inv hr
  refine y_iast (pc := 607) (j := (Int32.toNatClampNeg v12_)) h208 rfl dL_draws_607 fun σ209 eσ209 => ?_
  replace hr := vthen_inv hr σ209 eσ209
  have hσ209 := wtI eσ209 hw_
  refine r_aload (pc := 608) (j := 9) dL_draws_608 rfl ?_
  refine r_iload (pc := 610) (j := 10) dL_draws_610 rfl ?_
  refine r_iconst (pc := 612) (v := (1 : Int32)) dL_draws_612 rfl ?_
  refine r_iadd (pc := 613) dL_draws_613 ?_
  refine r_bipush (pc := 614) (v := (97 : Int32)) dL_draws_614 rfl ?_
  refine r_iload (pc := 616) (j := 15) dL_draws_616 rfl ?_
  refine r_iadd (pc := 618) dL_draws_618 ?_
  obtain ⟨h210, hr⟩ := grd_inv hr
  refine y_iast (pc := 619) (j := (Int32.toNatClampNeg (v12_ + (1 : Int32)))) h210 rfl dL_draws_619 fun σ211 eσ211 => ?_
  replace hr := vthen_inv hr σ211 eσ211
  have hσ211 := wtI eσ211 hσ209
  refine r_iinc (pc := 620) (j := 10) (v := (v12_ + (2 : Int32))) (ls1 := [(12, .int (v12_ + (2 : Int32))), (0, .ref (ad g 1)), (1, .ref (ad g o1_)), (2, .ref (ad g x2_)), (3, .int x3_), (4, .int x4_), (7, .ref (ad g x7_)), (8, .ref (ad g x8_)), (9, .ref (ad g x9_)), (10, .ref (ad g x10_)), (11, .ref (ad g o11_)), (13, .int x13_), (14, .int x14_), (15, .int x15_), (16, .int u16_), (19, .int v19_)]) dL_draws_620 rfl rfl (nle rfl) rfl ?_
  refine r_iinc (pc := 623) (j := 15) (v := (v19_ + (1 : Int32))) (ls1 := [(19, .int (v19_ + (1 : Int32))), (12, .int (v12_ + (2 : Int32))), (0, .ref (ad g 1)), (1, .ref (ad g o1_)), (2, .ref (ad g x2_)), (3, .int x3_), (4, .int x4_), (7, .ref (ad g x7_)), (8, .ref (ad g x8_)), (9, .ref (ad g x9_)), (10, .ref (ad g x10_)), (11, .ref (ad g o11_)), (13, .int x13_), (14, .int x14_), (15, .int x15_), (16, .int u16_)]) dL_draws_623 rfl rfl (nle rfl) rfl ?_
  refine r_goto (pc := 626) (tgt := 575) dL_draws_626 rfl ?_
  exact r_pick (ls1 := [(0, .ref (ad g 1)), (1, .ref (ad g o1_)), (2, .ref (ad g x2_)), (3, .int x3_), (4, .int x4_), (7, .ref (ad g x7_)), (8, .ref (ad g x8_)), (9, .ref (ad g x9_)), (10, .ref (ad g x10_)), (11, .ref (ad g o11_)), (12, .int (v12_ + (2 : Int32))), (13, .int x13_), (14, .int x14_), (15, .int x15_), (16, .int u16_), (19, .int (v19_ + (1 : Int32)))]) [2, 3, 4, 5, 6, 7, 8, 9, 10, 11, 1, 12, 13, 14, 15, 0] rfl (ih (v12_ + (2 : Int32)) (v19_ + (1 : Int32)) σ211 hr hσ211)

set_option maxRecDepth 20000 in
theorem sL_draws_L261 {g : GG} {r : Bool × SS} {o1_ : Nat} {o2_ : Nat} {u3_ : Int32} {u4_ : Int32} {o7_ : Nat} {o8_ : Nat} {o9_ : Nat} {o10_ : Nat} {o11_ : Nat} {u13_ : Int32} {zc_ zs_ : Nat} {k670 : Int32 → Int32 → SS → Option (Bool × SS)} (hz_ : zc_ ≤ mL_draws.2.2.2.2.cells ∧ zs_ ≤ mL_draws.2.2.2.2.slots)
    (hk670 : ∀ (y12 : Int32) (y14 : Int32) (σ_ : SS), k670 y12 y14 σ_ = some r → WT σ_ → RR g mL_draws (FinR g mL_draws (some (.int (b2i r.1))) NF r.2) (NF, zc_, zs_) 670 [(0, .ref (ad g 1)), (1, .ref (ad g o1_)), (11, .ref (ad g o11_)), (12, .int y12), (14, .int y14)] [] σ_)
    (n : Nat) : ∀ (v12_ : Int32) (v14_ : Int32) (v15_ : Int32) (σ_ : SS), L_draws_L261 o1_ o2_ u3_ u4_ o7_ o8_ o9_ o10_ o11_ u13_ k670 n v12_ v14_ v15_ σ_ = some r → WT σ_ → RR g mL_draws (FinR g mL_draws (some (.int (b2i r.1))) NF r.2) (NF, zc_, zs_) 261 [(0, .ref (ad g 1)), (1, .ref (ad g o1_)), (2, .ref (ad g o2_)), (3, .int u3_), (4, .int u4_), (7, .ref (ad g o7_)), (8, .ref (ad g o8_)), (9, .ref (ad g o9_)), (10, .ref (ad g o10_)), (11, .ref (ad g o11_)), (12, .int v12_), (13, .int u13_), (14, .int v14_), (15, .int v15_)] [] σ_ := by
  unfold L_draws_L261
  refine lp_ind (P := fun (rec : Int32 → Int32 → Int32 → SS → Option (Bool × SS)) => ∀ (v12_ : Int32) (v14_ : Int32) (v15_ : Int32) (σ_ : SS), rec v12_ v14_ v15_ σ_ = some r → WT σ_ → RR g mL_draws (FinR g mL_draws (some (.int (b2i r.1))) NF r.2) (NF, zc_, zs_) 261 [(0, .ref (ad g 1)), (1, .ref (ad g o1_)), (2, .ref (ad g o2_)), (3, .int u3_), (4, .int u4_), (7, .ref (ad g o7_)), (8, .ref (ad g o8_)), (9, .ref (ad g o9_)), (10, .ref (ad g o10_)), (11, .ref (ad g o11_)), (12, .int v12_), (13, .int u13_), (14, .int v14_), (15, .int v15_)] [] σ_) ?_ ?_ n
  · intro v12_ v14_ v15_ σ_ hr; cases hr
  intro rec ih v12_ v14_ v15_ σ_ hr hw_
  refine r_iload (pc := 261) (j := 13) dL_draws_261 rfl ?_
  refine r_iload (pc := 263) (j := 11) dL_draws_263 rfl ?_
  refine r_icmp_ge (pc := 265) (tgt := 670) dL_draws_265 rfl (fun hc => ?_) (fun hc => ?_)
  · replace hr := ite_t hc hr
    exact r_pick (ls1 := [(0, .ref (ad g 1)), (1, .ref (ad g o1_)), (11, .ref (ad g o11_)), (12, .int v12_), (14, .int v14_)]) [0, 1, 9, 10, 12] rfl (hk670 v12_ v14_ σ_ hr hw_)
  replace hr := ite_f hc hr
  refine r_bipush (pc := 268) (v := (16 : Int32)) dL_draws_268 rfl ?_
  refine r_bipush (pc := 270) (v := (16 : Int32)) dL_draws_270 rfl ?_
  refine r_iload (pc := 272) (j := 12) dL_draws_272 rfl ?_
  refine r_imul (pc := 274) dL_draws_274 ?_
  refine r_iadd (pc := 275) dL_draws_275 ?_
  refine r_topi fun v110 ev110 => ?_
  replace hr := vthen_inv hr v110 ev110
  refine r_istore (pc := 276) (ls1 := [(16, .int v110), (0, .ref (ad g 1)), (1, .ref (ad g o1_)), (2, .ref (ad g o2_)), (3, .int u3_), (4, .int u4_), (7, .ref (ad g o7_)), (8, .ref (ad g o8_)), (9, .ref (ad g o9_)), (10, .ref (ad g o10_)), (11, .ref (ad g o11_)), (12, .int v12_), (13, .int u13_), (14, .int v14_), (15, .int v15_)]) dL_draws_276 (nle rfl) rfl ?_
  refine r_aload_n (pc := 278) (j := 2) dL_draws_278 rfl rfl ?_
  refine r_iload (pc := 279) (j := 0) dL_draws_279 rfl ?_
  refine r_iconst (pc := 281) (v := (1 : Int32)) dL_draws_281 rfl ?_
  refine r_aload_n (pc := 282) (j := 3) dL_draws_282 rfl rfl ?_
  obtain ⟨v111, σ114, eσ114, hr⟩ := bnd_inv hr
  refine qL_next (pc := 283) eσ114 tw_3_125 hz_ ⟨nle rfl, nle rfl⟩ (nle rfl) dL_draws_283 fun hσ114 => ?_
  refine r_iconst (pc := 286) (v := (2 : Int32)) dL_draws_286 rfl ?_
  refine r_irem (pc := 287) dL_draws_287 (by decide) ?_
  refine r_iadd (pc := 288) dL_draws_288 ?_
  obtain ⟨h115, hr⟩ := grd_inv hr
  refine y_iast (pc := 289) (j := (Int32.toNatClampNeg v110)) h115 rfl dL_draws_289 fun σ116 eσ116 => ?_
  replace hr := vthen_inv hr σ116 eσ116
  have hσ116 := wtI eσ116 hσ114
  refine r_aload_n (pc := 290) (j := 2) dL_draws_290 rfl rfl ?_
  refine r_iload (pc := 291) (j := 0) dL_draws_291 rfl ?_
  refine r_iconst (pc := 293) (v := (1 : Int32)) dL_draws_293 rfl ?_
  refine r_iadd (pc := 294) dL_draws_294 ?_
  refine r_iconst (pc := 295) (v := (0 : Int32)) dL_draws_295 rfl ?_
  obtain ⟨h117, hr⟩ := grd_inv hr
  refine y_iast (pc := 296) (j := (Int32.toNatClampNeg (v110 + (1 : Int32)))) h117 rfl dL_draws_296 fun σ118 eσ118 => ?_
  replace hr := vthen_inv hr σ118 eσ118
  have hσ118 := wtI eσ118 hσ116
  refine r_aload_n (pc := 297) (j := 2) dL_draws_297 rfl rfl ?_
  refine r_iload (pc := 298) (j := 0) dL_draws_298 rfl ?_
  refine r_iconst (pc := 300) (v := (2 : Int32)) dL_draws_300 rfl ?_
  refine r_iadd (pc := 301) dL_draws_301 ?_
  refine r_iconst (pc := 302) (v := (0 : Int32)) dL_draws_302 rfl ?_
  obtain ⟨h119, hr⟩ := grd_inv hr
  refine y_iast (pc := 303) (j := (Int32.toNatClampNeg (v110 + (2 : Int32)))) h119 rfl dL_draws_303 fun σ120 eσ120 => ?_
  replace hr := vthen_inv hr σ120 eσ120
  have hσ120 := wtI eσ120 hσ118
  refine r_aload_n (pc := 304) (j := 2) dL_draws_304 rfl rfl ?_
  refine r_iload (pc := 305) (j := 0) dL_draws_305 rfl ?_
  refine r_iconst (pc := 307) (v := (3 : Int32)) dL_draws_307 rfl ?_
  refine r_iadd (pc := 308) dL_draws_308 ?_
  refine r_aload_n (pc := 309) (j := 3) dL_draws_309 rfl rfl ?_
  obtain ⟨v121, σ124, eσ124, hr⟩ := bnd_inv hr
  refine qL_next (pc := 310) eσ124 tw_3_125 hz_ ⟨nle rfl, nle rfl⟩ (nle rfl) dL_draws_310 fun hσ124 => ?_
  refine r_bipush (pc := 313) (v := (10 : Int32)) dL_draws_313 rfl ?_
  refine r_irem (pc := 315) dL_draws_315 (by decide) ?_
  obtain ⟨h125, hr⟩ := grd_inv hr
  refine y_iast (pc := 316) (j := (Int32.toNatClampNeg (v110 + (3 : Int32)))) h125 rfl dL_draws_316 fun σ126 eσ126 => ?_
  replace hr := vthen_inv hr σ126 eσ126
  have hσ126 := wtI eσ126 hσ124
  refine r_iload (pc := 317) (j := 11) dL_draws_317 rfl ?_
  refine r_istore (pc := 319) (ls1 := [(17, .int v12_), (16, .int v110), (0, .ref (ad g 1)), (1, .ref (ad g o1_)), (2, .ref (ad g o2_)), (3, .int u3_), (4, .int u4_), (7, .ref (ad g o7_)), (8, .ref (ad g o8_)), (9, .ref (ad g o9_)), (10, .ref (ad g o10_)), (11, .ref (ad g o11_)), (12, .int v12_), (13, .int u13_), (14, .int v14_), (15, .int v15_)]) dL_draws_319 (nle rfl) rfl ?_
  refine r_aload (pc := 321) (j := 11) dL_draws_321 rfl ?_
  refine r_iload (pc := 323) (j := 12) dL_draws_323 rfl ?_
  refine r_aload_n (pc := 325) (j := 3) dL_draws_325 rfl rfl ?_
  refine r_iload (pc := 326) (j := 1) dL_draws_326 rfl ?_
  obtain ⟨h127, hr⟩ := grd_inv hr
  refine y_iald (pc := 328) (k := (Int32.toNatClampNeg v110)) h127 rfl dL_draws_328 ?_
  refine r_iconst (pc := 329) (v := (1 : Int32)) dL_draws_329 rfl ?_
  obtain ⟨j340, ej340, hr⟩ := vth_ex hr
  have hj340 : ∀ (s128 : Nat), j340 s128 = some r → RR g mL_draws (FinR g mL_draws (some (.int (b2i r.1))) NF r.2) (NF, zc_, zs_) 340 [(0, .ref (ad g 1)), (1, .ref (ad g o1_)), (2, .ref (ad g o2_)), (3, .int u3_), (4, .int u4_), (7, .ref (ad g o7_)), (8, .ref (ad g o8_)), (9, .ref (ad g o9_)), (10, .ref (ad g o10_)), (11, .ref (ad g o11_)), (13, .int u13_), (14, .int v14_), (15, .int v15_), (16, .int v110), (17, .int v12_)] [.ref (ad g s128), .int v12_, .ref (ad g o11_)] σ126 := by
    intro s128 hr
    replace hr := (congrFun ej340 s128).symm.trans hr
    obtain ⟨v129, σ132, eσ132, hr⟩ := bnd_inv hr
    refine qL_put (pc := 340) eσ132 tw_3_132 hz_ ⟨nle rfl, nle rfl⟩ (nle rfl) dL_draws_340 fun hσ132 => ?_
    refine r_istore (pc := 343) (ls1 := [(12, .int v129), (0, .ref (ad g 1)), (1, .ref (ad g o1_)), (2, .ref (ad g o2_)), (3, .int u3_), (4, .int u4_), (7, .ref (ad g o7_)), (8, .ref (ad g o8_)), (9, .ref (ad g o9_)), (10, .ref (ad g o10_)), (11, .ref (ad g o11_)), (13, .int u13_), (14, .int v14_), (15, .int v15_), (16, .int v110), (17, .int v12_)]) dL_draws_343 (nle rfl) rfl ?_
    refine r_iconst (pc := 345) (v := (1 : Int32)) dL_draws_345 rfl ?_
    refine r_aload_n (pc := 346) (j := 3) dL_draws_346 rfl rfl ?_
    obtain ⟨v133, σ136, eσ136, hr⟩ := bnd_inv hr
    refine qL_next (pc := 347) eσ136 tw_3_125 hz_ ⟨nle rfl, nle rfl⟩ (nle rfl) dL_draws_347 fun hσ136 => ?_
    refine r_iconst (pc := 350) (v := (5 : Int32)) dL_draws_350 rfl ?_
    refine r_irem (pc := 351) dL_draws_351 (by decide) ?_
    refine r_iadd (pc := 352) dL_draws_352 ?_
    refine r_topi fun v137 ev137 => ?_
    replace hr := vthen_inv hr v137 ev137
    refine r_istore (pc := 353) (ls1 := [(18, .int v137), (12, .int v129), (0, .ref (ad g 1)), (1, .ref (ad g o1_)), (2, .ref (ad g o2_)), (3, .int u3_), (4, .int u4_), (7, .ref (ad g o7_)), (8, .ref (ad g o8_)), (9, .ref (ad g o9_)), (10, .ref (ad g o10_)), (11, .ref (ad g o11_)), (13, .int u13_), (14, .int v14_), (15, .int v15_), (16, .int v110), (17, .int v12_)]) dL_draws_353 (nle rfl) rfl ?_
    refine r_iconst (pc := 355) (v := (0 : Int32)) dL_draws_355 rfl ?_
    refine r_istore (pc := 356) (ls1 := [(19, .int (0 : Int32)), (18, .int v137), (12, .int v129), (0, .ref (ad g 1)), (1, .ref (ad g o1_)), (2, .ref (ad g o2_)), (3, .int u3_), (4, .int u4_), (7, .ref (ad g o7_)), (8, .ref (ad g o8_)), (9, .ref (ad g o9_)), (10, .ref (ad g o10_)), (11, .ref (ad g o11_)), (13, .int u13_), (14, .int v14_), (15, .int v15_), (16, .int v110), (17, .int v12_)]) dL_draws_356 (nle rfl) rfl ?_
    refine r_pick (ls1 := [(0, .ref (ad g 1)), (1, .ref (ad g o1_)), (2, .ref (ad g o2_)), (3, .int u3_), (4, .int u4_), (7, .ref (ad g o7_)), (8, .ref (ad g o8_)), (9, .ref (ad g o9_)), (10, .ref (ad g o10_)), (11, .ref (ad g o11_)), (12, .int v129), (13, .int u13_), (14, .int v14_), (15, .int v15_), (16, .int v110), (17, .int v12_), (18, .int v137), (19, .int (0 : Int32))]) [3, 4, 5, 6, 7, 8, 9, 10, 11, 12, 2, 13, 14, 15, 16, 17, 1, 0] rfl ?_
    refine sL_draws_L358 hz_   (fun v177 σ178 hr hσ178 => ?_) fuel v129 (0 : Int32) σ136 hr hσ136
    refine r_aload_n (pc := 517) (j := 1) dL_draws_517 rfl rfl ?_
    refine r_iload (pc := 518) (j := 14) dL_draws_518 rfl ?_
    refine r_iconst (pc := 520) (v := (1 : Int32)) dL_draws_520 rfl ?_
    refine r_iadd (pc := 521) dL_draws_521 ?_
    obtain ⟨h179, hr⟩ := grd_inv hr
    refine y_iald (pc := 522) (k := (Int32.toNatClampNeg (v110 + (1 : Int32)))) h179 rfl dL_draws_522 ?_
    refine r_if_ne (pc := 523) (tgt := 533) dL_draws_523 rfl (fun hc => ?_) (fun hc => ?_)
    · replace hr := ite_f hc hr
      refine r_aload_n (pc := 533) (j := 1) dL_draws_533 rfl rfl ?_
      refine r_iload (pc := 534) (j := 14) dL_draws_534 rfl ?_
      refine r_iconst (pc := 536) (v := (2 : Int32)) dL_draws_536 rfl ?_
      refine r_iadd (pc := 537) dL_draws_537 ?_
      refine r_aload_n (pc := 538) (j := 2) dL_draws_538 rfl rfl ?_
      obtain ⟨v180, σ183, eσ183, hr⟩ := bnd_inv hr
      refine qL_next (pc := 539) eσ183 tw_3_125 hz_ ⟨nle rfl, nle rfl⟩ (nle rfl) dL_draws_539 fun hσ183 => ?_
      refine r_iconst (pc := 542) (v := (1 : Int32)) dL_draws_542 rfl ?_
      refine r_aload_n (pc := 543) (j := 1) dL_draws_543 rfl rfl ?_
      refine r_iload (pc := 544) (j := 14) dL_draws_544 rfl ?_
      refine r_iconst (pc := 546) (v := (1 : Int32)) dL_draws_546 rfl ?_
      refine r_iadd (pc := 547) dL_draws_547 ?_
      obtain ⟨h184, hr⟩ := grd_inv hr
      refine y_iald (pc := 548) (k := (Int32.toNatClampNeg (v110 + (1 : Int32)))) h184 rfl dL_draws_548 ?_
      refine r_ishl (pc := 549) dL_draws_549 ?_
      obtain ⟨h185, hr⟩ := grd_inv hr
      refine r_irem (pc := 550) dL_draws_550 (nz_ne h185) ?_
      obtain ⟨h186, hr⟩ := grd_inv hr
      refine y_iast (pc := 551) (j := (Int32.toNatClampNeg (v110 + (2 : Int32)))) h186 rfl dL_draws_551 fun σ187 eσ187 => ?_
      replace hr := vthen_inv hr σ187 eσ187
      have hσ187 := wtI eσ187 hσ183
      refine r_aload_n (pc := 552) (j := 1) dL_draws_552 rfl rfl ?_
      refine r_iload (pc := 553) (j := 14) dL_draws_553 rfl ?_
      refine r_iconst (pc := 555) (v := (2 : Int32)) dL_draws_555 rfl ?_
      refine r_iadd (pc := 556) dL_draws_556 ?_
      obtain ⟨h188, hr⟩ := grd_inv hr
      refine y_iald (pc := 557) (k := (Int32.toNatClampNeg (v110 + (2 : Int32)))) h188 rfl dL_draws_557 ?_
      obtain ⟨j629, ej629, hr⟩ := vth_ex hr
      have hj629 : ∀ (v189 : Int32) (σ190 : SS), j629 v189 σ190 = some r → WT σ190 → RR g mL_draws (FinR g mL_draws (some (.int (b2i r.1))) NF r.2) (NF, zc_, zs_) 629 [(0, .ref (ad g 1)), (1, .ref (ad g o1_)), (2, .ref (ad g o2_)), (3, .int u3_), (4, .int u4_), (7, .ref (ad g o7_)), (8, .ref (ad g o8_)), (9, .ref (ad g o9_)), (10, .ref (ad g o10_)), (11, .ref (ad g o11_)), (12, .int v189), (13, .int u13_), (14, .int v14_), (15, .int v15_), (16, .int v110)] [] σ190 := by
        intro v189 σ190 hr hσ190
        replace hr := (congrFun (congrFun ej629 v189) σ190).symm.trans hr
        refine r_aload (pc := 629) (j := 9) dL_draws_629 rfl ?_
        refine r_aload (pc := 631) (j := 9) dL_draws_631 rfl ?_
        refine r_iload (pc := 633) (j := 10) dL_draws_633 rfl ?_
        refine r_aload (pc := 635) (j := 8) dL_draws_635 rfl ?_
        obtain ⟨v191, σ194, eσ194, hr⟩ := bnd_inv hr
        refine qL_put (pc := 637) eσ194 tw_3_132 hz_ ⟨nle rfl, nle rfl⟩ (nle rfl) dL_draws_637 fun hσ194 => ?_
        refine r_aload_n (pc := 640) (j := 1) dL_draws_640 rfl rfl ?_
        refine r_iload (pc := 641) (j := 14) dL_draws_641 rfl ?_
        refine r_iconst (pc := 643) (v := (3 : Int32)) dL_draws_643 rfl ?_
        refine r_iadd (pc := 644) dL_draws_644 ?_
        obtain ⟨h195, hr⟩ := grd_inv hr
        refine y_iald (pc := 645) (k := (Int32.toNatClampNeg (v110 + (3 : Int32)))) h195 rfl dL_draws_645 ?_
        obtain ⟨v196, σ199, eσ199, hr⟩ := bnd_inv hr
        refine qL_number (pc := 646) eσ199 tw_3_135 hz_ ⟨nle rfl, nle rfl⟩ (nle rfl) dL_draws_646 fun hσ199 => ?_
        refine r_istore (pc := 649) (ls1 := [(12, .int v196), (0, .ref (ad g 1)), (1, .ref (ad g o1_)), (2, .ref (ad g o2_)), (3, .int u3_), (4, .int u4_), (7, .ref (ad g o7_)), (8, .ref (ad g o8_)), (9, .ref (ad g o9_)), (10, .ref (ad g o10_)), (11, .ref (ad g o11_)), (13, .int u13_), (14, .int v14_), (15, .int v15_), (16, .int v110)]) dL_draws_649 (nle rfl) rfl ?_
        refine r_aload (pc := 651) (j := 10) dL_draws_651 rfl ?_
        refine r_iload (pc := 653) (j := 0) dL_draws_653 rfl ?_
        refine r_bipush (pc := 655) (v := (59 : Int32)) dL_draws_655 rfl ?_
        obtain ⟨h200, hr⟩ := grd_inv hr
        refine y_iast (pc := 657) (j := (Int32.toNatClampNeg v196)) h200 rfl dL_draws_657 fun σ201 eσ201 => ?_
        replace hr := vthen_inv hr σ201 eσ201
        have hσ201 := wtI eσ201 hσ199
        refine r_iinc (pc := 658) (j := 0) (v := (v196 + (1 : Int32))) (ls1 := [(12, .int (v196 + (1 : Int32))), (0, .ref (ad g 1)), (1, .ref (ad g o1_)), (2, .ref (ad g o2_)), (3, .int u3_), (4, .int u4_), (7, .ref (ad g o7_)), (8, .ref (ad g o8_)), (9, .ref (ad g o9_)), (10, .ref (ad g o10_)), (11, .ref (ad g o11_)), (13, .int u13_), (14, .int v14_), (15, .int v15_), (16, .int v110)]) dL_draws_658 rfl rfl (nle rfl) rfl ?_
        refine r_iinc (pc := 661) (j := 12) (v := (v14_ + (1 : Int32))) (ls1 := [(14, .int (v14_ + (1 : Int32))), (12, .int (v196 + (1 : Int32))), (0, .ref (ad g 1)), (1, .ref (ad g o1_)), (2, .ref (ad g o2_)), (3, .int u3_), (4, .int u4_), (7, .ref (ad g o7_)), (8, .ref (ad g o8_)), (9, .ref (ad g o9_)), (10, .ref (ad g o10_)), (11, .ref (ad g o11_)), (13, .int u13_), (15, .int v15_), (16, .int v110)]) dL_draws_661 rfl rfl (nle rfl) rfl ?_
        refine r_iinc (pc := 664) (j := 13) (v := (v15_ + (1 : Int32))) (ls1 := [(15, .int (v15_ + (1 : Int32))), (14, .int (v14_ + (1 : Int32))), (12, .int (v196 + (1 : Int32))), (0, .ref (ad g 1)), (1, .ref (ad g o1_)), (2, .ref (ad g o2_)), (3, .int u3_), (4, .int u4_), (7, .ref (ad g o7_)), (8, .ref (ad g o8_)), (9, .ref (ad g o9_)), (10, .ref (ad g o10_)), (11, .ref (ad g o11_)), (13, .int u13_), (16, .int v110)]) dL_draws_664 rfl rfl (nle rfl) rfl ?_
        refine r_goto (pc := 667) (tgt := 261) dL_draws_667 rfl ?_
        exact r_pick (ls1 := [(0, .ref (ad g 1)), (1, .ref (ad g o1_)), (2, .ref (ad g o2_)), (3, .int u3_), (4, .int u4_), (7, .ref (ad g o7_)), (8, .ref (ad g o8_)), (9, .ref (ad g o9_)), (10, .ref (ad g o10_)), (11, .ref (ad g o11_)), (12, .int (v196 + (1 : Int32))), (13, .int u13_), (14, .int (v14_ + (1 : Int32))), (15, .int (v15_ + (1 : Int32)))]) [3, 4, 5, 6, 7, 8, 9, 10, 11, 12, 2, 13, 1, 0] rfl (ih (v196 + (1 : Int32)) (v14_ + (1 : Int32)) (v15_ + (1 : Int32)) σ201 hr hσ201)
      refine r_if_le (pc := 558) (tgt := 629) dL_draws_558 rfl (fun hc => ?_) (fun hc => ?_)
      · replace hr := ite_t hc hr
        exact r_pick (ls1 := [(0, .ref (ad g 1)), (1, .ref (ad g o1_)), (2, .ref (ad g o2_)), (3, .int u3_), (4, .int u4_), (7, .ref (ad g o7_)), (8, .ref (ad g o8_)), (9, .ref (ad g o9_)), (10, .ref (ad g o10_)), (11, .ref (ad g o11_)), (12, .int v177), (13, .int u13_), (14, .int v14_), (15, .int v15_), (16, .int v110)]) [0, 1, 2, 3, 4, 5, 6, 7, 8, 9, 10, 11, 12, 13, 14] rfl (hj629 v177 σ187 hr hσ187)
      replace hr := ite_f hc hr
      refine r_aload (pc := 561) (j := 9) dL_draws_561 rfl ?_
      refine r_iload (pc := 563) (j := 10) dL_draws_563 rfl ?_
      refine r_aload (pc := 565) (j := 7) dL_draws_565 rfl ?_
      obtain ⟨v202, σ205, eσ205, hr⟩ := bnd_inv hr
      refine qL_put (pc := 567) eσ205 tw_3_132 hz_ ⟨nle rfl, nle rfl⟩ (nle rfl) dL_draws_567 fun hσ205 => ?_
      refine r_istore (pc := 570) (ls1 := [(12, .int v202), (0, .ref (ad g 1)), (1, .ref (ad g o1_)), (2, .ref (ad g o2_)), (3, .int u3_), (4, .int u4_), (7, .ref (ad g o7_)), (8, .ref (ad g o8_)), (9, .ref (ad g o9_)), (10, .ref (ad g o10_)), (11, .ref (ad g o11_)), (13, .int u13_), (14, .int v14_), (15, .int v15_), (16, .int v110), (17, .int v12_)]) dL_draws_570 (nle rfl) rfl ?_
      refine r_iconst (pc := 572) (v := (0 : Int32)) dL_draws_572 rfl ?_
      refine r_istore (pc := 573) (ls1 := [(19, .int (0 : Int32)), (12, .int v202), (0, .ref (ad g 1)), (1, .ref (ad g o1_)), (2, .ref (ad g o2_)), (3, .int u3_), (4, .int u4_), (7, .ref (ad g o7_)), (8, .ref (ad g o8_)), (9, .ref (ad g o9_)), (10, .ref (ad g o10_)), (11, .ref (ad g o11_)), (13, .int u13_), (14, .int v14_), (15, .int v15_), (16, .int v110), (17, .int v12_)]) dL_draws_573 (nle rfl) rfl ?_
      refine r_pick (ls1 := [(0, .ref (ad g 1)), (1, .ref (ad g o1_)), (2, .ref (ad g o2_)), (3, .int u3_), (4, .int u4_), (7, .ref (ad g o7_)), (8, .ref (ad g o8_)), (9, .ref (ad g o9_)), (10, .ref (ad g o10_)), (11, .ref (ad g o11_)), (12, .int v202), (13, .int u13_), (14, .int v14_), (15, .int v15_), (16, .int v110), (19, .int (0 : Int32))]) [2, 3, 4, 5, 6, 7, 8, 9, 10, 11, 1, 12, 13, 14, 15, 0] rfl ?_
      refine sL_draws_L575 hz_   (fun v212 σ213 hr hσ213 => ?_) fuel v202 (0 : Int32) σ205 hr hσ205
      exact r_pick (ls1 := [(0, .ref (ad g 1)), (1, .ref (ad g o1_)), (2, .ref (ad g o2_)), (3, .int u3_), (4, .int u4_), (7, .ref (ad g o7_)), (8, .ref (ad g o8_)), (9, .ref (ad g o9_)), (10, .ref (ad g o10_)), (11, .ref (ad g o11_)), (12, .int v212), (13, .int u13_), (14, .int v14_), (15, .int v15_), (16, .int v110)]) [0, 1, 2, 3, 4, 5, 6, 7, 8, 9, 10, 11, 12, 13, 14] rfl (hj629 v212 σ213 hr hσ213)
    replace hr := ite_t hc hr
    refine r_iload (pc := 526) (j := 15) dL_draws_526 rfl ?_
    refine r_istore (pc := 528) (ls1 := [(12, .int v12_), (0, .ref (ad g 1)), (1, .ref (ad g o1_)), (2, .ref (ad g o2_)), (3, .int u3_), (4, .int u4_), (7, .ref (ad g o7_)), (8, .ref (ad g o8_)), (9, .ref (ad g o9_)), (10, .ref (ad g o10_)), (11, .ref (ad g o11_)), (13, .int u13_), (14, .int v14_), (15, .int v15_), (16, .int v110), (17, .int v12_)]) dL_draws_528 (nle rfl) rfl ?_
    refine r_goto (pc := 530) (tgt := 664) dL_draws_530 rfl ?_
    refine r_iinc (pc := 664) (j := 13) (v := (v15_ + (1 : Int32))) (ls1 := [(15, .int (v15_ + (1 : Int32))), (12, .int v12_), (0, .ref (ad g 1)), (1, .ref (ad g o1_)), (2, .ref (ad g o2_)), (3, .int u3_), (4, .int u4_), (7, .ref (ad g o7_)), (8, .ref (ad g o8_)), (9, .ref (ad g o9_)), (10, .ref (ad g o10_)), (11, .ref (ad g o11_)), (13, .int u13_), (14, .int v14_), (16, .int v110), (17, .int v12_)]) dL_draws_664 rfl rfl (nle rfl) rfl ?_
    refine r_goto (pc := 667) (tgt := 261) dL_draws_667 rfl ?_
    exact r_pick (ls1 := [(0, .ref (ad g 1)), (1, .ref (ad g o1_)), (2, .ref (ad g o2_)), (3, .int u3_), (4, .int u4_), (7, .ref (ad g o7_)), (8, .ref (ad g o8_)), (9, .ref (ad g o9_)), (10, .ref (ad g o10_)), (11, .ref (ad g o11_)), (12, .int v12_), (13, .int u13_), (14, .int v14_), (15, .int (v15_ + (1 : Int32)))]) [2, 3, 4, 5, 6, 7, 8, 9, 10, 11, 1, 12, 13, 0] rfl (ih v12_ v14_ (v15_ + (1 : Int32)) σ178 hr hσ178)
  refine r_icmp_ne (pc := 330) (tgt := 338) dL_draws_330 rfl (fun hc => ?_) (fun hc => ?_)
  · replace hr := ite_f hc hr
    refine r_aload (pc := 338) (j := 8) dL_draws_338 rfl ?_
    exact r_pick (ls1 := [(0, .ref (ad g 1)), (1, .ref (ad g o1_)), (2, .ref (ad g o2_)), (3, .int u3_), (4, .int u4_), (7, .ref (ad g o7_)), (8, .ref (ad g o8_)), (9, .ref (ad g o9_)), (10, .ref (ad g o10_)), (11, .ref (ad g o11_)), (13, .int u13_), (14, .int v14_), (15, .int v15_), (16, .int v110), (17, .int v12_)]) [2, 3, 4, 5, 6, 7, 8, 9, 10, 11, 13, 14, 15, 1, 0] rfl (hj340 o8_ hr)
  replace hr := ite_t hc hr
  refine r_aload (pc := 333) (j := 7) dL_draws_333 rfl ?_
  refine r_goto (pc := 335) (tgt := 340) dL_draws_335 rfl ?_
  exact r_pick (ls1 := [(0, .ref (ad g 1)), (1, .ref (ad g o1_)), (2, .ref (ad g o2_)), (3, .int u3_), (4, .int u4_), (7, .ref (ad g o7_)), (8, .ref (ad g o8_)), (9, .ref (ad g o9_)), (10, .ref (ad g o10_)), (11, .ref (ad g o11_)), (13, .int u13_), (14, .int v14_), (15, .int v15_), (16, .int v110), (17, .int v12_)]) [2, 3, 4, 5, 6, 7, 8, 9, 10, 11, 13, 14, 15, 1, 0] rfl (hj340 o7_ hr)

set_option maxRecDepth 20000 in
set_option maxHeartbeats 4000000 in
theorem sL_draws {g : GG} {σ : SS} {a1 : Nat} {a2 : Nat} {a3 : Int32} {a4 : Int32} {r : Bool × SS} (hr : fL_draws σ a1 a2 a3 a4 = some r)  : Ct g mL_draws [.ref (ad g 1), .ref (ad g a1), .ref (ad g a2), .int a3, .int a4] NF σ (some (.int (b2i r.1))) NF r.2 := by
  refine Ct.of (by decide +kernel) (nle rfl) fun hw0 => ?_
  have hw := hw0 rfl
  unfold fL_draws at hr
  change RR g mL_draws (FinR g mL_draws (some (.int (b2i r.1))) NF r.2) (NF, 0, 0) 0 [(0, .ref (ad g 1)), (1, .ref (ad g a1)), (2, .ref (ad g a2)), (3, .int a3), (4, .int a4)] [] σ
  refine r_iconst (pc := 0) (v := (4 : Int32)) dL_draws_0 rfl ?_
  refine y_new (pc := 1) (N := 4) tw_1_50 (by decide) rfl (nle rfl) ⟨nle rfl, nle rfl⟩ dL_draws_1 fun c2 ec2 σ1 eσ1 => ?_
  replace hr := vthen_inv hr c2 ec2
  replace hr := vthen_inv hr σ1 eσ1
  have hσ1 := wtM eσ1 hw
  change RR _ _ _ (NF, 1, 4) _ _ _ _
  refine r_dup (pc := 3) dL_draws_3 rfl ?_
  refine r_iconst (pc := 4) (v := (0 : Int32)) dL_draws_4 rfl ?_
  refine r_bipush (pc := 5) (v := (115 : Int32)) dL_draws_5 rfl ?_
  obtain ⟨h3, hr⟩ := grd_inv hr
  refine y_iast (pc := 7) (j := 0) h3 rfl dL_draws_7 fun σ4 eσ4 => ?_
  replace hr := vthen_inv hr σ4 eσ4
  have hσ4 := wtI eσ4 hσ1
  refine r_dup (pc := 8) dL_draws_8 rfl ?_
  refine r_iconst (pc := 9) (v := (1 : Int32)) dL_draws_9 rfl ?_
  refine r_bipush (pc := 10) (v := (105 : Int32)) dL_draws_10 rfl ?_
  obtain ⟨h5, hr⟩ := grd_inv hr
  refine y_iast (pc := 12) (j := 1) h5 rfl dL_draws_12 fun σ6 eσ6 => ?_
  replace hr := vthen_inv hr σ6 eσ6
  have hσ6 := wtI eσ6 hσ4
  refine r_dup (pc := 13) dL_draws_13 rfl ?_
  refine r_iconst (pc := 14) (v := (2 : Int32)) dL_draws_14 rfl ?_
  refine r_bipush (pc := 15) (v := (122 : Int32)) dL_draws_15 rfl ?_
  obtain ⟨h7, hr⟩ := grd_inv hr
  refine y_iast (pc := 17) (j := 2) h7 rfl dL_draws_17 fun σ8 eσ8 => ?_
  replace hr := vthen_inv hr σ8 eσ8
  have hσ8 := wtI eσ8 hσ6
  refine r_dup (pc := 18) dL_draws_18 rfl ?_
  refine r_iconst (pc := 19) (v := (3 : Int32)) dL_draws_19 rfl ?_
  refine r_bipush (pc := 20) (v := (101 : Int32)) dL_draws_20 rfl ?_
  obtain ⟨h9, hr⟩ := grd_inv hr
  refine y_iast (pc := 22) (j := 3) h9 rfl dL_draws_22 fun σ10 eσ10 => ?_
  replace hr := vthen_inv hr σ10 eσ10
  have hσ10 := wtI eσ10 hσ8
  refine r_astore (pc := 23) (ls1 := [(5, .ref (ad g c2)), (0, .ref (ad g 1)), (1, .ref (ad g a1)), (2, .ref (ad g a2)), (3, .int a3), (4, .int a4)]) dL_draws_23 (nle rfl) rfl ?_
  refine r_iconst (pc := 25) (v := (4 : Int32)) dL_draws_25 rfl ?_
  refine y_new (pc := 26) (N := 4) tw_1_50 (by decide) rfl (nle rfl) ⟨nle rfl, nle rfl⟩ dL_draws_26 fun c12 ec12 σ11 eσ11 => ?_
  replace hr := vthen_inv hr c12 ec12
  replace hr := vthen_inv hr σ11 eσ11
  have hσ11 := wtM eσ11 hσ10
  change RR _ _ _ (NF, 2, 8) _ _ _ _
  refine r_dup (pc := 28) dL_draws_28 rfl ?_
  refine r_iconst (pc := 29) (v := (0 : Int32)) dL_draws_29 rfl ?_
  refine r_bipush (pc := 30) (v := (59 : Int32)) dL_draws_30 rfl ?_
  obtain ⟨h13, hr⟩ := grd_inv hr
  refine y_iast (pc := 32) (j := 0) h13 rfl dL_draws_32 fun σ14 eσ14 => ?_
  replace hr := vthen_inv hr σ14 eσ14
  have hσ14 := wtI eσ14 hσ11
  refine r_dup (pc := 33) dL_draws_33 rfl ?_
  refine r_iconst (pc := 34) (v := (1 : Int32)) dL_draws_34 rfl ?_
  refine r_bipush (pc := 35) (v := (98 : Int32)) dL_draws_35 rfl ?_
  obtain ⟨h15, hr⟩ := grd_inv hr
  refine y_iast (pc := 37) (j := 1) h15 rfl dL_draws_37 fun σ16 eσ16 => ?_
  replace hr := vthen_inv hr σ16 eσ16
  have hσ16 := wtI eσ16 hσ14
  refine r_dup (pc := 38) dL_draws_38 rfl ?_
  refine r_iconst (pc := 39) (v := (2 : Int32)) dL_draws_39 rfl ?_
  refine r_bipush (pc := 40) (v := (111 : Int32)) dL_draws_40 rfl ?_
  obtain ⟨h17, hr⟩ := grd_inv hr
  refine y_iast (pc := 42) (j := 2) h17 rfl dL_draws_42 fun σ18 eσ18 => ?_
  replace hr := vthen_inv hr σ18 eσ18
  have hσ18 := wtI eσ18 hσ16
  refine r_dup (pc := 43) dL_draws_43 rfl ?_
  refine r_iconst (pc := 44) (v := (3 : Int32)) dL_draws_44 rfl ?_
  refine r_bipush (pc := 45) (v := (120 : Int32)) dL_draws_45 rfl ?_
  obtain ⟨h19, hr⟩ := grd_inv hr
  refine y_iast (pc := 47) (j := 3) h19 rfl dL_draws_47 fun σ20 eσ20 => ?_
  replace hr := vthen_inv hr σ20 eσ20
  have hσ20 := wtI eσ20 hσ18
  refine r_astore (pc := 48) (ls1 := [(6, .ref (ad g c12)), (5, .ref (ad g c2)), (0, .ref (ad g 1)), (1, .ref (ad g a1)), (2, .ref (ad g a2)), (3, .int a3), (4, .int a4)]) dL_draws_48 (nle rfl) rfl ?_
  refine r_iconst (pc := 50) (v := (3 : Int32)) dL_draws_50 rfl ?_
  refine y_new (pc := 51) (N := 3) tw_1_50 (by decide) rfl (nle rfl) ⟨nle rfl, nle rfl⟩ dL_draws_51 fun c22 ec22 σ21 eσ21 => ?_
  replace hr := vthen_inv hr c22 ec22
  replace hr := vthen_inv hr σ21 eσ21
  have hσ21 := wtM eσ21 hσ20
  change RR _ _ _ (NF, 3, 11) _ _ _ _
  refine r_dup (pc := 53) dL_draws_53 rfl ?_
  refine r_iconst (pc := 54) (v := (0 : Int32)) dL_draws_54 rfl ?_
  refine r_bipush (pc := 55) (v := (111 : Int32)) dL_draws_55 rfl ?_
  obtain ⟨h23, hr⟩ := grd_inv hr
  refine y_iast (pc := 57) (j := 0) h23 rfl dL_draws_57 fun σ24 eσ24 => ?_
  replace hr := vthen_inv hr σ24 eσ24
  have hσ24 := wtI eσ24 hσ21
  refine r_dup (pc := 58) dL_draws_58 rfl ?_
  refine r_iconst (pc := 59) (v := (1 : Int32)) dL_draws_59 rfl ?_
  refine r_bipush (pc := 60) (v := (110 : Int32)) dL_draws_60 rfl ?_
  obtain ⟨h25, hr⟩ := grd_inv hr
  refine y_iast (pc := 62) (j := 1) h25 rfl dL_draws_62 fun σ26 eσ26 => ?_
  replace hr := vthen_inv hr σ26 eσ26
  have hσ26 := wtI eσ26 hσ24
  refine r_dup (pc := 63) dL_draws_63 rfl ?_
  refine r_iconst (pc := 64) (v := (2 : Int32)) dL_draws_64 rfl ?_
  refine r_bipush (pc := 65) (v := (101 : Int32)) dL_draws_65 rfl ?_
  obtain ⟨h27, hr⟩ := grd_inv hr
  refine y_iast (pc := 67) (j := 2) h27 rfl dL_draws_67 fun σ28 eσ28 => ?_
  replace hr := vthen_inv hr σ28 eσ28
  have hσ28 := wtI eσ28 hσ26
  refine r_astore (pc := 68) (ls1 := [(7, .ref (ad g c22)), (6, .ref (ad g c12)), (5, .ref (ad g c2)), (0, .ref (ad g 1)), (1, .ref (ad g a1)), (2, .ref (ad g a2)), (3, .int a3), (4, .int a4)]) dL_draws_68 (nle rfl) rfl ?_
  refine r_iconst (pc := 70) (v := (4 : Int32)) dL_draws_70 rfl ?_
  refine y_new (pc := 71) (N := 4) tw_1_50 (by decide) rfl (nle rfl) ⟨nle rfl, nle rfl⟩ dL_draws_71 fun c30 ec30 σ29 eσ29 => ?_
  replace hr := vthen_inv hr c30 ec30
  replace hr := vthen_inv hr σ29 eσ29
  have hσ29 := wtM eσ29 hσ28
  change RR _ _ _ (NF, 4, 15) _ _ _ _
  refine r_dup (pc := 73) dL_draws_73 rfl ?_
  refine r_iconst (pc := 74) (v := (0 : Int32)) dL_draws_74 rfl ?_
  refine r_bipush (pc := 75) (v := (109 : Int32)) dL_draws_75 rfl ?_
  obtain ⟨h31, hr⟩ := grd_inv hr
  refine y_iast (pc := 77) (j := 0) h31 rfl dL_draws_77 fun σ32 eσ32 => ?_
  replace hr := vthen_inv hr σ32 eσ32
  have hσ32 := wtI eσ32 hσ29
  refine r_dup (pc := 78) dL_draws_78 rfl ?_
  refine r_iconst (pc := 79) (v := (1 : Int32)) dL_draws_79 rfl ?_
  refine r_bipush (pc := 80) (v := (97 : Int32)) dL_draws_80 rfl ?_
  obtain ⟨h33, hr⟩ := grd_inv hr
  refine y_iast (pc := 82) (j := 1) h33 rfl dL_draws_82 fun σ34 eσ34 => ?_
  replace hr := vthen_inv hr σ34 eσ34
  have hσ34 := wtI eσ34 hσ32
  refine r_dup (pc := 83) dL_draws_83 rfl ?_
  refine r_iconst (pc := 84) (v := (2 : Int32)) dL_draws_84 rfl ?_
  refine r_bipush (pc := 85) (v := (110 : Int32)) dL_draws_85 rfl ?_
  obtain ⟨h35, hr⟩ := grd_inv hr
  refine y_iast (pc := 87) (j := 2) h35 rfl dL_draws_87 fun σ36 eσ36 => ?_
  replace hr := vthen_inv hr σ36 eσ36
  have hσ36 := wtI eσ36 hσ34
  refine r_dup (pc := 88) dL_draws_88 rfl ?_
  refine r_iconst (pc := 89) (v := (3 : Int32)) dL_draws_89 rfl ?_
  refine r_bipush (pc := 90) (v := (121 : Int32)) dL_draws_90 rfl ?_
  obtain ⟨h37, hr⟩ := grd_inv hr
  refine y_iast (pc := 92) (j := 3) h37 rfl dL_draws_92 fun σ38 eσ38 => ?_
  replace hr := vthen_inv hr σ38 eσ38
  have hσ38 := wtI eσ38 hσ36
  refine r_astore (pc := 93) (ls1 := [(8, .ref (ad g c30)), (7, .ref (ad g c22)), (6, .ref (ad g c12)), (5, .ref (ad g c2)), (0, .ref (ad g 1)), (1, .ref (ad g a1)), (2, .ref (ad g a2)), (3, .int a3), (4, .int a4)]) dL_draws_93 (nle rfl) rfl ?_
  refine r_iconst (pc := 95) (v := (4 : Int32)) dL_draws_95 rfl ?_
  refine y_new (pc := 96) (N := 4) tw_1_50 (by decide) rfl (nle rfl) ⟨nle rfl, nle rfl⟩ dL_draws_96 fun c40 ec40 σ39 eσ39 => ?_
  replace hr := vthen_inv hr c40 ec40
  replace hr := vthen_inv hr σ39 eσ39
  have hσ39 := wtM eσ39 hσ38
  change RR _ _ _ (NF, 5, 19) _ _ _ _
  refine r_dup (pc := 98) dL_draws_98 rfl ?_
  refine r_iconst (pc := 99) (v := (0 : Int32)) dL_draws_99 rfl ?_
  refine r_bipush (pc := 100) (v := (32 : Int32)) dL_draws_100 rfl ?_
  obtain ⟨h41, hr⟩ := grd_inv hr
  refine y_iast (pc := 102) (j := 0) h41 rfl dL_draws_102 fun σ42 eσ42 => ?_
  replace hr := vthen_inv hr σ42 eσ42
  have hσ42 := wtI eσ42 hσ39
  refine r_dup (pc := 103) dL_draws_103 rfl ?_
  refine r_iconst (pc := 104) (v := (1 : Int32)) dL_draws_104 rfl ?_
  refine r_bipush (pc := 105) (v := (107 : Int32)) dL_draws_105 rfl ?_
  obtain ⟨h43, hr⟩ := grd_inv hr
  refine y_iast (pc := 107) (j := 1) h43 rfl dL_draws_107 fun σ44 eσ44 => ?_
  replace hr := vthen_inv hr σ44 eσ44
  have hσ44 := wtI eσ44 hσ42
  refine r_dup (pc := 108) dL_draws_108 rfl ?_
  refine r_iconst (pc := 109) (v := (2 : Int32)) dL_draws_109 rfl ?_
  refine r_bipush (pc := 110) (v := (101 : Int32)) dL_draws_110 rfl ?_
  obtain ⟨h45, hr⟩ := grd_inv hr
  refine y_iast (pc := 112) (j := 2) h45 rfl dL_draws_112 fun σ46 eσ46 => ?_
  replace hr := vthen_inv hr σ46 eσ46
  have hσ46 := wtI eσ46 hσ44
  refine r_dup (pc := 113) dL_draws_113 rfl ?_
  refine r_iconst (pc := 114) (v := (3 : Int32)) dL_draws_114 rfl ?_
  refine r_bipush (pc := 115) (v := (121 : Int32)) dL_draws_115 rfl ?_
  obtain ⟨h47, hr⟩ := grd_inv hr
  refine y_iast (pc := 117) (j := 3) h47 rfl dL_draws_117 fun σ48 eσ48 => ?_
  replace hr := vthen_inv hr σ48 eσ48
  have hσ48 := wtI eσ48 hσ46
  refine r_astore (pc := 118) (ls1 := [(9, .ref (ad g c40)), (8, .ref (ad g c30)), (7, .ref (ad g c22)), (6, .ref (ad g c12)), (5, .ref (ad g c2)), (0, .ref (ad g 1)), (1, .ref (ad g a1)), (2, .ref (ad g a2)), (3, .int a3), (4, .int a4)]) dL_draws_118 (nle rfl) rfl ?_
  refine r_bipush (pc := 120) (v := (6 : Int32)) dL_draws_120 rfl ?_
  refine y_new (pc := 122) (N := 6) tw_1_50 (by decide) rfl (nle rfl) ⟨nle rfl, nle rfl⟩ dL_draws_122 fun c50 ec50 σ49 eσ49 => ?_
  replace hr := vthen_inv hr c50 ec50
  replace hr := vthen_inv hr σ49 eσ49
  have hσ49 := wtM eσ49 hσ48
  change RR _ _ _ (NF, 6, 25) _ _ _ _
  refine r_dup (pc := 124) dL_draws_124 rfl ?_
  refine r_iconst (pc := 125) (v := (0 : Int32)) dL_draws_125 rfl ?_
  refine r_bipush (pc := 126) (v := (32 : Int32)) dL_draws_126 rfl ?_
  obtain ⟨h51, hr⟩ := grd_inv hr
  refine y_iast (pc := 128) (j := 0) h51 rfl dL_draws_128 fun σ52 eσ52 => ?_
  replace hr := vthen_inv hr σ52 eσ52
  have hσ52 := wtI eσ52 hσ49
  refine r_dup (pc := 129) dL_draws_129 rfl ?_
  refine r_iconst (pc := 130) (v := (1 : Int32)) dL_draws_130 rfl ?_
  refine r_bipush (pc := 131) (v := (119 : Int32)) dL_draws_131 rfl ?_
  obtain ⟨h53, hr⟩ := grd_inv hr
  refine y_iast (pc := 133) (j := 1) h53 rfl dL_draws_133 fun σ54 eσ54 => ?_
  replace hr := vthen_inv hr σ54 eσ54
  have hσ54 := wtI eσ54 hσ52
  refine r_dup (pc := 134) dL_draws_134 rfl ?_
  refine r_iconst (pc := 135) (v := (2 : Int32)) dL_draws_135 rfl ?_
  refine r_bipush (pc := 136) (v := (111 : Int32)) dL_draws_136 rfl ?_
  obtain ⟨h55, hr⟩ := grd_inv hr
  refine y_iast (pc := 138) (j := 2) h55 rfl dL_draws_138 fun σ56 eσ56 => ?_
  replace hr := vthen_inv hr σ56 eσ56
  have hσ56 := wtI eσ56 hσ54
  refine r_dup (pc := 139) dL_draws_139 rfl ?_
  refine r_iconst (pc := 140) (v := (3 : Int32)) dL_draws_140 rfl ?_
  refine r_bipush (pc := 141) (v := (114 : Int32)) dL_draws_141 rfl ?_
  obtain ⟨h57, hr⟩ := grd_inv hr
  refine y_iast (pc := 143) (j := 3) h57 rfl dL_draws_143 fun σ58 eσ58 => ?_
  replace hr := vthen_inv hr σ58 eσ58
  have hσ58 := wtI eσ58 hσ56
  refine r_dup (pc := 144) dL_draws_144 rfl ?_
  refine r_iconst (pc := 145) (v := (4 : Int32)) dL_draws_145 rfl ?_
  refine r_bipush (pc := 146) (v := (116 : Int32)) dL_draws_146 rfl ?_
  obtain ⟨h59, hr⟩ := grd_inv hr
  refine y_iast (pc := 148) (j := 4) h59 rfl dL_draws_148 fun σ60 eσ60 => ?_
  replace hr := vthen_inv hr σ60 eσ60
  have hσ60 := wtI eσ60 hσ58
  refine r_dup (pc := 149) dL_draws_149 rfl ?_
  refine r_iconst (pc := 150) (v := (5 : Int32)) dL_draws_150 rfl ?_
  refine r_bipush (pc := 151) (v := (104 : Int32)) dL_draws_151 rfl ?_
  obtain ⟨h61, hr⟩ := grd_inv hr
  refine y_iast (pc := 153) (j := 5) h61 rfl dL_draws_153 fun σ62 eσ62 => ?_
  replace hr := vthen_inv hr σ62 eσ62
  have hσ62 := wtI eσ62 hσ60
  refine r_astore (pc := 154) (ls1 := [(10, .ref (ad g c50)), (9, .ref (ad g c40)), (8, .ref (ad g c30)), (7, .ref (ad g c22)), (6, .ref (ad g c12)), (5, .ref (ad g c2)), (0, .ref (ad g 1)), (1, .ref (ad g a1)), (2, .ref (ad g a2)), (3, .int a3), (4, .int a4)]) dL_draws_154 (nle rfl) rfl ?_
  refine r_sipush (pc := 156) (v := (600 : Int32)) dL_draws_156 rfl ?_
  refine y_new (pc := 159) (N := 600) tw_1_50 (by decide) rfl (nle rfl) ⟨nle rfl, nle rfl⟩ dL_draws_159 fun c64 ec64 σ63 eσ63 => ?_
  replace hr := vthen_inv hr c64 ec64
  replace hr := vthen_inv hr σ63 eσ63
  have hσ63 := wtM eσ63 hσ62
  change RR _ _ _ (NF, 7, 625) _ _ _ _
  refine r_astore (pc := 161) (ls1 := [(11, .ref (ad g c64)), (10, .ref (ad g c50)), (9, .ref (ad g c40)), (8, .ref (ad g c30)), (7, .ref (ad g c22)), (6, .ref (ad g c12)), (5, .ref (ad g c2)), (0, .ref (ad g 1)), (1, .ref (ad g a1)), (2, .ref (ad g a2)), (3, .int a3), (4, .int a4)]) dL_draws_161 (nle rfl) rfl ?_
  refine r_aload_n (pc := 163) (j := 8) dL_draws_163 rfl rfl ?_
  refine r_iconst (pc := 164) (v := (1 : Int32)) dL_draws_164 rfl ?_
  refine r_iconst (pc := 165) (v := (1 : Int32)) dL_draws_165 rfl ?_
  refine r_aload_n (pc := 166) (j := 9) dL_draws_166 rfl rfl ?_
  obtain ⟨v65, σ68, eσ68, hr⟩ := bnd_inv hr
  refine qL_next (pc := 167) eσ68 tw_3_125 ⟨nle rfl, nle rfl⟩ ⟨nle rfl, nle rfl⟩ (nle rfl) dL_draws_167 fun hσ68 => ?_
  refine r_iconst (pc := 170) (v := (3 : Int32)) dL_draws_170 rfl ?_
  refine r_irem (pc := 171) dL_draws_171 (by decide) ?_
  refine r_iadd (pc := 172) dL_draws_172 ?_
  obtain ⟨h69, hr⟩ := grd_inv hr
  refine y_iast (pc := 173) (j := 1) h69 rfl dL_draws_173 fun σ70 eσ70 => ?_
  replace hr := vthen_inv hr σ70 eσ70
  have hσ70 := wtI eσ70 hσ68
  refine r_aload_n (pc := 174) (j := 8) dL_draws_174 rfl rfl ?_
  refine r_iconst (pc := 175) (v := (2 : Int32)) dL_draws_175 rfl ?_
  refine r_iconst (pc := 176) (v := (1 : Int32)) dL_draws_176 rfl ?_
  refine r_aload_n (pc := 177) (j := 9) dL_draws_177 rfl rfl ?_
  obtain ⟨v71, σ74, eσ74, hr⟩ := bnd_inv hr
  refine qL_next (pc := 178) eσ74 tw_3_125 ⟨nle rfl, nle rfl⟩ ⟨nle rfl, nle rfl⟩ (nle rfl) dL_draws_178 fun hσ74 => ?_
  refine r_iconst (pc := 181) (v := (3 : Int32)) dL_draws_181 rfl ?_
  refine r_irem (pc := 182) dL_draws_182 (by decide) ?_
  refine r_iadd (pc := 183) dL_draws_183 ?_
  obtain ⟨h75, hr⟩ := grd_inv hr
  refine y_iast (pc := 184) (j := 2) h75 rfl dL_draws_184 fun σ76 eσ76 => ?_
  replace hr := vthen_inv hr σ76 eσ76
  have hσ76 := wtI eσ76 hσ74
  refine r_aload (pc := 185) (j := 0) dL_draws_185 rfl ?_
  refine r_aload (pc := 187) (j := 0) dL_draws_187 rfl ?_
  refine r_aload (pc := 189) (j := 0) dL_draws_189 rfl ?_
  refine r_iconst (pc := 191) (v := (0 : Int32)) dL_draws_191 rfl ?_
  refine r_aload (pc := 192) (j := 6) dL_draws_192 rfl ?_
  obtain ⟨v77, σ80, eσ80, hr⟩ := bnd_inv hr
  refine qL_put (pc := 194) eσ80 tw_3_132 ⟨nle rfl, nle rfl⟩ ⟨nle rfl, nle rfl⟩ (nle rfl) dL_draws_194 fun hσ80 => ?_
  refine r_iload_n (pc := 197) (j := 10) dL_draws_197 rfl rfl ?_
  obtain ⟨v81, σ84, eσ84, hr⟩ := bnd_inv hr
  refine qL_number (pc := 198) eσ84 tw_3_135 ⟨nle rfl, nle rfl⟩ ⟨nle rfl, nle rfl⟩ (nle rfl) dL_draws_198 fun hσ84 => ?_
  refine r_iload (pc := 201) (j := 11) dL_draws_201 rfl ?_
  obtain ⟨v85, σ88, eσ88, hr⟩ := bnd_inv hr
  refine qL_number (pc := 203) eσ88 tw_3_135 ⟨nle rfl, nle rfl⟩ ⟨nle rfl, nle rfl⟩ (nle rfl) dL_draws_203 fun hσ88 => ?_
  refine r_istore (pc := 206) (ls1 := [(12, .int v85), (11, .ref (ad g c64)), (10, .ref (ad g c50)), (9, .ref (ad g c40)), (8, .ref (ad g c30)), (7, .ref (ad g c22)), (6, .ref (ad g c12)), (5, .ref (ad g c2)), (0, .ref (ad g 1)), (1, .ref (ad g a1)), (2, .ref (ad g a2)), (3, .int a3), (4, .int a4)]) dL_draws_206 (nle rfl) rfl ?_
  refine r_aload (pc := 208) (j := 1) dL_draws_208 rfl ?_
  refine r_aload (pc := 210) (j := 1) dL_draws_210 rfl ?_
  refine r_aload (pc := 212) (j := 1) dL_draws_212 rfl ?_
  refine r_iload (pc := 214) (j := 0) dL_draws_214 rfl ?_
  refine r_aload (pc := 216) (j := 6) dL_draws_216 rfl ?_
  obtain ⟨v89, σ92, eσ92, hr⟩ := bnd_inv hr
  refine qL_put (pc := 218) eσ92 tw_3_132 ⟨nle rfl, nle rfl⟩ ⟨nle rfl, nle rfl⟩ (nle rfl) dL_draws_218 fun hσ92 => ?_
  refine r_aload_n (pc := 221) (j := 9) dL_draws_221 rfl rfl ?_
  refine r_iconst (pc := 222) (v := (1 : Int32)) dL_draws_222 rfl ?_
  obtain ⟨h93, hr⟩ := grd_inv hr
  refine y_iald (pc := 223) (k := 1) h93 rfl dL_draws_223 ?_
  obtain ⟨v94, σ97, eσ97, hr⟩ := bnd_inv hr
  refine qL_number (pc := 224) eσ97 tw_3_135 ⟨nle rfl, nle rfl⟩ ⟨nle rfl, nle rfl⟩ (nle rfl) dL_draws_224 fun hσ97 => ?_
  refine r_aload_n (pc := 227) (j := 9) dL_draws_227 rfl rfl ?_
  refine r_iconst (pc := 228) (v := (2 : Int32)) dL_draws_228 rfl ?_
  obtain ⟨h98, hr⟩ := grd_inv hr
  refine y_iald (pc := 229) (k := 2) h98 rfl dL_draws_229 ?_
  obtain ⟨v99, σ102, eσ102, hr⟩ := bnd_inv hr
  refine qL_number (pc := 230) eσ102 tw_3_135 ⟨nle rfl, nle rfl⟩ ⟨nle rfl, nle rfl⟩ (nle rfl) dL_draws_230 fun hσ102 => ?_
  refine r_istore (pc := 233) (ls1 := [(12, .int v99), (11, .ref (ad g c64)), (10, .ref (ad g c50)), (9, .ref (ad g c40)), (8, .ref (ad g c30)), (7, .ref (ad g c22)), (6, .ref (ad g c12)), (5, .ref (ad g c2)), (0, .ref (ad g 1)), (1, .ref (ad g a1)), (2, .ref (ad g a2)), (3, .int a3), (4, .int a4)]) dL_draws_233 (nle rfl) rfl ?_
  refine r_aload (pc := 235) (j := 1) dL_draws_235 rfl ?_
  refine r_iload (pc := 237) (j := 0) dL_draws_237 rfl ?_
  refine r_bipush (pc := 239) (v := (59 : Int32)) dL_draws_239 rfl ?_
  obtain ⟨h103, hr⟩ := grd_inv hr
  refine y_iast (pc := 241) (j := (Int32.toNatClampNeg v99)) h103 rfl dL_draws_241 fun σ104 eσ104 => ?_
  replace hr := vthen_inv hr σ104 eσ104
  have hσ104 := wtI eσ104 hσ102
  refine r_iinc (pc := 242) (j := 0) (v := (v99 + (1 : Int32))) (ls1 := [(12, .int (v99 + (1 : Int32))), (11, .ref (ad g c64)), (10, .ref (ad g c50)), (9, .ref (ad g c40)), (8, .ref (ad g c30)), (7, .ref (ad g c22)), (6, .ref (ad g c12)), (5, .ref (ad g c2)), (0, .ref (ad g 1)), (1, .ref (ad g a1)), (2, .ref (ad g a2)), (3, .int a3), (4, .int a4)]) dL_draws_242 rfl rfl (nle rfl) rfl ?_
  refine r_iconst (pc := 245) (v := (1 : Int32)) dL_draws_245 rfl ?_
  refine r_aload_n (pc := 246) (j := 10) dL_draws_246 rfl rfl ?_
  obtain ⟨v105, σ108, eσ108, hr⟩ := bnd_inv hr
  refine qL_next (pc := 247) eσ108 tw_3_125 ⟨nle rfl, nle rfl⟩ ⟨nle rfl, nle rfl⟩ (nle rfl) dL_draws_247 fun hσ108 => ?_
  refine r_iconst (pc := 250) (v := (5 : Int32)) dL_draws_250 rfl ?_
  refine r_irem (pc := 251) dL_draws_251 (by decide) ?_
  refine r_iadd (pc := 252) dL_draws_252 ?_
  refine r_topi fun v109 ev109 => ?_
  replace hr := vthen_inv hr v109 ev109
  refine r_istore (pc := 253) (ls1 := [(13, .int v109), (12, .int (v99 + (1 : Int32))), (11, .ref (ad g c64)), (10, .ref (ad g c50)), (9, .ref (ad g c40)), (8, .ref (ad g c30)), (7, .ref (ad g c22)), (6, .ref (ad g c12)), (5, .ref (ad g c2)), (0, .ref (ad g 1)), (1, .ref (ad g a1)), (2, .ref (ad g a2)), (3, .int a3), (4, .int a4)]) dL_draws_253 (nle rfl) rfl ?_
  refine r_iconst (pc := 255) (v := (0 : Int32)) dL_draws_255 rfl ?_
  refine r_istore (pc := 256) (ls1 := [(14, .int (0 : Int32)), (13, .int v109), (12, .int (v99 + (1 : Int32))), (11, .ref (ad g c64)), (10, .ref (ad g c50)), (9, .ref (ad g c40)), (8, .ref (ad g c30)), (7, .ref (ad g c22)), (6, .ref (ad g c12)), (5, .ref (ad g c2)), (0, .ref (ad g 1)), (1, .ref (ad g a1)), (2, .ref (ad g a2)), (3, .int a3), (4, .int a4)]) dL_draws_256 (nle rfl) rfl ?_
  refine r_iconst (pc := 258) (v := (0 : Int32)) dL_draws_258 rfl ?_
  refine r_istore (pc := 259) (ls1 := [(15, .int (0 : Int32)), (14, .int (0 : Int32)), (13, .int v109), (12, .int (v99 + (1 : Int32))), (11, .ref (ad g c64)), (10, .ref (ad g c50)), (9, .ref (ad g c40)), (8, .ref (ad g c30)), (7, .ref (ad g c22)), (6, .ref (ad g c12)), (5, .ref (ad g c2)), (0, .ref (ad g 1)), (1, .ref (ad g a1)), (2, .ref (ad g a2)), (3, .int a3), (4, .int a4)]) dL_draws_259 (nle rfl) rfl ?_
  refine r_pick (ls1 := [(0, .ref (ad g 1)), (1, .ref (ad g a1)), (2, .ref (ad g a2)), (3, .int a3), (4, .int a4), (7, .ref (ad g c22)), (8, .ref (ad g c30)), (9, .ref (ad g c40)), (10, .ref (ad g c50)), (11, .ref (ad g c64)), (12, .int (v99 + (1 : Int32))), (13, .int v109), (14, .int (0 : Int32)), (15, .int (0 : Int32))]) [11, 12, 13, 14, 15, 8, 7, 6, 5, 4, 3, 2, 1, 0] rfl ?_
  refine sL_draws_L261 ⟨nle rfl, nle rfl⟩   (fun v214 v215 σ216 hr hσ216 => ?_) fuel (v99 + (1 : Int32)) (0 : Int32) (0 : Int32) σ108 hr hσ108
  refine r_aload_n (pc := 670) (j := 1) dL_draws_670 rfl rfl ?_
  refine r_iconst (pc := 671) (v := (0 : Int32)) dL_draws_671 rfl ?_
  refine r_iload (pc := 672) (j := 4) dL_draws_672 rfl ?_
  obtain ⟨h217, hr⟩ := grd_inv hr
  refine y_iast (pc := 674) (j := 0) h217 rfl dL_draws_674 fun σ218 eσ218 => ?_
  replace hr := vthen_inv hr σ218 eσ218
  have hσ218 := wtI eσ218 hσ216
  refine r_aload_n (pc := 675) (j := 0) dL_draws_675 rfl rfl ?_
  refine r_aload (pc := 676) (j := 2) dL_draws_676 rfl ?_
  refine r_iload (pc := 678) (j := 3) dL_draws_678 rfl ?_
  obtain ⟨σ219, eσ219, hr⟩ := bnd1_inv hr
  refine qL_tell (pc := 680) eσ219 tw_3_141 ⟨nle rfl, nle rfl⟩ ⟨nle rfl, nle rfl⟩ (nle rfl) dL_draws_680 fun hσ219 => ?_
  change RR _ _ _ (NF, 31, 745) _ _ _ _
  refine r_iload (pc := 683) (j := 3) dL_draws_683 rfl ?_
  refine r_sipush (pc := 685) (v := (400 : Int32)) dL_draws_685 rfl ?_
  obtain ⟨j725, ej725, hr⟩ := vth_ex hr
  have hj725 : ∀ (σ220 : SS), j725 σ220 = some r → WT σ220 → RR g mL_draws (FinR g mL_draws (some (.int (b2i r.1))) NF r.2) (NF, 31, 745) 725 [] [] σ220 := by
    intro σ220 hr hσ220
    replace hr := (congrFun ej725 σ220).symm.trans hr
    refine r_iconst (pc := 725) (v := (0 : Int32)) dL_draws_725 rfl ?_
    exact l_osz hr (r_zret (pc := 726) (v := b2i false) (ty := .boolean) rfl (b2i_nar _) rfl ⟨nle rfl, nle rfl⟩ dL_draws_726)
  refine r_icmp_gt (pc := 688) (tgt := 725) dL_draws_688 rfl (fun hc => ?_) (fun hc => ?_)
  · replace hr := ite_t hc hr
    exact r_pick (ls1 := []) [] rfl (hj725 σ219 hr hσ219)
  replace hr := ite_f hc hr
  refine r_aload_n (pc := 691) (j := 0) dL_draws_691 rfl rfl ?_
  refine r_iload (pc := 692) (j := 3) dL_draws_692 rfl ?_
  obtain ⟨v221, σ224, eσ224, hr⟩ := bnd_inv hr
  refine qX7_form (pc := 694) eσ224 tw_3_152 ⟨nle rfl, nle rfl⟩ ⟨nle rfl, nle rfl⟩ (nle rfl) dL_draws_694 fun hσ224 => ?_
  refine r_iload (pc := 697) (j := 4) dL_draws_697 rfl ?_
  refine r_icmp_ne (pc := 699) (tgt := 725) dL_draws_699 rfl (fun hc => ?_) (fun hc => ?_)
  · replace hr := ite_f hc hr
    exact r_pick (ls1 := []) [] rfl (hj725 σ224 hr hσ224)
  replace hr := ite_t hc hr
  refine r_aload_n (pc := 702) (j := 0) dL_draws_702 rfl rfl ?_
  refine r_iconst (pc := 703) (v := (2 : Int32)) dL_draws_703 rfl ?_
  obtain ⟨v225, hv225, hr⟩ := bnd1_inv hr
  refine qX7_count (pc := 704) hv225 tw_2_146 ⟨nle rfl, nle rfl⟩ ⟨nle rfl, nle rfl⟩ (nle rfl) dL_draws_704 ?_
  refine r_iload (pc := 707) (j := 4) dL_draws_707 rfl ?_
  refine r_icmp_ne (pc := 709) (tgt := 725) dL_draws_709 rfl (fun hc => ?_) (fun hc => ?_)
  · replace hr := ite_f hc hr
    exact r_pick (ls1 := []) [] rfl (hj725 σ224 hr hσ224)
  replace hr := ite_t hc hr
  refine r_aload_n (pc := 712) (j := 0) dL_draws_712 rfl rfl ?_
  refine r_bipush (pc := 713) (v := (8 : Int32)) dL_draws_713 rfl ?_
  obtain ⟨v228, hv228, hr⟩ := bnd1_inv hr
  refine qX7_count (pc := 715) hv228 tw_2_146 ⟨nle rfl, nle rfl⟩ ⟨nle rfl, nle rfl⟩ (nle rfl) dL_draws_715 ?_
  refine r_if_ne (pc := 718) (tgt := 725) dL_draws_718 rfl (fun hc => ?_) (fun hc => ?_)
  · replace hr := ite_f hc hr
    exact r_pick (ls1 := []) [] rfl (hj725 σ224 hr hσ224)
  replace hr := ite_t hc hr
  refine r_iconst (pc := 721) (v := (1 : Int32)) dL_draws_721 rfl ?_
  refine r_goto (pc := 722) (tgt := 726) dL_draws_722 rfl ?_
  exact l_osz hr (r_zret (pc := 726) (v := b2i true) (ty := .boolean) rfl (b2i_nar _) rfl ⟨nle rfl, nle rfl⟩ dL_draws_726)

theorem qL_draws {g : GG} {σ : SS} {a1 : Nat} {a2 : Nat} {a3 : Int32} {a4 : Int32} {v : Bool} {σ2 : SS} {M : MM} {F : State → Array Value → List Frame → State → Prop} {zc zs pc index : Nat} {ls : List (Nat × Value)} {rest : List Value} (hf : fL_draws σ a1 a2 a3 a4 = some (v, σ2))  (hl : Cond.methodLink M.1.cls index yL_draws ∈ lw_gt) (hz : zc + 31 ≤ M.2.2.2.2.cells ∧ zs + 745 ≤ M.2.2.2.2.slots) (hR : mL_draws.2.2.2.2.frames + 1 ≤ M.2.2.2.2.frames ∧ 8 + (mL_draws.2.2.1 + 11) + mL_draws.2.2.2.2.locals ≤ M.2.2.2.2.locals) (hrest : (rest.map fun v => v.category).sum ≤ 8) (hd : decode M.2.1 pc = .ok (.invokestatic index, 3)) (k : WT σ2 → RR g M F (NF, zc + 31, zs + 745) (pc + 3) ls (.int (b2i v) :: rest) σ2) : RR g M F (NF, zc, zs) pc ls (.int a4 :: .int a3 :: .ref (ad g a2) :: .ref (ad g a1) :: .ref (ad g 1) :: rest) σ :=
  r_callS (z := (NF, zc, zs)) (N := mL_draws) (nn := 5) (o1 := some (.int (b2i v))) (sL_draws hf ) tw_3_131 tw_1_0 hl tw_3_130 ⟨by decide, by decide, rfl⟩ hR rfl hrest hd hz rfl (fun h => k (h rfl))

