/-! The law's own walk: from any relation that every one of the 43 calls keeps, the law comes to its end with true. -/
def R_law : String := "SheetReaderLaw"
def lw_P (b : Addr) (xs : List Int32) (args : Array Value) (s : State) : Prop := args = #[.ref b] ∧ s.IntsAt b xs ∧ xs.length ≤ 3584 ∧ (Jvm.Cond.and given_1 narrow_1).before args s = true
def lw_Q (_ : Array Value) (s : State) (o : Outcome) (t : State) : Prop := o = .returned (some (.int 1)) ∧ Framed s o t [] 600000 7302250
def lw_Z (below : List Frame) (a : Array Value) (s : State) : State → Prop := fun t => ∃ o, t.status = .running ∧ Ended t below o ∧ lw_Q a s o t
def mL : MM := (⟨R_law, "law", "([I)Z"⟩, code, 4, some .boolean, room_1)
def FL (g : GG) : State → Array Value → List Frame → State → Prop := fun s args below => MQ below (fun _ _ oc _ => oc = .returned (some (.int 1))) args s 600000 7302250 (AA g)
abbrev sl (g : GG) : Nat := g.2.2.2.2.2.1
abbrev xs (g : GG) : Nat → Int32 := g.2.2.2.2.2.2
/-- the room that the made world takes -/
def cL : Nat := 38573
abbrev zL : Nat × Nat × Nat := (NF, 113, cL)
theorem lawC : (113 : Nat) ≤ 600000 ∧ cL ≤ 7302250 := ⟨by decide, by unfold cL; decide⟩
theorem lawF {N : MM} (h1 : N.2.2.2.2.cells = 0) (h2 : N.2.2.2.2.slots = 0) : zL.2.1 + N.2.2.2.2.cells ≤ mL.2.2.2.2.cells ∧ zL.2.2 + N.2.2.2.2.slots ≤ mL.2.2.2.2.slots := by
  rw [h1, h2]; exact lawC
theorem lawE : zL.2.1 ≤ 600000 ∧ zL.2.2 ≤ 7302250 := lawC
section ROWSL
variable {g : GG} {M : MM} {F : State → Array Value → List Frame → State → Prop} {z : Nat × Nat × Nat} {pc : Nat} {ls : List (Nat × Value)} {rest : List Value} {σ : SS}
theorem ko_scr {s : State} (o : Ko g s) : va_T .int (ad g 1030) (sl g) (fun j => .int (xs g j)) (AA g) s s.heap := o.2.2.2.2.2.2.2.2.2.2
theorem r_scr {i j : Nat} {x : Int32} (hx : x = nI (i + j)) (hj : i + j < sl g ∧ sl g ≤ 3584) (hd : decode M.2.1 pc = .ok (.iaload, 1)) (k : RR g M F z (pc + 1) ls (.int (xs g (i + j)) :: rest) σ) : RR g M F z pc ls (.int x :: .ref (ad g 1030) :: rest) σ := by
  subst hx
  exact fun _ _ _ _ _ _ _ _ _ _ _ C w o v aa l => va_ti C.1 C.2.1 (ko_scr o) v (nI_in hj.1 (by omega)) (by show Value.int (xs g (nI (i + j)).toNatClampNeg) = _; rw [nI_clamp (by omega)]) hd (k _ _ _ _ _ _ _ _ _ _ _ C w o v aa l)
theorem r_scl (hd : decode M.2.1 pc = .ok (.arraylength, 1)) (k : RR g M F z (pc + 1) ls (.int (nI (sl g)) :: rest) σ) : RR g M F z pc ls (.ref (ad g 1030) :: rest) σ :=
  fun _ _ _ _ _ _ _ _ _ _ _ C w o v aa l => va_tlen C.1 C.2.1 (ko_scr o) v rfl hd (k _ _ _ _ _ _ _ _ _ _ _ C w o v aa l)
theorem r_lend {pc : Nat} (hc : z.2.1 ≤ 600000 ∧ z.2.2 ≤ 7302250) (hd : decode code pc = .ok (.ireturn, 1)) : RR g mL (FL g) z pc ls [.int 1] σ :=
  fun _ _ _ _ _ _ _ _ _ _ _ C w o vS a l => fin_q (M := mL) hc.1 hc.2 (W.zret C.1 C.2.1 (C.2.2.2.2.2.1.trans rfl) (by decide +kernel) (fun t ht _ => rfl) vS.2.2 hd C.2.2.2.2.2.2.1)
theorem r_seal {k sl : Nat} (hw : WT σ) (kk : RR g M F (114, k, sl) pc ls rest σ) : RR g M F (113, k, sl) pc ls rest σ := fun _ _ _ _ _ _ _ _ _ _ _ C w o v a l => kk _ _ _ _ _ _ _ _ _ _ _ C (w.seal hw) o v a l
end ROWSL
theorem dL_law_0 : decode cL_law 0 = .ok (.new 7, 3) := by decide +kernel
theorem dL_law_3 : decode cL_law 3 = .ok (.dup, 1) := by decide +kernel
theorem dL_law_4 : decode cL_law 4 = .ok (.invokespecial 9, 3) := by decide +kernel
theorem dL_law_7 : decode cL_law 7 = .ok (.astore_n 1, 1) := by decide +kernel
theorem dL_law_8 : decode cL_law 8 = .ok (.new 10, 3) := by decide +kernel
theorem dL_law_11 : decode cL_law 11 = .ok (.dup, 1) := by decide +kernel
theorem dL_law_12 : decode cL_law 12 = .ok (.invokespecial 12, 3) := by decide +kernel
theorem dL_law_15 : decode cL_law 15 = .ok (.astore_n 2, 1) := by decide +kernel
theorem dL_law_16 : decode cL_law 16 = .ok (.iconst 0, 1) := by decide +kernel
theorem dL_law_17 : decode cL_law 17 = .ok (.istore_n 3, 1) := by decide +kernel
theorem dL_law_18 : decode cL_law 18 = .ok (.iload_n 3, 1) := by decide +kernel
theorem dL_law_19 : decode cL_law 19 = .ok (.aload_n 0, 1) := by decide +kernel
theorem dL_law_20 : decode cL_law 20 = .ok (.arraylength, 1) := by decide +kernel
theorem dL_law_21 : decode cL_law 21 = .ok (.bipush 7, 2) := by decide +kernel
theorem dL_law_23 : decode cL_law 23 = .ok (.isub, 1) := by decide +kernel
theorem dL_law_24 : decode cL_law 24 = .ok (.if_icmp .gt 1423, 3) := by decide +kernel
theorem dL_law_27 : decode cL_law 27 = .ok (.aload_n 0, 1) := by decide +kernel
theorem dL_law_28 : decode cL_law 28 = .ok (.iload_n 3, 1) := by decide +kernel
theorem dL_law_29 : decode cL_law 29 = .ok (.iaload, 1) := by decide +kernel
theorem dL_law_30 : decode cL_law 30 = .ok (.bipush 63, 2) := by decide +kernel
theorem dL_law_32 : decode cL_law 32 = .ok (.iand, 1) := by decide +kernel
theorem dL_law_33 : decode cL_law 33 = .ok (.tableswitch 1408 0 42 #[187, 250, 273, 296, 329, 362, 395, 418, 481, 514, 537, 560, 583, 658, 691, 704, 717, 730, 753, 776, 809, 832, 845, 868, 911, 944, 977, 1000, 1033, 1056, 1089, 1132, 1165, 1188, 1201, 1214, 1227, 1260, 1293, 1326, 1349, 1372, 1395], 187) := by decide +kernel
theorem dL_law_220 : decode cL_law 220 = .ok (.aload_n 1, 1) := by decide +kernel
theorem dL_law_221 : decode cL_law 221 = .ok (.aload_n 0, 1) := by decide +kernel
theorem dL_law_222 : decode cL_law 222 = .ok (.iload_n 3, 1) := by decide +kernel
theorem dL_law_223 : decode cL_law 223 = .ok (.iconst 1, 1) := by decide +kernel
theorem dL_law_224 : decode cL_law 224 = .ok (.iadd, 1) := by decide +kernel
theorem dL_law_225 : decode cL_law 225 = .ok (.iaload, 1) := by decide +kernel
theorem dL_law_226 : decode cL_law 226 = .ok (.aload_n 0, 1) := by decide +kernel
theorem dL_law_227 : decode cL_law 227 = .ok (.iload_n 3, 1) := by decide +kernel
theorem dL_law_228 : decode cL_law 228 = .ok (.iconst 2, 1) := by decide +kernel
theorem dL_law_229 : decode cL_law 229 = .ok (.iadd, 1) := by decide +kernel
theorem dL_law_230 : decode cL_law 230 = .ok (.iaload, 1) := by decide +kernel
theorem dL_law_231 : decode cL_law 231 = .ok (.aload_n 0, 1) := by decide +kernel
theorem dL_law_232 : decode cL_law 232 = .ok (.iload_n 3, 1) := by decide +kernel
theorem dL_law_233 : decode cL_law 233 = .ok (.iconst 3, 1) := by decide +kernel
theorem dL_law_234 : decode cL_law 234 = .ok (.iadd, 1) := by decide +kernel
theorem dL_law_235 : decode cL_law 235 = .ok (.iaload, 1) := by decide +kernel
theorem dL_law_236 : decode cL_law 236 = .ok (.aload_n 0, 1) := by decide +kernel
theorem dL_law_237 : decode cL_law 237 = .ok (.iload_n 3, 1) := by decide +kernel
theorem dL_law_238 : decode cL_law 238 = .ok (.iconst 4, 1) := by decide +kernel
theorem dL_law_239 : decode cL_law 239 = .ok (.iadd, 1) := by decide +kernel
theorem dL_law_240 : decode cL_law 240 = .ok (.iaload, 1) := by decide +kernel
theorem dL_law_241 : decode cL_law 241 = .ok (.aload_n 0, 1) := by decide +kernel
theorem dL_law_242 : decode cL_law 242 = .ok (.iload_n 3, 1) := by decide +kernel
theorem dL_law_243 : decode cL_law 243 = .ok (.iconst 5, 1) := by decide +kernel
theorem dL_law_244 : decode cL_law 244 = .ok (.iadd, 1) := by decide +kernel
theorem dL_law_245 : decode cL_law 245 = .ok (.iaload, 1) := by decide +kernel
theorem dL_law_246 : decode cL_law 246 = .ok (.invokevirtual 13, 3) := by decide +kernel
theorem dL_law_249 : decode cL_law 249 = .ok (.aload_n 2, 1) := by decide +kernel
theorem dL_law_250 : decode cL_law 250 = .ok (.aload_n 0, 1) := by decide +kernel
theorem dL_law_251 : decode cL_law 251 = .ok (.iload_n 3, 1) := by decide +kernel
theorem dL_law_252 : decode cL_law 252 = .ok (.iconst 1, 1) := by decide +kernel
theorem dL_law_253 : decode cL_law 253 = .ok (.iadd, 1) := by decide +kernel
theorem dL_law_254 : decode cL_law 254 = .ok (.iaload, 1) := by decide +kernel
theorem dL_law_255 : decode cL_law 255 = .ok (.aload_n 0, 1) := by decide +kernel
theorem dL_law_256 : decode cL_law 256 = .ok (.iload_n 3, 1) := by decide +kernel
theorem dL_law_257 : decode cL_law 257 = .ok (.iconst 2, 1) := by decide +kernel
theorem dL_law_258 : decode cL_law 258 = .ok (.iadd, 1) := by decide +kernel
theorem dL_law_259 : decode cL_law 259 = .ok (.iaload, 1) := by decide +kernel
theorem dL_law_260 : decode cL_law 260 = .ok (.aload_n 0, 1) := by decide +kernel
theorem dL_law_261 : decode cL_law 261 = .ok (.iload_n 3, 1) := by decide +kernel
theorem dL_law_262 : decode cL_law 262 = .ok (.iconst 3, 1) := by decide +kernel
theorem dL_law_263 : decode cL_law 263 = .ok (.iadd, 1) := by decide +kernel
theorem dL_law_264 : decode cL_law 264 = .ok (.iaload, 1) := by decide +kernel
theorem dL_law_265 : decode cL_law 265 = .ok (.aload_n 0, 1) := by decide +kernel
theorem dL_law_266 : decode cL_law 266 = .ok (.iload_n 3, 1) := by decide +kernel
theorem dL_law_267 : decode cL_law 267 = .ok (.iconst 4, 1) := by decide +kernel
theorem dL_law_268 : decode cL_law 268 = .ok (.iadd, 1) := by decide +kernel
theorem dL_law_269 : decode cL_law 269 = .ok (.iaload, 1) := by decide +kernel
theorem dL_law_270 : decode cL_law 270 = .ok (.aload_n 0, 1) := by decide +kernel
theorem dL_law_271 : decode cL_law 271 = .ok (.iload_n 3, 1) := by decide +kernel
theorem dL_law_272 : decode cL_law 272 = .ok (.iconst 5, 1) := by decide +kernel
theorem dL_law_273 : decode cL_law 273 = .ok (.iadd, 1) := by decide +kernel
theorem dL_law_274 : decode cL_law 274 = .ok (.iaload, 1) := by decide +kernel
theorem dL_law_275 : decode cL_law 275 = .ok (.invokevirtual 17, 3) := by decide +kernel
theorem dL_law_278 : decode cL_law 278 = .ok (.if_icmp .eq 1163, 3) := by decide +kernel
theorem dL_law_281 : decode cL_law 281 = .ok (.iconst 0, 1) := by decide +kernel
theorem dL_law_282 : decode cL_law 282 = .ok (.ireturn, 1) := by decide +kernel
theorem dL_law_283 : decode cL_law 283 = .ok (.aload_n 1, 1) := by decide +kernel
theorem dL_law_284 : decode cL_law 284 = .ok (.aload_n 0, 1) := by decide +kernel
theorem dL_law_285 : decode cL_law 285 = .ok (.iload_n 3, 1) := by decide +kernel
theorem dL_law_286 : decode cL_law 286 = .ok (.iconst 1, 1) := by decide +kernel
theorem dL_law_287 : decode cL_law 287 = .ok (.iadd, 1) := by decide +kernel
theorem dL_law_288 : decode cL_law 288 = .ok (.iaload, 1) := by decide +kernel
theorem dL_law_289 : decode cL_law 289 = .ok (.invokevirtual 18, 3) := by decide +kernel
theorem dL_law_292 : decode cL_law 292 = .ok (.aload_n 2, 1) := by decide +kernel
theorem dL_law_293 : decode cL_law 293 = .ok (.aload_n 0, 1) := by decide +kernel
theorem dL_law_294 : decode cL_law 294 = .ok (.iload_n 3, 1) := by decide +kernel
theorem dL_law_295 : decode cL_law 295 = .ok (.iconst 1, 1) := by decide +kernel
theorem dL_law_296 : decode cL_law 296 = .ok (.iadd, 1) := by decide +kernel
theorem dL_law_297 : decode cL_law 297 = .ok (.iaload, 1) := by decide +kernel
theorem dL_law_298 : decode cL_law 298 = .ok (.invokevirtual 22, 3) := by decide +kernel
theorem dL_law_301 : decode cL_law 301 = .ok (.if_icmp .eq 1140, 3) := by decide +kernel
theorem dL_law_304 : decode cL_law 304 = .ok (.iconst 0, 1) := by decide +kernel
theorem dL_law_305 : decode cL_law 305 = .ok (.ireturn, 1) := by decide +kernel
theorem dL_law_306 : decode cL_law 306 = .ok (.aload_n 1, 1) := by decide +kernel
theorem dL_law_307 : decode cL_law 307 = .ok (.aload_n 0, 1) := by decide +kernel
theorem dL_law_308 : decode cL_law 308 = .ok (.iload_n 3, 1) := by decide +kernel
theorem dL_law_309 : decode cL_law 309 = .ok (.iconst 1, 1) := by decide +kernel
theorem dL_law_310 : decode cL_law 310 = .ok (.iadd, 1) := by decide +kernel
theorem dL_law_311 : decode cL_law 311 = .ok (.iaload, 1) := by decide +kernel
theorem dL_law_312 : decode cL_law 312 = .ok (.invokevirtual 23, 3) := by decide +kernel
theorem dL_law_315 : decode cL_law 315 = .ok (.aload_n 2, 1) := by decide +kernel
theorem dL_law_316 : decode cL_law 316 = .ok (.aload_n 0, 1) := by decide +kernel
theorem dL_law_317 : decode cL_law 317 = .ok (.iload_n 3, 1) := by decide +kernel
theorem dL_law_318 : decode cL_law 318 = .ok (.iconst 1, 1) := by decide +kernel
theorem dL_law_319 : decode cL_law 319 = .ok (.iadd, 1) := by decide +kernel
theorem dL_law_320 : decode cL_law 320 = .ok (.iaload, 1) := by decide +kernel
theorem dL_law_321 : decode cL_law 321 = .ok (.invokevirtual 26, 3) := by decide +kernel
theorem dL_law_324 : decode cL_law 324 = .ok (.if_icmp .eq 1117, 3) := by decide +kernel
theorem dL_law_327 : decode cL_law 327 = .ok (.iconst 0, 1) := by decide +kernel
theorem dL_law_328 : decode cL_law 328 = .ok (.ireturn, 1) := by decide +kernel
theorem dL_law_329 : decode cL_law 329 = .ok (.aload_n 1, 1) := by decide +kernel
theorem dL_law_330 : decode cL_law 330 = .ok (.aload_n 0, 1) := by decide +kernel
theorem dL_law_331 : decode cL_law 331 = .ok (.iload_n 3, 1) := by decide +kernel
theorem dL_law_332 : decode cL_law 332 = .ok (.iconst 1, 1) := by decide +kernel
theorem dL_law_333 : decode cL_law 333 = .ok (.iadd, 1) := by decide +kernel
theorem dL_law_334 : decode cL_law 334 = .ok (.iaload, 1) := by decide +kernel
theorem dL_law_335 : decode cL_law 335 = .ok (.aload_n 0, 1) := by decide +kernel
theorem dL_law_336 : decode cL_law 336 = .ok (.iload_n 3, 1) := by decide +kernel
theorem dL_law_337 : decode cL_law 337 = .ok (.iconst 2, 1) := by decide +kernel
theorem dL_law_338 : decode cL_law 338 = .ok (.iadd, 1) := by decide +kernel
theorem dL_law_339 : decode cL_law 339 = .ok (.iaload, 1) := by decide +kernel
theorem dL_law_340 : decode cL_law 340 = .ok (.invokevirtual 27, 3) := by decide +kernel
theorem dL_law_343 : decode cL_law 343 = .ok (.aload_n 2, 1) := by decide +kernel
theorem dL_law_344 : decode cL_law 344 = .ok (.aload_n 0, 1) := by decide +kernel
theorem dL_law_345 : decode cL_law 345 = .ok (.iload_n 3, 1) := by decide +kernel
theorem dL_law_346 : decode cL_law 346 = .ok (.iconst 1, 1) := by decide +kernel
theorem dL_law_347 : decode cL_law 347 = .ok (.iadd, 1) := by decide +kernel
theorem dL_law_348 : decode cL_law 348 = .ok (.iaload, 1) := by decide +kernel
theorem dL_law_349 : decode cL_law 349 = .ok (.aload_n 0, 1) := by decide +kernel
theorem dL_law_350 : decode cL_law 350 = .ok (.iload_n 3, 1) := by decide +kernel
theorem dL_law_351 : decode cL_law 351 = .ok (.iconst 2, 1) := by decide +kernel
theorem dL_law_352 : decode cL_law 352 = .ok (.iadd, 1) := by decide +kernel
theorem dL_law_353 : decode cL_law 353 = .ok (.iaload, 1) := by decide +kernel
theorem dL_law_354 : decode cL_law 354 = .ok (.invokevirtual 31, 3) := by decide +kernel
theorem dL_law_357 : decode cL_law 357 = .ok (.if_icmp .eq 1084, 3) := by decide +kernel
theorem dL_law_360 : decode cL_law 360 = .ok (.iconst 0, 1) := by decide +kernel
theorem dL_law_361 : decode cL_law 361 = .ok (.ireturn, 1) := by decide +kernel
theorem dL_law_362 : decode cL_law 362 = .ok (.aload_n 1, 1) := by decide +kernel
theorem dL_law_363 : decode cL_law 363 = .ok (.aload_n 0, 1) := by decide +kernel
theorem dL_law_364 : decode cL_law 364 = .ok (.iload_n 3, 1) := by decide +kernel
theorem dL_law_365 : decode cL_law 365 = .ok (.iconst 1, 1) := by decide +kernel
theorem dL_law_366 : decode cL_law 366 = .ok (.iadd, 1) := by decide +kernel
theorem dL_law_367 : decode cL_law 367 = .ok (.iaload, 1) := by decide +kernel
theorem dL_law_368 : decode cL_law 368 = .ok (.aload_n 0, 1) := by decide +kernel
theorem dL_law_369 : decode cL_law 369 = .ok (.iload_n 3, 1) := by decide +kernel
theorem dL_law_370 : decode cL_law 370 = .ok (.iconst 2, 1) := by decide +kernel
theorem dL_law_371 : decode cL_law 371 = .ok (.iadd, 1) := by decide +kernel
theorem dL_law_372 : decode cL_law 372 = .ok (.iaload, 1) := by decide +kernel
theorem dL_law_373 : decode cL_law 373 = .ok (.invokevirtual 32, 3) := by decide +kernel
theorem dL_law_376 : decode cL_law 376 = .ok (.aload_n 2, 1) := by decide +kernel
theorem dL_law_377 : decode cL_law 377 = .ok (.aload_n 0, 1) := by decide +kernel
theorem dL_law_378 : decode cL_law 378 = .ok (.iload_n 3, 1) := by decide +kernel
theorem dL_law_379 : decode cL_law 379 = .ok (.iconst 1, 1) := by decide +kernel
theorem dL_law_380 : decode cL_law 380 = .ok (.iadd, 1) := by decide +kernel
theorem dL_law_381 : decode cL_law 381 = .ok (.iaload, 1) := by decide +kernel
theorem dL_law_382 : decode cL_law 382 = .ok (.aload_n 0, 1) := by decide +kernel
theorem dL_law_383 : decode cL_law 383 = .ok (.iload_n 3, 1) := by decide +kernel
theorem dL_law_384 : decode cL_law 384 = .ok (.iconst 2, 1) := by decide +kernel
theorem dL_law_385 : decode cL_law 385 = .ok (.iadd, 1) := by decide +kernel
theorem dL_law_386 : decode cL_law 386 = .ok (.iaload, 1) := by decide +kernel
theorem dL_law_387 : decode cL_law 387 = .ok (.invokevirtual 35, 3) := by decide +kernel
theorem dL_law_390 : decode cL_law 390 = .ok (.if_icmp .eq 1051, 3) := by decide +kernel
theorem dL_law_393 : decode cL_law 393 = .ok (.iconst 0, 1) := by decide +kernel
theorem dL_law_394 : decode cL_law 394 = .ok (.ireturn, 1) := by decide +kernel
theorem dL_law_395 : decode cL_law 395 = .ok (.aload_n 1, 1) := by decide +kernel
theorem dL_law_396 : decode cL_law 396 = .ok (.aload_n 0, 1) := by decide +kernel
theorem dL_law_397 : decode cL_law 397 = .ok (.iload_n 3, 1) := by decide +kernel
theorem dL_law_398 : decode cL_law 398 = .ok (.iconst 1, 1) := by decide +kernel
theorem dL_law_399 : decode cL_law 399 = .ok (.iadd, 1) := by decide +kernel
theorem dL_law_400 : decode cL_law 400 = .ok (.iaload, 1) := by decide +kernel
theorem dL_law_401 : decode cL_law 401 = .ok (.aload_n 0, 1) := by decide +kernel
theorem dL_law_402 : decode cL_law 402 = .ok (.iload_n 3, 1) := by decide +kernel
theorem dL_law_403 : decode cL_law 403 = .ok (.iconst 2, 1) := by decide +kernel
theorem dL_law_404 : decode cL_law 404 = .ok (.iadd, 1) := by decide +kernel
theorem dL_law_405 : decode cL_law 405 = .ok (.iaload, 1) := by decide +kernel
theorem dL_law_406 : decode cL_law 406 = .ok (.invokevirtual 36, 3) := by decide +kernel
theorem dL_law_409 : decode cL_law 409 = .ok (.aload_n 2, 1) := by decide +kernel
theorem dL_law_410 : decode cL_law 410 = .ok (.aload_n 0, 1) := by decide +kernel
theorem dL_law_411 : decode cL_law 411 = .ok (.iload_n 3, 1) := by decide +kernel
theorem dL_law_412 : decode cL_law 412 = .ok (.iconst 1, 1) := by decide +kernel
theorem dL_law_413 : decode cL_law 413 = .ok (.iadd, 1) := by decide +kernel
theorem dL_law_414 : decode cL_law 414 = .ok (.iaload, 1) := by decide +kernel
theorem dL_law_415 : decode cL_law 415 = .ok (.aload_n 0, 1) := by decide +kernel
theorem dL_law_416 : decode cL_law 416 = .ok (.iload_n 3, 1) := by decide +kernel
theorem dL_law_417 : decode cL_law 417 = .ok (.iconst 2, 1) := by decide +kernel
theorem dL_law_418 : decode cL_law 418 = .ok (.iadd, 1) := by decide +kernel
theorem dL_law_419 : decode cL_law 419 = .ok (.iaload, 1) := by decide +kernel
theorem dL_law_420 : decode cL_law 420 = .ok (.invokevirtual 40, 3) := by decide +kernel
theorem dL_law_423 : decode cL_law 423 = .ok (.if_icmp .eq 1018, 3) := by decide +kernel
theorem dL_law_426 : decode cL_law 426 = .ok (.iconst 0, 1) := by decide +kernel
theorem dL_law_427 : decode cL_law 427 = .ok (.ireturn, 1) := by decide +kernel
theorem dL_law_428 : decode cL_law 428 = .ok (.aload_n 1, 1) := by decide +kernel
theorem dL_law_429 : decode cL_law 429 = .ok (.aload_n 0, 1) := by decide +kernel
theorem dL_law_430 : decode cL_law 430 = .ok (.iload_n 3, 1) := by decide +kernel
theorem dL_law_431 : decode cL_law 431 = .ok (.iconst 1, 1) := by decide +kernel
theorem dL_law_432 : decode cL_law 432 = .ok (.iadd, 1) := by decide +kernel
theorem dL_law_433 : decode cL_law 433 = .ok (.iaload, 1) := by decide +kernel
theorem dL_law_434 : decode cL_law 434 = .ok (.invokevirtual 41, 3) := by decide +kernel
theorem dL_law_437 : decode cL_law 437 = .ok (.aload_n 2, 1) := by decide +kernel
theorem dL_law_438 : decode cL_law 438 = .ok (.aload_n 0, 1) := by decide +kernel
theorem dL_law_439 : decode cL_law 439 = .ok (.iload_n 3, 1) := by decide +kernel
theorem dL_law_440 : decode cL_law 440 = .ok (.iconst 1, 1) := by decide +kernel
theorem dL_law_441 : decode cL_law 441 = .ok (.iadd, 1) := by decide +kernel
theorem dL_law_442 : decode cL_law 442 = .ok (.iaload, 1) := by decide +kernel
theorem dL_law_443 : decode cL_law 443 = .ok (.invokevirtual 45, 3) := by decide +kernel
theorem dL_law_446 : decode cL_law 446 = .ok (.if_icmp .eq 995, 3) := by decide +kernel
theorem dL_law_449 : decode cL_law 449 = .ok (.iconst 0, 1) := by decide +kernel
theorem dL_law_450 : decode cL_law 450 = .ok (.ireturn, 1) := by decide +kernel
theorem dL_law_451 : decode cL_law 451 = .ok (.aload_n 1, 1) := by decide +kernel
theorem dL_law_452 : decode cL_law 452 = .ok (.aload_n 0, 1) := by decide +kernel
theorem dL_law_453 : decode cL_law 453 = .ok (.iload_n 3, 1) := by decide +kernel
theorem dL_law_454 : decode cL_law 454 = .ok (.iconst 1, 1) := by decide +kernel
theorem dL_law_455 : decode cL_law 455 = .ok (.iadd, 1) := by decide +kernel
theorem dL_law_456 : decode cL_law 456 = .ok (.iaload, 1) := by decide +kernel
theorem dL_law_457 : decode cL_law 457 = .ok (.aload_n 0, 1) := by decide +kernel
theorem dL_law_458 : decode cL_law 458 = .ok (.iload_n 3, 1) := by decide +kernel
theorem dL_law_459 : decode cL_law 459 = .ok (.iconst 2, 1) := by decide +kernel
theorem dL_law_460 : decode cL_law 460 = .ok (.iadd, 1) := by decide +kernel
theorem dL_law_461 : decode cL_law 461 = .ok (.iaload, 1) := by decide +kernel
theorem dL_law_462 : decode cL_law 462 = .ok (.aload_n 0, 1) := by decide +kernel
theorem dL_law_463 : decode cL_law 463 = .ok (.iload_n 3, 1) := by decide +kernel
theorem dL_law_464 : decode cL_law 464 = .ok (.iconst 3, 1) := by decide +kernel
theorem dL_law_465 : decode cL_law 465 = .ok (.iadd, 1) := by decide +kernel
theorem dL_law_466 : decode cL_law 466 = .ok (.iaload, 1) := by decide +kernel
theorem dL_law_467 : decode cL_law 467 = .ok (.aload_n 0, 1) := by decide +kernel
theorem dL_law_468 : decode cL_law 468 = .ok (.iload_n 3, 1) := by decide +kernel
theorem dL_law_469 : decode cL_law 469 = .ok (.iconst 4, 1) := by decide +kernel
theorem dL_law_470 : decode cL_law 470 = .ok (.iadd, 1) := by decide +kernel
theorem dL_law_471 : decode cL_law 471 = .ok (.iaload, 1) := by decide +kernel
theorem dL_law_472 : decode cL_law 472 = .ok (.aload_n 0, 1) := by decide +kernel
theorem dL_law_473 : decode cL_law 473 = .ok (.iload_n 3, 1) := by decide +kernel
theorem dL_law_474 : decode cL_law 474 = .ok (.iconst 5, 1) := by decide +kernel
theorem dL_law_475 : decode cL_law 475 = .ok (.iadd, 1) := by decide +kernel
theorem dL_law_476 : decode cL_law 476 = .ok (.iaload, 1) := by decide +kernel
theorem dL_law_477 : decode cL_law 477 = .ok (.invokevirtual 46, 3) := by decide +kernel
theorem dL_law_480 : decode cL_law 480 = .ok (.aload_n 2, 1) := by decide +kernel
theorem dL_law_481 : decode cL_law 481 = .ok (.aload_n 0, 1) := by decide +kernel
theorem dL_law_482 : decode cL_law 482 = .ok (.iload_n 3, 1) := by decide +kernel
theorem dL_law_483 : decode cL_law 483 = .ok (.iconst 1, 1) := by decide +kernel
theorem dL_law_484 : decode cL_law 484 = .ok (.iadd, 1) := by decide +kernel
theorem dL_law_485 : decode cL_law 485 = .ok (.iaload, 1) := by decide +kernel
theorem dL_law_486 : decode cL_law 486 = .ok (.aload_n 0, 1) := by decide +kernel
theorem dL_law_487 : decode cL_law 487 = .ok (.iload_n 3, 1) := by decide +kernel
theorem dL_law_488 : decode cL_law 488 = .ok (.iconst 2, 1) := by decide +kernel
theorem dL_law_489 : decode cL_law 489 = .ok (.iadd, 1) := by decide +kernel
theorem dL_law_490 : decode cL_law 490 = .ok (.iaload, 1) := by decide +kernel
theorem dL_law_491 : decode cL_law 491 = .ok (.aload_n 0, 1) := by decide +kernel
theorem dL_law_492 : decode cL_law 492 = .ok (.iload_n 3, 1) := by decide +kernel
theorem dL_law_493 : decode cL_law 493 = .ok (.iconst 3, 1) := by decide +kernel
theorem dL_law_494 : decode cL_law 494 = .ok (.iadd, 1) := by decide +kernel
theorem dL_law_495 : decode cL_law 495 = .ok (.iaload, 1) := by decide +kernel
theorem dL_law_496 : decode cL_law 496 = .ok (.aload_n 0, 1) := by decide +kernel
theorem dL_law_497 : decode cL_law 497 = .ok (.iload_n 3, 1) := by decide +kernel
theorem dL_law_498 : decode cL_law 498 = .ok (.iconst 4, 1) := by decide +kernel
theorem dL_law_499 : decode cL_law 499 = .ok (.iadd, 1) := by decide +kernel
theorem dL_law_500 : decode cL_law 500 = .ok (.iaload, 1) := by decide +kernel
theorem dL_law_501 : decode cL_law 501 = .ok (.aload_n 0, 1) := by decide +kernel
theorem dL_law_502 : decode cL_law 502 = .ok (.iload_n 3, 1) := by decide +kernel
theorem dL_law_503 : decode cL_law 503 = .ok (.iconst 5, 1) := by decide +kernel
theorem dL_law_504 : decode cL_law 504 = .ok (.iadd, 1) := by decide +kernel
theorem dL_law_505 : decode cL_law 505 = .ok (.iaload, 1) := by decide +kernel
theorem dL_law_506 : decode cL_law 506 = .ok (.invokevirtual 49, 3) := by decide +kernel
theorem dL_law_509 : decode cL_law 509 = .ok (.if_icmp .eq 932, 3) := by decide +kernel
theorem dL_law_512 : decode cL_law 512 = .ok (.iconst 0, 1) := by decide +kernel
theorem dL_law_513 : decode cL_law 513 = .ok (.ireturn, 1) := by decide +kernel
theorem dL_law_514 : decode cL_law 514 = .ok (.aload_n 1, 1) := by decide +kernel
theorem dL_law_515 : decode cL_law 515 = .ok (.aload_n 0, 1) := by decide +kernel
theorem dL_law_516 : decode cL_law 516 = .ok (.iload_n 3, 1) := by decide +kernel
theorem dL_law_517 : decode cL_law 517 = .ok (.iconst 1, 1) := by decide +kernel
theorem dL_law_518 : decode cL_law 518 = .ok (.iadd, 1) := by decide +kernel
theorem dL_law_519 : decode cL_law 519 = .ok (.iaload, 1) := by decide +kernel
theorem dL_law_520 : decode cL_law 520 = .ok (.aload_n 0, 1) := by decide +kernel
theorem dL_law_521 : decode cL_law 521 = .ok (.iload_n 3, 1) := by decide +kernel
theorem dL_law_522 : decode cL_law 522 = .ok (.iconst 2, 1) := by decide +kernel
theorem dL_law_523 : decode cL_law 523 = .ok (.iadd, 1) := by decide +kernel
theorem dL_law_524 : decode cL_law 524 = .ok (.iaload, 1) := by decide +kernel
theorem dL_law_525 : decode cL_law 525 = .ok (.invokevirtual 50, 3) := by decide +kernel
theorem dL_law_528 : decode cL_law 528 = .ok (.aload_n 2, 1) := by decide +kernel
theorem dL_law_529 : decode cL_law 529 = .ok (.aload_n 0, 1) := by decide +kernel
theorem dL_law_530 : decode cL_law 530 = .ok (.iload_n 3, 1) := by decide +kernel
theorem dL_law_531 : decode cL_law 531 = .ok (.iconst 1, 1) := by decide +kernel
theorem dL_law_532 : decode cL_law 532 = .ok (.iadd, 1) := by decide +kernel
theorem dL_law_533 : decode cL_law 533 = .ok (.iaload, 1) := by decide +kernel
theorem dL_law_534 : decode cL_law 534 = .ok (.aload_n 0, 1) := by decide +kernel
theorem dL_law_535 : decode cL_law 535 = .ok (.iload_n 3, 1) := by decide +kernel
theorem dL_law_536 : decode cL_law 536 = .ok (.iconst 2, 1) := by decide +kernel
theorem dL_law_537 : decode cL_law 537 = .ok (.iadd, 1) := by decide +kernel
theorem dL_law_538 : decode cL_law 538 = .ok (.iaload, 1) := by decide +kernel
theorem dL_law_539 : decode cL_law 539 = .ok (.invokevirtual 53, 3) := by decide +kernel
theorem dL_law_542 : decode cL_law 542 = .ok (.if_icmp .eq 899, 3) := by decide +kernel
theorem dL_law_545 : decode cL_law 545 = .ok (.iconst 0, 1) := by decide +kernel
theorem dL_law_546 : decode cL_law 546 = .ok (.ireturn, 1) := by decide +kernel
theorem dL_law_547 : decode cL_law 547 = .ok (.aload_n 1, 1) := by decide +kernel
theorem dL_law_548 : decode cL_law 548 = .ok (.aload_n 0, 1) := by decide +kernel
theorem dL_law_549 : decode cL_law 549 = .ok (.iload_n 3, 1) := by decide +kernel
theorem dL_law_550 : decode cL_law 550 = .ok (.iconst 1, 1) := by decide +kernel
theorem dL_law_551 : decode cL_law 551 = .ok (.iadd, 1) := by decide +kernel
theorem dL_law_552 : decode cL_law 552 = .ok (.iaload, 1) := by decide +kernel
theorem dL_law_553 : decode cL_law 553 = .ok (.invokevirtual 54, 3) := by decide +kernel
theorem dL_law_556 : decode cL_law 556 = .ok (.aload_n 2, 1) := by decide +kernel
theorem dL_law_557 : decode cL_law 557 = .ok (.aload_n 0, 1) := by decide +kernel
theorem dL_law_558 : decode cL_law 558 = .ok (.iload_n 3, 1) := by decide +kernel
theorem dL_law_559 : decode cL_law 559 = .ok (.iconst 1, 1) := by decide +kernel
theorem dL_law_560 : decode cL_law 560 = .ok (.iadd, 1) := by decide +kernel
theorem dL_law_561 : decode cL_law 561 = .ok (.iaload, 1) := by decide +kernel
theorem dL_law_562 : decode cL_law 562 = .ok (.invokevirtual 57, 3) := by decide +kernel
theorem dL_law_565 : decode cL_law 565 = .ok (.if_icmp .eq 876, 3) := by decide +kernel
theorem dL_law_568 : decode cL_law 568 = .ok (.iconst 0, 1) := by decide +kernel
theorem dL_law_569 : decode cL_law 569 = .ok (.ireturn, 1) := by decide +kernel
theorem dL_law_570 : decode cL_law 570 = .ok (.aload_n 1, 1) := by decide +kernel
theorem dL_law_571 : decode cL_law 571 = .ok (.aload_n 0, 1) := by decide +kernel
theorem dL_law_572 : decode cL_law 572 = .ok (.iload_n 3, 1) := by decide +kernel
theorem dL_law_573 : decode cL_law 573 = .ok (.iconst 1, 1) := by decide +kernel
theorem dL_law_574 : decode cL_law 574 = .ok (.iadd, 1) := by decide +kernel
theorem dL_law_575 : decode cL_law 575 = .ok (.iaload, 1) := by decide +kernel
theorem dL_law_576 : decode cL_law 576 = .ok (.invokevirtual 58, 3) := by decide +kernel
theorem dL_law_579 : decode cL_law 579 = .ok (.aload_n 2, 1) := by decide +kernel
theorem dL_law_580 : decode cL_law 580 = .ok (.aload_n 0, 1) := by decide +kernel
theorem dL_law_581 : decode cL_law 581 = .ok (.iload_n 3, 1) := by decide +kernel
theorem dL_law_582 : decode cL_law 582 = .ok (.iconst 1, 1) := by decide +kernel
theorem dL_law_583 : decode cL_law 583 = .ok (.iadd, 1) := by decide +kernel
theorem dL_law_584 : decode cL_law 584 = .ok (.iaload, 1) := by decide +kernel
theorem dL_law_585 : decode cL_law 585 = .ok (.invokevirtual 61, 3) := by decide +kernel
theorem dL_law_588 : decode cL_law 588 = .ok (.if_icmp .eq 853, 3) := by decide +kernel
theorem dL_law_591 : decode cL_law 591 = .ok (.iconst 0, 1) := by decide +kernel
theorem dL_law_592 : decode cL_law 592 = .ok (.ireturn, 1) := by decide +kernel
theorem dL_law_593 : decode cL_law 593 = .ok (.aload_n 1, 1) := by decide +kernel
theorem dL_law_594 : decode cL_law 594 = .ok (.aload_n 0, 1) := by decide +kernel
theorem dL_law_595 : decode cL_law 595 = .ok (.iload_n 3, 1) := by decide +kernel
theorem dL_law_596 : decode cL_law 596 = .ok (.iconst 1, 1) := by decide +kernel
theorem dL_law_597 : decode cL_law 597 = .ok (.iadd, 1) := by decide +kernel
theorem dL_law_598 : decode cL_law 598 = .ok (.iaload, 1) := by decide +kernel
theorem dL_law_599 : decode cL_law 599 = .ok (.invokevirtual 62, 3) := by decide +kernel
theorem dL_law_602 : decode cL_law 602 = .ok (.aload_n 2, 1) := by decide +kernel
theorem dL_law_603 : decode cL_law 603 = .ok (.aload_n 0, 1) := by decide +kernel
theorem dL_law_604 : decode cL_law 604 = .ok (.iload_n 3, 1) := by decide +kernel
theorem dL_law_605 : decode cL_law 605 = .ok (.iconst 1, 1) := by decide +kernel
theorem dL_law_606 : decode cL_law 606 = .ok (.iadd, 1) := by decide +kernel
theorem dL_law_607 : decode cL_law 607 = .ok (.iaload, 1) := by decide +kernel
theorem dL_law_608 : decode cL_law 608 = .ok (.invokevirtual 65, 3) := by decide +kernel
theorem dL_law_611 : decode cL_law 611 = .ok (.if_icmp .eq 830, 3) := by decide +kernel
theorem dL_law_614 : decode cL_law 614 = .ok (.iconst 0, 1) := by decide +kernel
theorem dL_law_615 : decode cL_law 615 = .ok (.ireturn, 1) := by decide +kernel
theorem dL_law_616 : decode cL_law 616 = .ok (.aload_n 1, 1) := by decide +kernel
theorem dL_law_617 : decode cL_law 617 = .ok (.aload_n 0, 1) := by decide +kernel
theorem dL_law_618 : decode cL_law 618 = .ok (.iload_n 3, 1) := by decide +kernel
theorem dL_law_619 : decode cL_law 619 = .ok (.iconst 1, 1) := by decide +kernel
theorem dL_law_620 : decode cL_law 620 = .ok (.iadd, 1) := by decide +kernel
theorem dL_law_621 : decode cL_law 621 = .ok (.iaload, 1) := by decide +kernel
theorem dL_law_622 : decode cL_law 622 = .ok (.aload_n 0, 1) := by decide +kernel
theorem dL_law_623 : decode cL_law 623 = .ok (.iload_n 3, 1) := by decide +kernel
theorem dL_law_624 : decode cL_law 624 = .ok (.iconst 2, 1) := by decide +kernel
theorem dL_law_625 : decode cL_law 625 = .ok (.iadd, 1) := by decide +kernel
theorem dL_law_626 : decode cL_law 626 = .ok (.iaload, 1) := by decide +kernel
theorem dL_law_627 : decode cL_law 627 = .ok (.aload_n 0, 1) := by decide +kernel
theorem dL_law_628 : decode cL_law 628 = .ok (.iload_n 3, 1) := by decide +kernel
theorem dL_law_629 : decode cL_law 629 = .ok (.iconst 3, 1) := by decide +kernel
theorem dL_law_630 : decode cL_law 630 = .ok (.iadd, 1) := by decide +kernel
theorem dL_law_631 : decode cL_law 631 = .ok (.iaload, 1) := by decide +kernel
theorem dL_law_632 : decode cL_law 632 = .ok (.aload_n 0, 1) := by decide +kernel
theorem dL_law_633 : decode cL_law 633 = .ok (.iload_n 3, 1) := by decide +kernel
theorem dL_law_634 : decode cL_law 634 = .ok (.iconst 4, 1) := by decide +kernel
theorem dL_law_635 : decode cL_law 635 = .ok (.iadd, 1) := by decide +kernel
theorem dL_law_636 : decode cL_law 636 = .ok (.iaload, 1) := by decide +kernel
theorem dL_law_637 : decode cL_law 637 = .ok (.aload_n 0, 1) := by decide +kernel
theorem dL_law_638 : decode cL_law 638 = .ok (.iload_n 3, 1) := by decide +kernel
theorem dL_law_639 : decode cL_law 639 = .ok (.iconst 5, 1) := by decide +kernel
theorem dL_law_640 : decode cL_law 640 = .ok (.iadd, 1) := by decide +kernel
theorem dL_law_641 : decode cL_law 641 = .ok (.iaload, 1) := by decide +kernel
theorem dL_law_642 : decode cL_law 642 = .ok (.aload_n 0, 1) := by decide +kernel
theorem dL_law_643 : decode cL_law 643 = .ok (.iload_n 3, 1) := by decide +kernel
theorem dL_law_644 : decode cL_law 644 = .ok (.bipush 6, 2) := by decide +kernel
theorem dL_law_646 : decode cL_law 646 = .ok (.iadd, 1) := by decide +kernel
theorem dL_law_647 : decode cL_law 647 = .ok (.iaload, 1) := by decide +kernel
theorem dL_law_648 : decode cL_law 648 = .ok (.invokevirtual 66, 3) := by decide +kernel
theorem dL_law_651 : decode cL_law 651 = .ok (.aload_n 2, 1) := by decide +kernel
theorem dL_law_652 : decode cL_law 652 = .ok (.aload_n 0, 1) := by decide +kernel
theorem dL_law_653 : decode cL_law 653 = .ok (.iload_n 3, 1) := by decide +kernel
theorem dL_law_654 : decode cL_law 654 = .ok (.iconst 1, 1) := by decide +kernel
theorem dL_law_655 : decode cL_law 655 = .ok (.iadd, 1) := by decide +kernel
theorem dL_law_656 : decode cL_law 656 = .ok (.iaload, 1) := by decide +kernel
theorem dL_law_657 : decode cL_law 657 = .ok (.aload_n 0, 1) := by decide +kernel
theorem dL_law_658 : decode cL_law 658 = .ok (.iload_n 3, 1) := by decide +kernel
theorem dL_law_659 : decode cL_law 659 = .ok (.iconst 2, 1) := by decide +kernel
theorem dL_law_660 : decode cL_law 660 = .ok (.iadd, 1) := by decide +kernel
theorem dL_law_661 : decode cL_law 661 = .ok (.iaload, 1) := by decide +kernel
theorem dL_law_662 : decode cL_law 662 = .ok (.aload_n 0, 1) := by decide +kernel
theorem dL_law_663 : decode cL_law 663 = .ok (.iload_n 3, 1) := by decide +kernel
theorem dL_law_664 : decode cL_law 664 = .ok (.iconst 3, 1) := by decide +kernel
theorem dL_law_665 : decode cL_law 665 = .ok (.iadd, 1) := by decide +kernel
theorem dL_law_666 : decode cL_law 666 = .ok (.iaload, 1) := by decide +kernel
theorem dL_law_667 : decode cL_law 667 = .ok (.aload_n 0, 1) := by decide +kernel
theorem dL_law_668 : decode cL_law 668 = .ok (.iload_n 3, 1) := by decide +kernel
theorem dL_law_669 : decode cL_law 669 = .ok (.iconst 4, 1) := by decide +kernel
theorem dL_law_670 : decode cL_law 670 = .ok (.iadd, 1) := by decide +kernel
theorem dL_law_671 : decode cL_law 671 = .ok (.iaload, 1) := by decide +kernel
theorem dL_law_672 : decode cL_law 672 = .ok (.aload_n 0, 1) := by decide +kernel
theorem dL_law_673 : decode cL_law 673 = .ok (.iload_n 3, 1) := by decide +kernel
theorem dL_law_674 : decode cL_law 674 = .ok (.iconst 5, 1) := by decide +kernel
theorem dL_law_675 : decode cL_law 675 = .ok (.iadd, 1) := by decide +kernel
theorem dL_law_676 : decode cL_law 676 = .ok (.iaload, 1) := by decide +kernel
theorem dL_law_677 : decode cL_law 677 = .ok (.aload_n 0, 1) := by decide +kernel
theorem dL_law_678 : decode cL_law 678 = .ok (.iload_n 3, 1) := by decide +kernel
theorem dL_law_679 : decode cL_law 679 = .ok (.bipush 6, 2) := by decide +kernel
theorem dL_law_681 : decode cL_law 681 = .ok (.iadd, 1) := by decide +kernel
theorem dL_law_682 : decode cL_law 682 = .ok (.iaload, 1) := by decide +kernel
theorem dL_law_683 : decode cL_law 683 = .ok (.invokevirtual 70, 3) := by decide +kernel
theorem dL_law_686 : decode cL_law 686 = .ok (.if_icmp .eq 755, 3) := by decide +kernel
theorem dL_law_689 : decode cL_law 689 = .ok (.iconst 0, 1) := by decide +kernel
theorem dL_law_690 : decode cL_law 690 = .ok (.ireturn, 1) := by decide +kernel
theorem dL_law_691 : decode cL_law 691 = .ok (.aload_n 1, 1) := by decide +kernel
theorem dL_law_692 : decode cL_law 692 = .ok (.aload_n 0, 1) := by decide +kernel
theorem dL_law_693 : decode cL_law 693 = .ok (.iload_n 3, 1) := by decide +kernel
theorem dL_law_694 : decode cL_law 694 = .ok (.iconst 1, 1) := by decide +kernel
theorem dL_law_695 : decode cL_law 695 = .ok (.iadd, 1) := by decide +kernel
theorem dL_law_696 : decode cL_law 696 = .ok (.iaload, 1) := by decide +kernel
theorem dL_law_697 : decode cL_law 697 = .ok (.aload_n 0, 1) := by decide +kernel
theorem dL_law_698 : decode cL_law 698 = .ok (.iload_n 3, 1) := by decide +kernel
theorem dL_law_699 : decode cL_law 699 = .ok (.iconst 2, 1) := by decide +kernel
theorem dL_law_700 : decode cL_law 700 = .ok (.iadd, 1) := by decide +kernel
theorem dL_law_701 : decode cL_law 701 = .ok (.iaload, 1) := by decide +kernel
theorem dL_law_702 : decode cL_law 702 = .ok (.invokevirtual 71, 3) := by decide +kernel
theorem dL_law_705 : decode cL_law 705 = .ok (.aload_n 2, 1) := by decide +kernel
theorem dL_law_706 : decode cL_law 706 = .ok (.aload_n 0, 1) := by decide +kernel
theorem dL_law_707 : decode cL_law 707 = .ok (.iload_n 3, 1) := by decide +kernel
theorem dL_law_708 : decode cL_law 708 = .ok (.iconst 1, 1) := by decide +kernel
theorem dL_law_709 : decode cL_law 709 = .ok (.iadd, 1) := by decide +kernel
theorem dL_law_710 : decode cL_law 710 = .ok (.iaload, 1) := by decide +kernel
theorem dL_law_711 : decode cL_law 711 = .ok (.aload_n 0, 1) := by decide +kernel
theorem dL_law_712 : decode cL_law 712 = .ok (.iload_n 3, 1) := by decide +kernel
theorem dL_law_713 : decode cL_law 713 = .ok (.iconst 2, 1) := by decide +kernel
theorem dL_law_714 : decode cL_law 714 = .ok (.iadd, 1) := by decide +kernel
theorem dL_law_715 : decode cL_law 715 = .ok (.iaload, 1) := by decide +kernel
theorem dL_law_716 : decode cL_law 716 = .ok (.invokevirtual 74, 3) := by decide +kernel
theorem dL_law_719 : decode cL_law 719 = .ok (.if_icmp .eq 722, 3) := by decide +kernel
theorem dL_law_722 : decode cL_law 722 = .ok (.iconst 0, 1) := by decide +kernel
theorem dL_law_723 : decode cL_law 723 = .ok (.ireturn, 1) := by decide +kernel
theorem dL_law_724 : decode cL_law 724 = .ok (.aload_n 1, 1) := by decide +kernel
theorem dL_law_725 : decode cL_law 725 = .ok (.invokevirtual 75, 3) := by decide +kernel
theorem dL_law_728 : decode cL_law 728 = .ok (.aload_n 2, 1) := by decide +kernel
theorem dL_law_729 : decode cL_law 729 = .ok (.invokevirtual 79, 3) := by decide +kernel
theorem dL_law_732 : decode cL_law 732 = .ok (.if_icmp .eq 709, 3) := by decide +kernel
theorem dL_law_735 : decode cL_law 735 = .ok (.iconst 0, 1) := by decide +kernel
theorem dL_law_736 : decode cL_law 736 = .ok (.ireturn, 1) := by decide +kernel
theorem dL_law_737 : decode cL_law 737 = .ok (.aload_n 1, 1) := by decide +kernel
theorem dL_law_738 : decode cL_law 738 = .ok (.invokevirtual 80, 3) := by decide +kernel
theorem dL_law_741 : decode cL_law 741 = .ok (.aload_n 2, 1) := by decide +kernel
theorem dL_law_742 : decode cL_law 742 = .ok (.invokevirtual 83, 3) := by decide +kernel
theorem dL_law_745 : decode cL_law 745 = .ok (.if_icmp .eq 696, 3) := by decide +kernel
theorem dL_law_748 : decode cL_law 748 = .ok (.iconst 0, 1) := by decide +kernel
theorem dL_law_749 : decode cL_law 749 = .ok (.ireturn, 1) := by decide +kernel
theorem dL_law_750 : decode cL_law 750 = .ok (.aload_n 1, 1) := by decide +kernel
theorem dL_law_751 : decode cL_law 751 = .ok (.invokevirtual 84, 3) := by decide +kernel
theorem dL_law_754 : decode cL_law 754 = .ok (.aload_n 2, 1) := by decide +kernel
theorem dL_law_755 : decode cL_law 755 = .ok (.invokevirtual 87, 3) := by decide +kernel
theorem dL_law_758 : decode cL_law 758 = .ok (.if_icmp .eq 683, 3) := by decide +kernel
theorem dL_law_761 : decode cL_law 761 = .ok (.iconst 0, 1) := by decide +kernel
theorem dL_law_762 : decode cL_law 762 = .ok (.ireturn, 1) := by decide +kernel
theorem dL_law_763 : decode cL_law 763 = .ok (.aload_n 1, 1) := by decide +kernel
theorem dL_law_764 : decode cL_law 764 = .ok (.aload_n 0, 1) := by decide +kernel
theorem dL_law_765 : decode cL_law 765 = .ok (.iload_n 3, 1) := by decide +kernel
theorem dL_law_766 : decode cL_law 766 = .ok (.iconst 1, 1) := by decide +kernel
theorem dL_law_767 : decode cL_law 767 = .ok (.iadd, 1) := by decide +kernel
theorem dL_law_768 : decode cL_law 768 = .ok (.iaload, 1) := by decide +kernel
theorem dL_law_769 : decode cL_law 769 = .ok (.invokevirtual 88, 3) := by decide +kernel
theorem dL_law_772 : decode cL_law 772 = .ok (.aload_n 2, 1) := by decide +kernel
theorem dL_law_773 : decode cL_law 773 = .ok (.aload_n 0, 1) := by decide +kernel
theorem dL_law_774 : decode cL_law 774 = .ok (.iload_n 3, 1) := by decide +kernel
theorem dL_law_775 : decode cL_law 775 = .ok (.iconst 1, 1) := by decide +kernel
theorem dL_law_776 : decode cL_law 776 = .ok (.iadd, 1) := by decide +kernel
theorem dL_law_777 : decode cL_law 777 = .ok (.iaload, 1) := by decide +kernel
theorem dL_law_778 : decode cL_law 778 = .ok (.invokevirtual 91, 3) := by decide +kernel
theorem dL_law_781 : decode cL_law 781 = .ok (.if_icmp .eq 660, 3) := by decide +kernel
theorem dL_law_784 : decode cL_law 784 = .ok (.iconst 0, 1) := by decide +kernel
theorem dL_law_785 : decode cL_law 785 = .ok (.ireturn, 1) := by decide +kernel
theorem dL_law_786 : decode cL_law 786 = .ok (.aload_n 1, 1) := by decide +kernel
theorem dL_law_787 : decode cL_law 787 = .ok (.aload_n 0, 1) := by decide +kernel
theorem dL_law_788 : decode cL_law 788 = .ok (.iload_n 3, 1) := by decide +kernel
theorem dL_law_789 : decode cL_law 789 = .ok (.iconst 1, 1) := by decide +kernel
theorem dL_law_790 : decode cL_law 790 = .ok (.iadd, 1) := by decide +kernel
theorem dL_law_791 : decode cL_law 791 = .ok (.iaload, 1) := by decide +kernel
theorem dL_law_792 : decode cL_law 792 = .ok (.invokevirtual 92, 3) := by decide +kernel
theorem dL_law_795 : decode cL_law 795 = .ok (.aload_n 2, 1) := by decide +kernel
theorem dL_law_796 : decode cL_law 796 = .ok (.aload_n 0, 1) := by decide +kernel
theorem dL_law_797 : decode cL_law 797 = .ok (.iload_n 3, 1) := by decide +kernel
theorem dL_law_798 : decode cL_law 798 = .ok (.iconst 1, 1) := by decide +kernel
theorem dL_law_799 : decode cL_law 799 = .ok (.iadd, 1) := by decide +kernel
theorem dL_law_800 : decode cL_law 800 = .ok (.iaload, 1) := by decide +kernel
theorem dL_law_801 : decode cL_law 801 = .ok (.invokevirtual 95, 3) := by decide +kernel
theorem dL_law_804 : decode cL_law 804 = .ok (.if_icmp .eq 637, 3) := by decide +kernel
theorem dL_law_807 : decode cL_law 807 = .ok (.iconst 0, 1) := by decide +kernel
theorem dL_law_808 : decode cL_law 808 = .ok (.ireturn, 1) := by decide +kernel
theorem dL_law_809 : decode cL_law 809 = .ok (.aload_n 1, 1) := by decide +kernel
theorem dL_law_810 : decode cL_law 810 = .ok (.aload_n 0, 1) := by decide +kernel
theorem dL_law_811 : decode cL_law 811 = .ok (.iload_n 3, 1) := by decide +kernel
theorem dL_law_812 : decode cL_law 812 = .ok (.iconst 1, 1) := by decide +kernel
theorem dL_law_813 : decode cL_law 813 = .ok (.iadd, 1) := by decide +kernel
theorem dL_law_814 : decode cL_law 814 = .ok (.iaload, 1) := by decide +kernel
theorem dL_law_815 : decode cL_law 815 = .ok (.aload_n 0, 1) := by decide +kernel
theorem dL_law_816 : decode cL_law 816 = .ok (.iload_n 3, 1) := by decide +kernel
theorem dL_law_817 : decode cL_law 817 = .ok (.iconst 2, 1) := by decide +kernel
theorem dL_law_818 : decode cL_law 818 = .ok (.iadd, 1) := by decide +kernel
theorem dL_law_819 : decode cL_law 819 = .ok (.iaload, 1) := by decide +kernel
theorem dL_law_820 : decode cL_law 820 = .ok (.invokevirtual 96, 3) := by decide +kernel
theorem dL_law_823 : decode cL_law 823 = .ok (.aload_n 2, 1) := by decide +kernel
theorem dL_law_824 : decode cL_law 824 = .ok (.aload_n 0, 1) := by decide +kernel
theorem dL_law_825 : decode cL_law 825 = .ok (.iload_n 3, 1) := by decide +kernel
theorem dL_law_826 : decode cL_law 826 = .ok (.iconst 1, 1) := by decide +kernel
theorem dL_law_827 : decode cL_law 827 = .ok (.iadd, 1) := by decide +kernel
theorem dL_law_828 : decode cL_law 828 = .ok (.iaload, 1) := by decide +kernel
theorem dL_law_829 : decode cL_law 829 = .ok (.aload_n 0, 1) := by decide +kernel
theorem dL_law_830 : decode cL_law 830 = .ok (.iload_n 3, 1) := by decide +kernel
theorem dL_law_831 : decode cL_law 831 = .ok (.iconst 2, 1) := by decide +kernel
theorem dL_law_832 : decode cL_law 832 = .ok (.iadd, 1) := by decide +kernel
theorem dL_law_833 : decode cL_law 833 = .ok (.iaload, 1) := by decide +kernel
theorem dL_law_834 : decode cL_law 834 = .ok (.invokevirtual 99, 3) := by decide +kernel
theorem dL_law_837 : decode cL_law 837 = .ok (.if_icmp .eq 604, 3) := by decide +kernel
theorem dL_law_840 : decode cL_law 840 = .ok (.iconst 0, 1) := by decide +kernel
theorem dL_law_841 : decode cL_law 841 = .ok (.ireturn, 1) := by decide +kernel
theorem dL_law_842 : decode cL_law 842 = .ok (.aload_n 1, 1) := by decide +kernel
theorem dL_law_843 : decode cL_law 843 = .ok (.aload_n 0, 1) := by decide +kernel
theorem dL_law_844 : decode cL_law 844 = .ok (.iload_n 3, 1) := by decide +kernel
theorem dL_law_845 : decode cL_law 845 = .ok (.iconst 1, 1) := by decide +kernel
theorem dL_law_846 : decode cL_law 846 = .ok (.iadd, 1) := by decide +kernel
theorem dL_law_847 : decode cL_law 847 = .ok (.iaload, 1) := by decide +kernel
theorem dL_law_848 : decode cL_law 848 = .ok (.invokevirtual 100, 3) := by decide +kernel
theorem dL_law_851 : decode cL_law 851 = .ok (.aload_n 2, 1) := by decide +kernel
theorem dL_law_852 : decode cL_law 852 = .ok (.aload_n 0, 1) := by decide +kernel
theorem dL_law_853 : decode cL_law 853 = .ok (.iload_n 3, 1) := by decide +kernel
theorem dL_law_854 : decode cL_law 854 = .ok (.iconst 1, 1) := by decide +kernel
theorem dL_law_855 : decode cL_law 855 = .ok (.iadd, 1) := by decide +kernel
theorem dL_law_856 : decode cL_law 856 = .ok (.iaload, 1) := by decide +kernel
theorem dL_law_857 : decode cL_law 857 = .ok (.invokevirtual 103, 3) := by decide +kernel
theorem dL_law_860 : decode cL_law 860 = .ok (.if_icmp .eq 581, 3) := by decide +kernel
theorem dL_law_863 : decode cL_law 863 = .ok (.iconst 0, 1) := by decide +kernel
theorem dL_law_864 : decode cL_law 864 = .ok (.ireturn, 1) := by decide +kernel
theorem dL_law_865 : decode cL_law 865 = .ok (.aload_n 1, 1) := by decide +kernel
theorem dL_law_866 : decode cL_law 866 = .ok (.invokevirtual 104, 3) := by decide +kernel
theorem dL_law_869 : decode cL_law 869 = .ok (.aload_n 2, 1) := by decide +kernel
theorem dL_law_870 : decode cL_law 870 = .ok (.invokevirtual 107, 3) := by decide +kernel
theorem dL_law_873 : decode cL_law 873 = .ok (.if_icmp .eq 568, 3) := by decide +kernel
theorem dL_law_876 : decode cL_law 876 = .ok (.iconst 0, 1) := by decide +kernel
theorem dL_law_877 : decode cL_law 877 = .ok (.ireturn, 1) := by decide +kernel
theorem dL_law_878 : decode cL_law 878 = .ok (.aload_n 1, 1) := by decide +kernel
theorem dL_law_879 : decode cL_law 879 = .ok (.aload_n 0, 1) := by decide +kernel
theorem dL_law_880 : decode cL_law 880 = .ok (.iload_n 3, 1) := by decide +kernel
theorem dL_law_881 : decode cL_law 881 = .ok (.iconst 1, 1) := by decide +kernel
theorem dL_law_882 : decode cL_law 882 = .ok (.iadd, 1) := by decide +kernel
theorem dL_law_883 : decode cL_law 883 = .ok (.iaload, 1) := by decide +kernel
theorem dL_law_884 : decode cL_law 884 = .ok (.invokevirtual 108, 3) := by decide +kernel
theorem dL_law_887 : decode cL_law 887 = .ok (.aload_n 2, 1) := by decide +kernel
theorem dL_law_888 : decode cL_law 888 = .ok (.aload_n 0, 1) := by decide +kernel
theorem dL_law_889 : decode cL_law 889 = .ok (.iload_n 3, 1) := by decide +kernel
theorem dL_law_890 : decode cL_law 890 = .ok (.iconst 1, 1) := by decide +kernel
theorem dL_law_891 : decode cL_law 891 = .ok (.iadd, 1) := by decide +kernel
theorem dL_law_892 : decode cL_law 892 = .ok (.iaload, 1) := by decide +kernel
theorem dL_law_893 : decode cL_law 893 = .ok (.invokevirtual 111, 3) := by decide +kernel
theorem dL_law_896 : decode cL_law 896 = .ok (.if_icmp .eq 545, 3) := by decide +kernel
theorem dL_law_899 : decode cL_law 899 = .ok (.iconst 0, 1) := by decide +kernel
theorem dL_law_900 : decode cL_law 900 = .ok (.ireturn, 1) := by decide +kernel
theorem dL_law_901 : decode cL_law 901 = .ok (.aload_n 1, 1) := by decide +kernel
theorem dL_law_902 : decode cL_law 902 = .ok (.aload_n 0, 1) := by decide +kernel
theorem dL_law_903 : decode cL_law 903 = .ok (.iload_n 3, 1) := by decide +kernel
theorem dL_law_904 : decode cL_law 904 = .ok (.iconst 1, 1) := by decide +kernel
theorem dL_law_905 : decode cL_law 905 = .ok (.iadd, 1) := by decide +kernel
theorem dL_law_906 : decode cL_law 906 = .ok (.iaload, 1) := by decide +kernel
theorem dL_law_907 : decode cL_law 907 = .ok (.aload_n 0, 1) := by decide +kernel
theorem dL_law_908 : decode cL_law 908 = .ok (.iload_n 3, 1) := by decide +kernel
theorem dL_law_909 : decode cL_law 909 = .ok (.iconst 2, 1) := by decide +kernel
theorem dL_law_910 : decode cL_law 910 = .ok (.iadd, 1) := by decide +kernel
theorem dL_law_911 : decode cL_law 911 = .ok (.iaload, 1) := by decide +kernel
theorem dL_law_912 : decode cL_law 912 = .ok (.aload_n 0, 1) := by decide +kernel
theorem dL_law_913 : decode cL_law 913 = .ok (.iload_n 3, 1) := by decide +kernel
theorem dL_law_914 : decode cL_law 914 = .ok (.iconst 3, 1) := by decide +kernel
theorem dL_law_915 : decode cL_law 915 = .ok (.iadd, 1) := by decide +kernel
theorem dL_law_916 : decode cL_law 916 = .ok (.iaload, 1) := by decide +kernel
theorem dL_law_917 : decode cL_law 917 = .ok (.invokevirtual 112, 3) := by decide +kernel
theorem dL_law_920 : decode cL_law 920 = .ok (.aload_n 2, 1) := by decide +kernel
theorem dL_law_921 : decode cL_law 921 = .ok (.aload_n 0, 1) := by decide +kernel
theorem dL_law_922 : decode cL_law 922 = .ok (.iload_n 3, 1) := by decide +kernel
theorem dL_law_923 : decode cL_law 923 = .ok (.iconst 1, 1) := by decide +kernel
theorem dL_law_924 : decode cL_law 924 = .ok (.iadd, 1) := by decide +kernel
theorem dL_law_925 : decode cL_law 925 = .ok (.iaload, 1) := by decide +kernel
theorem dL_law_926 : decode cL_law 926 = .ok (.aload_n 0, 1) := by decide +kernel
theorem dL_law_927 : decode cL_law 927 = .ok (.iload_n 3, 1) := by decide +kernel
theorem dL_law_928 : decode cL_law 928 = .ok (.iconst 2, 1) := by decide +kernel
theorem dL_law_929 : decode cL_law 929 = .ok (.iadd, 1) := by decide +kernel
theorem dL_law_930 : decode cL_law 930 = .ok (.iaload, 1) := by decide +kernel
theorem dL_law_931 : decode cL_law 931 = .ok (.aload_n 0, 1) := by decide +kernel
theorem dL_law_932 : decode cL_law 932 = .ok (.iload_n 3, 1) := by decide +kernel
theorem dL_law_933 : decode cL_law 933 = .ok (.iconst 3, 1) := by decide +kernel
theorem dL_law_934 : decode cL_law 934 = .ok (.iadd, 1) := by decide +kernel
theorem dL_law_935 : decode cL_law 935 = .ok (.iaload, 1) := by decide +kernel
theorem dL_law_936 : decode cL_law 936 = .ok (.invokevirtual 116, 3) := by decide +kernel
theorem dL_law_939 : decode cL_law 939 = .ok (.if_icmp .eq 502, 3) := by decide +kernel
theorem dL_law_942 : decode cL_law 942 = .ok (.iconst 0, 1) := by decide +kernel
theorem dL_law_943 : decode cL_law 943 = .ok (.ireturn, 1) := by decide +kernel
theorem dL_law_944 : decode cL_law 944 = .ok (.aload_n 1, 1) := by decide +kernel
theorem dL_law_945 : decode cL_law 945 = .ok (.aload_n 0, 1) := by decide +kernel
theorem dL_law_946 : decode cL_law 946 = .ok (.iload_n 3, 1) := by decide +kernel
theorem dL_law_947 : decode cL_law 947 = .ok (.iconst 1, 1) := by decide +kernel
theorem dL_law_948 : decode cL_law 948 = .ok (.iadd, 1) := by decide +kernel
theorem dL_law_949 : decode cL_law 949 = .ok (.iaload, 1) := by decide +kernel
theorem dL_law_950 : decode cL_law 950 = .ok (.aload_n 0, 1) := by decide +kernel
theorem dL_law_951 : decode cL_law 951 = .ok (.iload_n 3, 1) := by decide +kernel
theorem dL_law_952 : decode cL_law 952 = .ok (.iconst 2, 1) := by decide +kernel
theorem dL_law_953 : decode cL_law 953 = .ok (.iadd, 1) := by decide +kernel
theorem dL_law_954 : decode cL_law 954 = .ok (.iaload, 1) := by decide +kernel
theorem dL_law_955 : decode cL_law 955 = .ok (.invokevirtual 117, 3) := by decide +kernel
theorem dL_law_958 : decode cL_law 958 = .ok (.aload_n 2, 1) := by decide +kernel
theorem dL_law_959 : decode cL_law 959 = .ok (.aload_n 0, 1) := by decide +kernel
theorem dL_law_960 : decode cL_law 960 = .ok (.iload_n 3, 1) := by decide +kernel
theorem dL_law_961 : decode cL_law 961 = .ok (.iconst 1, 1) := by decide +kernel
theorem dL_law_962 : decode cL_law 962 = .ok (.iadd, 1) := by decide +kernel
theorem dL_law_963 : decode cL_law 963 = .ok (.iaload, 1) := by decide +kernel
theorem dL_law_964 : decode cL_law 964 = .ok (.aload_n 0, 1) := by decide +kernel
theorem dL_law_965 : decode cL_law 965 = .ok (.iload_n 3, 1) := by decide +kernel
theorem dL_law_966 : decode cL_law 966 = .ok (.iconst 2, 1) := by decide +kernel
theorem dL_law_967 : decode cL_law 967 = .ok (.iadd, 1) := by decide +kernel
theorem dL_law_968 : decode cL_law 968 = .ok (.iaload, 1) := by decide +kernel
theorem dL_law_969 : decode cL_law 969 = .ok (.invokevirtual 120, 3) := by decide +kernel
theorem dL_law_972 : decode cL_law 972 = .ok (.if_icmp .eq 469, 3) := by decide +kernel
theorem dL_law_975 : decode cL_law 975 = .ok (.iconst 0, 1) := by decide +kernel
theorem dL_law_976 : decode cL_law 976 = .ok (.ireturn, 1) := by decide +kernel
theorem dL_law_977 : decode cL_law 977 = .ok (.aload_n 1, 1) := by decide +kernel
theorem dL_law_978 : decode cL_law 978 = .ok (.aload_n 0, 1) := by decide +kernel
theorem dL_law_979 : decode cL_law 979 = .ok (.iload_n 3, 1) := by decide +kernel
theorem dL_law_980 : decode cL_law 980 = .ok (.iconst 1, 1) := by decide +kernel
theorem dL_law_981 : decode cL_law 981 = .ok (.iadd, 1) := by decide +kernel
theorem dL_law_982 : decode cL_law 982 = .ok (.iaload, 1) := by decide +kernel
theorem dL_law_983 : decode cL_law 983 = .ok (.aload_n 0, 1) := by decide +kernel
theorem dL_law_984 : decode cL_law 984 = .ok (.iload_n 3, 1) := by decide +kernel
theorem dL_law_985 : decode cL_law 985 = .ok (.iconst 2, 1) := by decide +kernel
theorem dL_law_986 : decode cL_law 986 = .ok (.iadd, 1) := by decide +kernel
theorem dL_law_987 : decode cL_law 987 = .ok (.iaload, 1) := by decide +kernel
theorem dL_law_988 : decode cL_law 988 = .ok (.invokevirtual 121, 3) := by decide +kernel
theorem dL_law_991 : decode cL_law 991 = .ok (.aload_n 2, 1) := by decide +kernel
theorem dL_law_992 : decode cL_law 992 = .ok (.aload_n 0, 1) := by decide +kernel
theorem dL_law_993 : decode cL_law 993 = .ok (.iload_n 3, 1) := by decide +kernel
theorem dL_law_994 : decode cL_law 994 = .ok (.iconst 1, 1) := by decide +kernel
theorem dL_law_995 : decode cL_law 995 = .ok (.iadd, 1) := by decide +kernel
theorem dL_law_996 : decode cL_law 996 = .ok (.iaload, 1) := by decide +kernel
theorem dL_law_997 : decode cL_law 997 = .ok (.aload_n 0, 1) := by decide +kernel
theorem dL_law_998 : decode cL_law 998 = .ok (.iload_n 3, 1) := by decide +kernel
theorem dL_law_999 : decode cL_law 999 = .ok (.iconst 2, 1) := by decide +kernel
theorem dL_law_1000 : decode cL_law 1000 = .ok (.iadd, 1) := by decide +kernel
theorem dL_law_1001 : decode cL_law 1001 = .ok (.iaload, 1) := by decide +kernel
theorem dL_law_1002 : decode cL_law 1002 = .ok (.invokevirtual 124, 3) := by decide +kernel
theorem dL_law_1005 : decode cL_law 1005 = .ok (.if_icmp .eq 436, 3) := by decide +kernel
theorem dL_law_1008 : decode cL_law 1008 = .ok (.iconst 0, 1) := by decide +kernel
theorem dL_law_1009 : decode cL_law 1009 = .ok (.ireturn, 1) := by decide +kernel
theorem dL_law_1010 : decode cL_law 1010 = .ok (.aload_n 1, 1) := by decide +kernel
theorem dL_law_1011 : decode cL_law 1011 = .ok (.aload_n 0, 1) := by decide +kernel
theorem dL_law_1012 : decode cL_law 1012 = .ok (.iload_n 3, 1) := by decide +kernel
theorem dL_law_1013 : decode cL_law 1013 = .ok (.iconst 1, 1) := by decide +kernel
theorem dL_law_1014 : decode cL_law 1014 = .ok (.iadd, 1) := by decide +kernel
theorem dL_law_1015 : decode cL_law 1015 = .ok (.iaload, 1) := by decide +kernel
theorem dL_law_1016 : decode cL_law 1016 = .ok (.invokevirtual 125, 3) := by decide +kernel
theorem dL_law_1019 : decode cL_law 1019 = .ok (.aload_n 2, 1) := by decide +kernel
theorem dL_law_1020 : decode cL_law 1020 = .ok (.aload_n 0, 1) := by decide +kernel
theorem dL_law_1021 : decode cL_law 1021 = .ok (.iload_n 3, 1) := by decide +kernel
theorem dL_law_1022 : decode cL_law 1022 = .ok (.iconst 1, 1) := by decide +kernel
theorem dL_law_1023 : decode cL_law 1023 = .ok (.iadd, 1) := by decide +kernel
theorem dL_law_1024 : decode cL_law 1024 = .ok (.iaload, 1) := by decide +kernel
theorem dL_law_1025 : decode cL_law 1025 = .ok (.invokevirtual 128, 3) := by decide +kernel
theorem dL_law_1028 : decode cL_law 1028 = .ok (.if_icmp .eq 413, 3) := by decide +kernel
theorem dL_law_1031 : decode cL_law 1031 = .ok (.iconst 0, 1) := by decide +kernel
theorem dL_law_1032 : decode cL_law 1032 = .ok (.ireturn, 1) := by decide +kernel
theorem dL_law_1033 : decode cL_law 1033 = .ok (.aload_n 1, 1) := by decide +kernel
theorem dL_law_1034 : decode cL_law 1034 = .ok (.aload_n 0, 1) := by decide +kernel
theorem dL_law_1035 : decode cL_law 1035 = .ok (.iload_n 3, 1) := by decide +kernel
theorem dL_law_1036 : decode cL_law 1036 = .ok (.iconst 1, 1) := by decide +kernel
theorem dL_law_1037 : decode cL_law 1037 = .ok (.iadd, 1) := by decide +kernel
theorem dL_law_1038 : decode cL_law 1038 = .ok (.iaload, 1) := by decide +kernel
theorem dL_law_1039 : decode cL_law 1039 = .ok (.aload_n 0, 1) := by decide +kernel
theorem dL_law_1040 : decode cL_law 1040 = .ok (.iload_n 3, 1) := by decide +kernel
theorem dL_law_1041 : decode cL_law 1041 = .ok (.iconst 2, 1) := by decide +kernel
theorem dL_law_1042 : decode cL_law 1042 = .ok (.iadd, 1) := by decide +kernel
theorem dL_law_1043 : decode cL_law 1043 = .ok (.iaload, 1) := by decide +kernel
theorem dL_law_1044 : decode cL_law 1044 = .ok (.invokevirtual 129, 3) := by decide +kernel
theorem dL_law_1047 : decode cL_law 1047 = .ok (.aload_n 2, 1) := by decide +kernel
theorem dL_law_1048 : decode cL_law 1048 = .ok (.aload_n 0, 1) := by decide +kernel
theorem dL_law_1049 : decode cL_law 1049 = .ok (.iload_n 3, 1) := by decide +kernel
theorem dL_law_1050 : decode cL_law 1050 = .ok (.iconst 1, 1) := by decide +kernel
theorem dL_law_1051 : decode cL_law 1051 = .ok (.iadd, 1) := by decide +kernel
theorem dL_law_1052 : decode cL_law 1052 = .ok (.iaload, 1) := by decide +kernel
theorem dL_law_1053 : decode cL_law 1053 = .ok (.aload_n 0, 1) := by decide +kernel
theorem dL_law_1054 : decode cL_law 1054 = .ok (.iload_n 3, 1) := by decide +kernel
theorem dL_law_1055 : decode cL_law 1055 = .ok (.iconst 2, 1) := by decide +kernel
theorem dL_law_1056 : decode cL_law 1056 = .ok (.iadd, 1) := by decide +kernel
theorem dL_law_1057 : decode cL_law 1057 = .ok (.iaload, 1) := by decide +kernel
theorem dL_law_1058 : decode cL_law 1058 = .ok (.invokevirtual 132, 3) := by decide +kernel
theorem dL_law_1061 : decode cL_law 1061 = .ok (.if_icmp .eq 380, 3) := by decide +kernel
theorem dL_law_1064 : decode cL_law 1064 = .ok (.iconst 0, 1) := by decide +kernel
theorem dL_law_1065 : decode cL_law 1065 = .ok (.ireturn, 1) := by decide +kernel
theorem dL_law_1066 : decode cL_law 1066 = .ok (.aload_n 1, 1) := by decide +kernel
theorem dL_law_1067 : decode cL_law 1067 = .ok (.aload_n 0, 1) := by decide +kernel
theorem dL_law_1068 : decode cL_law 1068 = .ok (.iload_n 3, 1) := by decide +kernel
theorem dL_law_1069 : decode cL_law 1069 = .ok (.iconst 1, 1) := by decide +kernel
theorem dL_law_1070 : decode cL_law 1070 = .ok (.iadd, 1) := by decide +kernel
theorem dL_law_1071 : decode cL_law 1071 = .ok (.iaload, 1) := by decide +kernel
theorem dL_law_1072 : decode cL_law 1072 = .ok (.invokevirtual 133, 3) := by decide +kernel
theorem dL_law_1075 : decode cL_law 1075 = .ok (.aload_n 2, 1) := by decide +kernel
theorem dL_law_1076 : decode cL_law 1076 = .ok (.aload_n 0, 1) := by decide +kernel
theorem dL_law_1077 : decode cL_law 1077 = .ok (.iload_n 3, 1) := by decide +kernel
theorem dL_law_1078 : decode cL_law 1078 = .ok (.iconst 1, 1) := by decide +kernel
theorem dL_law_1079 : decode cL_law 1079 = .ok (.iadd, 1) := by decide +kernel
theorem dL_law_1080 : decode cL_law 1080 = .ok (.iaload, 1) := by decide +kernel
theorem dL_law_1081 : decode cL_law 1081 = .ok (.invokevirtual 136, 3) := by decide +kernel
theorem dL_law_1084 : decode cL_law 1084 = .ok (.if_icmp .eq 357, 3) := by decide +kernel
theorem dL_law_1087 : decode cL_law 1087 = .ok (.iconst 0, 1) := by decide +kernel
theorem dL_law_1088 : decode cL_law 1088 = .ok (.ireturn, 1) := by decide +kernel
theorem dL_law_1089 : decode cL_law 1089 = .ok (.aload_n 1, 1) := by decide +kernel
theorem dL_law_1090 : decode cL_law 1090 = .ok (.aload_n 0, 1) := by decide +kernel
theorem dL_law_1091 : decode cL_law 1091 = .ok (.iload_n 3, 1) := by decide +kernel
theorem dL_law_1092 : decode cL_law 1092 = .ok (.iconst 1, 1) := by decide +kernel
theorem dL_law_1093 : decode cL_law 1093 = .ok (.iadd, 1) := by decide +kernel
theorem dL_law_1094 : decode cL_law 1094 = .ok (.iaload, 1) := by decide +kernel
theorem dL_law_1095 : decode cL_law 1095 = .ok (.aload_n 0, 1) := by decide +kernel
theorem dL_law_1096 : decode cL_law 1096 = .ok (.iload_n 3, 1) := by decide +kernel
theorem dL_law_1097 : decode cL_law 1097 = .ok (.iconst 2, 1) := by decide +kernel
theorem dL_law_1098 : decode cL_law 1098 = .ok (.iadd, 1) := by decide +kernel
theorem dL_law_1099 : decode cL_law 1099 = .ok (.iaload, 1) := by decide +kernel
theorem dL_law_1100 : decode cL_law 1100 = .ok (.invokevirtual 137, 3) := by decide +kernel
theorem dL_law_1103 : decode cL_law 1103 = .ok (.aload_n 2, 1) := by decide +kernel
theorem dL_law_1104 : decode cL_law 1104 = .ok (.aload_n 0, 1) := by decide +kernel
theorem dL_law_1105 : decode cL_law 1105 = .ok (.iload_n 3, 1) := by decide +kernel
theorem dL_law_1106 : decode cL_law 1106 = .ok (.iconst 1, 1) := by decide +kernel
theorem dL_law_1107 : decode cL_law 1107 = .ok (.iadd, 1) := by decide +kernel
theorem dL_law_1108 : decode cL_law 1108 = .ok (.iaload, 1) := by decide +kernel
theorem dL_law_1109 : decode cL_law 1109 = .ok (.aload_n 0, 1) := by decide +kernel
theorem dL_law_1110 : decode cL_law 1110 = .ok (.iload_n 3, 1) := by decide +kernel
theorem dL_law_1111 : decode cL_law 1111 = .ok (.iconst 2, 1) := by decide +kernel
theorem dL_law_1112 : decode cL_law 1112 = .ok (.iadd, 1) := by decide +kernel
theorem dL_law_1113 : decode cL_law 1113 = .ok (.iaload, 1) := by decide +kernel
theorem dL_law_1114 : decode cL_law 1114 = .ok (.invokevirtual 140, 3) := by decide +kernel
theorem dL_law_1117 : decode cL_law 1117 = .ok (.if_icmp .eq 324, 3) := by decide +kernel
theorem dL_law_1120 : decode cL_law 1120 = .ok (.iconst 0, 1) := by decide +kernel
theorem dL_law_1121 : decode cL_law 1121 = .ok (.ireturn, 1) := by decide +kernel
theorem dL_law_1122 : decode cL_law 1122 = .ok (.aload_n 1, 1) := by decide +kernel
theorem dL_law_1123 : decode cL_law 1123 = .ok (.aload_n 0, 1) := by decide +kernel
theorem dL_law_1124 : decode cL_law 1124 = .ok (.iload_n 3, 1) := by decide +kernel
theorem dL_law_1125 : decode cL_law 1125 = .ok (.iconst 1, 1) := by decide +kernel
theorem dL_law_1126 : decode cL_law 1126 = .ok (.iadd, 1) := by decide +kernel
theorem dL_law_1127 : decode cL_law 1127 = .ok (.iaload, 1) := by decide +kernel
theorem dL_law_1128 : decode cL_law 1128 = .ok (.aload_n 0, 1) := by decide +kernel
theorem dL_law_1129 : decode cL_law 1129 = .ok (.iload_n 3, 1) := by decide +kernel
theorem dL_law_1130 : decode cL_law 1130 = .ok (.iconst 2, 1) := by decide +kernel
theorem dL_law_1131 : decode cL_law 1131 = .ok (.iadd, 1) := by decide +kernel
theorem dL_law_1132 : decode cL_law 1132 = .ok (.iaload, 1) := by decide +kernel
theorem dL_law_1133 : decode cL_law 1133 = .ok (.aload_n 0, 1) := by decide +kernel
theorem dL_law_1134 : decode cL_law 1134 = .ok (.iload_n 3, 1) := by decide +kernel
theorem dL_law_1135 : decode cL_law 1135 = .ok (.iconst 3, 1) := by decide +kernel
theorem dL_law_1136 : decode cL_law 1136 = .ok (.iadd, 1) := by decide +kernel
theorem dL_law_1137 : decode cL_law 1137 = .ok (.iaload, 1) := by decide +kernel
theorem dL_law_1138 : decode cL_law 1138 = .ok (.invokevirtual 141, 3) := by decide +kernel
theorem dL_law_1141 : decode cL_law 1141 = .ok (.aload_n 2, 1) := by decide +kernel
theorem dL_law_1142 : decode cL_law 1142 = .ok (.aload_n 0, 1) := by decide +kernel
theorem dL_law_1143 : decode cL_law 1143 = .ok (.iload_n 3, 1) := by decide +kernel
theorem dL_law_1144 : decode cL_law 1144 = .ok (.iconst 1, 1) := by decide +kernel
theorem dL_law_1145 : decode cL_law 1145 = .ok (.iadd, 1) := by decide +kernel
theorem dL_law_1146 : decode cL_law 1146 = .ok (.iaload, 1) := by decide +kernel
theorem dL_law_1147 : decode cL_law 1147 = .ok (.aload_n 0, 1) := by decide +kernel
theorem dL_law_1148 : decode cL_law 1148 = .ok (.iload_n 3, 1) := by decide +kernel
theorem dL_law_1149 : decode cL_law 1149 = .ok (.iconst 2, 1) := by decide +kernel
theorem dL_law_1150 : decode cL_law 1150 = .ok (.iadd, 1) := by decide +kernel
theorem dL_law_1151 : decode cL_law 1151 = .ok (.iaload, 1) := by decide +kernel
theorem dL_law_1152 : decode cL_law 1152 = .ok (.aload_n 0, 1) := by decide +kernel
theorem dL_law_1153 : decode cL_law 1153 = .ok (.iload_n 3, 1) := by decide +kernel
theorem dL_law_1154 : decode cL_law 1154 = .ok (.iconst 3, 1) := by decide +kernel
theorem dL_law_1155 : decode cL_law 1155 = .ok (.iadd, 1) := by decide +kernel
theorem dL_law_1156 : decode cL_law 1156 = .ok (.iaload, 1) := by decide +kernel
theorem dL_law_1157 : decode cL_law 1157 = .ok (.invokevirtual 145, 3) := by decide +kernel
theorem dL_law_1160 : decode cL_law 1160 = .ok (.if_icmp .eq 281, 3) := by decide +kernel
theorem dL_law_1163 : decode cL_law 1163 = .ok (.iconst 0, 1) := by decide +kernel
theorem dL_law_1164 : decode cL_law 1164 = .ok (.ireturn, 1) := by decide +kernel
theorem dL_law_1165 : decode cL_law 1165 = .ok (.aload_n 1, 1) := by decide +kernel
theorem dL_law_1166 : decode cL_law 1166 = .ok (.aload_n 0, 1) := by decide +kernel
theorem dL_law_1167 : decode cL_law 1167 = .ok (.iload_n 3, 1) := by decide +kernel
theorem dL_law_1168 : decode cL_law 1168 = .ok (.iconst 1, 1) := by decide +kernel
theorem dL_law_1169 : decode cL_law 1169 = .ok (.iadd, 1) := by decide +kernel
theorem dL_law_1170 : decode cL_law 1170 = .ok (.iaload, 1) := by decide +kernel
theorem dL_law_1171 : decode cL_law 1171 = .ok (.aload_n 0, 1) := by decide +kernel
theorem dL_law_1172 : decode cL_law 1172 = .ok (.iload_n 3, 1) := by decide +kernel
theorem dL_law_1173 : decode cL_law 1173 = .ok (.iconst 2, 1) := by decide +kernel
theorem dL_law_1174 : decode cL_law 1174 = .ok (.iadd, 1) := by decide +kernel
theorem dL_law_1175 : decode cL_law 1175 = .ok (.iaload, 1) := by decide +kernel
theorem dL_law_1176 : decode cL_law 1176 = .ok (.invokevirtual 146, 3) := by decide +kernel
theorem dL_law_1179 : decode cL_law 1179 = .ok (.aload_n 2, 1) := by decide +kernel
theorem dL_law_1180 : decode cL_law 1180 = .ok (.aload_n 0, 1) := by decide +kernel
theorem dL_law_1181 : decode cL_law 1181 = .ok (.iload_n 3, 1) := by decide +kernel
theorem dL_law_1182 : decode cL_law 1182 = .ok (.iconst 1, 1) := by decide +kernel
theorem dL_law_1183 : decode cL_law 1183 = .ok (.iadd, 1) := by decide +kernel
theorem dL_law_1184 : decode cL_law 1184 = .ok (.iaload, 1) := by decide +kernel
theorem dL_law_1185 : decode cL_law 1185 = .ok (.aload_n 0, 1) := by decide +kernel
theorem dL_law_1186 : decode cL_law 1186 = .ok (.iload_n 3, 1) := by decide +kernel
theorem dL_law_1187 : decode cL_law 1187 = .ok (.iconst 2, 1) := by decide +kernel
theorem dL_law_1188 : decode cL_law 1188 = .ok (.iadd, 1) := by decide +kernel
theorem dL_law_1189 : decode cL_law 1189 = .ok (.iaload, 1) := by decide +kernel
theorem dL_law_1190 : decode cL_law 1190 = .ok (.invokevirtual 149, 3) := by decide +kernel
theorem dL_law_1193 : decode cL_law 1193 = .ok (.if_icmp .eq 248, 3) := by decide +kernel
theorem dL_law_1196 : decode cL_law 1196 = .ok (.iconst 0, 1) := by decide +kernel
theorem dL_law_1197 : decode cL_law 1197 = .ok (.ireturn, 1) := by decide +kernel
theorem dL_law_1198 : decode cL_law 1198 = .ok (.aload_n 1, 1) := by decide +kernel
theorem dL_law_1199 : decode cL_law 1199 = .ok (.aload_n 0, 1) := by decide +kernel
theorem dL_law_1200 : decode cL_law 1200 = .ok (.iload_n 3, 1) := by decide +kernel
theorem dL_law_1201 : decode cL_law 1201 = .ok (.iconst 1, 1) := by decide +kernel
theorem dL_law_1202 : decode cL_law 1202 = .ok (.iadd, 1) := by decide +kernel
theorem dL_law_1203 : decode cL_law 1203 = .ok (.iaload, 1) := by decide +kernel
theorem dL_law_1204 : decode cL_law 1204 = .ok (.invokevirtual 150, 3) := by decide +kernel
theorem dL_law_1207 : decode cL_law 1207 = .ok (.aload_n 2, 1) := by decide +kernel
theorem dL_law_1208 : decode cL_law 1208 = .ok (.aload_n 0, 1) := by decide +kernel
theorem dL_law_1209 : decode cL_law 1209 = .ok (.iload_n 3, 1) := by decide +kernel
theorem dL_law_1210 : decode cL_law 1210 = .ok (.iconst 1, 1) := by decide +kernel
theorem dL_law_1211 : decode cL_law 1211 = .ok (.iadd, 1) := by decide +kernel
theorem dL_law_1212 : decode cL_law 1212 = .ok (.iaload, 1) := by decide +kernel
theorem dL_law_1213 : decode cL_law 1213 = .ok (.invokevirtual 153, 3) := by decide +kernel
theorem dL_law_1216 : decode cL_law 1216 = .ok (.if_icmp .eq 225, 3) := by decide +kernel
theorem dL_law_1219 : decode cL_law 1219 = .ok (.iconst 0, 1) := by decide +kernel
theorem dL_law_1220 : decode cL_law 1220 = .ok (.ireturn, 1) := by decide +kernel
theorem dL_law_1221 : decode cL_law 1221 = .ok (.aload_n 1, 1) := by decide +kernel
theorem dL_law_1222 : decode cL_law 1222 = .ok (.invokevirtual 154, 3) := by decide +kernel
theorem dL_law_1225 : decode cL_law 1225 = .ok (.aload_n 2, 1) := by decide +kernel
theorem dL_law_1226 : decode cL_law 1226 = .ok (.invokevirtual 157, 3) := by decide +kernel
theorem dL_law_1229 : decode cL_law 1229 = .ok (.if_icmp .eq 212, 3) := by decide +kernel
theorem dL_law_1232 : decode cL_law 1232 = .ok (.iconst 0, 1) := by decide +kernel
theorem dL_law_1233 : decode cL_law 1233 = .ok (.ireturn, 1) := by decide +kernel
theorem dL_law_1234 : decode cL_law 1234 = .ok (.aload_n 1, 1) := by decide +kernel
theorem dL_law_1235 : decode cL_law 1235 = .ok (.invokevirtual 158, 3) := by decide +kernel
theorem dL_law_1238 : decode cL_law 1238 = .ok (.aload_n 2, 1) := by decide +kernel
theorem dL_law_1239 : decode cL_law 1239 = .ok (.invokevirtual 161, 3) := by decide +kernel
theorem dL_law_1242 : decode cL_law 1242 = .ok (.if_icmp .eq 199, 3) := by decide +kernel
theorem dL_law_1245 : decode cL_law 1245 = .ok (.iconst 0, 1) := by decide +kernel
theorem dL_law_1246 : decode cL_law 1246 = .ok (.ireturn, 1) := by decide +kernel
theorem dL_law_1247 : decode cL_law 1247 = .ok (.aload_n 1, 1) := by decide +kernel
theorem dL_law_1248 : decode cL_law 1248 = .ok (.invokevirtual 162, 3) := by decide +kernel
theorem dL_law_1251 : decode cL_law 1251 = .ok (.aload_n 2, 1) := by decide +kernel
theorem dL_law_1252 : decode cL_law 1252 = .ok (.invokevirtual 165, 3) := by decide +kernel
theorem dL_law_1255 : decode cL_law 1255 = .ok (.if_icmp .eq 186, 3) := by decide +kernel
theorem dL_law_1258 : decode cL_law 1258 = .ok (.iconst 0, 1) := by decide +kernel
theorem dL_law_1259 : decode cL_law 1259 = .ok (.ireturn, 1) := by decide +kernel
theorem dL_law_1260 : decode cL_law 1260 = .ok (.aload_n 1, 1) := by decide +kernel
theorem dL_law_1261 : decode cL_law 1261 = .ok (.aload_n 0, 1) := by decide +kernel
theorem dL_law_1262 : decode cL_law 1262 = .ok (.iload_n 3, 1) := by decide +kernel
theorem dL_law_1263 : decode cL_law 1263 = .ok (.iconst 1, 1) := by decide +kernel
theorem dL_law_1264 : decode cL_law 1264 = .ok (.iadd, 1) := by decide +kernel
theorem dL_law_1265 : decode cL_law 1265 = .ok (.iaload, 1) := by decide +kernel
theorem dL_law_1266 : decode cL_law 1266 = .ok (.aload_n 0, 1) := by decide +kernel
theorem dL_law_1267 : decode cL_law 1267 = .ok (.iload_n 3, 1) := by decide +kernel
theorem dL_law_1268 : decode cL_law 1268 = .ok (.iconst 2, 1) := by decide +kernel
theorem dL_law_1269 : decode cL_law 1269 = .ok (.iadd, 1) := by decide +kernel
theorem dL_law_1270 : decode cL_law 1270 = .ok (.iaload, 1) := by decide +kernel
theorem dL_law_1271 : decode cL_law 1271 = .ok (.invokevirtual 166, 3) := by decide +kernel
theorem dL_law_1274 : decode cL_law 1274 = .ok (.aload_n 2, 1) := by decide +kernel
theorem dL_law_1275 : decode cL_law 1275 = .ok (.aload_n 0, 1) := by decide +kernel
theorem dL_law_1276 : decode cL_law 1276 = .ok (.iload_n 3, 1) := by decide +kernel
theorem dL_law_1277 : decode cL_law 1277 = .ok (.iconst 1, 1) := by decide +kernel
theorem dL_law_1278 : decode cL_law 1278 = .ok (.iadd, 1) := by decide +kernel
theorem dL_law_1279 : decode cL_law 1279 = .ok (.iaload, 1) := by decide +kernel
theorem dL_law_1280 : decode cL_law 1280 = .ok (.aload_n 0, 1) := by decide +kernel
theorem dL_law_1281 : decode cL_law 1281 = .ok (.iload_n 3, 1) := by decide +kernel
theorem dL_law_1282 : decode cL_law 1282 = .ok (.iconst 2, 1) := by decide +kernel
theorem dL_law_1283 : decode cL_law 1283 = .ok (.iadd, 1) := by decide +kernel
theorem dL_law_1284 : decode cL_law 1284 = .ok (.iaload, 1) := by decide +kernel
theorem dL_law_1285 : decode cL_law 1285 = .ok (.invokevirtual 169, 3) := by decide +kernel
theorem dL_law_1288 : decode cL_law 1288 = .ok (.if_icmp .eq 153, 3) := by decide +kernel
theorem dL_law_1291 : decode cL_law 1291 = .ok (.iconst 0, 1) := by decide +kernel
theorem dL_law_1292 : decode cL_law 1292 = .ok (.ireturn, 1) := by decide +kernel
theorem dL_law_1293 : decode cL_law 1293 = .ok (.aload_n 1, 1) := by decide +kernel
theorem dL_law_1294 : decode cL_law 1294 = .ok (.aload_n 0, 1) := by decide +kernel
theorem dL_law_1295 : decode cL_law 1295 = .ok (.iload_n 3, 1) := by decide +kernel
theorem dL_law_1296 : decode cL_law 1296 = .ok (.iconst 1, 1) := by decide +kernel
theorem dL_law_1297 : decode cL_law 1297 = .ok (.iadd, 1) := by decide +kernel
theorem dL_law_1298 : decode cL_law 1298 = .ok (.iaload, 1) := by decide +kernel
theorem dL_law_1299 : decode cL_law 1299 = .ok (.aload_n 0, 1) := by decide +kernel
theorem dL_law_1300 : decode cL_law 1300 = .ok (.iload_n 3, 1) := by decide +kernel
theorem dL_law_1301 : decode cL_law 1301 = .ok (.iconst 2, 1) := by decide +kernel
theorem dL_law_1302 : decode cL_law 1302 = .ok (.iadd, 1) := by decide +kernel
theorem dL_law_1303 : decode cL_law 1303 = .ok (.iaload, 1) := by decide +kernel
theorem dL_law_1304 : decode cL_law 1304 = .ok (.invokevirtual 170, 3) := by decide +kernel
theorem dL_law_1307 : decode cL_law 1307 = .ok (.aload_n 2, 1) := by decide +kernel
theorem dL_law_1308 : decode cL_law 1308 = .ok (.aload_n 0, 1) := by decide +kernel
theorem dL_law_1309 : decode cL_law 1309 = .ok (.iload_n 3, 1) := by decide +kernel
theorem dL_law_1310 : decode cL_law 1310 = .ok (.iconst 1, 1) := by decide +kernel
theorem dL_law_1311 : decode cL_law 1311 = .ok (.iadd, 1) := by decide +kernel
theorem dL_law_1312 : decode cL_law 1312 = .ok (.iaload, 1) := by decide +kernel
theorem dL_law_1313 : decode cL_law 1313 = .ok (.aload_n 0, 1) := by decide +kernel
theorem dL_law_1314 : decode cL_law 1314 = .ok (.iload_n 3, 1) := by decide +kernel
theorem dL_law_1315 : decode cL_law 1315 = .ok (.iconst 2, 1) := by decide +kernel
theorem dL_law_1316 : decode cL_law 1316 = .ok (.iadd, 1) := by decide +kernel
theorem dL_law_1317 : decode cL_law 1317 = .ok (.iaload, 1) := by decide +kernel
theorem dL_law_1318 : decode cL_law 1318 = .ok (.invokevirtual 173, 3) := by decide +kernel
theorem dL_law_1321 : decode cL_law 1321 = .ok (.if_icmp .eq 120, 3) := by decide +kernel
theorem dL_law_1324 : decode cL_law 1324 = .ok (.iconst 0, 1) := by decide +kernel
theorem dL_law_1325 : decode cL_law 1325 = .ok (.ireturn, 1) := by decide +kernel
theorem dL_law_1326 : decode cL_law 1326 = .ok (.aload_n 1, 1) := by decide +kernel
theorem dL_law_1327 : decode cL_law 1327 = .ok (.aload_n 0, 1) := by decide +kernel
theorem dL_law_1328 : decode cL_law 1328 = .ok (.iload_n 3, 1) := by decide +kernel
theorem dL_law_1329 : decode cL_law 1329 = .ok (.iconst 1, 1) := by decide +kernel
theorem dL_law_1330 : decode cL_law 1330 = .ok (.iadd, 1) := by decide +kernel
theorem dL_law_1331 : decode cL_law 1331 = .ok (.iaload, 1) := by decide +kernel
theorem dL_law_1332 : decode cL_law 1332 = .ok (.aload_n 0, 1) := by decide +kernel
theorem dL_law_1333 : decode cL_law 1333 = .ok (.iload_n 3, 1) := by decide +kernel
theorem dL_law_1334 : decode cL_law 1334 = .ok (.iconst 2, 1) := by decide +kernel
theorem dL_law_1335 : decode cL_law 1335 = .ok (.iadd, 1) := by decide +kernel
theorem dL_law_1336 : decode cL_law 1336 = .ok (.iaload, 1) := by decide +kernel
theorem dL_law_1337 : decode cL_law 1337 = .ok (.invokevirtual 174, 3) := by decide +kernel
theorem dL_law_1340 : decode cL_law 1340 = .ok (.aload_n 2, 1) := by decide +kernel
theorem dL_law_1341 : decode cL_law 1341 = .ok (.aload_n 0, 1) := by decide +kernel
theorem dL_law_1342 : decode cL_law 1342 = .ok (.iload_n 3, 1) := by decide +kernel
theorem dL_law_1343 : decode cL_law 1343 = .ok (.iconst 1, 1) := by decide +kernel
theorem dL_law_1344 : decode cL_law 1344 = .ok (.iadd, 1) := by decide +kernel
theorem dL_law_1345 : decode cL_law 1345 = .ok (.iaload, 1) := by decide +kernel
theorem dL_law_1346 : decode cL_law 1346 = .ok (.aload_n 0, 1) := by decide +kernel
theorem dL_law_1347 : decode cL_law 1347 = .ok (.iload_n 3, 1) := by decide +kernel
theorem dL_law_1348 : decode cL_law 1348 = .ok (.iconst 2, 1) := by decide +kernel
theorem dL_law_1349 : decode cL_law 1349 = .ok (.iadd, 1) := by decide +kernel
theorem dL_law_1350 : decode cL_law 1350 = .ok (.iaload, 1) := by decide +kernel
theorem dL_law_1351 : decode cL_law 1351 = .ok (.invokevirtual 177, 3) := by decide +kernel
theorem dL_law_1354 : decode cL_law 1354 = .ok (.if_icmp .eq 87, 3) := by decide +kernel
theorem dL_law_1357 : decode cL_law 1357 = .ok (.iconst 0, 1) := by decide +kernel
theorem dL_law_1358 : decode cL_law 1358 = .ok (.ireturn, 1) := by decide +kernel
theorem dL_law_1359 : decode cL_law 1359 = .ok (.aload_n 1, 1) := by decide +kernel
theorem dL_law_1360 : decode cL_law 1360 = .ok (.aload_n 0, 1) := by decide +kernel
theorem dL_law_1361 : decode cL_law 1361 = .ok (.iload_n 3, 1) := by decide +kernel
theorem dL_law_1362 : decode cL_law 1362 = .ok (.iconst 1, 1) := by decide +kernel
theorem dL_law_1363 : decode cL_law 1363 = .ok (.iadd, 1) := by decide +kernel
theorem dL_law_1364 : decode cL_law 1364 = .ok (.iaload, 1) := by decide +kernel
theorem dL_law_1365 : decode cL_law 1365 = .ok (.invokevirtual 178, 3) := by decide +kernel
theorem dL_law_1368 : decode cL_law 1368 = .ok (.aload_n 2, 1) := by decide +kernel
theorem dL_law_1369 : decode cL_law 1369 = .ok (.aload_n 0, 1) := by decide +kernel
theorem dL_law_1370 : decode cL_law 1370 = .ok (.iload_n 3, 1) := by decide +kernel
theorem dL_law_1371 : decode cL_law 1371 = .ok (.iconst 1, 1) := by decide +kernel
theorem dL_law_1372 : decode cL_law 1372 = .ok (.iadd, 1) := by decide +kernel
theorem dL_law_1373 : decode cL_law 1373 = .ok (.iaload, 1) := by decide +kernel
theorem dL_law_1374 : decode cL_law 1374 = .ok (.invokevirtual 181, 3) := by decide +kernel
theorem dL_law_1377 : decode cL_law 1377 = .ok (.if_icmp .eq 64, 3) := by decide +kernel
theorem dL_law_1380 : decode cL_law 1380 = .ok (.iconst 0, 1) := by decide +kernel
theorem dL_law_1381 : decode cL_law 1381 = .ok (.ireturn, 1) := by decide +kernel
theorem dL_law_1382 : decode cL_law 1382 = .ok (.aload_n 1, 1) := by decide +kernel
theorem dL_law_1383 : decode cL_law 1383 = .ok (.aload_n 0, 1) := by decide +kernel
theorem dL_law_1384 : decode cL_law 1384 = .ok (.iload_n 3, 1) := by decide +kernel
theorem dL_law_1385 : decode cL_law 1385 = .ok (.iconst 1, 1) := by decide +kernel
theorem dL_law_1386 : decode cL_law 1386 = .ok (.iadd, 1) := by decide +kernel
theorem dL_law_1387 : decode cL_law 1387 = .ok (.iaload, 1) := by decide +kernel
theorem dL_law_1388 : decode cL_law 1388 = .ok (.invokevirtual 182, 3) := by decide +kernel
theorem dL_law_1391 : decode cL_law 1391 = .ok (.aload_n 2, 1) := by decide +kernel
theorem dL_law_1392 : decode cL_law 1392 = .ok (.aload_n 0, 1) := by decide +kernel
theorem dL_law_1393 : decode cL_law 1393 = .ok (.iload_n 3, 1) := by decide +kernel
theorem dL_law_1394 : decode cL_law 1394 = .ok (.iconst 1, 1) := by decide +kernel
theorem dL_law_1395 : decode cL_law 1395 = .ok (.iadd, 1) := by decide +kernel
theorem dL_law_1396 : decode cL_law 1396 = .ok (.iaload, 1) := by decide +kernel
theorem dL_law_1397 : decode cL_law 1397 = .ok (.invokevirtual 185, 3) := by decide +kernel
theorem dL_law_1400 : decode cL_law 1400 = .ok (.if_icmp .eq 41, 3) := by decide +kernel
theorem dL_law_1403 : decode cL_law 1403 = .ok (.iconst 0, 1) := by decide +kernel
theorem dL_law_1404 : decode cL_law 1404 = .ok (.ireturn, 1) := by decide +kernel
theorem dL_law_1405 : decode cL_law 1405 = .ok (.aload_n 1, 1) := by decide +kernel
theorem dL_law_1406 : decode cL_law 1406 = .ok (.aload_n 0, 1) := by decide +kernel
theorem dL_law_1407 : decode cL_law 1407 = .ok (.iload_n 3, 1) := by decide +kernel
theorem dL_law_1408 : decode cL_law 1408 = .ok (.iconst 1, 1) := by decide +kernel
theorem dL_law_1409 : decode cL_law 1409 = .ok (.iadd, 1) := by decide +kernel
theorem dL_law_1410 : decode cL_law 1410 = .ok (.iaload, 1) := by decide +kernel
theorem dL_law_1411 : decode cL_law 1411 = .ok (.invokevirtual 186, 3) := by decide +kernel
theorem dL_law_1414 : decode cL_law 1414 = .ok (.aload_n 2, 1) := by decide +kernel
theorem dL_law_1415 : decode cL_law 1415 = .ok (.aload_n 0, 1) := by decide +kernel
theorem dL_law_1416 : decode cL_law 1416 = .ok (.iload_n 3, 1) := by decide +kernel
theorem dL_law_1417 : decode cL_law 1417 = .ok (.iconst 1, 1) := by decide +kernel
theorem dL_law_1418 : decode cL_law 1418 = .ok (.iadd, 1) := by decide +kernel
theorem dL_law_1419 : decode cL_law 1419 = .ok (.iaload, 1) := by decide +kernel
theorem dL_law_1420 : decode cL_law 1420 = .ok (.invokevirtual 189, 3) := by decide +kernel
theorem dL_law_1423 : decode cL_law 1423 = .ok (.if_icmp .eq 18, 3) := by decide +kernel
theorem dL_law_1426 : decode cL_law 1426 = .ok (.iconst 0, 1) := by decide +kernel
theorem dL_law_1427 : decode cL_law 1427 = .ok (.ireturn, 1) := by decide +kernel
theorem dL_law_1428 : decode cL_law 1428 = .ok (.aload_n 1, 1) := by decide +kernel
theorem dL_law_1429 : decode cL_law 1429 = .ok (.invokevirtual 190, 3) := by decide +kernel
theorem dL_law_1432 : decode cL_law 1432 = .ok (.aload_n 2, 1) := by decide +kernel
theorem dL_law_1433 : decode cL_law 1433 = .ok (.invokevirtual 193, 3) := by decide +kernel
theorem dL_law_1436 : decode cL_law 1436 = .ok (.if_icmp .eq 5, 3) := by decide +kernel
theorem dL_law_1439 : decode cL_law 1439 = .ok (.iconst 0, 1) := by decide +kernel
theorem dL_law_1440 : decode cL_law 1440 = .ok (.ireturn, 1) := by decide +kernel
theorem dL_law_1441 : decode cL_law 1441 = .ok (.iinc 3 7, 3) := by decide +kernel
theorem dL_law_1444 : decode cL_law 1444 = .ok (.goto (-1426), 3) := by decide +kernel
theorem dL_law_1447 : decode cL_law 1447 = .ok (.iconst 1, 1) := by decide +kernel
theorem dL_law_1448 : decode cL_law 1448 = .ok (.ireturn, 1) := by decide +kernel
def st0 (R : SS → Prop) (a : Nat → Int32) (σ : SS) : Prop := ∃ (v : Int32) (σ1 : SS) (σ2 : SS), (fX7_feed σ (a 1) (a 2) (a 3) (a 4) (a 5)) = some (v, σ1) ∧ (fX8_feed σ1 (a 1) (a 2) (a 3) (a 4) (a 5)) = some (v, σ2) ∧ R σ2
set_option maxRecDepth 20000 in
theorem law_c0 {g : GG} {R : SS → Prop} {i : Nat} {σ : SS} (hi : i + 7 ≤ sl g) (hL : sl g ≤ 3584) (h : st0 R (fun j => xs g (i + j)) σ) (kk : ∀ σ', R σ' → RR g mL (FL g) zL 1441 [(0, .ref (ad g 1030)), (1, .ref (ad g 1)), (2, .ref (ad g 73)), (3, .int (nI i))] [] σ') : RR g mL (FL g) zL 220 [(0, .ref (ad g 1030)), (1, .ref (ad g 1)), (2, .ref (ad g 73)), (3, .int (nI i))] [] σ := by
  obtain ⟨v, σ1, σ2, e1, e2, hR⟩ := h
  refine r_aload_n (pc := 220) (j := 1) dL_law_220 rfl rfl ?_
  refine r_aload_n (pc := 221) (j := 0) dL_law_221 rfl rfl ?_
  refine r_iload_n (pc := 222) (j := 3) dL_law_222 rfl rfl ?_
  refine r_iconst (pc := 223) (v := (1 : Int32)) dL_law_223 rfl ?_
  refine r_iadd (pc := 224) dL_law_224 ?_
  refine r_scr (pc := 225) (i := i) (j := 1) (nI_add i 1) ⟨by omega, hL⟩ dL_law_225 ?_
  refine r_aload_n (pc := 226) (j := 0) dL_law_226 rfl rfl ?_
  refine r_iload_n (pc := 227) (j := 3) dL_law_227 rfl rfl ?_
  refine r_iconst (pc := 228) (v := (2 : Int32)) dL_law_228 rfl ?_
  refine r_iadd (pc := 229) dL_law_229 ?_
  refine r_scr (pc := 230) (i := i) (j := 2) (nI_add i 2) ⟨by omega, hL⟩ dL_law_230 ?_
  refine r_aload_n (pc := 231) (j := 0) dL_law_231 rfl rfl ?_
  refine r_iload_n (pc := 232) (j := 3) dL_law_232 rfl rfl ?_
  refine r_iconst (pc := 233) (v := (3 : Int32)) dL_law_233 rfl ?_
  refine r_iadd (pc := 234) dL_law_234 ?_
  refine r_scr (pc := 235) (i := i) (j := 3) (nI_add i 3) ⟨by omega, hL⟩ dL_law_235 ?_
  refine r_aload_n (pc := 236) (j := 0) dL_law_236 rfl rfl ?_
  refine r_iload_n (pc := 237) (j := 3) dL_law_237 rfl rfl ?_
  refine r_iconst (pc := 238) (v := (4 : Int32)) dL_law_238 rfl ?_
  refine r_iadd (pc := 239) dL_law_239 ?_
  refine r_scr (pc := 240) (i := i) (j := 4) (nI_add i 4) ⟨by omega, hL⟩ dL_law_240 ?_
  refine r_aload_n (pc := 241) (j := 0) dL_law_241 rfl rfl ?_
  refine r_iload_n (pc := 242) (j := 3) dL_law_242 rfl rfl ?_
  refine r_iconst (pc := 243) (v := (5 : Int32)) dL_law_243 rfl ?_
  refine r_iadd (pc := 244) dL_law_244 ?_
  refine r_scr (pc := 245) (i := i) (j := 5) (nI_add i 5) ⟨by omega, hL⟩ dL_law_245 ?_
  refine r_callV (pc := 246) (z := zL) (N := mX7_feed) (nn := 5) (n1 := NF) (σ1 := σ1) (o1 := some (.int v)) (As := [.int (xs g (i + 1)), .int (xs g (i + 2)), .int (xs g (i + 3)), .int (xs g (i + 4)), .int (xs g (i + 5))]) (rest := []) (sX7_feed e1) (ci := 7) (rfl : shp 1 = (7, 0)) (by decide) (by decide) rfl rfl tw_2_155 tw_1_1 tw_2_152 tw_2_153 tw_2_154 ⟨by decide, by decide, rfl⟩ ⟨nle rfl, nle rfl⟩ rfl (nle rfl) dL_law_246 (lawF rfl rfl) rfl fun hw => ?_
  change RR _ _ _ zL _ _ _ _
  refine r_aload_n (pc := 249) (j := 2) dL_law_249 rfl rfl ?_
  refine r_aload_n (pc := 250) (j := 0) dL_law_250 rfl rfl ?_
  refine r_iload_n (pc := 251) (j := 3) dL_law_251 rfl rfl ?_
  refine r_iconst (pc := 252) (v := (1 : Int32)) dL_law_252 rfl ?_
  refine r_iadd (pc := 253) dL_law_253 ?_
  refine r_scr (pc := 254) (i := i) (j := 1) (nI_add i 1) ⟨by omega, hL⟩ dL_law_254 ?_
  refine r_aload_n (pc := 255) (j := 0) dL_law_255 rfl rfl ?_
  refine r_iload_n (pc := 256) (j := 3) dL_law_256 rfl rfl ?_
  refine r_iconst (pc := 257) (v := (2 : Int32)) dL_law_257 rfl ?_
  refine r_iadd (pc := 258) dL_law_258 ?_
  refine r_scr (pc := 259) (i := i) (j := 2) (nI_add i 2) ⟨by omega, hL⟩ dL_law_259 ?_
  refine r_aload_n (pc := 260) (j := 0) dL_law_260 rfl rfl ?_
  refine r_iload_n (pc := 261) (j := 3) dL_law_261 rfl rfl ?_
  refine r_iconst (pc := 262) (v := (3 : Int32)) dL_law_262 rfl ?_
  refine r_iadd (pc := 263) dL_law_263 ?_
  refine r_scr (pc := 264) (i := i) (j := 3) (nI_add i 3) ⟨by omega, hL⟩ dL_law_264 ?_
  refine r_aload_n (pc := 265) (j := 0) dL_law_265 rfl rfl ?_
  refine r_iload_n (pc := 266) (j := 3) dL_law_266 rfl rfl ?_
  refine r_iconst (pc := 267) (v := (4 : Int32)) dL_law_267 rfl ?_
  refine r_iadd (pc := 268) dL_law_268 ?_
  refine r_scr (pc := 269) (i := i) (j := 4) (nI_add i 4) ⟨by omega, hL⟩ dL_law_269 ?_
  refine r_aload_n (pc := 270) (j := 0) dL_law_270 rfl rfl ?_
  refine r_iload_n (pc := 271) (j := 3) dL_law_271 rfl rfl ?_
  refine r_iconst (pc := 272) (v := (5 : Int32)) dL_law_272 rfl ?_
  refine r_iadd (pc := 273) dL_law_273 ?_
  refine r_scr (pc := 274) (i := i) (j := 5) (nI_add i 5) ⟨by omega, hL⟩ dL_law_274 ?_
  refine r_callV (pc := 275) (z := zL) (N := mX8_feed) (nn := 5) (n1 := NF) (σ1 := σ2) (o1 := some (.int v)) (As := [.int (xs g (i + 1)), .int (xs g (i + 2)), .int (xs g (i + 3)), .int (xs g (i + 4)), .int (xs g (i + 5))]) (rest := [.int v]) (sX8_feed e2) (ci := 8) (rfl : shp 73 = (8, 0)) (by decide) (by decide) rfl rfl tw_6_56 tw_1_10 tw_6_53 tw_6_54 tw_6_55 ⟨by decide, by decide, rfl⟩ ⟨nle rfl, nle rfl⟩ rfl (nle rfl) dL_law_275 (lawF rfl rfl) rfl fun hw => ?_
  change RR _ _ _ zL _ _ _ _
  refine r_icmp_eq (pc := 278) (tgt := 1441) dL_law_278 rfl (fun _ => ?_) (fun h => absurd rfl h)
  exact kk σ2 hR
def st1 (R : SS → Prop) (a : Nat → Int32) (σ : SS) : Prop := ∃ (v : Int32) (σ1 : SS) (σ2 : SS), (fX7_form σ (a 1)) = some (v, σ1) ∧ (fX8_form σ1 (a 1)) = some (v, σ2) ∧ R σ2
set_option maxRecDepth 20000 in
theorem law_c1 {g : GG} {R : SS → Prop} {i : Nat} {σ : SS} (hi : i + 7 ≤ sl g) (hL : sl g ≤ 3584) (h : st1 R (fun j => xs g (i + j)) σ) (kk : ∀ σ', R σ' → RR g mL (FL g) zL 1441 [(0, .ref (ad g 1030)), (1, .ref (ad g 1)), (2, .ref (ad g 73)), (3, .int (nI i))] [] σ') : RR g mL (FL g) zL 283 [(0, .ref (ad g 1030)), (1, .ref (ad g 1)), (2, .ref (ad g 73)), (3, .int (nI i))] [] σ := by
  obtain ⟨v, σ1, σ2, e1, e2, hR⟩ := h
  refine r_aload_n (pc := 283) (j := 1) dL_law_283 rfl rfl ?_
  refine r_aload_n (pc := 284) (j := 0) dL_law_284 rfl rfl ?_
  refine r_iload_n (pc := 285) (j := 3) dL_law_285 rfl rfl ?_
  refine r_iconst (pc := 286) (v := (1 : Int32)) dL_law_286 rfl ?_
  refine r_iadd (pc := 287) dL_law_287 ?_
  refine r_scr (pc := 288) (i := i) (j := 1) (nI_add i 1) ⟨by omega, hL⟩ dL_law_288 ?_
  refine r_callV (pc := 289) (z := zL) (N := mX7_form) (nn := 1) (n1 := NF) (σ1 := σ1) (o1 := some (.int v)) (As := [.int (xs g (i + 1))]) (rest := []) (sX7_form e1) (ci := 7) (rfl : shp 1 = (7, 0)) (by decide) (by decide) rfl rfl tw_2_163 tw_1_1 tw_2_160 tw_2_161 tw_2_162 ⟨by decide, by decide, rfl⟩ ⟨nle rfl, nle rfl⟩ rfl (nle rfl) dL_law_289 (lawF rfl rfl) rfl fun hw => ?_
  change RR _ _ _ zL _ _ _ _
  refine r_aload_n (pc := 292) (j := 2) dL_law_292 rfl rfl ?_
  refine r_aload_n (pc := 293) (j := 0) dL_law_293 rfl rfl ?_
  refine r_iload_n (pc := 294) (j := 3) dL_law_294 rfl rfl ?_
  refine r_iconst (pc := 295) (v := (1 : Int32)) dL_law_295 rfl ?_
  refine r_iadd (pc := 296) dL_law_296 ?_
  refine r_scr (pc := 297) (i := i) (j := 1) (nI_add i 1) ⟨by omega, hL⟩ dL_law_297 ?_
  refine r_callV (pc := 298) (z := zL) (N := mX8_form) (nn := 1) (n1 := NF) (σ1 := σ2) (o1 := some (.int v)) (As := [.int (xs g (i + 1))]) (rest := [.int v]) (sX8_form e2) (ci := 8) (rfl : shp 73 = (8, 0)) (by decide) (by decide) rfl rfl tw_6_64 tw_1_10 tw_6_61 tw_6_62 tw_6_63 ⟨by decide, by decide, rfl⟩ ⟨nle rfl, nle rfl⟩ rfl (nle rfl) dL_law_298 (lawF rfl rfl) rfl fun hw => ?_
  change RR _ _ _ zL _ _ _ _
  refine r_icmp_eq (pc := 301) (tgt := 1441) dL_law_301 rfl (fun _ => ?_) (fun h => absurd rfl h)
  exact kk σ2 hR
def st2 (R : SS → Prop) (a : Nat → Int32) (σ : SS) : Prop := ∃ (v : Int32), (fX7_count σ (a 1)) = some v ∧ (fX8_count σ (a 1)) = some v ∧ R σ
set_option maxRecDepth 20000 in
theorem law_c2 {g : GG} {R : SS → Prop} {i : Nat} {σ : SS} (hi : i + 7 ≤ sl g) (hL : sl g ≤ 3584) (h : st2 R (fun j => xs g (i + j)) σ) (kk : ∀ σ', R σ' → RR g mL (FL g) zL 1441 [(0, .ref (ad g 1030)), (1, .ref (ad g 1)), (2, .ref (ad g 73)), (3, .int (nI i))] [] σ') : RR g mL (FL g) zL 306 [(0, .ref (ad g 1030)), (1, .ref (ad g 1)), (2, .ref (ad g 73)), (3, .int (nI i))] [] σ := by
  obtain ⟨v, e1, e2, hR⟩ := h
  refine r_aload_n (pc := 306) (j := 1) dL_law_306 rfl rfl ?_
  refine r_aload_n (pc := 307) (j := 0) dL_law_307 rfl rfl ?_
  refine r_iload_n (pc := 308) (j := 3) dL_law_308 rfl rfl ?_
  refine r_iconst (pc := 309) (v := (1 : Int32)) dL_law_309 rfl ?_
  refine r_iadd (pc := 310) dL_law_310 ?_
  refine r_scr (pc := 311) (i := i) (j := 1) (nI_add i 1) ⟨by omega, hL⟩ dL_law_311 ?_
  refine r_callV (pc := 312) (z := zL) (N := mX7_count) (nn := 1) (n1 := NF) (σ1 := σ) (o1 := some (.int v)) (As := [.int (xs g (i + 1))]) (rest := []) (sX7_count e1) (ci := 7) (rfl : shp 1 = (7, 0)) (by decide) (by decide) rfl rfl tw_3_74 tw_1_1 tw_3_71 tw_3_72 tw_3_73 ⟨by decide, by decide, rfl⟩ ⟨nle rfl, nle rfl⟩ rfl (nle rfl) dL_law_312 (lawF rfl rfl) rfl fun hw => ?_
  change RR _ _ _ zL _ _ _ _
  refine r_aload_n (pc := 315) (j := 2) dL_law_315 rfl rfl ?_
  refine r_aload_n (pc := 316) (j := 0) dL_law_316 rfl rfl ?_
  refine r_iload_n (pc := 317) (j := 3) dL_law_317 rfl rfl ?_
  refine r_iconst (pc := 318) (v := (1 : Int32)) dL_law_318 rfl ?_
  refine r_iadd (pc := 319) dL_law_319 ?_
  refine r_scr (pc := 320) (i := i) (j := 1) (nI_add i 1) ⟨by omega, hL⟩ dL_law_320 ?_
  refine r_callV (pc := 321) (z := zL) (N := mX8_count) (nn := 1) (n1 := NF) (σ1 := σ) (o1 := some (.int v)) (As := [.int (xs g (i + 1))]) (rest := [.int v]) (sX8_count e2) (ci := 8) (rfl : shp 73 = (8, 0)) (by decide) (by decide) rfl rfl tw_7_22 tw_1_10 tw_7_19 tw_7_20 tw_7_21 ⟨by decide, by decide, rfl⟩ ⟨nle rfl, nle rfl⟩ rfl (nle rfl) dL_law_321 (lawF rfl rfl) rfl fun hw => ?_
  change RR _ _ _ zL _ _ _ _
  refine r_icmp_eq (pc := 324) (tgt := 1441) dL_law_324 rfl (fun _ => ?_) (fun h => absurd rfl h)
  exact kk σ hR
def st3 (R : SS → Prop) (a : Nat → Int32) (σ : SS) : Prop := ∃ (v : Int32), (fX7_question σ (a 1) (a 2)) = some v ∧ (fX8_question σ (a 1) (a 2)) = some v ∧ R σ
set_option maxRecDepth 20000 in
theorem law_c3 {g : GG} {R : SS → Prop} {i : Nat} {σ : SS} (hi : i + 7 ≤ sl g) (hL : sl g ≤ 3584) (h : st3 R (fun j => xs g (i + j)) σ) (kk : ∀ σ', R σ' → RR g mL (FL g) zL 1441 [(0, .ref (ad g 1030)), (1, .ref (ad g 1)), (2, .ref (ad g 73)), (3, .int (nI i))] [] σ') : RR g mL (FL g) zL 329 [(0, .ref (ad g 1030)), (1, .ref (ad g 1)), (2, .ref (ad g 73)), (3, .int (nI i))] [] σ := by
  obtain ⟨v, e1, e2, hR⟩ := h
  refine r_aload_n (pc := 329) (j := 1) dL_law_329 rfl rfl ?_
  refine r_aload_n (pc := 330) (j := 0) dL_law_330 rfl rfl ?_
  refine r_iload_n (pc := 331) (j := 3) dL_law_331 rfl rfl ?_
  refine r_iconst (pc := 332) (v := (1 : Int32)) dL_law_332 rfl ?_
  refine r_iadd (pc := 333) dL_law_333 ?_
  refine r_scr (pc := 334) (i := i) (j := 1) (nI_add i 1) ⟨by omega, hL⟩ dL_law_334 ?_
  refine r_aload_n (pc := 335) (j := 0) dL_law_335 rfl rfl ?_
  refine r_iload_n (pc := 336) (j := 3) dL_law_336 rfl rfl ?_
  refine r_iconst (pc := 337) (v := (2 : Int32)) dL_law_337 rfl ?_
  refine r_iadd (pc := 338) dL_law_338 ?_
  refine r_scr (pc := 339) (i := i) (j := 2) (nI_add i 2) ⟨by omega, hL⟩ dL_law_339 ?_
  refine r_callV (pc := 340) (z := zL) (N := mX7_question) (nn := 2) (n1 := NF) (σ1 := σ) (o1 := some (.int v)) (As := [.int (xs g (i + 1)), .int (xs g (i + 2))]) (rest := []) (sX7_question e1) (ci := 7) (rfl : shp 1 = (7, 0)) (by decide) (by decide) rfl rfl tw_3_86 tw_1_1 tw_3_83 tw_3_84 tw_3_85 ⟨by decide, by decide, rfl⟩ ⟨nle rfl, nle rfl⟩ rfl (nle rfl) dL_law_340 (lawF rfl rfl) rfl fun hw => ?_
  change RR _ _ _ zL _ _ _ _
  refine r_aload_n (pc := 343) (j := 2) dL_law_343 rfl rfl ?_
  refine r_aload_n (pc := 344) (j := 0) dL_law_344 rfl rfl ?_
  refine r_iload_n (pc := 345) (j := 3) dL_law_345 rfl rfl ?_
  refine r_iconst (pc := 346) (v := (1 : Int32)) dL_law_346 rfl ?_
  refine r_iadd (pc := 347) dL_law_347 ?_
  refine r_scr (pc := 348) (i := i) (j := 1) (nI_add i 1) ⟨by omega, hL⟩ dL_law_348 ?_
  refine r_aload_n (pc := 349) (j := 0) dL_law_349 rfl rfl ?_
  refine r_iload_n (pc := 350) (j := 3) dL_law_350 rfl rfl ?_
  refine r_iconst (pc := 351) (v := (2 : Int32)) dL_law_351 rfl ?_
  refine r_iadd (pc := 352) dL_law_352 ?_
  refine r_scr (pc := 353) (i := i) (j := 2) (nI_add i 2) ⟨by omega, hL⟩ dL_law_353 ?_
  refine r_callV (pc := 354) (z := zL) (N := mX8_question) (nn := 2) (n1 := NF) (σ1 := σ) (o1 := some (.int v)) (As := [.int (xs g (i + 1)), .int (xs g (i + 2))]) (rest := [.int v]) (sX8_question e2) (ci := 8) (rfl : shp 73 = (8, 0)) (by decide) (by decide) rfl rfl tw_6_140 tw_1_10 tw_6_137 tw_6_138 tw_6_139 ⟨by decide, by decide, rfl⟩ ⟨nle rfl, nle rfl⟩ rfl (nle rfl) dL_law_354 (lawF rfl rfl) rfl fun hw => ?_
  change RR _ _ _ zL _ _ _ _
  refine r_icmp_eq (pc := 357) (tgt := 1441) dL_law_357 rfl (fun _ => ?_) (fun h => absurd rfl h)
  exact kk σ hR
def st4 (R : SS → Prop) (a : Nat → Int32) (σ : SS) : Prop := ∃ (v : Int32) (σ1 : SS) (σ2 : SS), (fX7_set σ (a 1) (a 2)) = some (v, σ1) ∧ (fX8_set σ1 (a 1) (a 2)) = some (v, σ2) ∧ R σ2
set_option maxRecDepth 20000 in
theorem law_c4 {g : GG} {R : SS → Prop} {i : Nat} {σ : SS} (hi : i + 7 ≤ sl g) (hL : sl g ≤ 3584) (h : st4 R (fun j => xs g (i + j)) σ) (kk : ∀ σ', R σ' → RR g mL (FL g) zL 1441 [(0, .ref (ad g 1030)), (1, .ref (ad g 1)), (2, .ref (ad g 73)), (3, .int (nI i))] [] σ') : RR g mL (FL g) zL 362 [(0, .ref (ad g 1030)), (1, .ref (ad g 1)), (2, .ref (ad g 73)), (3, .int (nI i))] [] σ := by
  obtain ⟨v, σ1, σ2, e1, e2, hR⟩ := h
  refine r_aload_n (pc := 362) (j := 1) dL_law_362 rfl rfl ?_
  refine r_aload_n (pc := 363) (j := 0) dL_law_363 rfl rfl ?_
  refine r_iload_n (pc := 364) (j := 3) dL_law_364 rfl rfl ?_
  refine r_iconst (pc := 365) (v := (1 : Int32)) dL_law_365 rfl ?_
  refine r_iadd (pc := 366) dL_law_366 ?_
  refine r_scr (pc := 367) (i := i) (j := 1) (nI_add i 1) ⟨by omega, hL⟩ dL_law_367 ?_
  refine r_aload_n (pc := 368) (j := 0) dL_law_368 rfl rfl ?_
  refine r_iload_n (pc := 369) (j := 3) dL_law_369 rfl rfl ?_
  refine r_iconst (pc := 370) (v := (2 : Int32)) dL_law_370 rfl ?_
  refine r_iadd (pc := 371) dL_law_371 ?_
  refine r_scr (pc := 372) (i := i) (j := 2) (nI_add i 2) ⟨by omega, hL⟩ dL_law_372 ?_
  refine r_callV (pc := 373) (z := zL) (N := mX7_set) (nn := 2) (n1 := NF) (σ1 := σ1) (o1 := some (.int v)) (As := [.int (xs g (i + 1)), .int (xs g (i + 2))]) (rest := []) (sX7_set e1) (ci := 7) (rfl : shp 1 = (7, 0)) (by decide) (by decide) rfl rfl tw_3_99 tw_1_1 tw_3_96 tw_3_97 tw_3_98 ⟨by decide, by decide, rfl⟩ ⟨nle rfl, nle rfl⟩ rfl (nle rfl) dL_law_373 (lawF rfl rfl) rfl fun hw => ?_
  change RR _ _ _ zL _ _ _ _
  refine r_aload_n (pc := 376) (j := 2) dL_law_376 rfl rfl ?_
  refine r_aload_n (pc := 377) (j := 0) dL_law_377 rfl rfl ?_
  refine r_iload_n (pc := 378) (j := 3) dL_law_378 rfl rfl ?_
  refine r_iconst (pc := 379) (v := (1 : Int32)) dL_law_379 rfl ?_
  refine r_iadd (pc := 380) dL_law_380 ?_
  refine r_scr (pc := 381) (i := i) (j := 1) (nI_add i 1) ⟨by omega, hL⟩ dL_law_381 ?_
  refine r_aload_n (pc := 382) (j := 0) dL_law_382 rfl rfl ?_
  refine r_iload_n (pc := 383) (j := 3) dL_law_383 rfl rfl ?_
  refine r_iconst (pc := 384) (v := (2 : Int32)) dL_law_384 rfl ?_
  refine r_iadd (pc := 385) dL_law_385 ?_
  refine r_scr (pc := 386) (i := i) (j := 2) (nI_add i 2) ⟨by omega, hL⟩ dL_law_386 ?_
  refine r_callV (pc := 387) (z := zL) (N := mX8_set) (nn := 2) (n1 := NF) (σ1 := σ2) (o1 := some (.int v)) (As := [.int (xs g (i + 1)), .int (xs g (i + 2))]) (rest := [.int v]) (sX8_set e2) (ci := 8) (rfl : shp 73 = (8, 0)) (by decide) (by decide) rfl rfl tw_6_156 tw_1_10 tw_6_153 tw_6_154 tw_6_155 ⟨by decide, by decide, rfl⟩ ⟨nle rfl, nle rfl⟩ rfl (nle rfl) dL_law_387 (lawF rfl rfl) rfl fun hw => ?_
  change RR _ _ _ zL _ _ _ _
  refine r_icmp_eq (pc := 390) (tgt := 1441) dL_law_390 rfl (fun _ => ?_) (fun h => absurd rfl h)
  exact kk σ2 hR
def st5 (R : SS → Prop) (a : Nat → Int32) (σ : SS) : Prop := ∃ (v : Bool) (σ1 : SS) (σ2 : SS), (fX7_blank σ (a 1) (a 2)) = some (v, σ1) ∧ (fX8_blank σ1 (a 1) (a 2)) = some (v, σ2) ∧ R σ2
set_option maxRecDepth 20000 in
theorem law_c5 {g : GG} {R : SS → Prop} {i : Nat} {σ : SS} (hi : i + 7 ≤ sl g) (hL : sl g ≤ 3584) (h : st5 R (fun j => xs g (i + j)) σ) (kk : ∀ σ', R σ' → RR g mL (FL g) zL 1441 [(0, .ref (ad g 1030)), (1, .ref (ad g 1)), (2, .ref (ad g 73)), (3, .int (nI i))] [] σ') : RR g mL (FL g) zL 395 [(0, .ref (ad g 1030)), (1, .ref (ad g 1)), (2, .ref (ad g 73)), (3, .int (nI i))] [] σ := by
  obtain ⟨v, σ1, σ2, e1, e2, hR⟩ := h
  refine r_aload_n (pc := 395) (j := 1) dL_law_395 rfl rfl ?_
  refine r_aload_n (pc := 396) (j := 0) dL_law_396 rfl rfl ?_
  refine r_iload_n (pc := 397) (j := 3) dL_law_397 rfl rfl ?_
  refine r_iconst (pc := 398) (v := (1 : Int32)) dL_law_398 rfl ?_
  refine r_iadd (pc := 399) dL_law_399 ?_
  refine r_scr (pc := 400) (i := i) (j := 1) (nI_add i 1) ⟨by omega, hL⟩ dL_law_400 ?_
  refine r_aload_n (pc := 401) (j := 0) dL_law_401 rfl rfl ?_
  refine r_iload_n (pc := 402) (j := 3) dL_law_402 rfl rfl ?_
  refine r_iconst (pc := 403) (v := (2 : Int32)) dL_law_403 rfl ?_
  refine r_iadd (pc := 404) dL_law_404 ?_
  refine r_scr (pc := 405) (i := i) (j := 2) (nI_add i 2) ⟨by omega, hL⟩ dL_law_405 ?_
  refine r_callV (pc := 406) (z := zL) (N := mX7_blank) (nn := 2) (n1 := NF) (σ1 := σ1) (o1 := some (.int (b2i v))) (As := [.int (xs g (i + 1)), .int (xs g (i + 2))]) (rest := []) (sX7_blank e1) (ci := 7) (rfl : shp 1 = (7, 0)) (by decide) (by decide) rfl rfl tw_3_107 tw_1_1 tw_3_104 tw_3_105 tw_3_106 ⟨by decide, by decide, rfl⟩ ⟨nle rfl, nle rfl⟩ rfl (nle rfl) dL_law_406 (lawF rfl rfl) rfl fun hw => ?_
  change RR _ _ _ zL _ _ _ _
  refine r_aload_n (pc := 409) (j := 2) dL_law_409 rfl rfl ?_
  refine r_aload_n (pc := 410) (j := 0) dL_law_410 rfl rfl ?_
  refine r_iload_n (pc := 411) (j := 3) dL_law_411 rfl rfl ?_
  refine r_iconst (pc := 412) (v := (1 : Int32)) dL_law_412 rfl ?_
  refine r_iadd (pc := 413) dL_law_413 ?_
  refine r_scr (pc := 414) (i := i) (j := 1) (nI_add i 1) ⟨by omega, hL⟩ dL_law_414 ?_
  refine r_aload_n (pc := 415) (j := 0) dL_law_415 rfl rfl ?_
  refine r_iload_n (pc := 416) (j := 3) dL_law_416 rfl rfl ?_
  refine r_iconst (pc := 417) (v := (2 : Int32)) dL_law_417 rfl ?_
  refine r_iadd (pc := 418) dL_law_418 ?_
  refine r_scr (pc := 419) (i := i) (j := 2) (nI_add i 2) ⟨by omega, hL⟩ dL_law_419 ?_
  refine r_callV (pc := 420) (z := zL) (N := mX8_blank) (nn := 2) (n1 := NF) (σ1 := σ2) (o1 := some (.int (b2i v))) (As := [.int (xs g (i + 1)), .int (xs g (i + 2))]) (rest := [.int (b2i v)]) (sX8_blank e2) (ci := 8) (rfl : shp 73 = (8, 0)) (by decide) (by decide) rfl rfl tw_6_160 tw_1_10 tw_6_157 tw_6_158 tw_6_159 ⟨by decide, by decide, rfl⟩ ⟨nle rfl, nle rfl⟩ rfl (nle rfl) dL_law_420 (lawF rfl rfl) rfl fun hw => ?_
  change RR _ _ _ zL _ _ _ _
  refine r_icmp_eq (pc := 423) (tgt := 1441) dL_law_423 rfl (fun _ => ?_) (fun h => absurd rfl h)
  exact kk σ2 hR
def st6 (R : SS → Prop) (a : Nat → Int32) (σ : SS) : Prop := ∃ (v : Bool) (σ1 : SS) (σ2 : SS), (fX7_row σ (a 1)) = some (v, σ1) ∧ (fX8_row σ1 (a 1)) = some (v, σ2) ∧ R σ2
set_option maxRecDepth 20000 in
theorem law_c6 {g : GG} {R : SS → Prop} {i : Nat} {σ : SS} (hi : i + 7 ≤ sl g) (hL : sl g ≤ 3584) (h : st6 R (fun j => xs g (i + j)) σ) (kk : ∀ σ', R σ' → RR g mL (FL g) zL 1441 [(0, .ref (ad g 1030)), (1, .ref (ad g 1)), (2, .ref (ad g 73)), (3, .int (nI i))] [] σ') : RR g mL (FL g) zL 428 [(0, .ref (ad g 1030)), (1, .ref (ad g 1)), (2, .ref (ad g 73)), (3, .int (nI i))] [] σ := by
  obtain ⟨v, σ1, σ2, e1, e2, hR⟩ := h
  refine r_aload_n (pc := 428) (j := 1) dL_law_428 rfl rfl ?_
  refine r_aload_n (pc := 429) (j := 0) dL_law_429 rfl rfl ?_
  refine r_iload_n (pc := 430) (j := 3) dL_law_430 rfl rfl ?_
  refine r_iconst (pc := 431) (v := (1 : Int32)) dL_law_431 rfl ?_
  refine r_iadd (pc := 432) dL_law_432 ?_
  refine r_scr (pc := 433) (i := i) (j := 1) (nI_add i 1) ⟨by omega, hL⟩ dL_law_433 ?_
  refine r_callV (pc := 434) (z := zL) (N := mX7_row) (nn := 1) (n1 := NF) (σ1 := σ1) (o1 := some (.int (b2i v))) (As := [.int (xs g (i + 1))]) (rest := []) (sX7_row e1) (ci := 7) (rfl : shp 1 = (7, 0)) (by decide) (by decide) rfl rfl tw_3_111 tw_1_1 tw_3_108 tw_3_109 tw_3_110 ⟨by decide, by decide, rfl⟩ ⟨nle rfl, nle rfl⟩ rfl (nle rfl) dL_law_434 (lawF rfl rfl) rfl fun hw => ?_
  change RR _ _ _ zL _ _ _ _
  refine r_aload_n (pc := 437) (j := 2) dL_law_437 rfl rfl ?_
  refine r_aload_n (pc := 438) (j := 0) dL_law_438 rfl rfl ?_
  refine r_iload_n (pc := 439) (j := 3) dL_law_439 rfl rfl ?_
  refine r_iconst (pc := 440) (v := (1 : Int32)) dL_law_440 rfl ?_
  refine r_iadd (pc := 441) dL_law_441 ?_
  refine r_scr (pc := 442) (i := i) (j := 1) (nI_add i 1) ⟨by omega, hL⟩ dL_law_442 ?_
  refine r_callV (pc := 443) (z := zL) (N := mX8_row) (nn := 1) (n1 := NF) (σ1 := σ2) (o1 := some (.int (b2i v))) (As := [.int (xs g (i + 1))]) (rest := [.int (b2i v)]) (sX8_row e2) (ci := 8) (rfl : shp 73 = (8, 0)) (by decide) (by decide) rfl rfl tw_6_168 tw_1_10 tw_6_165 tw_6_166 tw_6_167 ⟨by decide, by decide, rfl⟩ ⟨nle rfl, nle rfl⟩ rfl (nle rfl) dL_law_443 (lawF rfl rfl) rfl fun hw => ?_
  change RR _ _ _ zL _ _ _ _
  refine r_icmp_eq (pc := 446) (tgt := 1441) dL_law_446 rfl (fun _ => ?_) (fun h => absurd rfl h)
  exact kk σ2 hR
def st7 (R : SS → Prop) (a : Nat → Int32) (σ : SS) : Prop := ∃ (v : Int32) (σ1 : SS) (σ2 : SS), (fX7_fill σ (a 1) (a 2) (a 3) (a 4) (a 5)) = some (v, σ1) ∧ (fX8_fill σ1 (a 1) (a 2) (a 3) (a 4) (a 5)) = some (v, σ2) ∧ R σ2
set_option maxRecDepth 20000 in
theorem law_c7 {g : GG} {R : SS → Prop} {i : Nat} {σ : SS} (hi : i + 7 ≤ sl g) (hL : sl g ≤ 3584) (h : st7 R (fun j => xs g (i + j)) σ) (kk : ∀ σ', R σ' → RR g mL (FL g) zL 1441 [(0, .ref (ad g 1030)), (1, .ref (ad g 1)), (2, .ref (ad g 73)), (3, .int (nI i))] [] σ') : RR g mL (FL g) zL 451 [(0, .ref (ad g 1030)), (1, .ref (ad g 1)), (2, .ref (ad g 73)), (3, .int (nI i))] [] σ := by
  obtain ⟨v, σ1, σ2, e1, e2, hR⟩ := h
  refine r_aload_n (pc := 451) (j := 1) dL_law_451 rfl rfl ?_
  refine r_aload_n (pc := 452) (j := 0) dL_law_452 rfl rfl ?_
  refine r_iload_n (pc := 453) (j := 3) dL_law_453 rfl rfl ?_
  refine r_iconst (pc := 454) (v := (1 : Int32)) dL_law_454 rfl ?_
  refine r_iadd (pc := 455) dL_law_455 ?_
  refine r_scr (pc := 456) (i := i) (j := 1) (nI_add i 1) ⟨by omega, hL⟩ dL_law_456 ?_
  refine r_aload_n (pc := 457) (j := 0) dL_law_457 rfl rfl ?_
  refine r_iload_n (pc := 458) (j := 3) dL_law_458 rfl rfl ?_
  refine r_iconst (pc := 459) (v := (2 : Int32)) dL_law_459 rfl ?_
  refine r_iadd (pc := 460) dL_law_460 ?_
  refine r_scr (pc := 461) (i := i) (j := 2) (nI_add i 2) ⟨by omega, hL⟩ dL_law_461 ?_
  refine r_aload_n (pc := 462) (j := 0) dL_law_462 rfl rfl ?_
  refine r_iload_n (pc := 463) (j := 3) dL_law_463 rfl rfl ?_
  refine r_iconst (pc := 464) (v := (3 : Int32)) dL_law_464 rfl ?_
  refine r_iadd (pc := 465) dL_law_465 ?_
  refine r_scr (pc := 466) (i := i) (j := 3) (nI_add i 3) ⟨by omega, hL⟩ dL_law_466 ?_
  refine r_aload_n (pc := 467) (j := 0) dL_law_467 rfl rfl ?_
  refine r_iload_n (pc := 468) (j := 3) dL_law_468 rfl rfl ?_
  refine r_iconst (pc := 469) (v := (4 : Int32)) dL_law_469 rfl ?_
  refine r_iadd (pc := 470) dL_law_470 ?_
  refine r_scr (pc := 471) (i := i) (j := 4) (nI_add i 4) ⟨by omega, hL⟩ dL_law_471 ?_
  refine r_aload_n (pc := 472) (j := 0) dL_law_472 rfl rfl ?_
  refine r_iload_n (pc := 473) (j := 3) dL_law_473 rfl rfl ?_
  refine r_iconst (pc := 474) (v := (5 : Int32)) dL_law_474 rfl ?_
  refine r_iadd (pc := 475) dL_law_475 ?_
  refine r_scr (pc := 476) (i := i) (j := 5) (nI_add i 5) ⟨by omega, hL⟩ dL_law_476 ?_
  refine r_callV (pc := 477) (z := zL) (N := mX7_fill) (nn := 5) (n1 := NF) (σ1 := σ1) (o1 := some (.int v)) (As := [.int (xs g (i + 1)), .int (xs g (i + 2)), .int (xs g (i + 3)), .int (xs g (i + 4)), .int (xs g (i + 5))]) (rest := []) (sX7_fill e1) (ci := 7) (rfl : shp 1 = (7, 0)) (by decide) (by decide) rfl rfl tw_3_123 tw_1_1 tw_3_120 tw_3_121 tw_3_122 ⟨by decide, by decide, rfl⟩ ⟨nle rfl, nle rfl⟩ rfl (nle rfl) dL_law_477 (lawF rfl rfl) rfl fun hw => ?_
  change RR _ _ _ zL _ _ _ _
  refine r_aload_n (pc := 480) (j := 2) dL_law_480 rfl rfl ?_
  refine r_aload_n (pc := 481) (j := 0) dL_law_481 rfl rfl ?_
  refine r_iload_n (pc := 482) (j := 3) dL_law_482 rfl rfl ?_
  refine r_iconst (pc := 483) (v := (1 : Int32)) dL_law_483 rfl ?_
  refine r_iadd (pc := 484) dL_law_484 ?_
  refine r_scr (pc := 485) (i := i) (j := 1) (nI_add i 1) ⟨by omega, hL⟩ dL_law_485 ?_
  refine r_aload_n (pc := 486) (j := 0) dL_law_486 rfl rfl ?_
  refine r_iload_n (pc := 487) (j := 3) dL_law_487 rfl rfl ?_
  refine r_iconst (pc := 488) (v := (2 : Int32)) dL_law_488 rfl ?_
  refine r_iadd (pc := 489) dL_law_489 ?_
  refine r_scr (pc := 490) (i := i) (j := 2) (nI_add i 2) ⟨by omega, hL⟩ dL_law_490 ?_
  refine r_aload_n (pc := 491) (j := 0) dL_law_491 rfl rfl ?_
  refine r_iload_n (pc := 492) (j := 3) dL_law_492 rfl rfl ?_
  refine r_iconst (pc := 493) (v := (3 : Int32)) dL_law_493 rfl ?_
  refine r_iadd (pc := 494) dL_law_494 ?_
  refine r_scr (pc := 495) (i := i) (j := 3) (nI_add i 3) ⟨by omega, hL⟩ dL_law_495 ?_
  refine r_aload_n (pc := 496) (j := 0) dL_law_496 rfl rfl ?_
  refine r_iload_n (pc := 497) (j := 3) dL_law_497 rfl rfl ?_
  refine r_iconst (pc := 498) (v := (4 : Int32)) dL_law_498 rfl ?_
  refine r_iadd (pc := 499) dL_law_499 ?_
  refine r_scr (pc := 500) (i := i) (j := 4) (nI_add i 4) ⟨by omega, hL⟩ dL_law_500 ?_
  refine r_aload_n (pc := 501) (j := 0) dL_law_501 rfl rfl ?_
  refine r_iload_n (pc := 502) (j := 3) dL_law_502 rfl rfl ?_
  refine r_iconst (pc := 503) (v := (5 : Int32)) dL_law_503 rfl ?_
  refine r_iadd (pc := 504) dL_law_504 ?_
  refine r_scr (pc := 505) (i := i) (j := 5) (nI_add i 5) ⟨by omega, hL⟩ dL_law_505 ?_
  refine r_callV (pc := 506) (z := zL) (N := mX8_fill) (nn := 5) (n1 := NF) (σ1 := σ2) (o1 := some (.int v)) (As := [.int (xs g (i + 1)), .int (xs g (i + 2)), .int (xs g (i + 3)), .int (xs g (i + 4)), .int (xs g (i + 5))]) (rest := [.int v]) (sX8_fill e2) (ci := 8) (rfl : shp 73 = (8, 0)) (by decide) (by decide) rfl rfl tw_6_172 tw_1_10 tw_6_169 tw_6_170 tw_6_171 ⟨by decide, by decide, rfl⟩ ⟨nle rfl, nle rfl⟩ rfl (nle rfl) dL_law_506 (lawF rfl rfl) rfl fun hw => ?_
  change RR _ _ _ zL _ _ _ _
  refine r_icmp_eq (pc := 509) (tgt := 1441) dL_law_509 rfl (fun _ => ?_) (fun h => absurd rfl h)
  exact kk σ2 hR
def st8 (R : SS → Prop) (a : Nat → Int32) (σ : SS) : Prop := ∃ (v : Int32), (fX7_dot σ (a 1) (a 2)) = some v ∧ (fX8_dot σ (a 1) (a 2)) = some v ∧ R σ
set_option maxRecDepth 20000 in
theorem law_c8 {g : GG} {R : SS → Prop} {i : Nat} {σ : SS} (hi : i + 7 ≤ sl g) (hL : sl g ≤ 3584) (h : st8 R (fun j => xs g (i + j)) σ) (kk : ∀ σ', R σ' → RR g mL (FL g) zL 1441 [(0, .ref (ad g 1030)), (1, .ref (ad g 1)), (2, .ref (ad g 73)), (3, .int (nI i))] [] σ') : RR g mL (FL g) zL 514 [(0, .ref (ad g 1030)), (1, .ref (ad g 1)), (2, .ref (ad g 73)), (3, .int (nI i))] [] σ := by
  obtain ⟨v, e1, e2, hR⟩ := h
  refine r_aload_n (pc := 514) (j := 1) dL_law_514 rfl rfl ?_
  refine r_aload_n (pc := 515) (j := 0) dL_law_515 rfl rfl ?_
  refine r_iload_n (pc := 516) (j := 3) dL_law_516 rfl rfl ?_
  refine r_iconst (pc := 517) (v := (1 : Int32)) dL_law_517 rfl ?_
  refine r_iadd (pc := 518) dL_law_518 ?_
  refine r_scr (pc := 519) (i := i) (j := 1) (nI_add i 1) ⟨by omega, hL⟩ dL_law_519 ?_
  refine r_aload_n (pc := 520) (j := 0) dL_law_520 rfl rfl ?_
  refine r_iload_n (pc := 521) (j := 3) dL_law_521 rfl rfl ?_
  refine r_iconst (pc := 522) (v := (2 : Int32)) dL_law_522 rfl ?_
  refine r_iadd (pc := 523) dL_law_523 ?_
  refine r_scr (pc := 524) (i := i) (j := 2) (nI_add i 2) ⟨by omega, hL⟩ dL_law_524 ?_
  refine r_callV (pc := 525) (z := zL) (N := mX7_dot) (nn := 2) (n1 := NF) (σ1 := σ) (o1 := some (.int v)) (As := [.int (xs g (i + 1)), .int (xs g (i + 2))]) (rest := []) (sX7_dot e1) (ci := 7) (rfl : shp 1 = (7, 0)) (by decide) (by decide) rfl rfl tw_3_132 tw_1_1 tw_3_129 tw_3_130 tw_3_131 ⟨by decide, by decide, rfl⟩ ⟨nle rfl, nle rfl⟩ rfl (nle rfl) dL_law_525 (lawF rfl rfl) rfl fun hw => ?_
  change RR _ _ _ zL _ _ _ _
  refine r_aload_n (pc := 528) (j := 2) dL_law_528 rfl rfl ?_
  refine r_aload_n (pc := 529) (j := 0) dL_law_529 rfl rfl ?_
  refine r_iload_n (pc := 530) (j := 3) dL_law_530 rfl rfl ?_
  refine r_iconst (pc := 531) (v := (1 : Int32)) dL_law_531 rfl ?_
  refine r_iadd (pc := 532) dL_law_532 ?_
  refine r_scr (pc := 533) (i := i) (j := 1) (nI_add i 1) ⟨by omega, hL⟩ dL_law_533 ?_
  refine r_aload_n (pc := 534) (j := 0) dL_law_534 rfl rfl ?_
  refine r_iload_n (pc := 535) (j := 3) dL_law_535 rfl rfl ?_
  refine r_iconst (pc := 536) (v := (2 : Int32)) dL_law_536 rfl ?_
  refine r_iadd (pc := 537) dL_law_537 ?_
  refine r_scr (pc := 538) (i := i) (j := 2) (nI_add i 2) ⟨by omega, hL⟩ dL_law_538 ?_
  refine r_callV (pc := 539) (z := zL) (N := mX8_dot) (nn := 2) (n1 := NF) (σ1 := σ) (o1 := some (.int v)) (As := [.int (xs g (i + 1)), .int (xs g (i + 2))]) (rest := [.int v]) (sX8_dot e2) (ci := 8) (rfl : shp 73 = (8, 0)) (by decide) (by decide) rfl rfl tw_6_180 tw_1_10 tw_6_177 tw_6_178 tw_6_179 ⟨by decide, by decide, rfl⟩ ⟨nle rfl, nle rfl⟩ rfl (nle rfl) dL_law_539 (lawF rfl rfl) rfl fun hw => ?_
  change RR _ _ _ zL _ _ _ _
  refine r_icmp_eq (pc := 542) (tgt := 1441) dL_law_542 rfl (fun _ => ?_) (fun h => absurd rfl h)
  exact kk σ hR
def st9 (R : SS → Prop) (a : Nat → Int32) (σ : SS) : Prop := ∃ (v : Int32) (σ1 : SS) (σ2 : SS), (fX7_noise σ (a 1)) = some (v, σ1) ∧ (fX8_noise σ1 (a 1)) = some (v, σ2) ∧ R σ2
set_option maxRecDepth 20000 in
theorem law_c9 {g : GG} {R : SS → Prop} {i : Nat} {σ : SS} (hi : i + 7 ≤ sl g) (hL : sl g ≤ 3584) (h : st9 R (fun j => xs g (i + j)) σ) (kk : ∀ σ', R σ' → RR g mL (FL g) zL 1441 [(0, .ref (ad g 1030)), (1, .ref (ad g 1)), (2, .ref (ad g 73)), (3, .int (nI i))] [] σ') : RR g mL (FL g) zL 547 [(0, .ref (ad g 1030)), (1, .ref (ad g 1)), (2, .ref (ad g 73)), (3, .int (nI i))] [] σ := by
  obtain ⟨v, σ1, σ2, e1, e2, hR⟩ := h
  refine r_aload_n (pc := 547) (j := 1) dL_law_547 rfl rfl ?_
  refine r_aload_n (pc := 548) (j := 0) dL_law_548 rfl rfl ?_
  refine r_iload_n (pc := 549) (j := 3) dL_law_549 rfl rfl ?_
  refine r_iconst (pc := 550) (v := (1 : Int32)) dL_law_550 rfl ?_
  refine r_iadd (pc := 551) dL_law_551 ?_
  refine r_scr (pc := 552) (i := i) (j := 1) (nI_add i 1) ⟨by omega, hL⟩ dL_law_552 ?_
  refine r_callV (pc := 553) (z := zL) (N := mX7_noise) (nn := 1) (n1 := NF) (σ1 := σ1) (o1 := some (.int v)) (As := [.int (xs g (i + 1))]) (rest := []) (sX7_noise e1) (ci := 7) (rfl : shp 1 = (7, 0)) (by decide) (by decide) rfl rfl tw_3_140 tw_1_1 tw_3_137 tw_3_138 tw_3_139 ⟨by decide, by decide, rfl⟩ ⟨nle rfl, nle rfl⟩ rfl (nle rfl) dL_law_553 (lawF rfl rfl) rfl fun hw => ?_
  change RR _ _ _ zL _ _ _ _
  refine r_aload_n (pc := 556) (j := 2) dL_law_556 rfl rfl ?_
  refine r_aload_n (pc := 557) (j := 0) dL_law_557 rfl rfl ?_
  refine r_iload_n (pc := 558) (j := 3) dL_law_558 rfl rfl ?_
  refine r_iconst (pc := 559) (v := (1 : Int32)) dL_law_559 rfl ?_
  refine r_iadd (pc := 560) dL_law_560 ?_
  refine r_scr (pc := 561) (i := i) (j := 1) (nI_add i 1) ⟨by omega, hL⟩ dL_law_561 ?_
  refine r_callV (pc := 562) (z := zL) (N := mX8_noise) (nn := 1) (n1 := NF) (σ1 := σ2) (o1 := some (.int v)) (As := [.int (xs g (i + 1))]) (rest := [.int v]) (sX8_noise e2) (ci := 8) (rfl : shp 73 = (8, 0)) (by decide) (by decide) rfl rfl tw_6_184 tw_1_10 tw_6_181 tw_6_182 tw_6_183 ⟨by decide, by decide, rfl⟩ ⟨nle rfl, nle rfl⟩ rfl (nle rfl) dL_law_562 (lawF rfl rfl) rfl fun hw => ?_
  change RR _ _ _ zL _ _ _ _
  refine r_icmp_eq (pc := 565) (tgt := 1441) dL_law_565 rfl (fun _ => ?_) (fun h => absurd rfl h)
  exact kk σ2 hR
def st10 (R : SS → Prop) (a : Nat → Int32) (σ : SS) : Prop := ∃ (v : Int32) (σ1 : SS) (σ2 : SS), (fX7_seed σ (a 1)) = some (v, σ1) ∧ (fX8_seed σ1 (a 1)) = some (v, σ2) ∧ R σ2
set_option maxRecDepth 20000 in
theorem law_c10 {g : GG} {R : SS → Prop} {i : Nat} {σ : SS} (hi : i + 7 ≤ sl g) (hL : sl g ≤ 3584) (h : st10 R (fun j => xs g (i + j)) σ) (kk : ∀ σ', R σ' → RR g mL (FL g) zL 1441 [(0, .ref (ad g 1030)), (1, .ref (ad g 1)), (2, .ref (ad g 73)), (3, .int (nI i))] [] σ') : RR g mL (FL g) zL 570 [(0, .ref (ad g 1030)), (1, .ref (ad g 1)), (2, .ref (ad g 73)), (3, .int (nI i))] [] σ := by
  obtain ⟨v, σ1, σ2, e1, e2, hR⟩ := h
  refine r_aload_n (pc := 570) (j := 1) dL_law_570 rfl rfl ?_
  refine r_aload_n (pc := 571) (j := 0) dL_law_571 rfl rfl ?_
  refine r_iload_n (pc := 572) (j := 3) dL_law_572 rfl rfl ?_
  refine r_iconst (pc := 573) (v := (1 : Int32)) dL_law_573 rfl ?_
  refine r_iadd (pc := 574) dL_law_574 ?_
  refine r_scr (pc := 575) (i := i) (j := 1) (nI_add i 1) ⟨by omega, hL⟩ dL_law_575 ?_
  refine r_callV (pc := 576) (z := zL) (N := mX7_seed) (nn := 1) (n1 := NF) (σ1 := σ1) (o1 := some (.int v)) (As := [.int (xs g (i + 1))]) (rest := []) (sX7_seed e1) (ci := 7) (rfl : shp 1 = (7, 0)) (by decide) (by decide) rfl rfl tw_3_152 tw_1_1 tw_3_149 tw_3_150 tw_3_151 ⟨by decide, by decide, rfl⟩ ⟨nle rfl, nle rfl⟩ rfl (nle rfl) dL_law_576 (lawF rfl rfl) rfl fun hw => ?_
  change RR _ _ _ zL _ _ _ _
  refine r_aload_n (pc := 579) (j := 2) dL_law_579 rfl rfl ?_
  refine r_aload_n (pc := 580) (j := 0) dL_law_580 rfl rfl ?_
  refine r_iload_n (pc := 581) (j := 3) dL_law_581 rfl rfl ?_
  refine r_iconst (pc := 582) (v := (1 : Int32)) dL_law_582 rfl ?_
  refine r_iadd (pc := 583) dL_law_583 ?_
  refine r_scr (pc := 584) (i := i) (j := 1) (nI_add i 1) ⟨by omega, hL⟩ dL_law_584 ?_
  refine r_callV (pc := 585) (z := zL) (N := mX8_seed) (nn := 1) (n1 := NF) (σ1 := σ2) (o1 := some (.int v)) (As := [.int (xs g (i + 1))]) (rest := [.int v]) (sX8_seed e2) (ci := 8) (rfl : shp 73 = (8, 0)) (by decide) (by decide) rfl rfl tw_6_193 tw_1_10 tw_6_190 tw_6_191 tw_6_192 ⟨by decide, by decide, rfl⟩ ⟨nle rfl, nle rfl⟩ rfl (nle rfl) dL_law_585 (lawF rfl rfl) rfl fun hw => ?_
  change RR _ _ _ zL _ _ _ _
  refine r_icmp_eq (pc := 588) (tgt := 1441) dL_law_588 rfl (fun _ => ?_) (fun h => absurd rfl h)
  exact kk σ2 hR
def st11 (R : SS → Prop) (a : Nat → Int32) (σ : SS) : Prop := ∃ (v : Int32) (σ1 : SS) (σ2 : SS), (fX7_turn σ (a 1)) = some (v, σ1) ∧ (fX8_turn σ1 (a 1)) = some (v, σ2) ∧ R σ2
set_option maxRecDepth 20000 in
theorem law_c11 {g : GG} {R : SS → Prop} {i : Nat} {σ : SS} (hi : i + 7 ≤ sl g) (hL : sl g ≤ 3584) (h : st11 R (fun j => xs g (i + j)) σ) (kk : ∀ σ', R σ' → RR g mL (FL g) zL 1441 [(0, .ref (ad g 1030)), (1, .ref (ad g 1)), (2, .ref (ad g 73)), (3, .int (nI i))] [] σ') : RR g mL (FL g) zL 593 [(0, .ref (ad g 1030)), (1, .ref (ad g 1)), (2, .ref (ad g 73)), (3, .int (nI i))] [] σ := by
  obtain ⟨v, σ1, σ2, e1, e2, hR⟩ := h
  refine r_aload_n (pc := 593) (j := 1) dL_law_593 rfl rfl ?_
  refine r_aload_n (pc := 594) (j := 0) dL_law_594 rfl rfl ?_
  refine r_iload_n (pc := 595) (j := 3) dL_law_595 rfl rfl ?_
  refine r_iconst (pc := 596) (v := (1 : Int32)) dL_law_596 rfl ?_
  refine r_iadd (pc := 597) dL_law_597 ?_
  refine r_scr (pc := 598) (i := i) (j := 1) (nI_add i 1) ⟨by omega, hL⟩ dL_law_598 ?_
  refine r_callV (pc := 599) (z := zL) (N := mX7_turn) (nn := 1) (n1 := NF) (σ1 := σ1) (o1 := some (.int v)) (As := [.int (xs g (i + 1))]) (rest := []) (sX7_turn e1) (ci := 7) (rfl : shp 1 = (7, 0)) (by decide) (by decide) rfl rfl tw_3_156 tw_1_1 tw_3_153 tw_3_154 tw_3_155 ⟨by decide, by decide, rfl⟩ ⟨nle rfl, nle rfl⟩ rfl (nle rfl) dL_law_599 (lawF rfl rfl) rfl fun hw => ?_
  change RR _ _ _ zL _ _ _ _
  refine r_aload_n (pc := 602) (j := 2) dL_law_602 rfl rfl ?_
  refine r_aload_n (pc := 603) (j := 0) dL_law_603 rfl rfl ?_
  refine r_iload_n (pc := 604) (j := 3) dL_law_604 rfl rfl ?_
  refine r_iconst (pc := 605) (v := (1 : Int32)) dL_law_605 rfl ?_
  refine r_iadd (pc := 606) dL_law_606 ?_
  refine r_scr (pc := 607) (i := i) (j := 1) (nI_add i 1) ⟨by omega, hL⟩ dL_law_607 ?_
  refine r_callV (pc := 608) (z := zL) (N := mX8_turn) (nn := 1) (n1 := NF) (σ1 := σ2) (o1 := some (.int v)) (As := [.int (xs g (i + 1))]) (rest := [.int v]) (sX8_turn e2) (ci := 8) (rfl : shp 73 = (8, 0)) (by decide) (by decide) rfl rfl tw_6_198 tw_1_10 tw_6_195 tw_6_196 tw_6_197 ⟨by decide, by decide, rfl⟩ ⟨nle rfl, nle rfl⟩ rfl (nle rfl) dL_law_608 (lawF rfl rfl) rfl fun hw => ?_
  change RR _ _ _ zL _ _ _ _
  refine r_icmp_eq (pc := 611) (tgt := 1441) dL_law_611 rfl (fun _ => ?_) (fun h => absurd rfl h)
  exact kk σ2 hR
def st12 (R : SS → Prop) (a : Nat → Int32) (σ : SS) : Prop := ∃ (v : Int32) (σ1 : SS) (σ2 : SS), (fX7_copy σ (a 1) (a 2) (a 3) (a 4) (a 5) (a 6)) = some (v, σ1) ∧ (fX8_copy σ1 (a 1) (a 2) (a 3) (a 4) (a 5) (a 6)) = some (v, σ2) ∧ R σ2
set_option maxRecDepth 20000 in
theorem law_c12 {g : GG} {R : SS → Prop} {i : Nat} {σ : SS} (hi : i + 7 ≤ sl g) (hL : sl g ≤ 3584) (h : st12 R (fun j => xs g (i + j)) σ) (kk : ∀ σ', R σ' → RR g mL (FL g) zL 1441 [(0, .ref (ad g 1030)), (1, .ref (ad g 1)), (2, .ref (ad g 73)), (3, .int (nI i))] [] σ') : RR g mL (FL g) zL 616 [(0, .ref (ad g 1030)), (1, .ref (ad g 1)), (2, .ref (ad g 73)), (3, .int (nI i))] [] σ := by
  obtain ⟨v, σ1, σ2, e1, e2, hR⟩ := h
  refine r_aload_n (pc := 616) (j := 1) dL_law_616 rfl rfl ?_
  refine r_aload_n (pc := 617) (j := 0) dL_law_617 rfl rfl ?_
  refine r_iload_n (pc := 618) (j := 3) dL_law_618 rfl rfl ?_
  refine r_iconst (pc := 619) (v := (1 : Int32)) dL_law_619 rfl ?_
  refine r_iadd (pc := 620) dL_law_620 ?_
  refine r_scr (pc := 621) (i := i) (j := 1) (nI_add i 1) ⟨by omega, hL⟩ dL_law_621 ?_
  refine r_aload_n (pc := 622) (j := 0) dL_law_622 rfl rfl ?_
  refine r_iload_n (pc := 623) (j := 3) dL_law_623 rfl rfl ?_
  refine r_iconst (pc := 624) (v := (2 : Int32)) dL_law_624 rfl ?_
  refine r_iadd (pc := 625) dL_law_625 ?_
  refine r_scr (pc := 626) (i := i) (j := 2) (nI_add i 2) ⟨by omega, hL⟩ dL_law_626 ?_
  refine r_aload_n (pc := 627) (j := 0) dL_law_627 rfl rfl ?_
  refine r_iload_n (pc := 628) (j := 3) dL_law_628 rfl rfl ?_
  refine r_iconst (pc := 629) (v := (3 : Int32)) dL_law_629 rfl ?_
  refine r_iadd (pc := 630) dL_law_630 ?_
  refine r_scr (pc := 631) (i := i) (j := 3) (nI_add i 3) ⟨by omega, hL⟩ dL_law_631 ?_
  refine r_aload_n (pc := 632) (j := 0) dL_law_632 rfl rfl ?_
  refine r_iload_n (pc := 633) (j := 3) dL_law_633 rfl rfl ?_
  refine r_iconst (pc := 634) (v := (4 : Int32)) dL_law_634 rfl ?_
  refine r_iadd (pc := 635) dL_law_635 ?_
  refine r_scr (pc := 636) (i := i) (j := 4) (nI_add i 4) ⟨by omega, hL⟩ dL_law_636 ?_
  refine r_aload_n (pc := 637) (j := 0) dL_law_637 rfl rfl ?_
  refine r_iload_n (pc := 638) (j := 3) dL_law_638 rfl rfl ?_
  refine r_iconst (pc := 639) (v := (5 : Int32)) dL_law_639 rfl ?_
  refine r_iadd (pc := 640) dL_law_640 ?_
  refine r_scr (pc := 641) (i := i) (j := 5) (nI_add i 5) ⟨by omega, hL⟩ dL_law_641 ?_
  refine r_aload_n (pc := 642) (j := 0) dL_law_642 rfl rfl ?_
  refine r_iload_n (pc := 643) (j := 3) dL_law_643 rfl rfl ?_
  refine r_bipush (pc := 644) (v := (6 : Int32)) dL_law_644 rfl ?_
  refine r_iadd (pc := 646) dL_law_646 ?_
  refine r_scr (pc := 647) (i := i) (j := 6) (nI_add i 6) ⟨by omega, hL⟩ dL_law_647 ?_
  refine r_callV (pc := 648) (z := zL) (N := mX7_copy) (nn := 6) (n1 := NF) (σ1 := σ1) (o1 := some (.int v)) (As := [.int (xs g (i + 1)), .int (xs g (i + 2)), .int (xs g (i + 3)), .int (xs g (i + 4)), .int (xs g (i + 5)), .int (xs g (i + 6))]) (rest := []) (sX7_copy e1) (ci := 7) (rfl : shp 1 = (7, 0)) (by decide) (by decide) rfl rfl tw_3_170 tw_1_1 tw_3_167 tw_3_168 tw_3_169 ⟨by decide, by decide, rfl⟩ ⟨nle rfl, nle rfl⟩ rfl (nle rfl) dL_law_648 (lawF rfl rfl) rfl fun hw => ?_
  change RR _ _ _ zL _ _ _ _
  refine r_aload_n (pc := 651) (j := 2) dL_law_651 rfl rfl ?_
  refine r_aload_n (pc := 652) (j := 0) dL_law_652 rfl rfl ?_
  refine r_iload_n (pc := 653) (j := 3) dL_law_653 rfl rfl ?_
  refine r_iconst (pc := 654) (v := (1 : Int32)) dL_law_654 rfl ?_
  refine r_iadd (pc := 655) dL_law_655 ?_
  refine r_scr (pc := 656) (i := i) (j := 1) (nI_add i 1) ⟨by omega, hL⟩ dL_law_656 ?_
  refine r_aload_n (pc := 657) (j := 0) dL_law_657 rfl rfl ?_
  refine r_iload_n (pc := 658) (j := 3) dL_law_658 rfl rfl ?_
  refine r_iconst (pc := 659) (v := (2 : Int32)) dL_law_659 rfl ?_
  refine r_iadd (pc := 660) dL_law_660 ?_
  refine r_scr (pc := 661) (i := i) (j := 2) (nI_add i 2) ⟨by omega, hL⟩ dL_law_661 ?_
  refine r_aload_n (pc := 662) (j := 0) dL_law_662 rfl rfl ?_
  refine r_iload_n (pc := 663) (j := 3) dL_law_663 rfl rfl ?_
  refine r_iconst (pc := 664) (v := (3 : Int32)) dL_law_664 rfl ?_
  refine r_iadd (pc := 665) dL_law_665 ?_
  refine r_scr (pc := 666) (i := i) (j := 3) (nI_add i 3) ⟨by omega, hL⟩ dL_law_666 ?_
  refine r_aload_n (pc := 667) (j := 0) dL_law_667 rfl rfl ?_
  refine r_iload_n (pc := 668) (j := 3) dL_law_668 rfl rfl ?_
  refine r_iconst (pc := 669) (v := (4 : Int32)) dL_law_669 rfl ?_
  refine r_iadd (pc := 670) dL_law_670 ?_
  refine r_scr (pc := 671) (i := i) (j := 4) (nI_add i 4) ⟨by omega, hL⟩ dL_law_671 ?_
  refine r_aload_n (pc := 672) (j := 0) dL_law_672 rfl rfl ?_
  refine r_iload_n (pc := 673) (j := 3) dL_law_673 rfl rfl ?_
  refine r_iconst (pc := 674) (v := (5 : Int32)) dL_law_674 rfl ?_
  refine r_iadd (pc := 675) dL_law_675 ?_
  refine r_scr (pc := 676) (i := i) (j := 5) (nI_add i 5) ⟨by omega, hL⟩ dL_law_676 ?_
  refine r_aload_n (pc := 677) (j := 0) dL_law_677 rfl rfl ?_
  refine r_iload_n (pc := 678) (j := 3) dL_law_678 rfl rfl ?_
  refine r_bipush (pc := 679) (v := (6 : Int32)) dL_law_679 rfl ?_
  refine r_iadd (pc := 681) dL_law_681 ?_
  refine r_scr (pc := 682) (i := i) (j := 6) (nI_add i 6) ⟨by omega, hL⟩ dL_law_682 ?_
  refine r_callV (pc := 683) (z := zL) (N := mX8_copy) (nn := 6) (n1 := NF) (σ1 := σ2) (o1 := some (.int v)) (As := [.int (xs g (i + 1)), .int (xs g (i + 2)), .int (xs g (i + 3)), .int (xs g (i + 4)), .int (xs g (i + 5)), .int (xs g (i + 6))]) (rest := [.int v]) (sX8_copy e2) (ci := 8) (rfl : shp 73 = (8, 0)) (by decide) (by decide) rfl rfl tw_6_210 tw_1_10 tw_6_207 tw_6_208 tw_6_209 ⟨by decide, by decide, rfl⟩ ⟨nle rfl, nle rfl⟩ rfl (nle rfl) dL_law_683 (lawF rfl rfl) rfl fun hw => ?_
  change RR _ _ _ zL _ _ _ _
  refine r_icmp_eq (pc := 686) (tgt := 1441) dL_law_686 rfl (fun _ => ?_) (fun h => absurd rfl h)
  exact kk σ2 hR
def st13 (R : SS → Prop) (a : Nat → Int32) (σ : SS) : Prop := ∃ (v : Int32) (σ1 : SS) (σ2 : SS), (fX7_shift σ (a 1) (a 2)) = some (v, σ1) ∧ (fX8_shift σ1 (a 1) (a 2)) = some (v, σ2) ∧ R σ2
set_option maxRecDepth 20000 in
theorem law_c13 {g : GG} {R : SS → Prop} {i : Nat} {σ : SS} (hi : i + 7 ≤ sl g) (hL : sl g ≤ 3584) (h : st13 R (fun j => xs g (i + j)) σ) (kk : ∀ σ', R σ' → RR g mL (FL g) zL 1441 [(0, .ref (ad g 1030)), (1, .ref (ad g 1)), (2, .ref (ad g 73)), (3, .int (nI i))] [] σ') : RR g mL (FL g) zL 691 [(0, .ref (ad g 1030)), (1, .ref (ad g 1)), (2, .ref (ad g 73)), (3, .int (nI i))] [] σ := by
  obtain ⟨v, σ1, σ2, e1, e2, hR⟩ := h
  refine r_aload_n (pc := 691) (j := 1) dL_law_691 rfl rfl ?_
  refine r_aload_n (pc := 692) (j := 0) dL_law_692 rfl rfl ?_
  refine r_iload_n (pc := 693) (j := 3) dL_law_693 rfl rfl ?_
  refine r_iconst (pc := 694) (v := (1 : Int32)) dL_law_694 rfl ?_
  refine r_iadd (pc := 695) dL_law_695 ?_
  refine r_scr (pc := 696) (i := i) (j := 1) (nI_add i 1) ⟨by omega, hL⟩ dL_law_696 ?_
  refine r_aload_n (pc := 697) (j := 0) dL_law_697 rfl rfl ?_
  refine r_iload_n (pc := 698) (j := 3) dL_law_698 rfl rfl ?_
  refine r_iconst (pc := 699) (v := (2 : Int32)) dL_law_699 rfl ?_
  refine r_iadd (pc := 700) dL_law_700 ?_
  refine r_scr (pc := 701) (i := i) (j := 2) (nI_add i 2) ⟨by omega, hL⟩ dL_law_701 ?_
  refine r_callV (pc := 702) (z := zL) (N := mX7_shift) (nn := 2) (n1 := NF) (σ1 := σ1) (o1 := some (.int v)) (As := [.int (xs g (i + 1)), .int (xs g (i + 2))]) (rest := []) (sX7_shift e1) (ci := 7) (rfl : shp 1 = (7, 0)) (by decide) (by decide) rfl rfl tw_3_187 tw_1_1 tw_3_184 tw_3_185 tw_3_186 ⟨by decide, by decide, rfl⟩ ⟨nle rfl, nle rfl⟩ rfl (nle rfl) dL_law_702 (lawF rfl rfl) rfl fun hw => ?_
  change RR _ _ _ zL _ _ _ _
  refine r_aload_n (pc := 705) (j := 2) dL_law_705 rfl rfl ?_
  refine r_aload_n (pc := 706) (j := 0) dL_law_706 rfl rfl ?_
  refine r_iload_n (pc := 707) (j := 3) dL_law_707 rfl rfl ?_
  refine r_iconst (pc := 708) (v := (1 : Int32)) dL_law_708 rfl ?_
  refine r_iadd (pc := 709) dL_law_709 ?_
  refine r_scr (pc := 710) (i := i) (j := 1) (nI_add i 1) ⟨by omega, hL⟩ dL_law_710 ?_
  refine r_aload_n (pc := 711) (j := 0) dL_law_711 rfl rfl ?_
  refine r_iload_n (pc := 712) (j := 3) dL_law_712 rfl rfl ?_
  refine r_iconst (pc := 713) (v := (2 : Int32)) dL_law_713 rfl ?_
  refine r_iadd (pc := 714) dL_law_714 ?_
  refine r_scr (pc := 715) (i := i) (j := 2) (nI_add i 2) ⟨by omega, hL⟩ dL_law_715 ?_
  refine r_callV (pc := 716) (z := zL) (N := mX8_shift) (nn := 2) (n1 := NF) (σ1 := σ2) (o1 := some (.int v)) (As := [.int (xs g (i + 1)), .int (xs g (i + 2))]) (rest := [.int v]) (sX8_shift e2) (ci := 8) (rfl : shp 73 = (8, 0)) (by decide) (by decide) rfl rfl tw_6_222 tw_1_10 tw_6_219 tw_6_220 tw_6_221 ⟨by decide, by decide, rfl⟩ ⟨nle rfl, nle rfl⟩ rfl (nle rfl) dL_law_716 (lawF rfl rfl) rfl fun hw => ?_
  change RR _ _ _ zL _ _ _ _
  refine r_icmp_eq (pc := 719) (tgt := 1441) dL_law_719 rfl (fun _ => ?_) (fun h => absurd rfl h)
  exact kk σ2 hR
def st14 (R : SS → Prop) (a : Nat → Int32) (σ : SS) : Prop := ∃ (v : Int32) (σ1 : SS) (σ2 : SS), (fX7_stretch σ) = some (v, σ1) ∧ (fX8_stretch σ1) = some (v, σ2) ∧ R σ2
set_option maxRecDepth 20000 in
theorem law_c14 {g : GG} {R : SS → Prop} {i : Nat} {σ : SS} (hi : i + 7 ≤ sl g) (hL : sl g ≤ 3584) (h : st14 R (fun j => xs g (i + j)) σ) (kk : ∀ σ', R σ' → RR g mL (FL g) zL 1441 [(0, .ref (ad g 1030)), (1, .ref (ad g 1)), (2, .ref (ad g 73)), (3, .int (nI i))] [] σ') : RR g mL (FL g) zL 724 [(0, .ref (ad g 1030)), (1, .ref (ad g 1)), (2, .ref (ad g 73)), (3, .int (nI i))] [] σ := by
  obtain ⟨v, σ1, σ2, e1, e2, hR⟩ := h
  refine r_aload_n (pc := 724) (j := 1) dL_law_724 rfl rfl ?_
  refine r_callV (pc := 725) (z := zL) (N := mX7_stretch) (nn := 0) (n1 := NF) (σ1 := σ1) (o1 := some (.int v)) (As := []) (rest := []) (sX7_stretch e1) (ci := 7) (rfl : shp 1 = (7, 0)) (by decide) (by decide) rfl rfl tw_3_195 tw_1_1 tw_3_192 tw_3_193 tw_3_194 ⟨by decide, by decide, rfl⟩ ⟨nle rfl, nle rfl⟩ rfl (nle rfl) dL_law_725 (lawF rfl rfl) rfl fun hw => ?_
  change RR _ _ _ zL _ _ _ _
  refine r_aload_n (pc := 728) (j := 2) dL_law_728 rfl rfl ?_
  refine r_callV (pc := 729) (z := zL) (N := mX8_stretch) (nn := 0) (n1 := NF) (σ1 := σ2) (o1 := some (.int v)) (As := []) (rest := [.int v]) (sX8_stretch e2) (ci := 8) (rfl : shp 73 = (8, 0)) (by decide) (by decide) rfl rfl tw_6_226 tw_1_10 tw_6_223 tw_6_224 tw_6_225 ⟨by decide, by decide, rfl⟩ ⟨nle rfl, nle rfl⟩ rfl (nle rfl) dL_law_729 (lawF rfl rfl) rfl fun hw => ?_
  change RR _ _ _ zL _ _ _ _
  refine r_icmp_eq (pc := 732) (tgt := 1441) dL_law_732 rfl (fun _ => ?_) (fun h => absurd rfl h)
  exact kk σ2 hR
def st15 (R : SS → Prop) (a : Nat → Int32) (σ : SS) : Prop := ∃ (v : Int32) (σ1 : SS) (σ2 : SS), (fX7_clean σ) = some (v, σ1) ∧ (fX8_clean σ1) = some (v, σ2) ∧ R σ2
set_option maxRecDepth 20000 in
theorem law_c15 {g : GG} {R : SS → Prop} {i : Nat} {σ : SS} (hi : i + 7 ≤ sl g) (hL : sl g ≤ 3584) (h : st15 R (fun j => xs g (i + j)) σ) (kk : ∀ σ', R σ' → RR g mL (FL g) zL 1441 [(0, .ref (ad g 1030)), (1, .ref (ad g 1)), (2, .ref (ad g 73)), (3, .int (nI i))] [] σ') : RR g mL (FL g) zL 737 [(0, .ref (ad g 1030)), (1, .ref (ad g 1)), (2, .ref (ad g 73)), (3, .int (nI i))] [] σ := by
  obtain ⟨v, σ1, σ2, e1, e2, hR⟩ := h
  refine r_aload_n (pc := 737) (j := 1) dL_law_737 rfl rfl ?_
  refine r_callV (pc := 738) (z := zL) (N := mX7_clean) (nn := 0) (n1 := NF) (σ1 := σ1) (o1 := some (.int v)) (As := []) (rest := []) (sX7_clean e1) (ci := 7) (rfl : shp 1 = (7, 0)) (by decide) (by decide) rfl rfl tw_3_206 tw_1_1 tw_3_203 tw_3_204 tw_3_205 ⟨by decide, by decide, rfl⟩ ⟨nle rfl, nle rfl⟩ rfl (nle rfl) dL_law_738 (lawF rfl rfl) rfl fun hw => ?_
  change RR _ _ _ zL _ _ _ _
  refine r_aload_n (pc := 741) (j := 2) dL_law_741 rfl rfl ?_
  refine r_callV (pc := 742) (z := zL) (N := mX8_clean) (nn := 0) (n1 := NF) (σ1 := σ2) (o1 := some (.int v)) (As := []) (rest := [.int v]) (sX8_clean e2) (ci := 8) (rfl : shp 73 = (8, 0)) (by decide) (by decide) rfl rfl tw_6_230 tw_1_10 tw_6_227 tw_6_228 tw_6_229 ⟨by decide, by decide, rfl⟩ ⟨nle rfl, nle rfl⟩ rfl (nle rfl) dL_law_742 (lawF rfl rfl) rfl fun hw => ?_
  change RR _ _ _ zL _ _ _ _
  refine r_icmp_eq (pc := 745) (tgt := 1441) dL_law_745 rfl (fun _ => ?_) (fun h => absurd rfl h)
  exact kk σ2 hR
def st16 (R : SS → Prop) (a : Nat → Int32) (σ : SS) : Prop := ∃ (v : Int32) (σ1 : SS) (σ2 : SS), (fX7_smooth σ) = some (v, σ1) ∧ (fX8_smooth σ1) = some (v, σ2) ∧ R σ2
set_option maxRecDepth 20000 in
theorem law_c16 {g : GG} {R : SS → Prop} {i : Nat} {σ : SS} (hi : i + 7 ≤ sl g) (hL : sl g ≤ 3584) (h : st16 R (fun j => xs g (i + j)) σ) (kk : ∀ σ', R σ' → RR g mL (FL g) zL 1441 [(0, .ref (ad g 1030)), (1, .ref (ad g 1)), (2, .ref (ad g 73)), (3, .int (nI i))] [] σ') : RR g mL (FL g) zL 750 [(0, .ref (ad g 1030)), (1, .ref (ad g 1)), (2, .ref (ad g 73)), (3, .int (nI i))] [] σ := by
  obtain ⟨v, σ1, σ2, e1, e2, hR⟩ := h
  refine r_aload_n (pc := 750) (j := 1) dL_law_750 rfl rfl ?_
  refine r_callV (pc := 751) (z := zL) (N := mX7_smooth) (nn := 0) (n1 := NF) (σ1 := σ1) (o1 := some (.int v)) (As := []) (rest := []) (sX7_smooth e1) (ci := 7) (rfl : shp 1 = (7, 0)) (by decide) (by decide) rfl rfl tw_3_229 tw_1_1 tw_3_226 tw_3_227 tw_3_228 ⟨by decide, by decide, rfl⟩ ⟨nle rfl, nle rfl⟩ rfl (nle rfl) dL_law_751 (lawF rfl rfl) rfl fun hw => ?_
  change RR _ _ _ zL _ _ _ _
  refine r_aload_n (pc := 754) (j := 2) dL_law_754 rfl rfl ?_
  refine r_callV (pc := 755) (z := zL) (N := mX8_smooth) (nn := 0) (n1 := NF) (σ1 := σ2) (o1 := some (.int v)) (As := []) (rest := [.int v]) (sX8_smooth e2) (ci := 8) (rfl : shp 73 = (8, 0)) (by decide) (by decide) rfl rfl tw_7_6 tw_1_10 tw_7_3 tw_7_4 tw_7_5 ⟨by decide, by decide, rfl⟩ ⟨nle rfl, nle rfl⟩ rfl (nle rfl) dL_law_755 (lawF rfl rfl) rfl fun hw => ?_
  change RR _ _ _ zL _ _ _ _
  refine r_icmp_eq (pc := 758) (tgt := 1441) dL_law_758 rfl (fun _ => ?_) (fun h => absurd rfl h)
  exact kk σ2 hR
def st17 (R : SS → Prop) (a : Nat → Int32) (σ : SS) : Prop := ∃ (v : Bool) (σ1 : SS) (σ2 : SS), (fX7_keep σ (a 1)) = some (v, σ1) ∧ (fX8_keep σ1 (a 1)) = some (v, σ2) ∧ R σ2
set_option maxRecDepth 20000 in
theorem law_c17 {g : GG} {R : SS → Prop} {i : Nat} {σ : SS} (hi : i + 7 ≤ sl g) (hL : sl g ≤ 3584) (h : st17 R (fun j => xs g (i + j)) σ) (kk : ∀ σ', R σ' → RR g mL (FL g) zL 1441 [(0, .ref (ad g 1030)), (1, .ref (ad g 1)), (2, .ref (ad g 73)), (3, .int (nI i))] [] σ') : RR g mL (FL g) zL 763 [(0, .ref (ad g 1030)), (1, .ref (ad g 1)), (2, .ref (ad g 73)), (3, .int (nI i))] [] σ := by
  obtain ⟨v, σ1, σ2, e1, e2, hR⟩ := h
  refine r_aload_n (pc := 763) (j := 1) dL_law_763 rfl rfl ?_
  refine r_aload_n (pc := 764) (j := 0) dL_law_764 rfl rfl ?_
  refine r_iload_n (pc := 765) (j := 3) dL_law_765 rfl rfl ?_
  refine r_iconst (pc := 766) (v := (1 : Int32)) dL_law_766 rfl ?_
  refine r_iadd (pc := 767) dL_law_767 ?_
  refine r_scr (pc := 768) (i := i) (j := 1) (nI_add i 1) ⟨by omega, hL⟩ dL_law_768 ?_
  refine r_callV (pc := 769) (z := zL) (N := mX7_keep) (nn := 1) (n1 := NF) (σ1 := σ1) (o1 := some (.int (b2i v))) (As := [.int (xs g (i + 1))]) (rest := []) (sX7_keep e1) (ci := 7) (rfl : shp 1 = (7, 0)) (by decide) (by decide) rfl rfl tw_4_1 tw_1_1 tw_3_238 tw_3_239 tw_4_0 ⟨by decide, by decide, rfl⟩ ⟨nle rfl, nle rfl⟩ rfl (nle rfl) dL_law_769 (lawF rfl rfl) rfl fun hw => ?_
  change RR _ _ _ zL _ _ _ _
  refine r_aload_n (pc := 772) (j := 2) dL_law_772 rfl rfl ?_
  refine r_aload_n (pc := 773) (j := 0) dL_law_773 rfl rfl ?_
  refine r_iload_n (pc := 774) (j := 3) dL_law_774 rfl rfl ?_
  refine r_iconst (pc := 775) (v := (1 : Int32)) dL_law_775 rfl ?_
  refine r_iadd (pc := 776) dL_law_776 ?_
  refine r_scr (pc := 777) (i := i) (j := 1) (nI_add i 1) ⟨by omega, hL⟩ dL_law_777 ?_
  refine r_callV (pc := 778) (z := zL) (N := mX8_keep) (nn := 1) (n1 := NF) (σ1 := σ2) (o1 := some (.int (b2i v))) (As := [.int (xs g (i + 1))]) (rest := [.int (b2i v)]) (sX8_keep e2) (ci := 8) (rfl : shp 73 = (8, 0)) (by decide) (by decide) rfl rfl tw_7_10 tw_1_10 tw_7_7 tw_7_8 tw_7_9 ⟨by decide, by decide, rfl⟩ ⟨nle rfl, nle rfl⟩ rfl (nle rfl) dL_law_778 (lawF rfl rfl) rfl fun hw => ?_
  change RR _ _ _ zL _ _ _ _
  refine r_icmp_eq (pc := 781) (tgt := 1441) dL_law_781 rfl (fun _ => ?_) (fun h => absurd rfl h)
  exact kk σ2 hR
def st18 (R : SS → Prop) (a : Nat → Int32) (σ : SS) : Prop := ∃ (v : Bool) (σ1 : SS) (σ2 : SS), (fX7_back σ (a 1)) = some (v, σ1) ∧ (fX8_back σ1 (a 1)) = some (v, σ2) ∧ R σ2
set_option maxRecDepth 20000 in
theorem law_c18 {g : GG} {R : SS → Prop} {i : Nat} {σ : SS} (hi : i + 7 ≤ sl g) (hL : sl g ≤ 3584) (h : st18 R (fun j => xs g (i + j)) σ) (kk : ∀ σ', R σ' → RR g mL (FL g) zL 1441 [(0, .ref (ad g 1030)), (1, .ref (ad g 1)), (2, .ref (ad g 73)), (3, .int (nI i))] [] σ') : RR g mL (FL g) zL 786 [(0, .ref (ad g 1030)), (1, .ref (ad g 1)), (2, .ref (ad g 73)), (3, .int (nI i))] [] σ := by
  obtain ⟨v, σ1, σ2, e1, e2, hR⟩ := h
  refine r_aload_n (pc := 786) (j := 1) dL_law_786 rfl rfl ?_
  refine r_aload_n (pc := 787) (j := 0) dL_law_787 rfl rfl ?_
  refine r_iload_n (pc := 788) (j := 3) dL_law_788 rfl rfl ?_
  refine r_iconst (pc := 789) (v := (1 : Int32)) dL_law_789 rfl ?_
  refine r_iadd (pc := 790) dL_law_790 ?_
  refine r_scr (pc := 791) (i := i) (j := 1) (nI_add i 1) ⟨by omega, hL⟩ dL_law_791 ?_
  refine r_callV (pc := 792) (z := zL) (N := mX7_back) (nn := 1) (n1 := NF) (σ1 := σ1) (o1 := some (.int (b2i v))) (As := [.int (xs g (i + 1))]) (rest := []) (sX7_back e1) (ci := 7) (rfl : shp 1 = (7, 0)) (by decide) (by decide) rfl rfl tw_4_5 tw_1_1 tw_4_2 tw_4_3 tw_4_4 ⟨by decide, by decide, rfl⟩ ⟨nle rfl, nle rfl⟩ rfl (nle rfl) dL_law_792 (lawF rfl rfl) rfl fun hw => ?_
  change RR _ _ _ zL _ _ _ _
  refine r_aload_n (pc := 795) (j := 2) dL_law_795 rfl rfl ?_
  refine r_aload_n (pc := 796) (j := 0) dL_law_796 rfl rfl ?_
  refine r_iload_n (pc := 797) (j := 3) dL_law_797 rfl rfl ?_
  refine r_iconst (pc := 798) (v := (1 : Int32)) dL_law_798 rfl ?_
  refine r_iadd (pc := 799) dL_law_799 ?_
  refine r_scr (pc := 800) (i := i) (j := 1) (nI_add i 1) ⟨by omega, hL⟩ dL_law_800 ?_
  refine r_callV (pc := 801) (z := zL) (N := mX8_back) (nn := 1) (n1 := NF) (σ1 := σ2) (o1 := some (.int (b2i v))) (As := [.int (xs g (i + 1))]) (rest := [.int (b2i v)]) (sX8_back e2) (ci := 8) (rfl : shp 73 = (8, 0)) (by decide) (by decide) rfl rfl tw_7_18 tw_1_10 tw_7_15 tw_7_16 tw_7_17 ⟨by decide, by decide, rfl⟩ ⟨nle rfl, nle rfl⟩ rfl (nle rfl) dL_law_801 (lawF rfl rfl) rfl fun hw => ?_
  change RR _ _ _ zL _ _ _ _
  refine r_icmp_eq (pc := 804) (tgt := 1441) dL_law_804 rfl (fun _ => ?_) (fun h => absurd rfl h)
  exact kk σ2 hR
def st19 (R : SS → Prop) (a : Nat → Int32) (σ : SS) : Prop := ∃ (v : Int32) (σ1 : SS) (σ2 : SS), (fX7_blob σ (a 1) (a 2)) = some (v, σ1) ∧ (fX8_blob σ1 (a 1) (a 2)) = some (v, σ2) ∧ R σ2
set_option maxRecDepth 20000 in
theorem law_c19 {g : GG} {R : SS → Prop} {i : Nat} {σ : SS} (hi : i + 7 ≤ sl g) (hL : sl g ≤ 3584) (h : st19 R (fun j => xs g (i + j)) σ) (kk : ∀ σ', R σ' → RR g mL (FL g) zL 1441 [(0, .ref (ad g 1030)), (1, .ref (ad g 1)), (2, .ref (ad g 73)), (3, .int (nI i))] [] σ') : RR g mL (FL g) zL 809 [(0, .ref (ad g 1030)), (1, .ref (ad g 1)), (2, .ref (ad g 73)), (3, .int (nI i))] [] σ := by
  obtain ⟨v, σ1, σ2, e1, e2, hR⟩ := h
  refine r_aload_n (pc := 809) (j := 1) dL_law_809 rfl rfl ?_
  refine r_aload_n (pc := 810) (j := 0) dL_law_810 rfl rfl ?_
  refine r_iload_n (pc := 811) (j := 3) dL_law_811 rfl rfl ?_
  refine r_iconst (pc := 812) (v := (1 : Int32)) dL_law_812 rfl ?_
  refine r_iadd (pc := 813) dL_law_813 ?_
  refine r_scr (pc := 814) (i := i) (j := 1) (nI_add i 1) ⟨by omega, hL⟩ dL_law_814 ?_
  refine r_aload_n (pc := 815) (j := 0) dL_law_815 rfl rfl ?_
  refine r_iload_n (pc := 816) (j := 3) dL_law_816 rfl rfl ?_
  refine r_iconst (pc := 817) (v := (2 : Int32)) dL_law_817 rfl ?_
  refine r_iadd (pc := 818) dL_law_818 ?_
  refine r_scr (pc := 819) (i := i) (j := 2) (nI_add i 2) ⟨by omega, hL⟩ dL_law_819 ?_
  refine r_callV (pc := 820) (z := zL) (N := mX7_blob) (nn := 2) (n1 := NF) (σ1 := σ1) (o1 := some (.int v)) (As := [.int (xs g (i + 1)), .int (xs g (i + 2))]) (rest := []) (sX7_blob e1) (ci := 7) (rfl : shp 1 = (7, 0)) (by decide) (by decide) rfl rfl tw_4_13 tw_1_1 tw_4_10 tw_4_11 tw_4_12 ⟨by decide, by decide, rfl⟩ ⟨nle rfl, nle rfl⟩ rfl (nle rfl) dL_law_820 (lawF rfl rfl) rfl fun hw => ?_
  change RR _ _ _ zL _ _ _ _
  refine r_aload_n (pc := 823) (j := 2) dL_law_823 rfl rfl ?_
  refine r_aload_n (pc := 824) (j := 0) dL_law_824 rfl rfl ?_
  refine r_iload_n (pc := 825) (j := 3) dL_law_825 rfl rfl ?_
  refine r_iconst (pc := 826) (v := (1 : Int32)) dL_law_826 rfl ?_
  refine r_iadd (pc := 827) dL_law_827 ?_
  refine r_scr (pc := 828) (i := i) (j := 1) (nI_add i 1) ⟨by omega, hL⟩ dL_law_828 ?_
  refine r_aload_n (pc := 829) (j := 0) dL_law_829 rfl rfl ?_
  refine r_iload_n (pc := 830) (j := 3) dL_law_830 rfl rfl ?_
  refine r_iconst (pc := 831) (v := (2 : Int32)) dL_law_831 rfl ?_
  refine r_iadd (pc := 832) dL_law_832 ?_
  refine r_scr (pc := 833) (i := i) (j := 2) (nI_add i 2) ⟨by omega, hL⟩ dL_law_833 ?_
  refine r_callV (pc := 834) (z := zL) (N := mX8_blob) (nn := 2) (n1 := NF) (σ1 := σ2) (o1 := some (.int v)) (As := [.int (xs g (i + 1)), .int (xs g (i + 2))]) (rest := [.int v]) (sX8_blob e2) (ci := 8) (rfl : shp 73 = (8, 0)) (by decide) (by decide) rfl rfl tw_7_42 tw_1_10 tw_7_39 tw_7_40 tw_7_41 ⟨by decide, by decide, rfl⟩ ⟨nle rfl, nle rfl⟩ rfl (nle rfl) dL_law_834 (lawF rfl rfl) rfl fun hw => ?_
  change RR _ _ _ zL _ _ _ _
  refine r_icmp_eq (pc := 837) (tgt := 1441) dL_law_837 rfl (fun _ => ?_) (fun h => absurd rfl h)
  exact kk σ2 hR
def st20 (R : SS → Prop) (a : Nat → Int32) (σ : SS) : Prop := ∃ (v : Int32) (σ1 : SS) (σ2 : SS), (fX7_mark σ (a 1)) = some (v, σ1) ∧ (fX8_mark σ1 (a 1)) = some (v, σ2) ∧ R σ2
set_option maxRecDepth 20000 in
theorem law_c20 {g : GG} {R : SS → Prop} {i : Nat} {σ : SS} (hi : i + 7 ≤ sl g) (hL : sl g ≤ 3584) (h : st20 R (fun j => xs g (i + j)) σ) (kk : ∀ σ', R σ' → RR g mL (FL g) zL 1441 [(0, .ref (ad g 1030)), (1, .ref (ad g 1)), (2, .ref (ad g 73)), (3, .int (nI i))] [] σ') : RR g mL (FL g) zL 842 [(0, .ref (ad g 1030)), (1, .ref (ad g 1)), (2, .ref (ad g 73)), (3, .int (nI i))] [] σ := by
  obtain ⟨v, σ1, σ2, e1, e2, hR⟩ := h
  refine r_aload_n (pc := 842) (j := 1) dL_law_842 rfl rfl ?_
  refine r_aload_n (pc := 843) (j := 0) dL_law_843 rfl rfl ?_
  refine r_iload_n (pc := 844) (j := 3) dL_law_844 rfl rfl ?_
  refine r_iconst (pc := 845) (v := (1 : Int32)) dL_law_845 rfl ?_
  refine r_iadd (pc := 846) dL_law_846 ?_
  refine r_scr (pc := 847) (i := i) (j := 1) (nI_add i 1) ⟨by omega, hL⟩ dL_law_847 ?_
  refine r_callV (pc := 848) (z := zL) (N := mX7_mark) (nn := 1) (n1 := NF) (σ1 := σ1) (o1 := some (.int v)) (As := [.int (xs g (i + 1))]) (rest := []) (sX7_mark e1) (ci := 7) (rfl : shp 1 = (7, 0)) (by decide) (by decide) rfl rfl tw_4_27 tw_1_1 tw_4_24 tw_4_25 tw_4_26 ⟨by decide, by decide, rfl⟩ ⟨nle rfl, nle rfl⟩ rfl (nle rfl) dL_law_848 (lawF rfl rfl) rfl fun hw => ?_
  change RR _ _ _ zL _ _ _ _
  refine r_aload_n (pc := 851) (j := 2) dL_law_851 rfl rfl ?_
  refine r_aload_n (pc := 852) (j := 0) dL_law_852 rfl rfl ?_
  refine r_iload_n (pc := 853) (j := 3) dL_law_853 rfl rfl ?_
  refine r_iconst (pc := 854) (v := (1 : Int32)) dL_law_854 rfl ?_
  refine r_iadd (pc := 855) dL_law_855 ?_
  refine r_scr (pc := 856) (i := i) (j := 1) (nI_add i 1) ⟨by omega, hL⟩ dL_law_856 ?_
  refine r_callV (pc := 857) (z := zL) (N := mX8_mark) (nn := 1) (n1 := NF) (σ1 := σ2) (o1 := some (.int v)) (As := [.int (xs g (i + 1))]) (rest := [.int v]) (sX8_mark e2) (ci := 8) (rfl : shp 73 = (8, 0)) (by decide) (by decide) rfl rfl tw_7_46 tw_1_10 tw_7_43 tw_7_44 tw_7_45 ⟨by decide, by decide, rfl⟩ ⟨nle rfl, nle rfl⟩ rfl (nle rfl) dL_law_857 (lawF rfl rfl) rfl fun hw => ?_
  change RR _ _ _ zL _ _ _ _
  refine r_icmp_eq (pc := 860) (tgt := 1441) dL_law_860 rfl (fun _ => ?_) (fun h => absurd rfl h)
  exact kk σ2 hR
def st21 (R : SS → Prop) (a : Nat → Int32) (σ : SS) : Prop := ∃ (v : Int32) (σ1 : SS) (σ2 : SS), (fX7_marked σ) = some (v, σ1) ∧ (fX8_marked σ1) = some (v, σ2) ∧ R σ2
set_option maxRecDepth 20000 in
theorem law_c21 {g : GG} {R : SS → Prop} {i : Nat} {σ : SS} (hi : i + 7 ≤ sl g) (hL : sl g ≤ 3584) (h : st21 R (fun j => xs g (i + j)) σ) (kk : ∀ σ', R σ' → RR g mL (FL g) zL 1441 [(0, .ref (ad g 1030)), (1, .ref (ad g 1)), (2, .ref (ad g 73)), (3, .int (nI i))] [] σ') : RR g mL (FL g) zL 865 [(0, .ref (ad g 1030)), (1, .ref (ad g 1)), (2, .ref (ad g 73)), (3, .int (nI i))] [] σ := by
  obtain ⟨v, σ1, σ2, e1, e2, hR⟩ := h
  refine r_aload_n (pc := 865) (j := 1) dL_law_865 rfl rfl ?_
  refine r_callV (pc := 866) (z := zL) (N := mX7_marked) (nn := 0) (n1 := NF) (σ1 := σ1) (o1 := some (.int v)) (As := []) (rest := []) (sX7_marked e1) (ci := 7) (rfl : shp 1 = (7, 0)) (by decide) (by decide) rfl rfl tw_4_48 tw_1_1 tw_4_45 tw_4_46 tw_4_47 ⟨by decide, by decide, rfl⟩ ⟨nle rfl, nle rfl⟩ rfl (nle rfl) dL_law_866 (lawF rfl rfl) rfl fun hw => ?_
  change RR _ _ _ zL _ _ _ _
  refine r_aload_n (pc := 869) (j := 2) dL_law_869 rfl rfl ?_
  refine r_callV (pc := 870) (z := zL) (N := mX8_marked) (nn := 0) (n1 := NF) (σ1 := σ2) (o1 := some (.int v)) (As := []) (rest := [.int v]) (sX8_marked e2) (ci := 8) (rfl : shp 73 = (8, 0)) (by decide) (by decide) rfl rfl tw_7_58 tw_1_10 tw_7_55 tw_7_56 tw_7_57 ⟨by decide, by decide, rfl⟩ ⟨nle rfl, nle rfl⟩ rfl (nle rfl) dL_law_870 (lawF rfl rfl) rfl fun hw => ?_
  change RR _ _ _ zL _ _ _ _
  refine r_icmp_eq (pc := 873) (tgt := 1441) dL_law_873 rfl (fun _ => ?_) (fun h => absurd rfl h)
  exact kk σ2 hR
def st22 (R : SS → Prop) (a : Nat → Int32) (σ : SS) : Prop := ∃ (v : Int32) (σ1 : SS) (σ2 : SS), (fX7_shape σ (a 1)) = some (v, σ1) ∧ (fX8_shape σ1 (a 1)) = some (v, σ2) ∧ R σ2
set_option maxRecDepth 20000 in
theorem law_c22 {g : GG} {R : SS → Prop} {i : Nat} {σ : SS} (hi : i + 7 ≤ sl g) (hL : sl g ≤ 3584) (h : st22 R (fun j => xs g (i + j)) σ) (kk : ∀ σ', R σ' → RR g mL (FL g) zL 1441 [(0, .ref (ad g 1030)), (1, .ref (ad g 1)), (2, .ref (ad g 73)), (3, .int (nI i))] [] σ') : RR g mL (FL g) zL 878 [(0, .ref (ad g 1030)), (1, .ref (ad g 1)), (2, .ref (ad g 73)), (3, .int (nI i))] [] σ := by
  obtain ⟨v, σ1, σ2, e1, e2, hR⟩ := h
  refine r_aload_n (pc := 878) (j := 1) dL_law_878 rfl rfl ?_
  refine r_aload_n (pc := 879) (j := 0) dL_law_879 rfl rfl ?_
  refine r_iload_n (pc := 880) (j := 3) dL_law_880 rfl rfl ?_
  refine r_iconst (pc := 881) (v := (1 : Int32)) dL_law_881 rfl ?_
  refine r_iadd (pc := 882) dL_law_882 ?_
  refine r_scr (pc := 883) (i := i) (j := 1) (nI_add i 1) ⟨by omega, hL⟩ dL_law_883 ?_
  refine r_callV (pc := 884) (z := zL) (N := mX7_shape) (nn := 1) (n1 := NF) (σ1 := σ1) (o1 := some (.int v)) (As := [.int (xs g (i + 1))]) (rest := []) (sX7_shape e1) (ci := 7) (rfl : shp 1 = (7, 0)) (by decide) (by decide) rfl rfl tw_4_52 tw_1_1 tw_4_49 tw_4_50 tw_4_51 ⟨by decide, by decide, rfl⟩ ⟨nle rfl, nle rfl⟩ rfl (nle rfl) dL_law_884 (lawF rfl rfl) rfl fun hw => ?_
  change RR _ _ _ zL _ _ _ _
  refine r_aload_n (pc := 887) (j := 2) dL_law_887 rfl rfl ?_
  refine r_aload_n (pc := 888) (j := 0) dL_law_888 rfl rfl ?_
  refine r_iload_n (pc := 889) (j := 3) dL_law_889 rfl rfl ?_
  refine r_iconst (pc := 890) (v := (1 : Int32)) dL_law_890 rfl ?_
  refine r_iadd (pc := 891) dL_law_891 ?_
  refine r_scr (pc := 892) (i := i) (j := 1) (nI_add i 1) ⟨by omega, hL⟩ dL_law_892 ?_
  refine r_callV (pc := 893) (z := zL) (N := mX8_shape) (nn := 1) (n1 := NF) (σ1 := σ2) (o1 := some (.int v)) (As := [.int (xs g (i + 1))]) (rest := [.int v]) (sX8_shape e2) (ci := 8) (rfl : shp 73 = (8, 0)) (by decide) (by decide) rfl rfl tw_7_62 tw_1_10 tw_7_59 tw_7_60 tw_7_61 ⟨by decide, by decide, rfl⟩ ⟨nle rfl, nle rfl⟩ rfl (nle rfl) dL_law_893 (lawF rfl rfl) rfl fun hw => ?_
  change RR _ _ _ zL _ _ _ _
  refine r_icmp_eq (pc := 896) (tgt := 1441) dL_law_896 rfl (fun _ => ?_) (fun h => absurd rfl h)
  exact kk σ2 hR
def st23 (R : SS → Prop) (a : Nat → Int32) (σ : SS) : Prop := ∃ (v : Int32) (σ1 : SS) (σ2 : SS), (fX7_map σ (a 1) (a 2) (a 3)) = some (v, σ1) ∧ (fX8_map σ1 (a 1) (a 2) (a 3)) = some (v, σ2) ∧ R σ2
set_option maxRecDepth 20000 in
theorem law_c23 {g : GG} {R : SS → Prop} {i : Nat} {σ : SS} (hi : i + 7 ≤ sl g) (hL : sl g ≤ 3584) (h : st23 R (fun j => xs g (i + j)) σ) (kk : ∀ σ', R σ' → RR g mL (FL g) zL 1441 [(0, .ref (ad g 1030)), (1, .ref (ad g 1)), (2, .ref (ad g 73)), (3, .int (nI i))] [] σ') : RR g mL (FL g) zL 901 [(0, .ref (ad g 1030)), (1, .ref (ad g 1)), (2, .ref (ad g 73)), (3, .int (nI i))] [] σ := by
  obtain ⟨v, σ1, σ2, e1, e2, hR⟩ := h
  refine r_aload_n (pc := 901) (j := 1) dL_law_901 rfl rfl ?_
  refine r_aload_n (pc := 902) (j := 0) dL_law_902 rfl rfl ?_
  refine r_iload_n (pc := 903) (j := 3) dL_law_903 rfl rfl ?_
  refine r_iconst (pc := 904) (v := (1 : Int32)) dL_law_904 rfl ?_
  refine r_iadd (pc := 905) dL_law_905 ?_
  refine r_scr (pc := 906) (i := i) (j := 1) (nI_add i 1) ⟨by omega, hL⟩ dL_law_906 ?_
  refine r_aload_n (pc := 907) (j := 0) dL_law_907 rfl rfl ?_
  refine r_iload_n (pc := 908) (j := 3) dL_law_908 rfl rfl ?_
  refine r_iconst (pc := 909) (v := (2 : Int32)) dL_law_909 rfl ?_
  refine r_iadd (pc := 910) dL_law_910 ?_
  refine r_scr (pc := 911) (i := i) (j := 2) (nI_add i 2) ⟨by omega, hL⟩ dL_law_911 ?_
  refine r_aload_n (pc := 912) (j := 0) dL_law_912 rfl rfl ?_
  refine r_iload_n (pc := 913) (j := 3) dL_law_913 rfl rfl ?_
  refine r_iconst (pc := 914) (v := (3 : Int32)) dL_law_914 rfl ?_
  refine r_iadd (pc := 915) dL_law_915 ?_
  refine r_scr (pc := 916) (i := i) (j := 3) (nI_add i 3) ⟨by omega, hL⟩ dL_law_916 ?_
  refine r_callV (pc := 917) (z := zL) (N := mX7_map) (nn := 3) (n1 := NF) (σ1 := σ1) (o1 := some (.int v)) (As := [.int (xs g (i + 1)), .int (xs g (i + 2)), .int (xs g (i + 3))]) (rest := []) (sX7_map e1) (ci := 7) (rfl : shp 1 = (7, 0)) (by decide) (by decide) rfl rfl tw_4_78 tw_1_1 tw_4_75 tw_4_76 tw_4_77 ⟨by decide, by decide, rfl⟩ ⟨nle rfl, nle rfl⟩ rfl (nle rfl) dL_law_917 (lawF rfl rfl) rfl fun hw => ?_
  change RR _ _ _ zL _ _ _ _
  refine r_aload_n (pc := 920) (j := 2) dL_law_920 rfl rfl ?_
  refine r_aload_n (pc := 921) (j := 0) dL_law_921 rfl rfl ?_
  refine r_iload_n (pc := 922) (j := 3) dL_law_922 rfl rfl ?_
  refine r_iconst (pc := 923) (v := (1 : Int32)) dL_law_923 rfl ?_
  refine r_iadd (pc := 924) dL_law_924 ?_
  refine r_scr (pc := 925) (i := i) (j := 1) (nI_add i 1) ⟨by omega, hL⟩ dL_law_925 ?_
  refine r_aload_n (pc := 926) (j := 0) dL_law_926 rfl rfl ?_
  refine r_iload_n (pc := 927) (j := 3) dL_law_927 rfl rfl ?_
  refine r_iconst (pc := 928) (v := (2 : Int32)) dL_law_928 rfl ?_
  refine r_iadd (pc := 929) dL_law_929 ?_
  refine r_scr (pc := 930) (i := i) (j := 2) (nI_add i 2) ⟨by omega, hL⟩ dL_law_930 ?_
  refine r_aload_n (pc := 931) (j := 0) dL_law_931 rfl rfl ?_
  refine r_iload_n (pc := 932) (j := 3) dL_law_932 rfl rfl ?_
  refine r_iconst (pc := 933) (v := (3 : Int32)) dL_law_933 rfl ?_
  refine r_iadd (pc := 934) dL_law_934 ?_
  refine r_scr (pc := 935) (i := i) (j := 3) (nI_add i 3) ⟨by omega, hL⟩ dL_law_935 ?_
  refine r_callV (pc := 936) (z := zL) (N := mX8_map) (nn := 3) (n1 := NF) (σ1 := σ2) (o1 := some (.int v)) (As := [.int (xs g (i + 1)), .int (xs g (i + 2)), .int (xs g (i + 3))]) (rest := [.int v]) (sX8_map e2) (ci := 8) (rfl : shp 73 = (8, 0)) (by decide) (by decide) rfl rfl tw_7_75 tw_1_10 tw_7_72 tw_7_73 tw_7_74 ⟨by decide, by decide, rfl⟩ ⟨nle rfl, nle rfl⟩ rfl (nle rfl) dL_law_936 (lawF rfl rfl) rfl fun hw => ?_
  change RR _ _ _ zL _ _ _ _
  refine r_icmp_eq (pc := 939) (tgt := 1441) dL_law_939 rfl (fun _ => ?_) (fun h => absurd rfl h)
  exact kk σ2 hR
def st24 (R : SS → Prop) (a : Nat → Int32) (σ : SS) : Prop := ∃ (v : Int32) (σ1 : SS) (σ2 : SS), (fX7_dark σ (a 1) (a 2)) = some (v, σ1) ∧ (fX8_dark σ1 (a 1) (a 2)) = some (v, σ2) ∧ R σ2
set_option maxRecDepth 20000 in
theorem law_c24 {g : GG} {R : SS → Prop} {i : Nat} {σ : SS} (hi : i + 7 ≤ sl g) (hL : sl g ≤ 3584) (h : st24 R (fun j => xs g (i + j)) σ) (kk : ∀ σ', R σ' → RR g mL (FL g) zL 1441 [(0, .ref (ad g 1030)), (1, .ref (ad g 1)), (2, .ref (ad g 73)), (3, .int (nI i))] [] σ') : RR g mL (FL g) zL 944 [(0, .ref (ad g 1030)), (1, .ref (ad g 1)), (2, .ref (ad g 73)), (3, .int (nI i))] [] σ := by
  obtain ⟨v, σ1, σ2, e1, e2, hR⟩ := h
  refine r_aload_n (pc := 944) (j := 1) dL_law_944 rfl rfl ?_
  refine r_aload_n (pc := 945) (j := 0) dL_law_945 rfl rfl ?_
  refine r_iload_n (pc := 946) (j := 3) dL_law_946 rfl rfl ?_
  refine r_iconst (pc := 947) (v := (1 : Int32)) dL_law_947 rfl ?_
  refine r_iadd (pc := 948) dL_law_948 ?_
  refine r_scr (pc := 949) (i := i) (j := 1) (nI_add i 1) ⟨by omega, hL⟩ dL_law_949 ?_
  refine r_aload_n (pc := 950) (j := 0) dL_law_950 rfl rfl ?_
  refine r_iload_n (pc := 951) (j := 3) dL_law_951 rfl rfl ?_
  refine r_iconst (pc := 952) (v := (2 : Int32)) dL_law_952 rfl ?_
  refine r_iadd (pc := 953) dL_law_953 ?_
  refine r_scr (pc := 954) (i := i) (j := 2) (nI_add i 2) ⟨by omega, hL⟩ dL_law_954 ?_
  refine r_callV (pc := 955) (z := zL) (N := mX7_dark) (nn := 2) (n1 := NF) (σ1 := σ1) (o1 := some (.int v)) (As := [.int (xs g (i + 1)), .int (xs g (i + 2))]) (rest := []) (sX7_dark e1) (ci := 7) (rfl : shp 1 = (7, 0)) (by decide) (by decide) rfl rfl tw_4_115 tw_1_1 tw_4_112 tw_4_113 tw_4_114 ⟨by decide, by decide, rfl⟩ ⟨nle rfl, nle rfl⟩ rfl (nle rfl) dL_law_955 (lawF rfl rfl) rfl fun hw => ?_
  change RR _ _ _ zL _ _ _ _
  refine r_aload_n (pc := 958) (j := 2) dL_law_958 rfl rfl ?_
  refine r_aload_n (pc := 959) (j := 0) dL_law_959 rfl rfl ?_
  refine r_iload_n (pc := 960) (j := 3) dL_law_960 rfl rfl ?_
  refine r_iconst (pc := 961) (v := (1 : Int32)) dL_law_961 rfl ?_
  refine r_iadd (pc := 962) dL_law_962 ?_
  refine r_scr (pc := 963) (i := i) (j := 1) (nI_add i 1) ⟨by omega, hL⟩ dL_law_963 ?_
  refine r_aload_n (pc := 964) (j := 0) dL_law_964 rfl rfl ?_
  refine r_iload_n (pc := 965) (j := 3) dL_law_965 rfl rfl ?_
  refine r_iconst (pc := 966) (v := (2 : Int32)) dL_law_966 rfl ?_
  refine r_iadd (pc := 967) dL_law_967 ?_
  refine r_scr (pc := 968) (i := i) (j := 2) (nI_add i 2) ⟨by omega, hL⟩ dL_law_968 ?_
  refine r_callV (pc := 969) (z := zL) (N := mX8_dark) (nn := 2) (n1 := NF) (σ1 := σ2) (o1 := some (.int v)) (As := [.int (xs g (i + 1)), .int (xs g (i + 2))]) (rest := [.int v]) (sX8_dark e2) (ci := 8) (rfl : shp 73 = (8, 0)) (by decide) (by decide) rfl rfl tw_7_89 tw_1_10 tw_7_86 tw_7_87 tw_7_88 ⟨by decide, by decide, rfl⟩ ⟨nle rfl, nle rfl⟩ rfl (nle rfl) dL_law_969 (lawF rfl rfl) rfl fun hw => ?_
  change RR _ _ _ zL _ _ _ _
  refine r_icmp_eq (pc := 972) (tgt := 1441) dL_law_972 rfl (fun _ => ?_) (fun h => absurd rfl h)
  exact kk σ2 hR
def st25 (R : SS → Prop) (a : Nat → Int32) (σ : SS) : Prop := ∃ (v : Int32) (σ1 : SS) (σ2 : SS), (fX7_judged σ (a 1) (a 2)) = some (v, σ1) ∧ (fX8_judged σ1 (a 1) (a 2)) = some (v, σ2) ∧ R σ2
set_option maxRecDepth 20000 in
theorem law_c25 {g : GG} {R : SS → Prop} {i : Nat} {σ : SS} (hi : i + 7 ≤ sl g) (hL : sl g ≤ 3584) (h : st25 R (fun j => xs g (i + j)) σ) (kk : ∀ σ', R σ' → RR g mL (FL g) zL 1441 [(0, .ref (ad g 1030)), (1, .ref (ad g 1)), (2, .ref (ad g 73)), (3, .int (nI i))] [] σ') : RR g mL (FL g) zL 977 [(0, .ref (ad g 1030)), (1, .ref (ad g 1)), (2, .ref (ad g 73)), (3, .int (nI i))] [] σ := by
  obtain ⟨v, σ1, σ2, e1, e2, hR⟩ := h
  refine r_aload_n (pc := 977) (j := 1) dL_law_977 rfl rfl ?_
  refine r_aload_n (pc := 978) (j := 0) dL_law_978 rfl rfl ?_
  refine r_iload_n (pc := 979) (j := 3) dL_law_979 rfl rfl ?_
  refine r_iconst (pc := 980) (v := (1 : Int32)) dL_law_980 rfl ?_
  refine r_iadd (pc := 981) dL_law_981 ?_
  refine r_scr (pc := 982) (i := i) (j := 1) (nI_add i 1) ⟨by omega, hL⟩ dL_law_982 ?_
  refine r_aload_n (pc := 983) (j := 0) dL_law_983 rfl rfl ?_
  refine r_iload_n (pc := 984) (j := 3) dL_law_984 rfl rfl ?_
  refine r_iconst (pc := 985) (v := (2 : Int32)) dL_law_985 rfl ?_
  refine r_iadd (pc := 986) dL_law_986 ?_
  refine r_scr (pc := 987) (i := i) (j := 2) (nI_add i 2) ⟨by omega, hL⟩ dL_law_987 ?_
  refine r_callV (pc := 988) (z := zL) (N := mX7_judged) (nn := 2) (n1 := NF) (σ1 := σ1) (o1 := some (.int v)) (As := [.int (xs g (i + 1)), .int (xs g (i + 2))]) (rest := []) (sX7_judged e1) (ci := 7) (rfl : shp 1 = (7, 0)) (by decide) (by decide) rfl rfl tw_4_133 tw_1_1 tw_4_130 tw_4_131 tw_4_132 ⟨by decide, by decide, rfl⟩ ⟨nle rfl, nle rfl⟩ rfl (nle rfl) dL_law_988 (lawF rfl rfl) rfl fun hw => ?_
  change RR _ _ _ zL _ _ _ _
  refine r_aload_n (pc := 991) (j := 2) dL_law_991 rfl rfl ?_
  refine r_aload_n (pc := 992) (j := 0) dL_law_992 rfl rfl ?_
  refine r_iload_n (pc := 993) (j := 3) dL_law_993 rfl rfl ?_
  refine r_iconst (pc := 994) (v := (1 : Int32)) dL_law_994 rfl ?_
  refine r_iadd (pc := 995) dL_law_995 ?_
  refine r_scr (pc := 996) (i := i) (j := 1) (nI_add i 1) ⟨by omega, hL⟩ dL_law_996 ?_
  refine r_aload_n (pc := 997) (j := 0) dL_law_997 rfl rfl ?_
  refine r_iload_n (pc := 998) (j := 3) dL_law_998 rfl rfl ?_
  refine r_iconst (pc := 999) (v := (2 : Int32)) dL_law_999 rfl ?_
  refine r_iadd (pc := 1000) dL_law_1000 ?_
  refine r_scr (pc := 1001) (i := i) (j := 2) (nI_add i 2) ⟨by omega, hL⟩ dL_law_1001 ?_
  refine r_callV (pc := 1002) (z := zL) (N := mX8_judged) (nn := 2) (n1 := NF) (σ1 := σ2) (o1 := some (.int v)) (As := [.int (xs g (i + 1)), .int (xs g (i + 2))]) (rest := [.int v]) (sX8_judged e2) (ci := 8) (rfl : shp 73 = (8, 0)) (by decide) (by decide) rfl rfl tw_7_105 tw_1_10 tw_7_102 tw_7_103 tw_7_104 ⟨by decide, by decide, rfl⟩ ⟨nle rfl, nle rfl⟩ rfl (nle rfl) dL_law_1002 (lawF rfl rfl) rfl fun hw => ?_
  change RR _ _ _ zL _ _ _ _
  refine r_icmp_eq (pc := 1005) (tgt := 1441) dL_law_1005 rfl (fun _ => ?_) (fun h => absurd rfl h)
  exact kk σ2 hR
def st26 (R : SS → Prop) (a : Nat → Int32) (σ : SS) : Prop := ∃ (v : Int32) (σ1 : SS) (σ2 : SS), (fX7_sheet σ (a 1)) = some (v, σ1) ∧ (fX8_sheet σ1 (a 1)) = some (v, σ2) ∧ R σ2
set_option maxRecDepth 20000 in
theorem law_c26 {g : GG} {R : SS → Prop} {i : Nat} {σ : SS} (hi : i + 7 ≤ sl g) (hL : sl g ≤ 3584) (h : st26 R (fun j => xs g (i + j)) σ) (kk : ∀ σ', R σ' → RR g mL (FL g) zL 1441 [(0, .ref (ad g 1030)), (1, .ref (ad g 1)), (2, .ref (ad g 73)), (3, .int (nI i))] [] σ') : RR g mL (FL g) zL 1010 [(0, .ref (ad g 1030)), (1, .ref (ad g 1)), (2, .ref (ad g 73)), (3, .int (nI i))] [] σ := by
  obtain ⟨v, σ1, σ2, e1, e2, hR⟩ := h
  refine r_aload_n (pc := 1010) (j := 1) dL_law_1010 rfl rfl ?_
  refine r_aload_n (pc := 1011) (j := 0) dL_law_1011 rfl rfl ?_
  refine r_iload_n (pc := 1012) (j := 3) dL_law_1012 rfl rfl ?_
  refine r_iconst (pc := 1013) (v := (1 : Int32)) dL_law_1013 rfl ?_
  refine r_iadd (pc := 1014) dL_law_1014 ?_
  refine r_scr (pc := 1015) (i := i) (j := 1) (nI_add i 1) ⟨by omega, hL⟩ dL_law_1015 ?_
  refine r_callV (pc := 1016) (z := zL) (N := mX7_sheet) (nn := 1) (n1 := NF) (σ1 := σ1) (o1 := some (.int v)) (As := [.int (xs g (i + 1))]) (rest := []) (sX7_sheet e1) (ci := 7) (rfl : shp 1 = (7, 0)) (by decide) (by decide) rfl rfl tw_4_155 tw_1_1 tw_4_152 tw_4_153 tw_4_154 ⟨by decide, by decide, rfl⟩ ⟨nle rfl, nle rfl⟩ rfl (nle rfl) dL_law_1016 (lawF rfl rfl) rfl fun hw => ?_
  change RR _ _ _ zL _ _ _ _
  refine r_aload_n (pc := 1019) (j := 2) dL_law_1019 rfl rfl ?_
  refine r_aload_n (pc := 1020) (j := 0) dL_law_1020 rfl rfl ?_
  refine r_iload_n (pc := 1021) (j := 3) dL_law_1021 rfl rfl ?_
  refine r_iconst (pc := 1022) (v := (1 : Int32)) dL_law_1022 rfl ?_
  refine r_iadd (pc := 1023) dL_law_1023 ?_
  refine r_scr (pc := 1024) (i := i) (j := 1) (nI_add i 1) ⟨by omega, hL⟩ dL_law_1024 ?_
  refine r_callV (pc := 1025) (z := zL) (N := mX8_sheet) (nn := 1) (n1 := NF) (σ1 := σ2) (o1 := some (.int v)) (As := [.int (xs g (i + 1))]) (rest := [.int v]) (sX8_sheet e2) (ci := 8) (rfl : shp 73 = (8, 0)) (by decide) (by decide) rfl rfl tw_7_134 tw_1_10 tw_7_131 tw_7_132 tw_7_133 ⟨by decide, by decide, rfl⟩ ⟨nle rfl, nle rfl⟩ rfl (nle rfl) dL_law_1025 (lawF rfl rfl) rfl fun hw => ?_
  change RR _ _ _ zL _ _ _ _
  refine r_icmp_eq (pc := 1028) (tgt := 1441) dL_law_1028 rfl (fun _ => ?_) (fun h => absurd rfl h)
  exact kk σ2 hR
def st27 (R : SS → Prop) (a : Nat → Int32) (σ : SS) : Prop := ∃ (v : Int32) (σ1 : SS) (σ2 : SS), (fX7_rank σ (a 1) (a 2)) = some (v, σ1) ∧ (fX8_rank σ1 (a 1) (a 2)) = some (v, σ2) ∧ R σ2
set_option maxRecDepth 20000 in
theorem law_c27 {g : GG} {R : SS → Prop} {i : Nat} {σ : SS} (hi : i + 7 ≤ sl g) (hL : sl g ≤ 3584) (h : st27 R (fun j => xs g (i + j)) σ) (kk : ∀ σ', R σ' → RR g mL (FL g) zL 1441 [(0, .ref (ad g 1030)), (1, .ref (ad g 1)), (2, .ref (ad g 73)), (3, .int (nI i))] [] σ') : RR g mL (FL g) zL 1033 [(0, .ref (ad g 1030)), (1, .ref (ad g 1)), (2, .ref (ad g 73)), (3, .int (nI i))] [] σ := by
  obtain ⟨v, σ1, σ2, e1, e2, hR⟩ := h
  refine r_aload_n (pc := 1033) (j := 1) dL_law_1033 rfl rfl ?_
  refine r_aload_n (pc := 1034) (j := 0) dL_law_1034 rfl rfl ?_
  refine r_iload_n (pc := 1035) (j := 3) dL_law_1035 rfl rfl ?_
  refine r_iconst (pc := 1036) (v := (1 : Int32)) dL_law_1036 rfl ?_
  refine r_iadd (pc := 1037) dL_law_1037 ?_
  refine r_scr (pc := 1038) (i := i) (j := 1) (nI_add i 1) ⟨by omega, hL⟩ dL_law_1038 ?_
  refine r_aload_n (pc := 1039) (j := 0) dL_law_1039 rfl rfl ?_
  refine r_iload_n (pc := 1040) (j := 3) dL_law_1040 rfl rfl ?_
  refine r_iconst (pc := 1041) (v := (2 : Int32)) dL_law_1041 rfl ?_
  refine r_iadd (pc := 1042) dL_law_1042 ?_
  refine r_scr (pc := 1043) (i := i) (j := 2) (nI_add i 2) ⟨by omega, hL⟩ dL_law_1043 ?_
  refine r_callV (pc := 1044) (z := zL) (N := mX7_rank) (nn := 2) (n1 := NF) (σ1 := σ1) (o1 := some (.int v)) (As := [.int (xs g (i + 1)), .int (xs g (i + 2))]) (rest := []) (sX7_rank e1) (ci := 7) (rfl : shp 1 = (7, 0)) (by decide) (by decide) rfl rfl tw_4_182 tw_1_1 tw_4_179 tw_4_180 tw_4_181 ⟨by decide, by decide, rfl⟩ ⟨nle rfl, nle rfl⟩ rfl (nle rfl) dL_law_1044 (lawF rfl rfl) rfl fun hw => ?_
  change RR _ _ _ zL _ _ _ _
  refine r_aload_n (pc := 1047) (j := 2) dL_law_1047 rfl rfl ?_
  refine r_aload_n (pc := 1048) (j := 0) dL_law_1048 rfl rfl ?_
  refine r_iload_n (pc := 1049) (j := 3) dL_law_1049 rfl rfl ?_
  refine r_iconst (pc := 1050) (v := (1 : Int32)) dL_law_1050 rfl ?_
  refine r_iadd (pc := 1051) dL_law_1051 ?_
  refine r_scr (pc := 1052) (i := i) (j := 1) (nI_add i 1) ⟨by omega, hL⟩ dL_law_1052 ?_
  refine r_aload_n (pc := 1053) (j := 0) dL_law_1053 rfl rfl ?_
  refine r_iload_n (pc := 1054) (j := 3) dL_law_1054 rfl rfl ?_
  refine r_iconst (pc := 1055) (v := (2 : Int32)) dL_law_1055 rfl ?_
  refine r_iadd (pc := 1056) dL_law_1056 ?_
  refine r_scr (pc := 1057) (i := i) (j := 2) (nI_add i 2) ⟨by omega, hL⟩ dL_law_1057 ?_
  refine r_callV (pc := 1058) (z := zL) (N := mX8_rank) (nn := 2) (n1 := NF) (σ1 := σ2) (o1 := some (.int v)) (As := [.int (xs g (i + 1)), .int (xs g (i + 2))]) (rest := [.int v]) (sX8_rank e2) (ci := 8) (rfl : shp 73 = (8, 0)) (by decide) (by decide) rfl rfl tw_7_146 tw_1_10 tw_7_143 tw_7_144 tw_7_145 ⟨by decide, by decide, rfl⟩ ⟨nle rfl, nle rfl⟩ rfl (nle rfl) dL_law_1058 (lawF rfl rfl) rfl fun hw => ?_
  change RR _ _ _ zL _ _ _ _
  refine r_icmp_eq (pc := 1061) (tgt := 1441) dL_law_1061 rfl (fun _ => ?_) (fun h => absurd rfl h)
  exact kk σ2 hR
def st28 (R : SS → Prop) (a : Nat → Int32) (σ : SS) : Prop := ∃ (v : Int32) (σ1 : SS) (σ2 : SS), (fX7_apart σ (a 1)) = some (v, σ1) ∧ (fX8_apart σ1 (a 1)) = some (v, σ2) ∧ R σ2
set_option maxRecDepth 20000 in
theorem law_c28 {g : GG} {R : SS → Prop} {i : Nat} {σ : SS} (hi : i + 7 ≤ sl g) (hL : sl g ≤ 3584) (h : st28 R (fun j => xs g (i + j)) σ) (kk : ∀ σ', R σ' → RR g mL (FL g) zL 1441 [(0, .ref (ad g 1030)), (1, .ref (ad g 1)), (2, .ref (ad g 73)), (3, .int (nI i))] [] σ') : RR g mL (FL g) zL 1066 [(0, .ref (ad g 1030)), (1, .ref (ad g 1)), (2, .ref (ad g 73)), (3, .int (nI i))] [] σ := by
  obtain ⟨v, σ1, σ2, e1, e2, hR⟩ := h
  refine r_aload_n (pc := 1066) (j := 1) dL_law_1066 rfl rfl ?_
  refine r_aload_n (pc := 1067) (j := 0) dL_law_1067 rfl rfl ?_
  refine r_iload_n (pc := 1068) (j := 3) dL_law_1068 rfl rfl ?_
  refine r_iconst (pc := 1069) (v := (1 : Int32)) dL_law_1069 rfl ?_
  refine r_iadd (pc := 1070) dL_law_1070 ?_
  refine r_scr (pc := 1071) (i := i) (j := 1) (nI_add i 1) ⟨by omega, hL⟩ dL_law_1071 ?_
  refine r_callV (pc := 1072) (z := zL) (N := mX7_apart) (nn := 1) (n1 := NF) (σ1 := σ1) (o1 := some (.int v)) (As := [.int (xs g (i + 1))]) (rest := []) (sX7_apart e1) (ci := 7) (rfl : shp 1 = (7, 0)) (by decide) (by decide) rfl rfl tw_4_190 tw_1_1 tw_4_187 tw_4_188 tw_4_189 ⟨by decide, by decide, rfl⟩ ⟨nle rfl, nle rfl⟩ rfl (nle rfl) dL_law_1072 (lawF rfl rfl) rfl fun hw => ?_
  change RR _ _ _ zL _ _ _ _
  refine r_aload_n (pc := 1075) (j := 2) dL_law_1075 rfl rfl ?_
  refine r_aload_n (pc := 1076) (j := 0) dL_law_1076 rfl rfl ?_
  refine r_iload_n (pc := 1077) (j := 3) dL_law_1077 rfl rfl ?_
  refine r_iconst (pc := 1078) (v := (1 : Int32)) dL_law_1078 rfl ?_
  refine r_iadd (pc := 1079) dL_law_1079 ?_
  refine r_scr (pc := 1080) (i := i) (j := 1) (nI_add i 1) ⟨by omega, hL⟩ dL_law_1080 ?_
  refine r_callV (pc := 1081) (z := zL) (N := mX8_apart) (nn := 1) (n1 := NF) (σ1 := σ2) (o1 := some (.int v)) (As := [.int (xs g (i + 1))]) (rest := [.int v]) (sX8_apart e2) (ci := 8) (rfl : shp 73 = (8, 0)) (by decide) (by decide) rfl rfl tw_7_150 tw_1_10 tw_7_147 tw_7_148 tw_7_149 ⟨by decide, by decide, rfl⟩ ⟨nle rfl, nle rfl⟩ rfl (nle rfl) dL_law_1081 (lawF rfl rfl) rfl fun hw => ?_
  change RR _ _ _ zL _ _ _ _
  refine r_icmp_eq (pc := 1084) (tgt := 1441) dL_law_1084 rfl (fun _ => ?_) (fun h => absurd rfl h)
  exact kk σ2 hR
def st29 (R : SS → Prop) (a : Nat → Int32) (σ : SS) : Prop := ∃ (v : Int32) (σ1 : SS) (σ2 : SS), (fX7_steady σ (a 1) (a 2)) = some (v, σ1) ∧ (fX8_steady σ1 (a 1) (a 2)) = some (v, σ2) ∧ R σ2
set_option maxRecDepth 20000 in
theorem law_c29 {g : GG} {R : SS → Prop} {i : Nat} {σ : SS} (hi : i + 7 ≤ sl g) (hL : sl g ≤ 3584) (h : st29 R (fun j => xs g (i + j)) σ) (kk : ∀ σ', R σ' → RR g mL (FL g) zL 1441 [(0, .ref (ad g 1030)), (1, .ref (ad g 1)), (2, .ref (ad g 73)), (3, .int (nI i))] [] σ') : RR g mL (FL g) zL 1089 [(0, .ref (ad g 1030)), (1, .ref (ad g 1)), (2, .ref (ad g 73)), (3, .int (nI i))] [] σ := by
  obtain ⟨v, σ1, σ2, e1, e2, hR⟩ := h
  refine r_aload_n (pc := 1089) (j := 1) dL_law_1089 rfl rfl ?_
  refine r_aload_n (pc := 1090) (j := 0) dL_law_1090 rfl rfl ?_
  refine r_iload_n (pc := 1091) (j := 3) dL_law_1091 rfl rfl ?_
  refine r_iconst (pc := 1092) (v := (1 : Int32)) dL_law_1092 rfl ?_
  refine r_iadd (pc := 1093) dL_law_1093 ?_
  refine r_scr (pc := 1094) (i := i) (j := 1) (nI_add i 1) ⟨by omega, hL⟩ dL_law_1094 ?_
  refine r_aload_n (pc := 1095) (j := 0) dL_law_1095 rfl rfl ?_
  refine r_iload_n (pc := 1096) (j := 3) dL_law_1096 rfl rfl ?_
  refine r_iconst (pc := 1097) (v := (2 : Int32)) dL_law_1097 rfl ?_
  refine r_iadd (pc := 1098) dL_law_1098 ?_
  refine r_scr (pc := 1099) (i := i) (j := 2) (nI_add i 2) ⟨by omega, hL⟩ dL_law_1099 ?_
  refine r_callV (pc := 1100) (z := zL) (N := mX7_steady) (nn := 2) (n1 := NF) (σ1 := σ1) (o1 := some (.int v)) (As := [.int (xs g (i + 1)), .int (xs g (i + 2))]) (rest := []) (sX7_steady e1) (ci := 7) (rfl : shp 1 = (7, 0)) (by decide) (by decide) rfl rfl tw_4_202 tw_1_1 tw_4_199 tw_4_200 tw_4_201 ⟨by decide, by decide, rfl⟩ ⟨nle rfl, nle rfl⟩ rfl (nle rfl) dL_law_1100 (lawF rfl rfl) rfl fun hw => ?_
  change RR _ _ _ zL _ _ _ _
  refine r_aload_n (pc := 1103) (j := 2) dL_law_1103 rfl rfl ?_
  refine r_aload_n (pc := 1104) (j := 0) dL_law_1104 rfl rfl ?_
  refine r_iload_n (pc := 1105) (j := 3) dL_law_1105 rfl rfl ?_
  refine r_iconst (pc := 1106) (v := (1 : Int32)) dL_law_1106 rfl ?_
  refine r_iadd (pc := 1107) dL_law_1107 ?_
  refine r_scr (pc := 1108) (i := i) (j := 1) (nI_add i 1) ⟨by omega, hL⟩ dL_law_1108 ?_
  refine r_aload_n (pc := 1109) (j := 0) dL_law_1109 rfl rfl ?_
  refine r_iload_n (pc := 1110) (j := 3) dL_law_1110 rfl rfl ?_
  refine r_iconst (pc := 1111) (v := (2 : Int32)) dL_law_1111 rfl ?_
  refine r_iadd (pc := 1112) dL_law_1112 ?_
  refine r_scr (pc := 1113) (i := i) (j := 2) (nI_add i 2) ⟨by omega, hL⟩ dL_law_1113 ?_
  refine r_callV (pc := 1114) (z := zL) (N := mX8_steady) (nn := 2) (n1 := NF) (σ1 := σ2) (o1 := some (.int v)) (As := [.int (xs g (i + 1)), .int (xs g (i + 2))]) (rest := [.int v]) (sX8_steady e2) (ci := 8) (rfl : shp 73 = (8, 0)) (by decide) (by decide) rfl rfl tw_7_154 tw_1_10 tw_7_151 tw_7_152 tw_7_153 ⟨by decide, by decide, rfl⟩ ⟨nle rfl, nle rfl⟩ rfl (nle rfl) dL_law_1114 (lawF rfl rfl) rfl fun hw => ?_
  change RR _ _ _ zL _ _ _ _
  refine r_icmp_eq (pc := 1117) (tgt := 1441) dL_law_1117 rfl (fun _ => ?_) (fun h => absurd rfl h)
  exact kk σ2 hR
def st30 (R : SS → Prop) (a : Nat → Int32) (σ : SS) : Prop := ∃ (v : Bool) (σ1 : SS) (σ2 : SS), (fX7_corner σ (a 1) (a 2) (a 3)) = some (v, σ1) ∧ (fX8_corner σ1 (a 1) (a 2) (a 3)) = some (v, σ2) ∧ R σ2
set_option maxRecDepth 20000 in
theorem law_c30 {g : GG} {R : SS → Prop} {i : Nat} {σ : SS} (hi : i + 7 ≤ sl g) (hL : sl g ≤ 3584) (h : st30 R (fun j => xs g (i + j)) σ) (kk : ∀ σ', R σ' → RR g mL (FL g) zL 1441 [(0, .ref (ad g 1030)), (1, .ref (ad g 1)), (2, .ref (ad g 73)), (3, .int (nI i))] [] σ') : RR g mL (FL g) zL 1122 [(0, .ref (ad g 1030)), (1, .ref (ad g 1)), (2, .ref (ad g 73)), (3, .int (nI i))] [] σ := by
  obtain ⟨v, σ1, σ2, e1, e2, hR⟩ := h
  refine r_aload_n (pc := 1122) (j := 1) dL_law_1122 rfl rfl ?_
  refine r_aload_n (pc := 1123) (j := 0) dL_law_1123 rfl rfl ?_
  refine r_iload_n (pc := 1124) (j := 3) dL_law_1124 rfl rfl ?_
  refine r_iconst (pc := 1125) (v := (1 : Int32)) dL_law_1125 rfl ?_
  refine r_iadd (pc := 1126) dL_law_1126 ?_
  refine r_scr (pc := 1127) (i := i) (j := 1) (nI_add i 1) ⟨by omega, hL⟩ dL_law_1127 ?_
  refine r_aload_n (pc := 1128) (j := 0) dL_law_1128 rfl rfl ?_
  refine r_iload_n (pc := 1129) (j := 3) dL_law_1129 rfl rfl ?_
  refine r_iconst (pc := 1130) (v := (2 : Int32)) dL_law_1130 rfl ?_
  refine r_iadd (pc := 1131) dL_law_1131 ?_
  refine r_scr (pc := 1132) (i := i) (j := 2) (nI_add i 2) ⟨by omega, hL⟩ dL_law_1132 ?_
  refine r_aload_n (pc := 1133) (j := 0) dL_law_1133 rfl rfl ?_
  refine r_iload_n (pc := 1134) (j := 3) dL_law_1134 rfl rfl ?_
  refine r_iconst (pc := 1135) (v := (3 : Int32)) dL_law_1135 rfl ?_
  refine r_iadd (pc := 1136) dL_law_1136 ?_
  refine r_scr (pc := 1137) (i := i) (j := 3) (nI_add i 3) ⟨by omega, hL⟩ dL_law_1137 ?_
  refine r_callV (pc := 1138) (z := zL) (N := mX7_corner) (nn := 3) (n1 := NF) (σ1 := σ1) (o1 := some (.int (b2i v))) (As := [.int (xs g (i + 1)), .int (xs g (i + 2)), .int (xs g (i + 3))]) (rest := []) (sX7_corner e1) (ci := 7) (rfl : shp 1 = (7, 0)) (by decide) (by decide) rfl rfl tw_4_214 tw_1_1 tw_4_211 tw_4_212 tw_4_213 ⟨by decide, by decide, rfl⟩ ⟨nle rfl, nle rfl⟩ rfl (nle rfl) dL_law_1138 (lawF rfl rfl) rfl fun hw => ?_
  change RR _ _ _ zL _ _ _ _
  refine r_aload_n (pc := 1141) (j := 2) dL_law_1141 rfl rfl ?_
  refine r_aload_n (pc := 1142) (j := 0) dL_law_1142 rfl rfl ?_
  refine r_iload_n (pc := 1143) (j := 3) dL_law_1143 rfl rfl ?_
  refine r_iconst (pc := 1144) (v := (1 : Int32)) dL_law_1144 rfl ?_
  refine r_iadd (pc := 1145) dL_law_1145 ?_
  refine r_scr (pc := 1146) (i := i) (j := 1) (nI_add i 1) ⟨by omega, hL⟩ dL_law_1146 ?_
  refine r_aload_n (pc := 1147) (j := 0) dL_law_1147 rfl rfl ?_
  refine r_iload_n (pc := 1148) (j := 3) dL_law_1148 rfl rfl ?_
  refine r_iconst (pc := 1149) (v := (2 : Int32)) dL_law_1149 rfl ?_
  refine r_iadd (pc := 1150) dL_law_1150 ?_
  refine r_scr (pc := 1151) (i := i) (j := 2) (nI_add i 2) ⟨by omega, hL⟩ dL_law_1151 ?_
  refine r_aload_n (pc := 1152) (j := 0) dL_law_1152 rfl rfl ?_
  refine r_iload_n (pc := 1153) (j := 3) dL_law_1153 rfl rfl ?_
  refine r_iconst (pc := 1154) (v := (3 : Int32)) dL_law_1154 rfl ?_
  refine r_iadd (pc := 1155) dL_law_1155 ?_
  refine r_scr (pc := 1156) (i := i) (j := 3) (nI_add i 3) ⟨by omega, hL⟩ dL_law_1156 ?_
  refine r_callV (pc := 1157) (z := zL) (N := mX8_corner) (nn := 3) (n1 := NF) (σ1 := σ2) (o1 := some (.int (b2i v))) (As := [.int (xs g (i + 1)), .int (xs g (i + 2)), .int (xs g (i + 3))]) (rest := [.int (b2i v)]) (sX8_corner e2) (ci := 8) (rfl : shp 73 = (8, 0)) (by decide) (by decide) rfl rfl tw_7_158 tw_1_10 tw_7_155 tw_7_156 tw_7_157 ⟨by decide, by decide, rfl⟩ ⟨nle rfl, nle rfl⟩ rfl (nle rfl) dL_law_1157 (lawF rfl rfl) rfl fun hw => ?_
  change RR _ _ _ zL _ _ _ _
  refine r_icmp_eq (pc := 1160) (tgt := 1441) dL_law_1160 rfl (fun _ => ?_) (fun h => absurd rfl h)
  exact kk σ2 hR
def st31 (R : SS → Prop) (a : Nat → Int32) (σ : SS) : Prop := ∃ (v : Int32) (σ1 : SS) (σ2 : SS), (fX7_tick σ (a 1) (a 2)) = some (v, σ1) ∧ (fX8_tick σ1 (a 1) (a 2)) = some (v, σ2) ∧ R σ2
set_option maxRecDepth 20000 in
theorem law_c31 {g : GG} {R : SS → Prop} {i : Nat} {σ : SS} (hi : i + 7 ≤ sl g) (hL : sl g ≤ 3584) (h : st31 R (fun j => xs g (i + j)) σ) (kk : ∀ σ', R σ' → RR g mL (FL g) zL 1441 [(0, .ref (ad g 1030)), (1, .ref (ad g 1)), (2, .ref (ad g 73)), (3, .int (nI i))] [] σ') : RR g mL (FL g) zL 1165 [(0, .ref (ad g 1030)), (1, .ref (ad g 1)), (2, .ref (ad g 73)), (3, .int (nI i))] [] σ := by
  obtain ⟨v, σ1, σ2, e1, e2, hR⟩ := h
  refine r_aload_n (pc := 1165) (j := 1) dL_law_1165 rfl rfl ?_
  refine r_aload_n (pc := 1166) (j := 0) dL_law_1166 rfl rfl ?_
  refine r_iload_n (pc := 1167) (j := 3) dL_law_1167 rfl rfl ?_
  refine r_iconst (pc := 1168) (v := (1 : Int32)) dL_law_1168 rfl ?_
  refine r_iadd (pc := 1169) dL_law_1169 ?_
  refine r_scr (pc := 1170) (i := i) (j := 1) (nI_add i 1) ⟨by omega, hL⟩ dL_law_1170 ?_
  refine r_aload_n (pc := 1171) (j := 0) dL_law_1171 rfl rfl ?_
  refine r_iload_n (pc := 1172) (j := 3) dL_law_1172 rfl rfl ?_
  refine r_iconst (pc := 1173) (v := (2 : Int32)) dL_law_1173 rfl ?_
  refine r_iadd (pc := 1174) dL_law_1174 ?_
  refine r_scr (pc := 1175) (i := i) (j := 2) (nI_add i 2) ⟨by omega, hL⟩ dL_law_1175 ?_
  refine r_callV (pc := 1176) (z := zL) (N := mX7_tick) (nn := 2) (n1 := NF) (σ1 := σ1) (o1 := some (.int v)) (As := [.int (xs g (i + 1)), .int (xs g (i + 2))]) (rest := []) (sX7_tick e1) (ci := 7) (rfl : shp 1 = (7, 0)) (by decide) (by decide) rfl rfl tw_4_218 tw_1_1 tw_4_215 tw_4_216 tw_4_217 ⟨by decide, by decide, rfl⟩ ⟨nle rfl, nle rfl⟩ rfl (nle rfl) dL_law_1176 (lawF rfl rfl) rfl fun hw => ?_
  change RR _ _ _ zL _ _ _ _
  refine r_aload_n (pc := 1179) (j := 2) dL_law_1179 rfl rfl ?_
  refine r_aload_n (pc := 1180) (j := 0) dL_law_1180 rfl rfl ?_
  refine r_iload_n (pc := 1181) (j := 3) dL_law_1181 rfl rfl ?_
  refine r_iconst (pc := 1182) (v := (1 : Int32)) dL_law_1182 rfl ?_
  refine r_iadd (pc := 1183) dL_law_1183 ?_
  refine r_scr (pc := 1184) (i := i) (j := 1) (nI_add i 1) ⟨by omega, hL⟩ dL_law_1184 ?_
  refine r_aload_n (pc := 1185) (j := 0) dL_law_1185 rfl rfl ?_
  refine r_iload_n (pc := 1186) (j := 3) dL_law_1186 rfl rfl ?_
  refine r_iconst (pc := 1187) (v := (2 : Int32)) dL_law_1187 rfl ?_
  refine r_iadd (pc := 1188) dL_law_1188 ?_
  refine r_scr (pc := 1189) (i := i) (j := 2) (nI_add i 2) ⟨by omega, hL⟩ dL_law_1189 ?_
  refine r_callV (pc := 1190) (z := zL) (N := mX8_tick) (nn := 2) (n1 := NF) (σ1 := σ2) (o1 := some (.int v)) (As := [.int (xs g (i + 1)), .int (xs g (i + 2))]) (rest := [.int v]) (sX8_tick e2) (ci := 8) (rfl : shp 73 = (8, 0)) (by decide) (by decide) rfl rfl tw_7_162 tw_1_10 tw_7_159 tw_7_160 tw_7_161 ⟨by decide, by decide, rfl⟩ ⟨nle rfl, nle rfl⟩ rfl (nle rfl) dL_law_1190 (lawF rfl rfl) rfl fun hw => ?_
  change RR _ _ _ zL _ _ _ _
  refine r_icmp_eq (pc := 1193) (tgt := 1441) dL_law_1193 rfl (fun _ => ?_) (fun h => absurd rfl h)
  exact kk σ2 hR
def st32 (R : SS → Prop) (a : Nat → Int32) (σ : SS) : Prop := ∃ (v : Int32) (σ1 : SS) (σ2 : SS), (fX7_print σ (a 1)) = some (v, σ1) ∧ (fX8_print σ1 (a 1)) = some (v, σ2) ∧ R σ2
set_option maxRecDepth 20000 in
theorem law_c32 {g : GG} {R : SS → Prop} {i : Nat} {σ : SS} (hi : i + 7 ≤ sl g) (hL : sl g ≤ 3584) (h : st32 R (fun j => xs g (i + j)) σ) (kk : ∀ σ', R σ' → RR g mL (FL g) zL 1441 [(0, .ref (ad g 1030)), (1, .ref (ad g 1)), (2, .ref (ad g 73)), (3, .int (nI i))] [] σ') : RR g mL (FL g) zL 1198 [(0, .ref (ad g 1030)), (1, .ref (ad g 1)), (2, .ref (ad g 73)), (3, .int (nI i))] [] σ := by
  obtain ⟨v, σ1, σ2, e1, e2, hR⟩ := h
  refine r_aload_n (pc := 1198) (j := 1) dL_law_1198 rfl rfl ?_
  refine r_aload_n (pc := 1199) (j := 0) dL_law_1199 rfl rfl ?_
  refine r_iload_n (pc := 1200) (j := 3) dL_law_1200 rfl rfl ?_
  refine r_iconst (pc := 1201) (v := (1 : Int32)) dL_law_1201 rfl ?_
  refine r_iadd (pc := 1202) dL_law_1202 ?_
  refine r_scr (pc := 1203) (i := i) (j := 1) (nI_add i 1) ⟨by omega, hL⟩ dL_law_1203 ?_
  refine r_callV (pc := 1204) (z := zL) (N := mX7_print) (nn := 1) (n1 := NF) (σ1 := σ1) (o1 := some (.int v)) (As := [.int (xs g (i + 1))]) (rest := []) (sX7_print e1) (ci := 7) (rfl : shp 1 = (7, 0)) (by decide) (by decide) rfl rfl tw_4_222 tw_1_1 tw_4_219 tw_4_220 tw_4_221 ⟨by decide, by decide, rfl⟩ ⟨nle rfl, nle rfl⟩ rfl (nle rfl) dL_law_1204 (lawF rfl rfl) rfl fun hw => ?_
  change RR _ _ _ zL _ _ _ _
  refine r_aload_n (pc := 1207) (j := 2) dL_law_1207 rfl rfl ?_
  refine r_aload_n (pc := 1208) (j := 0) dL_law_1208 rfl rfl ?_
  refine r_iload_n (pc := 1209) (j := 3) dL_law_1209 rfl rfl ?_
  refine r_iconst (pc := 1210) (v := (1 : Int32)) dL_law_1210 rfl ?_
  refine r_iadd (pc := 1211) dL_law_1211 ?_
  refine r_scr (pc := 1212) (i := i) (j := 1) (nI_add i 1) ⟨by omega, hL⟩ dL_law_1212 ?_
  refine r_callV (pc := 1213) (z := zL) (N := mX8_print) (nn := 1) (n1 := NF) (σ1 := σ2) (o1 := some (.int v)) (As := [.int (xs g (i + 1))]) (rest := [.int v]) (sX8_print e2) (ci := 8) (rfl : shp 73 = (8, 0)) (by decide) (by decide) rfl rfl tw_7_166 tw_1_10 tw_7_163 tw_7_164 tw_7_165 ⟨by decide, by decide, rfl⟩ ⟨nle rfl, nle rfl⟩ rfl (nle rfl) dL_law_1213 (lawF rfl rfl) rfl fun hw => ?_
  change RR _ _ _ zL _ _ _ _
  refine r_icmp_eq (pc := 1216) (tgt := 1441) dL_law_1216 rfl (fun _ => ?_) (fun h => absurd rfl h)
  exact kk σ2 hR
def st33 (R : SS → Prop) (a : Nat → Int32) (σ : SS) : Prop := ∃ (v : Int32) (σ1 : SS) (σ2 : SS), (fX7_unlike σ) = some (v, σ1) ∧ (fX8_unlike σ1) = some (v, σ2) ∧ R σ2
set_option maxRecDepth 20000 in
theorem law_c33 {g : GG} {R : SS → Prop} {i : Nat} {σ : SS} (hi : i + 7 ≤ sl g) (hL : sl g ≤ 3584) (h : st33 R (fun j => xs g (i + j)) σ) (kk : ∀ σ', R σ' → RR g mL (FL g) zL 1441 [(0, .ref (ad g 1030)), (1, .ref (ad g 1)), (2, .ref (ad g 73)), (3, .int (nI i))] [] σ') : RR g mL (FL g) zL 1221 [(0, .ref (ad g 1030)), (1, .ref (ad g 1)), (2, .ref (ad g 73)), (3, .int (nI i))] [] σ := by
  obtain ⟨v, σ1, σ2, e1, e2, hR⟩ := h
  refine r_aload_n (pc := 1221) (j := 1) dL_law_1221 rfl rfl ?_
  refine r_callV (pc := 1222) (z := zL) (N := mX7_unlike) (nn := 0) (n1 := NF) (σ1 := σ1) (o1 := some (.int v)) (As := []) (rest := []) (sX7_unlike e1) (ci := 7) (rfl : shp 1 = (7, 0)) (by decide) (by decide) rfl rfl tw_4_239 tw_1_1 tw_4_236 tw_4_237 tw_4_238 ⟨by decide, by decide, rfl⟩ ⟨nle rfl, nle rfl⟩ rfl (nle rfl) dL_law_1222 (lawF rfl rfl) rfl fun hw => ?_
  change RR _ _ _ zL _ _ _ _
  refine r_aload_n (pc := 1225) (j := 2) dL_law_1225 rfl rfl ?_
  refine r_callV (pc := 1226) (z := zL) (N := mX8_unlike) (nn := 0) (n1 := NF) (σ1 := σ2) (o1 := some (.int v)) (As := []) (rest := [.int v]) (sX8_unlike e2) (ci := 8) (rfl : shp 73 = (8, 0)) (by decide) (by decide) rfl rfl tw_7_174 tw_1_10 tw_7_171 tw_7_172 tw_7_173 ⟨by decide, by decide, rfl⟩ ⟨nle rfl, nle rfl⟩ rfl (nle rfl) dL_law_1226 (lawF rfl rfl) rfl fun hw => ?_
  change RR _ _ _ zL _ _ _ _
  refine r_icmp_eq (pc := 1229) (tgt := 1441) dL_law_1229 rfl (fun _ => ?_) (fun h => absurd rfl h)
  exact kk σ2 hR
def st34 (R : SS → Prop) (a : Nat → Int32) (σ : SS) : Prop := ∃ (v : Int32) (σ1 : SS) (σ2 : SS), (fX7_up σ) = some (v, σ1) ∧ (fX8_up σ1) = some (v, σ2) ∧ R σ2
set_option maxRecDepth 20000 in
theorem law_c34 {g : GG} {R : SS → Prop} {i : Nat} {σ : SS} (hi : i + 7 ≤ sl g) (hL : sl g ≤ 3584) (h : st34 R (fun j => xs g (i + j)) σ) (kk : ∀ σ', R σ' → RR g mL (FL g) zL 1441 [(0, .ref (ad g 1030)), (1, .ref (ad g 1)), (2, .ref (ad g 73)), (3, .int (nI i))] [] σ') : RR g mL (FL g) zL 1234 [(0, .ref (ad g 1030)), (1, .ref (ad g 1)), (2, .ref (ad g 73)), (3, .int (nI i))] [] σ := by
  obtain ⟨v, σ1, σ2, e1, e2, hR⟩ := h
  refine r_aload_n (pc := 1234) (j := 1) dL_law_1234 rfl rfl ?_
  refine r_callV (pc := 1235) (z := zL) (N := mX7_up) (nn := 0) (n1 := NF) (σ1 := σ1) (o1 := some (.int v)) (As := []) (rest := []) (sX7_up e1) (ci := 7) (rfl : shp 1 = (7, 0)) (by decide) (by decide) rfl rfl tw_5_3 tw_1_1 tw_5_0 tw_5_1 tw_5_2 ⟨by decide, by decide, rfl⟩ ⟨nle rfl, nle rfl⟩ rfl (nle rfl) dL_law_1235 (lawF rfl rfl) rfl fun hw => ?_
  change RR _ _ _ zL _ _ _ _
  refine r_aload_n (pc := 1238) (j := 2) dL_law_1238 rfl rfl ?_
  refine r_callV (pc := 1239) (z := zL) (N := mX8_up) (nn := 0) (n1 := NF) (σ1 := σ2) (o1 := some (.int v)) (As := []) (rest := [.int v]) (sX8_up e2) (ci := 8) (rfl : shp 73 = (8, 0)) (by decide) (by decide) rfl rfl tw_7_178 tw_1_10 tw_7_175 tw_7_176 tw_7_177 ⟨by decide, by decide, rfl⟩ ⟨nle rfl, nle rfl⟩ rfl (nle rfl) dL_law_1239 (lawF rfl rfl) rfl fun hw => ?_
  change RR _ _ _ zL _ _ _ _
  refine r_icmp_eq (pc := 1242) (tgt := 1441) dL_law_1242 rfl (fun _ => ?_) (fun h => absurd rfl h)
  exact kk σ2 hR
def st35 (R : SS → Prop) (a : Nat → Int32) (σ : SS) : Prop := ∃ (v : Int32) (σ1 : SS) (σ2 : SS), (fX7_lay σ) = some (v, σ1) ∧ (fX8_lay σ1) = some (v, σ2) ∧ R σ2
set_option maxRecDepth 20000 in
theorem law_c35 {g : GG} {R : SS → Prop} {i : Nat} {σ : SS} (hi : i + 7 ≤ sl g) (hL : sl g ≤ 3584) (h : st35 R (fun j => xs g (i + j)) σ) (kk : ∀ σ', R σ' → RR g mL (FL g) zL 1441 [(0, .ref (ad g 1030)), (1, .ref (ad g 1)), (2, .ref (ad g 73)), (3, .int (nI i))] [] σ') : RR g mL (FL g) zL 1247 [(0, .ref (ad g 1030)), (1, .ref (ad g 1)), (2, .ref (ad g 73)), (3, .int (nI i))] [] σ := by
  obtain ⟨v, σ1, σ2, e1, e2, hR⟩ := h
  refine r_aload_n (pc := 1247) (j := 1) dL_law_1247 rfl rfl ?_
  refine r_callV (pc := 1248) (z := zL) (N := mX7_lay) (nn := 0) (n1 := NF) (σ1 := σ1) (o1 := some (.int v)) (As := []) (rest := []) (sX7_lay e1) (ci := 7) (rfl : shp 1 = (7, 0)) (by decide) (by decide) rfl rfl tw_5_7 tw_1_1 tw_5_4 tw_5_5 tw_5_6 ⟨by decide, by decide, rfl⟩ ⟨nle rfl, nle rfl⟩ rfl (nle rfl) dL_law_1248 (lawF rfl rfl) rfl fun hw => ?_
  change RR _ _ _ zL _ _ _ _
  refine r_aload_n (pc := 1251) (j := 2) dL_law_1251 rfl rfl ?_
  refine r_callV (pc := 1252) (z := zL) (N := mX8_lay) (nn := 0) (n1 := NF) (σ1 := σ2) (o1 := some (.int v)) (As := []) (rest := [.int v]) (sX8_lay e2) (ci := 8) (rfl : shp 73 = (8, 0)) (by decide) (by decide) rfl rfl tw_7_182 tw_1_10 tw_7_179 tw_7_180 tw_7_181 ⟨by decide, by decide, rfl⟩ ⟨nle rfl, nle rfl⟩ rfl (nle rfl) dL_law_1252 (lawF rfl rfl) rfl fun hw => ?_
  change RR _ _ _ zL _ _ _ _
  refine r_icmp_eq (pc := 1255) (tgt := 1441) dL_law_1255 rfl (fun _ => ?_) (fun h => absurd rfl h)
  exact kk σ2 hR
def st36 (R : SS → Prop) (a : Nat → Int32) (σ : SS) : Prop := ∃ (v : Int32), (fX7_laid σ (a 1) (a 2)) = some v ∧ (fX8_laid σ (a 1) (a 2)) = some v ∧ R σ
set_option maxRecDepth 20000 in
theorem law_c36 {g : GG} {R : SS → Prop} {i : Nat} {σ : SS} (hi : i + 7 ≤ sl g) (hL : sl g ≤ 3584) (h : st36 R (fun j => xs g (i + j)) σ) (kk : ∀ σ', R σ' → RR g mL (FL g) zL 1441 [(0, .ref (ad g 1030)), (1, .ref (ad g 1)), (2, .ref (ad g 73)), (3, .int (nI i))] [] σ') : RR g mL (FL g) zL 1260 [(0, .ref (ad g 1030)), (1, .ref (ad g 1)), (2, .ref (ad g 73)), (3, .int (nI i))] [] σ := by
  obtain ⟨v, e1, e2, hR⟩ := h
  refine r_aload_n (pc := 1260) (j := 1) dL_law_1260 rfl rfl ?_
  refine r_aload_n (pc := 1261) (j := 0) dL_law_1261 rfl rfl ?_
  refine r_iload_n (pc := 1262) (j := 3) dL_law_1262 rfl rfl ?_
  refine r_iconst (pc := 1263) (v := (1 : Int32)) dL_law_1263 rfl ?_
  refine r_iadd (pc := 1264) dL_law_1264 ?_
  refine r_scr (pc := 1265) (i := i) (j := 1) (nI_add i 1) ⟨by omega, hL⟩ dL_law_1265 ?_
  refine r_aload_n (pc := 1266) (j := 0) dL_law_1266 rfl rfl ?_
  refine r_iload_n (pc := 1267) (j := 3) dL_law_1267 rfl rfl ?_
  refine r_iconst (pc := 1268) (v := (2 : Int32)) dL_law_1268 rfl ?_
  refine r_iadd (pc := 1269) dL_law_1269 ?_
  refine r_scr (pc := 1270) (i := i) (j := 2) (nI_add i 2) ⟨by omega, hL⟩ dL_law_1270 ?_
  refine r_callV (pc := 1271) (z := zL) (N := mX7_laid) (nn := 2) (n1 := NF) (σ1 := σ) (o1 := some (.int v)) (As := [.int (xs g (i + 1)), .int (xs g (i + 2))]) (rest := []) (sX7_laid e1) (ci := 7) (rfl : shp 1 = (7, 0)) (by decide) (by decide) rfl rfl tw_5_16 tw_1_1 tw_5_13 tw_5_14 tw_5_15 ⟨by decide, by decide, rfl⟩ ⟨nle rfl, nle rfl⟩ rfl (nle rfl) dL_law_1271 (lawF rfl rfl) rfl fun hw => ?_
  change RR _ _ _ zL _ _ _ _
  refine r_aload_n (pc := 1274) (j := 2) dL_law_1274 rfl rfl ?_
  refine r_aload_n (pc := 1275) (j := 0) dL_law_1275 rfl rfl ?_
  refine r_iload_n (pc := 1276) (j := 3) dL_law_1276 rfl rfl ?_
  refine r_iconst (pc := 1277) (v := (1 : Int32)) dL_law_1277 rfl ?_
  refine r_iadd (pc := 1278) dL_law_1278 ?_
  refine r_scr (pc := 1279) (i := i) (j := 1) (nI_add i 1) ⟨by omega, hL⟩ dL_law_1279 ?_
  refine r_aload_n (pc := 1280) (j := 0) dL_law_1280 rfl rfl ?_
  refine r_iload_n (pc := 1281) (j := 3) dL_law_1281 rfl rfl ?_
  refine r_iconst (pc := 1282) (v := (2 : Int32)) dL_law_1282 rfl ?_
  refine r_iadd (pc := 1283) dL_law_1283 ?_
  refine r_scr (pc := 1284) (i := i) (j := 2) (nI_add i 2) ⟨by omega, hL⟩ dL_law_1284 ?_
  refine r_callV (pc := 1285) (z := zL) (N := mX8_laid) (nn := 2) (n1 := NF) (σ1 := σ) (o1 := some (.int v)) (As := [.int (xs g (i + 1)), .int (xs g (i + 2))]) (rest := [.int v]) (sX8_laid e2) (ci := 8) (rfl : shp 73 = (8, 0)) (by decide) (by decide) rfl rfl tw_7_186 tw_1_10 tw_7_183 tw_7_184 tw_7_185 ⟨by decide, by decide, rfl⟩ ⟨nle rfl, nle rfl⟩ rfl (nle rfl) dL_law_1285 (lawF rfl rfl) rfl fun hw => ?_
  change RR _ _ _ zL _ _ _ _
  refine r_icmp_eq (pc := 1288) (tgt := 1441) dL_law_1288 rfl (fun _ => ?_) (fun h => absurd rfl h)
  exact kk σ hR
def st37 (R : SS → Prop) (a : Nat → Int32) (σ : SS) : Prop := ∃ (v : Int32), (fX7_chosen σ (a 1) (a 2)) = some v ∧ (fX8_chosen σ (a 1) (a 2)) = some v ∧ R σ
set_option maxRecDepth 20000 in
theorem law_c37 {g : GG} {R : SS → Prop} {i : Nat} {σ : SS} (hi : i + 7 ≤ sl g) (hL : sl g ≤ 3584) (h : st37 R (fun j => xs g (i + j)) σ) (kk : ∀ σ', R σ' → RR g mL (FL g) zL 1441 [(0, .ref (ad g 1030)), (1, .ref (ad g 1)), (2, .ref (ad g 73)), (3, .int (nI i))] [] σ') : RR g mL (FL g) zL 1293 [(0, .ref (ad g 1030)), (1, .ref (ad g 1)), (2, .ref (ad g 73)), (3, .int (nI i))] [] σ := by
  obtain ⟨v, e1, e2, hR⟩ := h
  refine r_aload_n (pc := 1293) (j := 1) dL_law_1293 rfl rfl ?_
  refine r_aload_n (pc := 1294) (j := 0) dL_law_1294 rfl rfl ?_
  refine r_iload_n (pc := 1295) (j := 3) dL_law_1295 rfl rfl ?_
  refine r_iconst (pc := 1296) (v := (1 : Int32)) dL_law_1296 rfl ?_
  refine r_iadd (pc := 1297) dL_law_1297 ?_
  refine r_scr (pc := 1298) (i := i) (j := 1) (nI_add i 1) ⟨by omega, hL⟩ dL_law_1298 ?_
  refine r_aload_n (pc := 1299) (j := 0) dL_law_1299 rfl rfl ?_
  refine r_iload_n (pc := 1300) (j := 3) dL_law_1300 rfl rfl ?_
  refine r_iconst (pc := 1301) (v := (2 : Int32)) dL_law_1301 rfl ?_
  refine r_iadd (pc := 1302) dL_law_1302 ?_
  refine r_scr (pc := 1303) (i := i) (j := 2) (nI_add i 2) ⟨by omega, hL⟩ dL_law_1303 ?_
  refine r_callV (pc := 1304) (z := zL) (N := mX7_chosen) (nn := 2) (n1 := NF) (σ1 := σ) (o1 := some (.int v)) (As := [.int (xs g (i + 1)), .int (xs g (i + 2))]) (rest := []) (sX7_chosen e1) (ci := 7) (rfl : shp 1 = (7, 0)) (by decide) (by decide) rfl rfl tw_5_32 tw_1_1 tw_5_29 tw_5_30 tw_5_31 ⟨by decide, by decide, rfl⟩ ⟨nle rfl, nle rfl⟩ rfl (nle rfl) dL_law_1304 (lawF rfl rfl) rfl fun hw => ?_
  change RR _ _ _ zL _ _ _ _
  refine r_aload_n (pc := 1307) (j := 2) dL_law_1307 rfl rfl ?_
  refine r_aload_n (pc := 1308) (j := 0) dL_law_1308 rfl rfl ?_
  refine r_iload_n (pc := 1309) (j := 3) dL_law_1309 rfl rfl ?_
  refine r_iconst (pc := 1310) (v := (1 : Int32)) dL_law_1310 rfl ?_
  refine r_iadd (pc := 1311) dL_law_1311 ?_
  refine r_scr (pc := 1312) (i := i) (j := 1) (nI_add i 1) ⟨by omega, hL⟩ dL_law_1312 ?_
  refine r_aload_n (pc := 1313) (j := 0) dL_law_1313 rfl rfl ?_
  refine r_iload_n (pc := 1314) (j := 3) dL_law_1314 rfl rfl ?_
  refine r_iconst (pc := 1315) (v := (2 : Int32)) dL_law_1315 rfl ?_
  refine r_iadd (pc := 1316) dL_law_1316 ?_
  refine r_scr (pc := 1317) (i := i) (j := 2) (nI_add i 2) ⟨by omega, hL⟩ dL_law_1317 ?_
  refine r_callV (pc := 1318) (z := zL) (N := mX8_chosen) (nn := 2) (n1 := NF) (σ1 := σ) (o1 := some (.int v)) (As := [.int (xs g (i + 1)), .int (xs g (i + 2))]) (rest := [.int v]) (sX8_chosen e2) (ci := 8) (rfl : shp 73 = (8, 0)) (by decide) (by decide) rfl rfl tw_7_190 tw_1_10 tw_7_187 tw_7_188 tw_7_189 ⟨by decide, by decide, rfl⟩ ⟨nle rfl, nle rfl⟩ rfl (nle rfl) dL_law_1318 (lawF rfl rfl) rfl fun hw => ?_
  change RR _ _ _ zL _ _ _ _
  refine r_icmp_eq (pc := 1321) (tgt := 1441) dL_law_1321 rfl (fun _ => ?_) (fun h => absurd rfl h)
  exact kk σ hR
def st38 (R : SS → Prop) (a : Nat → Int32) (σ : SS) : Prop := ∃ (v : Int32), (fX7_copied σ (a 1) (a 2)) = some v ∧ (fX8_copied σ (a 1) (a 2)) = some v ∧ R σ
set_option maxRecDepth 20000 in
theorem law_c38 {g : GG} {R : SS → Prop} {i : Nat} {σ : SS} (hi : i + 7 ≤ sl g) (hL : sl g ≤ 3584) (h : st38 R (fun j => xs g (i + j)) σ) (kk : ∀ σ', R σ' → RR g mL (FL g) zL 1441 [(0, .ref (ad g 1030)), (1, .ref (ad g 1)), (2, .ref (ad g 73)), (3, .int (nI i))] [] σ') : RR g mL (FL g) zL 1326 [(0, .ref (ad g 1030)), (1, .ref (ad g 1)), (2, .ref (ad g 73)), (3, .int (nI i))] [] σ := by
  obtain ⟨v, e1, e2, hR⟩ := h
  refine r_aload_n (pc := 1326) (j := 1) dL_law_1326 rfl rfl ?_
  refine r_aload_n (pc := 1327) (j := 0) dL_law_1327 rfl rfl ?_
  refine r_iload_n (pc := 1328) (j := 3) dL_law_1328 rfl rfl ?_
  refine r_iconst (pc := 1329) (v := (1 : Int32)) dL_law_1329 rfl ?_
  refine r_iadd (pc := 1330) dL_law_1330 ?_
  refine r_scr (pc := 1331) (i := i) (j := 1) (nI_add i 1) ⟨by omega, hL⟩ dL_law_1331 ?_
  refine r_aload_n (pc := 1332) (j := 0) dL_law_1332 rfl rfl ?_
  refine r_iload_n (pc := 1333) (j := 3) dL_law_1333 rfl rfl ?_
  refine r_iconst (pc := 1334) (v := (2 : Int32)) dL_law_1334 rfl ?_
  refine r_iadd (pc := 1335) dL_law_1335 ?_
  refine r_scr (pc := 1336) (i := i) (j := 2) (nI_add i 2) ⟨by omega, hL⟩ dL_law_1336 ?_
  refine r_callV (pc := 1337) (z := zL) (N := mX7_copied) (nn := 2) (n1 := NF) (σ1 := σ) (o1 := some (.int v)) (As := [.int (xs g (i + 1)), .int (xs g (i + 2))]) (rest := []) (sX7_copied e1) (ci := 7) (rfl : shp 1 = (7, 0)) (by decide) (by decide) rfl rfl tw_5_49 tw_1_1 tw_5_46 tw_5_47 tw_5_48 ⟨by decide, by decide, rfl⟩ ⟨nle rfl, nle rfl⟩ rfl (nle rfl) dL_law_1337 (lawF rfl rfl) rfl fun hw => ?_
  change RR _ _ _ zL _ _ _ _
  refine r_aload_n (pc := 1340) (j := 2) dL_law_1340 rfl rfl ?_
  refine r_aload_n (pc := 1341) (j := 0) dL_law_1341 rfl rfl ?_
  refine r_iload_n (pc := 1342) (j := 3) dL_law_1342 rfl rfl ?_
  refine r_iconst (pc := 1343) (v := (1 : Int32)) dL_law_1343 rfl ?_
  refine r_iadd (pc := 1344) dL_law_1344 ?_
  refine r_scr (pc := 1345) (i := i) (j := 1) (nI_add i 1) ⟨by omega, hL⟩ dL_law_1345 ?_
  refine r_aload_n (pc := 1346) (j := 0) dL_law_1346 rfl rfl ?_
  refine r_iload_n (pc := 1347) (j := 3) dL_law_1347 rfl rfl ?_
  refine r_iconst (pc := 1348) (v := (2 : Int32)) dL_law_1348 rfl ?_
  refine r_iadd (pc := 1349) dL_law_1349 ?_
  refine r_scr (pc := 1350) (i := i) (j := 2) (nI_add i 2) ⟨by omega, hL⟩ dL_law_1350 ?_
  refine r_callV (pc := 1351) (z := zL) (N := mX8_copied) (nn := 2) (n1 := NF) (σ1 := σ) (o1 := some (.int v)) (As := [.int (xs g (i + 1)), .int (xs g (i + 2))]) (rest := [.int v]) (sX8_copied e2) (ci := 8) (rfl : shp 73 = (8, 0)) (by decide) (by decide) rfl rfl tw_7_198 tw_1_10 tw_7_195 tw_7_196 tw_7_197 ⟨by decide, by decide, rfl⟩ ⟨nle rfl, nle rfl⟩ rfl (nle rfl) dL_law_1351 (lawF rfl rfl) rfl fun hw => ?_
  change RR _ _ _ zL _ _ _ _
  refine r_icmp_eq (pc := 1354) (tgt := 1441) dL_law_1354 rfl (fun _ => ?_) (fun h => absurd rfl h)
  exact kk σ hR
def st39 (R : SS → Prop) (a : Nat → Int32) (σ : SS) : Prop := ∃ (v : Int32) (σ1 : SS) (σ2 : SS), (fX7_telling σ (a 1)) = some (v, σ1) ∧ (fX8_telling σ1 (a 1)) = some (v, σ2) ∧ R σ2
set_option maxRecDepth 20000 in
theorem law_c39 {g : GG} {R : SS → Prop} {i : Nat} {σ : SS} (hi : i + 7 ≤ sl g) (hL : sl g ≤ 3584) (h : st39 R (fun j => xs g (i + j)) σ) (kk : ∀ σ', R σ' → RR g mL (FL g) zL 1441 [(0, .ref (ad g 1030)), (1, .ref (ad g 1)), (2, .ref (ad g 73)), (3, .int (nI i))] [] σ') : RR g mL (FL g) zL 1359 [(0, .ref (ad g 1030)), (1, .ref (ad g 1)), (2, .ref (ad g 73)), (3, .int (nI i))] [] σ := by
  obtain ⟨v, σ1, σ2, e1, e2, hR⟩ := h
  refine r_aload_n (pc := 1359) (j := 1) dL_law_1359 rfl rfl ?_
  refine r_aload_n (pc := 1360) (j := 0) dL_law_1360 rfl rfl ?_
  refine r_iload_n (pc := 1361) (j := 3) dL_law_1361 rfl rfl ?_
  refine r_iconst (pc := 1362) (v := (1 : Int32)) dL_law_1362 rfl ?_
  refine r_iadd (pc := 1363) dL_law_1363 ?_
  refine r_scr (pc := 1364) (i := i) (j := 1) (nI_add i 1) ⟨by omega, hL⟩ dL_law_1364 ?_
  refine r_callV (pc := 1365) (z := zL) (N := mX7_telling) (nn := 1) (n1 := NF) (σ1 := σ1) (o1 := some (.int v)) (As := [.int (xs g (i + 1))]) (rest := []) (sX7_telling e1) (ci := 7) (rfl : shp 1 = (7, 0)) (by decide) (by decide) rfl rfl tw_5_57 tw_1_1 tw_5_54 tw_5_55 tw_5_56 ⟨by decide, by decide, rfl⟩ ⟨nle rfl, nle rfl⟩ rfl (nle rfl) dL_law_1365 (lawF rfl rfl) rfl fun hw => ?_
  change RR _ _ _ zL _ _ _ _
  refine r_aload_n (pc := 1368) (j := 2) dL_law_1368 rfl rfl ?_
  refine r_aload_n (pc := 1369) (j := 0) dL_law_1369 rfl rfl ?_
  refine r_iload_n (pc := 1370) (j := 3) dL_law_1370 rfl rfl ?_
  refine r_iconst (pc := 1371) (v := (1 : Int32)) dL_law_1371 rfl ?_
  refine r_iadd (pc := 1372) dL_law_1372 ?_
  refine r_scr (pc := 1373) (i := i) (j := 1) (nI_add i 1) ⟨by omega, hL⟩ dL_law_1373 ?_
  refine r_callV (pc := 1374) (z := zL) (N := mX8_telling) (nn := 1) (n1 := NF) (σ1 := σ2) (o1 := some (.int v)) (As := [.int (xs g (i + 1))]) (rest := [.int v]) (sX8_telling e2) (ci := 8) (rfl : shp 73 = (8, 0)) (by decide) (by decide) rfl rfl tw_7_206 tw_1_10 tw_7_203 tw_7_204 tw_7_205 ⟨by decide, by decide, rfl⟩ ⟨nle rfl, nle rfl⟩ rfl (nle rfl) dL_law_1374 (lawF rfl rfl) rfl fun hw => ?_
  change RR _ _ _ zL _ _ _ _
  refine r_icmp_eq (pc := 1377) (tgt := 1441) dL_law_1377 rfl (fun _ => ?_) (fun h => absurd rfl h)
  exact kk σ2 hR
def st40 (R : SS → Prop) (a : Nat → Int32) (σ : SS) : Prop := ∃ (v : Int32) (σ1 : SS) (σ2 : SS), (fX7_points σ (a 1)) = some (v, σ1) ∧ (fX8_points σ1 (a 1)) = some (v, σ2) ∧ R σ2
set_option maxRecDepth 20000 in
theorem law_c40 {g : GG} {R : SS → Prop} {i : Nat} {σ : SS} (hi : i + 7 ≤ sl g) (hL : sl g ≤ 3584) (h : st40 R (fun j => xs g (i + j)) σ) (kk : ∀ σ', R σ' → RR g mL (FL g) zL 1441 [(0, .ref (ad g 1030)), (1, .ref (ad g 1)), (2, .ref (ad g 73)), (3, .int (nI i))] [] σ') : RR g mL (FL g) zL 1382 [(0, .ref (ad g 1030)), (1, .ref (ad g 1)), (2, .ref (ad g 73)), (3, .int (nI i))] [] σ := by
  obtain ⟨v, σ1, σ2, e1, e2, hR⟩ := h
  refine r_aload_n (pc := 1382) (j := 1) dL_law_1382 rfl rfl ?_
  refine r_aload_n (pc := 1383) (j := 0) dL_law_1383 rfl rfl ?_
  refine r_iload_n (pc := 1384) (j := 3) dL_law_1384 rfl rfl ?_
  refine r_iconst (pc := 1385) (v := (1 : Int32)) dL_law_1385 rfl ?_
  refine r_iadd (pc := 1386) dL_law_1386 ?_
  refine r_scr (pc := 1387) (i := i) (j := 1) (nI_add i 1) ⟨by omega, hL⟩ dL_law_1387 ?_
  refine r_callV (pc := 1388) (z := zL) (N := mX7_points) (nn := 1) (n1 := NF) (σ1 := σ1) (o1 := some (.int v)) (As := [.int (xs g (i + 1))]) (rest := []) (sX7_points e1) (ci := 7) (rfl : shp 1 = (7, 0)) (by decide) (by decide) rfl rfl tw_5_69 tw_1_1 tw_5_66 tw_5_67 tw_5_68 ⟨by decide, by decide, rfl⟩ ⟨nle rfl, nle rfl⟩ rfl (nle rfl) dL_law_1388 (lawF rfl rfl) rfl fun hw => ?_
  change RR _ _ _ zL _ _ _ _
  refine r_aload_n (pc := 1391) (j := 2) dL_law_1391 rfl rfl ?_
  refine r_aload_n (pc := 1392) (j := 0) dL_law_1392 rfl rfl ?_
  refine r_iload_n (pc := 1393) (j := 3) dL_law_1393 rfl rfl ?_
  refine r_iconst (pc := 1394) (v := (1 : Int32)) dL_law_1394 rfl ?_
  refine r_iadd (pc := 1395) dL_law_1395 ?_
  refine r_scr (pc := 1396) (i := i) (j := 1) (nI_add i 1) ⟨by omega, hL⟩ dL_law_1396 ?_
  refine r_callV (pc := 1397) (z := zL) (N := mX8_points) (nn := 1) (n1 := NF) (σ1 := σ2) (o1 := some (.int v)) (As := [.int (xs g (i + 1))]) (rest := [.int v]) (sX8_points e2) (ci := 8) (rfl : shp 73 = (8, 0)) (by decide) (by decide) rfl rfl tw_7_214 tw_1_10 tw_7_211 tw_7_212 tw_7_213 ⟨by decide, by decide, rfl⟩ ⟨nle rfl, nle rfl⟩ rfl (nle rfl) dL_law_1397 (lawF rfl rfl) rfl fun hw => ?_
  change RR _ _ _ zL _ _ _ _
  refine r_icmp_eq (pc := 1400) (tgt := 1441) dL_law_1400 rfl (fun _ => ?_) (fun h => absurd rfl h)
  exact kk σ2 hR
def st41 (R : SS → Prop) (a : Nat → Int32) (σ : SS) : Prop := ∃ (v : Int32) (σ1 : SS) (σ2 : SS), (fX7_take σ (a 1)) = some (v, σ1) ∧ (fX8_take σ1 (a 1)) = some (v, σ2) ∧ R σ2
set_option maxRecDepth 20000 in
theorem law_c41 {g : GG} {R : SS → Prop} {i : Nat} {σ : SS} (hi : i + 7 ≤ sl g) (hL : sl g ≤ 3584) (h : st41 R (fun j => xs g (i + j)) σ) (kk : ∀ σ', R σ' → RR g mL (FL g) zL 1441 [(0, .ref (ad g 1030)), (1, .ref (ad g 1)), (2, .ref (ad g 73)), (3, .int (nI i))] [] σ') : RR g mL (FL g) zL 1405 [(0, .ref (ad g 1030)), (1, .ref (ad g 1)), (2, .ref (ad g 73)), (3, .int (nI i))] [] σ := by
  obtain ⟨v, σ1, σ2, e1, e2, hR⟩ := h
  refine r_aload_n (pc := 1405) (j := 1) dL_law_1405 rfl rfl ?_
  refine r_aload_n (pc := 1406) (j := 0) dL_law_1406 rfl rfl ?_
  refine r_iload_n (pc := 1407) (j := 3) dL_law_1407 rfl rfl ?_
  refine r_iconst (pc := 1408) (v := (1 : Int32)) dL_law_1408 rfl ?_
  refine r_iadd (pc := 1409) dL_law_1409 ?_
  refine r_scr (pc := 1410) (i := i) (j := 1) (nI_add i 1) ⟨by omega, hL⟩ dL_law_1410 ?_
  refine r_callV (pc := 1411) (z := zL) (N := mX7_take) (nn := 1) (n1 := NF) (σ1 := σ1) (o1 := some (.int v)) (As := [.int (xs g (i + 1))]) (rest := []) (sX7_take e1) (ci := 7) (rfl : shp 1 = (7, 0)) (by decide) (by decide) rfl rfl tw_5_78 tw_1_1 tw_5_75 tw_5_76 tw_5_77 ⟨by decide, by decide, rfl⟩ ⟨nle rfl, nle rfl⟩ rfl (nle rfl) dL_law_1411 (lawF rfl rfl) rfl fun hw => ?_
  change RR _ _ _ zL _ _ _ _
  refine r_aload_n (pc := 1414) (j := 2) dL_law_1414 rfl rfl ?_
  refine r_aload_n (pc := 1415) (j := 0) dL_law_1415 rfl rfl ?_
  refine r_iload_n (pc := 1416) (j := 3) dL_law_1416 rfl rfl ?_
  refine r_iconst (pc := 1417) (v := (1 : Int32)) dL_law_1417 rfl ?_
  refine r_iadd (pc := 1418) dL_law_1418 ?_
  refine r_scr (pc := 1419) (i := i) (j := 1) (nI_add i 1) ⟨by omega, hL⟩ dL_law_1419 ?_
  refine r_callV (pc := 1420) (z := zL) (N := mX8_take) (nn := 1) (n1 := NF) (σ1 := σ2) (o1 := some (.int v)) (As := [.int (xs g (i + 1))]) (rest := [.int v]) (sX8_take e2) (ci := 8) (rfl : shp 73 = (8, 0)) (by decide) (by decide) rfl rfl tw_7_218 tw_1_10 tw_7_215 tw_7_216 tw_7_217 ⟨by decide, by decide, rfl⟩ ⟨nle rfl, nle rfl⟩ rfl (nle rfl) dL_law_1420 (lawF rfl rfl) rfl fun hw => ?_
  change RR _ _ _ zL _ _ _ _
  refine r_icmp_eq (pc := 1423) (tgt := 1441) dL_law_1423 rfl (fun _ => ?_) (fun h => absurd rfl h)
  exact kk σ2 hR
def st42 (R : SS → Prop) (a : Nat → Int32) (σ : SS) : Prop := ∃ (v : Int32), (fX7_level σ) = some v ∧ (fX8_level σ) = some v ∧ R σ
set_option maxRecDepth 20000 in
theorem law_c42 {g : GG} {R : SS → Prop} {i : Nat} {σ : SS} (hi : i + 7 ≤ sl g) (hL : sl g ≤ 3584) (h : st42 R (fun j => xs g (i + j)) σ) (kk : ∀ σ', R σ' → RR g mL (FL g) zL 1441 [(0, .ref (ad g 1030)), (1, .ref (ad g 1)), (2, .ref (ad g 73)), (3, .int (nI i))] [] σ') : RR g mL (FL g) zL 1428 [(0, .ref (ad g 1030)), (1, .ref (ad g 1)), (2, .ref (ad g 73)), (3, .int (nI i))] [] σ := by
  obtain ⟨v, e1, e2, hR⟩ := h
  refine r_aload_n (pc := 1428) (j := 1) dL_law_1428 rfl rfl ?_
  refine r_callV (pc := 1429) (z := zL) (N := mX7_level) (nn := 0) (n1 := NF) (σ1 := σ) (o1 := some (.int v)) (As := []) (rest := []) (sX7_level e1) (ci := 7) (rfl : shp 1 = (7, 0)) (by decide) (by decide) rfl rfl tw_5_86 tw_1_1 tw_5_83 tw_5_84 tw_5_85 ⟨by decide, by decide, rfl⟩ ⟨nle rfl, nle rfl⟩ rfl (nle rfl) dL_law_1429 (lawF rfl rfl) rfl fun hw => ?_
  change RR _ _ _ zL _ _ _ _
  refine r_aload_n (pc := 1432) (j := 2) dL_law_1432 rfl rfl ?_
  refine r_callV (pc := 1433) (z := zL) (N := mX8_level) (nn := 0) (n1 := NF) (σ1 := σ) (o1 := some (.int v)) (As := []) (rest := [.int v]) (sX8_level e2) (ci := 8) (rfl : shp 73 = (8, 0)) (by decide) (by decide) rfl rfl tw_7_222 tw_1_10 tw_7_219 tw_7_220 tw_7_221 ⟨by decide, by decide, rfl⟩ ⟨nle rfl, nle rfl⟩ rfl (nle rfl) dL_law_1433 (lawF rfl rfl) rfl fun hw => ?_
  change RR _ _ _ zL _ _ _ _
  refine r_icmp_eq (pc := 1436) (tgt := 1441) dL_law_1436 rfl (fun _ => ?_) (fun h => absurd rfl h)
  exact kk σ hR
theorem nI_toS {n : Nat} (h : n ≤ 3584) : (nI n - 7).toInt = (n : Int) - 7 := by
  rw [Int32.toInt_sub, nI_toInt (by omega), show ((7 : Int32)).toInt = 7 from rfl]
  apply Int.bmod_eq_of_le <;> omega
set_option maxHeartbeats 4000000 in
set_option maxRecDepth 20000 in
theorem law_sw {g : GG} {R : SS → Prop} (h0 : ∀ a σ, R σ → st0 R a σ) (h1 : ∀ a σ, R σ → st1 R a σ) (h2 : ∀ a σ, R σ → st2 R a σ) (h3 : ∀ a σ, R σ → st3 R a σ) (h4 : ∀ a σ, R σ → st4 R a σ) (h5 : ∀ a σ, R σ → st5 R a σ) (h6 : ∀ a σ, R σ → st6 R a σ) (h7 : ∀ a σ, R σ → st7 R a σ) (h8 : ∀ a σ, R σ → st8 R a σ) (h9 : ∀ a σ, R σ → st9 R a σ) (h10 : ∀ a σ, R σ → st10 R a σ) (h11 : ∀ a σ, R σ → st11 R a σ) (h12 : ∀ a σ, R σ → st12 R a σ) (h13 : ∀ a σ, R σ → st13 R a σ) (h14 : ∀ a σ, R σ → st14 R a σ) (h15 : ∀ a σ, R σ → st15 R a σ) (h16 : ∀ a σ, R σ → st16 R a σ) (h17 : ∀ a σ, R σ → st17 R a σ) (h18 : ∀ a σ, R σ → st18 R a σ) (h19 : ∀ a σ, R σ → st19 R a σ) (h20 : ∀ a σ, R σ → st20 R a σ) (h21 : ∀ a σ, R σ → st21 R a σ) (h22 : ∀ a σ, R σ → st22 R a σ) (h23 : ∀ a σ, R σ → st23 R a σ) (h24 : ∀ a σ, R σ → st24 R a σ) (h25 : ∀ a σ, R σ → st25 R a σ) (h26 : ∀ a σ, R σ → st26 R a σ) (h27 : ∀ a σ, R σ → st27 R a σ) (h28 : ∀ a σ, R σ → st28 R a σ) (h29 : ∀ a σ, R σ → st29 R a σ) (h30 : ∀ a σ, R σ → st30 R a σ) (h31 : ∀ a σ, R σ → st31 R a σ) (h32 : ∀ a σ, R σ → st32 R a σ) (h33 : ∀ a σ, R σ → st33 R a σ) (h34 : ∀ a σ, R σ → st34 R a σ) (h35 : ∀ a σ, R σ → st35 R a σ) (h36 : ∀ a σ, R σ → st36 R a σ) (h37 : ∀ a σ, R σ → st37 R a σ) (h38 : ∀ a σ, R σ → st38 R a σ) (h39 : ∀ a σ, R σ → st39 R a σ) (h40 : ∀ a σ, R σ → st40 R a σ) (h41 : ∀ a σ, R σ → st41 R a σ) (h42 : ∀ a σ, R σ → st42 R a σ) {i : Nat} {σ : SS} (hi : i + 7 ≤ sl g) (hL : sl g ≤ 3584) (hR : R σ) (kk : ∀ σ', R σ' → RR g mL (FL g) zL 1441 [(0, .ref (ad g 1030)), (1, .ref (ad g 1)), (2, .ref (ad g 73)), (3, .int (nI i))] [] σ') : RR g mL (FL g) zL 27 [(0, .ref (ad g 1030)), (1, .ref (ad g 1)), (2, .ref (ad g 73)), (3, .int (nI i))] [] σ := by
  refine r_aload_n (pc := 27) (j := 0) dL_law_27 rfl rfl ?_
  refine r_iload_n (pc := 28) (j := 3) dL_law_28 rfl rfl ?_
  refine r_scr (pc := 29) (i := i) (j := 0) rfl ⟨by omega, hL⟩ dL_law_29 ?_
  refine r_bipush (pc := 30) (v := (63 : Int32)) dL_law_30 rfl ?_
  refine r_iand (pc := 32) dL_law_32 ?_
  generalize xs g (i + 0) &&& (63 : Int32) = x
  by_cases q0 : x = (0 : Int32)
  · exact r_tabIn (pc := 33) (off := 187) (tgt := 220) dL_law_33 (by rw [q0]; decide) (by rw [q0]; decide) (by rw [q0]; rfl) rfl (law_c0 hi hL (h0 _ _ hR) kk)
  by_cases q1 : x = (1 : Int32)
  · exact r_tabIn (pc := 33) (off := 250) (tgt := 283) dL_law_33 (by rw [q1]; decide) (by rw [q1]; decide) (by rw [q1]; rfl) rfl (law_c1 hi hL (h1 _ _ hR) kk)
  by_cases q2 : x = (2 : Int32)
  · exact r_tabIn (pc := 33) (off := 273) (tgt := 306) dL_law_33 (by rw [q2]; decide) (by rw [q2]; decide) (by rw [q2]; rfl) rfl (law_c2 hi hL (h2 _ _ hR) kk)
  by_cases q3 : x = (3 : Int32)
  · exact r_tabIn (pc := 33) (off := 296) (tgt := 329) dL_law_33 (by rw [q3]; decide) (by rw [q3]; decide) (by rw [q3]; rfl) rfl (law_c3 hi hL (h3 _ _ hR) kk)
  by_cases q4 : x = (4 : Int32)
  · exact r_tabIn (pc := 33) (off := 329) (tgt := 362) dL_law_33 (by rw [q4]; decide) (by rw [q4]; decide) (by rw [q4]; rfl) rfl (law_c4 hi hL (h4 _ _ hR) kk)
  by_cases q5 : x = (5 : Int32)
  · exact r_tabIn (pc := 33) (off := 362) (tgt := 395) dL_law_33 (by rw [q5]; decide) (by rw [q5]; decide) (by rw [q5]; rfl) rfl (law_c5 hi hL (h5 _ _ hR) kk)
  by_cases q6 : x = (6 : Int32)
  · exact r_tabIn (pc := 33) (off := 395) (tgt := 428) dL_law_33 (by rw [q6]; decide) (by rw [q6]; decide) (by rw [q6]; rfl) rfl (law_c6 hi hL (h6 _ _ hR) kk)
  by_cases q7 : x = (7 : Int32)
  · exact r_tabIn (pc := 33) (off := 418) (tgt := 451) dL_law_33 (by rw [q7]; decide) (by rw [q7]; decide) (by rw [q7]; rfl) rfl (law_c7 hi hL (h7 _ _ hR) kk)
  by_cases q8 : x = (8 : Int32)
  · exact r_tabIn (pc := 33) (off := 481) (tgt := 514) dL_law_33 (by rw [q8]; decide) (by rw [q8]; decide) (by rw [q8]; rfl) rfl (law_c8 hi hL (h8 _ _ hR) kk)
  by_cases q9 : x = (9 : Int32)
  · exact r_tabIn (pc := 33) (off := 514) (tgt := 547) dL_law_33 (by rw [q9]; decide) (by rw [q9]; decide) (by rw [q9]; rfl) rfl (law_c9 hi hL (h9 _ _ hR) kk)
  by_cases q10 : x = (10 : Int32)
  · exact r_tabIn (pc := 33) (off := 537) (tgt := 570) dL_law_33 (by rw [q10]; decide) (by rw [q10]; decide) (by rw [q10]; rfl) rfl (law_c10 hi hL (h10 _ _ hR) kk)
  by_cases q11 : x = (11 : Int32)
  · exact r_tabIn (pc := 33) (off := 560) (tgt := 593) dL_law_33 (by rw [q11]; decide) (by rw [q11]; decide) (by rw [q11]; rfl) rfl (law_c11 hi hL (h11 _ _ hR) kk)
  by_cases q12 : x = (12 : Int32)
  · exact r_tabIn (pc := 33) (off := 583) (tgt := 616) dL_law_33 (by rw [q12]; decide) (by rw [q12]; decide) (by rw [q12]; rfl) rfl (law_c12 hi hL (h12 _ _ hR) kk)
  by_cases q13 : x = (13 : Int32)
  · exact r_tabIn (pc := 33) (off := 658) (tgt := 691) dL_law_33 (by rw [q13]; decide) (by rw [q13]; decide) (by rw [q13]; rfl) rfl (law_c13 hi hL (h13 _ _ hR) kk)
  by_cases q14 : x = (14 : Int32)
  · exact r_tabIn (pc := 33) (off := 691) (tgt := 724) dL_law_33 (by rw [q14]; decide) (by rw [q14]; decide) (by rw [q14]; rfl) rfl (law_c14 hi hL (h14 _ _ hR) kk)
  by_cases q15 : x = (15 : Int32)
  · exact r_tabIn (pc := 33) (off := 704) (tgt := 737) dL_law_33 (by rw [q15]; decide) (by rw [q15]; decide) (by rw [q15]; rfl) rfl (law_c15 hi hL (h15 _ _ hR) kk)
  by_cases q16 : x = (16 : Int32)
  · exact r_tabIn (pc := 33) (off := 717) (tgt := 750) dL_law_33 (by rw [q16]; decide) (by rw [q16]; decide) (by rw [q16]; rfl) rfl (law_c16 hi hL (h16 _ _ hR) kk)
  by_cases q17 : x = (17 : Int32)
  · exact r_tabIn (pc := 33) (off := 730) (tgt := 763) dL_law_33 (by rw [q17]; decide) (by rw [q17]; decide) (by rw [q17]; rfl) rfl (law_c17 hi hL (h17 _ _ hR) kk)
  by_cases q18 : x = (18 : Int32)
  · exact r_tabIn (pc := 33) (off := 753) (tgt := 786) dL_law_33 (by rw [q18]; decide) (by rw [q18]; decide) (by rw [q18]; rfl) rfl (law_c18 hi hL (h18 _ _ hR) kk)
  by_cases q19 : x = (19 : Int32)
  · exact r_tabIn (pc := 33) (off := 776) (tgt := 809) dL_law_33 (by rw [q19]; decide) (by rw [q19]; decide) (by rw [q19]; rfl) rfl (law_c19 hi hL (h19 _ _ hR) kk)
  by_cases q20 : x = (20 : Int32)
  · exact r_tabIn (pc := 33) (off := 809) (tgt := 842) dL_law_33 (by rw [q20]; decide) (by rw [q20]; decide) (by rw [q20]; rfl) rfl (law_c20 hi hL (h20 _ _ hR) kk)
  by_cases q21 : x = (21 : Int32)
  · exact r_tabIn (pc := 33) (off := 832) (tgt := 865) dL_law_33 (by rw [q21]; decide) (by rw [q21]; decide) (by rw [q21]; rfl) rfl (law_c21 hi hL (h21 _ _ hR) kk)
  by_cases q22 : x = (22 : Int32)
  · exact r_tabIn (pc := 33) (off := 845) (tgt := 878) dL_law_33 (by rw [q22]; decide) (by rw [q22]; decide) (by rw [q22]; rfl) rfl (law_c22 hi hL (h22 _ _ hR) kk)
  by_cases q23 : x = (23 : Int32)
  · exact r_tabIn (pc := 33) (off := 868) (tgt := 901) dL_law_33 (by rw [q23]; decide) (by rw [q23]; decide) (by rw [q23]; rfl) rfl (law_c23 hi hL (h23 _ _ hR) kk)
  by_cases q24 : x = (24 : Int32)
  · exact r_tabIn (pc := 33) (off := 911) (tgt := 944) dL_law_33 (by rw [q24]; decide) (by rw [q24]; decide) (by rw [q24]; rfl) rfl (law_c24 hi hL (h24 _ _ hR) kk)
  by_cases q25 : x = (25 : Int32)
  · exact r_tabIn (pc := 33) (off := 944) (tgt := 977) dL_law_33 (by rw [q25]; decide) (by rw [q25]; decide) (by rw [q25]; rfl) rfl (law_c25 hi hL (h25 _ _ hR) kk)
  by_cases q26 : x = (26 : Int32)
  · exact r_tabIn (pc := 33) (off := 977) (tgt := 1010) dL_law_33 (by rw [q26]; decide) (by rw [q26]; decide) (by rw [q26]; rfl) rfl (law_c26 hi hL (h26 _ _ hR) kk)
  by_cases q27 : x = (27 : Int32)
  · exact r_tabIn (pc := 33) (off := 1000) (tgt := 1033) dL_law_33 (by rw [q27]; decide) (by rw [q27]; decide) (by rw [q27]; rfl) rfl (law_c27 hi hL (h27 _ _ hR) kk)
  by_cases q28 : x = (28 : Int32)
  · exact r_tabIn (pc := 33) (off := 1033) (tgt := 1066) dL_law_33 (by rw [q28]; decide) (by rw [q28]; decide) (by rw [q28]; rfl) rfl (law_c28 hi hL (h28 _ _ hR) kk)
  by_cases q29 : x = (29 : Int32)
  · exact r_tabIn (pc := 33) (off := 1056) (tgt := 1089) dL_law_33 (by rw [q29]; decide) (by rw [q29]; decide) (by rw [q29]; rfl) rfl (law_c29 hi hL (h29 _ _ hR) kk)
  by_cases q30 : x = (30 : Int32)
  · exact r_tabIn (pc := 33) (off := 1089) (tgt := 1122) dL_law_33 (by rw [q30]; decide) (by rw [q30]; decide) (by rw [q30]; rfl) rfl (law_c30 hi hL (h30 _ _ hR) kk)
  by_cases q31 : x = (31 : Int32)
  · exact r_tabIn (pc := 33) (off := 1132) (tgt := 1165) dL_law_33 (by rw [q31]; decide) (by rw [q31]; decide) (by rw [q31]; rfl) rfl (law_c31 hi hL (h31 _ _ hR) kk)
  by_cases q32 : x = (32 : Int32)
  · exact r_tabIn (pc := 33) (off := 1165) (tgt := 1198) dL_law_33 (by rw [q32]; decide) (by rw [q32]; decide) (by rw [q32]; rfl) rfl (law_c32 hi hL (h32 _ _ hR) kk)
  by_cases q33 : x = (33 : Int32)
  · exact r_tabIn (pc := 33) (off := 1188) (tgt := 1221) dL_law_33 (by rw [q33]; decide) (by rw [q33]; decide) (by rw [q33]; rfl) rfl (law_c33 hi hL (h33 _ _ hR) kk)
  by_cases q34 : x = (34 : Int32)
  · exact r_tabIn (pc := 33) (off := 1201) (tgt := 1234) dL_law_33 (by rw [q34]; decide) (by rw [q34]; decide) (by rw [q34]; rfl) rfl (law_c34 hi hL (h34 _ _ hR) kk)
  by_cases q35 : x = (35 : Int32)
  · exact r_tabIn (pc := 33) (off := 1214) (tgt := 1247) dL_law_33 (by rw [q35]; decide) (by rw [q35]; decide) (by rw [q35]; rfl) rfl (law_c35 hi hL (h35 _ _ hR) kk)
  by_cases q36 : x = (36 : Int32)
  · exact r_tabIn (pc := 33) (off := 1227) (tgt := 1260) dL_law_33 (by rw [q36]; decide) (by rw [q36]; decide) (by rw [q36]; rfl) rfl (law_c36 hi hL (h36 _ _ hR) kk)
  by_cases q37 : x = (37 : Int32)
  · exact r_tabIn (pc := 33) (off := 1260) (tgt := 1293) dL_law_33 (by rw [q37]; decide) (by rw [q37]; decide) (by rw [q37]; rfl) rfl (law_c37 hi hL (h37 _ _ hR) kk)
  by_cases q38 : x = (38 : Int32)
  · exact r_tabIn (pc := 33) (off := 1293) (tgt := 1326) dL_law_33 (by rw [q38]; decide) (by rw [q38]; decide) (by rw [q38]; rfl) rfl (law_c38 hi hL (h38 _ _ hR) kk)
  by_cases q39 : x = (39 : Int32)
  · exact r_tabIn (pc := 33) (off := 1326) (tgt := 1359) dL_law_33 (by rw [q39]; decide) (by rw [q39]; decide) (by rw [q39]; rfl) rfl (law_c39 hi hL (h39 _ _ hR) kk)
  by_cases q40 : x = (40 : Int32)
  · exact r_tabIn (pc := 33) (off := 1349) (tgt := 1382) dL_law_33 (by rw [q40]; decide) (by rw [q40]; decide) (by rw [q40]; rfl) rfl (law_c40 hi hL (h40 _ _ hR) kk)
  by_cases q41 : x = (41 : Int32)
  · exact r_tabIn (pc := 33) (off := 1372) (tgt := 1405) dL_law_33 (by rw [q41]; decide) (by rw [q41]; decide) (by rw [q41]; rfl) rfl (law_c41 hi hL (h41 _ _ hR) kk)
  by_cases q42 : x = (42 : Int32)
  · exact r_tabIn (pc := 33) (off := 1395) (tgt := 1428) dL_law_33 (by rw [q42]; decide) (by rw [q42]; decide) (by rw [q42]; rfl) rfl (law_c42 hi hL (h42 _ _ hR) kk)
  refine r_tabOut (pc := 33) (tgt := 1441) dL_law_33 (tab_out (by decide) (by decide) fun k h1 h2 => ?_) rfl (kk _ hR)
  rcases (show k = 0 ∨ k = 1 ∨ k = 2 ∨ k = 3 ∨ k = 4 ∨ k = 5 ∨ k = 6 ∨ k = 7 ∨ k = 8 ∨ k = 9 ∨ k = 10 ∨ k = 11 ∨ k = 12 ∨ k = 13 ∨ k = 14 ∨ k = 15 ∨ k = 16 ∨ k = 17 ∨ k = 18 ∨ k = 19 ∨ k = 20 ∨ k = 21 ∨ k = 22 ∨ k = 23 ∨ k = 24 ∨ k = 25 ∨ k = 26 ∨ k = 27 ∨ k = 28 ∨ k = 29 ∨ k = 30 ∨ k = 31 ∨ k = 32 ∨ k = 33 ∨ k = 34 ∨ k = 35 ∨ k = 36 ∨ k = 37 ∨ k = 38 ∨ k = 39 ∨ k = 40 ∨ k = 41 ∨ k = 42 by omega) with rfl | rfl | rfl | rfl | rfl | rfl | rfl | rfl | rfl | rfl | rfl | rfl | rfl | rfl | rfl | rfl | rfl | rfl | rfl | rfl | rfl | rfl | rfl | rfl | rfl | rfl | rfl | rfl | rfl | rfl | rfl | rfl | rfl | rfl | rfl | rfl | rfl | rfl | rfl | rfl | rfl | rfl | rfl
  · exact q0
  · exact q1
  · exact q2
  · exact q3
  · exact q4
  · exact q5
  · exact q6
  · exact q7
  · exact q8
  · exact q9
  · exact q10
  · exact q11
  · exact q12
  · exact q13
  · exact q14
  · exact q15
  · exact q16
  · exact q17
  · exact q18
  · exact q19
  · exact q20
  · exact q21
  · exact q22
  · exact q23
  · exact q24
  · exact q25
  · exact q26
  · exact q27
  · exact q28
  · exact q29
  · exact q30
  · exact q31
  · exact q32
  · exact q33
  · exact q34
  · exact q35
  · exact q36
  · exact q37
  · exact q38
  · exact q39
  · exact q40
  · exact q41
  · exact q42
theorem law_lp {g : GG} {R : SS → Prop} (h0 : ∀ a σ, R σ → st0 R a σ) (h1 : ∀ a σ, R σ → st1 R a σ) (h2 : ∀ a σ, R σ → st2 R a σ) (h3 : ∀ a σ, R σ → st3 R a σ) (h4 : ∀ a σ, R σ → st4 R a σ) (h5 : ∀ a σ, R σ → st5 R a σ) (h6 : ∀ a σ, R σ → st6 R a σ) (h7 : ∀ a σ, R σ → st7 R a σ) (h8 : ∀ a σ, R σ → st8 R a σ) (h9 : ∀ a σ, R σ → st9 R a σ) (h10 : ∀ a σ, R σ → st10 R a σ) (h11 : ∀ a σ, R σ → st11 R a σ) (h12 : ∀ a σ, R σ → st12 R a σ) (h13 : ∀ a σ, R σ → st13 R a σ) (h14 : ∀ a σ, R σ → st14 R a σ) (h15 : ∀ a σ, R σ → st15 R a σ) (h16 : ∀ a σ, R σ → st16 R a σ) (h17 : ∀ a σ, R σ → st17 R a σ) (h18 : ∀ a σ, R σ → st18 R a σ) (h19 : ∀ a σ, R σ → st19 R a σ) (h20 : ∀ a σ, R σ → st20 R a σ) (h21 : ∀ a σ, R σ → st21 R a σ) (h22 : ∀ a σ, R σ → st22 R a σ) (h23 : ∀ a σ, R σ → st23 R a σ) (h24 : ∀ a σ, R σ → st24 R a σ) (h25 : ∀ a σ, R σ → st25 R a σ) (h26 : ∀ a σ, R σ → st26 R a σ) (h27 : ∀ a σ, R σ → st27 R a σ) (h28 : ∀ a σ, R σ → st28 R a σ) (h29 : ∀ a σ, R σ → st29 R a σ) (h30 : ∀ a σ, R σ → st30 R a σ) (h31 : ∀ a σ, R σ → st31 R a σ) (h32 : ∀ a σ, R σ → st32 R a σ) (h33 : ∀ a σ, R σ → st33 R a σ) (h34 : ∀ a σ, R σ → st34 R a σ) (h35 : ∀ a σ, R σ → st35 R a σ) (h36 : ∀ a σ, R σ → st36 R a σ) (h37 : ∀ a σ, R σ → st37 R a σ) (h38 : ∀ a σ, R σ → st38 R a σ) (h39 : ∀ a σ, R σ → st39 R a σ) (h40 : ∀ a σ, R σ → st40 R a σ) (h41 : ∀ a σ, R σ → st41 R a σ) (h42 : ∀ a σ, R σ → st42 R a σ) (hL : sl g ≤ 3584) : ∀ d i σ, i + 7 * d ≤ sl g → sl g < i + 7 * d + 7 → R σ → RR g mL (FL g) zL 18 [(0, .ref (ad g 1030)), (1, .ref (ad g 1)), (2, .ref (ad g 73)), (3, .int (nI i))] [] σ := by
  intro d
  induction d with
  | zero =>
    intro i σ q1 q2 hR
    refine r_iload_n (pc := 18) (j := 3) dL_law_18 rfl rfl ?_
    refine r_aload_n (pc := 19) (j := 0) dL_law_19 rfl rfl ?_
    refine r_scl (pc := 20) dL_law_20 ?_
    refine r_bipush (pc := 21) (v := (7 : Int32)) dL_law_21 rfl ?_
    refine r_isub (pc := 23) dL_law_23 ?_
    refine r_icmp_gt (pc := 24) (tgt := 1447) dL_law_24 rfl (fun _ => ?_) (fun h => absurd (Int32.lt_iff_toInt_lt.mpr (by rw [nI_toS hL, nI_toInt (by omega)]; omega)) h)
    refine r_iconst (pc := 1447) (v := (1 : Int32)) dL_law_1447 rfl ?_
    exact r_lend (pc := 1448) lawE dL_law_1448
  | succ d ih =>
    intro i σ q1 q2 hR
    refine r_iload_n (pc := 18) (j := 3) dL_law_18 rfl rfl ?_
    refine r_aload_n (pc := 19) (j := 0) dL_law_19 rfl rfl ?_
    refine r_scl (pc := 20) dL_law_20 ?_
    refine r_bipush (pc := 21) (v := (7 : Int32)) dL_law_21 rfl ?_
    refine r_isub (pc := 23) dL_law_23 ?_
    refine r_icmp_gt (pc := 24) (tgt := 1447) dL_law_24 rfl (fun h => absurd (Int32.lt_iff_toInt_lt.mp h) (by rw [nI_toS hL, nI_toInt (by omega)]; omega)) (fun _ => ?_)
    refine law_sw h0 h1 h2 h3 h4 h5 h6 h7 h8 h9 h10 h11 h12 h13 h14 h15 h16 h17 h18 h19 h20 h21 h22 h23 h24 h25 h26 h27 h28 h29 h30 h31 h32 h33 h34 h35 h36 h37 h38 h39 h40 h41 h42 (by omega) hL hR (fun σ' hR' => ?_)
    refine r_iinc (pc := 1441) (j := 3) (v := nI (i + 7)) (ls1 := [(3, .int (nI (i + 7))), (0, .ref (ad g 1030)), (1, .ref (ad g 1)), (2, .ref (ad g 73))]) dL_law_1441 rfl (nI_add i 7) (nle rfl) rfl ?_
    refine r_goto (pc := 1444) (tgt := 18) dL_law_1444 rfl ?_
    exact r_pick (ls1 := [(0, .ref (ad g 1030)), (1, .ref (ad g 1)), (2, .ref (ad g 73)), (3, .int (nI (i + 7)))]) [1, 2, 3, 0] rfl (ih (i + 7) σ' (by omega) (by omega) hR')
