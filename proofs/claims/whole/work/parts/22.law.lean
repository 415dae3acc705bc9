/-! THE CLAIM OUT OF ONE WALK OF THE LAW'S BODY. Your part is whole_start (and what it stands on); all else here is the same for every law, but numbers. -/
def R_law : String := "CurrentFarmsLaw"
def lw_P (b : Addr) (xs : List Int32) (args : Array Value) (s : State) : Prop := args = #[.ref b] ∧ s.IntsAt b xs ∧ xs.length ≤ 3072 ∧ (Jvm.Cond.and given_1 narrow_1).before args s = true
def lw_Q (_ : Array Value) (s : State) (o : Outcome) (t : State) : Prop := o = .returned (some (.int 1)) ∧ Framed s o t [] 600000 7302250
def lw_Z (below : List Frame) (a : Array Value) (s : State) : State → Prop := fun t => ∃ o, t.status = .running ∧ Ended t below o ∧ lw_Q a s o t
/-- the law's own end, with 1 on the stack, nothing written that was there before, its room as the claim has it -/
theorem lw_ret {p : Program} {l : Launch} {e : Env} {s : State} {m : MethodId} {below : List Frame} {meth : Method} {c : Code} {b : Nat} (hx : p.tables.exec = Jvm.exec) (hb : c.code = code) (hr : meth.sig.returnType = ret) (hlocks : meth.locks = false) {pc : Nat} {H : Heap} {ls : Array Slot} (hdg : decode code pc = .ok (.ireturn, 1)) : W p l e room_1 s m #[Value.ref b] below meth c H [] 600000 7302250 (lw_Z below #[Value.ref b] s) (F0 m pc ls [.int 1]) := by
  intro T hT X
  obtain ⟨fs, hret, hrun, hended, hW, hframe⟩ := X.leave (v := some (.int 1)) (hlocks := hlocks) (fun h => by rw [hr] at h; cases h)
  have hmeth' : T.vm.method? m = some meth := X.method'
  refine ⟨T.setFrames fs, ?_, .returned (some (.int 1)), hrun, hended, rfl, ⟨_, rfl⟩, hW, hframe⟩
  jvm_step X.here [X.here.top, hx, hb, hdg, hmeth', hr, ret, narrow_b1]
  (try refine ⟨rfl, ?_⟩); (try refine ⟨rfl, ?_⟩)
  first | (intro acts; rw [hret _ acts rfl rfl rfl]) | rw [hret _ _ rfl rfl rfl]
  exact Steps.refl _
/-- what holds at the law's entry: the machine, the code, the tables' words (any of lw_tbl by 'hts w (by decide +kernel)'), the script of L ints xs at the cell b, what the Statement gives of the start (any of its parts by flat_of_before) -/
def lw_At (p : Program) (s : State) (m : MethodId) (meth : Method) (c : Code) (b L : Nat) (xs : Nat → Int32) : Prop :=
  p.tables.exec = Jvm.exec ∧ c.code = code ∧ meth.sig.returnType = ret ∧ c.maxLocals = 4 ∧ s.vm.findClass R_law = some m.cls ∧ (∀ w ∈ lw_tbl, w.before #[Value.ref b] s = true) ∧ va_X b L xs s s.heap ∧ b < s.heap.size ∧ meth.locks = false ∧ (Jvm.Cond.and given_1 narrow_1).before #[Value.ref b] s = true
theorem nI_add6 (a : Nat) : nI a + nI 6 = nI (a + 6) := by
  unfold nI
  rw [Int32.ofNat_add]
theorem dL_law_0 : decode code 0 = .ok (.new 7, 3) := by decide +kernel
theorem dL_law_3 : decode code 3 = .ok (.dup, 1) := by decide +kernel
theorem dL_law_4 : decode code 4 = .ok (.invokespecial 9, 3) := by decide +kernel
theorem dL_law_7 : decode code 7 = .ok (.astore_n 1, 1) := by decide +kernel
theorem dL_law_8 : decode code 8 = .ok (.new 10, 3) := by decide +kernel
theorem dL_law_11 : decode code 11 = .ok (.dup, 1) := by decide +kernel
theorem dL_law_12 : decode code 12 = .ok (.invokespecial 12, 3) := by decide +kernel
theorem dL_law_15 : decode code 15 = .ok (.astore_n 2, 1) := by decide +kernel
theorem dL_law_16 : decode code 16 = .ok (.iconst 0, 1) := by decide +kernel
theorem dL_law_17 : decode code 17 = .ok (.istore_n 3, 1) := by decide +kernel
theorem dL_law_18 : decode code 18 = .ok (.iload_n 3, 1) := by decide +kernel
theorem dL_law_19 : decode code 19 = .ok (.aload_n 0, 1) := by decide +kernel
theorem dL_law_20 : decode code 20 = .ok (.arraylength, 1) := by decide +kernel
theorem dL_law_21 : decode code 21 = .ok (.bipush 6, 2) := by decide +kernel
theorem dL_law_23 : decode code 23 = .ok (.isub, 1) := by decide +kernel
theorem dL_law_24 : decode code 24 = .ok (.if_icmp .gt 1447, 3) := by decide +kernel
theorem dL_law_27 : decode code 27 = .ok (.aload_n 0, 1) := by decide +kernel
theorem dL_law_28 : decode code 28 = .ok (.iload_n 3, 1) := by decide +kernel
theorem dL_law_29 : decode code 29 = .ok (.iaload, 1) := by decide +kernel
theorem dL_law_30 : decode code 30 = .ok (.bipush 63, 2) := by decide +kernel
theorem dL_law_32 : decode code 32 = .ok (.iand, 1) := by decide +kernel
theorem dL_law_33 : decode code 33 = .ok (.tableswitch 1432 0 40 #[179, 222, 255, 278, 311, 334, 387, 410, 453, 496, 519, 582, 605, 658, 711, 744, 757, 780, 803, 826, 849, 862, 895, 918, 941, 964, 1007, 1040, 1073, 1116, 1149, 1212, 1235, 1248, 1281, 1304, 1317, 1360, 1383, 1396, 1409], 179) := by decide +kernel
theorem dL_law_212 : decode code 212 = .ok (.aload_n 1, 1) := by decide +kernel
theorem dL_law_213 : decode code 213 = .ok (.aload_n 0, 1) := by decide +kernel
theorem dL_law_214 : decode code 214 = .ok (.iload_n 3, 1) := by decide +kernel
theorem dL_law_215 : decode code 215 = .ok (.iconst 1, 1) := by decide +kernel
theorem dL_law_216 : decode code 216 = .ok (.iadd, 1) := by decide +kernel
theorem dL_law_217 : decode code 217 = .ok (.iaload, 1) := by decide +kernel
theorem dL_law_218 : decode code 218 = .ok (.aload_n 0, 1) := by decide +kernel
theorem dL_law_219 : decode code 219 = .ok (.iload_n 3, 1) := by decide +kernel
theorem dL_law_220 : decode code 220 = .ok (.iconst 2, 1) := by decide +kernel
theorem dL_law_221 : decode code 221 = .ok (.iadd, 1) := by decide +kernel
theorem dL_law_222 : decode code 222 = .ok (.iaload, 1) := by decide +kernel
theorem dL_law_223 : decode code 223 = .ok (.aload_n 0, 1) := by decide +kernel
theorem dL_law_224 : decode code 224 = .ok (.iload_n 3, 1) := by decide +kernel
theorem dL_law_225 : decode code 225 = .ok (.iconst 3, 1) := by decide +kernel
theorem dL_law_226 : decode code 226 = .ok (.iadd, 1) := by decide +kernel
theorem dL_law_227 : decode code 227 = .ok (.iaload, 1) := by decide +kernel
theorem dL_law_228 : decode code 228 = .ok (.invokevirtual 13, 3) := by decide +kernel
theorem dL_law_231 : decode code 231 = .ok (.aload_n 2, 1) := by decide +kernel
theorem dL_law_232 : decode code 232 = .ok (.aload_n 0, 1) := by decide +kernel
theorem dL_law_233 : decode code 233 = .ok (.iload_n 3, 1) := by decide +kernel
theorem dL_law_234 : decode code 234 = .ok (.iconst 1, 1) := by decide +kernel
theorem dL_law_235 : decode code 235 = .ok (.iadd, 1) := by decide +kernel
theorem dL_law_236 : decode code 236 = .ok (.iaload, 1) := by decide +kernel
theorem dL_law_237 : decode code 237 = .ok (.aload_n 0, 1) := by decide +kernel
theorem dL_law_238 : decode code 238 = .ok (.iload_n 3, 1) := by decide +kernel
theorem dL_law_239 : decode code 239 = .ok (.iconst 2, 1) := by decide +kernel
theorem dL_law_240 : decode code 240 = .ok (.iadd, 1) := by decide +kernel
theorem dL_law_241 : decode code 241 = .ok (.iaload, 1) := by decide +kernel
theorem dL_law_242 : decode code 242 = .ok (.aload_n 0, 1) := by decide +kernel
theorem dL_law_243 : decode code 243 = .ok (.iload_n 3, 1) := by decide +kernel
theorem dL_law_244 : decode code 244 = .ok (.iconst 3, 1) := by decide +kernel
theorem dL_law_245 : decode code 245 = .ok (.iadd, 1) := by decide +kernel
theorem dL_law_246 : decode code 246 = .ok (.iaload, 1) := by decide +kernel
theorem dL_law_247 : decode code 247 = .ok (.invokevirtual 17, 3) := by decide +kernel
theorem dL_law_250 : decode code 250 = .ok (.if_icmp .eq 1215, 3) := by decide +kernel
theorem dL_law_253 : decode code 253 = .ok (.iconst 0, 1) := by decide +kernel
theorem dL_law_254 : decode code 254 = .ok (.ireturn, 1) := by decide +kernel
theorem dL_law_255 : decode code 255 = .ok (.aload_n 1, 1) := by decide +kernel
theorem dL_law_256 : decode code 256 = .ok (.aload_n 0, 1) := by decide +kernel
theorem dL_law_257 : decode code 257 = .ok (.iload_n 3, 1) := by decide +kernel
theorem dL_law_258 : decode code 258 = .ok (.iconst 1, 1) := by decide +kernel
theorem dL_law_259 : decode code 259 = .ok (.iadd, 1) := by decide +kernel
theorem dL_law_260 : decode code 260 = .ok (.iaload, 1) := by decide +kernel
theorem dL_law_261 : decode code 261 = .ok (.aload_n 0, 1) := by decide +kernel
theorem dL_law_262 : decode code 262 = .ok (.iload_n 3, 1) := by decide +kernel
theorem dL_law_263 : decode code 263 = .ok (.iconst 2, 1) := by decide +kernel
theorem dL_law_264 : decode code 264 = .ok (.iadd, 1) := by decide +kernel
theorem dL_law_265 : decode code 265 = .ok (.iaload, 1) := by decide +kernel
theorem dL_law_266 : decode code 266 = .ok (.invokevirtual 18, 3) := by decide +kernel
theorem dL_law_269 : decode code 269 = .ok (.aload_n 2, 1) := by decide +kernel
theorem dL_law_270 : decode code 270 = .ok (.aload_n 0, 1) := by decide +kernel
theorem dL_law_271 : decode code 271 = .ok (.iload_n 3, 1) := by decide +kernel
theorem dL_law_272 : decode code 272 = .ok (.iconst 1, 1) := by decide +kernel
theorem dL_law_273 : decode code 273 = .ok (.iadd, 1) := by decide +kernel
theorem dL_law_274 : decode code 274 = .ok (.iaload, 1) := by decide +kernel
theorem dL_law_275 : decode code 275 = .ok (.aload_n 0, 1) := by decide +kernel
theorem dL_law_276 : decode code 276 = .ok (.iload_n 3, 1) := by decide +kernel
theorem dL_law_277 : decode code 277 = .ok (.iconst 2, 1) := by decide +kernel
theorem dL_law_278 : decode code 278 = .ok (.iadd, 1) := by decide +kernel
theorem dL_law_279 : decode code 279 = .ok (.iaload, 1) := by decide +kernel
theorem dL_law_280 : decode code 280 = .ok (.invokevirtual 22, 3) := by decide +kernel
theorem dL_law_283 : decode code 283 = .ok (.if_icmp .eq 1182, 3) := by decide +kernel
theorem dL_law_286 : decode code 286 = .ok (.iconst 0, 1) := by decide +kernel
theorem dL_law_287 : decode code 287 = .ok (.ireturn, 1) := by decide +kernel
theorem dL_law_288 : decode code 288 = .ok (.aload_n 1, 1) := by decide +kernel
theorem dL_law_289 : decode code 289 = .ok (.aload_n 0, 1) := by decide +kernel
theorem dL_law_290 : decode code 290 = .ok (.iload_n 3, 1) := by decide +kernel
theorem dL_law_291 : decode code 291 = .ok (.iconst 1, 1) := by decide +kernel
theorem dL_law_292 : decode code 292 = .ok (.iadd, 1) := by decide +kernel
theorem dL_law_293 : decode code 293 = .ok (.iaload, 1) := by decide +kernel
theorem dL_law_294 : decode code 294 = .ok (.invokevirtual 23, 3) := by decide +kernel
theorem dL_law_297 : decode code 297 = .ok (.aload_n 2, 1) := by decide +kernel
theorem dL_law_298 : decode code 298 = .ok (.aload_n 0, 1) := by decide +kernel
theorem dL_law_299 : decode code 299 = .ok (.iload_n 3, 1) := by decide +kernel
theorem dL_law_300 : decode code 300 = .ok (.iconst 1, 1) := by decide +kernel
theorem dL_law_301 : decode code 301 = .ok (.iadd, 1) := by decide +kernel
theorem dL_law_302 : decode code 302 = .ok (.iaload, 1) := by decide +kernel
theorem dL_law_303 : decode code 303 = .ok (.invokevirtual 27, 3) := by decide +kernel
theorem dL_law_306 : decode code 306 = .ok (.if_icmp .eq 1159, 3) := by decide +kernel
theorem dL_law_309 : decode code 309 = .ok (.iconst 0, 1) := by decide +kernel
theorem dL_law_310 : decode code 310 = .ok (.ireturn, 1) := by decide +kernel
theorem dL_law_311 : decode code 311 = .ok (.aload_n 1, 1) := by decide +kernel
theorem dL_law_312 : decode code 312 = .ok (.aload_n 0, 1) := by decide +kernel
theorem dL_law_313 : decode code 313 = .ok (.iload_n 3, 1) := by decide +kernel
theorem dL_law_314 : decode code 314 = .ok (.iconst 1, 1) := by decide +kernel
theorem dL_law_315 : decode code 315 = .ok (.iadd, 1) := by decide +kernel
theorem dL_law_316 : decode code 316 = .ok (.iaload, 1) := by decide +kernel
theorem dL_law_317 : decode code 317 = .ok (.aload_n 0, 1) := by decide +kernel
theorem dL_law_318 : decode code 318 = .ok (.iload_n 3, 1) := by decide +kernel
theorem dL_law_319 : decode code 319 = .ok (.iconst 2, 1) := by decide +kernel
theorem dL_law_320 : decode code 320 = .ok (.iadd, 1) := by decide +kernel
theorem dL_law_321 : decode code 321 = .ok (.iaload, 1) := by decide +kernel
theorem dL_law_322 : decode code 322 = .ok (.invokevirtual 28, 3) := by decide +kernel
theorem dL_law_325 : decode code 325 = .ok (.aload_n 2, 1) := by decide +kernel
theorem dL_law_326 : decode code 326 = .ok (.aload_n 0, 1) := by decide +kernel
theorem dL_law_327 : decode code 327 = .ok (.iload_n 3, 1) := by decide +kernel
theorem dL_law_328 : decode code 328 = .ok (.iconst 1, 1) := by decide +kernel
theorem dL_law_329 : decode code 329 = .ok (.iadd, 1) := by decide +kernel
theorem dL_law_330 : decode code 330 = .ok (.iaload, 1) := by decide +kernel
theorem dL_law_331 : decode code 331 = .ok (.aload_n 0, 1) := by decide +kernel
theorem dL_law_332 : decode code 332 = .ok (.iload_n 3, 1) := by decide +kernel
theorem dL_law_333 : decode code 333 = .ok (.iconst 2, 1) := by decide +kernel
theorem dL_law_334 : decode code 334 = .ok (.iadd, 1) := by decide +kernel
theorem dL_law_335 : decode code 335 = .ok (.iaload, 1) := by decide +kernel
theorem dL_law_336 : decode code 336 = .ok (.invokevirtual 31, 3) := by decide +kernel
theorem dL_law_339 : decode code 339 = .ok (.if_icmp .eq 1126, 3) := by decide +kernel
theorem dL_law_342 : decode code 342 = .ok (.iconst 0, 1) := by decide +kernel
theorem dL_law_343 : decode code 343 = .ok (.ireturn, 1) := by decide +kernel
theorem dL_law_344 : decode code 344 = .ok (.aload_n 1, 1) := by decide +kernel
theorem dL_law_345 : decode code 345 = .ok (.aload_n 0, 1) := by decide +kernel
theorem dL_law_346 : decode code 346 = .ok (.iload_n 3, 1) := by decide +kernel
theorem dL_law_347 : decode code 347 = .ok (.iconst 1, 1) := by decide +kernel
theorem dL_law_348 : decode code 348 = .ok (.iadd, 1) := by decide +kernel
theorem dL_law_349 : decode code 349 = .ok (.iaload, 1) := by decide +kernel
theorem dL_law_350 : decode code 350 = .ok (.invokevirtual 32, 3) := by decide +kernel
theorem dL_law_353 : decode code 353 = .ok (.aload_n 2, 1) := by decide +kernel
theorem dL_law_354 : decode code 354 = .ok (.aload_n 0, 1) := by decide +kernel
theorem dL_law_355 : decode code 355 = .ok (.iload_n 3, 1) := by decide +kernel
theorem dL_law_356 : decode code 356 = .ok (.iconst 1, 1) := by decide +kernel
theorem dL_law_357 : decode code 357 = .ok (.iadd, 1) := by decide +kernel
theorem dL_law_358 : decode code 358 = .ok (.iaload, 1) := by decide +kernel
theorem dL_law_359 : decode code 359 = .ok (.invokevirtual 35, 3) := by decide +kernel
theorem dL_law_362 : decode code 362 = .ok (.if_icmp .eq 1103, 3) := by decide +kernel
theorem dL_law_365 : decode code 365 = .ok (.iconst 0, 1) := by decide +kernel
theorem dL_law_366 : decode code 366 = .ok (.ireturn, 1) := by decide +kernel
theorem dL_law_367 : decode code 367 = .ok (.aload_n 1, 1) := by decide +kernel
theorem dL_law_368 : decode code 368 = .ok (.aload_n 0, 1) := by decide +kernel
theorem dL_law_369 : decode code 369 = .ok (.iload_n 3, 1) := by decide +kernel
theorem dL_law_370 : decode code 370 = .ok (.iconst 1, 1) := by decide +kernel
theorem dL_law_371 : decode code 371 = .ok (.iadd, 1) := by decide +kernel
theorem dL_law_372 : decode code 372 = .ok (.iaload, 1) := by decide +kernel
theorem dL_law_373 : decode code 373 = .ok (.aload_n 0, 1) := by decide +kernel
theorem dL_law_374 : decode code 374 = .ok (.iload_n 3, 1) := by decide +kernel
theorem dL_law_375 : decode code 375 = .ok (.iconst 2, 1) := by decide +kernel
theorem dL_law_376 : decode code 376 = .ok (.iadd, 1) := by decide +kernel
theorem dL_law_377 : decode code 377 = .ok (.iaload, 1) := by decide +kernel
theorem dL_law_378 : decode code 378 = .ok (.aload_n 0, 1) := by decide +kernel
theorem dL_law_379 : decode code 379 = .ok (.iload_n 3, 1) := by decide +kernel
theorem dL_law_380 : decode code 380 = .ok (.iconst 3, 1) := by decide +kernel
theorem dL_law_381 : decode code 381 = .ok (.iadd, 1) := by decide +kernel
theorem dL_law_382 : decode code 382 = .ok (.iaload, 1) := by decide +kernel
theorem dL_law_383 : decode code 383 = .ok (.aload_n 0, 1) := by decide +kernel
theorem dL_law_384 : decode code 384 = .ok (.iload_n 3, 1) := by decide +kernel
theorem dL_law_385 : decode code 385 = .ok (.iconst 4, 1) := by decide +kernel
theorem dL_law_386 : decode code 386 = .ok (.iadd, 1) := by decide +kernel
theorem dL_law_387 : decode code 387 = .ok (.iaload, 1) := by decide +kernel
theorem dL_law_388 : decode code 388 = .ok (.invokevirtual 36, 3) := by decide +kernel
theorem dL_law_391 : decode code 391 = .ok (.aload_n 2, 1) := by decide +kernel
theorem dL_law_392 : decode code 392 = .ok (.aload_n 0, 1) := by decide +kernel
theorem dL_law_393 : decode code 393 = .ok (.iload_n 3, 1) := by decide +kernel
theorem dL_law_394 : decode code 394 = .ok (.iconst 1, 1) := by decide +kernel
theorem dL_law_395 : decode code 395 = .ok (.iadd, 1) := by decide +kernel
theorem dL_law_396 : decode code 396 = .ok (.iaload, 1) := by decide +kernel
theorem dL_law_397 : decode code 397 = .ok (.aload_n 0, 1) := by decide +kernel
theorem dL_law_398 : decode code 398 = .ok (.iload_n 3, 1) := by decide +kernel
theorem dL_law_399 : decode code 399 = .ok (.iconst 2, 1) := by decide +kernel
theorem dL_law_400 : decode code 400 = .ok (.iadd, 1) := by decide +kernel
theorem dL_law_401 : decode code 401 = .ok (.iaload, 1) := by decide +kernel
theorem dL_law_402 : decode code 402 = .ok (.aload_n 0, 1) := by decide +kernel
theorem dL_law_403 : decode code 403 = .ok (.iload_n 3, 1) := by decide +kernel
theorem dL_law_404 : decode code 404 = .ok (.iconst 3, 1) := by decide +kernel
theorem dL_law_405 : decode code 405 = .ok (.iadd, 1) := by decide +kernel
theorem dL_law_406 : decode code 406 = .ok (.iaload, 1) := by decide +kernel
theorem dL_law_407 : decode code 407 = .ok (.aload_n 0, 1) := by decide +kernel
theorem dL_law_408 : decode code 408 = .ok (.iload_n 3, 1) := by decide +kernel
theorem dL_law_409 : decode code 409 = .ok (.iconst 4, 1) := by decide +kernel
theorem dL_law_410 : decode code 410 = .ok (.iadd, 1) := by decide +kernel
theorem dL_law_411 : decode code 411 = .ok (.iaload, 1) := by decide +kernel
theorem dL_law_412 : decode code 412 = .ok (.invokevirtual 40, 3) := by decide +kernel
theorem dL_law_415 : decode code 415 = .ok (.if_icmp .eq 1050, 3) := by decide +kernel
theorem dL_law_418 : decode code 418 = .ok (.iconst 0, 1) := by decide +kernel
theorem dL_law_419 : decode code 419 = .ok (.ireturn, 1) := by decide +kernel
theorem dL_law_420 : decode code 420 = .ok (.aload_n 1, 1) := by decide +kernel
theorem dL_law_421 : decode code 421 = .ok (.aload_n 0, 1) := by decide +kernel
theorem dL_law_422 : decode code 422 = .ok (.iload_n 3, 1) := by decide +kernel
theorem dL_law_423 : decode code 423 = .ok (.iconst 1, 1) := by decide +kernel
theorem dL_law_424 : decode code 424 = .ok (.iadd, 1) := by decide +kernel
theorem dL_law_425 : decode code 425 = .ok (.iaload, 1) := by decide +kernel
theorem dL_law_426 : decode code 426 = .ok (.invokevirtual 41, 3) := by decide +kernel
theorem dL_law_429 : decode code 429 = .ok (.aload_n 2, 1) := by decide +kernel
theorem dL_law_430 : decode code 430 = .ok (.aload_n 0, 1) := by decide +kernel
theorem dL_law_431 : decode code 431 = .ok (.iload_n 3, 1) := by decide +kernel
theorem dL_law_432 : decode code 432 = .ok (.iconst 1, 1) := by decide +kernel
theorem dL_law_433 : decode code 433 = .ok (.iadd, 1) := by decide +kernel
theorem dL_law_434 : decode code 434 = .ok (.iaload, 1) := by decide +kernel
theorem dL_law_435 : decode code 435 = .ok (.invokevirtual 44, 3) := by decide +kernel
theorem dL_law_438 : decode code 438 = .ok (.if_icmp .eq 1027, 3) := by decide +kernel
theorem dL_law_441 : decode code 441 = .ok (.iconst 0, 1) := by decide +kernel
theorem dL_law_442 : decode code 442 = .ok (.ireturn, 1) := by decide +kernel
theorem dL_law_443 : decode code 443 = .ok (.aload_n 1, 1) := by decide +kernel
theorem dL_law_444 : decode code 444 = .ok (.aload_n 0, 1) := by decide +kernel
theorem dL_law_445 : decode code 445 = .ok (.iload_n 3, 1) := by decide +kernel
theorem dL_law_446 : decode code 446 = .ok (.iconst 1, 1) := by decide +kernel
theorem dL_law_447 : decode code 447 = .ok (.iadd, 1) := by decide +kernel
theorem dL_law_448 : decode code 448 = .ok (.iaload, 1) := by decide +kernel
theorem dL_law_449 : decode code 449 = .ok (.aload_n 0, 1) := by decide +kernel
theorem dL_law_450 : decode code 450 = .ok (.iload_n 3, 1) := by decide +kernel
theorem dL_law_451 : decode code 451 = .ok (.iconst 2, 1) := by decide +kernel
theorem dL_law_452 : decode code 452 = .ok (.iadd, 1) := by decide +kernel
theorem dL_law_453 : decode code 453 = .ok (.iaload, 1) := by decide +kernel
theorem dL_law_454 : decode code 454 = .ok (.aload_n 0, 1) := by decide +kernel
theorem dL_law_455 : decode code 455 = .ok (.iload_n 3, 1) := by decide +kernel
theorem dL_law_456 : decode code 456 = .ok (.iconst 3, 1) := by decide +kernel
theorem dL_law_457 : decode code 457 = .ok (.iadd, 1) := by decide +kernel
theorem dL_law_458 : decode code 458 = .ok (.iaload, 1) := by decide +kernel
theorem dL_law_459 : decode code 459 = .ok (.invokevirtual 45, 3) := by decide +kernel
theorem dL_law_462 : decode code 462 = .ok (.aload_n 2, 1) := by decide +kernel
theorem dL_law_463 : decode code 463 = .ok (.aload_n 0, 1) := by decide +kernel
theorem dL_law_464 : decode code 464 = .ok (.iload_n 3, 1) := by decide +kernel
theorem dL_law_465 : decode code 465 = .ok (.iconst 1, 1) := by decide +kernel
theorem dL_law_466 : decode code 466 = .ok (.iadd, 1) := by decide +kernel
theorem dL_law_467 : decode code 467 = .ok (.iaload, 1) := by decide +kernel
theorem dL_law_468 : decode code 468 = .ok (.aload_n 0, 1) := by decide +kernel
theorem dL_law_469 : decode code 469 = .ok (.iload_n 3, 1) := by decide +kernel
theorem dL_law_470 : decode code 470 = .ok (.iconst 2, 1) := by decide +kernel
theorem dL_law_471 : decode code 471 = .ok (.iadd, 1) := by decide +kernel
theorem dL_law_472 : decode code 472 = .ok (.iaload, 1) := by decide +kernel
theorem dL_law_473 : decode code 473 = .ok (.aload_n 0, 1) := by decide +kernel
theorem dL_law_474 : decode code 474 = .ok (.iload_n 3, 1) := by decide +kernel
theorem dL_law_475 : decode code 475 = .ok (.iconst 3, 1) := by decide +kernel
theorem dL_law_476 : decode code 476 = .ok (.iadd, 1) := by decide +kernel
theorem dL_law_477 : decode code 477 = .ok (.iaload, 1) := by decide +kernel
theorem dL_law_478 : decode code 478 = .ok (.invokevirtual 48, 3) := by decide +kernel
theorem dL_law_481 : decode code 481 = .ok (.if_icmp .eq 984, 3) := by decide +kernel
theorem dL_law_484 : decode code 484 = .ok (.iconst 0, 1) := by decide +kernel
theorem dL_law_485 : decode code 485 = .ok (.ireturn, 1) := by decide +kernel
theorem dL_law_486 : decode code 486 = .ok (.aload_n 1, 1) := by decide +kernel
theorem dL_law_487 : decode code 487 = .ok (.aload_n 0, 1) := by decide +kernel
theorem dL_law_488 : decode code 488 = .ok (.iload_n 3, 1) := by decide +kernel
theorem dL_law_489 : decode code 489 = .ok (.iconst 1, 1) := by decide +kernel
theorem dL_law_490 : decode code 490 = .ok (.iadd, 1) := by decide +kernel
theorem dL_law_491 : decode code 491 = .ok (.iaload, 1) := by decide +kernel
theorem dL_law_492 : decode code 492 = .ok (.aload_n 0, 1) := by decide +kernel
theorem dL_law_493 : decode code 493 = .ok (.iload_n 3, 1) := by decide +kernel
theorem dL_law_494 : decode code 494 = .ok (.iconst 2, 1) := by decide +kernel
theorem dL_law_495 : decode code 495 = .ok (.iadd, 1) := by decide +kernel
theorem dL_law_496 : decode code 496 = .ok (.iaload, 1) := by decide +kernel
theorem dL_law_497 : decode code 497 = .ok (.aload_n 0, 1) := by decide +kernel
theorem dL_law_498 : decode code 498 = .ok (.iload_n 3, 1) := by decide +kernel
theorem dL_law_499 : decode code 499 = .ok (.iconst 3, 1) := by decide +kernel
theorem dL_law_500 : decode code 500 = .ok (.iadd, 1) := by decide +kernel
theorem dL_law_501 : decode code 501 = .ok (.iaload, 1) := by decide +kernel
theorem dL_law_502 : decode code 502 = .ok (.invokevirtual 49, 3) := by decide +kernel
theorem dL_law_505 : decode code 505 = .ok (.aload_n 2, 1) := by decide +kernel
theorem dL_law_506 : decode code 506 = .ok (.aload_n 0, 1) := by decide +kernel
theorem dL_law_507 : decode code 507 = .ok (.iload_n 3, 1) := by decide +kernel
theorem dL_law_508 : decode code 508 = .ok (.iconst 1, 1) := by decide +kernel
theorem dL_law_509 : decode code 509 = .ok (.iadd, 1) := by decide +kernel
theorem dL_law_510 : decode code 510 = .ok (.iaload, 1) := by decide +kernel
theorem dL_law_511 : decode code 511 = .ok (.aload_n 0, 1) := by decide +kernel
theorem dL_law_512 : decode code 512 = .ok (.iload_n 3, 1) := by decide +kernel
theorem dL_law_513 : decode code 513 = .ok (.iconst 2, 1) := by decide +kernel
theorem dL_law_514 : decode code 514 = .ok (.iadd, 1) := by decide +kernel
theorem dL_law_515 : decode code 515 = .ok (.iaload, 1) := by decide +kernel
theorem dL_law_516 : decode code 516 = .ok (.aload_n 0, 1) := by decide +kernel
theorem dL_law_517 : decode code 517 = .ok (.iload_n 3, 1) := by decide +kernel
theorem dL_law_518 : decode code 518 = .ok (.iconst 3, 1) := by decide +kernel
theorem dL_law_519 : decode code 519 = .ok (.iadd, 1) := by decide +kernel
theorem dL_law_520 : decode code 520 = .ok (.iaload, 1) := by decide +kernel
theorem dL_law_521 : decode code 521 = .ok (.invokevirtual 52, 3) := by decide +kernel
theorem dL_law_524 : decode code 524 = .ok (.if_icmp .eq 941, 3) := by decide +kernel
theorem dL_law_527 : decode code 527 = .ok (.iconst 0, 1) := by decide +kernel
theorem dL_law_528 : decode code 528 = .ok (.ireturn, 1) := by decide +kernel
theorem dL_law_529 : decode code 529 = .ok (.aload_n 1, 1) := by decide +kernel
theorem dL_law_530 : decode code 530 = .ok (.aload_n 0, 1) := by decide +kernel
theorem dL_law_531 : decode code 531 = .ok (.iload_n 3, 1) := by decide +kernel
theorem dL_law_532 : decode code 532 = .ok (.iconst 1, 1) := by decide +kernel
theorem dL_law_533 : decode code 533 = .ok (.iadd, 1) := by decide +kernel
theorem dL_law_534 : decode code 534 = .ok (.iaload, 1) := by decide +kernel
theorem dL_law_535 : decode code 535 = .ok (.invokevirtual 53, 3) := by decide +kernel
theorem dL_law_538 : decode code 538 = .ok (.aload_n 2, 1) := by decide +kernel
theorem dL_law_539 : decode code 539 = .ok (.aload_n 0, 1) := by decide +kernel
theorem dL_law_540 : decode code 540 = .ok (.iload_n 3, 1) := by decide +kernel
theorem dL_law_541 : decode code 541 = .ok (.iconst 1, 1) := by decide +kernel
theorem dL_law_542 : decode code 542 = .ok (.iadd, 1) := by decide +kernel
theorem dL_law_543 : decode code 543 = .ok (.iaload, 1) := by decide +kernel
theorem dL_law_544 : decode code 544 = .ok (.invokevirtual 56, 3) := by decide +kernel
theorem dL_law_547 : decode code 547 = .ok (.if_icmp .eq 918, 3) := by decide +kernel
theorem dL_law_550 : decode code 550 = .ok (.iconst 0, 1) := by decide +kernel
theorem dL_law_551 : decode code 551 = .ok (.ireturn, 1) := by decide +kernel
theorem dL_law_552 : decode code 552 = .ok (.aload_n 1, 1) := by decide +kernel
theorem dL_law_553 : decode code 553 = .ok (.aload_n 0, 1) := by decide +kernel
theorem dL_law_554 : decode code 554 = .ok (.iload_n 3, 1) := by decide +kernel
theorem dL_law_555 : decode code 555 = .ok (.iconst 1, 1) := by decide +kernel
theorem dL_law_556 : decode code 556 = .ok (.iadd, 1) := by decide +kernel
theorem dL_law_557 : decode code 557 = .ok (.iaload, 1) := by decide +kernel
theorem dL_law_558 : decode code 558 = .ok (.i2l, 1) := by decide +kernel
theorem dL_law_559 : decode code 559 = .ok (.bipush 32, 2) := by decide +kernel
theorem dL_law_561 : decode code 561 = .ok (.lshl, 1) := by decide +kernel
theorem dL_law_562 : decode code 562 = .ok (.aload_n 0, 1) := by decide +kernel
theorem dL_law_563 : decode code 563 = .ok (.iload_n 3, 1) := by decide +kernel
theorem dL_law_564 : decode code 564 = .ok (.iconst 2, 1) := by decide +kernel
theorem dL_law_565 : decode code 565 = .ok (.iadd, 1) := by decide +kernel
theorem dL_law_566 : decode code 566 = .ok (.iaload, 1) := by decide +kernel
theorem dL_law_567 : decode code 567 = .ok (.i2l, 1) := by decide +kernel
theorem dL_law_568 : decode code 568 = .ok (.ldc2_w 57, 3) := by decide +kernel
theorem dL_law_571 : decode code 571 = .ok (.land, 1) := by decide +kernel
theorem dL_law_572 : decode code 572 = .ok (.lor, 1) := by decide +kernel
theorem dL_law_573 : decode code 573 = .ok (.aload_n 0, 1) := by decide +kernel
theorem dL_law_574 : decode code 574 = .ok (.iload_n 3, 1) := by decide +kernel
theorem dL_law_575 : decode code 575 = .ok (.iconst 3, 1) := by decide +kernel
theorem dL_law_576 : decode code 576 = .ok (.iadd, 1) := by decide +kernel
theorem dL_law_577 : decode code 577 = .ok (.iaload, 1) := by decide +kernel
theorem dL_law_578 : decode code 578 = .ok (.invokevirtual 59, 3) := by decide +kernel
theorem dL_law_581 : decode code 581 = .ok (.aload_n 2, 1) := by decide +kernel
theorem dL_law_582 : decode code 582 = .ok (.aload_n 0, 1) := by decide +kernel
theorem dL_law_583 : decode code 583 = .ok (.iload_n 3, 1) := by decide +kernel
theorem dL_law_584 : decode code 584 = .ok (.iconst 1, 1) := by decide +kernel
theorem dL_law_585 : decode code 585 = .ok (.iadd, 1) := by decide +kernel
theorem dL_law_586 : decode code 586 = .ok (.iaload, 1) := by decide +kernel
theorem dL_law_587 : decode code 587 = .ok (.i2l, 1) := by decide +kernel
theorem dL_law_588 : decode code 588 = .ok (.bipush 32, 2) := by decide +kernel
theorem dL_law_590 : decode code 590 = .ok (.lshl, 1) := by decide +kernel
theorem dL_law_591 : decode code 591 = .ok (.aload_n 0, 1) := by decide +kernel
theorem dL_law_592 : decode code 592 = .ok (.iload_n 3, 1) := by decide +kernel
theorem dL_law_593 : decode code 593 = .ok (.iconst 2, 1) := by decide +kernel
theorem dL_law_594 : decode code 594 = .ok (.iadd, 1) := by decide +kernel
theorem dL_law_595 : decode code 595 = .ok (.iaload, 1) := by decide +kernel
theorem dL_law_596 : decode code 596 = .ok (.i2l, 1) := by decide +kernel
theorem dL_law_597 : decode code 597 = .ok (.ldc2_w 57, 3) := by decide +kernel
theorem dL_law_600 : decode code 600 = .ok (.land, 1) := by decide +kernel
theorem dL_law_601 : decode code 601 = .ok (.lor, 1) := by decide +kernel
theorem dL_law_602 : decode code 602 = .ok (.aload_n 0, 1) := by decide +kernel
theorem dL_law_603 : decode code 603 = .ok (.iload_n 3, 1) := by decide +kernel
theorem dL_law_604 : decode code 604 = .ok (.iconst 3, 1) := by decide +kernel
theorem dL_law_605 : decode code 605 = .ok (.iadd, 1) := by decide +kernel
theorem dL_law_606 : decode code 606 = .ok (.iaload, 1) := by decide +kernel
theorem dL_law_607 : decode code 607 = .ok (.invokevirtual 63, 3) := by decide +kernel
theorem dL_law_610 : decode code 610 = .ok (.if_icmp .eq 855, 3) := by decide +kernel
theorem dL_law_613 : decode code 613 = .ok (.iconst 0, 1) := by decide +kernel
theorem dL_law_614 : decode code 614 = .ok (.ireturn, 1) := by decide +kernel
theorem dL_law_615 : decode code 615 = .ok (.aload_n 1, 1) := by decide +kernel
theorem dL_law_616 : decode code 616 = .ok (.aload_n 0, 1) := by decide +kernel
theorem dL_law_617 : decode code 617 = .ok (.iload_n 3, 1) := by decide +kernel
theorem dL_law_618 : decode code 618 = .ok (.iconst 1, 1) := by decide +kernel
theorem dL_law_619 : decode code 619 = .ok (.iadd, 1) := by decide +kernel
theorem dL_law_620 : decode code 620 = .ok (.iaload, 1) := by decide +kernel
theorem dL_law_621 : decode code 621 = .ok (.invokevirtual 64, 3) := by decide +kernel
theorem dL_law_624 : decode code 624 = .ok (.aload_n 2, 1) := by decide +kernel
theorem dL_law_625 : decode code 625 = .ok (.aload_n 0, 1) := by decide +kernel
theorem dL_law_626 : decode code 626 = .ok (.iload_n 3, 1) := by decide +kernel
theorem dL_law_627 : decode code 627 = .ok (.iconst 1, 1) := by decide +kernel
theorem dL_law_628 : decode code 628 = .ok (.iadd, 1) := by decide +kernel
theorem dL_law_629 : decode code 629 = .ok (.iaload, 1) := by decide +kernel
theorem dL_law_630 : decode code 630 = .ok (.invokevirtual 67, 3) := by decide +kernel
theorem dL_law_633 : decode code 633 = .ok (.if_icmp .eq 832, 3) := by decide +kernel
theorem dL_law_636 : decode code 636 = .ok (.iconst 0, 1) := by decide +kernel
theorem dL_law_637 : decode code 637 = .ok (.ireturn, 1) := by decide +kernel
theorem dL_law_638 : decode code 638 = .ok (.aload_n 1, 1) := by decide +kernel
theorem dL_law_639 : decode code 639 = .ok (.aload_n 0, 1) := by decide +kernel
theorem dL_law_640 : decode code 640 = .ok (.iload_n 3, 1) := by decide +kernel
theorem dL_law_641 : decode code 641 = .ok (.iconst 1, 1) := by decide +kernel
theorem dL_law_642 : decode code 642 = .ok (.iadd, 1) := by decide +kernel
theorem dL_law_643 : decode code 643 = .ok (.iaload, 1) := by decide +kernel
theorem dL_law_644 : decode code 644 = .ok (.aload_n 0, 1) := by decide +kernel
theorem dL_law_645 : decode code 645 = .ok (.iload_n 3, 1) := by decide +kernel
theorem dL_law_646 : decode code 646 = .ok (.iconst 2, 1) := by decide +kernel
theorem dL_law_647 : decode code 647 = .ok (.iadd, 1) := by decide +kernel
theorem dL_law_648 : decode code 648 = .ok (.iaload, 1) := by decide +kernel
theorem dL_law_649 : decode code 649 = .ok (.aload_n 0, 1) := by decide +kernel
theorem dL_law_650 : decode code 650 = .ok (.iload_n 3, 1) := by decide +kernel
theorem dL_law_651 : decode code 651 = .ok (.iconst 3, 1) := by decide +kernel
theorem dL_law_652 : decode code 652 = .ok (.iadd, 1) := by decide +kernel
theorem dL_law_653 : decode code 653 = .ok (.iaload, 1) := by decide +kernel
theorem dL_law_654 : decode code 654 = .ok (.aload_n 0, 1) := by decide +kernel
theorem dL_law_655 : decode code 655 = .ok (.iload_n 3, 1) := by decide +kernel
theorem dL_law_656 : decode code 656 = .ok (.iconst 4, 1) := by decide +kernel
theorem dL_law_657 : decode code 657 = .ok (.iadd, 1) := by decide +kernel
theorem dL_law_658 : decode code 658 = .ok (.iaload, 1) := by decide +kernel
theorem dL_law_659 : decode code 659 = .ok (.invokevirtual 68, 3) := by decide +kernel
theorem dL_law_662 : decode code 662 = .ok (.aload_n 2, 1) := by decide +kernel
theorem dL_law_663 : decode code 663 = .ok (.aload_n 0, 1) := by decide +kernel
theorem dL_law_664 : decode code 664 = .ok (.iload_n 3, 1) := by decide +kernel
theorem dL_law_665 : decode code 665 = .ok (.iconst 1, 1) := by decide +kernel
theorem dL_law_666 : decode code 666 = .ok (.iadd, 1) := by decide +kernel
theorem dL_law_667 : decode code 667 = .ok (.iaload, 1) := by decide +kernel
theorem dL_law_668 : decode code 668 = .ok (.aload_n 0, 1) := by decide +kernel
theorem dL_law_669 : decode code 669 = .ok (.iload_n 3, 1) := by decide +kernel
theorem dL_law_670 : decode code 670 = .ok (.iconst 2, 1) := by decide +kernel
theorem dL_law_671 : decode code 671 = .ok (.iadd, 1) := by decide +kernel
theorem dL_law_672 : decode code 672 = .ok (.iaload, 1) := by decide +kernel
theorem dL_law_673 : decode code 673 = .ok (.aload_n 0, 1) := by decide +kernel
theorem dL_law_674 : decode code 674 = .ok (.iload_n 3, 1) := by decide +kernel
theorem dL_law_675 : decode code 675 = .ok (.iconst 3, 1) := by decide +kernel
theorem dL_law_676 : decode code 676 = .ok (.iadd, 1) := by decide +kernel
theorem dL_law_677 : decode code 677 = .ok (.iaload, 1) := by decide +kernel
theorem dL_law_678 : decode code 678 = .ok (.aload_n 0, 1) := by decide +kernel
theorem dL_law_679 : decode code 679 = .ok (.iload_n 3, 1) := by decide +kernel
theorem dL_law_680 : decode code 680 = .ok (.iconst 4, 1) := by decide +kernel
theorem dL_law_681 : decode code 681 = .ok (.iadd, 1) := by decide +kernel
theorem dL_law_682 : decode code 682 = .ok (.iaload, 1) := by decide +kernel
theorem dL_law_683 : decode code 683 = .ok (.invokevirtual 71, 3) := by decide +kernel
theorem dL_law_686 : decode code 686 = .ok (.if_icmp .eq 779, 3) := by decide +kernel
theorem dL_law_689 : decode code 689 = .ok (.iconst 0, 1) := by decide +kernel
theorem dL_law_690 : decode code 690 = .ok (.ireturn, 1) := by decide +kernel
theorem dL_law_691 : decode code 691 = .ok (.aload_n 1, 1) := by decide +kernel
theorem dL_law_692 : decode code 692 = .ok (.aload_n 0, 1) := by decide +kernel
theorem dL_law_693 : decode code 693 = .ok (.iload_n 3, 1) := by decide +kernel
theorem dL_law_694 : decode code 694 = .ok (.iconst 1, 1) := by decide +kernel
theorem dL_law_695 : decode code 695 = .ok (.iadd, 1) := by decide +kernel
theorem dL_law_696 : decode code 696 = .ok (.iaload, 1) := by decide +kernel
theorem dL_law_697 : decode code 697 = .ok (.aload_n 0, 1) := by decide +kernel
theorem dL_law_698 : decode code 698 = .ok (.iload_n 3, 1) := by decide +kernel
theorem dL_law_699 : decode code 699 = .ok (.iconst 2, 1) := by decide +kernel
theorem dL_law_700 : decode code 700 = .ok (.iadd, 1) := by decide +kernel
theorem dL_law_701 : decode code 701 = .ok (.iaload, 1) := by decide +kernel
theorem dL_law_702 : decode code 702 = .ok (.aload_n 0, 1) := by decide +kernel
theorem dL_law_703 : decode code 703 = .ok (.iload_n 3, 1) := by decide +kernel
theorem dL_law_704 : decode code 704 = .ok (.iconst 3, 1) := by decide +kernel
theorem dL_law_705 : decode code 705 = .ok (.iadd, 1) := by decide +kernel
theorem dL_law_706 : decode code 706 = .ok (.iaload, 1) := by decide +kernel
theorem dL_law_707 : decode code 707 = .ok (.aload_n 0, 1) := by decide +kernel
theorem dL_law_708 : decode code 708 = .ok (.iload_n 3, 1) := by decide +kernel
theorem dL_law_709 : decode code 709 = .ok (.iconst 4, 1) := by decide +kernel
theorem dL_law_710 : decode code 710 = .ok (.iadd, 1) := by decide +kernel
theorem dL_law_711 : decode code 711 = .ok (.iaload, 1) := by decide +kernel
theorem dL_law_712 : decode code 712 = .ok (.invokevirtual 72, 3) := by decide +kernel
theorem dL_law_715 : decode code 715 = .ok (.aload_n 2, 1) := by decide +kernel
theorem dL_law_716 : decode code 716 = .ok (.aload_n 0, 1) := by decide +kernel
theorem dL_law_717 : decode code 717 = .ok (.iload_n 3, 1) := by decide +kernel
theorem dL_law_718 : decode code 718 = .ok (.iconst 1, 1) := by decide +kernel
theorem dL_law_719 : decode code 719 = .ok (.iadd, 1) := by decide +kernel
theorem dL_law_720 : decode code 720 = .ok (.iaload, 1) := by decide +kernel
theorem dL_law_721 : decode code 721 = .ok (.aload_n 0, 1) := by decide +kernel
theorem dL_law_722 : decode code 722 = .ok (.iload_n 3, 1) := by decide +kernel
theorem dL_law_723 : decode code 723 = .ok (.iconst 2, 1) := by decide +kernel
theorem dL_law_724 : decode code 724 = .ok (.iadd, 1) := by decide +kernel
theorem dL_law_725 : decode code 725 = .ok (.iaload, 1) := by decide +kernel
theorem dL_law_726 : decode code 726 = .ok (.aload_n 0, 1) := by decide +kernel
theorem dL_law_727 : decode code 727 = .ok (.iload_n 3, 1) := by decide +kernel
theorem dL_law_728 : decode code 728 = .ok (.iconst 3, 1) := by decide +kernel
theorem dL_law_729 : decode code 729 = .ok (.iadd, 1) := by decide +kernel
theorem dL_law_730 : decode code 730 = .ok (.iaload, 1) := by decide +kernel
theorem dL_law_731 : decode code 731 = .ok (.aload_n 0, 1) := by decide +kernel
theorem dL_law_732 : decode code 732 = .ok (.iload_n 3, 1) := by decide +kernel
theorem dL_law_733 : decode code 733 = .ok (.iconst 4, 1) := by decide +kernel
theorem dL_law_734 : decode code 734 = .ok (.iadd, 1) := by decide +kernel
theorem dL_law_735 : decode code 735 = .ok (.iaload, 1) := by decide +kernel
theorem dL_law_736 : decode code 736 = .ok (.invokevirtual 75, 3) := by decide +kernel
theorem dL_law_739 : decode code 739 = .ok (.if_icmp .eq 726, 3) := by decide +kernel
theorem dL_law_742 : decode code 742 = .ok (.iconst 0, 1) := by decide +kernel
theorem dL_law_743 : decode code 743 = .ok (.ireturn, 1) := by decide +kernel
theorem dL_law_744 : decode code 744 = .ok (.aload_n 1, 1) := by decide +kernel
theorem dL_law_745 : decode code 745 = .ok (.aload_n 0, 1) := by decide +kernel
theorem dL_law_746 : decode code 746 = .ok (.iload_n 3, 1) := by decide +kernel
theorem dL_law_747 : decode code 747 = .ok (.iconst 1, 1) := by decide +kernel
theorem dL_law_748 : decode code 748 = .ok (.iadd, 1) := by decide +kernel
theorem dL_law_749 : decode code 749 = .ok (.iaload, 1) := by decide +kernel
theorem dL_law_750 : decode code 750 = .ok (.aload_n 0, 1) := by decide +kernel
theorem dL_law_751 : decode code 751 = .ok (.iload_n 3, 1) := by decide +kernel
theorem dL_law_752 : decode code 752 = .ok (.iconst 2, 1) := by decide +kernel
theorem dL_law_753 : decode code 753 = .ok (.iadd, 1) := by decide +kernel
theorem dL_law_754 : decode code 754 = .ok (.iaload, 1) := by decide +kernel
theorem dL_law_755 : decode code 755 = .ok (.invokevirtual 76, 3) := by decide +kernel
theorem dL_law_758 : decode code 758 = .ok (.aload_n 2, 1) := by decide +kernel
theorem dL_law_759 : decode code 759 = .ok (.aload_n 0, 1) := by decide +kernel
theorem dL_law_760 : decode code 760 = .ok (.iload_n 3, 1) := by decide +kernel
theorem dL_law_761 : decode code 761 = .ok (.iconst 1, 1) := by decide +kernel
theorem dL_law_762 : decode code 762 = .ok (.iadd, 1) := by decide +kernel
theorem dL_law_763 : decode code 763 = .ok (.iaload, 1) := by decide +kernel
theorem dL_law_764 : decode code 764 = .ok (.aload_n 0, 1) := by decide +kernel
theorem dL_law_765 : decode code 765 = .ok (.iload_n 3, 1) := by decide +kernel
theorem dL_law_766 : decode code 766 = .ok (.iconst 2, 1) := by decide +kernel
theorem dL_law_767 : decode code 767 = .ok (.iadd, 1) := by decide +kernel
theorem dL_law_768 : decode code 768 = .ok (.iaload, 1) := by decide +kernel
theorem dL_law_769 : decode code 769 = .ok (.invokevirtual 79, 3) := by decide +kernel
theorem dL_law_772 : decode code 772 = .ok (.if_icmp .eq 693, 3) := by decide +kernel
theorem dL_law_775 : decode code 775 = .ok (.iconst 0, 1) := by decide +kernel
theorem dL_law_776 : decode code 776 = .ok (.ireturn, 1) := by decide +kernel
theorem dL_law_777 : decode code 777 = .ok (.aload_n 1, 1) := by decide +kernel
theorem dL_law_778 : decode code 778 = .ok (.invokevirtual 80, 3) := by decide +kernel
theorem dL_law_781 : decode code 781 = .ok (.aload_n 2, 1) := by decide +kernel
theorem dL_law_782 : decode code 782 = .ok (.invokevirtual 84, 3) := by decide +kernel
theorem dL_law_785 : decode code 785 = .ok (.if_icmp .eq 680, 3) := by decide +kernel
theorem dL_law_788 : decode code 788 = .ok (.iconst 0, 1) := by decide +kernel
theorem dL_law_789 : decode code 789 = .ok (.ireturn, 1) := by decide +kernel
theorem dL_law_790 : decode code 790 = .ok (.aload_n 1, 1) := by decide +kernel
theorem dL_law_791 : decode code 791 = .ok (.aload_n 0, 1) := by decide +kernel
theorem dL_law_792 : decode code 792 = .ok (.iload_n 3, 1) := by decide +kernel
theorem dL_law_793 : decode code 793 = .ok (.iconst 1, 1) := by decide +kernel
theorem dL_law_794 : decode code 794 = .ok (.iadd, 1) := by decide +kernel
theorem dL_law_795 : decode code 795 = .ok (.iaload, 1) := by decide +kernel
theorem dL_law_796 : decode code 796 = .ok (.invokevirtual 85, 3) := by decide +kernel
theorem dL_law_799 : decode code 799 = .ok (.aload_n 2, 1) := by decide +kernel
theorem dL_law_800 : decode code 800 = .ok (.aload_n 0, 1) := by decide +kernel
theorem dL_law_801 : decode code 801 = .ok (.iload_n 3, 1) := by decide +kernel
theorem dL_law_802 : decode code 802 = .ok (.iconst 1, 1) := by decide +kernel
theorem dL_law_803 : decode code 803 = .ok (.iadd, 1) := by decide +kernel
theorem dL_law_804 : decode code 804 = .ok (.iaload, 1) := by decide +kernel
theorem dL_law_805 : decode code 805 = .ok (.invokevirtual 88, 3) := by decide +kernel
theorem dL_law_808 : decode code 808 = .ok (.if_icmp .eq 657, 3) := by decide +kernel
theorem dL_law_811 : decode code 811 = .ok (.iconst 0, 1) := by decide +kernel
theorem dL_law_812 : decode code 812 = .ok (.ireturn, 1) := by decide +kernel
theorem dL_law_813 : decode code 813 = .ok (.aload_n 1, 1) := by decide +kernel
theorem dL_law_814 : decode code 814 = .ok (.aload_n 0, 1) := by decide +kernel
theorem dL_law_815 : decode code 815 = .ok (.iload_n 3, 1) := by decide +kernel
theorem dL_law_816 : decode code 816 = .ok (.iconst 1, 1) := by decide +kernel
theorem dL_law_817 : decode code 817 = .ok (.iadd, 1) := by decide +kernel
theorem dL_law_818 : decode code 818 = .ok (.iaload, 1) := by decide +kernel
theorem dL_law_819 : decode code 819 = .ok (.invokevirtual 89, 3) := by decide +kernel
theorem dL_law_822 : decode code 822 = .ok (.aload_n 2, 1) := by decide +kernel
theorem dL_law_823 : decode code 823 = .ok (.aload_n 0, 1) := by decide +kernel
theorem dL_law_824 : decode code 824 = .ok (.iload_n 3, 1) := by decide +kernel
theorem dL_law_825 : decode code 825 = .ok (.iconst 1, 1) := by decide +kernel
theorem dL_law_826 : decode code 826 = .ok (.iadd, 1) := by decide +kernel
theorem dL_law_827 : decode code 827 = .ok (.iaload, 1) := by decide +kernel
theorem dL_law_828 : decode code 828 = .ok (.invokevirtual 92, 3) := by decide +kernel
theorem dL_law_831 : decode code 831 = .ok (.if_icmp .eq 634, 3) := by decide +kernel
theorem dL_law_834 : decode code 834 = .ok (.iconst 0, 1) := by decide +kernel
theorem dL_law_835 : decode code 835 = .ok (.ireturn, 1) := by decide +kernel
theorem dL_law_836 : decode code 836 = .ok (.aload_n 1, 1) := by decide +kernel
theorem dL_law_837 : decode code 837 = .ok (.aload_n 0, 1) := by decide +kernel
theorem dL_law_838 : decode code 838 = .ok (.iload_n 3, 1) := by decide +kernel
theorem dL_law_839 : decode code 839 = .ok (.iconst 1, 1) := by decide +kernel
theorem dL_law_840 : decode code 840 = .ok (.iadd, 1) := by decide +kernel
theorem dL_law_841 : decode code 841 = .ok (.iaload, 1) := by decide +kernel
theorem dL_law_842 : decode code 842 = .ok (.invokevirtual 93, 3) := by decide +kernel
theorem dL_law_845 : decode code 845 = .ok (.aload_n 2, 1) := by decide +kernel
theorem dL_law_846 : decode code 846 = .ok (.aload_n 0, 1) := by decide +kernel
theorem dL_law_847 : decode code 847 = .ok (.iload_n 3, 1) := by decide +kernel
theorem dL_law_848 : decode code 848 = .ok (.iconst 1, 1) := by decide +kernel
theorem dL_law_849 : decode code 849 = .ok (.iadd, 1) := by decide +kernel
theorem dL_law_850 : decode code 850 = .ok (.iaload, 1) := by decide +kernel
theorem dL_law_851 : decode code 851 = .ok (.invokevirtual 96, 3) := by decide +kernel
theorem dL_law_854 : decode code 854 = .ok (.if_icmp .eq 611, 3) := by decide +kernel
theorem dL_law_857 : decode code 857 = .ok (.iconst 0, 1) := by decide +kernel
theorem dL_law_858 : decode code 858 = .ok (.ireturn, 1) := by decide +kernel
theorem dL_law_859 : decode code 859 = .ok (.aload_n 1, 1) := by decide +kernel
theorem dL_law_860 : decode code 860 = .ok (.aload_n 0, 1) := by decide +kernel
theorem dL_law_861 : decode code 861 = .ok (.iload_n 3, 1) := by decide +kernel
theorem dL_law_862 : decode code 862 = .ok (.iconst 1, 1) := by decide +kernel
theorem dL_law_863 : decode code 863 = .ok (.iadd, 1) := by decide +kernel
theorem dL_law_864 : decode code 864 = .ok (.iaload, 1) := by decide +kernel
theorem dL_law_865 : decode code 865 = .ok (.invokevirtual 97, 3) := by decide +kernel
theorem dL_law_868 : decode code 868 = .ok (.aload_n 2, 1) := by decide +kernel
theorem dL_law_869 : decode code 869 = .ok (.aload_n 0, 1) := by decide +kernel
theorem dL_law_870 : decode code 870 = .ok (.iload_n 3, 1) := by decide +kernel
theorem dL_law_871 : decode code 871 = .ok (.iconst 1, 1) := by decide +kernel
theorem dL_law_872 : decode code 872 = .ok (.iadd, 1) := by decide +kernel
theorem dL_law_873 : decode code 873 = .ok (.iaload, 1) := by decide +kernel
theorem dL_law_874 : decode code 874 = .ok (.invokevirtual 100, 3) := by decide +kernel
theorem dL_law_877 : decode code 877 = .ok (.if_icmp .eq 588, 3) := by decide +kernel
theorem dL_law_880 : decode code 880 = .ok (.iconst 0, 1) := by decide +kernel
theorem dL_law_881 : decode code 881 = .ok (.ireturn, 1) := by decide +kernel
theorem dL_law_882 : decode code 882 = .ok (.aload_n 1, 1) := by decide +kernel
theorem dL_law_883 : decode code 883 = .ok (.invokevirtual 101, 3) := by decide +kernel
theorem dL_law_886 : decode code 886 = .ok (.aload_n 2, 1) := by decide +kernel
theorem dL_law_887 : decode code 887 = .ok (.invokevirtual 104, 3) := by decide +kernel
theorem dL_law_890 : decode code 890 = .ok (.if_icmp .eq 575, 3) := by decide +kernel
theorem dL_law_893 : decode code 893 = .ok (.iconst 0, 1) := by decide +kernel
theorem dL_law_894 : decode code 894 = .ok (.ireturn, 1) := by decide +kernel
theorem dL_law_895 : decode code 895 = .ok (.aload_n 1, 1) := by decide +kernel
theorem dL_law_896 : decode code 896 = .ok (.aload_n 0, 1) := by decide +kernel
theorem dL_law_897 : decode code 897 = .ok (.iload_n 3, 1) := by decide +kernel
theorem dL_law_898 : decode code 898 = .ok (.iconst 1, 1) := by decide +kernel
theorem dL_law_899 : decode code 899 = .ok (.iadd, 1) := by decide +kernel
theorem dL_law_900 : decode code 900 = .ok (.iaload, 1) := by decide +kernel
theorem dL_law_901 : decode code 901 = .ok (.aload_n 0, 1) := by decide +kernel
theorem dL_law_902 : decode code 902 = .ok (.iload_n 3, 1) := by decide +kernel
theorem dL_law_903 : decode code 903 = .ok (.iconst 2, 1) := by decide +kernel
theorem dL_law_904 : decode code 904 = .ok (.iadd, 1) := by decide +kernel
theorem dL_law_905 : decode code 905 = .ok (.iaload, 1) := by decide +kernel
theorem dL_law_906 : decode code 906 = .ok (.invokevirtual 105, 3) := by decide +kernel
theorem dL_law_909 : decode code 909 = .ok (.aload_n 2, 1) := by decide +kernel
theorem dL_law_910 : decode code 910 = .ok (.aload_n 0, 1) := by decide +kernel
theorem dL_law_911 : decode code 911 = .ok (.iload_n 3, 1) := by decide +kernel
theorem dL_law_912 : decode code 912 = .ok (.iconst 1, 1) := by decide +kernel
theorem dL_law_913 : decode code 913 = .ok (.iadd, 1) := by decide +kernel
theorem dL_law_914 : decode code 914 = .ok (.iaload, 1) := by decide +kernel
theorem dL_law_915 : decode code 915 = .ok (.aload_n 0, 1) := by decide +kernel
theorem dL_law_916 : decode code 916 = .ok (.iload_n 3, 1) := by decide +kernel
theorem dL_law_917 : decode code 917 = .ok (.iconst 2, 1) := by decide +kernel
theorem dL_law_918 : decode code 918 = .ok (.iadd, 1) := by decide +kernel
theorem dL_law_919 : decode code 919 = .ok (.iaload, 1) := by decide +kernel
theorem dL_law_920 : decode code 920 = .ok (.invokevirtual 108, 3) := by decide +kernel
theorem dL_law_923 : decode code 923 = .ok (.if_icmp .eq 542, 3) := by decide +kernel
theorem dL_law_926 : decode code 926 = .ok (.iconst 0, 1) := by decide +kernel
theorem dL_law_927 : decode code 927 = .ok (.ireturn, 1) := by decide +kernel
theorem dL_law_928 : decode code 928 = .ok (.aload_n 1, 1) := by decide +kernel
theorem dL_law_929 : decode code 929 = .ok (.aload_n 0, 1) := by decide +kernel
theorem dL_law_930 : decode code 930 = .ok (.iload_n 3, 1) := by decide +kernel
theorem dL_law_931 : decode code 931 = .ok (.iconst 1, 1) := by decide +kernel
theorem dL_law_932 : decode code 932 = .ok (.iadd, 1) := by decide +kernel
theorem dL_law_933 : decode code 933 = .ok (.iaload, 1) := by decide +kernel
theorem dL_law_934 : decode code 934 = .ok (.invokevirtual 109, 3) := by decide +kernel
theorem dL_law_937 : decode code 937 = .ok (.aload_n 2, 1) := by decide +kernel
theorem dL_law_938 : decode code 938 = .ok (.aload_n 0, 1) := by decide +kernel
theorem dL_law_939 : decode code 939 = .ok (.iload_n 3, 1) := by decide +kernel
theorem dL_law_940 : decode code 940 = .ok (.iconst 1, 1) := by decide +kernel
theorem dL_law_941 : decode code 941 = .ok (.iadd, 1) := by decide +kernel
theorem dL_law_942 : decode code 942 = .ok (.iaload, 1) := by decide +kernel
theorem dL_law_943 : decode code 943 = .ok (.invokevirtual 112, 3) := by decide +kernel
theorem dL_law_946 : decode code 946 = .ok (.if_icmp .eq 519, 3) := by decide +kernel
theorem dL_law_949 : decode code 949 = .ok (.iconst 0, 1) := by decide +kernel
theorem dL_law_950 : decode code 950 = .ok (.ireturn, 1) := by decide +kernel
theorem dL_law_951 : decode code 951 = .ok (.aload_n 1, 1) := by decide +kernel
theorem dL_law_952 : decode code 952 = .ok (.aload_n 0, 1) := by decide +kernel
theorem dL_law_953 : decode code 953 = .ok (.iload_n 3, 1) := by decide +kernel
theorem dL_law_954 : decode code 954 = .ok (.iconst 1, 1) := by decide +kernel
theorem dL_law_955 : decode code 955 = .ok (.iadd, 1) := by decide +kernel
theorem dL_law_956 : decode code 956 = .ok (.iaload, 1) := by decide +kernel
theorem dL_law_957 : decode code 957 = .ok (.invokevirtual 113, 3) := by decide +kernel
theorem dL_law_960 : decode code 960 = .ok (.aload_n 2, 1) := by decide +kernel
theorem dL_law_961 : decode code 961 = .ok (.aload_n 0, 1) := by decide +kernel
theorem dL_law_962 : decode code 962 = .ok (.iload_n 3, 1) := by decide +kernel
theorem dL_law_963 : decode code 963 = .ok (.iconst 1, 1) := by decide +kernel
theorem dL_law_964 : decode code 964 = .ok (.iadd, 1) := by decide +kernel
theorem dL_law_965 : decode code 965 = .ok (.iaload, 1) := by decide +kernel
theorem dL_law_966 : decode code 966 = .ok (.invokevirtual 116, 3) := by decide +kernel
theorem dL_law_969 : decode code 969 = .ok (.if_icmp .eq 496, 3) := by decide +kernel
theorem dL_law_972 : decode code 972 = .ok (.iconst 0, 1) := by decide +kernel
theorem dL_law_973 : decode code 973 = .ok (.ireturn, 1) := by decide +kernel
theorem dL_law_974 : decode code 974 = .ok (.aload_n 1, 1) := by decide +kernel
theorem dL_law_975 : decode code 975 = .ok (.aload_n 0, 1) := by decide +kernel
theorem dL_law_976 : decode code 976 = .ok (.iload_n 3, 1) := by decide +kernel
theorem dL_law_977 : decode code 977 = .ok (.iconst 1, 1) := by decide +kernel
theorem dL_law_978 : decode code 978 = .ok (.iadd, 1) := by decide +kernel
theorem dL_law_979 : decode code 979 = .ok (.iaload, 1) := by decide +kernel
theorem dL_law_980 : decode code 980 = .ok (.invokevirtual 117, 3) := by decide +kernel
theorem dL_law_983 : decode code 983 = .ok (.aload_n 2, 1) := by decide +kernel
theorem dL_law_984 : decode code 984 = .ok (.aload_n 0, 1) := by decide +kernel
theorem dL_law_985 : decode code 985 = .ok (.iload_n 3, 1) := by decide +kernel
theorem dL_law_986 : decode code 986 = .ok (.iconst 1, 1) := by decide +kernel
theorem dL_law_987 : decode code 987 = .ok (.iadd, 1) := by decide +kernel
theorem dL_law_988 : decode code 988 = .ok (.iaload, 1) := by decide +kernel
theorem dL_law_989 : decode code 989 = .ok (.invokevirtual 120, 3) := by decide +kernel
theorem dL_law_992 : decode code 992 = .ok (.if_icmp .eq 473, 3) := by decide +kernel
theorem dL_law_995 : decode code 995 = .ok (.iconst 0, 1) := by decide +kernel
theorem dL_law_996 : decode code 996 = .ok (.ireturn, 1) := by decide +kernel
theorem dL_law_997 : decode code 997 = .ok (.aload_n 1, 1) := by decide +kernel
theorem dL_law_998 : decode code 998 = .ok (.aload_n 0, 1) := by decide +kernel
theorem dL_law_999 : decode code 999 = .ok (.iload_n 3, 1) := by decide +kernel
theorem dL_law_1000 : decode code 1000 = .ok (.iconst 1, 1) := by decide +kernel
theorem dL_law_1001 : decode code 1001 = .ok (.iadd, 1) := by decide +kernel
theorem dL_law_1002 : decode code 1002 = .ok (.iaload, 1) := by decide +kernel
theorem dL_law_1003 : decode code 1003 = .ok (.aload_n 0, 1) := by decide +kernel
theorem dL_law_1004 : decode code 1004 = .ok (.iload_n 3, 1) := by decide +kernel
theorem dL_law_1005 : decode code 1005 = .ok (.iconst 2, 1) := by decide +kernel
theorem dL_law_1006 : decode code 1006 = .ok (.iadd, 1) := by decide +kernel
theorem dL_law_1007 : decode code 1007 = .ok (.iaload, 1) := by decide +kernel
theorem dL_law_1008 : decode code 1008 = .ok (.aload_n 0, 1) := by decide +kernel
theorem dL_law_1009 : decode code 1009 = .ok (.iload_n 3, 1) := by decide +kernel
theorem dL_law_1010 : decode code 1010 = .ok (.iconst 3, 1) := by decide +kernel
theorem dL_law_1011 : decode code 1011 = .ok (.iadd, 1) := by decide +kernel
theorem dL_law_1012 : decode code 1012 = .ok (.iaload, 1) := by decide +kernel
theorem dL_law_1013 : decode code 1013 = .ok (.invokevirtual 121, 3) := by decide +kernel
theorem dL_law_1016 : decode code 1016 = .ok (.aload_n 2, 1) := by decide +kernel
theorem dL_law_1017 : decode code 1017 = .ok (.aload_n 0, 1) := by decide +kernel
theorem dL_law_1018 : decode code 1018 = .ok (.iload_n 3, 1) := by decide +kernel
theorem dL_law_1019 : decode code 1019 = .ok (.iconst 1, 1) := by decide +kernel
theorem dL_law_1020 : decode code 1020 = .ok (.iadd, 1) := by decide +kernel
theorem dL_law_1021 : decode code 1021 = .ok (.iaload, 1) := by decide +kernel
theorem dL_law_1022 : decode code 1022 = .ok (.aload_n 0, 1) := by decide +kernel
theorem dL_law_1023 : decode code 1023 = .ok (.iload_n 3, 1) := by decide +kernel
theorem dL_law_1024 : decode code 1024 = .ok (.iconst 2, 1) := by decide +kernel
theorem dL_law_1025 : decode code 1025 = .ok (.iadd, 1) := by decide +kernel
theorem dL_law_1026 : decode code 1026 = .ok (.iaload, 1) := by decide +kernel
theorem dL_law_1027 : decode code 1027 = .ok (.aload_n 0, 1) := by decide +kernel
theorem dL_law_1028 : decode code 1028 = .ok (.iload_n 3, 1) := by decide +kernel
theorem dL_law_1029 : decode code 1029 = .ok (.iconst 3, 1) := by decide +kernel
theorem dL_law_1030 : decode code 1030 = .ok (.iadd, 1) := by decide +kernel
theorem dL_law_1031 : decode code 1031 = .ok (.iaload, 1) := by decide +kernel
theorem dL_law_1032 : decode code 1032 = .ok (.invokevirtual 124, 3) := by decide +kernel
theorem dL_law_1035 : decode code 1035 = .ok (.if_icmp .eq 430, 3) := by decide +kernel
theorem dL_law_1038 : decode code 1038 = .ok (.iconst 0, 1) := by decide +kernel
theorem dL_law_1039 : decode code 1039 = .ok (.ireturn, 1) := by decide +kernel
theorem dL_law_1040 : decode code 1040 = .ok (.aload_n 1, 1) := by decide +kernel
theorem dL_law_1041 : decode code 1041 = .ok (.aload_n 0, 1) := by decide +kernel
theorem dL_law_1042 : decode code 1042 = .ok (.iload_n 3, 1) := by decide +kernel
theorem dL_law_1043 : decode code 1043 = .ok (.iconst 1, 1) := by decide +kernel
theorem dL_law_1044 : decode code 1044 = .ok (.iadd, 1) := by decide +kernel
theorem dL_law_1045 : decode code 1045 = .ok (.iaload, 1) := by decide +kernel
theorem dL_law_1046 : decode code 1046 = .ok (.aload_n 0, 1) := by decide +kernel
theorem dL_law_1047 : decode code 1047 = .ok (.iload_n 3, 1) := by decide +kernel
theorem dL_law_1048 : decode code 1048 = .ok (.iconst 2, 1) := by decide +kernel
theorem dL_law_1049 : decode code 1049 = .ok (.iadd, 1) := by decide +kernel
theorem dL_law_1050 : decode code 1050 = .ok (.iaload, 1) := by decide +kernel
theorem dL_law_1051 : decode code 1051 = .ok (.invokevirtual 125, 3) := by decide +kernel
theorem dL_law_1054 : decode code 1054 = .ok (.aload_n 2, 1) := by decide +kernel
theorem dL_law_1055 : decode code 1055 = .ok (.aload_n 0, 1) := by decide +kernel
theorem dL_law_1056 : decode code 1056 = .ok (.iload_n 3, 1) := by decide +kernel
theorem dL_law_1057 : decode code 1057 = .ok (.iconst 1, 1) := by decide +kernel
theorem dL_law_1058 : decode code 1058 = .ok (.iadd, 1) := by decide +kernel
theorem dL_law_1059 : decode code 1059 = .ok (.iaload, 1) := by decide +kernel
theorem dL_law_1060 : decode code 1060 = .ok (.aload_n 0, 1) := by decide +kernel
theorem dL_law_1061 : decode code 1061 = .ok (.iload_n 3, 1) := by decide +kernel
theorem dL_law_1062 : decode code 1062 = .ok (.iconst 2, 1) := by decide +kernel
theorem dL_law_1063 : decode code 1063 = .ok (.iadd, 1) := by decide +kernel
theorem dL_law_1064 : decode code 1064 = .ok (.iaload, 1) := by decide +kernel
theorem dL_law_1065 : decode code 1065 = .ok (.invokevirtual 128, 3) := by decide +kernel
theorem dL_law_1068 : decode code 1068 = .ok (.if_icmp .eq 397, 3) := by decide +kernel
theorem dL_law_1071 : decode code 1071 = .ok (.iconst 0, 1) := by decide +kernel
theorem dL_law_1072 : decode code 1072 = .ok (.ireturn, 1) := by decide +kernel
theorem dL_law_1073 : decode code 1073 = .ok (.aload_n 1, 1) := by decide +kernel
theorem dL_law_1074 : decode code 1074 = .ok (.aload_n 0, 1) := by decide +kernel
theorem dL_law_1075 : decode code 1075 = .ok (.iload_n 3, 1) := by decide +kernel
theorem dL_law_1076 : decode code 1076 = .ok (.iconst 1, 1) := by decide +kernel
theorem dL_law_1077 : decode code 1077 = .ok (.iadd, 1) := by decide +kernel
theorem dL_law_1078 : decode code 1078 = .ok (.iaload, 1) := by decide +kernel
theorem dL_law_1079 : decode code 1079 = .ok (.aload_n 0, 1) := by decide +kernel
theorem dL_law_1080 : decode code 1080 = .ok (.iload_n 3, 1) := by decide +kernel
theorem dL_law_1081 : decode code 1081 = .ok (.iconst 2, 1) := by decide +kernel
theorem dL_law_1082 : decode code 1082 = .ok (.iadd, 1) := by decide +kernel
theorem dL_law_1083 : decode code 1083 = .ok (.iaload, 1) := by decide +kernel
theorem dL_law_1084 : decode code 1084 = .ok (.invokevirtual 129, 3) := by decide +kernel
theorem dL_law_1087 : decode code 1087 = .ok (.aload_n 2, 1) := by decide +kernel
theorem dL_law_1088 : decode code 1088 = .ok (.aload_n 0, 1) := by decide +kernel
theorem dL_law_1089 : decode code 1089 = .ok (.iload_n 3, 1) := by decide +kernel
theorem dL_law_1090 : decode code 1090 = .ok (.iconst 1, 1) := by decide +kernel
theorem dL_law_1091 : decode code 1091 = .ok (.iadd, 1) := by decide +kernel
theorem dL_law_1092 : decode code 1092 = .ok (.iaload, 1) := by decide +kernel
theorem dL_law_1093 : decode code 1093 = .ok (.aload_n 0, 1) := by decide +kernel
theorem dL_law_1094 : decode code 1094 = .ok (.iload_n 3, 1) := by decide +kernel
theorem dL_law_1095 : decode code 1095 = .ok (.iconst 2, 1) := by decide +kernel
theorem dL_law_1096 : decode code 1096 = .ok (.iadd, 1) := by decide +kernel
theorem dL_law_1097 : decode code 1097 = .ok (.iaload, 1) := by decide +kernel
theorem dL_law_1098 : decode code 1098 = .ok (.invokevirtual 132, 3) := by decide +kernel
theorem dL_law_1101 : decode code 1101 = .ok (.if_icmp .eq 364, 3) := by decide +kernel
theorem dL_law_1104 : decode code 1104 = .ok (.iconst 0, 1) := by decide +kernel
theorem dL_law_1105 : decode code 1105 = .ok (.ireturn, 1) := by decide +kernel
theorem dL_law_1106 : decode code 1106 = .ok (.aload_n 1, 1) := by decide +kernel
theorem dL_law_1107 : decode code 1107 = .ok (.aload_n 0, 1) := by decide +kernel
theorem dL_law_1108 : decode code 1108 = .ok (.iload_n 3, 1) := by decide +kernel
theorem dL_law_1109 : decode code 1109 = .ok (.iconst 1, 1) := by decide +kernel
theorem dL_law_1110 : decode code 1110 = .ok (.iadd, 1) := by decide +kernel
theorem dL_law_1111 : decode code 1111 = .ok (.iaload, 1) := by decide +kernel
theorem dL_law_1112 : decode code 1112 = .ok (.aload_n 0, 1) := by decide +kernel
theorem dL_law_1113 : decode code 1113 = .ok (.iload_n 3, 1) := by decide +kernel
theorem dL_law_1114 : decode code 1114 = .ok (.iconst 2, 1) := by decide +kernel
theorem dL_law_1115 : decode code 1115 = .ok (.iadd, 1) := by decide +kernel
theorem dL_law_1116 : decode code 1116 = .ok (.iaload, 1) := by decide +kernel
theorem dL_law_1117 : decode code 1117 = .ok (.aload_n 0, 1) := by decide +kernel
theorem dL_law_1118 : decode code 1118 = .ok (.iload_n 3, 1) := by decide +kernel
theorem dL_law_1119 : decode code 1119 = .ok (.iconst 3, 1) := by decide +kernel
theorem dL_law_1120 : decode code 1120 = .ok (.iadd, 1) := by decide +kernel
theorem dL_law_1121 : decode code 1121 = .ok (.iaload, 1) := by decide +kernel
theorem dL_law_1122 : decode code 1122 = .ok (.invokevirtual 133, 3) := by decide +kernel
theorem dL_law_1125 : decode code 1125 = .ok (.aload_n 2, 1) := by decide +kernel
theorem dL_law_1126 : decode code 1126 = .ok (.aload_n 0, 1) := by decide +kernel
theorem dL_law_1127 : decode code 1127 = .ok (.iload_n 3, 1) := by decide +kernel
theorem dL_law_1128 : decode code 1128 = .ok (.iconst 1, 1) := by decide +kernel
theorem dL_law_1129 : decode code 1129 = .ok (.iadd, 1) := by decide +kernel
theorem dL_law_1130 : decode code 1130 = .ok (.iaload, 1) := by decide +kernel
theorem dL_law_1131 : decode code 1131 = .ok (.aload_n 0, 1) := by decide +kernel
theorem dL_law_1132 : decode code 1132 = .ok (.iload_n 3, 1) := by decide +kernel
theorem dL_law_1133 : decode code 1133 = .ok (.iconst 2, 1) := by decide +kernel
theorem dL_law_1134 : decode code 1134 = .ok (.iadd, 1) := by decide +kernel
theorem dL_law_1135 : decode code 1135 = .ok (.iaload, 1) := by decide +kernel
theorem dL_law_1136 : decode code 1136 = .ok (.aload_n 0, 1) := by decide +kernel
theorem dL_law_1137 : decode code 1137 = .ok (.iload_n 3, 1) := by decide +kernel
theorem dL_law_1138 : decode code 1138 = .ok (.iconst 3, 1) := by decide +kernel
theorem dL_law_1139 : decode code 1139 = .ok (.iadd, 1) := by decide +kernel
theorem dL_law_1140 : decode code 1140 = .ok (.iaload, 1) := by decide +kernel
theorem dL_law_1141 : decode code 1141 = .ok (.invokevirtual 136, 3) := by decide +kernel
theorem dL_law_1144 : decode code 1144 = .ok (.if_icmp .eq 321, 3) := by decide +kernel
theorem dL_law_1147 : decode code 1147 = .ok (.iconst 0, 1) := by decide +kernel
theorem dL_law_1148 : decode code 1148 = .ok (.ireturn, 1) := by decide +kernel
theorem dL_law_1149 : decode code 1149 = .ok (.aload_n 1, 1) := by decide +kernel
theorem dL_law_1150 : decode code 1150 = .ok (.aload_n 0, 1) := by decide +kernel
theorem dL_law_1151 : decode code 1151 = .ok (.iload_n 3, 1) := by decide +kernel
theorem dL_law_1152 : decode code 1152 = .ok (.iconst 1, 1) := by decide +kernel
theorem dL_law_1153 : decode code 1153 = .ok (.iadd, 1) := by decide +kernel
theorem dL_law_1154 : decode code 1154 = .ok (.iaload, 1) := by decide +kernel
theorem dL_law_1155 : decode code 1155 = .ok (.aload_n 0, 1) := by decide +kernel
theorem dL_law_1156 : decode code 1156 = .ok (.iload_n 3, 1) := by decide +kernel
theorem dL_law_1157 : decode code 1157 = .ok (.iconst 2, 1) := by decide +kernel
theorem dL_law_1158 : decode code 1158 = .ok (.iadd, 1) := by decide +kernel
theorem dL_law_1159 : decode code 1159 = .ok (.iaload, 1) := by decide +kernel
theorem dL_law_1160 : decode code 1160 = .ok (.invokevirtual 137, 3) := by decide +kernel
theorem dL_law_1163 : decode code 1163 = .ok (.aload_n 2, 1) := by decide +kernel
theorem dL_law_1164 : decode code 1164 = .ok (.aload_n 0, 1) := by decide +kernel
theorem dL_law_1165 : decode code 1165 = .ok (.iload_n 3, 1) := by decide +kernel
theorem dL_law_1166 : decode code 1166 = .ok (.iconst 1, 1) := by decide +kernel
theorem dL_law_1167 : decode code 1167 = .ok (.iadd, 1) := by decide +kernel
theorem dL_law_1168 : decode code 1168 = .ok (.iaload, 1) := by decide +kernel
theorem dL_law_1169 : decode code 1169 = .ok (.aload_n 0, 1) := by decide +kernel
theorem dL_law_1170 : decode code 1170 = .ok (.iload_n 3, 1) := by decide +kernel
theorem dL_law_1171 : decode code 1171 = .ok (.iconst 2, 1) := by decide +kernel
theorem dL_law_1172 : decode code 1172 = .ok (.iadd, 1) := by decide +kernel
theorem dL_law_1173 : decode code 1173 = .ok (.iaload, 1) := by decide +kernel
theorem dL_law_1174 : decode code 1174 = .ok (.invokevirtual 140, 3) := by decide +kernel
theorem dL_law_1177 : decode code 1177 = .ok (.if_icmp .eq 288, 3) := by decide +kernel
theorem dL_law_1180 : decode code 1180 = .ok (.iconst 0, 1) := by decide +kernel
theorem dL_law_1181 : decode code 1181 = .ok (.ireturn, 1) := by decide +kernel
theorem dL_law_1182 : decode code 1182 = .ok (.aload_n 1, 1) := by decide +kernel
theorem dL_law_1183 : decode code 1183 = .ok (.aload_n 0, 1) := by decide +kernel
theorem dL_law_1184 : decode code 1184 = .ok (.iload_n 3, 1) := by decide +kernel
theorem dL_law_1185 : decode code 1185 = .ok (.iconst 1, 1) := by decide +kernel
theorem dL_law_1186 : decode code 1186 = .ok (.iadd, 1) := by decide +kernel
theorem dL_law_1187 : decode code 1187 = .ok (.iaload, 1) := by decide +kernel
theorem dL_law_1188 : decode code 1188 = .ok (.aload_n 0, 1) := by decide +kernel
theorem dL_law_1189 : decode code 1189 = .ok (.iload_n 3, 1) := by decide +kernel
theorem dL_law_1190 : decode code 1190 = .ok (.iconst 2, 1) := by decide +kernel
theorem dL_law_1191 : decode code 1191 = .ok (.iadd, 1) := by decide +kernel
theorem dL_law_1192 : decode code 1192 = .ok (.iaload, 1) := by decide +kernel
theorem dL_law_1193 : decode code 1193 = .ok (.aload_n 0, 1) := by decide +kernel
theorem dL_law_1194 : decode code 1194 = .ok (.iload_n 3, 1) := by decide +kernel
theorem dL_law_1195 : decode code 1195 = .ok (.iconst 3, 1) := by decide +kernel
theorem dL_law_1196 : decode code 1196 = .ok (.iadd, 1) := by decide +kernel
theorem dL_law_1197 : decode code 1197 = .ok (.iaload, 1) := by decide +kernel
theorem dL_law_1198 : decode code 1198 = .ok (.aload_n 0, 1) := by decide +kernel
theorem dL_law_1199 : decode code 1199 = .ok (.iload_n 3, 1) := by decide +kernel
theorem dL_law_1200 : decode code 1200 = .ok (.iconst 4, 1) := by decide +kernel
theorem dL_law_1201 : decode code 1201 = .ok (.iadd, 1) := by decide +kernel
theorem dL_law_1202 : decode code 1202 = .ok (.iaload, 1) := by decide +kernel
theorem dL_law_1203 : decode code 1203 = .ok (.aload_n 0, 1) := by decide +kernel
theorem dL_law_1204 : decode code 1204 = .ok (.iload_n 3, 1) := by decide +kernel
theorem dL_law_1205 : decode code 1205 = .ok (.iconst 5, 1) := by decide +kernel
theorem dL_law_1206 : decode code 1206 = .ok (.iadd, 1) := by decide +kernel
theorem dL_law_1207 : decode code 1207 = .ok (.iaload, 1) := by decide +kernel
theorem dL_law_1208 : decode code 1208 = .ok (.invokevirtual 141, 3) := by decide +kernel
theorem dL_law_1211 : decode code 1211 = .ok (.aload_n 2, 1) := by decide +kernel
theorem dL_law_1212 : decode code 1212 = .ok (.aload_n 0, 1) := by decide +kernel
theorem dL_law_1213 : decode code 1213 = .ok (.iload_n 3, 1) := by decide +kernel
theorem dL_law_1214 : decode code 1214 = .ok (.iconst 1, 1) := by decide +kernel
theorem dL_law_1215 : decode code 1215 = .ok (.iadd, 1) := by decide +kernel
theorem dL_law_1216 : decode code 1216 = .ok (.iaload, 1) := by decide +kernel
theorem dL_law_1217 : decode code 1217 = .ok (.aload_n 0, 1) := by decide +kernel
theorem dL_law_1218 : decode code 1218 = .ok (.iload_n 3, 1) := by decide +kernel
theorem dL_law_1219 : decode code 1219 = .ok (.iconst 2, 1) := by decide +kernel
theorem dL_law_1220 : decode code 1220 = .ok (.iadd, 1) := by decide +kernel
theorem dL_law_1221 : decode code 1221 = .ok (.iaload, 1) := by decide +kernel
theorem dL_law_1222 : decode code 1222 = .ok (.aload_n 0, 1) := by decide +kernel
theorem dL_law_1223 : decode code 1223 = .ok (.iload_n 3, 1) := by decide +kernel
theorem dL_law_1224 : decode code 1224 = .ok (.iconst 3, 1) := by decide +kernel
theorem dL_law_1225 : decode code 1225 = .ok (.iadd, 1) := by decide +kernel
theorem dL_law_1226 : decode code 1226 = .ok (.iaload, 1) := by decide +kernel
theorem dL_law_1227 : decode code 1227 = .ok (.aload_n 0, 1) := by decide +kernel
theorem dL_law_1228 : decode code 1228 = .ok (.iload_n 3, 1) := by decide +kernel
theorem dL_law_1229 : decode code 1229 = .ok (.iconst 4, 1) := by decide +kernel
theorem dL_law_1230 : decode code 1230 = .ok (.iadd, 1) := by decide +kernel
theorem dL_law_1231 : decode code 1231 = .ok (.iaload, 1) := by decide +kernel
theorem dL_law_1232 : decode code 1232 = .ok (.aload_n 0, 1) := by decide +kernel
theorem dL_law_1233 : decode code 1233 = .ok (.iload_n 3, 1) := by decide +kernel
theorem dL_law_1234 : decode code 1234 = .ok (.iconst 5, 1) := by decide +kernel
theorem dL_law_1235 : decode code 1235 = .ok (.iadd, 1) := by decide +kernel
theorem dL_law_1236 : decode code 1236 = .ok (.iaload, 1) := by decide +kernel
theorem dL_law_1237 : decode code 1237 = .ok (.invokevirtual 145, 3) := by decide +kernel
theorem dL_law_1240 : decode code 1240 = .ok (.if_icmp .eq 225, 3) := by decide +kernel
theorem dL_law_1243 : decode code 1243 = .ok (.iconst 0, 1) := by decide +kernel
theorem dL_law_1244 : decode code 1244 = .ok (.ireturn, 1) := by decide +kernel
theorem dL_law_1245 : decode code 1245 = .ok (.aload_n 1, 1) := by decide +kernel
theorem dL_law_1246 : decode code 1246 = .ok (.aload_n 0, 1) := by decide +kernel
theorem dL_law_1247 : decode code 1247 = .ok (.iload_n 3, 1) := by decide +kernel
theorem dL_law_1248 : decode code 1248 = .ok (.iconst 1, 1) := by decide +kernel
theorem dL_law_1249 : decode code 1249 = .ok (.iadd, 1) := by decide +kernel
theorem dL_law_1250 : decode code 1250 = .ok (.iaload, 1) := by decide +kernel
theorem dL_law_1251 : decode code 1251 = .ok (.invokevirtual 146, 3) := by decide +kernel
theorem dL_law_1254 : decode code 1254 = .ok (.aload_n 2, 1) := by decide +kernel
theorem dL_law_1255 : decode code 1255 = .ok (.aload_n 0, 1) := by decide +kernel
theorem dL_law_1256 : decode code 1256 = .ok (.iload_n 3, 1) := by decide +kernel
theorem dL_law_1257 : decode code 1257 = .ok (.iconst 1, 1) := by decide +kernel
theorem dL_law_1258 : decode code 1258 = .ok (.iadd, 1) := by decide +kernel
theorem dL_law_1259 : decode code 1259 = .ok (.iaload, 1) := by decide +kernel
theorem dL_law_1260 : decode code 1260 = .ok (.invokevirtual 149, 3) := by decide +kernel
theorem dL_law_1263 : decode code 1263 = .ok (.if_icmp .eq 202, 3) := by decide +kernel
theorem dL_law_1266 : decode code 1266 = .ok (.iconst 0, 1) := by decide +kernel
theorem dL_law_1267 : decode code 1267 = .ok (.ireturn, 1) := by decide +kernel
theorem dL_law_1268 : decode code 1268 = .ok (.aload_n 1, 1) := by decide +kernel
theorem dL_law_1269 : decode code 1269 = .ok (.invokevirtual 150, 3) := by decide +kernel
theorem dL_law_1272 : decode code 1272 = .ok (.aload_n 2, 1) := by decide +kernel
theorem dL_law_1273 : decode code 1273 = .ok (.invokevirtual 153, 3) := by decide +kernel
theorem dL_law_1276 : decode code 1276 = .ok (.if_icmp .eq 189, 3) := by decide +kernel
theorem dL_law_1279 : decode code 1279 = .ok (.iconst 0, 1) := by decide +kernel
theorem dL_law_1280 : decode code 1280 = .ok (.ireturn, 1) := by decide +kernel
theorem dL_law_1281 : decode code 1281 = .ok (.aload_n 1, 1) := by decide +kernel
theorem dL_law_1282 : decode code 1282 = .ok (.aload_n 0, 1) := by decide +kernel
theorem dL_law_1283 : decode code 1283 = .ok (.iload_n 3, 1) := by decide +kernel
theorem dL_law_1284 : decode code 1284 = .ok (.iconst 1, 1) := by decide +kernel
theorem dL_law_1285 : decode code 1285 = .ok (.iadd, 1) := by decide +kernel
theorem dL_law_1286 : decode code 1286 = .ok (.iaload, 1) := by decide +kernel
theorem dL_law_1287 : decode code 1287 = .ok (.aload_n 0, 1) := by decide +kernel
theorem dL_law_1288 : decode code 1288 = .ok (.iload_n 3, 1) := by decide +kernel
theorem dL_law_1289 : decode code 1289 = .ok (.iconst 2, 1) := by decide +kernel
theorem dL_law_1290 : decode code 1290 = .ok (.iadd, 1) := by decide +kernel
theorem dL_law_1291 : decode code 1291 = .ok (.iaload, 1) := by decide +kernel
theorem dL_law_1292 : decode code 1292 = .ok (.invokevirtual 154, 3) := by decide +kernel
theorem dL_law_1295 : decode code 1295 = .ok (.aload_n 2, 1) := by decide +kernel
theorem dL_law_1296 : decode code 1296 = .ok (.aload_n 0, 1) := by decide +kernel
theorem dL_law_1297 : decode code 1297 = .ok (.iload_n 3, 1) := by decide +kernel
theorem dL_law_1298 : decode code 1298 = .ok (.iconst 1, 1) := by decide +kernel
theorem dL_law_1299 : decode code 1299 = .ok (.iadd, 1) := by decide +kernel
theorem dL_law_1300 : decode code 1300 = .ok (.iaload, 1) := by decide +kernel
theorem dL_law_1301 : decode code 1301 = .ok (.aload_n 0, 1) := by decide +kernel
theorem dL_law_1302 : decode code 1302 = .ok (.iload_n 3, 1) := by decide +kernel
theorem dL_law_1303 : decode code 1303 = .ok (.iconst 2, 1) := by decide +kernel
theorem dL_law_1304 : decode code 1304 = .ok (.iadd, 1) := by decide +kernel
theorem dL_law_1305 : decode code 1305 = .ok (.iaload, 1) := by decide +kernel
theorem dL_law_1306 : decode code 1306 = .ok (.invokevirtual 157, 3) := by decide +kernel
theorem dL_law_1309 : decode code 1309 = .ok (.if_icmp .eq 156, 3) := by decide +kernel
theorem dL_law_1312 : decode code 1312 = .ok (.iconst 0, 1) := by decide +kernel
theorem dL_law_1313 : decode code 1313 = .ok (.ireturn, 1) := by decide +kernel
theorem dL_law_1314 : decode code 1314 = .ok (.aload_n 1, 1) := by decide +kernel
theorem dL_law_1315 : decode code 1315 = .ok (.aload_n 0, 1) := by decide +kernel
theorem dL_law_1316 : decode code 1316 = .ok (.iload_n 3, 1) := by decide +kernel
theorem dL_law_1317 : decode code 1317 = .ok (.iconst 1, 1) := by decide +kernel
theorem dL_law_1318 : decode code 1318 = .ok (.iadd, 1) := by decide +kernel
theorem dL_law_1319 : decode code 1319 = .ok (.iaload, 1) := by decide +kernel
theorem dL_law_1320 : decode code 1320 = .ok (.invokevirtual 158, 3) := by decide +kernel
theorem dL_law_1323 : decode code 1323 = .ok (.aload_n 2, 1) := by decide +kernel
theorem dL_law_1324 : decode code 1324 = .ok (.aload_n 0, 1) := by decide +kernel
theorem dL_law_1325 : decode code 1325 = .ok (.iload_n 3, 1) := by decide +kernel
theorem dL_law_1326 : decode code 1326 = .ok (.iconst 1, 1) := by decide +kernel
theorem dL_law_1327 : decode code 1327 = .ok (.iadd, 1) := by decide +kernel
theorem dL_law_1328 : decode code 1328 = .ok (.iaload, 1) := by decide +kernel
theorem dL_law_1329 : decode code 1329 = .ok (.invokevirtual 161, 3) := by decide +kernel
theorem dL_law_1332 : decode code 1332 = .ok (.if_icmp .eq 133, 3) := by decide +kernel
theorem dL_law_1335 : decode code 1335 = .ok (.iconst 0, 1) := by decide +kernel
theorem dL_law_1336 : decode code 1336 = .ok (.ireturn, 1) := by decide +kernel
theorem dL_law_1337 : decode code 1337 = .ok (.aload_n 1, 1) := by decide +kernel
theorem dL_law_1338 : decode code 1338 = .ok (.invokevirtual 162, 3) := by decide +kernel
theorem dL_law_1341 : decode code 1341 = .ok (.aload_n 2, 1) := by decide +kernel
theorem dL_law_1342 : decode code 1342 = .ok (.invokevirtual 165, 3) := by decide +kernel
theorem dL_law_1345 : decode code 1345 = .ok (.if_icmp .eq 120, 3) := by decide +kernel
theorem dL_law_1348 : decode code 1348 = .ok (.iconst 0, 1) := by decide +kernel
theorem dL_law_1349 : decode code 1349 = .ok (.ireturn, 1) := by decide +kernel
theorem dL_law_1350 : decode code 1350 = .ok (.aload_n 1, 1) := by decide +kernel
theorem dL_law_1351 : decode code 1351 = .ok (.aload_n 0, 1) := by decide +kernel
theorem dL_law_1352 : decode code 1352 = .ok (.iload_n 3, 1) := by decide +kernel
theorem dL_law_1353 : decode code 1353 = .ok (.iconst 1, 1) := by decide +kernel
theorem dL_law_1354 : decode code 1354 = .ok (.iadd, 1) := by decide +kernel
theorem dL_law_1355 : decode code 1355 = .ok (.iaload, 1) := by decide +kernel
theorem dL_law_1356 : decode code 1356 = .ok (.aload_n 0, 1) := by decide +kernel
theorem dL_law_1357 : decode code 1357 = .ok (.iload_n 3, 1) := by decide +kernel
theorem dL_law_1358 : decode code 1358 = .ok (.iconst 2, 1) := by decide +kernel
theorem dL_law_1359 : decode code 1359 = .ok (.iadd, 1) := by decide +kernel
theorem dL_law_1360 : decode code 1360 = .ok (.iaload, 1) := by decide +kernel
theorem dL_law_1361 : decode code 1361 = .ok (.aload_n 0, 1) := by decide +kernel
theorem dL_law_1362 : decode code 1362 = .ok (.iload_n 3, 1) := by decide +kernel
theorem dL_law_1363 : decode code 1363 = .ok (.iconst 3, 1) := by decide +kernel
theorem dL_law_1364 : decode code 1364 = .ok (.iadd, 1) := by decide +kernel
theorem dL_law_1365 : decode code 1365 = .ok (.iaload, 1) := by decide +kernel
theorem dL_law_1366 : decode code 1366 = .ok (.invokevirtual 166, 3) := by decide +kernel
theorem dL_law_1369 : decode code 1369 = .ok (.aload_n 2, 1) := by decide +kernel
theorem dL_law_1370 : decode code 1370 = .ok (.aload_n 0, 1) := by decide +kernel
theorem dL_law_1371 : decode code 1371 = .ok (.iload_n 3, 1) := by decide +kernel
theorem dL_law_1372 : decode code 1372 = .ok (.iconst 1, 1) := by decide +kernel
theorem dL_law_1373 : decode code 1373 = .ok (.iadd, 1) := by decide +kernel
theorem dL_law_1374 : decode code 1374 = .ok (.iaload, 1) := by decide +kernel
theorem dL_law_1375 : decode code 1375 = .ok (.aload_n 0, 1) := by decide +kernel
theorem dL_law_1376 : decode code 1376 = .ok (.iload_n 3, 1) := by decide +kernel
theorem dL_law_1377 : decode code 1377 = .ok (.iconst 2, 1) := by decide +kernel
theorem dL_law_1378 : decode code 1378 = .ok (.iadd, 1) := by decide +kernel
theorem dL_law_1379 : decode code 1379 = .ok (.iaload, 1) := by decide +kernel
theorem dL_law_1380 : decode code 1380 = .ok (.aload_n 0, 1) := by decide +kernel
theorem dL_law_1381 : decode code 1381 = .ok (.iload_n 3, 1) := by decide +kernel
theorem dL_law_1382 : decode code 1382 = .ok (.iconst 3, 1) := by decide +kernel
theorem dL_law_1383 : decode code 1383 = .ok (.iadd, 1) := by decide +kernel
theorem dL_law_1384 : decode code 1384 = .ok (.iaload, 1) := by decide +kernel
theorem dL_law_1385 : decode code 1385 = .ok (.invokevirtual 169, 3) := by decide +kernel
theorem dL_law_1388 : decode code 1388 = .ok (.if_icmp .eq 77, 3) := by decide +kernel
theorem dL_law_1391 : decode code 1391 = .ok (.iconst 0, 1) := by decide +kernel
theorem dL_law_1392 : decode code 1392 = .ok (.ireturn, 1) := by decide +kernel
theorem dL_law_1393 : decode code 1393 = .ok (.aload_n 1, 1) := by decide +kernel
theorem dL_law_1394 : decode code 1394 = .ok (.aload_n 0, 1) := by decide +kernel
theorem dL_law_1395 : decode code 1395 = .ok (.iload_n 3, 1) := by decide +kernel
theorem dL_law_1396 : decode code 1396 = .ok (.iconst 1, 1) := by decide +kernel
theorem dL_law_1397 : decode code 1397 = .ok (.iadd, 1) := by decide +kernel
theorem dL_law_1398 : decode code 1398 = .ok (.iaload, 1) := by decide +kernel
theorem dL_law_1399 : decode code 1399 = .ok (.invokevirtual 170, 3) := by decide +kernel
theorem dL_law_1402 : decode code 1402 = .ok (.aload_n 2, 1) := by decide +kernel
theorem dL_law_1403 : decode code 1403 = .ok (.aload_n 0, 1) := by decide +kernel
theorem dL_law_1404 : decode code 1404 = .ok (.iload_n 3, 1) := by decide +kernel
theorem dL_law_1405 : decode code 1405 = .ok (.iconst 1, 1) := by decide +kernel
theorem dL_law_1406 : decode code 1406 = .ok (.iadd, 1) := by decide +kernel
theorem dL_law_1407 : decode code 1407 = .ok (.iaload, 1) := by decide +kernel
theorem dL_law_1408 : decode code 1408 = .ok (.invokevirtual 173, 3) := by decide +kernel
theorem dL_law_1411 : decode code 1411 = .ok (.if_icmp .eq 54, 3) := by decide +kernel
theorem dL_law_1414 : decode code 1414 = .ok (.iconst 0, 1) := by decide +kernel
theorem dL_law_1415 : decode code 1415 = .ok (.ireturn, 1) := by decide +kernel
theorem dL_law_1416 : decode code 1416 = .ok (.aload_n 1, 1) := by decide +kernel
theorem dL_law_1417 : decode code 1417 = .ok (.invokevirtual 174, 3) := by decide +kernel
theorem dL_law_1420 : decode code 1420 = .ok (.aload_n 2, 1) := by decide +kernel
theorem dL_law_1421 : decode code 1421 = .ok (.invokevirtual 177, 3) := by decide +kernel
theorem dL_law_1424 : decode code 1424 = .ok (.if_icmp .eq 41, 3) := by decide +kernel
theorem dL_law_1427 : decode code 1427 = .ok (.iconst 0, 1) := by decide +kernel
theorem dL_law_1428 : decode code 1428 = .ok (.ireturn, 1) := by decide +kernel
theorem dL_law_1429 : decode code 1429 = .ok (.aload_n 1, 1) := by decide +kernel
theorem dL_law_1430 : decode code 1430 = .ok (.invokevirtual 178, 3) := by decide +kernel
theorem dL_law_1433 : decode code 1433 = .ok (.aload_n 2, 1) := by decide +kernel
theorem dL_law_1434 : decode code 1434 = .ok (.invokevirtual 181, 3) := by decide +kernel
theorem dL_law_1437 : decode code 1437 = .ok (.if_icmp .eq 28, 3) := by decide +kernel
theorem dL_law_1440 : decode code 1440 = .ok (.iconst 0, 1) := by decide +kernel
theorem dL_law_1441 : decode code 1441 = .ok (.ireturn, 1) := by decide +kernel
theorem dL_law_1442 : decode code 1442 = .ok (.aload_n 1, 1) := by decide +kernel
theorem dL_law_1443 : decode code 1443 = .ok (.aload_n 0, 1) := by decide +kernel
theorem dL_law_1444 : decode code 1444 = .ok (.iload_n 3, 1) := by decide +kernel
theorem dL_law_1445 : decode code 1445 = .ok (.iconst 1, 1) := by decide +kernel
theorem dL_law_1446 : decode code 1446 = .ok (.iadd, 1) := by decide +kernel
theorem dL_law_1447 : decode code 1447 = .ok (.iaload, 1) := by decide +kernel
theorem dL_law_1448 : decode code 1448 = .ok (.invokevirtual 182, 3) := by decide +kernel
theorem dL_law_1451 : decode code 1451 = .ok (.aload_n 2, 1) := by decide +kernel
theorem dL_law_1452 : decode code 1452 = .ok (.aload_n 0, 1) := by decide +kernel
theorem dL_law_1453 : decode code 1453 = .ok (.iload_n 3, 1) := by decide +kernel
theorem dL_law_1454 : decode code 1454 = .ok (.iconst 1, 1) := by decide +kernel
theorem dL_law_1455 : decode code 1455 = .ok (.iadd, 1) := by decide +kernel
theorem dL_law_1456 : decode code 1456 = .ok (.iaload, 1) := by decide +kernel
theorem dL_law_1457 : decode code 1457 = .ok (.invokevirtual 185, 3) := by decide +kernel
theorem dL_law_1460 : decode code 1460 = .ok (.if_icmp .eq 5, 3) := by decide +kernel
theorem dL_law_1463 : decode code 1463 = .ok (.iconst 0, 1) := by decide +kernel
theorem dL_law_1464 : decode code 1464 = .ok (.ireturn, 1) := by decide +kernel
theorem dL_law_1465 : decode code 1465 = .ok (.iinc 3 6, 3) := by decide +kernel
theorem dL_law_1468 : decode code 1468 = .ok (.goto (-1450), 3) := by decide +kernel
theorem dL_law_1471 : decode code 1471 = .ok (.iconst 1, 1) := by decide +kernel
theorem dL_law_1472 : decode code 1472 = .ok (.ireturn, 1) := by decide +kernel
def Op_land (Inv : Nat → Mem → Prop) : Prop := ∀ (n : Nat) (M : Mem) (v0 : Int32) (v1 : Int32) (v2 : Int32), n < 512 → Inv n M → ∃ r : Int32, ∃ M1 : Mem, ∃ M2 : Mem, f_CF_land_0 v0 v1 v2 M = some (r, M1) ∧ f_Mo_land_94 v0 v1 v2 M1 = some (r, M2) ∧ Inv (n + 1) M2
def Op_cost (Inv : Nat → Mem → Prop) : Prop := ∀ (n : Nat) (M : Mem) (v0 : Int32) (v1 : Int32), n < 512 → Inv n M → ∃ r : Int32, f_CF_cost_0 v0 v1 M = some r ∧ f_Mo_cost_94 v0 v1 M = some r ∧ Inv (n + 1) M
def Op_house (Inv : Nat → Mem → Prop) : Prop := ∀ (n : Nat) (M : Mem) (v0 : Int32), n < 512 → Inv n M → ∃ r : Int32, ∃ M1 : Mem, ∃ M2 : Mem, f_CF_house_0 v0 M = some (r, M1) ∧ f_Mo_house_94 v0 M1 = some (r, M2) ∧ Inv (n + 1) M2
def Op_farm (Inv : Nat → Mem → Prop) : Prop := ∀ (n : Nat) (M : Mem) (v0 : Int32) (v1 : Int32), n < 512 → Inv n M → ∃ r : Int32, ∃ M1 : Mem, ∃ M2 : Mem, f_CF_farm_0 v0 v1 M = some (r, M1) ∧ f_Mo_farm_94 v0 v1 M1 = some (r, M2) ∧ Inv (n + 1) M2
def Op_month (Inv : Nat → Mem → Prop) : Prop := ∀ (n : Nat) (M : Mem) (v0 : Int32), n < 512 → Inv n M → ∃ r : Int32, ∃ M1 : Mem, ∃ M2 : Mem, f_CF_month_0 v0 M = some (r, M1) ∧ f_Mo_month_94 v0 M1 = some (r, M2) ∧ Inv (n + 1) M2
def Op_sign (Inv : Nat → Mem → Prop) : Prop := ∀ (n : Nat) (M : Mem) (v0 : Int32) (v1 : Int32) (v2 : Int32) (v3 : Int32), n < 512 → Inv n M → ∃ r : Int32, ∃ M1 : Mem, ∃ M2 : Mem, f_CF_sign_0 v0 v1 v2 v3 M = some (r, M1) ∧ f_Mo_sign_94 v0 v1 v2 v3 M1 = some (r, M2) ∧ Inv (n + 1) M2
def Op_strike (Inv : Nat → Mem → Prop) : Prop := ∀ (n : Nat) (M : Mem) (v0 : Int32), n < 512 → Inv n M → ∃ r : Int32, ∃ M1 : Mem, ∃ M2 : Mem, f_CF_strike_0 v0 M = some (r, M1) ∧ f_Mo_strike_94 v0 M1 = some (r, M2) ∧ Inv (n + 1) M2
def Op_as (Inv : Nat → Mem → Prop) : Prop := ∀ (n : Nat) (M : Mem) (v0 : Int32) (v1 : Int32) (v2 : Int32), n < 512 → Inv n M → ∃ r : Int32, ∃ M1 : Mem, ∃ M2 : Mem, f_CF_as_0 v0 v1 v2 M = some (r, M1) ∧ f_Mo_as_94 v0 v1 v2 M1 = some (r, M2) ∧ Inv (n + 1) M2
def Op_many (Inv : Nat → Mem → Prop) : Prop := ∀ (n : Nat) (M : Mem) (v0 : Int32) (v1 : Int32) (v2 : Int32), n < 512 → Inv n M → ∃ r : Int32, ∃ M1 : Mem, ∃ M2 : Mem, f_CF_many_0 v0 v1 v2 M = some (r, M1) ∧ f_Mo_many_94 v0 v1 v2 M1 = some (r, M2) ∧ Inv (n + 1) M2
def Op_tip (Inv : Nat → Mem → Prop) : Prop := ∀ (n : Nat) (M : Mem) (v0 : Int32), n < 512 → Inv n M → ∃ r : Int32, ∃ M1 : Mem, ∃ M2 : Mem, f_CF_tip_0 v0 M = some (r, M1) ∧ f_Mo_tip_94 v0 M1 = some (r, M2) ∧ Inv (n + 1) M2
def Op_feed (Inv : Nat → Mem → Prop) : Prop := ∀ (n : Nat) (M : Mem) (v0 : Int64) (v1 : Int32), n < 512 → Inv n M → ∃ r : Int32, ∃ M1 : Mem, ∃ M2 : Mem, f_CF_feed_0 v0 v1 M = some (r, M1) ∧ f_Mo_feed_94 v0 v1 M1 = some (r, M2) ∧ Inv (n + 1) M2
def Op_text (Inv : Nat → Mem → Prop) : Prop := ∀ (n : Nat) (M : Mem) (v0 : Int32), n < 512 → Inv n M → ∃ r : Int32, ∃ M1 : Mem, ∃ M2 : Mem, f_CF_text_0 v0 M = some (r, M1) ∧ f_Mo_text_94 v0 M1 = some (r, M2) ∧ Inv (n + 1) M2
def Op_force (Inv : Nat → Mem → Prop) : Prop := ∀ (n : Nat) (M : Mem) (v0 : Int32) (v1 : Int32) (v2 : Int32) (v3 : Int32), n < 512 → Inv n M → ∃ r : Int32, ∃ M1 : Mem, ∃ M2 : Mem, f_CF_force_0 v0 v1 v2 v3 M = some (r, M1) ∧ f_Mo_force_94 v0 v1 v2 v3 M1 = some (r, M2) ∧ Inv (n + 1) M2
def Op_why (Inv : Nat → Mem → Prop) : Prop := ∀ (n : Nat) (M : Mem) (v0 : Int32) (v1 : Int32) (v2 : Int32) (v3 : Int32), n < 512 → Inv n M → ∃ r : Int32, ∃ M1 : Mem, ∃ M2 : Mem, f_CF_why_0 v0 v1 v2 v3 M = some (r, M1) ∧ f_Mo_why_94 v0 v1 v2 v3 M1 = some (r, M2) ∧ Inv (n + 1) M2
def Op_line (Inv : Nat → Mem → Prop) : Prop := ∀ (n : Nat) (M : Mem) (v0 : Int32) (v1 : Int32), n < 512 → Inv n M → ∃ r : Int32, ∃ M1 : Mem, ∃ M2 : Mem, f_CF_line_0 v0 v1 M = some (r, M1) ∧ f_Mo_line_94 v0 v1 M1 = some (r, M2) ∧ Inv (n + 1) M2
def Op_clear (Inv : Nat → Mem → Prop) : Prop := ∀ (n : Nat) (M : Mem) , n < 512 → Inv n M → ∃ r : Int32, ∃ M1 : Mem, ∃ M2 : Mem, f_CF_clear_0 M = some (r, M1) ∧ f_Mo_clear_94 M1 = some (r, M2) ∧ Inv (n + 1) M2
def Op_best (Inv : Nat → Mem → Prop) : Prop := ∀ (n : Nat) (M : Mem) (v0 : Int32), n < 512 → Inv n M → ∃ r : Int32, ∃ M1 : Mem, ∃ M2 : Mem, f_CF_best_0 v0 M = some (r, M1) ∧ f_Mo_best_94 v0 M1 = some (r, M2) ∧ Inv (n + 1) M2
def Op_mile (Inv : Nat → Mem → Prop) : Prop := ∀ (n : Nat) (M : Mem) (v0 : Int32), n < 512 → Inv n M → ∃ r : Int32, ∃ M1 : Mem, ∃ M2 : Mem, f_CF_mile_0 v0 M = some (r, M1) ∧ f_Mo_mile_94 v0 M1 = some (r, M2) ∧ Inv (n + 1) M2
def Op_span (Inv : Nat → Mem → Prop) : Prop := ∀ (n : Nat) (M : Mem) (v0 : Int32), n < 512 → Inv n M → ∃ r : Int32, ∃ M1 : Mem, ∃ M2 : Mem, f_CF_span_0 v0 M = some (r, M1) ∧ f_Mo_span_94 v0 M1 = some (r, M2) ∧ Inv (n + 1) M2
def Op_pole (Inv : Nat → Mem → Prop) : Prop := ∀ (n : Nat) (M : Mem) (v0 : Int32), n < 512 → Inv n M → ∃ r : Int32, ∃ M1 : Mem, ∃ M2 : Mem, f_CF_pole_0 v0 M = some (r, M1) ∧ f_Mo_pole_94 v0 M1 = some (r, M2) ∧ Inv (n + 1) M2
def Op_left (Inv : Nat → Mem → Prop) : Prop := ∀ (n : Nat) (M : Mem) , n < 512 → Inv n M → ∃ r : Int32, ∃ M1 : Mem, ∃ M2 : Mem, f_CF_left_0 M = some (r, M1) ∧ f_Mo_left_94 M1 = some (r, M2) ∧ Inv (n + 1) M2
def Op_next (Inv : Nat → Mem → Prop) : Prop := ∀ (n : Nat) (M : Mem) (v0 : Int32) (v1 : Int32), n < 512 → Inv n M → ∃ r : Int32, ∃ M1 : Mem, ∃ M2 : Mem, f_CF_next_0 v0 v1 M = some (r, M1) ∧ f_Mo_next_94 v0 v1 M1 = some (r, M2) ∧ Inv (n + 1) M2
def Op_wire (Inv : Nat → Mem → Prop) : Prop := ∀ (n : Nat) (M : Mem) (v0 : Int32), n < 512 → Inv n M → ∃ r : Int32, ∃ M1 : Mem, ∃ M2 : Mem, f_CF_wire_0 v0 M = some (r, M1) ∧ f_Mo_wire_94 v0 M1 = some (r, M2) ∧ Inv (n + 1) M2
def Op_volt (Inv : Nat → Mem → Prop) : Prop := ∀ (n : Nat) (M : Mem) (v0 : Int32), n < 512 → Inv n M → ∃ r : Int32, ∃ M1 : Mem, ∃ M2 : Mem, f_CF_volt_0 v0 M = some (r, M1) ∧ f_Mo_volt_94 v0 M1 = some (r, M2) ∧ Inv (n + 1) M2
def Op_lose (Inv : Nat → Mem → Prop) : Prop := ∀ (n : Nat) (M : Mem) (v0 : Int32), n < 512 → Inv n M → ∃ r : Int32, ∃ M1 : Mem, ∃ M2 : Mem, f_CF_lose_0 v0 M = some (r, M1) ∧ f_Mo_lose_94 v0 M1 = some (r, M2) ∧ Inv (n + 1) M2
def Op_read (Inv : Nat → Mem → Prop) : Prop := ∀ (n : Nat) (M : Mem) (v0 : Int32) (v1 : Int32) (v2 : Int32), n < 512 → Inv n M → ∃ r : Int32, ∃ M1 : Mem, ∃ M2 : Mem, f_CF_read_0 v0 v1 v2 M = some (r, M1) ∧ f_Mo_read_94 v0 v1 v2 M1 = some (r, M2) ∧ Inv (n + 1) M2
def Op_units (Inv : Nat → Mem → Prop) : Prop := ∀ (n : Nat) (M : Mem) (v0 : Int32) (v1 : Int32), n < 512 → Inv n M → ∃ r : Int32, ∃ M1 : Mem, ∃ M2 : Mem, f_CF_units_0 v0 v1 M = some (r, M1) ∧ f_Mo_units_94 v0 v1 M1 = some (r, M2) ∧ Inv (n + 1) M2
def Op_bill (Inv : Nat → Mem → Prop) : Prop := ∀ (n : Nat) (M : Mem) (v0 : Int32) (v1 : Int32), n < 512 → Inv n M → ∃ r : Int32, ∃ M1 : Mem, ∃ M2 : Mem, f_CF_bill_0 v0 v1 M = some (r, M1) ∧ f_Mo_bill_94 v0 v1 M1 = some (r, M2) ∧ Inv (n + 1) M2
def Op_pay (Inv : Nat → Mem → Prop) : Prop := ∀ (n : Nat) (M : Mem) (v0 : Int32) (v1 : Int32) (v2 : Int32), n < 512 → Inv n M → ∃ r : Int32, ∃ M1 : Mem, ∃ M2 : Mem, f_CF_pay_0 v0 v1 v2 M = some (r, M1) ∧ f_Mo_pay_94 v0 v1 v2 M1 = some (r, M2) ∧ Inv (n + 1) M2
def Op_owe (Inv : Nat → Mem → Prop) : Prop := ∀ (n : Nat) (M : Mem) (v0 : Int32) (v1 : Int32), n < 512 → Inv n M → ∃ r : Int32, ∃ M1 : Mem, ∃ M2 : Mem, f_CF_owe_0 v0 v1 M = some (r, M1) ∧ f_Mo_owe_94 v0 v1 M1 = some (r, M2) ∧ Inv (n + 1) M2
def Op_loan (Inv : Nat → Mem → Prop) : Prop := ∀ (n : Nat) (M : Mem) (v0 : Int32) (v1 : Int32) (v2 : Int32) (v3 : Int32) (v4 : Int32), n < 512 → Inv n M → ∃ r : Int32, ∃ M1 : Mem, ∃ M2 : Mem, f_CF_loan_0 v0 v1 v2 v3 v4 M = some (r, M1) ∧ f_Mo_loan_94 v0 v1 v2 v3 v4 M1 = some (r, M2) ∧ Inv (n + 1) M2
def Op_due (Inv : Nat → Mem → Prop) : Prop := ∀ (n : Nat) (M : Mem) (v0 : Int32), n < 512 → Inv n M → ∃ r : Int32, f_CF_due_0 v0 M = some r ∧ f_Mo_due_94 v0 M = some r ∧ Inv (n + 1) M
def Op_cannot (Inv : Nat → Mem → Prop) : Prop := ∀ (n : Nat) (M : Mem) , n < 512 → Inv n M → ∃ r : Int32, f_CF_cannot_0 M = some r ∧ f_Mo_cannot_94 M = some r ∧ Inv (n + 1) M
def Op_storm (Inv : Nat → Mem → Prop) : Prop := ∀ (n : Nat) (M : Mem) (v0 : Int32) (v1 : Int32), n < 512 → Inv n M → ∃ r : Int32, ∃ M1 : Mem, ∃ M2 : Mem, f_CF_storm_0 v0 v1 M = some (r, M1) ∧ f_Mo_storm_94 v0 v1 M1 = some (r, M2) ∧ Inv (n + 1) M2
def Op_order (Inv : Nat → Mem → Prop) : Prop := ∀ (n : Nat) (M : Mem) (v0 : Int32), n < 512 → Inv n M → ∃ r : Int32, ∃ M1 : Mem, ∃ M2 : Mem, f_CF_order_0 v0 M = some (r, M1) ∧ f_Mo_order_94 v0 M1 = some (r, M2) ∧ Inv (n + 1) M2
def Op_fix (Inv : Nat → Mem → Prop) : Prop := ∀ (n : Nat) (M : Mem) , n < 512 → Inv n M → ∃ r : Int32, ∃ M1 : Mem, ∃ M2 : Mem, f_CF_fix_0 M = some (r, M1) ∧ f_Mo_fix_94 M1 = some (r, M2) ∧ Inv (n + 1) M2
def Op_spite (Inv : Nat → Mem → Prop) : Prop := ∀ (n : Nat) (M : Mem) (v0 : Int32) (v1 : Int32) (v2 : Int32), n < 512 → Inv n M → ∃ r : Int32, ∃ M1 : Mem, ∃ M2 : Mem, f_CF_spite_0 v0 v1 v2 M = some (r, M1) ∧ f_Mo_spite_94 v0 v1 v2 M1 = some (r, M2) ∧ Inv (n + 1) M2
def Op_tried (Inv : Nat → Mem → Prop) : Prop := ∀ (n : Nat) (M : Mem) (v0 : Int32), n < 512 → Inv n M → ∃ r : Int32, ∃ M1 : Mem, ∃ M2 : Mem, f_CF_tried_0 v0 M = some (r, M1) ∧ f_Mo_tried_94 v0 M1 = some (r, M2) ∧ Inv (n + 1) M2
def Op_image (Inv : Nat → Mem → Prop) : Prop := ∀ (n : Nat) (M : Mem) , n < 512 → Inv n M → ∃ r : Int32, ∃ M1 : Mem, ∃ M2 : Mem, f_CF_image_0 M = some (r, M1) ∧ f_Mo_image_94 M1 = some (r, M2) ∧ Inv (n + 1) M2
def Op_undo (Inv : Nat → Mem → Prop) : Prop := ∀ (n : Nat) (M : Mem) , n < 512 → Inv n M → ∃ r : Int32, ∃ M1 : Mem, ∃ M2 : Mem, f_CF_undo_0 M = some (r, M1) ∧ f_Mo_undo_94 M1 = some (r, M2) ∧ Inv (n + 1) M2
def Op_count (Inv : Nat → Mem → Prop) : Prop := ∀ (n : Nat) (M : Mem) (v0 : Int32), n < 512 → Inv n M → ∃ r : Int32, f_CF_count_0 v0 M = some r ∧ f_Mo_count_94 v0 M = some r ∧ Inv (n + 1) M
def OPS (Inv : Nat → Mem → Prop) : Prop := (∀ n M, Inv n M → Inv (n + 1) M) ∧ Op_land Inv ∧ Op_cost Inv ∧ Op_house Inv ∧ Op_farm Inv ∧ Op_month Inv ∧ Op_sign Inv ∧ Op_strike Inv ∧ Op_as Inv ∧ Op_many Inv ∧ Op_tip Inv ∧ Op_feed Inv ∧ Op_text Inv ∧ Op_force Inv ∧ Op_why Inv ∧ Op_line Inv ∧ Op_clear Inv ∧ Op_best Inv ∧ Op_mile Inv ∧ Op_span Inv ∧ Op_pole Inv ∧ Op_left Inv ∧ Op_next Inv ∧ Op_wire Inv ∧ Op_volt Inv ∧ Op_lose Inv ∧ Op_read Inv ∧ Op_units Inv ∧ Op_bill Inv ∧ Op_pay Inv ∧ Op_owe Inv ∧ Op_loan Inv ∧ Op_due Inv ∧ Op_cannot Inv ∧ Op_storm Inv ∧ Op_order Inv ∧ Op_fix Inv ∧ Op_spite Inv ∧ Op_tried Inv ∧ Op_image Inv ∧ Op_undo Inv ∧ Op_count Inv
def LawW (D : va_G) (ad : Nat → Nat) (cI cJ : ClassId) (s : State) (M : Mem) : Heap → List Loc → Prop := fun H locs => va_P D vcl (tb ad cI cJ M) H ∧ va_S (fun q => s.heap.size ≤ q) s.heap H locs
def LawB (D : va_G) (ad adK adV : Nat → Nat) (cI cJ : ClassId) (p : Program) (s : State) (m : MethodId) (args : Array Value) (meth : Method) (c : Code) : Prop := Bg D cI cJ p s m args meth c "CurrentFarmsLaw" code 4 ret ∧ Inj ad ∧ (∀ i, i < 117 → s.heap.size ≤ ad i) ∧ SX adK adV (fun q => s.heap.size ≤ q) s
theorem SX.narrow {adK adV : Nat → Nat} {A B : Nat → Prop} {s : State} (h : SX adK adV A s) (hAB : ∀ q, B q → A q) : SX adK adV B s := ⟨fun i hi => (h.1 i hi).narrow hAB, h.2.1, h.2.2.1.narrow hAB, h.2.2.2.narrow hAB⟩
section XL
variable {D : va_G} {ad adK adV : Nat → Nat} {cI cJ : ClassId} {p : Program} {l : Launch} {e : Env} {s : State} {m : MethodId} {args : Array Value} {below : List Frame} {meth : Method} {c : Code} {Q : State → Prop}
variable {M M' : Mem} {pc : Nat} {lv : List (Nat × Value)} {st st' : List Value} {b L : Nat} {xs : Nat → Int32} {k n : Nat}
theorem l_slen (B : LawB D ad adK adV cI cJ p s m args meth c) (hX : va_X b L xs s s.heap) (hbl : b < s.heap.size) (hd : decode code pc = .ok (.arraylength, 1)) (kk : GG p l e room_1 s m args below meth c Q 4 k n (LawW D ad cI cJ s M) (pc + 1) lv (.int (nI L) :: st)) : GG p l e room_1 s m args below meth c Q 4 k n (LawW D ad cI cJ s M) pc lv (.ref b :: st) := fun H locs ls hP h => va_slen B.1.1.1 B.1.1.2.1 hX hbl (Nat.not_le.mpr hbl) hP.2 hd (kk H locs ls hP h)
theorem l_sld (B : LawB D ad adK adV cI cJ p s m args meth c) (hX : va_X b L xs s s.heap) (hbl : b < s.heap.size) {i : Int32} (hi : inb i L = true) (hd : decode code pc = .ok (.iaload, 1)) (kk : GG p l e room_1 s m args below meth c Q 4 k n (LawW D ad cI cJ s M) (pc + 1) lv (.int (xs i.toNatClampNeg) :: st)) : GG p l e room_1 s m args below meth c Q 4 k n (LawW D ad cI cJ s M) pc lv (.int i :: .ref b :: st) := fun H locs ls hP h => va_sld B.1.1.1 B.1.1.2.1 hX hbl (Nat.not_le.mpr hbl) hP.2 (inb_in hi) hd (kk H locs ls hP h)
theorem l_call (B : LawB D ad adK adV cI cJ p s m args meth c) {y : MethodName} {bytes : ByteArray} {maxL fr lo na index : Nat} {rt : Option FieldType} {As rest : List Value} {rv : Option Value} {j ci : Nat} {fs : (Nat → Nat) → Mem → List Value} {C : String} {T : u_T} {N : Nat} (ho : ObjI j ci fs) (hc : vcl[ci]? = some (C, T, N)) (C0 : Ct D ad adK adV cI cJ l y bytes maxL rt fr lo (.ref (ad j) :: As) M rv M') (hcode : Cond.code y bytes maxL rt ∈ lw_good) (hlink : Cond.methodLink "CurrentFarmsLaw" index y ∈ lw_good) (hinst : Cond.instanceMethod y ∈ lw_good) (hsel : Cond.selects C y y ∈ lw_good) (hini : Cond.initialized y.cls ∈ lw_good) (hd2 : y.cls ≠ "java/lang/invoke/MethodHandle" ∧ y.cls ≠ "java/lang/invoke/VarHandle" ∧ (parseMethodDescriptor y.desc).map (fun d => d.parameters.length) = some na) (hR : fr + 1 ≤ 2048 ∧ 8 + (maxL + 11) + lo ≤ 84000) (hkn : k ≤ 600000 ∧ n ≤ 7302250) (hn : As.length = na) (hst : st = As.reverse ++ .ref (ad j) :: rest) (hwd : (rest.map fun v => v.category).sum ≤ 8) (hst2 : rv.toList ++ rest = st') (hd : decode code pc = .ok (.invokevirtual index, 3))
    (kk : GG p l e room_1 s m args below meth c Q 4 k n (LawW D ad cI cJ s M') (pc + 3) lv st') : GG p l e room_1 s m args below meth c Q 4 k n (LawW D ad cI cJ s M) pc lv st := by
  subst hst
  subst hst2
  intro H locs ls hP h
  obtain ⟨B1, hI, hA, hX⟩ := B
  have hAd : ∀ q, Ad ad q → s.heap.size ≤ q := fun q hq => by
    obtain ⟨i, hi, rfl⟩ := hq
    exact hA i hi
  have hW : ∀ U : State, U.heap = H → s.WarmedH U.vm → Wd D ad adK adV cI cJ M U := fun U hU hW => ⟨by rw [hU]; exact hP.1, va_K.moved hW.alike B1.2.2.1, fun w hw => by
    have h1 := B1.2.2.2.1 w hw
    have h2 := (List.mem_filter.mp hw).2
    cases w <;> first | (cases h2; done) | exact va_Nw.warmM hW h1, hI, (SX.go hX hP.2 hU hW).narrow hAd⟩
  have hr := va_runV (p := p) (l := l) (e := e) (R := room_1) (s := s) (m := m) (args := args) (below := below) (meth := meth) (c := c) (H := H) (locs := locs) (cells := k) (slots := n) (rest := rest) (g := F0 m pc ls (As.reverse ++ .ref (ad j) :: rest)) ⟨B1.1.1, B1.1.2.1, B1.1.2.2.1, B1.1.2.2.2, B1.2.1⟩ C0 ⟨callB_of na (fun w hw => (List.mem_cons.mp hw).elim (fun h9 => h9 ▸ B1.2.1 _ hcode) (B1.2.1 w)) (gin (w0 := Cond.code y bytes maxL rt) hcode) rfl rfl rfl (B1.2.1 _ hini) (B1.2.1 _ hlink) hd2 hR, B1.2.1 _ hinst, B1.2.1 _ hsel⟩ ⟨blind_Wd, va_recv B1.2.2.1 hP.1 hc (ho ad cI cJ M), fun U hU hW2 => ⟨rfl, hW U hU hW2⟩⟩ rfl hn h.1 rfl (lv_room hwd) hd hkn
  intro T0 hT X
  obtain ⟨v, st₀, t, T', L0, h0, X', hL, e1, e2, ⟨⟨hv, hb⟩, hz, hk⟩, hst⟩ := hr T0 hT X
  cases hv
  rw [h0] at hz hk
  obtain ⟨t2, a1, b1⟩ := kk T'.heap (locs ++ L0) ls ⟨by rw [e1]; exact hb,
    ⟨Nat.le_trans hP.2.1 (by rw [e1]; exact hz), fun q h1 h2 => by rw [e1, hk q (Nat.lt_of_lt_of_le h1 hP.2.1) (fun z => h2 (hAd q z))]; exact hP.2.2.1 q h1 h2, fun q hq => by
      rcases List.mem_append.mp hq with h | h
      · exact hP.2.2.2 q h
      · exact hAd _ (hL q h)⟩⟩ h T' rfl X'
  exact ⟨t2, hst t2 a1, b1⟩
theorem l_in {n k L : Nat} (hk : k < 6) (h : 6 * n + 6 ≤ L) (hL : L ≤ 3072) : inb (nI (6 * n) + nI k) L = true := s_inb (6 * n) k L (by omega) (by omega) (by omega)
end XL
set_option maxHeartbeats 4000000 in
set_option maxRecDepth 20000 in
theorem L_land {D : va_G} {ad adK adV : Nat → Nat} {cI cJ : ClassId} {p : Program} {l : Launch} {e : Env} {s : State} {m : MethodId} {below : List Frame} {meth : Method} {c : Code} {b L : Nat} {xs : Nat → Int32} (B : LawB D ad adK adV cI cJ p s m #[Value.ref b] meth c) (hX : va_X b L xs s s.heap) (hbl : b < s.heap.size) (hL : L ≤ 3072) {Inv : Nat → Mem → Prop} (ho : Op_land Inv) (n : Nat) (M : Mem) (hlt : 6 * n + 6 ≤ L) (hI : Inv n M) (kk : ∀ M2 : Mem, Inv (n + 1) M2 → GG p l e room_1 s m #[Value.ref b] below meth c (lw_Z below #[Value.ref b] s) 4 117 29160 (LawW D ad cI cJ s M2) 1465 [(3, .int (nI (6 * n))), (2, .ref (ad 94)), (1, .ref (ad 0)), (0, .ref b)] []) : GG p l e room_1 s m #[Value.ref b] below meth c (lw_Z below #[Value.ref b] s) 4 117 29160 (LawW D ad cI cJ s M) 212 [(3, .int (nI (6 * n))), (2, .ref (ad 94)), (1, .ref (ad 0)), (0, .ref b)] [] := by
  obtain ⟨r, M1, M2, hx, hm, hI2⟩ := ho n M (xs ((nI (6 * n) + 1).toNatClampNeg)) (xs ((nI (6 * n) + 2).toNatClampNeg)) (xs ((nI (6 * n) + 3).toNatClampNeg)) (by omega) hI
  refine g_aload_n (pc := 212) B.1 2 dL_law_212 rfl rfl ?_
  refine g_aload_n (pc := 213) B.1 3 dL_law_213 rfl rfl ?_
  refine g_iload_n (pc := 214) B.1 0 dL_law_214 rfl rfl ?_
  refine g_iconst (v := 1) (pc := 215) B.1 dL_law_215 rfl ?_
  refine g_iadd (pc := 216) B.1 dL_law_216 ?_
  refine l_sld (pc := 217) B hX hbl (l_in (k := 1) (by omega) hlt hL) dL_law_217 ?_
  refine g_aload_n (pc := 218) B.1 3 dL_law_218 rfl rfl ?_
  refine g_iload_n (pc := 219) B.1 0 dL_law_219 rfl rfl ?_
  refine g_iconst (v := 2) (pc := 220) B.1 dL_law_220 rfl ?_
  refine g_iadd (pc := 221) B.1 dL_law_221 ?_
  refine l_sld (pc := 222) B hX hbl (l_in (k := 2) (by omega) hlt hL) dL_law_222 ?_
  refine g_aload_n (pc := 223) B.1 3 dL_law_223 rfl rfl ?_
  refine g_iload_n (pc := 224) B.1 0 dL_law_224 rfl rfl ?_
  refine g_iconst (v := 3) (pc := 225) B.1 dL_law_225 rfl ?_
  refine g_iadd (pc := 226) B.1 dL_law_226 ?_
  refine l_sld (pc := 227) B hX hbl (l_in (k := 3) (by omega) hlt hL) dL_law_227 ?_
  refine l_call (rest := []) (st' := [.int r]) (pc := 228) B oi_0 rfl (C_CF_land_0 (xs ((nI (6 * n) + 1).toNatClampNeg)) (xs ((nI (6 * n) + 2).toNatClampNeg)) (xs ((nI (6 * n) + 3).toNatClampNeg)) M _ hx) tw_553 tw_550 tw_551 tw_552 tw_98 hd_CF_land_0 ⟨Nat.le_of_ble_eq_true rfl, Nat.le_of_ble_eq_true rfl⟩ ⟨Nat.le_of_ble_eq_true rfl, Nat.le_of_ble_eq_true rfl⟩ rfl rfl (Nat.le_of_ble_eq_true rfl) rfl dL_law_228 ?_
  refine g_aload_n (pc := 231) B.1 1 dL_law_231 rfl rfl ?_
  refine g_aload_n (pc := 232) B.1 3 dL_law_232 rfl rfl ?_
  refine g_iload_n (pc := 233) B.1 0 dL_law_233 rfl rfl ?_
  refine g_iconst (v := 1) (pc := 234) B.1 dL_law_234 rfl ?_
  refine g_iadd (pc := 235) B.1 dL_law_235 ?_
  refine l_sld (pc := 236) B hX hbl (l_in (k := 1) (by omega) hlt hL) dL_law_236 ?_
  refine g_aload_n (pc := 237) B.1 3 dL_law_237 rfl rfl ?_
  refine g_iload_n (pc := 238) B.1 0 dL_law_238 rfl rfl ?_
  refine g_iconst (v := 2) (pc := 239) B.1 dL_law_239 rfl ?_
  refine g_iadd (pc := 240) B.1 dL_law_240 ?_
  refine l_sld (pc := 241) B hX hbl (l_in (k := 2) (by omega) hlt hL) dL_law_241 ?_
  refine g_aload_n (pc := 242) B.1 3 dL_law_242 rfl rfl ?_
  refine g_iload_n (pc := 243) B.1 0 dL_law_243 rfl rfl ?_
  refine g_iconst (v := 3) (pc := 244) B.1 dL_law_244 rfl ?_
  refine g_iadd (pc := 245) B.1 dL_law_245 ?_
  refine l_sld (pc := 246) B hX hbl (l_in (k := 3) (by omega) hlt hL) dL_law_246 ?_
  refine l_call (rest := [.int r]) (st' := [.int r, .int r]) (pc := 247) B oi_94 rfl (C_Mo_land_94 (xs ((nI (6 * n) + 1).toNatClampNeg)) (xs ((nI (6 * n) + 2).toNatClampNeg)) (xs ((nI (6 * n) + 3).toNatClampNeg)) M1 _ hm) tw_1400 tw_1397 tw_1398 tw_1399 tw_111 hd_Mo_land_94 ⟨Nat.le_of_ble_eq_true rfl, Nat.le_of_ble_eq_true rfl⟩ ⟨Nat.le_of_ble_eq_true rfl, Nat.le_of_ble_eq_true rfl⟩ rfl rfl (Nat.le_of_ble_eq_true rfl) rfl dL_law_247 ?_
  refine g_icmp_eq (tgt := 1465) (pc := 250) B.1 dL_law_250 rfl (fun _ => ?_) (fun hc => absurd rfl (of_decide_eq_false hc))
  exact kk M2 hI2
set_option maxHeartbeats 4000000 in
set_option maxRecDepth 20000 in
theorem L_cost {D : va_G} {ad adK adV : Nat → Nat} {cI cJ : ClassId} {p : Program} {l : Launch} {e : Env} {s : State} {m : MethodId} {below : List Frame} {meth : Method} {c : Code} {b L : Nat} {xs : Nat → Int32} (B : LawB D ad adK adV cI cJ p s m #[Value.ref b] meth c) (hX : va_X b L xs s s.heap) (hbl : b < s.heap.size) (hL : L ≤ 3072) {Inv : Nat → Mem → Prop} (ho : Op_cost Inv) (n : Nat) (M : Mem) (hlt : 6 * n + 6 ≤ L) (hI : Inv n M) (kk : ∀ M2 : Mem, Inv (n + 1) M2 → GG p l e room_1 s m #[Value.ref b] below meth c (lw_Z below #[Value.ref b] s) 4 117 29160 (LawW D ad cI cJ s M2) 1465 [(3, .int (nI (6 * n))), (2, .ref (ad 94)), (1, .ref (ad 0)), (0, .ref b)] []) : GG p l e room_1 s m #[Value.ref b] below meth c (lw_Z below #[Value.ref b] s) 4 117 29160 (LawW D ad cI cJ s M) 255 [(3, .int (nI (6 * n))), (2, .ref (ad 94)), (1, .ref (ad 0)), (0, .ref b)] [] := by
  obtain ⟨r, hx, hm, hI2⟩ := ho n M (xs ((nI (6 * n) + 1).toNatClampNeg)) (xs ((nI (6 * n) + 2).toNatClampNeg)) (by omega) hI
  refine g_aload_n (pc := 255) B.1 2 dL_law_255 rfl rfl ?_
  refine g_aload_n (pc := 256) B.1 3 dL_law_256 rfl rfl ?_
  refine g_iload_n (pc := 257) B.1 0 dL_law_257 rfl rfl ?_
  refine g_iconst (v := 1) (pc := 258) B.1 dL_law_258 rfl ?_
  refine g_iadd (pc := 259) B.1 dL_law_259 ?_
  refine l_sld (pc := 260) B hX hbl (l_in (k := 1) (by omega) hlt hL) dL_law_260 ?_
  refine g_aload_n (pc := 261) B.1 3 dL_law_261 rfl rfl ?_
  refine g_iload_n (pc := 262) B.1 0 dL_law_262 rfl rfl ?_
  refine g_iconst (v := 2) (pc := 263) B.1 dL_law_263 rfl ?_
  refine g_iadd (pc := 264) B.1 dL_law_264 ?_
  refine l_sld (pc := 265) B hX hbl (l_in (k := 2) (by omega) hlt hL) dL_law_265 ?_
  refine l_call (rest := []) (st' := [.int r]) (pc := 266) B oi_0 rfl (C_CF_cost_0 (xs ((nI (6 * n) + 1).toNatClampNeg)) (xs ((nI (6 * n) + 2).toNatClampNeg)) M _ hx) tw_592 tw_589 tw_590 tw_591 tw_98 hd_CF_cost_0 ⟨Nat.le_of_ble_eq_true rfl, Nat.le_of_ble_eq_true rfl⟩ ⟨Nat.le_of_ble_eq_true rfl, Nat.le_of_ble_eq_true rfl⟩ rfl rfl (Nat.le_of_ble_eq_true rfl) rfl dL_law_266 ?_
  refine g_aload_n (pc := 269) B.1 1 dL_law_269 rfl rfl ?_
  refine g_aload_n (pc := 270) B.1 3 dL_law_270 rfl rfl ?_
  refine g_iload_n (pc := 271) B.1 0 dL_law_271 rfl rfl ?_
  refine g_iconst (v := 1) (pc := 272) B.1 dL_law_272 rfl ?_
  refine g_iadd (pc := 273) B.1 dL_law_273 ?_
  refine l_sld (pc := 274) B hX hbl (l_in (k := 1) (by omega) hlt hL) dL_law_274 ?_
  refine g_aload_n (pc := 275) B.1 3 dL_law_275 rfl rfl ?_
  refine g_iload_n (pc := 276) B.1 0 dL_law_276 rfl rfl ?_
  refine g_iconst (v := 2) (pc := 277) B.1 dL_law_277 rfl ?_
  refine g_iadd (pc := 278) B.1 dL_law_278 ?_
  refine l_sld (pc := 279) B hX hbl (l_in (k := 2) (by omega) hlt hL) dL_law_279 ?_
  refine l_call (rest := [.int r]) (st' := [.int r, .int r]) (pc := 280) B oi_94 rfl (C_Mo_cost_94 (xs ((nI (6 * n) + 1).toNatClampNeg)) (xs ((nI (6 * n) + 2).toNatClampNeg)) M _ hm) tw_1414 tw_1411 tw_1412 tw_1413 tw_111 hd_Mo_cost_94 ⟨Nat.le_of_ble_eq_true rfl, Nat.le_of_ble_eq_true rfl⟩ ⟨Nat.le_of_ble_eq_true rfl, Nat.le_of_ble_eq_true rfl⟩ rfl rfl (Nat.le_of_ble_eq_true rfl) rfl dL_law_280 ?_
  refine g_icmp_eq (tgt := 1465) (pc := 283) B.1 dL_law_283 rfl (fun _ => ?_) (fun hc => absurd rfl (of_decide_eq_false hc))
  exact kk M hI2
set_option maxHeartbeats 4000000 in
set_option maxRecDepth 20000 in
theorem L_house {D : va_G} {ad adK adV : Nat → Nat} {cI cJ : ClassId} {p : Program} {l : Launch} {e : Env} {s : State} {m : MethodId} {below : List Frame} {meth : Method} {c : Code} {b L : Nat} {xs : Nat → Int32} (B : LawB D ad adK adV cI cJ p s m #[Value.ref b] meth c) (hX : va_X b L xs s s.heap) (hbl : b < s.heap.size) (hL : L ≤ 3072) {Inv : Nat → Mem → Prop} (ho : Op_house Inv) (n : Nat) (M : Mem) (hlt : 6 * n + 6 ≤ L) (hI : Inv n M) (kk : ∀ M2 : Mem, Inv (n + 1) M2 → GG p l e room_1 s m #[Value.ref b] below meth c (lw_Z below #[Value.ref b] s) 4 117 29160 (LawW D ad cI cJ s M2) 1465 [(3, .int (nI (6 * n))), (2, .ref (ad 94)), (1, .ref (ad 0)), (0, .ref b)] []) : GG p l e room_1 s m #[Value.ref b] below meth c (lw_Z below #[Value.ref b] s) 4 117 29160 (LawW D ad cI cJ s M) 288 [(3, .int (nI (6 * n))), (2, .ref (ad 94)), (1, .ref (ad 0)), (0, .ref b)] [] := by
  obtain ⟨r, M1, M2, hx, hm, hI2⟩ := ho n M (xs ((nI (6 * n) + 1).toNatClampNeg)) (by omega) hI
  refine g_aload_n (pc := 288) B.1 2 dL_law_288 rfl rfl ?_
  refine g_aload_n (pc := 289) B.1 3 dL_law_289 rfl rfl ?_
  refine g_iload_n (pc := 290) B.1 0 dL_law_290 rfl rfl ?_
  refine g_iconst (v := 1) (pc := 291) B.1 dL_law_291 rfl ?_
  refine g_iadd (pc := 292) B.1 dL_law_292 ?_
  refine l_sld (pc := 293) B hX hbl (l_in (k := 1) (by omega) hlt hL) dL_law_293 ?_
  refine l_call (rest := []) (st' := [.int r]) (pc := 294) B oi_0 rfl (C_CF_house_0 (xs ((nI (6 * n) + 1).toNatClampNeg)) M _ hx) tw_613 tw_610 tw_611 tw_612 tw_98 hd_CF_house_0 ⟨Nat.le_of_ble_eq_true rfl, Nat.le_of_ble_eq_true rfl⟩ ⟨Nat.le_of_ble_eq_true rfl, Nat.le_of_ble_eq_true rfl⟩ rfl rfl (Nat.le_of_ble_eq_true rfl) rfl dL_law_294 ?_
  refine g_aload_n (pc := 297) B.1 1 dL_law_297 rfl rfl ?_
  refine g_aload_n (pc := 298) B.1 3 dL_law_298 rfl rfl ?_
  refine g_iload_n (pc := 299) B.1 0 dL_law_299 rfl rfl ?_
  refine g_iconst (v := 1) (pc := 300) B.1 dL_law_300 rfl ?_
  refine g_iadd (pc := 301) B.1 dL_law_301 ?_
  refine l_sld (pc := 302) B hX hbl (l_in (k := 1) (by omega) hlt hL) dL_law_302 ?_
  refine l_call (rest := [.int r]) (st' := [.int r, .int r]) (pc := 303) B oi_94 rfl (C_Mo_house_94 (xs ((nI (6 * n) + 1).toNatClampNeg)) M1 _ hm) tw_1432 tw_1429 tw_1430 tw_1431 tw_111 hd_Mo_house_94 ⟨Nat.le_of_ble_eq_true rfl, Nat.le_of_ble_eq_true rfl⟩ ⟨Nat.le_of_ble_eq_true rfl, Nat.le_of_ble_eq_true rfl⟩ rfl rfl (Nat.le_of_ble_eq_true rfl) rfl dL_law_303 ?_
  refine g_icmp_eq (tgt := 1465) (pc := 306) B.1 dL_law_306 rfl (fun _ => ?_) (fun hc => absurd rfl (of_decide_eq_false hc))
  exact kk M2 hI2
set_option maxHeartbeats 4000000 in
set_option maxRecDepth 20000 in
theorem L_farm {D : va_G} {ad adK adV : Nat → Nat} {cI cJ : ClassId} {p : Program} {l : Launch} {e : Env} {s : State} {m : MethodId} {below : List Frame} {meth : Method} {c : Code} {b L : Nat} {xs : Nat → Int32} (B : LawB D ad adK adV cI cJ p s m #[Value.ref b] meth c) (hX : va_X b L xs s s.heap) (hbl : b < s.heap.size) (hL : L ≤ 3072) {Inv : Nat → Mem → Prop} (ho : Op_farm Inv) (n : Nat) (M : Mem) (hlt : 6 * n + 6 ≤ L) (hI : Inv n M) (kk : ∀ M2 : Mem, Inv (n + 1) M2 → GG p l e room_1 s m #[Value.ref b] below meth c (lw_Z below #[Value.ref b] s) 4 117 29160 (LawW D ad cI cJ s M2) 1465 [(3, .int (nI (6 * n))), (2, .ref (ad 94)), (1, .ref (ad 0)), (0, .ref b)] []) : GG p l e room_1 s m #[Value.ref b] below meth c (lw_Z below #[Value.ref b] s) 4 117 29160 (LawW D ad cI cJ s M) 311 [(3, .int (nI (6 * n))), (2, .ref (ad 94)), (1, .ref (ad 0)), (0, .ref b)] [] := by
  obtain ⟨r, M1, M2, hx, hm, hI2⟩ := ho n M (xs ((nI (6 * n) + 1).toNatClampNeg)) (xs ((nI (6 * n) + 2).toNatClampNeg)) (by omega) hI
  refine g_aload_n (pc := 311) B.1 2 dL_law_311 rfl rfl ?_
  refine g_aload_n (pc := 312) B.1 3 dL_law_312 rfl rfl ?_
  refine g_iload_n (pc := 313) B.1 0 dL_law_313 rfl rfl ?_
  refine g_iconst (v := 1) (pc := 314) B.1 dL_law_314 rfl ?_
  refine g_iadd (pc := 315) B.1 dL_law_315 ?_
  refine l_sld (pc := 316) B hX hbl (l_in (k := 1) (by omega) hlt hL) dL_law_316 ?_
  refine g_aload_n (pc := 317) B.1 3 dL_law_317 rfl rfl ?_
  refine g_iload_n (pc := 318) B.1 0 dL_law_318 rfl rfl ?_
  refine g_iconst (v := 2) (pc := 319) B.1 dL_law_319 rfl ?_
  refine g_iadd (pc := 320) B.1 dL_law_320 ?_
  refine l_sld (pc := 321) B hX hbl (l_in (k := 2) (by omega) hlt hL) dL_law_321 ?_
  refine l_call (rest := []) (st' := [.int r]) (pc := 322) B oi_0 rfl (C_CF_farm_0 (xs ((nI (6 * n) + 1).toNatClampNeg)) (xs ((nI (6 * n) + 2).toNatClampNeg)) M _ hx) tw_621 tw_618 tw_619 tw_620 tw_98 hd_CF_farm_0 ⟨Nat.le_of_ble_eq_true rfl, Nat.le_of_ble_eq_true rfl⟩ ⟨Nat.le_of_ble_eq_true rfl, Nat.le_of_ble_eq_true rfl⟩ rfl rfl (Nat.le_of_ble_eq_true rfl) rfl dL_law_322 ?_
  refine g_aload_n (pc := 325) B.1 1 dL_law_325 rfl rfl ?_
  refine g_aload_n (pc := 326) B.1 3 dL_law_326 rfl rfl ?_
  refine g_iload_n (pc := 327) B.1 0 dL_law_327 rfl rfl ?_
  refine g_iconst (v := 1) (pc := 328) B.1 dL_law_328 rfl ?_
  refine g_iadd (pc := 329) B.1 dL_law_329 ?_
  refine l_sld (pc := 330) B hX hbl (l_in (k := 1) (by omega) hlt hL) dL_law_330 ?_
  refine g_aload_n (pc := 331) B.1 3 dL_law_331 rfl rfl ?_
  refine g_iload_n (pc := 332) B.1 0 dL_law_332 rfl rfl ?_
  refine g_iconst (v := 2) (pc := 333) B.1 dL_law_333 rfl ?_
  refine g_iadd (pc := 334) B.1 dL_law_334 ?_
  refine l_sld (pc := 335) B hX hbl (l_in (k := 2) (by omega) hlt hL) dL_law_335 ?_
  refine l_call (rest := [.int r]) (st' := [.int r, .int r]) (pc := 336) B oi_94 rfl (C_Mo_farm_94 (xs ((nI (6 * n) + 1).toNatClampNeg)) (xs ((nI (6 * n) + 2).toNatClampNeg)) M1 _ hm) tw_1436 tw_1433 tw_1434 tw_1435 tw_111 hd_Mo_farm_94 ⟨Nat.le_of_ble_eq_true rfl, Nat.le_of_ble_eq_true rfl⟩ ⟨Nat.le_of_ble_eq_true rfl, Nat.le_of_ble_eq_true rfl⟩ rfl rfl (Nat.le_of_ble_eq_true rfl) rfl dL_law_336 ?_
  refine g_icmp_eq (tgt := 1465) (pc := 339) B.1 dL_law_339 rfl (fun _ => ?_) (fun hc => absurd rfl (of_decide_eq_false hc))
  exact kk M2 hI2
set_option maxHeartbeats 4000000 in
set_option maxRecDepth 20000 in
theorem L_month {D : va_G} {ad adK adV : Nat → Nat} {cI cJ : ClassId} {p : Program} {l : Launch} {e : Env} {s : State} {m : MethodId} {below : List Frame} {meth : Method} {c : Code} {b L : Nat} {xs : Nat → Int32} (B : LawB D ad adK adV cI cJ p s m #[Value.ref b] meth c) (hX : va_X b L xs s s.heap) (hbl : b < s.heap.size) (hL : L ≤ 3072) {Inv : Nat → Mem → Prop} (ho : Op_month Inv) (n : Nat) (M : Mem) (hlt : 6 * n + 6 ≤ L) (hI : Inv n M) (kk : ∀ M2 : Mem, Inv (n + 1) M2 → GG p l e room_1 s m #[Value.ref b] below meth c (lw_Z below #[Value.ref b] s) 4 117 29160 (LawW D ad cI cJ s M2) 1465 [(3, .int (nI (6 * n))), (2, .ref (ad 94)), (1, .ref (ad 0)), (0, .ref b)] []) : GG p l e room_1 s m #[Value.ref b] below meth c (lw_Z below #[Value.ref b] s) 4 117 29160 (LawW D ad cI cJ s M) 344 [(3, .int (nI (6 * n))), (2, .ref (ad 94)), (1, .ref (ad 0)), (0, .ref b)] [] := by
  obtain ⟨r, M1, M2, hx, hm, hI2⟩ := ho n M (xs ((nI (6 * n) + 1).toNatClampNeg)) (by omega) hI
  refine g_aload_n (pc := 344) B.1 2 dL_law_344 rfl rfl ?_
  refine g_aload_n (pc := 345) B.1 3 dL_law_345 rfl rfl ?_
  refine g_iload_n (pc := 346) B.1 0 dL_law_346 rfl rfl ?_
  refine g_iconst (v := 1) (pc := 347) B.1 dL_law_347 rfl ?_
  refine g_iadd (pc := 348) B.1 dL_law_348 ?_
  refine l_sld (pc := 349) B hX hbl (l_in (k := 1) (by omega) hlt hL) dL_law_349 ?_
  refine l_call (rest := []) (st' := [.int r]) (pc := 350) B oi_0 rfl (C_CF_month_0 (xs ((nI (6 * n) + 1).toNatClampNeg)) M _ hx) tw_630 tw_627 tw_628 tw_629 tw_98 hd_CF_month_0 ⟨Nat.le_of_ble_eq_true rfl, Nat.le_of_ble_eq_true rfl⟩ ⟨Nat.le_of_ble_eq_true rfl, Nat.le_of_ble_eq_true rfl⟩ rfl rfl (Nat.le_of_ble_eq_true rfl) rfl dL_law_350 ?_
  refine g_aload_n (pc := 353) B.1 1 dL_law_353 rfl rfl ?_
  refine g_aload_n (pc := 354) B.1 3 dL_law_354 rfl rfl ?_
  refine g_iload_n (pc := 355) B.1 0 dL_law_355 rfl rfl ?_
  refine g_iconst (v := 1) (pc := 356) B.1 dL_law_356 rfl ?_
  refine g_iadd (pc := 357) B.1 dL_law_357 ?_
  refine l_sld (pc := 358) B hX hbl (l_in (k := 1) (by omega) hlt hL) dL_law_358 ?_
  refine l_call (rest := [.int r]) (st' := [.int r, .int r]) (pc := 359) B oi_94 rfl (C_Mo_month_94 (xs ((nI (6 * n) + 1).toNatClampNeg)) M1 _ hm) tw_1440 tw_1437 tw_1438 tw_1439 tw_111 hd_Mo_month_94 ⟨Nat.le_of_ble_eq_true rfl, Nat.le_of_ble_eq_true rfl⟩ ⟨Nat.le_of_ble_eq_true rfl, Nat.le_of_ble_eq_true rfl⟩ rfl rfl (Nat.le_of_ble_eq_true rfl) rfl dL_law_359 ?_
  refine g_icmp_eq (tgt := 1465) (pc := 362) B.1 dL_law_362 rfl (fun _ => ?_) (fun hc => absurd rfl (of_decide_eq_false hc))
  exact kk M2 hI2
set_option maxHeartbeats 4000000 in
set_option maxRecDepth 20000 in
theorem L_sign {D : va_G} {ad adK adV : Nat → Nat} {cI cJ : ClassId} {p : Program} {l : Launch} {e : Env} {s : State} {m : MethodId} {below : List Frame} {meth : Method} {c : Code} {b L : Nat} {xs : Nat → Int32} (B : LawB D ad adK adV cI cJ p s m #[Value.ref b] meth c) (hX : va_X b L xs s s.heap) (hbl : b < s.heap.size) (hL : L ≤ 3072) {Inv : Nat → Mem → Prop} (ho : Op_sign Inv) (n : Nat) (M : Mem) (hlt : 6 * n + 6 ≤ L) (hI : Inv n M) (kk : ∀ M2 : Mem, Inv (n + 1) M2 → GG p l e room_1 s m #[Value.ref b] below meth c (lw_Z below #[Value.ref b] s) 4 117 29160 (LawW D ad cI cJ s M2) 1465 [(3, .int (nI (6 * n))), (2, .ref (ad 94)), (1, .ref (ad 0)), (0, .ref b)] []) : GG p l e room_1 s m #[Value.ref b] below meth c (lw_Z below #[Value.ref b] s) 4 117 29160 (LawW D ad cI cJ s M) 367 [(3, .int (nI (6 * n))), (2, .ref (ad 94)), (1, .ref (ad 0)), (0, .ref b)] [] := by
  obtain ⟨r, M1, M2, hx, hm, hI2⟩ := ho n M (xs ((nI (6 * n) + 1).toNatClampNeg)) (xs ((nI (6 * n) + 2).toNatClampNeg)) (xs ((nI (6 * n) + 3).toNatClampNeg)) (xs ((nI (6 * n) + 4).toNatClampNeg)) (by omega) hI
  refine g_aload_n (pc := 367) B.1 2 dL_law_367 rfl rfl ?_
  refine g_aload_n (pc := 368) B.1 3 dL_law_368 rfl rfl ?_
  refine g_iload_n (pc := 369) B.1 0 dL_law_369 rfl rfl ?_
  refine g_iconst (v := 1) (pc := 370) B.1 dL_law_370 rfl ?_
  refine g_iadd (pc := 371) B.1 dL_law_371 ?_
  refine l_sld (pc := 372) B hX hbl (l_in (k := 1) (by omega) hlt hL) dL_law_372 ?_
  refine g_aload_n (pc := 373) B.1 3 dL_law_373 rfl rfl ?_
  refine g_iload_n (pc := 374) B.1 0 dL_law_374 rfl rfl ?_
  refine g_iconst (v := 2) (pc := 375) B.1 dL_law_375 rfl ?_
  refine g_iadd (pc := 376) B.1 dL_law_376 ?_
  refine l_sld (pc := 377) B hX hbl (l_in (k := 2) (by omega) hlt hL) dL_law_377 ?_
  refine g_aload_n (pc := 378) B.1 3 dL_law_378 rfl rfl ?_
  refine g_iload_n (pc := 379) B.1 0 dL_law_379 rfl rfl ?_
  refine g_iconst (v := 3) (pc := 380) B.1 dL_law_380 rfl ?_
  refine g_iadd (pc := 381) B.1 dL_law_381 ?_
  refine l_sld (pc := 382) B hX hbl (l_in (k := 3) (by omega) hlt hL) dL_law_382 ?_
  refine g_aload_n (pc := 383) B.1 3 dL_law_383 rfl rfl ?_
  refine g_iload_n (pc := 384) B.1 0 dL_law_384 rfl rfl ?_
  refine g_iconst (v := 4) (pc := 385) B.1 dL_law_385 rfl ?_
  refine g_iadd (pc := 386) B.1 dL_law_386 ?_
  refine l_sld (pc := 387) B hX hbl (l_in (k := 4) (by omega) hlt hL) dL_law_387 ?_
  refine l_call (rest := []) (st' := [.int r]) (pc := 388) B oi_0 rfl (C_CF_sign_0 (xs ((nI (6 * n) + 1).toNatClampNeg)) (xs ((nI (6 * n) + 2).toNatClampNeg)) (xs ((nI (6 * n) + 3).toNatClampNeg)) (xs ((nI (6 * n) + 4).toNatClampNeg)) M _ hx) tw_634 tw_631 tw_632 tw_633 tw_98 hd_CF_sign_0 ⟨Nat.le_of_ble_eq_true rfl, Nat.le_of_ble_eq_true rfl⟩ ⟨Nat.le_of_ble_eq_true rfl, Nat.le_of_ble_eq_true rfl⟩ rfl rfl (Nat.le_of_ble_eq_true rfl) rfl dL_law_388 ?_
  refine g_aload_n (pc := 391) B.1 1 dL_law_391 rfl rfl ?_
  refine g_aload_n (pc := 392) B.1 3 dL_law_392 rfl rfl ?_
  refine g_iload_n (pc := 393) B.1 0 dL_law_393 rfl rfl ?_
  refine g_iconst (v := 1) (pc := 394) B.1 dL_law_394 rfl ?_
  refine g_iadd (pc := 395) B.1 dL_law_395 ?_
  refine l_sld (pc := 396) B hX hbl (l_in (k := 1) (by omega) hlt hL) dL_law_396 ?_
  refine g_aload_n (pc := 397) B.1 3 dL_law_397 rfl rfl ?_
  refine g_iload_n (pc := 398) B.1 0 dL_law_398 rfl rfl ?_
  refine g_iconst (v := 2) (pc := 399) B.1 dL_law_399 rfl ?_
  refine g_iadd (pc := 400) B.1 dL_law_400 ?_
  refine l_sld (pc := 401) B hX hbl (l_in (k := 2) (by omega) hlt hL) dL_law_401 ?_
  refine g_aload_n (pc := 402) B.1 3 dL_law_402 rfl rfl ?_
  refine g_iload_n (pc := 403) B.1 0 dL_law_403 rfl rfl ?_
  refine g_iconst (v := 3) (pc := 404) B.1 dL_law_404 rfl ?_
  refine g_iadd (pc := 405) B.1 dL_law_405 ?_
  refine l_sld (pc := 406) B hX hbl (l_in (k := 3) (by omega) hlt hL) dL_law_406 ?_
  refine g_aload_n (pc := 407) B.1 3 dL_law_407 rfl rfl ?_
  refine g_iload_n (pc := 408) B.1 0 dL_law_408 rfl rfl ?_
  refine g_iconst (v := 4) (pc := 409) B.1 dL_law_409 rfl ?_
  refine g_iadd (pc := 410) B.1 dL_law_410 ?_
  refine l_sld (pc := 411) B hX hbl (l_in (k := 4) (by omega) hlt hL) dL_law_411 ?_
  refine l_call (rest := [.int r]) (st' := [.int r, .int r]) (pc := 412) B oi_94 rfl (C_Mo_sign_94 (xs ((nI (6 * n) + 1).toNatClampNeg)) (xs ((nI (6 * n) + 2).toNatClampNeg)) (xs ((nI (6 * n) + 3).toNatClampNeg)) (xs ((nI (6 * n) + 4).toNatClampNeg)) M1 _ hm) tw_1444 tw_1441 tw_1442 tw_1443 tw_111 hd_Mo_sign_94 ⟨Nat.le_of_ble_eq_true rfl, Nat.le_of_ble_eq_true rfl⟩ ⟨Nat.le_of_ble_eq_true rfl, Nat.le_of_ble_eq_true rfl⟩ rfl rfl (Nat.le_of_ble_eq_true rfl) rfl dL_law_412 ?_
  refine g_icmp_eq (tgt := 1465) (pc := 415) B.1 dL_law_415 rfl (fun _ => ?_) (fun hc => absurd rfl (of_decide_eq_false hc))
  exact kk M2 hI2
set_option maxHeartbeats 4000000 in
set_option maxRecDepth 20000 in
theorem L_strike {D : va_G} {ad adK adV : Nat → Nat} {cI cJ : ClassId} {p : Program} {l : Launch} {e : Env} {s : State} {m : MethodId} {below : List Frame} {meth : Method} {c : Code} {b L : Nat} {xs : Nat → Int32} (B : LawB D ad adK adV cI cJ p s m #[Value.ref b] meth c) (hX : va_X b L xs s s.heap) (hbl : b < s.heap.size) (hL : L ≤ 3072) {Inv : Nat → Mem → Prop} (ho : Op_strike Inv) (n : Nat) (M : Mem) (hlt : 6 * n + 6 ≤ L) (hI : Inv n M) (kk : ∀ M2 : Mem, Inv (n + 1) M2 → GG p l e room_1 s m #[Value.ref b] below meth c (lw_Z below #[Value.ref b] s) 4 117 29160 (LawW D ad cI cJ s M2) 1465 [(3, .int (nI (6 * n))), (2, .ref (ad 94)), (1, .ref (ad 0)), (0, .ref b)] []) : GG p l e room_1 s m #[Value.ref b] below meth c (lw_Z below #[Value.ref b] s) 4 117 29160 (LawW D ad cI cJ s M) 420 [(3, .int (nI (6 * n))), (2, .ref (ad 94)), (1, .ref (ad 0)), (0, .ref b)] [] := by
  obtain ⟨r, M1, M2, hx, hm, hI2⟩ := ho n M (xs ((nI (6 * n) + 1).toNatClampNeg)) (by omega) hI
  refine g_aload_n (pc := 420) B.1 2 dL_law_420 rfl rfl ?_
  refine g_aload_n (pc := 421) B.1 3 dL_law_421 rfl rfl ?_
  refine g_iload_n (pc := 422) B.1 0 dL_law_422 rfl rfl ?_
  refine g_iconst (v := 1) (pc := 423) B.1 dL_law_423 rfl ?_
  refine g_iadd (pc := 424) B.1 dL_law_424 ?_
  refine l_sld (pc := 425) B hX hbl (l_in (k := 1) (by omega) hlt hL) dL_law_425 ?_
  refine l_call (rest := []) (st' := [.int r]) (pc := 426) B oi_0 rfl (C_CF_strike_0 (xs ((nI (6 * n) + 1).toNatClampNeg)) M _ hx) tw_651 tw_648 tw_649 tw_650 tw_98 hd_CF_strike_0 ⟨Nat.le_of_ble_eq_true rfl, Nat.le_of_ble_eq_true rfl⟩ ⟨Nat.le_of_ble_eq_true rfl, Nat.le_of_ble_eq_true rfl⟩ rfl rfl (Nat.le_of_ble_eq_true rfl) rfl dL_law_426 ?_
  refine g_aload_n (pc := 429) B.1 1 dL_law_429 rfl rfl ?_
  refine g_aload_n (pc := 430) B.1 3 dL_law_430 rfl rfl ?_
  refine g_iload_n (pc := 431) B.1 0 dL_law_431 rfl rfl ?_
  refine g_iconst (v := 1) (pc := 432) B.1 dL_law_432 rfl ?_
  refine g_iadd (pc := 433) B.1 dL_law_433 ?_
  refine l_sld (pc := 434) B hX hbl (l_in (k := 1) (by omega) hlt hL) dL_law_434 ?_
  refine l_call (rest := [.int r]) (st' := [.int r, .int r]) (pc := 435) B oi_94 rfl (C_Mo_strike_94 (xs ((nI (6 * n) + 1).toNatClampNeg)) M1 _ hm) tw_1456 tw_1453 tw_1454 tw_1455 tw_111 hd_Mo_strike_94 ⟨Nat.le_of_ble_eq_true rfl, Nat.le_of_ble_eq_true rfl⟩ ⟨Nat.le_of_ble_eq_true rfl, Nat.le_of_ble_eq_true rfl⟩ rfl rfl (Nat.le_of_ble_eq_true rfl) rfl dL_law_435 ?_
  refine g_icmp_eq (tgt := 1465) (pc := 438) B.1 dL_law_438 rfl (fun _ => ?_) (fun hc => absurd rfl (of_decide_eq_false hc))
  exact kk M2 hI2
set_option maxHeartbeats 4000000 in
set_option maxRecDepth 20000 in
theorem L_as {D : va_G} {ad adK adV : Nat → Nat} {cI cJ : ClassId} {p : Program} {l : Launch} {e : Env} {s : State} {m : MethodId} {below : List Frame} {meth : Method} {c : Code} {b L : Nat} {xs : Nat → Int32} (B : LawB D ad adK adV cI cJ p s m #[Value.ref b] meth c) (hX : va_X b L xs s s.heap) (hbl : b < s.heap.size) (hL : L ≤ 3072) {Inv : Nat → Mem → Prop} (ho : Op_as Inv) (n : Nat) (M : Mem) (hlt : 6 * n + 6 ≤ L) (hI : Inv n M) (kk : ∀ M2 : Mem, Inv (n + 1) M2 → GG p l e room_1 s m #[Value.ref b] below meth c (lw_Z below #[Value.ref b] s) 4 117 29160 (LawW D ad cI cJ s M2) 1465 [(3, .int (nI (6 * n))), (2, .ref (ad 94)), (1, .ref (ad 0)), (0, .ref b)] []) : GG p l e room_1 s m #[Value.ref b] below meth c (lw_Z below #[Value.ref b] s) 4 117 29160 (LawW D ad cI cJ s M) 443 [(3, .int (nI (6 * n))), (2, .ref (ad 94)), (1, .ref (ad 0)), (0, .ref b)] [] := by
  obtain ⟨r, M1, M2, hx, hm, hI2⟩ := ho n M (xs ((nI (6 * n) + 1).toNatClampNeg)) (xs ((nI (6 * n) + 2).toNatClampNeg)) (xs ((nI (6 * n) + 3).toNatClampNeg)) (by omega) hI
  refine g_aload_n (pc := 443) B.1 2 dL_law_443 rfl rfl ?_
  refine g_aload_n (pc := 444) B.1 3 dL_law_444 rfl rfl ?_
  refine g_iload_n (pc := 445) B.1 0 dL_law_445 rfl rfl ?_
  refine g_iconst (v := 1) (pc := 446) B.1 dL_law_446 rfl ?_
  refine g_iadd (pc := 447) B.1 dL_law_447 ?_
  refine l_sld (pc := 448) B hX hbl (l_in (k := 1) (by omega) hlt hL) dL_law_448 ?_
  refine g_aload_n (pc := 449) B.1 3 dL_law_449 rfl rfl ?_
  refine g_iload_n (pc := 450) B.1 0 dL_law_450 rfl rfl ?_
  refine g_iconst (v := 2) (pc := 451) B.1 dL_law_451 rfl ?_
  refine g_iadd (pc := 452) B.1 dL_law_452 ?_
  refine l_sld (pc := 453) B hX hbl (l_in (k := 2) (by omega) hlt hL) dL_law_453 ?_
  refine g_aload_n (pc := 454) B.1 3 dL_law_454 rfl rfl ?_
  refine g_iload_n (pc := 455) B.1 0 dL_law_455 rfl rfl ?_
  refine g_iconst (v := 3) (pc := 456) B.1 dL_law_456 rfl ?_
  refine g_iadd (pc := 457) B.1 dL_law_457 ?_
  refine l_sld (pc := 458) B hX hbl (l_in (k := 3) (by omega) hlt hL) dL_law_458 ?_
  refine l_call (rest := []) (st' := [.int r]) (pc := 459) B oi_0 rfl (C_CF_as_0 (xs ((nI (6 * n) + 1).toNatClampNeg)) (xs ((nI (6 * n) + 2).toNatClampNeg)) (xs ((nI (6 * n) + 3).toNatClampNeg)) M _ hx) tw_665 tw_662 tw_663 tw_664 tw_98 hd_CF_as_0 ⟨Nat.le_of_ble_eq_true rfl, Nat.le_of_ble_eq_true rfl⟩ ⟨Nat.le_of_ble_eq_true rfl, Nat.le_of_ble_eq_true rfl⟩ rfl rfl (Nat.le_of_ble_eq_true rfl) rfl dL_law_459 ?_
  refine g_aload_n (pc := 462) B.1 1 dL_law_462 rfl rfl ?_
  refine g_aload_n (pc := 463) B.1 3 dL_law_463 rfl rfl ?_
  refine g_iload_n (pc := 464) B.1 0 dL_law_464 rfl rfl ?_
  refine g_iconst (v := 1) (pc := 465) B.1 dL_law_465 rfl ?_
  refine g_iadd (pc := 466) B.1 dL_law_466 ?_
  refine l_sld (pc := 467) B hX hbl (l_in (k := 1) (by omega) hlt hL) dL_law_467 ?_
  refine g_aload_n (pc := 468) B.1 3 dL_law_468 rfl rfl ?_
  refine g_iload_n (pc := 469) B.1 0 dL_law_469 rfl rfl ?_
  refine g_iconst (v := 2) (pc := 470) B.1 dL_law_470 rfl ?_
  refine g_iadd (pc := 471) B.1 dL_law_471 ?_
  refine l_sld (pc := 472) B hX hbl (l_in (k := 2) (by omega) hlt hL) dL_law_472 ?_
  refine g_aload_n (pc := 473) B.1 3 dL_law_473 rfl rfl ?_
  refine g_iload_n (pc := 474) B.1 0 dL_law_474 rfl rfl ?_
  refine g_iconst (v := 3) (pc := 475) B.1 dL_law_475 rfl ?_
  refine g_iadd (pc := 476) B.1 dL_law_476 ?_
  refine l_sld (pc := 477) B hX hbl (l_in (k := 3) (by omega) hlt hL) dL_law_477 ?_
  refine l_call (rest := [.int r]) (st' := [.int r, .int r]) (pc := 478) B oi_94 rfl (C_Mo_as_94 (xs ((nI (6 * n) + 1).toNatClampNeg)) (xs ((nI (6 * n) + 2).toNatClampNeg)) (xs ((nI (6 * n) + 3).toNatClampNeg)) M1 _ hm) tw_1460 tw_1457 tw_1458 tw_1459 tw_111 hd_Mo_as_94 ⟨Nat.le_of_ble_eq_true rfl, Nat.le_of_ble_eq_true rfl⟩ ⟨Nat.le_of_ble_eq_true rfl, Nat.le_of_ble_eq_true rfl⟩ rfl rfl (Nat.le_of_ble_eq_true rfl) rfl dL_law_478 ?_
  refine g_icmp_eq (tgt := 1465) (pc := 481) B.1 dL_law_481 rfl (fun _ => ?_) (fun hc => absurd rfl (of_decide_eq_false hc))
  exact kk M2 hI2
set_option maxHeartbeats 4000000 in
set_option maxRecDepth 20000 in
theorem L_many {D : va_G} {ad adK adV : Nat → Nat} {cI cJ : ClassId} {p : Program} {l : Launch} {e : Env} {s : State} {m : MethodId} {below : List Frame} {meth : Method} {c : Code} {b L : Nat} {xs : Nat → Int32} (B : LawB D ad adK adV cI cJ p s m #[Value.ref b] meth c) (hX : va_X b L xs s s.heap) (hbl : b < s.heap.size) (hL : L ≤ 3072) {Inv : Nat → Mem → Prop} (ho : Op_many Inv) (n : Nat) (M : Mem) (hlt : 6 * n + 6 ≤ L) (hI : Inv n M) (kk : ∀ M2 : Mem, Inv (n + 1) M2 → GG p l e room_1 s m #[Value.ref b] below meth c (lw_Z below #[Value.ref b] s) 4 117 29160 (LawW D ad cI cJ s M2) 1465 [(3, .int (nI (6 * n))), (2, .ref (ad 94)), (1, .ref (ad 0)), (0, .ref b)] []) : GG p l e room_1 s m #[Value.ref b] below meth c (lw_Z below #[Value.ref b] s) 4 117 29160 (LawW D ad cI cJ s M) 486 [(3, .int (nI (6 * n))), (2, .ref (ad 94)), (1, .ref (ad 0)), (0, .ref b)] [] := by
  obtain ⟨r, M1, M2, hx, hm, hI2⟩ := ho n M (xs ((nI (6 * n) + 1).toNatClampNeg)) (xs ((nI (6 * n) + 2).toNatClampNeg)) (xs ((nI (6 * n) + 3).toNatClampNeg)) (by omega) hI
  refine g_aload_n (pc := 486) B.1 2 dL_law_486 rfl rfl ?_
  refine g_aload_n (pc := 487) B.1 3 dL_law_487 rfl rfl ?_
  refine g_iload_n (pc := 488) B.1 0 dL_law_488 rfl rfl ?_
  refine g_iconst (v := 1) (pc := 489) B.1 dL_law_489 rfl ?_
  refine g_iadd (pc := 490) B.1 dL_law_490 ?_
  refine l_sld (pc := 491) B hX hbl (l_in (k := 1) (by omega) hlt hL) dL_law_491 ?_
  refine g_aload_n (pc := 492) B.1 3 dL_law_492 rfl rfl ?_
  refine g_iload_n (pc := 493) B.1 0 dL_law_493 rfl rfl ?_
  refine g_iconst (v := 2) (pc := 494) B.1 dL_law_494 rfl ?_
  refine g_iadd (pc := 495) B.1 dL_law_495 ?_
  refine l_sld (pc := 496) B hX hbl (l_in (k := 2) (by omega) hlt hL) dL_law_496 ?_
  refine g_aload_n (pc := 497) B.1 3 dL_law_497 rfl rfl ?_
  refine g_iload_n (pc := 498) B.1 0 dL_law_498 rfl rfl ?_
  refine g_iconst (v := 3) (pc := 499) B.1 dL_law_499 rfl ?_
  refine g_iadd (pc := 500) B.1 dL_law_500 ?_
  refine l_sld (pc := 501) B hX hbl (l_in (k := 3) (by omega) hlt hL) dL_law_501 ?_
  refine l_call (rest := []) (st' := [.int r]) (pc := 502) B oi_0 rfl (C_CF_many_0 (xs ((nI (6 * n) + 1).toNatClampNeg)) (xs ((nI (6 * n) + 2).toNatClampNeg)) (xs ((nI (6 * n) + 3).toNatClampNeg)) M _ hx) tw_780 tw_777 tw_778 tw_779 tw_98 hd_CF_many_0 ⟨Nat.le_of_ble_eq_true rfl, Nat.le_of_ble_eq_true rfl⟩ ⟨Nat.le_of_ble_eq_true rfl, Nat.le_of_ble_eq_true rfl⟩ rfl rfl (Nat.le_of_ble_eq_true rfl) rfl dL_law_502 ?_
  refine g_aload_n (pc := 505) B.1 1 dL_law_505 rfl rfl ?_
  refine g_aload_n (pc := 506) B.1 3 dL_law_506 rfl rfl ?_
  refine g_iload_n (pc := 507) B.1 0 dL_law_507 rfl rfl ?_
  refine g_iconst (v := 1) (pc := 508) B.1 dL_law_508 rfl ?_
  refine g_iadd (pc := 509) B.1 dL_law_509 ?_
  refine l_sld (pc := 510) B hX hbl (l_in (k := 1) (by omega) hlt hL) dL_law_510 ?_
  refine g_aload_n (pc := 511) B.1 3 dL_law_511 rfl rfl ?_
  refine g_iload_n (pc := 512) B.1 0 dL_law_512 rfl rfl ?_
  refine g_iconst (v := 2) (pc := 513) B.1 dL_law_513 rfl ?_
  refine g_iadd (pc := 514) B.1 dL_law_514 ?_
  refine l_sld (pc := 515) B hX hbl (l_in (k := 2) (by omega) hlt hL) dL_law_515 ?_
  refine g_aload_n (pc := 516) B.1 3 dL_law_516 rfl rfl ?_
  refine g_iload_n (pc := 517) B.1 0 dL_law_517 rfl rfl ?_
  refine g_iconst (v := 3) (pc := 518) B.1 dL_law_518 rfl ?_
  refine g_iadd (pc := 519) B.1 dL_law_519 ?_
  refine l_sld (pc := 520) B hX hbl (l_in (k := 3) (by omega) hlt hL) dL_law_520 ?_
  refine l_call (rest := [.int r]) (st' := [.int r, .int r]) (pc := 521) B oi_94 rfl (C_Mo_many_94 (xs ((nI (6 * n) + 1).toNatClampNeg)) (xs ((nI (6 * n) + 2).toNatClampNeg)) (xs ((nI (6 * n) + 3).toNatClampNeg)) M1 _ hm) tw_1574 tw_1571 tw_1572 tw_1573 tw_111 hd_Mo_many_94 ⟨Nat.le_of_ble_eq_true rfl, Nat.le_of_ble_eq_true rfl⟩ ⟨Nat.le_of_ble_eq_true rfl, Nat.le_of_ble_eq_true rfl⟩ rfl rfl (Nat.le_of_ble_eq_true rfl) rfl dL_law_521 ?_
  refine g_icmp_eq (tgt := 1465) (pc := 524) B.1 dL_law_524 rfl (fun _ => ?_) (fun hc => absurd rfl (of_decide_eq_false hc))
  exact kk M2 hI2
set_option maxHeartbeats 4000000 in
set_option maxRecDepth 20000 in
theorem L_tip {D : va_G} {ad adK adV : Nat → Nat} {cI cJ : ClassId} {p : Program} {l : Launch} {e : Env} {s : State} {m : MethodId} {below : List Frame} {meth : Method} {c : Code} {b L : Nat} {xs : Nat → Int32} (B : LawB D ad adK adV cI cJ p s m #[Value.ref b] meth c) (hX : va_X b L xs s s.heap) (hbl : b < s.heap.size) (hL : L ≤ 3072) {Inv : Nat → Mem → Prop} (ho : Op_tip Inv) (n : Nat) (M : Mem) (hlt : 6 * n + 6 ≤ L) (hI : Inv n M) (kk : ∀ M2 : Mem, Inv (n + 1) M2 → GG p l e room_1 s m #[Value.ref b] below meth c (lw_Z below #[Value.ref b] s) 4 117 29160 (LawW D ad cI cJ s M2) 1465 [(3, .int (nI (6 * n))), (2, .ref (ad 94)), (1, .ref (ad 0)), (0, .ref b)] []) : GG p l e room_1 s m #[Value.ref b] below meth c (lw_Z below #[Value.ref b] s) 4 117 29160 (LawW D ad cI cJ s M) 529 [(3, .int (nI (6 * n))), (2, .ref (ad 94)), (1, .ref (ad 0)), (0, .ref b)] [] := by
  obtain ⟨r, M1, M2, hx, hm, hI2⟩ := ho n M (xs ((nI (6 * n) + 1).toNatClampNeg)) (by omega) hI
  refine g_aload_n (pc := 529) B.1 2 dL_law_529 rfl rfl ?_
  refine g_aload_n (pc := 530) B.1 3 dL_law_530 rfl rfl ?_
  refine g_iload_n (pc := 531) B.1 0 dL_law_531 rfl rfl ?_
  refine g_iconst (v := 1) (pc := 532) B.1 dL_law_532 rfl ?_
  refine g_iadd (pc := 533) B.1 dL_law_533 ?_
  refine l_sld (pc := 534) B hX hbl (l_in (k := 1) (by omega) hlt hL) dL_law_534 ?_
  refine l_call (rest := []) (st' := [.int r]) (pc := 535) B oi_0 rfl (C_CF_tip_0 (xs ((nI (6 * n) + 1).toNatClampNeg)) M _ hx) tw_787 tw_784 tw_785 tw_786 tw_98 hd_CF_tip_0 ⟨Nat.le_of_ble_eq_true rfl, Nat.le_of_ble_eq_true rfl⟩ ⟨Nat.le_of_ble_eq_true rfl, Nat.le_of_ble_eq_true rfl⟩ rfl rfl (Nat.le_of_ble_eq_true rfl) rfl dL_law_535 ?_
  refine g_aload_n (pc := 538) B.1 1 dL_law_538 rfl rfl ?_
  refine g_aload_n (pc := 539) B.1 3 dL_law_539 rfl rfl ?_
  refine g_iload_n (pc := 540) B.1 0 dL_law_540 rfl rfl ?_
  refine g_iconst (v := 1) (pc := 541) B.1 dL_law_541 rfl ?_
  refine g_iadd (pc := 542) B.1 dL_law_542 ?_
  refine l_sld (pc := 543) B hX hbl (l_in (k := 1) (by omega) hlt hL) dL_law_543 ?_
  refine l_call (rest := [.int r]) (st' := [.int r, .int r]) (pc := 544) B oi_94 rfl (C_Mo_tip_94 (xs ((nI (6 * n) + 1).toNatClampNeg)) M1 _ hm) tw_1581 tw_1578 tw_1579 tw_1580 tw_111 hd_Mo_tip_94 ⟨Nat.le_of_ble_eq_true rfl, Nat.le_of_ble_eq_true rfl⟩ ⟨Nat.le_of_ble_eq_true rfl, Nat.le_of_ble_eq_true rfl⟩ rfl rfl (Nat.le_of_ble_eq_true rfl) rfl dL_law_544 ?_
  refine g_icmp_eq (tgt := 1465) (pc := 547) B.1 dL_law_547 rfl (fun _ => ?_) (fun hc => absurd rfl (of_decide_eq_false hc))
  exact kk M2 hI2
set_option maxHeartbeats 4000000 in
set_option maxRecDepth 20000 in
theorem L_feed {D : va_G} {ad adK adV : Nat → Nat} {cI cJ : ClassId} {p : Program} {l : Launch} {e : Env} {s : State} {m : MethodId} {below : List Frame} {meth : Method} {c : Code} {b L : Nat} {xs : Nat → Int32} (B : LawB D ad adK adV cI cJ p s m #[Value.ref b] meth c) (hX : va_X b L xs s s.heap) (hbl : b < s.heap.size) (hL : L ≤ 3072) {Inv : Nat → Mem → Prop} (ho : Op_feed Inv) (n : Nat) (M : Mem) (hlt : 6 * n + 6 ≤ L) (hI : Inv n M) (kk : ∀ M2 : Mem, Inv (n + 1) M2 → GG p l e room_1 s m #[Value.ref b] below meth c (lw_Z below #[Value.ref b] s) 4 117 29160 (LawW D ad cI cJ s M2) 1465 [(3, .int (nI (6 * n))), (2, .ref (ad 94)), (1, .ref (ad 0)), (0, .ref b)] []) : GG p l e room_1 s m #[Value.ref b] below meth c (lw_Z below #[Value.ref b] s) 4 117 29160 (LawW D ad cI cJ s M) 552 [(3, .int (nI (6 * n))), (2, .ref (ad 94)), (1, .ref (ad 0)), (0, .ref b)] [] := by
  obtain ⟨r, M1, M2, hx, hm, hI2⟩ := ho n M (((xs ((nI (6 * n) + 1).toNatClampNeg)).toInt64 <<< ((32 : Int32).toInt64 &&& 63)) ||| (((xs ((nI (6 * n) + 2).toNatClampNeg)).toInt64) &&& 4294967295)) (xs ((nI (6 * n) + 3).toNatClampNeg)) (by omega) hI
  refine g_aload_n (pc := 552) B.1 2 dL_law_552 rfl rfl ?_
  refine g_aload_n (pc := 553) B.1 3 dL_law_553 rfl rfl ?_
  refine g_iload_n (pc := 554) B.1 0 dL_law_554 rfl rfl ?_
  refine g_iconst (v := 1) (pc := 555) B.1 dL_law_555 rfl ?_
  refine g_iadd (pc := 556) B.1 dL_law_556 ?_
  refine l_sld (pc := 557) B hX hbl (l_in (k := 1) (by omega) hlt hL) dL_law_557 ?_
  refine g_i2l (pc := 558) B.1 dL_law_558 ?_
  refine g_bipush (v := 32) (pc := 559) B.1 dL_law_559 rfl ?_
  refine g_lshl (pc := 561) B.1 dL_law_561 ?_
  refine g_aload_n (pc := 562) B.1 3 dL_law_562 rfl rfl ?_
  refine g_iload_n (pc := 563) B.1 0 dL_law_563 rfl rfl ?_
  refine g_iconst (v := 2) (pc := 564) B.1 dL_law_564 rfl ?_
  refine g_iadd (pc := 565) B.1 dL_law_565 ?_
  refine l_sld (pc := 566) B hX hbl (l_in (k := 2) (by omega) hlt hL) dL_law_566 ?_
  refine g_i2l (pc := 567) B.1 dL_law_567 ?_
  refine g_ldc2 (v := 4294967295) (pc := 568) B.1 tw_1823 dL_law_568 ?_
  refine g_land (pc := 571) B.1 dL_law_571 ?_
  refine g_lor (pc := 572) B.1 dL_law_572 ?_
  refine g_aload_n (pc := 573) B.1 3 dL_law_573 rfl rfl ?_
  refine g_iload_n (pc := 574) B.1 0 dL_law_574 rfl rfl ?_
  refine g_iconst (v := 3) (pc := 575) B.1 dL_law_575 rfl ?_
  refine g_iadd (pc := 576) B.1 dL_law_576 ?_
  refine l_sld (pc := 577) B hX hbl (l_in (k := 3) (by omega) hlt hL) dL_law_577 ?_
  refine l_call (rest := []) (st' := [.int r]) (pc := 578) B oi_0 rfl (C_CF_feed_0 (((xs ((nI (6 * n) + 1).toNatClampNeg)).toInt64 <<< ((32 : Int32).toInt64 &&& 63)) ||| (((xs ((nI (6 * n) + 2).toNatClampNeg)).toInt64) &&& 4294967295)) (xs ((nI (6 * n) + 3).toNatClampNeg)) M _ hx) tw_796 tw_793 tw_794 tw_795 tw_98 hd_CF_feed_0 ⟨Nat.le_of_ble_eq_true rfl, Nat.le_of_ble_eq_true rfl⟩ ⟨Nat.le_of_ble_eq_true rfl, Nat.le_of_ble_eq_true rfl⟩ rfl rfl (Nat.le_of_ble_eq_true rfl) rfl dL_law_578 ?_
  refine g_aload_n (pc := 581) B.1 1 dL_law_581 rfl rfl ?_
  refine g_aload_n (pc := 582) B.1 3 dL_law_582 rfl rfl ?_
  refine g_iload_n (pc := 583) B.1 0 dL_law_583 rfl rfl ?_
  refine g_iconst (v := 1) (pc := 584) B.1 dL_law_584 rfl ?_
  refine g_iadd (pc := 585) B.1 dL_law_585 ?_
  refine l_sld (pc := 586) B hX hbl (l_in (k := 1) (by omega) hlt hL) dL_law_586 ?_
  refine g_i2l (pc := 587) B.1 dL_law_587 ?_
  refine g_bipush (v := 32) (pc := 588) B.1 dL_law_588 rfl ?_
  refine g_lshl (pc := 590) B.1 dL_law_590 ?_
  refine g_aload_n (pc := 591) B.1 3 dL_law_591 rfl rfl ?_
  refine g_iload_n (pc := 592) B.1 0 dL_law_592 rfl rfl ?_
  refine g_iconst (v := 2) (pc := 593) B.1 dL_law_593 rfl ?_
  refine g_iadd (pc := 594) B.1 dL_law_594 ?_
  refine l_sld (pc := 595) B hX hbl (l_in (k := 2) (by omega) hlt hL) dL_law_595 ?_
  refine g_i2l (pc := 596) B.1 dL_law_596 ?_
  refine g_ldc2 (v := 4294967295) (pc := 597) B.1 tw_1823 dL_law_597 ?_
  refine g_land (pc := 600) B.1 dL_law_600 ?_
  refine g_lor (pc := 601) B.1 dL_law_601 ?_
  refine g_aload_n (pc := 602) B.1 3 dL_law_602 rfl rfl ?_
  refine g_iload_n (pc := 603) B.1 0 dL_law_603 rfl rfl ?_
  refine g_iconst (v := 3) (pc := 604) B.1 dL_law_604 rfl ?_
  refine g_iadd (pc := 605) B.1 dL_law_605 ?_
  refine l_sld (pc := 606) B hX hbl (l_in (k := 3) (by omega) hlt hL) dL_law_606 ?_
  refine l_call (rest := [.int r]) (st' := [.int r, .int r]) (pc := 607) B oi_94 rfl (C_Mo_feed_94 (((xs ((nI (6 * n) + 1).toNatClampNeg)).toInt64 <<< ((32 : Int32).toInt64 &&& 63)) ||| (((xs ((nI (6 * n) + 2).toNatClampNeg)).toInt64) &&& 4294967295)) (xs ((nI (6 * n) + 3).toNatClampNeg)) M1 _ hm) tw_1592 tw_1589 tw_1590 tw_1591 tw_111 hd_Mo_feed_94 ⟨Nat.le_of_ble_eq_true rfl, Nat.le_of_ble_eq_true rfl⟩ ⟨Nat.le_of_ble_eq_true rfl, Nat.le_of_ble_eq_true rfl⟩ rfl rfl (Nat.le_of_ble_eq_true rfl) rfl dL_law_607 ?_
  refine g_icmp_eq (tgt := 1465) (pc := 610) B.1 dL_law_610 rfl (fun _ => ?_) (fun hc => absurd rfl (of_decide_eq_false hc))
  exact kk M2 hI2
set_option maxHeartbeats 4000000 in
set_option maxRecDepth 20000 in
theorem L_text {D : va_G} {ad adK adV : Nat → Nat} {cI cJ : ClassId} {p : Program} {l : Launch} {e : Env} {s : State} {m : MethodId} {below : List Frame} {meth : Method} {c : Code} {b L : Nat} {xs : Nat → Int32} (B : LawB D ad adK adV cI cJ p s m #[Value.ref b] meth c) (hX : va_X b L xs s s.heap) (hbl : b < s.heap.size) (hL : L ≤ 3072) {Inv : Nat → Mem → Prop} (ho : Op_text Inv) (n : Nat) (M : Mem) (hlt : 6 * n + 6 ≤ L) (hI : Inv n M) (kk : ∀ M2 : Mem, Inv (n + 1) M2 → GG p l e room_1 s m #[Value.ref b] below meth c (lw_Z below #[Value.ref b] s) 4 117 29160 (LawW D ad cI cJ s M2) 1465 [(3, .int (nI (6 * n))), (2, .ref (ad 94)), (1, .ref (ad 0)), (0, .ref b)] []) : GG p l e room_1 s m #[Value.ref b] below meth c (lw_Z below #[Value.ref b] s) 4 117 29160 (LawW D ad cI cJ s M) 615 [(3, .int (nI (6 * n))), (2, .ref (ad 94)), (1, .ref (ad 0)), (0, .ref b)] [] := by
  obtain ⟨r, M1, M2, hx, hm, hI2⟩ := ho n M (xs ((nI (6 * n) + 1).toNatClampNeg)) (by omega) hI
  refine g_aload_n (pc := 615) B.1 2 dL_law_615 rfl rfl ?_
  refine g_aload_n (pc := 616) B.1 3 dL_law_616 rfl rfl ?_
  refine g_iload_n (pc := 617) B.1 0 dL_law_617 rfl rfl ?_
  refine g_iconst (v := 1) (pc := 618) B.1 dL_law_618 rfl ?_
  refine g_iadd (pc := 619) B.1 dL_law_619 ?_
  refine l_sld (pc := 620) B hX hbl (l_in (k := 1) (by omega) hlt hL) dL_law_620 ?_
  refine l_call (rest := []) (st' := [.int r]) (pc := 621) B oi_0 rfl (C_CF_text_0 (xs ((nI (6 * n) + 1).toNatClampNeg)) M _ hx) tw_805 tw_802 tw_803 tw_804 tw_98 hd_CF_text_0 ⟨Nat.le_of_ble_eq_true rfl, Nat.le_of_ble_eq_true rfl⟩ ⟨Nat.le_of_ble_eq_true rfl, Nat.le_of_ble_eq_true rfl⟩ rfl rfl (Nat.le_of_ble_eq_true rfl) rfl dL_law_621 ?_
  refine g_aload_n (pc := 624) B.1 1 dL_law_624 rfl rfl ?_
  refine g_aload_n (pc := 625) B.1 3 dL_law_625 rfl rfl ?_
  refine g_iload_n (pc := 626) B.1 0 dL_law_626 rfl rfl ?_
  refine g_iconst (v := 1) (pc := 627) B.1 dL_law_627 rfl ?_
  refine g_iadd (pc := 628) B.1 dL_law_628 ?_
  refine l_sld (pc := 629) B hX hbl (l_in (k := 1) (by omega) hlt hL) dL_law_629 ?_
  refine l_call (rest := [.int r]) (st' := [.int r, .int r]) (pc := 630) B oi_94 rfl (C_Mo_text_94 (xs ((nI (6 * n) + 1).toNatClampNeg)) M1 _ hm) tw_1597 tw_1594 tw_1595 tw_1596 tw_111 hd_Mo_text_94 ⟨Nat.le_of_ble_eq_true rfl, Nat.le_of_ble_eq_true rfl⟩ ⟨Nat.le_of_ble_eq_true rfl, Nat.le_of_ble_eq_true rfl⟩ rfl rfl (Nat.le_of_ble_eq_true rfl) rfl dL_law_630 ?_
  refine g_icmp_eq (tgt := 1465) (pc := 633) B.1 dL_law_633 rfl (fun _ => ?_) (fun hc => absurd rfl (of_decide_eq_false hc))
  exact kk M2 hI2
set_option maxHeartbeats 4000000 in
set_option maxRecDepth 20000 in
theorem L_force {D : va_G} {ad adK adV : Nat → Nat} {cI cJ : ClassId} {p : Program} {l : Launch} {e : Env} {s : State} {m : MethodId} {below : List Frame} {meth : Method} {c : Code} {b L : Nat} {xs : Nat → Int32} (B : LawB D ad adK adV cI cJ p s m #[Value.ref b] meth c) (hX : va_X b L xs s s.heap) (hbl : b < s.heap.size) (hL : L ≤ 3072) {Inv : Nat → Mem → Prop} (ho : Op_force Inv) (n : Nat) (M : Mem) (hlt : 6 * n + 6 ≤ L) (hI : Inv n M) (kk : ∀ M2 : Mem, Inv (n + 1) M2 → GG p l e room_1 s m #[Value.ref b] below meth c (lw_Z below #[Value.ref b] s) 4 117 29160 (LawW D ad cI cJ s M2) 1465 [(3, .int (nI (6 * n))), (2, .ref (ad 94)), (1, .ref (ad 0)), (0, .ref b)] []) : GG p l e room_1 s m #[Value.ref b] below meth c (lw_Z below #[Value.ref b] s) 4 117 29160 (LawW D ad cI cJ s M) 638 [(3, .int (nI (6 * n))), (2, .ref (ad 94)), (1, .ref (ad 0)), (0, .ref b)] [] := by
  obtain ⟨r, M1, M2, hx, hm, hI2⟩ := ho n M (xs ((nI (6 * n) + 1).toNatClampNeg)) (xs ((nI (6 * n) + 2).toNatClampNeg)) (xs ((nI (6 * n) + 3).toNatClampNeg)) (xs ((nI (6 * n) + 4).toNatClampNeg)) (by omega) hI
  refine g_aload_n (pc := 638) B.1 2 dL_law_638 rfl rfl ?_
  refine g_aload_n (pc := 639) B.1 3 dL_law_639 rfl rfl ?_
  refine g_iload_n (pc := 640) B.1 0 dL_law_640 rfl rfl ?_
  refine g_iconst (v := 1) (pc := 641) B.1 dL_law_641 rfl ?_
  refine g_iadd (pc := 642) B.1 dL_law_642 ?_
  refine l_sld (pc := 643) B hX hbl (l_in (k := 1) (by omega) hlt hL) dL_law_643 ?_
  refine g_aload_n (pc := 644) B.1 3 dL_law_644 rfl rfl ?_
  refine g_iload_n (pc := 645) B.1 0 dL_law_645 rfl rfl ?_
  refine g_iconst (v := 2) (pc := 646) B.1 dL_law_646 rfl ?_
  refine g_iadd (pc := 647) B.1 dL_law_647 ?_
  refine l_sld (pc := 648) B hX hbl (l_in (k := 2) (by omega) hlt hL) dL_law_648 ?_
  refine g_aload_n (pc := 649) B.1 3 dL_law_649 rfl rfl ?_
  refine g_iload_n (pc := 650) B.1 0 dL_law_650 rfl rfl ?_
  refine g_iconst (v := 3) (pc := 651) B.1 dL_law_651 rfl ?_
  refine g_iadd (pc := 652) B.1 dL_law_652 ?_
  refine l_sld (pc := 653) B hX hbl (l_in (k := 3) (by omega) hlt hL) dL_law_653 ?_
  refine g_aload_n (pc := 654) B.1 3 dL_law_654 rfl rfl ?_
  refine g_iload_n (pc := 655) B.1 0 dL_law_655 rfl rfl ?_
  refine g_iconst (v := 4) (pc := 656) B.1 dL_law_656 rfl ?_
  refine g_iadd (pc := 657) B.1 dL_law_657 ?_
  refine l_sld (pc := 658) B hX hbl (l_in (k := 4) (by omega) hlt hL) dL_law_658 ?_
  refine l_call (rest := []) (st' := [.int r]) (pc := 659) B oi_0 rfl (C_CF_force_0 (xs ((nI (6 * n) + 1).toNatClampNeg)) (xs ((nI (6 * n) + 2).toNatClampNeg)) (xs ((nI (6 * n) + 3).toNatClampNeg)) (xs ((nI (6 * n) + 4).toNatClampNeg)) M _ hx) tw_936 tw_933 tw_934 tw_935 tw_98 hd_CF_force_0 ⟨Nat.le_of_ble_eq_true rfl, Nat.le_of_ble_eq_true rfl⟩ ⟨Nat.le_of_ble_eq_true rfl, Nat.le_of_ble_eq_true rfl⟩ rfl rfl (Nat.le_of_ble_eq_true rfl) rfl dL_law_659 ?_
  refine g_aload_n (pc := 662) B.1 1 dL_law_662 rfl rfl ?_
  refine g_aload_n (pc := 663) B.1 3 dL_law_663 rfl rfl ?_
  refine g_iload_n (pc := 664) B.1 0 dL_law_664 rfl rfl ?_
  refine g_iconst (v := 1) (pc := 665) B.1 dL_law_665 rfl ?_
  refine g_iadd (pc := 666) B.1 dL_law_666 ?_
  refine l_sld (pc := 667) B hX hbl (l_in (k := 1) (by omega) hlt hL) dL_law_667 ?_
  refine g_aload_n (pc := 668) B.1 3 dL_law_668 rfl rfl ?_
  refine g_iload_n (pc := 669) B.1 0 dL_law_669 rfl rfl ?_
  refine g_iconst (v := 2) (pc := 670) B.1 dL_law_670 rfl ?_
  refine g_iadd (pc := 671) B.1 dL_law_671 ?_
  refine l_sld (pc := 672) B hX hbl (l_in (k := 2) (by omega) hlt hL) dL_law_672 ?_
  refine g_aload_n (pc := 673) B.1 3 dL_law_673 rfl rfl ?_
  refine g_iload_n (pc := 674) B.1 0 dL_law_674 rfl rfl ?_
  refine g_iconst (v := 3) (pc := 675) B.1 dL_law_675 rfl ?_
  refine g_iadd (pc := 676) B.1 dL_law_676 ?_
  refine l_sld (pc := 677) B hX hbl (l_in (k := 3) (by omega) hlt hL) dL_law_677 ?_
  refine g_aload_n (pc := 678) B.1 3 dL_law_678 rfl rfl ?_
  refine g_iload_n (pc := 679) B.1 0 dL_law_679 rfl rfl ?_
  refine g_iconst (v := 4) (pc := 680) B.1 dL_law_680 rfl ?_
  refine g_iadd (pc := 681) B.1 dL_law_681 ?_
  refine l_sld (pc := 682) B hX hbl (l_in (k := 4) (by omega) hlt hL) dL_law_682 ?_
  refine l_call (rest := [.int r]) (st' := [.int r, .int r]) (pc := 683) B oi_94 rfl (C_Mo_force_94 (xs ((nI (6 * n) + 1).toNatClampNeg)) (xs ((nI (6 * n) + 2).toNatClampNeg)) (xs ((nI (6 * n) + 3).toNatClampNeg)) (xs ((nI (6 * n) + 4).toNatClampNeg)) M1 _ hm) tw_1620 tw_1617 tw_1618 tw_1619 tw_111 hd_Mo_force_94 ⟨Nat.le_of_ble_eq_true rfl, Nat.le_of_ble_eq_true rfl⟩ ⟨Nat.le_of_ble_eq_true rfl, Nat.le_of_ble_eq_true rfl⟩ rfl rfl (Nat.le_of_ble_eq_true rfl) rfl dL_law_683 ?_
  refine g_icmp_eq (tgt := 1465) (pc := 686) B.1 dL_law_686 rfl (fun _ => ?_) (fun hc => absurd rfl (of_decide_eq_false hc))
  exact kk M2 hI2
set_option maxHeartbeats 4000000 in
set_option maxRecDepth 20000 in
theorem L_why {D : va_G} {ad adK adV : Nat → Nat} {cI cJ : ClassId} {p : Program} {l : Launch} {e : Env} {s : State} {m : MethodId} {below : List Frame} {meth : Method} {c : Code} {b L : Nat} {xs : Nat → Int32} (B : LawB D ad adK adV cI cJ p s m #[Value.ref b] meth c) (hX : va_X b L xs s s.heap) (hbl : b < s.heap.size) (hL : L ≤ 3072) {Inv : Nat → Mem → Prop} (ho : Op_why Inv) (n : Nat) (M : Mem) (hlt : 6 * n + 6 ≤ L) (hI : Inv n M) (kk : ∀ M2 : Mem, Inv (n + 1) M2 → GG p l e room_1 s m #[Value.ref b] below meth c (lw_Z below #[Value.ref b] s) 4 117 29160 (LawW D ad cI cJ s M2) 1465 [(3, .int (nI (6 * n))), (2, .ref (ad 94)), (1, .ref (ad 0)), (0, .ref b)] []) : GG p l e room_1 s m #[Value.ref b] below meth c (lw_Z below #[Value.ref b] s) 4 117 29160 (LawW D ad cI cJ s M) 691 [(3, .int (nI (6 * n))), (2, .ref (ad 94)), (1, .ref (ad 0)), (0, .ref b)] [] := by
  obtain ⟨r, M1, M2, hx, hm, hI2⟩ := ho n M (xs ((nI (6 * n) + 1).toNatClampNeg)) (xs ((nI (6 * n) + 2).toNatClampNeg)) (xs ((nI (6 * n) + 3).toNatClampNeg)) (xs ((nI (6 * n) + 4).toNatClampNeg)) (by omega) hI
  refine g_aload_n (pc := 691) B.1 2 dL_law_691 rfl rfl ?_
  refine g_aload_n (pc := 692) B.1 3 dL_law_692 rfl rfl ?_
  refine g_iload_n (pc := 693) B.1 0 dL_law_693 rfl rfl ?_
  refine g_iconst (v := 1) (pc := 694) B.1 dL_law_694 rfl ?_
  refine g_iadd (pc := 695) B.1 dL_law_695 ?_
  refine l_sld (pc := 696) B hX hbl (l_in (k := 1) (by omega) hlt hL) dL_law_696 ?_
  refine g_aload_n (pc := 697) B.1 3 dL_law_697 rfl rfl ?_
  refine g_iload_n (pc := 698) B.1 0 dL_law_698 rfl rfl ?_
  refine g_iconst (v := 2) (pc := 699) B.1 dL_law_699 rfl ?_
  refine g_iadd (pc := 700) B.1 dL_law_700 ?_
  refine l_sld (pc := 701) B hX hbl (l_in (k := 2) (by omega) hlt hL) dL_law_701 ?_
  refine g_aload_n (pc := 702) B.1 3 dL_law_702 rfl rfl ?_
  refine g_iload_n (pc := 703) B.1 0 dL_law_703 rfl rfl ?_
  refine g_iconst (v := 3) (pc := 704) B.1 dL_law_704 rfl ?_
  refine g_iadd (pc := 705) B.1 dL_law_705 ?_
  refine l_sld (pc := 706) B hX hbl (l_in (k := 3) (by omega) hlt hL) dL_law_706 ?_
  refine g_aload_n (pc := 707) B.1 3 dL_law_707 rfl rfl ?_
  refine g_iload_n (pc := 708) B.1 0 dL_law_708 rfl rfl ?_
  refine g_iconst (v := 4) (pc := 709) B.1 dL_law_709 rfl ?_
  refine g_iadd (pc := 710) B.1 dL_law_710 ?_
  refine l_sld (pc := 711) B hX hbl (l_in (k := 4) (by omega) hlt hL) dL_law_711 ?_
  refine l_call (rest := []) (st' := [.int r]) (pc := 712) B oi_0 rfl (C_CF_why_0 (xs ((nI (6 * n) + 1).toNatClampNeg)) (xs ((nI (6 * n) + 2).toNatClampNeg)) (xs ((nI (6 * n) + 3).toNatClampNeg)) (xs ((nI (6 * n) + 4).toNatClampNeg)) M _ hx) tw_950 tw_947 tw_948 tw_949 tw_98 hd_CF_why_0 ⟨Nat.le_of_ble_eq_true rfl, Nat.le_of_ble_eq_true rfl⟩ ⟨Nat.le_of_ble_eq_true rfl, Nat.le_of_ble_eq_true rfl⟩ rfl rfl (Nat.le_of_ble_eq_true rfl) rfl dL_law_712 ?_
  refine g_aload_n (pc := 715) B.1 1 dL_law_715 rfl rfl ?_
  refine g_aload_n (pc := 716) B.1 3 dL_law_716 rfl rfl ?_
  refine g_iload_n (pc := 717) B.1 0 dL_law_717 rfl rfl ?_
  refine g_iconst (v := 1) (pc := 718) B.1 dL_law_718 rfl ?_
  refine g_iadd (pc := 719) B.1 dL_law_719 ?_
  refine l_sld (pc := 720) B hX hbl (l_in (k := 1) (by omega) hlt hL) dL_law_720 ?_
  refine g_aload_n (pc := 721) B.1 3 dL_law_721 rfl rfl ?_
  refine g_iload_n (pc := 722) B.1 0 dL_law_722 rfl rfl ?_
  refine g_iconst (v := 2) (pc := 723) B.1 dL_law_723 rfl ?_
  refine g_iadd (pc := 724) B.1 dL_law_724 ?_
  refine l_sld (pc := 725) B hX hbl (l_in (k := 2) (by omega) hlt hL) dL_law_725 ?_
  refine g_aload_n (pc := 726) B.1 3 dL_law_726 rfl rfl ?_
  refine g_iload_n (pc := 727) B.1 0 dL_law_727 rfl rfl ?_
  refine g_iconst (v := 3) (pc := 728) B.1 dL_law_728 rfl ?_
  refine g_iadd (pc := 729) B.1 dL_law_729 ?_
  refine l_sld (pc := 730) B hX hbl (l_in (k := 3) (by omega) hlt hL) dL_law_730 ?_
  refine g_aload_n (pc := 731) B.1 3 dL_law_731 rfl rfl ?_
  refine g_iload_n (pc := 732) B.1 0 dL_law_732 rfl rfl ?_
  refine g_iconst (v := 4) (pc := 733) B.1 dL_law_733 rfl ?_
  refine g_iadd (pc := 734) B.1 dL_law_734 ?_
  refine l_sld (pc := 735) B hX hbl (l_in (k := 4) (by omega) hlt hL) dL_law_735 ?_
  refine l_call (rest := [.int r]) (st' := [.int r, .int r]) (pc := 736) B oi_94 rfl (C_Mo_why_94 (xs ((nI (6 * n) + 1).toNatClampNeg)) (xs ((nI (6 * n) + 2).toNatClampNeg)) (xs ((nI (6 * n) + 3).toNatClampNeg)) (xs ((nI (6 * n) + 4).toNatClampNeg)) M1 _ hm) tw_1632 tw_1629 tw_1630 tw_1631 tw_111 hd_Mo_why_94 ⟨Nat.le_of_ble_eq_true rfl, Nat.le_of_ble_eq_true rfl⟩ ⟨Nat.le_of_ble_eq_true rfl, Nat.le_of_ble_eq_true rfl⟩ rfl rfl (Nat.le_of_ble_eq_true rfl) rfl dL_law_736 ?_
  refine g_icmp_eq (tgt := 1465) (pc := 739) B.1 dL_law_739 rfl (fun _ => ?_) (fun hc => absurd rfl (of_decide_eq_false hc))
  exact kk M2 hI2
set_option maxHeartbeats 4000000 in
set_option maxRecDepth 20000 in
theorem L_line {D : va_G} {ad adK adV : Nat → Nat} {cI cJ : ClassId} {p : Program} {l : Launch} {e : Env} {s : State} {m : MethodId} {below : List Frame} {meth : Method} {c : Code} {b L : Nat} {xs : Nat → Int32} (B : LawB D ad adK adV cI cJ p s m #[Value.ref b] meth c) (hX : va_X b L xs s s.heap) (hbl : b < s.heap.size) (hL : L ≤ 3072) {Inv : Nat → Mem → Prop} (ho : Op_line Inv) (n : Nat) (M : Mem) (hlt : 6 * n + 6 ≤ L) (hI : Inv n M) (kk : ∀ M2 : Mem, Inv (n + 1) M2 → GG p l e room_1 s m #[Value.ref b] below meth c (lw_Z below #[Value.ref b] s) 4 117 29160 (LawW D ad cI cJ s M2) 1465 [(3, .int (nI (6 * n))), (2, .ref (ad 94)), (1, .ref (ad 0)), (0, .ref b)] []) : GG p l e room_1 s m #[Value.ref b] below meth c (lw_Z below #[Value.ref b] s) 4 117 29160 (LawW D ad cI cJ s M) 744 [(3, .int (nI (6 * n))), (2, .ref (ad 94)), (1, .ref (ad 0)), (0, .ref b)] [] := by
  obtain ⟨r, M1, M2, hx, hm, hI2⟩ := ho n M (xs ((nI (6 * n) + 1).toNatClampNeg)) (xs ((nI (6 * n) + 2).toNatClampNeg)) (by omega) hI
  refine g_aload_n (pc := 744) B.1 2 dL_law_744 rfl rfl ?_
  refine g_aload_n (pc := 745) B.1 3 dL_law_745 rfl rfl ?_
  refine g_iload_n (pc := 746) B.1 0 dL_law_746 rfl rfl ?_
  refine g_iconst (v := 1) (pc := 747) B.1 dL_law_747 rfl ?_
  refine g_iadd (pc := 748) B.1 dL_law_748 ?_
  refine l_sld (pc := 749) B hX hbl (l_in (k := 1) (by omega) hlt hL) dL_law_749 ?_
  refine g_aload_n (pc := 750) B.1 3 dL_law_750 rfl rfl ?_
  refine g_iload_n (pc := 751) B.1 0 dL_law_751 rfl rfl ?_
  refine g_iconst (v := 2) (pc := 752) B.1 dL_law_752 rfl ?_
  refine g_iadd (pc := 753) B.1 dL_law_753 ?_
  refine l_sld (pc := 754) B hX hbl (l_in (k := 2) (by omega) hlt hL) dL_law_754 ?_
  refine l_call (rest := []) (st' := [.int r]) (pc := 755) B oi_0 rfl (C_CF_line_0 (xs ((nI (6 * n) + 1).toNatClampNeg)) (xs ((nI (6 * n) + 2).toNatClampNeg)) M _ hx) tw_954 tw_951 tw_952 tw_953 tw_98 hd_CF_line_0 ⟨Nat.le_of_ble_eq_true rfl, Nat.le_of_ble_eq_true rfl⟩ ⟨Nat.le_of_ble_eq_true rfl, Nat.le_of_ble_eq_true rfl⟩ rfl rfl (Nat.le_of_ble_eq_true rfl) rfl dL_law_755 ?_
  refine g_aload_n (pc := 758) B.1 1 dL_law_758 rfl rfl ?_
  refine g_aload_n (pc := 759) B.1 3 dL_law_759 rfl rfl ?_
  refine g_iload_n (pc := 760) B.1 0 dL_law_760 rfl rfl ?_
  refine g_iconst (v := 1) (pc := 761) B.1 dL_law_761 rfl ?_
  refine g_iadd (pc := 762) B.1 dL_law_762 ?_
  refine l_sld (pc := 763) B hX hbl (l_in (k := 1) (by omega) hlt hL) dL_law_763 ?_
  refine g_aload_n (pc := 764) B.1 3 dL_law_764 rfl rfl ?_
  refine g_iload_n (pc := 765) B.1 0 dL_law_765 rfl rfl ?_
  refine g_iconst (v := 2) (pc := 766) B.1 dL_law_766 rfl ?_
  refine g_iadd (pc := 767) B.1 dL_law_767 ?_
  refine l_sld (pc := 768) B hX hbl (l_in (k := 2) (by omega) hlt hL) dL_law_768 ?_
  refine l_call (rest := [.int r]) (st' := [.int r, .int r]) (pc := 769) B oi_94 rfl (C_Mo_line_94 (xs ((nI (6 * n) + 1).toNatClampNeg)) (xs ((nI (6 * n) + 2).toNatClampNeg)) M1 _ hm) tw_1636 tw_1633 tw_1634 tw_1635 tw_111 hd_Mo_line_94 ⟨Nat.le_of_ble_eq_true rfl, Nat.le_of_ble_eq_true rfl⟩ ⟨Nat.le_of_ble_eq_true rfl, Nat.le_of_ble_eq_true rfl⟩ rfl rfl (Nat.le_of_ble_eq_true rfl) rfl dL_law_769 ?_
  refine g_icmp_eq (tgt := 1465) (pc := 772) B.1 dL_law_772 rfl (fun _ => ?_) (fun hc => absurd rfl (of_decide_eq_false hc))
  exact kk M2 hI2
set_option maxHeartbeats 4000000 in
set_option maxRecDepth 20000 in
theorem L_clear {D : va_G} {ad adK adV : Nat → Nat} {cI cJ : ClassId} {p : Program} {l : Launch} {e : Env} {s : State} {m : MethodId} {below : List Frame} {meth : Method} {c : Code} {b L : Nat} {xs : Nat → Int32} (B : LawB D ad adK adV cI cJ p s m #[Value.ref b] meth c) (hX : va_X b L xs s s.heap) (hbl : b < s.heap.size) (hL : L ≤ 3072) {Inv : Nat → Mem → Prop} (ho : Op_clear Inv) (n : Nat) (M : Mem) (hlt : 6 * n + 6 ≤ L) (hI : Inv n M) (kk : ∀ M2 : Mem, Inv (n + 1) M2 → GG p l e room_1 s m #[Value.ref b] below meth c (lw_Z below #[Value.ref b] s) 4 117 29160 (LawW D ad cI cJ s M2) 1465 [(3, .int (nI (6 * n))), (2, .ref (ad 94)), (1, .ref (ad 0)), (0, .ref b)] []) : GG p l e room_1 s m #[Value.ref b] below meth c (lw_Z below #[Value.ref b] s) 4 117 29160 (LawW D ad cI cJ s M) 777 [(3, .int (nI (6 * n))), (2, .ref (ad 94)), (1, .ref (ad 0)), (0, .ref b)] [] := by
  obtain ⟨r, M1, M2, hx, hm, hI2⟩ := ho n M  (by omega) hI
  refine g_aload_n (pc := 777) B.1 2 dL_law_777 rfl rfl ?_
  refine l_call (rest := []) (st' := [.int r]) (pc := 778) B oi_0 rfl (C_CF_clear_0  M _ hx) tw_962 tw_959 tw_960 tw_961 tw_98 hd_CF_clear_0 ⟨Nat.le_of_ble_eq_true rfl, Nat.le_of_ble_eq_true rfl⟩ ⟨Nat.le_of_ble_eq_true rfl, Nat.le_of_ble_eq_true rfl⟩ rfl rfl (Nat.le_of_ble_eq_true rfl) rfl dL_law_778 ?_
  refine g_aload_n (pc := 781) B.1 1 dL_law_781 rfl rfl ?_
  refine l_call (rest := [.int r]) (st' := [.int r, .int r]) (pc := 782) B oi_94 rfl (C_Mo_clear_94  M1 _ hm) tw_1640 tw_1637 tw_1638 tw_1639 tw_111 hd_Mo_clear_94 ⟨Nat.le_of_ble_eq_true rfl, Nat.le_of_ble_eq_true rfl⟩ ⟨Nat.le_of_ble_eq_true rfl, Nat.le_of_ble_eq_true rfl⟩ rfl rfl (Nat.le_of_ble_eq_true rfl) rfl dL_law_782 ?_
  refine g_icmp_eq (tgt := 1465) (pc := 785) B.1 dL_law_785 rfl (fun _ => ?_) (fun hc => absurd rfl (of_decide_eq_false hc))
  exact kk M2 hI2
set_option maxHeartbeats 4000000 in
set_option maxRecDepth 20000 in
theorem L_best {D : va_G} {ad adK adV : Nat → Nat} {cI cJ : ClassId} {p : Program} {l : Launch} {e : Env} {s : State} {m : MethodId} {below : List Frame} {meth : Method} {c : Code} {b L : Nat} {xs : Nat → Int32} (B : LawB D ad adK adV cI cJ p s m #[Value.ref b] meth c) (hX : va_X b L xs s s.heap) (hbl : b < s.heap.size) (hL : L ≤ 3072) {Inv : Nat → Mem → Prop} (ho : Op_best Inv) (n : Nat) (M : Mem) (hlt : 6 * n + 6 ≤ L) (hI : Inv n M) (kk : ∀ M2 : Mem, Inv (n + 1) M2 → GG p l e room_1 s m #[Value.ref b] below meth c (lw_Z below #[Value.ref b] s) 4 117 29160 (LawW D ad cI cJ s M2) 1465 [(3, .int (nI (6 * n))), (2, .ref (ad 94)), (1, .ref (ad 0)), (0, .ref b)] []) : GG p l e room_1 s m #[Value.ref b] below meth c (lw_Z below #[Value.ref b] s) 4 117 29160 (LawW D ad cI cJ s M) 790 [(3, .int (nI (6 * n))), (2, .ref (ad 94)), (1, .ref (ad 0)), (0, .ref b)] [] := by
  obtain ⟨r, M1, M2, hx, hm, hI2⟩ := ho n M (xs ((nI (6 * n) + 1).toNatClampNeg)) (by omega) hI
  refine g_aload_n (pc := 790) B.1 2 dL_law_790 rfl rfl ?_
  refine g_aload_n (pc := 791) B.1 3 dL_law_791 rfl rfl ?_
  refine g_iload_n (pc := 792) B.1 0 dL_law_792 rfl rfl ?_
  refine g_iconst (v := 1) (pc := 793) B.1 dL_law_793 rfl ?_
  refine g_iadd (pc := 794) B.1 dL_law_794 ?_
  refine l_sld (pc := 795) B hX hbl (l_in (k := 1) (by omega) hlt hL) dL_law_795 ?_
  refine l_call (rest := []) (st' := [.int r]) (pc := 796) B oi_0 rfl (C_CF_best_0 (xs ((nI (6 * n) + 1).toNatClampNeg)) M _ hx) tw_970 tw_967 tw_968 tw_969 tw_98 hd_CF_best_0 ⟨Nat.le_of_ble_eq_true rfl, Nat.le_of_ble_eq_true rfl⟩ ⟨Nat.le_of_ble_eq_true rfl, Nat.le_of_ble_eq_true rfl⟩ rfl rfl (Nat.le_of_ble_eq_true rfl) rfl dL_law_796 ?_
  refine g_aload_n (pc := 799) B.1 1 dL_law_799 rfl rfl ?_
  refine g_aload_n (pc := 800) B.1 3 dL_law_800 rfl rfl ?_
  refine g_iload_n (pc := 801) B.1 0 dL_law_801 rfl rfl ?_
  refine g_iconst (v := 1) (pc := 802) B.1 dL_law_802 rfl ?_
  refine g_iadd (pc := 803) B.1 dL_law_803 ?_
  refine l_sld (pc := 804) B hX hbl (l_in (k := 1) (by omega) hlt hL) dL_law_804 ?_
  refine l_call (rest := [.int r]) (st' := [.int r, .int r]) (pc := 805) B oi_94 rfl (C_Mo_best_94 (xs ((nI (6 * n) + 1).toNatClampNeg)) M1 _ hm) tw_1644 tw_1641 tw_1642 tw_1643 tw_111 hd_Mo_best_94 ⟨Nat.le_of_ble_eq_true rfl, Nat.le_of_ble_eq_true rfl⟩ ⟨Nat.le_of_ble_eq_true rfl, Nat.le_of_ble_eq_true rfl⟩ rfl rfl (Nat.le_of_ble_eq_true rfl) rfl dL_law_805 ?_
  refine g_icmp_eq (tgt := 1465) (pc := 808) B.1 dL_law_808 rfl (fun _ => ?_) (fun hc => absurd rfl (of_decide_eq_false hc))
  exact kk M2 hI2
set_option maxHeartbeats 4000000 in
set_option maxRecDepth 20000 in
theorem L_mile {D : va_G} {ad adK adV : Nat → Nat} {cI cJ : ClassId} {p : Program} {l : Launch} {e : Env} {s : State} {m : MethodId} {below : List Frame} {meth : Method} {c : Code} {b L : Nat} {xs : Nat → Int32} (B : LawB D ad adK adV cI cJ p s m #[Value.ref b] meth c) (hX : va_X b L xs s s.heap) (hbl : b < s.heap.size) (hL : L ≤ 3072) {Inv : Nat → Mem → Prop} (ho : Op_mile Inv) (n : Nat) (M : Mem) (hlt : 6 * n + 6 ≤ L) (hI : Inv n M) (kk : ∀ M2 : Mem, Inv (n + 1) M2 → GG p l e room_1 s m #[Value.ref b] below meth c (lw_Z below #[Value.ref b] s) 4 117 29160 (LawW D ad cI cJ s M2) 1465 [(3, .int (nI (6 * n))), (2, .ref (ad 94)), (1, .ref (ad 0)), (0, .ref b)] []) : GG p l e room_1 s m #[Value.ref b] below meth c (lw_Z below #[Value.ref b] s) 4 117 29160 (LawW D ad cI cJ s M) 813 [(3, .int (nI (6 * n))), (2, .ref (ad 94)), (1, .ref (ad 0)), (0, .ref b)] [] := by
  obtain ⟨r, M1, M2, hx, hm, hI2⟩ := ho n M (xs ((nI (6 * n) + 1).toNatClampNeg)) (by omega) hI
  refine g_aload_n (pc := 813) B.1 2 dL_law_813 rfl rfl ?_
  refine g_aload_n (pc := 814) B.1 3 dL_law_814 rfl rfl ?_
  refine g_iload_n (pc := 815) B.1 0 dL_law_815 rfl rfl ?_
  refine g_iconst (v := 1) (pc := 816) B.1 dL_law_816 rfl ?_
  refine g_iadd (pc := 817) B.1 dL_law_817 ?_
  refine l_sld (pc := 818) B hX hbl (l_in (k := 1) (by omega) hlt hL) dL_law_818 ?_
  refine l_call (rest := []) (st' := [.int r]) (pc := 819) B oi_0 rfl (C_CF_mile_0 (xs ((nI (6 * n) + 1).toNatClampNeg)) M _ hx) tw_1006 tw_1003 tw_1004 tw_1005 tw_98 hd_CF_mile_0 ⟨Nat.le_of_ble_eq_true rfl, Nat.le_of_ble_eq_true rfl⟩ ⟨Nat.le_of_ble_eq_true rfl, Nat.le_of_ble_eq_true rfl⟩ rfl rfl (Nat.le_of_ble_eq_true rfl) rfl dL_law_819 ?_
  refine g_aload_n (pc := 822) B.1 1 dL_law_822 rfl rfl ?_
  refine g_aload_n (pc := 823) B.1 3 dL_law_823 rfl rfl ?_
  refine g_iload_n (pc := 824) B.1 0 dL_law_824 rfl rfl ?_
  refine g_iconst (v := 1) (pc := 825) B.1 dL_law_825 rfl ?_
  refine g_iadd (pc := 826) B.1 dL_law_826 ?_
  refine l_sld (pc := 827) B hX hbl (l_in (k := 1) (by omega) hlt hL) dL_law_827 ?_
  refine l_call (rest := [.int r]) (st' := [.int r, .int r]) (pc := 828) B oi_94 rfl (C_Mo_mile_94 (xs ((nI (6 * n) + 1).toNatClampNeg)) M1 _ hm) tw_1653 tw_1650 tw_1651 tw_1652 tw_111 hd_Mo_mile_94 ⟨Nat.le_of_ble_eq_true rfl, Nat.le_of_ble_eq_true rfl⟩ ⟨Nat.le_of_ble_eq_true rfl, Nat.le_of_ble_eq_true rfl⟩ rfl rfl (Nat.le_of_ble_eq_true rfl) rfl dL_law_828 ?_
  refine g_icmp_eq (tgt := 1465) (pc := 831) B.1 dL_law_831 rfl (fun _ => ?_) (fun hc => absurd rfl (of_decide_eq_false hc))
  exact kk M2 hI2
set_option maxHeartbeats 4000000 in
set_option maxRecDepth 20000 in
theorem L_span {D : va_G} {ad adK adV : Nat → Nat} {cI cJ : ClassId} {p : Program} {l : Launch} {e : Env} {s : State} {m : MethodId} {below : List Frame} {meth : Method} {c : Code} {b L : Nat} {xs : Nat → Int32} (B : LawB D ad adK adV cI cJ p s m #[Value.ref b] meth c) (hX : va_X b L xs s s.heap) (hbl : b < s.heap.size) (hL : L ≤ 3072) {Inv : Nat → Mem → Prop} (ho : Op_span Inv) (n : Nat) (M : Mem) (hlt : 6 * n + 6 ≤ L) (hI : Inv n M) (kk : ∀ M2 : Mem, Inv (n + 1) M2 → GG p l e room_1 s m #[Value.ref b] below meth c (lw_Z below #[Value.ref b] s) 4 117 29160 (LawW D ad cI cJ s M2) 1465 [(3, .int (nI (6 * n))), (2, .ref (ad 94)), (1, .ref (ad 0)), (0, .ref b)] []) : GG p l e room_1 s m #[Value.ref b] below meth c (lw_Z below #[Value.ref b] s) 4 117 29160 (LawW D ad cI cJ s M) 836 [(3, .int (nI (6 * n))), (2, .ref (ad 94)), (1, .ref (ad 0)), (0, .ref b)] [] := by
  obtain ⟨r, M1, M2, hx, hm, hI2⟩ := ho n M (xs ((nI (6 * n) + 1).toNatClampNeg)) (by omega) hI
  refine g_aload_n (pc := 836) B.1 2 dL_law_836 rfl rfl ?_
  refine g_aload_n (pc := 837) B.1 3 dL_law_837 rfl rfl ?_
  refine g_iload_n (pc := 838) B.1 0 dL_law_838 rfl rfl ?_
  refine g_iconst (v := 1) (pc := 839) B.1 dL_law_839 rfl ?_
  refine g_iadd (pc := 840) B.1 dL_law_840 ?_
  refine l_sld (pc := 841) B hX hbl (l_in (k := 1) (by omega) hlt hL) dL_law_841 ?_
  refine l_call (rest := []) (st' := [.int r]) (pc := 842) B oi_0 rfl (C_CF_span_0 (xs ((nI (6 * n) + 1).toNatClampNeg)) M _ hx) tw_1028 tw_1025 tw_1026 tw_1027 tw_98 hd_CF_span_0 ⟨Nat.le_of_ble_eq_true rfl, Nat.le_of_ble_eq_true rfl⟩ ⟨Nat.le_of_ble_eq_true rfl, Nat.le_of_ble_eq_true rfl⟩ rfl rfl (Nat.le_of_ble_eq_true rfl) rfl dL_law_842 ?_
  refine g_aload_n (pc := 845) B.1 1 dL_law_845 rfl rfl ?_
  refine g_aload_n (pc := 846) B.1 3 dL_law_846 rfl rfl ?_
  refine g_iload_n (pc := 847) B.1 0 dL_law_847 rfl rfl ?_
  refine g_iconst (v := 1) (pc := 848) B.1 dL_law_848 rfl ?_
  refine g_iadd (pc := 849) B.1 dL_law_849 ?_
  refine l_sld (pc := 850) B hX hbl (l_in (k := 1) (by omega) hlt hL) dL_law_850 ?_
  refine l_call (rest := [.int r]) (st' := [.int r, .int r]) (pc := 851) B oi_94 rfl (C_Mo_span_94 (xs ((nI (6 * n) + 1).toNatClampNeg)) M1 _ hm) tw_1665 tw_1662 tw_1663 tw_1664 tw_111 hd_Mo_span_94 ⟨Nat.le_of_ble_eq_true rfl, Nat.le_of_ble_eq_true rfl⟩ ⟨Nat.le_of_ble_eq_true rfl, Nat.le_of_ble_eq_true rfl⟩ rfl rfl (Nat.le_of_ble_eq_true rfl) rfl dL_law_851 ?_
  refine g_icmp_eq (tgt := 1465) (pc := 854) B.1 dL_law_854 rfl (fun _ => ?_) (fun hc => absurd rfl (of_decide_eq_false hc))
  exact kk M2 hI2
set_option maxHeartbeats 4000000 in
set_option maxRecDepth 20000 in
theorem L_pole {D : va_G} {ad adK adV : Nat → Nat} {cI cJ : ClassId} {p : Program} {l : Launch} {e : Env} {s : State} {m : MethodId} {below : List Frame} {meth : Method} {c : Code} {b L : Nat} {xs : Nat → Int32} (B : LawB D ad adK adV cI cJ p s m #[Value.ref b] meth c) (hX : va_X b L xs s s.heap) (hbl : b < s.heap.size) (hL : L ≤ 3072) {Inv : Nat → Mem → Prop} (ho : Op_pole Inv) (n : Nat) (M : Mem) (hlt : 6 * n + 6 ≤ L) (hI : Inv n M) (kk : ∀ M2 : Mem, Inv (n + 1) M2 → GG p l e room_1 s m #[Value.ref b] below meth c (lw_Z below #[Value.ref b] s) 4 117 29160 (LawW D ad cI cJ s M2) 1465 [(3, .int (nI (6 * n))), (2, .ref (ad 94)), (1, .ref (ad 0)), (0, .ref b)] []) : GG p l e room_1 s m #[Value.ref b] below meth c (lw_Z below #[Value.ref b] s) 4 117 29160 (LawW D ad cI cJ s M) 859 [(3, .int (nI (6 * n))), (2, .ref (ad 94)), (1, .ref (ad 0)), (0, .ref b)] [] := by
  obtain ⟨r, M1, M2, hx, hm, hI2⟩ := ho n M (xs ((nI (6 * n) + 1).toNatClampNeg)) (by omega) hI
  refine g_aload_n (pc := 859) B.1 2 dL_law_859 rfl rfl ?_
  refine g_aload_n (pc := 860) B.1 3 dL_law_860 rfl rfl ?_
  refine g_iload_n (pc := 861) B.1 0 dL_law_861 rfl rfl ?_
  refine g_iconst (v := 1) (pc := 862) B.1 dL_law_862 rfl ?_
  refine g_iadd (pc := 863) B.1 dL_law_863 ?_
  refine l_sld (pc := 864) B hX hbl (l_in (k := 1) (by omega) hlt hL) dL_law_864 ?_
  refine l_call (rest := []) (st' := [.int r]) (pc := 865) B oi_0 rfl (C_CF_pole_0 (xs ((nI (6 * n) + 1).toNatClampNeg)) M _ hx) tw_1032 tw_1029 tw_1030 tw_1031 tw_98 hd_CF_pole_0 ⟨Nat.le_of_ble_eq_true rfl, Nat.le_of_ble_eq_true rfl⟩ ⟨Nat.le_of_ble_eq_true rfl, Nat.le_of_ble_eq_true rfl⟩ rfl rfl (Nat.le_of_ble_eq_true rfl) rfl dL_law_865 ?_
  refine g_aload_n (pc := 868) B.1 1 dL_law_868 rfl rfl ?_
  refine g_aload_n (pc := 869) B.1 3 dL_law_869 rfl rfl ?_
  refine g_iload_n (pc := 870) B.1 0 dL_law_870 rfl rfl ?_
  refine g_iconst (v := 1) (pc := 871) B.1 dL_law_871 rfl ?_
  refine g_iadd (pc := 872) B.1 dL_law_872 ?_
  refine l_sld (pc := 873) B hX hbl (l_in (k := 1) (by omega) hlt hL) dL_law_873 ?_
  refine l_call (rest := [.int r]) (st' := [.int r, .int r]) (pc := 874) B oi_94 rfl (C_Mo_pole_94 (xs ((nI (6 * n) + 1).toNatClampNeg)) M1 _ hm) tw_1669 tw_1666 tw_1667 tw_1668 tw_111 hd_Mo_pole_94 ⟨Nat.le_of_ble_eq_true rfl, Nat.le_of_ble_eq_true rfl⟩ ⟨Nat.le_of_ble_eq_true rfl, Nat.le_of_ble_eq_true rfl⟩ rfl rfl (Nat.le_of_ble_eq_true rfl) rfl dL_law_874 ?_
  refine g_icmp_eq (tgt := 1465) (pc := 877) B.1 dL_law_877 rfl (fun _ => ?_) (fun hc => absurd rfl (of_decide_eq_false hc))
  exact kk M2 hI2
set_option maxHeartbeats 4000000 in
set_option maxRecDepth 20000 in
theorem L_left {D : va_G} {ad adK adV : Nat → Nat} {cI cJ : ClassId} {p : Program} {l : Launch} {e : Env} {s : State} {m : MethodId} {below : List Frame} {meth : Method} {c : Code} {b L : Nat} {xs : Nat → Int32} (B : LawB D ad adK adV cI cJ p s m #[Value.ref b] meth c) (hX : va_X b L xs s s.heap) (hbl : b < s.heap.size) (hL : L ≤ 3072) {Inv : Nat → Mem → Prop} (ho : Op_left Inv) (n : Nat) (M : Mem) (hlt : 6 * n + 6 ≤ L) (hI : Inv n M) (kk : ∀ M2 : Mem, Inv (n + 1) M2 → GG p l e room_1 s m #[Value.ref b] below meth c (lw_Z below #[Value.ref b] s) 4 117 29160 (LawW D ad cI cJ s M2) 1465 [(3, .int (nI (6 * n))), (2, .ref (ad 94)), (1, .ref (ad 0)), (0, .ref b)] []) : GG p l e room_1 s m #[Value.ref b] below meth c (lw_Z below #[Value.ref b] s) 4 117 29160 (LawW D ad cI cJ s M) 882 [(3, .int (nI (6 * n))), (2, .ref (ad 94)), (1, .ref (ad 0)), (0, .ref b)] [] := by
  obtain ⟨r, M1, M2, hx, hm, hI2⟩ := ho n M  (by omega) hI
  refine g_aload_n (pc := 882) B.1 2 dL_law_882 rfl rfl ?_
  refine l_call (rest := []) (st' := [.int r]) (pc := 883) B oi_0 rfl (C_CF_left_0  M _ hx) tw_1044 tw_1041 tw_1042 tw_1043 tw_98 hd_CF_left_0 ⟨Nat.le_of_ble_eq_true rfl, Nat.le_of_ble_eq_true rfl⟩ ⟨Nat.le_of_ble_eq_true rfl, Nat.le_of_ble_eq_true rfl⟩ rfl rfl (Nat.le_of_ble_eq_true rfl) rfl dL_law_883 ?_
  refine g_aload_n (pc := 886) B.1 1 dL_law_886 rfl rfl ?_
  refine l_call (rest := [.int r]) (st' := [.int r, .int r]) (pc := 887) B oi_94 rfl (C_Mo_left_94  M1 _ hm) tw_1673 tw_1670 tw_1671 tw_1672 tw_111 hd_Mo_left_94 ⟨Nat.le_of_ble_eq_true rfl, Nat.le_of_ble_eq_true rfl⟩ ⟨Nat.le_of_ble_eq_true rfl, Nat.le_of_ble_eq_true rfl⟩ rfl rfl (Nat.le_of_ble_eq_true rfl) rfl dL_law_887 ?_
  refine g_icmp_eq (tgt := 1465) (pc := 890) B.1 dL_law_890 rfl (fun _ => ?_) (fun hc => absurd rfl (of_decide_eq_false hc))
  exact kk M2 hI2
set_option maxHeartbeats 4000000 in
set_option maxRecDepth 20000 in
theorem L_next {D : va_G} {ad adK adV : Nat → Nat} {cI cJ : ClassId} {p : Program} {l : Launch} {e : Env} {s : State} {m : MethodId} {below : List Frame} {meth : Method} {c : Code} {b L : Nat} {xs : Nat → Int32} (B : LawB D ad adK adV cI cJ p s m #[Value.ref b] meth c) (hX : va_X b L xs s s.heap) (hbl : b < s.heap.size) (hL : L ≤ 3072) {Inv : Nat → Mem → Prop} (ho : Op_next Inv) (n : Nat) (M : Mem) (hlt : 6 * n + 6 ≤ L) (hI : Inv n M) (kk : ∀ M2 : Mem, Inv (n + 1) M2 → GG p l e room_1 s m #[Value.ref b] below meth c (lw_Z below #[Value.ref b] s) 4 117 29160 (LawW D ad cI cJ s M2) 1465 [(3, .int (nI (6 * n))), (2, .ref (ad 94)), (1, .ref (ad 0)), (0, .ref b)] []) : GG p l e room_1 s m #[Value.ref b] below meth c (lw_Z below #[Value.ref b] s) 4 117 29160 (LawW D ad cI cJ s M) 895 [(3, .int (nI (6 * n))), (2, .ref (ad 94)), (1, .ref (ad 0)), (0, .ref b)] [] := by
  obtain ⟨r, M1, M2, hx, hm, hI2⟩ := ho n M (xs ((nI (6 * n) + 1).toNatClampNeg)) (xs ((nI (6 * n) + 2).toNatClampNeg)) (by omega) hI
  refine g_aload_n (pc := 895) B.1 2 dL_law_895 rfl rfl ?_
  refine g_aload_n (pc := 896) B.1 3 dL_law_896 rfl rfl ?_
  refine g_iload_n (pc := 897) B.1 0 dL_law_897 rfl rfl ?_
  refine g_iconst (v := 1) (pc := 898) B.1 dL_law_898 rfl ?_
  refine g_iadd (pc := 899) B.1 dL_law_899 ?_
  refine l_sld (pc := 900) B hX hbl (l_in (k := 1) (by omega) hlt hL) dL_law_900 ?_
  refine g_aload_n (pc := 901) B.1 3 dL_law_901 rfl rfl ?_
  refine g_iload_n (pc := 902) B.1 0 dL_law_902 rfl rfl ?_
  refine g_iconst (v := 2) (pc := 903) B.1 dL_law_903 rfl ?_
  refine g_iadd (pc := 904) B.1 dL_law_904 ?_
  refine l_sld (pc := 905) B hX hbl (l_in (k := 2) (by omega) hlt hL) dL_law_905 ?_
  refine l_call (rest := []) (st' := [.int r]) (pc := 906) B oi_0 rfl (C_CF_next_0 (xs ((nI (6 * n) + 1).toNatClampNeg)) (xs ((nI (6 * n) + 2).toNatClampNeg)) M _ hx) tw_1048 tw_1045 tw_1046 tw_1047 tw_98 hd_CF_next_0 ⟨Nat.le_of_ble_eq_true rfl, Nat.le_of_ble_eq_true rfl⟩ ⟨Nat.le_of_ble_eq_true rfl, Nat.le_of_ble_eq_true rfl⟩ rfl rfl (Nat.le_of_ble_eq_true rfl) rfl dL_law_906 ?_
  refine g_aload_n (pc := 909) B.1 1 dL_law_909 rfl rfl ?_
  refine g_aload_n (pc := 910) B.1 3 dL_law_910 rfl rfl ?_
  refine g_iload_n (pc := 911) B.1 0 dL_law_911 rfl rfl ?_
  refine g_iconst (v := 1) (pc := 912) B.1 dL_law_912 rfl ?_
  refine g_iadd (pc := 913) B.1 dL_law_913 ?_
  refine l_sld (pc := 914) B hX hbl (l_in (k := 1) (by omega) hlt hL) dL_law_914 ?_
  refine g_aload_n (pc := 915) B.1 3 dL_law_915 rfl rfl ?_
  refine g_iload_n (pc := 916) B.1 0 dL_law_916 rfl rfl ?_
  refine g_iconst (v := 2) (pc := 917) B.1 dL_law_917 rfl ?_
  refine g_iadd (pc := 918) B.1 dL_law_918 ?_
  refine l_sld (pc := 919) B hX hbl (l_in (k := 2) (by omega) hlt hL) dL_law_919 ?_
  refine l_call (rest := [.int r]) (st' := [.int r, .int r]) (pc := 920) B oi_94 rfl (C_Mo_next_94 (xs ((nI (6 * n) + 1).toNatClampNeg)) (xs ((nI (6 * n) + 2).toNatClampNeg)) M1 _ hm) tw_1681 tw_1678 tw_1679 tw_1680 tw_111 hd_Mo_next_94 ⟨Nat.le_of_ble_eq_true rfl, Nat.le_of_ble_eq_true rfl⟩ ⟨Nat.le_of_ble_eq_true rfl, Nat.le_of_ble_eq_true rfl⟩ rfl rfl (Nat.le_of_ble_eq_true rfl) rfl dL_law_920 ?_
  refine g_icmp_eq (tgt := 1465) (pc := 923) B.1 dL_law_923 rfl (fun _ => ?_) (fun hc => absurd rfl (of_decide_eq_false hc))
  exact kk M2 hI2
set_option maxHeartbeats 4000000 in
set_option maxRecDepth 20000 in
theorem L_wire {D : va_G} {ad adK adV : Nat → Nat} {cI cJ : ClassId} {p : Program} {l : Launch} {e : Env} {s : State} {m : MethodId} {below : List Frame} {meth : Method} {c : Code} {b L : Nat} {xs : Nat → Int32} (B : LawB D ad adK adV cI cJ p s m #[Value.ref b] meth c) (hX : va_X b L xs s s.heap) (hbl : b < s.heap.size) (hL : L ≤ 3072) {Inv : Nat → Mem → Prop} (ho : Op_wire Inv) (n : Nat) (M : Mem) (hlt : 6 * n + 6 ≤ L) (hI : Inv n M) (kk : ∀ M2 : Mem, Inv (n + 1) M2 → GG p l e room_1 s m #[Value.ref b] below meth c (lw_Z below #[Value.ref b] s) 4 117 29160 (LawW D ad cI cJ s M2) 1465 [(3, .int (nI (6 * n))), (2, .ref (ad 94)), (1, .ref (ad 0)), (0, .ref b)] []) : GG p l e room_1 s m #[Value.ref b] below meth c (lw_Z below #[Value.ref b] s) 4 117 29160 (LawW D ad cI cJ s M) 928 [(3, .int (nI (6 * n))), (2, .ref (ad 94)), (1, .ref (ad 0)), (0, .ref b)] [] := by
  obtain ⟨r, M1, M2, hx, hm, hI2⟩ := ho n M (xs ((nI (6 * n) + 1).toNatClampNeg)) (by omega) hI
  refine g_aload_n (pc := 928) B.1 2 dL_law_928 rfl rfl ?_
  refine g_aload_n (pc := 929) B.1 3 dL_law_929 rfl rfl ?_
  refine g_iload_n (pc := 930) B.1 0 dL_law_930 rfl rfl ?_
  refine g_iconst (v := 1) (pc := 931) B.1 dL_law_931 rfl ?_
  refine g_iadd (pc := 932) B.1 dL_law_932 ?_
  refine l_sld (pc := 933) B hX hbl (l_in (k := 1) (by omega) hlt hL) dL_law_933 ?_
  refine l_call (rest := []) (st' := [.int r]) (pc := 934) B oi_0 rfl (C_CF_wire_0 (xs ((nI (6 * n) + 1).toNatClampNeg)) M _ hx) tw_1070 tw_1067 tw_1068 tw_1069 tw_98 hd_CF_wire_0 ⟨Nat.le_of_ble_eq_true rfl, Nat.le_of_ble_eq_true rfl⟩ ⟨Nat.le_of_ble_eq_true rfl, Nat.le_of_ble_eq_true rfl⟩ rfl rfl (Nat.le_of_ble_eq_true rfl) rfl dL_law_934 ?_
  refine g_aload_n (pc := 937) B.1 1 dL_law_937 rfl rfl ?_
  refine g_aload_n (pc := 938) B.1 3 dL_law_938 rfl rfl ?_
  refine g_iload_n (pc := 939) B.1 0 dL_law_939 rfl rfl ?_
  refine g_iconst (v := 1) (pc := 940) B.1 dL_law_940 rfl ?_
  refine g_iadd (pc := 941) B.1 dL_law_941 ?_
  refine l_sld (pc := 942) B hX hbl (l_in (k := 1) (by omega) hlt hL) dL_law_942 ?_
  refine l_call (rest := [.int r]) (st' := [.int r, .int r]) (pc := 943) B oi_94 rfl (C_Mo_wire_94 (xs ((nI (6 * n) + 1).toNatClampNeg)) M1 _ hm) tw_1701 tw_1698 tw_1699 tw_1700 tw_111 hd_Mo_wire_94 ⟨Nat.le_of_ble_eq_true rfl, Nat.le_of_ble_eq_true rfl⟩ ⟨Nat.le_of_ble_eq_true rfl, Nat.le_of_ble_eq_true rfl⟩ rfl rfl (Nat.le_of_ble_eq_true rfl) rfl dL_law_943 ?_
  refine g_icmp_eq (tgt := 1465) (pc := 946) B.1 dL_law_946 rfl (fun _ => ?_) (fun hc => absurd rfl (of_decide_eq_false hc))
  exact kk M2 hI2
set_option maxHeartbeats 4000000 in
set_option maxRecDepth 20000 in
theorem L_volt {D : va_G} {ad adK adV : Nat → Nat} {cI cJ : ClassId} {p : Program} {l : Launch} {e : Env} {s : State} {m : MethodId} {below : List Frame} {meth : Method} {c : Code} {b L : Nat} {xs : Nat → Int32} (B : LawB D ad adK adV cI cJ p s m #[Value.ref b] meth c) (hX : va_X b L xs s s.heap) (hbl : b < s.heap.size) (hL : L ≤ 3072) {Inv : Nat → Mem → Prop} (ho : Op_volt Inv) (n : Nat) (M : Mem) (hlt : 6 * n + 6 ≤ L) (hI : Inv n M) (kk : ∀ M2 : Mem, Inv (n + 1) M2 → GG p l e room_1 s m #[Value.ref b] below meth c (lw_Z below #[Value.ref b] s) 4 117 29160 (LawW D ad cI cJ s M2) 1465 [(3, .int (nI (6 * n))), (2, .ref (ad 94)), (1, .ref (ad 0)), (0, .ref b)] []) : GG p l e room_1 s m #[Value.ref b] below meth c (lw_Z below #[Value.ref b] s) 4 117 29160 (LawW D ad cI cJ s M) 951 [(3, .int (nI (6 * n))), (2, .ref (ad 94)), (1, .ref (ad 0)), (0, .ref b)] [] := by
  obtain ⟨r, M1, M2, hx, hm, hI2⟩ := ho n M (xs ((nI (6 * n) + 1).toNatClampNeg)) (by omega) hI
  refine g_aload_n (pc := 951) B.1 2 dL_law_951 rfl rfl ?_
  refine g_aload_n (pc := 952) B.1 3 dL_law_952 rfl rfl ?_
  refine g_iload_n (pc := 953) B.1 0 dL_law_953 rfl rfl ?_
  refine g_iconst (v := 1) (pc := 954) B.1 dL_law_954 rfl ?_
  refine g_iadd (pc := 955) B.1 dL_law_955 ?_
  refine l_sld (pc := 956) B hX hbl (l_in (k := 1) (by omega) hlt hL) dL_law_956 ?_
  refine l_call (rest := []) (st' := [.int r]) (pc := 957) B oi_0 rfl (C_CF_volt_0 (xs ((nI (6 * n) + 1).toNatClampNeg)) M _ hx) tw_1074 tw_1071 tw_1072 tw_1073 tw_98 hd_CF_volt_0 ⟨Nat.le_of_ble_eq_true rfl, Nat.le_of_ble_eq_true rfl⟩ ⟨Nat.le_of_ble_eq_true rfl, Nat.le_of_ble_eq_true rfl⟩ rfl rfl (Nat.le_of_ble_eq_true rfl) rfl dL_law_957 ?_
  refine g_aload_n (pc := 960) B.1 1 dL_law_960 rfl rfl ?_
  refine g_aload_n (pc := 961) B.1 3 dL_law_961 rfl rfl ?_
  refine g_iload_n (pc := 962) B.1 0 dL_law_962 rfl rfl ?_
  refine g_iconst (v := 1) (pc := 963) B.1 dL_law_963 rfl ?_
  refine g_iadd (pc := 964) B.1 dL_law_964 ?_
  refine l_sld (pc := 965) B hX hbl (l_in (k := 1) (by omega) hlt hL) dL_law_965 ?_
  refine l_call (rest := [.int r]) (st' := [.int r, .int r]) (pc := 966) B oi_94 rfl (C_Mo_volt_94 (xs ((nI (6 * n) + 1).toNatClampNeg)) M1 _ hm) tw_1705 tw_1702 tw_1703 tw_1704 tw_111 hd_Mo_volt_94 ⟨Nat.le_of_ble_eq_true rfl, Nat.le_of_ble_eq_true rfl⟩ ⟨Nat.le_of_ble_eq_true rfl, Nat.le_of_ble_eq_true rfl⟩ rfl rfl (Nat.le_of_ble_eq_true rfl) rfl dL_law_966 ?_
  refine g_icmp_eq (tgt := 1465) (pc := 969) B.1 dL_law_969 rfl (fun _ => ?_) (fun hc => absurd rfl (of_decide_eq_false hc))
  exact kk M2 hI2
set_option maxHeartbeats 4000000 in
set_option maxRecDepth 20000 in
theorem L_lose {D : va_G} {ad adK adV : Nat → Nat} {cI cJ : ClassId} {p : Program} {l : Launch} {e : Env} {s : State} {m : MethodId} {below : List Frame} {meth : Method} {c : Code} {b L : Nat} {xs : Nat → Int32} (B : LawB D ad adK adV cI cJ p s m #[Value.ref b] meth c) (hX : va_X b L xs s s.heap) (hbl : b < s.heap.size) (hL : L ≤ 3072) {Inv : Nat → Mem → Prop} (ho : Op_lose Inv) (n : Nat) (M : Mem) (hlt : 6 * n + 6 ≤ L) (hI : Inv n M) (kk : ∀ M2 : Mem, Inv (n + 1) M2 → GG p l e room_1 s m #[Value.ref b] below meth c (lw_Z below #[Value.ref b] s) 4 117 29160 (LawW D ad cI cJ s M2) 1465 [(3, .int (nI (6 * n))), (2, .ref (ad 94)), (1, .ref (ad 0)), (0, .ref b)] []) : GG p l e room_1 s m #[Value.ref b] below meth c (lw_Z below #[Value.ref b] s) 4 117 29160 (LawW D ad cI cJ s M) 974 [(3, .int (nI (6 * n))), (2, .ref (ad 94)), (1, .ref (ad 0)), (0, .ref b)] [] := by
  obtain ⟨r, M1, M2, hx, hm, hI2⟩ := ho n M (xs ((nI (6 * n) + 1).toNatClampNeg)) (by omega) hI
  refine g_aload_n (pc := 974) B.1 2 dL_law_974 rfl rfl ?_
  refine g_aload_n (pc := 975) B.1 3 dL_law_975 rfl rfl ?_
  refine g_iload_n (pc := 976) B.1 0 dL_law_976 rfl rfl ?_
  refine g_iconst (v := 1) (pc := 977) B.1 dL_law_977 rfl ?_
  refine g_iadd (pc := 978) B.1 dL_law_978 ?_
  refine l_sld (pc := 979) B hX hbl (l_in (k := 1) (by omega) hlt hL) dL_law_979 ?_
  refine l_call (rest := []) (st' := [.int r]) (pc := 980) B oi_0 rfl (C_CF_lose_0 (xs ((nI (6 * n) + 1).toNatClampNeg)) M _ hx) tw_1103 tw_1100 tw_1101 tw_1102 tw_98 hd_CF_lose_0 ⟨Nat.le_of_ble_eq_true rfl, Nat.le_of_ble_eq_true rfl⟩ ⟨Nat.le_of_ble_eq_true rfl, Nat.le_of_ble_eq_true rfl⟩ rfl rfl (Nat.le_of_ble_eq_true rfl) rfl dL_law_980 ?_
  refine g_aload_n (pc := 983) B.1 1 dL_law_983 rfl rfl ?_
  refine g_aload_n (pc := 984) B.1 3 dL_law_984 rfl rfl ?_
  refine g_iload_n (pc := 985) B.1 0 dL_law_985 rfl rfl ?_
  refine g_iconst (v := 1) (pc := 986) B.1 dL_law_986 rfl ?_
  refine g_iadd (pc := 987) B.1 dL_law_987 ?_
  refine l_sld (pc := 988) B hX hbl (l_in (k := 1) (by omega) hlt hL) dL_law_988 ?_
  refine l_call (rest := [.int r]) (st' := [.int r, .int r]) (pc := 989) B oi_94 rfl (C_Mo_lose_94 (xs ((nI (6 * n) + 1).toNatClampNeg)) M1 _ hm) tw_1722 tw_1719 tw_1720 tw_1721 tw_111 hd_Mo_lose_94 ⟨Nat.le_of_ble_eq_true rfl, Nat.le_of_ble_eq_true rfl⟩ ⟨Nat.le_of_ble_eq_true rfl, Nat.le_of_ble_eq_true rfl⟩ rfl rfl (Nat.le_of_ble_eq_true rfl) rfl dL_law_989 ?_
  refine g_icmp_eq (tgt := 1465) (pc := 992) B.1 dL_law_992 rfl (fun _ => ?_) (fun hc => absurd rfl (of_decide_eq_false hc))
  exact kk M2 hI2
set_option maxHeartbeats 4000000 in
set_option maxRecDepth 20000 in
theorem L_read {D : va_G} {ad adK adV : Nat → Nat} {cI cJ : ClassId} {p : Program} {l : Launch} {e : Env} {s : State} {m : MethodId} {below : List Frame} {meth : Method} {c : Code} {b L : Nat} {xs : Nat → Int32} (B : LawB D ad adK adV cI cJ p s m #[Value.ref b] meth c) (hX : va_X b L xs s s.heap) (hbl : b < s.heap.size) (hL : L ≤ 3072) {Inv : Nat → Mem → Prop} (ho : Op_read Inv) (n : Nat) (M : Mem) (hlt : 6 * n + 6 ≤ L) (hI : Inv n M) (kk : ∀ M2 : Mem, Inv (n + 1) M2 → GG p l e room_1 s m #[Value.ref b] below meth c (lw_Z below #[Value.ref b] s) 4 117 29160 (LawW D ad cI cJ s M2) 1465 [(3, .int (nI (6 * n))), (2, .ref (ad 94)), (1, .ref (ad 0)), (0, .ref b)] []) : GG p l e room_1 s m #[Value.ref b] below meth c (lw_Z below #[Value.ref b] s) 4 117 29160 (LawW D ad cI cJ s M) 997 [(3, .int (nI (6 * n))), (2, .ref (ad 94)), (1, .ref (ad 0)), (0, .ref b)] [] := by
  obtain ⟨r, M1, M2, hx, hm, hI2⟩ := ho n M (xs ((nI (6 * n) + 1).toNatClampNeg)) (xs ((nI (6 * n) + 2).toNatClampNeg)) (xs ((nI (6 * n) + 3).toNatClampNeg)) (by omega) hI
  refine g_aload_n (pc := 997) B.1 2 dL_law_997 rfl rfl ?_
  refine g_aload_n (pc := 998) B.1 3 dL_law_998 rfl rfl ?_
  refine g_iload_n (pc := 999) B.1 0 dL_law_999 rfl rfl ?_
  refine g_iconst (v := 1) (pc := 1000) B.1 dL_law_1000 rfl ?_
  refine g_iadd (pc := 1001) B.1 dL_law_1001 ?_
  refine l_sld (pc := 1002) B hX hbl (l_in (k := 1) (by omega) hlt hL) dL_law_1002 ?_
  refine g_aload_n (pc := 1003) B.1 3 dL_law_1003 rfl rfl ?_
  refine g_iload_n (pc := 1004) B.1 0 dL_law_1004 rfl rfl ?_
  refine g_iconst (v := 2) (pc := 1005) B.1 dL_law_1005 rfl ?_
  refine g_iadd (pc := 1006) B.1 dL_law_1006 ?_
  refine l_sld (pc := 1007) B hX hbl (l_in (k := 2) (by omega) hlt hL) dL_law_1007 ?_
  refine g_aload_n (pc := 1008) B.1 3 dL_law_1008 rfl rfl ?_
  refine g_iload_n (pc := 1009) B.1 0 dL_law_1009 rfl rfl ?_
  refine g_iconst (v := 3) (pc := 1010) B.1 dL_law_1010 rfl ?_
  refine g_iadd (pc := 1011) B.1 dL_law_1011 ?_
  refine l_sld (pc := 1012) B hX hbl (l_in (k := 3) (by omega) hlt hL) dL_law_1012 ?_
  refine l_call (rest := []) (st' := [.int r]) (pc := 1013) B oi_0 rfl (C_CF_read_0 (xs ((nI (6 * n) + 1).toNatClampNeg)) (xs ((nI (6 * n) + 2).toNatClampNeg)) (xs ((nI (6 * n) + 3).toNatClampNeg)) M _ hx) tw_1114 tw_1111 tw_1112 tw_1113 tw_98 hd_CF_read_0 ⟨Nat.le_of_ble_eq_true rfl, Nat.le_of_ble_eq_true rfl⟩ ⟨Nat.le_of_ble_eq_true rfl, Nat.le_of_ble_eq_true rfl⟩ rfl rfl (Nat.le_of_ble_eq_true rfl) rfl dL_law_1013 ?_
  refine g_aload_n (pc := 1016) B.1 1 dL_law_1016 rfl rfl ?_
  refine g_aload_n (pc := 1017) B.1 3 dL_law_1017 rfl rfl ?_
  refine g_iload_n (pc := 1018) B.1 0 dL_law_1018 rfl rfl ?_
  refine g_iconst (v := 1) (pc := 1019) B.1 dL_law_1019 rfl ?_
  refine g_iadd (pc := 1020) B.1 dL_law_1020 ?_
  refine l_sld (pc := 1021) B hX hbl (l_in (k := 1) (by omega) hlt hL) dL_law_1021 ?_
  refine g_aload_n (pc := 1022) B.1 3 dL_law_1022 rfl rfl ?_
  refine g_iload_n (pc := 1023) B.1 0 dL_law_1023 rfl rfl ?_
  refine g_iconst (v := 2) (pc := 1024) B.1 dL_law_1024 rfl ?_
  refine g_iadd (pc := 1025) B.1 dL_law_1025 ?_
  refine l_sld (pc := 1026) B hX hbl (l_in (k := 2) (by omega) hlt hL) dL_law_1026 ?_
  refine g_aload_n (pc := 1027) B.1 3 dL_law_1027 rfl rfl ?_
  refine g_iload_n (pc := 1028) B.1 0 dL_law_1028 rfl rfl ?_
  refine g_iconst (v := 3) (pc := 1029) B.1 dL_law_1029 rfl ?_
  refine g_iadd (pc := 1030) B.1 dL_law_1030 ?_
  refine l_sld (pc := 1031) B hX hbl (l_in (k := 3) (by omega) hlt hL) dL_law_1031 ?_
  refine l_call (rest := [.int r]) (st' := [.int r, .int r]) (pc := 1032) B oi_94 rfl (C_Mo_read_94 (xs ((nI (6 * n) + 1).toNatClampNeg)) (xs ((nI (6 * n) + 2).toNatClampNeg)) (xs ((nI (6 * n) + 3).toNatClampNeg)) M1 _ hm) tw_1728 tw_1725 tw_1726 tw_1727 tw_111 hd_Mo_read_94 ⟨Nat.le_of_ble_eq_true rfl, Nat.le_of_ble_eq_true rfl⟩ ⟨Nat.le_of_ble_eq_true rfl, Nat.le_of_ble_eq_true rfl⟩ rfl rfl (Nat.le_of_ble_eq_true rfl) rfl dL_law_1032 ?_
  refine g_icmp_eq (tgt := 1465) (pc := 1035) B.1 dL_law_1035 rfl (fun _ => ?_) (fun hc => absurd rfl (of_decide_eq_false hc))
  exact kk M2 hI2
set_option maxHeartbeats 4000000 in
set_option maxRecDepth 20000 in
theorem L_units {D : va_G} {ad adK adV : Nat → Nat} {cI cJ : ClassId} {p : Program} {l : Launch} {e : Env} {s : State} {m : MethodId} {below : List Frame} {meth : Method} {c : Code} {b L : Nat} {xs : Nat → Int32} (B : LawB D ad adK adV cI cJ p s m #[Value.ref b] meth c) (hX : va_X b L xs s s.heap) (hbl : b < s.heap.size) (hL : L ≤ 3072) {Inv : Nat → Mem → Prop} (ho : Op_units Inv) (n : Nat) (M : Mem) (hlt : 6 * n + 6 ≤ L) (hI : Inv n M) (kk : ∀ M2 : Mem, Inv (n + 1) M2 → GG p l e room_1 s m #[Value.ref b] below meth c (lw_Z below #[Value.ref b] s) 4 117 29160 (LawW D ad cI cJ s M2) 1465 [(3, .int (nI (6 * n))), (2, .ref (ad 94)), (1, .ref (ad 0)), (0, .ref b)] []) : GG p l e room_1 s m #[Value.ref b] below meth c (lw_Z below #[Value.ref b] s) 4 117 29160 (LawW D ad cI cJ s M) 1040 [(3, .int (nI (6 * n))), (2, .ref (ad 94)), (1, .ref (ad 0)), (0, .ref b)] [] := by
  obtain ⟨r, M1, M2, hx, hm, hI2⟩ := ho n M (xs ((nI (6 * n) + 1).toNatClampNeg)) (xs ((nI (6 * n) + 2).toNatClampNeg)) (by omega) hI
  refine g_aload_n (pc := 1040) B.1 2 dL_law_1040 rfl rfl ?_
  refine g_aload_n (pc := 1041) B.1 3 dL_law_1041 rfl rfl ?_
  refine g_iload_n (pc := 1042) B.1 0 dL_law_1042 rfl rfl ?_
  refine g_iconst (v := 1) (pc := 1043) B.1 dL_law_1043 rfl ?_
  refine g_iadd (pc := 1044) B.1 dL_law_1044 ?_
  refine l_sld (pc := 1045) B hX hbl (l_in (k := 1) (by omega) hlt hL) dL_law_1045 ?_
  refine g_aload_n (pc := 1046) B.1 3 dL_law_1046 rfl rfl ?_
  refine g_iload_n (pc := 1047) B.1 0 dL_law_1047 rfl rfl ?_
  refine g_iconst (v := 2) (pc := 1048) B.1 dL_law_1048 rfl ?_
  refine g_iadd (pc := 1049) B.1 dL_law_1049 ?_
  refine l_sld (pc := 1050) B hX hbl (l_in (k := 2) (by omega) hlt hL) dL_law_1050 ?_
  refine l_call (rest := []) (st' := [.int r]) (pc := 1051) B oi_0 rfl (C_CF_units_0 (xs ((nI (6 * n) + 1).toNatClampNeg)) (xs ((nI (6 * n) + 2).toNatClampNeg)) M _ hx) tw_1120 tw_1117 tw_1118 tw_1119 tw_98 hd_CF_units_0 ⟨Nat.le_of_ble_eq_true rfl, Nat.le_of_ble_eq_true rfl⟩ ⟨Nat.le_of_ble_eq_true rfl, Nat.le_of_ble_eq_true rfl⟩ rfl rfl (Nat.le_of_ble_eq_true rfl) rfl dL_law_1051 ?_
  refine g_aload_n (pc := 1054) B.1 1 dL_law_1054 rfl rfl ?_
  refine g_aload_n (pc := 1055) B.1 3 dL_law_1055 rfl rfl ?_
  refine g_iload_n (pc := 1056) B.1 0 dL_law_1056 rfl rfl ?_
  refine g_iconst (v := 1) (pc := 1057) B.1 dL_law_1057 rfl ?_
  refine g_iadd (pc := 1058) B.1 dL_law_1058 ?_
  refine l_sld (pc := 1059) B hX hbl (l_in (k := 1) (by omega) hlt hL) dL_law_1059 ?_
  refine g_aload_n (pc := 1060) B.1 3 dL_law_1060 rfl rfl ?_
  refine g_iload_n (pc := 1061) B.1 0 dL_law_1061 rfl rfl ?_
  refine g_iconst (v := 2) (pc := 1062) B.1 dL_law_1062 rfl ?_
  refine g_iadd (pc := 1063) B.1 dL_law_1063 ?_
  refine l_sld (pc := 1064) B hX hbl (l_in (k := 2) (by omega) hlt hL) dL_law_1064 ?_
  refine l_call (rest := [.int r]) (st' := [.int r, .int r]) (pc := 1065) B oi_94 rfl (C_Mo_units_94 (xs ((nI (6 * n) + 1).toNatClampNeg)) (xs ((nI (6 * n) + 2).toNatClampNeg)) M1 _ hm) tw_1736 tw_1733 tw_1734 tw_1735 tw_111 hd_Mo_units_94 ⟨Nat.le_of_ble_eq_true rfl, Nat.le_of_ble_eq_true rfl⟩ ⟨Nat.le_of_ble_eq_true rfl, Nat.le_of_ble_eq_true rfl⟩ rfl rfl (Nat.le_of_ble_eq_true rfl) rfl dL_law_1065 ?_
  refine g_icmp_eq (tgt := 1465) (pc := 1068) B.1 dL_law_1068 rfl (fun _ => ?_) (fun hc => absurd rfl (of_decide_eq_false hc))
  exact kk M2 hI2
set_option maxHeartbeats 4000000 in
set_option maxRecDepth 20000 in
theorem L_bill {D : va_G} {ad adK adV : Nat → Nat} {cI cJ : ClassId} {p : Program} {l : Launch} {e : Env} {s : State} {m : MethodId} {below : List Frame} {meth : Method} {c : Code} {b L : Nat} {xs : Nat → Int32} (B : LawB D ad adK adV cI cJ p s m #[Value.ref b] meth c) (hX : va_X b L xs s s.heap) (hbl : b < s.heap.size) (hL : L ≤ 3072) {Inv : Nat → Mem → Prop} (ho : Op_bill Inv) (n : Nat) (M : Mem) (hlt : 6 * n + 6 ≤ L) (hI : Inv n M) (kk : ∀ M2 : Mem, Inv (n + 1) M2 → GG p l e room_1 s m #[Value.ref b] below meth c (lw_Z below #[Value.ref b] s) 4 117 29160 (LawW D ad cI cJ s M2) 1465 [(3, .int (nI (6 * n))), (2, .ref (ad 94)), (1, .ref (ad 0)), (0, .ref b)] []) : GG p l e room_1 s m #[Value.ref b] below meth c (lw_Z below #[Value.ref b] s) 4 117 29160 (LawW D ad cI cJ s M) 1073 [(3, .int (nI (6 * n))), (2, .ref (ad 94)), (1, .ref (ad 0)), (0, .ref b)] [] := by
  obtain ⟨r, M1, M2, hx, hm, hI2⟩ := ho n M (xs ((nI (6 * n) + 1).toNatClampNeg)) (xs ((nI (6 * n) + 2).toNatClampNeg)) (by omega) hI
  refine g_aload_n (pc := 1073) B.1 2 dL_law_1073 rfl rfl ?_
  refine g_aload_n (pc := 1074) B.1 3 dL_law_1074 rfl rfl ?_
  refine g_iload_n (pc := 1075) B.1 0 dL_law_1075 rfl rfl ?_
  refine g_iconst (v := 1) (pc := 1076) B.1 dL_law_1076 rfl ?_
  refine g_iadd (pc := 1077) B.1 dL_law_1077 ?_
  refine l_sld (pc := 1078) B hX hbl (l_in (k := 1) (by omega) hlt hL) dL_law_1078 ?_
  refine g_aload_n (pc := 1079) B.1 3 dL_law_1079 rfl rfl ?_
  refine g_iload_n (pc := 1080) B.1 0 dL_law_1080 rfl rfl ?_
  refine g_iconst (v := 2) (pc := 1081) B.1 dL_law_1081 rfl ?_
  refine g_iadd (pc := 1082) B.1 dL_law_1082 ?_
  refine l_sld (pc := 1083) B hX hbl (l_in (k := 2) (by omega) hlt hL) dL_law_1083 ?_
  refine l_call (rest := []) (st' := [.int r]) (pc := 1084) B oi_0 rfl (C_CF_bill_0 (xs ((nI (6 * n) + 1).toNatClampNeg)) (xs ((nI (6 * n) + 2).toNatClampNeg)) M _ hx) tw_1124 tw_1121 tw_1122 tw_1123 tw_98 hd_CF_bill_0 ⟨Nat.le_of_ble_eq_true rfl, Nat.le_of_ble_eq_true rfl⟩ ⟨Nat.le_of_ble_eq_true rfl, Nat.le_of_ble_eq_true rfl⟩ rfl rfl (Nat.le_of_ble_eq_true rfl) rfl dL_law_1084 ?_
  refine g_aload_n (pc := 1087) B.1 1 dL_law_1087 rfl rfl ?_
  refine g_aload_n (pc := 1088) B.1 3 dL_law_1088 rfl rfl ?_
  refine g_iload_n (pc := 1089) B.1 0 dL_law_1089 rfl rfl ?_
  refine g_iconst (v := 1) (pc := 1090) B.1 dL_law_1090 rfl ?_
  refine g_iadd (pc := 1091) B.1 dL_law_1091 ?_
  refine l_sld (pc := 1092) B hX hbl (l_in (k := 1) (by omega) hlt hL) dL_law_1092 ?_
  refine g_aload_n (pc := 1093) B.1 3 dL_law_1093 rfl rfl ?_
  refine g_iload_n (pc := 1094) B.1 0 dL_law_1094 rfl rfl ?_
  refine g_iconst (v := 2) (pc := 1095) B.1 dL_law_1095 rfl ?_
  refine g_iadd (pc := 1096) B.1 dL_law_1096 ?_
  refine l_sld (pc := 1097) B hX hbl (l_in (k := 2) (by omega) hlt hL) dL_law_1097 ?_
  refine l_call (rest := [.int r]) (st' := [.int r, .int r]) (pc := 1098) B oi_94 rfl (C_Mo_bill_94 (xs ((nI (6 * n) + 1).toNatClampNeg)) (xs ((nI (6 * n) + 2).toNatClampNeg)) M1 _ hm) tw_1740 tw_1737 tw_1738 tw_1739 tw_111 hd_Mo_bill_94 ⟨Nat.le_of_ble_eq_true rfl, Nat.le_of_ble_eq_true rfl⟩ ⟨Nat.le_of_ble_eq_true rfl, Nat.le_of_ble_eq_true rfl⟩ rfl rfl (Nat.le_of_ble_eq_true rfl) rfl dL_law_1098 ?_
  refine g_icmp_eq (tgt := 1465) (pc := 1101) B.1 dL_law_1101 rfl (fun _ => ?_) (fun hc => absurd rfl (of_decide_eq_false hc))
  exact kk M2 hI2
set_option maxHeartbeats 4000000 in
set_option maxRecDepth 20000 in
theorem L_pay {D : va_G} {ad adK adV : Nat → Nat} {cI cJ : ClassId} {p : Program} {l : Launch} {e : Env} {s : State} {m : MethodId} {below : List Frame} {meth : Method} {c : Code} {b L : Nat} {xs : Nat → Int32} (B : LawB D ad adK adV cI cJ p s m #[Value.ref b] meth c) (hX : va_X b L xs s s.heap) (hbl : b < s.heap.size) (hL : L ≤ 3072) {Inv : Nat → Mem → Prop} (ho : Op_pay Inv) (n : Nat) (M : Mem) (hlt : 6 * n + 6 ≤ L) (hI : Inv n M) (kk : ∀ M2 : Mem, Inv (n + 1) M2 → GG p l e room_1 s m #[Value.ref b] below meth c (lw_Z below #[Value.ref b] s) 4 117 29160 (LawW D ad cI cJ s M2) 1465 [(3, .int (nI (6 * n))), (2, .ref (ad 94)), (1, .ref (ad 0)), (0, .ref b)] []) : GG p l e room_1 s m #[Value.ref b] below meth c (lw_Z below #[Value.ref b] s) 4 117 29160 (LawW D ad cI cJ s M) 1106 [(3, .int (nI (6 * n))), (2, .ref (ad 94)), (1, .ref (ad 0)), (0, .ref b)] [] := by
  obtain ⟨r, M1, M2, hx, hm, hI2⟩ := ho n M (xs ((nI (6 * n) + 1).toNatClampNeg)) (xs ((nI (6 * n) + 2).toNatClampNeg)) (xs ((nI (6 * n) + 3).toNatClampNeg)) (by omega) hI
  refine g_aload_n (pc := 1106) B.1 2 dL_law_1106 rfl rfl ?_
  refine g_aload_n (pc := 1107) B.1 3 dL_law_1107 rfl rfl ?_
  refine g_iload_n (pc := 1108) B.1 0 dL_law_1108 rfl rfl ?_
  refine g_iconst (v := 1) (pc := 1109) B.1 dL_law_1109 rfl ?_
  refine g_iadd (pc := 1110) B.1 dL_law_1110 ?_
  refine l_sld (pc := 1111) B hX hbl (l_in (k := 1) (by omega) hlt hL) dL_law_1111 ?_
  refine g_aload_n (pc := 1112) B.1 3 dL_law_1112 rfl rfl ?_
  refine g_iload_n (pc := 1113) B.1 0 dL_law_1113 rfl rfl ?_
  refine g_iconst (v := 2) (pc := 1114) B.1 dL_law_1114 rfl ?_
  refine g_iadd (pc := 1115) B.1 dL_law_1115 ?_
  refine l_sld (pc := 1116) B hX hbl (l_in (k := 2) (by omega) hlt hL) dL_law_1116 ?_
  refine g_aload_n (pc := 1117) B.1 3 dL_law_1117 rfl rfl ?_
  refine g_iload_n (pc := 1118) B.1 0 dL_law_1118 rfl rfl ?_
  refine g_iconst (v := 3) (pc := 1119) B.1 dL_law_1119 rfl ?_
  refine g_iadd (pc := 1120) B.1 dL_law_1120 ?_
  refine l_sld (pc := 1121) B hX hbl (l_in (k := 3) (by omega) hlt hL) dL_law_1121 ?_
  refine l_call (rest := []) (st' := [.int r]) (pc := 1122) B oi_0 rfl (C_CF_pay_0 (xs ((nI (6 * n) + 1).toNatClampNeg)) (xs ((nI (6 * n) + 2).toNatClampNeg)) (xs ((nI (6 * n) + 3).toNatClampNeg)) M _ hx) tw_1128 tw_1125 tw_1126 tw_1127 tw_98 hd_CF_pay_0 ⟨Nat.le_of_ble_eq_true rfl, Nat.le_of_ble_eq_true rfl⟩ ⟨Nat.le_of_ble_eq_true rfl, Nat.le_of_ble_eq_true rfl⟩ rfl rfl (Nat.le_of_ble_eq_true rfl) rfl dL_law_1122 ?_
  refine g_aload_n (pc := 1125) B.1 1 dL_law_1125 rfl rfl ?_
  refine g_aload_n (pc := 1126) B.1 3 dL_law_1126 rfl rfl ?_
  refine g_iload_n (pc := 1127) B.1 0 dL_law_1127 rfl rfl ?_
  refine g_iconst (v := 1) (pc := 1128) B.1 dL_law_1128 rfl ?_
  refine g_iadd (pc := 1129) B.1 dL_law_1129 ?_
  refine l_sld (pc := 1130) B hX hbl (l_in (k := 1) (by omega) hlt hL) dL_law_1130 ?_
  refine g_aload_n (pc := 1131) B.1 3 dL_law_1131 rfl rfl ?_
  refine g_iload_n (pc := 1132) B.1 0 dL_law_1132 rfl rfl ?_
  refine g_iconst (v := 2) (pc := 1133) B.1 dL_law_1133 rfl ?_
  refine g_iadd (pc := 1134) B.1 dL_law_1134 ?_
  refine l_sld (pc := 1135) B hX hbl (l_in (k := 2) (by omega) hlt hL) dL_law_1135 ?_
  refine g_aload_n (pc := 1136) B.1 3 dL_law_1136 rfl rfl ?_
  refine g_iload_n (pc := 1137) B.1 0 dL_law_1137 rfl rfl ?_
  refine g_iconst (v := 3) (pc := 1138) B.1 dL_law_1138 rfl ?_
  refine g_iadd (pc := 1139) B.1 dL_law_1139 ?_
  refine l_sld (pc := 1140) B hX hbl (l_in (k := 3) (by omega) hlt hL) dL_law_1140 ?_
  refine l_call (rest := [.int r]) (st' := [.int r, .int r]) (pc := 1141) B oi_94 rfl (C_Mo_pay_94 (xs ((nI (6 * n) + 1).toNatClampNeg)) (xs ((nI (6 * n) + 2).toNatClampNeg)) (xs ((nI (6 * n) + 3).toNatClampNeg)) M1 _ hm) tw_1748 tw_1745 tw_1746 tw_1747 tw_111 hd_Mo_pay_94 ⟨Nat.le_of_ble_eq_true rfl, Nat.le_of_ble_eq_true rfl⟩ ⟨Nat.le_of_ble_eq_true rfl, Nat.le_of_ble_eq_true rfl⟩ rfl rfl (Nat.le_of_ble_eq_true rfl) rfl dL_law_1141 ?_
  refine g_icmp_eq (tgt := 1465) (pc := 1144) B.1 dL_law_1144 rfl (fun _ => ?_) (fun hc => absurd rfl (of_decide_eq_false hc))
  exact kk M2 hI2
set_option maxHeartbeats 4000000 in
set_option maxRecDepth 20000 in
theorem L_owe {D : va_G} {ad adK adV : Nat → Nat} {cI cJ : ClassId} {p : Program} {l : Launch} {e : Env} {s : State} {m : MethodId} {below : List Frame} {meth : Method} {c : Code} {b L : Nat} {xs : Nat → Int32} (B : LawB D ad adK adV cI cJ p s m #[Value.ref b] meth c) (hX : va_X b L xs s s.heap) (hbl : b < s.heap.size) (hL : L ≤ 3072) {Inv : Nat → Mem → Prop} (ho : Op_owe Inv) (n : Nat) (M : Mem) (hlt : 6 * n + 6 ≤ L) (hI : Inv n M) (kk : ∀ M2 : Mem, Inv (n + 1) M2 → GG p l e room_1 s m #[Value.ref b] below meth c (lw_Z below #[Value.ref b] s) 4 117 29160 (LawW D ad cI cJ s M2) 1465 [(3, .int (nI (6 * n))), (2, .ref (ad 94)), (1, .ref (ad 0)), (0, .ref b)] []) : GG p l e room_1 s m #[Value.ref b] below meth c (lw_Z below #[Value.ref b] s) 4 117 29160 (LawW D ad cI cJ s M) 1149 [(3, .int (nI (6 * n))), (2, .ref (ad 94)), (1, .ref (ad 0)), (0, .ref b)] [] := by
  obtain ⟨r, M1, M2, hx, hm, hI2⟩ := ho n M (xs ((nI (6 * n) + 1).toNatClampNeg)) (xs ((nI (6 * n) + 2).toNatClampNeg)) (by omega) hI
  refine g_aload_n (pc := 1149) B.1 2 dL_law_1149 rfl rfl ?_
  refine g_aload_n (pc := 1150) B.1 3 dL_law_1150 rfl rfl ?_
  refine g_iload_n (pc := 1151) B.1 0 dL_law_1151 rfl rfl ?_
  refine g_iconst (v := 1) (pc := 1152) B.1 dL_law_1152 rfl ?_
  refine g_iadd (pc := 1153) B.1 dL_law_1153 ?_
  refine l_sld (pc := 1154) B hX hbl (l_in (k := 1) (by omega) hlt hL) dL_law_1154 ?_
  refine g_aload_n (pc := 1155) B.1 3 dL_law_1155 rfl rfl ?_
  refine g_iload_n (pc := 1156) B.1 0 dL_law_1156 rfl rfl ?_
  refine g_iconst (v := 2) (pc := 1157) B.1 dL_law_1157 rfl ?_
  refine g_iadd (pc := 1158) B.1 dL_law_1158 ?_
  refine l_sld (pc := 1159) B hX hbl (l_in (k := 2) (by omega) hlt hL) dL_law_1159 ?_
  refine l_call (rest := []) (st' := [.int r]) (pc := 1160) B oi_0 rfl (C_CF_owe_0 (xs ((nI (6 * n) + 1).toNatClampNeg)) (xs ((nI (6 * n) + 2).toNatClampNeg)) M _ hx) tw_1133 tw_1130 tw_1131 tw_1132 tw_98 hd_CF_owe_0 ⟨Nat.le_of_ble_eq_true rfl, Nat.le_of_ble_eq_true rfl⟩ ⟨Nat.le_of_ble_eq_true rfl, Nat.le_of_ble_eq_true rfl⟩ rfl rfl (Nat.le_of_ble_eq_true rfl) rfl dL_law_1160 ?_
  refine g_aload_n (pc := 1163) B.1 1 dL_law_1163 rfl rfl ?_
  refine g_aload_n (pc := 1164) B.1 3 dL_law_1164 rfl rfl ?_
  refine g_iload_n (pc := 1165) B.1 0 dL_law_1165 rfl rfl ?_
  refine g_iconst (v := 1) (pc := 1166) B.1 dL_law_1166 rfl ?_
  refine g_iadd (pc := 1167) B.1 dL_law_1167 ?_
  refine l_sld (pc := 1168) B hX hbl (l_in (k := 1) (by omega) hlt hL) dL_law_1168 ?_
  refine g_aload_n (pc := 1169) B.1 3 dL_law_1169 rfl rfl ?_
  refine g_iload_n (pc := 1170) B.1 0 dL_law_1170 rfl rfl ?_
  refine g_iconst (v := 2) (pc := 1171) B.1 dL_law_1171 rfl ?_
  refine g_iadd (pc := 1172) B.1 dL_law_1172 ?_
  refine l_sld (pc := 1173) B hX hbl (l_in (k := 2) (by omega) hlt hL) dL_law_1173 ?_
  refine l_call (rest := [.int r]) (st' := [.int r, .int r]) (pc := 1174) B oi_94 rfl (C_Mo_owe_94 (xs ((nI (6 * n) + 1).toNatClampNeg)) (xs ((nI (6 * n) + 2).toNatClampNeg)) M1 _ hm) tw_1752 tw_1749 tw_1750 tw_1751 tw_111 hd_Mo_owe_94 ⟨Nat.le_of_ble_eq_true rfl, Nat.le_of_ble_eq_true rfl⟩ ⟨Nat.le_of_ble_eq_true rfl, Nat.le_of_ble_eq_true rfl⟩ rfl rfl (Nat.le_of_ble_eq_true rfl) rfl dL_law_1174 ?_
  refine g_icmp_eq (tgt := 1465) (pc := 1177) B.1 dL_law_1177 rfl (fun _ => ?_) (fun hc => absurd rfl (of_decide_eq_false hc))
  exact kk M2 hI2
set_option maxHeartbeats 4000000 in
set_option maxRecDepth 20000 in
theorem L_loan {D : va_G} {ad adK adV : Nat → Nat} {cI cJ : ClassId} {p : Program} {l : Launch} {e : Env} {s : State} {m : MethodId} {below : List Frame} {meth : Method} {c : Code} {b L : Nat} {xs : Nat → Int32} (B : LawB D ad adK adV cI cJ p s m #[Value.ref b] meth c) (hX : va_X b L xs s s.heap) (hbl : b < s.heap.size) (hL : L ≤ 3072) {Inv : Nat → Mem → Prop} (ho : Op_loan Inv) (n : Nat) (M : Mem) (hlt : 6 * n + 6 ≤ L) (hI : Inv n M) (kk : ∀ M2 : Mem, Inv (n + 1) M2 → GG p l e room_1 s m #[Value.ref b] below meth c (lw_Z below #[Value.ref b] s) 4 117 29160 (LawW D ad cI cJ s M2) 1465 [(3, .int (nI (6 * n))), (2, .ref (ad 94)), (1, .ref (ad 0)), (0, .ref b)] []) : GG p l e room_1 s m #[Value.ref b] below meth c (lw_Z below #[Value.ref b] s) 4 117 29160 (LawW D ad cI cJ s M) 1182 [(3, .int (nI (6 * n))), (2, .ref (ad 94)), (1, .ref (ad 0)), (0, .ref b)] [] := by
  obtain ⟨r, M1, M2, hx, hm, hI2⟩ := ho n M (xs ((nI (6 * n) + 1).toNatClampNeg)) (xs ((nI (6 * n) + 2).toNatClampNeg)) (xs ((nI (6 * n) + 3).toNatClampNeg)) (xs ((nI (6 * n) + 4).toNatClampNeg)) (xs ((nI (6 * n) + 5).toNatClampNeg)) (by omega) hI
  refine g_aload_n (pc := 1182) B.1 2 dL_law_1182 rfl rfl ?_
  refine g_aload_n (pc := 1183) B.1 3 dL_law_1183 rfl rfl ?_
  refine g_iload_n (pc := 1184) B.1 0 dL_law_1184 rfl rfl ?_
  refine g_iconst (v := 1) (pc := 1185) B.1 dL_law_1185 rfl ?_
  refine g_iadd (pc := 1186) B.1 dL_law_1186 ?_
  refine l_sld (pc := 1187) B hX hbl (l_in (k := 1) (by omega) hlt hL) dL_law_1187 ?_
  refine g_aload_n (pc := 1188) B.1 3 dL_law_1188 rfl rfl ?_
  refine g_iload_n (pc := 1189) B.1 0 dL_law_1189 rfl rfl ?_
  refine g_iconst (v := 2) (pc := 1190) B.1 dL_law_1190 rfl ?_
  refine g_iadd (pc := 1191) B.1 dL_law_1191 ?_
  refine l_sld (pc := 1192) B hX hbl (l_in (k := 2) (by omega) hlt hL) dL_law_1192 ?_
  refine g_aload_n (pc := 1193) B.1 3 dL_law_1193 rfl rfl ?_
  refine g_iload_n (pc := 1194) B.1 0 dL_law_1194 rfl rfl ?_
  refine g_iconst (v := 3) (pc := 1195) B.1 dL_law_1195 rfl ?_
  refine g_iadd (pc := 1196) B.1 dL_law_1196 ?_
  refine l_sld (pc := 1197) B hX hbl (l_in (k := 3) (by omega) hlt hL) dL_law_1197 ?_
  refine g_aload_n (pc := 1198) B.1 3 dL_law_1198 rfl rfl ?_
  refine g_iload_n (pc := 1199) B.1 0 dL_law_1199 rfl rfl ?_
  refine g_iconst (v := 4) (pc := 1200) B.1 dL_law_1200 rfl ?_
  refine g_iadd (pc := 1201) B.1 dL_law_1201 ?_
  refine l_sld (pc := 1202) B hX hbl (l_in (k := 4) (by omega) hlt hL) dL_law_1202 ?_
  refine g_aload_n (pc := 1203) B.1 3 dL_law_1203 rfl rfl ?_
  refine g_iload_n (pc := 1204) B.1 0 dL_law_1204 rfl rfl ?_
  refine g_iconst (v := 5) (pc := 1205) B.1 dL_law_1205 rfl ?_
  refine g_iadd (pc := 1206) B.1 dL_law_1206 ?_
  refine l_sld (pc := 1207) B hX hbl (l_in (k := 5) (by omega) hlt hL) dL_law_1207 ?_
  refine l_call (rest := []) (st' := [.int r]) (pc := 1208) B oi_0 rfl (C_CF_loan_0 (xs ((nI (6 * n) + 1).toNatClampNeg)) (xs ((nI (6 * n) + 2).toNatClampNeg)) (xs ((nI (6 * n) + 3).toNatClampNeg)) (xs ((nI (6 * n) + 4).toNatClampNeg)) (xs ((nI (6 * n) + 5).toNatClampNeg)) M _ hx) tw_1137 tw_1134 tw_1135 tw_1136 tw_98 hd_CF_loan_0 ⟨Nat.le_of_ble_eq_true rfl, Nat.le_of_ble_eq_true rfl⟩ ⟨Nat.le_of_ble_eq_true rfl, Nat.le_of_ble_eq_true rfl⟩ rfl rfl (Nat.le_of_ble_eq_true rfl) rfl dL_law_1208 ?_
  refine g_aload_n (pc := 1211) B.1 1 dL_law_1211 rfl rfl ?_
  refine g_aload_n (pc := 1212) B.1 3 dL_law_1212 rfl rfl ?_
  refine g_iload_n (pc := 1213) B.1 0 dL_law_1213 rfl rfl ?_
  refine g_iconst (v := 1) (pc := 1214) B.1 dL_law_1214 rfl ?_
  refine g_iadd (pc := 1215) B.1 dL_law_1215 ?_
  refine l_sld (pc := 1216) B hX hbl (l_in (k := 1) (by omega) hlt hL) dL_law_1216 ?_
  refine g_aload_n (pc := 1217) B.1 3 dL_law_1217 rfl rfl ?_
  refine g_iload_n (pc := 1218) B.1 0 dL_law_1218 rfl rfl ?_
  refine g_iconst (v := 2) (pc := 1219) B.1 dL_law_1219 rfl ?_
  refine g_iadd (pc := 1220) B.1 dL_law_1220 ?_
  refine l_sld (pc := 1221) B hX hbl (l_in (k := 2) (by omega) hlt hL) dL_law_1221 ?_
  refine g_aload_n (pc := 1222) B.1 3 dL_law_1222 rfl rfl ?_
  refine g_iload_n (pc := 1223) B.1 0 dL_law_1223 rfl rfl ?_
  refine g_iconst (v := 3) (pc := 1224) B.1 dL_law_1224 rfl ?_
  refine g_iadd (pc := 1225) B.1 dL_law_1225 ?_
  refine l_sld (pc := 1226) B hX hbl (l_in (k := 3) (by omega) hlt hL) dL_law_1226 ?_
  refine g_aload_n (pc := 1227) B.1 3 dL_law_1227 rfl rfl ?_
  refine g_iload_n (pc := 1228) B.1 0 dL_law_1228 rfl rfl ?_
  refine g_iconst (v := 4) (pc := 1229) B.1 dL_law_1229 rfl ?_
  refine g_iadd (pc := 1230) B.1 dL_law_1230 ?_
  refine l_sld (pc := 1231) B hX hbl (l_in (k := 4) (by omega) hlt hL) dL_law_1231 ?_
  refine g_aload_n (pc := 1232) B.1 3 dL_law_1232 rfl rfl ?_
  refine g_iload_n (pc := 1233) B.1 0 dL_law_1233 rfl rfl ?_
  refine g_iconst (v := 5) (pc := 1234) B.1 dL_law_1234 rfl ?_
  refine g_iadd (pc := 1235) B.1 dL_law_1235 ?_
  refine l_sld (pc := 1236) B hX hbl (l_in (k := 5) (by omega) hlt hL) dL_law_1236 ?_
  refine l_call (rest := [.int r]) (st' := [.int r, .int r]) (pc := 1237) B oi_94 rfl (C_Mo_loan_94 (xs ((nI (6 * n) + 1).toNatClampNeg)) (xs ((nI (6 * n) + 2).toNatClampNeg)) (xs ((nI (6 * n) + 3).toNatClampNeg)) (xs ((nI (6 * n) + 4).toNatClampNeg)) (xs ((nI (6 * n) + 5).toNatClampNeg)) M1 _ hm) tw_1756 tw_1753 tw_1754 tw_1755 tw_111 hd_Mo_loan_94 ⟨Nat.le_of_ble_eq_true rfl, Nat.le_of_ble_eq_true rfl⟩ ⟨Nat.le_of_ble_eq_true rfl, Nat.le_of_ble_eq_true rfl⟩ rfl rfl (Nat.le_of_ble_eq_true rfl) rfl dL_law_1237 ?_
  refine g_icmp_eq (tgt := 1465) (pc := 1240) B.1 dL_law_1240 rfl (fun _ => ?_) (fun hc => absurd rfl (of_decide_eq_false hc))
  exact kk M2 hI2
set_option maxHeartbeats 4000000 in
set_option maxRecDepth 20000 in
theorem L_due {D : va_G} {ad adK adV : Nat → Nat} {cI cJ : ClassId} {p : Program} {l : Launch} {e : Env} {s : State} {m : MethodId} {below : List Frame} {meth : Method} {c : Code} {b L : Nat} {xs : Nat → Int32} (B : LawB D ad adK adV cI cJ p s m #[Value.ref b] meth c) (hX : va_X b L xs s s.heap) (hbl : b < s.heap.size) (hL : L ≤ 3072) {Inv : Nat → Mem → Prop} (ho : Op_due Inv) (n : Nat) (M : Mem) (hlt : 6 * n + 6 ≤ L) (hI : Inv n M) (kk : ∀ M2 : Mem, Inv (n + 1) M2 → GG p l e room_1 s m #[Value.ref b] below meth c (lw_Z below #[Value.ref b] s) 4 117 29160 (LawW D ad cI cJ s M2) 1465 [(3, .int (nI (6 * n))), (2, .ref (ad 94)), (1, .ref (ad 0)), (0, .ref b)] []) : GG p l e room_1 s m #[Value.ref b] below meth c (lw_Z below #[Value.ref b] s) 4 117 29160 (LawW D ad cI cJ s M) 1245 [(3, .int (nI (6 * n))), (2, .ref (ad 94)), (1, .ref (ad 0)), (0, .ref b)] [] := by
  obtain ⟨r, hx, hm, hI2⟩ := ho n M (xs ((nI (6 * n) + 1).toNatClampNeg)) (by omega) hI
  refine g_aload_n (pc := 1245) B.1 2 dL_law_1245 rfl rfl ?_
  refine g_aload_n (pc := 1246) B.1 3 dL_law_1246 rfl rfl ?_
  refine g_iload_n (pc := 1247) B.1 0 dL_law_1247 rfl rfl ?_
  refine g_iconst (v := 1) (pc := 1248) B.1 dL_law_1248 rfl ?_
  refine g_iadd (pc := 1249) B.1 dL_law_1249 ?_
  refine l_sld (pc := 1250) B hX hbl (l_in (k := 1) (by omega) hlt hL) dL_law_1250 ?_
  refine l_call (rest := []) (st' := [.int r]) (pc := 1251) B oi_0 rfl (C_CF_due_0 (xs ((nI (6 * n) + 1).toNatClampNeg)) M _ hx) tw_1146 tw_1143 tw_1144 tw_1145 tw_98 hd_CF_due_0 ⟨Nat.le_of_ble_eq_true rfl, Nat.le_of_ble_eq_true rfl⟩ ⟨Nat.le_of_ble_eq_true rfl, Nat.le_of_ble_eq_true rfl⟩ rfl rfl (Nat.le_of_ble_eq_true rfl) rfl dL_law_1251 ?_
  refine g_aload_n (pc := 1254) B.1 1 dL_law_1254 rfl rfl ?_
  refine g_aload_n (pc := 1255) B.1 3 dL_law_1255 rfl rfl ?_
  refine g_iload_n (pc := 1256) B.1 0 dL_law_1256 rfl rfl ?_
  refine g_iconst (v := 1) (pc := 1257) B.1 dL_law_1257 rfl ?_
  refine g_iadd (pc := 1258) B.1 dL_law_1258 ?_
  refine l_sld (pc := 1259) B hX hbl (l_in (k := 1) (by omega) hlt hL) dL_law_1259 ?_
  refine l_call (rest := [.int r]) (st' := [.int r, .int r]) (pc := 1260) B oi_94 rfl (C_Mo_due_94 (xs ((nI (6 * n) + 1).toNatClampNeg)) M _ hm) tw_1760 tw_1757 tw_1758 tw_1759 tw_111 hd_Mo_due_94 ⟨Nat.le_of_ble_eq_true rfl, Nat.le_of_ble_eq_true rfl⟩ ⟨Nat.le_of_ble_eq_true rfl, Nat.le_of_ble_eq_true rfl⟩ rfl rfl (Nat.le_of_ble_eq_true rfl) rfl dL_law_1260 ?_
  refine g_icmp_eq (tgt := 1465) (pc := 1263) B.1 dL_law_1263 rfl (fun _ => ?_) (fun hc => absurd rfl (of_decide_eq_false hc))
  exact kk M hI2
set_option maxHeartbeats 4000000 in
set_option maxRecDepth 20000 in
theorem L_cannot {D : va_G} {ad adK adV : Nat → Nat} {cI cJ : ClassId} {p : Program} {l : Launch} {e : Env} {s : State} {m : MethodId} {below : List Frame} {meth : Method} {c : Code} {b L : Nat} {xs : Nat → Int32} (B : LawB D ad adK adV cI cJ p s m #[Value.ref b] meth c) (hX : va_X b L xs s s.heap) (hbl : b < s.heap.size) (hL : L ≤ 3072) {Inv : Nat → Mem → Prop} (ho : Op_cannot Inv) (n : Nat) (M : Mem) (hlt : 6 * n + 6 ≤ L) (hI : Inv n M) (kk : ∀ M2 : Mem, Inv (n + 1) M2 → GG p l e room_1 s m #[Value.ref b] below meth c (lw_Z below #[Value.ref b] s) 4 117 29160 (LawW D ad cI cJ s M2) 1465 [(3, .int (nI (6 * n))), (2, .ref (ad 94)), (1, .ref (ad 0)), (0, .ref b)] []) : GG p l e room_1 s m #[Value.ref b] below meth c (lw_Z below #[Value.ref b] s) 4 117 29160 (LawW D ad cI cJ s M) 1268 [(3, .int (nI (6 * n))), (2, .ref (ad 94)), (1, .ref (ad 0)), (0, .ref b)] [] := by
  obtain ⟨r, hx, hm, hI2⟩ := ho n M  (by omega) hI
  refine g_aload_n (pc := 1268) B.1 2 dL_law_1268 rfl rfl ?_
  refine l_call (rest := []) (st' := [.int r]) (pc := 1269) B oi_0 rfl (C_CF_cannot_0  M _ hx) tw_1156 tw_1153 tw_1154 tw_1155 tw_98 hd_CF_cannot_0 ⟨Nat.le_of_ble_eq_true rfl, Nat.le_of_ble_eq_true rfl⟩ ⟨Nat.le_of_ble_eq_true rfl, Nat.le_of_ble_eq_true rfl⟩ rfl rfl (Nat.le_of_ble_eq_true rfl) rfl dL_law_1269 ?_
  refine g_aload_n (pc := 1272) B.1 1 dL_law_1272 rfl rfl ?_
  refine l_call (rest := [.int r]) (st' := [.int r, .int r]) (pc := 1273) B oi_94 rfl (C_Mo_cannot_94  M _ hm) tw_1768 tw_1765 tw_1766 tw_1767 tw_111 hd_Mo_cannot_94 ⟨Nat.le_of_ble_eq_true rfl, Nat.le_of_ble_eq_true rfl⟩ ⟨Nat.le_of_ble_eq_true rfl, Nat.le_of_ble_eq_true rfl⟩ rfl rfl (Nat.le_of_ble_eq_true rfl) rfl dL_law_1273 ?_
  refine g_icmp_eq (tgt := 1465) (pc := 1276) B.1 dL_law_1276 rfl (fun _ => ?_) (fun hc => absurd rfl (of_decide_eq_false hc))
  exact kk M hI2
set_option maxHeartbeats 4000000 in
set_option maxRecDepth 20000 in
theorem L_storm {D : va_G} {ad adK adV : Nat → Nat} {cI cJ : ClassId} {p : Program} {l : Launch} {e : Env} {s : State} {m : MethodId} {below : List Frame} {meth : Method} {c : Code} {b L : Nat} {xs : Nat → Int32} (B : LawB D ad adK adV cI cJ p s m #[Value.ref b] meth c) (hX : va_X b L xs s s.heap) (hbl : b < s.heap.size) (hL : L ≤ 3072) {Inv : Nat → Mem → Prop} (ho : Op_storm Inv) (n : Nat) (M : Mem) (hlt : 6 * n + 6 ≤ L) (hI : Inv n M) (kk : ∀ M2 : Mem, Inv (n + 1) M2 → GG p l e room_1 s m #[Value.ref b] below meth c (lw_Z below #[Value.ref b] s) 4 117 29160 (LawW D ad cI cJ s M2) 1465 [(3, .int (nI (6 * n))), (2, .ref (ad 94)), (1, .ref (ad 0)), (0, .ref b)] []) : GG p l e room_1 s m #[Value.ref b] below meth c (lw_Z below #[Value.ref b] s) 4 117 29160 (LawW D ad cI cJ s M) 1281 [(3, .int (nI (6 * n))), (2, .ref (ad 94)), (1, .ref (ad 0)), (0, .ref b)] [] := by
  obtain ⟨r, M1, M2, hx, hm, hI2⟩ := ho n M (xs ((nI (6 * n) + 1).toNatClampNeg)) (xs ((nI (6 * n) + 2).toNatClampNeg)) (by omega) hI
  refine g_aload_n (pc := 1281) B.1 2 dL_law_1281 rfl rfl ?_
  refine g_aload_n (pc := 1282) B.1 3 dL_law_1282 rfl rfl ?_
  refine g_iload_n (pc := 1283) B.1 0 dL_law_1283 rfl rfl ?_
  refine g_iconst (v := 1) (pc := 1284) B.1 dL_law_1284 rfl ?_
  refine g_iadd (pc := 1285) B.1 dL_law_1285 ?_
  refine l_sld (pc := 1286) B hX hbl (l_in (k := 1) (by omega) hlt hL) dL_law_1286 ?_
  refine g_aload_n (pc := 1287) B.1 3 dL_law_1287 rfl rfl ?_
  refine g_iload_n (pc := 1288) B.1 0 dL_law_1288 rfl rfl ?_
  refine g_iconst (v := 2) (pc := 1289) B.1 dL_law_1289 rfl ?_
  refine g_iadd (pc := 1290) B.1 dL_law_1290 ?_
  refine l_sld (pc := 1291) B hX hbl (l_in (k := 2) (by omega) hlt hL) dL_law_1291 ?_
  refine l_call (rest := []) (st' := [.int r]) (pc := 1292) B oi_0 rfl (C_CF_storm_0 (xs ((nI (6 * n) + 1).toNatClampNeg)) (xs ((nI (6 * n) + 2).toNatClampNeg)) M _ hx) tw_1166 tw_1163 tw_1164 tw_1165 tw_98 hd_CF_storm_0 ⟨Nat.le_of_ble_eq_true rfl, Nat.le_of_ble_eq_true rfl⟩ ⟨Nat.le_of_ble_eq_true rfl, Nat.le_of_ble_eq_true rfl⟩ rfl rfl (Nat.le_of_ble_eq_true rfl) rfl dL_law_1292 ?_
  refine g_aload_n (pc := 1295) B.1 1 dL_law_1295 rfl rfl ?_
  refine g_aload_n (pc := 1296) B.1 3 dL_law_1296 rfl rfl ?_
  refine g_iload_n (pc := 1297) B.1 0 dL_law_1297 rfl rfl ?_
  refine g_iconst (v := 1) (pc := 1298) B.1 dL_law_1298 rfl ?_
  refine g_iadd (pc := 1299) B.1 dL_law_1299 ?_
  refine l_sld (pc := 1300) B hX hbl (l_in (k := 1) (by omega) hlt hL) dL_law_1300 ?_
  refine g_aload_n (pc := 1301) B.1 3 dL_law_1301 rfl rfl ?_
  refine g_iload_n (pc := 1302) B.1 0 dL_law_1302 rfl rfl ?_
  refine g_iconst (v := 2) (pc := 1303) B.1 dL_law_1303 rfl ?_
  refine g_iadd (pc := 1304) B.1 dL_law_1304 ?_
  refine l_sld (pc := 1305) B hX hbl (l_in (k := 2) (by omega) hlt hL) dL_law_1305 ?_
  refine l_call (rest := [.int r]) (st' := [.int r, .int r]) (pc := 1306) B oi_94 rfl (C_Mo_storm_94 (xs ((nI (6 * n) + 1).toNatClampNeg)) (xs ((nI (6 * n) + 2).toNatClampNeg)) M1 _ hm) tw_1772 tw_1769 tw_1770 tw_1771 tw_111 hd_Mo_storm_94 ⟨Nat.le_of_ble_eq_true rfl, Nat.le_of_ble_eq_true rfl⟩ ⟨Nat.le_of_ble_eq_true rfl, Nat.le_of_ble_eq_true rfl⟩ rfl rfl (Nat.le_of_ble_eq_true rfl) rfl dL_law_1306 ?_
  refine g_icmp_eq (tgt := 1465) (pc := 1309) B.1 dL_law_1309 rfl (fun _ => ?_) (fun hc => absurd rfl (of_decide_eq_false hc))
  exact kk M2 hI2
set_option maxHeartbeats 4000000 in
set_option maxRecDepth 20000 in
theorem L_order {D : va_G} {ad adK adV : Nat → Nat} {cI cJ : ClassId} {p : Program} {l : Launch} {e : Env} {s : State} {m : MethodId} {below : List Frame} {meth : Method} {c : Code} {b L : Nat} {xs : Nat → Int32} (B : LawB D ad adK adV cI cJ p s m #[Value.ref b] meth c) (hX : va_X b L xs s s.heap) (hbl : b < s.heap.size) (hL : L ≤ 3072) {Inv : Nat → Mem → Prop} (ho : Op_order Inv) (n : Nat) (M : Mem) (hlt : 6 * n + 6 ≤ L) (hI : Inv n M) (kk : ∀ M2 : Mem, Inv (n + 1) M2 → GG p l e room_1 s m #[Value.ref b] below meth c (lw_Z below #[Value.ref b] s) 4 117 29160 (LawW D ad cI cJ s M2) 1465 [(3, .int (nI (6 * n))), (2, .ref (ad 94)), (1, .ref (ad 0)), (0, .ref b)] []) : GG p l e room_1 s m #[Value.ref b] below meth c (lw_Z below #[Value.ref b] s) 4 117 29160 (LawW D ad cI cJ s M) 1314 [(3, .int (nI (6 * n))), (2, .ref (ad 94)), (1, .ref (ad 0)), (0, .ref b)] [] := by
  obtain ⟨r, M1, M2, hx, hm, hI2⟩ := ho n M (xs ((nI (6 * n) + 1).toNatClampNeg)) (by omega) hI
  refine g_aload_n (pc := 1314) B.1 2 dL_law_1314 rfl rfl ?_
  refine g_aload_n (pc := 1315) B.1 3 dL_law_1315 rfl rfl ?_
  refine g_iload_n (pc := 1316) B.1 0 dL_law_1316 rfl rfl ?_
  refine g_iconst (v := 1) (pc := 1317) B.1 dL_law_1317 rfl ?_
  refine g_iadd (pc := 1318) B.1 dL_law_1318 ?_
  refine l_sld (pc := 1319) B hX hbl (l_in (k := 1) (by omega) hlt hL) dL_law_1319 ?_
  refine l_call (rest := []) (st' := [.int r]) (pc := 1320) B oi_0 rfl (C_CF_order_0 (xs ((nI (6 * n) + 1).toNatClampNeg)) M _ hx) tw_1180 tw_1177 tw_1178 tw_1179 tw_98 hd_CF_order_0 ⟨Nat.le_of_ble_eq_true rfl, Nat.le_of_ble_eq_true rfl⟩ ⟨Nat.le_of_ble_eq_true rfl, Nat.le_of_ble_eq_true rfl⟩ rfl rfl (Nat.le_of_ble_eq_true rfl) rfl dL_law_1320 ?_
  refine g_aload_n (pc := 1323) B.1 1 dL_law_1323 rfl rfl ?_
  refine g_aload_n (pc := 1324) B.1 3 dL_law_1324 rfl rfl ?_
  refine g_iload_n (pc := 1325) B.1 0 dL_law_1325 rfl rfl ?_
  refine g_iconst (v := 1) (pc := 1326) B.1 dL_law_1326 rfl ?_
  refine g_iadd (pc := 1327) B.1 dL_law_1327 ?_
  refine l_sld (pc := 1328) B hX hbl (l_in (k := 1) (by omega) hlt hL) dL_law_1328 ?_
  refine l_call (rest := [.int r]) (st' := [.int r, .int r]) (pc := 1329) B oi_94 rfl (C_Mo_order_94 (xs ((nI (6 * n) + 1).toNatClampNeg)) M1 _ hm) tw_1776 tw_1773 tw_1774 tw_1775 tw_111 hd_Mo_order_94 ⟨Nat.le_of_ble_eq_true rfl, Nat.le_of_ble_eq_true rfl⟩ ⟨Nat.le_of_ble_eq_true rfl, Nat.le_of_ble_eq_true rfl⟩ rfl rfl (Nat.le_of_ble_eq_true rfl) rfl dL_law_1329 ?_
  refine g_icmp_eq (tgt := 1465) (pc := 1332) B.1 dL_law_1332 rfl (fun _ => ?_) (fun hc => absurd rfl (of_decide_eq_false hc))
  exact kk M2 hI2
set_option maxHeartbeats 4000000 in
set_option maxRecDepth 20000 in
theorem L_fix {D : va_G} {ad adK adV : Nat → Nat} {cI cJ : ClassId} {p : Program} {l : Launch} {e : Env} {s : State} {m : MethodId} {below : List Frame} {meth : Method} {c : Code} {b L : Nat} {xs : Nat → Int32} (B : LawB D ad adK adV cI cJ p s m #[Value.ref b] meth c) (hX : va_X b L xs s s.heap) (hbl : b < s.heap.size) (hL : L ≤ 3072) {Inv : Nat → Mem → Prop} (ho : Op_fix Inv) (n : Nat) (M : Mem) (hlt : 6 * n + 6 ≤ L) (hI : Inv n M) (kk : ∀ M2 : Mem, Inv (n + 1) M2 → GG p l e room_1 s m #[Value.ref b] below meth c (lw_Z below #[Value.ref b] s) 4 117 29160 (LawW D ad cI cJ s M2) 1465 [(3, .int (nI (6 * n))), (2, .ref (ad 94)), (1, .ref (ad 0)), (0, .ref b)] []) : GG p l e room_1 s m #[Value.ref b] below meth c (lw_Z below #[Value.ref b] s) 4 117 29160 (LawW D ad cI cJ s M) 1337 [(3, .int (nI (6 * n))), (2, .ref (ad 94)), (1, .ref (ad 0)), (0, .ref b)] [] := by
  obtain ⟨r, M1, M2, hx, hm, hI2⟩ := ho n M  (by omega) hI
  refine g_aload_n (pc := 1337) B.1 2 dL_law_1337 rfl rfl ?_
  refine l_call (rest := []) (st' := [.int r]) (pc := 1338) B oi_0 rfl (C_CF_fix_0  M _ hx) tw_1220 tw_1217 tw_1218 tw_1219 tw_98 hd_CF_fix_0 ⟨Nat.le_of_ble_eq_true rfl, Nat.le_of_ble_eq_true rfl⟩ ⟨Nat.le_of_ble_eq_true rfl, Nat.le_of_ble_eq_true rfl⟩ rfl rfl (Nat.le_of_ble_eq_true rfl) rfl dL_law_1338 ?_
  refine g_aload_n (pc := 1341) B.1 1 dL_law_1341 rfl rfl ?_
  refine l_call (rest := [.int r]) (st' := [.int r, .int r]) (pc := 1342) B oi_94 rfl (C_Mo_fix_94  M1 _ hm) tw_1789 tw_1786 tw_1787 tw_1788 tw_111 hd_Mo_fix_94 ⟨Nat.le_of_ble_eq_true rfl, Nat.le_of_ble_eq_true rfl⟩ ⟨Nat.le_of_ble_eq_true rfl, Nat.le_of_ble_eq_true rfl⟩ rfl rfl (Nat.le_of_ble_eq_true rfl) rfl dL_law_1342 ?_
  refine g_icmp_eq (tgt := 1465) (pc := 1345) B.1 dL_law_1345 rfl (fun _ => ?_) (fun hc => absurd rfl (of_decide_eq_false hc))
  exact kk M2 hI2
set_option maxHeartbeats 4000000 in
set_option maxRecDepth 20000 in
theorem L_spite {D : va_G} {ad adK adV : Nat → Nat} {cI cJ : ClassId} {p : Program} {l : Launch} {e : Env} {s : State} {m : MethodId} {below : List Frame} {meth : Method} {c : Code} {b L : Nat} {xs : Nat → Int32} (B : LawB D ad adK adV cI cJ p s m #[Value.ref b] meth c) (hX : va_X b L xs s s.heap) (hbl : b < s.heap.size) (hL : L ≤ 3072) {Inv : Nat → Mem → Prop} (ho : Op_spite Inv) (n : Nat) (M : Mem) (hlt : 6 * n + 6 ≤ L) (hI : Inv n M) (kk : ∀ M2 : Mem, Inv (n + 1) M2 → GG p l e room_1 s m #[Value.ref b] below meth c (lw_Z below #[Value.ref b] s) 4 117 29160 (LawW D ad cI cJ s M2) 1465 [(3, .int (nI (6 * n))), (2, .ref (ad 94)), (1, .ref (ad 0)), (0, .ref b)] []) : GG p l e room_1 s m #[Value.ref b] below meth c (lw_Z below #[Value.ref b] s) 4 117 29160 (LawW D ad cI cJ s M) 1350 [(3, .int (nI (6 * n))), (2, .ref (ad 94)), (1, .ref (ad 0)), (0, .ref b)] [] := by
  obtain ⟨r, M1, M2, hx, hm, hI2⟩ := ho n M (xs ((nI (6 * n) + 1).toNatClampNeg)) (xs ((nI (6 * n) + 2).toNatClampNeg)) (xs ((nI (6 * n) + 3).toNatClampNeg)) (by omega) hI
  refine g_aload_n (pc := 1350) B.1 2 dL_law_1350 rfl rfl ?_
  refine g_aload_n (pc := 1351) B.1 3 dL_law_1351 rfl rfl ?_
  refine g_iload_n (pc := 1352) B.1 0 dL_law_1352 rfl rfl ?_
  refine g_iconst (v := 1) (pc := 1353) B.1 dL_law_1353 rfl ?_
  refine g_iadd (pc := 1354) B.1 dL_law_1354 ?_
  refine l_sld (pc := 1355) B hX hbl (l_in (k := 1) (by omega) hlt hL) dL_law_1355 ?_
  refine g_aload_n (pc := 1356) B.1 3 dL_law_1356 rfl rfl ?_
  refine g_iload_n (pc := 1357) B.1 0 dL_law_1357 rfl rfl ?_
  refine g_iconst (v := 2) (pc := 1358) B.1 dL_law_1358 rfl ?_
  refine g_iadd (pc := 1359) B.1 dL_law_1359 ?_
  refine l_sld (pc := 1360) B hX hbl (l_in (k := 2) (by omega) hlt hL) dL_law_1360 ?_
  refine g_aload_n (pc := 1361) B.1 3 dL_law_1361 rfl rfl ?_
  refine g_iload_n (pc := 1362) B.1 0 dL_law_1362 rfl rfl ?_
  refine g_iconst (v := 3) (pc := 1363) B.1 dL_law_1363 rfl ?_
  refine g_iadd (pc := 1364) B.1 dL_law_1364 ?_
  refine l_sld (pc := 1365) B hX hbl (l_in (k := 3) (by omega) hlt hL) dL_law_1365 ?_
  refine l_call (rest := []) (st' := [.int r]) (pc := 1366) B oi_0 rfl (C_CF_spite_0 (xs ((nI (6 * n) + 1).toNatClampNeg)) (xs ((nI (6 * n) + 2).toNatClampNeg)) (xs ((nI (6 * n) + 3).toNatClampNeg)) M _ hx) tw_1224 tw_1221 tw_1222 tw_1223 tw_98 hd_CF_spite_0 ⟨Nat.le_of_ble_eq_true rfl, Nat.le_of_ble_eq_true rfl⟩ ⟨Nat.le_of_ble_eq_true rfl, Nat.le_of_ble_eq_true rfl⟩ rfl rfl (Nat.le_of_ble_eq_true rfl) rfl dL_law_1366 ?_
  refine g_aload_n (pc := 1369) B.1 1 dL_law_1369 rfl rfl ?_
  refine g_aload_n (pc := 1370) B.1 3 dL_law_1370 rfl rfl ?_
  refine g_iload_n (pc := 1371) B.1 0 dL_law_1371 rfl rfl ?_
  refine g_iconst (v := 1) (pc := 1372) B.1 dL_law_1372 rfl ?_
  refine g_iadd (pc := 1373) B.1 dL_law_1373 ?_
  refine l_sld (pc := 1374) B hX hbl (l_in (k := 1) (by omega) hlt hL) dL_law_1374 ?_
  refine g_aload_n (pc := 1375) B.1 3 dL_law_1375 rfl rfl ?_
  refine g_iload_n (pc := 1376) B.1 0 dL_law_1376 rfl rfl ?_
  refine g_iconst (v := 2) (pc := 1377) B.1 dL_law_1377 rfl ?_
  refine g_iadd (pc := 1378) B.1 dL_law_1378 ?_
  refine l_sld (pc := 1379) B hX hbl (l_in (k := 2) (by omega) hlt hL) dL_law_1379 ?_
  refine g_aload_n (pc := 1380) B.1 3 dL_law_1380 rfl rfl ?_
  refine g_iload_n (pc := 1381) B.1 0 dL_law_1381 rfl rfl ?_
  refine g_iconst (v := 3) (pc := 1382) B.1 dL_law_1382 rfl ?_
  refine g_iadd (pc := 1383) B.1 dL_law_1383 ?_
  refine l_sld (pc := 1384) B hX hbl (l_in (k := 3) (by omega) hlt hL) dL_law_1384 ?_
  refine l_call (rest := [.int r]) (st' := [.int r, .int r]) (pc := 1385) B oi_94 rfl (C_Mo_spite_94 (xs ((nI (6 * n) + 1).toNatClampNeg)) (xs ((nI (6 * n) + 2).toNatClampNeg)) (xs ((nI (6 * n) + 3).toNatClampNeg)) M1 _ hm) tw_1793 tw_1790 tw_1791 tw_1792 tw_111 hd_Mo_spite_94 ⟨Nat.le_of_ble_eq_true rfl, Nat.le_of_ble_eq_true rfl⟩ ⟨Nat.le_of_ble_eq_true rfl, Nat.le_of_ble_eq_true rfl⟩ rfl rfl (Nat.le_of_ble_eq_true rfl) rfl dL_law_1385 ?_
  refine g_icmp_eq (tgt := 1465) (pc := 1388) B.1 dL_law_1388 rfl (fun _ => ?_) (fun hc => absurd rfl (of_decide_eq_false hc))
  exact kk M2 hI2
set_option maxHeartbeats 4000000 in
set_option maxRecDepth 20000 in
theorem L_tried {D : va_G} {ad adK adV : Nat → Nat} {cI cJ : ClassId} {p : Program} {l : Launch} {e : Env} {s : State} {m : MethodId} {below : List Frame} {meth : Method} {c : Code} {b L : Nat} {xs : Nat → Int32} (B : LawB D ad adK adV cI cJ p s m #[Value.ref b] meth c) (hX : va_X b L xs s s.heap) (hbl : b < s.heap.size) (hL : L ≤ 3072) {Inv : Nat → Mem → Prop} (ho : Op_tried Inv) (n : Nat) (M : Mem) (hlt : 6 * n + 6 ≤ L) (hI : Inv n M) (kk : ∀ M2 : Mem, Inv (n + 1) M2 → GG p l e room_1 s m #[Value.ref b] below meth c (lw_Z below #[Value.ref b] s) 4 117 29160 (LawW D ad cI cJ s M2) 1465 [(3, .int (nI (6 * n))), (2, .ref (ad 94)), (1, .ref (ad 0)), (0, .ref b)] []) : GG p l e room_1 s m #[Value.ref b] below meth c (lw_Z below #[Value.ref b] s) 4 117 29160 (LawW D ad cI cJ s M) 1393 [(3, .int (nI (6 * n))), (2, .ref (ad 94)), (1, .ref (ad 0)), (0, .ref b)] [] := by
  obtain ⟨r, M1, M2, hx, hm, hI2⟩ := ho n M (xs ((nI (6 * n) + 1).toNatClampNeg)) (by omega) hI
  refine g_aload_n (pc := 1393) B.1 2 dL_law_1393 rfl rfl ?_
  refine g_aload_n (pc := 1394) B.1 3 dL_law_1394 rfl rfl ?_
  refine g_iload_n (pc := 1395) B.1 0 dL_law_1395 rfl rfl ?_
  refine g_iconst (v := 1) (pc := 1396) B.1 dL_law_1396 rfl ?_
  refine g_iadd (pc := 1397) B.1 dL_law_1397 ?_
  refine l_sld (pc := 1398) B hX hbl (l_in (k := 1) (by omega) hlt hL) dL_law_1398 ?_
  refine l_call (rest := []) (st' := [.int r]) (pc := 1399) B oi_0 rfl (C_CF_tried_0 (xs ((nI (6 * n) + 1).toNatClampNeg)) M _ hx) tw_1234 tw_1231 tw_1232 tw_1233 tw_98 hd_CF_tried_0 ⟨Nat.le_of_ble_eq_true rfl, Nat.le_of_ble_eq_true rfl⟩ ⟨Nat.le_of_ble_eq_true rfl, Nat.le_of_ble_eq_true rfl⟩ rfl rfl (Nat.le_of_ble_eq_true rfl) rfl dL_law_1399 ?_
  refine g_aload_n (pc := 1402) B.1 1 dL_law_1402 rfl rfl ?_
  refine g_aload_n (pc := 1403) B.1 3 dL_law_1403 rfl rfl ?_
  refine g_iload_n (pc := 1404) B.1 0 dL_law_1404 rfl rfl ?_
  refine g_iconst (v := 1) (pc := 1405) B.1 dL_law_1405 rfl ?_
  refine g_iadd (pc := 1406) B.1 dL_law_1406 ?_
  refine l_sld (pc := 1407) B hX hbl (l_in (k := 1) (by omega) hlt hL) dL_law_1407 ?_
  refine l_call (rest := [.int r]) (st' := [.int r, .int r]) (pc := 1408) B oi_94 rfl (C_Mo_tried_94 (xs ((nI (6 * n) + 1).toNatClampNeg)) M1 _ hm) tw_1805 tw_1802 tw_1803 tw_1804 tw_111 hd_Mo_tried_94 ⟨Nat.le_of_ble_eq_true rfl, Nat.le_of_ble_eq_true rfl⟩ ⟨Nat.le_of_ble_eq_true rfl, Nat.le_of_ble_eq_true rfl⟩ rfl rfl (Nat.le_of_ble_eq_true rfl) rfl dL_law_1408 ?_
  refine g_icmp_eq (tgt := 1465) (pc := 1411) B.1 dL_law_1411 rfl (fun _ => ?_) (fun hc => absurd rfl (of_decide_eq_false hc))
  exact kk M2 hI2
set_option maxHeartbeats 4000000 in
set_option maxRecDepth 20000 in
theorem L_image {D : va_G} {ad adK adV : Nat → Nat} {cI cJ : ClassId} {p : Program} {l : Launch} {e : Env} {s : State} {m : MethodId} {below : List Frame} {meth : Method} {c : Code} {b L : Nat} {xs : Nat → Int32} (B : LawB D ad adK adV cI cJ p s m #[Value.ref b] meth c) (hX : va_X b L xs s s.heap) (hbl : b < s.heap.size) (hL : L ≤ 3072) {Inv : Nat → Mem → Prop} (ho : Op_image Inv) (n : Nat) (M : Mem) (hlt : 6 * n + 6 ≤ L) (hI : Inv n M) (kk : ∀ M2 : Mem, Inv (n + 1) M2 → GG p l e room_1 s m #[Value.ref b] below meth c (lw_Z below #[Value.ref b] s) 4 117 29160 (LawW D ad cI cJ s M2) 1465 [(3, .int (nI (6 * n))), (2, .ref (ad 94)), (1, .ref (ad 0)), (0, .ref b)] []) : GG p l e room_1 s m #[Value.ref b] below meth c (lw_Z below #[Value.ref b] s) 4 117 29160 (LawW D ad cI cJ s M) 1416 [(3, .int (nI (6 * n))), (2, .ref (ad 94)), (1, .ref (ad 0)), (0, .ref b)] [] := by
  obtain ⟨r, M1, M2, hx, hm, hI2⟩ := ho n M  (by omega) hI
  refine g_aload_n (pc := 1416) B.1 2 dL_law_1416 rfl rfl ?_
  refine l_call (rest := []) (st' := [.int r]) (pc := 1417) B oi_0 rfl (C_CF_image_0  M _ hx) tw_1256 tw_1253 tw_1254 tw_1255 tw_98 hd_CF_image_0 ⟨Nat.le_of_ble_eq_true rfl, Nat.le_of_ble_eq_true rfl⟩ ⟨Nat.le_of_ble_eq_true rfl, Nat.le_of_ble_eq_true rfl⟩ rfl rfl (Nat.le_of_ble_eq_true rfl) rfl dL_law_1417 ?_
  refine g_aload_n (pc := 1420) B.1 1 dL_law_1420 rfl rfl ?_
  refine l_call (rest := [.int r]) (st' := [.int r, .int r]) (pc := 1421) B oi_94 rfl (C_Mo_image_94  M1 _ hm) tw_1814 tw_1811 tw_1812 tw_1813 tw_111 hd_Mo_image_94 ⟨Nat.le_of_ble_eq_true rfl, Nat.le_of_ble_eq_true rfl⟩ ⟨Nat.le_of_ble_eq_true rfl, Nat.le_of_ble_eq_true rfl⟩ rfl rfl (Nat.le_of_ble_eq_true rfl) rfl dL_law_1421 ?_
  refine g_icmp_eq (tgt := 1465) (pc := 1424) B.1 dL_law_1424 rfl (fun _ => ?_) (fun hc => absurd rfl (of_decide_eq_false hc))
  exact kk M2 hI2
set_option maxHeartbeats 4000000 in
set_option maxRecDepth 20000 in
theorem L_undo {D : va_G} {ad adK adV : Nat → Nat} {cI cJ : ClassId} {p : Program} {l : Launch} {e : Env} {s : State} {m : MethodId} {below : List Frame} {meth : Method} {c : Code} {b L : Nat} {xs : Nat → Int32} (B : LawB D ad adK adV cI cJ p s m #[Value.ref b] meth c) (hX : va_X b L xs s s.heap) (hbl : b < s.heap.size) (hL : L ≤ 3072) {Inv : Nat → Mem → Prop} (ho : Op_undo Inv) (n : Nat) (M : Mem) (hlt : 6 * n + 6 ≤ L) (hI : Inv n M) (kk : ∀ M2 : Mem, Inv (n + 1) M2 → GG p l e room_1 s m #[Value.ref b] below meth c (lw_Z below #[Value.ref b] s) 4 117 29160 (LawW D ad cI cJ s M2) 1465 [(3, .int (nI (6 * n))), (2, .ref (ad 94)), (1, .ref (ad 0)), (0, .ref b)] []) : GG p l e room_1 s m #[Value.ref b] below meth c (lw_Z below #[Value.ref b] s) 4 117 29160 (LawW D ad cI cJ s M) 1429 [(3, .int (nI (6 * n))), (2, .ref (ad 94)), (1, .ref (ad 0)), (0, .ref b)] [] := by
  obtain ⟨r, M1, M2, hx, hm, hI2⟩ := ho n M  (by omega) hI
  refine g_aload_n (pc := 1429) B.1 2 dL_law_1429 rfl rfl ?_
  refine l_call (rest := []) (st' := [.int r]) (pc := 1430) B oi_0 rfl (C_CF_undo_0  M _ hx) tw_1289 tw_1286 tw_1287 tw_1288 tw_98 hd_CF_undo_0 ⟨Nat.le_of_ble_eq_true rfl, Nat.le_of_ble_eq_true rfl⟩ ⟨Nat.le_of_ble_eq_true rfl, Nat.le_of_ble_eq_true rfl⟩ rfl rfl (Nat.le_of_ble_eq_true rfl) rfl dL_law_1430 ?_
  refine g_aload_n (pc := 1433) B.1 1 dL_law_1433 rfl rfl ?_
  refine l_call (rest := [.int r]) (st' := [.int r, .int r]) (pc := 1434) B oi_94 rfl (C_Mo_undo_94  M1 _ hm) tw_1818 tw_1815 tw_1816 tw_1817 tw_111 hd_Mo_undo_94 ⟨Nat.le_of_ble_eq_true rfl, Nat.le_of_ble_eq_true rfl⟩ ⟨Nat.le_of_ble_eq_true rfl, Nat.le_of_ble_eq_true rfl⟩ rfl rfl (Nat.le_of_ble_eq_true rfl) rfl dL_law_1434 ?_
  refine g_icmp_eq (tgt := 1465) (pc := 1437) B.1 dL_law_1437 rfl (fun _ => ?_) (fun hc => absurd rfl (of_decide_eq_false hc))
  exact kk M2 hI2
set_option maxHeartbeats 4000000 in
set_option maxRecDepth 20000 in
theorem L_count {D : va_G} {ad adK adV : Nat → Nat} {cI cJ : ClassId} {p : Program} {l : Launch} {e : Env} {s : State} {m : MethodId} {below : List Frame} {meth : Method} {c : Code} {b L : Nat} {xs : Nat → Int32} (B : LawB D ad adK adV cI cJ p s m #[Value.ref b] meth c) (hX : va_X b L xs s s.heap) (hbl : b < s.heap.size) (hL : L ≤ 3072) {Inv : Nat → Mem → Prop} (ho : Op_count Inv) (n : Nat) (M : Mem) (hlt : 6 * n + 6 ≤ L) (hI : Inv n M) (kk : ∀ M2 : Mem, Inv (n + 1) M2 → GG p l e room_1 s m #[Value.ref b] below meth c (lw_Z below #[Value.ref b] s) 4 117 29160 (LawW D ad cI cJ s M2) 1465 [(3, .int (nI (6 * n))), (2, .ref (ad 94)), (1, .ref (ad 0)), (0, .ref b)] []) : GG p l e room_1 s m #[Value.ref b] below meth c (lw_Z below #[Value.ref b] s) 4 117 29160 (LawW D ad cI cJ s M) 1442 [(3, .int (nI (6 * n))), (2, .ref (ad 94)), (1, .ref (ad 0)), (0, .ref b)] [] := by
  obtain ⟨r, hx, hm, hI2⟩ := ho n M (xs ((nI (6 * n) + 1).toNatClampNeg)) (by omega) hI
  refine g_aload_n (pc := 1442) B.1 2 dL_law_1442 rfl rfl ?_
  refine g_aload_n (pc := 1443) B.1 3 dL_law_1443 rfl rfl ?_
  refine g_iload_n (pc := 1444) B.1 0 dL_law_1444 rfl rfl ?_
  refine g_iconst (v := 1) (pc := 1445) B.1 dL_law_1445 rfl ?_
  refine g_iadd (pc := 1446) B.1 dL_law_1446 ?_
  refine l_sld (pc := 1447) B hX hbl (l_in (k := 1) (by omega) hlt hL) dL_law_1447 ?_
  refine l_call (rest := []) (st' := [.int r]) (pc := 1448) B oi_0 rfl (C_CF_count_0 (xs ((nI (6 * n) + 1).toNatClampNeg)) M _ hx) tw_1293 tw_1290 tw_1291 tw_1292 tw_98 hd_CF_count_0 ⟨Nat.le_of_ble_eq_true rfl, Nat.le_of_ble_eq_true rfl⟩ ⟨Nat.le_of_ble_eq_true rfl, Nat.le_of_ble_eq_true rfl⟩ rfl rfl (Nat.le_of_ble_eq_true rfl) rfl dL_law_1448 ?_
  refine g_aload_n (pc := 1451) B.1 1 dL_law_1451 rfl rfl ?_
  refine g_aload_n (pc := 1452) B.1 3 dL_law_1452 rfl rfl ?_
  refine g_iload_n (pc := 1453) B.1 0 dL_law_1453 rfl rfl ?_
  refine g_iconst (v := 1) (pc := 1454) B.1 dL_law_1454 rfl ?_
  refine g_iadd (pc := 1455) B.1 dL_law_1455 ?_
  refine l_sld (pc := 1456) B hX hbl (l_in (k := 1) (by omega) hlt hL) dL_law_1456 ?_
  refine l_call (rest := [.int r]) (st' := [.int r, .int r]) (pc := 1457) B oi_94 rfl (C_Mo_count_94 (xs ((nI (6 * n) + 1).toNatClampNeg)) M _ hm) tw_1822 tw_1819 tw_1820 tw_1821 tw_111 hd_Mo_count_94 ⟨Nat.le_of_ble_eq_true rfl, Nat.le_of_ble_eq_true rfl⟩ ⟨Nat.le_of_ble_eq_true rfl, Nat.le_of_ble_eq_true rfl⟩ rfl rfl (Nat.le_of_ble_eq_true rfl) rfl dL_law_1457 ?_
  refine g_icmp_eq (tgt := 1465) (pc := 1460) B.1 dL_law_1460 rfl (fun _ => ?_) (fun hc => absurd rfl (of_decide_eq_false hc))
  exact kk M hI2
theorem l_cond {n L : Nat} (hn : n ≤ 600) (hL : L ≤ 3072) : decide (nI (6 * n) ≤ nI L - 6) = decide (6 * n + 6 ≤ L) := by
  have h1 : (nI L - 6).toInt = (L : Int) - 6 := by
    rw [Int32.toInt_sub, nI_toI (by omega), show (6 : Int32).toInt = 6 by decide]
    exact Int.bmod_eq_of_le (by omega) (by omega)
  rw [Bool.eq_iff_iff, decide_eq_true_eq, decide_eq_true_eq, i_le, h1, nI_toI (by omega)]
  omega
theorem l_tab {x : Int32} (h : ∀ c : Nat, c < 41 → x ≠ nI c) : x.toInt < 0 ∨ 40 < x.toInt := by
  rcases Int.lt_or_le x.toInt 0 with h1 | h1
  · exact Or.inl h1
  · rcases Int.lt_or_le 40 x.toInt with h2 | h2
    · exact Or.inr h2
    · exact absurd (Int32.toInt_inj.mp (by rw [nI_toI (by omega)]; omega)) (h x.toInt.toNat (by omega))
set_option maxHeartbeats 16000000 in
set_option maxRecDepth 20000 in
theorem L_loop {D : va_G} {ad adK adV : Nat → Nat} {cI cJ : ClassId} {p : Program} {l : Launch} {e : Env} {s : State} {m : MethodId} {below : List Frame} {meth : Method} {c : Code} {b L : Nat} {xs : Nat → Int32} (B : LawB D ad adK adV cI cJ p s m #[Value.ref b] meth c) (hX : va_X b L xs s s.heap) (hbl : b < s.heap.size) (hL : L ≤ 3072) {Inv : Nat → Mem → Prop} (hO : OPS Inv) : ∀ (d n : Nat) (M : Mem), n + d = 513 → Inv n M → GG p l e room_1 s m #[Value.ref b] below meth c (lw_Z below #[Value.ref b] s) 4 117 29160 (LawW D ad cI cJ s M) 18 [(3, .int (nI (6 * n))), (2, .ref (ad 94)), (1, .ref (ad 0)), (0, .ref b)] []
  | 0, n, M, hd, hI => by
    refine g_iload_n (pc := 18) B.1 0 dL_law_18 rfl rfl ?_
    refine g_aload_n (pc := 19) B.1 3 dL_law_19 rfl rfl ?_
    refine l_slen (pc := 20) B hX hbl dL_law_20 ?_
    refine g_bipush (v := 6) (pc := 21) B.1 dL_law_21 rfl ?_
    refine g_isub (pc := 23) B.1 dL_law_23 ?_
    refine g_icmp_gt (tgt := 1471) (pc := 24) B.1 dL_law_24 rfl (fun hc => ?_) (fun hc => ?_)
    · refine g_iconst (v := 1) (pc := 1471) B.1 dL_law_1471 rfl ?_
      intro H locs ls hP h
      refine va_forget hP.2.2.2 ?_
      refine W.widen (k := 600000) (n := 7302250) (Nat.le_of_ble_eq_true rfl) (Nat.le_of_ble_eq_true rfl) ?_
      exact lw_ret B.1.1.1 B.1.1.2.1 B.1.2.2.2.2.2 B.1.2.2.2.2.1 dL_law_1472
    · rw [l_cond (by omega) hL] at hc
      have h9 := of_decide_eq_true hc
      omega
  | d + 1, n, M, hd, hI => by
    have tail : ∀ M2 : Mem, Inv (n + 1) M2 → GG p l e room_1 s m #[Value.ref b] below meth c (lw_Z below #[Value.ref b] s) 4 117 29160 (LawW D ad cI cJ s M2) 1465 [(3, .int (nI (6 * n))), (2, .ref (ad 94)), (1, .ref (ad 0)), (0, .ref b)] [] := by
      intro M2 h2
      refine g_iinc (j := 0) (v := nI (6 * (n + 1))) (lv' := [(3, .int (nI (6 * (n + 1)))), (2, .ref (ad 94)), (1, .ref (ad 0)), (0, .ref b)]) (pc := 1465) B.1 dL_law_1465 rfl (by
        show nI (6 * n) + nI 6 = nI (6 * (n + 1))
        rw [Nat.mul_add]
        exact nI_add6 (6 * n)) (by decide) rfl ?_
      refine g_goto (tgt := 18) (pc := 1468) B.1 dL_law_1468 rfl ?_
      exact L_loop B hX hbl hL hO d (n + 1) M2 (by omega) h2
    refine g_iload_n (pc := 18) B.1 0 dL_law_18 rfl rfl ?_
    refine g_aload_n (pc := 19) B.1 3 dL_law_19 rfl rfl ?_
    refine l_slen (pc := 20) B hX hbl dL_law_20 ?_
    refine g_bipush (v := 6) (pc := 21) B.1 dL_law_21 rfl ?_
    refine g_isub (pc := 23) B.1 dL_law_23 ?_
    refine g_icmp_gt (tgt := 1471) (pc := 24) B.1 dL_law_24 rfl (fun hc => ?_) (fun hc => ?_)
    · refine g_iconst (v := 1) (pc := 1471) B.1 dL_law_1471 rfl ?_
      intro H locs ls hP h
      refine va_forget hP.2.2.2 ?_
      refine W.widen (k := 600000) (n := 7302250) (Nat.le_of_ble_eq_true rfl) (Nat.le_of_ble_eq_true rfl) ?_
      exact lw_ret B.1.1.1 B.1.1.2.1 B.1.2.2.2.2.2 B.1.2.2.2.2.1 dL_law_1472
    · rw [l_cond (by omega) hL] at hc
      have hlt := of_decide_eq_true hc
      refine g_aload_n (pc := 27) B.1 3 dL_law_27 rfl rfl ?_
      refine g_iload_n (pc := 28) B.1 0 dL_law_28 rfl rfl ?_
      have hin : inb (nI (6 * n)) L = true := by rw [inb_nI (by omega)]; exact decide_eq_true (by omega)
      refine l_sld (pc := 29) B hX hbl hin dL_law_29 ?_
      refine g_bipush (v := 63) (pc := 30) B.1 dL_law_30 rfl ?_
      refine g_iand (pc := 32) B.1 dL_law_32 ?_
      generalize hz : xs (nI (6 * n)).toNatClampNeg &&& 63 = z
      by_cases hc0 : z = nI 0
      · refine g_tableIn (cv := 0) (tgt := 212) (pc := 33) B.1 dL_law_33 hc0 (by decide) (by decide) rfl rfl ?_
        exact L_land B hX hbl hL hO.2.1 n M hlt hI tail
      by_cases hc1 : z = nI 1
      · refine g_tableIn (cv := 1) (tgt := 255) (pc := 33) B.1 dL_law_33 hc1 (by decide) (by decide) rfl rfl ?_
        exact L_cost B hX hbl hL hO.2.2.1 n M hlt hI tail
      by_cases hc2 : z = nI 2
      · refine g_tableIn (cv := 2) (tgt := 288) (pc := 33) B.1 dL_law_33 hc2 (by decide) (by decide) rfl rfl ?_
        exact L_house B hX hbl hL hO.2.2.2.1 n M hlt hI tail
      by_cases hc3 : z = nI 3
      · refine g_tableIn (cv := 3) (tgt := 311) (pc := 33) B.1 dL_law_33 hc3 (by decide) (by decide) rfl rfl ?_
        exact L_farm B hX hbl hL hO.2.2.2.2.1 n M hlt hI tail
      by_cases hc4 : z = nI 4
      · refine g_tableIn (cv := 4) (tgt := 344) (pc := 33) B.1 dL_law_33 hc4 (by decide) (by decide) rfl rfl ?_
        exact L_month B hX hbl hL hO.2.2.2.2.2.1 n M hlt hI tail
      by_cases hc5 : z = nI 5
      · refine g_tableIn (cv := 5) (tgt := 367) (pc := 33) B.1 dL_law_33 hc5 (by decide) (by decide) rfl rfl ?_
        exact L_sign B hX hbl hL hO.2.2.2.2.2.2.1 n M hlt hI tail
      by_cases hc6 : z = nI 6
      · refine g_tableIn (cv := 6) (tgt := 420) (pc := 33) B.1 dL_law_33 hc6 (by decide) (by decide) rfl rfl ?_
        exact L_strike B hX hbl hL hO.2.2.2.2.2.2.2.1 n M hlt hI tail
      by_cases hc7 : z = nI 7
      · refine g_tableIn (cv := 7) (tgt := 443) (pc := 33) B.1 dL_law_33 hc7 (by decide) (by decide) rfl rfl ?_
        exact L_as B hX hbl hL hO.2.2.2.2.2.2.2.2.1 n M hlt hI tail
      by_cases hc8 : z = nI 8
      · refine g_tableIn (cv := 8) (tgt := 486) (pc := 33) B.1 dL_law_33 hc8 (by decide) (by decide) rfl rfl ?_
        exact L_many B hX hbl hL hO.2.2.2.2.2.2.2.2.2.1 n M hlt hI tail
      by_cases hc9 : z = nI 9
      · refine g_tableIn (cv := 9) (tgt := 529) (pc := 33) B.1 dL_law_33 hc9 (by decide) (by decide) rfl rfl ?_
        exact L_tip B hX hbl hL hO.2.2.2.2.2.2.2.2.2.2.1 n M hlt hI tail
      by_cases hc10 : z = nI 10
      · refine g_tableIn (cv := 10) (tgt := 552) (pc := 33) B.1 dL_law_33 hc10 (by decide) (by decide) rfl rfl ?_
        exact L_feed B hX hbl hL hO.2.2.2.2.2.2.2.2.2.2.2.1 n M hlt hI tail
      by_cases hc11 : z = nI 11
      · refine g_tableIn (cv := 11) (tgt := 615) (pc := 33) B.1 dL_law_33 hc11 (by decide) (by decide) rfl rfl ?_
        exact L_text B hX hbl hL hO.2.2.2.2.2.2.2.2.2.2.2.2.1 n M hlt hI tail
      by_cases hc12 : z = nI 12
      · refine g_tableIn (cv := 12) (tgt := 638) (pc := 33) B.1 dL_law_33 hc12 (by decide) (by decide) rfl rfl ?_
        exact L_force B hX hbl hL hO.2.2.2.2.2.2.2.2.2.2.2.2.2.1 n M hlt hI tail
      by_cases hc13 : z = nI 13
      · refine g_tableIn (cv := 13) (tgt := 691) (pc := 33) B.1 dL_law_33 hc13 (by decide) (by decide) rfl rfl ?_
        exact L_why B hX hbl hL hO.2.2.2.2.2.2.2.2.2.2.2.2.2.2.1 n M hlt hI tail
      by_cases hc14 : z = nI 14
      · refine g_tableIn (cv := 14) (tgt := 744) (pc := 33) B.1 dL_law_33 hc14 (by decide) (by decide) rfl rfl ?_
        exact L_line B hX hbl hL hO.2.2.2.2.2.2.2.2.2.2.2.2.2.2.2.1 n M hlt hI tail
      by_cases hc15 : z = nI 15
      · refine g_tableIn (cv := 15) (tgt := 777) (pc := 33) B.1 dL_law_33 hc15 (by decide) (by decide) rfl rfl ?_
        exact L_clear B hX hbl hL hO.2.2.2.2.2.2.2.2.2.2.2.2.2.2.2.2.1 n M hlt hI tail
      by_cases hc16 : z = nI 16
      · refine g_tableIn (cv := 16) (tgt := 790) (pc := 33) B.1 dL_law_33 hc16 (by decide) (by decide) rfl rfl ?_
        exact L_best B hX hbl hL hO.2.2.2.2.2.2.2.2.2.2.2.2.2.2.2.2.2.1 n M hlt hI tail
      by_cases hc17 : z = nI 17
      · refine g_tableIn (cv := 17) (tgt := 813) (pc := 33) B.1 dL_law_33 hc17 (by decide) (by decide) rfl rfl ?_
        exact L_mile B hX hbl hL hO.2.2.2.2.2.2.2.2.2.2.2.2.2.2.2.2.2.2.1 n M hlt hI tail
      by_cases hc18 : z = nI 18
      · refine g_tableIn (cv := 18) (tgt := 836) (pc := 33) B.1 dL_law_33 hc18 (by decide) (by decide) rfl rfl ?_
        exact L_span B hX hbl hL hO.2.2.2.2.2.2.2.2.2.2.2.2.2.2.2.2.2.2.2.1 n M hlt hI tail
      by_cases hc19 : z = nI 19
      · refine g_tableIn (cv := 19) (tgt := 859) (pc := 33) B.1 dL_law_33 hc19 (by decide) (by decide) rfl rfl ?_
        exact L_pole B hX hbl hL hO.2.2.2.2.2.2.2.2.2.2.2.2.2.2.2.2.2.2.2.2.1 n M hlt hI tail
      by_cases hc20 : z = nI 20
      · refine g_tableIn (cv := 20) (tgt := 882) (pc := 33) B.1 dL_law_33 hc20 (by decide) (by decide) rfl rfl ?_
        exact L_left B hX hbl hL hO.2.2.2.2.2.2.2.2.2.2.2.2.2.2.2.2.2.2.2.2.2.1 n M hlt hI tail
      by_cases hc21 : z = nI 21
      · refine g_tableIn (cv := 21) (tgt := 895) (pc := 33) B.1 dL_law_33 hc21 (by decide) (by decide) rfl rfl ?_
        exact L_next B hX hbl hL hO.2.2.2.2.2.2.2.2.2.2.2.2.2.2.2.2.2.2.2.2.2.2.1 n M hlt hI tail
      by_cases hc22 : z = nI 22
      · refine g_tableIn (cv := 22) (tgt := 928) (pc := 33) B.1 dL_law_33 hc22 (by decide) (by decide) rfl rfl ?_
        exact L_wire B hX hbl hL hO.2.2.2.2.2.2.2.2.2.2.2.2.2.2.2.2.2.2.2.2.2.2.2.1 n M hlt hI tail
      by_cases hc23 : z = nI 23
      · refine g_tableIn (cv := 23) (tgt := 951) (pc := 33) B.1 dL_law_33 hc23 (by decide) (by decide) rfl rfl ?_
        exact L_volt B hX hbl hL hO.2.2.2.2.2.2.2.2.2.2.2.2.2.2.2.2.2.2.2.2.2.2.2.2.1 n M hlt hI tail
      by_cases hc24 : z = nI 24
      · refine g_tableIn (cv := 24) (tgt := 974) (pc := 33) B.1 dL_law_33 hc24 (by decide) (by decide) rfl rfl ?_
        exact L_lose B hX hbl hL hO.2.2.2.2.2.2.2.2.2.2.2.2.2.2.2.2.2.2.2.2.2.2.2.2.2.1 n M hlt hI tail
      by_cases hc25 : z = nI 25
      · refine g_tableIn (cv := 25) (tgt := 997) (pc := 33) B.1 dL_law_33 hc25 (by decide) (by decide) rfl rfl ?_
        exact L_read B hX hbl hL hO.2.2.2.2.2.2.2.2.2.2.2.2.2.2.2.2.2.2.2.2.2.2.2.2.2.2.1 n M hlt hI tail
      by_cases hc26 : z = nI 26
      · refine g_tableIn (cv := 26) (tgt := 1040) (pc := 33) B.1 dL_law_33 hc26 (by decide) (by decide) rfl rfl ?_
        exact L_units B hX hbl hL hO.2.2.2.2.2.2.2.2.2.2.2.2.2.2.2.2.2.2.2.2.2.2.2.2.2.2.2.1 n M hlt hI tail
      by_cases hc27 : z = nI 27
      · refine g_tableIn (cv := 27) (tgt := 1073) (pc := 33) B.1 dL_law_33 hc27 (by decide) (by decide) rfl rfl ?_
        exact L_bill B hX hbl hL hO.2.2.2.2.2.2.2.2.2.2.2.2.2.2.2.2.2.2.2.2.2.2.2.2.2.2.2.2.1 n M hlt hI tail
      by_cases hc28 : z = nI 28
      · refine g_tableIn (cv := 28) (tgt := 1106) (pc := 33) B.1 dL_law_33 hc28 (by decide) (by decide) rfl rfl ?_
        exact L_pay B hX hbl hL hO.2.2.2.2.2.2.2.2.2.2.2.2.2.2.2.2.2.2.2.2.2.2.2.2.2.2.2.2.2.1 n M hlt hI tail
      by_cases hc29 : z = nI 29
      · refine g_tableIn (cv := 29) (tgt := 1149) (pc := 33) B.1 dL_law_33 hc29 (by decide) (by decide) rfl rfl ?_
        exact L_owe B hX hbl hL hO.2.2.2.2.2.2.2.2.2.2.2.2.2.2.2.2.2.2.2.2.2.2.2.2.2.2.2.2.2.2.1 n M hlt hI tail
      by_cases hc30 : z = nI 30
      · refine g_tableIn (cv := 30) (tgt := 1182) (pc := 33) B.1 dL_law_33 hc30 (by decide) (by decide) rfl rfl ?_
        exact L_loan B hX hbl hL hO.2.2.2.2.2.2.2.2.2.2.2.2.2.2.2.2.2.2.2.2.2.2.2.2.2.2.2.2.2.2.2.1 n M hlt hI tail
      by_cases hc31 : z = nI 31
      · refine g_tableIn (cv := 31) (tgt := 1245) (pc := 33) B.1 dL_law_33 hc31 (by decide) (by decide) rfl rfl ?_
        exact L_due B hX hbl hL hO.2.2.2.2.2.2.2.2.2.2.2.2.2.2.2.2.2.2.2.2.2.2.2.2.2.2.2.2.2.2.2.2.1 n M hlt hI tail
      by_cases hc32 : z = nI 32
      · refine g_tableIn (cv := 32) (tgt := 1268) (pc := 33) B.1 dL_law_33 hc32 (by decide) (by decide) rfl rfl ?_
        exact L_cannot B hX hbl hL hO.2.2.2.2.2.2.2.2.2.2.2.2.2.2.2.2.2.2.2.2.2.2.2.2.2.2.2.2.2.2.2.2.2.1 n M hlt hI tail
      by_cases hc33 : z = nI 33
      · refine g_tableIn (cv := 33) (tgt := 1281) (pc := 33) B.1 dL_law_33 hc33 (by decide) (by decide) rfl rfl ?_
        exact L_storm B hX hbl hL hO.2.2.2.2.2.2.2.2.2.2.2.2.2.2.2.2.2.2.2.2.2.2.2.2.2.2.2.2.2.2.2.2.2.2.1 n M hlt hI tail
      by_cases hc34 : z = nI 34
      · refine g_tableIn (cv := 34) (tgt := 1314) (pc := 33) B.1 dL_law_33 hc34 (by decide) (by decide) rfl rfl ?_
        exact L_order B hX hbl hL hO.2.2.2.2.2.2.2.2.2.2.2.2.2.2.2.2.2.2.2.2.2.2.2.2.2.2.2.2.2.2.2.2.2.2.2.1 n M hlt hI tail
      by_cases hc35 : z = nI 35
      · refine g_tableIn (cv := 35) (tgt := 1337) (pc := 33) B.1 dL_law_33 hc35 (by decide) (by decide) rfl rfl ?_
        exact L_fix B hX hbl hL hO.2.2.2.2.2.2.2.2.2.2.2.2.2.2.2.2.2.2.2.2.2.2.2.2.2.2.2.2.2.2.2.2.2.2.2.2.1 n M hlt hI tail
      by_cases hc36 : z = nI 36
      · refine g_tableIn (cv := 36) (tgt := 1350) (pc := 33) B.1 dL_law_33 hc36 (by decide) (by decide) rfl rfl ?_
        exact L_spite B hX hbl hL hO.2.2.2.2.2.2.2.2.2.2.2.2.2.2.2.2.2.2.2.2.2.2.2.2.2.2.2.2.2.2.2.2.2.2.2.2.2.1 n M hlt hI tail
      by_cases hc37 : z = nI 37
      · refine g_tableIn (cv := 37) (tgt := 1393) (pc := 33) B.1 dL_law_33 hc37 (by decide) (by decide) rfl rfl ?_
        exact L_tried B hX hbl hL hO.2.2.2.2.2.2.2.2.2.2.2.2.2.2.2.2.2.2.2.2.2.2.2.2.2.2.2.2.2.2.2.2.2.2.2.2.2.2.1 n M hlt hI tail
      by_cases hc38 : z = nI 38
      · refine g_tableIn (cv := 38) (tgt := 1416) (pc := 33) B.1 dL_law_33 hc38 (by decide) (by decide) rfl rfl ?_
        exact L_image B hX hbl hL hO.2.2.2.2.2.2.2.2.2.2.2.2.2.2.2.2.2.2.2.2.2.2.2.2.2.2.2.2.2.2.2.2.2.2.2.2.2.2.2.1 n M hlt hI tail
      by_cases hc39 : z = nI 39
      · refine g_tableIn (cv := 39) (tgt := 1429) (pc := 33) B.1 dL_law_33 hc39 (by decide) (by decide) rfl rfl ?_
        exact L_undo B hX hbl hL hO.2.2.2.2.2.2.2.2.2.2.2.2.2.2.2.2.2.2.2.2.2.2.2.2.2.2.2.2.2.2.2.2.2.2.2.2.2.2.2.2.1 n M hlt hI tail
      by_cases hc40 : z = nI 40
      · refine g_tableIn (cv := 40) (tgt := 1442) (pc := 33) B.1 dL_law_33 hc40 (by decide) (by decide) rfl rfl ?_
        exact L_count B hX hbl hL hO.2.2.2.2.2.2.2.2.2.2.2.2.2.2.2.2.2.2.2.2.2.2.2.2.2.2.2.2.2.2.2.2.2.2.2.2.2.2.2.2.2 n M hlt hI tail
      refine g_tableOut (tgt := 1465) (pc := 33) B.1 dL_law_33 (l_tab (fun k hk => ?_)) rfl (tail M (hO.1 n M hI))
      match k, hk with
      | 0, _ => exact hc0
      | 1, _ => exact hc1
      | 2, _ => exact hc2
      | 3, _ => exact hc3
      | 4, _ => exact hc4
      | 5, _ => exact hc5
      | 6, _ => exact hc6
      | 7, _ => exact hc7
      | 8, _ => exact hc8
      | 9, _ => exact hc9
      | 10, _ => exact hc10
      | 11, _ => exact hc11
      | 12, _ => exact hc12
      | 13, _ => exact hc13
      | 14, _ => exact hc14
      | 15, _ => exact hc15
      | 16, _ => exact hc16
      | 17, _ => exact hc17
      | 18, _ => exact hc18
      | 19, _ => exact hc19
      | 20, _ => exact hc20
      | 21, _ => exact hc21
      | 22, _ => exact hc22
      | 23, _ => exact hc23
      | 24, _ => exact hc24
      | 25, _ => exact hc25
      | 26, _ => exact hc26
      | 27, _ => exact hc27
      | 28, _ => exact hc28
      | 29, _ => exact hc29
      | 30, _ => exact hc30
      | 31, _ => exact hc31
      | 32, _ => exact hc32
      | 33, _ => exact hc33
      | 34, _ => exact hc34
      | 35, _ => exact hc35
      | 36, _ => exact hc36
      | 37, _ => exact hc37
      | 38, _ => exact hc38
      | 39, _ => exact hc39
      | 40, _ => exact hc40
      | k + 41, hk => exact absurd hk (by omega)
