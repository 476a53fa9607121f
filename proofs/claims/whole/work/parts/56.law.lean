section LAW
/-- the law's own numbers: one frame more than its callees -/
def mL_law : MI := (yL_law, cL_law, 4, some .boolean, 13, 480)
def Sc (E : EB) (G : GB) (n : Nat) (xs : Nat → Int32) : Prop := match G with
  | (p, e, s, m, args, below, meth, c, R, cl, sl, Q) => va_X (eAd E 500) n xs s s.heap ∧ eAd E 500 < s.heap.size ∧ ¬ eFr E (eAd E 500)
def LL (i : Nat) : List (Option Value) := [some (.ref 500), some (.ref 0), some (.ref 59), some (.int (nI i))]
variable {E : EB} {G : GB} {pc q n i : Nat} {xs : Nat → Int32} {L : List (Option Value)} {st : List Value} {M : Mem}
theorem ci6L : Int32.ofInt 6 = 6 := by decide
theorem v_sld0 {j : MI} (hG : Gd E j G) (hX : Sc E G n xs) (hn : n ≤ 3072) {a : Nat} (ha : a < n) {x : Int32} (hx : x = nI a) (d : decode j.2.1 pc = .ok (.iaload, 1)) (hq : pc + 1 = q) (k : V E G q L (.int (xs a) :: st) M) : V E G pc L (.int x :: .ref 500 :: st) M := by
  subst hq; subst hx
  obtain ⟨p, e, s, m, args, below, meth, c, R, cl, sl, Q⟩ := G
  intro H locs ls hl hP hS
  refine va_sld hG.1 hG.2.1 hX.1 hX.2.1 hX.2.2 hS (vp_in_nI ha (by omega)) d ?_
  rw [nI_clamp (by omega)]
  exact k H locs ls hl hP hS
theorem v_sld {j : MI} (hG : Gd E j G) (hX : Sc E G n xs) (hn : n ≤ 3072) (hi : i + 6 ≤ n) {k : Nat} (hk : k < 6) {v : Int32} (hv : v = nI k) (d : decode j.2.1 pc = .ok (.iaload, 1)) (hq : pc + 1 = q) (kk : V E G q L (.int (xs (i + k)) :: st) M) : V E G pc L (.int (nI i + v) :: .ref 500 :: st) M :=
  v_sld0 hG hX hn (a := i + k) (by omega) (by rw [hv, nI_add]) d hq kk
theorem v_slen {j : MI} (hG : Gd E j G) (hX : Sc E G n xs) (d : decode j.2.1 pc = .ok (.arraylength, 1)) (hq : pc + 1 = q) (k : V E G q L (.int (nI n) :: st) M) : V E G pc L (.ref 500 :: st) M := by
  subst hq
  obtain ⟨p, e, s, m, args, below, meth, c, R, cl, sl, Q⟩ := G
  intro H locs ls hl hP hS
  exact va_slen hG.1 hG.2.1 hX.1 hX.2.1 hX.2.2 hS d (k H locs ls hl hP hS)
theorem lc_0 (hG : Gd E mL_law G) (hX : Sc E G n xs) (hn : n ≤ 3072) (hi : i + 6 ≤ n) (hR : Rel M M) (kk : ∀ M', Rel M' M' → V E G 1784 (LL i) [] M') : V E G 248 (LL i) [] M := by
  obtain ⟨r, M1, M2, h1, h2, h3⟩ := bo_writer (xs (i + 1)) M hR
  unfold LL at kk ⊢
  refine v_aload_1 hG dL_law_248 (q := 249) rfl ?_
  refine v_aload_0 hG dL_law_249 (q := 250) rfl ?_
  refine v_iload_3 hG dL_law_250 (q := 251) rfl ?_
  refine v_iconst hG ci_1 dL_law_251 (q := 252) rfl ?_
  refine v_iadd hG dL_law_252 (q := 253) rfl ?_
  refine v_sld hG hX hn hi (k := 1) (by decide) rfl dL_law_253 (q := 254) rfl ?_
  refine v_cV1I hG cvX6_writer ml_RL_13 rfl kk_0 (w_X6_writer h1) (Nat.le_of_ble_eq_true rfl) dL_law_254 (q := 257) rfl ?_
  refine v_aload_2 hG dL_law_257 (q := 258) rfl ?_
  refine v_aload_0 hG dL_law_258 (q := 259) rfl ?_
  refine v_iload_3 hG dL_law_259 (q := 260) rfl ?_
  refine v_iconst hG ci_1 dL_law_260 (q := 261) rfl ?_
  refine v_iadd hG dL_law_261 (q := 262) rfl ?_
  refine v_sld hG hX hn hi (k := 1) (by decide) rfl dL_law_262 (q := 263) rfl ?_
  refine v_cV1I hG cvX7_writer ml_RL_17 rfl kk_59 (w_X7_writer h2) (Nat.le_of_ble_eq_true rfl) dL_law_263 (q := 266) rfl ?_
  exact v_icmp_eq hG dL_law_266 (tgt := 1784) rfl (q := 269) rfl (fun _ => kk M2 h3) (fun e => absurd rfl e)
theorem lc_1 (hG : Gd E mL_law G) (hX : Sc E G n xs) (hn : n ≤ 3072) (hi : i + 6 ≤ n) (hR : Rel M M) (kk : ∀ M', Rel M' M' → V E G 1784 (LL i) [] M') : V E G 271 (LL i) [] M := by
  obtain ⟨r, M1, M2, h1, h2, h3⟩ := bo_writerOf (xs (i + 1)) (xs (i + 2)) M hR
  unfold LL at kk ⊢
  refine v_aload_1 hG dL_law_271 (q := 272) rfl ?_
  refine v_aload_0 hG dL_law_272 (q := 273) rfl ?_
  refine v_iload_3 hG dL_law_273 (q := 274) rfl ?_
  refine v_iconst hG ci_1 dL_law_274 (q := 275) rfl ?_
  refine v_iadd hG dL_law_275 (q := 276) rfl ?_
  refine v_sld hG hX hn hi (k := 1) (by decide) rfl dL_law_276 (q := 277) rfl ?_
  refine v_aload_0 hG dL_law_277 (q := 278) rfl ?_
  refine v_iload_3 hG dL_law_278 (q := 279) rfl ?_
  refine v_iconst hG ci_2 dL_law_279 (q := 280) rfl ?_
  refine v_iadd hG dL_law_280 (q := 281) rfl ?_
  refine v_sld hG hX hn hi (k := 2) (by decide) rfl dL_law_281 (q := 282) rfl ?_
  refine v_cV2I hG cvX6_writerOf ml_RL_18 rfl kk_0 (w_X6_writerOf h1) (Nat.le_of_ble_eq_true rfl) dL_law_282 (q := 285) rfl ?_
  refine v_aload_2 hG dL_law_285 (q := 286) rfl ?_
  refine v_aload_0 hG dL_law_286 (q := 287) rfl ?_
  refine v_iload_3 hG dL_law_287 (q := 288) rfl ?_
  refine v_iconst hG ci_1 dL_law_288 (q := 289) rfl ?_
  refine v_iadd hG dL_law_289 (q := 290) rfl ?_
  refine v_sld hG hX hn hi (k := 1) (by decide) rfl dL_law_290 (q := 291) rfl ?_
  refine v_aload_0 hG dL_law_291 (q := 292) rfl ?_
  refine v_iload_3 hG dL_law_292 (q := 293) rfl ?_
  refine v_iconst hG ci_2 dL_law_293 (q := 294) rfl ?_
  refine v_iadd hG dL_law_294 (q := 295) rfl ?_
  refine v_sld hG hX hn hi (k := 2) (by decide) rfl dL_law_295 (q := 296) rfl ?_
  refine v_cV2I hG cvX7_writerOf ml_RL_22 rfl kk_59 (w_X7_writerOf h2) (Nat.le_of_ble_eq_true rfl) dL_law_296 (q := 299) rfl ?_
  exact v_icmp_eq hG dL_law_299 (tgt := 1784) rfl (q := 302) rfl (fun _ => kk M2 h3) (fun e => absurd rfl e)
theorem lc_2 (hG : Gd E mL_law G) (hX : Sc E G n xs) (hn : n ≤ 3072) (hi : i + 6 ≤ n) (hR : Rel M M) (kk : ∀ M', Rel M' M' → V E G 1784 (LL i) [] M') : V E G 304 (LL i) [] M := by
  obtain ⟨r, M1, M2, h1, h2, h3⟩ := bo_law (xs (i + 1)) (xs (i + 2)) (xs (i + 3)) M hR
  unfold LL at kk ⊢
  refine v_aload_1 hG dL_law_304 (q := 305) rfl ?_
  refine v_aload_0 hG dL_law_305 (q := 306) rfl ?_
  refine v_iload_3 hG dL_law_306 (q := 307) rfl ?_
  refine v_iconst hG ci_1 dL_law_307 (q := 308) rfl ?_
  refine v_iadd hG dL_law_308 (q := 309) rfl ?_
  refine v_sld hG hX hn hi (k := 1) (by decide) rfl dL_law_309 (q := 310) rfl ?_
  refine v_aload_0 hG dL_law_310 (q := 311) rfl ?_
  refine v_iload_3 hG dL_law_311 (q := 312) rfl ?_
  refine v_iconst hG ci_2 dL_law_312 (q := 313) rfl ?_
  refine v_iadd hG dL_law_313 (q := 314) rfl ?_
  refine v_sld hG hX hn hi (k := 2) (by decide) rfl dL_law_314 (q := 315) rfl ?_
  refine v_aload_0 hG dL_law_315 (q := 316) rfl ?_
  refine v_iload_3 hG dL_law_316 (q := 317) rfl ?_
  refine v_iconst hG ci_3 dL_law_317 (q := 318) rfl ?_
  refine v_iadd hG dL_law_318 (q := 319) rfl ?_
  refine v_sld hG hX hn hi (k := 3) (by decide) rfl dL_law_319 (q := 320) rfl ?_
  refine v_cV3I hG cvX6_law ml_RL_23 rfl kk_0 (w_X6_law h1) (Nat.le_of_ble_eq_true rfl) dL_law_320 (q := 323) rfl ?_
  refine v_aload_2 hG dL_law_323 (q := 324) rfl ?_
  refine v_aload_0 hG dL_law_324 (q := 325) rfl ?_
  refine v_iload_3 hG dL_law_325 (q := 326) rfl ?_
  refine v_iconst hG ci_1 dL_law_326 (q := 327) rfl ?_
  refine v_iadd hG dL_law_327 (q := 328) rfl ?_
  refine v_sld hG hX hn hi (k := 1) (by decide) rfl dL_law_328 (q := 329) rfl ?_
  refine v_aload_0 hG dL_law_329 (q := 330) rfl ?_
  refine v_iload_3 hG dL_law_330 (q := 331) rfl ?_
  refine v_iconst hG ci_2 dL_law_331 (q := 332) rfl ?_
  refine v_iadd hG dL_law_332 (q := 333) rfl ?_
  refine v_sld hG hX hn hi (k := 2) (by decide) rfl dL_law_333 (q := 334) rfl ?_
  refine v_aload_0 hG dL_law_334 (q := 335) rfl ?_
  refine v_iload_3 hG dL_law_335 (q := 336) rfl ?_
  refine v_iconst hG ci_3 dL_law_336 (q := 337) rfl ?_
  refine v_iadd hG dL_law_337 (q := 338) rfl ?_
  refine v_sld hG hX hn hi (k := 3) (by decide) rfl dL_law_338 (q := 339) rfl ?_
  refine v_cV3I hG cvX7_law ml_RL_27 rfl kk_59 (w_X7_law h2) (Nat.le_of_ble_eq_true rfl) dL_law_339 (q := 342) rfl ?_
  exact v_icmp_eq hG dL_law_342 (tgt := 1784) rfl (q := 345) rfl (fun _ => kk M2 h3) (fun e => absurd rfl e)
theorem lc_3 (hG : Gd E mL_law G) (hX : Sc E G n xs) (hn : n ≤ 3072) (hi : i + 6 ≤ n) (hR : Rel M M) (kk : ∀ M', Rel M' M' → V E G 1784 (LL i) [] M') : V E G 347 (LL i) [] M := by
  obtain ⟨r, M1, M2, h1, h2, h3⟩ := bo_person (xs (i + 1)) M hR
  unfold LL at kk ⊢
  refine v_aload_1 hG dL_law_347 (q := 348) rfl ?_
  refine v_aload_0 hG dL_law_348 (q := 349) rfl ?_
  refine v_iload_3 hG dL_law_349 (q := 350) rfl ?_
  refine v_iconst hG ci_1 dL_law_350 (q := 351) rfl ?_
  refine v_iadd hG dL_law_351 (q := 352) rfl ?_
  refine v_sld hG hX hn hi (k := 1) (by decide) rfl dL_law_352 (q := 353) rfl ?_
  refine v_cV1I hG cvX6_person ml_RL_28 rfl kk_0 (w_X6_person h1) (Nat.le_of_ble_eq_true rfl) dL_law_353 (q := 356) rfl ?_
  refine v_aload_2 hG dL_law_356 (q := 357) rfl ?_
  refine v_aload_0 hG dL_law_357 (q := 358) rfl ?_
  refine v_iload_3 hG dL_law_358 (q := 359) rfl ?_
  refine v_iconst hG ci_1 dL_law_359 (q := 360) rfl ?_
  refine v_iadd hG dL_law_360 (q := 361) rfl ?_
  refine v_sld hG hX hn hi (k := 1) (by decide) rfl dL_law_361 (q := 362) rfl ?_
  refine v_cV1I hG cvX7_person ml_RL_31 rfl kk_59 (w_X7_person h2) (Nat.le_of_ble_eq_true rfl) dL_law_362 (q := 365) rfl ?_
  exact v_icmp_eq hG dL_law_365 (tgt := 1784) rfl (q := 368) rfl (fun _ => kk M2 h3) (fun e => absurd rfl e)
theorem lc_4 (hG : Gd E mL_law G) (hX : Sc E G n xs) (hn : n ≤ 3072) (hi : i + 6 ≤ n) (hR : Rel M M) (kk : ∀ M', Rel M' M' → V E G 1784 (LL i) [] M') : V E G 370 (LL i) [] M := by
  obtain ⟨r, M1, M2, h1, h2, h3⟩ := bo_of (xs (i + 1)) (xs (i + 2)) M hR
  unfold LL at kk ⊢
  refine v_aload_1 hG dL_law_370 (q := 371) rfl ?_
  refine v_aload_0 hG dL_law_371 (q := 372) rfl ?_
  refine v_iload_3 hG dL_law_372 (q := 373) rfl ?_
  refine v_iconst hG ci_1 dL_law_373 (q := 374) rfl ?_
  refine v_iadd hG dL_law_374 (q := 375) rfl ?_
  refine v_sld hG hX hn hi (k := 1) (by decide) rfl dL_law_375 (q := 376) rfl ?_
  refine v_aload_0 hG dL_law_376 (q := 377) rfl ?_
  refine v_iload_3 hG dL_law_377 (q := 378) rfl ?_
  refine v_iconst hG ci_2 dL_law_378 (q := 379) rfl ?_
  refine v_iadd hG dL_law_379 (q := 380) rfl ?_
  refine v_sld hG hX hn hi (k := 2) (by decide) rfl dL_law_380 (q := 381) rfl ?_
  refine v_cV2I hG cvX6_of ml_RL_32 rfl kk_0 (w_X6_of h1) (Nat.le_of_ble_eq_true rfl) dL_law_381 (q := 384) rfl ?_
  refine v_aload_2 hG dL_law_384 (q := 385) rfl ?_
  refine v_aload_0 hG dL_law_385 (q := 386) rfl ?_
  refine v_iload_3 hG dL_law_386 (q := 387) rfl ?_
  refine v_iconst hG ci_1 dL_law_387 (q := 388) rfl ?_
  refine v_iadd hG dL_law_388 (q := 389) rfl ?_
  refine v_sld hG hX hn hi (k := 1) (by decide) rfl dL_law_389 (q := 390) rfl ?_
  refine v_aload_0 hG dL_law_390 (q := 391) rfl ?_
  refine v_iload_3 hG dL_law_391 (q := 392) rfl ?_
  refine v_iconst hG ci_2 dL_law_392 (q := 393) rfl ?_
  refine v_iadd hG dL_law_393 (q := 394) rfl ?_
  refine v_sld hG hX hn hi (k := 2) (by decide) rfl dL_law_394 (q := 395) rfl ?_
  refine v_cV2I hG cvX7_of ml_RL_35 rfl kk_59 (w_X7_of h2) (Nat.le_of_ble_eq_true rfl) dL_law_395 (q := 398) rfl ?_
  exact v_icmp_eq hG dL_law_398 (tgt := 1784) rfl (q := 401) rfl (fun _ => kk M2 h3) (fun e => absurd rfl e)
theorem lc_5 (hG : Gd E mL_law G) (hX : Sc E G n xs) (hn : n ≤ 3072) (hi : i + 6 ≤ n) (hR : Rel M M) (kk : ∀ M', Rel M' M' → V E G 1784 (LL i) [] M') : V E G 403 (LL i) [] M := by
  obtain ⟨r, M1, M2, h1, h2, h3⟩ := bo_change (xs (i + 1)) (xs (i + 2)) (xs (i + 3)) M hR
  unfold LL at kk ⊢
  refine v_aload_1 hG dL_law_403 (q := 404) rfl ?_
  refine v_aload_0 hG dL_law_404 (q := 405) rfl ?_
  refine v_iload_3 hG dL_law_405 (q := 406) rfl ?_
  refine v_iconst hG ci_1 dL_law_406 (q := 407) rfl ?_
  refine v_iadd hG dL_law_407 (q := 408) rfl ?_
  refine v_sld hG hX hn hi (k := 1) (by decide) rfl dL_law_408 (q := 409) rfl ?_
  refine v_aload_0 hG dL_law_409 (q := 410) rfl ?_
  refine v_iload_3 hG dL_law_410 (q := 411) rfl ?_
  refine v_iconst hG ci_2 dL_law_411 (q := 412) rfl ?_
  refine v_iadd hG dL_law_412 (q := 413) rfl ?_
  refine v_sld hG hX hn hi (k := 2) (by decide) rfl dL_law_413 (q := 414) rfl ?_
  refine v_aload_0 hG dL_law_414 (q := 415) rfl ?_
  refine v_iload_3 hG dL_law_415 (q := 416) rfl ?_
  refine v_iconst hG ci_3 dL_law_416 (q := 417) rfl ?_
  refine v_iadd hG dL_law_417 (q := 418) rfl ?_
  refine v_sld hG hX hn hi (k := 3) (by decide) rfl dL_law_418 (q := 419) rfl ?_
  refine v_cV3I hG cvX6_change ml_RL_36 rfl kk_0 (w_X6_change h1) (Nat.le_of_ble_eq_true rfl) dL_law_419 (q := 422) rfl ?_
  refine v_aload_2 hG dL_law_422 (q := 423) rfl ?_
  refine v_aload_0 hG dL_law_423 (q := 424) rfl ?_
  refine v_iload_3 hG dL_law_424 (q := 425) rfl ?_
  refine v_iconst hG ci_1 dL_law_425 (q := 426) rfl ?_
  refine v_iadd hG dL_law_426 (q := 427) rfl ?_
  refine v_sld hG hX hn hi (k := 1) (by decide) rfl dL_law_427 (q := 428) rfl ?_
  refine v_aload_0 hG dL_law_428 (q := 429) rfl ?_
  refine v_iload_3 hG dL_law_429 (q := 430) rfl ?_
  refine v_iconst hG ci_2 dL_law_430 (q := 431) rfl ?_
  refine v_iadd hG dL_law_431 (q := 432) rfl ?_
  refine v_sld hG hX hn hi (k := 2) (by decide) rfl dL_law_432 (q := 433) rfl ?_
  refine v_aload_0 hG dL_law_433 (q := 434) rfl ?_
  refine v_iload_3 hG dL_law_434 (q := 435) rfl ?_
  refine v_iconst hG ci_3 dL_law_435 (q := 436) rfl ?_
  refine v_iadd hG dL_law_436 (q := 437) rfl ?_
  refine v_sld hG hX hn hi (k := 3) (by decide) rfl dL_law_437 (q := 438) rfl ?_
  refine v_cV3I hG cvX7_change ml_RL_39 rfl kk_59 (w_X7_change h2) (Nat.le_of_ble_eq_true rfl) dL_law_438 (q := 441) rfl ?_
  exact v_icmp_eq hG dL_law_441 (tgt := 1784) rfl (q := 444) rfl (fun _ => kk M2 h3) (fun e => absurd rfl e)
theorem lc_6 (hG : Gd E mL_law G) (hX : Sc E G n xs) (hn : n ≤ 3072) (hi : i + 6 ≤ n) (hR : Rel M M) (kk : ∀ M', Rel M' M' → V E G 1784 (LL i) [] M') : V E G 446 (LL i) [] M := by
  by_cases hz : xs (i + 3) = 0
  · skip
    obtain ⟨r, M1, M2, h1, h2, h3⟩ := bo_tie (xs (i + 1)) (xs (i + 2)) 0 M hR
    unfold LL at kk ⊢
    refine v_aload_1 hG dL_law_446 (q := 447) rfl ?_
    refine v_aload_0 hG dL_law_447 (q := 448) rfl ?_
    refine v_iload_3 hG dL_law_448 (q := 449) rfl ?_
    refine v_iconst hG ci_1 dL_law_449 (q := 450) rfl ?_
    refine v_iadd hG dL_law_450 (q := 451) rfl ?_
    refine v_sld hG hX hn hi (k := 1) (by decide) rfl dL_law_451 (q := 452) rfl ?_
    refine v_aload_0 hG dL_law_452 (q := 453) rfl ?_
    refine v_iload_3 hG dL_law_453 (q := 454) rfl ?_
    refine v_iconst hG ci_2 dL_law_454 (q := 455) rfl ?_
    refine v_iadd hG dL_law_455 (q := 456) rfl ?_
    refine v_sld hG hX hn hi (k := 2) (by decide) rfl dL_law_456 (q := 457) rfl ?_
    refine v_aload_0 hG dL_law_457 (q := 458) rfl ?_
    refine v_iload_3 hG dL_law_458 (q := 459) rfl ?_
    refine v_iconst hG ci_3 dL_law_459 (q := 460) rfl ?_
    refine v_iadd hG dL_law_460 (q := 461) rfl ?_
    refine v_sld hG hX hn hi (k := 3) (by decide) rfl dL_law_461 (q := 462) rfl ?_
    refine v_if_eq hG dL_law_462 (tgt := 469) rfl (q := 465) rfl (fun _ => ?_) (fun e => absurd hz e)
    refine v_iconst hG ci_0 dL_law_469 (q := 470) rfl ?_
    refine v_cV3I hG cvX6_tie ml_RL_40 rfl kk_0 (w_X6_tie h1) (Nat.le_of_ble_eq_true rfl) dL_law_470 (q := 473) rfl ?_
    refine v_aload_2 hG dL_law_473 (q := 474) rfl ?_
    refine v_aload_0 hG dL_law_474 (q := 475) rfl ?_
    refine v_iload_3 hG dL_law_475 (q := 476) rfl ?_
    refine v_iconst hG ci_1 dL_law_476 (q := 477) rfl ?_
    refine v_iadd hG dL_law_477 (q := 478) rfl ?_
    refine v_sld hG hX hn hi (k := 1) (by decide) rfl dL_law_478 (q := 479) rfl ?_
    refine v_aload_0 hG dL_law_479 (q := 480) rfl ?_
    refine v_iload_3 hG dL_law_480 (q := 481) rfl ?_
    refine v_iconst hG ci_2 dL_law_481 (q := 482) rfl ?_
    refine v_iadd hG dL_law_482 (q := 483) rfl ?_
    refine v_sld hG hX hn hi (k := 2) (by decide) rfl dL_law_483 (q := 484) rfl ?_
    refine v_aload_0 hG dL_law_484 (q := 485) rfl ?_
    refine v_iload_3 hG dL_law_485 (q := 486) rfl ?_
    refine v_iconst hG ci_3 dL_law_486 (q := 487) rfl ?_
    refine v_iadd hG dL_law_487 (q := 488) rfl ?_
    refine v_sld hG hX hn hi (k := 3) (by decide) rfl dL_law_488 (q := 489) rfl ?_
    refine v_if_eq hG dL_law_489 (tgt := 496) rfl (q := 492) rfl (fun _ => ?_) (fun e => absurd hz e)
    refine v_iconst hG ci_0 dL_law_496 (q := 497) rfl ?_
    refine v_cV3I hG cvX7_tie ml_RL_44 rfl kk_59 (w_X7_tie h2) (Nat.le_of_ble_eq_true rfl) dL_law_497 (q := 500) rfl ?_
    exact v_icmp_eq hG dL_law_500 (tgt := 1784) rfl (q := 503) rfl (fun _ => kk M2 h3) (fun e => absurd rfl e)
  · skip
    obtain ⟨r, M1, M2, h1, h2, h3⟩ := bo_tie (xs (i + 1)) (xs (i + 2)) 1 M hR
    unfold LL at kk ⊢
    refine v_aload_1 hG dL_law_446 (q := 447) rfl ?_
    refine v_aload_0 hG dL_law_447 (q := 448) rfl ?_
    refine v_iload_3 hG dL_law_448 (q := 449) rfl ?_
    refine v_iconst hG ci_1 dL_law_449 (q := 450) rfl ?_
    refine v_iadd hG dL_law_450 (q := 451) rfl ?_
    refine v_sld hG hX hn hi (k := 1) (by decide) rfl dL_law_451 (q := 452) rfl ?_
    refine v_aload_0 hG dL_law_452 (q := 453) rfl ?_
    refine v_iload_3 hG dL_law_453 (q := 454) rfl ?_
    refine v_iconst hG ci_2 dL_law_454 (q := 455) rfl ?_
    refine v_iadd hG dL_law_455 (q := 456) rfl ?_
    refine v_sld hG hX hn hi (k := 2) (by decide) rfl dL_law_456 (q := 457) rfl ?_
    refine v_aload_0 hG dL_law_457 (q := 458) rfl ?_
    refine v_iload_3 hG dL_law_458 (q := 459) rfl ?_
    refine v_iconst hG ci_3 dL_law_459 (q := 460) rfl ?_
    refine v_iadd hG dL_law_460 (q := 461) rfl ?_
    refine v_sld hG hX hn hi (k := 3) (by decide) rfl dL_law_461 (q := 462) rfl ?_
    refine v_if_eq hG dL_law_462 (tgt := 469) rfl (q := 465) rfl (fun e => absurd e hz) (fun _ => ?_)
    refine v_iconst hG ci_1 dL_law_465 (q := 466) rfl ?_
    refine v_goto hG dL_law_466 (tgt := 470) rfl ?_
    refine v_cV3I hG cvX6_tie ml_RL_40 rfl kk_0 (w_X6_tie h1) (Nat.le_of_ble_eq_true rfl) dL_law_470 (q := 473) rfl ?_
    refine v_aload_2 hG dL_law_473 (q := 474) rfl ?_
    refine v_aload_0 hG dL_law_474 (q := 475) rfl ?_
    refine v_iload_3 hG dL_law_475 (q := 476) rfl ?_
    refine v_iconst hG ci_1 dL_law_476 (q := 477) rfl ?_
    refine v_iadd hG dL_law_477 (q := 478) rfl ?_
    refine v_sld hG hX hn hi (k := 1) (by decide) rfl dL_law_478 (q := 479) rfl ?_
    refine v_aload_0 hG dL_law_479 (q := 480) rfl ?_
    refine v_iload_3 hG dL_law_480 (q := 481) rfl ?_
    refine v_iconst hG ci_2 dL_law_481 (q := 482) rfl ?_
    refine v_iadd hG dL_law_482 (q := 483) rfl ?_
    refine v_sld hG hX hn hi (k := 2) (by decide) rfl dL_law_483 (q := 484) rfl ?_
    refine v_aload_0 hG dL_law_484 (q := 485) rfl ?_
    refine v_iload_3 hG dL_law_485 (q := 486) rfl ?_
    refine v_iconst hG ci_3 dL_law_486 (q := 487) rfl ?_
    refine v_iadd hG dL_law_487 (q := 488) rfl ?_
    refine v_sld hG hX hn hi (k := 3) (by decide) rfl dL_law_488 (q := 489) rfl ?_
    refine v_if_eq hG dL_law_489 (tgt := 496) rfl (q := 492) rfl (fun e => absurd e hz) (fun _ => ?_)
    refine v_iconst hG ci_1 dL_law_492 (q := 493) rfl ?_
    refine v_goto hG dL_law_493 (tgt := 497) rfl ?_
    refine v_cV3I hG cvX7_tie ml_RL_44 rfl kk_59 (w_X7_tie h2) (Nat.le_of_ble_eq_true rfl) dL_law_497 (q := 500) rfl ?_
    exact v_icmp_eq hG dL_law_500 (tgt := 1784) rfl (q := 503) rfl (fun _ => kk M2 h3) (fun e => absurd rfl e)
theorem lc_7 (hG : Gd E mL_law G) (hX : Sc E G n xs) (hn : n ≤ 3072) (hi : i + 6 ≤ n) (hR : Rel M M) (kk : ∀ M', Rel M' M' → V E G 1784 (LL i) [] M') : V E G 505 (LL i) [] M := by
  obtain ⟨r, M1, M2, h1, h2, h3⟩ := bo_ties (xs (i + 1)) M hR
  unfold LL at kk ⊢
  refine v_aload_1 hG dL_law_505 (q := 506) rfl ?_
  refine v_aload_0 hG dL_law_506 (q := 507) rfl ?_
  refine v_iload_3 hG dL_law_507 (q := 508) rfl ?_
  refine v_iconst hG ci_1 dL_law_508 (q := 509) rfl ?_
  refine v_iadd hG dL_law_509 (q := 510) rfl ?_
  refine v_sld hG hX hn hi (k := 1) (by decide) rfl dL_law_510 (q := 511) rfl ?_
  refine v_cV1I hG cvX6_ties ml_RL_45 rfl kk_0 (w_X6_ties h1) (Nat.le_of_ble_eq_true rfl) dL_law_511 (q := 514) rfl ?_
  refine v_aload_2 hG dL_law_514 (q := 515) rfl ?_
  refine v_aload_0 hG dL_law_515 (q := 516) rfl ?_
  refine v_iload_3 hG dL_law_516 (q := 517) rfl ?_
  refine v_iconst hG ci_1 dL_law_517 (q := 518) rfl ?_
  refine v_iadd hG dL_law_518 (q := 519) rfl ?_
  refine v_sld hG hX hn hi (k := 1) (by decide) rfl dL_law_519 (q := 520) rfl ?_
  refine v_cV1I hG cvX7_ties ml_RL_48 rfl kk_59 (w_X7_ties h2) (Nat.le_of_ble_eq_true rfl) dL_law_520 (q := 523) rfl ?_
  exact v_icmp_eq hG dL_law_523 (tgt := 1784) rfl (q := 526) rfl (fun _ => kk M2 h3) (fun e => absurd rfl e)
theorem lc_8 (hG : Gd E mL_law G) (hX : Sc E G n xs) (hn : n ≤ 3072) (hi : i + 6 ≤ n) (hR : Rel M M) (kk : ∀ M', Rel M' M' → V E G 1784 (LL i) [] M') : V E G 528 (LL i) [] M := by
  obtain ⟨r, M1, M2, h1, h2, h3⟩ := bo_puts (xs (i + 1)) (xs (i + 2)) M hR
  unfold LL at kk ⊢
  refine v_aload_1 hG dL_law_528 (q := 529) rfl ?_
  refine v_aload_0 hG dL_law_529 (q := 530) rfl ?_
  refine v_iload_3 hG dL_law_530 (q := 531) rfl ?_
  refine v_iconst hG ci_1 dL_law_531 (q := 532) rfl ?_
  refine v_iadd hG dL_law_532 (q := 533) rfl ?_
  refine v_sld hG hX hn hi (k := 1) (by decide) rfl dL_law_533 (q := 534) rfl ?_
  refine v_aload_0 hG dL_law_534 (q := 535) rfl ?_
  refine v_iload_3 hG dL_law_535 (q := 536) rfl ?_
  refine v_iconst hG ci_2 dL_law_536 (q := 537) rfl ?_
  refine v_iadd hG dL_law_537 (q := 538) rfl ?_
  refine v_sld hG hX hn hi (k := 2) (by decide) rfl dL_law_538 (q := 539) rfl ?_
  refine v_cV2I hG cvX6_puts ml_RL_49 rfl kk_0 (w_X6_puts h1) (Nat.le_of_ble_eq_true rfl) dL_law_539 (q := 542) rfl ?_
  refine v_aload_2 hG dL_law_542 (q := 543) rfl ?_
  refine v_aload_0 hG dL_law_543 (q := 544) rfl ?_
  refine v_iload_3 hG dL_law_544 (q := 545) rfl ?_
  refine v_iconst hG ci_1 dL_law_545 (q := 546) rfl ?_
  refine v_iadd hG dL_law_546 (q := 547) rfl ?_
  refine v_sld hG hX hn hi (k := 1) (by decide) rfl dL_law_547 (q := 548) rfl ?_
  refine v_aload_0 hG dL_law_548 (q := 549) rfl ?_
  refine v_iload_3 hG dL_law_549 (q := 550) rfl ?_
  refine v_iconst hG ci_2 dL_law_550 (q := 551) rfl ?_
  refine v_iadd hG dL_law_551 (q := 552) rfl ?_
  refine v_sld hG hX hn hi (k := 2) (by decide) rfl dL_law_552 (q := 553) rfl ?_
  refine v_cV2I hG cvX7_puts ml_RL_52 rfl kk_59 (w_X7_puts h2) (Nat.le_of_ble_eq_true rfl) dL_law_553 (q := 556) rfl ?_
  exact v_icmp_eq hG dL_law_556 (tgt := 1784) rfl (q := 559) rfl (fun _ => kk M2 h3) (fun e => absurd rfl e)
theorem lc_9 (hG : Gd E mL_law G) (hX : Sc E G n xs) (hn : n ≤ 3072) (hi : i + 6 ≤ n) (hR : Rel M M) (kk : ∀ M', Rel M' M' → V E G 1784 (LL i) [] M') : V E G 561 (LL i) [] M := by
  obtain ⟨r, M1, M2, h1, h2, h3⟩ := bo_says (xs (i + 1)) M hR
  unfold LL at kk ⊢
  refine v_aload_1 hG dL_law_561 (q := 562) rfl ?_
  refine v_aload_0 hG dL_law_562 (q := 563) rfl ?_
  refine v_iload_3 hG dL_law_563 (q := 564) rfl ?_
  refine v_iconst hG ci_1 dL_law_564 (q := 565) rfl ?_
  refine v_iadd hG dL_law_565 (q := 566) rfl ?_
  refine v_sld hG hX hn hi (k := 1) (by decide) rfl dL_law_566 (q := 567) rfl ?_
  refine v_cV1I hG cvX6_says ml_RL_53 rfl kk_0 (w_X6_says h1) (Nat.le_of_ble_eq_true rfl) dL_law_567 (q := 570) rfl ?_
  refine v_aload_2 hG dL_law_570 (q := 571) rfl ?_
  refine v_aload_0 hG dL_law_571 (q := 572) rfl ?_
  refine v_iload_3 hG dL_law_572 (q := 573) rfl ?_
  refine v_iconst hG ci_1 dL_law_573 (q := 574) rfl ?_
  refine v_iadd hG dL_law_574 (q := 575) rfl ?_
  refine v_sld hG hX hn hi (k := 1) (by decide) rfl dL_law_575 (q := 576) rfl ?_
  refine v_cV1I hG cvX7_says ml_RL_56 rfl kk_59 (w_X7_says h2) (Nat.le_of_ble_eq_true rfl) dL_law_576 (q := 579) rfl ?_
  exact v_icmp_eq hG dL_law_579 (tgt := 1784) rfl (q := 582) rfl (fun _ => kk M2 h3) (fun e => absurd rfl e)
theorem lc_10 (hG : Gd E mL_law G) (hX : Sc E G n xs) (hn : n ≤ 3072) (hi : i + 6 ≤ n) (hR : Rel M M) (kk : ∀ M', Rel M' M' → V E G 1784 (LL i) [] M') : V E G 584 (LL i) [] M := by
  obtain ⟨r, M1, M2, h1, h2, h3⟩ := bo_read (xs (i + 1)) (xs (i + 2)) (xs (i + 3)) M hR
  unfold LL at kk ⊢
  refine v_aload_1 hG dL_law_584 (q := 585) rfl ?_
  refine v_aload_0 hG dL_law_585 (q := 586) rfl ?_
  refine v_iload_3 hG dL_law_586 (q := 587) rfl ?_
  refine v_iconst hG ci_1 dL_law_587 (q := 588) rfl ?_
  refine v_iadd hG dL_law_588 (q := 589) rfl ?_
  refine v_sld hG hX hn hi (k := 1) (by decide) rfl dL_law_589 (q := 590) rfl ?_
  refine v_aload_0 hG dL_law_590 (q := 591) rfl ?_
  refine v_iload_3 hG dL_law_591 (q := 592) rfl ?_
  refine v_iconst hG ci_2 dL_law_592 (q := 593) rfl ?_
  refine v_iadd hG dL_law_593 (q := 594) rfl ?_
  refine v_sld hG hX hn hi (k := 2) (by decide) rfl dL_law_594 (q := 595) rfl ?_
  refine v_aload_0 hG dL_law_595 (q := 596) rfl ?_
  refine v_iload_3 hG dL_law_596 (q := 597) rfl ?_
  refine v_iconst hG ci_3 dL_law_597 (q := 598) rfl ?_
  refine v_iadd hG dL_law_598 (q := 599) rfl ?_
  refine v_sld hG hX hn hi (k := 3) (by decide) rfl dL_law_599 (q := 600) rfl ?_
  refine v_cV3I hG cvX6_read ml_RL_57 rfl kk_0 (w_X6_read h1) (Nat.le_of_ble_eq_true rfl) dL_law_600 (q := 603) rfl ?_
  refine v_aload_2 hG dL_law_603 (q := 604) rfl ?_
  refine v_aload_0 hG dL_law_604 (q := 605) rfl ?_
  refine v_iload_3 hG dL_law_605 (q := 606) rfl ?_
  refine v_iconst hG ci_1 dL_law_606 (q := 607) rfl ?_
  refine v_iadd hG dL_law_607 (q := 608) rfl ?_
  refine v_sld hG hX hn hi (k := 1) (by decide) rfl dL_law_608 (q := 609) rfl ?_
  refine v_aload_0 hG dL_law_609 (q := 610) rfl ?_
  refine v_iload_3 hG dL_law_610 (q := 611) rfl ?_
  refine v_iconst hG ci_2 dL_law_611 (q := 612) rfl ?_
  refine v_iadd hG dL_law_612 (q := 613) rfl ?_
  refine v_sld hG hX hn hi (k := 2) (by decide) rfl dL_law_613 (q := 614) rfl ?_
  refine v_aload_0 hG dL_law_614 (q := 615) rfl ?_
  refine v_iload_3 hG dL_law_615 (q := 616) rfl ?_
  refine v_iconst hG ci_3 dL_law_616 (q := 617) rfl ?_
  refine v_iadd hG dL_law_617 (q := 618) rfl ?_
  refine v_sld hG hX hn hi (k := 3) (by decide) rfl dL_law_618 (q := 619) rfl ?_
  refine v_cV3I hG cvX7_read ml_RL_60 rfl kk_59 (w_X7_read h2) (Nat.le_of_ble_eq_true rfl) dL_law_619 (q := 622) rfl ?_
  exact v_icmp_eq hG dL_law_622 (tgt := 1784) rfl (q := 625) rfl (fun _ => kk M2 h3) (fun e => absurd rfl e)
theorem lc_11 (hG : Gd E mL_law G) (hX : Sc E G n xs) (hn : n ≤ 3072) (hi : i + 6 ≤ n) (hR : Rel M M) (kk : ∀ M', Rel M' M' → V E G 1784 (LL i) [] M') : V E G 627 (LL i) [] M := by
  obtain ⟨r, M1, M2, h1, h2, h3⟩ := bo_send (xs (i + 1)) (xs (i + 2)) (xs (i + 3)) M hR
  unfold LL at kk ⊢
  refine v_aload_1 hG dL_law_627 (q := 628) rfl ?_
  refine v_aload_0 hG dL_law_628 (q := 629) rfl ?_
  refine v_iload_3 hG dL_law_629 (q := 630) rfl ?_
  refine v_iconst hG ci_1 dL_law_630 (q := 631) rfl ?_
  refine v_iadd hG dL_law_631 (q := 632) rfl ?_
  refine v_sld hG hX hn hi (k := 1) (by decide) rfl dL_law_632 (q := 633) rfl ?_
  refine v_aload_0 hG dL_law_633 (q := 634) rfl ?_
  refine v_iload_3 hG dL_law_634 (q := 635) rfl ?_
  refine v_iconst hG ci_2 dL_law_635 (q := 636) rfl ?_
  refine v_iadd hG dL_law_636 (q := 637) rfl ?_
  refine v_sld hG hX hn hi (k := 2) (by decide) rfl dL_law_637 (q := 638) rfl ?_
  refine v_aload_0 hG dL_law_638 (q := 639) rfl ?_
  refine v_iload_3 hG dL_law_639 (q := 640) rfl ?_
  refine v_iconst hG ci_3 dL_law_640 (q := 641) rfl ?_
  refine v_iadd hG dL_law_641 (q := 642) rfl ?_
  refine v_sld hG hX hn hi (k := 3) (by decide) rfl dL_law_642 (q := 643) rfl ?_
  refine v_cV3I hG cvX6_send ml_RL_61 rfl kk_0 (w_X6_send h1) (Nat.le_of_ble_eq_true rfl) dL_law_643 (q := 646) rfl ?_
  refine v_aload_2 hG dL_law_646 (q := 647) rfl ?_
  refine v_aload_0 hG dL_law_647 (q := 648) rfl ?_
  refine v_iload_3 hG dL_law_648 (q := 649) rfl ?_
  refine v_iconst hG ci_1 dL_law_649 (q := 650) rfl ?_
  refine v_iadd hG dL_law_650 (q := 651) rfl ?_
  refine v_sld hG hX hn hi (k := 1) (by decide) rfl dL_law_651 (q := 652) rfl ?_
  refine v_aload_0 hG dL_law_652 (q := 653) rfl ?_
  refine v_iload_3 hG dL_law_653 (q := 654) rfl ?_
  refine v_iconst hG ci_2 dL_law_654 (q := 655) rfl ?_
  refine v_iadd hG dL_law_655 (q := 656) rfl ?_
  refine v_sld hG hX hn hi (k := 2) (by decide) rfl dL_law_656 (q := 657) rfl ?_
  refine v_aload_0 hG dL_law_657 (q := 658) rfl ?_
  refine v_iload_3 hG dL_law_658 (q := 659) rfl ?_
  refine v_iconst hG ci_3 dL_law_659 (q := 660) rfl ?_
  refine v_iadd hG dL_law_660 (q := 661) rfl ?_
  refine v_sld hG hX hn hi (k := 3) (by decide) rfl dL_law_661 (q := 662) rfl ?_
  refine v_cV3I hG cvX7_send ml_RL_64 rfl kk_59 (w_X7_send h2) (Nat.le_of_ble_eq_true rfl) dL_law_662 (q := 665) rfl ?_
  exact v_icmp_eq hG dL_law_665 (tgt := 1784) rfl (q := 668) rfl (fun _ => kk M2 h3) (fun e => absurd rfl e)
theorem lc_12 (hG : Gd E mL_law G) (hX : Sc E G n xs) (hn : n ≤ 3072) (hi : i + 6 ≤ n) (hR : Rel M M) (kk : ∀ M', Rel M' M' → V E G 1784 (LL i) [] M') : V E G 670 (LL i) [] M := by
  obtain ⟨r, M1, M2, h1, h2, h3⟩ := bo_years (xs (i + 1)) M hR
  unfold LL at kk ⊢
  refine v_aload_1 hG dL_law_670 (q := 671) rfl ?_
  refine v_aload_0 hG dL_law_671 (q := 672) rfl ?_
  refine v_iload_3 hG dL_law_672 (q := 673) rfl ?_
  refine v_iconst hG ci_1 dL_law_673 (q := 674) rfl ?_
  refine v_iadd hG dL_law_674 (q := 675) rfl ?_
  refine v_sld hG hX hn hi (k := 1) (by decide) rfl dL_law_675 (q := 676) rfl ?_
  refine v_cV1I hG cvX6_years ml_RL_65 rfl kk_0 (w_X6_years h1) (Nat.le_of_ble_eq_true rfl) dL_law_676 (q := 679) rfl ?_
  refine v_aload_2 hG dL_law_679 (q := 680) rfl ?_
  refine v_aload_0 hG dL_law_680 (q := 681) rfl ?_
  refine v_iload_3 hG dL_law_681 (q := 682) rfl ?_
  refine v_iconst hG ci_1 dL_law_682 (q := 683) rfl ?_
  refine v_iadd hG dL_law_683 (q := 684) rfl ?_
  refine v_sld hG hX hn hi (k := 1) (by decide) rfl dL_law_684 (q := 685) rfl ?_
  refine v_cV1I hG cvX7_years ml_RL_68 rfl kk_59 (w_X7_years h2) (Nat.le_of_ble_eq_true rfl) dL_law_685 (q := 688) rfl ?_
  exact v_icmp_eq hG dL_law_688 (tgt := 1784) rfl (q := 691) rfl (fun _ => kk M2 h3) (fun e => absurd rfl e)
theorem lc_13 (hG : Gd E mL_law G) (hX : Sc E G n xs) (hn : n ≤ 3072) (hi : i + 6 ≤ n) (hR : Rel M M) (kk : ∀ M', Rel M' M' → V E G 1784 (LL i) [] M') : V E G 693 (LL i) [] M := by
  obtain ⟨r, M1, M2, h1, h2, h3⟩ := bo_now (xs (i + 1)) M hR
  unfold LL at kk ⊢
  refine v_aload_1 hG dL_law_693 (q := 694) rfl ?_
  refine v_aload_0 hG dL_law_694 (q := 695) rfl ?_
  refine v_iload_3 hG dL_law_695 (q := 696) rfl ?_
  refine v_iconst hG ci_1 dL_law_696 (q := 697) rfl ?_
  refine v_iadd hG dL_law_697 (q := 698) rfl ?_
  refine v_sld hG hX hn hi (k := 1) (by decide) rfl dL_law_698 (q := 699) rfl ?_
  refine v_cV1I hG cvX6_now ml_RL_69 rfl kk_0 (w_X6_now h1) (Nat.le_of_ble_eq_true rfl) dL_law_699 (q := 702) rfl ?_
  refine v_aload_2 hG dL_law_702 (q := 703) rfl ?_
  refine v_aload_0 hG dL_law_703 (q := 704) rfl ?_
  refine v_iload_3 hG dL_law_704 (q := 705) rfl ?_
  refine v_iconst hG ci_1 dL_law_705 (q := 706) rfl ?_
  refine v_iadd hG dL_law_706 (q := 707) rfl ?_
  refine v_sld hG hX hn hi (k := 1) (by decide) rfl dL_law_707 (q := 708) rfl ?_
  refine v_cV1I hG cvX7_now ml_RL_72 rfl kk_59 (w_X7_now h2) (Nat.le_of_ble_eq_true rfl) dL_law_708 (q := 711) rfl ?_
  exact v_icmp_eq hG dL_law_711 (tgt := 1784) rfl (q := 714) rfl (fun _ => kk M2 h3) (fun e => absurd rfl e)
theorem lc_14 (hG : Gd E mL_law G) (hX : Sc E G n xs) (hn : n ≤ 3072) (hi : i + 6 ≤ n) (hR : Rel M M) (kk : ∀ M', Rel M' M' → V E G 1784 (LL i) [] M') : V E G 716 (LL i) [] M := by
  obtain ⟨r, M1, M2, h1, h2, h3⟩ := bo_who (xs (i + 1)) M hR
  unfold LL at kk ⊢
  refine v_aload_1 hG dL_law_716 (q := 717) rfl ?_
  refine v_aload_0 hG dL_law_717 (q := 718) rfl ?_
  refine v_iload_3 hG dL_law_718 (q := 719) rfl ?_
  refine v_iconst hG ci_1 dL_law_719 (q := 720) rfl ?_
  refine v_iadd hG dL_law_720 (q := 721) rfl ?_
  refine v_sld hG hX hn hi (k := 1) (by decide) rfl dL_law_721 (q := 722) rfl ?_
  refine v_cV1I hG cvX6_who ml_RL_73 rfl kk_0 (w_X6_who h1) (Nat.le_of_ble_eq_true rfl) dL_law_722 (q := 725) rfl ?_
  refine v_aload_2 hG dL_law_725 (q := 726) rfl ?_
  refine v_aload_0 hG dL_law_726 (q := 727) rfl ?_
  refine v_iload_3 hG dL_law_727 (q := 728) rfl ?_
  refine v_iconst hG ci_1 dL_law_728 (q := 729) rfl ?_
  refine v_iadd hG dL_law_729 (q := 730) rfl ?_
  refine v_sld hG hX hn hi (k := 1) (by decide) rfl dL_law_730 (q := 731) rfl ?_
  refine v_cV1I hG cvX7_who ml_RL_76 rfl kk_59 (w_X7_who h2) (Nat.le_of_ble_eq_true rfl) dL_law_731 (q := 734) rfl ?_
  exact v_icmp_eq hG dL_law_734 (tgt := 1784) rfl (q := 737) rfl (fun _ => kk M2 h3) (fun e => absurd rfl e)
theorem lc_15 (hG : Gd E mL_law G) (hX : Sc E G n xs) (hn : n ≤ 3072) (hi : i + 6 ≤ n) (hR : Rel M M) (kk : ∀ M', Rel M' M' → V E G 1784 (LL i) [] M') : V E G 739 (LL i) [] M := by
  obtain ⟨r, M1, M2, h1, h2, h3⟩ := bo_ahead (xs (i + 1)) (xs (i + 2)) M hR
  unfold LL at kk ⊢
  refine v_aload_1 hG dL_law_739 (q := 740) rfl ?_
  refine v_aload_0 hG dL_law_740 (q := 741) rfl ?_
  refine v_iload_3 hG dL_law_741 (q := 742) rfl ?_
  refine v_iconst hG ci_1 dL_law_742 (q := 743) rfl ?_
  refine v_iadd hG dL_law_743 (q := 744) rfl ?_
  refine v_sld hG hX hn hi (k := 1) (by decide) rfl dL_law_744 (q := 745) rfl ?_
  refine v_aload_0 hG dL_law_745 (q := 746) rfl ?_
  refine v_iload_3 hG dL_law_746 (q := 747) rfl ?_
  refine v_iconst hG ci_2 dL_law_747 (q := 748) rfl ?_
  refine v_iadd hG dL_law_748 (q := 749) rfl ?_
  refine v_sld hG hX hn hi (k := 2) (by decide) rfl dL_law_749 (q := 750) rfl ?_
  refine v_cV2I hG cvX6_ahead ml_RL_77 rfl kk_0 (w_X6_ahead h1) (Nat.le_of_ble_eq_true rfl) dL_law_750 (q := 753) rfl ?_
  refine v_aload_2 hG dL_law_753 (q := 754) rfl ?_
  refine v_aload_0 hG dL_law_754 (q := 755) rfl ?_
  refine v_iload_3 hG dL_law_755 (q := 756) rfl ?_
  refine v_iconst hG ci_1 dL_law_756 (q := 757) rfl ?_
  refine v_iadd hG dL_law_757 (q := 758) rfl ?_
  refine v_sld hG hX hn hi (k := 1) (by decide) rfl dL_law_758 (q := 759) rfl ?_
  refine v_aload_0 hG dL_law_759 (q := 760) rfl ?_
  refine v_iload_3 hG dL_law_760 (q := 761) rfl ?_
  refine v_iconst hG ci_2 dL_law_761 (q := 762) rfl ?_
  refine v_iadd hG dL_law_762 (q := 763) rfl ?_
  refine v_sld hG hX hn hi (k := 2) (by decide) rfl dL_law_763 (q := 764) rfl ?_
  refine v_cV2I hG cvX7_ahead ml_RL_80 rfl kk_59 (w_X7_ahead h2) (Nat.le_of_ble_eq_true rfl) dL_law_764 (q := 767) rfl ?_
  exact v_icmp_eq hG dL_law_767 (tgt := 1784) rfl (q := 770) rfl (fun _ => kk M2 h3) (fun e => absurd rfl e)
theorem lc_16 (hG : Gd E mL_law G) (hX : Sc E G n xs) (hn : n ≤ 3072) (hi : i + 6 ≤ n) (hR : Rel M M) (kk : ∀ M', Rel M' M' → V E G 1784 (LL i) [] M') : V E G 772 (LL i) [] M := by
  obtain ⟨r, M1, M2, h1, h2, h3⟩ := bo_when (xs (i + 1)) (xs (i + 2)) M hR
  unfold LL at kk ⊢
  refine v_aload_1 hG dL_law_772 (q := 773) rfl ?_
  refine v_aload_0 hG dL_law_773 (q := 774) rfl ?_
  refine v_iload_3 hG dL_law_774 (q := 775) rfl ?_
  refine v_iconst hG ci_1 dL_law_775 (q := 776) rfl ?_
  refine v_iadd hG dL_law_776 (q := 777) rfl ?_
  refine v_sld hG hX hn hi (k := 1) (by decide) rfl dL_law_777 (q := 778) rfl ?_
  refine v_aload_0 hG dL_law_778 (q := 779) rfl ?_
  refine v_iload_3 hG dL_law_779 (q := 780) rfl ?_
  refine v_iconst hG ci_2 dL_law_780 (q := 781) rfl ?_
  refine v_iadd hG dL_law_781 (q := 782) rfl ?_
  refine v_sld hG hX hn hi (k := 2) (by decide) rfl dL_law_782 (q := 783) rfl ?_
  refine v_cV2I hG cvX6_when ml_RL_81 rfl kk_0 (w_X6_when h1) (Nat.le_of_ble_eq_true rfl) dL_law_783 (q := 786) rfl ?_
  refine v_aload_2 hG dL_law_786 (q := 787) rfl ?_
  refine v_aload_0 hG dL_law_787 (q := 788) rfl ?_
  refine v_iload_3 hG dL_law_788 (q := 789) rfl ?_
  refine v_iconst hG ci_1 dL_law_789 (q := 790) rfl ?_
  refine v_iadd hG dL_law_790 (q := 791) rfl ?_
  refine v_sld hG hX hn hi (k := 1) (by decide) rfl dL_law_791 (q := 792) rfl ?_
  refine v_aload_0 hG dL_law_792 (q := 793) rfl ?_
  refine v_iload_3 hG dL_law_793 (q := 794) rfl ?_
  refine v_iconst hG ci_2 dL_law_794 (q := 795) rfl ?_
  refine v_iadd hG dL_law_795 (q := 796) rfl ?_
  refine v_sld hG hX hn hi (k := 2) (by decide) rfl dL_law_796 (q := 797) rfl ?_
  refine v_cV2I hG cvX7_when ml_RL_84 rfl kk_59 (w_X7_when h2) (Nat.le_of_ble_eq_true rfl) dL_law_797 (q := 800) rfl ?_
  exact v_icmp_eq hG dL_law_800 (tgt := 1784) rfl (q := 803) rfl (fun _ => kk M2 h3) (fun e => absurd rfl e)
theorem lc_17 (hG : Gd E mL_law G) (hX : Sc E G n xs) (hn : n ≤ 3072) (hi : i + 6 ≤ n) (hR : Rel M M) (kk : ∀ M', Rel M' M' → V E G 1784 (LL i) [] M') : V E G 805 (LL i) [] M := by
  obtain ⟨r, M1, M2, h1, h2, h3⟩ := bo_without (xs (i + 1)) (xs (i + 2)) (xs (i + 3)) M hR
  unfold LL at kk ⊢
  refine v_aload_1 hG dL_law_805 (q := 806) rfl ?_
  refine v_aload_0 hG dL_law_806 (q := 807) rfl ?_
  refine v_iload_3 hG dL_law_807 (q := 808) rfl ?_
  refine v_iconst hG ci_1 dL_law_808 (q := 809) rfl ?_
  refine v_iadd hG dL_law_809 (q := 810) rfl ?_
  refine v_sld hG hX hn hi (k := 1) (by decide) rfl dL_law_810 (q := 811) rfl ?_
  refine v_aload_0 hG dL_law_811 (q := 812) rfl ?_
  refine v_iload_3 hG dL_law_812 (q := 813) rfl ?_
  refine v_iconst hG ci_2 dL_law_813 (q := 814) rfl ?_
  refine v_iadd hG dL_law_814 (q := 815) rfl ?_
  refine v_sld hG hX hn hi (k := 2) (by decide) rfl dL_law_815 (q := 816) rfl ?_
  refine v_aload_0 hG dL_law_816 (q := 817) rfl ?_
  refine v_iload_3 hG dL_law_817 (q := 818) rfl ?_
  refine v_iconst hG ci_3 dL_law_818 (q := 819) rfl ?_
  refine v_iadd hG dL_law_819 (q := 820) rfl ?_
  refine v_sld hG hX hn hi (k := 3) (by decide) rfl dL_law_820 (q := 821) rfl ?_
  refine v_cV3I hG cvX6_without ml_RL_85 rfl kk_0 (w_X6_without h1) (Nat.le_of_ble_eq_true rfl) dL_law_821 (q := 824) rfl ?_
  refine v_aload_2 hG dL_law_824 (q := 825) rfl ?_
  refine v_aload_0 hG dL_law_825 (q := 826) rfl ?_
  refine v_iload_3 hG dL_law_826 (q := 827) rfl ?_
  refine v_iconst hG ci_1 dL_law_827 (q := 828) rfl ?_
  refine v_iadd hG dL_law_828 (q := 829) rfl ?_
  refine v_sld hG hX hn hi (k := 1) (by decide) rfl dL_law_829 (q := 830) rfl ?_
  refine v_aload_0 hG dL_law_830 (q := 831) rfl ?_
  refine v_iload_3 hG dL_law_831 (q := 832) rfl ?_
  refine v_iconst hG ci_2 dL_law_832 (q := 833) rfl ?_
  refine v_iadd hG dL_law_833 (q := 834) rfl ?_
  refine v_sld hG hX hn hi (k := 2) (by decide) rfl dL_law_834 (q := 835) rfl ?_
  refine v_aload_0 hG dL_law_835 (q := 836) rfl ?_
  refine v_iload_3 hG dL_law_836 (q := 837) rfl ?_
  refine v_iconst hG ci_3 dL_law_837 (q := 838) rfl ?_
  refine v_iadd hG dL_law_838 (q := 839) rfl ?_
  refine v_sld hG hX hn hi (k := 3) (by decide) rfl dL_law_839 (q := 840) rfl ?_
  refine v_cV3I hG cvX7_without ml_RL_88 rfl kk_59 (w_X7_without h2) (Nat.le_of_ble_eq_true rfl) dL_law_840 (q := 843) rfl ?_
  exact v_icmp_eq hG dL_law_843 (tgt := 1784) rfl (q := 846) rfl (fun _ => kk M2 h3) (fun e => absurd rfl e)
theorem lc_18 (hG : Gd E mL_law G) (hX : Sc E G n xs) (hn : n ≤ 3072) (hi : i + 6 ≤ n) (hR : Rel M M) (kk : ∀ M', Rel M' M' → V E G 1784 (LL i) [] M') : V E G 848 (LL i) [] M := by
  obtain ⟨r, M1, M2, h1, h2, h3⟩ := bo_added (xs (i + 1)) (xs (i + 2)) M hR
  unfold LL at kk ⊢
  refine v_aload_1 hG dL_law_848 (q := 849) rfl ?_
  refine v_aload_0 hG dL_law_849 (q := 850) rfl ?_
  refine v_iload_3 hG dL_law_850 (q := 851) rfl ?_
  refine v_iconst hG ci_1 dL_law_851 (q := 852) rfl ?_
  refine v_iadd hG dL_law_852 (q := 853) rfl ?_
  refine v_sld hG hX hn hi (k := 1) (by decide) rfl dL_law_853 (q := 854) rfl ?_
  refine v_aload_0 hG dL_law_854 (q := 855) rfl ?_
  refine v_iload_3 hG dL_law_855 (q := 856) rfl ?_
  refine v_iconst hG ci_2 dL_law_856 (q := 857) rfl ?_
  refine v_iadd hG dL_law_857 (q := 858) rfl ?_
  refine v_sld hG hX hn hi (k := 2) (by decide) rfl dL_law_858 (q := 859) rfl ?_
  refine v_cV2I hG cvX6_added ml_RL_89 rfl kk_0 (w_X6_added h1) (Nat.le_of_ble_eq_true rfl) dL_law_859 (q := 862) rfl ?_
  refine v_aload_2 hG dL_law_862 (q := 863) rfl ?_
  refine v_aload_0 hG dL_law_863 (q := 864) rfl ?_
  refine v_iload_3 hG dL_law_864 (q := 865) rfl ?_
  refine v_iconst hG ci_1 dL_law_865 (q := 866) rfl ?_
  refine v_iadd hG dL_law_866 (q := 867) rfl ?_
  refine v_sld hG hX hn hi (k := 1) (by decide) rfl dL_law_867 (q := 868) rfl ?_
  refine v_aload_0 hG dL_law_868 (q := 869) rfl ?_
  refine v_iload_3 hG dL_law_869 (q := 870) rfl ?_
  refine v_iconst hG ci_2 dL_law_870 (q := 871) rfl ?_
  refine v_iadd hG dL_law_871 (q := 872) rfl ?_
  refine v_sld hG hX hn hi (k := 2) (by decide) rfl dL_law_872 (q := 873) rfl ?_
  refine v_cV2I hG cvX7_added ml_RL_92 rfl kk_59 (w_X7_added h2) (Nat.le_of_ble_eq_true rfl) dL_law_873 (q := 876) rfl ?_
  exact v_icmp_eq hG dL_law_876 (tgt := 1784) rfl (q := 879) rfl (fun _ => kk M2 h3) (fun e => absurd rfl e)
theorem lc_19 (hG : Gd E mL_law G) (hX : Sc E G n xs) (hn : n ≤ 3072) (hi : i + 6 ≤ n) (hR : Rel M M) (kk : ∀ M', Rel M' M' → V E G 1784 (LL i) [] M') : V E G 881 (LL i) [] M := by
  obtain ⟨r, M1, M2, h1, h2, h3⟩ := bo_best (xs (i + 1)) (xs (i + 2)) (xs (i + 3)) M hR
  unfold LL at kk ⊢
  refine v_aload_1 hG dL_law_881 (q := 882) rfl ?_
  refine v_aload_0 hG dL_law_882 (q := 883) rfl ?_
  refine v_iload_3 hG dL_law_883 (q := 884) rfl ?_
  refine v_iconst hG ci_1 dL_law_884 (q := 885) rfl ?_
  refine v_iadd hG dL_law_885 (q := 886) rfl ?_
  refine v_sld hG hX hn hi (k := 1) (by decide) rfl dL_law_886 (q := 887) rfl ?_
  refine v_aload_0 hG dL_law_887 (q := 888) rfl ?_
  refine v_iload_3 hG dL_law_888 (q := 889) rfl ?_
  refine v_iconst hG ci_2 dL_law_889 (q := 890) rfl ?_
  refine v_iadd hG dL_law_890 (q := 891) rfl ?_
  refine v_sld hG hX hn hi (k := 2) (by decide) rfl dL_law_891 (q := 892) rfl ?_
  refine v_aload_0 hG dL_law_892 (q := 893) rfl ?_
  refine v_iload_3 hG dL_law_893 (q := 894) rfl ?_
  refine v_iconst hG ci_3 dL_law_894 (q := 895) rfl ?_
  refine v_iadd hG dL_law_895 (q := 896) rfl ?_
  refine v_sld hG hX hn hi (k := 3) (by decide) rfl dL_law_896 (q := 897) rfl ?_
  refine v_cV3I hG cvX6_best ml_RL_93 rfl kk_0 (w_X6_best h1) (Nat.le_of_ble_eq_true rfl) dL_law_897 (q := 900) rfl ?_
  refine v_aload_2 hG dL_law_900 (q := 901) rfl ?_
  refine v_aload_0 hG dL_law_901 (q := 902) rfl ?_
  refine v_iload_3 hG dL_law_902 (q := 903) rfl ?_
  refine v_iconst hG ci_1 dL_law_903 (q := 904) rfl ?_
  refine v_iadd hG dL_law_904 (q := 905) rfl ?_
  refine v_sld hG hX hn hi (k := 1) (by decide) rfl dL_law_905 (q := 906) rfl ?_
  refine v_aload_0 hG dL_law_906 (q := 907) rfl ?_
  refine v_iload_3 hG dL_law_907 (q := 908) rfl ?_
  refine v_iconst hG ci_2 dL_law_908 (q := 909) rfl ?_
  refine v_iadd hG dL_law_909 (q := 910) rfl ?_
  refine v_sld hG hX hn hi (k := 2) (by decide) rfl dL_law_910 (q := 911) rfl ?_
  refine v_aload_0 hG dL_law_911 (q := 912) rfl ?_
  refine v_iload_3 hG dL_law_912 (q := 913) rfl ?_
  refine v_iconst hG ci_3 dL_law_913 (q := 914) rfl ?_
  refine v_iadd hG dL_law_914 (q := 915) rfl ?_
  refine v_sld hG hX hn hi (k := 3) (by decide) rfl dL_law_915 (q := 916) rfl ?_
  refine v_cV3I hG cvX7_best ml_RL_96 rfl kk_59 (w_X7_best h2) (Nat.le_of_ble_eq_true rfl) dL_law_916 (q := 919) rfl ?_
  exact v_icmp_eq hG dL_law_919 (tgt := 1784) rfl (q := 922) rfl (fun _ => kk M2 h3) (fun e => absurd rfl e)
theorem lc_20 (hG : Gd E mL_law G) (hX : Sc E G n xs) (hn : n ≤ 3072) (hi : i + 6 ≤ n) (hR : Rel M M) (kk : ∀ M', Rel M' M' → V E G 1784 (LL i) [] M') : V E G 924 (LL i) [] M := by
  obtain ⟨r, M1, M2, h1, h2, h3⟩ := bo_bridge (xs (i + 1)) (xs (i + 2)) M hR
  unfold LL at kk ⊢
  refine v_aload_1 hG dL_law_924 (q := 925) rfl ?_
  refine v_aload_0 hG dL_law_925 (q := 926) rfl ?_
  refine v_iload_3 hG dL_law_926 (q := 927) rfl ?_
  refine v_iconst hG ci_1 dL_law_927 (q := 928) rfl ?_
  refine v_iadd hG dL_law_928 (q := 929) rfl ?_
  refine v_sld hG hX hn hi (k := 1) (by decide) rfl dL_law_929 (q := 930) rfl ?_
  refine v_aload_0 hG dL_law_930 (q := 931) rfl ?_
  refine v_iload_3 hG dL_law_931 (q := 932) rfl ?_
  refine v_iconst hG ci_2 dL_law_932 (q := 933) rfl ?_
  refine v_iadd hG dL_law_933 (q := 934) rfl ?_
  refine v_sld hG hX hn hi (k := 2) (by decide) rfl dL_law_934 (q := 935) rfl ?_
  refine v_cV2I hG cvX6_bridge ml_RL_97 rfl kk_0 (w_X6_bridge h1) (Nat.le_of_ble_eq_true rfl) dL_law_935 (q := 938) rfl ?_
  refine v_aload_2 hG dL_law_938 (q := 939) rfl ?_
  refine v_aload_0 hG dL_law_939 (q := 940) rfl ?_
  refine v_iload_3 hG dL_law_940 (q := 941) rfl ?_
  refine v_iconst hG ci_1 dL_law_941 (q := 942) rfl ?_
  refine v_iadd hG dL_law_942 (q := 943) rfl ?_
  refine v_sld hG hX hn hi (k := 1) (by decide) rfl dL_law_943 (q := 944) rfl ?_
  refine v_aload_0 hG dL_law_944 (q := 945) rfl ?_
  refine v_iload_3 hG dL_law_945 (q := 946) rfl ?_
  refine v_iconst hG ci_2 dL_law_946 (q := 947) rfl ?_
  refine v_iadd hG dL_law_947 (q := 948) rfl ?_
  refine v_sld hG hX hn hi (k := 2) (by decide) rfl dL_law_948 (q := 949) rfl ?_
  refine v_cV2I hG cvX7_bridge ml_RL_100 rfl kk_59 (w_X7_bridge h2) (Nat.le_of_ble_eq_true rfl) dL_law_949 (q := 952) rfl ?_
  exact v_icmp_eq hG dL_law_952 (tgt := 1784) rfl (q := 955) rfl (fun _ => kk M2 h3) (fun e => absurd rfl e)
theorem lc_21 (hG : Gd E mL_law G) (hX : Sc E G n xs) (hn : n ≤ 3072) (hi : i + 6 ≤ n) (hR : Rel M M) (kk : ∀ M', Rel M' M' → V E G 1784 (LL i) [] M') : V E G 957 (LL i) [] M := by
  obtain ⟨r, M1, M2, h1, h2, h3⟩ := bo_many (xs (i + 1)) (xs (i + 2)) M hR
  unfold LL at kk ⊢
  refine v_aload_1 hG dL_law_957 (q := 958) rfl ?_
  refine v_aload_0 hG dL_law_958 (q := 959) rfl ?_
  refine v_iload_3 hG dL_law_959 (q := 960) rfl ?_
  refine v_iconst hG ci_1 dL_law_960 (q := 961) rfl ?_
  refine v_iadd hG dL_law_961 (q := 962) rfl ?_
  refine v_sld hG hX hn hi (k := 1) (by decide) rfl dL_law_962 (q := 963) rfl ?_
  refine v_aload_0 hG dL_law_963 (q := 964) rfl ?_
  refine v_iload_3 hG dL_law_964 (q := 965) rfl ?_
  refine v_iconst hG ci_2 dL_law_965 (q := 966) rfl ?_
  refine v_iadd hG dL_law_966 (q := 967) rfl ?_
  refine v_sld hG hX hn hi (k := 2) (by decide) rfl dL_law_967 (q := 968) rfl ?_
  refine v_cV2I hG cvX6_many ml_RL_101 rfl kk_0 (w_X6_many h1) (Nat.le_of_ble_eq_true rfl) dL_law_968 (q := 971) rfl ?_
  refine v_aload_2 hG dL_law_971 (q := 972) rfl ?_
  refine v_aload_0 hG dL_law_972 (q := 973) rfl ?_
  refine v_iload_3 hG dL_law_973 (q := 974) rfl ?_
  refine v_iconst hG ci_1 dL_law_974 (q := 975) rfl ?_
  refine v_iadd hG dL_law_975 (q := 976) rfl ?_
  refine v_sld hG hX hn hi (k := 1) (by decide) rfl dL_law_976 (q := 977) rfl ?_
  refine v_aload_0 hG dL_law_977 (q := 978) rfl ?_
  refine v_iload_3 hG dL_law_978 (q := 979) rfl ?_
  refine v_iconst hG ci_2 dL_law_979 (q := 980) rfl ?_
  refine v_iadd hG dL_law_980 (q := 981) rfl ?_
  refine v_sld hG hX hn hi (k := 2) (by decide) rfl dL_law_981 (q := 982) rfl ?_
  refine v_cV2I hG cvX7_many ml_RL_104 rfl kk_59 (w_X7_many h2) (Nat.le_of_ble_eq_true rfl) dL_law_982 (q := 985) rfl ?_
  exact v_icmp_eq hG dL_law_985 (tgt := 1784) rfl (q := 988) rfl (fun _ => kk M2 h3) (fun e => absurd rfl e)
theorem lc_22 (hG : Gd E mL_law G) (hX : Sc E G n xs) (hn : n ≤ 3072) (hi : i + 6 ≤ n) (hR : Rel M M) (kk : ∀ M', Rel M' M' → V E G 1784 (LL i) [] M') : V E G 990 (LL i) [] M := by
  obtain ⟨r, M1, M2, h1, h2, h3⟩ := bo_said (xs (i + 1)) (xs (i + 2)) (xs (i + 3)) M hR
  unfold LL at kk ⊢
  refine v_aload_1 hG dL_law_990 (q := 991) rfl ?_
  refine v_aload_0 hG dL_law_991 (q := 992) rfl ?_
  refine v_iload_3 hG dL_law_992 (q := 993) rfl ?_
  refine v_iconst hG ci_1 dL_law_993 (q := 994) rfl ?_
  refine v_iadd hG dL_law_994 (q := 995) rfl ?_
  refine v_sld hG hX hn hi (k := 1) (by decide) rfl dL_law_995 (q := 996) rfl ?_
  refine v_aload_0 hG dL_law_996 (q := 997) rfl ?_
  refine v_iload_3 hG dL_law_997 (q := 998) rfl ?_
  refine v_iconst hG ci_2 dL_law_998 (q := 999) rfl ?_
  refine v_iadd hG dL_law_999 (q := 1000) rfl ?_
  refine v_sld hG hX hn hi (k := 2) (by decide) rfl dL_law_1000 (q := 1001) rfl ?_
  refine v_aload_0 hG dL_law_1001 (q := 1002) rfl ?_
  refine v_iload_3 hG dL_law_1002 (q := 1003) rfl ?_
  refine v_iconst hG ci_3 dL_law_1003 (q := 1004) rfl ?_
  refine v_iadd hG dL_law_1004 (q := 1005) rfl ?_
  refine v_sld hG hX hn hi (k := 3) (by decide) rfl dL_law_1005 (q := 1006) rfl ?_
  refine v_cV3I hG cvX6_said ml_RL_105 rfl kk_0 (w_X6_said h1) (Nat.le_of_ble_eq_true rfl) dL_law_1006 (q := 1009) rfl ?_
  refine v_aload_2 hG dL_law_1009 (q := 1010) rfl ?_
  refine v_aload_0 hG dL_law_1010 (q := 1011) rfl ?_
  refine v_iload_3 hG dL_law_1011 (q := 1012) rfl ?_
  refine v_iconst hG ci_1 dL_law_1012 (q := 1013) rfl ?_
  refine v_iadd hG dL_law_1013 (q := 1014) rfl ?_
  refine v_sld hG hX hn hi (k := 1) (by decide) rfl dL_law_1014 (q := 1015) rfl ?_
  refine v_aload_0 hG dL_law_1015 (q := 1016) rfl ?_
  refine v_iload_3 hG dL_law_1016 (q := 1017) rfl ?_
  refine v_iconst hG ci_2 dL_law_1017 (q := 1018) rfl ?_
  refine v_iadd hG dL_law_1018 (q := 1019) rfl ?_
  refine v_sld hG hX hn hi (k := 2) (by decide) rfl dL_law_1019 (q := 1020) rfl ?_
  refine v_aload_0 hG dL_law_1020 (q := 1021) rfl ?_
  refine v_iload_3 hG dL_law_1021 (q := 1022) rfl ?_
  refine v_iconst hG ci_3 dL_law_1022 (q := 1023) rfl ?_
  refine v_iadd hG dL_law_1023 (q := 1024) rfl ?_
  refine v_sld hG hX hn hi (k := 3) (by decide) rfl dL_law_1024 (q := 1025) rfl ?_
  refine v_cV3I hG cvX7_said ml_RL_108 rfl kk_59 (w_X7_said h2) (Nat.le_of_ble_eq_true rfl) dL_law_1025 (q := 1028) rfl ?_
  exact v_icmp_eq hG dL_law_1028 (tgt := 1784) rfl (q := 1031) rfl (fun _ => kk M2 h3) (fun e => absurd rfl e)
theorem lc_23 (hG : Gd E mL_law G) (hX : Sc E G n xs) (hn : n ≤ 3072) (hi : i + 6 ≤ n) (hR : Rel M M) (kk : ∀ M', Rel M' M' → V E G 1784 (LL i) [] M') : V E G 1033 (LL i) [] M := by
  obtain ⟨r, M1, M2, h1, h2, h3⟩ := bo_hands (xs (i + 1)) M hR
  unfold LL at kk ⊢
  refine v_aload_1 hG dL_law_1033 (q := 1034) rfl ?_
  refine v_aload_0 hG dL_law_1034 (q := 1035) rfl ?_
  refine v_iload_3 hG dL_law_1035 (q := 1036) rfl ?_
  refine v_iconst hG ci_1 dL_law_1036 (q := 1037) rfl ?_
  refine v_iadd hG dL_law_1037 (q := 1038) rfl ?_
  refine v_sld hG hX hn hi (k := 1) (by decide) rfl dL_law_1038 (q := 1039) rfl ?_
  refine v_cV1I hG cvX6_hands ml_RL_109 rfl kk_0 (w_X6_hands h1) (Nat.le_of_ble_eq_true rfl) dL_law_1039 (q := 1042) rfl ?_
  refine v_aload_2 hG dL_law_1042 (q := 1043) rfl ?_
  refine v_aload_0 hG dL_law_1043 (q := 1044) rfl ?_
  refine v_iload_3 hG dL_law_1044 (q := 1045) rfl ?_
  refine v_iconst hG ci_1 dL_law_1045 (q := 1046) rfl ?_
  refine v_iadd hG dL_law_1046 (q := 1047) rfl ?_
  refine v_sld hG hX hn hi (k := 1) (by decide) rfl dL_law_1047 (q := 1048) rfl ?_
  refine v_cV1I hG cvX7_hands ml_RL_112 rfl kk_59 (w_X7_hands h2) (Nat.le_of_ble_eq_true rfl) dL_law_1048 (q := 1051) rfl ?_
  exact v_icmp_eq hG dL_law_1051 (tgt := 1784) rfl (q := 1054) rfl (fun _ => kk M2 h3) (fun e => absurd rfl e)
theorem lc_24 (hG : Gd E mL_law G) (hX : Sc E G n xs) (hn : n ≤ 3072) (hi : i + 6 ≤ n) (hR : Rel M M) (kk : ∀ M', Rel M' M' → V E G 1784 (LL i) [] M') : V E G 1056 (LL i) [] M := by
  obtain ⟨r, M1, M2, h1, h2, h3⟩ := bo_likeliest (xs (i + 1)) M hR
  unfold LL at kk ⊢
  refine v_aload_1 hG dL_law_1056 (q := 1057) rfl ?_
  refine v_aload_0 hG dL_law_1057 (q := 1058) rfl ?_
  refine v_iload_3 hG dL_law_1058 (q := 1059) rfl ?_
  refine v_iconst hG ci_1 dL_law_1059 (q := 1060) rfl ?_
  refine v_iadd hG dL_law_1060 (q := 1061) rfl ?_
  refine v_sld hG hX hn hi (k := 1) (by decide) rfl dL_law_1061 (q := 1062) rfl ?_
  refine v_cV1I hG cvX6_likeliest ml_RL_113 rfl kk_0 (w_X6_likeliest h1) (Nat.le_of_ble_eq_true rfl) dL_law_1062 (q := 1065) rfl ?_
  refine v_aload_2 hG dL_law_1065 (q := 1066) rfl ?_
  refine v_aload_0 hG dL_law_1066 (q := 1067) rfl ?_
  refine v_iload_3 hG dL_law_1067 (q := 1068) rfl ?_
  refine v_iconst hG ci_1 dL_law_1068 (q := 1069) rfl ?_
  refine v_iadd hG dL_law_1069 (q := 1070) rfl ?_
  refine v_sld hG hX hn hi (k := 1) (by decide) rfl dL_law_1070 (q := 1071) rfl ?_
  refine v_cV1I hG cvX7_likeliest ml_RL_116 rfl kk_59 (w_X7_likeliest h2) (Nat.le_of_ble_eq_true rfl) dL_law_1071 (q := 1074) rfl ?_
  exact v_icmp_eq hG dL_law_1074 (tgt := 1784) rfl (q := 1077) rfl (fun _ => kk M2 h3) (fun e => absurd rfl e)
theorem lc_25 (hG : Gd E mL_law G) (hX : Sc E G n xs) (hn : n ≤ 3072) (hi : i + 6 ≤ n) (hR : Rel M M) (kk : ∀ M', Rel M' M' → V E G 1784 (LL i) [] M') : V E G 1079 (LL i) [] M := by
  obtain ⟨r, M1, M2, h1, h2, h3⟩ := bo_near (xs (i + 1)) (xs (i + 2)) (xs (i + 3)) M hR
  unfold LL at kk ⊢
  refine v_aload_1 hG dL_law_1079 (q := 1080) rfl ?_
  refine v_aload_0 hG dL_law_1080 (q := 1081) rfl ?_
  refine v_iload_3 hG dL_law_1081 (q := 1082) rfl ?_
  refine v_iconst hG ci_1 dL_law_1082 (q := 1083) rfl ?_
  refine v_iadd hG dL_law_1083 (q := 1084) rfl ?_
  refine v_sld hG hX hn hi (k := 1) (by decide) rfl dL_law_1084 (q := 1085) rfl ?_
  refine v_aload_0 hG dL_law_1085 (q := 1086) rfl ?_
  refine v_iload_3 hG dL_law_1086 (q := 1087) rfl ?_
  refine v_iconst hG ci_2 dL_law_1087 (q := 1088) rfl ?_
  refine v_iadd hG dL_law_1088 (q := 1089) rfl ?_
  refine v_sld hG hX hn hi (k := 2) (by decide) rfl dL_law_1089 (q := 1090) rfl ?_
  refine v_aload_0 hG dL_law_1090 (q := 1091) rfl ?_
  refine v_iload_3 hG dL_law_1091 (q := 1092) rfl ?_
  refine v_iconst hG ci_3 dL_law_1092 (q := 1093) rfl ?_
  refine v_iadd hG dL_law_1093 (q := 1094) rfl ?_
  refine v_sld hG hX hn hi (k := 3) (by decide) rfl dL_law_1094 (q := 1095) rfl ?_
  refine v_cV3I hG cvX6_near ml_RL_117 rfl kk_0 (w_X6_near h1) (Nat.le_of_ble_eq_true rfl) dL_law_1095 (q := 1098) rfl ?_
  refine v_aload_2 hG dL_law_1098 (q := 1099) rfl ?_
  refine v_aload_0 hG dL_law_1099 (q := 1100) rfl ?_
  refine v_iload_3 hG dL_law_1100 (q := 1101) rfl ?_
  refine v_iconst hG ci_1 dL_law_1101 (q := 1102) rfl ?_
  refine v_iadd hG dL_law_1102 (q := 1103) rfl ?_
  refine v_sld hG hX hn hi (k := 1) (by decide) rfl dL_law_1103 (q := 1104) rfl ?_
  refine v_aload_0 hG dL_law_1104 (q := 1105) rfl ?_
  refine v_iload_3 hG dL_law_1105 (q := 1106) rfl ?_
  refine v_iconst hG ci_2 dL_law_1106 (q := 1107) rfl ?_
  refine v_iadd hG dL_law_1107 (q := 1108) rfl ?_
  refine v_sld hG hX hn hi (k := 2) (by decide) rfl dL_law_1108 (q := 1109) rfl ?_
  refine v_aload_0 hG dL_law_1109 (q := 1110) rfl ?_
  refine v_iload_3 hG dL_law_1110 (q := 1111) rfl ?_
  refine v_iconst hG ci_3 dL_law_1111 (q := 1112) rfl ?_
  refine v_iadd hG dL_law_1112 (q := 1113) rfl ?_
  refine v_sld hG hX hn hi (k := 3) (by decide) rfl dL_law_1113 (q := 1114) rfl ?_
  refine v_cV3I hG cvX7_near ml_RL_120 rfl kk_59 (w_X7_near h2) (Nat.le_of_ble_eq_true rfl) dL_law_1114 (q := 1117) rfl ?_
  exact v_icmp_eq hG dL_law_1117 (tgt := 1784) rfl (q := 1120) rfl (fun _ => kk M2 h3) (fun e => absurd rfl e)
theorem lc_26 (hG : Gd E mL_law G) (hX : Sc E G n xs) (hn : n ≤ 3072) (hi : i + 6 ≤ n) (hR : Rel M M) (kk : ∀ M', Rel M' M' → V E G 1784 (LL i) [] M') : V E G 1122 (LL i) [] M := by
  obtain ⟨r, M1, M2, h1, h2, h3⟩ := bo_honest (xs (i + 1)) M hR
  unfold LL at kk ⊢
  refine v_aload_1 hG dL_law_1122 (q := 1123) rfl ?_
  refine v_aload_0 hG dL_law_1123 (q := 1124) rfl ?_
  refine v_iload_3 hG dL_law_1124 (q := 1125) rfl ?_
  refine v_iconst hG ci_1 dL_law_1125 (q := 1126) rfl ?_
  refine v_iadd hG dL_law_1126 (q := 1127) rfl ?_
  refine v_sld hG hX hn hi (k := 1) (by decide) rfl dL_law_1127 (q := 1128) rfl ?_
  refine v_cV1I hG cvX6_honest ml_RL_121 rfl kk_0 (w_X6_honest h1) (Nat.le_of_ble_eq_true rfl) dL_law_1128 (q := 1131) rfl ?_
  refine v_aload_2 hG dL_law_1131 (q := 1132) rfl ?_
  refine v_aload_0 hG dL_law_1132 (q := 1133) rfl ?_
  refine v_iload_3 hG dL_law_1133 (q := 1134) rfl ?_
  refine v_iconst hG ci_1 dL_law_1134 (q := 1135) rfl ?_
  refine v_iadd hG dL_law_1135 (q := 1136) rfl ?_
  refine v_sld hG hX hn hi (k := 1) (by decide) rfl dL_law_1136 (q := 1137) rfl ?_
  refine v_cV1I hG cvX7_honest ml_RL_124 rfl kk_59 (w_X7_honest h2) (Nat.le_of_ble_eq_true rfl) dL_law_1137 (q := 1140) rfl ?_
  exact v_icmp_eq hG dL_law_1140 (tgt := 1784) rfl (q := 1143) rfl (fun _ => kk M2 h3) (fun e => absurd rfl e)
theorem lc_27 (hG : Gd E mL_law G) (hX : Sc E G n xs) (hn : n ≤ 3072) (hi : i + 6 ≤ n) (hR : Rel M M) (kk : ∀ M', Rel M' M' → V E G 1784 (LL i) [] M') : V E G 1145 (LL i) [] M := by
  obtain ⟨r, M1, M2, h1, h2, h3⟩ := bo_round (xs (i + 1)) (xs (i + 2)) M hR
  unfold LL at kk ⊢
  refine v_aload_1 hG dL_law_1145 (q := 1146) rfl ?_
  refine v_aload_0 hG dL_law_1146 (q := 1147) rfl ?_
  refine v_iload_3 hG dL_law_1147 (q := 1148) rfl ?_
  refine v_iconst hG ci_1 dL_law_1148 (q := 1149) rfl ?_
  refine v_iadd hG dL_law_1149 (q := 1150) rfl ?_
  refine v_sld hG hX hn hi (k := 1) (by decide) rfl dL_law_1150 (q := 1151) rfl ?_
  refine v_aload_0 hG dL_law_1151 (q := 1152) rfl ?_
  refine v_iload_3 hG dL_law_1152 (q := 1153) rfl ?_
  refine v_iconst hG ci_2 dL_law_1153 (q := 1154) rfl ?_
  refine v_iadd hG dL_law_1154 (q := 1155) rfl ?_
  refine v_sld hG hX hn hi (k := 2) (by decide) rfl dL_law_1155 (q := 1156) rfl ?_
  refine v_cV2I hG cvX6_round ml_RL_125 rfl kk_0 (w_X6_round h1) (Nat.le_of_ble_eq_true rfl) dL_law_1156 (q := 1159) rfl ?_
  refine v_aload_2 hG dL_law_1159 (q := 1160) rfl ?_
  refine v_aload_0 hG dL_law_1160 (q := 1161) rfl ?_
  refine v_iload_3 hG dL_law_1161 (q := 1162) rfl ?_
  refine v_iconst hG ci_1 dL_law_1162 (q := 1163) rfl ?_
  refine v_iadd hG dL_law_1163 (q := 1164) rfl ?_
  refine v_sld hG hX hn hi (k := 1) (by decide) rfl dL_law_1164 (q := 1165) rfl ?_
  refine v_aload_0 hG dL_law_1165 (q := 1166) rfl ?_
  refine v_iload_3 hG dL_law_1166 (q := 1167) rfl ?_
  refine v_iconst hG ci_2 dL_law_1167 (q := 1168) rfl ?_
  refine v_iadd hG dL_law_1168 (q := 1169) rfl ?_
  refine v_sld hG hX hn hi (k := 2) (by decide) rfl dL_law_1169 (q := 1170) rfl ?_
  refine v_cV2I hG cvX7_round ml_RL_128 rfl kk_59 (w_X7_round h2) (Nat.le_of_ble_eq_true rfl) dL_law_1170 (q := 1173) rfl ?_
  exact v_icmp_eq hG dL_law_1173 (tgt := 1784) rfl (q := 1176) rfl (fun _ => kk M2 h3) (fun e => absurd rfl e)
theorem lc_28 (hG : Gd E mL_law G) (hX : Sc E G n xs) (hn : n ≤ 3072) (hi : i + 6 ≤ n) (hR : Rel M M) (kk : ∀ M', Rel M' M' → V E G 1784 (LL i) [] M') : V E G 1178 (LL i) [] M := by
  obtain ⟨r, M1, M2, h1, h2, h3⟩ := bo_settles (xs (i + 1)) M hR
  unfold LL at kk ⊢
  refine v_aload_1 hG dL_law_1178 (q := 1179) rfl ?_
  refine v_aload_0 hG dL_law_1179 (q := 1180) rfl ?_
  refine v_iload_3 hG dL_law_1180 (q := 1181) rfl ?_
  refine v_iconst hG ci_1 dL_law_1181 (q := 1182) rfl ?_
  refine v_iadd hG dL_law_1182 (q := 1183) rfl ?_
  refine v_sld hG hX hn hi (k := 1) (by decide) rfl dL_law_1183 (q := 1184) rfl ?_
  refine v_cV1I hG cvX6_settles ml_RL_129 rfl kk_0 (w_X6_settles h1) (Nat.le_of_ble_eq_true rfl) dL_law_1184 (q := 1187) rfl ?_
  refine v_aload_2 hG dL_law_1187 (q := 1188) rfl ?_
  refine v_aload_0 hG dL_law_1188 (q := 1189) rfl ?_
  refine v_iload_3 hG dL_law_1189 (q := 1190) rfl ?_
  refine v_iconst hG ci_1 dL_law_1190 (q := 1191) rfl ?_
  refine v_iadd hG dL_law_1191 (q := 1192) rfl ?_
  refine v_sld hG hX hn hi (k := 1) (by decide) rfl dL_law_1192 (q := 1193) rfl ?_
  refine v_cV1I hG cvX7_settles ml_RL_132 rfl kk_59 (w_X7_settles h2) (Nat.le_of_ble_eq_true rfl) dL_law_1193 (q := 1196) rfl ?_
  exact v_icmp_eq hG dL_law_1196 (tgt := 1784) rfl (q := 1199) rfl (fun _ => kk M2 h3) (fun e => absurd rfl e)
theorem lc_29 (hG : Gd E mL_law G) (hX : Sc E G n xs) (hn : n ≤ 3072) (hi : i + 6 ≤ n) (hR : Rel M M) (kk : ∀ M', Rel M' M' → V E G 1784 (LL i) [] M') : V E G 1201 (LL i) [] M := by
  obtain ⟨r, M1, M2, h1, h2, h3⟩ := bo_court (xs (i + 1)) (xs (i + 2)) (xs (i + 3)) M hR
  unfold LL at kk ⊢
  refine v_aload_1 hG dL_law_1201 (q := 1202) rfl ?_
  refine v_aload_0 hG dL_law_1202 (q := 1203) rfl ?_
  refine v_iload_3 hG dL_law_1203 (q := 1204) rfl ?_
  refine v_iconst hG ci_1 dL_law_1204 (q := 1205) rfl ?_
  refine v_iadd hG dL_law_1205 (q := 1206) rfl ?_
  refine v_sld hG hX hn hi (k := 1) (by decide) rfl dL_law_1206 (q := 1207) rfl ?_
  refine v_aload_0 hG dL_law_1207 (q := 1208) rfl ?_
  refine v_iload_3 hG dL_law_1208 (q := 1209) rfl ?_
  refine v_iconst hG ci_2 dL_law_1209 (q := 1210) rfl ?_
  refine v_iadd hG dL_law_1210 (q := 1211) rfl ?_
  refine v_sld hG hX hn hi (k := 2) (by decide) rfl dL_law_1211 (q := 1212) rfl ?_
  refine v_aload_0 hG dL_law_1212 (q := 1213) rfl ?_
  refine v_iload_3 hG dL_law_1213 (q := 1214) rfl ?_
  refine v_iconst hG ci_3 dL_law_1214 (q := 1215) rfl ?_
  refine v_iadd hG dL_law_1215 (q := 1216) rfl ?_
  refine v_sld hG hX hn hi (k := 3) (by decide) rfl dL_law_1216 (q := 1217) rfl ?_
  refine v_cV3I hG cvX6_court ml_RL_133 rfl kk_0 (w_X6_court h1) (Nat.le_of_ble_eq_true rfl) dL_law_1217 (q := 1220) rfl ?_
  refine v_aload_2 hG dL_law_1220 (q := 1221) rfl ?_
  refine v_aload_0 hG dL_law_1221 (q := 1222) rfl ?_
  refine v_iload_3 hG dL_law_1222 (q := 1223) rfl ?_
  refine v_iconst hG ci_1 dL_law_1223 (q := 1224) rfl ?_
  refine v_iadd hG dL_law_1224 (q := 1225) rfl ?_
  refine v_sld hG hX hn hi (k := 1) (by decide) rfl dL_law_1225 (q := 1226) rfl ?_
  refine v_aload_0 hG dL_law_1226 (q := 1227) rfl ?_
  refine v_iload_3 hG dL_law_1227 (q := 1228) rfl ?_
  refine v_iconst hG ci_2 dL_law_1228 (q := 1229) rfl ?_
  refine v_iadd hG dL_law_1229 (q := 1230) rfl ?_
  refine v_sld hG hX hn hi (k := 2) (by decide) rfl dL_law_1230 (q := 1231) rfl ?_
  refine v_aload_0 hG dL_law_1231 (q := 1232) rfl ?_
  refine v_iload_3 hG dL_law_1232 (q := 1233) rfl ?_
  refine v_iconst hG ci_3 dL_law_1233 (q := 1234) rfl ?_
  refine v_iadd hG dL_law_1234 (q := 1235) rfl ?_
  refine v_sld hG hX hn hi (k := 3) (by decide) rfl dL_law_1235 (q := 1236) rfl ?_
  refine v_cV3I hG cvX7_court ml_RL_136 rfl kk_59 (w_X7_court h2) (Nat.le_of_ble_eq_true rfl) dL_law_1236 (q := 1239) rfl ?_
  exact v_icmp_eq hG dL_law_1239 (tgt := 1784) rfl (q := 1242) rfl (fun _ => kk M2 h3) (fun e => absurd rfl e)
theorem lc_30 (hG : Gd E mL_law G) (hX : Sc E G n xs) (hn : n ≤ 3072) (hi : i + 6 ≤ n) (hR : Rel M M) (kk : ∀ M', Rel M' M' → V E G 1784 (LL i) [] M') : V E G 1244 (LL i) [] M := by
  obtain ⟨r, M1, M2, h1, h2, h3⟩ := bo_witness (xs (i + 1)) M hR
  unfold LL at kk ⊢
  refine v_aload_1 hG dL_law_1244 (q := 1245) rfl ?_
  refine v_aload_0 hG dL_law_1245 (q := 1246) rfl ?_
  refine v_iload_3 hG dL_law_1246 (q := 1247) rfl ?_
  refine v_iconst hG ci_1 dL_law_1247 (q := 1248) rfl ?_
  refine v_iadd hG dL_law_1248 (q := 1249) rfl ?_
  refine v_sld hG hX hn hi (k := 1) (by decide) rfl dL_law_1249 (q := 1250) rfl ?_
  refine v_cV1I hG cvX6_witness ml_RL_137 rfl kk_0 (w_X6_witness h1) (Nat.le_of_ble_eq_true rfl) dL_law_1250 (q := 1253) rfl ?_
  refine v_aload_2 hG dL_law_1253 (q := 1254) rfl ?_
  refine v_aload_0 hG dL_law_1254 (q := 1255) rfl ?_
  refine v_iload_3 hG dL_law_1255 (q := 1256) rfl ?_
  refine v_iconst hG ci_1 dL_law_1256 (q := 1257) rfl ?_
  refine v_iadd hG dL_law_1257 (q := 1258) rfl ?_
  refine v_sld hG hX hn hi (k := 1) (by decide) rfl dL_law_1258 (q := 1259) rfl ?_
  refine v_cV1I hG cvX7_witness ml_RL_140 rfl kk_59 (w_X7_witness h2) (Nat.le_of_ble_eq_true rfl) dL_law_1259 (q := 1262) rfl ?_
  exact v_icmp_eq hG dL_law_1262 (tgt := 1784) rfl (q := 1265) rfl (fun _ => kk M2 h3) (fun e => absurd rfl e)
theorem lc_31 (hG : Gd E mL_law G) (hX : Sc E G n xs) (hn : n ≤ 3072) (hi : i + 6 ≤ n) (hR : Rel M M) (kk : ∀ M', Rel M' M' → V E G 1784 (LL i) [] M') : V E G 1267 (LL i) [] M := by
  obtain ⟨r, M1, M2, h1, h2, h3⟩ := bo_price (xs (i + 1)) (xs (i + 2)) M hR
  unfold LL at kk ⊢
  refine v_aload_1 hG dL_law_1267 (q := 1268) rfl ?_
  refine v_aload_0 hG dL_law_1268 (q := 1269) rfl ?_
  refine v_iload_3 hG dL_law_1269 (q := 1270) rfl ?_
  refine v_iconst hG ci_1 dL_law_1270 (q := 1271) rfl ?_
  refine v_iadd hG dL_law_1271 (q := 1272) rfl ?_
  refine v_sld hG hX hn hi (k := 1) (by decide) rfl dL_law_1272 (q := 1273) rfl ?_
  refine v_aload_0 hG dL_law_1273 (q := 1274) rfl ?_
  refine v_iload_3 hG dL_law_1274 (q := 1275) rfl ?_
  refine v_iconst hG ci_2 dL_law_1275 (q := 1276) rfl ?_
  refine v_iadd hG dL_law_1276 (q := 1277) rfl ?_
  refine v_sld hG hX hn hi (k := 2) (by decide) rfl dL_law_1277 (q := 1278) rfl ?_
  refine v_cV2I hG cvX6_price ml_RL_141 rfl kk_0 (w_X6_price h1) (Nat.le_of_ble_eq_true rfl) dL_law_1278 (q := 1281) rfl ?_
  refine v_aload_2 hG dL_law_1281 (q := 1282) rfl ?_
  refine v_aload_0 hG dL_law_1282 (q := 1283) rfl ?_
  refine v_iload_3 hG dL_law_1283 (q := 1284) rfl ?_
  refine v_iconst hG ci_1 dL_law_1284 (q := 1285) rfl ?_
  refine v_iadd hG dL_law_1285 (q := 1286) rfl ?_
  refine v_sld hG hX hn hi (k := 1) (by decide) rfl dL_law_1286 (q := 1287) rfl ?_
  refine v_aload_0 hG dL_law_1287 (q := 1288) rfl ?_
  refine v_iload_3 hG dL_law_1288 (q := 1289) rfl ?_
  refine v_iconst hG ci_2 dL_law_1289 (q := 1290) rfl ?_
  refine v_iadd hG dL_law_1290 (q := 1291) rfl ?_
  refine v_sld hG hX hn hi (k := 2) (by decide) rfl dL_law_1291 (q := 1292) rfl ?_
  refine v_cV2I hG cvX7_price ml_RL_144 rfl kk_59 (w_X7_price h2) (Nat.le_of_ble_eq_true rfl) dL_law_1292 (q := 1295) rfl ?_
  exact v_icmp_eq hG dL_law_1295 (tgt := 1784) rfl (q := 1298) rfl (fun _ => kk M2 h3) (fun e => absurd rfl e)
theorem lc_32 (hG : Gd E mL_law G) (hX : Sc E G n xs) (hn : n ≤ 3072) (hi : i + 6 ≤ n) (hR : Rel M M) (kk : ∀ M', Rel M' M' → V E G 1784 (LL i) [] M') : V E G 1300 (LL i) [] M := by
  obtain ⟨r, M1, M2, h1, h2, h3⟩ := bo_school (xs (i + 1)) M hR
  unfold LL at kk ⊢
  refine v_aload_1 hG dL_law_1300 (q := 1301) rfl ?_
  refine v_aload_0 hG dL_law_1301 (q := 1302) rfl ?_
  refine v_iload_3 hG dL_law_1302 (q := 1303) rfl ?_
  refine v_iconst hG ci_1 dL_law_1303 (q := 1304) rfl ?_
  refine v_iadd hG dL_law_1304 (q := 1305) rfl ?_
  refine v_sld hG hX hn hi (k := 1) (by decide) rfl dL_law_1305 (q := 1306) rfl ?_
  refine v_cV1I hG cvX6_school ml_RL_145 rfl kk_0 (w_X6_school h1) (Nat.le_of_ble_eq_true rfl) dL_law_1306 (q := 1309) rfl ?_
  refine v_aload_2 hG dL_law_1309 (q := 1310) rfl ?_
  refine v_aload_0 hG dL_law_1310 (q := 1311) rfl ?_
  refine v_iload_3 hG dL_law_1311 (q := 1312) rfl ?_
  refine v_iconst hG ci_1 dL_law_1312 (q := 1313) rfl ?_
  refine v_iadd hG dL_law_1313 (q := 1314) rfl ?_
  refine v_sld hG hX hn hi (k := 1) (by decide) rfl dL_law_1314 (q := 1315) rfl ?_
  refine v_cV1I hG cvX7_school ml_RL_148 rfl kk_59 (w_X7_school h2) (Nat.le_of_ble_eq_true rfl) dL_law_1315 (q := 1318) rfl ?_
  exact v_icmp_eq hG dL_law_1318 (tgt := 1784) rfl (q := 1321) rfl (fun _ => kk M2 h3) (fun e => absurd rfl e)
theorem lc_33 (hG : Gd E mL_law G) (hX : Sc E G n xs) (hn : n ≤ 3072) (hi : i + 6 ≤ n) (hR : Rel M M) (kk : ∀ M', Rel M' M' → V E G 1784 (LL i) [] M') : V E G 1323 (LL i) [] M := by
  obtain ⟨r, M1, M2, h1, h2, h3⟩ := bo_gossip (xs (i + 1)) M hR
  unfold LL at kk ⊢
  refine v_aload_1 hG dL_law_1323 (q := 1324) rfl ?_
  refine v_aload_0 hG dL_law_1324 (q := 1325) rfl ?_
  refine v_iload_3 hG dL_law_1325 (q := 1326) rfl ?_
  refine v_iconst hG ci_1 dL_law_1326 (q := 1327) rfl ?_
  refine v_iadd hG dL_law_1327 (q := 1328) rfl ?_
  refine v_sld hG hX hn hi (k := 1) (by decide) rfl dL_law_1328 (q := 1329) rfl ?_
  refine v_cV1I hG cvX6_gossip ml_RL_149 rfl kk_0 (w_X6_gossip h1) (Nat.le_of_ble_eq_true rfl) dL_law_1329 (q := 1332) rfl ?_
  refine v_aload_2 hG dL_law_1332 (q := 1333) rfl ?_
  refine v_aload_0 hG dL_law_1333 (q := 1334) rfl ?_
  refine v_iload_3 hG dL_law_1334 (q := 1335) rfl ?_
  refine v_iconst hG ci_1 dL_law_1335 (q := 1336) rfl ?_
  refine v_iadd hG dL_law_1336 (q := 1337) rfl ?_
  refine v_sld hG hX hn hi (k := 1) (by decide) rfl dL_law_1337 (q := 1338) rfl ?_
  refine v_cV1I hG cvX7_gossip ml_RL_152 rfl kk_59 (w_X7_gossip h2) (Nat.le_of_ble_eq_true rfl) dL_law_1338 (q := 1341) rfl ?_
  exact v_icmp_eq hG dL_law_1341 (tgt := 1784) rfl (q := 1344) rfl (fun _ => kk M2 h3) (fun e => absurd rfl e)
theorem lc_34 (hG : Gd E mL_law G) (hX : Sc E G n xs) (hn : n ≤ 3072) (hi : i + 6 ≤ n) (hR : Rel M M) (kk : ∀ M', Rel M' M' → V E G 1784 (LL i) [] M') : V E G 1346 (LL i) [] M := by
  obtain ⟨r, M1, M2, h1, h2, h3⟩ := bo_seed (xs (i + 1)) M hR
  unfold LL at kk ⊢
  refine v_aload_1 hG dL_law_1346 (q := 1347) rfl ?_
  refine v_aload_0 hG dL_law_1347 (q := 1348) rfl ?_
  refine v_iload_3 hG dL_law_1348 (q := 1349) rfl ?_
  refine v_iconst hG ci_1 dL_law_1349 (q := 1350) rfl ?_
  refine v_iadd hG dL_law_1350 (q := 1351) rfl ?_
  refine v_sld hG hX hn hi (k := 1) (by decide) rfl dL_law_1351 (q := 1352) rfl ?_
  refine v_cV1I hG cvX6_seed ml_RL_153 rfl kk_0 (w_X6_seed h1) (Nat.le_of_ble_eq_true rfl) dL_law_1352 (q := 1355) rfl ?_
  refine v_aload_2 hG dL_law_1355 (q := 1356) rfl ?_
  refine v_aload_0 hG dL_law_1356 (q := 1357) rfl ?_
  refine v_iload_3 hG dL_law_1357 (q := 1358) rfl ?_
  refine v_iconst hG ci_1 dL_law_1358 (q := 1359) rfl ?_
  refine v_iadd hG dL_law_1359 (q := 1360) rfl ?_
  refine v_sld hG hX hn hi (k := 1) (by decide) rfl dL_law_1360 (q := 1361) rfl ?_
  refine v_cV1I hG cvX7_seed ml_RL_156 rfl kk_59 (w_X7_seed h2) (Nat.le_of_ble_eq_true rfl) dL_law_1361 (q := 1364) rfl ?_
  exact v_icmp_eq hG dL_law_1364 (tgt := 1784) rfl (q := 1367) rfl (fun _ => kk M2 h3) (fun e => absurd rfl e)
theorem lc_35 (hG : Gd E mL_law G) (hX : Sc E G n xs) (hn : n ≤ 3072) (hi : i + 6 ≤ n) (hR : Rel M M) (kk : ∀ M', Rel M' M' → V E G 1784 (LL i) [] M') : V E G 1369 (LL i) [] M := by
  obtain ⟨r, M1, M2, h1, h2, h3⟩ := bo_feed (xs (i + 1)) (xs (i + 2)) M hR
  unfold LL at kk ⊢
  refine v_aload_1 hG dL_law_1369 (q := 1370) rfl ?_
  refine v_aload_0 hG dL_law_1370 (q := 1371) rfl ?_
  refine v_iload_3 hG dL_law_1371 (q := 1372) rfl ?_
  refine v_iconst hG ci_1 dL_law_1372 (q := 1373) rfl ?_
  refine v_iadd hG dL_law_1373 (q := 1374) rfl ?_
  refine v_sld hG hX hn hi (k := 1) (by decide) rfl dL_law_1374 (q := 1375) rfl ?_
  refine v_aload_0 hG dL_law_1375 (q := 1376) rfl ?_
  refine v_iload_3 hG dL_law_1376 (q := 1377) rfl ?_
  refine v_iconst hG ci_2 dL_law_1377 (q := 1378) rfl ?_
  refine v_iadd hG dL_law_1378 (q := 1379) rfl ?_
  refine v_sld hG hX hn hi (k := 2) (by decide) rfl dL_law_1379 (q := 1380) rfl ?_
  refine v_cV2I hG cvX6_feed ml_RL_157 rfl kk_0 (w_X6_feed h1) (Nat.le_of_ble_eq_true rfl) dL_law_1380 (q := 1383) rfl ?_
  refine v_aload_2 hG dL_law_1383 (q := 1384) rfl ?_
  refine v_aload_0 hG dL_law_1384 (q := 1385) rfl ?_
  refine v_iload_3 hG dL_law_1385 (q := 1386) rfl ?_
  refine v_iconst hG ci_1 dL_law_1386 (q := 1387) rfl ?_
  refine v_iadd hG dL_law_1387 (q := 1388) rfl ?_
  refine v_sld hG hX hn hi (k := 1) (by decide) rfl dL_law_1388 (q := 1389) rfl ?_
  refine v_aload_0 hG dL_law_1389 (q := 1390) rfl ?_
  refine v_iload_3 hG dL_law_1390 (q := 1391) rfl ?_
  refine v_iconst hG ci_2 dL_law_1391 (q := 1392) rfl ?_
  refine v_iadd hG dL_law_1392 (q := 1393) rfl ?_
  refine v_sld hG hX hn hi (k := 2) (by decide) rfl dL_law_1393 (q := 1394) rfl ?_
  refine v_cV2I hG cvX7_feed ml_RL_160 rfl kk_59 (w_X7_feed h2) (Nat.le_of_ble_eq_true rfl) dL_law_1394 (q := 1397) rfl ?_
  exact v_icmp_eq hG dL_law_1397 (tgt := 1784) rfl (q := 1400) rfl (fun _ => kk M2 h3) (fun e => absurd rfl e)
theorem lc_36 (hG : Gd E mL_law G) (hX : Sc E G n xs) (hn : n ≤ 3072) (hi : i + 6 ≤ n) (hR : Rel M M) (kk : ∀ M', Rel M' M' → V E G 1784 (LL i) [] M') : V E G 1402 (LL i) [] M := by
  obtain ⟨r, M1, M2, h1, h2, h3⟩ := bo_wipe  M hR
  unfold LL at kk ⊢
  refine v_aload_1 hG dL_law_1402 (q := 1403) rfl ?_
  refine v_cV0I hG cvX6_wipe ml_RL_161 rfl kk_0 (w_X6_wipe h1) (Nat.le_of_ble_eq_true rfl) dL_law_1403 (q := 1406) rfl ?_
  refine v_aload_2 hG dL_law_1406 (q := 1407) rfl ?_
  refine v_cV0I hG cvX7_wipe ml_RL_165 rfl kk_59 (w_X7_wipe h2) (Nat.le_of_ble_eq_true rfl) dL_law_1407 (q := 1410) rfl ?_
  exact v_icmp_eq hG dL_law_1410 (tgt := 1784) rfl (q := 1413) rfl (fun _ => kk M2 h3) (fun e => absurd rfl e)
theorem lc_37 (hG : Gd E mL_law G) (hX : Sc E G n xs) (hn : n ≤ 3072) (hi : i + 6 ≤ n) (hR : Rel M M) (kk : ∀ M', Rel M' M' → V E G 1784 (LL i) [] M') : V E G 1415 (LL i) [] M := by
  obtain ⟨r, M1, M2, h1, h2, h3⟩ := bo_text  M hR
  unfold LL at kk ⊢
  refine v_aload_1 hG dL_law_1415 (q := 1416) rfl ?_
  refine v_cV0I hG cvX6_text ml_RL_166 rfl kk_0 (w_X6_text h1) (Nat.le_of_ble_eq_true rfl) dL_law_1416 (q := 1419) rfl ?_
  refine v_aload_2 hG dL_law_1419 (q := 1420) rfl ?_
  refine v_cV0I hG cvX7_text ml_RL_169 rfl kk_59 (w_X7_text h2) (Nat.le_of_ble_eq_true rfl) dL_law_1420 (q := 1423) rfl ?_
  exact v_icmp_eq hG dL_law_1423 (tgt := 1784) rfl (q := 1426) rfl (fun _ => kk M2 h3) (fun e => absurd rfl e)
theorem lc_38 (hG : Gd E mL_law G) (hX : Sc E G n xs) (hn : n ≤ 3072) (hi : i + 6 ≤ n) (hR : Rel M M) (kk : ∀ M', Rel M' M' → V E G 1784 (LL i) [] M') : V E G 1428 (LL i) [] M := by
  obtain ⟨r, M1, M2, h1, h2, h3⟩ := bo_hold (xs (i + 1)) (xs (i + 2)) M hR
  unfold LL at kk ⊢
  refine v_aload_1 hG dL_law_1428 (q := 1429) rfl ?_
  refine v_aload_0 hG dL_law_1429 (q := 1430) rfl ?_
  refine v_iload_3 hG dL_law_1430 (q := 1431) rfl ?_
  refine v_iconst hG ci_1 dL_law_1431 (q := 1432) rfl ?_
  refine v_iadd hG dL_law_1432 (q := 1433) rfl ?_
  refine v_sld hG hX hn hi (k := 1) (by decide) rfl dL_law_1433 (q := 1434) rfl ?_
  refine v_aload_0 hG dL_law_1434 (q := 1435) rfl ?_
  refine v_iload_3 hG dL_law_1435 (q := 1436) rfl ?_
  refine v_iconst hG ci_2 dL_law_1436 (q := 1437) rfl ?_
  refine v_iadd hG dL_law_1437 (q := 1438) rfl ?_
  refine v_sld hG hX hn hi (k := 2) (by decide) rfl dL_law_1438 (q := 1439) rfl ?_
  refine v_cV2I hG cvX6_hold ml_RL_170 rfl kk_0 (w_X6_hold h1) (Nat.le_of_ble_eq_true rfl) dL_law_1439 (q := 1442) rfl ?_
  refine v_aload_2 hG dL_law_1442 (q := 1443) rfl ?_
  refine v_aload_0 hG dL_law_1443 (q := 1444) rfl ?_
  refine v_iload_3 hG dL_law_1444 (q := 1445) rfl ?_
  refine v_iconst hG ci_1 dL_law_1445 (q := 1446) rfl ?_
  refine v_iadd hG dL_law_1446 (q := 1447) rfl ?_
  refine v_sld hG hX hn hi (k := 1) (by decide) rfl dL_law_1447 (q := 1448) rfl ?_
  refine v_aload_0 hG dL_law_1448 (q := 1449) rfl ?_
  refine v_iload_3 hG dL_law_1449 (q := 1450) rfl ?_
  refine v_iconst hG ci_2 dL_law_1450 (q := 1451) rfl ?_
  refine v_iadd hG dL_law_1451 (q := 1452) rfl ?_
  refine v_sld hG hX hn hi (k := 2) (by decide) rfl dL_law_1452 (q := 1453) rfl ?_
  refine v_cV2I hG cvX7_hold ml_RL_173 rfl kk_59 (w_X7_hold h2) (Nat.le_of_ble_eq_true rfl) dL_law_1453 (q := 1456) rfl ?_
  exact v_icmp_eq hG dL_law_1456 (tgt := 1784) rfl (q := 1459) rfl (fun _ => kk M2 h3) (fun e => absurd rfl e)
theorem lc_39 (hG : Gd E mL_law G) (hX : Sc E G n xs) (hn : n ≤ 3072) (hi : i + 6 ≤ n) (hR : Rel M M) (kk : ∀ M', Rel M' M' → V E G 1784 (LL i) [] M') : V E G 1461 (LL i) [] M := by
  obtain ⟨r, M1, M2, h1, h2, h3⟩ := bo_as (xs (i + 1)) (xs (i + 2)) M hR
  unfold LL at kk ⊢
  refine v_aload_1 hG dL_law_1461 (q := 1462) rfl ?_
  refine v_aload_0 hG dL_law_1462 (q := 1463) rfl ?_
  refine v_iload_3 hG dL_law_1463 (q := 1464) rfl ?_
  refine v_iconst hG ci_1 dL_law_1464 (q := 1465) rfl ?_
  refine v_iadd hG dL_law_1465 (q := 1466) rfl ?_
  refine v_sld hG hX hn hi (k := 1) (by decide) rfl dL_law_1466 (q := 1467) rfl ?_
  refine v_aload_0 hG dL_law_1467 (q := 1468) rfl ?_
  refine v_iload_3 hG dL_law_1468 (q := 1469) rfl ?_
  refine v_iconst hG ci_2 dL_law_1469 (q := 1470) rfl ?_
  refine v_iadd hG dL_law_1470 (q := 1471) rfl ?_
  refine v_sld hG hX hn hi (k := 2) (by decide) rfl dL_law_1471 (q := 1472) rfl ?_
  refine v_cV2I hG cvX6_as ml_RL_174 rfl kk_0 (w_X6_as h1) (Nat.le_of_ble_eq_true rfl) dL_law_1472 (q := 1475) rfl ?_
  refine v_aload_2 hG dL_law_1475 (q := 1476) rfl ?_
  refine v_aload_0 hG dL_law_1476 (q := 1477) rfl ?_
  refine v_iload_3 hG dL_law_1477 (q := 1478) rfl ?_
  refine v_iconst hG ci_1 dL_law_1478 (q := 1479) rfl ?_
  refine v_iadd hG dL_law_1479 (q := 1480) rfl ?_
  refine v_sld hG hX hn hi (k := 1) (by decide) rfl dL_law_1480 (q := 1481) rfl ?_
  refine v_aload_0 hG dL_law_1481 (q := 1482) rfl ?_
  refine v_iload_3 hG dL_law_1482 (q := 1483) rfl ?_
  refine v_iconst hG ci_2 dL_law_1483 (q := 1484) rfl ?_
  refine v_iadd hG dL_law_1484 (q := 1485) rfl ?_
  refine v_sld hG hX hn hi (k := 2) (by decide) rfl dL_law_1485 (q := 1486) rfl ?_
  refine v_cV2I hG cvX7_as ml_RL_177 rfl kk_59 (w_X7_as h2) (Nat.le_of_ble_eq_true rfl) dL_law_1486 (q := 1489) rfl ?_
  exact v_icmp_eq hG dL_law_1489 (tgt := 1784) rfl (q := 1492) rfl (fun _ => kk M2 h3) (fun e => absurd rfl e)
theorem lc_40 (hG : Gd E mL_law G) (hX : Sc E G n xs) (hn : n ≤ 3072) (hi : i + 6 ≤ n) (hR : Rel M M) (kk : ∀ M', Rel M' M' → V E G 1784 (LL i) [] M') : V E G 1494 (LL i) [] M := by
  obtain ⟨r, M1, M2, h1, h2, h3⟩ := bo_sheet (xs (i + 1)) (xs (i + 2)) (xs (i + 3)) M hR
  unfold LL at kk ⊢
  refine v_aload_1 hG dL_law_1494 (q := 1495) rfl ?_
  refine v_aload_0 hG dL_law_1495 (q := 1496) rfl ?_
  refine v_iload_3 hG dL_law_1496 (q := 1497) rfl ?_
  refine v_iconst hG ci_1 dL_law_1497 (q := 1498) rfl ?_
  refine v_iadd hG dL_law_1498 (q := 1499) rfl ?_
  refine v_sld hG hX hn hi (k := 1) (by decide) rfl dL_law_1499 (q := 1500) rfl ?_
  refine v_aload_0 hG dL_law_1500 (q := 1501) rfl ?_
  refine v_iload_3 hG dL_law_1501 (q := 1502) rfl ?_
  refine v_iconst hG ci_2 dL_law_1502 (q := 1503) rfl ?_
  refine v_iadd hG dL_law_1503 (q := 1504) rfl ?_
  refine v_sld hG hX hn hi (k := 2) (by decide) rfl dL_law_1504 (q := 1505) rfl ?_
  refine v_aload_0 hG dL_law_1505 (q := 1506) rfl ?_
  refine v_iload_3 hG dL_law_1506 (q := 1507) rfl ?_
  refine v_iconst hG ci_3 dL_law_1507 (q := 1508) rfl ?_
  refine v_iadd hG dL_law_1508 (q := 1509) rfl ?_
  refine v_sld hG hX hn hi (k := 3) (by decide) rfl dL_law_1509 (q := 1510) rfl ?_
  refine v_cV3I hG cvX6_sheet ml_RL_178 rfl kk_0 (w_X6_sheet h1) (Nat.le_of_ble_eq_true rfl) dL_law_1510 (q := 1513) rfl ?_
  refine v_aload_2 hG dL_law_1513 (q := 1514) rfl ?_
  refine v_aload_0 hG dL_law_1514 (q := 1515) rfl ?_
  refine v_iload_3 hG dL_law_1515 (q := 1516) rfl ?_
  refine v_iconst hG ci_1 dL_law_1516 (q := 1517) rfl ?_
  refine v_iadd hG dL_law_1517 (q := 1518) rfl ?_
  refine v_sld hG hX hn hi (k := 1) (by decide) rfl dL_law_1518 (q := 1519) rfl ?_
  refine v_aload_0 hG dL_law_1519 (q := 1520) rfl ?_
  refine v_iload_3 hG dL_law_1520 (q := 1521) rfl ?_
  refine v_iconst hG ci_2 dL_law_1521 (q := 1522) rfl ?_
  refine v_iadd hG dL_law_1522 (q := 1523) rfl ?_
  refine v_sld hG hX hn hi (k := 2) (by decide) rfl dL_law_1523 (q := 1524) rfl ?_
  refine v_aload_0 hG dL_law_1524 (q := 1525) rfl ?_
  refine v_iload_3 hG dL_law_1525 (q := 1526) rfl ?_
  refine v_iconst hG ci_3 dL_law_1526 (q := 1527) rfl ?_
  refine v_iadd hG dL_law_1527 (q := 1528) rfl ?_
  refine v_sld hG hX hn hi (k := 3) (by decide) rfl dL_law_1528 (q := 1529) rfl ?_
  refine v_cV3I hG cvX7_sheet ml_RL_181 rfl kk_59 (w_X7_sheet h2) (Nat.le_of_ble_eq_true rfl) dL_law_1529 (q := 1532) rfl ?_
  exact v_icmp_eq hG dL_law_1532 (tgt := 1784) rfl (q := 1535) rfl (fun _ => kk M2 h3) (fun e => absurd rfl e)
theorem lc_41 (hG : Gd E mL_law G) (hX : Sc E G n xs) (hn : n ≤ 3072) (hi : i + 6 ≤ n) (hR : Rel M M) (kk : ∀ M', Rel M' M' → V E G 1784 (LL i) [] M') : V E G 1537 (LL i) [] M := by
  obtain ⟨r, M1, M2, h1, h2, h3⟩ := bo_write (xs (i + 1)) (xs (i + 2)) (xs (i + 3)) M hR
  unfold LL at kk ⊢
  refine v_aload_1 hG dL_law_1537 (q := 1538) rfl ?_
  refine v_aload_0 hG dL_law_1538 (q := 1539) rfl ?_
  refine v_iload_3 hG dL_law_1539 (q := 1540) rfl ?_
  refine v_iconst hG ci_1 dL_law_1540 (q := 1541) rfl ?_
  refine v_iadd hG dL_law_1541 (q := 1542) rfl ?_
  refine v_sld hG hX hn hi (k := 1) (by decide) rfl dL_law_1542 (q := 1543) rfl ?_
  refine v_aload_0 hG dL_law_1543 (q := 1544) rfl ?_
  refine v_iload_3 hG dL_law_1544 (q := 1545) rfl ?_
  refine v_iconst hG ci_2 dL_law_1545 (q := 1546) rfl ?_
  refine v_iadd hG dL_law_1546 (q := 1547) rfl ?_
  refine v_sld hG hX hn hi (k := 2) (by decide) rfl dL_law_1547 (q := 1548) rfl ?_
  refine v_aload_0 hG dL_law_1548 (q := 1549) rfl ?_
  refine v_iload_3 hG dL_law_1549 (q := 1550) rfl ?_
  refine v_iconst hG ci_3 dL_law_1550 (q := 1551) rfl ?_
  refine v_iadd hG dL_law_1551 (q := 1552) rfl ?_
  refine v_sld hG hX hn hi (k := 3) (by decide) rfl dL_law_1552 (q := 1553) rfl ?_
  refine v_cV3I hG cvX6_write ml_RL_182 rfl kk_0 (w_X6_write h1) (Nat.le_of_ble_eq_true rfl) dL_law_1553 (q := 1556) rfl ?_
  refine v_aload_2 hG dL_law_1556 (q := 1557) rfl ?_
  refine v_aload_0 hG dL_law_1557 (q := 1558) rfl ?_
  refine v_iload_3 hG dL_law_1558 (q := 1559) rfl ?_
  refine v_iconst hG ci_1 dL_law_1559 (q := 1560) rfl ?_
  refine v_iadd hG dL_law_1560 (q := 1561) rfl ?_
  refine v_sld hG hX hn hi (k := 1) (by decide) rfl dL_law_1561 (q := 1562) rfl ?_
  refine v_aload_0 hG dL_law_1562 (q := 1563) rfl ?_
  refine v_iload_3 hG dL_law_1563 (q := 1564) rfl ?_
  refine v_iconst hG ci_2 dL_law_1564 (q := 1565) rfl ?_
  refine v_iadd hG dL_law_1565 (q := 1566) rfl ?_
  refine v_sld hG hX hn hi (k := 2) (by decide) rfl dL_law_1566 (q := 1567) rfl ?_
  refine v_aload_0 hG dL_law_1567 (q := 1568) rfl ?_
  refine v_iload_3 hG dL_law_1568 (q := 1569) rfl ?_
  refine v_iconst hG ci_3 dL_law_1569 (q := 1570) rfl ?_
  refine v_iadd hG dL_law_1570 (q := 1571) rfl ?_
  refine v_sld hG hX hn hi (k := 3) (by decide) rfl dL_law_1571 (q := 1572) rfl ?_
  refine v_cV3I hG cvX7_write ml_RL_185 rfl kk_59 (w_X7_write h2) (Nat.le_of_ble_eq_true rfl) dL_law_1572 (q := 1575) rfl ?_
  exact v_icmp_eq hG dL_law_1575 (tgt := 1784) rfl (q := 1578) rfl (fun _ => kk M2 h3) (fun e => absurd rfl e)
theorem lc_42 (hG : Gd E mL_law G) (hX : Sc E G n xs) (hn : n ≤ 3072) (hi : i + 6 ≤ n) (hR : Rel M M) (kk : ∀ M', Rel M' M' → V E G 1784 (LL i) [] M') : V E G 1580 (LL i) [] M := by
  obtain ⟨r, M1, M2, h1, h2, h3⟩ := bo_copy (xs (i + 1)) (xs (i + 2)) (xs (i + 3)) (xs (i + 4)) (xs (i + 5)) M hR
  unfold LL at kk ⊢
  refine v_aload_1 hG dL_law_1580 (q := 1581) rfl ?_
  refine v_aload_0 hG dL_law_1581 (q := 1582) rfl ?_
  refine v_iload_3 hG dL_law_1582 (q := 1583) rfl ?_
  refine v_iconst hG ci_1 dL_law_1583 (q := 1584) rfl ?_
  refine v_iadd hG dL_law_1584 (q := 1585) rfl ?_
  refine v_sld hG hX hn hi (k := 1) (by decide) rfl dL_law_1585 (q := 1586) rfl ?_
  refine v_aload_0 hG dL_law_1586 (q := 1587) rfl ?_
  refine v_iload_3 hG dL_law_1587 (q := 1588) rfl ?_
  refine v_iconst hG ci_2 dL_law_1588 (q := 1589) rfl ?_
  refine v_iadd hG dL_law_1589 (q := 1590) rfl ?_
  refine v_sld hG hX hn hi (k := 2) (by decide) rfl dL_law_1590 (q := 1591) rfl ?_
  refine v_aload_0 hG dL_law_1591 (q := 1592) rfl ?_
  refine v_iload_3 hG dL_law_1592 (q := 1593) rfl ?_
  refine v_iconst hG ci_3 dL_law_1593 (q := 1594) rfl ?_
  refine v_iadd hG dL_law_1594 (q := 1595) rfl ?_
  refine v_sld hG hX hn hi (k := 3) (by decide) rfl dL_law_1595 (q := 1596) rfl ?_
  refine v_aload_0 hG dL_law_1596 (q := 1597) rfl ?_
  refine v_iload_3 hG dL_law_1597 (q := 1598) rfl ?_
  refine v_iconst hG ci_4 dL_law_1598 (q := 1599) rfl ?_
  refine v_iadd hG dL_law_1599 (q := 1600) rfl ?_
  refine v_sld hG hX hn hi (k := 4) (by decide) rfl dL_law_1600 (q := 1601) rfl ?_
  refine v_aload_0 hG dL_law_1601 (q := 1602) rfl ?_
  refine v_iload_3 hG dL_law_1602 (q := 1603) rfl ?_
  refine v_iconst hG ci_5 dL_law_1603 (q := 1604) rfl ?_
  refine v_iadd hG dL_law_1604 (q := 1605) rfl ?_
  refine v_sld hG hX hn hi (k := 5) (by decide) rfl dL_law_1605 (q := 1606) rfl ?_
  refine v_cV5I hG cvX6_copy ml_RL_186 rfl kk_0 (w_X6_copy h1) (Nat.le_of_ble_eq_true rfl) dL_law_1606 (q := 1609) rfl ?_
  refine v_aload_2 hG dL_law_1609 (q := 1610) rfl ?_
  refine v_aload_0 hG dL_law_1610 (q := 1611) rfl ?_
  refine v_iload_3 hG dL_law_1611 (q := 1612) rfl ?_
  refine v_iconst hG ci_1 dL_law_1612 (q := 1613) rfl ?_
  refine v_iadd hG dL_law_1613 (q := 1614) rfl ?_
  refine v_sld hG hX hn hi (k := 1) (by decide) rfl dL_law_1614 (q := 1615) rfl ?_
  refine v_aload_0 hG dL_law_1615 (q := 1616) rfl ?_
  refine v_iload_3 hG dL_law_1616 (q := 1617) rfl ?_
  refine v_iconst hG ci_2 dL_law_1617 (q := 1618) rfl ?_
  refine v_iadd hG dL_law_1618 (q := 1619) rfl ?_
  refine v_sld hG hX hn hi (k := 2) (by decide) rfl dL_law_1619 (q := 1620) rfl ?_
  refine v_aload_0 hG dL_law_1620 (q := 1621) rfl ?_
  refine v_iload_3 hG dL_law_1621 (q := 1622) rfl ?_
  refine v_iconst hG ci_3 dL_law_1622 (q := 1623) rfl ?_
  refine v_iadd hG dL_law_1623 (q := 1624) rfl ?_
  refine v_sld hG hX hn hi (k := 3) (by decide) rfl dL_law_1624 (q := 1625) rfl ?_
  refine v_aload_0 hG dL_law_1625 (q := 1626) rfl ?_
  refine v_iload_3 hG dL_law_1626 (q := 1627) rfl ?_
  refine v_iconst hG ci_4 dL_law_1627 (q := 1628) rfl ?_
  refine v_iadd hG dL_law_1628 (q := 1629) rfl ?_
  refine v_sld hG hX hn hi (k := 4) (by decide) rfl dL_law_1629 (q := 1630) rfl ?_
  refine v_aload_0 hG dL_law_1630 (q := 1631) rfl ?_
  refine v_iload_3 hG dL_law_1631 (q := 1632) rfl ?_
  refine v_iconst hG ci_5 dL_law_1632 (q := 1633) rfl ?_
  refine v_iadd hG dL_law_1633 (q := 1634) rfl ?_
  refine v_sld hG hX hn hi (k := 5) (by decide) rfl dL_law_1634 (q := 1635) rfl ?_
  refine v_cV5I hG cvX7_copy ml_RL_190 rfl kk_59 (w_X7_copy h2) (Nat.le_of_ble_eq_true rfl) dL_law_1635 (q := 1638) rfl ?_
  exact v_icmp_eq hG dL_law_1638 (tgt := 1784) rfl (q := 1641) rfl (fun _ => kk M2 h3) (fun e => absurd rfl e)
theorem lc_43 (hG : Gd E mL_law G) (hX : Sc E G n xs) (hn : n ≤ 3072) (hi : i + 6 ≤ n) (hR : Rel M M) (kk : ∀ M', Rel M' M' → V E G 1784 (LL i) [] M') : V E G 1643 (LL i) [] M := by
  obtain ⟨r, M1, M2, h1, h2, h3⟩ := bo_load (xs (i + 1)) M hR
  unfold LL at kk ⊢
  refine v_aload_1 hG dL_law_1643 (q := 1644) rfl ?_
  refine v_aload_0 hG dL_law_1644 (q := 1645) rfl ?_
  refine v_iload_3 hG dL_law_1645 (q := 1646) rfl ?_
  refine v_iconst hG ci_1 dL_law_1646 (q := 1647) rfl ?_
  refine v_iadd hG dL_law_1647 (q := 1648) rfl ?_
  refine v_sld hG hX hn hi (k := 1) (by decide) rfl dL_law_1648 (q := 1649) rfl ?_
  refine v_cV1I hG cvX6_load ml_RL_191 rfl kk_0 (w_X6_load h1) (Nat.le_of_ble_eq_true rfl) dL_law_1649 (q := 1652) rfl ?_
  refine v_aload_2 hG dL_law_1652 (q := 1653) rfl ?_
  refine v_aload_0 hG dL_law_1653 (q := 1654) rfl ?_
  refine v_iload_3 hG dL_law_1654 (q := 1655) rfl ?_
  refine v_iconst hG ci_1 dL_law_1655 (q := 1656) rfl ?_
  refine v_iadd hG dL_law_1656 (q := 1657) rfl ?_
  refine v_sld hG hX hn hi (k := 1) (by decide) rfl dL_law_1657 (q := 1658) rfl ?_
  refine v_cV1I hG cvX7_load ml_RL_194 rfl kk_59 (w_X7_load h2) (Nat.le_of_ble_eq_true rfl) dL_law_1658 (q := 1661) rfl ?_
  exact v_icmp_eq hG dL_law_1661 (tgt := 1784) rfl (q := 1664) rfl (fun _ => kk M2 h3) (fun e => absurd rfl e)
theorem lc_44 (hG : Gd E mL_law G) (hX : Sc E G n xs) (hn : n ≤ 3072) (hi : i + 6 ≤ n) (hR : Rel M M) (kk : ∀ M', Rel M' M' → V E G 1784 (LL i) [] M') : V E G 1666 (LL i) [] M := by
  obtain ⟨r, M1, M2, h1, h2, h3⟩ := bo_judge (xs (i + 1)) (xs (i + 2)) M hR
  unfold LL at kk ⊢
  refine v_aload_1 hG dL_law_1666 (q := 1667) rfl ?_
  refine v_aload_0 hG dL_law_1667 (q := 1668) rfl ?_
  refine v_iload_3 hG dL_law_1668 (q := 1669) rfl ?_
  refine v_iconst hG ci_1 dL_law_1669 (q := 1670) rfl ?_
  refine v_iadd hG dL_law_1670 (q := 1671) rfl ?_
  refine v_sld hG hX hn hi (k := 1) (by decide) rfl dL_law_1671 (q := 1672) rfl ?_
  refine v_aload_0 hG dL_law_1672 (q := 1673) rfl ?_
  refine v_iload_3 hG dL_law_1673 (q := 1674) rfl ?_
  refine v_iconst hG ci_2 dL_law_1674 (q := 1675) rfl ?_
  refine v_iadd hG dL_law_1675 (q := 1676) rfl ?_
  refine v_sld hG hX hn hi (k := 2) (by decide) rfl dL_law_1676 (q := 1677) rfl ?_
  refine v_cV2I hG cvX6_judge ml_RL_195 rfl kk_0 (w_X6_judge h1) (Nat.le_of_ble_eq_true rfl) dL_law_1677 (q := 1680) rfl ?_
  refine v_aload_2 hG dL_law_1680 (q := 1681) rfl ?_
  refine v_aload_0 hG dL_law_1681 (q := 1682) rfl ?_
  refine v_iload_3 hG dL_law_1682 (q := 1683) rfl ?_
  refine v_iconst hG ci_1 dL_law_1683 (q := 1684) rfl ?_
  refine v_iadd hG dL_law_1684 (q := 1685) rfl ?_
  refine v_sld hG hX hn hi (k := 1) (by decide) rfl dL_law_1685 (q := 1686) rfl ?_
  refine v_aload_0 hG dL_law_1686 (q := 1687) rfl ?_
  refine v_iload_3 hG dL_law_1687 (q := 1688) rfl ?_
  refine v_iconst hG ci_2 dL_law_1688 (q := 1689) rfl ?_
  refine v_iadd hG dL_law_1689 (q := 1690) rfl ?_
  refine v_sld hG hX hn hi (k := 2) (by decide) rfl dL_law_1690 (q := 1691) rfl ?_
  refine v_cV2I hG cvX7_judge ml_RL_198 rfl kk_59 (w_X7_judge h2) (Nat.le_of_ble_eq_true rfl) dL_law_1691 (q := 1694) rfl ?_
  exact v_icmp_eq hG dL_law_1694 (tgt := 1784) rfl (q := 1697) rfl (fun _ => kk M2 h3) (fun e => absurd rfl e)
theorem lc_45 (hG : Gd E mL_law G) (hX : Sc E G n xs) (hn : n ≤ 3072) (hi : i + 6 ≤ n) (hR : Rel M M) (kk : ∀ M', Rel M' M' → V E G 1784 (LL i) [] M') : V E G 1699 (LL i) [] M := by
  obtain ⟨r, M1, M2, h1, h2, h3⟩ := bo_image  M hR
  unfold LL at kk ⊢
  refine v_aload_1 hG dL_law_1699 (q := 1700) rfl ?_
  refine v_cV0I hG cvX6_image ml_RL_199 rfl kk_0 (w_X6_image h1) (Nat.le_of_ble_eq_true rfl) dL_law_1700 (q := 1703) rfl ?_
  refine v_aload_2 hG dL_law_1703 (q := 1704) rfl ?_
  refine v_cV0I hG cvX7_image ml_RL_202 rfl kk_59 (w_X7_image h2) (Nat.le_of_ble_eq_true rfl) dL_law_1704 (q := 1707) rfl ?_
  exact v_icmp_eq hG dL_law_1707 (tgt := 1784) rfl (q := 1710) rfl (fun _ => kk M2 h3) (fun e => absurd rfl e)
theorem lc_46 (hG : Gd E mL_law G) (hX : Sc E G n xs) (hn : n ≤ 3072) (hi : i + 6 ≤ n) (hR : Rel M M) (kk : ∀ M', Rel M' M' → V E G 1784 (LL i) [] M') : V E G 1712 (LL i) [] M := by
  obtain ⟨r, M1, M2, h1, h2, h3⟩ := bo_undo  M hR
  unfold LL at kk ⊢
  refine v_aload_1 hG dL_law_1712 (q := 1713) rfl ?_
  refine v_cV0I hG cvX6_undo ml_RL_203 rfl kk_0 (w_X6_undo h1) (Nat.le_of_ble_eq_true rfl) dL_law_1713 (q := 1716) rfl ?_
  refine v_aload_2 hG dL_law_1716 (q := 1717) rfl ?_
  refine v_cV0I hG cvX7_undo ml_RL_206 rfl kk_59 (w_X7_undo h2) (Nat.le_of_ble_eq_true rfl) dL_law_1717 (q := 1720) rfl ?_
  exact v_icmp_eq hG dL_law_1720 (tgt := 1784) rfl (q := 1723) rfl (fun _ => kk M2 h3) (fun e => absurd rfl e)
theorem lc_47 (hG : Gd E mL_law G) (hX : Sc E G n xs) (hn : n ≤ 3072) (hi : i + 6 ≤ n) (hR : Rel M M) (kk : ∀ M', Rel M' M' → V E G 1784 (LL i) [] M') : V E G 1725 (LL i) [] M := by
  obtain ⟨r, M1, M2, h1, h2, h3⟩ := bo_tear  M hR
  unfold LL at kk ⊢
  refine v_aload_1 hG dL_law_1725 (q := 1726) rfl ?_
  refine v_cV0I hG cvX6_tear ml_RL_207 rfl kk_0 (w_X6_tear h1) (Nat.le_of_ble_eq_true rfl) dL_law_1726 (q := 1729) rfl ?_
  refine v_aload_2 hG dL_law_1729 (q := 1730) rfl ?_
  refine v_cV0I hG cvX7_tear ml_RL_210 rfl kk_59 (w_X7_tear h2) (Nat.le_of_ble_eq_true rfl) dL_law_1730 (q := 1733) rfl ?_
  exact v_icmp_eq hG dL_law_1733 (tgt := 1784) rfl (q := 1736) rfl (fun _ => kk M2 h3) (fun e => absurd rfl e)
theorem lc_48 (hG : Gd E mL_law G) (hX : Sc E G n xs) (hn : n ≤ 3072) (hi : i + 6 ≤ n) (hR : Rel M M) (kk : ∀ M', Rel M' M' → V E G 1784 (LL i) [] M') : V E G 1738 (LL i) [] M := by
  obtain ⟨r, M1, M2, h1, h2, h3⟩ := bo_count (xs (i + 1)) M hR
  unfold LL at kk ⊢
  refine v_aload_1 hG dL_law_1738 (q := 1739) rfl ?_
  refine v_aload_0 hG dL_law_1739 (q := 1740) rfl ?_
  refine v_iload_3 hG dL_law_1740 (q := 1741) rfl ?_
  refine v_iconst hG ci_1 dL_law_1741 (q := 1742) rfl ?_
  refine v_iadd hG dL_law_1742 (q := 1743) rfl ?_
  refine v_sld hG hX hn hi (k := 1) (by decide) rfl dL_law_1743 (q := 1744) rfl ?_
  refine v_cV1I hG cvX6_count ml_RL_211 rfl kk_0 (w_X6_count h1) (Nat.le_of_ble_eq_true rfl) dL_law_1744 (q := 1747) rfl ?_
  refine v_aload_2 hG dL_law_1747 (q := 1748) rfl ?_
  refine v_aload_0 hG dL_law_1748 (q := 1749) rfl ?_
  refine v_iload_3 hG dL_law_1749 (q := 1750) rfl ?_
  refine v_iconst hG ci_1 dL_law_1750 (q := 1751) rfl ?_
  refine v_iadd hG dL_law_1751 (q := 1752) rfl ?_
  refine v_sld hG hX hn hi (k := 1) (by decide) rfl dL_law_1752 (q := 1753) rfl ?_
  refine v_cV1I hG cvX7_count ml_RL_214 rfl kk_59 (w_X7_count h2) (Nat.le_of_ble_eq_true rfl) dL_law_1753 (q := 1756) rfl ?_
  exact v_icmp_eq hG dL_law_1756 (tgt := 1784) rfl (q := 1759) rfl (fun _ => kk M2 h3) (fun e => absurd rfl e)
theorem lc_49 (hG : Gd E mL_law G) (hX : Sc E G n xs) (hn : n ≤ 3072) (hi : i + 6 ≤ n) (hR : Rel M M) (kk : ∀ M', Rel M' M' → V E G 1784 (LL i) [] M') : V E G 1761 (LL i) [] M := by
  obtain ⟨r, M1, M2, h1, h2, h3⟩ := bo_status (xs (i + 1)) M hR
  unfold LL at kk ⊢
  refine v_aload_1 hG dL_law_1761 (q := 1762) rfl ?_
  refine v_aload_0 hG dL_law_1762 (q := 1763) rfl ?_
  refine v_iload_3 hG dL_law_1763 (q := 1764) rfl ?_
  refine v_iconst hG ci_1 dL_law_1764 (q := 1765) rfl ?_
  refine v_iadd hG dL_law_1765 (q := 1766) rfl ?_
  refine v_sld hG hX hn hi (k := 1) (by decide) rfl dL_law_1766 (q := 1767) rfl ?_
  refine v_cV1I hG cvX6_status ml_RL_215 rfl kk_0 (w_X6_status h1) (Nat.le_of_ble_eq_true rfl) dL_law_1767 (q := 1770) rfl ?_
  refine v_aload_2 hG dL_law_1770 (q := 1771) rfl ?_
  refine v_aload_0 hG dL_law_1771 (q := 1772) rfl ?_
  refine v_iload_3 hG dL_law_1772 (q := 1773) rfl ?_
  refine v_iconst hG ci_1 dL_law_1773 (q := 1774) rfl ?_
  refine v_iadd hG dL_law_1774 (q := 1775) rfl ?_
  refine v_sld hG hX hn hi (k := 1) (by decide) rfl dL_law_1775 (q := 1776) rfl ?_
  refine v_cV1I hG cvX7_status ml_RL_218 rfl kk_59 (w_X7_status h2) (Nat.le_of_ble_eq_true rfl) dL_law_1776 (q := 1779) rfl ?_
  exact v_icmp_eq hG dL_law_1779 (tgt := 1784) rfl (q := 1782) rfl (fun _ => kk M2 h3) (fun e => absurd rfl e)
/-- the law's loop -/
theorem lw_loop (hG : Gd E mL_law G) (hX : Sc E G n xs) (hn : n ≤ 3072) (hend : ∀ (M : Mem) (i : Nat), V E G 1790 (LL i) [] M) : ∀ (d i : Nat) (M : Mem), n < i + 6 * d → i < 4000 → Rel M M → V E G 18 (LL i) [] M := by
  intro d
  induction d with
  | zero =>
    intro i M hd hi hR
    unfold LL
    refine v_iload_3 hG dL_law_18 (q := 19) rfl ?_
    refine v_aload_0 hG dL_law_19 (q := 20) rfl ?_
    refine v_slen hG hX dL_law_20 (q := 21) rfl ?_
    refine v_bipush hG cb_6 dL_law_21 (q := 23) rfl ?_
    refine v_isub hG dL_law_23 (q := 24) rfl ?_
    refine v_icmp_gt hG dL_law_24 (tgt := 1790) rfl (q := 27) rfl (fun _ => hend M i) (fun e => absurd ?_ e)
    rw [lt_t, show (6 : Int32) = nI 6 from rfl, pk_sub_toInt (by omega) (by omega), nI_toInt (by omega)]
    omega
  | succ d ih =>
    intro i M hd hi hR
    have nxt : ∀ M', Rel M' M' → i + 6 ≤ n → V E G 1784 (LL i) [] M' := by
      intro M' hR' hi'
      unfold LL
      refine v_iinc_3 hG rfl dL_law_1784 (congrArg _ ci6L) (q := 1787) rfl ?_
      refine v_goto hG dL_law_1787 (tgt := 18) rfl ?_
      have := ih (i + 6) M' (by omega) (by omega) hR'
      rw [show nI i + 6 = nI (i + 6) from nI_add i 6]
      exact this
    unfold LL
    refine v_iload_3 hG dL_law_18 (q := 19) rfl ?_
    refine v_aload_0 hG dL_law_19 (q := 20) rfl ?_
    refine v_slen hG hX dL_law_20 (q := 21) rfl ?_
    refine v_bipush hG cb_6 dL_law_21 (q := 23) rfl ?_
    refine v_isub hG dL_law_23 (q := 24) rfl ?_
    refine v_icmp_gt hG dL_law_24 (tgt := 1790) rfl (q := 27) rfl (fun _ => hend M i) (fun e => ?_)
    have hi' : i + 6 ≤ n := by
      rw [lt_t, show (6 : Int32) = nI 6 from rfl, pk_sub_toInt (by omega) (by omega), nI_toInt (by omega)] at e
      omega
    refine v_aload_0 hG dL_law_27 (q := 28) rfl ?_
    refine v_iload_3 hG dL_law_28 (q := 29) rfl ?_
    refine v_sld0 hG hX hn (a := i) (by omega) rfl dL_law_29 (q := 30) rfl ?_
    refine v_bipush hG cb_63 dL_law_30 (q := 32) rfl ?_
    refine v_iand hG dL_law_32 (q := 33) rfl ?_
    obtain ⟨c, hc, ec⟩ := pk_andE (xs i) (m := 63) 6 (by decide)
    rw [ec]
    by_cases h50 : c < 50
    case neg =>
      refine v_tabOut hG dL_law_33 (tgt := 1784) (Or.inr (by rw [nI_toInt (by omega)]; omega)) rfl ?_
      exact nxt M hR hi'
    have kk := fun M' hR' => nxt M' hR' hi'
    obtain ⟨c, rfl⟩ : ∃ f : Fin 50, f.1 = c := ⟨⟨c, h50⟩, rfl⟩
    revert hc h50 ec
    match c with
    | ⟨0, _⟩ => exact fun _ _ _ => v_tabIn hG dL_law_33 (tgt := 248) (show ¬ (nI 0).toInt < (0 : Int) by decide) (show ¬ (49 : Int) < (nI 0).toInt by decide) (by rfl) rfl (lc_0 hG hX hn hi' hR kk)
    | ⟨1, _⟩ => exact fun _ _ _ => v_tabIn hG dL_law_33 (tgt := 271) (show ¬ (nI 1).toInt < (0 : Int) by decide) (show ¬ (49 : Int) < (nI 1).toInt by decide) (by rfl) rfl (lc_1 hG hX hn hi' hR kk)
    | ⟨2, _⟩ => exact fun _ _ _ => v_tabIn hG dL_law_33 (tgt := 304) (show ¬ (nI 2).toInt < (0 : Int) by decide) (show ¬ (49 : Int) < (nI 2).toInt by decide) (by rfl) rfl (lc_2 hG hX hn hi' hR kk)
    | ⟨3, _⟩ => exact fun _ _ _ => v_tabIn hG dL_law_33 (tgt := 347) (show ¬ (nI 3).toInt < (0 : Int) by decide) (show ¬ (49 : Int) < (nI 3).toInt by decide) (by rfl) rfl (lc_3 hG hX hn hi' hR kk)
    | ⟨4, _⟩ => exact fun _ _ _ => v_tabIn hG dL_law_33 (tgt := 370) (show ¬ (nI 4).toInt < (0 : Int) by decide) (show ¬ (49 : Int) < (nI 4).toInt by decide) (by rfl) rfl (lc_4 hG hX hn hi' hR kk)
    | ⟨5, _⟩ => exact fun _ _ _ => v_tabIn hG dL_law_33 (tgt := 403) (show ¬ (nI 5).toInt < (0 : Int) by decide) (show ¬ (49 : Int) < (nI 5).toInt by decide) (by rfl) rfl (lc_5 hG hX hn hi' hR kk)
    | ⟨6, _⟩ => exact fun _ _ _ => v_tabIn hG dL_law_33 (tgt := 446) (show ¬ (nI 6).toInt < (0 : Int) by decide) (show ¬ (49 : Int) < (nI 6).toInt by decide) (by rfl) rfl (lc_6 hG hX hn hi' hR kk)
    | ⟨7, _⟩ => exact fun _ _ _ => v_tabIn hG dL_law_33 (tgt := 505) (show ¬ (nI 7).toInt < (0 : Int) by decide) (show ¬ (49 : Int) < (nI 7).toInt by decide) (by rfl) rfl (lc_7 hG hX hn hi' hR kk)
    | ⟨8, _⟩ => exact fun _ _ _ => v_tabIn hG dL_law_33 (tgt := 528) (show ¬ (nI 8).toInt < (0 : Int) by decide) (show ¬ (49 : Int) < (nI 8).toInt by decide) (by rfl) rfl (lc_8 hG hX hn hi' hR kk)
    | ⟨9, _⟩ => exact fun _ _ _ => v_tabIn hG dL_law_33 (tgt := 561) (show ¬ (nI 9).toInt < (0 : Int) by decide) (show ¬ (49 : Int) < (nI 9).toInt by decide) (by rfl) rfl (lc_9 hG hX hn hi' hR kk)
    | ⟨10, _⟩ => exact fun _ _ _ => v_tabIn hG dL_law_33 (tgt := 584) (show ¬ (nI 10).toInt < (0 : Int) by decide) (show ¬ (49 : Int) < (nI 10).toInt by decide) (by rfl) rfl (lc_10 hG hX hn hi' hR kk)
    | ⟨11, _⟩ => exact fun _ _ _ => v_tabIn hG dL_law_33 (tgt := 627) (show ¬ (nI 11).toInt < (0 : Int) by decide) (show ¬ (49 : Int) < (nI 11).toInt by decide) (by rfl) rfl (lc_11 hG hX hn hi' hR kk)
    | ⟨12, _⟩ => exact fun _ _ _ => v_tabIn hG dL_law_33 (tgt := 670) (show ¬ (nI 12).toInt < (0 : Int) by decide) (show ¬ (49 : Int) < (nI 12).toInt by decide) (by rfl) rfl (lc_12 hG hX hn hi' hR kk)
    | ⟨13, _⟩ => exact fun _ _ _ => v_tabIn hG dL_law_33 (tgt := 693) (show ¬ (nI 13).toInt < (0 : Int) by decide) (show ¬ (49 : Int) < (nI 13).toInt by decide) (by rfl) rfl (lc_13 hG hX hn hi' hR kk)
    | ⟨14, _⟩ => exact fun _ _ _ => v_tabIn hG dL_law_33 (tgt := 716) (show ¬ (nI 14).toInt < (0 : Int) by decide) (show ¬ (49 : Int) < (nI 14).toInt by decide) (by rfl) rfl (lc_14 hG hX hn hi' hR kk)
    | ⟨15, _⟩ => exact fun _ _ _ => v_tabIn hG dL_law_33 (tgt := 739) (show ¬ (nI 15).toInt < (0 : Int) by decide) (show ¬ (49 : Int) < (nI 15).toInt by decide) (by rfl) rfl (lc_15 hG hX hn hi' hR kk)
    | ⟨16, _⟩ => exact fun _ _ _ => v_tabIn hG dL_law_33 (tgt := 772) (show ¬ (nI 16).toInt < (0 : Int) by decide) (show ¬ (49 : Int) < (nI 16).toInt by decide) (by rfl) rfl (lc_16 hG hX hn hi' hR kk)
    | ⟨17, _⟩ => exact fun _ _ _ => v_tabIn hG dL_law_33 (tgt := 805) (show ¬ (nI 17).toInt < (0 : Int) by decide) (show ¬ (49 : Int) < (nI 17).toInt by decide) (by rfl) rfl (lc_17 hG hX hn hi' hR kk)
    | ⟨18, _⟩ => exact fun _ _ _ => v_tabIn hG dL_law_33 (tgt := 848) (show ¬ (nI 18).toInt < (0 : Int) by decide) (show ¬ (49 : Int) < (nI 18).toInt by decide) (by rfl) rfl (lc_18 hG hX hn hi' hR kk)
    | ⟨19, _⟩ => exact fun _ _ _ => v_tabIn hG dL_law_33 (tgt := 881) (show ¬ (nI 19).toInt < (0 : Int) by decide) (show ¬ (49 : Int) < (nI 19).toInt by decide) (by rfl) rfl (lc_19 hG hX hn hi' hR kk)
    | ⟨20, _⟩ => exact fun _ _ _ => v_tabIn hG dL_law_33 (tgt := 924) (show ¬ (nI 20).toInt < (0 : Int) by decide) (show ¬ (49 : Int) < (nI 20).toInt by decide) (by rfl) rfl (lc_20 hG hX hn hi' hR kk)
    | ⟨21, _⟩ => exact fun _ _ _ => v_tabIn hG dL_law_33 (tgt := 957) (show ¬ (nI 21).toInt < (0 : Int) by decide) (show ¬ (49 : Int) < (nI 21).toInt by decide) (by rfl) rfl (lc_21 hG hX hn hi' hR kk)
    | ⟨22, _⟩ => exact fun _ _ _ => v_tabIn hG dL_law_33 (tgt := 990) (show ¬ (nI 22).toInt < (0 : Int) by decide) (show ¬ (49 : Int) < (nI 22).toInt by decide) (by rfl) rfl (lc_22 hG hX hn hi' hR kk)
    | ⟨23, _⟩ => exact fun _ _ _ => v_tabIn hG dL_law_33 (tgt := 1033) (show ¬ (nI 23).toInt < (0 : Int) by decide) (show ¬ (49 : Int) < (nI 23).toInt by decide) (by rfl) rfl (lc_23 hG hX hn hi' hR kk)
    | ⟨24, _⟩ => exact fun _ _ _ => v_tabIn hG dL_law_33 (tgt := 1056) (show ¬ (nI 24).toInt < (0 : Int) by decide) (show ¬ (49 : Int) < (nI 24).toInt by decide) (by rfl) rfl (lc_24 hG hX hn hi' hR kk)
    | ⟨25, _⟩ => exact fun _ _ _ => v_tabIn hG dL_law_33 (tgt := 1079) (show ¬ (nI 25).toInt < (0 : Int) by decide) (show ¬ (49 : Int) < (nI 25).toInt by decide) (by rfl) rfl (lc_25 hG hX hn hi' hR kk)
    | ⟨26, _⟩ => exact fun _ _ _ => v_tabIn hG dL_law_33 (tgt := 1122) (show ¬ (nI 26).toInt < (0 : Int) by decide) (show ¬ (49 : Int) < (nI 26).toInt by decide) (by rfl) rfl (lc_26 hG hX hn hi' hR kk)
    | ⟨27, _⟩ => exact fun _ _ _ => v_tabIn hG dL_law_33 (tgt := 1145) (show ¬ (nI 27).toInt < (0 : Int) by decide) (show ¬ (49 : Int) < (nI 27).toInt by decide) (by rfl) rfl (lc_27 hG hX hn hi' hR kk)
    | ⟨28, _⟩ => exact fun _ _ _ => v_tabIn hG dL_law_33 (tgt := 1178) (show ¬ (nI 28).toInt < (0 : Int) by decide) (show ¬ (49 : Int) < (nI 28).toInt by decide) (by rfl) rfl (lc_28 hG hX hn hi' hR kk)
    | ⟨29, _⟩ => exact fun _ _ _ => v_tabIn hG dL_law_33 (tgt := 1201) (show ¬ (nI 29).toInt < (0 : Int) by decide) (show ¬ (49 : Int) < (nI 29).toInt by decide) (by rfl) rfl (lc_29 hG hX hn hi' hR kk)
    | ⟨30, _⟩ => exact fun _ _ _ => v_tabIn hG dL_law_33 (tgt := 1244) (show ¬ (nI 30).toInt < (0 : Int) by decide) (show ¬ (49 : Int) < (nI 30).toInt by decide) (by rfl) rfl (lc_30 hG hX hn hi' hR kk)
    | ⟨31, _⟩ => exact fun _ _ _ => v_tabIn hG dL_law_33 (tgt := 1267) (show ¬ (nI 31).toInt < (0 : Int) by decide) (show ¬ (49 : Int) < (nI 31).toInt by decide) (by rfl) rfl (lc_31 hG hX hn hi' hR kk)
    | ⟨32, _⟩ => exact fun _ _ _ => v_tabIn hG dL_law_33 (tgt := 1300) (show ¬ (nI 32).toInt < (0 : Int) by decide) (show ¬ (49 : Int) < (nI 32).toInt by decide) (by rfl) rfl (lc_32 hG hX hn hi' hR kk)
    | ⟨33, _⟩ => exact fun _ _ _ => v_tabIn hG dL_law_33 (tgt := 1323) (show ¬ (nI 33).toInt < (0 : Int) by decide) (show ¬ (49 : Int) < (nI 33).toInt by decide) (by rfl) rfl (lc_33 hG hX hn hi' hR kk)
    | ⟨34, _⟩ => exact fun _ _ _ => v_tabIn hG dL_law_33 (tgt := 1346) (show ¬ (nI 34).toInt < (0 : Int) by decide) (show ¬ (49 : Int) < (nI 34).toInt by decide) (by rfl) rfl (lc_34 hG hX hn hi' hR kk)
    | ⟨35, _⟩ => exact fun _ _ _ => v_tabIn hG dL_law_33 (tgt := 1369) (show ¬ (nI 35).toInt < (0 : Int) by decide) (show ¬ (49 : Int) < (nI 35).toInt by decide) (by rfl) rfl (lc_35 hG hX hn hi' hR kk)
    | ⟨36, _⟩ => exact fun _ _ _ => v_tabIn hG dL_law_33 (tgt := 1402) (show ¬ (nI 36).toInt < (0 : Int) by decide) (show ¬ (49 : Int) < (nI 36).toInt by decide) (by rfl) rfl (lc_36 hG hX hn hi' hR kk)
    | ⟨37, _⟩ => exact fun _ _ _ => v_tabIn hG dL_law_33 (tgt := 1415) (show ¬ (nI 37).toInt < (0 : Int) by decide) (show ¬ (49 : Int) < (nI 37).toInt by decide) (by rfl) rfl (lc_37 hG hX hn hi' hR kk)
    | ⟨38, _⟩ => exact fun _ _ _ => v_tabIn hG dL_law_33 (tgt := 1428) (show ¬ (nI 38).toInt < (0 : Int) by decide) (show ¬ (49 : Int) < (nI 38).toInt by decide) (by rfl) rfl (lc_38 hG hX hn hi' hR kk)
    | ⟨39, _⟩ => exact fun _ _ _ => v_tabIn hG dL_law_33 (tgt := 1461) (show ¬ (nI 39).toInt < (0 : Int) by decide) (show ¬ (49 : Int) < (nI 39).toInt by decide) (by rfl) rfl (lc_39 hG hX hn hi' hR kk)
    | ⟨40, _⟩ => exact fun _ _ _ => v_tabIn hG dL_law_33 (tgt := 1494) (show ¬ (nI 40).toInt < (0 : Int) by decide) (show ¬ (49 : Int) < (nI 40).toInt by decide) (by rfl) rfl (lc_40 hG hX hn hi' hR kk)
    | ⟨41, _⟩ => exact fun _ _ _ => v_tabIn hG dL_law_33 (tgt := 1537) (show ¬ (nI 41).toInt < (0 : Int) by decide) (show ¬ (49 : Int) < (nI 41).toInt by decide) (by rfl) rfl (lc_41 hG hX hn hi' hR kk)
    | ⟨42, _⟩ => exact fun _ _ _ => v_tabIn hG dL_law_33 (tgt := 1580) (show ¬ (nI 42).toInt < (0 : Int) by decide) (show ¬ (49 : Int) < (nI 42).toInt by decide) (by rfl) rfl (lc_42 hG hX hn hi' hR kk)
    | ⟨43, _⟩ => exact fun _ _ _ => v_tabIn hG dL_law_33 (tgt := 1643) (show ¬ (nI 43).toInt < (0 : Int) by decide) (show ¬ (49 : Int) < (nI 43).toInt by decide) (by rfl) rfl (lc_43 hG hX hn hi' hR kk)
    | ⟨44, _⟩ => exact fun _ _ _ => v_tabIn hG dL_law_33 (tgt := 1666) (show ¬ (nI 44).toInt < (0 : Int) by decide) (show ¬ (49 : Int) < (nI 44).toInt by decide) (by rfl) rfl (lc_44 hG hX hn hi' hR kk)
    | ⟨45, _⟩ => exact fun _ _ _ => v_tabIn hG dL_law_33 (tgt := 1699) (show ¬ (nI 45).toInt < (0 : Int) by decide) (show ¬ (49 : Int) < (nI 45).toInt by decide) (by rfl) rfl (lc_45 hG hX hn hi' hR kk)
    | ⟨46, _⟩ => exact fun _ _ _ => v_tabIn hG dL_law_33 (tgt := 1712) (show ¬ (nI 46).toInt < (0 : Int) by decide) (show ¬ (49 : Int) < (nI 46).toInt by decide) (by rfl) rfl (lc_46 hG hX hn hi' hR kk)
    | ⟨47, _⟩ => exact fun _ _ _ => v_tabIn hG dL_law_33 (tgt := 1725) (show ¬ (nI 47).toInt < (0 : Int) by decide) (show ¬ (49 : Int) < (nI 47).toInt by decide) (by rfl) rfl (lc_47 hG hX hn hi' hR kk)
    | ⟨48, _⟩ => exact fun _ _ _ => v_tabIn hG dL_law_33 (tgt := 1738) (show ¬ (nI 48).toInt < (0 : Int) by decide) (show ¬ (49 : Int) < (nI 48).toInt by decide) (by rfl) rfl (lc_48 hG hX hn hi' hR kk)
    | ⟨49, _⟩ => exact fun _ _ _ => v_tabIn hG dL_law_33 (tgt := 1761) (show ¬ (nI 49).toInt < (0 : Int) by decide) (show ¬ (49 : Int) < (nI 49).toInt by decide) (by rfl) rfl (lc_49 hG hX hn hi' hR kk)
    | ⟨z + 50, hz⟩ => exact absurd hz (by omega)
end LAW
