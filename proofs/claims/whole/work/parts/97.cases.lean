/-! the law: its cases (by program: wip/whole/tools/gen97.py) -/
def SL (Z : ZT) (b L : Nat) (xs : Nat → Int32) : Prop := va_X b L xs (zs Z) (zs Z).heap ∧ b < (zs Z).heap.size ∧ ¬ zA Z b
abbrev lsL (Z : ZT) (b i : Nat) : List (Nat × Value) := [(0, .ref b), (1, .ref ((zg Z).1 0)), (2, .ref ((zg Z).1 42)), (3, .int (nI i))]
section
variable {Z : ZT} {b L i : Nat} {xs : Nat → Int32} {w : Wd} {σ : St}
theorem r_sld {pc j : Nat} {x : Int32} {ls : List (Nat × Value)} {st : List Value} (F : Fx Z RL cL_law 4 13 494) (S : SL Z b L xs) (d : decode cL_law pc = .ok (.iaload, 1)) (hx : x = nI j) (hj : j < L) (hL : L ≤ 2048) (kk : V Z (pc + 1) ls (.int (xs j) :: st) w) : V Z pc ls (.int x :: .ref b :: st) w := fun H locs la h1 h2 h3 => by
  subst hx
  refine va_sld F.1 F.2.1 S.1 S.2.1 S.2.2 h3 (vp_in_nI hj (by omega)) d ?_
  rw [n_cl (by omega)]
  exact kk H locs la h1 h2 h3
theorem r_slen {pc : Nat} {ls : List (Nat × Value)} {st : List Value} (F : Fx Z RL cL_law 4 13 494) (S : SL Z b L xs) (d : decode cL_law pc = .ok (.arraylength, 1)) (kk : V Z (pc + 1) ls (.int (nI L) :: st) w) : V Z pc ls (.ref b :: st) w := fun H locs la h1 h2 h3 =>
  va_slen F.1 F.2.1 S.1 S.2.1 S.2.2 h3 d (kk H locs la h1 h2 h3)
theorem cmpL (r : Int64) : lg_cmp r r = 0 := by
  unfold lg_cmp
  rw [if_neg (fun h : r > r => Int64.lt_irrefl h), if_pos rfl]
set_option maxRecDepth 100000 in
set_option maxHeartbeats 4000000 in
theorem law_0 (F : Fx Z RL cL_law 4 13 494) (S : SL Z b L xs) (hL : L ≤ 2048) (hi : i + 4 ≤ L) (h : R w σ) (next : ∀ w σ, R w σ → V Z 1497 (lsL Z b i) [] w) : V Z 264 (lsL Z b i) [] w := by
  obtain ⟨r, w1, w2, σ2, e9, e10, hR⟩ := q_feed h (xs (i + 1))
  replace e10 : fX10_feed w1 (xs (i + 1)) = some (r, w2) := e10
  refine r_aload_n (pc := 264) F dL_law_264 rfl ?_
  refine r_aload_n (pc := 265) F dL_law_265 rfl ?_
  refine r_iload_n (pc := 266) F dL_law_266 rfl ?_
  refine r_iconst (pc := 267) F dL_law_267 ic_1 ?_
  refine r_iadd (pc := 268) F dL_law_268 ?_
  refine r_sld (pc := 269) (j := i + 1) F S dL_law_269 (n_add i 1) (by omega) hL ?_
  refine r_Vj1 (pc := 270) F dL_law_270 ml_L_13 (kX9_feed _ w (xs (i + 1)) _ e9) i68_0 (ce_0 _ _ _) (Nat.le_of_ble_eq_true rfl) (Nat.le_of_ble_eq_true rfl) (Nat.le_of_ble_eq_true rfl) ?_
  refine r_aload_n (pc := 273) F dL_law_273 rfl ?_
  refine r_aload_n (pc := 274) F dL_law_274 rfl ?_
  refine r_iload_n (pc := 275) F dL_law_275 rfl ?_
  refine r_iconst (pc := 276) F dL_law_276 ic_1 ?_
  refine r_iadd (pc := 277) F dL_law_277 ?_
  refine r_sld (pc := 278) (j := i + 1) F S dL_law_278 (n_add i 1) (by omega) hL ?_
  refine r_Vj1 (pc := 279) F dL_law_279 ml_L_17 (kX10_feed _ w1 (xs (i + 1)) _ e10) i68_42 (ce_42 _ _ _) (Nat.le_of_ble_eq_true rfl) (Nat.le_of_ble_eq_true rfl) (Nat.le_of_ble_eq_true rfl) ?_
  exact r_icmp_eq (pc := 282) (tgt := 1497) F dL_law_282 rfl (β := Bool) (A := true) (B := false) (o := true) (if_pos rfl) (fun _ => next _ _ hR) (fun z => by cases z)
set_option maxRecDepth 100000 in
set_option maxHeartbeats 4000000 in
theorem law_1 (F : Fx Z RL cL_law 4 13 494) (S : SL Z b L xs) (hL : L ≤ 2048) (hi : i + 4 ≤ L) (h : R w σ) (next : ∀ w σ, R w σ → V Z 1497 (lsL Z b i) [] w) : V Z 287 (lsL Z b i) [] w := by
  obtain ⟨r, w1, w2, σ2, e9, e10, hR⟩ := q_road h
  replace e10 : fX10_road w1 = some (r, w2) := e10
  refine r_aload_n (pc := 287) F dL_law_287 rfl ?_
  refine r_Vj0 (pc := 288) F dL_law_288 ml_L_18 (kX9_road _ w _ e9) i68_0 (ce_0 _ _ _) (Nat.le_of_ble_eq_true rfl) (Nat.le_of_ble_eq_true rfl) (Nat.le_of_ble_eq_true rfl) ?_
  refine r_aload_n (pc := 291) F dL_law_291 rfl ?_
  refine r_Vj0 (pc := 292) F dL_law_292 ml_L_22 (kX10_road _ w1 _ e10) i68_42 (ce_42 _ _ _) (Nat.le_of_ble_eq_true rfl) (Nat.le_of_ble_eq_true rfl) (Nat.le_of_ble_eq_true rfl) ?_
  exact r_icmp_eq (pc := 295) (tgt := 1497) F dL_law_295 rfl (β := Bool) (A := true) (B := false) (o := true) (if_pos rfl) (fun _ => next _ _ hR) (fun z => by cases z)
set_option maxRecDepth 100000 in
set_option maxHeartbeats 4000000 in
theorem law_2 (F : Fx Z RL cL_law 4 13 494) (S : SL Z b L xs) (hL : L ≤ 2048) (hi : i + 4 ≤ L) (h : R w σ) (next : ∀ w σ, R w σ → V Z 1497 (lsL Z b i) [] w) : V Z 300 (lsL Z b i) [] w := by
  obtain ⟨r, w1, w2, σ2, e9, e10, hR⟩ := q_person h (xs (i + 1)) (xs (i + 2))
  replace e10 : fX10_person w1 (xs (i + 1)) (xs (i + 2)) = some (r, w2) := e10
  refine r_aload_n (pc := 300) F dL_law_300 rfl ?_
  refine r_aload_n (pc := 301) F dL_law_301 rfl ?_
  refine r_iload_n (pc := 302) F dL_law_302 rfl ?_
  refine r_iconst (pc := 303) F dL_law_303 ic_1 ?_
  refine r_iadd (pc := 304) F dL_law_304 ?_
  refine r_sld (pc := 305) (j := i + 1) F S dL_law_305 (n_add i 1) (by omega) hL ?_
  refine r_aload_n (pc := 306) F dL_law_306 rfl ?_
  refine r_iload_n (pc := 307) F dL_law_307 rfl ?_
  refine r_iconst (pc := 308) F dL_law_308 ic_2 ?_
  refine r_iadd (pc := 309) F dL_law_309 ?_
  refine r_sld (pc := 310) (j := i + 2) F S dL_law_310 (n_add i 2) (by omega) hL ?_
  refine r_Vj2 (pc := 311) F dL_law_311 ml_L_23 (kX9_person _ w (xs (i + 1)) (xs (i + 2)) _ e9) i68_0 (ce_0 _ _ _) (Nat.le_of_ble_eq_true rfl) (Nat.le_of_ble_eq_true rfl) (Nat.le_of_ble_eq_true rfl) ?_
  refine r_aload_n (pc := 314) F dL_law_314 rfl ?_
  refine r_aload_n (pc := 315) F dL_law_315 rfl ?_
  refine r_iload_n (pc := 316) F dL_law_316 rfl ?_
  refine r_iconst (pc := 317) F dL_law_317 ic_1 ?_
  refine r_iadd (pc := 318) F dL_law_318 ?_
  refine r_sld (pc := 319) (j := i + 1) F S dL_law_319 (n_add i 1) (by omega) hL ?_
  refine r_aload_n (pc := 320) F dL_law_320 rfl ?_
  refine r_iload_n (pc := 321) F dL_law_321 rfl ?_
  refine r_iconst (pc := 322) F dL_law_322 ic_2 ?_
  refine r_iadd (pc := 323) F dL_law_323 ?_
  refine r_sld (pc := 324) (j := i + 2) F S dL_law_324 (n_add i 2) (by omega) hL ?_
  refine r_Vj2 (pc := 325) F dL_law_325 ml_L_27 (kX10_person _ w1 (xs (i + 1)) (xs (i + 2)) _ e10) i68_42 (ce_42 _ _ _) (Nat.le_of_ble_eq_true rfl) (Nat.le_of_ble_eq_true rfl) (Nat.le_of_ble_eq_true rfl) ?_
  exact r_icmp_eq (pc := 328) (tgt := 1497) F dL_law_328 rfl (β := Bool) (A := true) (B := false) (o := true) (if_pos rfl) (fun _ => next _ _ hR) (fun z => by cases z)
set_option maxRecDepth 100000 in
set_option maxHeartbeats 4000000 in
theorem law_3 (F : Fx Z RL cL_law 4 13 494) (S : SL Z b L xs) (hL : L ≤ 2048) (hi : i + 4 ≤ L) (h : R w σ) (next : ∀ w σ, R w σ → V Z 1497 (lsL Z b i) [] w) : V Z 333 (lsL Z b i) [] w := by
  obtain ⟨r, w1, w2, σ2, e9, e10, hR⟩ := q_light h (xs (i + 1)) (xs (i + 2))
  replace e10 : fX10_light w1 (xs (i + 1)) (xs (i + 2)) = some (r, w2) := e10
  refine r_aload_n (pc := 333) F dL_law_333 rfl ?_
  refine r_aload_n (pc := 334) F dL_law_334 rfl ?_
  refine r_iload_n (pc := 335) F dL_law_335 rfl ?_
  refine r_iconst (pc := 336) F dL_law_336 ic_1 ?_
  refine r_iadd (pc := 337) F dL_law_337 ?_
  refine r_sld (pc := 338) (j := i + 1) F S dL_law_338 (n_add i 1) (by omega) hL ?_
  refine r_aload_n (pc := 339) F dL_law_339 rfl ?_
  refine r_iload_n (pc := 340) F dL_law_340 rfl ?_
  refine r_iconst (pc := 341) F dL_law_341 ic_2 ?_
  refine r_iadd (pc := 342) F dL_law_342 ?_
  refine r_sld (pc := 343) (j := i + 2) F S dL_law_343 (n_add i 2) (by omega) hL ?_
  refine r_Vj2 (pc := 344) F dL_law_344 ml_L_28 (kX9_light _ w (xs (i + 1)) (xs (i + 2)) _ e9) i68_0 (ce_0 _ _ _) (Nat.le_of_ble_eq_true rfl) (Nat.le_of_ble_eq_true rfl) (Nat.le_of_ble_eq_true rfl) ?_
  refine r_aload_n (pc := 347) F dL_law_347 rfl ?_
  refine r_aload_n (pc := 348) F dL_law_348 rfl ?_
  refine r_iload_n (pc := 349) F dL_law_349 rfl ?_
  refine r_iconst (pc := 350) F dL_law_350 ic_1 ?_
  refine r_iadd (pc := 351) F dL_law_351 ?_
  refine r_sld (pc := 352) (j := i + 1) F S dL_law_352 (n_add i 1) (by omega) hL ?_
  refine r_aload_n (pc := 353) F dL_law_353 rfl ?_
  refine r_iload_n (pc := 354) F dL_law_354 rfl ?_
  refine r_iconst (pc := 355) F dL_law_355 ic_2 ?_
  refine r_iadd (pc := 356) F dL_law_356 ?_
  refine r_sld (pc := 357) (j := i + 2) F S dL_law_357 (n_add i 2) (by omega) hL ?_
  refine r_Vj2 (pc := 358) F dL_law_358 ml_L_31 (kX10_light _ w1 (xs (i + 1)) (xs (i + 2)) _ e10) i68_42 (ce_42 _ _ _) (Nat.le_of_ble_eq_true rfl) (Nat.le_of_ble_eq_true rfl) (Nat.le_of_ble_eq_true rfl) ?_
  exact r_icmp_eq (pc := 361) (tgt := 1497) F dL_law_361 rfl (β := Bool) (A := true) (B := false) (o := true) (if_pos rfl) (fun _ => next _ _ hR) (fun z => by cases z)
set_option maxRecDepth 100000 in
set_option maxHeartbeats 4000000 in
theorem law_4 (F : Fx Z RL cL_law 4 13 494) (S : SL Z b L xs) (hL : L ≤ 2048) (hi : i + 4 ≤ L) (h : R w σ) (next : ∀ w σ, R w σ → V Z 1497 (lsL Z b i) [] w) : V Z 366 (lsL Z b i) [] w := by
  obtain ⟨r, w1, w2, σ2, e9, e10, hR⟩ := q_kind h (xs (i + 1)) (xs (i + 2)) (xs (i + 3))
  replace e10 : fX10_kind w1 (xs (i + 1)) (xs (i + 2)) (xs (i + 3)) = some (r, w2) := e10
  refine r_aload_n (pc := 366) F dL_law_366 rfl ?_
  refine r_aload_n (pc := 367) F dL_law_367 rfl ?_
  refine r_iload_n (pc := 368) F dL_law_368 rfl ?_
  refine r_iconst (pc := 369) F dL_law_369 ic_1 ?_
  refine r_iadd (pc := 370) F dL_law_370 ?_
  refine r_sld (pc := 371) (j := i + 1) F S dL_law_371 (n_add i 1) (by omega) hL ?_
  refine r_aload_n (pc := 372) F dL_law_372 rfl ?_
  refine r_iload_n (pc := 373) F dL_law_373 rfl ?_
  refine r_iconst (pc := 374) F dL_law_374 ic_2 ?_
  refine r_iadd (pc := 375) F dL_law_375 ?_
  refine r_sld (pc := 376) (j := i + 2) F S dL_law_376 (n_add i 2) (by omega) hL ?_
  refine r_aload_n (pc := 377) F dL_law_377 rfl ?_
  refine r_iload_n (pc := 378) F dL_law_378 rfl ?_
  refine r_iconst (pc := 379) F dL_law_379 ic_3 ?_
  refine r_iadd (pc := 380) F dL_law_380 ?_
  refine r_sld (pc := 381) (j := i + 3) F S dL_law_381 (n_add i 3) (by omega) hL ?_
  refine r_Vj3 (pc := 382) F dL_law_382 ml_L_32 (kX9_kind _ w (xs (i + 1)) (xs (i + 2)) (xs (i + 3)) _ e9) i68_0 (ce_0 _ _ _) (Nat.le_of_ble_eq_true rfl) (Nat.le_of_ble_eq_true rfl) (Nat.le_of_ble_eq_true rfl) ?_
  refine r_aload_n (pc := 385) F dL_law_385 rfl ?_
  refine r_aload_n (pc := 386) F dL_law_386 rfl ?_
  refine r_iload_n (pc := 387) F dL_law_387 rfl ?_
  refine r_iconst (pc := 388) F dL_law_388 ic_1 ?_
  refine r_iadd (pc := 389) F dL_law_389 ?_
  refine r_sld (pc := 390) (j := i + 1) F S dL_law_390 (n_add i 1) (by omega) hL ?_
  refine r_aload_n (pc := 391) F dL_law_391 rfl ?_
  refine r_iload_n (pc := 392) F dL_law_392 rfl ?_
  refine r_iconst (pc := 393) F dL_law_393 ic_2 ?_
  refine r_iadd (pc := 394) F dL_law_394 ?_
  refine r_sld (pc := 395) (j := i + 2) F S dL_law_395 (n_add i 2) (by omega) hL ?_
  refine r_aload_n (pc := 396) F dL_law_396 rfl ?_
  refine r_iload_n (pc := 397) F dL_law_397 rfl ?_
  refine r_iconst (pc := 398) F dL_law_398 ic_3 ?_
  refine r_iadd (pc := 399) F dL_law_399 ?_
  refine r_sld (pc := 400) (j := i + 3) F S dL_law_400 (n_add i 3) (by omega) hL ?_
  refine r_Vj3 (pc := 401) F dL_law_401 ml_L_36 (kX10_kind _ w1 (xs (i + 1)) (xs (i + 2)) (xs (i + 3)) _ e10) i68_42 (ce_42 _ _ _) (Nat.le_of_ble_eq_true rfl) (Nat.le_of_ble_eq_true rfl) (Nat.le_of_ble_eq_true rfl) ?_
  exact r_icmp_eq (pc := 404) (tgt := 1497) F dL_law_404 rfl (β := Bool) (A := true) (B := false) (o := true) (if_pos rfl) (fun _ => next _ _ hR) (fun z => by cases z)
set_option maxRecDepth 100000 in
set_option maxHeartbeats 4000000 in
theorem law_5 (F : Fx Z RL cL_law 4 13 494) (S : SL Z b L xs) (hL : L ≤ 2048) (hi : i + 4 ≤ L) (h : R w σ) (next : ∀ w σ, R w σ → V Z 1497 (lsL Z b i) [] w) : V Z 409 (lsL Z b i) [] w := by
  obtain ⟨r, w1, w2, σ2, e9, e10, hR⟩ := q_wind h (xs (i + 1)) (xs (i + 2))
  replace e10 : fX10_wind w1 (xs (i + 1)) (xs (i + 2)) = some (r, w2) := e10
  refine r_aload_n (pc := 409) F dL_law_409 rfl ?_
  refine r_aload_n (pc := 410) F dL_law_410 rfl ?_
  refine r_iload_n (pc := 411) F dL_law_411 rfl ?_
  refine r_iconst (pc := 412) F dL_law_412 ic_1 ?_
  refine r_iadd (pc := 413) F dL_law_413 ?_
  refine r_sld (pc := 414) (j := i + 1) F S dL_law_414 (n_add i 1) (by omega) hL ?_
  refine r_aload_n (pc := 415) F dL_law_415 rfl ?_
  refine r_iload_n (pc := 416) F dL_law_416 rfl ?_
  refine r_iconst (pc := 417) F dL_law_417 ic_2 ?_
  refine r_iadd (pc := 418) F dL_law_418 ?_
  refine r_sld (pc := 419) (j := i + 2) F S dL_law_419 (n_add i 2) (by omega) hL ?_
  refine r_Vj2 (pc := 420) F dL_law_420 ml_L_37 (kX9_wind _ w (xs (i + 1)) (xs (i + 2)) _ e9) i68_0 (ce_0 _ _ _) (Nat.le_of_ble_eq_true rfl) (Nat.le_of_ble_eq_true rfl) (Nat.le_of_ble_eq_true rfl) ?_
  refine r_aload_n (pc := 423) F dL_law_423 rfl ?_
  refine r_aload_n (pc := 424) F dL_law_424 rfl ?_
  refine r_iload_n (pc := 425) F dL_law_425 rfl ?_
  refine r_iconst (pc := 426) F dL_law_426 ic_1 ?_
  refine r_iadd (pc := 427) F dL_law_427 ?_
  refine r_sld (pc := 428) (j := i + 1) F S dL_law_428 (n_add i 1) (by omega) hL ?_
  refine r_aload_n (pc := 429) F dL_law_429 rfl ?_
  refine r_iload_n (pc := 430) F dL_law_430 rfl ?_
  refine r_iconst (pc := 431) F dL_law_431 ic_2 ?_
  refine r_iadd (pc := 432) F dL_law_432 ?_
  refine r_sld (pc := 433) (j := i + 2) F S dL_law_433 (n_add i 2) (by omega) hL ?_
  refine r_Vj2 (pc := 434) F dL_law_434 ml_L_40 (kX10_wind _ w1 (xs (i + 1)) (xs (i + 2)) _ e10) i68_42 (ce_42 _ _ _) (Nat.le_of_ble_eq_true rfl) (Nat.le_of_ble_eq_true rfl) (Nat.le_of_ble_eq_true rfl) ?_
  exact r_icmp_eq (pc := 437) (tgt := 1497) F dL_law_437 rfl (β := Bool) (A := true) (B := false) (o := true) (if_pos rfl) (fun _ => next _ _ hR) (fun z => by cases z)
set_option maxRecDepth 100000 in
set_option maxHeartbeats 4000000 in
theorem law_6 (F : Fx Z RL cL_law 4 13 494) (S : SL Z b L xs) (hL : L ≤ 2048) (hi : i + 4 ≤ L) (h : R w σ) (next : ∀ w σ, R w σ → V Z 1497 (lsL Z b i) [] w) : V Z 442 (lsL Z b i) [] w := by
  obtain ⟨r, w1, w2, σ2, e9, e10, hR⟩ := q_blows h (xs (i + 1)) (xs (i + 2)) (xs (i + 3))
  replace e10 : fX10_blows w1 (xs (i + 1)) (xs (i + 2)) (xs (i + 3)) = some (r, w2) := e10
  refine r_aload_n (pc := 442) F dL_law_442 rfl ?_
  refine r_aload_n (pc := 443) F dL_law_443 rfl ?_
  refine r_iload_n (pc := 444) F dL_law_444 rfl ?_
  refine r_iconst (pc := 445) F dL_law_445 ic_1 ?_
  refine r_iadd (pc := 446) F dL_law_446 ?_
  refine r_sld (pc := 447) (j := i + 1) F S dL_law_447 (n_add i 1) (by omega) hL ?_
  refine r_aload_n (pc := 448) F dL_law_448 rfl ?_
  refine r_iload_n (pc := 449) F dL_law_449 rfl ?_
  refine r_iconst (pc := 450) F dL_law_450 ic_2 ?_
  refine r_iadd (pc := 451) F dL_law_451 ?_
  refine r_sld (pc := 452) (j := i + 2) F S dL_law_452 (n_add i 2) (by omega) hL ?_
  refine r_aload_n (pc := 453) F dL_law_453 rfl ?_
  refine r_iload_n (pc := 454) F dL_law_454 rfl ?_
  refine r_iconst (pc := 455) F dL_law_455 ic_3 ?_
  refine r_iadd (pc := 456) F dL_law_456 ?_
  refine r_sld (pc := 457) (j := i + 3) F S dL_law_457 (n_add i 3) (by omega) hL ?_
  refine r_Vj3 (pc := 458) F dL_law_458 ml_L_41 (kX9_blows _ w (xs (i + 1)) (xs (i + 2)) (xs (i + 3)) _ e9) i68_0 (ce_0 _ _ _) (Nat.le_of_ble_eq_true rfl) (Nat.le_of_ble_eq_true rfl) (Nat.le_of_ble_eq_true rfl) ?_
  refine r_aload_n (pc := 461) F dL_law_461 rfl ?_
  refine r_aload_n (pc := 462) F dL_law_462 rfl ?_
  refine r_iload_n (pc := 463) F dL_law_463 rfl ?_
  refine r_iconst (pc := 464) F dL_law_464 ic_1 ?_
  refine r_iadd (pc := 465) F dL_law_465 ?_
  refine r_sld (pc := 466) (j := i + 1) F S dL_law_466 (n_add i 1) (by omega) hL ?_
  refine r_aload_n (pc := 467) F dL_law_467 rfl ?_
  refine r_iload_n (pc := 468) F dL_law_468 rfl ?_
  refine r_iconst (pc := 469) F dL_law_469 ic_2 ?_
  refine r_iadd (pc := 470) F dL_law_470 ?_
  refine r_sld (pc := 471) (j := i + 2) F S dL_law_471 (n_add i 2) (by omega) hL ?_
  refine r_aload_n (pc := 472) F dL_law_472 rfl ?_
  refine r_iload_n (pc := 473) F dL_law_473 rfl ?_
  refine r_iconst (pc := 474) F dL_law_474 ic_3 ?_
  refine r_iadd (pc := 475) F dL_law_475 ?_
  refine r_sld (pc := 476) (j := i + 3) F S dL_law_476 (n_add i 3) (by omega) hL ?_
  refine r_Vj3 (pc := 477) F dL_law_477 ml_L_44 (kX10_blows _ w1 (xs (i + 1)) (xs (i + 2)) (xs (i + 3)) _ e10) i68_42 (ce_42 _ _ _) (Nat.le_of_ble_eq_true rfl) (Nat.le_of_ble_eq_true rfl) (Nat.le_of_ble_eq_true rfl) ?_
  exact r_icmp_eq (pc := 480) (tgt := 1497) F dL_law_480 rfl (β := Bool) (A := true) (B := false) (o := true) (if_pos rfl) (fun _ => next _ _ hR) (fun z => by cases z)
set_option maxRecDepth 100000 in
set_option maxHeartbeats 4000000 in
theorem law_7 (F : Fx Z RL cL_law 4 13 494) (S : SL Z b L xs) (hL : L ≤ 2048) (hi : i + 4 ≤ L) (h : R w σ) (next : ∀ w σ, R w σ → V Z 1497 (lsL Z b i) [] w) : V Z 485 (lsL Z b i) [] w := by
  obtain ⟨r, w1, w2, σ2, e9, e10, hR⟩ := q_set h (xs (i + 1)) (xs (i + 2))
  replace e10 : fX10_set w1 (xs (i + 1)) (xs (i + 2)) = some (r, w2) := e10
  refine r_aload_n (pc := 485) F dL_law_485 rfl ?_
  refine r_aload_n (pc := 486) F dL_law_486 rfl ?_
  refine r_iload_n (pc := 487) F dL_law_487 rfl ?_
  refine r_iconst (pc := 488) F dL_law_488 ic_1 ?_
  refine r_iadd (pc := 489) F dL_law_489 ?_
  refine r_sld (pc := 490) (j := i + 1) F S dL_law_490 (n_add i 1) (by omega) hL ?_
  refine r_aload_n (pc := 491) F dL_law_491 rfl ?_
  refine r_iload_n (pc := 492) F dL_law_492 rfl ?_
  refine r_iconst (pc := 493) F dL_law_493 ic_2 ?_
  refine r_iadd (pc := 494) F dL_law_494 ?_
  refine r_sld (pc := 495) (j := i + 2) F S dL_law_495 (n_add i 2) (by omega) hL ?_
  refine r_Vj2 (pc := 496) F dL_law_496 ml_L_45 (kX9_set _ w (xs (i + 1)) (xs (i + 2)) _ e9) i68_0 (ce_0 _ _ _) (Nat.le_of_ble_eq_true rfl) (Nat.le_of_ble_eq_true rfl) (Nat.le_of_ble_eq_true rfl) ?_
  refine r_aload_n (pc := 499) F dL_law_499 rfl ?_
  refine r_aload_n (pc := 500) F dL_law_500 rfl ?_
  refine r_iload_n (pc := 501) F dL_law_501 rfl ?_
  refine r_iconst (pc := 502) F dL_law_502 ic_1 ?_
  refine r_iadd (pc := 503) F dL_law_503 ?_
  refine r_sld (pc := 504) (j := i + 1) F S dL_law_504 (n_add i 1) (by omega) hL ?_
  refine r_aload_n (pc := 505) F dL_law_505 rfl ?_
  refine r_iload_n (pc := 506) F dL_law_506 rfl ?_
  refine r_iconst (pc := 507) F dL_law_507 ic_2 ?_
  refine r_iadd (pc := 508) F dL_law_508 ?_
  refine r_sld (pc := 509) (j := i + 2) F S dL_law_509 (n_add i 2) (by omega) hL ?_
  refine r_Vj2 (pc := 510) F dL_law_510 ml_L_48 (kX10_set _ w1 (xs (i + 1)) (xs (i + 2)) _ e10) i68_42 (ce_42 _ _ _) (Nat.le_of_ble_eq_true rfl) (Nat.le_of_ble_eq_true rfl) (Nat.le_of_ble_eq_true rfl) ?_
  exact r_icmp_eq (pc := 513) (tgt := 1497) F dL_law_513 rfl (β := Bool) (A := true) (B := false) (o := true) (if_pos rfl) (fun _ => next _ _ hR) (fun z => by cases z)
set_option maxRecDepth 100000 in
set_option maxHeartbeats 4000000 in
theorem law_8 (F : Fx Z RL cL_law 4 13 494) (S : SL Z b L xs) (hL : L ≤ 2048) (hi : i + 4 ≤ L) (h : R w σ) (next : ∀ w σ, R w σ → V Z 1497 (lsL Z b i) [] w) : V Z 518 (lsL Z b i) [] w := by
  obtain ⟨r, w1, w2, σ2, e9, e10, hR⟩ := q_beside h (xs (i + 1))
  replace e10 : fX10_beside w1 (xs (i + 1)) = some (r, w2) := e10
  refine r_aload_n (pc := 518) F dL_law_518 rfl ?_
  refine r_aload_n (pc := 519) F dL_law_519 rfl ?_
  refine r_iload_n (pc := 520) F dL_law_520 rfl ?_
  refine r_iconst (pc := 521) F dL_law_521 ic_1 ?_
  refine r_iadd (pc := 522) F dL_law_522 ?_
  refine r_sld (pc := 523) (j := i + 1) F S dL_law_523 (n_add i 1) (by omega) hL ?_
  refine r_Vj1 (pc := 524) F dL_law_524 ml_L_49 (kX9_beside _ w (xs (i + 1)) _ e9) i68_0 (ce_0 _ _ _) (Nat.le_of_ble_eq_true rfl) (Nat.le_of_ble_eq_true rfl) (Nat.le_of_ble_eq_true rfl) ?_
  refine r_aload_n (pc := 527) F dL_law_527 rfl ?_
  refine r_aload_n (pc := 528) F dL_law_528 rfl ?_
  refine r_iload_n (pc := 529) F dL_law_529 rfl ?_
  refine r_iconst (pc := 530) F dL_law_530 ic_1 ?_
  refine r_iadd (pc := 531) F dL_law_531 ?_
  refine r_sld (pc := 532) (j := i + 1) F S dL_law_532 (n_add i 1) (by omega) hL ?_
  refine r_Vj1 (pc := 533) F dL_law_533 ml_L_52 (kX10_beside _ w1 (xs (i + 1)) _ e10) i68_42 (ce_42 _ _ _) (Nat.le_of_ble_eq_true rfl) (Nat.le_of_ble_eq_true rfl) (Nat.le_of_ble_eq_true rfl) ?_
  exact r_icmp_eq (pc := 536) (tgt := 1497) F dL_law_536 rfl (β := Bool) (A := true) (B := false) (o := true) (if_pos rfl) (fun _ => next _ _ hR) (fun z => by cases z)
set_option maxRecDepth 100000 in
set_option maxHeartbeats 4000000 in
theorem law_9 (F : Fx Z RL cL_law 4 13 494) (S : SL Z b L xs) (hL : L ≤ 2048) (hi : i + 4 ≤ L) (h : R w σ) (next : ∀ w σ, R w σ → V Z 1497 (lsL Z b i) [] w) : V Z 541 (lsL Z b i) [] w := by
  obtain ⟨r, w1, w2, σ2, e9, e10, hR⟩ := q_covers h (xs (i + 1)) (xs (i + 2))
  replace e10 : fX10_covers w1 (xs (i + 1)) (xs (i + 2)) = some (r, w2) := e10
  refine r_aload_n (pc := 541) F dL_law_541 rfl ?_
  refine r_aload_n (pc := 542) F dL_law_542 rfl ?_
  refine r_iload_n (pc := 543) F dL_law_543 rfl ?_
  refine r_iconst (pc := 544) F dL_law_544 ic_1 ?_
  refine r_iadd (pc := 545) F dL_law_545 ?_
  refine r_sld (pc := 546) (j := i + 1) F S dL_law_546 (n_add i 1) (by omega) hL ?_
  refine r_aload_n (pc := 547) F dL_law_547 rfl ?_
  refine r_iload_n (pc := 548) F dL_law_548 rfl ?_
  refine r_iconst (pc := 549) F dL_law_549 ic_2 ?_
  refine r_iadd (pc := 550) F dL_law_550 ?_
  refine r_sld (pc := 551) (j := i + 2) F S dL_law_551 (n_add i 2) (by omega) hL ?_
  refine r_Vj2 (pc := 552) F dL_law_552 ml_L_53 (kX9_covers _ w (xs (i + 1)) (xs (i + 2)) _ e9) i68_0 (ce_0 _ _ _) (Nat.le_of_ble_eq_true rfl) (Nat.le_of_ble_eq_true rfl) (Nat.le_of_ble_eq_true rfl) ?_
  refine r_aload_n (pc := 555) F dL_law_555 rfl ?_
  refine r_aload_n (pc := 556) F dL_law_556 rfl ?_
  refine r_iload_n (pc := 557) F dL_law_557 rfl ?_
  refine r_iconst (pc := 558) F dL_law_558 ic_1 ?_
  refine r_iadd (pc := 559) F dL_law_559 ?_
  refine r_sld (pc := 560) (j := i + 1) F S dL_law_560 (n_add i 1) (by omega) hL ?_
  refine r_aload_n (pc := 561) F dL_law_561 rfl ?_
  refine r_iload_n (pc := 562) F dL_law_562 rfl ?_
  refine r_iconst (pc := 563) F dL_law_563 ic_2 ?_
  refine r_iadd (pc := 564) F dL_law_564 ?_
  refine r_sld (pc := 565) (j := i + 2) F S dL_law_565 (n_add i 2) (by omega) hL ?_
  refine r_Vj2 (pc := 566) F dL_law_566 ml_L_56 (kX10_covers _ w1 (xs (i + 1)) (xs (i + 2)) _ e10) i68_42 (ce_42 _ _ _) (Nat.le_of_ble_eq_true rfl) (Nat.le_of_ble_eq_true rfl) (Nat.le_of_ble_eq_true rfl) ?_
  exact r_icmp_eq (pc := 569) (tgt := 1497) F dL_law_569 rfl (β := Bool) (A := true) (B := false) (o := true) (if_pos rfl) (fun _ => next _ _ hR) (fun z => by cases z)
set_option maxRecDepth 100000 in
set_option maxHeartbeats 4000000 in
theorem law_10 (F : Fx Z RL cL_law 4 13 494) (S : SL Z b L xs) (hL : L ≤ 2048) (hi : i + 4 ≤ L) (h : R w σ) (next : ∀ w σ, R w σ → V Z 1497 (lsL Z b i) [] w) : V Z 574 (lsL Z b i) [] w := by
  obtain ⟨r, w1, w2, σ2, e9, e10, hR⟩ := q_go h (xs (i + 1))
  replace e10 : fX10_go w1 (xs (i + 1)) = some (r, w2) := e10
  refine r_aload_n (pc := 574) F dL_law_574 rfl ?_
  refine r_aload_n (pc := 575) F dL_law_575 rfl ?_
  refine r_iload_n (pc := 576) F dL_law_576 rfl ?_
  refine r_iconst (pc := 577) F dL_law_577 ic_1 ?_
  refine r_iadd (pc := 578) F dL_law_578 ?_
  refine r_sld (pc := 579) (j := i + 1) F S dL_law_579 (n_add i 1) (by omega) hL ?_
  refine r_Vj1 (pc := 580) F dL_law_580 ml_L_57 (kX9_go _ w (xs (i + 1)) _ e9) i68_0 (ce_0 _ _ _) (Nat.le_of_ble_eq_true rfl) (Nat.le_of_ble_eq_true rfl) (Nat.le_of_ble_eq_true rfl) ?_
  refine r_aload_n (pc := 583) F dL_law_583 rfl ?_
  refine r_aload_n (pc := 584) F dL_law_584 rfl ?_
  refine r_iload_n (pc := 585) F dL_law_585 rfl ?_
  refine r_iconst (pc := 586) F dL_law_586 ic_1 ?_
  refine r_iadd (pc := 587) F dL_law_587 ?_
  refine r_sld (pc := 588) (j := i + 1) F S dL_law_588 (n_add i 1) (by omega) hL ?_
  refine r_Vj1 (pc := 589) F dL_law_589 ml_L_60 (kX10_go _ w1 (xs (i + 1)) _ e10) i68_42 (ce_42 _ _ _) (Nat.le_of_ble_eq_true rfl) (Nat.le_of_ble_eq_true rfl) (Nat.le_of_ble_eq_true rfl) ?_
  exact r_icmp_eq (pc := 592) (tgt := 1497) F dL_law_592 rfl (β := Bool) (A := true) (B := false) (o := true) (if_pos rfl) (fun _ => next _ _ hR) (fun z => by cases z)
set_option maxRecDepth 100000 in
set_option maxHeartbeats 4000000 in
theorem law_11 (F : Fx Z RL cL_law 4 13 494) (S : SL Z b L xs) (hL : L ≤ 2048) (hi : i + 4 ≤ L) (h : R w σ) (next : ∀ w σ, R w σ → V Z 1497 (lsL Z b i) [] w) : V Z 597 (lsL Z b i) [] w := by
  have e9 := q_lit h
  refine r_aload_n (pc := 597) F dL_law_597 rfl ?_
  refine r_Vi0 (pc := 598) F dL_law_598 ml_L_61 (kX9_lit _ w _ e9) i68_0 (ce_0 _ _ _) (Nat.le_of_ble_eq_true rfl) (Nat.le_of_ble_eq_true rfl) (Nat.le_of_ble_eq_true rfl) ?_
  refine r_aload_n (pc := 601) F dL_law_601 rfl ?_
  refine r_Vi0 (pc := 602) F dL_law_602 ml_L_64 (kX10_lit _ w _ rfl) i68_42 (ce_42 _ _ _) (Nat.le_of_ble_eq_true rfl) (Nat.le_of_ble_eq_true rfl) (Nat.le_of_ble_eq_true rfl) ?_
  exact r_icmp_eq (pc := 605) (tgt := 1497) F dL_law_605 rfl (β := Bool) (A := true) (B := false) (o := true) (if_pos rfl) (fun _ => next _ σ h) (fun z => by cases z)
set_option maxRecDepth 100000 in
set_option maxHeartbeats 4000000 in
theorem law_12 (F : Fx Z RL cL_law 4 13 494) (S : SL Z b L xs) (hL : L ≤ 2048) (hi : i + 4 ≤ L) (h : R w σ) (next : ∀ w σ, R w σ → V Z 1497 (lsL Z b i) [] w) : V Z 610 (lsL Z b i) [] w := by
  obtain ⟨r, w1, w2, σ2, e9, e10, hR⟩ := q_then h (xs (i + 1))
  replace e10 : fX10_then w1 (xs (i + 1)) = some (r, w2) := e10
  refine r_aload_n (pc := 610) F dL_law_610 rfl ?_
  refine r_aload_n (pc := 611) F dL_law_611 rfl ?_
  refine r_iload_n (pc := 612) F dL_law_612 rfl ?_
  refine r_iconst (pc := 613) F dL_law_613 ic_1 ?_
  refine r_iadd (pc := 614) F dL_law_614 ?_
  refine r_sld (pc := 615) (j := i + 1) F S dL_law_615 (n_add i 1) (by omega) hL ?_
  refine r_Vj1 (pc := 616) F dL_law_616 ml_L_65 (kX9_then _ w (xs (i + 1)) _ e9) i68_0 (ce_0 _ _ _) (Nat.le_of_ble_eq_true rfl) (Nat.le_of_ble_eq_true rfl) (Nat.le_of_ble_eq_true rfl) ?_
  refine r_aload_n (pc := 619) F dL_law_619 rfl ?_
  refine r_aload_n (pc := 620) F dL_law_620 rfl ?_
  refine r_iload_n (pc := 621) F dL_law_621 rfl ?_
  refine r_iconst (pc := 622) F dL_law_622 ic_1 ?_
  refine r_iadd (pc := 623) F dL_law_623 ?_
  refine r_sld (pc := 624) (j := i + 1) F S dL_law_624 (n_add i 1) (by omega) hL ?_
  refine r_Vj1 (pc := 625) F dL_law_625 ml_L_68 (kX10_then _ w1 (xs (i + 1)) _ e10) i68_42 (ce_42 _ _ _) (Nat.le_of_ble_eq_true rfl) (Nat.le_of_ble_eq_true rfl) (Nat.le_of_ble_eq_true rfl) ?_
  exact r_icmp_eq (pc := 628) (tgt := 1497) F dL_law_628 rfl (β := Bool) (A := true) (B := false) (o := true) (if_pos rfl) (fun _ => next _ _ hR) (fun z => by cases z)
set_option maxRecDepth 100000 in
set_option maxHeartbeats 4000000 in
theorem law_13 (F : Fx Z RL cL_law 4 13 494) (S : SL Z b L xs) (hL : L ≤ 2048) (hi : i + 4 ≤ L) (h : R w σ) (next : ∀ w σ, R w σ → V Z 1497 (lsL Z b i) [] w) : V Z 633 (lsL Z b i) [] w := by
  obtain ⟨r, w1, w2, σ2, e9, e10, hR⟩ := q_door h (xs (i + 1))
  replace e10 : fX10_door w1 (xs (i + 1)) = some (r, w2) := e10
  refine r_aload_n (pc := 633) F dL_law_633 rfl ?_
  refine r_aload_n (pc := 634) F dL_law_634 rfl ?_
  refine r_iload_n (pc := 635) F dL_law_635 rfl ?_
  refine r_iconst (pc := 636) F dL_law_636 ic_1 ?_
  refine r_iadd (pc := 637) F dL_law_637 ?_
  refine r_sld (pc := 638) (j := i + 1) F S dL_law_638 (n_add i 1) (by omega) hL ?_
  refine r_Vj1 (pc := 639) F dL_law_639 ml_L_69 (kX9_door _ w (xs (i + 1)) _ e9) i68_0 (ce_0 _ _ _) (Nat.le_of_ble_eq_true rfl) (Nat.le_of_ble_eq_true rfl) (Nat.le_of_ble_eq_true rfl) ?_
  refine r_aload_n (pc := 642) F dL_law_642 rfl ?_
  refine r_aload_n (pc := 643) F dL_law_643 rfl ?_
  refine r_iload_n (pc := 644) F dL_law_644 rfl ?_
  refine r_iconst (pc := 645) F dL_law_645 ic_1 ?_
  refine r_iadd (pc := 646) F dL_law_646 ?_
  refine r_sld (pc := 647) (j := i + 1) F S dL_law_647 (n_add i 1) (by omega) hL ?_
  refine r_Vj1 (pc := 648) F dL_law_648 ml_L_72 (kX10_door _ w1 (xs (i + 1)) _ e10) i68_42 (ce_42 _ _ _) (Nat.le_of_ble_eq_true rfl) (Nat.le_of_ble_eq_true rfl) (Nat.le_of_ble_eq_true rfl) ?_
  exact r_icmp_eq (pc := 651) (tgt := 1497) F dL_law_651 rfl (β := Bool) (A := true) (B := false) (o := true) (if_pos rfl) (fun _ => next _ _ hR) (fun z => by cases z)
set_option maxRecDepth 100000 in
set_option maxHeartbeats 4000000 in
theorem law_14 (F : Fx Z RL cL_law 4 13 494) (S : SL Z b L xs) (hL : L ≤ 2048) (hi : i + 4 ≤ L) (h : R w σ) (next : ∀ w σ, R w σ → V Z 1497 (lsL Z b i) [] w) : V Z 656 (lsL Z b i) [] w := by
  obtain ⟨r, w1, w2, σ2, e9, e10, hR⟩ := q_dark h (xs (i + 1))
  replace e10 : fX10_dark w1 (xs (i + 1)) = some (r, w2) := e10
  refine r_aload_n (pc := 656) F dL_law_656 rfl ?_
  refine r_aload_n (pc := 657) F dL_law_657 rfl ?_
  refine r_iload_n (pc := 658) F dL_law_658 rfl ?_
  refine r_iconst (pc := 659) F dL_law_659 ic_1 ?_
  refine r_iadd (pc := 660) F dL_law_660 ?_
  refine r_sld (pc := 661) (j := i + 1) F S dL_law_661 (n_add i 1) (by omega) hL ?_
  refine r_Vj1 (pc := 662) F dL_law_662 ml_L_73 (kX9_dark _ w (xs (i + 1)) _ e9) i68_0 (ce_0 _ _ _) (Nat.le_of_ble_eq_true rfl) (Nat.le_of_ble_eq_true rfl) (Nat.le_of_ble_eq_true rfl) ?_
  refine r_aload_n (pc := 665) F dL_law_665 rfl ?_
  refine r_aload_n (pc := 666) F dL_law_666 rfl ?_
  refine r_iload_n (pc := 667) F dL_law_667 rfl ?_
  refine r_iconst (pc := 668) F dL_law_668 ic_1 ?_
  refine r_iadd (pc := 669) F dL_law_669 ?_
  refine r_sld (pc := 670) (j := i + 1) F S dL_law_670 (n_add i 1) (by omega) hL ?_
  refine r_Vj1 (pc := 671) F dL_law_671 ml_L_76 (kX10_dark _ w1 (xs (i + 1)) _ e10) i68_42 (ce_42 _ _ _) (Nat.le_of_ble_eq_true rfl) (Nat.le_of_ble_eq_true rfl) (Nat.le_of_ble_eq_true rfl) ?_
  exact r_icmp_eq (pc := 674) (tgt := 1497) F dL_law_674 rfl (β := Bool) (A := true) (B := false) (o := true) (if_pos rfl) (fun _ => next _ _ hR) (fun z => by cases z)
set_option maxRecDepth 100000 in
set_option maxHeartbeats 4000000 in
theorem law_15 (F : Fx Z RL cL_law 4 13 494) (S : SL Z b L xs) (hL : L ≤ 2048) (hi : i + 4 ≤ L) (h : R w σ) (next : ∀ w σ, R w σ → V Z 1497 (lsL Z b i) [] w) : V Z 679 (lsL Z b i) [] w := by
  obtain ⟨r, w1, w2, σ2, e9, e10, hR⟩ := q_darkFor h (xs (i + 1))
  replace e10 : fX10_darkFor w1 (xs (i + 1)) = some (r, w2) := e10
  refine r_aload_n (pc := 679) F dL_law_679 rfl ?_
  refine r_aload_n (pc := 680) F dL_law_680 rfl ?_
  refine r_iload_n (pc := 681) F dL_law_681 rfl ?_
  refine r_iconst (pc := 682) F dL_law_682 ic_1 ?_
  refine r_iadd (pc := 683) F dL_law_683 ?_
  refine r_sld (pc := 684) (j := i + 1) F S dL_law_684 (n_add i 1) (by omega) hL ?_
  refine r_Vj1 (pc := 685) F dL_law_685 ml_L_77 (kX9_darkFor _ w (xs (i + 1)) _ e9) i68_0 (ce_0 _ _ _) (Nat.le_of_ble_eq_true rfl) (Nat.le_of_ble_eq_true rfl) (Nat.le_of_ble_eq_true rfl) ?_
  refine r_aload_n (pc := 688) F dL_law_688 rfl ?_
  refine r_aload_n (pc := 689) F dL_law_689 rfl ?_
  refine r_iload_n (pc := 690) F dL_law_690 rfl ?_
  refine r_iconst (pc := 691) F dL_law_691 ic_1 ?_
  refine r_iadd (pc := 692) F dL_law_692 ?_
  refine r_sld (pc := 693) (j := i + 1) F S dL_law_693 (n_add i 1) (by omega) hL ?_
  refine r_Vj1 (pc := 694) F dL_law_694 ml_L_80 (kX10_darkFor _ w1 (xs (i + 1)) _ e10) i68_42 (ce_42 _ _ _) (Nat.le_of_ble_eq_true rfl) (Nat.le_of_ble_eq_true rfl) (Nat.le_of_ble_eq_true rfl) ?_
  exact r_icmp_eq (pc := 697) (tgt := 1497) F dL_law_697 rfl (β := Bool) (A := true) (B := false) (o := true) (if_pos rfl) (fun _ => next _ _ hR) (fun z => by cases z)
set_option maxRecDepth 100000 in
set_option maxHeartbeats 4000000 in
theorem law_16 (F : Fx Z RL cL_law 4 13 494) (S : SL Z b L xs) (hL : L ≤ 2048) (hi : i + 4 ≤ L) (h : R w σ) (next : ∀ w σ, R w σ → V Z 1497 (lsL Z b i) [] w) : V Z 702 (lsL Z b i) [] w := by
  obtain ⟨r, w1, w2, σ2, e9, e10, hR⟩ := q_litBy h (xs (i + 1)) (xs (i + 2))
  replace e10 : fX10_litBy w1 (xs (i + 1)) (xs (i + 2)) = some (r, w2) := e10
  refine r_aload_n (pc := 702) F dL_law_702 rfl ?_
  refine r_aload_n (pc := 703) F dL_law_703 rfl ?_
  refine r_iload_n (pc := 704) F dL_law_704 rfl ?_
  refine r_iconst (pc := 705) F dL_law_705 ic_1 ?_
  refine r_iadd (pc := 706) F dL_law_706 ?_
  refine r_sld (pc := 707) (j := i + 1) F S dL_law_707 (n_add i 1) (by omega) hL ?_
  refine r_aload_n (pc := 708) F dL_law_708 rfl ?_
  refine r_iload_n (pc := 709) F dL_law_709 rfl ?_
  refine r_iconst (pc := 710) F dL_law_710 ic_2 ?_
  refine r_iadd (pc := 711) F dL_law_711 ?_
  refine r_sld (pc := 712) (j := i + 2) F S dL_law_712 (n_add i 2) (by omega) hL ?_
  refine r_Vj2 (pc := 713) F dL_law_713 ml_L_81 (kX9_litBy _ w (xs (i + 1)) (xs (i + 2)) _ e9) i68_0 (ce_0 _ _ _) (Nat.le_of_ble_eq_true rfl) (Nat.le_of_ble_eq_true rfl) (Nat.le_of_ble_eq_true rfl) ?_
  refine r_aload_n (pc := 716) F dL_law_716 rfl ?_
  refine r_aload_n (pc := 717) F dL_law_717 rfl ?_
  refine r_iload_n (pc := 718) F dL_law_718 rfl ?_
  refine r_iconst (pc := 719) F dL_law_719 ic_1 ?_
  refine r_iadd (pc := 720) F dL_law_720 ?_
  refine r_sld (pc := 721) (j := i + 1) F S dL_law_721 (n_add i 1) (by omega) hL ?_
  refine r_aload_n (pc := 722) F dL_law_722 rfl ?_
  refine r_iload_n (pc := 723) F dL_law_723 rfl ?_
  refine r_iconst (pc := 724) F dL_law_724 ic_2 ?_
  refine r_iadd (pc := 725) F dL_law_725 ?_
  refine r_sld (pc := 726) (j := i + 2) F S dL_law_726 (n_add i 2) (by omega) hL ?_
  refine r_Vj2 (pc := 727) F dL_law_727 ml_L_84 (kX10_litBy _ w1 (xs (i + 1)) (xs (i + 2)) _ e10) i68_42 (ce_42 _ _ _) (Nat.le_of_ble_eq_true rfl) (Nat.le_of_ble_eq_true rfl) (Nat.le_of_ble_eq_true rfl) ?_
  exact r_icmp_eq (pc := 730) (tgt := 1497) F dL_law_730 rfl (β := Bool) (A := true) (B := false) (o := true) (if_pos rfl) (fun _ => next _ _ hR) (fun z => by cases z)
set_option maxRecDepth 100000 in
set_option maxHeartbeats 4000000 in
theorem law_17 (F : Fx Z RL cL_law 4 13 494) (S : SL Z b L xs) (hL : L ≤ 2048) (hi : i + 4 ≤ L) (h : R w σ) (next : ∀ w σ, R w σ → V Z 1497 (lsL Z b i) [] w) : V Z 735 (lsL Z b i) [] w := by
  obtain ⟨r, w1, w2, σ2, e9, e10, hR⟩ := q_stop h
  replace e10 : fX10_stop w1 = some (r, w2) := e10
  refine r_aload_n (pc := 735) F dL_law_735 rfl ?_
  refine r_Vj0 (pc := 736) F dL_law_736 ml_L_85 (kX9_stop _ w _ e9) i68_0 (ce_0 _ _ _) (Nat.le_of_ble_eq_true rfl) (Nat.le_of_ble_eq_true rfl) (Nat.le_of_ble_eq_true rfl) ?_
  refine r_aload_n (pc := 739) F dL_law_739 rfl ?_
  refine r_Vj0 (pc := 740) F dL_law_740 ml_L_88 (kX10_stop _ w1 _ e10) i68_42 (ce_42 _ _ _) (Nat.le_of_ble_eq_true rfl) (Nat.le_of_ble_eq_true rfl) (Nat.le_of_ble_eq_true rfl) ?_
  exact r_icmp_eq (pc := 743) (tgt := 1497) F dL_law_743 rfl (β := Bool) (A := true) (B := false) (o := true) (if_pos rfl) (fun _ => next _ _ hR) (fun z => by cases z)
set_option maxRecDepth 100000 in
set_option maxHeartbeats 4000000 in
theorem law_18 (F : Fx Z RL cL_law 4 13 494) (S : SL Z b L xs) (hL : L ≤ 2048) (hi : i + 4 ≤ L) (h : R w σ) (next : ∀ w σ, R w σ → V Z 1497 (lsL Z b i) [] w) : V Z 748 (lsL Z b i) [] w := by
  obtain ⟨r, w1, w2, σ2, e9, e10, hR⟩ := q_lower h
  replace e10 : fX10_lower w1 = some (r, w2) := e10
  refine r_aload_n (pc := 748) F dL_law_748 rfl ?_
  refine r_Vj0 (pc := 749) F dL_law_749 ml_L_89 (kX9_lower _ w _ e9) i68_0 (ce_0 _ _ _) (Nat.le_of_ble_eq_true rfl) (Nat.le_of_ble_eq_true rfl) (Nat.le_of_ble_eq_true rfl) ?_
  refine r_aload_n (pc := 752) F dL_law_752 rfl ?_
  refine r_Vj0 (pc := 753) F dL_law_753 ml_L_92 (kX10_lower _ w1 _ e10) i68_42 (ce_42 _ _ _) (Nat.le_of_ble_eq_true rfl) (Nat.le_of_ble_eq_true rfl) (Nat.le_of_ble_eq_true rfl) ?_
  exact r_icmp_eq (pc := 756) (tgt := 1497) F dL_law_756 rfl (β := Bool) (A := true) (B := false) (o := true) (if_pos rfl) (fun _ => next _ _ hR) (fun z => by cases z)
set_option maxRecDepth 100000 in
set_option maxHeartbeats 4000000 in
theorem law_19 (F : Fx Z RL cL_law 4 13 494) (S : SL Z b L xs) (hL : L ≤ 2048) (hi : i + 4 ≤ L) (h : R w σ) (next : ∀ w σ, R w σ → V Z 1497 (lsL Z b i) [] w) : V Z 761 (lsL Z b i) [] w := by
  obtain ⟨r, w1, w2, σ2, e9, e10, hR⟩ := q_changed h
  replace e10 : fX10_changed w1 = some (r, w2) := e10
  refine r_aload_n (pc := 761) F dL_law_761 rfl ?_
  refine r_Vj0 (pc := 762) F dL_law_762 ml_L_93 (kX9_changed _ w _ e9) i68_0 (ce_0 _ _ _) (Nat.le_of_ble_eq_true rfl) (Nat.le_of_ble_eq_true rfl) (Nat.le_of_ble_eq_true rfl) ?_
  refine r_aload_n (pc := 765) F dL_law_765 rfl ?_
  refine r_Vj0 (pc := 766) F dL_law_766 ml_L_96 (kX10_changed _ w1 _ e10) i68_42 (ce_42 _ _ _) (Nat.le_of_ble_eq_true rfl) (Nat.le_of_ble_eq_true rfl) (Nat.le_of_ble_eq_true rfl) ?_
  exact r_icmp_eq (pc := 769) (tgt := 1497) F dL_law_769 rfl (β := Bool) (A := true) (B := false) (o := true) (if_pos rfl) (fun _ => next _ _ hR) (fun z => by cases z)
set_option maxRecDepth 100000 in
set_option maxHeartbeats 4000000 in
theorem law_20 (F : Fx Z RL cL_law 4 13 494) (S : SL Z b L xs) (hL : L ≤ 2048) (hi : i + 4 ≤ L) (h : R w σ) (next : ∀ w σ, R w σ → V Z 1497 (lsL Z b i) [] w) : V Z 774 (lsL Z b i) [] w := by
  obtain ⟨r, w1, w2, σ2, e9, e10, hR⟩ := q_order h (xs (i + 1))
  replace e10 : fX10_order w1 (xs (i + 1)) = some (r, w2) := e10
  refine r_aload_n (pc := 774) F dL_law_774 rfl ?_
  refine r_aload_n (pc := 775) F dL_law_775 rfl ?_
  refine r_iload_n (pc := 776) F dL_law_776 rfl ?_
  refine r_iconst (pc := 777) F dL_law_777 ic_1 ?_
  refine r_iadd (pc := 778) F dL_law_778 ?_
  refine r_sld (pc := 779) (j := i + 1) F S dL_law_779 (n_add i 1) (by omega) hL ?_
  refine r_Vj1 (pc := 780) F dL_law_780 ml_L_97 (kX9_order _ w (xs (i + 1)) _ e9) i68_0 (ce_0 _ _ _) (Nat.le_of_ble_eq_true rfl) (Nat.le_of_ble_eq_true rfl) (Nat.le_of_ble_eq_true rfl) ?_
  refine r_aload_n (pc := 783) F dL_law_783 rfl ?_
  refine r_aload_n (pc := 784) F dL_law_784 rfl ?_
  refine r_iload_n (pc := 785) F dL_law_785 rfl ?_
  refine r_iconst (pc := 786) F dL_law_786 ic_1 ?_
  refine r_iadd (pc := 787) F dL_law_787 ?_
  refine r_sld (pc := 788) (j := i + 1) F S dL_law_788 (n_add i 1) (by omega) hL ?_
  refine r_Vj1 (pc := 789) F dL_law_789 ml_L_100 (kX10_order _ w1 (xs (i + 1)) _ e10) i68_42 (ce_42 _ _ _) (Nat.le_of_ble_eq_true rfl) (Nat.le_of_ble_eq_true rfl) (Nat.le_of_ble_eq_true rfl) ?_
  exact r_icmp_eq (pc := 792) (tgt := 1497) F dL_law_792 rfl (β := Bool) (A := true) (B := false) (o := true) (if_pos rfl) (fun _ => next _ _ hR) (fun z => by cases z)
set_option maxRecDepth 100000 in
set_option maxHeartbeats 4000000 in
theorem law_21 (F : Fx Z RL cL_law 4 13 494) (S : SL Z b L xs) (hL : L ≤ 2048) (hi : i + 4 ≤ L) (h : R w σ) (next : ∀ w σ, R w σ → V Z 1497 (lsL Z b i) [] w) : V Z 797 (lsL Z b i) [] w := by
  obtain ⟨r, w1, w2, σ2, e9, e10, hR⟩ := q_lantern h (xs (i + 1))
  replace e10 : fX10_lantern w1 (xs (i + 1)) = some (r, w2) := e10
  refine r_aload_n (pc := 797) F dL_law_797 rfl ?_
  refine r_aload_n (pc := 798) F dL_law_798 rfl ?_
  refine r_iload_n (pc := 799) F dL_law_799 rfl ?_
  refine r_iconst (pc := 800) F dL_law_800 ic_1 ?_
  refine r_iadd (pc := 801) F dL_law_801 ?_
  refine r_sld (pc := 802) (j := i + 1) F S dL_law_802 (n_add i 1) (by omega) hL ?_
  refine r_Vj1 (pc := 803) F dL_law_803 ml_L_101 (kX9_lantern _ w (xs (i + 1)) _ e9) i68_0 (ce_0 _ _ _) (Nat.le_of_ble_eq_true rfl) (Nat.le_of_ble_eq_true rfl) (Nat.le_of_ble_eq_true rfl) ?_
  refine r_aload_n (pc := 806) F dL_law_806 rfl ?_
  refine r_aload_n (pc := 807) F dL_law_807 rfl ?_
  refine r_iload_n (pc := 808) F dL_law_808 rfl ?_
  refine r_iconst (pc := 809) F dL_law_809 ic_1 ?_
  refine r_iadd (pc := 810) F dL_law_810 ?_
  refine r_sld (pc := 811) (j := i + 1) F S dL_law_811 (n_add i 1) (by omega) hL ?_
  refine r_Vj1 (pc := 812) F dL_law_812 ml_L_104 (kX10_lantern _ w1 (xs (i + 1)) _ e10) i68_42 (ce_42 _ _ _) (Nat.le_of_ble_eq_true rfl) (Nat.le_of_ble_eq_true rfl) (Nat.le_of_ble_eq_true rfl) ?_
  exact r_icmp_eq (pc := 815) (tgt := 1497) F dL_law_815 rfl (β := Bool) (A := true) (B := false) (o := true) (if_pos rfl) (fun _ => next _ _ hR) (fun z => by cases z)
set_option maxRecDepth 100000 in
set_option maxHeartbeats 4000000 in
theorem law_22 (F : Fx Z RL cL_law 4 13 494) (S : SL Z b L xs) (hL : L ≤ 2048) (hi : i + 4 ≤ L) (h : R w σ) (next : ∀ w σ, R w σ → V Z 1497 (lsL Z b i) [] w) : V Z 820 (lsL Z b i) [] w := by
  obtain ⟨r, w1, w2, σ2, e9, e10, hR⟩ := q_fewest h (xs (i + 1))
  replace e10 : fX10_fewest w1 (xs (i + 1)) = some (r, w2) := e10
  refine r_aload_n (pc := 820) F dL_law_820 rfl ?_
  refine r_aload_n (pc := 821) F dL_law_821 rfl ?_
  refine r_iload_n (pc := 822) F dL_law_822 rfl ?_
  refine r_iconst (pc := 823) F dL_law_823 ic_1 ?_
  refine r_iadd (pc := 824) F dL_law_824 ?_
  refine r_sld (pc := 825) (j := i + 1) F S dL_law_825 (n_add i 1) (by omega) hL ?_
  refine r_Vj1 (pc := 826) F dL_law_826 ml_L_105 (kX9_fewest _ w (xs (i + 1)) _ e9) i68_0 (ce_0 _ _ _) (Nat.le_of_ble_eq_true rfl) (Nat.le_of_ble_eq_true rfl) (Nat.le_of_ble_eq_true rfl) ?_
  refine r_aload_n (pc := 829) F dL_law_829 rfl ?_
  refine r_aload_n (pc := 830) F dL_law_830 rfl ?_
  refine r_iload_n (pc := 831) F dL_law_831 rfl ?_
  refine r_iconst (pc := 832) F dL_law_832 ic_1 ?_
  refine r_iadd (pc := 833) F dL_law_833 ?_
  refine r_sld (pc := 834) (j := i + 1) F S dL_law_834 (n_add i 1) (by omega) hL ?_
  refine r_Vj1 (pc := 835) F dL_law_835 ml_L_108 (kX10_fewest _ w1 (xs (i + 1)) _ e10) i68_42 (ce_42 _ _ _) (Nat.le_of_ble_eq_true rfl) (Nat.le_of_ble_eq_true rfl) (Nat.le_of_ble_eq_true rfl) ?_
  exact r_icmp_eq (pc := 838) (tgt := 1497) F dL_law_838 rfl (β := Bool) (A := true) (B := false) (o := true) (if_pos rfl) (fun _ => next _ _ hR) (fun z => by cases z)
set_option maxRecDepth 100000 in
set_option maxHeartbeats 4000000 in
theorem law_23 (F : Fx Z RL cL_law 4 13 494) (S : SL Z b L xs) (hL : L ≤ 2048) (hi : i + 4 ≤ L) (h : R w σ) (next : ∀ w σ, R w σ → V Z 1497 (lsL Z b i) [] w) : V Z 843 (lsL Z b i) [] w := by
  obtain ⟨r, w1, w2, σ2, e9, e10, hR⟩ := q_match h
  replace e10 : fX10_match w1 = some (r, w2) := e10
  refine r_aload_n (pc := 843) F dL_law_843 rfl ?_
  refine r_Vj0 (pc := 844) F dL_law_844 ml_L_109 (kX9_match _ w _ e9) i68_0 (ce_0 _ _ _) (Nat.le_of_ble_eq_true rfl) (Nat.le_of_ble_eq_true rfl) (Nat.le_of_ble_eq_true rfl) ?_
  refine r_aload_n (pc := 847) F dL_law_847 rfl ?_
  refine r_Vj0 (pc := 848) F dL_law_848 ml_L_112 (kX10_match _ w1 _ e10) i68_42 (ce_42 _ _ _) (Nat.le_of_ble_eq_true rfl) (Nat.le_of_ble_eq_true rfl) (Nat.le_of_ble_eq_true rfl) ?_
  exact r_icmp_eq (pc := 851) (tgt := 1497) F dL_law_851 rfl (β := Bool) (A := true) (B := false) (o := true) (if_pos rfl) (fun _ => next _ _ hR) (fun z => by cases z)
set_option maxRecDepth 100000 in
set_option maxHeartbeats 4000000 in
theorem law_24 (F : Fx Z RL cL_law 4 13 494) (S : SL Z b L xs) (hL : L ≤ 2048) (hi : i + 4 ≤ L) (h : R w σ) (next : ∀ w σ, R w σ → V Z 1497 (lsL Z b i) [] w) : V Z 856 (lsL Z b i) [] w := by
  obtain ⟨r, w1, w2, σ2, e9, e10, hR⟩ := q_tail h
  replace e10 : fX10_tail w1 = some (r, w2) := e10
  refine r_aload_n (pc := 856) F dL_law_856 rfl ?_
  refine r_Vj0 (pc := 857) F dL_law_857 ml_L_113 (kX9_tail _ w _ e9) i68_0 (ce_0 _ _ _) (Nat.le_of_ble_eq_true rfl) (Nat.le_of_ble_eq_true rfl) (Nat.le_of_ble_eq_true rfl) ?_
  refine r_aload_n (pc := 860) F dL_law_860 rfl ?_
  refine r_Vj0 (pc := 861) F dL_law_861 ml_L_116 (kX10_tail _ w1 _ e10) i68_42 (ce_42 _ _ _) (Nat.le_of_ble_eq_true rfl) (Nat.le_of_ble_eq_true rfl) (Nat.le_of_ble_eq_true rfl) ?_
  exact r_icmp_eq (pc := 864) (tgt := 1497) F dL_law_864 rfl (β := Bool) (A := true) (B := false) (o := true) (if_pos rfl) (fun _ => next _ _ hR) (fun z => by cases z)
set_option maxRecDepth 100000 in
set_option maxHeartbeats 4000000 in
theorem law_25 (F : Fx Z RL cL_law 4 13 494) (S : SL Z b L xs) (hL : L ≤ 2048) (hi : i + 4 ≤ L) (h : R w σ) (next : ∀ w σ, R w σ → V Z 1497 (lsL Z b i) [] w) : V Z 869 (lsL Z b i) [] w := by
  obtain ⟨r, w1, w2, σ2, e9, e10, hR⟩ := q_rule h (xs (i + 1)) (xs (i + 2))
  replace e10 : fX10_rule w1 (xs (i + 1)) (xs (i + 2)) = some (r, w2) := e10
  refine r_aload_n (pc := 869) F dL_law_869 rfl ?_
  refine r_aload_n (pc := 870) F dL_law_870 rfl ?_
  refine r_iload_n (pc := 871) F dL_law_871 rfl ?_
  refine r_iconst (pc := 872) F dL_law_872 ic_1 ?_
  refine r_iadd (pc := 873) F dL_law_873 ?_
  refine r_sld (pc := 874) (j := i + 1) F S dL_law_874 (n_add i 1) (by omega) hL ?_
  refine r_aload_n (pc := 875) F dL_law_875 rfl ?_
  refine r_iload_n (pc := 876) F dL_law_876 rfl ?_
  refine r_iconst (pc := 877) F dL_law_877 ic_2 ?_
  refine r_iadd (pc := 878) F dL_law_878 ?_
  refine r_sld (pc := 879) (j := i + 2) F S dL_law_879 (n_add i 2) (by omega) hL ?_
  refine r_Vj2 (pc := 880) F dL_law_880 ml_L_117 (kX9_rule _ w (xs (i + 1)) (xs (i + 2)) _ e9) i68_0 (ce_0 _ _ _) (Nat.le_of_ble_eq_true rfl) (Nat.le_of_ble_eq_true rfl) (Nat.le_of_ble_eq_true rfl) ?_
  refine r_aload_n (pc := 883) F dL_law_883 rfl ?_
  refine r_aload_n (pc := 884) F dL_law_884 rfl ?_
  refine r_iload_n (pc := 885) F dL_law_885 rfl ?_
  refine r_iconst (pc := 886) F dL_law_886 ic_1 ?_
  refine r_iadd (pc := 887) F dL_law_887 ?_
  refine r_sld (pc := 888) (j := i + 1) F S dL_law_888 (n_add i 1) (by omega) hL ?_
  refine r_aload_n (pc := 889) F dL_law_889 rfl ?_
  refine r_iload_n (pc := 890) F dL_law_890 rfl ?_
  refine r_iconst (pc := 891) F dL_law_891 ic_2 ?_
  refine r_iadd (pc := 892) F dL_law_892 ?_
  refine r_sld (pc := 893) (j := i + 2) F S dL_law_893 (n_add i 2) (by omega) hL ?_
  refine r_Vj2 (pc := 894) F dL_law_894 ml_L_120 (kX10_rule _ w1 (xs (i + 1)) (xs (i + 2)) _ e10) i68_42 (ce_42 _ _ _) (Nat.le_of_ble_eq_true rfl) (Nat.le_of_ble_eq_true rfl) (Nat.le_of_ble_eq_true rfl) ?_
  exact r_icmp_eq (pc := 897) (tgt := 1497) F dL_law_897 rfl (β := Bool) (A := true) (B := false) (o := true) (if_pos rfl) (fun _ => next _ _ hR) (fun z => by cases z)
set_option maxRecDepth 100000 in
set_option maxHeartbeats 4000000 in
theorem law_26 (F : Fx Z RL cL_law 4 13 494) (S : SL Z b L xs) (hL : L ≤ 2048) (hi : i + 4 ≤ L) (h : R w σ) (next : ∀ w σ, R w σ → V Z 1497 (lsL Z b i) [] w) : V Z 902 (lsL Z b i) [] w := by
  obtain ⟨r, w1, w2, σ2, e9, e10, hR⟩ := q_best h
  replace e10 : fX10_best w1 = some (r, w2) := e10
  refine r_aload_n (pc := 902) F dL_law_902 rfl ?_
  refine r_Vj0 (pc := 903) F dL_law_903 ml_L_121 (kX9_best _ w _ e9) i68_0 (ce_0 _ _ _) (Nat.le_of_ble_eq_true rfl) (Nat.le_of_ble_eq_true rfl) (Nat.le_of_ble_eq_true rfl) ?_
  refine r_aload_n (pc := 906) F dL_law_906 rfl ?_
  refine r_Vj0 (pc := 907) F dL_law_907 ml_L_124 (kX10_best _ w1 _ e10) i68_42 (ce_42 _ _ _) (Nat.le_of_ble_eq_true rfl) (Nat.le_of_ble_eq_true rfl) (Nat.le_of_ble_eq_true rfl) ?_
  exact r_icmp_eq (pc := 910) (tgt := 1497) F dL_law_910 rfl (β := Bool) (A := true) (B := false) (o := true) (if_pos rfl) (fun _ => next _ _ hR) (fun z => by cases z)
set_option maxRecDepth 100000 in
set_option maxHeartbeats 4000000 in
theorem law_27 (F : Fx Z RL cL_law 4 13 494) (S : SL Z b L xs) (hL : L ≤ 2048) (hi : i + 4 ≤ L) (h : R w σ) (next : ∀ w σ, R w σ → V Z 1497 (lsL Z b i) [] w) : V Z 915 (lsL Z b i) [] w := by
  obtain ⟨r, w1, w2, σ2, e9, e10, hR⟩ := q_calm h (xs (i + 1)) (xs (i + 2))
  replace e10 : fX10_calm w1 (xs (i + 1)) (xs (i + 2)) = some (r, w2) := e10
  refine r_aload_n (pc := 915) F dL_law_915 rfl ?_
  refine r_aload_n (pc := 916) F dL_law_916 rfl ?_
  refine r_iload_n (pc := 917) F dL_law_917 rfl ?_
  refine r_iconst (pc := 918) F dL_law_918 ic_1 ?_
  refine r_iadd (pc := 919) F dL_law_919 ?_
  refine r_sld (pc := 920) (j := i + 1) F S dL_law_920 (n_add i 1) (by omega) hL ?_
  refine r_aload_n (pc := 921) F dL_law_921 rfl ?_
  refine r_iload_n (pc := 922) F dL_law_922 rfl ?_
  refine r_iconst (pc := 923) F dL_law_923 ic_2 ?_
  refine r_iadd (pc := 924) F dL_law_924 ?_
  refine r_sld (pc := 925) (j := i + 2) F S dL_law_925 (n_add i 2) (by omega) hL ?_
  refine r_Vj2 (pc := 926) F dL_law_926 ml_L_125 (kX9_calm _ w (xs (i + 1)) (xs (i + 2)) _ e9) i68_0 (ce_0 _ _ _) (Nat.le_of_ble_eq_true rfl) (Nat.le_of_ble_eq_true rfl) (Nat.le_of_ble_eq_true rfl) ?_
  refine r_aload_n (pc := 929) F dL_law_929 rfl ?_
  refine r_aload_n (pc := 930) F dL_law_930 rfl ?_
  refine r_iload_n (pc := 931) F dL_law_931 rfl ?_
  refine r_iconst (pc := 932) F dL_law_932 ic_1 ?_
  refine r_iadd (pc := 933) F dL_law_933 ?_
  refine r_sld (pc := 934) (j := i + 1) F S dL_law_934 (n_add i 1) (by omega) hL ?_
  refine r_aload_n (pc := 935) F dL_law_935 rfl ?_
  refine r_iload_n (pc := 936) F dL_law_936 rfl ?_
  refine r_iconst (pc := 937) F dL_law_937 ic_2 ?_
  refine r_iadd (pc := 938) F dL_law_938 ?_
  refine r_sld (pc := 939) (j := i + 2) F S dL_law_939 (n_add i 2) (by omega) hL ?_
  refine r_Vj2 (pc := 940) F dL_law_940 ml_L_128 (kX10_calm _ w1 (xs (i + 1)) (xs (i + 2)) _ e10) i68_42 (ce_42 _ _ _) (Nat.le_of_ble_eq_true rfl) (Nat.le_of_ble_eq_true rfl) (Nat.le_of_ble_eq_true rfl) ?_
  exact r_icmp_eq (pc := 943) (tgt := 1497) F dL_law_943 rfl (β := Bool) (A := true) (B := false) (o := true) (if_pos rfl) (fun _ => next _ _ hR) (fun z => by cases z)
set_option maxRecDepth 100000 in
set_option maxHeartbeats 4000000 in
theorem law_28 (F : Fx Z RL cL_law 4 13 494) (S : SL Z b L xs) (hL : L ≤ 2048) (hi : i + 4 ≤ L) (h : R w σ) (next : ∀ w σ, R w σ → V Z 1497 (lsL Z b i) [] w) : V Z 948 (lsL Z b i) [] w := by
  obtain ⟨r, w1, w2, σ2, e9, e10, hR⟩ := q_spreads h (xs (i + 1)) (xs (i + 2))
  replace e10 : fX10_spreads w1 (xs (i + 1)) (xs (i + 2)) = some (r, w2) := e10
  refine r_aload_n (pc := 948) F dL_law_948 rfl ?_
  refine r_aload_n (pc := 949) F dL_law_949 rfl ?_
  refine r_iload_n (pc := 950) F dL_law_950 rfl ?_
  refine r_iconst (pc := 951) F dL_law_951 ic_1 ?_
  refine r_iadd (pc := 952) F dL_law_952 ?_
  refine r_sld (pc := 953) (j := i + 1) F S dL_law_953 (n_add i 1) (by omega) hL ?_
  refine r_aload_n (pc := 954) F dL_law_954 rfl ?_
  refine r_iload_n (pc := 955) F dL_law_955 rfl ?_
  refine r_iconst (pc := 956) F dL_law_956 ic_2 ?_
  refine r_iadd (pc := 957) F dL_law_957 ?_
  refine r_sld (pc := 958) (j := i + 2) F S dL_law_958 (n_add i 2) (by omega) hL ?_
  refine r_Vj2 (pc := 959) F dL_law_959 ml_L_129 (kX9_spreads _ w (xs (i + 1)) (xs (i + 2)) _ e9) i68_0 (ce_0 _ _ _) (Nat.le_of_ble_eq_true rfl) (Nat.le_of_ble_eq_true rfl) (Nat.le_of_ble_eq_true rfl) ?_
  refine r_aload_n (pc := 962) F dL_law_962 rfl ?_
  refine r_aload_n (pc := 963) F dL_law_963 rfl ?_
  refine r_iload_n (pc := 964) F dL_law_964 rfl ?_
  refine r_iconst (pc := 965) F dL_law_965 ic_1 ?_
  refine r_iadd (pc := 966) F dL_law_966 ?_
  refine r_sld (pc := 967) (j := i + 1) F S dL_law_967 (n_add i 1) (by omega) hL ?_
  refine r_aload_n (pc := 968) F dL_law_968 rfl ?_
  refine r_iload_n (pc := 969) F dL_law_969 rfl ?_
  refine r_iconst (pc := 970) F dL_law_970 ic_2 ?_
  refine r_iadd (pc := 971) F dL_law_971 ?_
  refine r_sld (pc := 972) (j := i + 2) F S dL_law_972 (n_add i 2) (by omega) hL ?_
  refine r_Vj2 (pc := 973) F dL_law_973 ml_L_132 (kX10_spreads _ w1 (xs (i + 1)) (xs (i + 2)) _ e10) i68_42 (ce_42 _ _ _) (Nat.le_of_ble_eq_true rfl) (Nat.le_of_ble_eq_true rfl) (Nat.le_of_ble_eq_true rfl) ?_
  exact r_icmp_eq (pc := 976) (tgt := 1497) F dL_law_976 rfl (β := Bool) (A := true) (B := false) (o := true) (if_pos rfl) (fun _ => next _ _ hR) (fun z => by cases z)
set_option maxRecDepth 100000 in
set_option maxHeartbeats 4000000 in
theorem law_29 (F : Fx Z RL cL_law 4 13 494) (S : SL Z b L xs) (hL : L ≤ 2048) (hi : i + 4 ≤ L) (h : R w σ) (next : ∀ w σ, R w σ → V Z 1497 (lsL Z b i) [] w) : V Z 981 (lsL Z b i) [] w := by
  obtain ⟨r, w1, w2, σ2, e9, e10, hR⟩ := q_chances h (xs (i + 1)) (xs (i + 2)) (xs (i + 3))
  replace e10 : fX10_chances w1 (xs (i + 1)) (xs (i + 2)) (xs (i + 3)) = some (r, w2) := e10
  refine r_aload_n (pc := 981) F dL_law_981 rfl ?_
  refine r_aload_n (pc := 982) F dL_law_982 rfl ?_
  refine r_iload_n (pc := 983) F dL_law_983 rfl ?_
  refine r_iconst (pc := 984) F dL_law_984 ic_1 ?_
  refine r_iadd (pc := 985) F dL_law_985 ?_
  refine r_sld (pc := 986) (j := i + 1) F S dL_law_986 (n_add i 1) (by omega) hL ?_
  refine r_aload_n (pc := 987) F dL_law_987 rfl ?_
  refine r_iload_n (pc := 988) F dL_law_988 rfl ?_
  refine r_iconst (pc := 989) F dL_law_989 ic_2 ?_
  refine r_iadd (pc := 990) F dL_law_990 ?_
  refine r_sld (pc := 991) (j := i + 2) F S dL_law_991 (n_add i 2) (by omega) hL ?_
  refine r_aload_n (pc := 992) F dL_law_992 rfl ?_
  refine r_iload_n (pc := 993) F dL_law_993 rfl ?_
  refine r_iconst (pc := 994) F dL_law_994 ic_3 ?_
  refine r_iadd (pc := 995) F dL_law_995 ?_
  refine r_sld (pc := 996) (j := i + 3) F S dL_law_996 (n_add i 3) (by omega) hL ?_
  refine r_Vm3 (pc := 997) F dL_law_997 ml_L_133 (kX9_chances _ w (xs (i + 1)) (xs (i + 2)) (xs (i + 3)) _ e9) i68_0 (ce_0 _ _ _) (Nat.le_of_ble_eq_true rfl) (Nat.le_of_ble_eq_true rfl) (Nat.le_of_ble_eq_true rfl) ?_
  refine r_aload_n (pc := 1000) F dL_law_1000 rfl ?_
  refine r_aload_n (pc := 1001) F dL_law_1001 rfl ?_
  refine r_iload_n (pc := 1002) F dL_law_1002 rfl ?_
  refine r_iconst (pc := 1003) F dL_law_1003 ic_1 ?_
  refine r_iadd (pc := 1004) F dL_law_1004 ?_
  refine r_sld (pc := 1005) (j := i + 1) F S dL_law_1005 (n_add i 1) (by omega) hL ?_
  refine r_aload_n (pc := 1006) F dL_law_1006 rfl ?_
  refine r_iload_n (pc := 1007) F dL_law_1007 rfl ?_
  refine r_iconst (pc := 1008) F dL_law_1008 ic_2 ?_
  refine r_iadd (pc := 1009) F dL_law_1009 ?_
  refine r_sld (pc := 1010) (j := i + 2) F S dL_law_1010 (n_add i 2) (by omega) hL ?_
  refine r_aload_n (pc := 1011) F dL_law_1011 rfl ?_
  refine r_iload_n (pc := 1012) F dL_law_1012 rfl ?_
  refine r_iconst (pc := 1013) F dL_law_1013 ic_3 ?_
  refine r_iadd (pc := 1014) F dL_law_1014 ?_
  refine r_sld (pc := 1015) (j := i + 3) F S dL_law_1015 (n_add i 3) (by omega) hL ?_
  refine r_Vm3 (pc := 1016) F dL_law_1016 ml_L_137 (kX10_chances _ w1 (xs (i + 1)) (xs (i + 2)) (xs (i + 3)) _ e10) i68_42 (ce_42 _ _ _) (Nat.le_of_ble_eq_true rfl) (Nat.le_of_ble_eq_true rfl) (Nat.le_of_ble_eq_true rfl) ?_
  refine r_lcmp (pc := 1019) F dL_law_1019 ?_
  exact r_if_eq (pc := 1020) (tgt := 1497) F dL_law_1020 rfl (β := Bool) (A := true) (B := false) (o := true) (if_pos (cmpL _)) (fun _ => next _ _ hR) (fun z => by cases z)
set_option maxRecDepth 100000 in
set_option maxHeartbeats 4000000 in
theorem law_30 (F : Fx Z RL cL_law 4 13 494) (S : SL Z b L xs) (hL : L ≤ 2048) (hi : i + 4 ≤ L) (h : R w σ) (next : ∀ w σ, R w σ → V Z 1497 (lsL Z b i) [] w) : V Z 1025 (lsL Z b i) [] w := by
  obtain ⟨r, w1, w2, σ2, e9, e10, hR⟩ := q_wax h (xs (i + 1))
  replace e10 : fX10_wax w1 (xs (i + 1)) = some (r, w2) := e10
  refine r_aload_n (pc := 1025) F dL_law_1025 rfl ?_
  refine r_aload_n (pc := 1026) F dL_law_1026 rfl ?_
  refine r_iload_n (pc := 1027) F dL_law_1027 rfl ?_
  refine r_iconst (pc := 1028) F dL_law_1028 ic_1 ?_
  refine r_iadd (pc := 1029) F dL_law_1029 ?_
  refine r_sld (pc := 1030) (j := i + 1) F S dL_law_1030 (n_add i 1) (by omega) hL ?_
  refine r_Vj1 (pc := 1031) F dL_law_1031 ml_L_138 (kX9_wax _ w (xs (i + 1)) _ e9) i68_0 (ce_0 _ _ _) (Nat.le_of_ble_eq_true rfl) (Nat.le_of_ble_eq_true rfl) (Nat.le_of_ble_eq_true rfl) ?_
  refine r_aload_n (pc := 1034) F dL_law_1034 rfl ?_
  refine r_aload_n (pc := 1035) F dL_law_1035 rfl ?_
  refine r_iload_n (pc := 1036) F dL_law_1036 rfl ?_
  refine r_iconst (pc := 1037) F dL_law_1037 ic_1 ?_
  refine r_iadd (pc := 1038) F dL_law_1038 ?_
  refine r_sld (pc := 1039) (j := i + 1) F S dL_law_1039 (n_add i 1) (by omega) hL ?_
  refine r_Vj1 (pc := 1040) F dL_law_1040 ml_L_141 (kX10_wax _ w1 (xs (i + 1)) _ e10) i68_42 (ce_42 _ _ _) (Nat.le_of_ble_eq_true rfl) (Nat.le_of_ble_eq_true rfl) (Nat.le_of_ble_eq_true rfl) ?_
  exact r_icmp_eq (pc := 1043) (tgt := 1497) F dL_law_1043 rfl (β := Bool) (A := true) (B := false) (o := true) (if_pos rfl) (fun _ => next _ _ hR) (fun z => by cases z)
set_option maxRecDepth 100000 in
set_option maxHeartbeats 4000000 in
theorem law_31 (F : Fx Z RL cL_law 4 13 494) (S : SL Z b L xs) (hL : L ≤ 2048) (hi : i + 4 ≤ L) (h : R w σ) (next : ∀ w σ, R w σ → V Z 1497 (lsL Z b i) [] w) : V Z 1048 (lsL Z b i) [] w := by
  obtain ⟨r, w1, w2, σ2, e9, e10, hR⟩ := q_sides h
  replace e10 : fX10_sides w1 = some (r, w2) := e10
  refine r_aload_n (pc := 1048) F dL_law_1048 rfl ?_
  refine r_Vj0 (pc := 1049) F dL_law_1049 ml_L_142 (kX9_sides _ w _ e9) i68_0 (ce_0 _ _ _) (Nat.le_of_ble_eq_true rfl) (Nat.le_of_ble_eq_true rfl) (Nat.le_of_ble_eq_true rfl) ?_
  refine r_aload_n (pc := 1052) F dL_law_1052 rfl ?_
  refine r_Vj0 (pc := 1053) F dL_law_1053 ml_L_145 (kX10_sides _ w1 _ e10) i68_42 (ce_42 _ _ _) (Nat.le_of_ble_eq_true rfl) (Nat.le_of_ble_eq_true rfl) (Nat.le_of_ble_eq_true rfl) ?_
  exact r_icmp_eq (pc := 1056) (tgt := 1497) F dL_law_1056 rfl (β := Bool) (A := true) (B := false) (o := true) (if_pos rfl) (fun _ => next _ _ hR) (fun z => by cases z)
set_option maxRecDepth 100000 in
set_option maxHeartbeats 4000000 in
theorem law_32 (F : Fx Z RL cL_law 4 13 494) (S : SL Z b L xs) (hL : L ≤ 2048) (hi : i + 4 ≤ L) (h : R w σ) (next : ∀ w σ, R w σ → V Z 1497 (lsL Z b i) [] w) : V Z 1061 (lsL Z b i) [] w := by
  obtain ⟨r, w1, w2, σ2, e9, e10, hR⟩ := q_row h (xs (i + 1))
  replace e10 : fX10_row w1 (xs (i + 1)) = some (r, w2) := e10
  refine r_aload_n (pc := 1061) F dL_law_1061 rfl ?_
  refine r_aload_n (pc := 1062) F dL_law_1062 rfl ?_
  refine r_iload_n (pc := 1063) F dL_law_1063 rfl ?_
  refine r_iconst (pc := 1064) F dL_law_1064 ic_1 ?_
  refine r_iadd (pc := 1065) F dL_law_1065 ?_
  refine r_sld (pc := 1066) (j := i + 1) F S dL_law_1066 (n_add i 1) (by omega) hL ?_
  refine r_Vj1 (pc := 1067) F dL_law_1067 ml_L_146 (kX9_row _ w (xs (i + 1)) _ e9) i68_0 (ce_0 _ _ _) (Nat.le_of_ble_eq_true rfl) (Nat.le_of_ble_eq_true rfl) (Nat.le_of_ble_eq_true rfl) ?_
  refine r_aload_n (pc := 1070) F dL_law_1070 rfl ?_
  refine r_aload_n (pc := 1071) F dL_law_1071 rfl ?_
  refine r_iload_n (pc := 1072) F dL_law_1072 rfl ?_
  refine r_iconst (pc := 1073) F dL_law_1073 ic_1 ?_
  refine r_iadd (pc := 1074) F dL_law_1074 ?_
  refine r_sld (pc := 1075) (j := i + 1) F S dL_law_1075 (n_add i 1) (by omega) hL ?_
  refine r_Vj1 (pc := 1076) F dL_law_1076 ml_L_149 (kX10_row _ w1 (xs (i + 1)) _ e10) i68_42 (ce_42 _ _ _) (Nat.le_of_ble_eq_true rfl) (Nat.le_of_ble_eq_true rfl) (Nat.le_of_ble_eq_true rfl) ?_
  exact r_icmp_eq (pc := 1079) (tgt := 1497) F dL_law_1079 rfl (β := Bool) (A := true) (B := false) (o := true) (if_pos rfl) (fun _ => next _ _ hR) (fun z => by cases z)
set_option maxRecDepth 100000 in
set_option maxHeartbeats 4000000 in
theorem law_33 (F : Fx Z RL cL_law 4 13 494) (S : SL Z b L xs) (hL : L ≤ 2048) (hi : i + 4 ≤ L) (h : R w σ) (next : ∀ w σ, R w σ → V Z 1497 (lsL Z b i) [] w) : V Z 1084 (lsL Z b i) [] w := by
  obtain ⟨r, w1, w2, σ2, e9, e10, hR⟩ := q_judge h
  replace e10 : fX10_judge w1 = some (r, w2) := e10
  refine r_aload_n (pc := 1084) F dL_law_1084 rfl ?_
  refine r_Vj0 (pc := 1085) F dL_law_1085 ml_L_150 (kX9_judge _ w _ e9) i68_0 (ce_0 _ _ _) (Nat.le_of_ble_eq_true rfl) (Nat.le_of_ble_eq_true rfl) (Nat.le_of_ble_eq_true rfl) ?_
  refine r_aload_n (pc := 1088) F dL_law_1088 rfl ?_
  refine r_Vj0 (pc := 1089) F dL_law_1089 ml_L_153 (kX10_judge _ w1 _ e10) i68_42 (ce_42 _ _ _) (Nat.le_of_ble_eq_true rfl) (Nat.le_of_ble_eq_true rfl) (Nat.le_of_ble_eq_true rfl) ?_
  exact r_icmp_eq (pc := 1092) (tgt := 1497) F dL_law_1092 rfl (β := Bool) (A := true) (B := false) (o := true) (if_pos rfl) (fun _ => next _ _ hR) (fun z => by cases z)
set_option maxRecDepth 100000 in
set_option maxHeartbeats 4000000 in
theorem law_34 (F : Fx Z RL cL_law 4 13 494) (S : SL Z b L xs) (hL : L ≤ 2048) (hi : i + 4 ≤ L) (h : R w σ) (next : ∀ w σ, R w σ → V Z 1497 (lsL Z b i) [] w) : V Z 1097 (lsL Z b i) [] w := by
  obtain ⟨r, w1, w2, e9, e10, hR⟩ := q_clear h
  refine r_aload_n (pc := 1097) F dL_law_1097 rfl ?_
  refine r_Vj0 (pc := 1098) F dL_law_1098 ml_L_154 (kX9_clear _ w _ e9) i68_0 (ce_0 _ _ _) (Nat.le_of_ble_eq_true rfl) (Nat.le_of_ble_eq_true rfl) (Nat.le_of_ble_eq_true rfl) ?_
  refine r_aload_n (pc := 1101) F dL_law_1101 rfl ?_
  refine r_Vj0 (pc := 1102) F dL_law_1102 ml_L_157 (kX10_clear _ w1 _ e10) i68_42 (ce_42 _ _ _) (Nat.le_of_ble_eq_true rfl) (Nat.le_of_ble_eq_true rfl) (Nat.le_of_ble_eq_true rfl) ?_
  exact r_icmp_eq (pc := 1105) (tgt := 1497) F dL_law_1105 rfl (β := Bool) (A := true) (B := false) (o := true) (if_pos rfl) (fun _ => next _ σ hR) (fun z => by cases z)
set_option maxRecDepth 100000 in
set_option maxHeartbeats 4000000 in
theorem law_35 (F : Fx Z RL cL_law 4 13 494) (S : SL Z b L xs) (hL : L ≤ 2048) (hi : i + 4 ≤ L) (h : R w σ) (next : ∀ w σ, R w σ → V Z 1497 (lsL Z b i) [] w) : V Z 1110 (lsL Z b i) [] w := by
  obtain ⟨r, w1, w2, σ2, e9, e10, hR⟩ := q_seeds h (xs (i + 1)) (xs (i + 2)) (xs (i + 3))
  replace e10 : fX10_seeds w1 (xs (i + 1)) (xs (i + 2)) (xs (i + 3)) = some (r, w2) := e10
  refine r_aload_n (pc := 1110) F dL_law_1110 rfl ?_
  refine r_aload_n (pc := 1111) F dL_law_1111 rfl ?_
  refine r_iload_n (pc := 1112) F dL_law_1112 rfl ?_
  refine r_iconst (pc := 1113) F dL_law_1113 ic_1 ?_
  refine r_iadd (pc := 1114) F dL_law_1114 ?_
  refine r_sld (pc := 1115) (j := i + 1) F S dL_law_1115 (n_add i 1) (by omega) hL ?_
  refine r_aload_n (pc := 1116) F dL_law_1116 rfl ?_
  refine r_iload_n (pc := 1117) F dL_law_1117 rfl ?_
  refine r_iconst (pc := 1118) F dL_law_1118 ic_2 ?_
  refine r_iadd (pc := 1119) F dL_law_1119 ?_
  refine r_sld (pc := 1120) (j := i + 2) F S dL_law_1120 (n_add i 2) (by omega) hL ?_
  refine r_aload_n (pc := 1121) F dL_law_1121 rfl ?_
  refine r_iload_n (pc := 1122) F dL_law_1122 rfl ?_
  refine r_iconst (pc := 1123) F dL_law_1123 ic_3 ?_
  refine r_iadd (pc := 1124) F dL_law_1124 ?_
  refine r_sld (pc := 1125) (j := i + 3) F S dL_law_1125 (n_add i 3) (by omega) hL ?_
  refine r_Vj3 (pc := 1126) F dL_law_1126 ml_L_158 (kX9_seeds _ w (xs (i + 1)) (xs (i + 2)) (xs (i + 3)) _ e9) i68_0 (ce_0 _ _ _) (Nat.le_of_ble_eq_true rfl) (Nat.le_of_ble_eq_true rfl) (Nat.le_of_ble_eq_true rfl) ?_
  refine r_aload_n (pc := 1129) F dL_law_1129 rfl ?_
  refine r_aload_n (pc := 1130) F dL_law_1130 rfl ?_
  refine r_iload_n (pc := 1131) F dL_law_1131 rfl ?_
  refine r_iconst (pc := 1132) F dL_law_1132 ic_1 ?_
  refine r_iadd (pc := 1133) F dL_law_1133 ?_
  refine r_sld (pc := 1134) (j := i + 1) F S dL_law_1134 (n_add i 1) (by omega) hL ?_
  refine r_aload_n (pc := 1135) F dL_law_1135 rfl ?_
  refine r_iload_n (pc := 1136) F dL_law_1136 rfl ?_
  refine r_iconst (pc := 1137) F dL_law_1137 ic_2 ?_
  refine r_iadd (pc := 1138) F dL_law_1138 ?_
  refine r_sld (pc := 1139) (j := i + 2) F S dL_law_1139 (n_add i 2) (by omega) hL ?_
  refine r_aload_n (pc := 1140) F dL_law_1140 rfl ?_
  refine r_iload_n (pc := 1141) F dL_law_1141 rfl ?_
  refine r_iconst (pc := 1142) F dL_law_1142 ic_3 ?_
  refine r_iadd (pc := 1143) F dL_law_1143 ?_
  refine r_sld (pc := 1144) (j := i + 3) F S dL_law_1144 (n_add i 3) (by omega) hL ?_
  refine r_Vj3 (pc := 1145) F dL_law_1145 ml_L_161 (kX10_seeds _ w1 (xs (i + 1)) (xs (i + 2)) (xs (i + 3)) _ e10) i68_42 (ce_42 _ _ _) (Nat.le_of_ble_eq_true rfl) (Nat.le_of_ble_eq_true rfl) (Nat.le_of_ble_eq_true rfl) ?_
  exact r_icmp_eq (pc := 1148) (tgt := 1497) F dL_law_1148 rfl (β := Bool) (A := true) (B := false) (o := true) (if_pos rfl) (fun _ => next _ _ hR) (fun z => by cases z)
set_option maxRecDepth 100000 in
set_option maxHeartbeats 4000000 in
theorem law_36 (F : Fx Z RL cL_law 4 13 494) (S : SL Z b L xs) (hL : L ≤ 2048) (hi : i + 4 ≤ L) (h : R w σ) (next : ∀ w σ, R w σ → V Z 1497 (lsL Z b i) [] w) : V Z 1153 (lsL Z b i) [] w := by
  obtain ⟨r, w1, w2, σ2, e9, e10, hR⟩ := q_back h
  replace e10 : fX10_back w1 = some (r, w2) := e10
  refine r_aload_n (pc := 1153) F dL_law_1153 rfl ?_
  refine r_Vj0 (pc := 1154) F dL_law_1154 ml_L_162 (kX9_back _ w _ e9) i68_0 (ce_0 _ _ _) (Nat.le_of_ble_eq_true rfl) (Nat.le_of_ble_eq_true rfl) (Nat.le_of_ble_eq_true rfl) ?_
  refine r_aload_n (pc := 1157) F dL_law_1157 rfl ?_
  refine r_Vj0 (pc := 1158) F dL_law_1158 ml_L_165 (kX10_back _ w1 _ e10) i68_42 (ce_42 _ _ _) (Nat.le_of_ble_eq_true rfl) (Nat.le_of_ble_eq_true rfl) (Nat.le_of_ble_eq_true rfl) ?_
  exact r_icmp_eq (pc := 1161) (tgt := 1497) F dL_law_1161 rfl (β := Bool) (A := true) (B := false) (o := true) (if_pos rfl) (fun _ => next _ _ hR) (fun z => by cases z)
set_option maxRecDepth 100000 in
set_option maxHeartbeats 4000000 in
theorem law_37 (F : Fx Z RL cL_law 4 13 494) (S : SL Z b L xs) (hL : L ≤ 2048) (hi : i + 4 ≤ L) (h : R w σ) (next : ∀ w σ, R w σ → V Z 1497 (lsL Z b i) [] w) : V Z 1166 (lsL Z b i) [] w := by
  obtain ⟨r, w1, w2, σ2, e9, e10, hR⟩ := q_all h
  replace e10 : fX10_all w1 = some (r, w2) := e10
  refine r_aload_n (pc := 1166) F dL_law_1166 rfl ?_
  refine r_Vj0 (pc := 1167) F dL_law_1167 ml_L_166 (kX9_all _ w _ e9) i68_0 (ce_0 _ _ _) (Nat.le_of_ble_eq_true rfl) (Nat.le_of_ble_eq_true rfl) (Nat.le_of_ble_eq_true rfl) ?_
  refine r_aload_n (pc := 1170) F dL_law_1170 rfl ?_
  refine r_Vj0 (pc := 1171) F dL_law_1171 ml_L_169 (kX10_all _ w1 _ e10) i68_42 (ce_42 _ _ _) (Nat.le_of_ble_eq_true rfl) (Nat.le_of_ble_eq_true rfl) (Nat.le_of_ble_eq_true rfl) ?_
  exact r_icmp_eq (pc := 1174) (tgt := 1497) F dL_law_1174 rfl (β := Bool) (A := true) (B := false) (o := true) (if_pos rfl) (fun _ => next _ _ hR) (fun z => by cases z)
set_option maxRecDepth 100000 in
set_option maxHeartbeats 4000000 in
theorem law_38 (F : Fx Z RL cL_law 4 13 494) (S : SL Z b L xs) (hL : L ≤ 2048) (hi : i + 4 ≤ L) (h : R w σ) (next : ∀ w σ, R w σ → V Z 1497 (lsL Z b i) [] w) : V Z 1179 (lsL Z b i) [] w := by
  obtain ⟨r, w1, w2, σ2, e9, e10, hR⟩ := q_behind h (xs (i + 1))
  replace e10 : fX10_behind w1 (xs (i + 1)) = some (r, w2) := e10
  refine r_aload_n (pc := 1179) F dL_law_1179 rfl ?_
  refine r_aload_n (pc := 1180) F dL_law_1180 rfl ?_
  refine r_iload_n (pc := 1181) F dL_law_1181 rfl ?_
  refine r_iconst (pc := 1182) F dL_law_1182 ic_1 ?_
  refine r_iadd (pc := 1183) F dL_law_1183 ?_
  refine r_sld (pc := 1184) (j := i + 1) F S dL_law_1184 (n_add i 1) (by omega) hL ?_
  refine r_Vj1 (pc := 1185) F dL_law_1185 ml_L_170 (kX9_behind _ w (xs (i + 1)) _ e9) i68_0 (ce_0 _ _ _) (Nat.le_of_ble_eq_true rfl) (Nat.le_of_ble_eq_true rfl) (Nat.le_of_ble_eq_true rfl) ?_
  refine r_aload_n (pc := 1188) F dL_law_1188 rfl ?_
  refine r_aload_n (pc := 1189) F dL_law_1189 rfl ?_
  refine r_iload_n (pc := 1190) F dL_law_1190 rfl ?_
  refine r_iconst (pc := 1191) F dL_law_1191 ic_1 ?_
  refine r_iadd (pc := 1192) F dL_law_1192 ?_
  refine r_sld (pc := 1193) (j := i + 1) F S dL_law_1193 (n_add i 1) (by omega) hL ?_
  refine r_Vj1 (pc := 1194) F dL_law_1194 ml_L_173 (kX10_behind _ w1 (xs (i + 1)) _ e10) i68_42 (ce_42 _ _ _) (Nat.le_of_ble_eq_true rfl) (Nat.le_of_ble_eq_true rfl) (Nat.le_of_ble_eq_true rfl) ?_
  exact r_icmp_eq (pc := 1197) (tgt := 1497) F dL_law_1197 rfl (β := Bool) (A := true) (B := false) (o := true) (if_pos rfl) (fun _ => next _ _ hR) (fun z => by cases z)
set_option maxRecDepth 100000 in
set_option maxHeartbeats 4000000 in
theorem law_39 (F : Fx Z RL cL_law 4 13 494) (S : SL Z b L xs) (hL : L ≤ 2048) (hi : i + 4 ≤ L) (h : R w σ) (next : ∀ w σ, R w σ → V Z 1497 (lsL Z b i) [] w) : V Z 1202 (lsL Z b i) [] w := by
  obtain ⟨r, w1, w2, σ2, e9, e10, hR⟩ := q_atFirst h (xs (i + 1))
  replace e10 : fX10_atFirst w1 (xs (i + 1)) = some (r, w2) := e10
  refine r_aload_n (pc := 1202) F dL_law_1202 rfl ?_
  refine r_aload_n (pc := 1203) F dL_law_1203 rfl ?_
  refine r_iload_n (pc := 1204) F dL_law_1204 rfl ?_
  refine r_iconst (pc := 1205) F dL_law_1205 ic_1 ?_
  refine r_iadd (pc := 1206) F dL_law_1206 ?_
  refine r_sld (pc := 1207) (j := i + 1) F S dL_law_1207 (n_add i 1) (by omega) hL ?_
  refine r_Vj1 (pc := 1208) F dL_law_1208 ml_L_174 (kX9_atFirst _ w (xs (i + 1)) _ e9) i68_0 (ce_0 _ _ _) (Nat.le_of_ble_eq_true rfl) (Nat.le_of_ble_eq_true rfl) (Nat.le_of_ble_eq_true rfl) ?_
  refine r_aload_n (pc := 1211) F dL_law_1211 rfl ?_
  refine r_aload_n (pc := 1212) F dL_law_1212 rfl ?_
  refine r_iload_n (pc := 1213) F dL_law_1213 rfl ?_
  refine r_iconst (pc := 1214) F dL_law_1214 ic_1 ?_
  refine r_iadd (pc := 1215) F dL_law_1215 ?_
  refine r_sld (pc := 1216) (j := i + 1) F S dL_law_1216 (n_add i 1) (by omega) hL ?_
  refine r_Vj1 (pc := 1217) F dL_law_1217 ml_L_177 (kX10_atFirst _ w1 (xs (i + 1)) _ e10) i68_42 (ce_42 _ _ _) (Nat.le_of_ble_eq_true rfl) (Nat.le_of_ble_eq_true rfl) (Nat.le_of_ble_eq_true rfl) ?_
  exact r_icmp_eq (pc := 1220) (tgt := 1497) F dL_law_1220 rfl (β := Bool) (A := true) (B := false) (o := true) (if_pos rfl) (fun _ => next _ _ hR) (fun z => by cases z)
set_option maxRecDepth 100000 in
set_option maxHeartbeats 4000000 in
theorem law_40 (F : Fx Z RL cL_law 4 13 494) (S : SL Z b L xs) (hL : L ≤ 2048) (hi : i + 4 ≤ L) (h : R w σ) (next : ∀ w σ, R w σ → V Z 1497 (lsL Z b i) [] w) : V Z 1225 (lsL Z b i) [] w := by
  obtain ⟨r, w1, w2, σ2, e9, e10, hR⟩ := q_forms h (xs (i + 1))
  replace e10 : fX10_forms w1 (xs (i + 1)) = some (r, w2) := e10
  refine r_aload_n (pc := 1225) F dL_law_1225 rfl ?_
  refine r_aload_n (pc := 1226) F dL_law_1226 rfl ?_
  refine r_iload_n (pc := 1227) F dL_law_1227 rfl ?_
  refine r_iconst (pc := 1228) F dL_law_1228 ic_1 ?_
  refine r_iadd (pc := 1229) F dL_law_1229 ?_
  refine r_sld (pc := 1230) (j := i + 1) F S dL_law_1230 (n_add i 1) (by omega) hL ?_
  refine r_Vj1 (pc := 1231) F dL_law_1231 ml_L_178 (kX9_forms _ w (xs (i + 1)) _ e9) i68_0 (ce_0 _ _ _) (Nat.le_of_ble_eq_true rfl) (Nat.le_of_ble_eq_true rfl) (Nat.le_of_ble_eq_true rfl) ?_
  refine r_aload_n (pc := 1234) F dL_law_1234 rfl ?_
  refine r_aload_n (pc := 1235) F dL_law_1235 rfl ?_
  refine r_iload_n (pc := 1236) F dL_law_1236 rfl ?_
  refine r_iconst (pc := 1237) F dL_law_1237 ic_1 ?_
  refine r_iadd (pc := 1238) F dL_law_1238 ?_
  refine r_sld (pc := 1239) (j := i + 1) F S dL_law_1239 (n_add i 1) (by omega) hL ?_
  refine r_Vj1 (pc := 1240) F dL_law_1240 ml_L_181 (kX10_forms _ w1 (xs (i + 1)) _ e10) i68_42 (ce_42 _ _ _) (Nat.le_of_ble_eq_true rfl) (Nat.le_of_ble_eq_true rfl) (Nat.le_of_ble_eq_true rfl) ?_
  exact r_icmp_eq (pc := 1243) (tgt := 1497) F dL_law_1243 rfl (β := Bool) (A := true) (B := false) (o := true) (if_pos rfl) (fun _ => next _ _ hR) (fun z => by cases z)
set_option maxRecDepth 100000 in
set_option maxHeartbeats 4000000 in
theorem law_41 (F : Fx Z RL cL_law 4 13 494) (S : SL Z b L xs) (hL : L ≤ 2048) (hi : i + 4 ≤ L) (h : R w σ) (next : ∀ w σ, R w σ → V Z 1497 (lsL Z b i) [] w) : V Z 1248 (lsL Z b i) [] w := by
  obtain ⟨r, w1, w2, σ2, e9, e10, hR⟩ := q_calms h (xs (i + 1))
  replace e10 : fX10_calms w1 (xs (i + 1)) = some (r, w2) := e10
  refine r_aload_n (pc := 1248) F dL_law_1248 rfl ?_
  refine r_aload_n (pc := 1249) F dL_law_1249 rfl ?_
  refine r_iload_n (pc := 1250) F dL_law_1250 rfl ?_
  refine r_iconst (pc := 1251) F dL_law_1251 ic_1 ?_
  refine r_iadd (pc := 1252) F dL_law_1252 ?_
  refine r_sld (pc := 1253) (j := i + 1) F S dL_law_1253 (n_add i 1) (by omega) hL ?_
  refine r_Vj1 (pc := 1254) F dL_law_1254 ml_L_182 (kX9_calms _ w (xs (i + 1)) _ e9) i68_0 (ce_0 _ _ _) (Nat.le_of_ble_eq_true rfl) (Nat.le_of_ble_eq_true rfl) (Nat.le_of_ble_eq_true rfl) ?_
  refine r_aload_n (pc := 1257) F dL_law_1257 rfl ?_
  refine r_aload_n (pc := 1258) F dL_law_1258 rfl ?_
  refine r_iload_n (pc := 1259) F dL_law_1259 rfl ?_
  refine r_iconst (pc := 1260) F dL_law_1260 ic_1 ?_
  refine r_iadd (pc := 1261) F dL_law_1261 ?_
  refine r_sld (pc := 1262) (j := i + 1) F S dL_law_1262 (n_add i 1) (by omega) hL ?_
  refine r_Vj1 (pc := 1263) F dL_law_1263 ml_L_185 (kX10_calms _ w1 (xs (i + 1)) _ e10) i68_42 (ce_42 _ _ _) (Nat.le_of_ble_eq_true rfl) (Nat.le_of_ble_eq_true rfl) (Nat.le_of_ble_eq_true rfl) ?_
  exact r_icmp_eq (pc := 1266) (tgt := 1497) F dL_law_1266 rfl (β := Bool) (A := true) (B := false) (o := true) (if_pos rfl) (fun _ => next _ _ hR) (fun z => by cases z)
set_option maxRecDepth 100000 in
set_option maxHeartbeats 4000000 in
theorem law_42 (F : Fx Z RL cL_law 4 13 494) (S : SL Z b L xs) (hL : L ≤ 2048) (hi : i + 4 ≤ L) (h : R w σ) (next : ∀ w σ, R w σ → V Z 1497 (lsL Z b i) [] w) : V Z 1271 (lsL Z b i) [] w := by
  obtain ⟨r, w1, w2, σ2, e9, e10, hR⟩ := q_farthest h
  replace e10 : fX10_farthest w1 = some (r, w2) := e10
  refine r_aload_n (pc := 1271) F dL_law_1271 rfl ?_
  refine r_Vj0 (pc := 1272) F dL_law_1272 ml_L_186 (kX9_farthest _ w _ e9) i68_0 (ce_0 _ _ _) (Nat.le_of_ble_eq_true rfl) (Nat.le_of_ble_eq_true rfl) (Nat.le_of_ble_eq_true rfl) ?_
  refine r_aload_n (pc := 1275) F dL_law_1275 rfl ?_
  refine r_Vj0 (pc := 1276) F dL_law_1276 ml_L_189 (kX10_farthest _ w1 _ e10) i68_42 (ce_42 _ _ _) (Nat.le_of_ble_eq_true rfl) (Nat.le_of_ble_eq_true rfl) (Nat.le_of_ble_eq_true rfl) ?_
  exact r_icmp_eq (pc := 1279) (tgt := 1497) F dL_law_1279 rfl (β := Bool) (A := true) (B := false) (o := true) (if_pos rfl) (fun _ => next _ _ hR) (fun z => by cases z)
set_option maxRecDepth 100000 in
set_option maxHeartbeats 4000000 in
theorem law_43 (F : Fx Z RL cL_law 4 13 494) (S : SL Z b L xs) (hL : L ≤ 2048) (hi : i + 4 ≤ L) (h : R w σ) (next : ∀ w σ, R w σ → V Z 1497 (lsL Z b i) [] w) : V Z 1284 (lsL Z b i) [] w := by
  obtain ⟨r, w1, w2, σ2, e9, e10, hR⟩ := q_turned h
  replace e10 : fX10_turned w1 = some (r, w2) := e10
  refine r_aload_n (pc := 1284) F dL_law_1284 rfl ?_
  refine r_Vj0 (pc := 1285) F dL_law_1285 ml_L_190 (kX9_turned _ w _ e9) i68_0 (ce_0 _ _ _) (Nat.le_of_ble_eq_true rfl) (Nat.le_of_ble_eq_true rfl) (Nat.le_of_ble_eq_true rfl) ?_
  refine r_aload_n (pc := 1288) F dL_law_1288 rfl ?_
  refine r_Vj0 (pc := 1289) F dL_law_1289 ml_L_193 (kX10_turned _ w1 _ e10) i68_42 (ce_42 _ _ _) (Nat.le_of_ble_eq_true rfl) (Nat.le_of_ble_eq_true rfl) (Nat.le_of_ble_eq_true rfl) ?_
  exact r_icmp_eq (pc := 1292) (tgt := 1497) F dL_law_1292 rfl (β := Bool) (A := true) (B := false) (o := true) (if_pos rfl) (fun _ => next _ _ hR) (fun z => by cases z)
set_option maxRecDepth 100000 in
set_option maxHeartbeats 4000000 in
theorem law_44 (F : Fx Z RL cL_law 4 13 494) (S : SL Z b L xs) (hL : L ≤ 2048) (hi : i + 4 ≤ L) (h : R w σ) (next : ∀ w σ, R w σ → V Z 1497 (lsL Z b i) [] w) : V Z 1297 (lsL Z b i) [] w := by
  obtain ⟨r, w1, w2, σ2, e9, e10, hR⟩ := q_flame h (xs (i + 1))
  replace e10 : fX10_flame w1 (xs (i + 1)) = some (r, w2) := e10
  refine r_aload_n (pc := 1297) F dL_law_1297 rfl ?_
  refine r_aload_n (pc := 1298) F dL_law_1298 rfl ?_
  refine r_iload_n (pc := 1299) F dL_law_1299 rfl ?_
  refine r_iconst (pc := 1300) F dL_law_1300 ic_1 ?_
  refine r_iadd (pc := 1301) F dL_law_1301 ?_
  refine r_sld (pc := 1302) (j := i + 1) F S dL_law_1302 (n_add i 1) (by omega) hL ?_
  refine r_Vj1 (pc := 1303) F dL_law_1303 ml_L_194 (kX9_flame _ w (xs (i + 1)) _ e9) i68_0 (ce_0 _ _ _) (Nat.le_of_ble_eq_true rfl) (Nat.le_of_ble_eq_true rfl) (Nat.le_of_ble_eq_true rfl) ?_
  refine r_aload_n (pc := 1306) F dL_law_1306 rfl ?_
  refine r_aload_n (pc := 1307) F dL_law_1307 rfl ?_
  refine r_iload_n (pc := 1308) F dL_law_1308 rfl ?_
  refine r_iconst (pc := 1309) F dL_law_1309 ic_1 ?_
  refine r_iadd (pc := 1310) F dL_law_1310 ?_
  refine r_sld (pc := 1311) (j := i + 1) F S dL_law_1311 (n_add i 1) (by omega) hL ?_
  refine r_Vj1 (pc := 1312) F dL_law_1312 ml_L_197 (kX10_flame _ w1 (xs (i + 1)) _ e10) i68_42 (ce_42 _ _ _) (Nat.le_of_ble_eq_true rfl) (Nat.le_of_ble_eq_true rfl) (Nat.le_of_ble_eq_true rfl) ?_
  exact r_icmp_eq (pc := 1315) (tgt := 1497) F dL_law_1315 rfl (β := Bool) (A := true) (B := false) (o := true) (if_pos rfl) (fun _ => next _ _ hR) (fun z => by cases z)
set_option maxRecDepth 100000 in
set_option maxHeartbeats 4000000 in
theorem law_45 (F : Fx Z RL cL_law 4 13 494) (S : SL Z b L xs) (hL : L ≤ 2048) (hi : i + 4 ≤ L) (h : R w σ) (next : ∀ w σ, R w σ → V Z 1497 (lsL Z b i) [] w) : V Z 1320 (lsL Z b i) [] w := by
  obtain ⟨r, w1, w2, σ2, e9, e10, hR⟩ := q_out h (xs (i + 1))
  replace e10 : fX10_out w1 (xs (i + 1)) = some (r, w2) := e10
  refine r_aload_n (pc := 1320) F dL_law_1320 rfl ?_
  refine r_aload_n (pc := 1321) F dL_law_1321 rfl ?_
  refine r_iload_n (pc := 1322) F dL_law_1322 rfl ?_
  refine r_iconst (pc := 1323) F dL_law_1323 ic_1 ?_
  refine r_iadd (pc := 1324) F dL_law_1324 ?_
  refine r_sld (pc := 1325) (j := i + 1) F S dL_law_1325 (n_add i 1) (by omega) hL ?_
  refine r_Vj1 (pc := 1326) F dL_law_1326 ml_L_198 (kX9_out _ w (xs (i + 1)) _ e9) i68_0 (ce_0 _ _ _) (Nat.le_of_ble_eq_true rfl) (Nat.le_of_ble_eq_true rfl) (Nat.le_of_ble_eq_true rfl) ?_
  refine r_aload_n (pc := 1329) F dL_law_1329 rfl ?_
  refine r_aload_n (pc := 1330) F dL_law_1330 rfl ?_
  refine r_iload_n (pc := 1331) F dL_law_1331 rfl ?_
  refine r_iconst (pc := 1332) F dL_law_1332 ic_1 ?_
  refine r_iadd (pc := 1333) F dL_law_1333 ?_
  refine r_sld (pc := 1334) (j := i + 1) F S dL_law_1334 (n_add i 1) (by omega) hL ?_
  refine r_Vj1 (pc := 1335) F dL_law_1335 ml_L_201 (kX10_out _ w1 (xs (i + 1)) _ e10) i68_42 (ce_42 _ _ _) (Nat.le_of_ble_eq_true rfl) (Nat.le_of_ble_eq_true rfl) (Nat.le_of_ble_eq_true rfl) ?_
  exact r_icmp_eq (pc := 1338) (tgt := 1497) F dL_law_1338 rfl (β := Bool) (A := true) (B := false) (o := true) (if_pos rfl) (fun _ => next _ _ hR) (fun z => by cases z)
set_option maxRecDepth 100000 in
set_option maxHeartbeats 4000000 in
theorem law_46 (F : Fx Z RL cL_law 4 13 494) (S : SL Z b L xs) (hL : L ≤ 2048) (hi : i + 4 ≤ L) (h : R w σ) (next : ∀ w σ, R w σ → V Z 1497 (lsL Z b i) [] w) : V Z 1343 (lsL Z b i) [] w := by
  obtain ⟨r, w1, w2, σ2, e9, e10, hR⟩ := q_again h
  replace e10 : fX10_again w1 = some (r, w2) := e10
  refine r_aload_n (pc := 1343) F dL_law_1343 rfl ?_
  refine r_Vj0 (pc := 1344) F dL_law_1344 ml_L_202 (kX9_again _ w _ e9) i68_0 (ce_0 _ _ _) (Nat.le_of_ble_eq_true rfl) (Nat.le_of_ble_eq_true rfl) (Nat.le_of_ble_eq_true rfl) ?_
  refine r_aload_n (pc := 1347) F dL_law_1347 rfl ?_
  refine r_Vj0 (pc := 1348) F dL_law_1348 ml_L_205 (kX10_again _ w1 _ e10) i68_42 (ce_42 _ _ _) (Nat.le_of_ble_eq_true rfl) (Nat.le_of_ble_eq_true rfl) (Nat.le_of_ble_eq_true rfl) ?_
  exact r_icmp_eq (pc := 1351) (tgt := 1497) F dL_law_1351 rfl (β := Bool) (A := true) (B := false) (o := true) (if_pos rfl) (fun _ => next _ _ hR) (fun z => by cases z)
set_option maxRecDepth 100000 in
set_option maxHeartbeats 4000000 in
theorem law_47 (F : Fx Z RL cL_law 4 13 494) (S : SL Z b L xs) (hL : L ≤ 2048) (hi : i + 4 ≤ L) (h : R w σ) (next : ∀ w σ, R w σ → V Z 1497 (lsL Z b i) [] w) : V Z 1356 (lsL Z b i) [] w := by
  obtain ⟨r, w1, w2, σ2, e9, e10, hR⟩ := q_game h (xs (i + 1))
  replace e10 : fX10_game w1 (xs (i + 1)) = some (r, w2) := e10
  refine r_aload_n (pc := 1356) F dL_law_1356 rfl ?_
  refine r_aload_n (pc := 1357) F dL_law_1357 rfl ?_
  refine r_iload_n (pc := 1358) F dL_law_1358 rfl ?_
  refine r_iconst (pc := 1359) F dL_law_1359 ic_1 ?_
  refine r_iadd (pc := 1360) F dL_law_1360 ?_
  refine r_sld (pc := 1361) (j := i + 1) F S dL_law_1361 (n_add i 1) (by omega) hL ?_
  refine r_Vj1 (pc := 1362) F dL_law_1362 ml_L_206 (kX9_game _ w (xs (i + 1)) _ e9) i68_0 (ce_0 _ _ _) (Nat.le_of_ble_eq_true rfl) (Nat.le_of_ble_eq_true rfl) (Nat.le_of_ble_eq_true rfl) ?_
  refine r_aload_n (pc := 1365) F dL_law_1365 rfl ?_
  refine r_aload_n (pc := 1366) F dL_law_1366 rfl ?_
  refine r_iload_n (pc := 1367) F dL_law_1367 rfl ?_
  refine r_iconst (pc := 1368) F dL_law_1368 ic_1 ?_
  refine r_iadd (pc := 1369) F dL_law_1369 ?_
  refine r_sld (pc := 1370) (j := i + 1) F S dL_law_1370 (n_add i 1) (by omega) hL ?_
  refine r_Vj1 (pc := 1371) F dL_law_1371 ml_L_209 (kX10_game _ w1 (xs (i + 1)) _ e10) i68_42 (ce_42 _ _ _) (Nat.le_of_ble_eq_true rfl) (Nat.le_of_ble_eq_true rfl) (Nat.le_of_ble_eq_true rfl) ?_
  exact r_icmp_eq (pc := 1374) (tgt := 1497) F dL_law_1374 rfl (β := Bool) (A := true) (B := false) (o := true) (if_pos rfl) (fun _ => next _ _ hR) (fun z => by cases z)
set_option maxRecDepth 100000 in
set_option maxHeartbeats 4000000 in
theorem law_48 (F : Fx Z RL cL_law 4 13 494) (S : SL Z b L xs) (hL : L ≤ 2048) (hi : i + 4 ≤ L) (h : R w σ) (next : ∀ w σ, R w σ → V Z 1497 (lsL Z b i) [] w) : V Z 1379 (lsL Z b i) [] w := by
  obtain ⟨r, w1, w2, σ2, e9, e10, hR⟩ := q_heirs h (xs (i + 1))
  replace e10 : fX10_heirs w1 (xs (i + 1)) = some (r, w2) := e10
  refine r_aload_n (pc := 1379) F dL_law_1379 rfl ?_
  refine r_aload_n (pc := 1380) F dL_law_1380 rfl ?_
  refine r_iload_n (pc := 1381) F dL_law_1381 rfl ?_
  refine r_iconst (pc := 1382) F dL_law_1382 ic_1 ?_
  refine r_iadd (pc := 1383) F dL_law_1383 ?_
  refine r_sld (pc := 1384) (j := i + 1) F S dL_law_1384 (n_add i 1) (by omega) hL ?_
  refine r_Vj1 (pc := 1385) F dL_law_1385 ml_L_210 (kX9_heirs _ w (xs (i + 1)) _ e9) i68_0 (ce_0 _ _ _) (Nat.le_of_ble_eq_true rfl) (Nat.le_of_ble_eq_true rfl) (Nat.le_of_ble_eq_true rfl) ?_
  refine r_aload_n (pc := 1388) F dL_law_1388 rfl ?_
  refine r_aload_n (pc := 1389) F dL_law_1389 rfl ?_
  refine r_iload_n (pc := 1390) F dL_law_1390 rfl ?_
  refine r_iconst (pc := 1391) F dL_law_1391 ic_1 ?_
  refine r_iadd (pc := 1392) F dL_law_1392 ?_
  refine r_sld (pc := 1393) (j := i + 1) F S dL_law_1393 (n_add i 1) (by omega) hL ?_
  refine r_Vj1 (pc := 1394) F dL_law_1394 ml_L_213 (kX10_heirs _ w1 (xs (i + 1)) _ e10) i68_42 (ce_42 _ _ _) (Nat.le_of_ble_eq_true rfl) (Nat.le_of_ble_eq_true rfl) (Nat.le_of_ble_eq_true rfl) ?_
  exact r_icmp_eq (pc := 1397) (tgt := 1497) F dL_law_1397 rfl (β := Bool) (A := true) (B := false) (o := true) (if_pos rfl) (fun _ => next _ _ hR) (fun z => by cases z)
set_option maxRecDepth 100000 in
set_option maxHeartbeats 4000000 in
theorem law_49 (F : Fx Z RL cL_law 4 13 494) (S : SL Z b L xs) (hL : L ≤ 2048) (hi : i + 4 ≤ L) (h : R w σ) (next : ∀ w σ, R w σ → V Z 1497 (lsL Z b i) [] w) : V Z 1402 (lsL Z b i) [] w := by
  obtain ⟨r, w1, w2, σ2, e9, e10, hR⟩ := q_gaps h (xs (i + 1))
  replace e10 : fX10_gaps w1 (xs (i + 1)) = some (r, w2) := e10
  refine r_aload_n (pc := 1402) F dL_law_1402 rfl ?_
  refine r_aload_n (pc := 1403) F dL_law_1403 rfl ?_
  refine r_iload_n (pc := 1404) F dL_law_1404 rfl ?_
  refine r_iconst (pc := 1405) F dL_law_1405 ic_1 ?_
  refine r_iadd (pc := 1406) F dL_law_1406 ?_
  refine r_sld (pc := 1407) (j := i + 1) F S dL_law_1407 (n_add i 1) (by omega) hL ?_
  refine r_Vj1 (pc := 1408) F dL_law_1408 ml_L_214 (kX9_gaps _ w (xs (i + 1)) _ e9) i68_0 (ce_0 _ _ _) (Nat.le_of_ble_eq_true rfl) (Nat.le_of_ble_eq_true rfl) (Nat.le_of_ble_eq_true rfl) ?_
  refine r_aload_n (pc := 1411) F dL_law_1411 rfl ?_
  refine r_aload_n (pc := 1412) F dL_law_1412 rfl ?_
  refine r_iload_n (pc := 1413) F dL_law_1413 rfl ?_
  refine r_iconst (pc := 1414) F dL_law_1414 ic_1 ?_
  refine r_iadd (pc := 1415) F dL_law_1415 ?_
  refine r_sld (pc := 1416) (j := i + 1) F S dL_law_1416 (n_add i 1) (by omega) hL ?_
  refine r_Vj1 (pc := 1417) F dL_law_1417 ml_L_217 (kX10_gaps _ w1 (xs (i + 1)) _ e10) i68_42 (ce_42 _ _ _) (Nat.le_of_ble_eq_true rfl) (Nat.le_of_ble_eq_true rfl) (Nat.le_of_ble_eq_true rfl) ?_
  exact r_icmp_eq (pc := 1420) (tgt := 1497) F dL_law_1420 rfl (β := Bool) (A := true) (B := false) (o := true) (if_pos rfl) (fun _ => next _ _ hR) (fun z => by cases z)
set_option maxRecDepth 100000 in
set_option maxHeartbeats 4000000 in
theorem law_50 (F : Fx Z RL cL_law 4 13 494) (S : SL Z b L xs) (hL : L ≤ 2048) (hi : i + 4 ≤ L) (h : R w σ) (next : ∀ w σ, R w σ → V Z 1497 (lsL Z b i) [] w) : V Z 1425 (lsL Z b i) [] w := by
  obtain ⟨r, w1, w2, σ2, e9, e10, hR⟩ := q_matches h (xs (i + 1))
  replace e10 : fX10_matches w1 (xs (i + 1)) = some (r, w2) := e10
  refine r_aload_n (pc := 1425) F dL_law_1425 rfl ?_
  refine r_aload_n (pc := 1426) F dL_law_1426 rfl ?_
  refine r_iload_n (pc := 1427) F dL_law_1427 rfl ?_
  refine r_iconst (pc := 1428) F dL_law_1428 ic_1 ?_
  refine r_iadd (pc := 1429) F dL_law_1429 ?_
  refine r_sld (pc := 1430) (j := i + 1) F S dL_law_1430 (n_add i 1) (by omega) hL ?_
  refine r_Vj1 (pc := 1431) F dL_law_1431 ml_L_218 (kX9_matches _ w (xs (i + 1)) _ e9) i68_0 (ce_0 _ _ _) (Nat.le_of_ble_eq_true rfl) (Nat.le_of_ble_eq_true rfl) (Nat.le_of_ble_eq_true rfl) ?_
  refine r_aload_n (pc := 1434) F dL_law_1434 rfl ?_
  refine r_aload_n (pc := 1435) F dL_law_1435 rfl ?_
  refine r_iload_n (pc := 1436) F dL_law_1436 rfl ?_
  refine r_iconst (pc := 1437) F dL_law_1437 ic_1 ?_
  refine r_iadd (pc := 1438) F dL_law_1438 ?_
  refine r_sld (pc := 1439) (j := i + 1) F S dL_law_1439 (n_add i 1) (by omega) hL ?_
  refine r_Vj1 (pc := 1440) F dL_law_1440 ml_L_221 (kX10_matches _ w1 (xs (i + 1)) _ e10) i68_42 (ce_42 _ _ _) (Nat.le_of_ble_eq_true rfl) (Nat.le_of_ble_eq_true rfl) (Nat.le_of_ble_eq_true rfl) ?_
  exact r_icmp_eq (pc := 1443) (tgt := 1497) F dL_law_1443 rfl (β := Bool) (A := true) (B := false) (o := true) (if_pos rfl) (fun _ => next _ _ hR) (fun z => by cases z)
set_option maxRecDepth 100000 in
set_option maxHeartbeats 4000000 in
theorem law_51 (F : Fx Z RL cL_law 4 13 494) (S : SL Z b L xs) (hL : L ≤ 2048) (hi : i + 4 ≤ L) (h : R w σ) (next : ∀ w σ, R w σ → V Z 1497 (lsL Z b i) [] w) : V Z 1448 (lsL Z b i) [] w := by
  obtain ⟨r, w1, w2, e9, e10, hR⟩ := q_image h
  refine r_aload_n (pc := 1448) F dL_law_1448 rfl ?_
  refine r_Vj0 (pc := 1449) F dL_law_1449 ml_L_222 (kX9_image _ w _ e9) i68_0 (ce_0 _ _ _) (Nat.le_of_ble_eq_true rfl) (Nat.le_of_ble_eq_true rfl) (Nat.le_of_ble_eq_true rfl) ?_
  refine r_aload_n (pc := 1452) F dL_law_1452 rfl ?_
  refine r_Vj0 (pc := 1453) F dL_law_1453 ml_L_225 (kX10_image _ w1 _ e10) i68_42 (ce_42 _ _ _) (Nat.le_of_ble_eq_true rfl) (Nat.le_of_ble_eq_true rfl) (Nat.le_of_ble_eq_true rfl) ?_
  exact r_icmp_eq (pc := 1456) (tgt := 1497) F dL_law_1456 rfl (β := Bool) (A := true) (B := false) (o := true) (if_pos rfl) (fun _ => next _ σ hR) (fun z => by cases z)
set_option maxRecDepth 100000 in
set_option maxHeartbeats 4000000 in
theorem law_52 (F : Fx Z RL cL_law 4 13 494) (S : SL Z b L xs) (hL : L ≤ 2048) (hi : i + 4 ≤ L) (h : R w σ) (next : ∀ w σ, R w σ → V Z 1497 (lsL Z b i) [] w) : V Z 1461 (lsL Z b i) [] w := by
  obtain ⟨r, w1, w2, σ2, e9, e10, hR⟩ := q_restore h
  replace e10 : fX10_restore w1 = some (r, w2) := e10
  refine r_aload_n (pc := 1461) F dL_law_1461 rfl ?_
  refine r_Vj0 (pc := 1462) F dL_law_1462 ml_L_226 (kX9_restore _ w _ e9) i68_0 (ce_0 _ _ _) (Nat.le_of_ble_eq_true rfl) (Nat.le_of_ble_eq_true rfl) (Nat.le_of_ble_eq_true rfl) ?_
  refine r_aload_n (pc := 1465) F dL_law_1465 rfl ?_
  refine r_Vj0 (pc := 1466) F dL_law_1466 ml_L_229 (kX10_restore _ w1 _ e10) i68_42 (ce_42 _ _ _) (Nat.le_of_ble_eq_true rfl) (Nat.le_of_ble_eq_true rfl) (Nat.le_of_ble_eq_true rfl) ?_
  exact r_icmp_eq (pc := 1469) (tgt := 1497) F dL_law_1469 rfl (β := Bool) (A := true) (B := false) (o := true) (if_pos rfl) (fun _ => next _ _ hR) (fun z => by cases z)
set_option maxRecDepth 100000 in
set_option maxHeartbeats 4000000 in
theorem law_53 (F : Fx Z RL cL_law 4 13 494) (S : SL Z b L xs) (hL : L ≤ 2048) (hi : i + 4 ≤ L) (h : R w σ) (next : ∀ w σ, R w σ → V Z 1497 (lsL Z b i) [] w) : V Z 1474 (lsL Z b i) [] w := by
  obtain ⟨r, e9, e10⟩ := q_count h (xs (i + 1))
  refine r_aload_n (pc := 1474) F dL_law_1474 rfl ?_
  refine r_aload_n (pc := 1475) F dL_law_1475 rfl ?_
  refine r_iload_n (pc := 1476) F dL_law_1476 rfl ?_
  refine r_iconst (pc := 1477) F dL_law_1477 ic_1 ?_
  refine r_iadd (pc := 1478) F dL_law_1478 ?_
  refine r_sld (pc := 1479) (j := i + 1) F S dL_law_1479 (n_add i 1) (by omega) hL ?_
  refine r_Vi1 (pc := 1480) F dL_law_1480 ml_L_230 (kX9_count _ w (xs (i + 1)) _ e9) i68_0 (ce_0 _ _ _) (Nat.le_of_ble_eq_true rfl) (Nat.le_of_ble_eq_true rfl) (Nat.le_of_ble_eq_true rfl) ?_
  refine r_aload_n (pc := 1483) F dL_law_1483 rfl ?_
  refine r_aload_n (pc := 1484) F dL_law_1484 rfl ?_
  refine r_iload_n (pc := 1485) F dL_law_1485 rfl ?_
  refine r_iconst (pc := 1486) F dL_law_1486 ic_1 ?_
  refine r_iadd (pc := 1487) F dL_law_1487 ?_
  refine r_sld (pc := 1488) (j := i + 1) F S dL_law_1488 (n_add i 1) (by omega) hL ?_
  refine r_Vi1 (pc := 1489) F dL_law_1489 ml_L_233 (kX10_count _ w (xs (i + 1)) _ e10) i68_42 (ce_42 _ _ _) (Nat.le_of_ble_eq_true rfl) (Nat.le_of_ble_eq_true rfl) (Nat.le_of_ble_eq_true rfl) ?_
  exact r_icmp_eq (pc := 1492) (tgt := 1497) F dL_law_1492 rfl (β := Bool) (A := true) (B := false) (o := true) (if_pos rfl) (fun _ => next _ σ h) (fun z => by cases z)
theorem and63 (y : Int32) : ∃ k : Nat, k < 64 ∧ y &&& 63 = nI k := ⟨y.toBitVec.toNat &&& 63, Nat.lt_of_le_of_lt Nat.and_le_right (by decide), by
  apply Int32.toBitVec_inj.mp
  have hlt : y.toBitVec.toNat &&& 63 < 2 ^ 32 := Nat.lt_of_le_of_lt Nat.and_le_right (by decide)
  show y.toBitVec &&& 63#32 = BitVec.ofNat 32 (y.toBitVec.toNat &&& 63)
  apply BitVec.eq_of_toNat_eq
  exact (BitVec.toNat_and ..).trans (Nat.mod_eq_of_lt hlt).symm⟩
theorem r_swIn {pc tgt j : Nat} {dflt lo hi : Int} {offs : Array Int} {off : Int} {len : Nat} {ls : List (Nat × Value)} {st : List Value} (F : Fx Z RL cL_law 4 13 494) (d : decode cL_law pc = .ok (.tableswitch dflt lo hi offs, len)) (h1 : ¬ (nI j).toInt < lo) (h2 : ¬ hi < (nI j).toInt) (ho : offs[((nI j).toInt - lo).toNat]? = some off) (ht : (pc : Int) + off = (tgt : Int)) (kk : V Z tgt ls st w) : V Z pc ls (.int (nI j) :: st) w := fun H locs la g1 g2 g3 => lv_tableIn F.1 F.2.1 d h1 h2 ho ht (kk H locs la g1 g2 g3)
theorem r_swOut {pc tgt : Nat} {x : Int32} {dflt lo hi : Int} {offs : Array Int} {len : Nat} {ls : List (Nat × Value)} {st : List Value} (F : Fx Z RL cL_law 4 13 494) (d : decode cL_law pc = .ok (.tableswitch dflt lo hi offs, len)) (h : x.toInt < lo ∨ hi < x.toInt) (ht : (pc : Int) + dflt = (tgt : Int)) (kk : V Z tgt ls st w) : V Z pc ls (.int x :: st) w := fun H locs la g1 g2 g3 => lv_tableOut F.1 F.2.1 d h ht (kk H locs la g1 g2 g3)
set_option maxRecDepth 100000 in
set_option maxHeartbeats 4000000 in
theorem law_sw0 (F : Fx Z RL cL_law 4 13 494) (S : SL Z b L xs) (hL : L ≤ 2048) (hi : i + 4 ≤ L) (h : R w σ) (next : ∀ w σ, R w σ → V Z 1497 (lsL Z b i) [] w) {k : Nat} (h1 : 0 ≤ k) (h2 : k < 9) : V Z 32 (lsL Z b i) [.int (nI k)] w := by
  rcases (show k = 0 ∨ k = 1 ∨ k = 2 ∨ k = 3 ∨ k = 4 ∨ k = 5 ∨ k = 6 ∨ k = 7 ∨ k = 8 by omega) with rfl | rfl | rfl | rfl | rfl | rfl | rfl | rfl | rfl
  · exact r_swIn F dL_law_32 (by decide) (by decide) rfl rfl (law_0 F S hL hi h next)
  · exact r_swIn F dL_law_32 (by decide) (by decide) rfl rfl (law_1 F S hL hi h next)
  · exact r_swIn F dL_law_32 (by decide) (by decide) rfl rfl (law_2 F S hL hi h next)
  · exact r_swIn F dL_law_32 (by decide) (by decide) rfl rfl (law_3 F S hL hi h next)
  · exact r_swIn F dL_law_32 (by decide) (by decide) rfl rfl (law_4 F S hL hi h next)
  · exact r_swIn F dL_law_32 (by decide) (by decide) rfl rfl (law_5 F S hL hi h next)
  · exact r_swIn F dL_law_32 (by decide) (by decide) rfl rfl (law_6 F S hL hi h next)
  · exact r_swIn F dL_law_32 (by decide) (by decide) rfl rfl (law_7 F S hL hi h next)
  · exact r_swIn F dL_law_32 (by decide) (by decide) rfl rfl (law_8 F S hL hi h next)
set_option maxRecDepth 100000 in
set_option maxHeartbeats 4000000 in
theorem law_sw9 (F : Fx Z RL cL_law 4 13 494) (S : SL Z b L xs) (hL : L ≤ 2048) (hi : i + 4 ≤ L) (h : R w σ) (next : ∀ w σ, R w σ → V Z 1497 (lsL Z b i) [] w) {k : Nat} (h1 : 9 ≤ k) (h2 : k < 18) : V Z 32 (lsL Z b i) [.int (nI k)] w := by
  rcases (show k = 9 ∨ k = 10 ∨ k = 11 ∨ k = 12 ∨ k = 13 ∨ k = 14 ∨ k = 15 ∨ k = 16 ∨ k = 17 by omega) with rfl | rfl | rfl | rfl | rfl | rfl | rfl | rfl | rfl
  · exact r_swIn F dL_law_32 (by decide) (by decide) rfl rfl (law_9 F S hL hi h next)
  · exact r_swIn F dL_law_32 (by decide) (by decide) rfl rfl (law_10 F S hL hi h next)
  · exact r_swIn F dL_law_32 (by decide) (by decide) rfl rfl (law_11 F S hL hi h next)
  · exact r_swIn F dL_law_32 (by decide) (by decide) rfl rfl (law_12 F S hL hi h next)
  · exact r_swIn F dL_law_32 (by decide) (by decide) rfl rfl (law_13 F S hL hi h next)
  · exact r_swIn F dL_law_32 (by decide) (by decide) rfl rfl (law_14 F S hL hi h next)
  · exact r_swIn F dL_law_32 (by decide) (by decide) rfl rfl (law_15 F S hL hi h next)
  · exact r_swIn F dL_law_32 (by decide) (by decide) rfl rfl (law_16 F S hL hi h next)
  · exact r_swIn F dL_law_32 (by decide) (by decide) rfl rfl (law_17 F S hL hi h next)
set_option maxRecDepth 100000 in
set_option maxHeartbeats 4000000 in
theorem law_sw18 (F : Fx Z RL cL_law 4 13 494) (S : SL Z b L xs) (hL : L ≤ 2048) (hi : i + 4 ≤ L) (h : R w σ) (next : ∀ w σ, R w σ → V Z 1497 (lsL Z b i) [] w) {k : Nat} (h1 : 18 ≤ k) (h2 : k < 27) : V Z 32 (lsL Z b i) [.int (nI k)] w := by
  rcases (show k = 18 ∨ k = 19 ∨ k = 20 ∨ k = 21 ∨ k = 22 ∨ k = 23 ∨ k = 24 ∨ k = 25 ∨ k = 26 by omega) with rfl | rfl | rfl | rfl | rfl | rfl | rfl | rfl | rfl
  · exact r_swIn F dL_law_32 (by decide) (by decide) rfl rfl (law_18 F S hL hi h next)
  · exact r_swIn F dL_law_32 (by decide) (by decide) rfl rfl (law_19 F S hL hi h next)
  · exact r_swIn F dL_law_32 (by decide) (by decide) rfl rfl (law_20 F S hL hi h next)
  · exact r_swIn F dL_law_32 (by decide) (by decide) rfl rfl (law_21 F S hL hi h next)
  · exact r_swIn F dL_law_32 (by decide) (by decide) rfl rfl (law_22 F S hL hi h next)
  · exact r_swIn F dL_law_32 (by decide) (by decide) rfl rfl (law_23 F S hL hi h next)
  · exact r_swIn F dL_law_32 (by decide) (by decide) rfl rfl (law_24 F S hL hi h next)
  · exact r_swIn F dL_law_32 (by decide) (by decide) rfl rfl (law_25 F S hL hi h next)
  · exact r_swIn F dL_law_32 (by decide) (by decide) rfl rfl (law_26 F S hL hi h next)
set_option maxRecDepth 100000 in
set_option maxHeartbeats 4000000 in
theorem law_sw27 (F : Fx Z RL cL_law 4 13 494) (S : SL Z b L xs) (hL : L ≤ 2048) (hi : i + 4 ≤ L) (h : R w σ) (next : ∀ w σ, R w σ → V Z 1497 (lsL Z b i) [] w) {k : Nat} (h1 : 27 ≤ k) (h2 : k < 36) : V Z 32 (lsL Z b i) [.int (nI k)] w := by
  rcases (show k = 27 ∨ k = 28 ∨ k = 29 ∨ k = 30 ∨ k = 31 ∨ k = 32 ∨ k = 33 ∨ k = 34 ∨ k = 35 by omega) with rfl | rfl | rfl | rfl | rfl | rfl | rfl | rfl | rfl
  · exact r_swIn F dL_law_32 (by decide) (by decide) rfl rfl (law_27 F S hL hi h next)
  · exact r_swIn F dL_law_32 (by decide) (by decide) rfl rfl (law_28 F S hL hi h next)
  · exact r_swIn F dL_law_32 (by decide) (by decide) rfl rfl (law_29 F S hL hi h next)
  · exact r_swIn F dL_law_32 (by decide) (by decide) rfl rfl (law_30 F S hL hi h next)
  · exact r_swIn F dL_law_32 (by decide) (by decide) rfl rfl (law_31 F S hL hi h next)
  · exact r_swIn F dL_law_32 (by decide) (by decide) rfl rfl (law_32 F S hL hi h next)
  · exact r_swIn F dL_law_32 (by decide) (by decide) rfl rfl (law_33 F S hL hi h next)
  · exact r_swIn F dL_law_32 (by decide) (by decide) rfl rfl (law_34 F S hL hi h next)
  · exact r_swIn F dL_law_32 (by decide) (by decide) rfl rfl (law_35 F S hL hi h next)
set_option maxRecDepth 100000 in
set_option maxHeartbeats 4000000 in
theorem law_sw36 (F : Fx Z RL cL_law 4 13 494) (S : SL Z b L xs) (hL : L ≤ 2048) (hi : i + 4 ≤ L) (h : R w σ) (next : ∀ w σ, R w σ → V Z 1497 (lsL Z b i) [] w) {k : Nat} (h1 : 36 ≤ k) (h2 : k < 45) : V Z 32 (lsL Z b i) [.int (nI k)] w := by
  rcases (show k = 36 ∨ k = 37 ∨ k = 38 ∨ k = 39 ∨ k = 40 ∨ k = 41 ∨ k = 42 ∨ k = 43 ∨ k = 44 by omega) with rfl | rfl | rfl | rfl | rfl | rfl | rfl | rfl | rfl
  · exact r_swIn F dL_law_32 (by decide) (by decide) rfl rfl (law_36 F S hL hi h next)
  · exact r_swIn F dL_law_32 (by decide) (by decide) rfl rfl (law_37 F S hL hi h next)
  · exact r_swIn F dL_law_32 (by decide) (by decide) rfl rfl (law_38 F S hL hi h next)
  · exact r_swIn F dL_law_32 (by decide) (by decide) rfl rfl (law_39 F S hL hi h next)
  · exact r_swIn F dL_law_32 (by decide) (by decide) rfl rfl (law_40 F S hL hi h next)
  · exact r_swIn F dL_law_32 (by decide) (by decide) rfl rfl (law_41 F S hL hi h next)
  · exact r_swIn F dL_law_32 (by decide) (by decide) rfl rfl (law_42 F S hL hi h next)
  · exact r_swIn F dL_law_32 (by decide) (by decide) rfl rfl (law_43 F S hL hi h next)
  · exact r_swIn F dL_law_32 (by decide) (by decide) rfl rfl (law_44 F S hL hi h next)
set_option maxRecDepth 100000 in
set_option maxHeartbeats 4000000 in
theorem law_sw45 (F : Fx Z RL cL_law 4 13 494) (S : SL Z b L xs) (hL : L ≤ 2048) (hi : i + 4 ≤ L) (h : R w σ) (next : ∀ w σ, R w σ → V Z 1497 (lsL Z b i) [] w) {k : Nat} (h1 : 45 ≤ k) (h2 : k < 54) : V Z 32 (lsL Z b i) [.int (nI k)] w := by
  rcases (show k = 45 ∨ k = 46 ∨ k = 47 ∨ k = 48 ∨ k = 49 ∨ k = 50 ∨ k = 51 ∨ k = 52 ∨ k = 53 by omega) with rfl | rfl | rfl | rfl | rfl | rfl | rfl | rfl | rfl
  · exact r_swIn F dL_law_32 (by decide) (by decide) rfl rfl (law_45 F S hL hi h next)
  · exact r_swIn F dL_law_32 (by decide) (by decide) rfl rfl (law_46 F S hL hi h next)
  · exact r_swIn F dL_law_32 (by decide) (by decide) rfl rfl (law_47 F S hL hi h next)
  · exact r_swIn F dL_law_32 (by decide) (by decide) rfl rfl (law_48 F S hL hi h next)
  · exact r_swIn F dL_law_32 (by decide) (by decide) rfl rfl (law_49 F S hL hi h next)
  · exact r_swIn F dL_law_32 (by decide) (by decide) rfl rfl (law_50 F S hL hi h next)
  · exact r_swIn F dL_law_32 (by decide) (by decide) rfl rfl (law_51 F S hL hi h next)
  · exact r_swIn F dL_law_32 (by decide) (by decide) rfl rfl (law_52 F S hL hi h next)
  · exact r_swIn F dL_law_32 (by decide) (by decide) rfl rfl (law_53 F S hL hi h next)
theorem law_sw (F : Fx Z RL cL_law 4 13 494) (S : SL Z b L xs) (hL : L ≤ 2048) (hi : i + 4 ≤ L) (h : R w σ) (next : ∀ w σ, R w σ → V Z 1497 (lsL Z b i) [] w) {k : Nat} (hk : k < 64) : V Z 32 (lsL Z b i) [.int (nI k)] w := by
  rcases (show k < 9 ∨ (9 ≤ k ∧ k < 18) ∨ (18 ≤ k ∧ k < 27) ∨ (27 ≤ k ∧ k < 36) ∨ (36 ≤ k ∧ k < 45) ∨ (45 ≤ k ∧ k < 54) ∨ 54 ≤ k by omega) with g | g | g | g | g | g | g
  · exact law_sw0 F S hL hi h next (Nat.zero_le _) g
  · exact law_sw9 F S hL hi h next g.1 g.2
  · exact law_sw18 F S hL hi h next g.1 g.2
  · exact law_sw27 F S hL hi h next g.1 g.2
  · exact law_sw36 F S hL hi h next g.1 g.2
  · exact law_sw45 F S hL hi h next g.1 g.2
  · refine r_swOut (tgt := 1497) F dL_law_32 (Or.inr ?_) rfl (next _ _ h)
    rw [nI_toInt (by omega)]
    omega
theorem len4 : ∀ L, L < 4 → nI L - 4 < 0 := by decide
set_option maxRecDepth 100000 in
set_option maxHeartbeats 4000000 in
theorem law_step (F : Fx Z RL cL_law 4 13 494) (S : SL Z b L xs) (hL : L ≤ 2048) (hend : ∀ ls w, V Z 1504 ls [.int 1] w) (hi2 : i ≤ 2052) (h : R w σ) (more : i + 4 ≤ L → ∀ (w : Wd) (σ : St), R w σ → V Z 18 (lsL Z b (i + 4)) [] w) : V Z 18 (lsL Z b i) [] w := by
  refine r_iload_n (pc := 18) F dL_law_18 rfl ?_
  refine r_aload_n (pc := 19) F dL_law_19 rfl ?_
  refine r_slen (pc := 20) F S dL_law_20 ?_
  refine r_iconst (pc := 21) F dL_law_21 ic_4 ?_
  refine r_isub (pc := 22) F dL_law_22 ?_
  have hcmp : nI L - 4 < nI i ∨ (¬ nI L - 4 < nI i ∧ i + 4 ≤ L) := by
    rcases Nat.lt_or_ge L 4 with g | g
    · refine Or.inl (Int32.lt_of_lt_of_le (len4 L g) ?_)
      rw [show (0 : Int32) = nI 0 from rfl, n_le (by decide) (by omega)]
      exact Nat.zero_le _
    · rw [show (4 : Int32) = nI 4 from rfl, n_sub g, n_lt (by omega) (by omega)]
      omega
  have stop : V Z 1503 (lsL Z b i) [] w := r_iconst (pc := 1503) F dL_law_1503 ic_1 (hend _ _)
  rcases hcmp with c | ⟨c, hi⟩
  · exact r_icmp_gt (pc := 23) (tgt := 1503) F dL_law_23 rfl (β := Bool) (A := true) (B := false) (o := true) (if_pos c) (fun _ => stop) (fun z => by cases z)
  · refine r_icmp_gt (pc := 23) (tgt := 1503) F dL_law_23 rfl (β := Bool) (A := true) (B := false) (o := false) (if_neg c) (fun z => by cases z) (fun _ => ?_)
    refine r_aload_n (pc := 26) F dL_law_26 rfl ?_
    refine r_iload_n (pc := 27) F dL_law_27 rfl ?_
    refine r_sld (pc := 28) (j := i) F S dL_law_28 rfl (by omega) hL ?_
    refine r_bipush (pc := 29) F dL_law_29 bp_63 ?_
    refine r_iand (pc := 31) F dL_law_31 ?_
    obtain ⟨k, hk, ek⟩ := and63 (xs i)
    rw [ek]
    refine law_sw F S hL hi h (fun w2 σ2 h2 => ?_) hk
    refine r_iinc (pc := 1497) (ls' := lsL Z b (i + 4)) F dL_law_1497 rfl (show nI i + Int32.ofInt 4 = nI (i + 4) by rw [ic_4]; exact n_add i 4) (Nat.le_of_ble_eq_true rfl) rfl ?_
    exact r_goto (pc := 1500) (tgt := 18) F dL_law_1500 rfl (more hi w2 σ2 h2)
theorem law_loop (F : Fx Z RL cL_law 4 13 494) (S : SL Z b L xs) (hL : L ≤ 2048) (hend : ∀ ls w, V Z 1504 ls [.int 1] w) : ∀ n i, L + 1 ≤ i + n → i ≤ 2052 → ∀ (w : Wd) (σ : St), R w σ → V Z 18 (lsL Z b i) [] w
  | 0, i, hn, hi2, w, σ, h => law_step F S hL hend hi2 h (fun hi => absurd hi (by omega))
  | n + 1, i, hn, hi2, w, σ, h => law_step F S hL hend hi2 h (fun hi w2 σ2 h2 => law_loop F S hL hend n (i + 4) (by omega) (by omega) w2 σ2 h2)
end
