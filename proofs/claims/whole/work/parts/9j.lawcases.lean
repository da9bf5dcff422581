/-! ===== the law: a call a case ===== -/
section LW
variable {Γ : zG} {p : Program} {e : Env} {s : State} {m : MethodId} {below : List Frame} {meth : Method} {c : Code} {b Ln : Nat} {xs : Nat → Int32} {i kc ks : Nat} {M : zM}
theorem w_0 (C : gC Γ (lwS p e s m below meth c b)) (hX : va_X b Ln xs s s.heap) (hbl : b < s.heap.size) (hbA : ¬ (s.heap.size ≤ b)) (hi : i + 6 ≤ Ln) (hLn : Ln ≤ 3072) (hr : kc ≤ 601024 ∧ ks ≤ 7293034) (I : Inv M) (nx : lwN Γ (lwS p e s m below meth c b) b i kc ks) : gR Γ (lwS p e s m below meth c b) 216 (lwL Γ b i) [] M kc ks := by
  obtain ⟨v, M1, M2, dx, dm, h1, h2, K1, K2, I2⟩ := v_feed Γ M I (xs (i + 1)) (xs (i + 2)) (xs (i + 3)) (xs (i + 4)) (xs (i + 5))
  unfold lwL
  refine gj_aload_n C (pc' := 217) 2 dW_216 rfl rfl rfl ?_
  refine gj_arg C hX hbl hbA 1 0 (k := 1) (pc' := 223) dW_217 dW_218 dW_220 dW_221 dW_222 rfl rfl (by decide) (by omega) hLn rfl ?_
  refine gj_arg C hX hbl hbA 1 0 (k := 2) (pc' := 229) dW_223 dW_224 dW_226 dW_227 dW_228 rfl rfl (by decide) (by omega) hLn rfl ?_
  refine gj_arg C hX hbl hbA 1 0 (k := 3) (pc' := 235) dW_229 dW_230 dW_232 dW_233 dW_234 rfl rfl (by decide) (by omega) hLn rfl ?_
  refine gj_arg C hX hbl hbA 1 0 (k := 4) (pc' := 241) dW_235 dW_236 dW_238 dW_239 dW_240 rfl rfl (by decide) (by omega) hLn rfl ?_
  refine gj_arg C hX hbl hbA 1 0 (k := 5) (pc' := 247) dW_241 dW_242 dW_244 dW_245 dW_246 rfl rfl (by decide) (by omega) hLn rfl ?_
  refine gj_V C (pc' := 250) (z := YX11_feed) (As := [.int (xs (i + 1)), .int (xs (i + 2)), .int (xs (i + 3)), .int (xs (i + 4)), .int (xs (i + 5))]) dW_247 rfl mlW_23 lkX11_feed sh0 ⟨_, _, rfl⟩ rfl rfl (Nat.le_of_ble_eq_true rfl) (by show dx + 1 ≤ 2048; omega) (by show 64 + 64 * dx ≤ 84000; omega) hr K1 (fun v N hv => ?_)
  obtain ⟨rfl, rfl⟩ := hv
  refine gj_aload_n C (pc' := 251) 3 dW_250 rfl rfl rfl ?_
  refine gj_arg C hX hbl hbA 1 0 (k := 1) (pc' := 257) dW_251 dW_252 dW_254 dW_255 dW_256 rfl rfl (by decide) (by omega) hLn rfl ?_
  refine gj_arg C hX hbl hbA 1 0 (k := 2) (pc' := 263) dW_257 dW_258 dW_260 dW_261 dW_262 rfl rfl (by decide) (by omega) hLn rfl ?_
  refine gj_arg C hX hbl hbA 1 0 (k := 3) (pc' := 269) dW_263 dW_264 dW_266 dW_267 dW_268 rfl rfl (by decide) (by omega) hLn rfl ?_
  refine gj_arg C hX hbl hbA 1 0 (k := 4) (pc' := 275) dW_269 dW_270 dW_272 dW_273 dW_274 rfl rfl (by decide) (by omega) hLn rfl ?_
  refine gj_arg C hX hbl hbA 1 0 (k := 5) (pc' := 281) dW_275 dW_276 dW_278 dW_279 dW_280 rfl rfl (by decide) (by omega) hLn rfl ?_
  refine gj_V C (pc' := 284) (z := YX12_feed) (As := [.int (xs (i + 1)), .int (xs (i + 2)), .int (xs (i + 3)), .int (xs (i + 4)), .int (xs (i + 5))]) dW_281 rfl mlW_27 lkX12_feed sh186 ⟨_, _, rfl⟩ rfl rfl (Nat.le_of_ble_eq_true rfl) (by show dm + 1 ≤ 2048; omega) (by show 64 + 64 * dm ≤ 84000; omega) hr K2 (fun v N hv => ?_)
  obtain ⟨rfl, rfl⟩ := hv
  exact gj_icmp_eq C (tgt := 1350) (pc' := 287) dW_284 rfl (by decide) (fun _ => nx _ I2) (fun h => absurd rfl h)
theorem w_1 (C : gC Γ (lwS p e s m below meth c b)) (hX : va_X b Ln xs s s.heap) (hbl : b < s.heap.size) (hbA : ¬ (s.heap.size ≤ b)) (hi : i + 6 ≤ Ln) (hLn : Ln ≤ 3072) (hr : kc ≤ 601024 ∧ ks ≤ 7293034) (I : Inv M) (nx : lwN Γ (lwS p e s m below meth c b) b i kc ks) : gR Γ (lwS p e s m below meth c b) 289 (lwL Γ b i) [] M kc ks := by
  obtain ⟨v, M1, M2, dx, dm, h1, h2, K1, K2, I2⟩ := v_end Γ M I (xs (i + 1))
  unfold lwL
  refine gj_aload_n C (pc' := 290) 2 dW_289 rfl rfl rfl ?_
  refine gj_arg C hX hbl hbA 1 0 (k := 1) (pc' := 296) dW_290 dW_291 dW_293 dW_294 dW_295 rfl rfl (by decide) (by omega) hLn rfl ?_
  refine gj_V C (pc' := 299) (z := YX11_end) (As := [.int (xs (i + 1))]) dW_296 rfl mlW_28 lkX11_end sh0 ⟨_, _, rfl⟩ rfl rfl (Nat.le_of_ble_eq_true rfl) (by show dx + 1 ≤ 2048; omega) (by show 64 + 64 * dx ≤ 84000; omega) hr K1 (fun v N hv => ?_)
  obtain ⟨rfl, rfl⟩ := hv
  refine gj_aload_n C (pc' := 300) 3 dW_299 rfl rfl rfl ?_
  refine gj_arg C hX hbl hbA 1 0 (k := 1) (pc' := 306) dW_300 dW_301 dW_303 dW_304 dW_305 rfl rfl (by decide) (by omega) hLn rfl ?_
  refine gj_V C (pc' := 309) (z := YX12_end) (As := [.int (xs (i + 1))]) dW_306 rfl mlW_32 lkX12_end sh186 ⟨_, _, rfl⟩ rfl rfl (Nat.le_of_ble_eq_true rfl) (by show dm + 1 ≤ 2048; omega) (by show 64 + 64 * dm ≤ 84000; omega) hr K2 (fun v N hv => ?_)
  obtain ⟨rfl, rfl⟩ := hv
  exact gj_icmp_eq C (tgt := 1350) (pc' := 312) dW_309 rfl (by decide) (fun _ => nx _ I2) (fun h => absurd rfl h)
theorem w_2 (C : gC Γ (lwS p e s m below meth c b)) (hX : va_X b Ln xs s s.heap) (hbl : b < s.heap.size) (hbA : ¬ (s.heap.size ≤ b)) (hi : i + 6 ≤ Ln) (hLn : Ln ≤ 3072) (hr : kc ≤ 601024 ∧ ks ≤ 7293034) (I : Inv M) (nx : lwN Γ (lwS p e s m below meth c b) b i kc ks) : gR Γ (lwS p e s m below meth c b) 314 (lwL Γ b i) [] M kc ks := by
  obtain ⟨v, M1, M2, dx, dm, h1, h2, K1, K2, I2⟩ := v_town Γ M I 
  unfold lwL
  refine gj_aload_n C (pc' := 315) 2 dW_314 rfl rfl rfl ?_
  refine gj_V C (pc' := 318) (z := YX11_town) (As := []) dW_315 rfl mlW_33 lkX11_town sh0 ⟨_, _, rfl⟩ rfl rfl (Nat.le_of_ble_eq_true rfl) (by show dx + 1 ≤ 2048; omega) (by show 64 + 64 * dx ≤ 84000; omega) hr K1 (fun v N hv => ?_)
  obtain ⟨rfl, rfl⟩ := hv
  refine gj_aload_n C (pc' := 319) 3 dW_318 rfl rfl rfl ?_
  refine gj_V C (pc' := 322) (z := YX12_town) (As := []) dW_319 rfl mlW_37 lkX12_town sh186 ⟨_, _, rfl⟩ rfl rfl (Nat.le_of_ble_eq_true rfl) (by show dm + 1 ≤ 2048; omega) (by show 64 + 64 * dm ≤ 84000; omega) hr K2 (fun v N hv => ?_)
  obtain ⟨rfl, rfl⟩ := hv
  exact gj_icmp_eq C (tgt := 1350) (pc' := 325) dW_322 rfl (by decide) (fun _ => nx _ I2) (fun h => absurd rfl h)
theorem w_3 (C : gC Γ (lwS p e s m below meth c b)) (hX : va_X b Ln xs s s.heap) (hbl : b < s.heap.size) (hbA : ¬ (s.heap.size ≤ b)) (hi : i + 6 ≤ Ln) (hLn : Ln ≤ 3072) (hr : kc ≤ 601024 ∧ ks ≤ 7293034) (I : Inv M) (nx : lwN Γ (lwS p e s m below meth c b) b i kc ks) : gR Γ (lwS p e s m below meth c b) 327 (lwL Γ b i) [] M kc ks := by
  obtain ⟨v, M1, M2, dx, dm, h1, h2, K1, K2, I2⟩ := v_fault Γ M I 
  unfold lwL
  refine gj_aload_n C (pc' := 328) 2 dW_327 rfl rfl rfl ?_
  refine gj_V C (pc' := 331) (z := YX11_fault) (As := []) dW_328 rfl mlW_38 lkX11_fault sh0 ⟨_, _, rfl⟩ rfl rfl (Nat.le_of_ble_eq_true rfl) (by show dx + 1 ≤ 2048; omega) (by show 64 + 64 * dx ≤ 84000; omega) hr K1 (fun v N hv => ?_)
  obtain ⟨rfl, rfl⟩ := hv
  refine gj_aload_n C (pc' := 332) 3 dW_331 rfl rfl rfl ?_
  refine gj_V C (pc' := 335) (z := YX12_fault) (As := []) dW_332 rfl mlW_41 lkX12_fault sh186 ⟨_, _, rfl⟩ rfl rfl (Nat.le_of_ble_eq_true rfl) (by show dm + 1 ≤ 2048; omega) (by show 64 + 64 * dm ≤ 84000; omega) hr K2 (fun v N hv => ?_)
  obtain ⟨rfl, rfl⟩ := hv
  exact gj_icmp_eq C (tgt := 1350) (pc' := 338) dW_335 rfl (by decide) (fun _ => nx _ I2) (fun h => absurd rfl h)
theorem w_5 (C : gC Γ (lwS p e s m below meth c b)) (hX : va_X b Ln xs s s.heap) (hbl : b < s.heap.size) (hbA : ¬ (s.heap.size ≤ b)) (hi : i + 6 ≤ Ln) (hLn : Ln ≤ 3072) (hr : kc ≤ 601024 ∧ ks ≤ 7293034) (I : Inv M) (nx : lwN Γ (lwS p e s m below meth c b) b i kc ks) : gR Γ (lwS p e s m below meth c b) 408 (lwL Γ b i) [] M kc ks := by
  obtain ⟨v, M1, M2, dx, dm, h1, h2, K1, K2, I2⟩ := v_was Γ M I (xs (i + 1)) (xs (i + 2))
  unfold lwL
  refine gj_aload_n C (pc' := 409) 2 dW_408 rfl rfl rfl ?_
  refine gj_arg C hX hbl hbA 1 0 (k := 1) (pc' := 415) dW_409 dW_410 dW_412 dW_413 dW_414 rfl rfl (by decide) (by omega) hLn rfl ?_
  refine gj_arg C hX hbl hbA 1 0 (k := 2) (pc' := 421) dW_415 dW_416 dW_418 dW_419 dW_420 rfl rfl (by decide) (by omega) hLn rfl ?_
  refine gj_V C (pc' := 424) (z := YX11_was) (As := [.int (xs (i + 1)), .int (xs (i + 2))]) dW_421 rfl mlW_51 lkX11_was sh0 ⟨_, _, rfl⟩ rfl rfl (Nat.le_of_ble_eq_true rfl) (by show dx + 1 ≤ 2048; omega) (by show 64 + 64 * dx ≤ 84000; omega) hr K1 (fun v N hv => ?_)
  obtain ⟨rfl, rfl⟩ := hv
  refine gj_aload_n C (pc' := 425) 3 dW_424 rfl rfl rfl ?_
  refine gj_arg C hX hbl hbA 1 0 (k := 1) (pc' := 431) dW_425 dW_426 dW_428 dW_429 dW_430 rfl rfl (by decide) (by omega) hLn rfl ?_
  refine gj_arg C hX hbl hbA 1 0 (k := 2) (pc' := 437) dW_431 dW_432 dW_434 dW_435 dW_436 rfl rfl (by decide) (by omega) hLn rfl ?_
  refine gj_V C (pc' := 440) (z := YX12_was) (As := [.int (xs (i + 1)), .int (xs (i + 2))]) dW_437 rfl mlW_54 lkX12_was sh186 ⟨_, _, rfl⟩ rfl rfl (Nat.le_of_ble_eq_true rfl) (by show dm + 1 ≤ 2048; omega) (by show 64 + 64 * dm ≤ 84000; omega) hr K2 (fun v N hv => ?_)
  obtain ⟨rfl, rfl⟩ := hv
  exact gj_icmp_eq C (tgt := 1350) (pc' := 443) dW_440 rfl (by decide) (fun _ => nx _ I2) (fun h => absurd rfl h)
theorem w_6 (C : gC Γ (lwS p e s m below meth c b)) (hX : va_X b Ln xs s s.heap) (hbl : b < s.heap.size) (hbA : ¬ (s.heap.size ≤ b)) (hi : i + 6 ≤ Ln) (hLn : Ln ≤ 3072) (hr : kc ≤ 601024 ∧ ks ≤ 7293034) (I : Inv M) (nx : lwN Γ (lwS p e s m below meth c b) b i kc ks) : gR Γ (lwS p e s m below meth c b) 445 (lwL Γ b i) [] M kc ks := by
  obtain ⟨v, M1, M2, dx, dm, h1, h2, K1, K2, I2⟩ := v_corner Γ M I (xs (i + 1)) (xs (i + 2))
  unfold lwL
  refine gj_aload_n C (pc' := 446) 2 dW_445 rfl rfl rfl ?_
  refine gj_arg C hX hbl hbA 1 0 (k := 1) (pc' := 452) dW_446 dW_447 dW_449 dW_450 dW_451 rfl rfl (by decide) (by omega) hLn rfl ?_
  refine gj_arg C hX hbl hbA 1 0 (k := 2) (pc' := 458) dW_452 dW_453 dW_455 dW_456 dW_457 rfl rfl (by decide) (by omega) hLn rfl ?_
  refine gj_V C (pc' := 461) (z := YX11_corner) (As := [.int (xs (i + 1)), .int (xs (i + 2))]) dW_458 rfl mlW_55 lkX11_corner sh0 ⟨_, _, rfl⟩ rfl rfl (Nat.le_of_ble_eq_true rfl) (by show dx + 1 ≤ 2048; omega) (by show 64 + 64 * dx ≤ 84000; omega) hr K1 (fun v N hv => ?_)
  obtain ⟨rfl, rfl⟩ := hv
  refine gj_aload_n C (pc' := 462) 3 dW_461 rfl rfl rfl ?_
  refine gj_arg C hX hbl hbA 1 0 (k := 1) (pc' := 468) dW_462 dW_463 dW_465 dW_466 dW_467 rfl rfl (by decide) (by omega) hLn rfl ?_
  refine gj_arg C hX hbl hbA 1 0 (k := 2) (pc' := 474) dW_468 dW_469 dW_471 dW_472 dW_473 rfl rfl (by decide) (by omega) hLn rfl ?_
  refine gj_V C (pc' := 477) (z := YX12_corner) (As := [.int (xs (i + 1)), .int (xs (i + 2))]) dW_474 rfl mlW_58 lkX12_corner sh186 ⟨_, _, rfl⟩ rfl rfl (Nat.le_of_ble_eq_true rfl) (by show dm + 1 ≤ 2048; omega) (by show 64 + 64 * dm ≤ 84000; omega) hr K2 (fun v N hv => ?_)
  obtain ⟨rfl, rfl⟩ := hv
  exact gj_icmp_eq C (tgt := 1350) (pc' := 480) dW_477 rfl (by decide) (fun _ => nx _ I2) (fun h => absurd rfl h)
theorem w_7 (C : gC Γ (lwS p e s m below meth c b)) (hX : va_X b Ln xs s s.heap) (hbl : b < s.heap.size) (hbA : ¬ (s.heap.size ≤ b)) (hi : i + 6 ≤ Ln) (hLn : Ln ≤ 3072) (hr : kc ≤ 601024 ∧ ks ≤ 7293034) (I : Inv M) (nx : lwN Γ (lwS p e s m below meth c b) b i kc ks) : gR Γ (lwS p e s m below meth c b) 482 (lwL Γ b i) [] M kc ks := by
  obtain ⟨v, M1, M2, dx, dm, h1, h2, K1, K2, I2⟩ := v_now Γ M I (xs (i + 1))
  unfold lwL
  refine gj_aload_n C (pc' := 483) 2 dW_482 rfl rfl rfl ?_
  refine gj_arg C hX hbl hbA 1 0 (k := 1) (pc' := 489) dW_483 dW_484 dW_486 dW_487 dW_488 rfl rfl (by decide) (by omega) hLn rfl ?_
  refine gj_V C (pc' := 492) (z := YX11_now) (As := [.int (xs (i + 1))]) dW_489 rfl mlW_59 lkX11_now sh0 ⟨_, _, rfl⟩ rfl rfl (Nat.le_of_ble_eq_true rfl) (by show dx + 1 ≤ 2048; omega) (by show 64 + 64 * dx ≤ 84000; omega) hr K1 (fun v N hv => ?_)
  obtain ⟨rfl, rfl⟩ := hv
  refine gj_aload_n C (pc' := 493) 3 dW_492 rfl rfl rfl ?_
  refine gj_arg C hX hbl hbA 1 0 (k := 1) (pc' := 499) dW_493 dW_494 dW_496 dW_497 dW_498 rfl rfl (by decide) (by omega) hLn rfl ?_
  refine gj_V C (pc' := 502) (z := YX12_now) (As := [.int (xs (i + 1))]) dW_499 rfl mlW_62 lkX12_now sh186 ⟨_, _, rfl⟩ rfl rfl (Nat.le_of_ble_eq_true rfl) (by show dm + 1 ≤ 2048; omega) (by show 64 + 64 * dm ≤ 84000; omega) hr K2 (fun v N hv => ?_)
  obtain ⟨rfl, rfl⟩ := hv
  exact gj_icmp_eq C (tgt := 1350) (pc' := 505) dW_502 rfl (by decide) (fun _ => nx _ I2) (fun h => absurd rfl h)
theorem w_8 (C : gC Γ (lwS p e s m below meth c b)) (hX : va_X b Ln xs s s.heap) (hbl : b < s.heap.size) (hbA : ¬ (s.heap.size ≤ b)) (hi : i + 6 ≤ Ln) (hLn : Ln ≤ 3072) (hr : kc ≤ 601024 ∧ ks ≤ 7293034) (I : Inv M) (nx : lwN Γ (lwS p e s m below meth c b) b i kc ks) : gR Γ (lwS p e s m below meth c b) 507 (lwL Γ b i) [] M kc ks := by
  obtain ⟨v, M1, M2, dx, dm, h1, h2, K1, K2, I2⟩ := v_send Γ M I (xs (i + 1)) (xs (i + 2))
  unfold lwL
  refine gj_aload_n C (pc' := 508) 2 dW_507 rfl rfl rfl ?_
  refine gj_arg C hX hbl hbA 1 0 (k := 1) (pc' := 514) dW_508 dW_509 dW_511 dW_512 dW_513 rfl rfl (by decide) (by omega) hLn rfl ?_
  refine gj_arg C hX hbl hbA 1 0 (k := 2) (pc' := 520) dW_514 dW_515 dW_517 dW_518 dW_519 rfl rfl (by decide) (by omega) hLn rfl ?_
  refine gj_V C (pc' := 523) (z := YX11_send) (As := [.int (xs (i + 1)), .int (xs (i + 2))]) dW_520 rfl mlW_63 lkX11_send sh0 ⟨_, _, rfl⟩ rfl rfl (Nat.le_of_ble_eq_true rfl) (by show dx + 1 ≤ 2048; omega) (by show 64 + 64 * dx ≤ 84000; omega) hr K1 (fun v N hv => ?_)
  obtain ⟨rfl, rfl⟩ := hv
  refine gj_aload_n C (pc' := 524) 3 dW_523 rfl rfl rfl ?_
  refine gj_arg C hX hbl hbA 1 0 (k := 1) (pc' := 530) dW_524 dW_525 dW_527 dW_528 dW_529 rfl rfl (by decide) (by omega) hLn rfl ?_
  refine gj_arg C hX hbl hbA 1 0 (k := 2) (pc' := 536) dW_530 dW_531 dW_533 dW_534 dW_535 rfl rfl (by decide) (by omega) hLn rfl ?_
  refine gj_V C (pc' := 539) (z := YX12_send) (As := [.int (xs (i + 1)), .int (xs (i + 2))]) dW_536 rfl mlW_66 lkX12_send sh186 ⟨_, _, rfl⟩ rfl rfl (Nat.le_of_ble_eq_true rfl) (by show dm + 1 ≤ 2048; omega) (by show 64 + 64 * dm ≤ 84000; omega) hr K2 (fun v N hv => ?_)
  obtain ⟨rfl, rfl⟩ := hv
  exact gj_icmp_eq C (tgt := 1350) (pc' := 542) dW_539 rfl (by decide) (fun _ => nx _ I2) (fun h => absurd rfl h)
theorem w_9 (C : gC Γ (lwS p e s m below meth c b)) (hX : va_X b Ln xs s s.heap) (hbl : b < s.heap.size) (hbA : ¬ (s.heap.size ≤ b)) (hi : i + 6 ≤ Ln) (hLn : Ln ≤ 3072) (hr : kc ≤ 601024 ∧ ks ≤ 7293034) (I : Inv M) (nx : lwN Γ (lwS p e s m below meth c b) b i kc ks) : gR Γ (lwS p e s m below meth c b) 544 (lwL Γ b i) [] M kc ks := by
  obtain ⟨v, M1, M2, dx, dm, h1, h2, K1, K2, I2⟩ := v_drop Γ M I (xs (i + 1))
  unfold lwL
  refine gj_aload_n C (pc' := 545) 2 dW_544 rfl rfl rfl ?_
  refine gj_arg C hX hbl hbA 1 0 (k := 1) (pc' := 551) dW_545 dW_546 dW_548 dW_549 dW_550 rfl rfl (by decide) (by omega) hLn rfl ?_
  refine gj_V C (pc' := 554) (z := YX11_drop) (As := [.int (xs (i + 1))]) dW_551 rfl mlW_67 lkX11_drop sh0 ⟨_, _, rfl⟩ rfl rfl (Nat.le_of_ble_eq_true rfl) (by show dx + 1 ≤ 2048; omega) (by show 64 + 64 * dx ≤ 84000; omega) hr K1 (fun v N hv => ?_)
  obtain ⟨rfl, rfl⟩ := hv
  refine gj_aload_n C (pc' := 555) 3 dW_554 rfl rfl rfl ?_
  refine gj_arg C hX hbl hbA 1 0 (k := 1) (pc' := 561) dW_555 dW_556 dW_558 dW_559 dW_560 rfl rfl (by decide) (by omega) hLn rfl ?_
  refine gj_V C (pc' := 564) (z := YX12_drop) (As := [.int (xs (i + 1))]) dW_561 rfl mlW_70 lkX12_drop sh186 ⟨_, _, rfl⟩ rfl rfl (Nat.le_of_ble_eq_true rfl) (by show dm + 1 ≤ 2048; omega) (by show 64 + 64 * dm ≤ 84000; omega) hr K2 (fun v N hv => ?_)
  obtain ⟨rfl, rfl⟩ := hv
  exact gj_icmp_eq C (tgt := 1350) (pc' := 567) dW_564 rfl (by decide) (fun _ => nx _ I2) (fun h => absurd rfl h)
theorem w_10 (C : gC Γ (lwS p e s m below meth c b)) (hX : va_X b Ln xs s s.heap) (hbl : b < s.heap.size) (hbA : ¬ (s.heap.size ≤ b)) (hi : i + 6 ≤ Ln) (hLn : Ln ≤ 3072) (hr : kc ≤ 601024 ∧ ks ≤ 7293034) (I : Inv M) (nx : lwN Γ (lwS p e s m below meth c b) b i kc ks) : gR Γ (lwS p e s m below meth c b) 569 (lwL Γ b i) [] M kc ks := by
  obtain ⟨v, M1, M2, dx, dm, h1, h2, K1, K2, I2⟩ := v_leave Γ M I (xs (i + 1))
  unfold lwL
  refine gj_aload_n C (pc' := 570) 2 dW_569 rfl rfl rfl ?_
  refine gj_arg C hX hbl hbA 1 0 (k := 1) (pc' := 576) dW_570 dW_571 dW_573 dW_574 dW_575 rfl rfl (by decide) (by omega) hLn rfl ?_
  refine gj_V C (pc' := 579) (z := YX11_leave) (As := [.int (xs (i + 1))]) dW_576 rfl mlW_71 lkX11_leave sh0 ⟨_, _, rfl⟩ rfl rfl (Nat.le_of_ble_eq_true rfl) (by show dx + 1 ≤ 2048; omega) (by show 64 + 64 * dx ≤ 84000; omega) hr K1 (fun v N hv => ?_)
  obtain ⟨rfl, rfl⟩ := hv
  refine gj_aload_n C (pc' := 580) 3 dW_579 rfl rfl rfl ?_
  refine gj_arg C hX hbl hbA 1 0 (k := 1) (pc' := 586) dW_580 dW_581 dW_583 dW_584 dW_585 rfl rfl (by decide) (by omega) hLn rfl ?_
  refine gj_V C (pc' := 589) (z := YX12_leave) (As := [.int (xs (i + 1))]) dW_586 rfl mlW_74 lkX12_leave sh186 ⟨_, _, rfl⟩ rfl rfl (Nat.le_of_ble_eq_true rfl) (by show dm + 1 ≤ 2048; omega) (by show 64 + 64 * dm ≤ 84000; omega) hr K2 (fun v N hv => ?_)
  obtain ⟨rfl, rfl⟩ := hv
  exact gj_icmp_eq C (tgt := 1350) (pc' := 592) dW_589 rfl (by decide) (fun _ => nx _ I2) (fun h => absurd rfl h)
theorem w_11 (C : gC Γ (lwS p e s m below meth c b)) (hX : va_X b Ln xs s s.heap) (hbl : b < s.heap.size) (hbA : ¬ (s.heap.size ≤ b)) (hi : i + 6 ≤ Ln) (hLn : Ln ≤ 3072) (hr : kc ≤ 601024 ∧ ks ≤ 7293034) (I : Inv M) (nx : lwN Γ (lwS p e s m below meth c b) b i kc ks) : gR Γ (lwS p e s m below meth c b) 594 (lwL Γ b i) [] M kc ks := by
  obtain ⟨v, M1, M2, dx, dm, h1, h2, K1, K2, I2⟩ := v_hire Γ M I (xs (i + 1)) (xs (i + 2)) (xs (i + 3))
  unfold lwL
  refine gj_aload_n C (pc' := 595) 2 dW_594 rfl rfl rfl ?_
  refine gj_arg C hX hbl hbA 1 0 (k := 1) (pc' := 601) dW_595 dW_596 dW_598 dW_599 dW_600 rfl rfl (by decide) (by omega) hLn rfl ?_
  refine gj_arg C hX hbl hbA 1 0 (k := 2) (pc' := 607) dW_601 dW_602 dW_604 dW_605 dW_606 rfl rfl (by decide) (by omega) hLn rfl ?_
  refine gj_arg C hX hbl hbA 1 0 (k := 3) (pc' := 613) dW_607 dW_608 dW_610 dW_611 dW_612 rfl rfl (by decide) (by omega) hLn rfl ?_
  refine gj_V C (pc' := 616) (z := YX11_hire) (As := [.int (xs (i + 1)), .int (xs (i + 2)), .int (xs (i + 3))]) dW_613 rfl mlW_75 lkX11_hire sh0 ⟨_, _, rfl⟩ rfl rfl (Nat.le_of_ble_eq_true rfl) (by show dx + 1 ≤ 2048; omega) (by show 64 + 64 * dx ≤ 84000; omega) hr K1 (fun v N hv => ?_)
  obtain ⟨rfl, rfl⟩ := hv
  refine gj_aload_n C (pc' := 617) 3 dW_616 rfl rfl rfl ?_
  refine gj_arg C hX hbl hbA 1 0 (k := 1) (pc' := 623) dW_617 dW_618 dW_620 dW_621 dW_622 rfl rfl (by decide) (by omega) hLn rfl ?_
  refine gj_arg C hX hbl hbA 1 0 (k := 2) (pc' := 629) dW_623 dW_624 dW_626 dW_627 dW_628 rfl rfl (by decide) (by omega) hLn rfl ?_
  refine gj_arg C hX hbl hbA 1 0 (k := 3) (pc' := 635) dW_629 dW_630 dW_632 dW_633 dW_634 rfl rfl (by decide) (by omega) hLn rfl ?_
  refine gj_V C (pc' := 638) (z := YX12_hire) (As := [.int (xs (i + 1)), .int (xs (i + 2)), .int (xs (i + 3))]) dW_635 rfl mlW_79 lkX12_hire sh186 ⟨_, _, rfl⟩ rfl rfl (Nat.le_of_ble_eq_true rfl) (by show dm + 1 ≤ 2048; omega) (by show 64 + 64 * dm ≤ 84000; omega) hr K2 (fun v N hv => ?_)
  obtain ⟨rfl, rfl⟩ := hv
  exact gj_icmp_eq C (tgt := 1350) (pc' := 641) dW_638 rfl (by decide) (fun _ => nx _ I2) (fun h => absurd rfl h)
theorem w_12 (C : gC Γ (lwS p e s m below meth c b)) (hX : va_X b Ln xs s s.heap) (hbl : b < s.heap.size) (hbA : ¬ (s.heap.size ≤ b)) (hi : i + 6 ≤ Ln) (hLn : Ln ≤ 3072) (hr : kc ≤ 601024 ∧ ks ≤ 7293034) (I : Inv M) (nx : lwN Γ (lwS p e s m below meth c b) b i kc ks) : gR Γ (lwS p e s m below meth c b) 643 (lwL Γ b i) [] M kc ks := by
  obtain ⟨v, M1, M2, dx, dm, h1, h2, K1, K2, I2⟩ := v_minutes Γ M I (xs (i + 1))
  unfold lwL
  refine gj_aload_n C (pc' := 644) 2 dW_643 rfl rfl rfl ?_
  refine gj_arg C hX hbl hbA 1 0 (k := 1) (pc' := 650) dW_644 dW_645 dW_647 dW_648 dW_649 rfl rfl (by decide) (by omega) hLn rfl ?_
  refine gj_V C (pc' := 653) (z := YX11_minutes) (As := [.int (xs (i + 1))]) dW_650 rfl mlW_80 lkX11_minutes sh0 ⟨_, _, rfl⟩ rfl rfl (Nat.le_of_ble_eq_true rfl) (by show dx + 1 ≤ 2048; omega) (by show 64 + 64 * dx ≤ 84000; omega) hr K1 (fun v N hv => ?_)
  obtain ⟨rfl, rfl⟩ := hv
  refine gj_aload_n C (pc' := 654) 3 dW_653 rfl rfl rfl ?_
  refine gj_arg C hX hbl hbA 1 0 (k := 1) (pc' := 660) dW_654 dW_655 dW_657 dW_658 dW_659 rfl rfl (by decide) (by omega) hLn rfl ?_
  refine gj_V C (pc' := 663) (z := YX12_minutes) (As := [.int (xs (i + 1))]) dW_660 rfl mlW_83 lkX12_minutes sh186 ⟨_, _, rfl⟩ rfl rfl (Nat.le_of_ble_eq_true rfl) (by show dm + 1 ≤ 2048; omega) (by show 64 + 64 * dm ≤ 84000; omega) hr K2 (fun v N hv => ?_)
  obtain ⟨rfl, rfl⟩ := hv
  exact gj_icmp_eq C (tgt := 1350) (pc' := 666) dW_663 rfl (by decide) (fun _ => nx _ I2) (fun h => absurd rfl h)
theorem w_13 (C : gC Γ (lwS p e s m below meth c b)) (hX : va_X b Ln xs s s.heap) (hbl : b < s.heap.size) (hbA : ¬ (s.heap.size ≤ b)) (hi : i + 6 ≤ Ln) (hLn : Ln ≤ 3072) (hr : kc ≤ 601024 ∧ ks ≤ 7293034) (I : Inv M) (nx : lwN Γ (lwS p e s m below meth c b) b i kc ks) : gR Γ (lwS p e s m below meth c b) 668 (lwL Γ b i) [] M kc ks := by
  obtain ⟨v, M1, M2, dx, dm, h1, h2, K1, K2, I2⟩ := v_undo Γ M I 
  unfold lwL
  refine gj_aload_n C (pc' := 669) 2 dW_668 rfl rfl rfl ?_
  refine gj_V C (pc' := 672) (z := YX11_undo) (As := []) dW_669 rfl mlW_84 lkX11_undo sh0 ⟨_, _, rfl⟩ rfl rfl (Nat.le_of_ble_eq_true rfl) (by show dx + 1 ≤ 2048; omega) (by show 64 + 64 * dx ≤ 84000; omega) hr K1 (fun v N hv => ?_)
  obtain ⟨rfl, rfl⟩ := hv
  refine gj_aload_n C (pc' := 673) 3 dW_672 rfl rfl rfl ?_
  refine gj_V C (pc' := 676) (z := YX12_undo) (As := []) dW_673 rfl mlW_87 lkX12_undo sh186 ⟨_, _, rfl⟩ rfl rfl (Nat.le_of_ble_eq_true rfl) (by show dm + 1 ≤ 2048; omega) (by show 64 + 64 * dm ≤ 84000; omega) hr K2 (fun v N hv => ?_)
  obtain ⟨rfl, rfl⟩ := hv
  exact gj_icmp_eq C (tgt := 1350) (pc' := 679) dW_676 rfl (by decide) (fun _ => nx _ I2) (fun h => absurd rfl h)
theorem w_14 (C : gC Γ (lwS p e s m below meth c b)) (hX : va_X b Ln xs s s.heap) (hbl : b < s.heap.size) (hbA : ¬ (s.heap.size ≤ b)) (hi : i + 6 ≤ Ln) (hLn : Ln ≤ 3072) (hr : kc ≤ 601024 ∧ ks ≤ 7293034) (I : Inv M) (nx : lwN Γ (lwS p e s m below meth c b) b i kc ks) : gR Γ (lwS p e s m below meth c b) 681 (lwL Γ b i) [] M kc ks := by
  obtain ⟨v, M1, M2, dx, dm, h1, h2, K1, K2, I2⟩ := v_ring Γ M I (xs (i + 1))
  unfold lwL
  refine gj_aload_n C (pc' := 682) 2 dW_681 rfl rfl rfl ?_
  refine gj_arg C hX hbl hbA 1 0 (k := 1) (pc' := 688) dW_682 dW_683 dW_685 dW_686 dW_687 rfl rfl (by decide) (by omega) hLn rfl ?_
  refine gj_V C (pc' := 691) (z := YX11_ring) (As := [.int (xs (i + 1))]) dW_688 rfl mlW_88 lkX11_ring sh0 ⟨_, _, rfl⟩ rfl rfl (Nat.le_of_ble_eq_true rfl) (by show dx + 1 ≤ 2048; omega) (by show 64 + 64 * dx ≤ 84000; omega) hr K1 (fun v N hv => ?_)
  obtain ⟨rfl, rfl⟩ := hv
  refine gj_aload_n C (pc' := 692) 3 dW_691 rfl rfl rfl ?_
  refine gj_arg C hX hbl hbA 1 0 (k := 1) (pc' := 698) dW_692 dW_693 dW_695 dW_696 dW_697 rfl rfl (by decide) (by omega) hLn rfl ?_
  refine gj_V C (pc' := 701) (z := YX12_ring) (As := [.int (xs (i + 1))]) dW_698 rfl mlW_91 lkX12_ring sh186 ⟨_, _, rfl⟩ rfl rfl (Nat.le_of_ble_eq_true rfl) (by show dm + 1 ≤ 2048; omega) (by show 64 + 64 * dm ≤ 84000; omega) hr K2 (fun v N hv => ?_)
  obtain ⟨rfl, rfl⟩ := hv
  exact gj_icmp_eq C (tgt := 1350) (pc' := 704) dW_701 rfl (by decide) (fun _ => nx _ I2) (fun h => absurd rfl h)
theorem w_15 (C : gC Γ (lwS p e s m below meth c b)) (hX : va_X b Ln xs s s.heap) (hbl : b < s.heap.size) (hbA : ¬ (s.heap.size ≤ b)) (hi : i + 6 ≤ Ln) (hLn : Ln ≤ 3072) (hr : kc ≤ 601024 ∧ ks ≤ 7293034) (I : Inv M) (nx : lwN Γ (lwS p e s m below meth c b) b i kc ks) : gR Γ (lwS p e s m below meth c b) 706 (lwL Γ b i) [] M kc ks := by
  obtain ⟨v, M1, M2, dx, dm, h1, h2, K1, K2, I2⟩ := v_cut Γ M I 
  unfold lwL
  refine gj_aload_n C (pc' := 707) 2 dW_706 rfl rfl rfl ?_
  refine gj_V C (pc' := 710) (z := YX11_cut) (As := []) dW_707 rfl mlW_92 lkX11_cut sh0 ⟨_, _, rfl⟩ rfl rfl (Nat.le_of_ble_eq_true rfl) (by show dx + 1 ≤ 2048; omega) (by show 64 + 64 * dx ≤ 84000; omega) hr K1 (fun v N hv => ?_)
  obtain ⟨rfl, rfl⟩ := hv
  refine gj_aload_n C (pc' := 711) 3 dW_710 rfl rfl rfl ?_
  refine gj_V C (pc' := 714) (z := YX12_cut) (As := []) dW_711 rfl mlW_95 lkX12_cut sh186 ⟨_, _, rfl⟩ rfl rfl (Nat.le_of_ble_eq_true rfl) (by show dm + 1 ≤ 2048; omega) (by show 64 + 64 * dm ≤ 84000; omega) hr K2 (fun v N hv => ?_)
  obtain ⟨rfl, rfl⟩ := hv
  exact gj_icmp_eq C (tgt := 1350) (pc' := 717) dW_714 rfl (by decide) (fun _ => nx _ I2) (fun h => absurd rfl h)
theorem w_16 (C : gC Γ (lwS p e s m below meth c b)) (hX : va_X b Ln xs s s.heap) (hbl : b < s.heap.size) (hbA : ¬ (s.heap.size ≤ b)) (hi : i + 6 ≤ Ln) (hLn : Ln ≤ 3072) (hr : kc ≤ 601024 ∧ ks ≤ 7293034) (I : Inv M) (nx : lwN Γ (lwS p e s m below meth c b) b i kc ks) : gR Γ (lwS p e s m below meth c b) 719 (lwL Γ b i) [] M kc ks := by
  obtain ⟨v, M1, M2, dx, dm, h1, h2, K1, K2, I2⟩ := v_cutting Γ M I 
  unfold lwL
  refine gj_aload_n C (pc' := 720) 2 dW_719 rfl rfl rfl ?_
  refine gj_V C (pc' := 723) (z := YX11_cutting) (As := []) dW_720 rfl mlW_96 lkX11_cutting sh0 ⟨_, _, rfl⟩ rfl rfl (Nat.le_of_ble_eq_true rfl) (by show dx + 1 ≤ 2048; omega) (by show 64 + 64 * dx ≤ 84000; omega) hr K1 (fun v N hv => ?_)
  obtain ⟨rfl, rfl⟩ := hv
  refine gj_aload_n C (pc' := 724) 3 dW_723 rfl rfl rfl ?_
  refine gj_V C (pc' := 727) (z := YX12_cutting) (As := []) dW_724 rfl mlW_99 lkX12_cutting sh186 ⟨_, _, rfl⟩ rfl rfl (Nat.le_of_ble_eq_true rfl) (by show dm + 1 ≤ 2048; omega) (by show 64 + 64 * dm ≤ 84000; omega) hr K2 (fun v N hv => ?_)
  obtain ⟨rfl, rfl⟩ := hv
  exact gj_icmp_eq C (tgt := 1350) (pc' := 730) dW_727 rfl (by decide) (fun _ => nx _ I2) (fun h => absurd rfl h)
theorem w_17 (C : gC Γ (lwS p e s m below meth c b)) (hX : va_X b Ln xs s s.heap) (hbl : b < s.heap.size) (hbA : ¬ (s.heap.size ≤ b)) (hi : i + 6 ≤ Ln) (hLn : Ln ≤ 3072) (hr : kc ≤ 601024 ∧ ks ≤ 7293034) (I : Inv M) (nx : lwN Γ (lwS p e s m below meth c b) b i kc ks) : gR Γ (lwS p e s m below meth c b) 732 (lwL Γ b i) [] M kc ks := by
  obtain ⟨v, M1, M2, dx, dm, h1, h2, K1, K2, I2⟩ := v_meet Γ M I (xs (i + 1)) (xs (i + 2))
  unfold lwL
  refine gj_aload_n C (pc' := 733) 2 dW_732 rfl rfl rfl ?_
  refine gj_arg C hX hbl hbA 1 0 (k := 1) (pc' := 739) dW_733 dW_734 dW_736 dW_737 dW_738 rfl rfl (by decide) (by omega) hLn rfl ?_
  refine gj_arg C hX hbl hbA 1 0 (k := 2) (pc' := 745) dW_739 dW_740 dW_742 dW_743 dW_744 rfl rfl (by decide) (by omega) hLn rfl ?_
  refine gj_V C (pc' := 748) (z := YX11_meet) (As := [.int (xs (i + 1)), .int (xs (i + 2))]) dW_745 rfl mlW_100 lkX11_meet sh0 ⟨_, _, rfl⟩ rfl rfl (Nat.le_of_ble_eq_true rfl) (by show dx + 1 ≤ 2048; omega) (by show 64 + 64 * dx ≤ 84000; omega) hr K1 (fun v N hv => ?_)
  obtain ⟨rfl, rfl⟩ := hv
  refine gj_aload_n C (pc' := 749) 3 dW_748 rfl rfl rfl ?_
  refine gj_arg C hX hbl hbA 1 0 (k := 1) (pc' := 755) dW_749 dW_750 dW_752 dW_753 dW_754 rfl rfl (by decide) (by omega) hLn rfl ?_
  refine gj_arg C hX hbl hbA 1 0 (k := 2) (pc' := 761) dW_755 dW_756 dW_758 dW_759 dW_760 rfl rfl (by decide) (by omega) hLn rfl ?_
  refine gj_V C (pc' := 764) (z := YX12_meet) (As := [.int (xs (i + 1)), .int (xs (i + 2))]) dW_761 rfl mlW_103 lkX12_meet sh186 ⟨_, _, rfl⟩ rfl rfl (Nat.le_of_ble_eq_true rfl) (by show dm + 1 ≤ 2048; omega) (by show 64 + 64 * dm ≤ 84000; omega) hr K2 (fun v N hv => ?_)
  obtain ⟨rfl, rfl⟩ := hv
  exact gj_icmp_eq C (tgt := 1350) (pc' := 767) dW_764 rfl (by decide) (fun _ => nx _ I2) (fun h => absurd rfl h)
theorem w_18 (C : gC Γ (lwS p e s m below meth c b)) (hX : va_X b Ln xs s s.heap) (hbl : b < s.heap.size) (hbA : ¬ (s.heap.size ≤ b)) (hi : i + 6 ≤ Ln) (hLn : Ln ≤ 3072) (hr : kc ≤ 601024 ∧ ks ≤ 7293034) (I : Inv M) (nx : lwN Γ (lwS p e s m below meth c b) b i kc ks) : gR Γ (lwS p e s m below meth c b) 769 (lwL Γ b i) [] M kc ks := by
  obtain ⟨v, M1, M2, dx, dm, h1, h2, K1, K2, I2⟩ := v_proper Γ M I (xs (i + 1)) (xs (i + 2))
  unfold lwL
  refine gj_aload_n C (pc' := 770) 2 dW_769 rfl rfl rfl ?_
  refine gj_arg C hX hbl hbA 1 0 (k := 1) (pc' := 776) dW_770 dW_771 dW_773 dW_774 dW_775 rfl rfl (by decide) (by omega) hLn rfl ?_
  refine gj_arg C hX hbl hbA 1 0 (k := 2) (pc' := 782) dW_776 dW_777 dW_779 dW_780 dW_781 rfl rfl (by decide) (by omega) hLn rfl ?_
  refine gj_V C (pc' := 785) (z := YX11_proper) (As := [.int (xs (i + 1)), .int (xs (i + 2))]) dW_782 rfl mlW_104 lkX11_proper sh0 ⟨_, _, rfl⟩ rfl rfl (Nat.le_of_ble_eq_true rfl) (by show dx + 1 ≤ 2048; omega) (by show 64 + 64 * dx ≤ 84000; omega) hr K1 (fun v N hv => ?_)
  obtain ⟨rfl, rfl⟩ := hv
  refine gj_aload_n C (pc' := 786) 3 dW_785 rfl rfl rfl ?_
  refine gj_arg C hX hbl hbA 1 0 (k := 1) (pc' := 792) dW_786 dW_787 dW_789 dW_790 dW_791 rfl rfl (by decide) (by omega) hLn rfl ?_
  refine gj_arg C hX hbl hbA 1 0 (k := 2) (pc' := 798) dW_792 dW_793 dW_795 dW_796 dW_797 rfl rfl (by decide) (by omega) hLn rfl ?_
  refine gj_V C (pc' := 801) (z := YX12_proper) (As := [.int (xs (i + 1)), .int (xs (i + 2))]) dW_798 rfl mlW_107 lkX12_proper sh186 ⟨_, _, rfl⟩ rfl rfl (Nat.le_of_ble_eq_true rfl) (by show dm + 1 ≤ 2048; omega) (by show 64 + 64 * dm ≤ 84000; omega) hr K2 (fun v N hv => ?_)
  obtain ⟨rfl, rfl⟩ := hv
  exact gj_icmp_eq C (tgt := 1350) (pc' := 804) dW_801 rfl (by decide) (fun _ => nx _ I2) (fun h => absurd rfl h)
theorem w_19 (C : gC Γ (lwS p e s m below meth c b)) (hX : va_X b Ln xs s s.heap) (hbl : b < s.heap.size) (hbA : ¬ (s.heap.size ≤ b)) (hi : i + 6 ≤ Ln) (hLn : Ln ≤ 3072) (hr : kc ≤ 601024 ∧ ks ≤ 7293034) (I : Inv M) (nx : lwN Γ (lwS p e s m below meth c b) b i kc ks) : gR Γ (lwS p e s m below meth c b) 806 (lwL Γ b i) [] M kc ks := by
  obtain ⟨v, M1, M2, dx, dm, h1, h2, K1, K2, I2⟩ := v_fits Γ M I 
  unfold lwL
  refine gj_aload_n C (pc' := 807) 2 dW_806 rfl rfl rfl ?_
  refine gj_V C (pc' := 810) (z := YX11_fits) (As := []) dW_807 rfl mlW_108 lkX11_fits sh0 ⟨_, _, rfl⟩ rfl rfl (Nat.le_of_ble_eq_true rfl) (by show dx + 1 ≤ 2048; omega) (by show 64 + 64 * dx ≤ 84000; omega) hr K1 (fun v N hv => ?_)
  obtain ⟨rfl, rfl⟩ := hv
  refine gj_aload_n C (pc' := 811) 3 dW_810 rfl rfl rfl ?_
  refine gj_V C (pc' := 814) (z := YX12_fits) (As := []) dW_811 rfl mlW_111 lkX12_fits sh186 ⟨_, _, rfl⟩ rfl rfl (Nat.le_of_ble_eq_true rfl) (by show dm + 1 ≤ 2048; omega) (by show 64 + 64 * dm ≤ 84000; omega) hr K2 (fun v N hv => ?_)
  obtain ⟨rfl, rfl⟩ := hv
  exact gj_icmp_eq C (tgt := 1350) (pc' := 817) dW_814 rfl (by decide) (fun _ => nx _ I2) (fun h => absurd rfl h)
theorem w_20 (C : gC Γ (lwS p e s m below meth c b)) (hX : va_X b Ln xs s s.heap) (hbl : b < s.heap.size) (hbA : ¬ (s.heap.size ≤ b)) (hi : i + 6 ≤ Ln) (hLn : Ln ≤ 3072) (hr : kc ≤ 601024 ∧ ks ≤ 7293034) (I : Inv M) (nx : lwN Γ (lwS p e s m below meth c b) b i kc ks) : gR Γ (lwS p e s m below meth c b) 819 (lwL Γ b i) [] M kc ks := by
  obtain ⟨v, M1, M2, dx, dm, h1, h2, K1, K2, I2⟩ := v_ask Γ M I 
  unfold lwL
  refine gj_aload_n C (pc' := 820) 2 dW_819 rfl rfl rfl ?_
  refine gj_V C (pc' := 823) (z := YX11_ask) (As := []) dW_820 rfl mlW_112 lkX11_ask sh0 ⟨_, _, rfl⟩ rfl rfl (Nat.le_of_ble_eq_true rfl) (by show dx + 1 ≤ 2048; omega) (by show 64 + 64 * dx ≤ 84000; omega) hr K1 (fun v N hv => ?_)
  obtain ⟨rfl, rfl⟩ := hv
  refine gj_aload_n C (pc' := 824) 3 dW_823 rfl rfl rfl ?_
  refine gj_V C (pc' := 827) (z := YX12_ask) (As := []) dW_824 rfl mlW_115 lkX12_ask sh186 ⟨_, _, rfl⟩ rfl rfl (Nat.le_of_ble_eq_true rfl) (by show dm + 1 ≤ 2048; omega) (by show 64 + 64 * dm ≤ 84000; omega) hr K2 (fun v N hv => ?_)
  obtain ⟨rfl, rfl⟩ := hv
  exact gj_icmp_eq C (tgt := 1350) (pc' := 830) dW_827 rfl (by decide) (fun _ => nx _ I2) (fun h => absurd rfl h)
theorem w_21 (C : gC Γ (lwS p e s m below meth c b)) (hX : va_X b Ln xs s s.heap) (hbl : b < s.heap.size) (hbA : ¬ (s.heap.size ≤ b)) (hi : i + 6 ≤ Ln) (hLn : Ln ≤ 3072) (hr : kc ≤ 601024 ∧ ks ≤ 7293034) (I : Inv M) (nx : lwN Γ (lwS p e s m below meth c b) b i kc ks) : gR Γ (lwS p e s m below meth c b) 832 (lwL Γ b i) [] M kc ks := by
  obtain ⟨v, M1, M2, dx, dm, h1, h2, K1, K2, I2⟩ := v_path Γ M I (xs (i + 1)) (xs (i + 2))
  unfold lwL
  refine gj_aload_n C (pc' := 833) 2 dW_832 rfl rfl rfl ?_
  refine gj_arg C hX hbl hbA 1 0 (k := 1) (pc' := 839) dW_833 dW_834 dW_836 dW_837 dW_838 rfl rfl (by decide) (by omega) hLn rfl ?_
  refine gj_arg C hX hbl hbA 1 0 (k := 2) (pc' := 845) dW_839 dW_840 dW_842 dW_843 dW_844 rfl rfl (by decide) (by omega) hLn rfl ?_
  refine gj_V C (pc' := 848) (z := YX11_path) (As := [.int (xs (i + 1)), .int (xs (i + 2))]) dW_845 rfl mlW_116 lkX11_path sh0 ⟨_, _, rfl⟩ rfl rfl (Nat.le_of_ble_eq_true rfl) (by show dx + 1 ≤ 2048; omega) (by show 64 + 64 * dx ≤ 84000; omega) hr K1 (fun v N hv => ?_)
  obtain ⟨rfl, rfl⟩ := hv
  refine gj_aload_n C (pc' := 849) 3 dW_848 rfl rfl rfl ?_
  refine gj_arg C hX hbl hbA 1 0 (k := 1) (pc' := 855) dW_849 dW_850 dW_852 dW_853 dW_854 rfl rfl (by decide) (by omega) hLn rfl ?_
  refine gj_arg C hX hbl hbA 1 0 (k := 2) (pc' := 861) dW_855 dW_856 dW_858 dW_859 dW_860 rfl rfl (by decide) (by omega) hLn rfl ?_
  refine gj_V C (pc' := 864) (z := YX12_path) (As := [.int (xs (i + 1)), .int (xs (i + 2))]) dW_861 rfl mlW_119 lkX12_path sh186 ⟨_, _, rfl⟩ rfl rfl (Nat.le_of_ble_eq_true rfl) (by show dm + 1 ≤ 2048; omega) (by show 64 + 64 * dm ≤ 84000; omega) hr K2 (fun v N hv => ?_)
  obtain ⟨rfl, rfl⟩ := hv
  exact gj_icmp_eq C (tgt := 1350) (pc' := 867) dW_864 rfl (by decide) (fun _ => nx _ I2) (fun h => absurd rfl h)
theorem w_22 (C : gC Γ (lwS p e s m below meth c b)) (hX : va_X b Ln xs s s.heap) (hbl : b < s.heap.size) (hbA : ¬ (s.heap.size ≤ b)) (hi : i + 6 ≤ Ln) (hLn : Ln ≤ 3072) (hr : kc ≤ 601024 ∧ ks ≤ 7293034) (I : Inv M) (nx : lwN Γ (lwS p e s m below meth c b) b i kc ks) : gR Γ (lwS p e s m below meth c b) 869 (lwL Γ b i) [] M kc ks := by
  obtain ⟨v, M1, M2, dx, dm, h1, h2, K1, K2, I2⟩ := v_pathAt Γ M I (xs (i + 1))
  unfold lwL
  refine gj_aload_n C (pc' := 870) 2 dW_869 rfl rfl rfl ?_
  refine gj_arg C hX hbl hbA 1 0 (k := 1) (pc' := 876) dW_870 dW_871 dW_873 dW_874 dW_875 rfl rfl (by decide) (by omega) hLn rfl ?_
  refine gj_V C (pc' := 879) (z := YX11_pathAt) (As := [.int (xs (i + 1))]) dW_876 rfl mlW_120 lkX11_pathAt sh0 ⟨_, _, rfl⟩ rfl rfl (Nat.le_of_ble_eq_true rfl) (by show dx + 1 ≤ 2048; omega) (by show 64 + 64 * dx ≤ 84000; omega) hr K1 (fun v N hv => ?_)
  obtain ⟨rfl, rfl⟩ := hv
  refine gj_aload_n C (pc' := 880) 3 dW_879 rfl rfl rfl ?_
  refine gj_arg C hX hbl hbA 1 0 (k := 1) (pc' := 886) dW_880 dW_881 dW_883 dW_884 dW_885 rfl rfl (by decide) (by omega) hLn rfl ?_
  refine gj_V C (pc' := 889) (z := YX12_pathAt) (As := [.int (xs (i + 1))]) dW_886 rfl mlW_123 lkX12_pathAt sh186 ⟨_, _, rfl⟩ rfl rfl (Nat.le_of_ble_eq_true rfl) (by show dm + 1 ≤ 2048; omega) (by show 64 + 64 * dm ≤ 84000; omega) hr K2 (fun v N hv => ?_)
  obtain ⟨rfl, rfl⟩ := hv
  exact gj_icmp_eq C (tgt := 1350) (pc' := 892) dW_889 rfl (by decide) (fun _ => nx _ I2) (fun h => absurd rfl h)
theorem w_23 (C : gC Γ (lwS p e s m below meth c b)) (hX : va_X b Ln xs s s.heap) (hbl : b < s.heap.size) (hbA : ¬ (s.heap.size ≤ b)) (hi : i + 6 ≤ Ln) (hLn : Ln ≤ 3072) (hr : kc ≤ 601024 ∧ ks ≤ 7293034) (I : Inv M) (nx : lwN Γ (lwS p e s m below meth c b) b i kc ks) : gR Γ (lwS p e s m below meth c b) 894 (lwL Γ b i) [] M kc ks := by
  obtain ⟨v, M1, M2, dx, dm, h1, h2, K1, K2, I2⟩ := v_bar Γ M I (xs (i + 1)) (xs (i + 2))
  unfold lwL
  refine gj_aload_n C (pc' := 895) 2 dW_894 rfl rfl rfl ?_
  refine gj_arg C hX hbl hbA 1 0 (k := 1) (pc' := 901) dW_895 dW_896 dW_898 dW_899 dW_900 rfl rfl (by decide) (by omega) hLn rfl ?_
  refine gj_arg C hX hbl hbA 1 0 (k := 2) (pc' := 907) dW_901 dW_902 dW_904 dW_905 dW_906 rfl rfl (by decide) (by omega) hLn rfl ?_
  refine gj_V C (pc' := 910) (z := YX11_bar) (As := [.int (xs (i + 1)), .int (xs (i + 2))]) dW_907 rfl mlW_124 lkX11_bar sh0 ⟨_, _, rfl⟩ rfl rfl (Nat.le_of_ble_eq_true rfl) (by show dx + 1 ≤ 2048; omega) (by show 64 + 64 * dx ≤ 84000; omega) hr K1 (fun v N hv => ?_)
  obtain ⟨rfl, rfl⟩ := hv
  refine gj_aload_n C (pc' := 911) 3 dW_910 rfl rfl rfl ?_
  refine gj_arg C hX hbl hbA 1 0 (k := 1) (pc' := 917) dW_911 dW_912 dW_914 dW_915 dW_916 rfl rfl (by decide) (by omega) hLn rfl ?_
  refine gj_arg C hX hbl hbA 1 0 (k := 2) (pc' := 923) dW_917 dW_918 dW_920 dW_921 dW_922 rfl rfl (by decide) (by omega) hLn rfl ?_
  refine gj_V C (pc' := 926) (z := YX12_bar) (As := [.int (xs (i + 1)), .int (xs (i + 2))]) dW_923 rfl mlW_127 lkX12_bar sh186 ⟨_, _, rfl⟩ rfl rfl (Nat.le_of_ble_eq_true rfl) (by show dm + 1 ≤ 2048; omega) (by show 64 + 64 * dm ≤ 84000; omega) hr K2 (fun v N hv => ?_)
  obtain ⟨rfl, rfl⟩ := hv
  exact gj_icmp_eq C (tgt := 1350) (pc' := 929) dW_926 rfl (by decide) (fun _ => nx _ I2) (fun h => absurd rfl h)
theorem w_24 (C : gC Γ (lwS p e s m below meth c b)) (hX : va_X b Ln xs s s.heap) (hbl : b < s.heap.size) (hbA : ¬ (s.heap.size ≤ b)) (hi : i + 6 ≤ Ln) (hLn : Ln ≤ 3072) (hr : kc ≤ 601024 ∧ ks ≤ 7293034) (I : Inv M) (nx : lwN Γ (lwS p e s m below meth c b) b i kc ks) : gR Γ (lwS p e s m below meth c b) 931 (lwL Γ b i) [] M kc ks := by
  obtain ⟨v, M1, M2, dx, dm, h1, h2, K1, K2, I2⟩ := v_barred Γ M I 
  unfold lwL
  refine gj_aload_n C (pc' := 932) 2 dW_931 rfl rfl rfl ?_
  refine gj_V C (pc' := 935) (z := YX11_barred) (As := []) dW_932 rfl mlW_128 lkX11_barred sh0 ⟨_, _, rfl⟩ rfl rfl (Nat.le_of_ble_eq_true rfl) (by show dx + 1 ≤ 2048; omega) (by show 64 + 64 * dx ≤ 84000; omega) hr K1 (fun v N hv => ?_)
  obtain ⟨rfl, rfl⟩ := hv
  refine gj_aload_n C (pc' := 936) 3 dW_935 rfl rfl rfl ?_
  refine gj_V C (pc' := 939) (z := YX12_barred) (As := []) dW_936 rfl mlW_131 lkX12_barred sh186 ⟨_, _, rfl⟩ rfl rfl (Nat.le_of_ble_eq_true rfl) (by show dm + 1 ≤ 2048; omega) (by show 64 + 64 * dm ≤ 84000; omega) hr K2 (fun v N hv => ?_)
  obtain ⟨rfl, rfl⟩ := hv
  exact gj_icmp_eq C (tgt := 1350) (pc' := 942) dW_939 rfl (by decide) (fun _ => nx _ I2) (fun h => absurd rfl h)
theorem w_25 (C : gC Γ (lwS p e s m below meth c b)) (hX : va_X b Ln xs s s.heap) (hbl : b < s.heap.size) (hbA : ¬ (s.heap.size ≤ b)) (hi : i + 6 ≤ Ln) (hLn : Ln ≤ 3072) (hr : kc ≤ 601024 ∧ ks ≤ 7293034) (I : Inv M) (nx : lwN Γ (lwS p e s m below meth c b) b i kc ks) : gR Γ (lwS p e s m below meth c b) 944 (lwL Γ b i) [] M kc ks := by
  obtain ⟨v, M1, M2, dx, dm, h1, h2, K1, K2, I2⟩ := v_hires Γ M I 
  unfold lwL
  refine gj_aload_n C (pc' := 945) 2 dW_944 rfl rfl rfl ?_
  refine gj_V C (pc' := 948) (z := YX11_hires) (As := []) dW_945 rfl mlW_132 lkX11_hires sh0 ⟨_, _, rfl⟩ rfl rfl (Nat.le_of_ble_eq_true rfl) (by show dx + 1 ≤ 2048; omega) (by show 64 + 64 * dx ≤ 84000; omega) hr K1 (fun v N hv => ?_)
  obtain ⟨rfl, rfl⟩ := hv
  refine gj_aload_n C (pc' := 949) 3 dW_948 rfl rfl rfl ?_
  refine gj_V C (pc' := 952) (z := YX12_hires) (As := []) dW_949 rfl mlW_135 lkX12_hires sh186 ⟨_, _, rfl⟩ rfl rfl (Nat.le_of_ble_eq_true rfl) (by show dm + 1 ≤ 2048; omega) (by show 64 + 64 * dm ≤ 84000; omega) hr K2 (fun v N hv => ?_)
  obtain ⟨rfl, rfl⟩ := hv
  exact gj_icmp_eq C (tgt := 1350) (pc' := 955) dW_952 rfl (by decide) (fun _ => nx _ I2) (fun h => absurd rfl h)
theorem w_26 (C : gC Γ (lwS p e s m below meth c b)) (hX : va_X b Ln xs s s.heap) (hbl : b < s.heap.size) (hbA : ¬ (s.heap.size ≤ b)) (hi : i + 6 ≤ Ln) (hLn : Ln ≤ 3072) (hr : kc ≤ 601024 ∧ ks ≤ 7293034) (I : Inv M) (nx : lwN Γ (lwS p e s m below meth c b) b i kc ks) : gR Γ (lwS p e s m below meth c b) 957 (lwL Γ b i) [] M kc ks := by
  obtain ⟨v, M1, M2, dx, dm, h1, h2, K1, K2, I2⟩ := v_hiresFar Γ M I 
  unfold lwL
  refine gj_aload_n C (pc' := 958) 2 dW_957 rfl rfl rfl ?_
  refine gj_V C (pc' := 961) (z := YX11_hiresFar) (As := []) dW_958 rfl mlW_136 lkX11_hiresFar sh0 ⟨_, _, rfl⟩ rfl rfl (Nat.le_of_ble_eq_true rfl) (by show dx + 1 ≤ 2048; omega) (by show 64 + 64 * dx ≤ 84000; omega) hr K1 (fun v N hv => ?_)
  obtain ⟨rfl, rfl⟩ := hv
  refine gj_aload_n C (pc' := 962) 3 dW_961 rfl rfl rfl ?_
  refine gj_V C (pc' := 965) (z := YX12_hiresFar) (As := []) dW_962 rfl mlW_139 lkX12_hiresFar sh186 ⟨_, _, rfl⟩ rfl rfl (Nat.le_of_ble_eq_true rfl) (by show dm + 1 ≤ 2048; omega) (by show 64 + 64 * dm ≤ 84000; omega) hr K2 (fun v N hv => ?_)
  obtain ⟨rfl, rfl⟩ := hv
  exact gj_icmp_eq C (tgt := 1350) (pc' := 968) dW_965 rfl (by decide) (fun _ => nx _ I2) (fun h => absurd rfl h)
theorem w_27 (C : gC Γ (lwS p e s m below meth c b)) (hX : va_X b Ln xs s s.heap) (hbl : b < s.heap.size) (hbA : ¬ (s.heap.size ≤ b)) (hi : i + 6 ≤ Ln) (hLn : Ln ≤ 3072) (hr : kc ≤ 601024 ∧ ks ≤ 7293034) (I : Inv M) (nx : lwN Γ (lwS p e s m below meth c b) b i kc ks) : gR Γ (lwS p e s m below meth c b) 970 (lwL Γ b i) [] M kc ks := by
  obtain ⟨v, M1, M2, dx, dm, h1, h2, K1, K2, I2⟩ := v_hiredBy Γ M I (xs (i + 1))
  unfold lwL
  refine gj_aload_n C (pc' := 971) 2 dW_970 rfl rfl rfl ?_
  refine gj_arg C hX hbl hbA 1 0 (k := 1) (pc' := 977) dW_971 dW_972 dW_974 dW_975 dW_976 rfl rfl (by decide) (by omega) hLn rfl ?_
  refine gj_V C (pc' := 980) (z := YX11_hiredBy) (As := [.int (xs (i + 1))]) dW_977 rfl mlW_140 lkX11_hiredBy sh0 ⟨_, _, rfl⟩ rfl rfl (Nat.le_of_ble_eq_true rfl) (by show dx + 1 ≤ 2048; omega) (by show 64 + 64 * dx ≤ 84000; omega) hr K1 (fun v N hv => ?_)
  obtain ⟨rfl, rfl⟩ := hv
  refine gj_aload_n C (pc' := 981) 3 dW_980 rfl rfl rfl ?_
  refine gj_arg C hX hbl hbA 1 0 (k := 1) (pc' := 987) dW_981 dW_982 dW_984 dW_985 dW_986 rfl rfl (by decide) (by omega) hLn rfl ?_
  refine gj_V C (pc' := 990) (z := YX12_hiredBy) (As := [.int (xs (i + 1))]) dW_987 rfl mlW_143 lkX12_hiredBy sh186 ⟨_, _, rfl⟩ rfl rfl (Nat.le_of_ble_eq_true rfl) (by show dm + 1 ≤ 2048; omega) (by show 64 + 64 * dm ≤ 84000; omega) hr K2 (fun v N hv => ?_)
  obtain ⟨rfl, rfl⟩ := hv
  exact gj_icmp_eq C (tgt := 1350) (pc' := 993) dW_990 rfl (by decide) (fun _ => nx _ I2) (fun h => absurd rfl h)
theorem w_29 (C : gC Γ (lwS p e s m below meth c b)) (hX : va_X b Ln xs s s.heap) (hbl : b < s.heap.size) (hbA : ¬ (s.heap.size ≤ b)) (hi : i + 6 ≤ Ln) (hLn : Ln ≤ 3072) (hr : kc ≤ 601024 ∧ ks ≤ 7293034) (I : Inv M) (nx : lwN Γ (lwS p e s m below meth c b) b i kc ks) : gR Γ (lwS p e s m below meth c b) 1051 (lwL Γ b i) [] M kc ks := by
  obtain ⟨v, M1, M2, dx, dm, h1, h2, K1, K2, I2⟩ := v_line Γ M I (xs (i + 1))
  unfold lwL
  refine gj_aload_n C (pc' := 1052) 2 dW_1051 rfl rfl rfl ?_
  refine gj_arg C hX hbl hbA 1 0 (k := 1) (pc' := 1058) dW_1052 dW_1053 dW_1055 dW_1056 dW_1057 rfl rfl (by decide) (by omega) hLn rfl ?_
  refine gj_V C (pc' := 1061) (z := YX11_line) (As := [.int (xs (i + 1))]) dW_1058 rfl mlW_148 lkX11_line sh0 ⟨_, _, rfl⟩ rfl rfl (Nat.le_of_ble_eq_true rfl) (by show dx + 1 ≤ 2048; omega) (by show 64 + 64 * dx ≤ 84000; omega) hr K1 (fun v N hv => ?_)
  obtain ⟨rfl, rfl⟩ := hv
  refine gj_aload_n C (pc' := 1062) 3 dW_1061 rfl rfl rfl ?_
  refine gj_arg C hX hbl hbA 1 0 (k := 1) (pc' := 1068) dW_1062 dW_1063 dW_1065 dW_1066 dW_1067 rfl rfl (by decide) (by omega) hLn rfl ?_
  refine gj_V C (pc' := 1071) (z := YX12_line) (As := [.int (xs (i + 1))]) dW_1068 rfl mlW_151 lkX12_line sh186 ⟨_, _, rfl⟩ rfl rfl (Nat.le_of_ble_eq_true rfl) (by show dm + 1 ≤ 2048; omega) (by show 64 + 64 * dm ≤ 84000; omega) hr K2 (fun v N hv => ?_)
  obtain ⟨rfl, rfl⟩ := hv
  exact gj_icmp_eq C (tgt := 1350) (pc' := 1074) dW_1071 rfl (by decide) (fun _ => nx _ I2) (fun h => absurd rfl h)
theorem w_30 (C : gC Γ (lwS p e s m below meth c b)) (hX : va_X b Ln xs s s.heap) (hbl : b < s.heap.size) (hbA : ¬ (s.heap.size ≤ b)) (hi : i + 6 ≤ Ln) (hLn : Ln ≤ 3072) (hr : kc ≤ 601024 ∧ ks ≤ 7293034) (I : Inv M) (nx : lwN Γ (lwS p e s m below meth c b) b i kc ks) : gR Γ (lwS p e s m below meth c b) 1076 (lwL Γ b i) [] M kc ks := by
  obtain ⟨v, M1, M2, dx, dm, h1, h2, K1, K2, I2⟩ := v_byteAt Γ M I (xs (i + 1))
  unfold lwL
  refine gj_aload_n C (pc' := 1077) 2 dW_1076 rfl rfl rfl ?_
  refine gj_arg C hX hbl hbA 1 0 (k := 1) (pc' := 1083) dW_1077 dW_1078 dW_1080 dW_1081 dW_1082 rfl rfl (by decide) (by omega) hLn rfl ?_
  refine gj_V C (pc' := 1086) (z := YX11_byteAt) (As := [.int (xs (i + 1))]) dW_1083 rfl mlW_152 lkX11_byteAt sh0 ⟨_, _, rfl⟩ rfl rfl (Nat.le_of_ble_eq_true rfl) (by show dx + 1 ≤ 2048; omega) (by show 64 + 64 * dx ≤ 84000; omega) hr K1 (fun v N hv => ?_)
  obtain ⟨rfl, rfl⟩ := hv
  refine gj_aload_n C (pc' := 1087) 3 dW_1086 rfl rfl rfl ?_
  refine gj_arg C hX hbl hbA 1 0 (k := 1) (pc' := 1093) dW_1087 dW_1088 dW_1090 dW_1091 dW_1092 rfl rfl (by decide) (by omega) hLn rfl ?_
  refine gj_V C (pc' := 1096) (z := YX12_byteAt) (As := [.int (xs (i + 1))]) dW_1093 rfl mlW_155 lkX12_byteAt sh186 ⟨_, _, rfl⟩ rfl rfl (Nat.le_of_ble_eq_true rfl) (by show dm + 1 ≤ 2048; omega) (by show 64 + 64 * dm ≤ 84000; omega) hr K2 (fun v N hv => ?_)
  obtain ⟨rfl, rfl⟩ := hv
  exact gj_icmp_eq C (tgt := 1350) (pc' := 1099) dW_1096 rfl (by decide) (fun _ => nx _ I2) (fun h => absurd rfl h)
theorem w_31 (C : gC Γ (lwS p e s m below meth c b)) (hX : va_X b Ln xs s s.heap) (hbl : b < s.heap.size) (hbA : ¬ (s.heap.size ≤ b)) (hi : i + 6 ≤ Ln) (hLn : Ln ≤ 3072) (hr : kc ≤ 601024 ∧ ks ≤ 7293034) (I : Inv M) (nx : lwN Γ (lwS p e s m below meth c b) b i kc ks) : gR Γ (lwS p e s m below meth c b) 1101 (lwL Γ b i) [] M kc ks := by
  obtain ⟨v, M1, M2, dx, dm, h1, h2, K1, K2, I2⟩ := v_drawn Γ M I (xs (i + 1)) (xs (i + 2))
  unfold lwL
  refine gj_aload_n C (pc' := 1102) 2 dW_1101 rfl rfl rfl ?_
  refine gj_arg C hX hbl hbA 1 0 (k := 1) (pc' := 1108) dW_1102 dW_1103 dW_1105 dW_1106 dW_1107 rfl rfl (by decide) (by omega) hLn rfl ?_
  refine gj_arg C hX hbl hbA 1 0 (k := 2) (pc' := 1114) dW_1108 dW_1109 dW_1111 dW_1112 dW_1113 rfl rfl (by decide) (by omega) hLn rfl ?_
  refine gj_V C (pc' := 1117) (z := YX11_drawn) (As := [.int (xs (i + 1)), .int (xs (i + 2))]) dW_1114 rfl mlW_156 lkX11_drawn sh0 ⟨_, _, rfl⟩ rfl rfl (Nat.le_of_ble_eq_true rfl) (by show dx + 1 ≤ 2048; omega) (by show 64 + 64 * dx ≤ 84000; omega) hr K1 (fun v N hv => ?_)
  obtain ⟨rfl, rfl⟩ := hv
  refine gj_aload_n C (pc' := 1118) 3 dW_1117 rfl rfl rfl ?_
  refine gj_arg C hX hbl hbA 1 0 (k := 1) (pc' := 1124) dW_1118 dW_1119 dW_1121 dW_1122 dW_1123 rfl rfl (by decide) (by omega) hLn rfl ?_
  refine gj_arg C hX hbl hbA 1 0 (k := 2) (pc' := 1130) dW_1124 dW_1125 dW_1127 dW_1128 dW_1129 rfl rfl (by decide) (by omega) hLn rfl ?_
  refine gj_V C (pc' := 1133) (z := YX12_drawn) (As := [.int (xs (i + 1)), .int (xs (i + 2))]) dW_1130 rfl mlW_159 lkX12_drawn sh186 ⟨_, _, rfl⟩ rfl rfl (Nat.le_of_ble_eq_true rfl) (by show dm + 1 ≤ 2048; omega) (by show 64 + 64 * dm ≤ 84000; omega) hr K2 (fun v N hv => ?_)
  obtain ⟨rfl, rfl⟩ := hv
  exact gj_icmp_eq C (tgt := 1350) (pc' := 1136) dW_1133 rfl (by decide) (fun _ => nx _ I2) (fun h => absurd rfl h)
theorem w_32 (C : gC Γ (lwS p e s m below meth c b)) (hX : va_X b Ln xs s s.heap) (hbl : b < s.heap.size) (hbA : ¬ (s.heap.size ≤ b)) (hi : i + 6 ≤ Ln) (hLn : Ln ≤ 3072) (hr : kc ≤ 601024 ∧ ks ≤ 7293034) (I : Inv M) (nx : lwN Γ (lwS p e s m below meth c b) b i kc ks) : gR Γ (lwS p e s m below meth c b) 1138 (lwL Γ b i) [] M kc ks := by
  obtain ⟨v, M1, M2, dx, dm, h1, h2, K1, K2, I2⟩ := v_odds Γ M I (xs (i + 1)) (xs (i + 2)) (xs (i + 3))
  unfold lwL
  refine gj_aload_n C (pc' := 1139) 2 dW_1138 rfl rfl rfl ?_
  refine gj_arg C hX hbl hbA 1 0 (k := 1) (pc' := 1145) dW_1139 dW_1140 dW_1142 dW_1143 dW_1144 rfl rfl (by decide) (by omega) hLn rfl ?_
  refine gj_arg C hX hbl hbA 1 0 (k := 2) (pc' := 1151) dW_1145 dW_1146 dW_1148 dW_1149 dW_1150 rfl rfl (by decide) (by omega) hLn rfl ?_
  refine gj_arg C hX hbl hbA 1 0 (k := 3) (pc' := 1157) dW_1151 dW_1152 dW_1154 dW_1155 dW_1156 rfl rfl (by decide) (by omega) hLn rfl ?_
  refine gj_V C (pc' := 1160) (z := YX11_odds) (As := [.int (xs (i + 1)), .int (xs (i + 2)), .int (xs (i + 3))]) dW_1157 rfl mlW_160 lkX11_odds sh0 ⟨_, _, rfl⟩ rfl rfl (Nat.le_of_ble_eq_true rfl) (by show dx + 1 ≤ 2048; omega) (by show 64 + 64 * dx ≤ 84000; omega) hr K1 (fun v N hv => ?_)
  obtain ⟨rfl, rfl⟩ := hv
  refine gj_aload_n C (pc' := 1161) 3 dW_1160 rfl rfl rfl ?_
  refine gj_arg C hX hbl hbA 1 0 (k := 1) (pc' := 1167) dW_1161 dW_1162 dW_1164 dW_1165 dW_1166 rfl rfl (by decide) (by omega) hLn rfl ?_
  refine gj_arg C hX hbl hbA 1 0 (k := 2) (pc' := 1173) dW_1167 dW_1168 dW_1170 dW_1171 dW_1172 rfl rfl (by decide) (by omega) hLn rfl ?_
  refine gj_arg C hX hbl hbA 1 0 (k := 3) (pc' := 1179) dW_1173 dW_1174 dW_1176 dW_1177 dW_1178 rfl rfl (by decide) (by omega) hLn rfl ?_
  refine gj_V C (pc' := 1182) (z := YX12_odds) (As := [.int (xs (i + 1)), .int (xs (i + 2)), .int (xs (i + 3))]) dW_1179 rfl mlW_163 lkX12_odds sh186 ⟨_, _, rfl⟩ rfl rfl (Nat.le_of_ble_eq_true rfl) (by show dm + 1 ≤ 2048; omega) (by show 64 + 64 * dm ≤ 84000; omega) hr K2 (fun v N hv => ?_)
  obtain ⟨rfl, rfl⟩ := hv
  exact gj_icmp_eq C (tgt := 1350) (pc' := 1185) dW_1182 rfl (by decide) (fun _ => nx _ I2) (fun h => absurd rfl h)
theorem w_33 (C : gC Γ (lwS p e s m below meth c b)) (hX : va_X b Ln xs s s.heap) (hbl : b < s.heap.size) (hbA : ¬ (s.heap.size ≤ b)) (hi : i + 6 ≤ Ln) (hLn : Ln ≤ 3072) (hr : kc ≤ 601024 ∧ ks ≤ 7293034) (I : Inv M) (nx : lwN Γ (lwS p e s m below meth c b) b i kc ks) : gR Γ (lwS p e s m below meth c b) 1187 (lwL Γ b i) [] M kc ks := by
  obtain ⟨v, M1, M2, dx, dm, h1, h2, K1, K2, I2⟩ := v_book Γ M I (xs (i + 1))
  unfold lwL
  refine gj_aload_n C (pc' := 1188) 2 dW_1187 rfl rfl rfl ?_
  refine gj_arg C hX hbl hbA 1 0 (k := 1) (pc' := 1194) dW_1188 dW_1189 dW_1191 dW_1192 dW_1193 rfl rfl (by decide) (by omega) hLn rfl ?_
  refine gj_V C (pc' := 1197) (z := YX11_book) (As := [.int (xs (i + 1))]) dW_1194 rfl mlW_164 lkX11_book sh0 ⟨_, _, rfl⟩ rfl rfl (Nat.le_of_ble_eq_true rfl) (by show dx + 1 ≤ 2048; omega) (by show 64 + 64 * dx ≤ 84000; omega) hr K1 (fun v N hv => ?_)
  obtain ⟨rfl, rfl⟩ := hv
  refine gj_aload_n C (pc' := 1198) 3 dW_1197 rfl rfl rfl ?_
  refine gj_arg C hX hbl hbA 1 0 (k := 1) (pc' := 1204) dW_1198 dW_1199 dW_1201 dW_1202 dW_1203 rfl rfl (by decide) (by omega) hLn rfl ?_
  refine gj_V C (pc' := 1207) (z := YX12_book) (As := [.int (xs (i + 1))]) dW_1204 rfl mlW_167 lkX12_book sh186 ⟨_, _, rfl⟩ rfl rfl (Nat.le_of_ble_eq_true rfl) (by show dm + 1 ≤ 2048; omega) (by show 64 + 64 * dm ≤ 84000; omega) hr K2 (fun v N hv => ?_)
  obtain ⟨rfl, rfl⟩ := hv
  exact gj_icmp_eq C (tgt := 1350) (pc' := 1210) dW_1207 rfl (by decide) (fun _ => nx _ I2) (fun h => absurd rfl h)
theorem w_34 (C : gC Γ (lwS p e s m below meth c b)) (hX : va_X b Ln xs s s.heap) (hbl : b < s.heap.size) (hbA : ¬ (s.heap.size ≤ b)) (hi : i + 6 ≤ Ln) (hLn : Ln ≤ 3072) (hr : kc ≤ 601024 ∧ ks ≤ 7293034) (I : Inv M) (nx : lwN Γ (lwS p e s m below meth c b) b i kc ks) : gR Γ (lwS p e s m below meth c b) 1212 (lwL Γ b i) [] M kc ks := by
  obtain ⟨v, M1, M2, dx, dm, h1, h2, K1, K2, I2⟩ := v_told Γ M I (xs (i + 1))
  unfold lwL
  refine gj_aload_n C (pc' := 1213) 2 dW_1212 rfl rfl rfl ?_
  refine gj_arg C hX hbl hbA 1 0 (k := 1) (pc' := 1219) dW_1213 dW_1214 dW_1216 dW_1217 dW_1218 rfl rfl (by decide) (by omega) hLn rfl ?_
  refine gj_V C (pc' := 1222) (z := YX11_told) (As := [.int (xs (i + 1))]) dW_1219 rfl mlW_168 lkX11_told sh0 ⟨_, _, rfl⟩ rfl rfl (Nat.le_of_ble_eq_true rfl) (by show dx + 1 ≤ 2048; omega) (by show 64 + 64 * dx ≤ 84000; omega) hr K1 (fun v N hv => ?_)
  obtain ⟨rfl, rfl⟩ := hv
  refine gj_aload_n C (pc' := 1223) 3 dW_1222 rfl rfl rfl ?_
  refine gj_arg C hX hbl hbA 1 0 (k := 1) (pc' := 1229) dW_1223 dW_1224 dW_1226 dW_1227 dW_1228 rfl rfl (by decide) (by omega) hLn rfl ?_
  refine gj_V C (pc' := 1232) (z := YX12_told) (As := [.int (xs (i + 1))]) dW_1229 rfl mlW_171 lkX12_told sh186 ⟨_, _, rfl⟩ rfl rfl (Nat.le_of_ble_eq_true rfl) (by show dm + 1 ≤ 2048; omega) (by show 64 + 64 * dm ≤ 84000; omega) hr K2 (fun v N hv => ?_)
  obtain ⟨rfl, rfl⟩ := hv
  exact gj_icmp_eq C (tgt := 1350) (pc' := 1235) dW_1232 rfl (by decide) (fun _ => nx _ I2) (fun h => absurd rfl h)
theorem w_35 (C : gC Γ (lwS p e s m below meth c b)) (hX : va_X b Ln xs s s.heap) (hbl : b < s.heap.size) (hbA : ¬ (s.heap.size ≤ b)) (hi : i + 6 ≤ Ln) (hLn : Ln ≤ 3072) (hr : kc ≤ 601024 ∧ ks ≤ 7293034) (I : Inv M) (nx : lwN Γ (lwS p e s m below meth c b) b i kc ks) : gR Γ (lwS p e s m below meth c b) 1237 (lwL Γ b i) [] M kc ks := by
  obtain ⟨v, M1, M2, dx, dm, h1, h2, K1, K2, I2⟩ := v_sentence Γ M I 
  unfold lwL
  refine gj_aload_n C (pc' := 1238) 2 dW_1237 rfl rfl rfl ?_
  refine gj_V C (pc' := 1241) (z := YX11_sentence) (As := []) dW_1238 rfl mlW_172 lkX11_sentence sh0 ⟨_, _, rfl⟩ rfl rfl (Nat.le_of_ble_eq_true rfl) (by show dx + 1 ≤ 2048; omega) (by show 64 + 64 * dx ≤ 84000; omega) hr K1 (fun v N hv => ?_)
  obtain ⟨rfl, rfl⟩ := hv
  refine gj_aload_n C (pc' := 1242) 3 dW_1241 rfl rfl rfl ?_
  refine gj_V C (pc' := 1245) (z := YX12_sentence) (As := []) dW_1242 rfl mlW_175 lkX12_sentence sh186 ⟨_, _, rfl⟩ rfl rfl (Nat.le_of_ble_eq_true rfl) (by show dm + 1 ≤ 2048; omega) (by show 64 + 64 * dm ≤ 84000; omega) hr K2 (fun v N hv => ?_)
  obtain ⟨rfl, rfl⟩ := hv
  exact gj_icmp_eq C (tgt := 1350) (pc' := 1248) dW_1245 rfl (by decide) (fun _ => nx _ I2) (fun h => absurd rfl h)
theorem w_36 (C : gC Γ (lwS p e s m below meth c b)) (hX : va_X b Ln xs s s.heap) (hbl : b < s.heap.size) (hbA : ¬ (s.heap.size ≤ b)) (hi : i + 6 ≤ Ln) (hLn : Ln ≤ 3072) (hr : kc ≤ 601024 ∧ ks ≤ 7293034) (I : Inv M) (nx : lwN Γ (lwS p e s m below meth c b) b i kc ks) : gR Γ (lwS p e s m below meth c b) 1250 (lwL Γ b i) [] M kc ks := by
  obtain ⟨v, M1, M2, dx, dm, h1, h2, K1, K2, I2⟩ := v_said Γ M I (xs (i + 1))
  unfold lwL
  refine gj_aload_n C (pc' := 1251) 2 dW_1250 rfl rfl rfl ?_
  refine gj_arg C hX hbl hbA 1 0 (k := 1) (pc' := 1257) dW_1251 dW_1252 dW_1254 dW_1255 dW_1256 rfl rfl (by decide) (by omega) hLn rfl ?_
  refine gj_V C (pc' := 1260) (z := YX11_said) (As := [.int (xs (i + 1))]) dW_1257 rfl mlW_176 lkX11_said sh0 ⟨_, _, rfl⟩ rfl rfl (Nat.le_of_ble_eq_true rfl) (by show dx + 1 ≤ 2048; omega) (by show 64 + 64 * dx ≤ 84000; omega) hr K1 (fun v N hv => ?_)
  obtain ⟨rfl, rfl⟩ := hv
  refine gj_aload_n C (pc' := 1261) 3 dW_1260 rfl rfl rfl ?_
  refine gj_arg C hX hbl hbA 1 0 (k := 1) (pc' := 1267) dW_1261 dW_1262 dW_1264 dW_1265 dW_1266 rfl rfl (by decide) (by omega) hLn rfl ?_
  refine gj_V C (pc' := 1270) (z := YX12_said) (As := [.int (xs (i + 1))]) dW_1267 rfl mlW_179 lkX12_said sh186 ⟨_, _, rfl⟩ rfl rfl (Nat.le_of_ble_eq_true rfl) (by show dm + 1 ≤ 2048; omega) (by show 64 + 64 * dm ≤ 84000; omega) hr K2 (fun v N hv => ?_)
  obtain ⟨rfl, rfl⟩ := hv
  exact gj_icmp_eq C (tgt := 1350) (pc' := 1273) dW_1270 rfl (by decide) (fun _ => nx _ I2) (fun h => absurd rfl h)
theorem w_37 (C : gC Γ (lwS p e s m below meth c b)) (hX : va_X b Ln xs s s.heap) (hbl : b < s.heap.size) (hbA : ¬ (s.heap.size ≤ b)) (hi : i + 6 ≤ Ln) (hLn : Ln ≤ 3072) (hr : kc ≤ 601024 ∧ ks ≤ 7293034) (I : Inv M) (nx : lwN Γ (lwS p e s m below meth c b) b i kc ks) : gR Γ (lwS p e s m below meth c b) 1275 (lwL Γ b i) [] M kc ks := by
  obtain ⟨v, M1, M2, dx, dm, h1, h2, K1, K2, I2⟩ := v_image Γ M I (xs (i + 1))
  unfold lwL
  refine gj_aload_n C (pc' := 1276) 2 dW_1275 rfl rfl rfl ?_
  refine gj_arg C hX hbl hbA 1 0 (k := 1) (pc' := 1282) dW_1276 dW_1277 dW_1279 dW_1280 dW_1281 rfl rfl (by decide) (by omega) hLn rfl ?_
  refine gj_V C (pc' := 1285) (z := YX11_image) (As := [.int (xs (i + 1))]) dW_1282 rfl mlW_180 lkX11_image sh0 ⟨_, _, rfl⟩ rfl rfl (Nat.le_of_ble_eq_true rfl) (by show dx + 1 ≤ 2048; omega) (by show 64 + 64 * dx ≤ 84000; omega) hr K1 (fun v N hv => ?_)
  obtain ⟨rfl, rfl⟩ := hv
  refine gj_aload_n C (pc' := 1286) 3 dW_1285 rfl rfl rfl ?_
  refine gj_arg C hX hbl hbA 1 0 (k := 1) (pc' := 1292) dW_1286 dW_1287 dW_1289 dW_1290 dW_1291 rfl rfl (by decide) (by omega) hLn rfl ?_
  refine gj_V C (pc' := 1295) (z := YX12_image) (As := [.int (xs (i + 1))]) dW_1292 rfl mlW_183 lkX12_image sh186 ⟨_, _, rfl⟩ rfl rfl (Nat.le_of_ble_eq_true rfl) (by show dm + 1 ≤ 2048; omega) (by show 64 + 64 * dm ≤ 84000; omega) hr K2 (fun v N hv => ?_)
  obtain ⟨rfl, rfl⟩ := hv
  exact gj_icmp_eq C (tgt := 1350) (pc' := 1298) dW_1295 rfl (by decide) (fun _ => nx _ I2) (fun h => absurd rfl h)
theorem w_38 (C : gC Γ (lwS p e s m below meth c b)) (hX : va_X b Ln xs s s.heap) (hbl : b < s.heap.size) (hbA : ¬ (s.heap.size ≤ b)) (hi : i + 6 ≤ Ln) (hLn : Ln ≤ 3072) (hr : kc ≤ 601024 ∧ ks ≤ 7293034) (I : Inv M) (nx : lwN Γ (lwS p e s m below meth c b) b i kc ks) : gR Γ (lwS p e s m below meth c b) 1300 (lwL Γ b i) [] M kc ks := by
  obtain ⟨v, M1, M2, dx, dm, h1, h2, K1, K2, I2⟩ := v_restore Γ M I (xs (i + 1))
  unfold lwL
  refine gj_aload_n C (pc' := 1301) 2 dW_1300 rfl rfl rfl ?_
  refine gj_arg C hX hbl hbA 1 0 (k := 1) (pc' := 1307) dW_1301 dW_1302 dW_1304 dW_1305 dW_1306 rfl rfl (by decide) (by omega) hLn rfl ?_
  refine gj_V C (pc' := 1310) (z := YX11_restore) (As := [.int (xs (i + 1))]) dW_1307 rfl mlW_184 lkX11_restore sh0 ⟨_, _, rfl⟩ rfl rfl (Nat.le_of_ble_eq_true rfl) (by show dx + 1 ≤ 2048; omega) (by show 64 + 64 * dx ≤ 84000; omega) hr K1 (fun v N hv => ?_)
  obtain ⟨rfl, rfl⟩ := hv
  refine gj_aload_n C (pc' := 1311) 3 dW_1310 rfl rfl rfl ?_
  refine gj_arg C hX hbl hbA 1 0 (k := 1) (pc' := 1317) dW_1311 dW_1312 dW_1314 dW_1315 dW_1316 rfl rfl (by decide) (by omega) hLn rfl ?_
  refine gj_V C (pc' := 1320) (z := YX12_restore) (As := [.int (xs (i + 1))]) dW_1317 rfl mlW_187 lkX12_restore sh186 ⟨_, _, rfl⟩ rfl rfl (Nat.le_of_ble_eq_true rfl) (by show dm + 1 ≤ 2048; omega) (by show 64 + 64 * dm ≤ 84000; omega) hr K2 (fun v N hv => ?_)
  obtain ⟨rfl, rfl⟩ := hv
  exact gj_icmp_eq C (tgt := 1350) (pc' := 1323) dW_1320 rfl (by decide) (fun _ => nx _ I2) (fun h => absurd rfl h)
theorem w_39 (C : gC Γ (lwS p e s m below meth c b)) (hX : va_X b Ln xs s s.heap) (hbl : b < s.heap.size) (hbA : ¬ (s.heap.size ≤ b)) (hi : i + 6 ≤ Ln) (hLn : Ln ≤ 3072) (hr : kc ≤ 601024 ∧ ks ≤ 7293034) (I : Inv M) (nx : lwN Γ (lwS p e s m below meth c b) b i kc ks) : gR Γ (lwS p e s m below meth c b) 1325 (lwL Γ b i) [] M kc ks := by
  obtain ⟨v, M1, M2, dx, dm, h1, h2, K1, K2, I2⟩ := v_count Γ M I (xs (i + 1))
  unfold lwL
  refine gj_aload_n C (pc' := 1326) 2 dW_1325 rfl rfl rfl ?_
  refine gj_arg C hX hbl hbA 1 0 (k := 1) (pc' := 1332) dW_1326 dW_1327 dW_1329 dW_1330 dW_1331 rfl rfl (by decide) (by omega) hLn rfl ?_
  refine gj_V C (pc' := 1335) (z := YX11_count) (As := [.int (xs (i + 1))]) dW_1332 rfl mlW_188 lkX11_count sh0 ⟨_, _, rfl⟩ rfl rfl (Nat.le_of_ble_eq_true rfl) (by show dx + 1 ≤ 2048; omega) (by show 64 + 64 * dx ≤ 84000; omega) hr K1 (fun v N hv => ?_)
  obtain ⟨rfl, rfl⟩ := hv
  refine gj_aload_n C (pc' := 1336) 3 dW_1335 rfl rfl rfl ?_
  refine gj_arg C hX hbl hbA 1 0 (k := 1) (pc' := 1342) dW_1336 dW_1337 dW_1339 dW_1340 dW_1341 rfl rfl (by decide) (by omega) hLn rfl ?_
  refine gj_V C (pc' := 1345) (z := YX12_count) (As := [.int (xs (i + 1))]) dW_1342 rfl mlW_191 lkX12_count sh186 ⟨_, _, rfl⟩ rfl rfl (Nat.le_of_ble_eq_true rfl) (by show dm + 1 ≤ 2048; omega) (by show 64 + 64 * dm ≤ 84000; omega) hr K2 (fun v N hv => ?_)
  obtain ⟨rfl, rfl⟩ := hv
  exact gj_icmp_eq C (tgt := 1350) (pc' := 1348) dW_1345 rfl (by decide) (fun _ => nx _ I2) (fun h => absurd rfl h)
end LW
