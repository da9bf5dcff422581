/-! ===== the law: the calls that may throw, and the loop ===== -/
section LW
variable {Γ : zG} {p : Program} {e : Env} {s : State} {m : MethodId} {below : List Frame} {meth : Method} {c : Code} {b Ln : Nat} {xs : Nat → Int32} {i kc ks : Nat} {M : zM}
theorem w_4 (C : gC Γ (lwS p e s m below meth c b)) (hst : Γ.1.stackTraces = false) (hX : va_X b Ln xs s s.heap) (hbl : b < s.heap.size) (hbA : ¬ (s.heap.size ≤ b)) (hi : i + 6 ≤ Ln) (hLn : Ln ≤ 3072) (hr : kc + 1 ≤ 601024 ∧ ks + 6 ≤ 7293034) (I : Inv M) (nx : lwN Γ (lwS p e s m below meth c b) b i (kc + 1) (ks + 6)) : gR Γ (lwS p e s m below meth c b) 340 (lwL Γ b i) [] M kc ks := by
  unfold lwL
  refine gj_aload_n C (pc' := 341) 2 dW_340 rfl rfl rfl ?_
  refine gj_arg C hX hbl hbA 1 0 (k := 1) (pc' := 347) dW_341 dW_342 dW_344 dW_345 dW_346 rfl rfl (by decide) (by omega) hLn rfl ?_
  refine gj_arg C hX hbl hbA 1 0 (k := 2) (pc' := 353) dW_347 dW_348 dW_350 dW_351 dW_352 rfl rfl (by decide) (by omega) hLn rfl ?_
  refine gj_aload_n C (pc' := 354) 4 dW_353 rfl rfl rfl ?_
  rcases v_person Γ hst M I (xs (i + 1)) (xs (i + 2)) with ⟨v, M1, M2, dm, hdm, K0, K1, K2, hv, I2⟩ | ⟨v, M2, dm, hdm, K0, K1, K2, I2⟩
  · refine gj_SW C (pc' := 357) (n := 4) (z := YL_person) (As := .ref (zad Γ 0) :: ([.int (xs (i + 1)), .int (xs (i + 2))] ++ [.ref (zad Γ 207)])) dW_354 rfl mlW_42 stW_person inW_law cwW_person ⟨by decide, by decide⟩ (by decide +kernel) (by decide) rfl rfl (Nat.le_of_ble_eq_true rfl) (Nat.le_of_ble_eq_true rfl) (Nat.le_of_ble_eq_true rfl) hr K0 (fun w N hw => ?_)
    obtain ⟨rfl, rfl⟩ := hw
    refine gj_istore C (pc' := 359) (L' := [(5, .int 0), (4, .int (nI i)), (0, .ref b), (1, .ref (zad Γ 0)), (2, .ref (zad Γ 186)), (3, .ref (zad Γ 207))]) dW_357 rfl (Nat.le_of_ble_eq_true rfl) rfl ?_
    refine gj_aload_n C (pc' := 360) 4 dW_359 rfl rfl rfl ?_
    refine gj_arg C hX hbl hbA 2 1 (k := 1) (pc' := 366) dW_360 dW_361 dW_363 dW_364 dW_365 rfl rfl (by decide) (by omega) hLn rfl ?_
    refine gj_arg C hX hbl hbA 2 1 (k := 2) (pc' := 372) dW_366 dW_367 dW_369 dW_370 dW_371 rfl rfl (by decide) (by omega) hLn rfl ?_
    refine gj_V C (pc' := 375) (z := YX12_person) (As := [.int (xs (i + 1)), .int (xs (i + 2))]) dW_372 rfl mlW_47 lkX12_person sh186 ⟨_, _, rfl⟩ rfl rfl (Nat.le_of_ble_eq_true rfl) (by show dm + 1 ≤ 2048; omega) (by show 64 + 64 * dm ≤ 84000; omega) hr K1 (fun w N hw => ?_)
    obtain ⟨rfl, rfl⟩ := hw
    refine gj_istore C (pc' := 377) (L' := [(6, .int v), (5, .int 0), (4, .int (nI i)), (0, .ref b), (1, .ref (zad Γ 0)), (2, .ref (zad Γ 186)), (3, .ref (zad Γ 207))]) dW_375 rfl (Nat.le_of_ble_eq_true rfl) rfl ?_
    refine gj_aload_n C (pc' := 378) 5 dW_377 rfl rfl rfl ?_
    refine gj_V C (pc' := 381) (z := YX12_thrown) (As := []) dW_378 rfl mlW_48 lkX12_thrown sh186 ⟨_, _, rfl⟩ rfl rfl (Nat.le_of_ble_eq_true rfl) (Nat.le_of_ble_eq_true rfl) (Nat.le_of_ble_eq_true rfl) hr K2 (fun w N hw => ?_)
    obtain ⟨rfl, rfl⟩ := hw
    refine gj_iload C (pc' := 383) 1 dW_381 rfl rfl ?_
    refine gj_icmp_eq C (tgt := 388) (pc' := 386) dW_383 rfl (by decide) (fun _ => ?_) (fun h => absurd rfl h)
    refine gj_iload C (pc' := 390) 1 dW_388 rfl rfl ?_
    refine gj_if_ne C (tgt := 405) (pc' := 393) dW_390 rfl (by decide) (fun h => absurd rfl h) (fun _ => ?_)
    refine gj_aload_n C (pc' := 394) 6 dW_393 rfl rfl rfl ?_
    refine gj_iconst C (pc' := 395) (v := 0) dW_394 rfl (by decide) ?_
    refine gj_lald C (pc' := 396) (i := 207) (n := 1) dW_395 rfl sh207 (zin_in (by decide)) ?_
    rw [show (0 : Int32).toNatClampNeg = 0 from rfl, hv]
    refine gj_iload C (pc' := 398) 0 dW_396 rfl rfl ?_
    refine gj_i2l C (pc' := 399) dW_398 rfl ?_
    refine gj_lcmp C (pc' := 400) dW_399 rfl ?_
    refine gj_if_eq C (tgt := 405) (pc' := 403) dW_400 rfl (by decide) (fun _ => ?_) (fun h => absurd (lg_cmp0.mpr rfl) h)
    refine gj_goto C (tgt := 1350) dW_405 (by decide) ?_
    refine gj_loc C [2, 3, 4, 5, 6] rfl ?_
    exact nx _ I2
  · refine gj_SW C (pc' := 357) (n := 4) (z := YL_person) (As := .ref (zad Γ 0) :: ([.int (xs (i + 1)), .int (xs (i + 2))] ++ [.ref (zad Γ 207)])) dW_354 rfl mlW_42 stW_person inW_law cwW_person ⟨by decide, by decide⟩ (by decide +kernel) (by decide) rfl rfl (Nat.le_of_ble_eq_true rfl) (Nat.le_of_ble_eq_true rfl) (Nat.le_of_ble_eq_true rfl) hr K0 (fun w N hw => ?_)
    obtain ⟨rfl, rfl⟩ := hw
    refine gj_istore C (pc' := 359) (L' := [(5, .int 1), (4, .int (nI i)), (0, .ref b), (1, .ref (zad Γ 0)), (2, .ref (zad Γ 186)), (3, .ref (zad Γ 207))]) dW_357 rfl (Nat.le_of_ble_eq_true rfl) rfl ?_
    refine gj_aload_n C (pc' := 360) 4 dW_359 rfl rfl rfl ?_
    refine gj_arg C hX hbl hbA 2 1 (k := 1) (pc' := 366) dW_360 dW_361 dW_363 dW_364 dW_365 rfl rfl (by decide) (by omega) hLn rfl ?_
    refine gj_arg C hX hbl hbA 2 1 (k := 2) (pc' := 372) dW_366 dW_367 dW_369 dW_370 dW_371 rfl rfl (by decide) (by omega) hLn rfl ?_
    refine gj_V C (pc' := 375) (z := YX12_person) (As := [.int (xs (i + 1)), .int (xs (i + 2))]) dW_372 rfl mlW_47 lkX12_person sh186 ⟨_, _, rfl⟩ rfl rfl (Nat.le_of_ble_eq_true rfl) (by show dm + 1 ≤ 2048; omega) (by show 64 + 64 * dm ≤ 84000; omega) hr K1 (fun w N hw => ?_)
    obtain ⟨rfl, rfl⟩ := hw
    refine gj_istore C (pc' := 377) (L' := [(6, .int v), (5, .int 1), (4, .int (nI i)), (0, .ref b), (1, .ref (zad Γ 0)), (2, .ref (zad Γ 186)), (3, .ref (zad Γ 207))]) dW_375 rfl (Nat.le_of_ble_eq_true rfl) rfl ?_
    refine gj_aload_n C (pc' := 378) 5 dW_377 rfl rfl rfl ?_
    refine gj_V C (pc' := 381) (z := YX12_thrown) (As := []) dW_378 rfl mlW_48 lkX12_thrown sh186 ⟨_, _, rfl⟩ rfl rfl (Nat.le_of_ble_eq_true rfl) (Nat.le_of_ble_eq_true rfl) (Nat.le_of_ble_eq_true rfl) hr K2 (fun w N hw => ?_)
    obtain ⟨rfl, rfl⟩ := hw
    refine gj_iload C (pc' := 383) 1 dW_381 rfl rfl ?_
    refine gj_icmp_eq C (tgt := 388) (pc' := 386) dW_383 rfl (by decide) (fun _ => ?_) (fun h => absurd rfl h)
    refine gj_iload C (pc' := 390) 1 dW_388 rfl rfl ?_
    refine gj_if_ne C (tgt := 405) (pc' := 393) dW_390 rfl (by decide) (fun _ => ?_) (fun h => absurd h (by decide))
    refine gj_goto C (tgt := 1350) dW_405 (by decide) ?_
    refine gj_loc C [2, 3, 4, 5, 6] rfl ?_
    exact nx _ I2
theorem w_28 (C : gC Γ (lwS p e s m below meth c b)) (hst : Γ.1.stackTraces = false) (hX : va_X b Ln xs s s.heap) (hbl : b < s.heap.size) (hbA : ¬ (s.heap.size ≤ b)) (hi : i + 6 ≤ Ln) (hLn : Ln ≤ 3072) (hr : kc + 1 ≤ 601024 ∧ ks + 6 ≤ 7293034) (I : Inv M) (nx : lwN Γ (lwS p e s m below meth c b) b i (kc + 1) (ks + 6)) : gR Γ (lwS p e s m below meth c b) 995 (lwL Γ b i) [] M kc ks := by
  unfold lwL
  refine gj_aload_n C (pc' := 996) 2 dW_995 rfl rfl rfl ?_
  refine gj_arg C hX hbl hbA 1 0 (k := 1) (pc' := 1002) dW_996 dW_997 dW_999 dW_1000 dW_1001 rfl rfl (by decide) (by omega) hLn rfl ?_
  refine gj_aload_n C (pc' := 1003) 4 dW_1002 rfl rfl rfl ?_
  rcases v_mean Γ hst M I (xs (i + 1)) with ⟨v, M1, M2, dm, hdm, K0, K1, K2, hv, I2⟩ | ⟨v, M2, dm, hdm, K0, K1, K2, I2⟩
  · refine gj_SW C (pc' := 1006) (n := 3) (z := YL_mean) (As := .ref (zad Γ 0) :: ([.int (xs (i + 1))] ++ [.ref (zad Γ 207)])) dW_1003 rfl mlW_144 stW_mean inW_law cwW_mean ⟨by decide, by decide⟩ (by decide +kernel) (by decide) rfl rfl (Nat.le_of_ble_eq_true rfl) (Nat.le_of_ble_eq_true rfl) (Nat.le_of_ble_eq_true rfl) hr K0 (fun w N hw => ?_)
    obtain ⟨rfl, rfl⟩ := hw
    refine gj_istore C (pc' := 1008) (L' := [(5, .int 0), (4, .int (nI i)), (0, .ref b), (1, .ref (zad Γ 0)), (2, .ref (zad Γ 186)), (3, .ref (zad Γ 207))]) dW_1006 rfl (Nat.le_of_ble_eq_true rfl) rfl ?_
    refine gj_aload_n C (pc' := 1009) 4 dW_1008 rfl rfl rfl ?_
    refine gj_arg C hX hbl hbA 2 1 (k := 1) (pc' := 1015) dW_1009 dW_1010 dW_1012 dW_1013 dW_1014 rfl rfl (by decide) (by omega) hLn rfl ?_
    refine gj_V C (pc' := 1018) (z := YX12_mean) (As := [.int (xs (i + 1))]) dW_1015 rfl mlW_147 lkX12_mean sh186 ⟨_, _, rfl⟩ rfl rfl (Nat.le_of_ble_eq_true rfl) (by show dm + 1 ≤ 2048; omega) (by show 64 + 64 * dm ≤ 84000; omega) hr K1 (fun w N hw => ?_)
    obtain ⟨rfl, rfl⟩ := hw
    refine gj_istore C (pc' := 1020) (L' := [(6, .int v), (5, .int 0), (4, .int (nI i)), (0, .ref b), (1, .ref (zad Γ 0)), (2, .ref (zad Γ 186)), (3, .ref (zad Γ 207))]) dW_1018 rfl (Nat.le_of_ble_eq_true rfl) rfl ?_
    refine gj_aload_n C (pc' := 1021) 5 dW_1020 rfl rfl rfl ?_
    refine gj_V C (pc' := 1024) (z := YX12_thrown) (As := []) dW_1021 rfl mlW_48 lkX12_thrown sh186 ⟨_, _, rfl⟩ rfl rfl (Nat.le_of_ble_eq_true rfl) (Nat.le_of_ble_eq_true rfl) (Nat.le_of_ble_eq_true rfl) hr K2 (fun w N hw => ?_)
    obtain ⟨rfl, rfl⟩ := hw
    refine gj_iload C (pc' := 1026) 1 dW_1024 rfl rfl ?_
    refine gj_icmp_eq C (tgt := 1031) (pc' := 1029) dW_1026 rfl (by decide) (fun _ => ?_) (fun h => absurd rfl h)
    refine gj_iload C (pc' := 1033) 1 dW_1031 rfl rfl ?_
    refine gj_if_ne C (tgt := 1048) (pc' := 1036) dW_1033 rfl (by decide) (fun h => absurd rfl h) (fun _ => ?_)
    refine gj_aload_n C (pc' := 1037) 6 dW_1036 rfl rfl rfl ?_
    refine gj_iconst C (pc' := 1038) (v := 0) dW_1037 rfl (by decide) ?_
    refine gj_lald C (pc' := 1039) (i := 207) (n := 1) dW_1038 rfl sh207 (zin_in (by decide)) ?_
    rw [show (0 : Int32).toNatClampNeg = 0 from rfl, hv]
    refine gj_iload C (pc' := 1041) 0 dW_1039 rfl rfl ?_
    refine gj_i2l C (pc' := 1042) dW_1041 rfl ?_
    refine gj_lcmp C (pc' := 1043) dW_1042 rfl ?_
    refine gj_if_eq C (tgt := 1048) (pc' := 1046) dW_1043 rfl (by decide) (fun _ => ?_) (fun h => absurd (lg_cmp0.mpr rfl) h)
    refine gj_goto C (tgt := 1350) dW_1048 (by decide) ?_
    refine gj_loc C [2, 3, 4, 5, 6] rfl ?_
    exact nx _ I2
  · refine gj_SW C (pc' := 1006) (n := 3) (z := YL_mean) (As := .ref (zad Γ 0) :: ([.int (xs (i + 1))] ++ [.ref (zad Γ 207)])) dW_1003 rfl mlW_144 stW_mean inW_law cwW_mean ⟨by decide, by decide⟩ (by decide +kernel) (by decide) rfl rfl (Nat.le_of_ble_eq_true rfl) (Nat.le_of_ble_eq_true rfl) (Nat.le_of_ble_eq_true rfl) hr K0 (fun w N hw => ?_)
    obtain ⟨rfl, rfl⟩ := hw
    refine gj_istore C (pc' := 1008) (L' := [(5, .int 1), (4, .int (nI i)), (0, .ref b), (1, .ref (zad Γ 0)), (2, .ref (zad Γ 186)), (3, .ref (zad Γ 207))]) dW_1006 rfl (Nat.le_of_ble_eq_true rfl) rfl ?_
    refine gj_aload_n C (pc' := 1009) 4 dW_1008 rfl rfl rfl ?_
    refine gj_arg C hX hbl hbA 2 1 (k := 1) (pc' := 1015) dW_1009 dW_1010 dW_1012 dW_1013 dW_1014 rfl rfl (by decide) (by omega) hLn rfl ?_
    refine gj_V C (pc' := 1018) (z := YX12_mean) (As := [.int (xs (i + 1))]) dW_1015 rfl mlW_147 lkX12_mean sh186 ⟨_, _, rfl⟩ rfl rfl (Nat.le_of_ble_eq_true rfl) (by show dm + 1 ≤ 2048; omega) (by show 64 + 64 * dm ≤ 84000; omega) hr K1 (fun w N hw => ?_)
    obtain ⟨rfl, rfl⟩ := hw
    refine gj_istore C (pc' := 1020) (L' := [(6, .int v), (5, .int 1), (4, .int (nI i)), (0, .ref b), (1, .ref (zad Γ 0)), (2, .ref (zad Γ 186)), (3, .ref (zad Γ 207))]) dW_1018 rfl (Nat.le_of_ble_eq_true rfl) rfl ?_
    refine gj_aload_n C (pc' := 1021) 5 dW_1020 rfl rfl rfl ?_
    refine gj_V C (pc' := 1024) (z := YX12_thrown) (As := []) dW_1021 rfl mlW_48 lkX12_thrown sh186 ⟨_, _, rfl⟩ rfl rfl (Nat.le_of_ble_eq_true rfl) (Nat.le_of_ble_eq_true rfl) (Nat.le_of_ble_eq_true rfl) hr K2 (fun w N hw => ?_)
    obtain ⟨rfl, rfl⟩ := hw
    refine gj_iload C (pc' := 1026) 1 dW_1024 rfl rfl ?_
    refine gj_icmp_eq C (tgt := 1031) (pc' := 1029) dW_1026 rfl (by decide) (fun _ => ?_) (fun h => absurd rfl h)
    refine gj_iload C (pc' := 1033) 1 dW_1031 rfl rfl ?_
    refine gj_if_ne C (tgt := 1048) (pc' := 1036) dW_1033 rfl (by decide) (fun _ => ?_) (fun h => absurd h (by decide))
    refine gj_goto C (tgt := 1350) dW_1048 (by decide) ?_
    refine gj_loc C [2, 3, 4, 5, 6] rfl ?_
    exact nx _ I2
theorem z_and63 (y : Int32) : ∃ k, k < 64 ∧ y &&& 63 = nI k := by
  refine ⟨(y.toBitVec &&& 63#32).toNat, ?_, ?_⟩
  · rw [BitVec.toNat_and]
    exact Nat.lt_of_le_of_lt Nat.and_le_right (by decide)
  · apply Int32.toBitVec_inj.mp
    rw [Int32.toBitVec_and]
    show y.toBitVec &&& 63#32 = BitVec.ofNat 32 (y.toBitVec &&& 63#32).toNat
    rw [BitVec.ofNat_toNat, BitVec.setWidth_eq]
theorem z_l6 : ∀ k, k < 6 → nI k - 6 < 0 := by decide
/-- one turn of the loop: the switch -/
theorem w_sw (C : gC Γ (lwS p e s m below meth c b)) (hst : Γ.1.stackTraces = false) (hX : va_X b Ln xs s s.heap) (hbl : b < s.heap.size) (hbA : ¬ (s.heap.size ≤ b)) (hi : i + 6 ≤ Ln) (hLn : Ln ≤ 3072) (hr : kc + 1 ≤ 601024 ∧ ks + 6 ≤ 7293034) (I : Inv M) (nx : lwN Γ (lwS p e s m below meth c b) b i kc ks) (nx' : lwN Γ (lwS p e s m below meth c b) b i (kc + 1) (ks + 6)) {j : Nat} (hj : j < 64) : gR Γ (lwS p e s m below meth c b) 40 (lwL Γ b i) [.int (nI j)] M kc ks := by
  have hr' : kc ≤ 601024 ∧ ks ≤ 7293034 := ⟨by omega, by omega⟩
  by_cases h40 : 40 ≤ j
  · exact gj_tsOut C (tgt := 1350) dW_40 (Or.inr (by rw [nI_toInt (by omega)]; omega)) (by decide) (nx _ I)
  · match j, h40 with
    | 0, _ => exact gj_tsIn C (v := 0) (tgt := 216) dW_40 rfl (by decide) (by decide) (off := 176) (by decide) (by decide) (w_0 C hX hbl hbA hi hLn hr' I nx)
    | 1, _ => exact gj_tsIn C (v := 1) (tgt := 289) dW_40 rfl (by decide) (by decide) (off := 249) (by decide) (by decide) (w_1 C hX hbl hbA hi hLn hr' I nx)
    | 2, _ => exact gj_tsIn C (v := 2) (tgt := 314) dW_40 rfl (by decide) (by decide) (off := 274) (by decide) (by decide) (w_2 C hX hbl hbA hi hLn hr' I nx)
    | 3, _ => exact gj_tsIn C (v := 3) (tgt := 327) dW_40 rfl (by decide) (by decide) (off := 287) (by decide) (by decide) (w_3 C hX hbl hbA hi hLn hr' I nx)
    | 4, _ => exact gj_tsIn C (v := 4) (tgt := 340) dW_40 rfl (by decide) (by decide) (off := 300) (by decide) (by decide) (w_4 C hst hX hbl hbA hi hLn hr I nx')
    | 5, _ => exact gj_tsIn C (v := 5) (tgt := 408) dW_40 rfl (by decide) (by decide) (off := 368) (by decide) (by decide) (w_5 C hX hbl hbA hi hLn hr' I nx)
    | 6, _ => exact gj_tsIn C (v := 6) (tgt := 445) dW_40 rfl (by decide) (by decide) (off := 405) (by decide) (by decide) (w_6 C hX hbl hbA hi hLn hr' I nx)
    | 7, _ => exact gj_tsIn C (v := 7) (tgt := 482) dW_40 rfl (by decide) (by decide) (off := 442) (by decide) (by decide) (w_7 C hX hbl hbA hi hLn hr' I nx)
    | 8, _ => exact gj_tsIn C (v := 8) (tgt := 507) dW_40 rfl (by decide) (by decide) (off := 467) (by decide) (by decide) (w_8 C hX hbl hbA hi hLn hr' I nx)
    | 9, _ => exact gj_tsIn C (v := 9) (tgt := 544) dW_40 rfl (by decide) (by decide) (off := 504) (by decide) (by decide) (w_9 C hX hbl hbA hi hLn hr' I nx)
    | 10, _ => exact gj_tsIn C (v := 10) (tgt := 569) dW_40 rfl (by decide) (by decide) (off := 529) (by decide) (by decide) (w_10 C hX hbl hbA hi hLn hr' I nx)
    | 11, _ => exact gj_tsIn C (v := 11) (tgt := 594) dW_40 rfl (by decide) (by decide) (off := 554) (by decide) (by decide) (w_11 C hX hbl hbA hi hLn hr' I nx)
    | 12, _ => exact gj_tsIn C (v := 12) (tgt := 643) dW_40 rfl (by decide) (by decide) (off := 603) (by decide) (by decide) (w_12 C hX hbl hbA hi hLn hr' I nx)
    | 13, _ => exact gj_tsIn C (v := 13) (tgt := 668) dW_40 rfl (by decide) (by decide) (off := 628) (by decide) (by decide) (w_13 C hX hbl hbA hi hLn hr' I nx)
    | 14, _ => exact gj_tsIn C (v := 14) (tgt := 681) dW_40 rfl (by decide) (by decide) (off := 641) (by decide) (by decide) (w_14 C hX hbl hbA hi hLn hr' I nx)
    | 15, _ => exact gj_tsIn C (v := 15) (tgt := 706) dW_40 rfl (by decide) (by decide) (off := 666) (by decide) (by decide) (w_15 C hX hbl hbA hi hLn hr' I nx)
    | 16, _ => exact gj_tsIn C (v := 16) (tgt := 719) dW_40 rfl (by decide) (by decide) (off := 679) (by decide) (by decide) (w_16 C hX hbl hbA hi hLn hr' I nx)
    | 17, _ => exact gj_tsIn C (v := 17) (tgt := 732) dW_40 rfl (by decide) (by decide) (off := 692) (by decide) (by decide) (w_17 C hX hbl hbA hi hLn hr' I nx)
    | 18, _ => exact gj_tsIn C (v := 18) (tgt := 769) dW_40 rfl (by decide) (by decide) (off := 729) (by decide) (by decide) (w_18 C hX hbl hbA hi hLn hr' I nx)
    | 19, _ => exact gj_tsIn C (v := 19) (tgt := 806) dW_40 rfl (by decide) (by decide) (off := 766) (by decide) (by decide) (w_19 C hX hbl hbA hi hLn hr' I nx)
    | 20, _ => exact gj_tsIn C (v := 20) (tgt := 819) dW_40 rfl (by decide) (by decide) (off := 779) (by decide) (by decide) (w_20 C hX hbl hbA hi hLn hr' I nx)
    | 21, _ => exact gj_tsIn C (v := 21) (tgt := 832) dW_40 rfl (by decide) (by decide) (off := 792) (by decide) (by decide) (w_21 C hX hbl hbA hi hLn hr' I nx)
    | 22, _ => exact gj_tsIn C (v := 22) (tgt := 869) dW_40 rfl (by decide) (by decide) (off := 829) (by decide) (by decide) (w_22 C hX hbl hbA hi hLn hr' I nx)
    | 23, _ => exact gj_tsIn C (v := 23) (tgt := 894) dW_40 rfl (by decide) (by decide) (off := 854) (by decide) (by decide) (w_23 C hX hbl hbA hi hLn hr' I nx)
    | 24, _ => exact gj_tsIn C (v := 24) (tgt := 931) dW_40 rfl (by decide) (by decide) (off := 891) (by decide) (by decide) (w_24 C hX hbl hbA hi hLn hr' I nx)
    | 25, _ => exact gj_tsIn C (v := 25) (tgt := 944) dW_40 rfl (by decide) (by decide) (off := 904) (by decide) (by decide) (w_25 C hX hbl hbA hi hLn hr' I nx)
    | 26, _ => exact gj_tsIn C (v := 26) (tgt := 957) dW_40 rfl (by decide) (by decide) (off := 917) (by decide) (by decide) (w_26 C hX hbl hbA hi hLn hr' I nx)
    | 27, _ => exact gj_tsIn C (v := 27) (tgt := 970) dW_40 rfl (by decide) (by decide) (off := 930) (by decide) (by decide) (w_27 C hX hbl hbA hi hLn hr' I nx)
    | 28, _ => exact gj_tsIn C (v := 28) (tgt := 995) dW_40 rfl (by decide) (by decide) (off := 955) (by decide) (by decide) (w_28 C hst hX hbl hbA hi hLn hr I nx')
    | 29, _ => exact gj_tsIn C (v := 29) (tgt := 1051) dW_40 rfl (by decide) (by decide) (off := 1011) (by decide) (by decide) (w_29 C hX hbl hbA hi hLn hr' I nx)
    | 30, _ => exact gj_tsIn C (v := 30) (tgt := 1076) dW_40 rfl (by decide) (by decide) (off := 1036) (by decide) (by decide) (w_30 C hX hbl hbA hi hLn hr' I nx)
    | 31, _ => exact gj_tsIn C (v := 31) (tgt := 1101) dW_40 rfl (by decide) (by decide) (off := 1061) (by decide) (by decide) (w_31 C hX hbl hbA hi hLn hr' I nx)
    | 32, _ => exact gj_tsIn C (v := 32) (tgt := 1138) dW_40 rfl (by decide) (by decide) (off := 1098) (by decide) (by decide) (w_32 C hX hbl hbA hi hLn hr' I nx)
    | 33, _ => exact gj_tsIn C (v := 33) (tgt := 1187) dW_40 rfl (by decide) (by decide) (off := 1147) (by decide) (by decide) (w_33 C hX hbl hbA hi hLn hr' I nx)
    | 34, _ => exact gj_tsIn C (v := 34) (tgt := 1212) dW_40 rfl (by decide) (by decide) (off := 1172) (by decide) (by decide) (w_34 C hX hbl hbA hi hLn hr' I nx)
    | 35, _ => exact gj_tsIn C (v := 35) (tgt := 1237) dW_40 rfl (by decide) (by decide) (off := 1197) (by decide) (by decide) (w_35 C hX hbl hbA hi hLn hr' I nx)
    | 36, _ => exact gj_tsIn C (v := 36) (tgt := 1250) dW_40 rfl (by decide) (by decide) (off := 1210) (by decide) (by decide) (w_36 C hX hbl hbA hi hLn hr' I nx)
    | 37, _ => exact gj_tsIn C (v := 37) (tgt := 1275) dW_40 rfl (by decide) (by decide) (off := 1235) (by decide) (by decide) (w_37 C hX hbl hbA hi hLn hr' I nx)
    | 38, _ => exact gj_tsIn C (v := 38) (tgt := 1300) dW_40 rfl (by decide) (by decide) (off := 1260) (by decide) (by decide) (w_38 C hX hbl hbA hi hLn hr' I nx)
    | 39, _ => exact gj_tsIn C (v := 39) (tgt := 1325) dW_40 rfl (by decide) (by decide) (off := 1285) (by decide) (by decide) (w_39 C hX hbl hbA hi hLn hr' I nx)
    | k + 40, h => exact absurd (by omega) h
theorem law_loop (C : gC Γ (lwS p e s m below meth c b)) (hst : Γ.1.stackTraces = false) (hlocks : meth.locks = false) (hret : meth.sig.returnType = ret) (hX : va_X b Ln xs s s.heap) (hbl : b < s.heap.size) (hbA : ¬ (s.heap.size ≤ b)) (hLn : Ln ≤ 3072) : ∀ (f i kc ks : Nat) (M : zM), Ln + 6 < i + 6 * f → i ≤ Ln + 6 → kc ≤ 300 + i → ks ≤ 10000 + i → Inv M → gR Γ (lwS p e s m below meth c b) 23 (lwL Γ b i) [] M kc ks := by
  intro f
  induction f with
  | zero => intro i kc ks M h1 h2 h3 h4 I; exfalso; omega
  | succ f ih =>
    intro i kc ks M h1 h2 h3 h4 I
    have nxt : ∀ kc' ks', kc' ≤ 300 + (i + 6) → ks' ≤ 10000 + (i + 6) → i ≤ Ln → lwN Γ (lwS p e s m below meth c b) b i kc' ks' := fun kc' ks' g1 g2 g3 N hN => by
      unfold lwL
      refine gj_iinc C (pc' := 1353) (L' := [(4, .int (nI i + Int32.ofInt 6)), (0, .ref b), (1, .ref (zad Γ 0)), (2, .ref (zad Γ 186)), (3, .ref (zad Γ 207))]) 0 dW_1350 rfl rfl (Nat.le_of_ble_eq_true rfl) rfl ?_
      rw [show Int32.ofInt 6 = nI 6 from rfl, nI_add]
      refine gj_goto C (tgt := 23) dW_1353 (by decide) ?_
      exact ih (i + 6) kc' ks' N (by omega) (by omega) (by omega) (by omega) hN
    unfold lwL
    refine gj_iload C (pc' := 25) 0 dW_23 rfl rfl ?_
    refine gj_aload_n C (pc' := 26) 1 dW_25 rfl rfl rfl ?_
    refine gj_slen C hX hbl hbA (pc' := 27) dW_26 rfl ?_
    refine gj_bipush C (pc' := 29) (v := 6) dW_27 rfl (by decide) ?_
    refine gj_isub C (pc' := 30) dW_29 rfl ?_
    refine gj_icmp_gt C (tgt := 1356) (pc' := 33) dW_30 rfl (by decide) (fun _ => ?_) (fun hn => ?_)
    · intro H locs ls hW hl
      refine lv_iconst C.1 C.2.1 dW_1356 (v := 1) (by decide) ?_
      refine va_forget (fun q hq => hW.2.2.2.2 q hq) ?_
      exact W.widen (k := 601024) (n := 7293034) (by omega) (by omega) (lw_ret C.1 C.2.1 hret hlocks dW_1357)
    · have hi : i + 6 ≤ Ln := by
        refine Nat.le_of_not_lt (fun hlt => hn ?_)
        by_cases h6 : Ln < 6
        · exact Int32.lt_of_lt_of_le (z_l6 Ln h6) (nI_pos' (by omega))
        · rw [show nI Ln - 6 = nI (Ln - 6) from nI_sub (b := 6) (by omega)]
          exact nI_lt (by omega) (by omega)
      refine gj_aload_n C (pc' := 34) 1 dW_33 rfl rfl rfl ?_
      refine gj_iload C (pc' := 36) 0 dW_34 rfl rfl ?_
      refine gj_sld C hX hbl hbA (pc' := 37) (zin_in (by unfold zin; rw [nI_clamp (by omega), decide_eq_true (nI_pos' (by omega)), decide_eq_true (show i < Ln by omega)]; rfl)) dW_36 rfl ?_
      refine gj_bipush C (pc' := 39) (v := 63) dW_37 rfl (by decide) ?_
      refine gj_iand C (pc' := 40) dW_39 rfl ?_
      obtain ⟨j, hj, ej⟩ := z_and63 (xs (nI i).toNatClampNeg)
      rw [ej]
      exact w_sw C hst hX hbl hbA hi hLn ⟨by omega, by omega⟩ I (nxt kc ks (by omega) (by omega) (by omega)) (nxt (kc + 1) (ks + 6) (by omega) (by omega) (by omega)) hj
end LW
