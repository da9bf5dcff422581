noncomputable def fTp_hasRoom (r0 : Nat → Int32) (a1 : Int32) : Bool :=
  (if 940 < ((r0 1) + a1) then false else true)

set_option maxRecDepth 20000 in
theorem TX10_hasRoom_1 (Γ : zG) {Q : Option Value → zM → Prop} (M : zM) (r0 : Nat → Int32) (e_i1 : M.1 1 = r0) (a1 : Int32) {res : Bool} (hy : (fTp_hasRoom r0 a1) = res) (hq : Q (some (.int (zb res))) M) : zR Γ 1 YX10_hasRoom 0 [(0, .ref (zad Γ 1)), (1, .int a1)] [] M Q := by
  unfold fTp_hasRoom at hy
  refine zj_aload_n (pc' := 1) 0 dX10_hasRoom_0 rfl rfl rfl ?_
  refine zj_fI (pc' := 4) dX10_hasRoom_1 rfl flX10_15 sh1 rfl e_i1 rfl ?_
  refine zj_iload_n (pc' := 5) 1 dX10_hasRoom_4 rfl rfl rfl ?_
  refine zj_iadd (pc' := 6) dX10_hasRoom_5 rfl ?_
  refine zj_sipush (pc' := 9) dX10_hasRoom_6 rfl ksipush_940 ?_
  have HJ1 : zR Γ 1 YX10_hasRoom 17 [(0, .ref (zad Γ 1)), (1, .int a1)] [.int (zb (if 940 < ((r0 1) + a1) then false else true))] M Q := by
    subst hy
    exact zj_bret (b := (if 940 < ((r0 1) + a1) then false else true)) dX10_hasRoom_17 rfl hq
  refine zj_icmp_gt (tgt := 16) (pc' := 12) dX10_hasRoom_9 rfl (by decide) (fun c2 => ?_) (fun c2 => ?_)
  · refine zj_iconst (pc' := 17) dX10_hasRoom_16 rfl kiconst_0 ?_
    exact zj_eqb (b := false) (if_pos c2) HJ1
  · refine zj_iconst (pc' := 13) dX10_hasRoom_12 rfl kiconst_1 ?_
    refine zj_goto (tgt := 17) dX10_hasRoom_13 (by decide) ?_
    exact zj_eqb (b := true) (if_neg c2) HJ1
set_option maxRecDepth 20000 in
theorem LX10_hasRoom_1 (Γ : zG) (M : zM) (r0 : Nat → Int32) (e_i1 : M.1 1 = r0) (a1 : Int32) {res : Bool} (hy : (fTp_hasRoom r0 a1) = res) : zK Γ 1 YX10_hasRoom [.ref (zad Γ 1), .int a1] M (fun v N => v = some (.int (zb res)) ∧ N = M) :=
  zK_of (by decide) (Nat.le_of_ble_eq_true rfl) (TX10_hasRoom_1 Γ M r0 e_i1 a1 hy ⟨rfl, rfl⟩)

noncomputable def fTp_addNumber_L3 (a1 : Int32) (r0v1 : Nat → Int32) (r0_0v2 : Nat → Int32) (x3 : Int32) : Option (((Nat → Int32) × (Nat → Int32) × Int32) ⊕ ((Nat → Int32) × (Nat → Int32))) :=
  (if x3 < 0 then
  some (.inr (r0v1, r0_0v2))
  else
  (if 940 ≤ (r0v1 1) then
  zlet (x3 + (-8)) (fun (x13 : Int32) =>
  some (.inl (r0v1, r0_0v2, x13)))
  else
  (zwr r0_0v2 940 (r0v1 1) (((Int32.toUInt32 a1 >>> (Int32.toUInt32 x3 &&& Int32.toUInt32 31)).toInt32) &&& 255)).bind (fun (r0_0v14 : Nat → Int32) =>
  zlet (zup r0v1 1 ((r0v1 1) + 1)) (fun (r0v15 : Nat → Int32) =>
  zlet (x3 + (-8)) (fun (x16 : Int32) =>
  some (.inl (r0v15, r0_0v14, x16)))))))
noncomputable def fTp_addNumber (r0 : Nat → Int32) (r0_0 : Nat → Int32) (a1 : Int32) : Option ((Nat → Int32) × (Nat → Int32)) :=
  (zLP (fun s => fTp_addNumber_L3 a1 s.1 s.2.1 s.2.2) (r0, r0_0, 24)).bind (fun r6 =>
  some (r6.1, r6.2))

set_option maxRecDepth 20000 in
theorem TX10_addNumber_1 (Γ : zG) {Q : Option Value → zM → Prop} (M : zM) (r0 : Nat → Int32) (r0_0 : Nat → Int32) (e_i1 : M.1 1 = r0) (e_i2 : M.1 2 = r0_0) (a1 : Int32) {res : (Nat → Int32) × (Nat → Int32)} (hy : (fTp_addNumber r0 r0_0 a1) = some res) (hq : Q none (zui (zui M 1 res.1) 2 res.2)) : zR Γ 1 YX10_addNumber 0 [(0, .ref (zad Γ 1)), (1, .int a1)] [] M Q := by
  unfold fTp_addNumber at hy
  refine zj_bipush (pc' := 2) dX10_addNumber_0 rfl kbipush_24 ?_
  refine zj_istore_n (pc' := 3) (L' := [(2, .int 24), (0, .ref (zad Γ 1)), (1, .int a1)]) dX10_addNumber_2 rfl rfl (by decide) rfl ?_
  refine zj_loc [1, 2, 0] rfl ?_
  refine zj_mem (N := (zui M 1 r0)) (zself_i e_i1 rfl) ?_
  refine zj_mem (N := (zui (zui M 1 r0) 2 r0_0)) (zself_i (zr_n rfl e_i2) rfl) ?_
  obtain ⟨r6, hr9, hyo7⟩ := zt_b hy
  obtain ⟨n9, hn9⟩ := zLP_some hr9
  have HE4 : ∀ (r0v17 : Nat → Int32) (r0_0v18 : Nat → Int32), r6 = (r0v17, r0_0v18) → zR Γ 1 YX10_addNumber 49 [] [] (zui (zui M 1 r0v17) 2 r0_0v18) Q := by
    intro r0v17 r0_0v18 e9
    have hy := hyo7
    try rw [e9] at hy
    try dsimp only at hy
    have e9 := Option.some.inj hy
    subst e9
    exact zj_vret dX10_addNumber_49 rfl hq
  have HL5 : ∀ (n : Nat) (r0v1 : Nat → Int32) (r0_0v2 : Nat → Int32) (x3 : Int32), zlp (fun s => fTp_addNumber_L3 a1 s.1 s.2.1 s.2.2) n (r0v1, r0_0v2, x3) = some r6 → zR Γ 1 YX10_addNumber 3 [(0, .ref (zad Γ 1)), (1, .int a1), (2, .int x3)] [] (zui (zui M 1 r0v1) 2 r0_0v2) Q := by
    intro n
    induction n with
    | zero => intro r0v1 r0_0v2 x3 hn9; cases hn9
    | succ n ih8 =>
      intro r0v1 r0_0v2 x3 hn9
      obtain ⟨o9, hb9, h9, h10⟩ := zlp_step hn9
      have hy : fTp_addNumber_L3 a1 r0v1 r0_0v2 x3 = some o9 := hb9
      unfold fTp_addNumber_L3 at hy
      refine zj_iload_n (pc' := 4) 2 dX10_addNumber_3 rfl rfl rfl ?_
      refine zj_if_lt (tgt := 49) (pc' := 7) dX10_addNumber_4 rfl (by decide) (fun c11 => ?_) (fun c11 => ?_)
      · have hy := zt_t hy c11
        have e9 := h10 _ (Option.some.inj hy).symm
        refine zj_loc [] rfl ?_
        exact HE4 _ _ e9.symm
      · have hy := zt_f hy c11
        refine zj_aload_n (pc' := 8) 0 dX10_addNumber_7 rfl rfl rfl ?_
        refine zj_fI (pc' := 11) dX10_addNumber_8 rfl flX10_15 sh1 rfl (zr_n rfl zr_s) rfl ?_
        refine zj_sipush (pc' := 14) dX10_addNumber_11 rfl ksipush_940 ?_
        refine zj_icmp_ge (tgt := 43) (pc' := 17) dX10_addNumber_14 rfl (by decide) (fun c12 => ?_) (fun c12 => ?_)
        · have hy := zt_t hy c12
          obtain ⟨x13, ex13⟩ : ∃ z : Int32, z = (x3 + (-8)) := ⟨_, rfl⟩
          have hy := zlet_at ex13 hy
          refine zj_iinc (pc' := 46) 2 (L' := [(2, .int x13), (0, .ref (zad Γ 1)), (1, .int a1)]) dX10_addNumber_43 rfl rfl (by decide) (by rw [cim8, ← ex13]; rfl) ?_
          refine zj_goto (tgt := 3) dX10_addNumber_46 (by decide) ?_
          have hn9 := h9 _ (Option.some.inj hy).symm
          refine zj_loc [1, 2, 0] rfl ?_
          exact ih8 _ _ _ hn9
        · have hy := zt_f hy c12
          refine zj_aload_n (pc' := 18) 0 dX10_addNumber_17 rfl rfl rfl ?_
          refine zj_getR (pc' := 21) (j := 2) dX10_addNumber_18 rfl flX10_11 sh1 rfl ?_
          refine zj_aload_n (pc' := 22) 0 dX10_addNumber_21 rfl rfl rfl ?_
          refine zj_fI (pc' := 25) dX10_addNumber_22 rfl flX10_15 sh1 rfl (zr_n rfl zr_s) rfl ?_
          refine zj_iload_n (pc' := 26) 1 dX10_addNumber_25 rfl rfl rfl ?_
          refine zj_iload_n (pc' := 27) 2 dX10_addNumber_26 rfl rfl rfl ?_
          refine zj_iushr (pc' := 28) dX10_addNumber_27 rfl ?_
          refine zj_sipush (pc' := 31) dX10_addNumber_28 rfl ksipush_255 ?_
          refine zj_iand (pc' := 32) dX10_addNumber_31 rfl ?_
          obtain ⟨r0_0v14, hr0_0v14, hy⟩ := zt_b hy
          refine zj_wri (pc' := 33) (N := (zui (zui M 1 r0v1) 2 r0_0v14)) dX10_addNumber_32 rfl sh2 zr_s hr0_0v14 zm_s ?_
          refine zj_aload_n (pc' := 34) 0 dX10_addNumber_33 rfl rfl rfl ?_
          refine zj_dup (pc' := 35) dX10_addNumber_34 rfl rfl ?_
          refine zj_fI (pc' := 38) dX10_addNumber_35 rfl flX10_15 sh1 rfl (zr_n rfl zr_s) rfl ?_
          refine zj_iconst (pc' := 39) dX10_addNumber_38 rfl kiconst_1 ?_
          refine zj_iadd (pc' := 40) dX10_addNumber_39 rfl ?_
          obtain ⟨r0v15, er0v15⟩ : ∃ z, z = (zup r0v1 1 ((r0v1 1) + 1)) := ⟨_, rfl⟩
          have hy := zlet_at er0v15 hy
          refine zj_pI (pc' := 43) (N := (zui (zui M 1 r0v15) 2 r0_0v14)) dX10_addNumber_40 rfl fpX10_15 sh1 rfl (zr_n rfl zr_s) er0v15 (zm_n rfl zm_s) ?_
          obtain ⟨x16, ex16⟩ : ∃ z : Int32, z = (x3 + (-8)) := ⟨_, rfl⟩
          have hy := zlet_at ex16 hy
          refine zj_iinc (pc' := 46) 2 (L' := [(2, .int x16), (0, .ref (zad Γ 1)), (1, .int a1)]) dX10_addNumber_43 rfl rfl (by decide) (by rw [cim8, ← ex16]; rfl) ?_
          refine zj_goto (tgt := 3) dX10_addNumber_46 (by decide) ?_
          have hn9 := h9 _ (Option.some.inj hy).symm
          refine zj_loc [1, 2, 0] rfl ?_
          exact ih8 _ _ _ hn9
  exact HL5 n9 _ _ _ hn9
set_option maxRecDepth 20000 in
theorem LX10_addNumber_1 (Γ : zG) (M : zM) (r0 : Nat → Int32) (r0_0 : Nat → Int32) (e_i1 : M.1 1 = r0) (e_i2 : M.1 2 = r0_0) (a1 : Int32) {res : (Nat → Int32) × (Nat → Int32)} (hy : (fTp_addNumber r0 r0_0 a1) = some res) : zK Γ 1 YX10_addNumber [.ref (zad Γ 1), .int a1] M (fun v N => v = none ∧ N = (zui (zui M 1 res.1) 2 res.2)) :=
  zK_of (by decide) (Nat.le_of_ble_eq_true rfl) (TX10_addNumber_1 Γ M r0 r0_0 e_i1 e_i2 a1 hy ⟨rfl, rfl⟩)

noncomputable def fTp_length (r0 : Nat → Int32) : Int32 :=
  (r0 1)

set_option maxRecDepth 20000 in
theorem TX10_length_1 (Γ : zG) {Q : Option Value → zM → Prop} (M : zM) (r0 : Nat → Int32) (e_i1 : M.1 1 = r0)  {res : Int32} (hy : (fTp_length r0) = res) (hq : Q (some (.int res)) M) : zR Γ 1 YX10_length 0 [(0, .ref (zad Γ 1))] [] M Q := by
  unfold fTp_length at hy
  refine zj_aload_n (pc' := 1) 0 dX10_length_0 rfl rfl rfl ?_
  refine zj_fI (pc' := 4) dX10_length_1 rfl flX10_15 sh1 rfl e_i1 rfl ?_
  subst hy
  exact zj_iret dX10_length_4 rfl hq
set_option maxRecDepth 20000 in
theorem LX10_length_1 (Γ : zG) (M : zM) (r0 : Nat → Int32) (e_i1 : M.1 1 = r0)  {res : Int32} (hy : (fTp_length r0) = res) : zK Γ 1 YX10_length [.ref (zad Γ 1)] M (fun v N => v = some (.int res) ∧ N = M) :=
  zK_of (by decide) (Nat.le_of_ble_eq_true rfl) (TX10_length_1 Γ M r0 e_i1 hy ⟨rfl, rfl⟩)

noncomputable def fX_feed (r0_0 : Nat → Int32) (r0_0_0 : Nat → Int32) (a1 : Int32) (a2 : Int32) (a3 : Int32) (a4 : Int32) (a5 : Int32) : Option (Int32 × (Nat → Int32) × (Nat → Int32)) :=
  (if (fTp_hasRoom r0_0 20) = true then
  (fTp_addNumber r0_0 r0_0_0 a1).bind (fun (y2 : (Nat → Int32) × (Nat → Int32)) =>
  (fTp_addNumber y2.1 y2.2 a2).bind (fun (y3 : (Nat → Int32) × (Nat → Int32)) =>
  (fTp_addNumber y3.1 y3.2 a3).bind (fun (y4 : (Nat → Int32) × (Nat → Int32)) =>
  (fTp_addNumber y4.1 y4.2 a4).bind (fun (y5 : (Nat → Int32) × (Nat → Int32)) =>
  (fTp_addNumber y5.1 y5.2 a5).bind (fun (y6 : (Nat → Int32) × (Nat → Int32)) =>
  some ((fTp_length y6.1), y6.1, y6.2))))))
  else
  some ((-1), r0_0, r0_0_0))

set_option maxRecDepth 20000 in
theorem TX11_feed_0 (Γ : zG) {Q : Option Value → zM → Prop} (M : zM) (r0_0 : Nat → Int32) (r0_0_0 : Nat → Int32) (e_i1 : M.1 1 = r0_0) (e_i2 : M.1 2 = r0_0_0) (a1 : Int32) (a2 : Int32) (a3 : Int32) (a4 : Int32) (a5 : Int32) {res : Int32 × (Nat → Int32) × (Nat → Int32)} (hy : (fX_feed r0_0 r0_0_0 a1 a2 a3 a4 a5) = some res) (hq : Q (some (.int res.1)) (zui (zui M 1 res.2.1) 2 res.2.2)) : zR Γ 2 YX11_feed 0 [(0, .ref (zad Γ 0)), (1, .int a1), (2, .int a2), (3, .int a3), (4, .int a4), (5, .int a5)] [] M Q := by
  unfold fX_feed at hy
  refine zj_aload_n (pc' := 1) 0 dX11_feed_0 rfl rfl rfl ?_
  refine zj_getR (pc' := 4) (j := 1) dX11_feed_1 rfl flX11_10 sh0 rfl ?_
  refine zj_bipush (pc' := 6) dX11_feed_4 rfl kbipush_20 ?_
  refine zj_V1 (pc' := 9) (z := YX10_hasRoom) (As := [.int 20]) (N := M) dX11_feed_6 rfl mlX11_114 lkX10_hasRoom sh1 ⟨_, _, rfl⟩ rfl rfl (Nat.le_of_ble_eq_true rfl) (Nat.le_of_ble_eq_true rfl) (LX10_hasRoom_1 Γ _ r0_0 e_i1 20 rfl) rfl ?_
  refine zj_bif_ne (tgt := 14) (pc' := 12) dX11_feed_9 rfl (by decide) (fun c1 => ?_) (fun c1 => ?_)
  · have hy := zt_t hy c1
    refine zj_aload_n (pc' := 15) 0 dX11_feed_14 rfl rfl rfl ?_
    refine zj_getR (pc' := 18) (j := 1) dX11_feed_15 rfl flX11_10 sh0 rfl ?_
    refine zj_iload_n (pc' := 19) 1 dX11_feed_18 rfl rfl rfl ?_
    obtain ⟨y2, hy2, hy⟩ := zt_b hy
    refine zj_V0 (pc' := 22) (z := YX10_addNumber) (As := [.int a1]) (N := (zui (zui M 1 y2.1) 2 y2.2)) dX11_feed_19 rfl mlX11_118 lkX10_addNumber sh1 ⟨_, _, rfl⟩ rfl rfl (Nat.le_of_ble_eq_true rfl) (Nat.le_of_ble_eq_true rfl) (LX10_addNumber_1 Γ _ r0_0 r0_0_0 e_i1 e_i2 a1 hy2) ((zch_i rfl rfl)).symm ?_
    refine zj_aload_n (pc' := 23) 0 dX11_feed_22 rfl rfl rfl ?_
    refine zj_getR (pc' := 26) (j := 1) dX11_feed_23 rfl flX11_10 sh0 rfl ?_
    refine zj_iload_n (pc' := 27) 2 dX11_feed_26 rfl rfl rfl ?_
    obtain ⟨y3, hy3, hy⟩ := zt_b hy
    refine zj_V0 (pc' := 30) (z := YX10_addNumber) (As := [.int a2]) (N := (zui (zui M 1 y3.1) 2 y3.2)) dX11_feed_27 rfl mlX11_118 lkX10_addNumber sh1 ⟨_, _, rfl⟩ rfl rfl (Nat.le_of_ble_eq_true rfl) (Nat.le_of_ble_eq_true rfl) (LX10_addNumber_1 Γ _ y2.1 y2.2 (zr_n rfl zr_s) zr_s a2 hy3) ((zch_i (zm_n rfl zm_s) zm_s)).symm ?_
    refine zj_aload_n (pc' := 31) 0 dX11_feed_30 rfl rfl rfl ?_
    refine zj_getR (pc' := 34) (j := 1) dX11_feed_31 rfl flX11_10 sh0 rfl ?_
    refine zj_iload_n (pc' := 35) 3 dX11_feed_34 rfl rfl rfl ?_
    obtain ⟨y4, hy4, hy⟩ := zt_b hy
    refine zj_V0 (pc' := 38) (z := YX10_addNumber) (As := [.int a3]) (N := (zui (zui M 1 y4.1) 2 y4.2)) dX11_feed_35 rfl mlX11_118 lkX10_addNumber sh1 ⟨_, _, rfl⟩ rfl rfl (Nat.le_of_ble_eq_true rfl) (Nat.le_of_ble_eq_true rfl) (LX10_addNumber_1 Γ _ y3.1 y3.2 (zr_n rfl zr_s) zr_s a3 hy4) ((zch_i (zm_n rfl zm_s) zm_s)).symm ?_
    refine zj_aload_n (pc' := 39) 0 dX11_feed_38 rfl rfl rfl ?_
    refine zj_getR (pc' := 42) (j := 1) dX11_feed_39 rfl flX11_10 sh0 rfl ?_
    refine zj_iload (pc' := 44) 4 dX11_feed_42 rfl rfl ?_
    obtain ⟨y5, hy5, hy⟩ := zt_b hy
    refine zj_V0 (pc' := 47) (z := YX10_addNumber) (As := [.int a4]) (N := (zui (zui M 1 y5.1) 2 y5.2)) dX11_feed_44 rfl mlX11_118 lkX10_addNumber sh1 ⟨_, _, rfl⟩ rfl rfl (Nat.le_of_ble_eq_true rfl) (Nat.le_of_ble_eq_true rfl) (LX10_addNumber_1 Γ _ y4.1 y4.2 (zr_n rfl zr_s) zr_s a4 hy5) ((zch_i (zm_n rfl zm_s) zm_s)).symm ?_
    refine zj_aload_n (pc' := 48) 0 dX11_feed_47 rfl rfl rfl ?_
    refine zj_getR (pc' := 51) (j := 1) dX11_feed_48 rfl flX11_10 sh0 rfl ?_
    refine zj_iload (pc' := 53) 5 dX11_feed_51 rfl rfl ?_
    obtain ⟨y6, hy6, hy⟩ := zt_b hy
    refine zj_V0 (pc' := 56) (z := YX10_addNumber) (As := [.int a5]) (N := (zui (zui M 1 y6.1) 2 y6.2)) dX11_feed_53 rfl mlX11_118 lkX10_addNumber sh1 ⟨_, _, rfl⟩ rfl rfl (Nat.le_of_ble_eq_true rfl) (Nat.le_of_ble_eq_true rfl) (LX10_addNumber_1 Γ _ y5.1 y5.2 (zr_n rfl zr_s) zr_s a5 hy6) ((zch_i (zm_n rfl zm_s) zm_s)).symm ?_
    refine zj_aload_n (pc' := 57) 0 dX11_feed_56 rfl rfl rfl ?_
    refine zj_getR (pc' := 60) (j := 1) dX11_feed_57 rfl flX11_10 sh0 rfl ?_
    refine zj_V1 (pc' := 63) (z := YX10_length) (As := []) (N := (zui (zui M 1 y6.1) 2 y6.2)) dX11_feed_60 rfl mlX11_122 lkX10_length sh1 ⟨_, _, rfl⟩ rfl rfl (Nat.le_of_ble_eq_true rfl) (Nat.le_of_ble_eq_true rfl) (LX10_length_1 Γ _ y6.1 (zr_n rfl zr_s) rfl) rfl ?_
    have e9 := Option.some.inj hy
    subst e9
    exact zj_iret dX11_feed_63 rfl hq
  · have hy := zt_f hy c1
    refine zj_iconst (pc' := 13) dX11_feed_12 rfl kiconst_m1 ?_
    have e9 := Option.some.inj hy
    subst e9
    refine zj_mem (N := (zui M 1 r0_0)) (zself_i e_i1 rfl) ?_
    refine zj_mem (N := (zui (zui M 1 r0_0) 2 r0_0_0)) (zself_i (zr_n rfl e_i2) rfl) ?_
    exact zj_iret dX11_feed_13 rfl hq
set_option maxRecDepth 20000 in
theorem LX11_feed_0 (Γ : zG) (M : zM) (r0_0 : Nat → Int32) (r0_0_0 : Nat → Int32) (e_i1 : M.1 1 = r0_0) (e_i2 : M.1 2 = r0_0_0) (a1 : Int32) (a2 : Int32) (a3 : Int32) (a4 : Int32) (a5 : Int32) {res : Int32 × (Nat → Int32) × (Nat → Int32)} (hy : (fX_feed r0_0 r0_0_0 a1 a2 a3 a4 a5) = some res) : zK Γ 2 YX11_feed [.ref (zad Γ 0), .int a1, .int a2, .int a3, .int a4, .int a5] M (fun v N => v = some (.int res.1) ∧ N = (zui (zui M 1 res.2.1) 2 res.2.2)) :=
  zK_of (by decide) (Nat.le_of_ble_eq_true rfl) (TX11_feed_0 Γ M r0_0 r0_0_0 e_i1 e_i2 a1 a2 a3 a4 a5 hy ⟨rfl, rfl⟩)

noncomputable def fM_four_L3 (a1 : Int32) (r0v1 : Nat → Int32) (r0_1v2 : Nat → Int32) (x3 : Int32) : Option (((Nat → Int32) × (Nat → Int32) × Int32) ⊕ ((Nat → Int32) × (Nat → Int32))) :=
  (if x3 < 0 then
  some (.inr (r0v1, r0_1v2))
  else
  (zwr r0_1v2 940 (r0v1 2) (vp_nar .byte (Int8.toInt32 (Int32.toInt8 (a1 >>> (x3 &&& 31)))))).bind (fun (r0_1v12 : Nat → Int32) =>
  zlet (zup r0v1 2 ((r0v1 2) + 1)) (fun (r0v13 : Nat → Int32) =>
  zlet (x3 + (-8)) (fun (x14 : Int32) =>
  some (.inl (r0v13, r0_1v12, x14))))))
noncomputable def fM_four (r0 : Nat → Int32) (r0_1 : Nat → Int32) (a1 : Int32) : Option ((Nat → Int32) × (Nat → Int32)) :=
  (zLP (fun s => fM_four_L3 a1 s.1 s.2.1 s.2.2) (r0, r0_1, 24)).bind (fun r6 =>
  some (r6.1, r6.2))

set_option maxRecDepth 20000 in
theorem TX12_four_186 (Γ : zG) {Q : Option Value → zM → Prop} (M : zM) (r0 : Nat → Int32) (r0_1 : Nat → Int32) (e_i186 : M.1 186 = r0) (e_i187 : M.1 187 = r0_1) (a1 : Int32) {res : (Nat → Int32) × (Nat → Int32)} (hy : (fM_four r0 r0_1 a1) = some res) (hq : Q none (zui (zui M 186 res.1) 187 res.2)) : zR Γ 1 YX12_four 0 [(0, .ref (zad Γ 186)), (1, .int a1)] [] M Q := by
  unfold fM_four at hy
  refine zj_bipush (pc' := 2) dX12_four_0 rfl kbipush_24 ?_
  refine zj_istore_n (pc' := 3) (L' := [(2, .int 24), (0, .ref (zad Γ 186)), (1, .int a1)]) dX12_four_2 rfl rfl (by decide) rfl ?_
  refine zj_loc [1, 2, 0] rfl ?_
  refine zj_mem (N := (zui M 186 r0)) (zself_i e_i186 rfl) ?_
  refine zj_mem (N := (zui (zui M 186 r0) 187 r0_1)) (zself_i (zr_n rfl e_i187) rfl) ?_
  obtain ⟨r6, hr9, hyo7⟩ := zt_b hy
  obtain ⟨n9, hn9⟩ := zLP_some hr9
  have HE4 : ∀ (r0v15 : Nat → Int32) (r0_1v16 : Nat → Int32), r6 = (r0v15, r0_1v16) → zR Γ 1 YX12_four 36 [] [] (zui (zui M 186 r0v15) 187 r0_1v16) Q := by
    intro r0v15 r0_1v16 e9
    have hy := hyo7
    try rw [e9] at hy
    try dsimp only at hy
    have e9 := Option.some.inj hy
    subst e9
    exact zj_vret dX12_four_36 rfl hq
  have HL5 : ∀ (n : Nat) (r0v1 : Nat → Int32) (r0_1v2 : Nat → Int32) (x3 : Int32), zlp (fun s => fM_four_L3 a1 s.1 s.2.1 s.2.2) n (r0v1, r0_1v2, x3) = some r6 → zR Γ 1 YX12_four 3 [(0, .ref (zad Γ 186)), (1, .int a1), (2, .int x3)] [] (zui (zui M 186 r0v1) 187 r0_1v2) Q := by
    intro n
    induction n with
    | zero => intro r0v1 r0_1v2 x3 hn9; cases hn9
    | succ n ih8 =>
      intro r0v1 r0_1v2 x3 hn9
      obtain ⟨o9, hb9, h9, h10⟩ := zlp_step hn9
      have hy : fM_four_L3 a1 r0v1 r0_1v2 x3 = some o9 := hb9
      unfold fM_four_L3 at hy
      refine zj_iload_n (pc' := 4) 2 dX12_four_3 rfl rfl rfl ?_
      refine zj_if_lt (tgt := 36) (pc' := 7) dX12_four_4 rfl (by decide) (fun c11 => ?_) (fun c11 => ?_)
      · have hy := zt_t hy c11
        have e9 := h10 _ (Option.some.inj hy).symm
        refine zj_loc [] rfl ?_
        exact HE4 _ _ e9.symm
      · have hy := zt_f hy c11
        refine zj_aload_n (pc' := 8) 0 dX12_four_7 rfl rfl rfl ?_
        refine zj_getR (pc' := 11) (j := 187) dX12_four_8 rfl flX12_14 sh186 rfl ?_
        refine zj_aload_n (pc' := 12) 0 dX12_four_11 rfl rfl rfl ?_
        refine zj_fI (pc' := 15) dX12_four_12 rfl flX12_7 sh186 rfl (zr_n rfl zr_s) rfl ?_
        refine zj_iload_n (pc' := 16) 1 dX12_four_15 rfl rfl rfl ?_
        refine zj_iload_n (pc' := 17) 2 dX12_four_16 rfl rfl rfl ?_
        refine zj_ishr (pc' := 18) dX12_four_17 rfl ?_
        refine zj_i2b (pc' := 19) dX12_four_18 rfl ?_
        obtain ⟨r0_1v12, hr0_1v12, hy⟩ := zt_b hy
        refine zj_wrb (pc' := 20) (N := (zui (zui M 186 r0v1) 187 r0_1v12)) dX12_four_19 rfl sh187 zr_s hr0_1v12 zm_s ?_
        refine zj_aload_n (pc' := 21) 0 dX12_four_20 rfl rfl rfl ?_
        refine zj_dup (pc' := 22) dX12_four_21 rfl rfl ?_
        refine zj_fI (pc' := 25) dX12_four_22 rfl flX12_7 sh186 rfl (zr_n rfl zr_s) rfl ?_
        refine zj_iconst (pc' := 26) dX12_four_25 rfl kiconst_1 ?_
        refine zj_iadd (pc' := 27) dX12_four_26 rfl ?_
        obtain ⟨r0v13, er0v13⟩ : ∃ z, z = (zup r0v1 2 ((r0v1 2) + 1)) := ⟨_, rfl⟩
        have hy := zlet_at er0v13 hy
        refine zj_pI (pc' := 30) (N := (zui (zui M 186 r0v13) 187 r0_1v12)) dX12_four_27 rfl fpX12_7 sh186 rfl (zr_n rfl zr_s) er0v13 (zm_n rfl zm_s) ?_
        obtain ⟨x14, ex14⟩ : ∃ z : Int32, z = (x3 + (-8)) := ⟨_, rfl⟩
        have hy := zlet_at ex14 hy
        refine zj_iinc (pc' := 33) 2 (L' := [(2, .int x14), (0, .ref (zad Γ 186)), (1, .int a1)]) dX12_four_30 rfl rfl (by decide) (by rw [cim8, ← ex14]; rfl) ?_
        refine zj_goto (tgt := 3) dX12_four_33 (by decide) ?_
        have hn9 := h9 _ (Option.some.inj hy).symm
        refine zj_loc [1, 2, 0] rfl ?_
        exact ih8 _ _ _ hn9
  exact HL5 n9 _ _ _ hn9
set_option maxRecDepth 20000 in
theorem LX12_four_186 (Γ : zG) (M : zM) (r0 : Nat → Int32) (r0_1 : Nat → Int32) (e_i186 : M.1 186 = r0) (e_i187 : M.1 187 = r0_1) (a1 : Int32) {res : (Nat → Int32) × (Nat → Int32)} (hy : (fM_four r0 r0_1 a1) = some res) : zK Γ 1 YX12_four [.ref (zad Γ 186), .int a1] M (fun v N => v = none ∧ N = (zui (zui M 186 res.1) 187 res.2)) :=
  zK_of (by decide) (Nat.le_of_ble_eq_true rfl) (TX12_four_186 Γ M r0 r0_1 e_i186 e_i187 a1 hy ⟨rfl, rfl⟩)

noncomputable def fM_feed (r0 : Nat → Int32) (r0_1 : Nat → Int32) (a1 : Int32) (a2 : Int32) (a3 : Int32) (a4 : Int32) (a5 : Int32) : Option (Int32 × (Nat → Int32) × (Nat → Int32)) :=
  zlet (zup r0 0 0) (fun (r0v1 : Nat → Int32) =>
  (if ((r0v1 2) + 20) ≤ 940 then
  (fM_four r0v1 r0_1 a1).bind (fun (y3 : (Nat → Int32) × (Nat → Int32)) =>
  (fM_four y3.1 y3.2 a2).bind (fun (y4 : (Nat → Int32) × (Nat → Int32)) =>
  (fM_four y4.1 y4.2 a3).bind (fun (y5 : (Nat → Int32) × (Nat → Int32)) =>
  (fM_four y5.1 y5.2 a4).bind (fun (y6 : (Nat → Int32) × (Nat → Int32)) =>
  (fM_four y6.1 y6.2 a5).bind (fun (y7 : (Nat → Int32) × (Nat → Int32)) =>
  some ((y7.1 2), y7.1, y7.2))))))
  else
  some ((-1), r0v1, r0_1)))

set_option maxRecDepth 20000 in
theorem TX12_feed_186 (Γ : zG) {Q : Option Value → zM → Prop} (M : zM) (r0 : Nat → Int32) (r0_1 : Nat → Int32) (e_i186 : M.1 186 = r0) (e_i187 : M.1 187 = r0_1) (a1 : Int32) (a2 : Int32) (a3 : Int32) (a4 : Int32) (a5 : Int32) {res : Int32 × (Nat → Int32) × (Nat → Int32)} (hy : (fM_feed r0 r0_1 a1 a2 a3 a4 a5) = some res) (hq : Q (some (.int res.1)) (zui (zui M 186 res.2.1) 187 res.2.2)) : zR Γ 2 YX12_feed 0 [(0, .ref (zad Γ 186)), (1, .int a1), (2, .int a2), (3, .int a3), (4, .int a4), (5, .int a5)] [] M Q := by
  unfold fM_feed at hy
  refine zj_aload_n (pc' := 1) 0 dX12_feed_0 rfl rfl rfl ?_
  refine zj_iconst (pc' := 2) dX12_feed_1 rfl kiconst_0 ?_
  obtain ⟨r0v1, er0v1⟩ : ∃ z, z = (zup r0 0 0) := ⟨_, rfl⟩
  have hy := zlet_at er0v1 hy
  refine zj_pI (pc' := 5) (N := (zui M 186 r0v1)) dX12_feed_2 rfl fpX12_1 sh186 rfl e_i186 er0v1 rfl ?_
  refine zj_aload_n (pc' := 6) 0 dX12_feed_5 rfl rfl rfl ?_
  refine zj_fI (pc' := 9) dX12_feed_6 rfl flX12_7 sh186 rfl zr_s rfl ?_
  refine zj_bipush (pc' := 11) dX12_feed_9 rfl kbipush_20 ?_
  refine zj_iadd (pc' := 12) dX12_feed_11 rfl ?_
  refine zj_sipush (pc' := 15) dX12_feed_12 rfl ksipush_940 ?_
  refine zj_icmp_le (tgt := 20) (pc' := 18) dX12_feed_15 rfl (by decide) (fun c2 => ?_) (fun c2 => ?_)
  · have hy := zt_t hy c2
    refine zj_aload_n (pc' := 21) 0 dX12_feed_20 rfl rfl rfl ?_
    refine zj_iload_n (pc' := 22) 1 dX12_feed_21 rfl rfl rfl ?_
    obtain ⟨y3, hy3, hy⟩ := zt_b hy
    refine zj_V0 (pc' := 25) (z := YX12_four) (As := [.int a1]) (N := (zui (zui M 186 y3.1) 187 y3.2)) dX12_feed_22 rfl mlX12_10 lkX12_four sh186 ⟨_, _, rfl⟩ rfl rfl (Nat.le_of_ble_eq_true rfl) (Nat.le_of_ble_eq_true rfl) (LX12_four_186 Γ _ r0v1 r0_1 zr_s (zr_n rfl e_i187) a1 hy3) ((zch_i zm_s rfl)).symm ?_
    refine zj_aload_n (pc' := 26) 0 dX12_feed_25 rfl rfl rfl ?_
    refine zj_iload_n (pc' := 27) 2 dX12_feed_26 rfl rfl rfl ?_
    obtain ⟨y4, hy4, hy⟩ := zt_b hy
    refine zj_V0 (pc' := 30) (z := YX12_four) (As := [.int a2]) (N := (zui (zui M 186 y4.1) 187 y4.2)) dX12_feed_27 rfl mlX12_10 lkX12_four sh186 ⟨_, _, rfl⟩ rfl rfl (Nat.le_of_ble_eq_true rfl) (Nat.le_of_ble_eq_true rfl) (LX12_four_186 Γ _ y3.1 y3.2 (zr_n rfl zr_s) zr_s a2 hy4) ((zch_i (zm_n rfl zm_s) zm_s)).symm ?_
    refine zj_aload_n (pc' := 31) 0 dX12_feed_30 rfl rfl rfl ?_
    refine zj_iload_n (pc' := 32) 3 dX12_feed_31 rfl rfl rfl ?_
    obtain ⟨y5, hy5, hy⟩ := zt_b hy
    refine zj_V0 (pc' := 35) (z := YX12_four) (As := [.int a3]) (N := (zui (zui M 186 y5.1) 187 y5.2)) dX12_feed_32 rfl mlX12_10 lkX12_four sh186 ⟨_, _, rfl⟩ rfl rfl (Nat.le_of_ble_eq_true rfl) (Nat.le_of_ble_eq_true rfl) (LX12_four_186 Γ _ y4.1 y4.2 (zr_n rfl zr_s) zr_s a3 hy5) ((zch_i (zm_n rfl zm_s) zm_s)).symm ?_
    refine zj_aload_n (pc' := 36) 0 dX12_feed_35 rfl rfl rfl ?_
    refine zj_iload (pc' := 38) 4 dX12_feed_36 rfl rfl ?_
    obtain ⟨y6, hy6, hy⟩ := zt_b hy
    refine zj_V0 (pc' := 41) (z := YX12_four) (As := [.int a4]) (N := (zui (zui M 186 y6.1) 187 y6.2)) dX12_feed_38 rfl mlX12_10 lkX12_four sh186 ⟨_, _, rfl⟩ rfl rfl (Nat.le_of_ble_eq_true rfl) (Nat.le_of_ble_eq_true rfl) (LX12_four_186 Γ _ y5.1 y5.2 (zr_n rfl zr_s) zr_s a4 hy6) ((zch_i (zm_n rfl zm_s) zm_s)).symm ?_
    refine zj_aload_n (pc' := 42) 0 dX12_feed_41 rfl rfl rfl ?_
    refine zj_iload (pc' := 44) 5 dX12_feed_42 rfl rfl ?_
    obtain ⟨y7, hy7, hy⟩ := zt_b hy
    refine zj_V0 (pc' := 47) (z := YX12_four) (As := [.int a5]) (N := (zui (zui M 186 y7.1) 187 y7.2)) dX12_feed_44 rfl mlX12_10 lkX12_four sh186 ⟨_, _, rfl⟩ rfl rfl (Nat.le_of_ble_eq_true rfl) (Nat.le_of_ble_eq_true rfl) (LX12_four_186 Γ _ y6.1 y6.2 (zr_n rfl zr_s) zr_s a5 hy7) ((zch_i (zm_n rfl zm_s) zm_s)).symm ?_
    refine zj_aload_n (pc' := 48) 0 dX12_feed_47 rfl rfl rfl ?_
    refine zj_fI (pc' := 51) dX12_feed_48 rfl flX12_7 sh186 rfl (zr_n rfl zr_s) rfl ?_
    have e9 := Option.some.inj hy
    subst e9
    exact zj_iret dX12_feed_51 rfl hq
  · have hy := zt_f hy c2
    refine zj_iconst (pc' := 19) dX12_feed_18 rfl kiconst_m1 ?_
    have e9 := Option.some.inj hy
    subst e9
    refine zj_mem (N := (zui (zui M 186 r0v1) 187 r0_1)) (zself_i (zr_n rfl e_i187) rfl) ?_
    exact zj_iret dX12_feed_19 rfl hq
set_option maxRecDepth 20000 in
theorem LX12_feed_186 (Γ : zG) (M : zM) (r0 : Nat → Int32) (r0_1 : Nat → Int32) (e_i186 : M.1 186 = r0) (e_i187 : M.1 187 = r0_1) (a1 : Int32) (a2 : Int32) (a3 : Int32) (a4 : Int32) (a5 : Int32) {res : Int32 × (Nat → Int32) × (Nat → Int32)} (hy : (fM_feed r0 r0_1 a1 a2 a3 a4 a5) = some res) : zK Γ 2 YX12_feed [.ref (zad Γ 186), .int a1, .int a2, .int a3, .int a4, .int a5] M (fun v N => v = some (.int res.1) ∧ N = (zui (zui M 186 res.2.1) 187 res.2.2)) :=
  zK_of (by decide) (Nat.le_of_ble_eq_true rfl) (TX12_feed_186 Γ M r0 r0_1 e_i186 e_i187 a1 a2 a3 a4 a5 hy ⟨rfl, rfl⟩)

noncomputable def fTp_shorten (r0 : Nat → Int32) (a1 : Int32) : Option (Bool × (Nat → Int32)) :=
  (if a1 < 0 then
  some (false, r0)
  else
  (if a1 ≤ (r0 1) then
  zlet (zup r0 1 a1) (fun (r0v3 : Nat → Int32) =>
  some (true, r0v3))
  else
  some (false, r0)))

set_option maxRecDepth 20000 in
theorem TX10_shorten_1 (Γ : zG) {Q : Option Value → zM → Prop} (M : zM) (r0 : Nat → Int32) (e_i1 : M.1 1 = r0) (a1 : Int32) {res : Bool × (Nat → Int32)} (hy : (fTp_shorten r0 a1) = some res) (hq : Q (some (.int (zb res.1))) (zui M 1 res.2)) : zR Γ 1 YX10_shorten 0 [(0, .ref (zad Γ 1)), (1, .int a1)] [] M Q := by
  unfold fTp_shorten at hy
  refine zj_iload_n (pc' := 1) 1 dX10_shorten_0 rfl rfl rfl ?_
  refine zj_if_lt (tgt := 12) (pc' := 4) dX10_shorten_1 rfl (by decide) (fun c1 => ?_) (fun c1 => ?_)
  · have hy := zt_t hy c1
    refine zj_iconst (pc' := 13) dX10_shorten_12 rfl kiconst_0 ?_
    have e9 := Option.some.inj hy
    subst e9
    refine zj_mem (N := (zui M 1 r0)) (zself_i e_i1 rfl) ?_
    exact zj_bret (b := false) dX10_shorten_13 rfl hq
  · have hy := zt_f hy c1
    refine zj_iload_n (pc' := 5) 1 dX10_shorten_4 rfl rfl rfl ?_
    refine zj_aload_n (pc' := 6) 0 dX10_shorten_5 rfl rfl rfl ?_
    refine zj_fI (pc' := 9) dX10_shorten_6 rfl flX10_15 sh1 rfl e_i1 rfl ?_
    refine zj_icmp_le (tgt := 14) (pc' := 12) dX10_shorten_9 rfl (by decide) (fun c2 => ?_) (fun c2 => ?_)
    · have hy := zt_t hy c2
      refine zj_aload_n (pc' := 15) 0 dX10_shorten_14 rfl rfl rfl ?_
      refine zj_iload_n (pc' := 16) 1 dX10_shorten_15 rfl rfl rfl ?_
      obtain ⟨r0v3, er0v3⟩ : ∃ z, z = (zup r0 1 a1) := ⟨_, rfl⟩
      have hy := zlet_at er0v3 hy
      refine zj_pI (pc' := 19) (N := (zui M 1 r0v3)) dX10_shorten_16 rfl fpX10_15 sh1 rfl e_i1 er0v3 rfl ?_
      refine zj_iconst (pc' := 20) dX10_shorten_19 rfl kiconst_1 ?_
      have e9 := Option.some.inj hy
      subst e9
      exact zj_bret (b := true) dX10_shorten_20 rfl hq
    · have hy := zt_f hy c2
      refine zj_iconst (pc' := 13) dX10_shorten_12 rfl kiconst_0 ?_
      have e9 := Option.some.inj hy
      subst e9
      refine zj_mem (N := (zui M 1 r0)) (zself_i e_i1 rfl) ?_
      exact zj_bret (b := false) dX10_shorten_13 rfl hq
set_option maxRecDepth 20000 in
theorem LX10_shorten_1 (Γ : zG) (M : zM) (r0 : Nat → Int32) (e_i1 : M.1 1 = r0) (a1 : Int32) {res : Bool × (Nat → Int32)} (hy : (fTp_shorten r0 a1) = some res) : zK Γ 1 YX10_shorten [.ref (zad Γ 1), .int a1] M (fun v N => v = some (.int (zb res.1)) ∧ N = (zui M 1 res.2)) :=
  zK_of (by decide) (Nat.le_of_ble_eq_true rfl) (TX10_shorten_1 Γ M r0 e_i1 a1 hy ⟨rfl, rfl⟩)

noncomputable def fX_end (r0_0 : Nat → Int32) (a1 : Int32) : Option (Bool × (Nat → Int32)) :=
  (fTp_shorten r0_0 a1).bind (fun (y1 : Bool × (Nat → Int32)) =>
  some (y1.1, y1.2))

set_option maxRecDepth 20000 in
theorem TX11_end_0 (Γ : zG) {Q : Option Value → zM → Prop} (M : zM) (r0_0 : Nat → Int32) (e_i1 : M.1 1 = r0_0) (a1 : Int32) {res : Bool × (Nat → Int32)} (hy : (fX_end r0_0 a1) = some res) (hq : Q (some (.int (zb res.1))) (zui M 1 res.2)) : zR Γ 2 YX11_end 0 [(0, .ref (zad Γ 0)), (1, .int a1)] [] M Q := by
  unfold fX_end at hy
  refine zj_aload_n (pc' := 1) 0 dX11_end_0 rfl rfl rfl ?_
  refine zj_getR (pc' := 4) (j := 1) dX11_end_1 rfl flX11_10 sh0 rfl ?_
  refine zj_iload_n (pc' := 5) 1 dX11_end_4 rfl rfl rfl ?_
  obtain ⟨y1, hy1, hy⟩ := zt_b hy
  refine zj_V1 (pc' := 8) (z := YX10_shorten) (As := [.int a1]) (N := (zui M 1 y1.2)) dX11_end_5 rfl mlX11_126 lkX10_shorten sh1 ⟨_, _, rfl⟩ rfl rfl (Nat.le_of_ble_eq_true rfl) (Nat.le_of_ble_eq_true rfl) (LX10_shorten_1 Γ _ r0_0 e_i1 a1 hy1) (rfl).symm ?_
  have e9 := Option.some.inj hy
  subst e9
  exact zj_bret (b := y1.1) dX11_end_8 rfl hq
set_option maxRecDepth 20000 in
theorem LX11_end_0 (Γ : zG) (M : zM) (r0_0 : Nat → Int32) (e_i1 : M.1 1 = r0_0) (a1 : Int32) {res : Bool × (Nat → Int32)} (hy : (fX_end r0_0 a1) = some res) : zK Γ 2 YX11_end [.ref (zad Γ 0), .int a1] M (fun v N => v = some (.int (zb res.1)) ∧ N = (zui M 1 res.2)) :=
  zK_of (by decide) (Nat.le_of_ble_eq_true rfl) (TX11_end_0 Γ M r0_0 e_i1 a1 hy ⟨rfl, rfl⟩)

noncomputable def fM_end (r0 : Nat → Int32) (a1 : Int32) : Option (Bool × (Nat → Int32)) :=
  zlet (zup r0 0 0) (fun (r0v1 : Nat → Int32) =>
  (if a1 < 0 then
  some (false, r0v1)
  else
  (if a1 ≤ (r0v1 2) then
  zlet (zup r0v1 2 a1) (fun (r0v4 : Nat → Int32) =>
  some (true, r0v4))
  else
  some (false, r0v1))))

set_option maxRecDepth 20000 in
theorem TX12_end_186 (Γ : zG) {Q : Option Value → zM → Prop} (M : zM) (r0 : Nat → Int32) (e_i186 : M.1 186 = r0) (a1 : Int32) {res : Bool × (Nat → Int32)} (hy : (fM_end r0 a1) = some res) (hq : Q (some (.int (zb res.1))) (zui M 186 res.2)) : zR Γ 1 YX12_end 0 [(0, .ref (zad Γ 186)), (1, .int a1)] [] M Q := by
  unfold fM_end at hy
  refine zj_aload_n (pc' := 1) 0 dX12_end_0 rfl rfl rfl ?_
  refine zj_iconst (pc' := 2) dX12_end_1 rfl kiconst_0 ?_
  obtain ⟨r0v1, er0v1⟩ : ∃ z, z = (zup r0 0 0) := ⟨_, rfl⟩
  have hy := zlet_at er0v1 hy
  refine zj_pI (pc' := 5) (N := (zui M 186 r0v1)) dX12_end_2 rfl fpX12_1 sh186 rfl e_i186 er0v1 rfl ?_
  refine zj_iload_n (pc' := 6) 1 dX12_end_5 rfl rfl rfl ?_
  refine zj_if_lt (tgt := 17) (pc' := 9) dX12_end_6 rfl (by decide) (fun c2 => ?_) (fun c2 => ?_)
  · have hy := zt_t hy c2
    refine zj_iconst (pc' := 18) dX12_end_17 rfl kiconst_0 ?_
    have e9 := Option.some.inj hy
    subst e9
    exact zj_bret (b := false) dX12_end_18 rfl hq
  · have hy := zt_f hy c2
    refine zj_iload_n (pc' := 10) 1 dX12_end_9 rfl rfl rfl ?_
    refine zj_aload_n (pc' := 11) 0 dX12_end_10 rfl rfl rfl ?_
    refine zj_fI (pc' := 14) dX12_end_11 rfl flX12_7 sh186 rfl zr_s rfl ?_
    refine zj_icmp_le (tgt := 19) (pc' := 17) dX12_end_14 rfl (by decide) (fun c3 => ?_) (fun c3 => ?_)
    · have hy := zt_t hy c3
      refine zj_aload_n (pc' := 20) 0 dX12_end_19 rfl rfl rfl ?_
      refine zj_iload_n (pc' := 21) 1 dX12_end_20 rfl rfl rfl ?_
      obtain ⟨r0v4, er0v4⟩ : ∃ z, z = (zup r0v1 2 a1) := ⟨_, rfl⟩
      have hy := zlet_at er0v4 hy
      refine zj_pI (pc' := 24) (N := (zui M 186 r0v4)) dX12_end_21 rfl fpX12_7 sh186 rfl zr_s er0v4 zm_s ?_
      refine zj_iconst (pc' := 25) dX12_end_24 rfl kiconst_1 ?_
      have e9 := Option.some.inj hy
      subst e9
      exact zj_bret (b := true) dX12_end_25 rfl hq
    · have hy := zt_f hy c3
      refine zj_iconst (pc' := 18) dX12_end_17 rfl kiconst_0 ?_
      have e9 := Option.some.inj hy
      subst e9
      exact zj_bret (b := false) dX12_end_18 rfl hq
set_option maxRecDepth 20000 in
theorem LX12_end_186 (Γ : zG) (M : zM) (r0 : Nat → Int32) (e_i186 : M.1 186 = r0) (a1 : Int32) {res : Bool × (Nat → Int32)} (hy : (fM_end r0 a1) = some res) : zK Γ 1 YX12_end [.ref (zad Γ 186), .int a1] M (fun v N => v = some (.int (zb res.1)) ∧ N = (zui M 186 res.2)) :=
  zK_of (by decide) (Nat.le_of_ble_eq_true rfl) (TX12_end_186 Γ M r0 e_i186 a1 hy ⟨rfl, rfl⟩)

noncomputable def fTp_byteOf (r0 : Nat → Int32) (r0_0 : Nat → Int32) (a1 : Int32) : Option (Int32) :=
  (if a1 < 0 then
  some (-1)
  else
  (if (r0 1) ≤ a1 then
  some (-1)
  else
  (zrd r0_0 940 a1).bind (fun (v3 : Int32) =>
  some v3)))

set_option maxRecDepth 20000 in
theorem TX10_byteOf_1 (Γ : zG) {Q : Option Value → zM → Prop} (M : zM) (r0 : Nat → Int32) (r0_0 : Nat → Int32) (e_i1 : M.1 1 = r0) (e_i2 : M.1 2 = r0_0) (a1 : Int32) {res : Int32} (hy : (fTp_byteOf r0 r0_0 a1) = some res) (hq : Q (some (.int res)) M) : zR Γ 1 YX10_byteOf 0 [(0, .ref (zad Γ 1)), (1, .int a1)] [] M Q := by
  unfold fTp_byteOf at hy
  refine zj_iload_n (pc' := 1) 1 dX10_byteOf_0 rfl rfl rfl ?_
  refine zj_if_lt (tgt := 21) (pc' := 4) dX10_byteOf_1 rfl (by decide) (fun c1 => ?_) (fun c1 => ?_)
  · have hy := zt_t hy c1
    refine zj_iconst (pc' := 22) dX10_byteOf_21 rfl kiconst_m1 ?_
    have e9 := Option.some.inj hy
    subst e9
    exact zj_iret dX10_byteOf_22 rfl hq
  · have hy := zt_f hy c1
    refine zj_iload_n (pc' := 5) 1 dX10_byteOf_4 rfl rfl rfl ?_
    refine zj_aload_n (pc' := 6) 0 dX10_byteOf_5 rfl rfl rfl ?_
    refine zj_fI (pc' := 9) dX10_byteOf_6 rfl flX10_15 sh1 rfl e_i1 rfl ?_
    refine zj_icmp_ge (tgt := 21) (pc' := 12) dX10_byteOf_9 rfl (by decide) (fun c2 => ?_) (fun c2 => ?_)
    · have hy := zt_t hy c2
      refine zj_iconst (pc' := 22) dX10_byteOf_21 rfl kiconst_m1 ?_
      have e9 := Option.some.inj hy
      subst e9
      exact zj_iret dX10_byteOf_22 rfl hq
    · have hy := zt_f hy c2
      refine zj_aload_n (pc' := 13) 0 dX10_byteOf_12 rfl rfl rfl ?_
      refine zj_getR (pc' := 16) (j := 2) dX10_byteOf_13 rfl flX10_11 sh1 rfl ?_
      refine zj_iload_n (pc' := 17) 1 dX10_byteOf_16 rfl rfl rfl ?_
      obtain ⟨v3, hv3, hy⟩ := zt_b hy
      refine zj_rdi (pc' := 18) dX10_byteOf_17 rfl sh2 e_i2 hv3 ?_
      refine zj_goto (tgt := 22) dX10_byteOf_18 (by decide) ?_
      have e9 := Option.some.inj hy
      subst e9
      exact zj_iret dX10_byteOf_22 rfl hq
set_option maxRecDepth 20000 in
theorem LX10_byteOf_1 (Γ : zG) (M : zM) (r0 : Nat → Int32) (r0_0 : Nat → Int32) (e_i1 : M.1 1 = r0) (e_i2 : M.1 2 = r0_0) (a1 : Int32) {res : Int32} (hy : (fTp_byteOf r0 r0_0 a1) = some res) : zK Γ 1 YX10_byteOf [.ref (zad Γ 1), .int a1] M (fun v N => v = some (.int res) ∧ N = M) :=
  zK_of (by decide) (Nat.le_of_ble_eq_true rfl) (TX10_byteOf_1 Γ M r0 r0_0 e_i1 e_i2 a1 hy ⟨rfl, rfl⟩)

noncomputable def fRd_isSomeSign (a1 : Int32) : Bool :=
  (if a1 = 59 then true else (if a1 = 60 then true else (if a1 = 61 then true else (if a1 = 62 then true else (if a1 = 40 then true else (if a1 = 41 then true else false))))))

set_option maxRecDepth 20000 in
theorem TX8_isSomeSign (Γ : zG) {Q : Option Value → zM → Prop} (M : zM)   (a1 : Int32) {res : Bool} (hy : (fRd_isSomeSign a1) = res) (hq : Q (some (.int (zb res))) M) : zR Γ 1 YX8_isSomeSign 0 [(0, .int a1)] [] M Q := by
  unfold fRd_isSomeSign at hy
  refine zj_iload_n (pc' := 1) 0 dX8_isSomeSign_0 rfl rfl rfl ?_
  refine zj_bipush (pc' := 3) dX8_isSomeSign_1 rfl kbipush_59 ?_
  have HJ1 : zR Γ 1 YX8_isSomeSign 41 [(0, .int a1)] [.int (zb (if a1 = 59 then true else (if a1 = 60 then true else (if a1 = 61 then true else (if a1 = 62 then true else (if a1 = 40 then true else (if a1 = 41 then true else false)))))))] M Q := by
    subst hy
    exact zj_bret (b := (if a1 = 59 then true else (if a1 = 60 then true else (if a1 = 61 then true else (if a1 = 62 then true else (if a1 = 40 then true else (if a1 = 41 then true else false))))))) dX8_isSomeSign_41 rfl hq
  refine zj_icmp_eq (tgt := 36) (pc' := 6) dX8_isSomeSign_3 rfl (by decide) (fun c2 => ?_) (fun c2 => ?_)
  · refine zj_iconst (pc' := 37) dX8_isSomeSign_36 rfl kiconst_1 ?_
    refine zj_goto (tgt := 41) dX8_isSomeSign_37 (by decide) ?_
    exact zj_eqb (b := true) (if_pos c2) HJ1
  · refine zj_iload_n (pc' := 7) 0 dX8_isSomeSign_6 rfl rfl rfl ?_
    refine zj_bipush (pc' := 9) dX8_isSomeSign_7 rfl kbipush_60 ?_
    refine zj_icmp_eq (tgt := 36) (pc' := 12) dX8_isSomeSign_9 rfl (by decide) (fun c3 => ?_) (fun c3 => ?_)
    · refine zj_iconst (pc' := 37) dX8_isSomeSign_36 rfl kiconst_1 ?_
      refine zj_goto (tgt := 41) dX8_isSomeSign_37 (by decide) ?_
      exact zj_eqb (b := true) ((if_neg c2).trans (if_pos c3)) HJ1
    · refine zj_iload_n (pc' := 13) 0 dX8_isSomeSign_12 rfl rfl rfl ?_
      refine zj_bipush (pc' := 15) dX8_isSomeSign_13 rfl kbipush_61 ?_
      refine zj_icmp_eq (tgt := 36) (pc' := 18) dX8_isSomeSign_15 rfl (by decide) (fun c4 => ?_) (fun c4 => ?_)
      · refine zj_iconst (pc' := 37) dX8_isSomeSign_36 rfl kiconst_1 ?_
        refine zj_goto (tgt := 41) dX8_isSomeSign_37 (by decide) ?_
        exact zj_eqb (b := true) (((if_neg c2).trans (if_neg c3)).trans (if_pos c4)) HJ1
      · refine zj_iload_n (pc' := 19) 0 dX8_isSomeSign_18 rfl rfl rfl ?_
        refine zj_bipush (pc' := 21) dX8_isSomeSign_19 rfl kbipush_62 ?_
        refine zj_icmp_eq (tgt := 36) (pc' := 24) dX8_isSomeSign_21 rfl (by decide) (fun c5 => ?_) (fun c5 => ?_)
        · refine zj_iconst (pc' := 37) dX8_isSomeSign_36 rfl kiconst_1 ?_
          refine zj_goto (tgt := 41) dX8_isSomeSign_37 (by decide) ?_
          exact zj_eqb (b := true) ((((if_neg c2).trans (if_neg c3)).trans (if_neg c4)).trans (if_pos c5)) HJ1
        · refine zj_iload_n (pc' := 25) 0 dX8_isSomeSign_24 rfl rfl rfl ?_
          refine zj_bipush (pc' := 27) dX8_isSomeSign_25 rfl kbipush_40 ?_
          refine zj_icmp_eq (tgt := 36) (pc' := 30) dX8_isSomeSign_27 rfl (by decide) (fun c6 => ?_) (fun c6 => ?_)
          · refine zj_iconst (pc' := 37) dX8_isSomeSign_36 rfl kiconst_1 ?_
            refine zj_goto (tgt := 41) dX8_isSomeSign_37 (by decide) ?_
            exact zj_eqb (b := true) (((((if_neg c2).trans (if_neg c3)).trans (if_neg c4)).trans (if_neg c5)).trans (if_pos c6)) HJ1
          · refine zj_iload_n (pc' := 31) 0 dX8_isSomeSign_30 rfl rfl rfl ?_
            refine zj_bipush (pc' := 33) dX8_isSomeSign_31 rfl kbipush_41 ?_
            refine zj_icmp_ne (tgt := 40) (pc' := 36) dX8_isSomeSign_33 rfl (by decide) (fun c7 => ?_) (fun c7 => ?_)
            · refine zj_iconst (pc' := 41) dX8_isSomeSign_40 rfl kiconst_0 ?_
              exact zj_eqb (b := false) ((((((if_neg c2).trans (if_neg c3)).trans (if_neg c4)).trans (if_neg c5)).trans (if_neg c6)).trans (if_neg c7)) HJ1
            · refine zj_iconst (pc' := 37) dX8_isSomeSign_36 rfl kiconst_1 ?_
              refine zj_goto (tgt := 41) dX8_isSomeSign_37 (by decide) ?_
              exact zj_eqb (b := true) ((((((if_neg c2).trans (if_neg c3)).trans (if_neg c4)).trans (if_neg c5)).trans (if_neg c6)).trans (if_pos c7)) HJ1
set_option maxRecDepth 20000 in
theorem LX8_isSomeSign (Γ : zG) (M : zM)   (a1 : Int32) {res : Bool} (hy : (fRd_isSomeSign a1) = res) : zK Γ 1 YX8_isSomeSign [.int a1] M (fun v N => v = some (.int (zb res)) ∧ N = M) :=
  zK_of (by decide) (Nat.le_of_ble_eq_true rfl) (TX8_isSomeSign Γ M a1 hy ⟨rfl, rfl⟩)

noncomputable def fRd_withLetter (a1 : Int64) (a2 : Int32) : Int64 :=
  ((a1 * (32 : Int64)) + (Int32.toInt64 ((a2 - 97) + 1)))

set_option maxRecDepth 20000 in
theorem TX8_withLetter (Γ : zG) {Q : Option Value → zM → Prop} (M : zM)   (a1 : Int64) (a2 : Int32) {res : Int64} (hy : (fRd_withLetter a1 a2) = res) (hq : Q (some (.long res)) M) : zR Γ 1 YX8_withLetter 0 [(0, .long a1), (2, .int a2)] [] M Q := by
  unfold fRd_withLetter at hy
  refine zj_lload_n (pc' := 1) 0 dX8_withLetter_0 rfl rfl rfl ?_
  refine zj_ldc2 (pc' := 4) dX8_withLetter_1 rfl cL109 ?_
  refine zj_lmul (pc' := 5) dX8_withLetter_4 rfl ?_
  refine zj_iload_n (pc' := 6) 1 dX8_withLetter_5 rfl rfl rfl ?_
  refine zj_bipush (pc' := 8) dX8_withLetter_6 rfl kbipush_97 ?_
  refine zj_isub (pc' := 9) dX8_withLetter_8 rfl ?_
  refine zj_iconst (pc' := 10) dX8_withLetter_9 rfl kiconst_1 ?_
  refine zj_iadd (pc' := 11) dX8_withLetter_10 rfl ?_
  refine zj_i2l (pc' := 12) dX8_withLetter_11 rfl ?_
  refine zj_ladd (pc' := 13) dX8_withLetter_12 rfl ?_
  subst hy
  exact zj_lret dX8_withLetter_13 rfl hq
set_option maxRecDepth 20000 in
theorem LX8_withLetter (Γ : zG) (M : zM)   (a1 : Int64) (a2 : Int32) {res : Int64} (hy : (fRd_withLetter a1 a2) = res) : zK Γ 1 YX8_withLetter [.long a1, .int a2] M (fun v N => v = some (.long res) ∧ N = M) :=
  zK_of (by decide) (Nat.le_of_ble_eq_true rfl) (TX8_withLetter Γ M a1 a2 hy ⟨rfl, rfl⟩)

noncomputable def fRd_readRun_L28 (r0_0 : Nat → Int32) (r0_0_0 : Nat → Int32) (x4 : Int32) (r0v5 : Nat → Int32) (w0v6 : Nat → Int64) (x7 : Int32) (x8 : Int32) (x9 : Int32) : Option (((Nat → Int32) × (Nat → Int64) × Int32 × Int32 × Int32) ⊕ ((Nat → Int32) × (Nat → Int64) × Int32 × Int32 × Int32)) :=
  (if x4 ≤ x9 then
  some (.inr (r0v5, w0v6, x7, x8, x9))
  else
  (fTp_byteOf r0_0 r0_0_0 x9).bind (fun (y18 : Int32) =>
  zlet (fun (u9 : Unit) =>
  (if y18 < 48 then
  some (.inr (r0v5, w0v6, x7, x8, x9))
  else
  (if 57 < y18 then
  some (.inr (r0v5, w0v6, x7, x8, x9))
  else
  zlet (x8 + 1) (fun (x21 : Int32) =>
  zlet (zup r0v5 7 (((r0v5 7) * 10) + (y18 - 48))) (fun (r0v22 : Nat → Int32) =>
  zlet (x9 + 1) (fun (x23 : Int32) =>
  some (.inl (r0v22, w0v6, x7, x21, x23)))))))) (fun J24 =>
  (if y18 < 97 then
  J24 ()
  else
  (if 122 < y18 then
  J24 ()
  else
  zlet (x7 + 1) (fun (x27 : Int32) =>
  zlet (zup w0v6 6 (fRd_withLetter (w0v6 6) y18)) (fun (w0v28 : Nat → Int64) =>
  zlet (x9 + 1) (fun (x29 : Int32) =>
  some (.inl (r0v5, w0v28, x27, x8, x29))))))))))
noncomputable def fRd_readRun (r0 : Nat → Int32) (w0 : Nat → Int64) (r0_0 : Nat → Int32) (r0_0_0 : Nat → Int32) : Option ((Nat → Int32) × (Nat → Int64)) :=
  zlet (r0 3) (fun (x1 : Int32) =>
  zlet (zup w0 6 (0 : Int64)) (fun (w0v2 : Nat → Int64) =>
  zlet (zup r0 7 0) (fun (r0v3 : Nat → Int32) =>
  zlet (fTp_length r0_0) (fun (x4 : Int32) =>
  (zLP (fun s => fRd_readRun_L28 r0_0 r0_0_0 x4 s.1 s.2.1 s.2.2.1 s.2.2.2.1 s.2.2.2.2) (r0v3, w0v2, 0, 0, x1)).bind (fun r12 =>
  zlet (zup r12.1 4 (if r12.2.2.2.2 < ((r12.1 3) + 1) then ((r12.1 3) + 1) else r12.2.2.2.2)) (fun (r0v35 : Nat → Int32) =>
  zlet (fun (u9 : Unit) =>
  (if r12.2.2.1 = 0 then
  (if r12.2.2.2.1 ≤ 0 then
  zlet (zup r0v35 5 0) (fun (r0v38 : Nat → Int32) =>
  some (r0v38, r12.2.1))
  else
  (if 3 < r12.2.2.2.1 then
  zlet (zup r0v35 5 0) (fun (r0v40 : Nat → Int32) =>
  some (r0v40, r12.2.1))
  else
  zlet (zup r0v35 5 2) (fun (r0v41 : Nat → Int32) =>
  some (r0v41, r12.2.1))))
  else
  zlet (zup r0v35 5 0) (fun (r0v42 : Nat → Int32) =>
  some (r0v42, r12.2.1)))) (fun J43 =>
  (if r12.2.2.2.1 = 0 then
  (if r12.2.2.1 ≤ 0 then
  J43 ()
  else
  (if 7 < r12.2.2.1 then
  J43 ()
  else
  zlet (zup r0v35 5 1) (fun (r0v47 : Nat → Int32) =>
  some (r0v47, r12.2.1))))
  else
  J43 ()))))))))

set_option maxRecDepth 20000 in
theorem TX8_readRun_3 (Γ : zG) {Q : Option Value → zM → Prop} (M : zM) (r0 : Nat → Int32) (w0 : Nat → Int64) (r0_0 : Nat → Int32) (r0_0_0 : Nat → Int32) (e_i3 : M.1 3 = r0) (e_l3 : M.2 3 = w0) (e_i1 : M.1 1 = r0_0) (e_i2 : M.1 2 = r0_0_0)  {res : (Nat → Int32) × (Nat → Int64)} (hy : (fRd_readRun r0 w0 r0_0 r0_0_0) = some res) (hq : Q none (zui (zul M 3 res.2) 3 res.1)) : zR Γ 2 YX8_readRun 0 [(0, .ref (zad Γ 3))] [] M Q := by
  unfold fRd_readRun at hy
  refine zj_iconst (pc' := 1) dX8_readRun_0 rfl kiconst_0 ?_
  refine zj_istore_n (pc' := 2) (L' := [(1, .int 0), (0, .ref (zad Γ 3))]) dX8_readRun_1 rfl rfl (by decide) rfl ?_
  refine zj_iconst (pc' := 3) dX8_readRun_2 rfl kiconst_0 ?_
  refine zj_istore_n (pc' := 4) (L' := [(2, .int 0), (1, .int 0), (0, .ref (zad Γ 3))]) dX8_readRun_3 rfl rfl (by decide) rfl ?_
  refine zj_aload_n (pc' := 5) 2 dX8_readRun_4 rfl rfl rfl ?_
  refine zj_fI (pc' := 8) dX8_readRun_5 rfl flX8_54 sh3 rfl e_i3 rfl ?_
  refine zj_topi (fun x1 ex1 => ?_)
  have hy := zlet_at ex1 hy
  refine zj_istore_n (pc' := 9) (L' := [(3, .int x1), (2, .int 0), (1, .int 0), (0, .ref (zad Γ 3))]) dX8_readRun_8 rfl rfl (by decide) rfl ?_
  refine zj_aload_n (pc' := 10) 3 dX8_readRun_9 rfl rfl rfl ?_
  refine zj_lconst (pc' := 11) (v := 0) dX8_readRun_10 rfl (by decide) ?_
  obtain ⟨w0v2, ew0v2⟩ : ∃ z, z = (zup w0 6 (0 : Int64)) := ⟨_, rfl⟩
  have hy := zlet_at ew0v2 hy
  refine zj_pL (pc' := 14) (N := (zul M 3 w0v2)) dX8_readRun_11 rfl fpX8_60 sh3 rfl e_l3 ew0v2 rfl ?_
  refine zj_aload_n (pc' := 15) 3 dX8_readRun_14 rfl rfl rfl ?_
  refine zj_iconst (pc' := 16) dX8_readRun_15 rfl kiconst_0 ?_
  obtain ⟨r0v3, er0v3⟩ : ∃ z, z = (zup r0 7 0) := ⟨_, rfl⟩
  have hy := zlet_at er0v3 hy
  refine zj_pI (pc' := 19) (N := (zui (zul M 3 w0v2) 3 r0v3)) dX8_readRun_16 rfl fpX8_84 sh3 rfl (zr_l e_i3) er0v3 rfl ?_
  refine zj_aload_n (pc' := 20) 3 dX8_readRun_19 rfl rfl rfl ?_
  refine zj_getR (pc' := 23) (j := 1) dX8_readRun_20 rfl flX8_19 sh3 rfl ?_
  refine zj_V1 (pc' := 26) (z := YX10_length) (As := []) (N := (zui (zul M 3 w0v2) 3 r0v3)) dX8_readRun_23 rfl mlX8_64 lkX10_length sh1 ⟨_, _, rfl⟩ rfl rfl (Nat.le_of_ble_eq_true rfl) (Nat.le_of_ble_eq_true rfl) (LX10_length_1 Γ _ r0_0 (zr_n rfl (zr_l e_i1)) rfl) rfl ?_
  refine zj_topi (fun x4 ex4 => ?_)
  have hy := zlet_at ex4 hy
  refine zj_istore (pc' := 28) (L' := [(4, .int x4), (3, .int x1), (2, .int 0), (1, .int 0), (0, .ref (zad Γ 3))]) dX8_readRun_26 rfl (by decide) rfl ?_
  refine zj_loc [4, 3, 2, 1, 0] rfl ?_
  obtain ⟨r12, hr9, hyo13⟩ := zt_b hy
  obtain ⟨n9, hn9⟩ := zLP_some hr9
  have HE10 : ∀ (r0v30 : Nat → Int32) (w0v31 : Nat → Int64) (x32 : Int32) (x33 : Int32) (x34 : Int32), r12 = (r0v30, w0v31, x32, x33, x34) → zR Γ 2 YX8_readRun 117 [(0, .ref (zad Γ 3)), (1, .int x32), (2, .int x33), (3, .int x34)] [] (zui (zul M 3 w0v31) 3 r0v30) Q := by
    intro r0v30 w0v31 x32 x33 x34 e9
    have hy := hyo13
    try rw [e9] at hy
    try dsimp only at hy
    refine zj_aload_n (pc' := 118) 0 dX8_readRun_117 rfl rfl rfl ?_
    refine zj_iload_n (pc' := 119) 3 dX8_readRun_118 rfl rfl rfl ?_
    refine zj_aload_n (pc' := 120) 0 dX8_readRun_119 rfl rfl rfl ?_
    refine zj_fI (pc' := 123) dX8_readRun_120 rfl flX8_54 sh3 rfl zr_s rfl ?_
    refine zj_iconst (pc' := 124) dX8_readRun_123 rfl kiconst_1 ?_
    refine zj_iadd (pc' := 125) dX8_readRun_124 rfl ?_
    refine zj_mmax (pc' := 128) dX8_readRun_125 rfl mlX8_87 zmmaxw (Nat.le_of_ble_eq_true rfl) (Nat.le_of_ble_eq_true rfl) ?_
    obtain ⟨r0v35, er0v35⟩ : ∃ z, z = (zup r0v30 4 (if x34 < ((r0v30 3) + 1) then ((r0v30 3) + 1) else x34)) := ⟨_, rfl⟩
    have hy := zlet_at er0v35 hy
    refine zj_pI (pc' := 131) (N := (zui (zul M 3 w0v31) 3 r0v35)) dX8_readRun_128 rfl fpX8_45 sh3 rfl zr_s er0v35 zm_s ?_
    refine zj_iload_n (pc' := 132) 2 dX8_readRun_131 rfl rfl rfl ?_
    obtain ⟨J43, eJ43, hy⟩ := zlet_ex hy
    have HJ43 : ∀ (u9 : Unit), J43 u9 = some res → zR Γ 2 YX8_readRun 153 [(0, .ref (zad Γ 3)), (1, .int x32), (2, .int x33)] [] (zui (zul M 3 w0v31) 3 r0v35) Q := by
      intro u9 hy
      have hy := zap1 eJ43 hy
      refine zj_iload_n (pc' := 154) 1 dX8_readRun_153 rfl rfl rfl ?_
      refine zj_if_ne (tgt := 174) (pc' := 157) dX8_readRun_154 rfl (by decide) (fun c36 => ?_) (fun c36 => ?_)
      · have hy := zt_f hy c36
        refine zj_aload_n (pc' := 175) 0 dX8_readRun_174 rfl rfl rfl ?_
        refine zj_iconst (pc' := 176) dX8_readRun_175 rfl kiconst_0 ?_
        obtain ⟨r0v42, er0v42⟩ : ∃ z, z = (zup r0v35 5 0) := ⟨_, rfl⟩
        have hy := zlet_at er0v42 hy
        refine zj_pI (pc' := 179) (N := (zui (zul M 3 w0v31) 3 r0v42)) dX8_readRun_176 rfl fpX8_57 sh3 rfl zr_s er0v42 zm_s ?_
        have e9 := Option.some.inj hy
        subst e9
        exact zj_vret dX8_readRun_179 rfl hq
      · have hy := zt_t hy c36
        refine zj_iload_n (pc' := 158) 2 dX8_readRun_157 rfl rfl rfl ?_
        refine zj_if_le (tgt := 174) (pc' := 161) dX8_readRun_158 rfl (by decide) (fun c37 => ?_) (fun c37 => ?_)
        · have hy := zt_t hy c37
          refine zj_aload_n (pc' := 175) 0 dX8_readRun_174 rfl rfl rfl ?_
          refine zj_iconst (pc' := 176) dX8_readRun_175 rfl kiconst_0 ?_
          obtain ⟨r0v38, er0v38⟩ : ∃ z, z = (zup r0v35 5 0) := ⟨_, rfl⟩
          have hy := zlet_at er0v38 hy
          refine zj_pI (pc' := 179) (N := (zui (zul M 3 w0v31) 3 r0v38)) dX8_readRun_176 rfl fpX8_57 sh3 rfl zr_s er0v38 zm_s ?_
          have e9 := Option.some.inj hy
          subst e9
          exact zj_vret dX8_readRun_179 rfl hq
        · have hy := zt_f hy c37
          refine zj_iload_n (pc' := 162) 2 dX8_readRun_161 rfl rfl rfl ?_
          refine zj_iconst (pc' := 163) dX8_readRun_162 rfl kiconst_3 ?_
          refine zj_icmp_gt (tgt := 174) (pc' := 166) dX8_readRun_163 rfl (by decide) (fun c39 => ?_) (fun c39 => ?_)
          · have hy := zt_t hy c39
            refine zj_aload_n (pc' := 175) 0 dX8_readRun_174 rfl rfl rfl ?_
            refine zj_iconst (pc' := 176) dX8_readRun_175 rfl kiconst_0 ?_
            obtain ⟨r0v40, er0v40⟩ : ∃ z, z = (zup r0v35 5 0) := ⟨_, rfl⟩
            have hy := zlet_at er0v40 hy
            refine zj_pI (pc' := 179) (N := (zui (zul M 3 w0v31) 3 r0v40)) dX8_readRun_176 rfl fpX8_57 sh3 rfl zr_s er0v40 zm_s ?_
            have e9 := Option.some.inj hy
            subst e9
            exact zj_vret dX8_readRun_179 rfl hq
          · have hy := zt_f hy c39
            refine zj_aload_n (pc' := 167) 0 dX8_readRun_166 rfl rfl rfl ?_
            refine zj_iconst (pc' := 168) dX8_readRun_167 rfl kiconst_2 ?_
            obtain ⟨r0v41, er0v41⟩ : ∃ z, z = (zup r0v35 5 2) := ⟨_, rfl⟩
            have hy := zlet_at er0v41 hy
            refine zj_pI (pc' := 171) (N := (zui (zul M 3 w0v31) 3 r0v41)) dX8_readRun_168 rfl fpX8_57 sh3 rfl zr_s er0v41 zm_s ?_
            refine zj_goto (tgt := 179) dX8_readRun_171 (by decide) ?_
            have e9 := Option.some.inj hy
            subst e9
            exact zj_vret dX8_readRun_179 rfl hq
    refine zj_if_ne (tgt := 153) (pc' := 135) dX8_readRun_132 rfl (by decide) (fun c44 => ?_) (fun c44 => ?_)
    · have hy := zt_f hy c44
      refine zj_loc [0, 1, 2] rfl ?_
      exact HJ43 () hy
    · have hy := zt_t hy c44
      refine zj_iload_n (pc' := 136) 1 dX8_readRun_135 rfl rfl rfl ?_
      refine zj_if_le (tgt := 153) (pc' := 139) dX8_readRun_136 rfl (by decide) (fun c45 => ?_) (fun c45 => ?_)
      · have hy := zt_t hy c45
        refine zj_loc [0, 1, 2] rfl ?_
        exact HJ43 () hy
      · have hy := zt_f hy c45
        refine zj_iload_n (pc' := 140) 1 dX8_readRun_139 rfl rfl rfl ?_
        refine zj_bipush (pc' := 142) dX8_readRun_140 rfl kbipush_7 ?_
        refine zj_icmp_gt (tgt := 153) (pc' := 145) dX8_readRun_142 rfl (by decide) (fun c46 => ?_) (fun c46 => ?_)
        · have hy := zt_t hy c46
          refine zj_loc [0, 1, 2] rfl ?_
          exact HJ43 () hy
        · have hy := zt_f hy c46
          refine zj_aload_n (pc' := 146) 0 dX8_readRun_145 rfl rfl rfl ?_
          refine zj_iconst (pc' := 147) dX8_readRun_146 rfl kiconst_1 ?_
          obtain ⟨r0v47, er0v47⟩ : ∃ z, z = (zup r0v35 5 1) := ⟨_, rfl⟩
          have hy := zlet_at er0v47 hy
          refine zj_pI (pc' := 150) (N := (zui (zul M 3 w0v31) 3 r0v47)) dX8_readRun_147 rfl fpX8_57 sh3 rfl zr_s er0v47 zm_s ?_
          refine zj_goto (tgt := 179) dX8_readRun_150 (by decide) ?_
          have e9 := Option.some.inj hy
          subst e9
          exact zj_vret dX8_readRun_179 rfl hq
  have HL11 : ∀ (n : Nat) (r0v5 : Nat → Int32) (w0v6 : Nat → Int64) (x7 : Int32) (x8 : Int32) (x9 : Int32), zlp (fun s => fRd_readRun_L28 r0_0 r0_0_0 x4 s.1 s.2.1 s.2.2.1 s.2.2.2.1 s.2.2.2.2) n (r0v5, w0v6, x7, x8, x9) = some r12 → zR Γ 2 YX8_readRun 28 [(0, .ref (zad Γ 3)), (1, .int x7), (2, .int x8), (3, .int x9), (4, .int x4)] [] (zui (zul M 3 w0v6) 3 r0v5) Q := by
    intro n
    induction n with
    | zero => intro r0v5 w0v6 x7 x8 x9 hn9; cases hn9
    | succ n ih14 =>
      intro r0v5 w0v6 x7 x8 x9 hn9
      obtain ⟨o9, hb9, h15, h16⟩ := zlp_step hn9
      have hy : fRd_readRun_L28 r0_0 r0_0_0 x4 r0v5 w0v6 x7 x8 x9 = some o9 := hb9
      unfold fRd_readRun_L28 at hy
      refine zj_iload_n (pc' := 29) 3 dX8_readRun_28 rfl rfl rfl ?_
      refine zj_iload (pc' := 31) 4 dX8_readRun_29 rfl rfl ?_
      refine zj_icmp_ge (tgt := 117) (pc' := 34) dX8_readRun_31 rfl (by decide) (fun c17 => ?_) (fun c17 => ?_)
      · have hy := zt_t hy c17
        have e9 := h16 _ (Option.some.inj hy).symm
        refine zj_loc [0, 1, 2, 3] rfl ?_
        exact HE10 _ _ _ _ _ e9.symm
      · have hy := zt_f hy c17
        refine zj_aload_n (pc' := 35) 0 dX8_readRun_34 rfl rfl rfl ?_
        refine zj_getR (pc' := 38) (j := 1) dX8_readRun_35 rfl flX8_19 sh3 rfl ?_
        refine zj_iload_n (pc' := 39) 3 dX8_readRun_38 rfl rfl rfl ?_
        obtain ⟨y18, hy18, hy⟩ := zt_b hy
        refine zj_V1 (pc' := 42) (z := YX10_byteOf) (As := [.int x9]) (N := (zui (zul M 3 w0v6) 3 r0v5)) dX8_readRun_39 rfl mlX8_73 lkX10_byteOf sh1 ⟨_, _, rfl⟩ rfl rfl (Nat.le_of_ble_eq_true rfl) (Nat.le_of_ble_eq_true rfl) (LX10_byteOf_1 Γ _ r0_0 r0_0_0 (zr_n rfl (zr_l e_i1)) (zr_n rfl (zr_l e_i2)) x9 hy18) rfl ?_
        refine zj_istore (pc' := 44) (L' := [(5, .int y18), (0, .ref (zad Γ 3)), (1, .int x7), (2, .int x8), (3, .int x9), (4, .int x4)]) dX8_readRun_42 rfl (by decide) rfl ?_
        refine zj_iload (pc' := 46) 0 dX8_readRun_44 rfl rfl ?_
        refine zj_bipush (pc' := 48) dX8_readRun_46 rfl kbipush_97 ?_
        obtain ⟨J24, eJ24, hy⟩ := zlet_ex hy
        have HJ24 : ∀ (u9 : Unit), J24 u9 = some o9 → zR Γ 2 YX8_readRun 77 [(0, .ref (zad Γ 3)), (1, .int x7), (2, .int x8), (3, .int x9), (4, .int x4), (5, .int y18)] [] (zui (zul M 3 w0v6) 3 r0v5) Q := by
          intro u9 hy
          have hy := zap1 eJ24 hy
          refine zj_iload (pc' := 79) 5 dX8_readRun_77 rfl rfl ?_
          refine zj_bipush (pc' := 81) dX8_readRun_79 rfl kbipush_48 ?_
          refine zj_icmp_lt (tgt := 117) (pc' := 84) dX8_readRun_81 rfl (by decide) (fun c19 => ?_) (fun c19 => ?_)
          · have hy := zt_t hy c19
            have e9 := h16 _ (Option.some.inj hy).symm
            refine zj_loc [0, 1, 2, 3] rfl ?_
            exact HE10 _ _ _ _ _ e9.symm
          · have hy := zt_f hy c19
            refine zj_iload (pc' := 86) 5 dX8_readRun_84 rfl rfl ?_
            refine zj_bipush (pc' := 88) dX8_readRun_86 rfl kbipush_57 ?_
            refine zj_icmp_gt (tgt := 117) (pc' := 91) dX8_readRun_88 rfl (by decide) (fun c20 => ?_) (fun c20 => ?_)
            · have hy := zt_t hy c20
              have e9 := h16 _ (Option.some.inj hy).symm
              refine zj_loc [0, 1, 2, 3] rfl ?_
              exact HE10 _ _ _ _ _ e9.symm
            · have hy := zt_f hy c20
              obtain ⟨x21, ex21⟩ : ∃ z : Int32, z = (x8 + 1) := ⟨_, rfl⟩
              have hy := zlet_at ex21 hy
              refine zj_iinc (pc' := 94) 2 (L' := [(2, .int x21), (0, .ref (zad Γ 3)), (1, .int x7), (3, .int x9), (4, .int x4), (5, .int y18)]) dX8_readRun_91 rfl rfl (by decide) (by rw [ci1, ← ex21]; rfl) ?_
              refine zj_aload_n (pc' := 95) 1 dX8_readRun_94 rfl rfl rfl ?_
              refine zj_aload_n (pc' := 96) 1 dX8_readRun_95 rfl rfl rfl ?_
              refine zj_fI (pc' := 99) dX8_readRun_96 rfl flX8_84 sh3 rfl zr_s rfl ?_
              refine zj_bipush (pc' := 101) dX8_readRun_99 rfl kbipush_10 ?_
              refine zj_imul (pc' := 102) dX8_readRun_101 rfl ?_
              refine zj_iload (pc' := 104) 5 dX8_readRun_102 rfl rfl ?_
              refine zj_bipush (pc' := 106) dX8_readRun_104 rfl kbipush_48 ?_
              refine zj_isub (pc' := 107) dX8_readRun_106 rfl ?_
              refine zj_iadd (pc' := 108) dX8_readRun_107 rfl ?_
              obtain ⟨r0v22, er0v22⟩ : ∃ z, z = (zup r0v5 7 (((r0v5 7) * 10) + (y18 - 48))) := ⟨_, rfl⟩
              have hy := zlet_at er0v22 hy
              refine zj_pI (pc' := 111) (N := (zui (zul M 3 w0v6) 3 r0v22)) dX8_readRun_108 rfl fpX8_84 sh3 rfl zr_s er0v22 zm_s ?_
              obtain ⟨x23, ex23⟩ : ∃ z : Int32, z = (x9 + 1) := ⟨_, rfl⟩
              have hy := zlet_at ex23 hy
              refine zj_iinc (pc' := 114) 3 (L' := [(3, .int x23), (2, .int x21), (0, .ref (zad Γ 3)), (1, .int x7), (4, .int x4), (5, .int y18)]) dX8_readRun_111 rfl rfl (by decide) (by rw [ci1, ← ex23]; rfl) ?_
              refine zj_goto (tgt := 28) dX8_readRun_114 (by decide) ?_
              have hn9 := h15 _ (Option.some.inj hy).symm
              refine zj_loc [2, 3, 1, 0, 4] rfl ?_
              exact ih14 _ _ _ _ _ hn9
        refine zj_icmp_lt (tgt := 77) (pc' := 51) dX8_readRun_48 rfl (by decide) (fun c25 => ?_) (fun c25 => ?_)
        · have hy := zt_t hy c25
          refine zj_loc [1, 2, 3, 4, 5, 0] rfl ?_
          exact HJ24 () hy
        · have hy := zt_f hy c25
          refine zj_iload (pc' := 53) 0 dX8_readRun_51 rfl rfl ?_
          refine zj_bipush (pc' := 55) dX8_readRun_53 rfl kbipush_122 ?_
          refine zj_icmp_gt (tgt := 77) (pc' := 58) dX8_readRun_55 rfl (by decide) (fun c26 => ?_) (fun c26 => ?_)
          · have hy := zt_t hy c26
            refine zj_loc [1, 2, 3, 4, 5, 0] rfl ?_
            exact HJ24 () hy
          · have hy := zt_f hy c26
            obtain ⟨x27, ex27⟩ : ∃ z : Int32, z = (x7 + 1) := ⟨_, rfl⟩
            have hy := zlet_at ex27 hy
            refine zj_iinc (pc' := 61) 2 (L' := [(1, .int x27), (5, .int y18), (0, .ref (zad Γ 3)), (2, .int x8), (3, .int x9), (4, .int x4)]) dX8_readRun_58 rfl rfl (by decide) (by rw [ci1, ← ex27]; rfl) ?_
            refine zj_aload_n (pc' := 62) 2 dX8_readRun_61 rfl rfl rfl ?_
            refine zj_aload_n (pc' := 63) 2 dX8_readRun_62 rfl rfl rfl ?_
            refine zj_fL (pc' := 66) dX8_readRun_63 rfl flX8_60 sh3 rfl (zq_i zq_s) rfl ?_
            refine zj_iload (pc' := 68) 1 dX8_readRun_66 rfl rfl ?_
            refine zj_S1 (pc' := 71) (z := YX8_withLetter) (As := [.long (w0v6 6), .int y18]) (N := (zui (zul M 3 w0v6) 3 r0v5)) dX8_readRun_68 rfl mlX8_35 lkX8_withLetter rfl rfl (Nat.le_of_ble_eq_true rfl) (Nat.le_of_ble_eq_true rfl) (LX8_withLetter Γ _ (w0v6 6) y18 rfl) rfl ?_
            obtain ⟨w0v28, ew0v28⟩ : ∃ z, z = (zup w0v6 6 (fRd_withLetter (w0v6 6) y18)) := ⟨_, rfl⟩
            have hy := zlet_at ew0v28 hy
            refine zj_pL (pc' := 74) (N := (zui (zul M 3 w0v28) 3 r0v5)) dX8_readRun_71 rfl fpX8_60 sh3 rfl (zq_i zq_s) ew0v28 (zm_li zn_s) ?_
            refine zj_goto (tgt := 111) dX8_readRun_74 (by decide) ?_
            obtain ⟨x29, ex29⟩ : ∃ z : Int32, z = (x9 + 1) := ⟨_, rfl⟩
            have hy := zlet_at ex29 hy
            refine zj_iinc (pc' := 114) 4 (L' := [(3, .int x29), (1, .int x27), (5, .int y18), (0, .ref (zad Γ 3)), (2, .int x8), (4, .int x4)]) dX8_readRun_111 rfl rfl (by decide) (by rw [ci1, ← ex29]; rfl) ?_
            refine zj_goto (tgt := 28) dX8_readRun_114 (by decide) ?_
            have hn9 := h15 _ (Option.some.inj hy).symm
            refine zj_loc [3, 1, 4, 0, 5] rfl ?_
            exact ih14 _ _ _ _ _ hn9
  exact HL11 n9 _ _ _ _ _ hn9
set_option maxRecDepth 20000 in
theorem LX8_readRun_3 (Γ : zG) (M : zM) (r0 : Nat → Int32) (w0 : Nat → Int64) (r0_0 : Nat → Int32) (r0_0_0 : Nat → Int32) (e_i3 : M.1 3 = r0) (e_l3 : M.2 3 = w0) (e_i1 : M.1 1 = r0_0) (e_i2 : M.1 2 = r0_0_0)  {res : (Nat → Int32) × (Nat → Int64)} (hy : (fRd_readRun r0 w0 r0_0 r0_0_0) = some res) : zK Γ 2 YX8_readRun [.ref (zad Γ 3)] M (fun v N => v = none ∧ N = (zui (zul M 3 res.2) 3 res.1)) :=
  zK_of (by decide) (Nat.le_of_ble_eq_true rfl) (TX8_readRun_3 Γ M r0 w0 r0_0 r0_0_0 e_i3 e_l3 e_i1 e_i2 hy ⟨rfl, rfl⟩)

noncomputable def fRd_goOn_L30 (r0_0 : Nat → Int32) (r0_0_0 : Nat → Int32) (x4 : Int32) (x5 : Int32) : Option ((Int32) ⊕ (Int32)) :=
  (if x4 ≤ x5 then
  some (.inr x5)
  else
  (fTp_byteOf r0_0 r0_0_0 x5).bind (fun (y14 : Int32) =>
  (if y14 = 32 then
  zlet (x5 + 1) (fun (x16 : Int32) =>
  some (.inl x16))
  else
  (if y14 = 10 then
  zlet (x5 + 1) (fun (x18 : Int32) =>
  some (.inl x18))
  else
  some (.inr x5)))))
noncomputable def fRd_goOn (r0 : Nat → Int32) (w0 : Nat → Int64) (r0_0 : Nat → Int32) (r0_0_0 : Nat → Int32) : Option ((Nat → Int32) × (Nat → Int64)) :=
  (if (r0 8) = 0 then
  zlet (fTp_length r0_0) (fun (x2 : Int32) =>
  zlet (r0 4) (fun (x3 : Int32) =>
  zlet (if (r0 2) < x2 then (r0 2) else x2) (fun (x4 : Int32) =>
  (zLP (fun s => fRd_goOn_L30 r0_0 r0_0_0 x4 s) x3).bind (fun r8 =>
  zlet (fun (u9 : Unit) =>
  (if r8 < x2 then
  zlet (zup r0 3 r8) (fun (r0v21 : Nat → Int32) =>
  zlet (zup r0v21 4 (r8 + 1)) (fun (r0v22 : Nat → Int32) =>
  (fTp_byteOf r0_0 r0_0_0 r8).bind (fun (y23 : Int32) =>
  zlet (zup r0v22 5 y23) (fun (r0v24 : Nat → Int32) =>
  (if (fRd_isSomeSign (r0v24 5)) = true then
  some (r0v24, w0)
  else
  (fRd_readRun r0v24 w0 r0_0 r0_0_0).bind (fun (y26 : (Nat → Int32) × (Nat → Int64)) =>
  some (y26.1, y26.2)))))))
  else
  zlet (zup r0 3 x2) (fun (r0v27 : Nat → Int32) =>
  zlet (zup r0v27 5 3) (fun (r0v28 : Nat → Int32) =>
  some (r0v28, w0))))) (fun J29 =>
  (if x2 ≤ (r0 2) then
  J29 ()
  else
  (if r8 < (r0 2) then
  J29 ()
  else
  zlet (zup r0 3 (r0 2)) (fun (r0v32 : Nat → Int32) =>
  zlet (zup r0v32 5 0) (fun (r0v33 : Nat → Int32) =>
  some (r0v33, w0))))))))))
  else
  some (r0, w0))

set_option maxRecDepth 20000 in
theorem TX8_goOn_3 (Γ : zG) {Q : Option Value → zM → Prop} (M : zM) (r0 : Nat → Int32) (w0 : Nat → Int64) (r0_0 : Nat → Int32) (r0_0_0 : Nat → Int32) (e_i3 : M.1 3 = r0) (e_l3 : M.2 3 = w0) (e_i1 : M.1 1 = r0_0) (e_i2 : M.1 2 = r0_0_0)  {res : (Nat → Int32) × (Nat → Int64)} (hy : (fRd_goOn r0 w0 r0_0 r0_0_0) = some res) (hq : Q none (zui (zul M 3 res.2) 3 res.1)) : zR Γ 3 YX8_goOn 0 [(0, .ref (zad Γ 3))] [] M Q := by
  unfold fRd_goOn at hy
  refine zj_aload_n (pc' := 1) 0 dX8_goOn_0 rfl rfl rfl ?_
  refine zj_fI (pc' := 4) dX8_goOn_1 rfl flX8_48 sh3 rfl e_i3 rfl ?_
  refine zj_if_eq (tgt := 8) (pc' := 7) dX8_goOn_4 rfl (by decide) (fun c1 => ?_) (fun c1 => ?_)
  · have hy := zt_t hy c1
    refine zj_aload_n (pc' := 9) 0 dX8_goOn_8 rfl rfl rfl ?_
    refine zj_getR (pc' := 12) (j := 1) dX8_goOn_9 rfl flX8_19 sh3 rfl ?_
    refine zj_V1 (pc' := 15) (z := YX10_length) (As := []) (N := M) dX8_goOn_12 rfl mlX8_64 lkX10_length sh1 ⟨_, _, rfl⟩ rfl rfl (Nat.le_of_ble_eq_true rfl) (Nat.le_of_ble_eq_true rfl) (LX10_length_1 Γ _ r0_0 e_i1 rfl) rfl ?_
    refine zj_topi (fun x2 ex2 => ?_)
    have hy := zlet_at ex2 hy
    refine zj_istore_n (pc' := 16) (L' := [(1, .int x2), (0, .ref (zad Γ 3))]) dX8_goOn_15 rfl rfl (by decide) rfl ?_
    refine zj_aload_n (pc' := 17) 1 dX8_goOn_16 rfl rfl rfl ?_
    refine zj_fI (pc' := 20) dX8_goOn_17 rfl flX8_45 sh3 rfl e_i3 rfl ?_
    refine zj_topi (fun x3 ex3 => ?_)
    have hy := zlet_at ex3 hy
    refine zj_istore_n (pc' := 21) (L' := [(2, .int x3), (1, .int x2), (0, .ref (zad Γ 3))]) dX8_goOn_20 rfl rfl (by decide) rfl ?_
    refine zj_iload_n (pc' := 22) 1 dX8_goOn_21 rfl rfl rfl ?_
    refine zj_aload_n (pc' := 23) 2 dX8_goOn_22 rfl rfl rfl ?_
    refine zj_fI (pc' := 26) dX8_goOn_23 rfl flX8_41 sh3 rfl e_i3 rfl ?_
    refine zj_mmin (pc' := 29) dX8_goOn_26 rfl mlX8_67 zmminw (Nat.le_of_ble_eq_true rfl) (Nat.le_of_ble_eq_true rfl) ?_
    refine zj_topi (fun x4 ex4 => ?_)
    have hy := zlet_at ex4 hy
    refine zj_istore_n (pc' := 30) (L' := [(3, .int x4), (2, .int x3), (1, .int x2), (0, .ref (zad Γ 3))]) dX8_goOn_29 rfl rfl (by decide) rfl ?_
    refine zj_loc [3, 2, 1, 0] rfl ?_
    obtain ⟨r8, hr9, hyo9⟩ := zt_b hy
    obtain ⟨n9, hn9⟩ := zLP_some hr9
    have HE6 : ∀ (x19 : Int32), r8 = x19 → zR Γ 3 YX8_goOn 68 [(0, .ref (zad Γ 3)), (1, .int x2), (2, .int x19)] [] M Q := by
      intro x19 e9
      have hy := hyo9
      try rw [e9] at hy
      try dsimp only at hy
      refine zj_iload_n (pc' := 69) 1 dX8_goOn_68 rfl rfl rfl ?_
      refine zj_aload_n (pc' := 70) 0 dX8_goOn_69 rfl rfl rfl ?_
      refine zj_fI (pc' := 73) dX8_goOn_70 rfl flX8_41 sh3 rfl e_i3 rfl ?_
      obtain ⟨J29, eJ29, hy⟩ := zlet_ex hy
      have HJ29 : ∀ (u9 : Unit), J29 u9 = some res → zR Γ 3 YX8_goOn 100 [(0, .ref (zad Γ 3)), (1, .int x2), (2, .int x19)] [] M Q := by
        intro u9 hy
        have hy := zap1 eJ29 hy
        refine zj_iload_n (pc' := 101) 2 dX8_goOn_100 rfl rfl rfl ?_
        refine zj_iload_n (pc' := 102) 1 dX8_goOn_101 rfl rfl rfl ?_
        refine zj_icmp_lt (tgt := 118) (pc' := 105) dX8_goOn_102 rfl (by decide) (fun c20 => ?_) (fun c20 => ?_)
        · have hy := zt_t hy c20
          refine zj_aload_n (pc' := 119) 0 dX8_goOn_118 rfl rfl rfl ?_
          refine zj_iload_n (pc' := 120) 2 dX8_goOn_119 rfl rfl rfl ?_
          obtain ⟨r0v21, er0v21⟩ : ∃ z, z = (zup r0 3 x19) := ⟨_, rfl⟩
          have hy := zlet_at er0v21 hy
          refine zj_pI (pc' := 123) (N := (zui M 3 r0v21)) dX8_goOn_120 rfl fpX8_54 sh3 rfl e_i3 er0v21 rfl ?_
          refine zj_aload_n (pc' := 124) 0 dX8_goOn_123 rfl rfl rfl ?_
          refine zj_iload_n (pc' := 125) 2 dX8_goOn_124 rfl rfl rfl ?_
          refine zj_iconst (pc' := 126) dX8_goOn_125 rfl kiconst_1 ?_
          refine zj_iadd (pc' := 127) dX8_goOn_126 rfl ?_
          obtain ⟨r0v22, er0v22⟩ : ∃ z, z = (zup r0v21 4 (x19 + 1)) := ⟨_, rfl⟩
          have hy := zlet_at er0v22 hy
          refine zj_pI (pc' := 130) (N := (zui M 3 r0v22)) dX8_goOn_127 rfl fpX8_45 sh3 rfl zr_s er0v22 zm_s ?_
          refine zj_aload_n (pc' := 131) 0 dX8_goOn_130 rfl rfl rfl ?_
          refine zj_aload_n (pc' := 132) 0 dX8_goOn_131 rfl rfl rfl ?_
          refine zj_getR (pc' := 135) (j := 1) dX8_goOn_132 rfl flX8_19 sh3 rfl ?_
          refine zj_iload_n (pc' := 136) 2 dX8_goOn_135 rfl rfl rfl ?_
          obtain ⟨y23, hy23, hy⟩ := zt_b hy
          refine zj_V1 (pc' := 139) (z := YX10_byteOf) (As := [.int x19]) (N := (zui M 3 r0v22)) dX8_goOn_136 rfl mlX8_73 lkX10_byteOf sh1 ⟨_, _, rfl⟩ rfl rfl (Nat.le_of_ble_eq_true rfl) (Nat.le_of_ble_eq_true rfl) (LX10_byteOf_1 Γ _ r0_0 r0_0_0 (zr_n rfl e_i1) (zr_n rfl e_i2) x19 hy23) rfl ?_
          obtain ⟨r0v24, er0v24⟩ : ∃ z, z = (zup r0v22 5 y23) := ⟨_, rfl⟩
          have hy := zlet_at er0v24 hy
          refine zj_pI (pc' := 142) (N := (zui M 3 r0v24)) dX8_goOn_139 rfl fpX8_57 sh3 rfl zr_s er0v24 zm_s ?_
          refine zj_aload_n (pc' := 143) 0 dX8_goOn_142 rfl rfl rfl ?_
          refine zj_fI (pc' := 146) dX8_goOn_143 rfl flX8_57 sh3 rfl zr_s rfl ?_
          refine zj_S1 (pc' := 149) (z := YX8_isSomeSign) (As := [.int (r0v24 5)]) (N := (zui M 3 r0v24)) dX8_goOn_146 rfl mlX8_77 lkX8_isSomeSign rfl rfl (Nat.le_of_ble_eq_true rfl) (Nat.le_of_ble_eq_true rfl) (LX8_isSomeSign Γ _ (r0v24 5) rfl) rfl ?_
          refine zj_bif_ne (tgt := 156) (pc' := 152) dX8_goOn_149 rfl (by decide) (fun c25 => ?_) (fun c25 => ?_)
          · have hy := zt_t hy c25
            have e9 := Option.some.inj hy
            subst e9
            refine zj_mem (N := (zui (zul M 3 w0) 3 r0v24)) (zself_l (zq_i e_l3) (zm_li rfl)) ?_
            exact zj_vret dX8_goOn_156 rfl hq
          · have hy := zt_f hy c25
            refine zj_aload_n (pc' := 153) 0 dX8_goOn_152 rfl rfl rfl ?_
            obtain ⟨y26, hy26, hy⟩ := zt_b hy
            refine zj_V0 (pc' := 156) (z := YX8_readRun) (As := []) (N := (zui (zul M 3 y26.2) 3 y26.1)) dX8_goOn_153 rfl mlX8_81 lkX8_readRun sh3 ⟨_, _, rfl⟩ rfl rfl (Nat.le_of_ble_eq_true rfl) (Nat.le_of_ble_eq_true rfl) (LX8_readRun_3 Γ _ r0v24 w0 r0_0 r0_0_0 zr_s (zq_i e_l3) (zr_n rfl e_i1) (zr_n rfl e_i2) hy26) ((zch_i (zm_li rfl) zm_s)).symm ?_
            have e9 := Option.some.inj hy
            subst e9
            exact zj_vret dX8_goOn_156 rfl hq
        · have hy := zt_f hy c20
          refine zj_aload_n (pc' := 106) 0 dX8_goOn_105 rfl rfl rfl ?_
          refine zj_iload_n (pc' := 107) 1 dX8_goOn_106 rfl rfl rfl ?_
          obtain ⟨r0v27, er0v27⟩ : ∃ z, z = (zup r0 3 x2) := ⟨_, rfl⟩
          have hy := zlet_at er0v27 hy
          refine zj_pI (pc' := 110) (N := (zui M 3 r0v27)) dX8_goOn_107 rfl fpX8_54 sh3 rfl e_i3 er0v27 rfl ?_
          refine zj_aload_n (pc' := 111) 0 dX8_goOn_110 rfl rfl rfl ?_
          refine zj_iconst (pc' := 112) dX8_goOn_111 rfl kiconst_3 ?_
          obtain ⟨r0v28, er0v28⟩ : ∃ z, z = (zup r0v27 5 3) := ⟨_, rfl⟩
          have hy := zlet_at er0v28 hy
          refine zj_pI (pc' := 115) (N := (zui M 3 r0v28)) dX8_goOn_112 rfl fpX8_57 sh3 rfl zr_s er0v28 zm_s ?_
          refine zj_goto (tgt := 156) dX8_goOn_115 (by decide) ?_
          have e9 := Option.some.inj hy
          subst e9
          refine zj_mem (N := (zui (zul M 3 w0) 3 r0v28)) (zself_l (zq_i e_l3) (zm_li rfl)) ?_
          exact zj_vret dX8_goOn_156 rfl hq
      refine zj_icmp_le (tgt := 100) (pc' := 76) dX8_goOn_73 rfl (by decide) (fun c30 => ?_) (fun c30 => ?_)
      · have hy := zt_t hy c30
        exact HJ29 () hy
      · have hy := zt_f hy c30
        refine zj_iload_n (pc' := 77) 2 dX8_goOn_76 rfl rfl rfl ?_
        refine zj_aload_n (pc' := 78) 0 dX8_goOn_77 rfl rfl rfl ?_
        refine zj_fI (pc' := 81) dX8_goOn_78 rfl flX8_41 sh3 rfl e_i3 rfl ?_
        refine zj_icmp_lt (tgt := 100) (pc' := 84) dX8_goOn_81 rfl (by decide) (fun c31 => ?_) (fun c31 => ?_)
        · have hy := zt_t hy c31
          exact HJ29 () hy
        · have hy := zt_f hy c31
          refine zj_aload_n (pc' := 85) 0 dX8_goOn_84 rfl rfl rfl ?_
          refine zj_aload_n (pc' := 86) 0 dX8_goOn_85 rfl rfl rfl ?_
          refine zj_fI (pc' := 89) dX8_goOn_86 rfl flX8_41 sh3 rfl e_i3 rfl ?_
          obtain ⟨r0v32, er0v32⟩ : ∃ z, z = (zup r0 3 (r0 2)) := ⟨_, rfl⟩
          have hy := zlet_at er0v32 hy
          refine zj_pI (pc' := 92) (N := (zui M 3 r0v32)) dX8_goOn_89 rfl fpX8_54 sh3 rfl e_i3 er0v32 rfl ?_
          refine zj_aload_n (pc' := 93) 0 dX8_goOn_92 rfl rfl rfl ?_
          refine zj_iconst (pc' := 94) dX8_goOn_93 rfl kiconst_0 ?_
          obtain ⟨r0v33, er0v33⟩ : ∃ z, z = (zup r0v32 5 0) := ⟨_, rfl⟩
          have hy := zlet_at er0v33 hy
          refine zj_pI (pc' := 97) (N := (zui M 3 r0v33)) dX8_goOn_94 rfl fpX8_57 sh3 rfl zr_s er0v33 zm_s ?_
          refine zj_goto (tgt := 156) dX8_goOn_97 (by decide) ?_
          have e9 := Option.some.inj hy
          subst e9
          refine zj_mem (N := (zui (zul M 3 w0) 3 r0v33)) (zself_l (zq_i e_l3) (zm_li rfl)) ?_
          exact zj_vret dX8_goOn_156 rfl hq
    have HL7 : ∀ (n : Nat) (x5 : Int32), zlp (fun s => fRd_goOn_L30 r0_0 r0_0_0 x4 s) n x5 = some r8 → zR Γ 3 YX8_goOn 30 [(0, .ref (zad Γ 3)), (1, .int x2), (2, .int x5), (3, .int x4)] [] M Q := by
      intro n
      induction n with
      | zero => intro x5 hn9; cases hn9
      | succ n ih10 =>
        intro x5 hn9
        obtain ⟨o9, hb9, h11, h12⟩ := zlp_step hn9
        have hy : fRd_goOn_L30 r0_0 r0_0_0 x4 x5 = some o9 := hb9
        unfold fRd_goOn_L30 at hy
        refine zj_iload_n (pc' := 31) 2 dX8_goOn_30 rfl rfl rfl ?_
        refine zj_iload_n (pc' := 32) 3 dX8_goOn_31 rfl rfl rfl ?_
        refine zj_icmp_ge (tgt := 68) (pc' := 35) dX8_goOn_32 rfl (by decide) (fun c13 => ?_) (fun c13 => ?_)
        · have hy := zt_t hy c13
          have e9 := h12 _ (Option.some.inj hy).symm
          refine zj_loc [0, 1, 2] rfl ?_
          exact HE6 _ e9.symm
        · have hy := zt_f hy c13
          refine zj_aload_n (pc' := 36) 0 dX8_goOn_35 rfl rfl rfl ?_
          refine zj_getR (pc' := 39) (j := 1) dX8_goOn_36 rfl flX8_19 sh3 rfl ?_
          refine zj_iload_n (pc' := 40) 2 dX8_goOn_39 rfl rfl rfl ?_
          obtain ⟨y14, hy14, hy⟩ := zt_b hy
          refine zj_V1 (pc' := 43) (z := YX10_byteOf) (As := [.int x5]) (N := M) dX8_goOn_40 rfl mlX8_73 lkX10_byteOf sh1 ⟨_, _, rfl⟩ rfl rfl (Nat.le_of_ble_eq_true rfl) (Nat.le_of_ble_eq_true rfl) (LX10_byteOf_1 Γ _ r0_0 r0_0_0 e_i1 e_i2 x5 hy14) rfl ?_
          refine zj_istore (pc' := 45) (L' := [(4, .int y14), (0, .ref (zad Γ 3)), (1, .int x2), (2, .int x5), (3, .int x4)]) dX8_goOn_43 rfl (by decide) rfl ?_
          refine zj_iload (pc' := 47) 0 dX8_goOn_45 rfl rfl ?_
          refine zj_bipush (pc' := 49) dX8_goOn_47 rfl kbipush_32 ?_
          refine zj_icmp_eq (tgt := 62) (pc' := 52) dX8_goOn_49 rfl (by decide) (fun c15 => ?_) (fun c15 => ?_)
          · have hy := zt_t hy c15
            obtain ⟨x16, ex16⟩ : ∃ z : Int32, z = (x5 + 1) := ⟨_, rfl⟩
            have hy := zlet_at ex16 hy
            refine zj_iinc (pc' := 65) 3 (L' := [(2, .int x16), (4, .int y14), (0, .ref (zad Γ 3)), (1, .int x2), (3, .int x4)]) dX8_goOn_62 rfl rfl (by decide) (by rw [ci1, ← ex16]; rfl) ?_
            refine zj_goto (tgt := 30) dX8_goOn_65 (by decide) ?_
            have hn9 := h11 _ (Option.some.inj hy).symm
            refine zj_loc [2, 3, 0, 4] rfl ?_
            exact ih10 _ hn9
          · have hy := zt_f hy c15
            refine zj_iload (pc' := 54) 0 dX8_goOn_52 rfl rfl ?_
            refine zj_bipush (pc' := 56) dX8_goOn_54 rfl kbipush_10 ?_
            refine zj_icmp_eq (tgt := 62) (pc' := 59) dX8_goOn_56 rfl (by decide) (fun c17 => ?_) (fun c17 => ?_)
            · have hy := zt_t hy c17
              obtain ⟨x18, ex18⟩ : ∃ z : Int32, z = (x5 + 1) := ⟨_, rfl⟩
              have hy := zlet_at ex18 hy
              refine zj_iinc (pc' := 65) 3 (L' := [(2, .int x18), (4, .int y14), (0, .ref (zad Γ 3)), (1, .int x2), (3, .int x4)]) dX8_goOn_62 rfl rfl (by decide) (by rw [ci1, ← ex18]; rfl) ?_
              refine zj_goto (tgt := 30) dX8_goOn_65 (by decide) ?_
              have hn9 := h11 _ (Option.some.inj hy).symm
              refine zj_loc [2, 3, 0, 4] rfl ?_
              exact ih10 _ hn9
            · have hy := zt_f hy c17
              refine zj_goto (tgt := 68) dX8_goOn_59 (by decide) ?_
              have e9 := h12 _ (Option.some.inj hy).symm
              refine zj_loc [1, 2, 3] rfl ?_
              exact HE6 _ e9.symm
    exact HL7 n9 _ hn9
  · have hy := zt_f hy c1
    have e9 := Option.some.inj hy
    subst e9
    refine zj_mem (N := (zul M 3 w0)) (zself_l e_l3 rfl) ?_
    refine zj_mem (N := (zui (zul M 3 w0) 3 r0)) (zself_i (zr_l e_i3) rfl) ?_
    exact zj_vret dX8_goOn_7 rfl hq
set_option maxRecDepth 20000 in
theorem LX8_goOn_3 (Γ : zG) (M : zM) (r0 : Nat → Int32) (w0 : Nat → Int64) (r0_0 : Nat → Int32) (r0_0_0 : Nat → Int32) (e_i3 : M.1 3 = r0) (e_l3 : M.2 3 = w0) (e_i1 : M.1 1 = r0_0) (e_i2 : M.1 2 = r0_0_0)  {res : (Nat → Int32) × (Nat → Int64)} (hy : (fRd_goOn r0 w0 r0_0 r0_0_0) = some res) : zK Γ 3 YX8_goOn [.ref (zad Γ 3)] M (fun v N => v = none ∧ N = (zui (zul M 3 res.2) 3 res.1)) :=
  zK_of (by decide) (Nat.le_of_ble_eq_true rfl) (TX8_goOn_3 Γ M r0 w0 r0_0 r0_0_0 e_i3 e_l3 e_i1 e_i2 hy ⟨rfl, rfl⟩)

noncomputable def fRd_start (r0 : Nat → Int32) (w0 : Nat → Int64) (r0_0 : Nat → Int32) (r0_0_0 : Nat → Int32) (a1 : Int32) : Option ((Nat → Int32) × (Nat → Int64)) :=
  zlet (zup r0 2 a1) (fun (r0v1 : Nat → Int32) =>
  zlet (zup r0v1 4 0) (fun (r0v2 : Nat → Int32) =>
  zlet (zup r0v2 8 0) (fun (r0v3 : Nat → Int32) =>
  (fRd_goOn r0v3 w0 r0_0 r0_0_0).bind (fun (y4 : (Nat → Int32) × (Nat → Int64)) =>
  some (y4.1, y4.2)))))

set_option maxRecDepth 20000 in
theorem TX8_start_3 (Γ : zG) {Q : Option Value → zM → Prop} (M : zM) (r0 : Nat → Int32) (w0 : Nat → Int64) (r0_0 : Nat → Int32) (r0_0_0 : Nat → Int32) (e_i3 : M.1 3 = r0) (e_l3 : M.2 3 = w0) (e_i1 : M.1 1 = r0_0) (e_i2 : M.1 2 = r0_0_0) (a1 : Int32) {res : (Nat → Int32) × (Nat → Int64)} (hy : (fRd_start r0 w0 r0_0 r0_0_0 a1) = some res) (hq : Q none (zui (zul M 3 res.2) 3 res.1)) : zR Γ 4 YX8_start 0 [(0, .ref (zad Γ 3)), (1, .int a1)] [] M Q := by
  unfold fRd_start at hy
  refine zj_aload_n (pc' := 1) 0 dX8_start_0 rfl rfl rfl ?_
  refine zj_iload_n (pc' := 2) 1 dX8_start_1 rfl rfl rfl ?_
  obtain ⟨r0v1, er0v1⟩ : ∃ z, z = (zup r0 2 a1) := ⟨_, rfl⟩
  have hy := zlet_at er0v1 hy
  refine zj_pI (pc' := 5) (N := (zui M 3 r0v1)) dX8_start_2 rfl fpX8_41 sh3 rfl e_i3 er0v1 rfl ?_
  refine zj_aload_n (pc' := 6) 0 dX8_start_5 rfl rfl rfl ?_
  refine zj_iconst (pc' := 7) dX8_start_6 rfl kiconst_0 ?_
  obtain ⟨r0v2, er0v2⟩ : ∃ z, z = (zup r0v1 4 0) := ⟨_, rfl⟩
  have hy := zlet_at er0v2 hy
  refine zj_pI (pc' := 10) (N := (zui M 3 r0v2)) dX8_start_7 rfl fpX8_45 sh3 rfl zr_s er0v2 zm_s ?_
  refine zj_aload_n (pc' := 11) 0 dX8_start_10 rfl rfl rfl ?_
  refine zj_iconst (pc' := 12) dX8_start_11 rfl kiconst_0 ?_
  obtain ⟨r0v3, er0v3⟩ : ∃ z, z = (zup r0v2 8 0) := ⟨_, rfl⟩
  have hy := zlet_at er0v3 hy
  refine zj_pI (pc' := 15) (N := (zui M 3 r0v3)) dX8_start_12 rfl fpX8_48 sh3 rfl zr_s er0v3 zm_s ?_
  refine zj_aload_n (pc' := 16) 0 dX8_start_15 rfl rfl rfl ?_
  obtain ⟨y4, hy4, hy⟩ := zt_b hy
  refine zj_V0 (pc' := 19) (z := YX8_goOn) (As := []) (N := (zui (zul M 3 y4.2) 3 y4.1)) dX8_start_16 rfl mlX8_51 lkX8_goOn sh3 ⟨_, _, rfl⟩ rfl rfl (Nat.le_of_ble_eq_true rfl) (Nat.le_of_ble_eq_true rfl) (LX8_goOn_3 Γ _ r0v3 w0 r0_0 r0_0_0 zr_s (zq_i e_l3) (zr_n rfl e_i1) (zr_n rfl e_i2) hy4) ((zch_i (zm_li rfl) zm_s)).symm ?_
  have e9 := Option.some.inj hy
  subst e9
  exact zj_vret dX8_start_19 rfl hq
set_option maxRecDepth 20000 in
theorem LX8_start_3 (Γ : zG) (M : zM) (r0 : Nat → Int32) (w0 : Nat → Int64) (r0_0 : Nat → Int32) (r0_0_0 : Nat → Int32) (e_i3 : M.1 3 = r0) (e_l3 : M.2 3 = w0) (e_i1 : M.1 1 = r0_0) (e_i2 : M.1 2 = r0_0_0) (a1 : Int32) {res : (Nat → Int32) × (Nat → Int64)} (hy : (fRd_start r0 w0 r0_0 r0_0_0 a1) = some res) : zK Γ 4 YX8_start [.ref (zad Γ 3), .int a1] M (fun v N => v = none ∧ N = (zui (zul M 3 res.2) 3 res.1)) :=
  zK_of (by decide) (Nat.le_of_ble_eq_true rfl) (TX8_start_3 Γ M r0 w0 r0_0 r0_0_0 e_i3 e_l3 e_i1 e_i2 a1 hy ⟨rfl, rfl⟩)

noncomputable def fJA_fill_8_L5 (a2 : Int32) (r0v1 : Nat → Int32) (x2 : Int32) : Option (((Nat → Int32) × Int32) ⊕ ((Nat → Int32))) :=
  (if 8 ≤ x2 then
  some (.inr r0v1)
  else
  (zwr r0v1 8 x2 a2).bind (fun (r0v11 : Nat → Int32) =>
  zlet (x2 + 1) (fun (x12 : Int32) =>
  some (.inl (r0v11, x12)))))
noncomputable def fJA_fill_8 (r0 : Nat → Int32) (a2 : Int32) : Option ((Nat → Int32)) :=
  (zLP (fun s => fJA_fill_8_L5 a2 s.1 s.2) (r0, 0)).bind (fun r5 =>
  some r5)

set_option maxRecDepth 20000 in
theorem TJ7_fill_53178_13 (Γ : zG) {Q : Option Value → zM → Prop} (M : zM) (r0 : Nat → Int32) (e_i13 : M.1 13 = r0) (a2 : Int32) {res : (Nat → Int32)} (hy : (fJA_fill_8 r0 a2) = some res) (hq : Q none (zui M 13 res)) : zR Γ 1 YJ7_fill_53178 0 [(0, .ref (zad Γ 13)), (1, .int a2)] [] M Q := by
  unfold fJA_fill_8 at hy
  refine zj_iconst (pc' := 1) dJ7_fill_53178_0 rfl kiconst_0 ?_
  refine zj_istore_n (pc' := 2) (L' := [(2, .int 0), (0, .ref (zad Γ 13)), (1, .int a2)]) dJ7_fill_53178_1 rfl rfl (by decide) rfl ?_
  refine zj_aload_n (pc' := 3) 1 dJ7_fill_53178_2 rfl rfl rfl ?_
  refine zj_alen (pc' := 4) (v := 8) dJ7_fill_53178_3 rfl sh13 (by decide) ?_
  refine zj_istore_n (pc' := 5) (L' := [(3, .int 8), (2, .int 0), (0, .ref (zad Γ 13)), (1, .int a2)]) dJ7_fill_53178_4 rfl rfl (by decide) rfl ?_
  refine zj_loc [2, 3, 1, 0] rfl ?_
  refine zj_mem (N := (zui M 13 r0)) (zself_i e_i13 rfl) ?_
  obtain ⟨r5, hr9, hyo6⟩ := zt_b hy
  obtain ⟨n9, hn9⟩ := zLP_some hr9
  have HE3 : ∀ (r0v13 : Nat → Int32), r5 = r0v13 → zR Γ 1 YJ7_fill_53178 20 [] [] (zui M 13 r0v13) Q := by
    intro r0v13 e9
    have hy := hyo6
    try rw [e9] at hy
    try dsimp only at hy
    have e9 := Option.some.inj hy
    subst e9
    exact zj_vret dJ7_fill_53178_20 rfl hq
  have HL4 : ∀ (n : Nat) (r0v1 : Nat → Int32) (x2 : Int32), zlp (fun s => fJA_fill_8_L5 a2 s.1 s.2) n (r0v1, x2) = some r5 → zR Γ 1 YJ7_fill_53178 5 [(0, .ref (zad Γ 13)), (1, .int a2), (2, .int x2), (3, .int 8)] [] (zui M 13 r0v1) Q := by
    intro n
    induction n with
    | zero => intro r0v1 x2 hn9; cases hn9
    | succ n ih7 =>
      intro r0v1 x2 hn9
      obtain ⟨o9, hb9, h8, h9⟩ := zlp_step hn9
      have hy : fJA_fill_8_L5 a2 r0v1 x2 = some o9 := hb9
      unfold fJA_fill_8_L5 at hy
      refine zj_iload_n (pc' := 6) 2 dJ7_fill_53178_5 rfl rfl rfl ?_
      refine zj_iload_n (pc' := 7) 3 dJ7_fill_53178_6 rfl rfl rfl ?_
      refine zj_icmp_ge (tgt := 20) (pc' := 10) dJ7_fill_53178_7 rfl (by decide) (fun c10 => ?_) (fun c10 => ?_)
      · have hy := zt_t hy c10
        have e9 := h9 _ (Option.some.inj hy).symm
        refine zj_loc [] rfl ?_
        exact HE3 _ e9.symm
      · have hy := zt_f hy c10
        refine zj_aload_n (pc' := 11) 0 dJ7_fill_53178_10 rfl rfl rfl ?_
        refine zj_iload_n (pc' := 12) 2 dJ7_fill_53178_11 rfl rfl rfl ?_
        refine zj_iload_n (pc' := 13) 1 dJ7_fill_53178_12 rfl rfl rfl ?_
        obtain ⟨r0v11, hr0v11, hy⟩ := zt_b hy
        refine zj_wri (pc' := 14) (N := (zui M 13 r0v11)) dJ7_fill_53178_13 rfl sh13 zr_s hr0v11 zm_s ?_
        obtain ⟨x12, ex12⟩ : ∃ z : Int32, z = (x2 + 1) := ⟨_, rfl⟩
        have hy := zlet_at ex12 hy
        refine zj_iinc (pc' := 17) 2 (L' := [(2, .int x12), (0, .ref (zad Γ 13)), (1, .int a2), (3, .int 8)]) dJ7_fill_53178_14 rfl rfl (by decide) (by rw [ci1, ← ex12]; rfl) ?_
        refine zj_goto (tgt := 5) dJ7_fill_53178_17 (by decide) ?_
        have hn9 := h8 _ (Option.some.inj hy).symm
        refine zj_loc [1, 2, 0, 3] rfl ?_
        exact ih7 _ _ hn9
  exact HL4 n9 _ _ hn9
set_option maxRecDepth 20000 in
theorem LJ7_fill_53178_13 (Γ : zG) (M : zM) (r0 : Nat → Int32) (e_i13 : M.1 13 = r0) (a2 : Int32) {res : (Nat → Int32)} (hy : (fJA_fill_8 r0 a2) = some res) : zK Γ 1 YJ7_fill_53178 [.ref (zad Γ 13), .int a2] M (fun v N => v = none ∧ N = (zui M 13 res)) :=
  zK_of (by decide) (Nat.le_of_ble_eq_true rfl) (TJ7_fill_53178_13 Γ M r0 e_i13 a2 hy ⟨rfl, rfl⟩)

noncomputable def fPl_clear (r0 : Nat → Int32) (r0_2 : Nat → Int32) : Option ((Nat → Int32) × (Nat → Int32)) :=
  (fJA_fill_8 r0_2 0).bind (fun (y1 : (Nat → Int32)) =>
  zlet (zup r0 4 0) (fun (r0v2 : Nat → Int32) =>
  zlet (zup r0v2 5 0) (fun (r0v3 : Nat → Int32) =>
  zlet (zup r0v3 6 0) (fun (r0v4 : Nat → Int32) =>
  some (r0v4, y1)))))

set_option maxRecDepth 20000 in
theorem TX7_clear_10 (Γ : zG) {Q : Option Value → zM → Prop} (M : zM) (r0 : Nat → Int32) (r0_2 : Nat → Int32) (e_i10 : M.1 10 = r0) (e_i13 : M.1 13 = r0_2)  {res : (Nat → Int32) × (Nat → Int32)} (hy : (fPl_clear r0 r0_2) = some res) (hq : Q none (zui (zui M 10 res.1) 13 res.2)) : zR Γ 2 YX7_clear 0 [(0, .ref (zad Γ 10))] [] M Q := by
  unfold fPl_clear at hy
  refine zj_aload_n (pc' := 1) 0 dX7_clear_0 rfl rfl rfl ?_
  refine zj_getR (pc' := 4) (j := 13) dX7_clear_1 rfl flX7_18 sh10 rfl ?_
  refine zj_iconst (pc' := 5) dX7_clear_4 rfl kiconst_0 ?_
  obtain ⟨y1, hy1, hy⟩ := zt_b hy
  refine zj_S0 (pc' := 8) (z := YJ7_fill_53178) (As := [.ref (zad Γ 13), .int 0]) (N := (zui M 13 y1)) dX7_clear_5 rfl mlX7_71 lkJ7_fill_53178 rfl rfl (Nat.le_of_ble_eq_true rfl) (Nat.le_of_ble_eq_true rfl) (LJ7_fill_53178_13 Γ _ r0_2 e_i13 0 hy1) (rfl).symm ?_
  refine zj_aload_n (pc' := 9) 0 dX7_clear_8 rfl rfl rfl ?_
  refine zj_iconst (pc' := 10) dX7_clear_9 rfl kiconst_0 ?_
  obtain ⟨r0v2, er0v2⟩ : ∃ z, z = (zup r0 4 0) := ⟨_, rfl⟩
  have hy := zlet_at er0v2 hy
  refine zj_pI (pc' := 13) (N := (zui (zui M 10 r0v2) 13 y1)) dX7_clear_10 rfl fpX7_25 sh10 rfl (zr_n rfl e_i10) er0v2 (zm_n rfl rfl) ?_
  refine zj_aload_n (pc' := 14) 0 dX7_clear_13 rfl rfl rfl ?_
  refine zj_iconst (pc' := 15) dX7_clear_14 rfl kiconst_0 ?_
  obtain ⟨r0v3, er0v3⟩ : ∃ z, z = (zup r0v2 5 0) := ⟨_, rfl⟩
  have hy := zlet_at er0v3 hy
  refine zj_pI (pc' := 18) (N := (zui (zui M 10 r0v3) 13 y1)) dX7_clear_15 rfl fpX7_29 sh10 rfl (zr_n rfl zr_s) er0v3 (zm_n rfl zm_s) ?_
  refine zj_aload_n (pc' := 19) 0 dX7_clear_18 rfl rfl rfl ?_
  refine zj_iconst (pc' := 20) dX7_clear_19 rfl kiconst_0 ?_
  obtain ⟨r0v4, er0v4⟩ : ∃ z, z = (zup r0v3 6 0) := ⟨_, rfl⟩
  have hy := zlet_at er0v4 hy
  refine zj_pI (pc' := 23) (N := (zui (zui M 10 r0v4) 13 y1)) dX7_clear_20 rfl fpX7_32 sh10 rfl (zr_n rfl zr_s) er0v4 (zm_n rfl zm_s) ?_
  have e9 := Option.some.inj hy
  subst e9
  exact zj_vret dX7_clear_23 rfl hq
set_option maxRecDepth 20000 in
theorem LX7_clear_10 (Γ : zG) (M : zM) (r0 : Nat → Int32) (r0_2 : Nat → Int32) (e_i10 : M.1 10 = r0) (e_i13 : M.1 13 = r0_2)  {res : (Nat → Int32) × (Nat → Int32)} (hy : (fPl_clear r0 r0_2) = some res) : zK Γ 2 YX7_clear [.ref (zad Γ 10)] M (fun v N => v = none ∧ N = (zui (zui M 10 res.1) 13 res.2)) :=
  zK_of (by decide) (Nat.le_of_ble_eq_true rfl) (TX7_clear_10 Γ M r0 r0_2 e_i10 e_i13 hy ⟨rfl, rfl⟩)

noncomputable def fJA_fill_36_L5 (a2 : Int32) (r0v1 : Nat → Int32) (x2 : Int32) : Option (((Nat → Int32) × Int32) ⊕ ((Nat → Int32))) :=
  (if 36 ≤ x2 then
  some (.inr r0v1)
  else
  (zwr r0v1 36 x2 a2).bind (fun (r0v11 : Nat → Int32) =>
  zlet (x2 + 1) (fun (x12 : Int32) =>
  some (.inl (r0v11, x12)))))
noncomputable def fJA_fill_36 (r0 : Nat → Int32) (a2 : Int32) : Option ((Nat → Int32)) :=
  (zLP (fun s => fJA_fill_36_L5 a2 s.1 s.2) (r0, 0)).bind (fun r5 =>
  some r5)

set_option maxRecDepth 20000 in
theorem TJ7_fill_53178_26 (Γ : zG) {Q : Option Value → zM → Prop} (M : zM) (r0 : Nat → Int32) (e_i26 : M.1 26 = r0) (a2 : Int32) {res : (Nat → Int32)} (hy : (fJA_fill_36 r0 a2) = some res) (hq : Q none (zui M 26 res)) : zR Γ 1 YJ7_fill_53178 0 [(0, .ref (zad Γ 26)), (1, .int a2)] [] M Q := by
  unfold fJA_fill_36 at hy
  refine zj_iconst (pc' := 1) dJ7_fill_53178_0 rfl kiconst_0 ?_
  refine zj_istore_n (pc' := 2) (L' := [(2, .int 0), (0, .ref (zad Γ 26)), (1, .int a2)]) dJ7_fill_53178_1 rfl rfl (by decide) rfl ?_
  refine zj_aload_n (pc' := 3) 1 dJ7_fill_53178_2 rfl rfl rfl ?_
  refine zj_alen (pc' := 4) (v := 36) dJ7_fill_53178_3 rfl sh26 (by decide) ?_
  refine zj_istore_n (pc' := 5) (L' := [(3, .int 36), (2, .int 0), (0, .ref (zad Γ 26)), (1, .int a2)]) dJ7_fill_53178_4 rfl rfl (by decide) rfl ?_
  refine zj_loc [2, 3, 1, 0] rfl ?_
  refine zj_mem (N := (zui M 26 r0)) (zself_i e_i26 rfl) ?_
  obtain ⟨r5, hr9, hyo6⟩ := zt_b hy
  obtain ⟨n9, hn9⟩ := zLP_some hr9
  have HE3 : ∀ (r0v13 : Nat → Int32), r5 = r0v13 → zR Γ 1 YJ7_fill_53178 20 [] [] (zui M 26 r0v13) Q := by
    intro r0v13 e9
    have hy := hyo6
    try rw [e9] at hy
    try dsimp only at hy
    have e9 := Option.some.inj hy
    subst e9
    exact zj_vret dJ7_fill_53178_20 rfl hq
  have HL4 : ∀ (n : Nat) (r0v1 : Nat → Int32) (x2 : Int32), zlp (fun s => fJA_fill_36_L5 a2 s.1 s.2) n (r0v1, x2) = some r5 → zR Γ 1 YJ7_fill_53178 5 [(0, .ref (zad Γ 26)), (1, .int a2), (2, .int x2), (3, .int 36)] [] (zui M 26 r0v1) Q := by
    intro n
    induction n with
    | zero => intro r0v1 x2 hn9; cases hn9
    | succ n ih7 =>
      intro r0v1 x2 hn9
      obtain ⟨o9, hb9, h8, h9⟩ := zlp_step hn9
      have hy : fJA_fill_36_L5 a2 r0v1 x2 = some o9 := hb9
      unfold fJA_fill_36_L5 at hy
      refine zj_iload_n (pc' := 6) 2 dJ7_fill_53178_5 rfl rfl rfl ?_
      refine zj_iload_n (pc' := 7) 3 dJ7_fill_53178_6 rfl rfl rfl ?_
      refine zj_icmp_ge (tgt := 20) (pc' := 10) dJ7_fill_53178_7 rfl (by decide) (fun c10 => ?_) (fun c10 => ?_)
      · have hy := zt_t hy c10
        have e9 := h9 _ (Option.some.inj hy).symm
        refine zj_loc [] rfl ?_
        exact HE3 _ e9.symm
      · have hy := zt_f hy c10
        refine zj_aload_n (pc' := 11) 0 dJ7_fill_53178_10 rfl rfl rfl ?_
        refine zj_iload_n (pc' := 12) 2 dJ7_fill_53178_11 rfl rfl rfl ?_
        refine zj_iload_n (pc' := 13) 1 dJ7_fill_53178_12 rfl rfl rfl ?_
        obtain ⟨r0v11, hr0v11, hy⟩ := zt_b hy
        refine zj_wri (pc' := 14) (N := (zui M 26 r0v11)) dJ7_fill_53178_13 rfl sh26 zr_s hr0v11 zm_s ?_
        obtain ⟨x12, ex12⟩ : ∃ z : Int32, z = (x2 + 1) := ⟨_, rfl⟩
        have hy := zlet_at ex12 hy
        refine zj_iinc (pc' := 17) 2 (L' := [(2, .int x12), (0, .ref (zad Γ 26)), (1, .int a2), (3, .int 36)]) dJ7_fill_53178_14 rfl rfl (by decide) (by rw [ci1, ← ex12]; rfl) ?_
        refine zj_goto (tgt := 5) dJ7_fill_53178_17 (by decide) ?_
        have hn9 := h8 _ (Option.some.inj hy).symm
        refine zj_loc [1, 2, 0, 3] rfl ?_
        exact ih7 _ _ hn9
  exact HL4 n9 _ _ hn9
set_option maxRecDepth 20000 in
theorem LJ7_fill_53178_26 (Γ : zG) (M : zM) (r0 : Nat → Int32) (e_i26 : M.1 26 = r0) (a2 : Int32) {res : (Nat → Int32)} (hy : (fJA_fill_36 r0 a2) = some res) : zK Γ 1 YJ7_fill_53178 [.ref (zad Γ 26), .int a2] M (fun v N => v = none ∧ N = (zui M 26 res)) :=
  zK_of (by decide) (Nat.le_of_ble_eq_true rfl) (TJ7_fill_53178_26 Γ M r0 e_i26 a2 hy ⟨rfl, rfl⟩)

noncomputable def fJA_fill_6_L5 (a2 : Int32) (r0v1 : Nat → Int32) (x2 : Int32) : Option (((Nat → Int32) × Int32) ⊕ ((Nat → Int32))) :=
  (if 6 ≤ x2 then
  some (.inr r0v1)
  else
  (zwr r0v1 6 x2 a2).bind (fun (r0v11 : Nat → Int32) =>
  zlet (x2 + 1) (fun (x12 : Int32) =>
  some (.inl (r0v11, x12)))))
noncomputable def fJA_fill_6 (r0 : Nat → Int32) (a2 : Int32) : Option ((Nat → Int32)) :=
  (zLP (fun s => fJA_fill_6_L5 a2 s.1 s.2) (r0, 0)).bind (fun r5 =>
  some r5)

set_option maxRecDepth 20000 in
theorem TJ7_fill_53178_28 (Γ : zG) {Q : Option Value → zM → Prop} (M : zM) (r0 : Nat → Int32) (e_i28 : M.1 28 = r0) (a2 : Int32) {res : (Nat → Int32)} (hy : (fJA_fill_6 r0 a2) = some res) (hq : Q none (zui M 28 res)) : zR Γ 1 YJ7_fill_53178 0 [(0, .ref (zad Γ 28)), (1, .int a2)] [] M Q := by
  unfold fJA_fill_6 at hy
  refine zj_iconst (pc' := 1) dJ7_fill_53178_0 rfl kiconst_0 ?_
  refine zj_istore_n (pc' := 2) (L' := [(2, .int 0), (0, .ref (zad Γ 28)), (1, .int a2)]) dJ7_fill_53178_1 rfl rfl (by decide) rfl ?_
  refine zj_aload_n (pc' := 3) 1 dJ7_fill_53178_2 rfl rfl rfl ?_
  refine zj_alen (pc' := 4) (v := 6) dJ7_fill_53178_3 rfl sh28 (by decide) ?_
  refine zj_istore_n (pc' := 5) (L' := [(3, .int 6), (2, .int 0), (0, .ref (zad Γ 28)), (1, .int a2)]) dJ7_fill_53178_4 rfl rfl (by decide) rfl ?_
  refine zj_loc [2, 3, 1, 0] rfl ?_
  refine zj_mem (N := (zui M 28 r0)) (zself_i e_i28 rfl) ?_
  obtain ⟨r5, hr9, hyo6⟩ := zt_b hy
  obtain ⟨n9, hn9⟩ := zLP_some hr9
  have HE3 : ∀ (r0v13 : Nat → Int32), r5 = r0v13 → zR Γ 1 YJ7_fill_53178 20 [] [] (zui M 28 r0v13) Q := by
    intro r0v13 e9
    have hy := hyo6
    try rw [e9] at hy
    try dsimp only at hy
    have e9 := Option.some.inj hy
    subst e9
    exact zj_vret dJ7_fill_53178_20 rfl hq
  have HL4 : ∀ (n : Nat) (r0v1 : Nat → Int32) (x2 : Int32), zlp (fun s => fJA_fill_6_L5 a2 s.1 s.2) n (r0v1, x2) = some r5 → zR Γ 1 YJ7_fill_53178 5 [(0, .ref (zad Γ 28)), (1, .int a2), (2, .int x2), (3, .int 6)] [] (zui M 28 r0v1) Q := by
    intro n
    induction n with
    | zero => intro r0v1 x2 hn9; cases hn9
    | succ n ih7 =>
      intro r0v1 x2 hn9
      obtain ⟨o9, hb9, h8, h9⟩ := zlp_step hn9
      have hy : fJA_fill_6_L5 a2 r0v1 x2 = some o9 := hb9
      unfold fJA_fill_6_L5 at hy
      refine zj_iload_n (pc' := 6) 2 dJ7_fill_53178_5 rfl rfl rfl ?_
      refine zj_iload_n (pc' := 7) 3 dJ7_fill_53178_6 rfl rfl rfl ?_
      refine zj_icmp_ge (tgt := 20) (pc' := 10) dJ7_fill_53178_7 rfl (by decide) (fun c10 => ?_) (fun c10 => ?_)
      · have hy := zt_t hy c10
        have e9 := h9 _ (Option.some.inj hy).symm
        refine zj_loc [] rfl ?_
        exact HE3 _ e9.symm
      · have hy := zt_f hy c10
        refine zj_aload_n (pc' := 11) 0 dJ7_fill_53178_10 rfl rfl rfl ?_
        refine zj_iload_n (pc' := 12) 2 dJ7_fill_53178_11 rfl rfl rfl ?_
        refine zj_iload_n (pc' := 13) 1 dJ7_fill_53178_12 rfl rfl rfl ?_
        obtain ⟨r0v11, hr0v11, hy⟩ := zt_b hy
        refine zj_wri (pc' := 14) (N := (zui M 28 r0v11)) dJ7_fill_53178_13 rfl sh28 zr_s hr0v11 zm_s ?_
        obtain ⟨x12, ex12⟩ : ∃ z : Int32, z = (x2 + 1) := ⟨_, rfl⟩
        have hy := zlet_at ex12 hy
        refine zj_iinc (pc' := 17) 2 (L' := [(2, .int x12), (0, .ref (zad Γ 28)), (1, .int a2), (3, .int 6)]) dJ7_fill_53178_14 rfl rfl (by decide) (by rw [ci1, ← ex12]; rfl) ?_
        refine zj_goto (tgt := 5) dJ7_fill_53178_17 (by decide) ?_
        have hn9 := h8 _ (Option.some.inj hy).symm
        refine zj_loc [1, 2, 0, 3] rfl ?_
        exact ih7 _ _ hn9
  exact HL4 n9 _ _ hn9
set_option maxRecDepth 20000 in
theorem LJ7_fill_53178_28 (Γ : zG) (M : zM) (r0 : Nat → Int32) (e_i28 : M.1 28 = r0) (a2 : Int32) {res : (Nat → Int32)} (hy : (fJA_fill_6 r0 a2) = some res) : zK Γ 1 YJ7_fill_53178 [.ref (zad Γ 28), .int a2] M (fun v N => v = none ∧ N = (zui M 28 res)) :=
  zK_of (by decide) (Nat.le_of_ble_eq_true rfl) (TJ7_fill_53178_28 Γ M r0 e_i28 a2 hy ⟨rfl, rfl⟩)


set_option maxRecDepth 20000 in
theorem TJ7_fill_53178_29 (Γ : zG) {Q : Option Value → zM → Prop} (M : zM) (r0 : Nat → Int32) (e_i29 : M.1 29 = r0) (a2 : Int32) {res : (Nat → Int32)} (hy : (fJA_fill_6 r0 a2) = some res) (hq : Q none (zui M 29 res)) : zR Γ 1 YJ7_fill_53178 0 [(0, .ref (zad Γ 29)), (1, .int a2)] [] M Q := by
  unfold fJA_fill_6 at hy
  refine zj_iconst (pc' := 1) dJ7_fill_53178_0 rfl kiconst_0 ?_
  refine zj_istore_n (pc' := 2) (L' := [(2, .int 0), (0, .ref (zad Γ 29)), (1, .int a2)]) dJ7_fill_53178_1 rfl rfl (by decide) rfl ?_
  refine zj_aload_n (pc' := 3) 1 dJ7_fill_53178_2 rfl rfl rfl ?_
  refine zj_alen (pc' := 4) (v := 6) dJ7_fill_53178_3 rfl sh29 (by decide) ?_
  refine zj_istore_n (pc' := 5) (L' := [(3, .int 6), (2, .int 0), (0, .ref (zad Γ 29)), (1, .int a2)]) dJ7_fill_53178_4 rfl rfl (by decide) rfl ?_
  refine zj_loc [2, 3, 1, 0] rfl ?_
  refine zj_mem (N := (zui M 29 r0)) (zself_i e_i29 rfl) ?_
  obtain ⟨r5, hr9, hyo6⟩ := zt_b hy
  obtain ⟨n9, hn9⟩ := zLP_some hr9
  have HE3 : ∀ (r0v13 : Nat → Int32), r5 = r0v13 → zR Γ 1 YJ7_fill_53178 20 [] [] (zui M 29 r0v13) Q := by
    intro r0v13 e9
    have hy := hyo6
    try rw [e9] at hy
    try dsimp only at hy
    have e9 := Option.some.inj hy
    subst e9
    exact zj_vret dJ7_fill_53178_20 rfl hq
  have HL4 : ∀ (n : Nat) (r0v1 : Nat → Int32) (x2 : Int32), zlp (fun s => fJA_fill_6_L5 a2 s.1 s.2) n (r0v1, x2) = some r5 → zR Γ 1 YJ7_fill_53178 5 [(0, .ref (zad Γ 29)), (1, .int a2), (2, .int x2), (3, .int 6)] [] (zui M 29 r0v1) Q := by
    intro n
    induction n with
    | zero => intro r0v1 x2 hn9; cases hn9
    | succ n ih7 =>
      intro r0v1 x2 hn9
      obtain ⟨o9, hb9, h8, h9⟩ := zlp_step hn9
      have hy : fJA_fill_6_L5 a2 r0v1 x2 = some o9 := hb9
      unfold fJA_fill_6_L5 at hy
      refine zj_iload_n (pc' := 6) 2 dJ7_fill_53178_5 rfl rfl rfl ?_
      refine zj_iload_n (pc' := 7) 3 dJ7_fill_53178_6 rfl rfl rfl ?_
      refine zj_icmp_ge (tgt := 20) (pc' := 10) dJ7_fill_53178_7 rfl (by decide) (fun c10 => ?_) (fun c10 => ?_)
      · have hy := zt_t hy c10
        have e9 := h9 _ (Option.some.inj hy).symm
        refine zj_loc [] rfl ?_
        exact HE3 _ e9.symm
      · have hy := zt_f hy c10
        refine zj_aload_n (pc' := 11) 0 dJ7_fill_53178_10 rfl rfl rfl ?_
        refine zj_iload_n (pc' := 12) 2 dJ7_fill_53178_11 rfl rfl rfl ?_
        refine zj_iload_n (pc' := 13) 1 dJ7_fill_53178_12 rfl rfl rfl ?_
        obtain ⟨r0v11, hr0v11, hy⟩ := zt_b hy
        refine zj_wri (pc' := 14) (N := (zui M 29 r0v11)) dJ7_fill_53178_13 rfl sh29 zr_s hr0v11 zm_s ?_
        obtain ⟨x12, ex12⟩ : ∃ z : Int32, z = (x2 + 1) := ⟨_, rfl⟩
        have hy := zlet_at ex12 hy
        refine zj_iinc (pc' := 17) 2 (L' := [(2, .int x12), (0, .ref (zad Γ 29)), (1, .int a2), (3, .int 6)]) dJ7_fill_53178_14 rfl rfl (by decide) (by rw [ci1, ← ex12]; rfl) ?_
        refine zj_goto (tgt := 5) dJ7_fill_53178_17 (by decide) ?_
        have hn9 := h8 _ (Option.some.inj hy).symm
        refine zj_loc [1, 2, 0, 3] rfl ?_
        exact ih7 _ _ hn9
  exact HL4 n9 _ _ hn9
set_option maxRecDepth 20000 in
theorem LJ7_fill_53178_29 (Γ : zG) (M : zM) (r0 : Nat → Int32) (e_i29 : M.1 29 = r0) (a2 : Int32) {res : (Nat → Int32)} (hy : (fJA_fill_6 r0 a2) = some res) : zK Γ 1 YJ7_fill_53178 [.ref (zad Γ 29), .int a2] M (fun v N => v = none ∧ N = (zui M 29 res)) :=
  zK_of (by decide) (Nat.le_of_ble_eq_true rfl) (TJ7_fill_53178_29 Γ M r0 e_i29 a2 hy ⟨rfl, rfl⟩)


set_option maxRecDepth 20000 in
theorem TJ7_fill_53178_27 (Γ : zG) {Q : Option Value → zM → Prop} (M : zM) (r0 : Nat → Int32) (e_i27 : M.1 27 = r0) (a2 : Int32) {res : (Nat → Int32)} (hy : (fJA_fill_6 r0 a2) = some res) (hq : Q none (zui M 27 res)) : zR Γ 1 YJ7_fill_53178 0 [(0, .ref (zad Γ 27)), (1, .int a2)] [] M Q := by
  unfold fJA_fill_6 at hy
  refine zj_iconst (pc' := 1) dJ7_fill_53178_0 rfl kiconst_0 ?_
  refine zj_istore_n (pc' := 2) (L' := [(2, .int 0), (0, .ref (zad Γ 27)), (1, .int a2)]) dJ7_fill_53178_1 rfl rfl (by decide) rfl ?_
  refine zj_aload_n (pc' := 3) 1 dJ7_fill_53178_2 rfl rfl rfl ?_
  refine zj_alen (pc' := 4) (v := 6) dJ7_fill_53178_3 rfl sh27 (by decide) ?_
  refine zj_istore_n (pc' := 5) (L' := [(3, .int 6), (2, .int 0), (0, .ref (zad Γ 27)), (1, .int a2)]) dJ7_fill_53178_4 rfl rfl (by decide) rfl ?_
  refine zj_loc [2, 3, 1, 0] rfl ?_
  refine zj_mem (N := (zui M 27 r0)) (zself_i e_i27 rfl) ?_
  obtain ⟨r5, hr9, hyo6⟩ := zt_b hy
  obtain ⟨n9, hn9⟩ := zLP_some hr9
  have HE3 : ∀ (r0v13 : Nat → Int32), r5 = r0v13 → zR Γ 1 YJ7_fill_53178 20 [] [] (zui M 27 r0v13) Q := by
    intro r0v13 e9
    have hy := hyo6
    try rw [e9] at hy
    try dsimp only at hy
    have e9 := Option.some.inj hy
    subst e9
    exact zj_vret dJ7_fill_53178_20 rfl hq
  have HL4 : ∀ (n : Nat) (r0v1 : Nat → Int32) (x2 : Int32), zlp (fun s => fJA_fill_6_L5 a2 s.1 s.2) n (r0v1, x2) = some r5 → zR Γ 1 YJ7_fill_53178 5 [(0, .ref (zad Γ 27)), (1, .int a2), (2, .int x2), (3, .int 6)] [] (zui M 27 r0v1) Q := by
    intro n
    induction n with
    | zero => intro r0v1 x2 hn9; cases hn9
    | succ n ih7 =>
      intro r0v1 x2 hn9
      obtain ⟨o9, hb9, h8, h9⟩ := zlp_step hn9
      have hy : fJA_fill_6_L5 a2 r0v1 x2 = some o9 := hb9
      unfold fJA_fill_6_L5 at hy
      refine zj_iload_n (pc' := 6) 2 dJ7_fill_53178_5 rfl rfl rfl ?_
      refine zj_iload_n (pc' := 7) 3 dJ7_fill_53178_6 rfl rfl rfl ?_
      refine zj_icmp_ge (tgt := 20) (pc' := 10) dJ7_fill_53178_7 rfl (by decide) (fun c10 => ?_) (fun c10 => ?_)
      · have hy := zt_t hy c10
        have e9 := h9 _ (Option.some.inj hy).symm
        refine zj_loc [] rfl ?_
        exact HE3 _ e9.symm
      · have hy := zt_f hy c10
        refine zj_aload_n (pc' := 11) 0 dJ7_fill_53178_10 rfl rfl rfl ?_
        refine zj_iload_n (pc' := 12) 2 dJ7_fill_53178_11 rfl rfl rfl ?_
        refine zj_iload_n (pc' := 13) 1 dJ7_fill_53178_12 rfl rfl rfl ?_
        obtain ⟨r0v11, hr0v11, hy⟩ := zt_b hy
        refine zj_wri (pc' := 14) (N := (zui M 27 r0v11)) dJ7_fill_53178_13 rfl sh27 zr_s hr0v11 zm_s ?_
        obtain ⟨x12, ex12⟩ : ∃ z : Int32, z = (x2 + 1) := ⟨_, rfl⟩
        have hy := zlet_at ex12 hy
        refine zj_iinc (pc' := 17) 2 (L' := [(2, .int x12), (0, .ref (zad Γ 27)), (1, .int a2), (3, .int 6)]) dJ7_fill_53178_14 rfl rfl (by decide) (by rw [ci1, ← ex12]; rfl) ?_
        refine zj_goto (tgt := 5) dJ7_fill_53178_17 (by decide) ?_
        have hn9 := h8 _ (Option.some.inj hy).symm
        refine zj_loc [1, 2, 0, 3] rfl ?_
        exact ih7 _ _ hn9
  exact HL4 n9 _ _ hn9
set_option maxRecDepth 20000 in
theorem LJ7_fill_53178_27 (Γ : zG) (M : zM) (r0 : Nat → Int32) (e_i27 : M.1 27 = r0) (a2 : Int32) {res : (Nat → Int32)} (hy : (fJA_fill_6 r0 a2) = some res) : zK Γ 1 YJ7_fill_53178 [.ref (zad Γ 27), .int a2] M (fun v N => v = none ∧ N = (zui M 27 res)) :=
  zK_of (by decide) (Nat.le_of_ble_eq_true rfl) (TJ7_fill_53178_27 Γ M r0 e_i27 a2 hy ⟨rfl, rfl⟩)


set_option maxRecDepth 20000 in
theorem TJ7_fill_53178_31 (Γ : zG) {Q : Option Value → zM → Prop} (M : zM) (r0 : Nat → Int32) (e_i31 : M.1 31 = r0) (a2 : Int32) {res : (Nat → Int32)} (hy : (fJA_fill_6 r0 a2) = some res) (hq : Q none (zui M 31 res)) : zR Γ 1 YJ7_fill_53178 0 [(0, .ref (zad Γ 31)), (1, .int a2)] [] M Q := by
  unfold fJA_fill_6 at hy
  refine zj_iconst (pc' := 1) dJ7_fill_53178_0 rfl kiconst_0 ?_
  refine zj_istore_n (pc' := 2) (L' := [(2, .int 0), (0, .ref (zad Γ 31)), (1, .int a2)]) dJ7_fill_53178_1 rfl rfl (by decide) rfl ?_
  refine zj_aload_n (pc' := 3) 1 dJ7_fill_53178_2 rfl rfl rfl ?_
  refine zj_alen (pc' := 4) (v := 6) dJ7_fill_53178_3 rfl sh31 (by decide) ?_
  refine zj_istore_n (pc' := 5) (L' := [(3, .int 6), (2, .int 0), (0, .ref (zad Γ 31)), (1, .int a2)]) dJ7_fill_53178_4 rfl rfl (by decide) rfl ?_
  refine zj_loc [2, 3, 1, 0] rfl ?_
  refine zj_mem (N := (zui M 31 r0)) (zself_i e_i31 rfl) ?_
  obtain ⟨r5, hr9, hyo6⟩ := zt_b hy
  obtain ⟨n9, hn9⟩ := zLP_some hr9
  have HE3 : ∀ (r0v13 : Nat → Int32), r5 = r0v13 → zR Γ 1 YJ7_fill_53178 20 [] [] (zui M 31 r0v13) Q := by
    intro r0v13 e9
    have hy := hyo6
    try rw [e9] at hy
    try dsimp only at hy
    have e9 := Option.some.inj hy
    subst e9
    exact zj_vret dJ7_fill_53178_20 rfl hq
  have HL4 : ∀ (n : Nat) (r0v1 : Nat → Int32) (x2 : Int32), zlp (fun s => fJA_fill_6_L5 a2 s.1 s.2) n (r0v1, x2) = some r5 → zR Γ 1 YJ7_fill_53178 5 [(0, .ref (zad Γ 31)), (1, .int a2), (2, .int x2), (3, .int 6)] [] (zui M 31 r0v1) Q := by
    intro n
    induction n with
    | zero => intro r0v1 x2 hn9; cases hn9
    | succ n ih7 =>
      intro r0v1 x2 hn9
      obtain ⟨o9, hb9, h8, h9⟩ := zlp_step hn9
      have hy : fJA_fill_6_L5 a2 r0v1 x2 = some o9 := hb9
      unfold fJA_fill_6_L5 at hy
      refine zj_iload_n (pc' := 6) 2 dJ7_fill_53178_5 rfl rfl rfl ?_
      refine zj_iload_n (pc' := 7) 3 dJ7_fill_53178_6 rfl rfl rfl ?_
      refine zj_icmp_ge (tgt := 20) (pc' := 10) dJ7_fill_53178_7 rfl (by decide) (fun c10 => ?_) (fun c10 => ?_)
      · have hy := zt_t hy c10
        have e9 := h9 _ (Option.some.inj hy).symm
        refine zj_loc [] rfl ?_
        exact HE3 _ e9.symm
      · have hy := zt_f hy c10
        refine zj_aload_n (pc' := 11) 0 dJ7_fill_53178_10 rfl rfl rfl ?_
        refine zj_iload_n (pc' := 12) 2 dJ7_fill_53178_11 rfl rfl rfl ?_
        refine zj_iload_n (pc' := 13) 1 dJ7_fill_53178_12 rfl rfl rfl ?_
        obtain ⟨r0v11, hr0v11, hy⟩ := zt_b hy
        refine zj_wri (pc' := 14) (N := (zui M 31 r0v11)) dJ7_fill_53178_13 rfl sh31 zr_s hr0v11 zm_s ?_
        obtain ⟨x12, ex12⟩ : ∃ z : Int32, z = (x2 + 1) := ⟨_, rfl⟩
        have hy := zlet_at ex12 hy
        refine zj_iinc (pc' := 17) 2 (L' := [(2, .int x12), (0, .ref (zad Γ 31)), (1, .int a2), (3, .int 6)]) dJ7_fill_53178_14 rfl rfl (by decide) (by rw [ci1, ← ex12]; rfl) ?_
        refine zj_goto (tgt := 5) dJ7_fill_53178_17 (by decide) ?_
        have hn9 := h8 _ (Option.some.inj hy).symm
        refine zj_loc [1, 2, 0, 3] rfl ?_
        exact ih7 _ _ hn9
  exact HL4 n9 _ _ hn9
set_option maxRecDepth 20000 in
theorem LJ7_fill_53178_31 (Γ : zG) (M : zM) (r0 : Nat → Int32) (e_i31 : M.1 31 = r0) (a2 : Int32) {res : (Nat → Int32)} (hy : (fJA_fill_6 r0 a2) = some res) : zK Γ 1 YJ7_fill_53178 [.ref (zad Γ 31), .int a2] M (fun v N => v = none ∧ N = (zui M 31 res)) :=
  zK_of (by decide) (Nat.le_of_ble_eq_true rfl) (TJ7_fill_53178_31 Γ M r0 e_i31 a2 hy ⟨rfl, rfl⟩)


set_option maxRecDepth 20000 in
theorem TJ7_fill_53178_32 (Γ : zG) {Q : Option Value → zM → Prop} (M : zM) (r0 : Nat → Int32) (e_i32 : M.1 32 = r0) (a2 : Int32) {res : (Nat → Int32)} (hy : (fJA_fill_8 r0 a2) = some res) (hq : Q none (zui M 32 res)) : zR Γ 1 YJ7_fill_53178 0 [(0, .ref (zad Γ 32)), (1, .int a2)] [] M Q := by
  unfold fJA_fill_8 at hy
  refine zj_iconst (pc' := 1) dJ7_fill_53178_0 rfl kiconst_0 ?_
  refine zj_istore_n (pc' := 2) (L' := [(2, .int 0), (0, .ref (zad Γ 32)), (1, .int a2)]) dJ7_fill_53178_1 rfl rfl (by decide) rfl ?_
  refine zj_aload_n (pc' := 3) 1 dJ7_fill_53178_2 rfl rfl rfl ?_
  refine zj_alen (pc' := 4) (v := 8) dJ7_fill_53178_3 rfl sh32 (by decide) ?_
  refine zj_istore_n (pc' := 5) (L' := [(3, .int 8), (2, .int 0), (0, .ref (zad Γ 32)), (1, .int a2)]) dJ7_fill_53178_4 rfl rfl (by decide) rfl ?_
  refine zj_loc [2, 3, 1, 0] rfl ?_
  refine zj_mem (N := (zui M 32 r0)) (zself_i e_i32 rfl) ?_
  obtain ⟨r5, hr9, hyo6⟩ := zt_b hy
  obtain ⟨n9, hn9⟩ := zLP_some hr9
  have HE3 : ∀ (r0v13 : Nat → Int32), r5 = r0v13 → zR Γ 1 YJ7_fill_53178 20 [] [] (zui M 32 r0v13) Q := by
    intro r0v13 e9
    have hy := hyo6
    try rw [e9] at hy
    try dsimp only at hy
    have e9 := Option.some.inj hy
    subst e9
    exact zj_vret dJ7_fill_53178_20 rfl hq
  have HL4 : ∀ (n : Nat) (r0v1 : Nat → Int32) (x2 : Int32), zlp (fun s => fJA_fill_8_L5 a2 s.1 s.2) n (r0v1, x2) = some r5 → zR Γ 1 YJ7_fill_53178 5 [(0, .ref (zad Γ 32)), (1, .int a2), (2, .int x2), (3, .int 8)] [] (zui M 32 r0v1) Q := by
    intro n
    induction n with
    | zero => intro r0v1 x2 hn9; cases hn9
    | succ n ih7 =>
      intro r0v1 x2 hn9
      obtain ⟨o9, hb9, h8, h9⟩ := zlp_step hn9
      have hy : fJA_fill_8_L5 a2 r0v1 x2 = some o9 := hb9
      unfold fJA_fill_8_L5 at hy
      refine zj_iload_n (pc' := 6) 2 dJ7_fill_53178_5 rfl rfl rfl ?_
      refine zj_iload_n (pc' := 7) 3 dJ7_fill_53178_6 rfl rfl rfl ?_
      refine zj_icmp_ge (tgt := 20) (pc' := 10) dJ7_fill_53178_7 rfl (by decide) (fun c10 => ?_) (fun c10 => ?_)
      · have hy := zt_t hy c10
        have e9 := h9 _ (Option.some.inj hy).symm
        refine zj_loc [] rfl ?_
        exact HE3 _ e9.symm
      · have hy := zt_f hy c10
        refine zj_aload_n (pc' := 11) 0 dJ7_fill_53178_10 rfl rfl rfl ?_
        refine zj_iload_n (pc' := 12) 2 dJ7_fill_53178_11 rfl rfl rfl ?_
        refine zj_iload_n (pc' := 13) 1 dJ7_fill_53178_12 rfl rfl rfl ?_
        obtain ⟨r0v11, hr0v11, hy⟩ := zt_b hy
        refine zj_wri (pc' := 14) (N := (zui M 32 r0v11)) dJ7_fill_53178_13 rfl sh32 zr_s hr0v11 zm_s ?_
        obtain ⟨x12, ex12⟩ : ∃ z : Int32, z = (x2 + 1) := ⟨_, rfl⟩
        have hy := zlet_at ex12 hy
        refine zj_iinc (pc' := 17) 2 (L' := [(2, .int x12), (0, .ref (zad Γ 32)), (1, .int a2), (3, .int 8)]) dJ7_fill_53178_14 rfl rfl (by decide) (by rw [ci1, ← ex12]; rfl) ?_
        refine zj_goto (tgt := 5) dJ7_fill_53178_17 (by decide) ?_
        have hn9 := h8 _ (Option.some.inj hy).symm
        refine zj_loc [1, 2, 0, 3] rfl ?_
        exact ih7 _ _ hn9
  exact HL4 n9 _ _ hn9
set_option maxRecDepth 20000 in
theorem LJ7_fill_53178_32 (Γ : zG) (M : zM) (r0 : Nat → Int32) (e_i32 : M.1 32 = r0) (a2 : Int32) {res : (Nat → Int32)} (hy : (fJA_fill_8 r0 a2) = some res) : zK Γ 1 YJ7_fill_53178 [.ref (zad Γ 32), .int a2] M (fun v N => v = none ∧ N = (zui M 32 res)) :=
  zK_of (by decide) (Nat.le_of_ble_eq_true rfl) (TJ7_fill_53178_32 Γ M r0 e_i32 a2 hy ⟨rfl, rfl⟩)


set_option maxRecDepth 20000 in
theorem TJ7_fill_53178_33 (Γ : zG) {Q : Option Value → zM → Prop} (M : zM) (r0 : Nat → Int32) (e_i33 : M.1 33 = r0) (a2 : Int32) {res : (Nat → Int32)} (hy : (fJA_fill_8 r0 a2) = some res) (hq : Q none (zui M 33 res)) : zR Γ 1 YJ7_fill_53178 0 [(0, .ref (zad Γ 33)), (1, .int a2)] [] M Q := by
  unfold fJA_fill_8 at hy
  refine zj_iconst (pc' := 1) dJ7_fill_53178_0 rfl kiconst_0 ?_
  refine zj_istore_n (pc' := 2) (L' := [(2, .int 0), (0, .ref (zad Γ 33)), (1, .int a2)]) dJ7_fill_53178_1 rfl rfl (by decide) rfl ?_
  refine zj_aload_n (pc' := 3) 1 dJ7_fill_53178_2 rfl rfl rfl ?_
  refine zj_alen (pc' := 4) (v := 8) dJ7_fill_53178_3 rfl sh33 (by decide) ?_
  refine zj_istore_n (pc' := 5) (L' := [(3, .int 8), (2, .int 0), (0, .ref (zad Γ 33)), (1, .int a2)]) dJ7_fill_53178_4 rfl rfl (by decide) rfl ?_
  refine zj_loc [2, 3, 1, 0] rfl ?_
  refine zj_mem (N := (zui M 33 r0)) (zself_i e_i33 rfl) ?_
  obtain ⟨r5, hr9, hyo6⟩ := zt_b hy
  obtain ⟨n9, hn9⟩ := zLP_some hr9
  have HE3 : ∀ (r0v13 : Nat → Int32), r5 = r0v13 → zR Γ 1 YJ7_fill_53178 20 [] [] (zui M 33 r0v13) Q := by
    intro r0v13 e9
    have hy := hyo6
    try rw [e9] at hy
    try dsimp only at hy
    have e9 := Option.some.inj hy
    subst e9
    exact zj_vret dJ7_fill_53178_20 rfl hq
  have HL4 : ∀ (n : Nat) (r0v1 : Nat → Int32) (x2 : Int32), zlp (fun s => fJA_fill_8_L5 a2 s.1 s.2) n (r0v1, x2) = some r5 → zR Γ 1 YJ7_fill_53178 5 [(0, .ref (zad Γ 33)), (1, .int a2), (2, .int x2), (3, .int 8)] [] (zui M 33 r0v1) Q := by
    intro n
    induction n with
    | zero => intro r0v1 x2 hn9; cases hn9
    | succ n ih7 =>
      intro r0v1 x2 hn9
      obtain ⟨o9, hb9, h8, h9⟩ := zlp_step hn9
      have hy : fJA_fill_8_L5 a2 r0v1 x2 = some o9 := hb9
      unfold fJA_fill_8_L5 at hy
      refine zj_iload_n (pc' := 6) 2 dJ7_fill_53178_5 rfl rfl rfl ?_
      refine zj_iload_n (pc' := 7) 3 dJ7_fill_53178_6 rfl rfl rfl ?_
      refine zj_icmp_ge (tgt := 20) (pc' := 10) dJ7_fill_53178_7 rfl (by decide) (fun c10 => ?_) (fun c10 => ?_)
      · have hy := zt_t hy c10
        have e9 := h9 _ (Option.some.inj hy).symm
        refine zj_loc [] rfl ?_
        exact HE3 _ e9.symm
      · have hy := zt_f hy c10
        refine zj_aload_n (pc' := 11) 0 dJ7_fill_53178_10 rfl rfl rfl ?_
        refine zj_iload_n (pc' := 12) 2 dJ7_fill_53178_11 rfl rfl rfl ?_
        refine zj_iload_n (pc' := 13) 1 dJ7_fill_53178_12 rfl rfl rfl ?_
        obtain ⟨r0v11, hr0v11, hy⟩ := zt_b hy
        refine zj_wri (pc' := 14) (N := (zui M 33 r0v11)) dJ7_fill_53178_13 rfl sh33 zr_s hr0v11 zm_s ?_
        obtain ⟨x12, ex12⟩ : ∃ z : Int32, z = (x2 + 1) := ⟨_, rfl⟩
        have hy := zlet_at ex12 hy
        refine zj_iinc (pc' := 17) 2 (L' := [(2, .int x12), (0, .ref (zad Γ 33)), (1, .int a2), (3, .int 8)]) dJ7_fill_53178_14 rfl rfl (by decide) (by rw [ci1, ← ex12]; rfl) ?_
        refine zj_goto (tgt := 5) dJ7_fill_53178_17 (by decide) ?_
        have hn9 := h8 _ (Option.some.inj hy).symm
        refine zj_loc [1, 2, 0, 3] rfl ?_
        exact ih7 _ _ hn9
  exact HL4 n9 _ _ hn9
set_option maxRecDepth 20000 in
theorem LJ7_fill_53178_33 (Γ : zG) (M : zM) (r0 : Nat → Int32) (e_i33 : M.1 33 = r0) (a2 : Int32) {res : (Nat → Int32)} (hy : (fJA_fill_8 r0 a2) = some res) : zK Γ 1 YJ7_fill_53178 [.ref (zad Γ 33), .int a2] M (fun v N => v = none ∧ N = (zui M 33 res)) :=
  zK_of (by decide) (Nat.le_of_ble_eq_true rfl) (TJ7_fill_53178_33 Γ M r0 e_i33 a2 hy ⟨rfl, rfl⟩)

noncomputable def fDy_clear (r0 : Nat → Int32) (r0_0 : Nat → Int32) (r0_1 : Nat → Int32) (r0_2 : Nat → Int32) (r0_3 : Nat → Int32) (r0_5 : Nat → Int32) (r0_6 : Nat → Int32) (r0_7 : Nat → Int32) : Option ((Nat → Int32) × (Nat → Int32) × (Nat → Int32) × (Nat → Int32) × (Nat → Int32) × (Nat → Int32) × (Nat → Int32) × (Nat → Int32)) :=
  (fJA_fill_36 r0_0 (-1)).bind (fun (y1 : (Nat → Int32)) =>
  (fJA_fill_6 r0_2 (-1)).bind (fun (y2 : (Nat → Int32)) =>
  (fJA_fill_6 r0_3 (-1)).bind (fun (y3 : (Nat → Int32)) =>
  (fJA_fill_6 r0_1 0).bind (fun (y4 : (Nat → Int32)) =>
  (fJA_fill_6 r0_5 0).bind (fun (y5 : (Nat → Int32)) =>
  (fJA_fill_8 r0_6 0).bind (fun (y6 : (Nat → Int32)) =>
  (fJA_fill_8 r0_7 0).bind (fun (y7 : (Nat → Int32)) =>
  zlet (zup r0 9 0) (fun (r0v8 : Nat → Int32) =>
  zlet (zup r0v8 10 0) (fun (r0v9 : Nat → Int32) =>
  some (r0v9, y1, y4, y2, y3, y5, y6, y7))))))))))

set_option maxRecDepth 20000 in
theorem TX1_clear_25 (Γ : zG) {Q : Option Value → zM → Prop} (M : zM) (r0 : Nat → Int32) (r0_0 : Nat → Int32) (r0_1 : Nat → Int32) (r0_2 : Nat → Int32) (r0_3 : Nat → Int32) (r0_5 : Nat → Int32) (r0_6 : Nat → Int32) (r0_7 : Nat → Int32) (e_i25 : M.1 25 = r0) (e_i26 : M.1 26 = r0_0) (e_i27 : M.1 27 = r0_1) (e_i28 : M.1 28 = r0_2) (e_i29 : M.1 29 = r0_3) (e_i31 : M.1 31 = r0_5) (e_i32 : M.1 32 = r0_6) (e_i33 : M.1 33 = r0_7)  {res : (Nat → Int32) × (Nat → Int32) × (Nat → Int32) × (Nat → Int32) × (Nat → Int32) × (Nat → Int32) × (Nat → Int32) × (Nat → Int32)} (hy : (fDy_clear r0 r0_0 r0_1 r0_2 r0_3 r0_5 r0_6 r0_7) = some res) (hq : Q none (zui (zui (zui (zui (zui (zui (zui (zui M 25 res.1) 26 res.2.1) 27 res.2.2.1) 28 res.2.2.2.1) 29 res.2.2.2.2.1) 31 res.2.2.2.2.2.1) 32 res.2.2.2.2.2.2.1) 33 res.2.2.2.2.2.2.2)) : zR Γ 2 YX1_clear 0 [(0, .ref (zad Γ 25))] [] M Q := by
  unfold fDy_clear at hy
  refine zj_aload_n (pc' := 1) 0 dX1_clear_0 rfl rfl rfl ?_
  refine zj_getR (pc' := 4) (j := 26) dX1_clear_1 rfl flX1_9 sh25 rfl ?_
  refine zj_iconst (pc' := 5) dX1_clear_4 rfl kiconst_m1 ?_
  obtain ⟨y1, hy1, hy⟩ := zt_b hy
  refine zj_S0 (pc' := 8) (z := YJ7_fill_53178) (As := [.ref (zad Γ 26), .int (-1)]) (N := (zui M 26 y1)) dX1_clear_5 rfl mlX1_39 lkJ7_fill_53178 rfl rfl (Nat.le_of_ble_eq_true rfl) (Nat.le_of_ble_eq_true rfl) (LJ7_fill_53178_26 Γ _ r0_0 e_i26 (-1) hy1) (rfl).symm ?_
  refine zj_aload_n (pc' := 9) 0 dX1_clear_8 rfl rfl rfl ?_
  refine zj_getR (pc' := 12) (j := 28) dX1_clear_9 rfl flX1_18 sh25 rfl ?_
  refine zj_iconst (pc' := 13) dX1_clear_12 rfl kiconst_m1 ?_
  obtain ⟨y2, hy2, hy⟩ := zt_b hy
  refine zj_S0 (pc' := 16) (z := YJ7_fill_53178) (As := [.ref (zad Γ 28), .int (-1)]) (N := (zui (zui M 26 y1) 28 y2)) dX1_clear_13 rfl mlX1_39 lkJ7_fill_53178 rfl rfl (Nat.le_of_ble_eq_true rfl) (Nat.le_of_ble_eq_true rfl) (LJ7_fill_53178_28 Γ _ r0_2 (zr_n rfl e_i28) (-1) hy2) (rfl).symm ?_
  refine zj_aload_n (pc' := 17) 0 dX1_clear_16 rfl rfl rfl ?_
  refine zj_getR (pc' := 20) (j := 29) dX1_clear_17 rfl flX1_21 sh25 rfl ?_
  refine zj_iconst (pc' := 21) dX1_clear_20 rfl kiconst_m1 ?_
  obtain ⟨y3, hy3, hy⟩ := zt_b hy
  refine zj_S0 (pc' := 24) (z := YJ7_fill_53178) (As := [.ref (zad Γ 29), .int (-1)]) (N := (zui (zui (zui M 26 y1) 28 y2) 29 y3)) dX1_clear_21 rfl mlX1_39 lkJ7_fill_53178 rfl rfl (Nat.le_of_ble_eq_true rfl) (Nat.le_of_ble_eq_true rfl) (LJ7_fill_53178_29 Γ _ r0_3 (zr_n rfl (zr_n rfl e_i29)) (-1) hy3) (rfl).symm ?_
  refine zj_aload_n (pc' := 25) 0 dX1_clear_24 rfl rfl rfl ?_
  refine zj_getR (pc' := 28) (j := 27) dX1_clear_25 rfl flX1_15 sh25 rfl ?_
  refine zj_iconst (pc' := 29) dX1_clear_28 rfl kiconst_0 ?_
  obtain ⟨y4, hy4, hy⟩ := zt_b hy
  refine zj_S0 (pc' := 32) (z := YJ7_fill_53178) (As := [.ref (zad Γ 27), .int 0]) (N := (zui (zui (zui (zui M 26 y1) 27 y4) 28 y2) 29 y3)) dX1_clear_29 rfl mlX1_39 lkJ7_fill_53178 rfl rfl (Nat.le_of_ble_eq_true rfl) (Nat.le_of_ble_eq_true rfl) (LJ7_fill_53178_27 Γ _ r0_1 (zr_n rfl (zr_n rfl (zr_n rfl e_i27))) 0 hy4) ((zm_n rfl (zm_n rfl rfl))).symm ?_
  refine zj_aload_n (pc' := 33) 0 dX1_clear_32 rfl rfl rfl ?_
  refine zj_getR (pc' := 36) (j := 31) dX1_clear_33 rfl flX1_27 sh25 rfl ?_
  refine zj_iconst (pc' := 37) dX1_clear_36 rfl kiconst_0 ?_
  obtain ⟨y5, hy5, hy⟩ := zt_b hy
  refine zj_S0 (pc' := 40) (z := YJ7_fill_53178) (As := [.ref (zad Γ 31), .int 0]) (N := (zui (zui (zui (zui (zui M 26 y1) 27 y4) 28 y2) 29 y3) 31 y5)) dX1_clear_37 rfl mlX1_39 lkJ7_fill_53178 rfl rfl (Nat.le_of_ble_eq_true rfl) (Nat.le_of_ble_eq_true rfl) (LJ7_fill_53178_31 Γ _ r0_5 (zr_n rfl (zr_n rfl (zr_n rfl (zr_n rfl e_i31)))) 0 hy5) (rfl).symm ?_
  refine zj_aload_n (pc' := 41) 0 dX1_clear_40 rfl rfl rfl ?_
  refine zj_getR (pc' := 44) (j := 32) dX1_clear_41 rfl flX1_30 sh25 rfl ?_
  refine zj_iconst (pc' := 45) dX1_clear_44 rfl kiconst_0 ?_
  obtain ⟨y6, hy6, hy⟩ := zt_b hy
  refine zj_S0 (pc' := 48) (z := YJ7_fill_53178) (As := [.ref (zad Γ 32), .int 0]) (N := (zui (zui (zui (zui (zui (zui M 26 y1) 27 y4) 28 y2) 29 y3) 31 y5) 32 y6)) dX1_clear_45 rfl mlX1_39 lkJ7_fill_53178 rfl rfl (Nat.le_of_ble_eq_true rfl) (Nat.le_of_ble_eq_true rfl) (LJ7_fill_53178_32 Γ _ r0_6 (zr_n rfl (zr_n rfl (zr_n rfl (zr_n rfl (zr_n rfl e_i32))))) 0 hy6) (rfl).symm ?_
  refine zj_aload_n (pc' := 49) 0 dX1_clear_48 rfl rfl rfl ?_
  refine zj_getR (pc' := 52) (j := 33) dX1_clear_49 rfl flX1_33 sh25 rfl ?_
  refine zj_iconst (pc' := 53) dX1_clear_52 rfl kiconst_0 ?_
  obtain ⟨y7, hy7, hy⟩ := zt_b hy
  refine zj_S0 (pc' := 56) (z := YJ7_fill_53178) (As := [.ref (zad Γ 33), .int 0]) (N := (zui (zui (zui (zui (zui (zui (zui M 26 y1) 27 y4) 28 y2) 29 y3) 31 y5) 32 y6) 33 y7)) dX1_clear_53 rfl mlX1_39 lkJ7_fill_53178 rfl rfl (Nat.le_of_ble_eq_true rfl) (Nat.le_of_ble_eq_true rfl) (LJ7_fill_53178_33 Γ _ r0_7 (zr_n rfl (zr_n rfl (zr_n rfl (zr_n rfl (zr_n rfl (zr_n rfl e_i33)))))) 0 hy7) (rfl).symm ?_
  refine zj_aload_n (pc' := 57) 0 dX1_clear_56 rfl rfl rfl ?_
  refine zj_iconst (pc' := 58) dX1_clear_57 rfl kiconst_0 ?_
  obtain ⟨r0v8, er0v8⟩ : ∃ z, z = (zup r0 9 0) := ⟨_, rfl⟩
  have hy := zlet_at er0v8 hy
  refine zj_pI (pc' := 61) (N := (zui (zui (zui (zui (zui (zui (zui (zui M 25 r0v8) 26 y1) 27 y4) 28 y2) 29 y3) 31 y5) 32 y6) 33 y7)) dX1_clear_58 rfl fpX1_45 sh25 rfl (zr_n rfl (zr_n rfl (zr_n rfl (zr_n rfl (zr_n rfl (zr_n rfl (zr_n rfl e_i25))))))) er0v8 (zm_n rfl (zm_n rfl (zm_n rfl (zm_n rfl (zm_n rfl (zm_n rfl (zm_n rfl rfl))))))) ?_
  refine zj_aload_n (pc' := 62) 0 dX1_clear_61 rfl rfl rfl ?_
  refine zj_iconst (pc' := 63) dX1_clear_62 rfl kiconst_0 ?_
  obtain ⟨r0v9, er0v9⟩ : ∃ z, z = (zup r0v8 10 0) := ⟨_, rfl⟩
  have hy := zlet_at er0v9 hy
  refine zj_pI (pc' := 66) (N := (zui (zui (zui (zui (zui (zui (zui (zui M 25 r0v9) 26 y1) 27 y4) 28 y2) 29 y3) 31 y5) 32 y6) 33 y7)) dX1_clear_63 rfl fpX1_49 sh25 rfl (zr_n rfl (zr_n rfl (zr_n rfl (zr_n rfl (zr_n rfl (zr_n rfl (zr_n rfl zr_s))))))) er0v9 (zm_n rfl (zm_n rfl (zm_n rfl (zm_n rfl (zm_n rfl (zm_n rfl (zm_n rfl zm_s))))))) ?_
  have e9 := Option.some.inj hy
  subst e9
  exact zj_vret dX1_clear_66 rfl hq
set_option maxRecDepth 20000 in
theorem LX1_clear_25 (Γ : zG) (M : zM) (r0 : Nat → Int32) (r0_0 : Nat → Int32) (r0_1 : Nat → Int32) (r0_2 : Nat → Int32) (r0_3 : Nat → Int32) (r0_5 : Nat → Int32) (r0_6 : Nat → Int32) (r0_7 : Nat → Int32) (e_i25 : M.1 25 = r0) (e_i26 : M.1 26 = r0_0) (e_i27 : M.1 27 = r0_1) (e_i28 : M.1 28 = r0_2) (e_i29 : M.1 29 = r0_3) (e_i31 : M.1 31 = r0_5) (e_i32 : M.1 32 = r0_6) (e_i33 : M.1 33 = r0_7)  {res : (Nat → Int32) × (Nat → Int32) × (Nat → Int32) × (Nat → Int32) × (Nat → Int32) × (Nat → Int32) × (Nat → Int32) × (Nat → Int32)} (hy : (fDy_clear r0 r0_0 r0_1 r0_2 r0_3 r0_5 r0_6 r0_7) = some res) : zK Γ 2 YX1_clear [.ref (zad Γ 25)] M (fun v N => v = none ∧ N = (zui (zui (zui (zui (zui (zui (zui (zui M 25 res.1) 26 res.2.1) 27 res.2.2.1) 28 res.2.2.2.1) 29 res.2.2.2.2.1) 31 res.2.2.2.2.2.1) 32 res.2.2.2.2.2.2.1) 33 res.2.2.2.2.2.2.2)) :=
  zK_of (by decide) (Nat.le_of_ble_eq_true rfl) (TX1_clear_25 Γ M r0 r0_0 r0_1 r0_2 r0_3 r0_5 r0_6 r0_7 e_i25 e_i26 e_i27 e_i28 e_i29 e_i31 e_i32 e_i33 hy ⟨rfl, rfl⟩)

noncomputable def fRd_isGood (r0 : Nat → Int32) : Bool :=
  (if (r0 8) = 0 then true else false)

set_option maxRecDepth 20000 in
theorem TX8_isGood_3 (Γ : zG) {Q : Option Value → zM → Prop} (M : zM) (r0 : Nat → Int32) (e_i3 : M.1 3 = r0)  {res : Bool} (hy : (fRd_isGood r0) = res) (hq : Q (some (.int (zb res))) M) : zR Γ 1 YX8_isGood 0 [(0, .ref (zad Γ 3))] [] M Q := by
  unfold fRd_isGood at hy
  refine zj_aload_n (pc' := 1) 0 dX8_isGood_0 rfl rfl rfl ?_
  refine zj_fI (pc' := 4) dX8_isGood_1 rfl flX8_48 sh3 rfl e_i3 rfl ?_
  have HJ1 : zR Γ 1 YX8_isGood 12 [(0, .ref (zad Γ 3))] [.int (zb (if (r0 8) = 0 then true else false))] M Q := by
    subst hy
    exact zj_bret (b := (if (r0 8) = 0 then true else false)) dX8_isGood_12 rfl hq
  refine zj_if_ne (tgt := 11) (pc' := 7) dX8_isGood_4 rfl (by decide) (fun c2 => ?_) (fun c2 => ?_)
  · refine zj_iconst (pc' := 12) dX8_isGood_11 rfl kiconst_0 ?_
    exact zj_eqb (b := false) (if_neg c2) HJ1
  · refine zj_iconst (pc' := 8) dX8_isGood_7 rfl kiconst_1 ?_
    refine zj_goto (tgt := 12) dX8_isGood_8 (by decide) ?_
    exact zj_eqb (b := true) (if_pos c2) HJ1
set_option maxRecDepth 20000 in
theorem LX8_isGood_3 (Γ : zG) (M : zM) (r0 : Nat → Int32) (e_i3 : M.1 3 = r0)  {res : Bool} (hy : (fRd_isGood r0) = res) : zK Γ 1 YX8_isGood [.ref (zad Γ 3)] M (fun v N => v = some (.int (zb res)) ∧ N = M) :=
  zK_of (by decide) (Nat.le_of_ble_eq_true rfl) (TX8_isGood_3 Γ M r0 e_i3 hy ⟨rfl, rfl⟩)

noncomputable def fRd_atEnd (r0 : Nat → Int32) : Bool :=
  (if (r0 5) = 3 then true else false)

set_option maxRecDepth 20000 in
theorem TX8_atEnd_3 (Γ : zG) {Q : Option Value → zM → Prop} (M : zM) (r0 : Nat → Int32) (e_i3 : M.1 3 = r0)  {res : Bool} (hy : (fRd_atEnd r0) = res) (hq : Q (some (.int (zb res))) M) : zR Γ 1 YX8_atEnd 0 [(0, .ref (zad Γ 3))] [] M Q := by
  unfold fRd_atEnd at hy
  refine zj_aload_n (pc' := 1) 0 dX8_atEnd_0 rfl rfl rfl ?_
  refine zj_fI (pc' := 4) dX8_atEnd_1 rfl flX8_57 sh3 rfl e_i3 rfl ?_
  refine zj_iconst (pc' := 5) dX8_atEnd_4 rfl kiconst_3 ?_
  have HJ1 : zR Γ 1 YX8_atEnd 13 [(0, .ref (zad Γ 3))] [.int (zb (if (r0 5) = 3 then true else false))] M Q := by
    subst hy
    exact zj_bret (b := (if (r0 5) = 3 then true else false)) dX8_atEnd_13 rfl hq
  refine zj_icmp_ne (tgt := 12) (pc' := 8) dX8_atEnd_5 rfl (by decide) (fun c2 => ?_) (fun c2 => ?_)
  · refine zj_iconst (pc' := 13) dX8_atEnd_12 rfl kiconst_0 ?_
    exact zj_eqb (b := false) (if_neg c2) HJ1
  · refine zj_iconst (pc' := 9) dX8_atEnd_8 rfl kiconst_1 ?_
    refine zj_goto (tgt := 13) dX8_atEnd_9 (by decide) ?_
    exact zj_eqb (b := true) (if_pos c2) HJ1
set_option maxRecDepth 20000 in
theorem LX8_atEnd_3 (Γ : zG) (M : zM) (r0 : Nat → Int32) (e_i3 : M.1 3 = r0)  {res : Bool} (hy : (fRd_atEnd r0) = res) : zK Γ 1 YX8_atEnd [.ref (zad Γ 3)] M (fun v N => v = some (.int (zb res)) ∧ N = M) :=
  zK_of (by decide) (Nat.le_of_ble_eq_true rfl) (TX8_atEnd_3 Γ M r0 e_i3 hy ⟨rfl, rfl⟩)

noncomputable def fJA_fill_64_L5 (a2 : Int32) (r0v1 : Nat → Int32) (x2 : Int32) : Option (((Nat → Int32) × Int32) ⊕ ((Nat → Int32))) :=
  (if 64 ≤ x2 then
  some (.inr r0v1)
  else
  (zwr r0v1 64 x2 a2).bind (fun (r0v11 : Nat → Int32) =>
  zlet (x2 + 1) (fun (x12 : Int32) =>
  some (.inl (r0v11, x12)))))
noncomputable def fJA_fill_64 (r0 : Nat → Int32) (a2 : Int32) : Option ((Nat → Int32)) :=
  (zLP (fun s => fJA_fill_64_L5 a2 s.1 s.2) (r0, 0)).bind (fun r5 =>
  some r5)

set_option maxRecDepth 20000 in
theorem TJ7_fill_53178_14 (Γ : zG) {Q : Option Value → zM → Prop} (M : zM) (r0 : Nat → Int32) (e_i14 : M.1 14 = r0) (a2 : Int32) {res : (Nat → Int32)} (hy : (fJA_fill_64 r0 a2) = some res) (hq : Q none (zui M 14 res)) : zR Γ 1 YJ7_fill_53178 0 [(0, .ref (zad Γ 14)), (1, .int a2)] [] M Q := by
  unfold fJA_fill_64 at hy
  refine zj_iconst (pc' := 1) dJ7_fill_53178_0 rfl kiconst_0 ?_
  refine zj_istore_n (pc' := 2) (L' := [(2, .int 0), (0, .ref (zad Γ 14)), (1, .int a2)]) dJ7_fill_53178_1 rfl rfl (by decide) rfl ?_
  refine zj_aload_n (pc' := 3) 1 dJ7_fill_53178_2 rfl rfl rfl ?_
  refine zj_alen (pc' := 4) (v := 64) dJ7_fill_53178_3 rfl sh14 (by decide) ?_
  refine zj_istore_n (pc' := 5) (L' := [(3, .int 64), (2, .int 0), (0, .ref (zad Γ 14)), (1, .int a2)]) dJ7_fill_53178_4 rfl rfl (by decide) rfl ?_
  refine zj_loc [2, 3, 1, 0] rfl ?_
  refine zj_mem (N := (zui M 14 r0)) (zself_i e_i14 rfl) ?_
  obtain ⟨r5, hr9, hyo6⟩ := zt_b hy
  obtain ⟨n9, hn9⟩ := zLP_some hr9
  have HE3 : ∀ (r0v13 : Nat → Int32), r5 = r0v13 → zR Γ 1 YJ7_fill_53178 20 [] [] (zui M 14 r0v13) Q := by
    intro r0v13 e9
    have hy := hyo6
    try rw [e9] at hy
    try dsimp only at hy
    have e9 := Option.some.inj hy
    subst e9
    exact zj_vret dJ7_fill_53178_20 rfl hq
  have HL4 : ∀ (n : Nat) (r0v1 : Nat → Int32) (x2 : Int32), zlp (fun s => fJA_fill_64_L5 a2 s.1 s.2) n (r0v1, x2) = some r5 → zR Γ 1 YJ7_fill_53178 5 [(0, .ref (zad Γ 14)), (1, .int a2), (2, .int x2), (3, .int 64)] [] (zui M 14 r0v1) Q := by
    intro n
    induction n with
    | zero => intro r0v1 x2 hn9; cases hn9
    | succ n ih7 =>
      intro r0v1 x2 hn9
      obtain ⟨o9, hb9, h8, h9⟩ := zlp_step hn9
      have hy : fJA_fill_64_L5 a2 r0v1 x2 = some o9 := hb9
      unfold fJA_fill_64_L5 at hy
      refine zj_iload_n (pc' := 6) 2 dJ7_fill_53178_5 rfl rfl rfl ?_
      refine zj_iload_n (pc' := 7) 3 dJ7_fill_53178_6 rfl rfl rfl ?_
      refine zj_icmp_ge (tgt := 20) (pc' := 10) dJ7_fill_53178_7 rfl (by decide) (fun c10 => ?_) (fun c10 => ?_)
      · have hy := zt_t hy c10
        have e9 := h9 _ (Option.some.inj hy).symm
        refine zj_loc [] rfl ?_
        exact HE3 _ e9.symm
      · have hy := zt_f hy c10
        refine zj_aload_n (pc' := 11) 0 dJ7_fill_53178_10 rfl rfl rfl ?_
        refine zj_iload_n (pc' := 12) 2 dJ7_fill_53178_11 rfl rfl rfl ?_
        refine zj_iload_n (pc' := 13) 1 dJ7_fill_53178_12 rfl rfl rfl ?_
        obtain ⟨r0v11, hr0v11, hy⟩ := zt_b hy
        refine zj_wri (pc' := 14) (N := (zui M 14 r0v11)) dJ7_fill_53178_13 rfl sh14 zr_s hr0v11 zm_s ?_
        obtain ⟨x12, ex12⟩ : ∃ z : Int32, z = (x2 + 1) := ⟨_, rfl⟩
        have hy := zlet_at ex12 hy
        refine zj_iinc (pc' := 17) 2 (L' := [(2, .int x12), (0, .ref (zad Γ 14)), (1, .int a2), (3, .int 64)]) dJ7_fill_53178_14 rfl rfl (by decide) (by rw [ci1, ← ex12]; rfl) ?_
        refine zj_goto (tgt := 5) dJ7_fill_53178_17 (by decide) ?_
        have hn9 := h8 _ (Option.some.inj hy).symm
        refine zj_loc [1, 2, 0, 3] rfl ?_
        exact ih7 _ _ hn9
  exact HL4 n9 _ _ hn9
set_option maxRecDepth 20000 in
theorem LJ7_fill_53178_14 (Γ : zG) (M : zM) (r0 : Nat → Int32) (e_i14 : M.1 14 = r0) (a2 : Int32) {res : (Nat → Int32)} (hy : (fJA_fill_64 r0 a2) = some res) : zK Γ 1 YJ7_fill_53178 [.ref (zad Γ 14), .int a2] M (fun v N => v = none ∧ N = (zui M 14 res)) :=
  zK_of (by decide) (Nat.le_of_ble_eq_true rfl) (TJ7_fill_53178_14 Γ M r0 e_i14 a2 hy ⟨rfl, rfl⟩)

noncomputable def fX_hasBit (a1 : Int32) (a2 : Int32) : Bool :=
  (if ((a1 >>> (a2 &&& 31)) &&& 1) = 0 then false else true)

set_option maxRecDepth 20000 in
theorem TX11_hasBit (Γ : zG) {Q : Option Value → zM → Prop} (M : zM)   (a1 : Int32) (a2 : Int32) {res : Bool} (hy : (fX_hasBit a1 a2) = res) (hq : Q (some (.int (zb res))) M) : zR Γ 1 YX11_hasBit 0 [(0, .int a1), (1, .int a2)] [] M Q := by
  unfold fX_hasBit at hy
  refine zj_iload_n (pc' := 1) 0 dX11_hasBit_0 rfl rfl rfl ?_
  refine zj_iload_n (pc' := 2) 1 dX11_hasBit_1 rfl rfl rfl ?_
  refine zj_ishr (pc' := 3) dX11_hasBit_2 rfl ?_
  refine zj_iconst (pc' := 4) dX11_hasBit_3 rfl kiconst_1 ?_
  refine zj_iand (pc' := 5) dX11_hasBit_4 rfl ?_
  have HJ1 : zR Γ 1 YX11_hasBit 13 [(0, .int a1), (1, .int a2)] [.int (zb (if ((a1 >>> (a2 &&& 31)) &&& 1) = 0 then false else true))] M Q := by
    subst hy
    exact zj_bret (b := (if ((a1 >>> (a2 &&& 31)) &&& 1) = 0 then false else true)) dX11_hasBit_13 rfl hq
  refine zj_if_eq (tgt := 12) (pc' := 8) dX11_hasBit_5 rfl (by decide) (fun c2 => ?_) (fun c2 => ?_)
  · refine zj_iconst (pc' := 13) dX11_hasBit_12 rfl kiconst_0 ?_
    exact zj_eqb (b := false) (if_pos c2) HJ1
  · refine zj_iconst (pc' := 9) dX11_hasBit_8 rfl kiconst_1 ?_
    refine zj_goto (tgt := 13) dX11_hasBit_9 (by decide) ?_
    exact zj_eqb (b := true) (if_neg c2) HJ1
set_option maxRecDepth 20000 in
theorem LX11_hasBit (Γ : zG) (M : zM)   (a1 : Int32) (a2 : Int32) {res : Bool} (hy : (fX_hasBit a1 a2) = res) : zK Γ 1 YX11_hasBit [.int a1, .int a2] M (fun v N => v = some (.int (zb res)) ∧ N = M) :=
  zK_of (by decide) (Nat.le_of_ble_eq_true rfl) (TX11_hasBit Γ M a1 a2 hy ⟨rfl, rfl⟩)

noncomputable def fPl_noteFar_L3 (a1 : Int32) (a2 : Int32) (a3 : Int32) (r0_3v1 : Nat → Int32) (x2 : Int32) : Option (((Nat → Int32) × Int32) ⊕ ((Nat → Int32))) :=
  (if 8 ≤ x2 then
  some (.inr r0_3v1)
  else
  (if (fX_hasBit a2 x2) = true then
  (zwr r0_3v1 64 ((a1 * 8) + x2) a3).bind (fun (r0_3v12 : Nat → Int32) =>
  zlet (x2 + 1) (fun (x13 : Int32) =>
  some (.inl (r0_3v12, x13))))
  else
  zlet (x2 + 1) (fun (x14 : Int32) =>
  some (.inl (r0_3v1, x14)))))
noncomputable def fPl_noteFar (r0_3 : Nat → Int32) (a1 : Int32) (a2 : Int32) (a3 : Int32) : Option ((Nat → Int32)) :=
  (zLP (fun s => fPl_noteFar_L3 a1 a2 a3 s.1 s.2) (r0_3, 0)).bind (fun r5 =>
  some r5)

set_option maxRecDepth 20000 in
theorem TX7_noteFar_10 (Γ : zG) {Q : Option Value → zM → Prop} (M : zM) (r0_3 : Nat → Int32) (e_i14 : M.1 14 = r0_3) (a1 : Int32) (a2 : Int32) (a3 : Int32) {res : (Nat → Int32)} (hy : (fPl_noteFar r0_3 a1 a2 a3) = some res) (hq : Q none (zui M 14 res)) : zR Γ 2 YX7_noteFar 0 [(0, .ref (zad Γ 10)), (1, .int a1), (2, .int a2), (3, .int a3)] [] M Q := by
  unfold fPl_noteFar at hy
  refine zj_iconst (pc' := 1) dX7_noteFar_0 rfl kiconst_0 ?_
  refine zj_istore (pc' := 3) (L' := [(4, .int 0), (0, .ref (zad Γ 10)), (1, .int a1), (2, .int a2), (3, .int a3)]) dX7_noteFar_1 rfl (by decide) rfl ?_
  refine zj_loc [1, 2, 3, 4, 0] rfl ?_
  refine zj_mem (N := (zui M 14 r0_3)) (zself_i e_i14 rfl) ?_
  obtain ⟨r5, hr9, hyo6⟩ := zt_b hy
  obtain ⟨n9, hn9⟩ := zLP_some hr9
  have HE3 : ∀ (r0_3v15 : Nat → Int32), r5 = r0_3v15 → zR Γ 2 YX7_noteFar 38 [] [] (zui M 14 r0_3v15) Q := by
    intro r0_3v15 e9
    have hy := hyo6
    try rw [e9] at hy
    try dsimp only at hy
    have e9 := Option.some.inj hy
    subst e9
    exact zj_vret dX7_noteFar_38 rfl hq
  have HL4 : ∀ (n : Nat) (r0_3v1 : Nat → Int32) (x2 : Int32), zlp (fun s => fPl_noteFar_L3 a1 a2 a3 s.1 s.2) n (r0_3v1, x2) = some r5 → zR Γ 2 YX7_noteFar 3 [(0, .ref (zad Γ 10)), (1, .int a1), (2, .int a2), (3, .int a3), (4, .int x2)] [] (zui M 14 r0_3v1) Q := by
    intro n
    induction n with
    | zero => intro r0_3v1 x2 hn9; cases hn9
    | succ n ih7 =>
      intro r0_3v1 x2 hn9
      obtain ⟨o9, hb9, h8, h9⟩ := zlp_step hn9
      have hy : fPl_noteFar_L3 a1 a2 a3 r0_3v1 x2 = some o9 := hb9
      unfold fPl_noteFar_L3 at hy
      refine zj_iload (pc' := 5) 4 dX7_noteFar_3 rfl rfl ?_
      refine zj_bipush (pc' := 7) dX7_noteFar_5 rfl kbipush_8 ?_
      refine zj_icmp_ge (tgt := 38) (pc' := 10) dX7_noteFar_7 rfl (by decide) (fun c10 => ?_) (fun c10 => ?_)
      · have hy := zt_t hy c10
        have e9 := h9 _ (Option.some.inj hy).symm
        refine zj_loc [] rfl ?_
        exact HE3 _ e9.symm
      · have hy := zt_f hy c10
        refine zj_iload_n (pc' := 11) 2 dX7_noteFar_10 rfl rfl rfl ?_
        refine zj_iload (pc' := 13) 4 dX7_noteFar_11 rfl rfl ?_
        refine zj_N1 (pc' := 16) (z := YX11_hasBit) (As := [.int a2, .int x2]) (N := (zui M 14 r0_3v1)) dX7_noteFar_13 rfl nlX7_46 lkX11_hasBit rfl rfl (Nat.le_of_ble_eq_true rfl) (Nat.le_of_ble_eq_true rfl) (LX11_hasBit Γ _ a2 x2 rfl) rfl ?_
        refine zj_bif_eq (tgt := 32) (pc' := 19) dX7_noteFar_16 rfl (by decide) (fun c11 => ?_) (fun c11 => ?_)
        · have hy := zt_f hy c11
          obtain ⟨x14, ex14⟩ : ∃ z : Int32, z = (x2 + 1) := ⟨_, rfl⟩
          have hy := zlet_at ex14 hy
          refine zj_iinc (pc' := 35) 4 (L' := [(4, .int x14), (0, .ref (zad Γ 10)), (1, .int a1), (2, .int a2), (3, .int a3)]) dX7_noteFar_32 rfl rfl (by decide) (by rw [ci1, ← ex14]; rfl) ?_
          refine zj_goto (tgt := 3) dX7_noteFar_35 (by decide) ?_
          have hn9 := h8 _ (Option.some.inj hy).symm
          refine zj_loc [1, 2, 3, 4, 0] rfl ?_
          exact ih7 _ _ hn9
        · have hy := zt_t hy c11
          refine zj_aload_n (pc' := 20) 0 dX7_noteFar_19 rfl rfl rfl ?_
          refine zj_getR (pc' := 23) (j := 14) dX7_noteFar_20 rfl flX7_22 sh10 rfl ?_
          refine zj_iload_n (pc' := 24) 1 dX7_noteFar_23 rfl rfl rfl ?_
          refine zj_bipush (pc' := 26) dX7_noteFar_24 rfl kbipush_8 ?_
          refine zj_imul (pc' := 27) dX7_noteFar_26 rfl ?_
          refine zj_iload (pc' := 29) 4 dX7_noteFar_27 rfl rfl ?_
          refine zj_iadd (pc' := 30) dX7_noteFar_29 rfl ?_
          refine zj_iload_n (pc' := 31) 3 dX7_noteFar_30 rfl rfl rfl ?_
          obtain ⟨r0_3v12, hr0_3v12, hy⟩ := zt_b hy
          refine zj_wri (pc' := 32) (N := (zui M 14 r0_3v12)) dX7_noteFar_31 rfl sh14 zr_s hr0_3v12 zm_s ?_
          obtain ⟨x13, ex13⟩ : ∃ z : Int32, z = (x2 + 1) := ⟨_, rfl⟩
          have hy := zlet_at ex13 hy
          refine zj_iinc (pc' := 35) 4 (L' := [(4, .int x13), (0, .ref (zad Γ 10)), (1, .int a1), (2, .int a2), (3, .int a3)]) dX7_noteFar_32 rfl rfl (by decide) (by rw [ci1, ← ex13]; rfl) ?_
          refine zj_goto (tgt := 3) dX7_noteFar_35 (by decide) ?_
          have hn9 := h8 _ (Option.some.inj hy).symm
          refine zj_loc [1, 2, 3, 4, 0] rfl ?_
          exact ih7 _ _ hn9
  exact HL4 n9 _ _ hn9
set_option maxRecDepth 20000 in
theorem LX7_noteFar_10 (Γ : zG) (M : zM) (r0_3 : Nat → Int32) (e_i14 : M.1 14 = r0_3) (a1 : Int32) (a2 : Int32) (a3 : Int32) {res : (Nat → Int32)} (hy : (fPl_noteFar r0_3 a1 a2 a3) = some res) : zK Γ 2 YX7_noteFar [.ref (zad Γ 10), .int a1, .int a2, .int a3] M (fun v N => v = none ∧ N = (zui M 14 res)) :=
  zK_of (by decide) (Nat.le_of_ble_eq_true rfl) (TX7_noteFar_10 Γ M r0_3 e_i14 a1 a2 a3 hy ⟨rfl, rfl⟩)

noncomputable def fPl_besideAny_L4 (r0_2 : Nat → Int32) (a1 : Int32) (x1 : Int32) (x2 : Int32) : Option ((Int32 × Int32) ⊕ (Int32)) :=
  (if 8 ≤ x2 then
  some (.inr x1)
  else
  (if (fX_hasBit a1 x2) = true then
  (zrd r0_2 8 x2).bind (fun (v12 : Int32) =>
  zlet (x1 ||| v12) (fun (x13 : Int32) =>
  zlet (x2 + 1) (fun (x14 : Int32) =>
  some (.inl (x13, x14)))))
  else
  zlet (x2 + 1) (fun (x15 : Int32) =>
  some (.inl (x1, x15)))))
noncomputable def fPl_besideAny (r0_2 : Nat → Int32) (a1 : Int32) : Option (Int32) :=
  (zLP (fun s => fPl_besideAny_L4 r0_2 a1 s.1 s.2) (0, 0)).bind (fun r5 =>
  some r5)

set_option maxRecDepth 20000 in
theorem TX7_besideAny_10 (Γ : zG) {Q : Option Value → zM → Prop} (M : zM) (r0_2 : Nat → Int32) (e_i13 : M.1 13 = r0_2) (a1 : Int32) {res : Int32} (hy : (fPl_besideAny r0_2 a1) = some res) (hq : Q (some (.int res)) M) : zR Γ 2 YX7_besideAny 0 [(0, .ref (zad Γ 10)), (1, .int a1)] [] M Q := by
  unfold fPl_besideAny at hy
  refine zj_iconst (pc' := 1) dX7_besideAny_0 rfl kiconst_0 ?_
  refine zj_istore_n (pc' := 2) (L' := [(2, .int 0), (0, .ref (zad Γ 10)), (1, .int a1)]) dX7_besideAny_1 rfl rfl (by decide) rfl ?_
  refine zj_iconst (pc' := 3) dX7_besideAny_2 rfl kiconst_0 ?_
  refine zj_istore_n (pc' := 4) (L' := [(3, .int 0), (2, .int 0), (0, .ref (zad Γ 10)), (1, .int a1)]) dX7_besideAny_3 rfl rfl (by decide) rfl ?_
  refine zj_loc [2, 3, 1, 0] rfl ?_
  obtain ⟨r5, hr9, hyo6⟩ := zt_b hy
  obtain ⟨n9, hn9⟩ := zLP_some hr9
  have HE3 : ∀ (x16 : Int32), r5 = x16 → zR Γ 2 YX7_besideAny 33 [(2, .int x16)] [] M Q := by
    intro x16 e9
    have hy := hyo6
    try rw [e9] at hy
    try dsimp only at hy
    refine zj_iload_n (pc' := 34) 0 dX7_besideAny_33 rfl rfl rfl ?_
    have e9 := Option.some.inj hy
    subst e9
    exact zj_iret dX7_besideAny_34 rfl hq
  have HL4 : ∀ (n : Nat) (x1 : Int32) (x2 : Int32), zlp (fun s => fPl_besideAny_L4 r0_2 a1 s.1 s.2) n (x1, x2) = some r5 → zR Γ 2 YX7_besideAny 4 [(0, .ref (zad Γ 10)), (1, .int a1), (2, .int x1), (3, .int x2)] [] M Q := by
    intro n
    induction n with
    | zero => intro x1 x2 hn9; cases hn9
    | succ n ih7 =>
      intro x1 x2 hn9
      obtain ⟨o9, hb9, h8, h9⟩ := zlp_step hn9
      have hy : fPl_besideAny_L4 r0_2 a1 x1 x2 = some o9 := hb9
      unfold fPl_besideAny_L4 at hy
      refine zj_iload_n (pc' := 5) 3 dX7_besideAny_4 rfl rfl rfl ?_
      refine zj_bipush (pc' := 7) dX7_besideAny_5 rfl kbipush_8 ?_
      refine zj_icmp_ge (tgt := 33) (pc' := 10) dX7_besideAny_7 rfl (by decide) (fun c10 => ?_) (fun c10 => ?_)
      · have hy := zt_t hy c10
        have e9 := h9 _ (Option.some.inj hy).symm
        refine zj_loc [2] rfl ?_
        exact HE3 _ e9.symm
      · have hy := zt_f hy c10
        refine zj_iload_n (pc' := 11) 1 dX7_besideAny_10 rfl rfl rfl ?_
        refine zj_iload_n (pc' := 12) 3 dX7_besideAny_11 rfl rfl rfl ?_
        refine zj_N1 (pc' := 15) (z := YX11_hasBit) (As := [.int a1, .int x2]) (N := M) dX7_besideAny_12 rfl nlX7_46 lkX11_hasBit rfl rfl (Nat.le_of_ble_eq_true rfl) (Nat.le_of_ble_eq_true rfl) (LX11_hasBit Γ _ a1 x2 rfl) rfl ?_
        refine zj_bif_eq (tgt := 27) (pc' := 18) dX7_besideAny_15 rfl (by decide) (fun c11 => ?_) (fun c11 => ?_)
        · have hy := zt_f hy c11
          obtain ⟨x15, ex15⟩ : ∃ z : Int32, z = (x2 + 1) := ⟨_, rfl⟩
          have hy := zlet_at ex15 hy
          refine zj_iinc (pc' := 30) 3 (L' := [(3, .int x15), (0, .ref (zad Γ 10)), (1, .int a1), (2, .int x1)]) dX7_besideAny_27 rfl rfl (by decide) (by rw [ci1, ← ex15]; rfl) ?_
          refine zj_goto (tgt := 4) dX7_besideAny_30 (by decide) ?_
          have hn9 := h8 _ (Option.some.inj hy).symm
          refine zj_loc [1, 2, 3, 0] rfl ?_
          exact ih7 _ _ hn9
        · have hy := zt_t hy c11
          refine zj_iload_n (pc' := 19) 2 dX7_besideAny_18 rfl rfl rfl ?_
          refine zj_aload_n (pc' := 20) 0 dX7_besideAny_19 rfl rfl rfl ?_
          refine zj_getR (pc' := 23) (j := 13) dX7_besideAny_20 rfl flX7_18 sh10 rfl ?_
          refine zj_iload_n (pc' := 24) 3 dX7_besideAny_23 rfl rfl rfl ?_
          obtain ⟨v12, hv12, hy⟩ := zt_b hy
          refine zj_rdi (pc' := 25) dX7_besideAny_24 rfl sh13 e_i13 hv12 ?_
          refine zj_ior (pc' := 26) dX7_besideAny_25 rfl ?_
          refine zj_topi (fun x13 ex13 => ?_)
          have hy := zlet_at ex13 hy
          refine zj_istore_n (pc' := 27) (L' := [(2, .int x13), (0, .ref (zad Γ 10)), (1, .int a1), (3, .int x2)]) dX7_besideAny_26 rfl rfl (by decide) rfl ?_
          obtain ⟨x14, ex14⟩ : ∃ z : Int32, z = (x2 + 1) := ⟨_, rfl⟩
          have hy := zlet_at ex14 hy
          refine zj_iinc (pc' := 30) 3 (L' := [(3, .int x14), (2, .int x13), (0, .ref (zad Γ 10)), (1, .int a1)]) dX7_besideAny_27 rfl rfl (by decide) (by rw [ci1, ← ex14]; rfl) ?_
          refine zj_goto (tgt := 4) dX7_besideAny_30 (by decide) ?_
          have hn9 := h8 _ (Option.some.inj hy).symm
          refine zj_loc [2, 3, 1, 0] rfl ?_
          exact ih7 _ _ hn9
  exact HL4 n9 _ _ hn9
set_option maxRecDepth 20000 in
theorem LX7_besideAny_10 (Γ : zG) (M : zM) (r0_2 : Nat → Int32) (e_i13 : M.1 13 = r0_2) (a1 : Int32) {res : Int32} (hy : (fPl_besideAny r0_2 a1) = some res) : zK Γ 2 YX7_besideAny [.ref (zad Γ 10), .int a1] M (fun v N => v = some (.int res) ∧ N = M) :=
  zK_of (by decide) (Nat.le_of_ble_eq_true rfl) (TX7_besideAny_10 Γ M r0_2 e_i13 a1 hy ⟨rfl, rfl⟩)

noncomputable def fPl_measure_L33 (r0_2 : Nat → Int32) (x3 : Int32) (r0_3v14 : Nat → Int32) (x15 : Int32) (x16 : Int32) (x17 : Int32) : Option (((Nat → Int32) × Int32 × Int32 × Int32) ⊕ ((Nat → Int32))) :=
  (if 8 ≤ x17 then
  some (.inr r0_3v14)
  else
  (fPl_noteFar r0_3v14 x3 x16 x17).bind (fun (y26 : (Nat → Int32)) =>
  zlet (x15 ||| x16) (fun (x27 : Int32) =>
  (fPl_besideAny r0_2 x16).bind (fun (y28 : Int32) =>
  zlet (y28 &&& (x27 ^^^ (-1))) (fun (x29 : Int32) =>
  zlet (x17 + 1) (fun (x30 : Int32) =>
  some (.inl (y26, x27, x29, x30))))))))
noncomputable def fPl_measure_L10 (r0 : Nat → Int32) (r0_2 : Nat → Int32) (r0_3v2 : Nat → Int32) (x3 : Int32) : Option (((Nat → Int32) × Int32) ⊕ ((Nat → Int32))) :=
  (if (r0 4) ≤ x3 then
  some (.inr r0_3v2)
  else
  (if 8 ≤ x3 then
  some (.inr r0_3v2)
  else
  zlet ((1 : Int32) <<< (x3 &&& 31)) (fun (x13 : Int32) =>
  (zLP (fun s => fPl_measure_L33 r0_2 x3 s.1 s.2.1 s.2.2.1 s.2.2.2) (r0_3v2, 0, x13, 0)).bind (fun r20 =>
  zlet (x3 + 1) (fun (x32 : Int32) =>
  some (.inl (r20, x32)))))))
noncomputable def fPl_measure (r0 : Nat → Int32) (r0_2 : Nat → Int32) (r0_3 : Nat → Int32) : Option ((Nat → Int32)) :=
  (fJA_fill_64 r0_3 (-1)).bind (fun (y1 : (Nat → Int32)) =>
  (zLP (fun s => fPl_measure_L10 r0 r0_2 s.1 s.2) (y1, 0)).bind (fun r6 =>
  some r6))

set_option maxRecDepth 20000 in
theorem TX7_measure_10 (Γ : zG) {Q : Option Value → zM → Prop} (M : zM) (r0 : Nat → Int32) (r0_2 : Nat → Int32) (r0_3 : Nat → Int32) (e_i10 : M.1 10 = r0) (e_i13 : M.1 13 = r0_2) (e_i14 : M.1 14 = r0_3)  {res : (Nat → Int32)} (hy : (fPl_measure r0 r0_2 r0_3) = some res) (hq : Q none (zui M 14 res)) : zR Γ 3 YX7_measure 0 [(0, .ref (zad Γ 10))] [] M Q := by
  unfold fPl_measure at hy
  refine zj_aload_n (pc' := 1) 0 dX7_measure_0 rfl rfl rfl ?_
  refine zj_getR (pc' := 4) (j := 14) dX7_measure_1 rfl flX7_22 sh10 rfl ?_
  refine zj_iconst (pc' := 5) dX7_measure_4 rfl kiconst_m1 ?_
  obtain ⟨y1, hy1, hy⟩ := zt_b hy
  refine zj_S0 (pc' := 8) (z := YJ7_fill_53178) (As := [.ref (zad Γ 14), .int (-1)]) (N := (zui M 14 y1)) dX7_measure_5 rfl mlX7_71 lkJ7_fill_53178 rfl rfl (Nat.le_of_ble_eq_true rfl) (Nat.le_of_ble_eq_true rfl) (LJ7_fill_53178_14 Γ _ r0_3 e_i14 (-1) hy1) (rfl).symm ?_
  refine zj_iconst (pc' := 9) dX7_measure_8 rfl kiconst_0 ?_
  refine zj_istore_n (pc' := 10) (L' := [(1, .int 0), (0, .ref (zad Γ 10))]) dX7_measure_9 rfl rfl (by decide) rfl ?_
  refine zj_loc [1, 0] rfl ?_
  obtain ⟨r6, hr9, hyo7⟩ := zt_b hy
  obtain ⟨n9, hn9⟩ := zLP_some hr9
  have HE4 : ∀ (r0_3v33 : Nat → Int32), r6 = r0_3v33 → zR Γ 3 YX7_measure 74 [] [] (zui M 14 r0_3v33) Q := by
    intro r0_3v33 e9
    have hy := hyo7
    try rw [e9] at hy
    try dsimp only at hy
    have e9 := Option.some.inj hy
    subst e9
    exact zj_vret dX7_measure_74 rfl hq
  have HL5 : ∀ (n : Nat) (r0_3v2 : Nat → Int32) (x3 : Int32), zlp (fun s => fPl_measure_L10 r0 r0_2 s.1 s.2) n (r0_3v2, x3) = some r6 → zR Γ 3 YX7_measure 10 [(0, .ref (zad Γ 10)), (1, .int x3)] [] (zui M 14 r0_3v2) Q := by
    intro n
    induction n with
    | zero => intro r0_3v2 x3 hn9; cases hn9
    | succ n ih8 =>
      intro r0_3v2 x3 hn9
      obtain ⟨o9, hb9, h9, h10⟩ := zlp_step hn9
      have hy : fPl_measure_L10 r0 r0_2 r0_3v2 x3 = some o9 := hb9
      unfold fPl_measure_L10 at hy
      refine zj_iload_n (pc' := 11) 1 dX7_measure_10 rfl rfl rfl ?_
      refine zj_aload_n (pc' := 12) 0 dX7_measure_11 rfl rfl rfl ?_
      refine zj_fI (pc' := 15) dX7_measure_12 rfl flX7_25 sh10 rfl (zr_n rfl e_i10) rfl ?_
      refine zj_icmp_ge (tgt := 74) (pc' := 18) dX7_measure_15 rfl (by decide) (fun c11 => ?_) (fun c11 => ?_)
      · have hy := zt_t hy c11
        have e9 := h10 _ (Option.some.inj hy).symm
        refine zj_loc [] rfl ?_
        exact HE4 _ e9.symm
      · have hy := zt_f hy c11
        refine zj_iload_n (pc' := 19) 1 dX7_measure_18 rfl rfl rfl ?_
        refine zj_bipush (pc' := 21) dX7_measure_19 rfl kbipush_8 ?_
        refine zj_icmp_ge (tgt := 74) (pc' := 24) dX7_measure_21 rfl (by decide) (fun c12 => ?_) (fun c12 => ?_)
        · have hy := zt_t hy c12
          have e9 := h10 _ (Option.some.inj hy).symm
          refine zj_loc [] rfl ?_
          exact HE4 _ e9.symm
        · have hy := zt_f hy c12
          refine zj_iconst (pc' := 25) dX7_measure_24 rfl kiconst_0 ?_
          refine zj_istore_n (pc' := 26) (L' := [(2, .int 0), (0, .ref (zad Γ 10)), (1, .int x3)]) dX7_measure_25 rfl rfl (by decide) rfl ?_
          refine zj_iconst (pc' := 27) dX7_measure_26 rfl kiconst_1 ?_
          refine zj_iload_n (pc' := 28) 2 dX7_measure_27 rfl rfl rfl ?_
          refine zj_ishl (pc' := 29) dX7_measure_28 rfl ?_
          refine zj_topi (fun x13 ex13 => ?_)
          have hy := zlet_at ex13 hy
          refine zj_istore_n (pc' := 30) (L' := [(3, .int x13), (2, .int 0), (0, .ref (zad Γ 10)), (1, .int x3)]) dX7_measure_29 rfl rfl (by decide) rfl ?_
          refine zj_iconst (pc' := 31) dX7_measure_30 rfl kiconst_0 ?_
          refine zj_istore (pc' := 33) (L' := [(4, .int 0), (3, .int x13), (2, .int 0), (0, .ref (zad Γ 10)), (1, .int x3)]) dX7_measure_31 rfl (by decide) rfl ?_
          refine zj_loc [3, 4, 2, 1, 0] rfl ?_
          obtain ⟨r20, hr9, hyo21⟩ := zt_b hy
          obtain ⟨n9, hn9⟩ := zLP_some hr9
          have HE18 : ∀ (r0_3v31 : Nat → Int32), r20 = r0_3v31 → zR Γ 3 YX7_measure 68 [(0, .ref (zad Γ 10)), (1, .int x3)] [] (zui M 14 r0_3v31) Q := by
            intro r0_3v31 e9
            have hy := hyo21
            try rw [e9] at hy
            try dsimp only at hy
            obtain ⟨x32, ex32⟩ : ∃ z : Int32, z = (x3 + 1) := ⟨_, rfl⟩
            have hy := zlet_at ex32 hy
            refine zj_iinc (pc' := 71) 1 (L' := [(1, .int x32), (0, .ref (zad Γ 10))]) dX7_measure_68 rfl rfl (by decide) (by rw [ci1, ← ex32]; rfl) ?_
            refine zj_goto (tgt := 10) dX7_measure_71 (by decide) ?_
            have hn9 := h9 _ (Option.some.inj hy).symm
            refine zj_loc [1, 0] rfl ?_
            exact ih8 _ _ hn9
          have HL19 : ∀ (n : Nat) (r0_3v14 : Nat → Int32) (x15 : Int32) (x16 : Int32) (x17 : Int32), zlp (fun s => fPl_measure_L33 r0_2 x3 s.1 s.2.1 s.2.2.1 s.2.2.2) n (r0_3v14, x15, x16, x17) = some r20 → zR Γ 3 YX7_measure 33 [(0, .ref (zad Γ 10)), (1, .int x3), (2, .int x15), (3, .int x16), (4, .int x17)] [] (zui M 14 r0_3v14) Q := by
            intro n
            induction n with
            | zero => intro r0_3v14 x15 x16 x17 hn9; cases hn9
            | succ n ih22 =>
              intro r0_3v14 x15 x16 x17 hn9
              obtain ⟨o9, hb9, h23, h24⟩ := zlp_step hn9
              have hy : fPl_measure_L33 r0_2 x3 r0_3v14 x15 x16 x17 = some o9 := hb9
              unfold fPl_measure_L33 at hy
              refine zj_iload (pc' := 35) 4 dX7_measure_33 rfl rfl ?_
              refine zj_bipush (pc' := 37) dX7_measure_35 rfl kbipush_8 ?_
              refine zj_icmp_ge (tgt := 68) (pc' := 40) dX7_measure_37 rfl (by decide) (fun c25 => ?_) (fun c25 => ?_)
              · have hy := zt_t hy c25
                have e9 := h24 _ (Option.some.inj hy).symm
                refine zj_loc [0, 1] rfl ?_
                exact HE18 _ e9.symm
              · have hy := zt_f hy c25
                refine zj_aload_n (pc' := 41) 0 dX7_measure_40 rfl rfl rfl ?_
                refine zj_iload_n (pc' := 42) 1 dX7_measure_41 rfl rfl rfl ?_
                refine zj_iload_n (pc' := 43) 3 dX7_measure_42 rfl rfl rfl ?_
                refine zj_iload (pc' := 45) 4 dX7_measure_43 rfl rfl ?_
                obtain ⟨y26, hy26, hy⟩ := zt_b hy
                refine zj_V0 (pc' := 48) (z := YX7_noteFar) (As := [.int x3, .int x16, .int x17]) (N := (zui M 14 y26)) dX7_measure_45 rfl mlX7_178 lkX7_noteFar sh10 ⟨_, _, rfl⟩ rfl rfl (Nat.le_of_ble_eq_true rfl) (Nat.le_of_ble_eq_true rfl) (LX7_noteFar_10 Γ _ r0_3v14 zr_s x3 x16 x17 hy26) (zm_s).symm ?_
                refine zj_iload_n (pc' := 49) 2 dX7_measure_48 rfl rfl rfl ?_
                refine zj_iload_n (pc' := 50) 3 dX7_measure_49 rfl rfl rfl ?_
                refine zj_ior (pc' := 51) dX7_measure_50 rfl ?_
                refine zj_topi (fun x27 ex27 => ?_)
                have hy := zlet_at ex27 hy
                refine zj_istore_n (pc' := 52) (L' := [(2, .int x27), (0, .ref (zad Γ 10)), (1, .int x3), (3, .int x16), (4, .int x17)]) dX7_measure_51 rfl rfl (by decide) rfl ?_
                refine zj_aload_n (pc' := 53) 1 dX7_measure_52 rfl rfl rfl ?_
                refine zj_iload_n (pc' := 54) 3 dX7_measure_53 rfl rfl rfl ?_
                obtain ⟨y28, hy28, hy⟩ := zt_b hy
                refine zj_V1 (pc' := 57) (z := YX7_besideAny) (As := [.int x16]) (N := (zui M 14 y26)) dX7_measure_54 rfl mlX7_62 lkX7_besideAny sh10 ⟨_, _, rfl⟩ rfl rfl (Nat.le_of_ble_eq_true rfl) (Nat.le_of_ble_eq_true rfl) (LX7_besideAny_10 Γ _ r0_2 (zr_n rfl e_i13) x16 hy28) rfl ?_
                refine zj_iload_n (pc' := 58) 0 dX7_measure_57 rfl rfl rfl ?_
                refine zj_iconst (pc' := 59) dX7_measure_58 rfl kiconst_m1 ?_
                refine zj_ixor (pc' := 60) dX7_measure_59 rfl ?_
                refine zj_iand (pc' := 61) dX7_measure_60 rfl ?_
                refine zj_topi (fun x29 ex29 => ?_)
                have hy := zlet_at ex29 hy
                refine zj_istore_n (pc' := 62) (L' := [(3, .int x29), (2, .int x27), (0, .ref (zad Γ 10)), (1, .int x3), (4, .int x17)]) dX7_measure_61 rfl rfl (by decide) rfl ?_
                obtain ⟨x30, ex30⟩ : ∃ z : Int32, z = (x17 + 1) := ⟨_, rfl⟩
                have hy := zlet_at ex30 hy
                refine zj_iinc (pc' := 65) 4 (L' := [(4, .int x30), (3, .int x29), (2, .int x27), (0, .ref (zad Γ 10)), (1, .int x3)]) dX7_measure_62 rfl rfl (by decide) (by rw [ci1, ← ex30]; rfl) ?_
                refine zj_goto (tgt := 33) dX7_measure_65 (by decide) ?_
                have hn9 := h23 _ (Option.some.inj hy).symm
                refine zj_loc [3, 4, 2, 1, 0] rfl ?_
                exact ih22 _ _ _ _ hn9
          exact HL19 n9 _ _ _ _ hn9
  exact HL5 n9 _ _ hn9
set_option maxRecDepth 20000 in
theorem LX7_measure_10 (Γ : zG) (M : zM) (r0 : Nat → Int32) (r0_2 : Nat → Int32) (r0_3 : Nat → Int32) (e_i10 : M.1 10 = r0) (e_i13 : M.1 13 = r0_2) (e_i14 : M.1 14 = r0_3)  {res : (Nat → Int32)} (hy : (fPl_measure r0 r0_2 r0_3) = some res) : zK Γ 3 YX7_measure [.ref (zad Γ 10)] M (fun v N => v = none ∧ N = (zui M 14 res)) :=
  zK_of (by decide) (Nat.le_of_ble_eq_true rfl) (TX7_measure_10 Γ M r0 r0_2 r0_3 e_i10 e_i13 e_i14 hy ⟨rfl, rfl⟩)

noncomputable def fRd_toldWord_L10 (w0 : Nat → Int64) (w0_1 : Nat → Int64) (x2 : Int32) : Option ((Int32) ⊕ (Int32)) :=
  (if 22 ≤ x2 then
  some (.inr (-1))
  else
  (zrd w0_1 22 x2).bind (fun (v11 : Int64) =>
  (if (lg_cmp v11 (w0 6)) = 0 then
  some (.inr x2)
  else
  zlet (x2 + 1) (fun (x13 : Int32) =>
  some (.inl x13)))))
noncomputable def fRd_toldWord (r0 : Nat → Int32) (w0 : Nat → Int64) (w0_1 : Nat → Int64) : Option (Int32) :=
  (if (r0 5) = 1 then
  zLP (fun s => fRd_toldWord_L10 w0 w0_1 s) 0
  else
  some (-1))

set_option maxRecDepth 20000 in
theorem TX8_toldWord_3 (Γ : zG) {Q : Option Value → zM → Prop} (M : zM) (r0 : Nat → Int32) (w0 : Nat → Int64) (w0_1 : Nat → Int64) (e_i3 : M.1 3 = r0) (e_l3 : M.2 3 = w0) (e_l4 : M.2 4 = w0_1)  {res : Int32} (hy : (fRd_toldWord r0 w0 w0_1) = some res) (hq : Q (some (.int res)) M) : zR Γ 1 YX8_toldWord 0 [(0, .ref (zad Γ 3))] [] M Q := by
  unfold fRd_toldWord at hy
  refine zj_aload_n (pc' := 1) 0 dX8_toldWord_0 rfl rfl rfl ?_
  refine zj_fI (pc' := 4) dX8_toldWord_1 rfl flX8_57 sh3 rfl e_i3 rfl ?_
  refine zj_iconst (pc' := 5) dX8_toldWord_4 rfl kiconst_1 ?_
  refine zj_icmp_ne (tgt := 38) (pc' := 8) dX8_toldWord_5 rfl (by decide) (fun c1 => ?_) (fun c1 => ?_)
  · have hy := zt_f hy c1
    refine zj_iconst (pc' := 39) dX8_toldWord_38 rfl kiconst_m1 ?_
    have e9 := Option.some.inj hy
    subst e9
    exact zj_iret dX8_toldWord_39 rfl hq
  · have hy := zt_t hy c1
    refine zj_iconst (pc' := 9) dX8_toldWord_8 rfl kiconst_0 ?_
    refine zj_istore_n (pc' := 10) (L' := [(1, .int 0), (0, .ref (zad Γ 3))]) dX8_toldWord_9 rfl rfl (by decide) rfl ?_
    refine zj_loc [1, 0] rfl ?_
    obtain ⟨n9, hn9⟩ := zLP_some hy
    have HL4 : ∀ (n : Nat) (x2 : Int32), zlp (fun s => fRd_toldWord_L10 w0 w0_1 s) n x2 = some res → zR Γ 1 YX8_toldWord 10 [(0, .ref (zad Γ 3)), (1, .int x2)] [] M Q := by
      intro n
      induction n with
      | zero => intro x2 hn9; cases hn9
      | succ n ih7 =>
        intro x2 hn9
        obtain ⟨o9, hb9, h8, h9⟩ := zlp_step hn9
        have hy : fRd_toldWord_L10 w0 w0_1 x2 = some o9 := hb9
        unfold fRd_toldWord_L10 at hy
        refine zj_iload_n (pc' := 11) 1 dX8_toldWord_10 rfl rfl rfl ?_
        refine zj_bipush (pc' := 13) dX8_toldWord_11 rfl kbipush_22 ?_
        refine zj_icmp_ge (tgt := 38) (pc' := 16) dX8_toldWord_13 rfl (by decide) (fun c10 => ?_) (fun c10 => ?_)
        · have hy := zt_t hy c10
          refine zj_iconst (pc' := 39) dX8_toldWord_38 rfl kiconst_m1 ?_
          have e9 := h9 _ (Option.some.inj hy).symm
          subst e9
          exact zj_iret dX8_toldWord_39 rfl hq
        · have hy := zt_f hy c10
          refine zj_aload_n (pc' := 17) 0 dX8_toldWord_16 rfl rfl rfl ?_
          refine zj_getR (pc' := 20) (j := 4) dX8_toldWord_17 rfl flX8_15 sh3 rfl ?_
          refine zj_iload_n (pc' := 21) 1 dX8_toldWord_20 rfl rfl rfl ?_
          obtain ⟨v11, hv11, hy⟩ := zt_b hy
          refine zj_rdl (pc' := 22) dX8_toldWord_21 rfl sh4 e_l4 hv11 ?_
          refine zj_aload_n (pc' := 23) 0 dX8_toldWord_22 rfl rfl rfl ?_
          refine zj_fL (pc' := 26) dX8_toldWord_23 rfl flX8_60 sh3 rfl e_l3 rfl ?_
          refine zj_lcmp (pc' := 27) dX8_toldWord_26 rfl ?_
          refine zj_if_ne (tgt := 32) (pc' := 30) dX8_toldWord_27 rfl (by decide) (fun c12 => ?_) (fun c12 => ?_)
          · have hy := zt_f hy c12
            obtain ⟨x13, ex13⟩ : ∃ z : Int32, z = (x2 + 1) := ⟨_, rfl⟩
            have hy := zlet_at ex13 hy
            refine zj_iinc (pc' := 35) 1 (L' := [(1, .int x13), (0, .ref (zad Γ 3))]) dX8_toldWord_32 rfl rfl (by decide) (by rw [ci1, ← ex13]; rfl) ?_
            refine zj_goto (tgt := 10) dX8_toldWord_35 (by decide) ?_
            have hn9 := h8 _ (Option.some.inj hy).symm
            refine zj_loc [1, 0] rfl ?_
            exact ih7 _ hn9
          · have hy := zt_t hy c12
            refine zj_iload_n (pc' := 31) 1 dX8_toldWord_30 rfl rfl rfl ?_
            have e9 := h9 _ (Option.some.inj hy).symm
            subst e9
            exact zj_iret dX8_toldWord_31 rfl hq
    exact HL4 n9 _ hn9
set_option maxRecDepth 20000 in
theorem LX8_toldWord_3 (Γ : zG) (M : zM) (r0 : Nat → Int32) (w0 : Nat → Int64) (w0_1 : Nat → Int64) (e_i3 : M.1 3 = r0) (e_l3 : M.2 3 = w0) (e_l4 : M.2 4 = w0_1)  {res : Int32} (hy : (fRd_toldWord r0 w0 w0_1) = some res) : zK Γ 1 YX8_toldWord [.ref (zad Γ 3)] M (fun v N => v = some (.int res) ∧ N = M) :=
  zK_of (by decide) (Nat.le_of_ble_eq_true rfl) (TX8_toldWord_3 Γ M r0 w0 w0_1 e_i3 e_l3 e_l4 hy ⟨rfl, rfl⟩)

noncomputable def fRd_fail (r0 : Nat → Int32) (a1 : Int32) : Option ((Nat → Int32)) :=
  (if (r0 8) = 0 then
  zlet (zup r0 8 a1) (fun (r0v2 : Nat → Int32) =>
  some r0v2)
  else
  some r0)

set_option maxRecDepth 20000 in
theorem TX8_fail_3 (Γ : zG) {Q : Option Value → zM → Prop} (M : zM) (r0 : Nat → Int32) (e_i3 : M.1 3 = r0) (a1 : Int32) {res : (Nat → Int32)} (hy : (fRd_fail r0 a1) = some res) (hq : Q none (zui M 3 res)) : zR Γ 1 YX8_fail 0 [(0, .ref (zad Γ 3)), (1, .int a1)] [] M Q := by
  unfold fRd_fail at hy
  refine zj_aload_n (pc' := 1) 0 dX8_fail_0 rfl rfl rfl ?_
  refine zj_fI (pc' := 4) dX8_fail_1 rfl flX8_48 sh3 rfl e_i3 rfl ?_
  refine zj_if_ne (tgt := 12) (pc' := 7) dX8_fail_4 rfl (by decide) (fun c1 => ?_) (fun c1 => ?_)
  · have hy := zt_f hy c1
    have e9 := Option.some.inj hy
    subst e9
    refine zj_mem (N := (zui M 3 r0)) (zself_i e_i3 rfl) ?_
    exact zj_vret dX8_fail_12 rfl hq
  · have hy := zt_t hy c1
    refine zj_aload_n (pc' := 8) 0 dX8_fail_7 rfl rfl rfl ?_
    refine zj_iload_n (pc' := 9) 1 dX8_fail_8 rfl rfl rfl ?_
    obtain ⟨r0v2, er0v2⟩ : ∃ z, z = (zup r0 8 a1) := ⟨_, rfl⟩
    have hy := zlet_at er0v2 hy
    refine zj_pI (pc' := 12) (N := (zui M 3 r0v2)) dX8_fail_9 rfl fpX8_48 sh3 rfl e_i3 er0v2 rfl ?_
    have e9 := Option.some.inj hy
    subst e9
    exact zj_vret dX8_fail_12 rfl hq
set_option maxRecDepth 20000 in
theorem LX8_fail_3 (Γ : zG) (M : zM) (r0 : Nat → Int32) (e_i3 : M.1 3 = r0) (a1 : Int32) {res : (Nat → Int32)} (hy : (fRd_fail r0 a1) = some res) : zK Γ 1 YX8_fail [.ref (zad Γ 3), .int a1] M (fun v N => v = none ∧ N = (zui M 3 res)) :=
  zK_of (by decide) (Nat.le_of_ble_eq_true rfl) (TX8_fail_3 Γ M r0 e_i3 a1 hy ⟨rfl, rfl⟩)

noncomputable def fRd_needName (r0 : Nat → Int32) (w0 : Nat → Int64) (w0_1 : Nat → Int64) : Option (Bool × (Nat → Int32)) :=
  (if (r0 5) = 1 then
  (fRd_toldWord r0 w0 w0_1).bind (fun (y2 : Int32) =>
  (if y2 = (-1) then
  some ((fRd_isGood r0), r0)
  else
  (fRd_fail r0 1).bind (fun (y4 : (Nat → Int32)) =>
  some ((fRd_isGood y4), y4))))
  else
  (fRd_fail r0 1).bind (fun (y5 : (Nat → Int32)) =>
  some ((fRd_isGood y5), y5)))

set_option maxRecDepth 20000 in
theorem TX8_needName_3 (Γ : zG) {Q : Option Value → zM → Prop} (M : zM) (r0 : Nat → Int32) (w0 : Nat → Int64) (w0_1 : Nat → Int64) (e_i3 : M.1 3 = r0) (e_l3 : M.2 3 = w0) (e_l4 : M.2 4 = w0_1)  {res : Bool × (Nat → Int32)} (hy : (fRd_needName r0 w0 w0_1) = some res) (hq : Q (some (.int (zb res.1))) (zui M 3 res.2)) : zR Γ 2 YX8_needName 0 [(0, .ref (zad Γ 3))] [] M Q := by
  unfold fRd_needName at hy
  refine zj_aload_n (pc' := 1) 0 dX8_needName_0 rfl rfl rfl ?_
  refine zj_fI (pc' := 4) dX8_needName_1 rfl flX8_57 sh3 rfl e_i3 rfl ?_
  refine zj_iconst (pc' := 5) dX8_needName_4 rfl kiconst_1 ?_
  refine zj_icmp_ne (tgt := 16) (pc' := 8) dX8_needName_5 rfl (by decide) (fun c1 => ?_) (fun c1 => ?_)
  · have hy := zt_f hy c1
    refine zj_aload_n (pc' := 17) 0 dX8_needName_16 rfl rfl rfl ?_
    refine zj_iconst (pc' := 18) dX8_needName_17 rfl kiconst_1 ?_
    obtain ⟨y5, hy5, hy⟩ := zt_b hy
    refine zj_V0 (pc' := 21) (z := YX8_fail) (As := [.int 1]) (N := (zui M 3 y5)) dX8_needName_18 rfl mlX8_93 lkX8_fail sh3 ⟨_, _, rfl⟩ rfl rfl (Nat.le_of_ble_eq_true rfl) (Nat.le_of_ble_eq_true rfl) (LX8_fail_3 Γ _ r0 e_i3 1 hy5) (rfl).symm ?_
    refine zj_aload_n (pc' := 22) 0 dX8_needName_21 rfl rfl rfl ?_
    refine zj_V1 (pc' := 25) (z := YX8_isGood) (As := []) (N := (zui M 3 y5)) dX8_needName_22 rfl mlX8_97 lkX8_isGood sh3 ⟨_, _, rfl⟩ rfl rfl (Nat.le_of_ble_eq_true rfl) (Nat.le_of_ble_eq_true rfl) (LX8_isGood_3 Γ _ y5 zr_s rfl) rfl ?_
    have e9 := Option.some.inj hy
    subst e9
    exact zj_bret (b := (fRd_isGood y5)) dX8_needName_25 rfl hq
  · have hy := zt_t hy c1
    refine zj_aload_n (pc' := 9) 0 dX8_needName_8 rfl rfl rfl ?_
    obtain ⟨y2, hy2, hy⟩ := zt_b hy
    refine zj_V1 (pc' := 12) (z := YX8_toldWord) (As := []) (N := M) dX8_needName_9 rfl mlX8_90 lkX8_toldWord sh3 ⟨_, _, rfl⟩ rfl rfl (Nat.le_of_ble_eq_true rfl) (Nat.le_of_ble_eq_true rfl) (LX8_toldWord_3 Γ _ r0 w0 w0_1 e_i3 e_l3 e_l4 hy2) rfl ?_
    refine zj_iconst (pc' := 13) dX8_needName_12 rfl kiconst_m1 ?_
    refine zj_icmp_eq (tgt := 21) (pc' := 16) dX8_needName_13 rfl (by decide) (fun c3 => ?_) (fun c3 => ?_)
    · have hy := zt_t hy c3
      refine zj_aload_n (pc' := 22) 0 dX8_needName_21 rfl rfl rfl ?_
      refine zj_V1 (pc' := 25) (z := YX8_isGood) (As := []) (N := M) dX8_needName_22 rfl mlX8_97 lkX8_isGood sh3 ⟨_, _, rfl⟩ rfl rfl (Nat.le_of_ble_eq_true rfl) (Nat.le_of_ble_eq_true rfl) (LX8_isGood_3 Γ _ r0 e_i3 rfl) rfl ?_
      have e9 := Option.some.inj hy
      subst e9
      refine zj_mem (N := (zui M 3 r0)) (zself_i e_i3 rfl) ?_
      exact zj_bret (b := (fRd_isGood r0)) dX8_needName_25 rfl hq
    · have hy := zt_f hy c3
      refine zj_aload_n (pc' := 17) 0 dX8_needName_16 rfl rfl rfl ?_
      refine zj_iconst (pc' := 18) dX8_needName_17 rfl kiconst_1 ?_
      obtain ⟨y4, hy4, hy⟩ := zt_b hy
      refine zj_V0 (pc' := 21) (z := YX8_fail) (As := [.int 1]) (N := (zui M 3 y4)) dX8_needName_18 rfl mlX8_93 lkX8_fail sh3 ⟨_, _, rfl⟩ rfl rfl (Nat.le_of_ble_eq_true rfl) (Nat.le_of_ble_eq_true rfl) (LX8_fail_3 Γ _ r0 e_i3 1 hy4) (rfl).symm ?_
      refine zj_aload_n (pc' := 22) 0 dX8_needName_21 rfl rfl rfl ?_
      refine zj_V1 (pc' := 25) (z := YX8_isGood) (As := []) (N := (zui M 3 y4)) dX8_needName_22 rfl mlX8_97 lkX8_isGood sh3 ⟨_, _, rfl⟩ rfl rfl (Nat.le_of_ble_eq_true rfl) (Nat.le_of_ble_eq_true rfl) (LX8_isGood_3 Γ _ y4 zr_s rfl) rfl ?_
      have e9 := Option.some.inj hy
      subst e9
      exact zj_bret (b := (fRd_isGood y4)) dX8_needName_25 rfl hq
set_option maxRecDepth 20000 in
theorem LX8_needName_3 (Γ : zG) (M : zM) (r0 : Nat → Int32) (w0 : Nat → Int64) (w0_1 : Nat → Int64) (e_i3 : M.1 3 = r0) (e_l3 : M.2 3 = w0) (e_l4 : M.2 4 = w0_1)  {res : Bool × (Nat → Int32)} (hy : (fRd_needName r0 w0 w0_1) = some res) : zK Γ 2 YX8_needName [.ref (zad Γ 3)] M (fun v N => v = some (.int (zb res.1)) ∧ N = (zui M 3 res.2)) :=
  zK_of (by decide) (Nat.le_of_ble_eq_true rfl) (TX8_needName_3 Γ M r0 w0 w0_1 e_i3 e_l3 e_l4 hy ⟨rfl, rfl⟩)

noncomputable def fPl_personNamed_L2 (r0 : Nat → Int32) (w0_1 : Nat → Int64) (a1 : Int64) (x1 : Int32) : Option ((Int32) ⊕ (Int32)) :=
  (if (r0 6) ≤ x1 then
  some (.inr (-1))
  else
  (if 6 ≤ x1 then
  some (.inr (-1))
  else
  (zrd w0_1 6 x1).bind (fun (v11 : Int64) =>
  (if (lg_cmp v11 a1) = 0 then
  some (.inr x1)
  else
  zlet (x1 + 1) (fun (x13 : Int32) =>
  some (.inl x13))))))
noncomputable def fPl_personNamed (r0 : Nat → Int32) (w0_1 : Nat → Int64) (a1 : Int64) : Option (Int32) :=
  zLP (fun s => fPl_personNamed_L2 r0 w0_1 a1 s) 0

set_option maxRecDepth 20000 in
theorem TX7_personNamed_10 (Γ : zG) {Q : Option Value → zM → Prop} (M : zM) (r0 : Nat → Int32) (w0_1 : Nat → Int64) (e_i10 : M.1 10 = r0) (e_l12 : M.2 12 = w0_1) (a1 : Int64) {res : Int32} (hy : (fPl_personNamed r0 w0_1 a1) = some res) (hq : Q (some (.int res)) M) : zR Γ 1 YX7_personNamed 0 [(0, .ref (zad Γ 10)), (1, .long a1)] [] M Q := by
  unfold fPl_personNamed at hy
  refine zj_iconst (pc' := 1) dX7_personNamed_0 rfl kiconst_0 ?_
  refine zj_istore_n (pc' := 2) (L' := [(3, .int 0), (0, .ref (zad Γ 10)), (1, .long a1)]) dX7_personNamed_1 rfl rfl (by decide) rfl ?_
  refine zj_loc [1, 2, 0] rfl ?_
  obtain ⟨n9, hn9⟩ := zLP_some hy
  have HL3 : ∀ (n : Nat) (x1 : Int32), zlp (fun s => fPl_personNamed_L2 r0 w0_1 a1 s) n x1 = some res → zR Γ 1 YX7_personNamed 2 [(0, .ref (zad Γ 10)), (1, .long a1), (3, .int x1)] [] M Q := by
    intro n
    induction n with
    | zero => intro x1 hn9; cases hn9
    | succ n ih6 =>
      intro x1 hn9
      obtain ⟨o9, hb9, h7, h8⟩ := zlp_step hn9
      have hy : fPl_personNamed_L2 r0 w0_1 a1 x1 = some o9 := hb9
      unfold fPl_personNamed_L2 at hy
      refine zj_iload_n (pc' := 3) 2 dX7_personNamed_2 rfl rfl rfl ?_
      refine zj_aload_n (pc' := 4) 0 dX7_personNamed_3 rfl rfl rfl ?_
      refine zj_fI (pc' := 7) dX7_personNamed_4 rfl flX7_32 sh10 rfl e_i10 rfl ?_
      refine zj_icmp_ge (tgt := 35) (pc' := 10) dX7_personNamed_7 rfl (by decide) (fun c9 => ?_) (fun c9 => ?_)
      · have hy := zt_t hy c9
        refine zj_iconst (pc' := 36) dX7_personNamed_35 rfl kiconst_m1 ?_
        have e9 := h8 _ (Option.some.inj hy).symm
        subst e9
        exact zj_iret dX7_personNamed_36 rfl hq
      · have hy := zt_f hy c9
        refine zj_iload_n (pc' := 11) 2 dX7_personNamed_10 rfl rfl rfl ?_
        refine zj_bipush (pc' := 13) dX7_personNamed_11 rfl kbipush_6 ?_
        refine zj_icmp_ge (tgt := 35) (pc' := 16) dX7_personNamed_13 rfl (by decide) (fun c10 => ?_) (fun c10 => ?_)
        · have hy := zt_t hy c10
          refine zj_iconst (pc' := 36) dX7_personNamed_35 rfl kiconst_m1 ?_
          have e9 := h8 _ (Option.some.inj hy).symm
          subst e9
          exact zj_iret dX7_personNamed_36 rfl hq
        · have hy := zt_f hy c10
          refine zj_aload_n (pc' := 17) 0 dX7_personNamed_16 rfl rfl rfl ?_
          refine zj_getR (pc' := 20) (j := 12) dX7_personNamed_17 rfl flX7_15 sh10 rfl ?_
          refine zj_iload_n (pc' := 21) 2 dX7_personNamed_20 rfl rfl rfl ?_
          obtain ⟨v11, hv11, hy⟩ := zt_b hy
          refine zj_rdl (pc' := 22) dX7_personNamed_21 rfl sh12 e_l12 hv11 ?_
          refine zj_lload_n (pc' := 23) 1 dX7_personNamed_22 rfl rfl rfl ?_
          refine zj_lcmp (pc' := 24) dX7_personNamed_23 rfl ?_
          refine zj_if_ne (tgt := 29) (pc' := 27) dX7_personNamed_24 rfl (by decide) (fun c12 => ?_) (fun c12 => ?_)
          · have hy := zt_f hy c12
            obtain ⟨x13, ex13⟩ : ∃ z : Int32, z = (x1 + 1) := ⟨_, rfl⟩
            have hy := zlet_at ex13 hy
            refine zj_iinc (pc' := 32) 2 (L' := [(3, .int x13), (0, .ref (zad Γ 10)), (1, .long a1)]) dX7_personNamed_29 rfl rfl (by decide) (by rw [ci1, ← ex13]; rfl) ?_
            refine zj_goto (tgt := 2) dX7_personNamed_32 (by decide) ?_
            have hn9 := h7 _ (Option.some.inj hy).symm
            refine zj_loc [1, 2, 0] rfl ?_
            exact ih6 _ hn9
          · have hy := zt_t hy c12
            refine zj_iload_n (pc' := 28) 2 dX7_personNamed_27 rfl rfl rfl ?_
            have e9 := h8 _ (Option.some.inj hy).symm
            subst e9
            exact zj_iret dX7_personNamed_28 rfl hq
  exact HL3 n9 _ hn9
set_option maxRecDepth 20000 in
theorem LX7_personNamed_10 (Γ : zG) (M : zM) (r0 : Nat → Int32) (w0_1 : Nat → Int64) (e_i10 : M.1 10 = r0) (e_l12 : M.2 12 = w0_1) (a1 : Int64) {res : Int32} (hy : (fPl_personNamed r0 w0_1 a1) = some res) : zK Γ 1 YX7_personNamed [.ref (zad Γ 10), .long a1] M (fun v N => v = some (.int res) ∧ N = M) :=
  zK_of (by decide) (Nat.le_of_ble_eq_true rfl) (TX7_personNamed_10 Γ M r0 w0_1 e_i10 e_l12 a1 hy ⟨rfl, rfl⟩)

noncomputable def fRd_needPerson (r0 : Nat → Int32) (w0 : Nat → Int64) (w0_1 : Nat → Int64) (r1 : Nat → Int32) (w1_1 : Nat → Int64) : Option (Int32 × (Nat → Int32)) :=
  (fRd_needName r0 w0 w0_1).bind (fun (y1 : Bool × (Nat → Int32)) =>
  (if y1.1 = true then
  (fPl_personNamed r1 w1_1 (w0 6)).bind (fun (y3 : Int32) =>
  (if y3 = (-1) then
  (fRd_fail y1.2 3).bind (fun (y5 : (Nat → Int32)) =>
  some (y3, y5))
  else
  some (y3, y1.2)))
  else
  (if ((-1) : Int32) = (-1) then
  (fRd_fail y1.2 3).bind (fun (y7 : (Nat → Int32)) =>
  some ((-1), y7))
  else
  some ((-1), y1.2))))

set_option maxRecDepth 20000 in
theorem TX8_needPerson_3_10 (Γ : zG) {Q : Option Value → zM → Prop} (M : zM) (r0 : Nat → Int32) (w0 : Nat → Int64) (w0_1 : Nat → Int64) (r1 : Nat → Int32) (w1_1 : Nat → Int64) (e_i3 : M.1 3 = r0) (e_l3 : M.2 3 = w0) (e_l4 : M.2 4 = w0_1) (e_i10 : M.1 10 = r1) (e_l12 : M.2 12 = w1_1)  {res : Int32 × (Nat → Int32)} (hy : (fRd_needPerson r0 w0 w0_1 r1 w1_1) = some res) (hq : Q (some (.int res.1)) (zui M 3 res.2)) : zR Γ 3 YX8_needPerson 0 [(0, .ref (zad Γ 3)), (1, .ref (zad Γ 10))] [] M Q := by
  unfold fRd_needPerson at hy
  refine zj_aload_n (pc' := 1) 0 dX8_needPerson_0 rfl rfl rfl ?_
  obtain ⟨y1, hy1, hy⟩ := zt_b hy
  refine zj_V1 (pc' := 4) (z := YX8_needName) (As := []) (N := (zui M 3 y1.2)) dX8_needPerson_1 rfl mlX8_101 lkX8_needName sh3 ⟨_, _, rfl⟩ rfl rfl (Nat.le_of_ble_eq_true rfl) (Nat.le_of_ble_eq_true rfl) (LX8_needName_3 Γ _ r0 w0 w0_1 e_i3 e_l3 e_l4 hy1) (rfl).symm ?_
  refine zj_bif_eq (tgt := 18) (pc' := 7) dX8_needPerson_4 rfl (by decide) (fun c2 => ?_) (fun c2 => ?_)
  · have hy := zt_f hy c2
    refine zj_iconst (pc' := 19) dX8_needPerson_18 rfl kiconst_m1 ?_
    refine zj_istore_n (pc' := 20) (L' := [(2, .int (-1)), (0, .ref (zad Γ 3)), (1, .ref (zad Γ 10))]) dX8_needPerson_19 rfl rfl (by decide) rfl ?_
    refine zj_iload_n (pc' := 21) 0 dX8_needPerson_20 rfl rfl rfl ?_
    refine zj_iconst (pc' := 22) dX8_needPerson_21 rfl kiconst_m1 ?_
    refine zj_icmp_ne (tgt := 30) (pc' := 25) dX8_needPerson_22 rfl (by decide) (fun c6 => ?_) (fun c6 => ?_)
    · have hy := zt_f hy c6
      refine zj_iload_n (pc' := 31) 0 dX8_needPerson_30 rfl rfl rfl ?_
      have e9 := Option.some.inj hy
      subst e9
      exact zj_iret dX8_needPerson_31 rfl hq
    · have hy := zt_t hy c6
      refine zj_aload_n (pc' := 26) 1 dX8_needPerson_25 rfl rfl rfl ?_
      refine zj_iconst (pc' := 27) dX8_needPerson_26 rfl kiconst_3 ?_
      obtain ⟨y7, hy7, hy⟩ := zt_b hy
      refine zj_V0 (pc' := 30) (z := YX8_fail) (As := [.int 3]) (N := (zui M 3 y7)) dX8_needPerson_27 rfl mlX8_93 lkX8_fail sh3 ⟨_, _, rfl⟩ rfl rfl (Nat.le_of_ble_eq_true rfl) (Nat.le_of_ble_eq_true rfl) (LX8_fail_3 Γ _ y1.2 zr_s 3 hy7) (zm_s).symm ?_
      refine zj_iload_n (pc' := 31) 0 dX8_needPerson_30 rfl rfl rfl ?_
      have e9 := Option.some.inj hy
      subst e9
      exact zj_iret dX8_needPerson_31 rfl hq
  · have hy := zt_t hy c2
    refine zj_aload_n (pc' := 8) 1 dX8_needPerson_7 rfl rfl rfl ?_
    refine zj_aload_n (pc' := 9) 0 dX8_needPerson_8 rfl rfl rfl ?_
    refine zj_fL (pc' := 12) dX8_needPerson_9 rfl flX8_60 sh3 rfl (zq_i e_l3) rfl ?_
    obtain ⟨y3, hy3, hy⟩ := zt_b hy
    refine zj_V1 (pc' := 15) (z := YX7_personNamed) (As := [.long (w0 6)]) (N := (zui M 3 y1.2)) dX8_needPerson_12 rfl mlX8_110 lkX7_personNamed sh10 ⟨_, _, rfl⟩ rfl rfl (Nat.le_of_ble_eq_true rfl) (Nat.le_of_ble_eq_true rfl) (LX7_personNamed_10 Γ _ r1 w1_1 (zr_n rfl e_i10) (zq_i e_l12) (w0 6) hy3) rfl ?_
    refine zj_goto (tgt := 19) dX8_needPerson_15 (by decide) ?_
    refine zj_istore_n (pc' := 20) (L' := [(2, .int y3), (0, .ref (zad Γ 3)), (1, .ref (zad Γ 10))]) dX8_needPerson_19 rfl rfl (by decide) rfl ?_
    refine zj_iload_n (pc' := 21) 0 dX8_needPerson_20 rfl rfl rfl ?_
    refine zj_iconst (pc' := 22) dX8_needPerson_21 rfl kiconst_m1 ?_
    refine zj_icmp_ne (tgt := 30) (pc' := 25) dX8_needPerson_22 rfl (by decide) (fun c4 => ?_) (fun c4 => ?_)
    · have hy := zt_f hy c4
      refine zj_iload_n (pc' := 31) 0 dX8_needPerson_30 rfl rfl rfl ?_
      have e9 := Option.some.inj hy
      subst e9
      exact zj_iret dX8_needPerson_31 rfl hq
    · have hy := zt_t hy c4
      refine zj_aload_n (pc' := 26) 1 dX8_needPerson_25 rfl rfl rfl ?_
      refine zj_iconst (pc' := 27) dX8_needPerson_26 rfl kiconst_3 ?_
      obtain ⟨y5, hy5, hy⟩ := zt_b hy
      refine zj_V0 (pc' := 30) (z := YX8_fail) (As := [.int 3]) (N := (zui M 3 y5)) dX8_needPerson_27 rfl mlX8_93 lkX8_fail sh3 ⟨_, _, rfl⟩ rfl rfl (Nat.le_of_ble_eq_true rfl) (Nat.le_of_ble_eq_true rfl) (LX8_fail_3 Γ _ y1.2 zr_s 3 hy5) (zm_s).symm ?_
      refine zj_iload_n (pc' := 31) 0 dX8_needPerson_30 rfl rfl rfl ?_
      have e9 := Option.some.inj hy
      subst e9
      exact zj_iret dX8_needPerson_31 rfl hq
set_option maxRecDepth 20000 in
theorem LX8_needPerson_3_10 (Γ : zG) (M : zM) (r0 : Nat → Int32) (w0 : Nat → Int64) (w0_1 : Nat → Int64) (r1 : Nat → Int32) (w1_1 : Nat → Int64) (e_i3 : M.1 3 = r0) (e_l3 : M.2 3 = w0) (e_l4 : M.2 4 = w0_1) (e_i10 : M.1 10 = r1) (e_l12 : M.2 12 = w1_1)  {res : Int32 × (Nat → Int32)} (hy : (fRd_needPerson r0 w0 w0_1 r1 w1_1) = some res) : zK Γ 3 YX8_needPerson [.ref (zad Γ 3), .ref (zad Γ 10)] M (fun v N => v = some (.int res.1) ∧ N = (zui M 3 res.2)) :=
  zK_of (by decide) (Nat.le_of_ble_eq_true rfl) (TX8_needPerson_3_10 Γ M r0 w0 w0_1 r1 w1_1 e_i3 e_l3 e_l4 e_i10 e_l12 hy ⟨rfl, rfl⟩)

noncomputable def fDy_mayBe (a1 : Int32) : Bool :=
  (if a1 < 0 then false else (if 6 ≤ a1 then false else true))

set_option maxRecDepth 20000 in
theorem TX1_mayBe (Γ : zG) {Q : Option Value → zM → Prop} (M : zM)   (a1 : Int32) {res : Bool} (hy : (fDy_mayBe a1) = res) (hq : Q (some (.int (zb res))) M) : zR Γ 1 YX1_mayBe 0 [(0, .int a1)] [] M Q := by
  unfold fDy_mayBe at hy
  refine zj_iload_n (pc' := 1) 0 dX1_mayBe_0 rfl rfl rfl ?_
  have HJ1 : zR Γ 1 YX1_mayBe 15 [(0, .int a1)] [.int (zb (if a1 < 0 then false else (if 6 ≤ a1 then false else true)))] M Q := by
    subst hy
    exact zj_bret (b := (if a1 < 0 then false else (if 6 ≤ a1 then false else true))) dX1_mayBe_15 rfl hq
  refine zj_if_lt (tgt := 14) (pc' := 4) dX1_mayBe_1 rfl (by decide) (fun c2 => ?_) (fun c2 => ?_)
  · refine zj_iconst (pc' := 15) dX1_mayBe_14 rfl kiconst_0 ?_
    exact zj_eqb (b := false) (if_pos c2) HJ1
  · refine zj_iload_n (pc' := 5) 0 dX1_mayBe_4 rfl rfl rfl ?_
    refine zj_bipush (pc' := 7) dX1_mayBe_5 rfl kbipush_6 ?_
    refine zj_icmp_ge (tgt := 14) (pc' := 10) dX1_mayBe_7 rfl (by decide) (fun c3 => ?_) (fun c3 => ?_)
    · refine zj_iconst (pc' := 15) dX1_mayBe_14 rfl kiconst_0 ?_
      exact zj_eqb (b := false) ((if_neg c2).trans (if_pos c3)) HJ1
    · refine zj_iconst (pc' := 11) dX1_mayBe_10 rfl kiconst_1 ?_
      refine zj_goto (tgt := 15) dX1_mayBe_11 (by decide) ?_
      exact zj_eqb (b := true) ((if_neg c2).trans (if_neg c3)) HJ1
set_option maxRecDepth 20000 in
theorem LX1_mayBe (Γ : zG) (M : zM)   (a1 : Int32) {res : Bool} (hy : (fDy_mayBe a1) = res) : zK Γ 1 YX1_mayBe [.int a1] M (fun v N => v = some (.int (zb res)) ∧ N = M) :=
  zK_of (by decide) (Nat.le_of_ble_eq_true rfl) (TX1_mayBe Γ M a1 hy ⟨rfl, rfl⟩)

noncomputable def fDy_followedBy (r0_2 : Nat → Int32) (a1 : Int32) : Option (Int32) :=
  (if (fDy_mayBe a1) = true then
  (zrd r0_2 6 a1).bind (fun (v2 : Int32) =>
  some v2)
  else
  some (-1))

set_option maxRecDepth 20000 in
theorem TX1_followedBy_25 (Γ : zG) {Q : Option Value → zM → Prop} (M : zM) (r0_2 : Nat → Int32) (e_i28 : M.1 28 = r0_2) (a1 : Int32) {res : Int32} (hy : (fDy_followedBy r0_2 a1) = some res) (hq : Q (some (.int res)) M) : zR Γ 2 YX1_followedBy 0 [(0, .ref (zad Γ 25)), (1, .int a1)] [] M Q := by
  unfold fDy_followedBy at hy
  refine zj_iload_n (pc' := 1) 1 dX1_followedBy_0 rfl rfl rfl ?_
  refine zj_S1 (pc' := 4) (z := YX1_mayBe) (As := [.int a1]) (N := M) dX1_followedBy_1 rfl mlX1_58 lkX1_mayBe rfl rfl (Nat.le_of_ble_eq_true rfl) (Nat.le_of_ble_eq_true rfl) (LX1_mayBe Γ _ a1 rfl) rfl ?_
  refine zj_bif_eq (tgt := 16) (pc' := 7) dX1_followedBy_4 rfl (by decide) (fun c1 => ?_) (fun c1 => ?_)
  · have hy := zt_f hy c1
    refine zj_iconst (pc' := 17) dX1_followedBy_16 rfl kiconst_m1 ?_
    have e9 := Option.some.inj hy
    subst e9
    exact zj_iret dX1_followedBy_17 rfl hq
  · have hy := zt_t hy c1
    refine zj_aload_n (pc' := 8) 0 dX1_followedBy_7 rfl rfl rfl ?_
    refine zj_getR (pc' := 11) (j := 28) dX1_followedBy_8 rfl flX1_18 sh25 rfl ?_
    refine zj_iload_n (pc' := 12) 1 dX1_followedBy_11 rfl rfl rfl ?_
    obtain ⟨v2, hv2, hy⟩ := zt_b hy
    refine zj_rdi (pc' := 13) dX1_followedBy_12 rfl sh28 e_i28 hv2 ?_
    refine zj_goto (tgt := 17) dX1_followedBy_13 (by decide) ?_
    have e9 := Option.some.inj hy
    subst e9
    exact zj_iret dX1_followedBy_17 rfl hq
set_option maxRecDepth 20000 in
theorem LX1_followedBy_25 (Γ : zG) (M : zM) (r0_2 : Nat → Int32) (e_i28 : M.1 28 = r0_2) (a1 : Int32) {res : Int32} (hy : (fDy_followedBy r0_2 a1) = some res) : zK Γ 2 YX1_followedBy [.ref (zad Γ 25), .int a1] M (fun v N => v = some (.int res) ∧ N = M) :=
  zK_of (by decide) (Nat.le_of_ble_eq_true rfl) (TX1_followedBy_25 Γ M r0_2 e_i28 a1 hy ⟨rfl, rfl⟩)

noncomputable def fDy_wayLeft (r0_5 : Nat → Int32) (a1 : Int32) : Option (Int32) :=
  (if (fDy_mayBe a1) = true then
  (zrd r0_5 6 a1).bind (fun (v2 : Int32) =>
  some v2)
  else
  some 0)

set_option maxRecDepth 20000 in
theorem TX1_wayLeft_25 (Γ : zG) {Q : Option Value → zM → Prop} (M : zM) (r0_5 : Nat → Int32) (e_i31 : M.1 31 = r0_5) (a1 : Int32) {res : Int32} (hy : (fDy_wayLeft r0_5 a1) = some res) (hq : Q (some (.int res)) M) : zR Γ 2 YX1_wayLeft 0 [(0, .ref (zad Γ 25)), (1, .int a1)] [] M Q := by
  unfold fDy_wayLeft at hy
  refine zj_iload_n (pc' := 1) 1 dX1_wayLeft_0 rfl rfl rfl ?_
  refine zj_S1 (pc' := 4) (z := YX1_mayBe) (As := [.int a1]) (N := M) dX1_wayLeft_1 rfl mlX1_58 lkX1_mayBe rfl rfl (Nat.le_of_ble_eq_true rfl) (Nat.le_of_ble_eq_true rfl) (LX1_mayBe Γ _ a1 rfl) rfl ?_
  refine zj_bif_eq (tgt := 16) (pc' := 7) dX1_wayLeft_4 rfl (by decide) (fun c1 => ?_) (fun c1 => ?_)
  · have hy := zt_f hy c1
    refine zj_iconst (pc' := 17) dX1_wayLeft_16 rfl kiconst_0 ?_
    have e9 := Option.some.inj hy
    subst e9
    exact zj_iret dX1_wayLeft_17 rfl hq
  · have hy := zt_t hy c1
    refine zj_aload_n (pc' := 8) 0 dX1_wayLeft_7 rfl rfl rfl ?_
    refine zj_getR (pc' := 11) (j := 31) dX1_wayLeft_8 rfl flX1_27 sh25 rfl ?_
    refine zj_iload_n (pc' := 12) 1 dX1_wayLeft_11 rfl rfl rfl ?_
    obtain ⟨v2, hv2, hy⟩ := zt_b hy
    refine zj_rdi (pc' := 13) dX1_wayLeft_12 rfl sh31 e_i31 hv2 ?_
    refine zj_goto (tgt := 17) dX1_wayLeft_13 (by decide) ?_
    have e9 := Option.some.inj hy
    subst e9
    exact zj_iret dX1_wayLeft_17 rfl hq
set_option maxRecDepth 20000 in
theorem LX1_wayLeft_25 (Γ : zG) (M : zM) (r0_5 : Nat → Int32) (e_i31 : M.1 31 = r0_5) (a1 : Int32) {res : Int32} (hy : (fDy_wayLeft r0_5 a1) = some res) : zK Γ 2 YX1_wayLeft [.ref (zad Γ 25), .int a1] M (fun v N => v = some (.int res) ∧ N = M) :=
  zK_of (by decide) (Nat.le_of_ble_eq_true rfl) (TX1_wayLeft_25 Γ M r0_5 e_i31 a1 hy ⟨rfl, rfl⟩)

noncomputable def fRd_takeNumber (r0 : Nat → Int32) (w0 : Nat → Int64) (r0_0 : Nat → Int32) (r0_0_0 : Nat → Int32) (a1 : Int32) (a2 : Int32) : Option (Int32 × (Nat → Int32) × (Nat → Int64)) :=
  zlet (r0 7) (fun (x1 : Int32) =>
  (if (r0 5) = 2 then
  (if x1 < a1 then
  (fRd_fail r0 2).bind (fun (y4 : (Nat → Int32)) =>
  (fRd_goOn y4 w0 r0_0 r0_0_0).bind (fun (y5 : (Nat → Int32) × (Nat → Int64)) =>
  some (x1, y5.1, y5.2)))
  else
  (if x1 ≤ a2 then
  (fRd_goOn r0 w0 r0_0 r0_0_0).bind (fun (y7 : (Nat → Int32) × (Nat → Int64)) =>
  some (x1, y7.1, y7.2))
  else
  (fRd_fail r0 2).bind (fun (y8 : (Nat → Int32)) =>
  (fRd_goOn y8 w0 r0_0 r0_0_0).bind (fun (y9 : (Nat → Int32) × (Nat → Int64)) =>
  some (x1, y9.1, y9.2)))))
  else
  (fRd_fail r0 1).bind (fun (y10 : (Nat → Int32)) =>
  (fRd_goOn y10 w0 r0_0 r0_0_0).bind (fun (y11 : (Nat → Int32) × (Nat → Int64)) =>
  some (x1, y11.1, y11.2)))))

set_option maxRecDepth 20000 in
theorem TX8_takeNumber_3 (Γ : zG) {Q : Option Value → zM → Prop} (M : zM) (r0 : Nat → Int32) (w0 : Nat → Int64) (r0_0 : Nat → Int32) (r0_0_0 : Nat → Int32) (e_i3 : M.1 3 = r0) (e_l3 : M.2 3 = w0) (e_i1 : M.1 1 = r0_0) (e_i2 : M.1 2 = r0_0_0) (a1 : Int32) (a2 : Int32) {res : Int32 × (Nat → Int32) × (Nat → Int64)} (hy : (fRd_takeNumber r0 w0 r0_0 r0_0_0 a1 a2) = some res) (hq : Q (some (.int res.1)) (zui (zul M 3 res.2.2) 3 res.2.1)) : zR Γ 4 YX8_takeNumber 0 [(0, .ref (zad Γ 3)), (1, .int a1), (2, .int a2)] [] M Q := by
  unfold fRd_takeNumber at hy
  refine zj_aload_n (pc' := 1) 0 dX8_takeNumber_0 rfl rfl rfl ?_
  refine zj_fI (pc' := 4) dX8_takeNumber_1 rfl flX8_84 sh3 rfl e_i3 rfl ?_
  refine zj_topi (fun x1 ex1 => ?_)
  have hy := zlet_at ex1 hy
  refine zj_istore_n (pc' := 5) (L' := [(3, .int x1), (0, .ref (zad Γ 3)), (1, .int a1), (2, .int a2)]) dX8_takeNumber_4 rfl rfl (by decide) rfl ?_
  refine zj_aload_n (pc' := 6) 1 dX8_takeNumber_5 rfl rfl rfl ?_
  refine zj_fI (pc' := 9) dX8_takeNumber_6 rfl flX8_57 sh3 rfl e_i3 rfl ?_
  refine zj_iconst (pc' := 10) dX8_takeNumber_9 rfl kiconst_2 ?_
  refine zj_icmp_eq (tgt := 21) (pc' := 13) dX8_takeNumber_10 rfl (by decide) (fun c2 => ?_) (fun c2 => ?_)
  · have hy := zt_t hy c2
    refine zj_iload_n (pc' := 22) 0 dX8_takeNumber_21 rfl rfl rfl ?_
    refine zj_iload_n (pc' := 23) 2 dX8_takeNumber_22 rfl rfl rfl ?_
    refine zj_icmp_lt (tgt := 31) (pc' := 26) dX8_takeNumber_23 rfl (by decide) (fun c3 => ?_) (fun c3 => ?_)
    · have hy := zt_t hy c3
      refine zj_aload_n (pc' := 32) 1 dX8_takeNumber_31 rfl rfl rfl ?_
      refine zj_iconst (pc' := 33) dX8_takeNumber_32 rfl kiconst_2 ?_
      obtain ⟨y4, hy4, hy⟩ := zt_b hy
      refine zj_V0 (pc' := 36) (z := YX8_fail) (As := [.int 2]) (N := (zui M 3 y4)) dX8_takeNumber_33 rfl mlX8_93 lkX8_fail sh3 ⟨_, _, rfl⟩ rfl rfl (Nat.le_of_ble_eq_true rfl) (Nat.le_of_ble_eq_true rfl) (LX8_fail_3 Γ _ r0 e_i3 2 hy4) (rfl).symm ?_
      refine zj_aload_n (pc' := 37) 1 dX8_takeNumber_36 rfl rfl rfl ?_
      obtain ⟨y5, hy5, hy⟩ := zt_b hy
      refine zj_V0 (pc' := 40) (z := YX8_goOn) (As := []) (N := (zui (zul M 3 y5.2) 3 y5.1)) dX8_takeNumber_37 rfl mlX8_51 lkX8_goOn sh3 ⟨_, _, rfl⟩ rfl rfl (Nat.le_of_ble_eq_true rfl) (Nat.le_of_ble_eq_true rfl) (LX8_goOn_3 Γ _ y4 w0 r0_0 r0_0_0 zr_s (zq_i e_l3) (zr_n rfl e_i1) (zr_n rfl e_i2) hy5) ((zch_i (zm_li rfl) zm_s)).symm ?_
      refine zj_iload_n (pc' := 41) 0 dX8_takeNumber_40 rfl rfl rfl ?_
      have e9 := Option.some.inj hy
      subst e9
      exact zj_iret dX8_takeNumber_41 rfl hq
    · have hy := zt_f hy c3
      refine zj_iload_n (pc' := 27) 0 dX8_takeNumber_26 rfl rfl rfl ?_
      refine zj_iload_n (pc' := 28) 3 dX8_takeNumber_27 rfl rfl rfl ?_
      refine zj_icmp_le (tgt := 36) (pc' := 31) dX8_takeNumber_28 rfl (by decide) (fun c6 => ?_) (fun c6 => ?_)
      · have hy := zt_t hy c6
        refine zj_aload_n (pc' := 37) 1 dX8_takeNumber_36 rfl rfl rfl ?_
        obtain ⟨y7, hy7, hy⟩ := zt_b hy
        refine zj_V0 (pc' := 40) (z := YX8_goOn) (As := []) (N := (zui (zul M 3 y7.2) 3 y7.1)) dX8_takeNumber_37 rfl mlX8_51 lkX8_goOn sh3 ⟨_, _, rfl⟩ rfl rfl (Nat.le_of_ble_eq_true rfl) (Nat.le_of_ble_eq_true rfl) (LX8_goOn_3 Γ _ r0 w0 r0_0 r0_0_0 e_i3 e_l3 e_i1 e_i2 hy7) ((zch_i rfl rfl)).symm ?_
        refine zj_iload_n (pc' := 41) 0 dX8_takeNumber_40 rfl rfl rfl ?_
        have e9 := Option.some.inj hy
        subst e9
        exact zj_iret dX8_takeNumber_41 rfl hq
      · have hy := zt_f hy c6
        refine zj_aload_n (pc' := 32) 1 dX8_takeNumber_31 rfl rfl rfl ?_
        refine zj_iconst (pc' := 33) dX8_takeNumber_32 rfl kiconst_2 ?_
        obtain ⟨y8, hy8, hy⟩ := zt_b hy
        refine zj_V0 (pc' := 36) (z := YX8_fail) (As := [.int 2]) (N := (zui M 3 y8)) dX8_takeNumber_33 rfl mlX8_93 lkX8_fail sh3 ⟨_, _, rfl⟩ rfl rfl (Nat.le_of_ble_eq_true rfl) (Nat.le_of_ble_eq_true rfl) (LX8_fail_3 Γ _ r0 e_i3 2 hy8) (rfl).symm ?_
        refine zj_aload_n (pc' := 37) 1 dX8_takeNumber_36 rfl rfl rfl ?_
        obtain ⟨y9, hy9, hy⟩ := zt_b hy
        refine zj_V0 (pc' := 40) (z := YX8_goOn) (As := []) (N := (zui (zul M 3 y9.2) 3 y9.1)) dX8_takeNumber_37 rfl mlX8_51 lkX8_goOn sh3 ⟨_, _, rfl⟩ rfl rfl (Nat.le_of_ble_eq_true rfl) (Nat.le_of_ble_eq_true rfl) (LX8_goOn_3 Γ _ y8 w0 r0_0 r0_0_0 zr_s (zq_i e_l3) (zr_n rfl e_i1) (zr_n rfl e_i2) hy9) ((zch_i (zm_li rfl) zm_s)).symm ?_
        refine zj_iload_n (pc' := 41) 0 dX8_takeNumber_40 rfl rfl rfl ?_
        have e9 := Option.some.inj hy
        subst e9
        exact zj_iret dX8_takeNumber_41 rfl hq
  · have hy := zt_f hy c2
    refine zj_aload_n (pc' := 14) 1 dX8_takeNumber_13 rfl rfl rfl ?_
    refine zj_iconst (pc' := 15) dX8_takeNumber_14 rfl kiconst_1 ?_
    obtain ⟨y10, hy10, hy⟩ := zt_b hy
    refine zj_V0 (pc' := 18) (z := YX8_fail) (As := [.int 1]) (N := (zui M 3 y10)) dX8_takeNumber_15 rfl mlX8_93 lkX8_fail sh3 ⟨_, _, rfl⟩ rfl rfl (Nat.le_of_ble_eq_true rfl) (Nat.le_of_ble_eq_true rfl) (LX8_fail_3 Γ _ r0 e_i3 1 hy10) (rfl).symm ?_
    refine zj_goto (tgt := 36) dX8_takeNumber_18 (by decide) ?_
    refine zj_aload_n (pc' := 37) 1 dX8_takeNumber_36 rfl rfl rfl ?_
    obtain ⟨y11, hy11, hy⟩ := zt_b hy
    refine zj_V0 (pc' := 40) (z := YX8_goOn) (As := []) (N := (zui (zul M 3 y11.2) 3 y11.1)) dX8_takeNumber_37 rfl mlX8_51 lkX8_goOn sh3 ⟨_, _, rfl⟩ rfl rfl (Nat.le_of_ble_eq_true rfl) (Nat.le_of_ble_eq_true rfl) (LX8_goOn_3 Γ _ y10 w0 r0_0 r0_0_0 zr_s (zq_i e_l3) (zr_n rfl e_i1) (zr_n rfl e_i2) hy11) ((zch_i (zm_li rfl) zm_s)).symm ?_
    refine zj_iload_n (pc' := 41) 0 dX8_takeNumber_40 rfl rfl rfl ?_
    have e9 := Option.some.inj hy
    subst e9
    exact zj_iret dX8_takeNumber_41 rfl hq
set_option maxRecDepth 20000 in
theorem LX8_takeNumber_3 (Γ : zG) (M : zM) (r0 : Nat → Int32) (w0 : Nat → Int64) (r0_0 : Nat → Int32) (r0_0_0 : Nat → Int32) (e_i3 : M.1 3 = r0) (e_l3 : M.2 3 = w0) (e_i1 : M.1 1 = r0_0) (e_i2 : M.1 2 = r0_0_0) (a1 : Int32) (a2 : Int32) {res : Int32 × (Nat → Int32) × (Nat → Int64)} (hy : (fRd_takeNumber r0 w0 r0_0 r0_0_0 a1 a2) = some res) : zK Γ 4 YX8_takeNumber [.ref (zad Γ 3), .int a1, .int a2] M (fun v N => v = some (.int res.1) ∧ N = (zui (zul M 3 res.2.2) 3 res.2.1)) :=
  zK_of (by decide) (Nat.le_of_ble_eq_true rfl) (TX8_takeNumber_3 Γ M r0 w0 r0_0 r0_0_0 e_i3 e_l3 e_i1 e_i2 a1 a2 hy ⟨rfl, rfl⟩)

noncomputable def fDy_followsInstead (r0_2 : Nat → Int32) (r0_3 : Nat → Int32) (r0_5 : Nat → Int32) (a1 : Int32) (a2 : Int32) (a3 : Int32) : Option ((Nat → Int32) × (Nat → Int32) × (Nat → Int32)) :=
  (if (fDy_mayBe a1) = true then
  (if (fDy_mayBe a2) = true then
  (zwr r0_2 6 a1 a2).bind (fun (r0_2v3 : Nat → Int32) =>
  (zwr r0_3 6 a1 a3).bind (fun (r0_3v4 : Nat → Int32) =>
  (zwr r0_5 6 a1 0).bind (fun (r0_5v5 : Nat → Int32) =>
  some (r0_2v3, r0_3v4, r0_5v5))))
  else
  some (r0_2, r0_3, r0_5))
  else
  some (r0_2, r0_3, r0_5))

set_option maxRecDepth 20000 in
theorem TX1_followsInstead_25 (Γ : zG) {Q : Option Value → zM → Prop} (M : zM) (r0_2 : Nat → Int32) (r0_3 : Nat → Int32) (r0_5 : Nat → Int32) (e_i28 : M.1 28 = r0_2) (e_i29 : M.1 29 = r0_3) (e_i31 : M.1 31 = r0_5) (a1 : Int32) (a2 : Int32) (a3 : Int32) {res : (Nat → Int32) × (Nat → Int32) × (Nat → Int32)} (hy : (fDy_followsInstead r0_2 r0_3 r0_5 a1 a2 a3) = some res) (hq : Q none (zui (zui (zui M 28 res.1) 29 res.2.1) 31 res.2.2)) : zR Γ 2 YX1_followsInstead 0 [(0, .ref (zad Γ 25)), (1, .int a1), (2, .int a2), (3, .int a3)] [] M Q := by
  unfold fDy_followsInstead at hy
  refine zj_iload_n (pc' := 1) 1 dX1_followsInstead_0 rfl rfl rfl ?_
  refine zj_S1 (pc' := 4) (z := YX1_mayBe) (As := [.int a1]) (N := M) dX1_followsInstead_1 rfl mlX1_58 lkX1_mayBe rfl rfl (Nat.le_of_ble_eq_true rfl) (Nat.le_of_ble_eq_true rfl) (LX1_mayBe Γ _ a1 rfl) rfl ?_
  refine zj_bif_eq (tgt := 35) (pc' := 7) dX1_followsInstead_4 rfl (by decide) (fun c1 => ?_) (fun c1 => ?_)
  · have hy := zt_f hy c1
    have e9 := Option.some.inj hy
    subst e9
    refine zj_mem (N := (zui M 28 r0_2)) (zself_i e_i28 rfl) ?_
    refine zj_mem (N := (zui (zui M 28 r0_2) 29 r0_3)) (zself_i (zr_n rfl e_i29) rfl) ?_
    refine zj_mem (N := (zui (zui (zui M 28 r0_2) 29 r0_3) 31 r0_5)) (zself_i (zr_n rfl (zr_n rfl e_i31)) rfl) ?_
    exact zj_vret dX1_followsInstead_35 rfl hq
  · have hy := zt_t hy c1
    refine zj_iload_n (pc' := 8) 2 dX1_followsInstead_7 rfl rfl rfl ?_
    refine zj_S1 (pc' := 11) (z := YX1_mayBe) (As := [.int a2]) (N := M) dX1_followsInstead_8 rfl mlX1_58 lkX1_mayBe rfl rfl (Nat.le_of_ble_eq_true rfl) (Nat.le_of_ble_eq_true rfl) (LX1_mayBe Γ _ a2 rfl) rfl ?_
    refine zj_bif_eq (tgt := 35) (pc' := 14) dX1_followsInstead_11 rfl (by decide) (fun c2 => ?_) (fun c2 => ?_)
    · have hy := zt_f hy c2
      have e9 := Option.some.inj hy
      subst e9
      refine zj_mem (N := (zui M 28 r0_2)) (zself_i e_i28 rfl) ?_
      refine zj_mem (N := (zui (zui M 28 r0_2) 29 r0_3)) (zself_i (zr_n rfl e_i29) rfl) ?_
      refine zj_mem (N := (zui (zui (zui M 28 r0_2) 29 r0_3) 31 r0_5)) (zself_i (zr_n rfl (zr_n rfl e_i31)) rfl) ?_
      exact zj_vret dX1_followsInstead_35 rfl hq
    · have hy := zt_t hy c2
      refine zj_aload_n (pc' := 15) 0 dX1_followsInstead_14 rfl rfl rfl ?_
      refine zj_getR (pc' := 18) (j := 28) dX1_followsInstead_15 rfl flX1_18 sh25 rfl ?_
      refine zj_iload_n (pc' := 19) 1 dX1_followsInstead_18 rfl rfl rfl ?_
      refine zj_iload_n (pc' := 20) 2 dX1_followsInstead_19 rfl rfl rfl ?_
      obtain ⟨r0_2v3, hr0_2v3, hy⟩ := zt_b hy
      refine zj_wri (pc' := 21) (N := (zui M 28 r0_2v3)) dX1_followsInstead_20 rfl sh28 e_i28 hr0_2v3 rfl ?_
      refine zj_aload_n (pc' := 22) 0 dX1_followsInstead_21 rfl rfl rfl ?_
      refine zj_getR (pc' := 25) (j := 29) dX1_followsInstead_22 rfl flX1_21 sh25 rfl ?_
      refine zj_iload_n (pc' := 26) 1 dX1_followsInstead_25 rfl rfl rfl ?_
      refine zj_iload_n (pc' := 27) 3 dX1_followsInstead_26 rfl rfl rfl ?_
      obtain ⟨r0_3v4, hr0_3v4, hy⟩ := zt_b hy
      refine zj_wri (pc' := 28) (N := (zui (zui M 28 r0_2v3) 29 r0_3v4)) dX1_followsInstead_27 rfl sh29 (zr_n rfl e_i29) hr0_3v4 rfl ?_
      refine zj_aload_n (pc' := 29) 0 dX1_followsInstead_28 rfl rfl rfl ?_
      refine zj_getR (pc' := 32) (j := 31) dX1_followsInstead_29 rfl flX1_27 sh25 rfl ?_
      refine zj_iload_n (pc' := 33) 1 dX1_followsInstead_32 rfl rfl rfl ?_
      refine zj_iconst (pc' := 34) dX1_followsInstead_33 rfl kiconst_0 ?_
      obtain ⟨r0_5v5, hr0_5v5, hy⟩ := zt_b hy
      refine zj_wri (pc' := 35) (N := (zui (zui (zui M 28 r0_2v3) 29 r0_3v4) 31 r0_5v5)) dX1_followsInstead_34 rfl sh31 (zr_n rfl (zr_n rfl e_i31)) hr0_5v5 rfl ?_
      have e9 := Option.some.inj hy
      subst e9
      exact zj_vret dX1_followsInstead_35 rfl hq
set_option maxRecDepth 20000 in
theorem LX1_followsInstead_25 (Γ : zG) (M : zM) (r0_2 : Nat → Int32) (r0_3 : Nat → Int32) (r0_5 : Nat → Int32) (e_i28 : M.1 28 = r0_2) (e_i29 : M.1 29 = r0_3) (e_i31 : M.1 31 = r0_5) (a1 : Int32) (a2 : Int32) (a3 : Int32) {res : (Nat → Int32) × (Nat → Int32) × (Nat → Int32)} (hy : (fDy_followsInstead r0_2 r0_3 r0_5 a1 a2 a3) = some res) : zK Γ 2 YX1_followsInstead [.ref (zad Γ 25), .int a1, .int a2, .int a3] M (fun v N => v = none ∧ N = (zui (zui (zui M 28 res.1) 29 res.2.1) 31 res.2.2)) :=
  zK_of (by decide) (Nat.le_of_ble_eq_true rfl) (TX1_followsInstead_25 Γ M r0_2 r0_3 r0_5 e_i28 e_i29 e_i31 a1 a2 a3 hy ⟨rfl, rfl⟩)

noncomputable def fDy_takesOn (r0_2 : Nat → Int32) (r0_3 : Nat → Int32) (r0_5 : Nat → Int32) (a1 : Int32) (a2 : Int32) (a3 : Int32) : Option (Int32 × (Nat → Int32) × (Nat → Int32) × (Nat → Int32)) :=
  (fDy_followedBy r0_2 a2).bind (fun (y1 : Int32) =>
  (if y1 = (-1) then
  (fDy_wayLeft r0_5 a2).bind (fun (y3 : Int32) =>
  (if y3 ≤ 0 then
  (fDy_followsInstead r0_2 r0_3 r0_5 a2 a1 a3).bind (fun (y5 : (Nat → Int32) × (Nat → Int32) × (Nat → Int32)) =>
  some (0, y5.1, y5.2.1, y5.2.2))
  else
  some (2, r0_2, r0_3, r0_5)))
  else
  some (1, r0_2, r0_3, r0_5)))

set_option maxRecDepth 20000 in
theorem TX1_takesOn_25 (Γ : zG) {Q : Option Value → zM → Prop} (M : zM) (r0_2 : Nat → Int32) (r0_3 : Nat → Int32) (r0_5 : Nat → Int32) (e_i28 : M.1 28 = r0_2) (e_i29 : M.1 29 = r0_3) (e_i31 : M.1 31 = r0_5) (a1 : Int32) (a2 : Int32) (a3 : Int32) {res : Int32 × (Nat → Int32) × (Nat → Int32) × (Nat → Int32)} (hy : (fDy_takesOn r0_2 r0_3 r0_5 a1 a2 a3) = some res) (hq : Q (some (.int res.1)) (zui (zui (zui M 28 res.2.1) 29 res.2.2.1) 31 res.2.2.2)) : zR Γ 3 YX1_takesOn 0 [(0, .ref (zad Γ 25)), (1, .int a1), (2, .int a2), (3, .int a3)] [] M Q := by
  unfold fDy_takesOn at hy
  refine zj_aload_n (pc' := 1) 0 dX1_takesOn_0 rfl rfl rfl ?_
  refine zj_iload_n (pc' := 2) 2 dX1_takesOn_1 rfl rfl rfl ?_
  obtain ⟨y1, hy1, hy⟩ := zt_b hy
  refine zj_V1 (pc' := 5) (z := YX1_followedBy) (As := [.int a2]) (N := M) dX1_takesOn_2 rfl mlX1_69 lkX1_followedBy sh25 ⟨_, _, rfl⟩ rfl rfl (Nat.le_of_ble_eq_true rfl) (Nat.le_of_ble_eq_true rfl) (LX1_followedBy_25 Γ _ r0_2 e_i28 a2 hy1) rfl ?_
  refine zj_iconst (pc' := 6) dX1_takesOn_5 rfl kiconst_m1 ?_
  refine zj_icmp_eq (tgt := 11) (pc' := 9) dX1_takesOn_6 rfl (by decide) (fun c2 => ?_) (fun c2 => ?_)
  · have hy := zt_t hy c2
    refine zj_aload_n (pc' := 12) 0 dX1_takesOn_11 rfl rfl rfl ?_
    refine zj_iload_n (pc' := 13) 2 dX1_takesOn_12 rfl rfl rfl ?_
    obtain ⟨y3, hy3, hy⟩ := zt_b hy
    refine zj_V1 (pc' := 16) (z := YX1_wayLeft) (As := [.int a2]) (N := M) dX1_takesOn_13 rfl mlX1_73 lkX1_wayLeft sh25 ⟨_, _, rfl⟩ rfl rfl (Nat.le_of_ble_eq_true rfl) (Nat.le_of_ble_eq_true rfl) (LX1_wayLeft_25 Γ _ r0_5 e_i31 a2 hy3) rfl ?_
    refine zj_if_le (tgt := 21) (pc' := 19) dX1_takesOn_16 rfl (by decide) (fun c4 => ?_) (fun c4 => ?_)
    · have hy := zt_t hy c4
      refine zj_aload_n (pc' := 22) 0 dX1_takesOn_21 rfl rfl rfl ?_
      refine zj_iload_n (pc' := 23) 2 dX1_takesOn_22 rfl rfl rfl ?_
      refine zj_iload_n (pc' := 24) 1 dX1_takesOn_23 rfl rfl rfl ?_
      refine zj_iload_n (pc' := 25) 3 dX1_takesOn_24 rfl rfl rfl ?_
      obtain ⟨y5, hy5, hy⟩ := zt_b hy
      refine zj_V0 (pc' := 28) (z := YX1_followsInstead) (As := [.int a2, .int a1, .int a3]) (N := (zui (zui (zui M 28 y5.1) 29 y5.2.1) 31 y5.2.2)) dX1_takesOn_25 rfl mlX1_99 lkX1_followsInstead sh25 ⟨_, _, rfl⟩ rfl rfl (Nat.le_of_ble_eq_true rfl) (Nat.le_of_ble_eq_true rfl) (LX1_followsInstead_25 Γ _ r0_2 r0_3 r0_5 e_i28 e_i29 e_i31 a2 a1 a3 hy5) ((zch_i (zch_i rfl rfl) rfl)).symm ?_
      refine zj_iconst (pc' := 29) dX1_takesOn_28 rfl kiconst_0 ?_
      have e9 := Option.some.inj hy
      subst e9
      exact zj_iret dX1_takesOn_29 rfl hq
    · have hy := zt_f hy c4
      refine zj_iconst (pc' := 20) dX1_takesOn_19 rfl kiconst_2 ?_
      have e9 := Option.some.inj hy
      subst e9
      refine zj_mem (N := (zui M 28 r0_2)) (zself_i e_i28 rfl) ?_
      refine zj_mem (N := (zui (zui M 28 r0_2) 29 r0_3)) (zself_i (zr_n rfl e_i29) rfl) ?_
      refine zj_mem (N := (zui (zui (zui M 28 r0_2) 29 r0_3) 31 r0_5)) (zself_i (zr_n rfl (zr_n rfl e_i31)) rfl) ?_
      exact zj_iret dX1_takesOn_20 rfl hq
  · have hy := zt_f hy c2
    refine zj_iconst (pc' := 10) dX1_takesOn_9 rfl kiconst_1 ?_
    have e9 := Option.some.inj hy
    subst e9
    refine zj_mem (N := (zui M 28 r0_2)) (zself_i e_i28 rfl) ?_
    refine zj_mem (N := (zui (zui M 28 r0_2) 29 r0_3)) (zself_i (zr_n rfl e_i29) rfl) ?_
    refine zj_mem (N := (zui (zui (zui M 28 r0_2) 29 r0_3) 31 r0_5)) (zself_i (zr_n rfl (zr_n rfl e_i31)) rfl) ?_
    exact zj_iret dX1_takesOn_10 rfl hq
set_option maxRecDepth 20000 in
theorem LX1_takesOn_25 (Γ : zG) (M : zM) (r0_2 : Nat → Int32) (r0_3 : Nat → Int32) (r0_5 : Nat → Int32) (e_i28 : M.1 28 = r0_2) (e_i29 : M.1 29 = r0_3) (e_i31 : M.1 31 = r0_5) (a1 : Int32) (a2 : Int32) (a3 : Int32) {res : Int32 × (Nat → Int32) × (Nat → Int32) × (Nat → Int32)} (hy : (fDy_takesOn r0_2 r0_3 r0_5 a1 a2 a3) = some res) : zK Γ 3 YX1_takesOn [.ref (zad Γ 25), .int a1, .int a2, .int a3] M (fun v N => v = some (.int res.1) ∧ N = (zui (zui (zui M 28 res.2.1) 29 res.2.2.1) 31 res.2.2.2)) :=
  zK_of (by decide) (Nat.le_of_ble_eq_true rfl) (TX1_takesOn_25 Γ M r0_2 r0_3 r0_5 e_i28 e_i29 e_i31 a1 a2 a3 hy ⟨rfl, rfl⟩)

noncomputable def fPl_readFollows (r0 : Nat → Int32) (w0_1 : Nat → Int64) (r1 : Nat → Int32) (w1 : Nat → Int64) (r1_0 : Nat → Int32) (r1_0_0 : Nat → Int32) (w1_1 : Nat → Int64) (r2_2 : Nat → Int32) (r2_3 : Nat → Int32) (r2_5 : Nat → Int32) : Option ((Nat → Int32) × (Nat → Int64) × (Nat → Int32) × (Nat → Int32) × (Nat → Int32)) :=
  (fRd_goOn r1 w1 r1_0 r1_0_0).bind (fun (y1 : (Nat → Int32) × (Nat → Int64)) =>
  (fRd_needPerson y1.1 y1.2 w1_1 r0 w0_1).bind (fun (y2 : Int32 × (Nat → Int32)) =>
  zlet y2.1 (fun (x3 : Int32) =>
  (fDy_followedBy r2_2 x3).bind (fun (y4 : Int32) =>
  zlet (fun (r1v5 : Nat → Int32) =>
  (fRd_goOn r1v5 y1.2 r1_0 r1_0_0).bind (fun (y6 : (Nat → Int32) × (Nat → Int64)) =>
  (fRd_needPerson y6.1 y6.2 w1_1 r0 w0_1).bind (fun (y7 : Int32 × (Nat → Int32)) =>
  zlet y7.1 (fun (x8 : Int32) =>
  zlet (fun (r1v9 : Nat → Int32) =>
  (fRd_goOn r1v9 y6.2 r1_0 r1_0_0).bind (fun (y10 : (Nat → Int32) × (Nat → Int64)) =>
  (fRd_takeNumber y10.1 y10.2 r1_0 r1_0_0 1 5).bind (fun (y11 : Int32 × (Nat → Int32) × (Nat → Int64)) =>
  zlet y11.1 (fun (x12 : Int32) =>
  (if (fRd_isGood y11.2.1) = true then
  (fDy_takesOn r2_2 r2_3 r2_5 x8 x3 x12).bind (fun (y14 : Int32 × (Nat → Int32) × (Nat → Int32) × (Nat → Int32)) =>
  some (y11.2.1, y11.2.2, y14.2.1, y14.2.2.1, y14.2.2.2))
  else
  some (y11.2.1, y11.2.2, r2_2, r2_3, r2_5)))))) (fun J15 =>
  (if x3 = x8 then
  (fRd_fail y7.2 3).bind (fun (y17 : (Nat → Int32)) =>
  J15 y17)
  else
  J15 y7.2)))))) (fun J18 =>
  zlet (fun (u9 : Unit) =>
  (fRd_fail y2.2 3).bind (fun (y19 : (Nat → Int32)) =>
  J18 y19)) (fun J20 =>
  (if y4 = (-1) then
  (fDy_wayLeft r2_5 x3).bind (fun (y22 : Int32) =>
  (if y22 ≤ 0 then
  J18 y2.2
  else
  J20 ()))
  else
  J20 ())))))))

set_option maxRecDepth 20000 in
theorem TX7_readFollows_10_3_25 (Γ : zG) {Q : Option Value → zM → Prop} (M : zM) (r0 : Nat → Int32) (w0_1 : Nat → Int64) (r1 : Nat → Int32) (w1 : Nat → Int64) (r1_0 : Nat → Int32) (r1_0_0 : Nat → Int32) (w1_1 : Nat → Int64) (r2_2 : Nat → Int32) (r2_3 : Nat → Int32) (r2_5 : Nat → Int32) (e_i10 : M.1 10 = r0) (e_l12 : M.2 12 = w0_1) (e_i3 : M.1 3 = r1) (e_l3 : M.2 3 = w1) (e_i1 : M.1 1 = r1_0) (e_i2 : M.1 2 = r1_0_0) (e_l4 : M.2 4 = w1_1) (e_i28 : M.1 28 = r2_2) (e_i29 : M.1 29 = r2_3) (e_i31 : M.1 31 = r2_5)  {res : (Nat → Int32) × (Nat → Int64) × (Nat → Int32) × (Nat → Int32) × (Nat → Int32)} (hy : (fPl_readFollows r0 w0_1 r1 w1 r1_0 r1_0_0 w1_1 r2_2 r2_3 r2_5) = some res) (hq : Q none (zui (zui (zui (zui (zul M 3 res.2.1) 3 res.1) 28 res.2.2.1) 29 res.2.2.2.1) 31 res.2.2.2.2)) : zR Γ 5 YX7_readFollows 0 [(0, .ref (zad Γ 10)), (1, .ref (zad Γ 3)), (2, .ref (zad Γ 25))] [] M Q := by
  unfold fPl_readFollows at hy
  refine zj_aload_n (pc' := 1) 1 dX7_readFollows_0 rfl rfl rfl ?_
  obtain ⟨y1, hy1, hy⟩ := zt_b hy
  refine zj_V0 (pc' := 4) (z := YX8_goOn) (As := []) (N := (zui (zul M 3 y1.2) 3 y1.1)) dX7_readFollows_1 rfl mlX7_126 lkX8_goOn sh3 ⟨_, _, rfl⟩ rfl rfl (Nat.le_of_ble_eq_true rfl) (Nat.le_of_ble_eq_true rfl) (LX8_goOn_3 Γ _ r1 w1 r1_0 r1_0_0 e_i3 e_l3 e_i1 e_i2 hy1) ((zch_i rfl rfl)).symm ?_
  refine zj_aload_n (pc' := 5) 1 dX7_readFollows_4 rfl rfl rfl ?_
  refine zj_aload_n (pc' := 6) 0 dX7_readFollows_5 rfl rfl rfl ?_
  obtain ⟨y2, hy2, hy⟩ := zt_b hy
  refine zj_V1 (pc' := 9) (z := YX8_needPerson) (As := [.ref (zad Γ 10)]) (N := (zui (zul M 3 y1.2) 3 y2.2)) dX7_readFollows_6 rfl mlX7_161 lkX8_needPerson sh3 ⟨_, _, rfl⟩ rfl rfl (Nat.le_of_ble_eq_true rfl) (Nat.le_of_ble_eq_true rfl) (LX8_needPerson_3_10 Γ _ y1.1 y1.2 w1_1 r0 w0_1 zr_s (zq_i zq_s) (zq_i (zq_n rfl e_l4)) (zr_n rfl (zr_l e_i10)) (zq_i (zq_n rfl e_l12)) hy2) (zm_s).symm ?_
  refine zj_topi (fun x3 ex3 => ?_)
  have hy := zlet_at ex3 hy
  refine zj_istore_n (pc' := 10) (L' := [(3, .int x3), (0, .ref (zad Γ 10)), (1, .ref (zad Γ 3)), (2, .ref (zad Γ 25))]) dX7_readFollows_9 rfl rfl (by decide) rfl ?_
  refine zj_aload_n (pc' := 11) 3 dX7_readFollows_10 rfl rfl rfl ?_
  refine zj_iload_n (pc' := 12) 0 dX7_readFollows_11 rfl rfl rfl ?_
  obtain ⟨y4, hy4, hy⟩ := zt_b hy
  refine zj_V1 (pc' := 15) (z := YX1_followedBy) (As := [.int x3]) (N := (zui (zul M 3 y1.2) 3 y2.2)) dX7_readFollows_12 rfl mlX7_164 lkX1_followedBy sh25 ⟨_, _, rfl⟩ rfl rfl (Nat.le_of_ble_eq_true rfl) (Nat.le_of_ble_eq_true rfl) (LX1_followedBy_25 Γ _ r2_2 (zr_n rfl (zr_l e_i28)) x3 hy4) rfl ?_
  refine zj_iconst (pc' := 16) dX7_readFollows_15 rfl kiconst_m1 ?_
  obtain ⟨J18, eJ18, hy⟩ := zlet_ex hy
  have HJ18 : ∀ (r1v5 : Nat → Int32), J18 r1v5 = some res → zR Γ 5 YX7_readFollows 32 [(0, .ref (zad Γ 10)), (1, .ref (zad Γ 3)), (2, .ref (zad Γ 25)), (3, .int x3)] [] (zui (zul M 3 y1.2) 3 r1v5) Q := by
    intro r1v5 hy
    have hy := zap1 eJ18 hy
    refine zj_aload_n (pc' := 33) 1 dX7_readFollows_32 rfl rfl rfl ?_
    obtain ⟨y6, hy6, hy⟩ := zt_b hy
    refine zj_V0 (pc' := 36) (z := YX8_goOn) (As := []) (N := (zui (zul M 3 y6.2) 3 y6.1)) dX7_readFollows_33 rfl mlX7_126 lkX8_goOn sh3 ⟨_, _, rfl⟩ rfl rfl (Nat.le_of_ble_eq_true rfl) (Nat.le_of_ble_eq_true rfl) (LX8_goOn_3 Γ _ r1v5 y1.2 r1_0 r1_0_0 zr_s (zq_i zq_s) (zr_n rfl (zr_l e_i1)) (zr_n rfl (zr_l e_i2)) hy6) ((zch_i (zm_li zn_s) zm_s)).symm ?_
    refine zj_aload_n (pc' := 37) 1 dX7_readFollows_36 rfl rfl rfl ?_
    refine zj_aload_n (pc' := 38) 0 dX7_readFollows_37 rfl rfl rfl ?_
    obtain ⟨y7, hy7, hy⟩ := zt_b hy
    refine zj_V1 (pc' := 41) (z := YX8_needPerson) (As := [.ref (zad Γ 10)]) (N := (zui (zul M 3 y6.2) 3 y7.2)) dX7_readFollows_38 rfl mlX7_161 lkX8_needPerson sh3 ⟨_, _, rfl⟩ rfl rfl (Nat.le_of_ble_eq_true rfl) (Nat.le_of_ble_eq_true rfl) (LX8_needPerson_3_10 Γ _ y6.1 y6.2 w1_1 r0 w0_1 zr_s (zq_i zq_s) (zq_i (zq_n rfl e_l4)) (zr_n rfl (zr_l e_i10)) (zq_i (zq_n rfl e_l12)) hy7) (zm_s).symm ?_
    refine zj_topi (fun x8 ex8 => ?_)
    have hy := zlet_at ex8 hy
    refine zj_istore (pc' := 43) (L' := [(4, .int x8), (0, .ref (zad Γ 10)), (1, .ref (zad Γ 3)), (2, .ref (zad Γ 25)), (3, .int x3)]) dX7_readFollows_41 rfl (by decide) rfl ?_
    refine zj_iload_n (pc' := 44) 4 dX7_readFollows_43 rfl rfl rfl ?_
    refine zj_iload (pc' := 46) 0 dX7_readFollows_44 rfl rfl ?_
    obtain ⟨J15, eJ15, hy⟩ := zlet_ex hy
    have HJ15 : ∀ (r1v9 : Nat → Int32), J15 r1v9 = some res → zR Γ 5 YX7_readFollows 54 [(1, .ref (zad Γ 3)), (2, .ref (zad Γ 25)), (3, .int x3), (4, .int x8)] [] (zui (zul M 3 y6.2) 3 r1v9) Q := by
      intro r1v9 hy
      have hy := zap1 eJ15 hy
      refine zj_aload_n (pc' := 55) 0 dX7_readFollows_54 rfl rfl rfl ?_
      obtain ⟨y10, hy10, hy⟩ := zt_b hy
      refine zj_V0 (pc' := 58) (z := YX8_goOn) (As := []) (N := (zui (zul M 3 y10.2) 3 y10.1)) dX7_readFollows_55 rfl mlX7_126 lkX8_goOn sh3 ⟨_, _, rfl⟩ rfl rfl (Nat.le_of_ble_eq_true rfl) (Nat.le_of_ble_eq_true rfl) (LX8_goOn_3 Γ _ r1v9 y6.2 r1_0 r1_0_0 zr_s (zq_i zq_s) (zr_n rfl (zr_l e_i1)) (zr_n rfl (zr_l e_i2)) hy10) ((zch_i (zm_li zn_s) zm_s)).symm ?_
      refine zj_aload_n (pc' := 59) 0 dX7_readFollows_58 rfl rfl rfl ?_
      refine zj_iconst (pc' := 60) dX7_readFollows_59 rfl kiconst_1 ?_
      refine zj_iconst (pc' := 61) dX7_readFollows_60 rfl kiconst_5 ?_
      obtain ⟨y11, hy11, hy⟩ := zt_b hy
      refine zj_V1 (pc' := 64) (z := YX8_takeNumber) (As := [.int 1, .int 5]) (N := (zui (zul M 3 y11.2.2) 3 y11.2.1)) dX7_readFollows_61 rfl mlX7_154 lkX8_takeNumber sh3 ⟨_, _, rfl⟩ rfl rfl (Nat.le_of_ble_eq_true rfl) (Nat.le_of_ble_eq_true rfl) (LX8_takeNumber_3 Γ _ y10.1 y10.2 r1_0 r1_0_0 zr_s (zq_i zq_s) (zr_n rfl (zr_l e_i1)) (zr_n rfl (zr_l e_i2)) 1 5 hy11) ((zch_i (zm_li zn_s) zm_s)).symm ?_
      refine zj_topi (fun x12 ex12 => ?_)
      have hy := zlet_at ex12 hy
      refine zj_istore (pc' := 66) (L' := [(5, .int x12), (1, .ref (zad Γ 3)), (2, .ref (zad Γ 25)), (3, .int x3), (4, .int x8)]) dX7_readFollows_64 rfl (by decide) rfl ?_
      refine zj_aload_n (pc' := 67) 1 dX7_readFollows_66 rfl rfl rfl ?_
      refine zj_V1 (pc' := 70) (z := YX8_isGood) (As := []) (N := (zui (zul M 3 y11.2.2) 3 y11.2.1)) dX7_readFollows_67 rfl mlX7_83 lkX8_isGood sh3 ⟨_, _, rfl⟩ rfl rfl (Nat.le_of_ble_eq_true rfl) (Nat.le_of_ble_eq_true rfl) (LX8_isGood_3 Γ _ y11.2.1 zr_s rfl) rfl ?_
      refine zj_bif_eq (tgt := 83) (pc' := 73) dX7_readFollows_70 rfl (by decide) (fun c13 => ?_) (fun c13 => ?_)
      · have hy := zt_f hy c13
        have e9 := Option.some.inj hy
        subst e9
        refine zj_mem (N := (zui (zui (zul M 3 y11.2.2) 3 y11.2.1) 28 r2_2)) (zself_i (zr_n rfl (zr_l e_i28)) rfl) ?_
        refine zj_mem (N := (zui (zui (zui (zul M 3 y11.2.2) 3 y11.2.1) 28 r2_2) 29 r2_3)) (zself_i (zr_n rfl (zr_n rfl (zr_l e_i29))) rfl) ?_
        refine zj_mem (N := (zui (zui (zui (zui (zul M 3 y11.2.2) 3 y11.2.1) 28 r2_2) 29 r2_3) 31 r2_5)) (zself_i (zr_n rfl (zr_n rfl (zr_n rfl (zr_l e_i31)))) rfl) ?_
        exact zj_vret dX7_readFollows_83 rfl hq
      · have hy := zt_t hy c13
        refine zj_aload_n (pc' := 74) 2 dX7_readFollows_73 rfl rfl rfl ?_
        refine zj_iload (pc' := 76) 4 dX7_readFollows_74 rfl rfl ?_
        refine zj_iload_n (pc' := 77) 3 dX7_readFollows_76 rfl rfl rfl ?_
        refine zj_iload (pc' := 79) 0 dX7_readFollows_77 rfl rfl ?_
        obtain ⟨y14, hy14, hy⟩ := zt_b hy
        refine zj_V1 (pc' := 82) (z := YX1_takesOn) (As := [.int x8, .int x3, .int x12]) (N := (zui (zui (zui (zui (zul M 3 y11.2.2) 3 y11.2.1) 28 y14.2.1) 29 y14.2.2.1) 31 y14.2.2.2)) dX7_readFollows_79 rfl mlX7_174 lkX1_takesOn sh25 ⟨_, _, rfl⟩ rfl rfl (Nat.le_of_ble_eq_true rfl) (Nat.le_of_ble_eq_true rfl) (LX1_takesOn_25 Γ _ r2_2 r2_3 r2_5 (zr_n rfl (zr_l e_i28)) (zr_n rfl (zr_l e_i29)) (zr_n rfl (zr_l e_i31)) x8 x3 x12 hy14) ((zch_i (zch_i rfl rfl) rfl)).symm ?_
        refine zj_pop (pc' := 83) dX7_readFollows_82 rfl rfl ?_
        have e9 := Option.some.inj hy
        subst e9
        exact zj_vret dX7_readFollows_83 rfl hq
    refine zj_icmp_ne (tgt := 54) (pc' := 49) dX7_readFollows_46 rfl (by decide) (fun c16 => ?_) (fun c16 => ?_)
    · have hy := zt_f hy c16
      refine zj_loc [2, 3, 4, 0] rfl ?_
      exact HJ15 y7.2 hy
    · have hy := zt_t hy c16
      refine zj_aload_n (pc' := 50) 2 dX7_readFollows_49 rfl rfl rfl ?_
      refine zj_iconst (pc' := 51) dX7_readFollows_50 rfl kiconst_3 ?_
      obtain ⟨y17, hy17, hy⟩ := zt_b hy
      refine zj_V0 (pc' := 54) (z := YX8_fail) (As := [.int 3]) (N := (zui (zul M 3 y6.2) 3 y17)) dX7_readFollows_51 rfl mlX7_123 lkX8_fail sh3 ⟨_, _, rfl⟩ rfl rfl (Nat.le_of_ble_eq_true rfl) (Nat.le_of_ble_eq_true rfl) (LX8_fail_3 Γ _ y7.2 zr_s 3 hy17) (zm_s).symm ?_
      refine zj_loc [2, 3, 4, 0] rfl ?_
      exact HJ15 y17 hy
  obtain ⟨J20, eJ20, hy⟩ := zlet_ex hy
  have HJ20 : ∀ (u9 : Unit), J20 u9 = some res → zR Γ 5 YX7_readFollows 27 [(0, .ref (zad Γ 10)), (1, .ref (zad Γ 3)), (2, .ref (zad Γ 25)), (3, .int x3)] [] (zui (zul M 3 y1.2) 3 y2.2) Q := by
    intro u9 hy
    have hy := zap1 eJ20 hy
    refine zj_aload_n (pc' := 28) 1 dX7_readFollows_27 rfl rfl rfl ?_
    refine zj_iconst (pc' := 29) dX7_readFollows_28 rfl kiconst_3 ?_
    obtain ⟨y19, hy19, hy⟩ := zt_b hy
    refine zj_V0 (pc' := 32) (z := YX8_fail) (As := [.int 3]) (N := (zui (zul M 3 y1.2) 3 y19)) dX7_readFollows_29 rfl mlX7_123 lkX8_fail sh3 ⟨_, _, rfl⟩ rfl rfl (Nat.le_of_ble_eq_true rfl) (Nat.le_of_ble_eq_true rfl) (LX8_fail_3 Γ _ y2.2 zr_s 3 hy19) (zm_s).symm ?_
    exact HJ18 y19 hy
  refine zj_icmp_ne (tgt := 27) (pc' := 19) dX7_readFollows_16 rfl (by decide) (fun c21 => ?_) (fun c21 => ?_)
  · have hy := zt_f hy c21
    refine zj_loc [1, 2, 3, 0] rfl ?_
    exact HJ20 () hy
  · have hy := zt_t hy c21
    refine zj_aload_n (pc' := 20) 3 dX7_readFollows_19 rfl rfl rfl ?_
    refine zj_iload_n (pc' := 21) 0 dX7_readFollows_20 rfl rfl rfl ?_
    obtain ⟨y22, hy22, hy⟩ := zt_b hy
    refine zj_V1 (pc' := 24) (z := YX1_wayLeft) (As := [.int x3]) (N := (zui (zul M 3 y1.2) 3 y2.2)) dX7_readFollows_21 rfl mlX7_167 lkX1_wayLeft sh25 ⟨_, _, rfl⟩ rfl rfl (Nat.le_of_ble_eq_true rfl) (Nat.le_of_ble_eq_true rfl) (LX1_wayLeft_25 Γ _ r2_5 (zr_n rfl (zr_l e_i31)) x3 hy22) rfl ?_
    refine zj_if_le (tgt := 32) (pc' := 27) dX7_readFollows_24 rfl (by decide) (fun c23 => ?_) (fun c23 => ?_)
    · have hy := zt_t hy c23
      refine zj_loc [1, 2, 3, 0] rfl ?_
      exact HJ18 y2.2 hy
    · have hy := zt_f hy c23
      refine zj_loc [1, 2, 3, 0] rfl ?_
      exact HJ20 () hy
set_option maxRecDepth 20000 in
theorem LX7_readFollows_10_3_25 (Γ : zG) (M : zM) (r0 : Nat → Int32) (w0_1 : Nat → Int64) (r1 : Nat → Int32) (w1 : Nat → Int64) (r1_0 : Nat → Int32) (r1_0_0 : Nat → Int32) (w1_1 : Nat → Int64) (r2_2 : Nat → Int32) (r2_3 : Nat → Int32) (r2_5 : Nat → Int32) (e_i10 : M.1 10 = r0) (e_l12 : M.2 12 = w0_1) (e_i3 : M.1 3 = r1) (e_l3 : M.2 3 = w1) (e_i1 : M.1 1 = r1_0) (e_i2 : M.1 2 = r1_0_0) (e_l4 : M.2 4 = w1_1) (e_i28 : M.1 28 = r2_2) (e_i29 : M.1 29 = r2_3) (e_i31 : M.1 31 = r2_5)  {res : (Nat → Int32) × (Nat → Int64) × (Nat → Int32) × (Nat → Int32) × (Nat → Int32)} (hy : (fPl_readFollows r0 w0_1 r1 w1 r1_0 r1_0_0 w1_1 r2_2 r2_3 r2_5) = some res) : zK Γ 5 YX7_readFollows [.ref (zad Γ 10), .ref (zad Γ 3), .ref (zad Γ 25)] M (fun v N => v = none ∧ N = (zui (zui (zui (zui (zul M 3 res.2.1) 3 res.1) 28 res.2.2.1) 29 res.2.2.2.1) 31 res.2.2.2.2)) :=
  zK_of (by decide) (Nat.le_of_ble_eq_true rfl) (TX7_readFollows_10_3_25 Γ M r0 w0_1 r1 w1 r1_0 r1_0_0 w1_1 r2_2 r2_3 r2_5 e_i10 e_l12 e_i3 e_l3 e_i1 e_i2 e_l4 e_i28 e_i29 e_i31 hy ⟨rfl, rfl⟩)

noncomputable def fPl_cornerNamed_L2 (r0 : Nat → Int32) (w0_0 : Nat → Int64) (a1 : Int64) (x1 : Int32) : Option ((Int32) ⊕ (Int32)) :=
  (if (r0 4) ≤ x1 then
  some (.inr (-1))
  else
  (if 8 ≤ x1 then
  some (.inr (-1))
  else
  (zrd w0_0 8 x1).bind (fun (v11 : Int64) =>
  (if (lg_cmp v11 a1) = 0 then
  some (.inr x1)
  else
  zlet (x1 + 1) (fun (x13 : Int32) =>
  some (.inl x13))))))
noncomputable def fPl_cornerNamed (r0 : Nat → Int32) (w0_0 : Nat → Int64) (a1 : Int64) : Option (Int32) :=
  zLP (fun s => fPl_cornerNamed_L2 r0 w0_0 a1 s) 0

set_option maxRecDepth 20000 in
theorem TX7_cornerNamed_10 (Γ : zG) {Q : Option Value → zM → Prop} (M : zM) (r0 : Nat → Int32) (w0_0 : Nat → Int64) (e_i10 : M.1 10 = r0) (e_l11 : M.2 11 = w0_0) (a1 : Int64) {res : Int32} (hy : (fPl_cornerNamed r0 w0_0 a1) = some res) (hq : Q (some (.int res)) M) : zR Γ 1 YX7_cornerNamed 0 [(0, .ref (zad Γ 10)), (1, .long a1)] [] M Q := by
  unfold fPl_cornerNamed at hy
  refine zj_iconst (pc' := 1) dX7_cornerNamed_0 rfl kiconst_0 ?_
  refine zj_istore_n (pc' := 2) (L' := [(3, .int 0), (0, .ref (zad Γ 10)), (1, .long a1)]) dX7_cornerNamed_1 rfl rfl (by decide) rfl ?_
  refine zj_loc [1, 2, 0] rfl ?_
  obtain ⟨n9, hn9⟩ := zLP_some hy
  have HL3 : ∀ (n : Nat) (x1 : Int32), zlp (fun s => fPl_cornerNamed_L2 r0 w0_0 a1 s) n x1 = some res → zR Γ 1 YX7_cornerNamed 2 [(0, .ref (zad Γ 10)), (1, .long a1), (3, .int x1)] [] M Q := by
    intro n
    induction n with
    | zero => intro x1 hn9; cases hn9
    | succ n ih6 =>
      intro x1 hn9
      obtain ⟨o9, hb9, h7, h8⟩ := zlp_step hn9
      have hy : fPl_cornerNamed_L2 r0 w0_0 a1 x1 = some o9 := hb9
      unfold fPl_cornerNamed_L2 at hy
      refine zj_iload_n (pc' := 3) 2 dX7_cornerNamed_2 rfl rfl rfl ?_
      refine zj_aload_n (pc' := 4) 0 dX7_cornerNamed_3 rfl rfl rfl ?_
      refine zj_fI (pc' := 7) dX7_cornerNamed_4 rfl flX7_25 sh10 rfl e_i10 rfl ?_
      refine zj_icmp_ge (tgt := 35) (pc' := 10) dX7_cornerNamed_7 rfl (by decide) (fun c9 => ?_) (fun c9 => ?_)
      · have hy := zt_t hy c9
        refine zj_iconst (pc' := 36) dX7_cornerNamed_35 rfl kiconst_m1 ?_
        have e9 := h8 _ (Option.some.inj hy).symm
        subst e9
        exact zj_iret dX7_cornerNamed_36 rfl hq
      · have hy := zt_f hy c9
        refine zj_iload_n (pc' := 11) 2 dX7_cornerNamed_10 rfl rfl rfl ?_
        refine zj_bipush (pc' := 13) dX7_cornerNamed_11 rfl kbipush_8 ?_
        refine zj_icmp_ge (tgt := 35) (pc' := 16) dX7_cornerNamed_13 rfl (by decide) (fun c10 => ?_) (fun c10 => ?_)
        · have hy := zt_t hy c10
          refine zj_iconst (pc' := 36) dX7_cornerNamed_35 rfl kiconst_m1 ?_
          have e9 := h8 _ (Option.some.inj hy).symm
          subst e9
          exact zj_iret dX7_cornerNamed_36 rfl hq
        · have hy := zt_f hy c10
          refine zj_aload_n (pc' := 17) 0 dX7_cornerNamed_16 rfl rfl rfl ?_
          refine zj_getR (pc' := 20) (j := 11) dX7_cornerNamed_17 rfl flX7_9 sh10 rfl ?_
          refine zj_iload_n (pc' := 21) 2 dX7_cornerNamed_20 rfl rfl rfl ?_
          obtain ⟨v11, hv11, hy⟩ := zt_b hy
          refine zj_rdl (pc' := 22) dX7_cornerNamed_21 rfl sh11 e_l11 hv11 ?_
          refine zj_lload_n (pc' := 23) 1 dX7_cornerNamed_22 rfl rfl rfl ?_
          refine zj_lcmp (pc' := 24) dX7_cornerNamed_23 rfl ?_
          refine zj_if_ne (tgt := 29) (pc' := 27) dX7_cornerNamed_24 rfl (by decide) (fun c12 => ?_) (fun c12 => ?_)
          · have hy := zt_f hy c12
            obtain ⟨x13, ex13⟩ : ∃ z : Int32, z = (x1 + 1) := ⟨_, rfl⟩
            have hy := zlet_at ex13 hy
            refine zj_iinc (pc' := 32) 2 (L' := [(3, .int x13), (0, .ref (zad Γ 10)), (1, .long a1)]) dX7_cornerNamed_29 rfl rfl (by decide) (by rw [ci1, ← ex13]; rfl) ?_
            refine zj_goto (tgt := 2) dX7_cornerNamed_32 (by decide) ?_
            have hn9 := h7 _ (Option.some.inj hy).symm
            refine zj_loc [1, 2, 0] rfl ?_
            exact ih6 _ hn9
          · have hy := zt_t hy c12
            refine zj_iload_n (pc' := 28) 2 dX7_cornerNamed_27 rfl rfl rfl ?_
            have e9 := h8 _ (Option.some.inj hy).symm
            subst e9
            exact zj_iret dX7_cornerNamed_28 rfl hq
  exact HL3 n9 _ hn9
set_option maxRecDepth 20000 in
theorem LX7_cornerNamed_10 (Γ : zG) (M : zM) (r0 : Nat → Int32) (w0_0 : Nat → Int64) (e_i10 : M.1 10 = r0) (e_l11 : M.2 11 = w0_0) (a1 : Int64) {res : Int32} (hy : (fPl_cornerNamed r0 w0_0 a1) = some res) : zK Γ 1 YX7_cornerNamed [.ref (zad Γ 10), .long a1] M (fun v N => v = some (.int res) ∧ N = M) :=
  zK_of (by decide) (Nat.le_of_ble_eq_true rfl) (TX7_cornerNamed_10 Γ M r0 w0_0 e_i10 e_l11 a1 hy ⟨rfl, rfl⟩)

noncomputable def fRd_needCorner (r0 : Nat → Int32) (w0 : Nat → Int64) (w0_1 : Nat → Int64) (r1 : Nat → Int32) (w1_0 : Nat → Int64) : Option (Int32 × (Nat → Int32)) :=
  (fRd_needName r0 w0 w0_1).bind (fun (y1 : Bool × (Nat → Int32)) =>
  (if y1.1 = true then
  (fPl_cornerNamed r1 w1_0 (w0 6)).bind (fun (y3 : Int32) =>
  (if y3 = (-1) then
  (fRd_fail y1.2 3).bind (fun (y5 : (Nat → Int32)) =>
  some (y3, y5))
  else
  some (y3, y1.2)))
  else
  (if ((-1) : Int32) = (-1) then
  (fRd_fail y1.2 3).bind (fun (y7 : (Nat → Int32)) =>
  some ((-1), y7))
  else
  some ((-1), y1.2))))

set_option maxRecDepth 20000 in
theorem TX8_needCorner_3_10 (Γ : zG) {Q : Option Value → zM → Prop} (M : zM) (r0 : Nat → Int32) (w0 : Nat → Int64) (w0_1 : Nat → Int64) (r1 : Nat → Int32) (w1_0 : Nat → Int64) (e_i3 : M.1 3 = r0) (e_l3 : M.2 3 = w0) (e_l4 : M.2 4 = w0_1) (e_i10 : M.1 10 = r1) (e_l11 : M.2 11 = w1_0)  {res : Int32 × (Nat → Int32)} (hy : (fRd_needCorner r0 w0 w0_1 r1 w1_0) = some res) (hq : Q (some (.int res.1)) (zui M 3 res.2)) : zR Γ 3 YX8_needCorner 0 [(0, .ref (zad Γ 3)), (1, .ref (zad Γ 10))] [] M Q := by
  unfold fRd_needCorner at hy
  refine zj_aload_n (pc' := 1) 0 dX8_needCorner_0 rfl rfl rfl ?_
  obtain ⟨y1, hy1, hy⟩ := zt_b hy
  refine zj_V1 (pc' := 4) (z := YX8_needName) (As := []) (N := (zui M 3 y1.2)) dX8_needCorner_1 rfl mlX8_101 lkX8_needName sh3 ⟨_, _, rfl⟩ rfl rfl (Nat.le_of_ble_eq_true rfl) (Nat.le_of_ble_eq_true rfl) (LX8_needName_3 Γ _ r0 w0 w0_1 e_i3 e_l3 e_l4 hy1) (rfl).symm ?_
  refine zj_bif_eq (tgt := 18) (pc' := 7) dX8_needCorner_4 rfl (by decide) (fun c2 => ?_) (fun c2 => ?_)
  · have hy := zt_f hy c2
    refine zj_iconst (pc' := 19) dX8_needCorner_18 rfl kiconst_m1 ?_
    refine zj_istore_n (pc' := 20) (L' := [(2, .int (-1)), (0, .ref (zad Γ 3)), (1, .ref (zad Γ 10))]) dX8_needCorner_19 rfl rfl (by decide) rfl ?_
    refine zj_iload_n (pc' := 21) 0 dX8_needCorner_20 rfl rfl rfl ?_
    refine zj_iconst (pc' := 22) dX8_needCorner_21 rfl kiconst_m1 ?_
    refine zj_icmp_ne (tgt := 30) (pc' := 25) dX8_needCorner_22 rfl (by decide) (fun c6 => ?_) (fun c6 => ?_)
    · have hy := zt_f hy c6
      refine zj_iload_n (pc' := 31) 0 dX8_needCorner_30 rfl rfl rfl ?_
      have e9 := Option.some.inj hy
      subst e9
      exact zj_iret dX8_needCorner_31 rfl hq
    · have hy := zt_t hy c6
      refine zj_aload_n (pc' := 26) 1 dX8_needCorner_25 rfl rfl rfl ?_
      refine zj_iconst (pc' := 27) dX8_needCorner_26 rfl kiconst_3 ?_
      obtain ⟨y7, hy7, hy⟩ := zt_b hy
      refine zj_V0 (pc' := 30) (z := YX8_fail) (As := [.int 3]) (N := (zui M 3 y7)) dX8_needCorner_27 rfl mlX8_93 lkX8_fail sh3 ⟨_, _, rfl⟩ rfl rfl (Nat.le_of_ble_eq_true rfl) (Nat.le_of_ble_eq_true rfl) (LX8_fail_3 Γ _ y1.2 zr_s 3 hy7) (zm_s).symm ?_
      refine zj_iload_n (pc' := 31) 0 dX8_needCorner_30 rfl rfl rfl ?_
      have e9 := Option.some.inj hy
      subst e9
      exact zj_iret dX8_needCorner_31 rfl hq
  · have hy := zt_t hy c2
    refine zj_aload_n (pc' := 8) 1 dX8_needCorner_7 rfl rfl rfl ?_
    refine zj_aload_n (pc' := 9) 0 dX8_needCorner_8 rfl rfl rfl ?_
    refine zj_fL (pc' := 12) dX8_needCorner_9 rfl flX8_60 sh3 rfl (zq_i e_l3) rfl ?_
    obtain ⟨y3, hy3, hy⟩ := zt_b hy
    refine zj_V1 (pc' := 15) (z := YX7_cornerNamed) (As := [.long (w0 6)]) (N := (zui M 3 y1.2)) dX8_needCorner_12 rfl mlX8_104 lkX7_cornerNamed sh10 ⟨_, _, rfl⟩ rfl rfl (Nat.le_of_ble_eq_true rfl) (Nat.le_of_ble_eq_true rfl) (LX7_cornerNamed_10 Γ _ r1 w1_0 (zr_n rfl e_i10) (zq_i e_l11) (w0 6) hy3) rfl ?_
    refine zj_goto (tgt := 19) dX8_needCorner_15 (by decide) ?_
    refine zj_istore_n (pc' := 20) (L' := [(2, .int y3), (0, .ref (zad Γ 3)), (1, .ref (zad Γ 10))]) dX8_needCorner_19 rfl rfl (by decide) rfl ?_
    refine zj_iload_n (pc' := 21) 0 dX8_needCorner_20 rfl rfl rfl ?_
    refine zj_iconst (pc' := 22) dX8_needCorner_21 rfl kiconst_m1 ?_
    refine zj_icmp_ne (tgt := 30) (pc' := 25) dX8_needCorner_22 rfl (by decide) (fun c4 => ?_) (fun c4 => ?_)
    · have hy := zt_f hy c4
      refine zj_iload_n (pc' := 31) 0 dX8_needCorner_30 rfl rfl rfl ?_
      have e9 := Option.some.inj hy
      subst e9
      exact zj_iret dX8_needCorner_31 rfl hq
    · have hy := zt_t hy c4
      refine zj_aload_n (pc' := 26) 1 dX8_needCorner_25 rfl rfl rfl ?_
      refine zj_iconst (pc' := 27) dX8_needCorner_26 rfl kiconst_3 ?_
      obtain ⟨y5, hy5, hy⟩ := zt_b hy
      refine zj_V0 (pc' := 30) (z := YX8_fail) (As := [.int 3]) (N := (zui M 3 y5)) dX8_needCorner_27 rfl mlX8_93 lkX8_fail sh3 ⟨_, _, rfl⟩ rfl rfl (Nat.le_of_ble_eq_true rfl) (Nat.le_of_ble_eq_true rfl) (LX8_fail_3 Γ _ y1.2 zr_s 3 hy5) (zm_s).symm ?_
      refine zj_iload_n (pc' := 31) 0 dX8_needCorner_30 rfl rfl rfl ?_
      have e9 := Option.some.inj hy
      subst e9
      exact zj_iret dX8_needCorner_31 rfl hq
set_option maxRecDepth 20000 in
theorem LX8_needCorner_3_10 (Γ : zG) (M : zM) (r0 : Nat → Int32) (w0 : Nat → Int64) (w0_1 : Nat → Int64) (r1 : Nat → Int32) (w1_0 : Nat → Int64) (e_i3 : M.1 3 = r0) (e_l3 : M.2 3 = w0) (e_l4 : M.2 4 = w0_1) (e_i10 : M.1 10 = r1) (e_l11 : M.2 11 = w1_0)  {res : Int32 × (Nat → Int32)} (hy : (fRd_needCorner r0 w0 w0_1 r1 w1_0) = some res) : zK Γ 3 YX8_needCorner [.ref (zad Γ 3), .ref (zad Γ 10)] M (fun v N => v = some (.int res.1) ∧ N = (zui M 3 res.2)) :=
  zK_of (by decide) (Nat.le_of_ble_eq_true rfl) (TX8_needCorner_3_10 Γ M r0 w0 w0_1 r1 w1_0 e_i3 e_l3 e_l4 e_i10 e_l11 hy ⟨rfl, rfl⟩)

noncomputable def fPl_hasCorner (r0 : Nat → Int32) (a1 : Int32) : Bool :=
  (if a1 < 0 then false else (if (r0 4) ≤ a1 then false else (if 8 ≤ a1 then false else true)))

set_option maxRecDepth 20000 in
theorem TX7_hasCorner_10 (Γ : zG) {Q : Option Value → zM → Prop} (M : zM) (r0 : Nat → Int32) (e_i10 : M.1 10 = r0) (a1 : Int32) {res : Bool} (hy : (fPl_hasCorner r0 a1) = res) (hq : Q (some (.int (zb res))) M) : zR Γ 1 YX7_hasCorner 0 [(0, .ref (zad Γ 10)), (1, .int a1)] [] M Q := by
  unfold fPl_hasCorner at hy
  refine zj_iload_n (pc' := 1) 1 dX7_hasCorner_0 rfl rfl rfl ?_
  have HJ1 : zR Γ 1 YX7_hasCorner 23 [(0, .ref (zad Γ 10)), (1, .int a1)] [.int (zb (if a1 < 0 then false else (if (r0 4) ≤ a1 then false else (if 8 ≤ a1 then false else true))))] M Q := by
    subst hy
    exact zj_bret (b := (if a1 < 0 then false else (if (r0 4) ≤ a1 then false else (if 8 ≤ a1 then false else true)))) dX7_hasCorner_23 rfl hq
  refine zj_if_lt (tgt := 22) (pc' := 4) dX7_hasCorner_1 rfl (by decide) (fun c2 => ?_) (fun c2 => ?_)
  · refine zj_iconst (pc' := 23) dX7_hasCorner_22 rfl kiconst_0 ?_
    exact zj_eqb (b := false) (if_pos c2) HJ1
  · refine zj_iload_n (pc' := 5) 1 dX7_hasCorner_4 rfl rfl rfl ?_
    refine zj_aload_n (pc' := 6) 0 dX7_hasCorner_5 rfl rfl rfl ?_
    refine zj_fI (pc' := 9) dX7_hasCorner_6 rfl flX7_25 sh10 rfl e_i10 rfl ?_
    refine zj_icmp_ge (tgt := 22) (pc' := 12) dX7_hasCorner_9 rfl (by decide) (fun c3 => ?_) (fun c3 => ?_)
    · refine zj_iconst (pc' := 23) dX7_hasCorner_22 rfl kiconst_0 ?_
      exact zj_eqb (b := false) ((if_neg c2).trans (if_pos c3)) HJ1
    · refine zj_iload_n (pc' := 13) 1 dX7_hasCorner_12 rfl rfl rfl ?_
      refine zj_bipush (pc' := 15) dX7_hasCorner_13 rfl kbipush_8 ?_
      refine zj_icmp_ge (tgt := 22) (pc' := 18) dX7_hasCorner_15 rfl (by decide) (fun c4 => ?_) (fun c4 => ?_)
      · refine zj_iconst (pc' := 23) dX7_hasCorner_22 rfl kiconst_0 ?_
        exact zj_eqb (b := false) (((if_neg c2).trans (if_neg c3)).trans (if_pos c4)) HJ1
      · refine zj_iconst (pc' := 19) dX7_hasCorner_18 rfl kiconst_1 ?_
        refine zj_goto (tgt := 23) dX7_hasCorner_19 (by decide) ?_
        exact zj_eqb (b := true) (((if_neg c2).trans (if_neg c3)).trans (if_neg c4)) HJ1
set_option maxRecDepth 20000 in
theorem LX7_hasCorner_10 (Γ : zG) (M : zM) (r0 : Nat → Int32) (e_i10 : M.1 10 = r0) (a1 : Int32) {res : Bool} (hy : (fPl_hasCorner r0 a1) = res) : zK Γ 1 YX7_hasCorner [.ref (zad Γ 10), .int a1] M (fun v N => v = some (.int (zb res)) ∧ N = M) :=
  zK_of (by decide) (Nat.le_of_ble_eq_true rfl) (TX7_hasCorner_10 Γ M r0 e_i10 a1 hy ⟨rfl, rfl⟩)

noncomputable def fPl_besideOf (r0 : Nat → Int32) (r0_2 : Nat → Int32) (a1 : Int32) : Option (Int32) :=
  (if (fPl_hasCorner r0 a1) = true then
  (zrd r0_2 8 a1).bind (fun (v2 : Int32) =>
  some v2)
  else
  some 0)

set_option maxRecDepth 20000 in
theorem TX7_besideOf_10 (Γ : zG) {Q : Option Value → zM → Prop} (M : zM) (r0 : Nat → Int32) (r0_2 : Nat → Int32) (e_i10 : M.1 10 = r0) (e_i13 : M.1 13 = r0_2) (a1 : Int32) {res : Int32} (hy : (fPl_besideOf r0 r0_2 a1) = some res) (hq : Q (some (.int res)) M) : zR Γ 2 YX7_besideOf 0 [(0, .ref (zad Γ 10)), (1, .int a1)] [] M Q := by
  unfold fPl_besideOf at hy
  refine zj_aload_n (pc' := 1) 0 dX7_besideOf_0 rfl rfl rfl ?_
  refine zj_iload_n (pc' := 2) 1 dX7_besideOf_1 rfl rfl rfl ?_
  refine zj_V1 (pc' := 5) (z := YX7_hasCorner) (As := [.int a1]) (N := M) dX7_besideOf_2 rfl mlX7_35 lkX7_hasCorner sh10 ⟨_, _, rfl⟩ rfl rfl (Nat.le_of_ble_eq_true rfl) (Nat.le_of_ble_eq_true rfl) (LX7_hasCorner_10 Γ _ r0 e_i10 a1 rfl) rfl ?_
  refine zj_bif_eq (tgt := 17) (pc' := 8) dX7_besideOf_5 rfl (by decide) (fun c1 => ?_) (fun c1 => ?_)
  · have hy := zt_f hy c1
    refine zj_iconst (pc' := 18) dX7_besideOf_17 rfl kiconst_0 ?_
    have e9 := Option.some.inj hy
    subst e9
    exact zj_iret dX7_besideOf_18 rfl hq
  · have hy := zt_t hy c1
    refine zj_aload_n (pc' := 9) 0 dX7_besideOf_8 rfl rfl rfl ?_
    refine zj_getR (pc' := 12) (j := 13) dX7_besideOf_9 rfl flX7_18 sh10 rfl ?_
    refine zj_iload_n (pc' := 13) 1 dX7_besideOf_12 rfl rfl rfl ?_
    obtain ⟨v2, hv2, hy⟩ := zt_b hy
    refine zj_rdi (pc' := 14) dX7_besideOf_13 rfl sh13 e_i13 hv2 ?_
    refine zj_goto (tgt := 18) dX7_besideOf_14 (by decide) ?_
    have e9 := Option.some.inj hy
    subst e9
    exact zj_iret dX7_besideOf_18 rfl hq
set_option maxRecDepth 20000 in
theorem LX7_besideOf_10 (Γ : zG) (M : zM) (r0 : Nat → Int32) (r0_2 : Nat → Int32) (e_i10 : M.1 10 = r0) (e_i13 : M.1 13 = r0_2) (a1 : Int32) {res : Int32} (hy : (fPl_besideOf r0 r0_2 a1) = some res) : zK Γ 2 YX7_besideOf [.ref (zad Γ 10), .int a1] M (fun v N => v = some (.int res) ∧ N = M) :=
  zK_of (by decide) (Nat.le_of_ble_eq_true rfl) (TX7_besideOf_10 Γ M r0 r0_2 e_i10 e_i13 a1 hy ⟨rfl, rfl⟩)

noncomputable def fPl_areBeside (r0 : Nat → Int32) (r0_2 : Nat → Int32) (a1 : Int32) (a2 : Int32) : Option (Bool) :=
  (if (fPl_hasCorner r0 a2) = true then
  (fPl_besideOf r0 r0_2 a1).bind (fun (y2 : Int32) =>
  some (if (fX_hasBit y2 a2) = true then true else false))
  else
  some false)

set_option maxRecDepth 20000 in
theorem TX7_areBeside_10 (Γ : zG) {Q : Option Value → zM → Prop} (M : zM) (r0 : Nat → Int32) (r0_2 : Nat → Int32) (e_i10 : M.1 10 = r0) (e_i13 : M.1 13 = r0_2) (a1 : Int32) (a2 : Int32) {res : Bool} (hy : (fPl_areBeside r0 r0_2 a1 a2) = some res) (hq : Q (some (.int (zb res))) M) : zR Γ 3 YX7_areBeside 0 [(0, .ref (zad Γ 10)), (1, .int a1), (2, .int a2)] [] M Q := by
  unfold fPl_areBeside at hy
  refine zj_aload_n (pc' := 1) 0 dX7_areBeside_0 rfl rfl rfl ?_
  refine zj_iload_n (pc' := 2) 2 dX7_areBeside_1 rfl rfl rfl ?_
  refine zj_V1 (pc' := 5) (z := YX7_hasCorner) (As := [.int a2]) (N := M) dX7_areBeside_2 rfl mlX7_35 lkX7_hasCorner sh10 ⟨_, _, rfl⟩ rfl rfl (Nat.le_of_ble_eq_true rfl) (Nat.le_of_ble_eq_true rfl) (LX7_hasCorner_10 Γ _ r0 e_i10 a2 rfl) rfl ?_
  refine zj_bif_eq (tgt := 24) (pc' := 8) dX7_areBeside_5 rfl (by decide) (fun c1 => ?_) (fun c1 => ?_)
  · have hy := zt_f hy c1
    refine zj_iconst (pc' := 25) dX7_areBeside_24 rfl kiconst_0 ?_
    have e9 := Option.some.inj hy
    subst e9
    exact zj_bret (b := false) dX7_areBeside_25 rfl hq
  · have hy := zt_t hy c1
    refine zj_aload_n (pc' := 9) 0 dX7_areBeside_8 rfl rfl rfl ?_
    refine zj_iload_n (pc' := 10) 1 dX7_areBeside_9 rfl rfl rfl ?_
    obtain ⟨y2, hy2, hy⟩ := zt_b hy
    refine zj_V1 (pc' := 13) (z := YX7_besideOf) (As := [.int a1]) (N := M) dX7_areBeside_10 rfl mlX7_42 lkX7_besideOf sh10 ⟨_, _, rfl⟩ rfl rfl (Nat.le_of_ble_eq_true rfl) (Nat.le_of_ble_eq_true rfl) (LX7_besideOf_10 Γ _ r0 r0_2 e_i10 e_i13 a1 hy2) rfl ?_
    refine zj_iload_n (pc' := 14) 2 dX7_areBeside_13 rfl rfl rfl ?_
    refine zj_N1 (pc' := 17) (z := YX11_hasBit) (As := [.int y2, .int a2]) (N := M) dX7_areBeside_14 rfl nlX7_46 lkX11_hasBit rfl rfl (Nat.le_of_ble_eq_true rfl) (Nat.le_of_ble_eq_true rfl) (LX11_hasBit Γ _ y2 a2 rfl) rfl ?_
    have HJ3 : zR Γ 3 YX7_areBeside 25 [(0, .ref (zad Γ 10)), (1, .int a1), (2, .int a2)] [.int (zb (if (fX_hasBit y2 a2) = true then true else false))] M Q := by
      have e9 := Option.some.inj hy
      subst e9
      exact zj_bret (b := (if (fX_hasBit y2 a2) = true then true else false)) dX7_areBeside_25 rfl hq
    refine zj_bif_eq (tgt := 24) (pc' := 20) dX7_areBeside_17 rfl (by decide) (fun c4 => ?_) (fun c4 => ?_)
    · refine zj_iconst (pc' := 25) dX7_areBeside_24 rfl kiconst_0 ?_
      exact zj_eqb (b := false) (if_neg c4) HJ3
    · refine zj_iconst (pc' := 21) dX7_areBeside_20 rfl kiconst_1 ?_
      refine zj_goto (tgt := 25) dX7_areBeside_21 (by decide) ?_
      exact zj_eqb (b := true) (if_pos c4) HJ3
set_option maxRecDepth 20000 in
theorem LX7_areBeside_10 (Γ : zG) (M : zM) (r0 : Nat → Int32) (r0_2 : Nat → Int32) (e_i10 : M.1 10 = r0) (e_i13 : M.1 13 = r0_2) (a1 : Int32) (a2 : Int32) {res : Bool} (hy : (fPl_areBeside r0 r0_2 a1 a2) = some res) : zK Γ 3 YX7_areBeside [.ref (zad Γ 10), .int a1, .int a2] M (fun v N => v = some (.int (zb res)) ∧ N = M) :=
  zK_of (by decide) (Nat.le_of_ble_eq_true rfl) (TX7_areBeside_10 Γ M r0 r0_2 e_i10 e_i13 a1 a2 hy ⟨rfl, rfl⟩)

noncomputable def fDy_wasAt (r0_0 : Nat → Int32) (a1 : Int32) (a2 : Int32) : Option (Int32) :=
  (if (fDy_mayBe a1) = true then
  (if a2 < 0 then
  some (-1)
  else
  (if 6 ≤ a2 then
  some (-1)
  else
  (zrd r0_0 36 ((a1 * 6) + a2)).bind (fun (v4 : Int32) =>
  some v4)))
  else
  some (-1))

set_option maxRecDepth 20000 in
theorem TX1_wasAt_25 (Γ : zG) {Q : Option Value → zM → Prop} (M : zM) (r0_0 : Nat → Int32) (e_i26 : M.1 26 = r0_0) (a1 : Int32) (a2 : Int32) {res : Int32} (hy : (fDy_wasAt r0_0 a1 a2) = some res) (hq : Q (some (.int res)) M) : zR Γ 2 YX1_wasAt 0 [(0, .ref (zad Γ 25)), (1, .int a1), (2, .int a2)] [] M Q := by
  unfold fDy_wasAt at hy
  refine zj_iload_n (pc' := 1) 1 dX1_wasAt_0 rfl rfl rfl ?_
  refine zj_S1 (pc' := 4) (z := YX1_mayBe) (As := [.int a1]) (N := M) dX1_wasAt_1 rfl mlX1_58 lkX1_mayBe rfl rfl (Nat.le_of_ble_eq_true rfl) (Nat.le_of_ble_eq_true rfl) (LX1_mayBe Γ _ a1 rfl) rfl ?_
  refine zj_bif_eq (tgt := 31) (pc' := 7) dX1_wasAt_4 rfl (by decide) (fun c1 => ?_) (fun c1 => ?_)
  · have hy := zt_f hy c1
    refine zj_iconst (pc' := 32) dX1_wasAt_31 rfl kiconst_m1 ?_
    have e9 := Option.some.inj hy
    subst e9
    exact zj_iret dX1_wasAt_32 rfl hq
  · have hy := zt_t hy c1
    refine zj_iload_n (pc' := 8) 2 dX1_wasAt_7 rfl rfl rfl ?_
    refine zj_if_lt (tgt := 31) (pc' := 11) dX1_wasAt_8 rfl (by decide) (fun c2 => ?_) (fun c2 => ?_)
    · have hy := zt_t hy c2
      refine zj_iconst (pc' := 32) dX1_wasAt_31 rfl kiconst_m1 ?_
      have e9 := Option.some.inj hy
      subst e9
      exact zj_iret dX1_wasAt_32 rfl hq
    · have hy := zt_f hy c2
      refine zj_iload_n (pc' := 12) 2 dX1_wasAt_11 rfl rfl rfl ?_
      refine zj_bipush (pc' := 14) dX1_wasAt_12 rfl kbipush_6 ?_
      refine zj_icmp_ge (tgt := 31) (pc' := 17) dX1_wasAt_14 rfl (by decide) (fun c3 => ?_) (fun c3 => ?_)
      · have hy := zt_t hy c3
        refine zj_iconst (pc' := 32) dX1_wasAt_31 rfl kiconst_m1 ?_
        have e9 := Option.some.inj hy
        subst e9
        exact zj_iret dX1_wasAt_32 rfl hq
      · have hy := zt_f hy c3
        refine zj_aload_n (pc' := 18) 0 dX1_wasAt_17 rfl rfl rfl ?_
        refine zj_getR (pc' := 21) (j := 26) dX1_wasAt_18 rfl flX1_9 sh25 rfl ?_
        refine zj_iload_n (pc' := 22) 1 dX1_wasAt_21 rfl rfl rfl ?_
        refine zj_bipush (pc' := 24) dX1_wasAt_22 rfl kbipush_6 ?_
        refine zj_imul (pc' := 25) dX1_wasAt_24 rfl ?_
        refine zj_iload_n (pc' := 26) 2 dX1_wasAt_25 rfl rfl rfl ?_
        refine zj_iadd (pc' := 27) dX1_wasAt_26 rfl ?_
        obtain ⟨v4, hv4, hy⟩ := zt_b hy
        refine zj_rdi (pc' := 28) dX1_wasAt_27 rfl sh26 e_i26 hv4 ?_
        refine zj_goto (tgt := 32) dX1_wasAt_28 (by decide) ?_
        have e9 := Option.some.inj hy
        subst e9
        exact zj_iret dX1_wasAt_32 rfl hq
set_option maxRecDepth 20000 in
theorem LX1_wasAt_25 (Γ : zG) (M : zM) (r0_0 : Nat → Int32) (e_i26 : M.1 26 = r0_0) (a1 : Int32) (a2 : Int32) {res : Int32} (hy : (fDy_wasAt r0_0 a1 a2) = some res) : zK Γ 2 YX1_wasAt [.ref (zad Γ 25), .int a1, .int a2] M (fun v N => v = some (.int res) ∧ N = M) :=
  zK_of (by decide) (Nat.le_of_ble_eq_true rfl) (TX1_wasAt_25 Γ M r0_0 e_i26 a1 a2 hy ⟨rfl, rfl⟩)

noncomputable def fDy_whereIs (r0_0 : Nat → Int32) (a1 : Int32) : Option (Int32) :=
  (fDy_wasAt r0_0 a1 0).bind (fun (y1 : Int32) =>
  some y1)

set_option maxRecDepth 20000 in
theorem TX1_whereIs_25 (Γ : zG) {Q : Option Value → zM → Prop} (M : zM) (r0_0 : Nat → Int32) (e_i26 : M.1 26 = r0_0) (a1 : Int32) {res : Int32} (hy : (fDy_whereIs r0_0 a1) = some res) (hq : Q (some (.int res)) M) : zR Γ 3 YX1_whereIs 0 [(0, .ref (zad Γ 25)), (1, .int a1)] [] M Q := by
  unfold fDy_whereIs at hy
  refine zj_aload_n (pc' := 1) 0 dX1_whereIs_0 rfl rfl rfl ?_
  refine zj_iload_n (pc' := 2) 1 dX1_whereIs_1 rfl rfl rfl ?_
  refine zj_iconst (pc' := 3) dX1_whereIs_2 rfl kiconst_0 ?_
  obtain ⟨y1, hy1, hy⟩ := zt_b hy
  refine zj_V1 (pc' := 6) (z := YX1_wasAt) (As := [.int a1, .int 0]) (N := M) dX1_whereIs_3 rfl mlX1_62 lkX1_wasAt sh25 ⟨_, _, rfl⟩ rfl rfl (Nat.le_of_ble_eq_true rfl) (Nat.le_of_ble_eq_true rfl) (LX1_wasAt_25 Γ _ r0_0 e_i26 a1 0 hy1) rfl ?_
  have e9 := Option.some.inj hy
  subst e9
  exact zj_iret dX1_whereIs_6 rfl hq
set_option maxRecDepth 20000 in
theorem LX1_whereIs_25 (Γ : zG) (M : zM) (r0_0 : Nat → Int32) (e_i26 : M.1 26 = r0_0) (a1 : Int32) {res : Int32} (hy : (fDy_whereIs r0_0 a1) = some res) : zK Γ 3 YX1_whereIs [.ref (zad Γ 25), .int a1] M (fun v N => v = some (.int res) ∧ N = M) :=
  zK_of (by decide) (Nat.le_of_ble_eq_true rfl) (TX1_whereIs_25 Γ M r0_0 e_i26 a1 hy ⟨rfl, rfl⟩)

noncomputable def fDy_goesTo (r0_0 : Nat → Int32) (r0_2 : Nat → Int32) (r0_4 : Nat → Int32) (r0_5 : Nat → Int32) (r1 : Nat → Int32) (r1_2 : Nat → Int32) (a2 : Int32) (a3 : Int32) : Option (Int32 × (Nat → Int32) × (Nat → Int32)) :=
  (fDy_followedBy r0_2 a2).bind (fun (y1 : Int32) =>
  (if y1 = (-1) then
  (fDy_wayLeft r0_5 a2).bind (fun (y3 : Int32) =>
  (if (fDy_mayBe a2) = true then
  (if y3 < 8 then
  zlet (fun (x6 : Int32) =>
  (fPl_areBeside r1 r1_2 x6 a3).bind (fun (y7 : Bool) =>
  (if y7 = true then
  (zwr r0_4 48 ((a2 * 8) + y3) a3).bind (fun (r0_4v9 : Nat → Int32) =>
  (zwr r0_5 6 a2 (y3 + 1)).bind (fun (r0_5v10 : Nat → Int32) =>
  some (0, r0_4v9, r0_5v10)))
  else
  some (3, r0_4, r0_5)))) (fun J11 =>
  (if y3 ≤ 0 then
  (fDy_whereIs r0_0 a2).bind (fun (y13 : Int32) =>
  J11 y13)
  else
  (zrd r0_4 48 (((a2 * 8) + y3) - 1)).bind (fun (v14 : Int32) =>
  J11 v14)))
  else
  some (2, r0_4, r0_5))
  else
  some (2, r0_4, r0_5)))
  else
  some (1, r0_4, r0_5)))

set_option maxRecDepth 20000 in
theorem TX1_goesTo_25_10 (Γ : zG) {Q : Option Value → zM → Prop} (M : zM) (r0_0 : Nat → Int32) (r0_2 : Nat → Int32) (r0_4 : Nat → Int32) (r0_5 : Nat → Int32) (r1 : Nat → Int32) (r1_2 : Nat → Int32) (e_i26 : M.1 26 = r0_0) (e_i28 : M.1 28 = r0_2) (e_i30 : M.1 30 = r0_4) (e_i31 : M.1 31 = r0_5) (e_i10 : M.1 10 = r1) (e_i13 : M.1 13 = r1_2) (a2 : Int32) (a3 : Int32) {res : Int32 × (Nat → Int32) × (Nat → Int32)} (hy : (fDy_goesTo r0_0 r0_2 r0_4 r0_5 r1 r1_2 a2 a3) = some res) (hq : Q (some (.int res.1)) (zui (zui M 30 res.2.1) 31 res.2.2)) : zR Γ 4 YX1_goesTo 0 [(0, .ref (zad Γ 25)), (1, .ref (zad Γ 10)), (2, .int a2), (3, .int a3)] [] M Q := by
  unfold fDy_goesTo at hy
  refine zj_aload_n (pc' := 1) 0 dX1_goesTo_0 rfl rfl rfl ?_
  refine zj_iload_n (pc' := 2) 2 dX1_goesTo_1 rfl rfl rfl ?_
  obtain ⟨y1, hy1, hy⟩ := zt_b hy
  refine zj_V1 (pc' := 5) (z := YX1_followedBy) (As := [.int a2]) (N := M) dX1_goesTo_2 rfl mlX1_69 lkX1_followedBy sh25 ⟨_, _, rfl⟩ rfl rfl (Nat.le_of_ble_eq_true rfl) (Nat.le_of_ble_eq_true rfl) (LX1_followedBy_25 Γ _ r0_2 e_i28 a2 hy1) rfl ?_
  refine zj_iconst (pc' := 6) dX1_goesTo_5 rfl kiconst_m1 ?_
  refine zj_icmp_eq (tgt := 11) (pc' := 9) dX1_goesTo_6 rfl (by decide) (fun c2 => ?_) (fun c2 => ?_)
  · have hy := zt_t hy c2
    refine zj_aload_n (pc' := 12) 0 dX1_goesTo_11 rfl rfl rfl ?_
    refine zj_iload_n (pc' := 13) 2 dX1_goesTo_12 rfl rfl rfl ?_
    obtain ⟨y3, hy3, hy⟩ := zt_b hy
    refine zj_V1 (pc' := 16) (z := YX1_wayLeft) (As := [.int a2]) (N := M) dX1_goesTo_13 rfl mlX1_73 lkX1_wayLeft sh25 ⟨_, _, rfl⟩ rfl rfl (Nat.le_of_ble_eq_true rfl) (Nat.le_of_ble_eq_true rfl) (LX1_wayLeft_25 Γ _ r0_5 e_i31 a2 hy3) rfl ?_
    refine zj_istore (pc' := 18) (L' := [(4, .int y3), (0, .ref (zad Γ 25)), (1, .ref (zad Γ 10)), (2, .int a2), (3, .int a3)]) dX1_goesTo_16 rfl (by decide) rfl ?_
    refine zj_iload_n (pc' := 19) 3 dX1_goesTo_18 rfl rfl rfl ?_
    refine zj_S1 (pc' := 22) (z := YX1_mayBe) (As := [.int a2]) (N := M) dX1_goesTo_19 rfl mlX1_58 lkX1_mayBe rfl rfl (Nat.le_of_ble_eq_true rfl) (Nat.le_of_ble_eq_true rfl) (LX1_mayBe Γ _ a2 rfl) rfl ?_
    refine zj_bif_eq (tgt := 32) (pc' := 25) dX1_goesTo_22 rfl (by decide) (fun c4 => ?_) (fun c4 => ?_)
    · have hy := zt_f hy c4
      refine zj_iconst (pc' := 33) dX1_goesTo_32 rfl kiconst_2 ?_
      have e9 := Option.some.inj hy
      subst e9
      refine zj_mem (N := (zui M 30 r0_4)) (zself_i e_i30 rfl) ?_
      refine zj_mem (N := (zui (zui M 30 r0_4) 31 r0_5)) (zself_i (zr_n rfl e_i31) rfl) ?_
      exact zj_iret dX1_goesTo_33 rfl hq
    · have hy := zt_t hy c4
      refine zj_iload (pc' := 27) 0 dX1_goesTo_25 rfl rfl ?_
      refine zj_bipush (pc' := 29) dX1_goesTo_27 rfl kbipush_8 ?_
      refine zj_icmp_lt (tgt := 34) (pc' := 32) dX1_goesTo_29 rfl (by decide) (fun c5 => ?_) (fun c5 => ?_)
      · have hy := zt_t hy c5
        refine zj_iload (pc' := 36) 0 dX1_goesTo_34 rfl rfl ?_
        obtain ⟨J11, eJ11, hy⟩ := zlet_ex hy
        have HJ11 : ∀ (x6 : Int32), J11 x6 = some res → zR Γ 4 YX1_goesTo 61 [(0, .ref (zad Γ 25)), (1, .ref (zad Γ 10)), (2, .int a2), (3, .int a3), (4, .int y3)] [.int x6] M Q := by
          intro x6 hy
          have hy := zap1 eJ11 hy
          refine zj_istore (pc' := 63) (L' := [(5, .int x6), (0, .ref (zad Γ 25)), (1, .ref (zad Γ 10)), (2, .int a2), (3, .int a3), (4, .int y3)]) dX1_goesTo_61 rfl (by decide) rfl ?_
          refine zj_aload_n (pc' := 64) 2 dX1_goesTo_63 rfl rfl rfl ?_
          refine zj_iload (pc' := 66) 0 dX1_goesTo_64 rfl rfl ?_
          refine zj_iload_n (pc' := 67) 4 dX1_goesTo_66 rfl rfl rfl ?_
          obtain ⟨y7, hy7, hy⟩ := zt_b hy
          refine zj_V1 (pc' := 70) (z := YX7_areBeside) (As := [.int x6, .int a3]) (N := M) dX1_goesTo_67 rfl mlX1_91 lkX7_areBeside sh10 ⟨_, _, rfl⟩ rfl rfl (Nat.le_of_ble_eq_true rfl) (Nat.le_of_ble_eq_true rfl) (LX7_areBeside_10 Γ _ r1 r1_2 e_i10 e_i13 x6 a3 hy7) rfl ?_
          refine zj_bif_ne (tgt := 75) (pc' := 73) dX1_goesTo_70 rfl (by decide) (fun c8 => ?_) (fun c8 => ?_)
          · have hy := zt_t hy c8
            refine zj_aload_n (pc' := 76) 1 dX1_goesTo_75 rfl rfl rfl ?_
            refine zj_getR (pc' := 79) (j := 30) dX1_goesTo_76 rfl flX1_24 sh25 rfl ?_
            refine zj_iload_n (pc' := 80) 3 dX1_goesTo_79 rfl rfl rfl ?_
            refine zj_bipush (pc' := 82) dX1_goesTo_80 rfl kbipush_8 ?_
            refine zj_imul (pc' := 83) dX1_goesTo_82 rfl ?_
            refine zj_iload (pc' := 85) 5 dX1_goesTo_83 rfl rfl ?_
            refine zj_iadd (pc' := 86) dX1_goesTo_85 rfl ?_
            refine zj_iload_n (pc' := 87) 4 dX1_goesTo_86 rfl rfl rfl ?_
            obtain ⟨r0_4v9, hr0_4v9, hy⟩ := zt_b hy
            refine zj_wri (pc' := 88) (N := (zui M 30 r0_4v9)) dX1_goesTo_87 rfl sh30 e_i30 hr0_4v9 rfl ?_
            refine zj_aload_n (pc' := 89) 1 dX1_goesTo_88 rfl rfl rfl ?_
            refine zj_getR (pc' := 92) (j := 31) dX1_goesTo_89 rfl flX1_27 sh25 rfl ?_
            refine zj_iload_n (pc' := 93) 3 dX1_goesTo_92 rfl rfl rfl ?_
            refine zj_iload (pc' := 95) 5 dX1_goesTo_93 rfl rfl ?_
            refine zj_iconst (pc' := 96) dX1_goesTo_95 rfl kiconst_1 ?_
            refine zj_iadd (pc' := 97) dX1_goesTo_96 rfl ?_
            obtain ⟨r0_5v10, hr0_5v10, hy⟩ := zt_b hy
            refine zj_wri (pc' := 98) (N := (zui (zui M 30 r0_4v9) 31 r0_5v10)) dX1_goesTo_97 rfl sh31 (zr_n rfl e_i31) hr0_5v10 rfl ?_
            refine zj_iconst (pc' := 99) dX1_goesTo_98 rfl kiconst_0 ?_
            have e9 := Option.some.inj hy
            subst e9
            exact zj_iret dX1_goesTo_99 rfl hq
          · have hy := zt_f hy c8
            refine zj_iconst (pc' := 74) dX1_goesTo_73 rfl kiconst_3 ?_
            have e9 := Option.some.inj hy
            subst e9
            refine zj_mem (N := (zui M 30 r0_4)) (zself_i e_i30 rfl) ?_
            refine zj_mem (N := (zui (zui M 30 r0_4) 31 r0_5)) (zself_i (zr_n rfl e_i31) rfl) ?_
            exact zj_iret dX1_goesTo_74 rfl hq
        refine zj_if_le (tgt := 56) (pc' := 39) dX1_goesTo_36 rfl (by decide) (fun c12 => ?_) (fun c12 => ?_)
        · have hy := zt_t hy c12
          refine zj_aload_n (pc' := 57) 1 dX1_goesTo_56 rfl rfl rfl ?_
          refine zj_iload_n (pc' := 58) 3 dX1_goesTo_57 rfl rfl rfl ?_
          obtain ⟨y13, hy13, hy⟩ := zt_b hy
          refine zj_V1 (pc' := 61) (z := YX1_whereIs) (As := [.int a2]) (N := M) dX1_goesTo_58 rfl mlX1_88 lkX1_whereIs sh25 ⟨_, _, rfl⟩ rfl rfl (Nat.le_of_ble_eq_true rfl) (Nat.le_of_ble_eq_true rfl) (LX1_whereIs_25 Γ _ r0_0 e_i26 a2 hy13) rfl ?_
          refine zj_loc [1, 2, 3, 4, 0] rfl ?_
          exact HJ11 y13 hy
        · have hy := zt_f hy c12
          refine zj_aload_n (pc' := 40) 1 dX1_goesTo_39 rfl rfl rfl ?_
          refine zj_getR (pc' := 43) (j := 30) dX1_goesTo_40 rfl flX1_24 sh25 rfl ?_
          refine zj_iload_n (pc' := 44) 3 dX1_goesTo_43 rfl rfl rfl ?_
          refine zj_bipush (pc' := 46) dX1_goesTo_44 rfl kbipush_8 ?_
          refine zj_imul (pc' := 47) dX1_goesTo_46 rfl ?_
          refine zj_iload (pc' := 49) 0 dX1_goesTo_47 rfl rfl ?_
          refine zj_iadd (pc' := 50) dX1_goesTo_49 rfl ?_
          refine zj_iconst (pc' := 51) dX1_goesTo_50 rfl kiconst_1 ?_
          refine zj_isub (pc' := 52) dX1_goesTo_51 rfl ?_
          obtain ⟨v14, hv14, hy⟩ := zt_b hy
          refine zj_rdi (pc' := 53) dX1_goesTo_52 rfl sh30 e_i30 hv14 ?_
          refine zj_goto (tgt := 61) dX1_goesTo_53 (by decide) ?_
          refine zj_loc [1, 2, 3, 4, 0] rfl ?_
          exact HJ11 v14 hy
      · have hy := zt_f hy c5
        refine zj_iconst (pc' := 33) dX1_goesTo_32 rfl kiconst_2 ?_
        have e9 := Option.some.inj hy
        subst e9
        refine zj_mem (N := (zui M 30 r0_4)) (zself_i e_i30 rfl) ?_
        refine zj_mem (N := (zui (zui M 30 r0_4) 31 r0_5)) (zself_i (zr_n rfl e_i31) rfl) ?_
        exact zj_iret dX1_goesTo_33 rfl hq
  · have hy := zt_f hy c2
    refine zj_iconst (pc' := 10) dX1_goesTo_9 rfl kiconst_1 ?_
    have e9 := Option.some.inj hy
    subst e9
    refine zj_mem (N := (zui M 30 r0_4)) (zself_i e_i30 rfl) ?_
    refine zj_mem (N := (zui (zui M 30 r0_4) 31 r0_5)) (zself_i (zr_n rfl e_i31) rfl) ?_
    exact zj_iret dX1_goesTo_10 rfl hq
set_option maxRecDepth 20000 in
theorem LX1_goesTo_25_10 (Γ : zG) (M : zM) (r0_0 : Nat → Int32) (r0_2 : Nat → Int32) (r0_4 : Nat → Int32) (r0_5 : Nat → Int32) (r1 : Nat → Int32) (r1_2 : Nat → Int32) (e_i26 : M.1 26 = r0_0) (e_i28 : M.1 28 = r0_2) (e_i30 : M.1 30 = r0_4) (e_i31 : M.1 31 = r0_5) (e_i10 : M.1 10 = r1) (e_i13 : M.1 13 = r1_2) (a2 : Int32) (a3 : Int32) {res : Int32 × (Nat → Int32) × (Nat → Int32)} (hy : (fDy_goesTo r0_0 r0_2 r0_4 r0_5 r1 r1_2 a2 a3) = some res) : zK Γ 4 YX1_goesTo [.ref (zad Γ 25), .ref (zad Γ 10), .int a2, .int a3] M (fun v N => v = some (.int res.1) ∧ N = (zui (zui M 30 res.2.1) 31 res.2.2)) :=
  zK_of (by decide) (Nat.le_of_ble_eq_true rfl) (TX1_goesTo_25_10 Γ M r0_0 r0_2 r0_4 r0_5 r1 r1_2 e_i26 e_i28 e_i30 e_i31 e_i10 e_i13 a2 a3 hy ⟨rfl, rfl⟩)

noncomputable def fPl_readNext (r0 : Nat → Int32) (w0_0 : Nat → Int64) (w0_1 : Nat → Int64) (r0_2 : Nat → Int32) (r1 : Nat → Int32) (w1 : Nat → Int64) (r1_0 : Nat → Int32) (r1_0_0 : Nat → Int32) (w1_1 : Nat → Int64) (r2_0 : Nat → Int32) (r2_2 : Nat → Int32) (r2_4 : Nat → Int32) (r2_5 : Nat → Int32) : Option ((Nat → Int32) × (Nat → Int64) × (Nat → Int32) × (Nat → Int32)) :=
  (fRd_goOn r1 w1 r1_0 r1_0_0).bind (fun (y1 : (Nat → Int32) × (Nat → Int64)) =>
  (fRd_needPerson y1.1 y1.2 w1_1 r0 w0_1).bind (fun (y2 : Int32 × (Nat → Int32)) =>
  zlet y2.1 (fun (x3 : Int32) =>
  (fDy_followedBy r2_2 x3).bind (fun (y4 : Int32) =>
  zlet (fun (r1v5 : Nat → Int32) =>
  (fDy_wayLeft r2_5 x3).bind (fun (y6 : Int32) =>
  zlet (fun (r1v7 : Nat → Int32) =>
  (fRd_goOn r1v7 y1.2 r1_0 r1_0_0).bind (fun (y8 : (Nat → Int32) × (Nat → Int64)) =>
  (fRd_needCorner y8.1 y8.2 w1_1 r0 w0_0).bind (fun (y9 : Int32 × (Nat → Int32)) =>
  zlet y9.1 (fun (x10 : Int32) =>
  (if (fRd_isGood y9.2) = true then
  (fDy_goesTo r2_0 r2_2 r2_4 r2_5 r0 r0_2 x3 x10).bind (fun (y12 : Int32 × (Nat → Int32) × (Nat → Int32)) =>
  (if y12.1 = 0 then
  (fRd_goOn y9.2 y8.2 r1_0 r1_0_0).bind (fun (y14 : (Nat → Int32) × (Nat → Int64)) =>
  some (y14.1, y14.2, y12.2.1, y12.2.2))
  else
  (fRd_fail y9.2 3).bind (fun (y15 : (Nat → Int32)) =>
  (fRd_goOn y15 y8.2 r1_0 r1_0_0).bind (fun (y16 : (Nat → Int32) × (Nat → Int64)) =>
  some (y16.1, y16.2, y12.2.1, y12.2.2)))))
  else
  (fRd_goOn y9.2 y8.2 r1_0 r1_0_0).bind (fun (y17 : (Nat → Int32) × (Nat → Int64)) =>
  some (y17.1, y17.2, r2_4, r2_5))))))) (fun J18 =>
  (if y6 < 8 then
  J18 r1v5
  else
  (fRd_fail r1v5 4).bind (fun (y20 : (Nat → Int32)) =>
  J18 y20))))) (fun J21 =>
  (if y4 = (-1) then
  J21 y2.2
  else
  (fRd_fail y2.2 3).bind (fun (y23 : (Nat → Int32)) =>
  J21 y23)))))))

set_option maxRecDepth 20000 in
theorem TX7_readNext_10_3_25 (Γ : zG) {Q : Option Value → zM → Prop} (M : zM) (r0 : Nat → Int32) (w0_0 : Nat → Int64) (w0_1 : Nat → Int64) (r0_2 : Nat → Int32) (r1 : Nat → Int32) (w1 : Nat → Int64) (r1_0 : Nat → Int32) (r1_0_0 : Nat → Int32) (w1_1 : Nat → Int64) (r2_0 : Nat → Int32) (r2_2 : Nat → Int32) (r2_4 : Nat → Int32) (r2_5 : Nat → Int32) (e_i10 : M.1 10 = r0) (e_l11 : M.2 11 = w0_0) (e_l12 : M.2 12 = w0_1) (e_i13 : M.1 13 = r0_2) (e_i3 : M.1 3 = r1) (e_l3 : M.2 3 = w1) (e_i1 : M.1 1 = r1_0) (e_i2 : M.1 2 = r1_0_0) (e_l4 : M.2 4 = w1_1) (e_i26 : M.1 26 = r2_0) (e_i28 : M.1 28 = r2_2) (e_i30 : M.1 30 = r2_4) (e_i31 : M.1 31 = r2_5)  {res : (Nat → Int32) × (Nat → Int64) × (Nat → Int32) × (Nat → Int32)} (hy : (fPl_readNext r0 w0_0 w0_1 r0_2 r1 w1 r1_0 r1_0_0 w1_1 r2_0 r2_2 r2_4 r2_5) = some res) (hq : Q none (zui (zui (zui (zul M 3 res.2.1) 3 res.1) 30 res.2.2.1) 31 res.2.2.2)) : zR Γ 5 YX7_readNext 0 [(0, .ref (zad Γ 10)), (1, .ref (zad Γ 3)), (2, .ref (zad Γ 25))] [] M Q := by
  unfold fPl_readNext at hy
  refine zj_aload_n (pc' := 1) 1 dX7_readNext_0 rfl rfl rfl ?_
  obtain ⟨y1, hy1, hy⟩ := zt_b hy
  refine zj_V0 (pc' := 4) (z := YX8_goOn) (As := []) (N := (zui (zul M 3 y1.2) 3 y1.1)) dX7_readNext_1 rfl mlX7_126 lkX8_goOn sh3 ⟨_, _, rfl⟩ rfl rfl (Nat.le_of_ble_eq_true rfl) (Nat.le_of_ble_eq_true rfl) (LX8_goOn_3 Γ _ r1 w1 r1_0 r1_0_0 e_i3 e_l3 e_i1 e_i2 hy1) ((zch_i rfl rfl)).symm ?_
  refine zj_aload_n (pc' := 5) 1 dX7_readNext_4 rfl rfl rfl ?_
  refine zj_aload_n (pc' := 6) 0 dX7_readNext_5 rfl rfl rfl ?_
  obtain ⟨y2, hy2, hy⟩ := zt_b hy
  refine zj_V1 (pc' := 9) (z := YX8_needPerson) (As := [.ref (zad Γ 10)]) (N := (zui (zul M 3 y1.2) 3 y2.2)) dX7_readNext_6 rfl mlX7_161 lkX8_needPerson sh3 ⟨_, _, rfl⟩ rfl rfl (Nat.le_of_ble_eq_true rfl) (Nat.le_of_ble_eq_true rfl) (LX8_needPerson_3_10 Γ _ y1.1 y1.2 w1_1 r0 w0_1 zr_s (zq_i zq_s) (zq_i (zq_n rfl e_l4)) (zr_n rfl (zr_l e_i10)) (zq_i (zq_n rfl e_l12)) hy2) (zm_s).symm ?_
  refine zj_topi (fun x3 ex3 => ?_)
  have hy := zlet_at ex3 hy
  refine zj_istore_n (pc' := 10) (L' := [(3, .int x3), (0, .ref (zad Γ 10)), (1, .ref (zad Γ 3)), (2, .ref (zad Γ 25))]) dX7_readNext_9 rfl rfl (by decide) rfl ?_
  refine zj_aload_n (pc' := 11) 3 dX7_readNext_10 rfl rfl rfl ?_
  refine zj_iload_n (pc' := 12) 0 dX7_readNext_11 rfl rfl rfl ?_
  obtain ⟨y4, hy4, hy⟩ := zt_b hy
  refine zj_V1 (pc' := 15) (z := YX1_followedBy) (As := [.int x3]) (N := (zui (zul M 3 y1.2) 3 y2.2)) dX7_readNext_12 rfl mlX7_164 lkX1_followedBy sh25 ⟨_, _, rfl⟩ rfl rfl (Nat.le_of_ble_eq_true rfl) (Nat.le_of_ble_eq_true rfl) (LX1_followedBy_25 Γ _ r2_2 (zr_n rfl (zr_l e_i28)) x3 hy4) rfl ?_
  refine zj_iconst (pc' := 16) dX7_readNext_15 rfl kiconst_m1 ?_
  obtain ⟨J21, eJ21, hy⟩ := zlet_ex hy
  have HJ21 : ∀ (r1v5 : Nat → Int32), J21 r1v5 = some res → zR Γ 5 YX7_readNext 24 [(0, .ref (zad Γ 10)), (1, .ref (zad Γ 3)), (2, .ref (zad Γ 25)), (3, .int x3)] [] (zui (zul M 3 y1.2) 3 r1v5) Q := by
    intro r1v5 hy
    have hy := zap1 eJ21 hy
    refine zj_aload_n (pc' := 25) 2 dX7_readNext_24 rfl rfl rfl ?_
    refine zj_iload_n (pc' := 26) 3 dX7_readNext_25 rfl rfl rfl ?_
    obtain ⟨y6, hy6, hy⟩ := zt_b hy
    refine zj_V1 (pc' := 29) (z := YX1_wayLeft) (As := [.int x3]) (N := (zui (zul M 3 y1.2) 3 r1v5)) dX7_readNext_26 rfl mlX7_167 lkX1_wayLeft sh25 ⟨_, _, rfl⟩ rfl rfl (Nat.le_of_ble_eq_true rfl) (Nat.le_of_ble_eq_true rfl) (LX1_wayLeft_25 Γ _ r2_5 (zr_n rfl (zr_l e_i31)) x3 hy6) rfl ?_
    refine zj_bipush (pc' := 31) dX7_readNext_29 rfl kbipush_8 ?_
    obtain ⟨J18, eJ18, hy⟩ := zlet_ex hy
    have HJ18 : ∀ (r1v7 : Nat → Int32), J18 r1v7 = some res → zR Γ 5 YX7_readNext 39 [(0, .ref (zad Γ 10)), (1, .ref (zad Γ 3)), (2, .ref (zad Γ 25)), (3, .int x3)] [] (zui (zul M 3 y1.2) 3 r1v7) Q := by
      intro r1v7 hy
      have hy := zap1 eJ18 hy
      refine zj_aload_n (pc' := 40) 1 dX7_readNext_39 rfl rfl rfl ?_
      obtain ⟨y8, hy8, hy⟩ := zt_b hy
      refine zj_V0 (pc' := 43) (z := YX8_goOn) (As := []) (N := (zui (zul M 3 y8.2) 3 y8.1)) dX7_readNext_40 rfl mlX7_126 lkX8_goOn sh3 ⟨_, _, rfl⟩ rfl rfl (Nat.le_of_ble_eq_true rfl) (Nat.le_of_ble_eq_true rfl) (LX8_goOn_3 Γ _ r1v7 y1.2 r1_0 r1_0_0 zr_s (zq_i zq_s) (zr_n rfl (zr_l e_i1)) (zr_n rfl (zr_l e_i2)) hy8) ((zch_i (zm_li zn_s) zm_s)).symm ?_
      refine zj_aload_n (pc' := 44) 1 dX7_readNext_43 rfl rfl rfl ?_
      refine zj_aload_n (pc' := 45) 0 dX7_readNext_44 rfl rfl rfl ?_
      obtain ⟨y9, hy9, hy⟩ := zt_b hy
      refine zj_V1 (pc' := 48) (z := YX8_needCorner) (As := [.ref (zad Γ 10)]) (N := (zui (zul M 3 y8.2) 3 y9.2)) dX7_readNext_45 rfl mlX7_147 lkX8_needCorner sh3 ⟨_, _, rfl⟩ rfl rfl (Nat.le_of_ble_eq_true rfl) (Nat.le_of_ble_eq_true rfl) (LX8_needCorner_3_10 Γ _ y8.1 y8.2 w1_1 r0 w0_0 zr_s (zq_i zq_s) (zq_i (zq_n rfl e_l4)) (zr_n rfl (zr_l e_i10)) (zq_i (zq_n rfl e_l11)) hy9) (zm_s).symm ?_
      refine zj_topi (fun x10 ex10 => ?_)
      have hy := zlet_at ex10 hy
      refine zj_istore (pc' := 50) (L' := [(4, .int x10), (0, .ref (zad Γ 10)), (1, .ref (zad Γ 3)), (2, .ref (zad Γ 25)), (3, .int x3)]) dX7_readNext_48 rfl (by decide) rfl ?_
      refine zj_aload_n (pc' := 51) 2 dX7_readNext_50 rfl rfl rfl ?_
      refine zj_V1 (pc' := 54) (z := YX8_isGood) (As := []) (N := (zui (zul M 3 y8.2) 3 y9.2)) dX7_readNext_51 rfl mlX7_83 lkX8_isGood sh3 ⟨_, _, rfl⟩ rfl rfl (Nat.le_of_ble_eq_true rfl) (Nat.le_of_ble_eq_true rfl) (LX8_isGood_3 Γ _ y9.2 zr_s rfl) rfl ?_
      refine zj_bif_eq (tgt := 73) (pc' := 57) dX7_readNext_54 rfl (by decide) (fun c11 => ?_) (fun c11 => ?_)
      · have hy := zt_f hy c11
        refine zj_aload_n (pc' := 74) 2 dX7_readNext_73 rfl rfl rfl ?_
        obtain ⟨y17, hy17, hy⟩ := zt_b hy
        refine zj_V0 (pc' := 77) (z := YX8_goOn) (As := []) (N := (zui (zul M 3 y17.2) 3 y17.1)) dX7_readNext_74 rfl mlX7_126 lkX8_goOn sh3 ⟨_, _, rfl⟩ rfl rfl (Nat.le_of_ble_eq_true rfl) (Nat.le_of_ble_eq_true rfl) (LX8_goOn_3 Γ _ y9.2 y8.2 r1_0 r1_0_0 zr_s (zq_i zq_s) (zr_n rfl (zr_l e_i1)) (zr_n rfl (zr_l e_i2)) hy17) ((zch_i (zm_li zn_s) zm_s)).symm ?_
        have e9 := Option.some.inj hy
        subst e9
        refine zj_mem (N := (zui (zui (zul M 3 y17.2) 3 y17.1) 30 r2_4)) (zself_i (zr_n rfl (zr_l e_i30)) rfl) ?_
        refine zj_mem (N := (zui (zui (zui (zul M 3 y17.2) 3 y17.1) 30 r2_4) 31 r2_5)) (zself_i (zr_n rfl (zr_n rfl (zr_l e_i31))) rfl) ?_
        exact zj_vret dX7_readNext_77 rfl hq
      · have hy := zt_t hy c11
        refine zj_aload_n (pc' := 58) 3 dX7_readNext_57 rfl rfl rfl ?_
        refine zj_aload_n (pc' := 59) 1 dX7_readNext_58 rfl rfl rfl ?_
        refine zj_iload_n (pc' := 60) 4 dX7_readNext_59 rfl rfl rfl ?_
        refine zj_iload (pc' := 62) 0 dX7_readNext_60 rfl rfl ?_
        obtain ⟨y12, hy12, hy⟩ := zt_b hy
        refine zj_V1 (pc' := 65) (z := YX1_goesTo) (As := [.ref (zad Γ 10), .int x3, .int x10]) (N := (zui (zui (zui (zul M 3 y8.2) 3 y9.2) 30 y12.2.1) 31 y12.2.2)) dX7_readNext_62 rfl mlX7_170 lkX1_goesTo sh25 ⟨_, _, rfl⟩ rfl rfl (Nat.le_of_ble_eq_true rfl) (Nat.le_of_ble_eq_true rfl) (LX1_goesTo_25_10 Γ _ r2_0 r2_2 r2_4 r2_5 r0 r0_2 (zr_n rfl (zr_l e_i26)) (zr_n rfl (zr_l e_i28)) (zr_n rfl (zr_l e_i30)) (zr_n rfl (zr_l e_i31)) (zr_n rfl (zr_l e_i10)) (zr_n rfl (zr_l e_i13)) x3 x10 hy12) ((zch_i rfl rfl)).symm ?_
        refine zj_if_eq (tgt := 73) (pc' := 68) dX7_readNext_65 rfl (by decide) (fun c13 => ?_) (fun c13 => ?_)
        · have hy := zt_t hy c13
          refine zj_aload_n (pc' := 74) 2 dX7_readNext_73 rfl rfl rfl ?_
          obtain ⟨y14, hy14, hy⟩ := zt_b hy
          refine zj_V0 (pc' := 77) (z := YX8_goOn) (As := []) (N := (zui (zui (zui (zul M 3 y14.2) 3 y14.1) 30 y12.2.1) 31 y12.2.2)) dX7_readNext_74 rfl mlX7_126 lkX8_goOn sh3 ⟨_, _, rfl⟩ rfl rfl (Nat.le_of_ble_eq_true rfl) (Nat.le_of_ble_eq_true rfl) (LX8_goOn_3 Γ _ y9.2 y8.2 r1_0 r1_0_0 (zr_n rfl (zr_n rfl zr_s)) (zq_i (zq_i (zq_i zq_s))) (zr_n rfl (zr_n rfl (zr_n rfl (zr_l e_i1)))) (zr_n rfl (zr_n rfl (zr_n rfl (zr_l e_i2)))) hy14) ((zch_i (zm_li (zm_li (zm_li zn_s))) (zm_n rfl (zm_n rfl zm_s)))).symm ?_
          have e9 := Option.some.inj hy
          subst e9
          exact zj_vret dX7_readNext_77 rfl hq
        · have hy := zt_f hy c13
          refine zj_aload_n (pc' := 69) 2 dX7_readNext_68 rfl rfl rfl ?_
          refine zj_iconst (pc' := 70) dX7_readNext_69 rfl kiconst_3 ?_
          obtain ⟨y15, hy15, hy⟩ := zt_b hy
          refine zj_V0 (pc' := 73) (z := YX8_fail) (As := [.int 3]) (N := (zui (zui (zui (zul M 3 y8.2) 3 y15) 30 y12.2.1) 31 y12.2.2)) dX7_readNext_70 rfl mlX7_123 lkX8_fail sh3 ⟨_, _, rfl⟩ rfl rfl (Nat.le_of_ble_eq_true rfl) (Nat.le_of_ble_eq_true rfl) (LX8_fail_3 Γ _ y9.2 (zr_n rfl (zr_n rfl zr_s)) 3 hy15) ((zm_n rfl (zm_n rfl zm_s))).symm ?_
          refine zj_aload_n (pc' := 74) 2 dX7_readNext_73 rfl rfl rfl ?_
          obtain ⟨y16, hy16, hy⟩ := zt_b hy
          refine zj_V0 (pc' := 77) (z := YX8_goOn) (As := []) (N := (zui (zui (zui (zul M 3 y16.2) 3 y16.1) 30 y12.2.1) 31 y12.2.2)) dX7_readNext_74 rfl mlX7_126 lkX8_goOn sh3 ⟨_, _, rfl⟩ rfl rfl (Nat.le_of_ble_eq_true rfl) (Nat.le_of_ble_eq_true rfl) (LX8_goOn_3 Γ _ y15 y8.2 r1_0 r1_0_0 (zr_n rfl (zr_n rfl zr_s)) (zq_i (zq_i (zq_i zq_s))) (zr_n rfl (zr_n rfl (zr_n rfl (zr_l e_i1)))) (zr_n rfl (zr_n rfl (zr_n rfl (zr_l e_i2)))) hy16) ((zch_i (zm_li (zm_li (zm_li zn_s))) (zm_n rfl (zm_n rfl zm_s)))).symm ?_
          have e9 := Option.some.inj hy
          subst e9
          exact zj_vret dX7_readNext_77 rfl hq
    refine zj_icmp_lt (tgt := 39) (pc' := 34) dX7_readNext_31 rfl (by decide) (fun c19 => ?_) (fun c19 => ?_)
    · have hy := zt_t hy c19
      exact HJ18 r1v5 hy
    · have hy := zt_f hy c19
      refine zj_aload_n (pc' := 35) 1 dX7_readNext_34 rfl rfl rfl ?_
      refine zj_iconst (pc' := 36) dX7_readNext_35 rfl kiconst_4 ?_
      obtain ⟨y20, hy20, hy⟩ := zt_b hy
      refine zj_V0 (pc' := 39) (z := YX8_fail) (As := [.int 4]) (N := (zui (zul M 3 y1.2) 3 y20)) dX7_readNext_36 rfl mlX7_123 lkX8_fail sh3 ⟨_, _, rfl⟩ rfl rfl (Nat.le_of_ble_eq_true rfl) (Nat.le_of_ble_eq_true rfl) (LX8_fail_3 Γ _ r1v5 zr_s 4 hy20) (zm_s).symm ?_
      exact HJ18 y20 hy
  refine zj_icmp_eq (tgt := 24) (pc' := 19) dX7_readNext_16 rfl (by decide) (fun c22 => ?_) (fun c22 => ?_)
  · have hy := zt_t hy c22
    refine zj_loc [1, 2, 3, 0] rfl ?_
    exact HJ21 y2.2 hy
  · have hy := zt_f hy c22
    refine zj_aload_n (pc' := 20) 2 dX7_readNext_19 rfl rfl rfl ?_
    refine zj_iconst (pc' := 21) dX7_readNext_20 rfl kiconst_3 ?_
    obtain ⟨y23, hy23, hy⟩ := zt_b hy
    refine zj_V0 (pc' := 24) (z := YX8_fail) (As := [.int 3]) (N := (zui (zul M 3 y1.2) 3 y23)) dX7_readNext_21 rfl mlX7_123 lkX8_fail sh3 ⟨_, _, rfl⟩ rfl rfl (Nat.le_of_ble_eq_true rfl) (Nat.le_of_ble_eq_true rfl) (LX8_fail_3 Γ _ y2.2 zr_s 3 hy23) (zm_s).symm ?_
    refine zj_loc [1, 2, 3, 0] rfl ?_
    exact HJ21 y23 hy
set_option maxRecDepth 20000 in
theorem LX7_readNext_10_3_25 (Γ : zG) (M : zM) (r0 : Nat → Int32) (w0_0 : Nat → Int64) (w0_1 : Nat → Int64) (r0_2 : Nat → Int32) (r1 : Nat → Int32) (w1 : Nat → Int64) (r1_0 : Nat → Int32) (r1_0_0 : Nat → Int32) (w1_1 : Nat → Int64) (r2_0 : Nat → Int32) (r2_2 : Nat → Int32) (r2_4 : Nat → Int32) (r2_5 : Nat → Int32) (e_i10 : M.1 10 = r0) (e_l11 : M.2 11 = w0_0) (e_l12 : M.2 12 = w0_1) (e_i13 : M.1 13 = r0_2) (e_i3 : M.1 3 = r1) (e_l3 : M.2 3 = w1) (e_i1 : M.1 1 = r1_0) (e_i2 : M.1 2 = r1_0_0) (e_l4 : M.2 4 = w1_1) (e_i26 : M.1 26 = r2_0) (e_i28 : M.1 28 = r2_2) (e_i30 : M.1 30 = r2_4) (e_i31 : M.1 31 = r2_5)  {res : (Nat → Int32) × (Nat → Int64) × (Nat → Int32) × (Nat → Int32)} (hy : (fPl_readNext r0 w0_0 w0_1 r0_2 r1 w1 r1_0 r1_0_0 w1_1 r2_0 r2_2 r2_4 r2_5) = some res) : zK Γ 5 YX7_readNext [.ref (zad Γ 10), .ref (zad Γ 3), .ref (zad Γ 25)] M (fun v N => v = none ∧ N = (zui (zui (zui (zul M 3 res.2.1) 3 res.1) 30 res.2.2.1) 31 res.2.2.2)) :=
  zK_of (by decide) (Nat.le_of_ble_eq_true rfl) (TX7_readNext_10_3_25 Γ M r0 w0_0 w0_1 r0_2 r1 w1 r1_0 r1_0_0 w1_1 r2_0 r2_2 r2_4 r2_5 e_i10 e_l11 e_l12 e_i13 e_i3 e_l3 e_i1 e_i2 e_l4 e_i26 e_i28 e_i30 e_i31 hy ⟨rfl, rfl⟩)

