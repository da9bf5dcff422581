noncomputable def fJI_lowestOneBit (a1 : Int32) : Int32 :=
  (a1 &&& (-a1))

set_option maxRecDepth 20000 in
theorem TJ6_lowestOneBit_0f7a4 (Γ : zG) {Q : Option Value → zM → Prop} (M : zM)   (a1 : Int32) {res : Int32} (hy : (fJI_lowestOneBit a1) = res) (hq : Q (some (.int res)) M) : zR Γ 1 YJ6_lowestOneBit_0f7a4 0 [(0, .int a1)] [] M Q := by
  unfold fJI_lowestOneBit at hy
  refine zj_iload_n (pc' := 1) 0 dJ6_lowestOneBit_0f7a4_0 rfl rfl rfl ?_
  refine zj_iload_n (pc' := 2) 0 dJ6_lowestOneBit_0f7a4_1 rfl rfl rfl ?_
  refine zj_ineg (pc' := 3) dJ6_lowestOneBit_0f7a4_2 rfl ?_
  refine zj_iand (pc' := 4) dJ6_lowestOneBit_0f7a4_3 rfl ?_
  subst hy
  exact zj_iret dJ6_lowestOneBit_0f7a4_4 rfl hq
set_option maxRecDepth 20000 in
theorem LJ6_lowestOneBit_0f7a4 (Γ : zG) (M : zM)   (a1 : Int32) {res : Int32} (hy : (fJI_lowestOneBit a1) = res) : zK Γ 1 YJ6_lowestOneBit_0f7a4 [.int a1] M (fun v N => v = some (.int res) ∧ N = M) :=
  zK_of (by decide) (Nat.le_of_ble_eq_true rfl) (TJ6_lowestOneBit_0f7a4 Γ M a1 hy ⟨rfl, rfl⟩)

noncomputable def fDy_firstOfRings_L4 (r0_2 : Nat → Int32) (x1 : Int32) (x2 : Int32) : Option ((Int32 × Int32) ⊕ (Int32)) :=
  (if 6 ≤ x2 then
  some (.inr x1)
  else
  (fDy_ringOf r0_2 x2).bind (fun (y11 : Int32) =>
  zlet (x1 ||| (fJI_lowestOneBit y11)) (fun (x12 : Int32) =>
  zlet (x2 + 1) (fun (x13 : Int32) =>
  some (.inl (x12, x13))))))
noncomputable def fDy_firstOfRings (r0_2 : Nat → Int32) : Option (Int32) :=
  (zLP (fun s => fDy_firstOfRings_L4 r0_2 s.1 s.2) (0, 0)).bind (fun r5 =>
  some r5)

set_option maxRecDepth 20000 in
theorem TX1_firstOfRings_15 (Γ : zG) {Q : Option Value → zM → Prop} (M : zM) (r0_2 : Nat → Int32) (e_i18 : M.1 18 = r0_2)  {res : Int32} (hy : (fDy_firstOfRings r0_2) = some res) (hq : Q (some (.int res)) M) : zR Γ 4 YX1_firstOfRings 0 [(0, .ref (zad Γ 15))] [] M Q := by
  unfold fDy_firstOfRings at hy
  refine zj_iconst (pc' := 1) dX1_firstOfRings_0 rfl kiconst_0 ?_
  refine zj_istore_n (pc' := 2) (L' := [(1, .int 0), (0, .ref (zad Γ 15))]) dX1_firstOfRings_1 rfl rfl (by decide) rfl ?_
  refine zj_iconst (pc' := 3) dX1_firstOfRings_2 rfl kiconst_0 ?_
  refine zj_istore_n (pc' := 4) (L' := [(2, .int 0), (1, .int 0), (0, .ref (zad Γ 15))]) dX1_firstOfRings_3 rfl rfl (by decide) rfl ?_
  refine zj_loc [2, 1, 0] rfl ?_
  obtain ⟨r5, hr9, hyo6⟩ := zt_b hy
  obtain ⟨n9, hn9⟩ := zLP_some hr9
  have HE3 : ∀ (x14 : Int32), r5 = x14 → zR Γ 4 YX1_firstOfRings 27 [(1, .int x14)] [] M Q := by
    intro x14 e9
    have hy := hyo6
    try rw [e9] at hy
    try dsimp only at hy
    refine zj_iload_n (pc' := 28) 0 dX1_firstOfRings_27 rfl rfl rfl ?_
    have e9 := Option.some.inj hy
    subst e9
    exact zj_iret dX1_firstOfRings_28 rfl hq
  have HL4 : ∀ (n : Nat) (x1 : Int32) (x2 : Int32), zlp (fun s => fDy_firstOfRings_L4 r0_2 s.1 s.2) n (x1, x2) = some r5 → zR Γ 4 YX1_firstOfRings 4 [(0, .ref (zad Γ 15)), (1, .int x1), (2, .int x2)] [] M Q := by
    intro n
    induction n with
    | zero => intro x1 x2 hn9; cases hn9
    | succ n ih7 =>
      intro x1 x2 hn9
      obtain ⟨o9, hb9, h8, h9⟩ := zlp_step hn9
      have hy : fDy_firstOfRings_L4 r0_2 x1 x2 = some o9 := hb9
      unfold fDy_firstOfRings_L4 at hy
      refine zj_iload_n (pc' := 5) 2 dX1_firstOfRings_4 rfl rfl rfl ?_
      refine zj_bipush (pc' := 7) dX1_firstOfRings_5 rfl kbipush_6 ?_
      refine zj_icmp_ge (tgt := 27) (pc' := 10) dX1_firstOfRings_7 rfl (by decide) (fun c10 => ?_) (fun c10 => ?_)
      · have hy := zt_t hy c10
        have e9 := h9 _ (Option.some.inj hy).symm
        refine zj_loc [1] rfl ?_
        exact HE3 _ e9.symm
      · have hy := zt_f hy c10
        refine zj_iload_n (pc' := 11) 1 dX1_firstOfRings_10 rfl rfl rfl ?_
        refine zj_aload_n (pc' := 12) 0 dX1_firstOfRings_11 rfl rfl rfl ?_
        refine zj_iload_n (pc' := 13) 2 dX1_firstOfRings_12 rfl rfl rfl ?_
        obtain ⟨y11, hy11, hy⟩ := zt_b hy
        refine zj_V1 (pc' := 16) (z := YX1_ringOf) (As := [.int x2]) (N := M) dX1_firstOfRings_13 rfl mlX1_76 lkX1_ringOf sh15 ⟨_, _, rfl⟩ rfl rfl (Nat.le_of_ble_eq_true rfl) (Nat.le_of_ble_eq_true rfl) (LX1_ringOf_15 Γ _ r0_2 e_i18 x2 hy11) rfl ?_
        refine zj_S1 (pc' := 19) (z := YJ6_lowestOneBit_0f7a4) (As := [.int y11]) (N := M) dX1_firstOfRings_16 rfl mlX1_79 lkJ6_lowestOneBit_0f7a4 rfl rfl (Nat.le_of_ble_eq_true rfl) (Nat.le_of_ble_eq_true rfl) (LJ6_lowestOneBit_0f7a4 Γ _ y11 rfl) rfl ?_
        refine zj_ior (pc' := 20) dX1_firstOfRings_19 rfl ?_
        refine zj_topi (fun x12 ex12 => ?_)
        have hy := zlet_at ex12 hy
        refine zj_istore_n (pc' := 21) (L' := [(1, .int x12), (0, .ref (zad Γ 15)), (2, .int x2)]) dX1_firstOfRings_20 rfl rfl (by decide) rfl ?_
        obtain ⟨x13, ex13⟩ : ∃ z : Int32, z = (x2 + 1) := ⟨_, rfl⟩
        have hy := zlet_at ex13 hy
        refine zj_iinc (pc' := 24) 2 (L' := [(2, .int x13), (1, .int x12), (0, .ref (zad Γ 15))]) dX1_firstOfRings_21 rfl rfl (by decide) (by rw [ci1, ← ex13]; rfl) ?_
        refine zj_goto (tgt := 4) dX1_firstOfRings_24 (by decide) ?_
        have hn9 := h8 _ (Option.some.inj hy).symm
        refine zj_loc [2, 1, 0] rfl ?_
        exact ih7 _ _ hn9
  exact HL4 n9 _ _ hn9
set_option maxRecDepth 20000 in
theorem LX1_firstOfRings_15 (Γ : zG) (M : zM) (r0_2 : Nat → Int32) (e_i18 : M.1 18 = r0_2)  {res : Int32} (hy : (fDy_firstOfRings r0_2) = some res) : zK Γ 4 YX1_firstOfRings [.ref (zad Γ 15)] M (fun v N => v = some (.int res) ∧ N = M) :=
  zK_of (by decide) (Nat.le_of_ble_eq_true rfl) (TX1_firstOfRings_15 Γ M r0_2 e_i18 hy ⟨rfl, rfl⟩)

noncomputable def fJI_bitCount (a1 : Int32) : Int32 :=
  zlet (a1 - (((Int32.toUInt32 a1 >>> (Int32.toUInt32 (1 : Int32) &&& Int32.toUInt32 31)).toInt32) &&& 1431655765)) (fun (x1 : Int32) =>
  zlet ((x1 &&& 858993459) + (((Int32.toUInt32 x1 >>> (Int32.toUInt32 (2 : Int32) &&& Int32.toUInt32 31)).toInt32) &&& 858993459)) (fun (x2 : Int32) =>
  zlet ((x2 + ((Int32.toUInt32 x2 >>> (Int32.toUInt32 (4 : Int32) &&& Int32.toUInt32 31)).toInt32)) &&& 252645135) (fun (x3 : Int32) =>
  zlet (x3 + ((Int32.toUInt32 x3 >>> (Int32.toUInt32 (8 : Int32) &&& Int32.toUInt32 31)).toInt32)) (fun (x4 : Int32) =>
  zlet (x4 + ((Int32.toUInt32 x4 >>> (Int32.toUInt32 (16 : Int32) &&& Int32.toUInt32 31)).toInt32)) (fun (x5 : Int32) =>
  (x5 &&& 63))))))

set_option maxRecDepth 20000 in
theorem TJ6_bitCount_0f7a4 (Γ : zG) {Q : Option Value → zM → Prop} (M : zM)   (a1 : Int32) {res : Int32} (hy : (fJI_bitCount a1) = res) (hq : Q (some (.int res)) M) : zR Γ 1 YJ6_bitCount_0f7a4 0 [(0, .int a1)] [] M Q := by
  unfold fJI_bitCount at hy
  refine zj_iload_n (pc' := 1) 0 dJ6_bitCount_0f7a4_0 rfl rfl rfl ?_
  refine zj_iload_n (pc' := 2) 0 dJ6_bitCount_0f7a4_1 rfl rfl rfl ?_
  refine zj_iconst (pc' := 3) dJ6_bitCount_0f7a4_2 rfl kiconst_1 ?_
  refine zj_iushr (pc' := 4) dJ6_bitCount_0f7a4_3 rfl ?_
  refine zj_ldcw (pc' := 7) dJ6_bitCount_0f7a4_4 rfl cI752 ?_
  refine zj_iand (pc' := 8) dJ6_bitCount_0f7a4_7 rfl ?_
  refine zj_isub (pc' := 9) dJ6_bitCount_0f7a4_8 rfl ?_
  refine zj_topi (fun x1 ex1 => ?_)
  have hy := zlet_at ex1 hy
  refine zj_istore_n (pc' := 10) (L' := [(0, .int x1)]) dJ6_bitCount_0f7a4_9 rfl rfl (by decide) rfl ?_
  refine zj_iload_n (pc' := 11) 0 dJ6_bitCount_0f7a4_10 rfl rfl rfl ?_
  refine zj_ldcw (pc' := 14) dJ6_bitCount_0f7a4_11 rfl cI753 ?_
  refine zj_iand (pc' := 15) dJ6_bitCount_0f7a4_14 rfl ?_
  refine zj_iload_n (pc' := 16) 0 dJ6_bitCount_0f7a4_15 rfl rfl rfl ?_
  refine zj_iconst (pc' := 17) dJ6_bitCount_0f7a4_16 rfl kiconst_2 ?_
  refine zj_iushr (pc' := 18) dJ6_bitCount_0f7a4_17 rfl ?_
  refine zj_ldcw (pc' := 21) dJ6_bitCount_0f7a4_18 rfl cI753 ?_
  refine zj_iand (pc' := 22) dJ6_bitCount_0f7a4_21 rfl ?_
  refine zj_iadd (pc' := 23) dJ6_bitCount_0f7a4_22 rfl ?_
  refine zj_topi (fun x2 ex2 => ?_)
  have hy := zlet_at ex2 hy
  refine zj_istore_n (pc' := 24) (L' := [(0, .int x2)]) dJ6_bitCount_0f7a4_23 rfl rfl (by decide) rfl ?_
  refine zj_iload_n (pc' := 25) 0 dJ6_bitCount_0f7a4_24 rfl rfl rfl ?_
  refine zj_iload_n (pc' := 26) 0 dJ6_bitCount_0f7a4_25 rfl rfl rfl ?_
  refine zj_iconst (pc' := 27) dJ6_bitCount_0f7a4_26 rfl kiconst_4 ?_
  refine zj_iushr (pc' := 28) dJ6_bitCount_0f7a4_27 rfl ?_
  refine zj_iadd (pc' := 29) dJ6_bitCount_0f7a4_28 rfl ?_
  refine zj_ldcw (pc' := 32) dJ6_bitCount_0f7a4_29 rfl cI754 ?_
  refine zj_iand (pc' := 33) dJ6_bitCount_0f7a4_32 rfl ?_
  refine zj_topi (fun x3 ex3 => ?_)
  have hy := zlet_at ex3 hy
  refine zj_istore_n (pc' := 34) (L' := [(0, .int x3)]) dJ6_bitCount_0f7a4_33 rfl rfl (by decide) rfl ?_
  refine zj_iload_n (pc' := 35) 0 dJ6_bitCount_0f7a4_34 rfl rfl rfl ?_
  refine zj_iload_n (pc' := 36) 0 dJ6_bitCount_0f7a4_35 rfl rfl rfl ?_
  refine zj_bipush (pc' := 38) dJ6_bitCount_0f7a4_36 rfl kbipush_8 ?_
  refine zj_iushr (pc' := 39) dJ6_bitCount_0f7a4_38 rfl ?_
  refine zj_iadd (pc' := 40) dJ6_bitCount_0f7a4_39 rfl ?_
  refine zj_topi (fun x4 ex4 => ?_)
  have hy := zlet_at ex4 hy
  refine zj_istore_n (pc' := 41) (L' := [(0, .int x4)]) dJ6_bitCount_0f7a4_40 rfl rfl (by decide) rfl ?_
  refine zj_iload_n (pc' := 42) 0 dJ6_bitCount_0f7a4_41 rfl rfl rfl ?_
  refine zj_iload_n (pc' := 43) 0 dJ6_bitCount_0f7a4_42 rfl rfl rfl ?_
  refine zj_bipush (pc' := 45) dJ6_bitCount_0f7a4_43 rfl kbipush_16 ?_
  refine zj_iushr (pc' := 46) dJ6_bitCount_0f7a4_45 rfl ?_
  refine zj_iadd (pc' := 47) dJ6_bitCount_0f7a4_46 rfl ?_
  refine zj_topi (fun x5 ex5 => ?_)
  have hy := zlet_at ex5 hy
  refine zj_istore_n (pc' := 48) (L' := [(0, .int x5)]) dJ6_bitCount_0f7a4_47 rfl rfl (by decide) rfl ?_
  refine zj_iload_n (pc' := 49) 0 dJ6_bitCount_0f7a4_48 rfl rfl rfl ?_
  refine zj_bipush (pc' := 51) dJ6_bitCount_0f7a4_49 rfl kbipush_63 ?_
  refine zj_iand (pc' := 52) dJ6_bitCount_0f7a4_51 rfl ?_
  subst hy
  exact zj_iret dJ6_bitCount_0f7a4_52 rfl hq
set_option maxRecDepth 20000 in
theorem LJ6_bitCount_0f7a4 (Γ : zG) (M : zM)   (a1 : Int32) {res : Int32} (hy : (fJI_bitCount a1) = res) : zK Γ 1 YJ6_bitCount_0f7a4 [.int a1] M (fun v N => v = some (.int res) ∧ N = M) :=
  zK_of (by decide) (Nat.le_of_ble_eq_true rfl) (TJ6_bitCount_0f7a4 Γ M a1 hy ⟨rfl, rfl⟩)

noncomputable def fDy_whoIsRinged_L4 (r0_2 : Nat → Int32) (x1 : Int32) (x2 : Int32) : Option ((Int32 × Int32) ⊕ (Int32)) :=
  (if 6 ≤ x2 then
  some (.inr x1)
  else
  (fDy_ringOf r0_2 x2).bind (fun (y11 : Int32) =>
  zlet (x1 ||| y11) (fun (x12 : Int32) =>
  zlet (x2 + 1) (fun (x13 : Int32) =>
  some (.inl (x12, x13))))))
noncomputable def fDy_whoIsRinged (r0_2 : Nat → Int32) : Option (Int32) :=
  (zLP (fun s => fDy_whoIsRinged_L4 r0_2 s.1 s.2) (0, 0)).bind (fun r5 =>
  some r5)

set_option maxRecDepth 20000 in
theorem TX1_whoIsRinged_15 (Γ : zG) {Q : Option Value → zM → Prop} (M : zM) (r0_2 : Nat → Int32) (e_i18 : M.1 18 = r0_2)  {res : Int32} (hy : (fDy_whoIsRinged r0_2) = some res) (hq : Q (some (.int res)) M) : zR Γ 4 YX1_whoIsRinged 0 [(0, .ref (zad Γ 15))] [] M Q := by
  unfold fDy_whoIsRinged at hy
  refine zj_iconst (pc' := 1) dX1_whoIsRinged_0 rfl kiconst_0 ?_
  refine zj_istore_n (pc' := 2) (L' := [(1, .int 0), (0, .ref (zad Γ 15))]) dX1_whoIsRinged_1 rfl rfl (by decide) rfl ?_
  refine zj_iconst (pc' := 3) dX1_whoIsRinged_2 rfl kiconst_0 ?_
  refine zj_istore_n (pc' := 4) (L' := [(2, .int 0), (1, .int 0), (0, .ref (zad Γ 15))]) dX1_whoIsRinged_3 rfl rfl (by decide) rfl ?_
  refine zj_loc [2, 1, 0] rfl ?_
  obtain ⟨r5, hr9, hyo6⟩ := zt_b hy
  obtain ⟨n9, hn9⟩ := zLP_some hr9
  have HE3 : ∀ (x14 : Int32), r5 = x14 → zR Γ 4 YX1_whoIsRinged 24 [(1, .int x14)] [] M Q := by
    intro x14 e9
    have hy := hyo6
    try rw [e9] at hy
    try dsimp only at hy
    refine zj_iload_n (pc' := 25) 0 dX1_whoIsRinged_24 rfl rfl rfl ?_
    have e9 := Option.some.inj hy
    subst e9
    exact zj_iret dX1_whoIsRinged_25 rfl hq
  have HL4 : ∀ (n : Nat) (x1 : Int32) (x2 : Int32), zlp (fun s => fDy_whoIsRinged_L4 r0_2 s.1 s.2) n (x1, x2) = some r5 → zR Γ 4 YX1_whoIsRinged 4 [(0, .ref (zad Γ 15)), (1, .int x1), (2, .int x2)] [] M Q := by
    intro n
    induction n with
    | zero => intro x1 x2 hn9; cases hn9
    | succ n ih7 =>
      intro x1 x2 hn9
      obtain ⟨o9, hb9, h8, h9⟩ := zlp_step hn9
      have hy : fDy_whoIsRinged_L4 r0_2 x1 x2 = some o9 := hb9
      unfold fDy_whoIsRinged_L4 at hy
      refine zj_iload_n (pc' := 5) 2 dX1_whoIsRinged_4 rfl rfl rfl ?_
      refine zj_bipush (pc' := 7) dX1_whoIsRinged_5 rfl kbipush_6 ?_
      refine zj_icmp_ge (tgt := 24) (pc' := 10) dX1_whoIsRinged_7 rfl (by decide) (fun c10 => ?_) (fun c10 => ?_)
      · have hy := zt_t hy c10
        have e9 := h9 _ (Option.some.inj hy).symm
        refine zj_loc [1] rfl ?_
        exact HE3 _ e9.symm
      · have hy := zt_f hy c10
        refine zj_iload_n (pc' := 11) 1 dX1_whoIsRinged_10 rfl rfl rfl ?_
        refine zj_aload_n (pc' := 12) 0 dX1_whoIsRinged_11 rfl rfl rfl ?_
        refine zj_iload_n (pc' := 13) 2 dX1_whoIsRinged_12 rfl rfl rfl ?_
        obtain ⟨y11, hy11, hy⟩ := zt_b hy
        refine zj_V1 (pc' := 16) (z := YX1_ringOf) (As := [.int x2]) (N := M) dX1_whoIsRinged_13 rfl mlX1_76 lkX1_ringOf sh15 ⟨_, _, rfl⟩ rfl rfl (Nat.le_of_ble_eq_true rfl) (Nat.le_of_ble_eq_true rfl) (LX1_ringOf_15 Γ _ r0_2 e_i18 x2 hy11) rfl ?_
        refine zj_ior (pc' := 17) dX1_whoIsRinged_16 rfl ?_
        refine zj_topi (fun x12 ex12 => ?_)
        have hy := zlet_at ex12 hy
        refine zj_istore_n (pc' := 18) (L' := [(1, .int x12), (0, .ref (zad Γ 15)), (2, .int x2)]) dX1_whoIsRinged_17 rfl rfl (by decide) rfl ?_
        obtain ⟨x13, ex13⟩ : ∃ z : Int32, z = (x2 + 1) := ⟨_, rfl⟩
        have hy := zlet_at ex13 hy
        refine zj_iinc (pc' := 21) 2 (L' := [(2, .int x13), (1, .int x12), (0, .ref (zad Γ 15))]) dX1_whoIsRinged_18 rfl rfl (by decide) (by rw [ci1, ← ex13]; rfl) ?_
        refine zj_goto (tgt := 4) dX1_whoIsRinged_21 (by decide) ?_
        have hn9 := h8 _ (Option.some.inj hy).symm
        refine zj_loc [2, 1, 0] rfl ?_
        exact ih7 _ _ hn9
  exact HL4 n9 _ _ hn9
set_option maxRecDepth 20000 in
theorem LX1_whoIsRinged_15 (Γ : zG) (M : zM) (r0_2 : Nat → Int32) (e_i18 : M.1 18 = r0_2)  {res : Int32} (hy : (fDy_whoIsRinged r0_2) = some res) : zK Γ 4 YX1_whoIsRinged [.ref (zad Γ 15)] M (fun v N => v = some (.int res) ∧ N = M) :=
  zK_of (by decide) (Nat.le_of_ble_eq_true rfl) (TX1_whoIsRinged_15 Γ M r0_2 e_i18 hy ⟨rfl, rfl⟩)

noncomputable def fDy_whoHasWay_L4 (r0_5 : Nat → Int32) (x1 : Int32) (x2 : Int32) : Option ((Int32 × Int32) ⊕ (Int32)) :=
  (if 6 ≤ x2 then
  some (.inr x1)
  else
  (zrd r0_5 6 x2).bind (fun (v11 : Int32) =>
  (if v11 ≤ 0 then
  zlet (x2 + 1) (fun (x13 : Int32) =>
  some (.inl (x1, x13)))
  else
  zlet (x1 ||| ((1 : Int32) <<< (x2 &&& 31))) (fun (x14 : Int32) =>
  zlet (x2 + 1) (fun (x15 : Int32) =>
  some (.inl (x14, x15)))))))
noncomputable def fDy_whoHasWay (r0_5 : Nat → Int32) : Option (Int32) :=
  (zLP (fun s => fDy_whoHasWay_L4 r0_5 s.1 s.2) (0, 0)).bind (fun r5 =>
  some r5)

set_option maxRecDepth 20000 in
theorem TX1_whoHasWay_15 (Γ : zG) {Q : Option Value → zM → Prop} (M : zM) (r0_5 : Nat → Int32) (e_i21 : M.1 21 = r0_5)  {res : Int32} (hy : (fDy_whoHasWay r0_5) = some res) (hq : Q (some (.int res)) M) : zR Γ 1 YX1_whoHasWay 0 [(0, .ref (zad Γ 15))] [] M Q := by
  unfold fDy_whoHasWay at hy
  refine zj_iconst (pc' := 1) dX1_whoHasWay_0 rfl kiconst_0 ?_
  refine zj_istore_n (pc' := 2) (L' := [(1, .int 0), (0, .ref (zad Γ 15))]) dX1_whoHasWay_1 rfl rfl (by decide) rfl ?_
  refine zj_iconst (pc' := 3) dX1_whoHasWay_2 rfl kiconst_0 ?_
  refine zj_istore_n (pc' := 4) (L' := [(2, .int 0), (1, .int 0), (0, .ref (zad Γ 15))]) dX1_whoHasWay_3 rfl rfl (by decide) rfl ?_
  refine zj_loc [2, 1, 0] rfl ?_
  obtain ⟨r5, hr9, hyo6⟩ := zt_b hy
  obtain ⟨n9, hn9⟩ := zLP_some hr9
  have HE3 : ∀ (x16 : Int32), r5 = x16 → zR Γ 1 YX1_whoHasWay 31 [(1, .int x16)] [] M Q := by
    intro x16 e9
    have hy := hyo6
    try rw [e9] at hy
    try dsimp only at hy
    refine zj_iload_n (pc' := 32) 0 dX1_whoHasWay_31 rfl rfl rfl ?_
    have e9 := Option.some.inj hy
    subst e9
    exact zj_iret dX1_whoHasWay_32 rfl hq
  have HL4 : ∀ (n : Nat) (x1 : Int32) (x2 : Int32), zlp (fun s => fDy_whoHasWay_L4 r0_5 s.1 s.2) n (x1, x2) = some r5 → zR Γ 1 YX1_whoHasWay 4 [(0, .ref (zad Γ 15)), (1, .int x1), (2, .int x2)] [] M Q := by
    intro n
    induction n with
    | zero => intro x1 x2 hn9; cases hn9
    | succ n ih7 =>
      intro x1 x2 hn9
      obtain ⟨o9, hb9, h8, h9⟩ := zlp_step hn9
      have hy : fDy_whoHasWay_L4 r0_5 x1 x2 = some o9 := hb9
      unfold fDy_whoHasWay_L4 at hy
      refine zj_iload_n (pc' := 5) 2 dX1_whoHasWay_4 rfl rfl rfl ?_
      refine zj_bipush (pc' := 7) dX1_whoHasWay_5 rfl kbipush_6 ?_
      refine zj_icmp_ge (tgt := 31) (pc' := 10) dX1_whoHasWay_7 rfl (by decide) (fun c10 => ?_) (fun c10 => ?_)
      · have hy := zt_t hy c10
        have e9 := h9 _ (Option.some.inj hy).symm
        refine zj_loc [1] rfl ?_
        exact HE3 _ e9.symm
      · have hy := zt_f hy c10
        refine zj_aload_n (pc' := 11) 0 dX1_whoHasWay_10 rfl rfl rfl ?_
        refine zj_getR (pc' := 14) (j := 21) dX1_whoHasWay_11 rfl flX1_27 sh15 rfl ?_
        refine zj_iload_n (pc' := 15) 2 dX1_whoHasWay_14 rfl rfl rfl ?_
        obtain ⟨v11, hv11, hy⟩ := zt_b hy
        refine zj_rdi (pc' := 16) dX1_whoHasWay_15 rfl sh21 e_i21 hv11 ?_
        refine zj_if_le (tgt := 25) (pc' := 19) dX1_whoHasWay_16 rfl (by decide) (fun c12 => ?_) (fun c12 => ?_)
        · have hy := zt_t hy c12
          obtain ⟨x13, ex13⟩ : ∃ z : Int32, z = (x2 + 1) := ⟨_, rfl⟩
          have hy := zlet_at ex13 hy
          refine zj_iinc (pc' := 28) 2 (L' := [(2, .int x13), (0, .ref (zad Γ 15)), (1, .int x1)]) dX1_whoHasWay_25 rfl rfl (by decide) (by rw [ci1, ← ex13]; rfl) ?_
          refine zj_goto (tgt := 4) dX1_whoHasWay_28 (by decide) ?_
          have hn9 := h8 _ (Option.some.inj hy).symm
          refine zj_loc [1, 2, 0] rfl ?_
          exact ih7 _ _ hn9
        · have hy := zt_f hy c12
          refine zj_iload_n (pc' := 20) 1 dX1_whoHasWay_19 rfl rfl rfl ?_
          refine zj_iconst (pc' := 21) dX1_whoHasWay_20 rfl kiconst_1 ?_
          refine zj_iload_n (pc' := 22) 2 dX1_whoHasWay_21 rfl rfl rfl ?_
          refine zj_ishl (pc' := 23) dX1_whoHasWay_22 rfl ?_
          refine zj_ior (pc' := 24) dX1_whoHasWay_23 rfl ?_
          refine zj_topi (fun x14 ex14 => ?_)
          have hy := zlet_at ex14 hy
          refine zj_istore_n (pc' := 25) (L' := [(1, .int x14), (0, .ref (zad Γ 15)), (2, .int x2)]) dX1_whoHasWay_24 rfl rfl (by decide) rfl ?_
          obtain ⟨x15, ex15⟩ : ∃ z : Int32, z = (x2 + 1) := ⟨_, rfl⟩
          have hy := zlet_at ex15 hy
          refine zj_iinc (pc' := 28) 2 (L' := [(2, .int x15), (1, .int x14), (0, .ref (zad Γ 15))]) dX1_whoHasWay_25 rfl rfl (by decide) (by rw [ci1, ← ex15]; rfl) ?_
          refine zj_goto (tgt := 4) dX1_whoHasWay_28 (by decide) ?_
          have hn9 := h8 _ (Option.some.inj hy).symm
          refine zj_loc [2, 1, 0] rfl ?_
          exact ih7 _ _ hn9
  exact HL4 n9 _ _ hn9
set_option maxRecDepth 20000 in
theorem LX1_whoHasWay_15 (Γ : zG) (M : zM) (r0_5 : Nat → Int32) (e_i21 : M.1 21 = r0_5)  {res : Int32} (hy : (fDy_whoHasWay r0_5) = some res) : zK Γ 1 YX1_whoHasWay [.ref (zad Γ 15)] M (fun v N => v = some (.int res) ∧ N = M) :=
  zK_of (by decide) (Nat.le_of_ble_eq_true rfl) (TX1_whoHasWay_15 Γ M r0_5 e_i21 hy ⟨rfl, rfl⟩)

noncomputable def fDy_whoFollows_L4 (r0_2 : Nat → Int32) (x1 : Int32) (x2 : Int32) : Option ((Int32 × Int32) ⊕ (Int32)) :=
  (if 6 ≤ x2 then
  some (.inr x1)
  else
  (zrd r0_2 6 x2).bind (fun (v11 : Int32) =>
  (if v11 = (-1) then
  zlet (x2 + 1) (fun (x13 : Int32) =>
  some (.inl (x1, x13)))
  else
  zlet (x1 ||| ((1 : Int32) <<< (x2 &&& 31))) (fun (x14 : Int32) =>
  zlet (x2 + 1) (fun (x15 : Int32) =>
  some (.inl (x14, x15)))))))
noncomputable def fDy_whoFollows (r0_2 : Nat → Int32) : Option (Int32) :=
  (zLP (fun s => fDy_whoFollows_L4 r0_2 s.1 s.2) (0, 0)).bind (fun r5 =>
  some r5)

set_option maxRecDepth 20000 in
theorem TX1_whoFollows_15 (Γ : zG) {Q : Option Value → zM → Prop} (M : zM) (r0_2 : Nat → Int32) (e_i18 : M.1 18 = r0_2)  {res : Int32} (hy : (fDy_whoFollows r0_2) = some res) (hq : Q (some (.int res)) M) : zR Γ 1 YX1_whoFollows 0 [(0, .ref (zad Γ 15))] [] M Q := by
  unfold fDy_whoFollows at hy
  refine zj_iconst (pc' := 1) dX1_whoFollows_0 rfl kiconst_0 ?_
  refine zj_istore_n (pc' := 2) (L' := [(1, .int 0), (0, .ref (zad Γ 15))]) dX1_whoFollows_1 rfl rfl (by decide) rfl ?_
  refine zj_iconst (pc' := 3) dX1_whoFollows_2 rfl kiconst_0 ?_
  refine zj_istore_n (pc' := 4) (L' := [(2, .int 0), (1, .int 0), (0, .ref (zad Γ 15))]) dX1_whoFollows_3 rfl rfl (by decide) rfl ?_
  refine zj_loc [2, 1, 0] rfl ?_
  obtain ⟨r5, hr9, hyo6⟩ := zt_b hy
  obtain ⟨n9, hn9⟩ := zLP_some hr9
  have HE3 : ∀ (x16 : Int32), r5 = x16 → zR Γ 1 YX1_whoFollows 32 [(1, .int x16)] [] M Q := by
    intro x16 e9
    have hy := hyo6
    try rw [e9] at hy
    try dsimp only at hy
    refine zj_iload_n (pc' := 33) 0 dX1_whoFollows_32 rfl rfl rfl ?_
    have e9 := Option.some.inj hy
    subst e9
    exact zj_iret dX1_whoFollows_33 rfl hq
  have HL4 : ∀ (n : Nat) (x1 : Int32) (x2 : Int32), zlp (fun s => fDy_whoFollows_L4 r0_2 s.1 s.2) n (x1, x2) = some r5 → zR Γ 1 YX1_whoFollows 4 [(0, .ref (zad Γ 15)), (1, .int x1), (2, .int x2)] [] M Q := by
    intro n
    induction n with
    | zero => intro x1 x2 hn9; cases hn9
    | succ n ih7 =>
      intro x1 x2 hn9
      obtain ⟨o9, hb9, h8, h9⟩ := zlp_step hn9
      have hy : fDy_whoFollows_L4 r0_2 x1 x2 = some o9 := hb9
      unfold fDy_whoFollows_L4 at hy
      refine zj_iload_n (pc' := 5) 2 dX1_whoFollows_4 rfl rfl rfl ?_
      refine zj_bipush (pc' := 7) dX1_whoFollows_5 rfl kbipush_6 ?_
      refine zj_icmp_ge (tgt := 32) (pc' := 10) dX1_whoFollows_7 rfl (by decide) (fun c10 => ?_) (fun c10 => ?_)
      · have hy := zt_t hy c10
        have e9 := h9 _ (Option.some.inj hy).symm
        refine zj_loc [1] rfl ?_
        exact HE3 _ e9.symm
      · have hy := zt_f hy c10
        refine zj_aload_n (pc' := 11) 0 dX1_whoFollows_10 rfl rfl rfl ?_
        refine zj_getR (pc' := 14) (j := 18) dX1_whoFollows_11 rfl flX1_18 sh15 rfl ?_
        refine zj_iload_n (pc' := 15) 2 dX1_whoFollows_14 rfl rfl rfl ?_
        obtain ⟨v11, hv11, hy⟩ := zt_b hy
        refine zj_rdi (pc' := 16) dX1_whoFollows_15 rfl sh18 e_i18 hv11 ?_
        refine zj_iconst (pc' := 17) dX1_whoFollows_16 rfl kiconst_m1 ?_
        refine zj_icmp_eq (tgt := 26) (pc' := 20) dX1_whoFollows_17 rfl (by decide) (fun c12 => ?_) (fun c12 => ?_)
        · have hy := zt_t hy c12
          obtain ⟨x13, ex13⟩ : ∃ z : Int32, z = (x2 + 1) := ⟨_, rfl⟩
          have hy := zlet_at ex13 hy
          refine zj_iinc (pc' := 29) 2 (L' := [(2, .int x13), (0, .ref (zad Γ 15)), (1, .int x1)]) dX1_whoFollows_26 rfl rfl (by decide) (by rw [ci1, ← ex13]; rfl) ?_
          refine zj_goto (tgt := 4) dX1_whoFollows_29 (by decide) ?_
          have hn9 := h8 _ (Option.some.inj hy).symm
          refine zj_loc [1, 2, 0] rfl ?_
          exact ih7 _ _ hn9
        · have hy := zt_f hy c12
          refine zj_iload_n (pc' := 21) 1 dX1_whoFollows_20 rfl rfl rfl ?_
          refine zj_iconst (pc' := 22) dX1_whoFollows_21 rfl kiconst_1 ?_
          refine zj_iload_n (pc' := 23) 2 dX1_whoFollows_22 rfl rfl rfl ?_
          refine zj_ishl (pc' := 24) dX1_whoFollows_23 rfl ?_
          refine zj_ior (pc' := 25) dX1_whoFollows_24 rfl ?_
          refine zj_topi (fun x14 ex14 => ?_)
          have hy := zlet_at ex14 hy
          refine zj_istore_n (pc' := 26) (L' := [(1, .int x14), (0, .ref (zad Γ 15)), (2, .int x2)]) dX1_whoFollows_25 rfl rfl (by decide) rfl ?_
          obtain ⟨x15, ex15⟩ : ∃ z : Int32, z = (x2 + 1) := ⟨_, rfl⟩
          have hy := zlet_at ex15 hy
          refine zj_iinc (pc' := 29) 2 (L' := [(2, .int x15), (1, .int x14), (0, .ref (zad Γ 15))]) dX1_whoFollows_26 rfl rfl (by decide) (by rw [ci1, ← ex15]; rfl) ?_
          refine zj_goto (tgt := 4) dX1_whoFollows_29 (by decide) ?_
          have hn9 := h8 _ (Option.some.inj hy).symm
          refine zj_loc [2, 1, 0] rfl ?_
          exact ih7 _ _ hn9
  exact HL4 n9 _ _ hn9
set_option maxRecDepth 20000 in
theorem LX1_whoFollows_15 (Γ : zG) (M : zM) (r0_2 : Nat → Int32) (e_i18 : M.1 18 = r0_2)  {res : Int32} (hy : (fDy_whoFollows r0_2) = some res) : zK Γ 1 YX1_whoFollows [.ref (zad Γ 15)] M (fun v N => v = some (.int res) ∧ N = M) :=
  zK_of (by decide) (Nat.le_of_ble_eq_true rfl) (TX1_whoFollows_15 Γ M r0_2 e_i18 hy ⟨rfl, rfl⟩)

noncomputable def fDy_minuteNow (r0 : Nat → Int32) : Int32 :=
  (r0 9)

set_option maxRecDepth 20000 in
theorem TX1_minuteNow_15 (Γ : zG) {Q : Option Value → zM → Prop} (M : zM) (r0 : Nat → Int32) (e_i15 : M.1 15 = r0)  {res : Int32} (hy : (fDy_minuteNow r0) = res) (hq : Q (some (.int res)) M) : zR Γ 1 YX1_minuteNow 0 [(0, .ref (zad Γ 15))] [] M Q := by
  unfold fDy_minuteNow at hy
  refine zj_aload_n (pc' := 1) 0 dX1_minuteNow_0 rfl rfl rfl ?_
  refine zj_fI (pc' := 4) dX1_minuteNow_1 rfl flX1_45 sh15 rfl e_i15 rfl ?_
  subst hy
  exact zj_iret dX1_minuteNow_4 rfl hq
set_option maxRecDepth 20000 in
theorem LX1_minuteNow_15 (Γ : zG) (M : zM) (r0 : Nat → Int32) (e_i15 : M.1 15 = r0)  {res : Int32} (hy : (fDy_minuteNow r0) = res) : zK Γ 1 YX1_minuteNow [.ref (zad Γ 15)] M (fun v N => v = some (.int res) ∧ N = M) :=
  zK_of (by decide) (Nat.le_of_ble_eq_true rfl) (TX1_minuteNow_15 Γ M r0 e_i15 hy ⟨rfl, rfl⟩)

noncomputable def fX_now (r0_4 : Nat → Int32) (r0_4_2 : Nat → Int32) (r0_4_5 : Nat → Int32) (r0_4_7 : Nat → Int32) (a1 : Int32) : Option (Int32) :=
  (if a1 = 0 then
  some (fDy_minuteNow r0_4)
  else
  (if a1 = 1 then
  (fDy_whoFollows r0_4_2).bind (fun (y3 : Int32) =>
  some y3)
  else
  (if a1 = 2 then
  (fDy_whoHasWay r0_4_5).bind (fun (y5 : Int32) =>
  some y5)
  else
  (if a1 = 3 then
  (fDy_whoIsRinged r0_4_2).bind (fun (y7 : Int32) =>
  some y7)
  else
  (if a1 = 4 then
  (fDy_firstOfRings r0_4_2).bind (fun (y9 : Int32) =>
  some (fJI_bitCount y9))
  else
  (if a1 = 5 then
  (fDy_allPrints r0_4_7).bind (fun (y11 : Int32) =>
  some y11)
  else
  (if a1 = 6 then
  some (fDy_bunsFound r0_4)
  else
  some (-1))))))))

set_option maxRecDepth 20000 in
theorem TX11_now_0 (Γ : zG) {Q : Option Value → zM → Prop} (M : zM) (r0_4 : Nat → Int32) (r0_4_2 : Nat → Int32) (r0_4_5 : Nat → Int32) (r0_4_7 : Nat → Int32) (e_i15 : M.1 15 = r0_4) (e_i18 : M.1 18 = r0_4_2) (e_i21 : M.1 21 = r0_4_5) (e_i23 : M.1 23 = r0_4_7) (a1 : Int32) {res : Int32} (hy : (fX_now r0_4 r0_4_2 r0_4_5 r0_4_7 a1) = some res) (hq : Q (some (.int res)) M) : zR Γ 5 YX11_now 0 [(0, .ref (zad Γ 0)), (1, .int a1)] [] M Q := by
  unfold fX_now at hy
  refine zj_iload_n (pc' := 1) 1 dX11_now_0 rfl rfl rfl ?_
  rcases Decidable.em (a1 = 0) with c1 | c1
  · have hy := zt_t hy c1
    refine zj_tsIn (tgt := 44) (v := 0) dX11_now_1 c1 (by decide) (by decide) (off := 43) (by decide) (by decide) ?_
    refine zj_aload_n (pc' := 45) 0 dX11_now_44 rfl rfl rfl ?_
    refine zj_getR (pc' := 48) (j := 15) dX11_now_45 rfl flX11_38 sh0 rfl ?_
    refine zj_V1 (pc' := 51) (z := YX1_minuteNow) (As := []) (N := M) dX11_now_48 rfl mlX11_207 lkX1_minuteNow sh15 ⟨_, _, rfl⟩ rfl rfl (Nat.le_of_ble_eq_true rfl) (Nat.le_of_ble_eq_true rfl) (LX1_minuteNow_15 Γ _ r0_4 e_i15 rfl) rfl ?_
    have e9 := Option.some.inj hy
    subst e9
    exact zj_iret dX11_now_51 rfl hq
  · have hy := zt_f hy c1
    rcases Decidable.em (a1 = 1) with c2 | c2
    · have hy := zt_t hy c2
      refine zj_tsIn (tgt := 52) (v := 1) dX11_now_1 c2 (by decide) (by decide) (off := 51) (by decide) (by decide) ?_
      refine zj_aload_n (pc' := 53) 0 dX11_now_52 rfl rfl rfl ?_
      refine zj_getR (pc' := 56) (j := 15) dX11_now_53 rfl flX11_38 sh0 rfl ?_
      obtain ⟨y3, hy3, hy⟩ := zt_b hy
      refine zj_V1 (pc' := 59) (z := YX1_whoFollows) (As := []) (N := M) dX11_now_56 rfl mlX11_210 lkX1_whoFollows sh15 ⟨_, _, rfl⟩ rfl rfl (Nat.le_of_ble_eq_true rfl) (Nat.le_of_ble_eq_true rfl) (LX1_whoFollows_15 Γ _ r0_4_2 e_i18 hy3) rfl ?_
      have e9 := Option.some.inj hy
      subst e9
      exact zj_iret dX11_now_59 rfl hq
    · have hy := zt_f hy c2
      rcases Decidable.em (a1 = 2) with c4 | c4
      · have hy := zt_t hy c4
        refine zj_tsIn (tgt := 60) (v := 2) dX11_now_1 c4 (by decide) (by decide) (off := 59) (by decide) (by decide) ?_
        refine zj_aload_n (pc' := 61) 0 dX11_now_60 rfl rfl rfl ?_
        refine zj_getR (pc' := 64) (j := 15) dX11_now_61 rfl flX11_38 sh0 rfl ?_
        obtain ⟨y5, hy5, hy⟩ := zt_b hy
        refine zj_V1 (pc' := 67) (z := YX1_whoHasWay) (As := []) (N := M) dX11_now_64 rfl mlX11_213 lkX1_whoHasWay sh15 ⟨_, _, rfl⟩ rfl rfl (Nat.le_of_ble_eq_true rfl) (Nat.le_of_ble_eq_true rfl) (LX1_whoHasWay_15 Γ _ r0_4_5 e_i21 hy5) rfl ?_
        have e9 := Option.some.inj hy
        subst e9
        exact zj_iret dX11_now_67 rfl hq
      · have hy := zt_f hy c4
        rcases Decidable.em (a1 = 3) with c6 | c6
        · have hy := zt_t hy c6
          refine zj_tsIn (tgt := 68) (v := 3) dX11_now_1 c6 (by decide) (by decide) (off := 67) (by decide) (by decide) ?_
          refine zj_aload_n (pc' := 69) 0 dX11_now_68 rfl rfl rfl ?_
          refine zj_getR (pc' := 72) (j := 15) dX11_now_69 rfl flX11_38 sh0 rfl ?_
          obtain ⟨y7, hy7, hy⟩ := zt_b hy
          refine zj_V1 (pc' := 75) (z := YX1_whoIsRinged) (As := []) (N := M) dX11_now_72 rfl mlX11_216 lkX1_whoIsRinged sh15 ⟨_, _, rfl⟩ rfl rfl (Nat.le_of_ble_eq_true rfl) (Nat.le_of_ble_eq_true rfl) (LX1_whoIsRinged_15 Γ _ r0_4_2 e_i18 hy7) rfl ?_
          have e9 := Option.some.inj hy
          subst e9
          exact zj_iret dX11_now_75 rfl hq
        · have hy := zt_f hy c6
          rcases Decidable.em (a1 = 4) with c8 | c8
          · have hy := zt_t hy c8
            refine zj_tsIn (tgt := 76) (v := 4) dX11_now_1 c8 (by decide) (by decide) (off := 75) (by decide) (by decide) ?_
            refine zj_aload_n (pc' := 77) 0 dX11_now_76 rfl rfl rfl ?_
            refine zj_getR (pc' := 80) (j := 15) dX11_now_77 rfl flX11_38 sh0 rfl ?_
            obtain ⟨y9, hy9, hy⟩ := zt_b hy
            refine zj_V1 (pc' := 83) (z := YX1_firstOfRings) (As := []) (N := M) dX11_now_80 rfl mlX11_219 lkX1_firstOfRings sh15 ⟨_, _, rfl⟩ rfl rfl (Nat.le_of_ble_eq_true rfl) (Nat.le_of_ble_eq_true rfl) (LX1_firstOfRings_15 Γ _ r0_4_2 e_i18 hy9) rfl ?_
            refine zj_S1 (pc' := 86) (z := YJ6_bitCount_0f7a4) (As := [.int y9]) (N := M) dX11_now_83 rfl mlX11_222 lkJ6_bitCount_0f7a4 rfl rfl (Nat.le_of_ble_eq_true rfl) (Nat.le_of_ble_eq_true rfl) (LJ6_bitCount_0f7a4 Γ _ y9 rfl) rfl ?_
            have e9 := Option.some.inj hy
            subst e9
            exact zj_iret dX11_now_86 rfl hq
          · have hy := zt_f hy c8
            rcases Decidable.em (a1 = 5) with c10 | c10
            · have hy := zt_t hy c10
              refine zj_tsIn (tgt := 87) (v := 5) dX11_now_1 c10 (by decide) (by decide) (off := 86) (by decide) (by decide) ?_
              refine zj_aload_n (pc' := 88) 0 dX11_now_87 rfl rfl rfl ?_
              refine zj_getR (pc' := 91) (j := 15) dX11_now_88 rfl flX11_38 sh0 rfl ?_
              obtain ⟨y11, hy11, hy⟩ := zt_b hy
              refine zj_V1 (pc' := 94) (z := YX1_allPrints) (As := []) (N := M) dX11_now_91 rfl mlX11_227 lkX1_allPrints sh15 ⟨_, _, rfl⟩ rfl rfl (Nat.le_of_ble_eq_true rfl) (Nat.le_of_ble_eq_true rfl) (LX1_allPrints_15 Γ _ r0_4_7 e_i23 hy11) rfl ?_
              have e9 := Option.some.inj hy
              subst e9
              exact zj_iret dX11_now_94 rfl hq
            · have hy := zt_f hy c10
              rcases Decidable.em (a1 = 6) with c12 | c12
              · have hy := zt_t hy c12
                refine zj_tsIn (tgt := 95) (v := 6) dX11_now_1 c12 (by decide) (by decide) (off := 94) (by decide) (by decide) ?_
                refine zj_aload_n (pc' := 96) 0 dX11_now_95 rfl rfl rfl ?_
                refine zj_getR (pc' := 99) (j := 15) dX11_now_96 rfl flX11_38 sh0 rfl ?_
                refine zj_V1 (pc' := 102) (z := YX1_bunsFound) (As := []) (N := M) dX11_now_99 rfl mlX11_230 lkX1_bunsFound sh15 ⟨_, _, rfl⟩ rfl rfl (Nat.le_of_ble_eq_true rfl) (Nat.le_of_ble_eq_true rfl) (LX1_bunsFound_15 Γ _ r0_4 e_i15 rfl) rfl ?_
                have e9 := Option.some.inj hy
                subst e9
                exact zj_iret dX11_now_102 rfl hq
              · have hy := zt_f hy c12
                refine zj_tsOut (tgt := 103) dX11_now_1 (by have q0 := zne (k := 0) c1 (by decide); have q1 := zne (k := 1) c2 (by decide); have q2 := zne (k := 2) c4 (by decide); have q3 := zne (k := 3) c6 (by decide); have q4 := zne (k := 4) c8 (by decide); have q5 := zne (k := 5) c10 (by decide); have q6 := zne (k := 6) c12 (by decide); omega) (by decide) ?_
                refine zj_iconst (pc' := 104) dX11_now_103 rfl kiconst_m1 ?_
                have e9 := Option.some.inj hy
                subst e9
                exact zj_iret dX11_now_104 rfl hq
set_option maxRecDepth 20000 in
theorem LX11_now_0 (Γ : zG) (M : zM) (r0_4 : Nat → Int32) (r0_4_2 : Nat → Int32) (r0_4_5 : Nat → Int32) (r0_4_7 : Nat → Int32) (e_i15 : M.1 15 = r0_4) (e_i18 : M.1 18 = r0_4_2) (e_i21 : M.1 21 = r0_4_5) (e_i23 : M.1 23 = r0_4_7) (a1 : Int32) {res : Int32} (hy : (fX_now r0_4 r0_4_2 r0_4_5 r0_4_7 a1) = some res) : zK Γ 5 YX11_now [.ref (zad Γ 0), .int a1] M (fun v N => v = some (.int res) ∧ N = M) :=
  zK_of (by decide) (Nat.le_of_ble_eq_true rfl) (TX11_now_0 Γ M r0_4 r0_4_2 r0_4_5 r0_4_7 e_i15 e_i18 e_i21 e_i23 a1 hy ⟨rfl, rfl⟩)

noncomputable def fM_ringOf_L10 (r0_6 : Nat → Int32) (x3 : Int32) (x4 : Int32) : Option ((Int32 × Int32) ⊕ (Int32 × Int32)) :=
  (if x4 < 0 then
  some (.inr (x3, x4))
  else
  (if (fM_bitOf x3 x4) = true then
  some (.inr (x3, x4))
  else
  zlet (x3 ||| ((1 : Int32) <<< (x4 &&& 31))) (fun (x14 : Int32) =>
  (fM_whomBy r0_6 x4).bind (fun (y15 : Int32) =>
  some (.inl (x14, y15))))))
noncomputable def fM_ringOf (r0_6 : Nat → Int32) (a1 : Int32) : Option (Int32) :=
  zlet ((1 : Int32) <<< (a1 &&& 31)) (fun (x1 : Int32) =>
  (fM_whomBy r0_6 a1).bind (fun (y2 : Int32) =>
  (zLP (fun s => fM_ringOf_L10 r0_6 s.1 s.2) (x1, y2)).bind (fun r7 =>
  some (if r7.2 = a1 then r7.1 else (0 : Int32)))))

set_option maxRecDepth 20000 in
theorem TX12_ringOf_186 (Γ : zG) {Q : Option Value → zM → Prop} (M : zM) (r0_6 : Nat → Int32) (e_i188 : M.1 188 = r0_6) (a1 : Int32) {res : Int32} (hy : (fM_ringOf r0_6 a1) = some res) (hq : Q (some (.int res)) M) : zR Γ 2 YX12_ringOf 0 [(0, .ref (zad Γ 186)), (1, .int a1)] [] M Q := by
  unfold fM_ringOf at hy
  refine zj_iconst (pc' := 1) dX12_ringOf_0 rfl kiconst_1 ?_
  refine zj_iload_n (pc' := 2) 1 dX12_ringOf_1 rfl rfl rfl ?_
  refine zj_ishl (pc' := 3) dX12_ringOf_2 rfl ?_
  refine zj_topi (fun x1 ex1 => ?_)
  have hy := zlet_at ex1 hy
  refine zj_istore_n (pc' := 4) (L' := [(2, .int x1), (0, .ref (zad Γ 186)), (1, .int a1)]) dX12_ringOf_3 rfl rfl (by decide) rfl ?_
  refine zj_aload_n (pc' := 5) 1 dX12_ringOf_4 rfl rfl rfl ?_
  refine zj_iload_n (pc' := 6) 2 dX12_ringOf_5 rfl rfl rfl ?_
  obtain ⟨y2, hy2, hy⟩ := zt_b hy
  refine zj_V1 (pc' := 9) (z := YX12_whomBy) (As := [.int a1]) (N := M) dX12_ringOf_6 rfl mlX12_266 lkX12_whomBy sh186 ⟨_, _, rfl⟩ rfl rfl (Nat.le_of_ble_eq_true rfl) (Nat.le_of_ble_eq_true rfl) (LX12_whomBy_186 Γ _ r0_6 e_i188 a1 hy2) rfl ?_
  refine zj_istore_n (pc' := 10) (L' := [(3, .int y2), (2, .int x1), (0, .ref (zad Γ 186)), (1, .int a1)]) dX12_ringOf_9 rfl rfl (by decide) rfl ?_
  refine zj_loc [2, 3, 1, 0] rfl ?_
  obtain ⟨r7, hr9, hyo8⟩ := zt_b hy
  obtain ⟨n9, hn9⟩ := zLP_some hr9
  have HE5 : ∀ (x16 : Int32) (x17 : Int32), r7 = (x16, x17) → zR Γ 2 YX12_ringOf 37 [(1, .int a1), (2, .int x16), (3, .int x17)] [] M Q := by
    intro x16 x17 e9
    have hy := hyo8
    try rw [e9] at hy
    try dsimp only at hy
    refine zj_iload_n (pc' := 38) 2 dX12_ringOf_37 rfl rfl rfl ?_
    refine zj_iload_n (pc' := 39) 0 dX12_ringOf_38 rfl rfl rfl ?_
    have HJ18 : zR Γ 2 YX12_ringOf 47 [(1, .int a1), (2, .int x16), (3, .int x17)] [.int (if x17 = a1 then x16 else (0 : Int32))] M Q := by
      have e9 := Option.some.inj hy
      subst e9
      exact zj_iret dX12_ringOf_47 rfl hq
    refine zj_icmp_ne (tgt := 46) (pc' := 42) dX12_ringOf_39 rfl (by decide) (fun c19 => ?_) (fun c19 => ?_)
    · refine zj_iconst (pc' := 47) dX12_ringOf_46 rfl kiconst_0 ?_
      exact zj_eqi (if_neg c19) HJ18
    · refine zj_iload_n (pc' := 43) 1 dX12_ringOf_42 rfl rfl rfl ?_
      refine zj_goto (tgt := 47) dX12_ringOf_43 (by decide) ?_
      exact zj_eqi (if_pos c19) HJ18
  have HL6 : ∀ (n : Nat) (x3 : Int32) (x4 : Int32), zlp (fun s => fM_ringOf_L10 r0_6 s.1 s.2) n (x3, x4) = some r7 → zR Γ 2 YX12_ringOf 10 [(0, .ref (zad Γ 186)), (1, .int a1), (2, .int x3), (3, .int x4)] [] M Q := by
    intro n
    induction n with
    | zero => intro x3 x4 hn9; cases hn9
    | succ n ih9 =>
      intro x3 x4 hn9
      obtain ⟨o9, hb9, h10, h11⟩ := zlp_step hn9
      have hy : fM_ringOf_L10 r0_6 x3 x4 = some o9 := hb9
      unfold fM_ringOf_L10 at hy
      refine zj_iload_n (pc' := 11) 3 dX12_ringOf_10 rfl rfl rfl ?_
      refine zj_if_lt (tgt := 37) (pc' := 14) dX12_ringOf_11 rfl (by decide) (fun c12 => ?_) (fun c12 => ?_)
      · have hy := zt_t hy c12
        have e9 := h11 _ (Option.some.inj hy).symm
        refine zj_loc [1, 2, 3] rfl ?_
        exact HE5 _ _ e9.symm
      · have hy := zt_f hy c12
        refine zj_iload_n (pc' := 15) 2 dX12_ringOf_14 rfl rfl rfl ?_
        refine zj_iload_n (pc' := 16) 3 dX12_ringOf_15 rfl rfl rfl ?_
        refine zj_S1 (pc' := 19) (z := YX12_bitOf) (As := [.int x3, .int x4]) (N := M) dX12_ringOf_16 rfl mlX12_235 lkX12_bitOf rfl rfl (Nat.le_of_ble_eq_true rfl) (Nat.le_of_ble_eq_true rfl) (LX12_bitOf Γ _ x3 x4 rfl) rfl ?_
        refine zj_bif_ne (tgt := 37) (pc' := 22) dX12_ringOf_19 rfl (by decide) (fun c13 => ?_) (fun c13 => ?_)
        · have hy := zt_t hy c13
          have e9 := h11 _ (Option.some.inj hy).symm
          refine zj_loc [1, 2, 3] rfl ?_
          exact HE5 _ _ e9.symm
        · have hy := zt_f hy c13
          refine zj_iload_n (pc' := 23) 2 dX12_ringOf_22 rfl rfl rfl ?_
          refine zj_iconst (pc' := 24) dX12_ringOf_23 rfl kiconst_1 ?_
          refine zj_iload_n (pc' := 25) 3 dX12_ringOf_24 rfl rfl rfl ?_
          refine zj_ishl (pc' := 26) dX12_ringOf_25 rfl ?_
          refine zj_ior (pc' := 27) dX12_ringOf_26 rfl ?_
          refine zj_topi (fun x14 ex14 => ?_)
          have hy := zlet_at ex14 hy
          refine zj_istore_n (pc' := 28) (L' := [(2, .int x14), (0, .ref (zad Γ 186)), (1, .int a1), (3, .int x4)]) dX12_ringOf_27 rfl rfl (by decide) rfl ?_
          refine zj_aload_n (pc' := 29) 1 dX12_ringOf_28 rfl rfl rfl ?_
          refine zj_iload_n (pc' := 30) 3 dX12_ringOf_29 rfl rfl rfl ?_
          obtain ⟨y15, hy15, hy⟩ := zt_b hy
          refine zj_V1 (pc' := 33) (z := YX12_whomBy) (As := [.int x4]) (N := M) dX12_ringOf_30 rfl mlX12_266 lkX12_whomBy sh186 ⟨_, _, rfl⟩ rfl rfl (Nat.le_of_ble_eq_true rfl) (Nat.le_of_ble_eq_true rfl) (LX12_whomBy_186 Γ _ r0_6 e_i188 x4 hy15) rfl ?_
          refine zj_istore_n (pc' := 34) (L' := [(3, .int y15), (2, .int x14), (0, .ref (zad Γ 186)), (1, .int a1)]) dX12_ringOf_33 rfl rfl (by decide) rfl ?_
          refine zj_goto (tgt := 10) dX12_ringOf_34 (by decide) ?_
          have hn9 := h10 _ (Option.some.inj hy).symm
          refine zj_loc [2, 3, 1, 0] rfl ?_
          exact ih9 _ _ hn9
  exact HL6 n9 _ _ hn9
set_option maxRecDepth 20000 in
theorem LX12_ringOf_186 (Γ : zG) (M : zM) (r0_6 : Nat → Int32) (e_i188 : M.1 188 = r0_6) (a1 : Int32) {res : Int32} (hy : (fM_ringOf r0_6 a1) = some res) : zK Γ 2 YX12_ringOf [.ref (zad Γ 186), .int a1] M (fun v N => v = some (.int res) ∧ N = M) :=
  zK_of (by decide) (Nat.le_of_ble_eq_true rfl) (TX12_ringOf_186 Γ M r0_6 e_i188 a1 hy ⟨rfl, rfl⟩)

noncomputable def fM_printsInAll_L4 (r0_6 : Nat → Int32) (x1 : Int32) (x2 : Int32) : Option ((Int32 × Int32) ⊕ (Int32)) :=
  (if 8 ≤ x2 then
  some (.inr x1)
  else
  (zrd r0_6 397 (207 + x2)).bind (fun (v11 : Int32) =>
  zlet (x1 + v11) (fun (x12 : Int32) =>
  zlet (x2 + 1) (fun (x13 : Int32) =>
  some (.inl (x12, x13))))))
noncomputable def fM_printsInAll (r0_6 : Nat → Int32) : Option (Int32) :=
  (zLP (fun s => fM_printsInAll_L4 r0_6 s.1 s.2) (0, 0)).bind (fun r5 =>
  some r5)

set_option maxRecDepth 20000 in
theorem TX12_printsInAll_186 (Γ : zG) {Q : Option Value → zM → Prop} (M : zM) (r0_6 : Nat → Int32) (e_i188 : M.1 188 = r0_6)  {res : Int32} (hy : (fM_printsInAll r0_6) = some res) (hq : Q (some (.int res)) M) : zR Γ 1 YX12_printsInAll 0 [(0, .ref (zad Γ 186))] [] M Q := by
  unfold fM_printsInAll at hy
  refine zj_iconst (pc' := 1) dX12_printsInAll_0 rfl kiconst_0 ?_
  refine zj_istore_n (pc' := 2) (L' := [(1, .int 0), (0, .ref (zad Γ 186))]) dX12_printsInAll_1 rfl rfl (by decide) rfl ?_
  refine zj_iconst (pc' := 3) dX12_printsInAll_2 rfl kiconst_0 ?_
  refine zj_istore_n (pc' := 4) (L' := [(2, .int 0), (1, .int 0), (0, .ref (zad Γ 186))]) dX12_printsInAll_3 rfl rfl (by decide) rfl ?_
  refine zj_loc [2, 1, 0] rfl ?_
  obtain ⟨r5, hr9, hyo6⟩ := zt_b hy
  obtain ⟨n9, hn9⟩ := zLP_some hr9
  have HE3 : ∀ (x14 : Int32), r5 = x14 → zR Γ 1 YX12_printsInAll 29 [(1, .int x14)] [] M Q := by
    intro x14 e9
    have hy := hyo6
    try rw [e9] at hy
    try dsimp only at hy
    refine zj_iload_n (pc' := 30) 0 dX12_printsInAll_29 rfl rfl rfl ?_
    have e9 := Option.some.inj hy
    subst e9
    exact zj_iret dX12_printsInAll_30 rfl hq
  have HL4 : ∀ (n : Nat) (x1 : Int32) (x2 : Int32), zlp (fun s => fM_printsInAll_L4 r0_6 s.1 s.2) n (x1, x2) = some r5 → zR Γ 1 YX12_printsInAll 4 [(0, .ref (zad Γ 186)), (1, .int x1), (2, .int x2)] [] M Q := by
    intro n
    induction n with
    | zero => intro x1 x2 hn9; cases hn9
    | succ n ih7 =>
      intro x1 x2 hn9
      obtain ⟨o9, hb9, h8, h9⟩ := zlp_step hn9
      have hy : fM_printsInAll_L4 r0_6 x1 x2 = some o9 := hb9
      unfold fM_printsInAll_L4 at hy
      refine zj_iload_n (pc' := 5) 2 dX12_printsInAll_4 rfl rfl rfl ?_
      refine zj_bipush (pc' := 7) dX12_printsInAll_5 rfl kbipush_8 ?_
      refine zj_icmp_ge (tgt := 29) (pc' := 10) dX12_printsInAll_7 rfl (by decide) (fun c10 => ?_) (fun c10 => ?_)
      · have hy := zt_t hy c10
        have e9 := h9 _ (Option.some.inj hy).symm
        refine zj_loc [1] rfl ?_
        exact HE3 _ e9.symm
      · have hy := zt_f hy c10
        refine zj_iload_n (pc' := 11) 1 dX12_printsInAll_10 rfl rfl rfl ?_
        refine zj_aload_n (pc' := 12) 0 dX12_printsInAll_11 rfl rfl rfl ?_
        refine zj_getR (pc' := 15) (j := 188) dX12_printsInAll_12 rfl flX12_33 sh186 rfl ?_
        refine zj_sipush (pc' := 18) dX12_printsInAll_15 rfl ksipush_207 ?_
        refine zj_iload_n (pc' := 19) 2 dX12_printsInAll_18 rfl rfl rfl ?_
        refine zj_iadd (pc' := 20) dX12_printsInAll_19 rfl ?_
        obtain ⟨v11, hv11, hy⟩ := zt_b hy
        refine zj_rdi (pc' := 21) dX12_printsInAll_20 rfl sh188 e_i188 hv11 ?_
        refine zj_iadd (pc' := 22) dX12_printsInAll_21 rfl ?_
        refine zj_topi (fun x12 ex12 => ?_)
        have hy := zlet_at ex12 hy
        refine zj_istore_n (pc' := 23) (L' := [(1, .int x12), (0, .ref (zad Γ 186)), (2, .int x2)]) dX12_printsInAll_22 rfl rfl (by decide) rfl ?_
        obtain ⟨x13, ex13⟩ : ∃ z : Int32, z = (x2 + 1) := ⟨_, rfl⟩
        have hy := zlet_at ex13 hy
        refine zj_iinc (pc' := 26) 2 (L' := [(2, .int x13), (1, .int x12), (0, .ref (zad Γ 186))]) dX12_printsInAll_23 rfl rfl (by decide) (by rw [ci1, ← ex13]; rfl) ?_
        refine zj_goto (tgt := 4) dX12_printsInAll_26 (by decide) ?_
        have hn9 := h8 _ (Option.some.inj hy).symm
        refine zj_loc [2, 1, 0] rfl ?_
        exact ih7 _ _ hn9
  exact HL4 n9 _ _ hn9
set_option maxRecDepth 20000 in
theorem LX12_printsInAll_186 (Γ : zG) (M : zM) (r0_6 : Nat → Int32) (e_i188 : M.1 188 = r0_6)  {res : Int32} (hy : (fM_printsInAll r0_6) = some res) : zK Γ 1 YX12_printsInAll [.ref (zad Γ 186)] M (fun v N => v = some (.int res) ∧ N = M) :=
  zK_of (by decide) (Nat.le_of_ble_eq_true rfl) (TX12_printsInAll_186 Γ M r0_6 e_i188 hy ⟨rfl, rfl⟩)

noncomputable def fM_now_L18 (r0_6 : Nat → Int32) (x2 : Int32) (x3 : Int32) (x4 : Int32) (x5 : Int32) (x6 : Int32) : Option ((Int32 × Int32 × Int32 × Int32 × Int32) ⊕ (Int32 × Int32 × Int32 × Int32)) :=
  (if (r0_6 2) ≤ x6 then
  some (.inr (x2, x3, x4, x5))
  else
  (fM_ringOf r0_6 x6).bind (fun (y15 : Int32) =>
  (zrd r0_6 397 (133 + x6)).bind (fun (v16 : Int32) =>
  zlet (x2 ||| (if v16 ≤ 0 then (0 : Int32) else ((1 : Int32) <<< (x6 &&& 31)))) (fun (x19 : Int32) =>
  (zrd r0_6 397 (145 + x6)).bind (fun (v20 : Int32) =>
  zlet (x3 ||| (if v20 ≤ 0 then (0 : Int32) else ((1 : Int32) <<< (x6 &&& 31)))) (fun (x23 : Int32) =>
  zlet (x4 ||| y15) (fun (x24 : Int32) =>
  zlet (x5 + (zb (if y15 ≤ 0 then false else (if ((y15 >>> (x6 &&& 31)) <<< (x6 &&& 31)) = y15 then true else false)))) (fun (x28 : Int32) =>
  zlet (x6 + 1) (fun (x29 : Int32) =>
  some (.inl (x19, x23, x24, x28, x29)))))))))))
noncomputable def fM_now (r0 : Nat → Int32) (r0_6 : Nat → Int32) (a1 : Int32) : Option (Int32 × (Nat → Int32)) :=
  zlet (zup r0 0 0) (fun (r0v1 : Nat → Int32) =>
  (zLP (fun s => fM_now_L18 r0_6 s.1 s.2.1 s.2.2.1 s.2.2.2.1 s.2.2.2.2) (0, 0, 0, 0, 0)).bind (fun r9 =>
  (if a1 = 0 then
  some ((r0_6 89), r0v1)
  else
  (if a1 = 1 then
  some (r9.1, r0v1)
  else
  (if a1 = 2 then
  some (r9.2.1, r0v1)
  else
  (if a1 = 3 then
  some (r9.2.2.1, r0v1)
  else
  (if a1 = 4 then
  some (r9.2.2.2, r0v1)
  else
  (if a1 = 5 then
  (fM_printsInAll r0_6).bind (fun (y40 : Int32) =>
  some (y40, r0v1))
  else
  (if a1 = 6 then
  some ((r0_6 90), r0v1)
  else
  some ((-1), r0v1))))))))))

set_option maxRecDepth 20000 in
theorem TX12_now_186 (Γ : zG) {Q : Option Value → zM → Prop} (M : zM) (r0 : Nat → Int32) (r0_6 : Nat → Int32) (e_i186 : M.1 186 = r0) (e_i188 : M.1 188 = r0_6) (a1 : Int32) {res : Int32 × (Nat → Int32)} (hy : (fM_now r0 r0_6 a1) = some res) (hq : Q (some (.int res.1)) (zui M 186 res.2)) : zR Γ 3 YX12_now 0 [(0, .ref (zad Γ 186)), (1, .int a1)] [] M Q := by
  unfold fM_now at hy
  refine zj_aload_n (pc' := 1) 0 dX12_now_0 rfl rfl rfl ?_
  refine zj_iconst (pc' := 2) dX12_now_1 rfl kiconst_0 ?_
  obtain ⟨r0v1, er0v1⟩ : ∃ z, z = (zup r0 0 0) := ⟨_, rfl⟩
  have hy := zlet_at er0v1 hy
  refine zj_pI (pc' := 5) (N := (zui M 186 r0v1)) dX12_now_2 rfl fpX12_1 sh186 rfl e_i186 er0v1 rfl ?_
  refine zj_iconst (pc' := 6) dX12_now_5 rfl kiconst_0 ?_
  refine zj_istore_n (pc' := 7) (L' := [(2, .int 0), (0, .ref (zad Γ 186)), (1, .int a1)]) dX12_now_6 rfl rfl (by decide) rfl ?_
  refine zj_iconst (pc' := 8) dX12_now_7 rfl kiconst_0 ?_
  refine zj_istore_n (pc' := 9) (L' := [(3, .int 0), (2, .int 0), (0, .ref (zad Γ 186)), (1, .int a1)]) dX12_now_8 rfl rfl (by decide) rfl ?_
  refine zj_iconst (pc' := 10) dX12_now_9 rfl kiconst_0 ?_
  refine zj_istore (pc' := 12) (L' := [(4, .int 0), (3, .int 0), (2, .int 0), (0, .ref (zad Γ 186)), (1, .int a1)]) dX12_now_10 rfl (by decide) rfl ?_
  refine zj_iconst (pc' := 13) dX12_now_12 rfl kiconst_0 ?_
  refine zj_istore (pc' := 15) (L' := [(5, .int 0), (4, .int 0), (3, .int 0), (2, .int 0), (0, .ref (zad Γ 186)), (1, .int a1)]) dX12_now_13 rfl (by decide) rfl ?_
  refine zj_iconst (pc' := 16) dX12_now_15 rfl kiconst_0 ?_
  refine zj_istore (pc' := 18) (L' := [(6, .int 0), (5, .int 0), (4, .int 0), (3, .int 0), (2, .int 0), (0, .ref (zad Γ 186)), (1, .int a1)]) dX12_now_16 rfl (by decide) rfl ?_
  refine zj_loc [5, 6, 4, 3, 2, 1, 0] rfl ?_
  obtain ⟨r9, hr9, hyo10⟩ := zt_b hy
  obtain ⟨n9, hn9⟩ := zLP_some hr9
  have HE7 : ∀ (x30 : Int32) (x31 : Int32) (x32 : Int32) (x33 : Int32), r9 = (x30, x31, x32, x33) → zR Γ 3 YX12_now 128 [(0, .ref (zad Γ 186)), (1, .int a1), (2, .int x30), (3, .int x31), (4, .int x32), (5, .int x33)] [] (zui M 186 r0v1) Q := by
    intro x30 x31 x32 x33 e9
    have hy := hyo10
    try rw [e9] at hy
    try dsimp only at hy
    refine zj_iload_n (pc' := 129) 1 dX12_now_128 rfl rfl rfl ?_
    rcases Decidable.em (a1 = 0) with c34 | c34
    · have hy := zt_t hy c34
      refine zj_tsIn (tgt := 172) (v := 0) dX12_now_129 c34 (by decide) (by decide) (off := 43) (by decide) (by decide) ?_
      refine zj_aload_n (pc' := 173) 0 dX12_now_172 rfl rfl rfl ?_
      refine zj_getR (pc' := 176) (j := 188) dX12_now_173 rfl flX12_33 sh186 rfl ?_
      refine zj_bipush (pc' := 178) dX12_now_176 rfl kbipush_89 ?_
      refine zj_rdi (pc' := 179) dX12_now_178 rfl sh188 (zr_n rfl e_i188) (zrdK zi89_397 tn89) ?_
      have e9 := Option.some.inj hy
      subst e9
      exact zj_iret dX12_now_179 rfl hq
    · have hy := zt_f hy c34
      rcases Decidable.em (a1 = 1) with c35 | c35
      · have hy := zt_t hy c35
        refine zj_tsIn (tgt := 180) (v := 1) dX12_now_129 c35 (by decide) (by decide) (off := 51) (by decide) (by decide) ?_
        refine zj_iload_n (pc' := 181) 2 dX12_now_180 rfl rfl rfl ?_
        have e9 := Option.some.inj hy
        subst e9
        exact zj_iret dX12_now_181 rfl hq
      · have hy := zt_f hy c35
        rcases Decidable.em (a1 = 2) with c36 | c36
        · have hy := zt_t hy c36
          refine zj_tsIn (tgt := 182) (v := 2) dX12_now_129 c36 (by decide) (by decide) (off := 53) (by decide) (by decide) ?_
          refine zj_iload_n (pc' := 183) 3 dX12_now_182 rfl rfl rfl ?_
          have e9 := Option.some.inj hy
          subst e9
          exact zj_iret dX12_now_183 rfl hq
        · have hy := zt_f hy c36
          rcases Decidable.em (a1 = 3) with c37 | c37
          · have hy := zt_t hy c37
            refine zj_tsIn (tgt := 184) (v := 3) dX12_now_129 c37 (by decide) (by decide) (off := 55) (by decide) (by decide) ?_
            refine zj_iload (pc' := 186) 4 dX12_now_184 rfl rfl ?_
            have e9 := Option.some.inj hy
            subst e9
            exact zj_iret dX12_now_186 rfl hq
          · have hy := zt_f hy c37
            rcases Decidable.em (a1 = 4) with c38 | c38
            · have hy := zt_t hy c38
              refine zj_tsIn (tgt := 187) (v := 4) dX12_now_129 c38 (by decide) (by decide) (off := 58) (by decide) (by decide) ?_
              refine zj_iload (pc' := 189) 5 dX12_now_187 rfl rfl ?_
              have e9 := Option.some.inj hy
              subst e9
              exact zj_iret dX12_now_189 rfl hq
            · have hy := zt_f hy c38
              rcases Decidable.em (a1 = 5) with c39 | c39
              · have hy := zt_t hy c39
                refine zj_tsIn (tgt := 190) (v := 5) dX12_now_129 c39 (by decide) (by decide) (off := 61) (by decide) (by decide) ?_
                refine zj_aload_n (pc' := 191) 0 dX12_now_190 rfl rfl rfl ?_
                obtain ⟨y40, hy40, hy⟩ := zt_b hy
                refine zj_V1 (pc' := 194) (z := YX12_printsInAll) (As := []) (N := (zui M 186 r0v1)) dX12_now_191 rfl mlX12_289 lkX12_printsInAll sh186 ⟨_, _, rfl⟩ rfl rfl (Nat.le_of_ble_eq_true rfl) (Nat.le_of_ble_eq_true rfl) (LX12_printsInAll_186 Γ _ r0_6 (zr_n rfl e_i188) hy40) rfl ?_
                have e9 := Option.some.inj hy
                subst e9
                exact zj_iret dX12_now_194 rfl hq
              · have hy := zt_f hy c39
                rcases Decidable.em (a1 = 6) with c41 | c41
                · have hy := zt_t hy c41
                  refine zj_tsIn (tgt := 195) (v := 6) dX12_now_129 c41 (by decide) (by decide) (off := 66) (by decide) (by decide) ?_
                  refine zj_aload_n (pc' := 196) 0 dX12_now_195 rfl rfl rfl ?_
                  refine zj_getR (pc' := 199) (j := 188) dX12_now_196 rfl flX12_33 sh186 rfl ?_
                  refine zj_bipush (pc' := 201) dX12_now_199 rfl kbipush_90 ?_
                  refine zj_rdi (pc' := 202) dX12_now_201 rfl sh188 (zr_n rfl e_i188) (zrdK zi90_397 tn90) ?_
                  have e9 := Option.some.inj hy
                  subst e9
                  exact zj_iret dX12_now_202 rfl hq
                · have hy := zt_f hy c41
                  refine zj_tsOut (tgt := 203) dX12_now_129 (by have q0 := zne (k := 0) c34 (by decide); have q1 := zne (k := 1) c35 (by decide); have q2 := zne (k := 2) c36 (by decide); have q3 := zne (k := 3) c37 (by decide); have q4 := zne (k := 4) c38 (by decide); have q5 := zne (k := 5) c39 (by decide); have q6 := zne (k := 6) c41 (by decide); omega) (by decide) ?_
                  refine zj_iconst (pc' := 204) dX12_now_203 rfl kiconst_m1 ?_
                  have e9 := Option.some.inj hy
                  subst e9
                  exact zj_iret dX12_now_204 rfl hq
  have HL8 : ∀ (n : Nat) (x2 : Int32) (x3 : Int32) (x4 : Int32) (x5 : Int32) (x6 : Int32), zlp (fun s => fM_now_L18 r0_6 s.1 s.2.1 s.2.2.1 s.2.2.2.1 s.2.2.2.2) n (x2, x3, x4, x5, x6) = some r9 → zR Γ 3 YX12_now 18 [(0, .ref (zad Γ 186)), (1, .int a1), (2, .int x2), (3, .int x3), (4, .int x4), (5, .int x5), (6, .int x6)] [] (zui M 186 r0v1) Q := by
    intro n
    induction n with
    | zero => intro x2 x3 x4 x5 x6 hn9; cases hn9
    | succ n ih11 =>
      intro x2 x3 x4 x5 x6 hn9
      obtain ⟨o9, hb9, h12, h13⟩ := zlp_step hn9
      have hy : fM_now_L18 r0_6 x2 x3 x4 x5 x6 = some o9 := hb9
      unfold fM_now_L18 at hy
      refine zj_iload (pc' := 20) 6 dX12_now_18 rfl rfl ?_
      refine zj_aload_n (pc' := 21) 0 dX12_now_20 rfl rfl rfl ?_
      refine zj_getR (pc' := 24) (j := 188) dX12_now_21 rfl flX12_33 sh186 rfl ?_
      refine zj_iconst (pc' := 25) dX12_now_24 rfl kiconst_2 ?_
      refine zj_rdi (pc' := 26) dX12_now_25 rfl sh188 (zr_n rfl e_i188) (zrdK zi2_397 tn2) ?_
      refine zj_icmp_ge (tgt := 128) (pc' := 29) dX12_now_26 rfl (by decide) (fun c14 => ?_) (fun c14 => ?_)
      · have hy := zt_t hy c14
        have e9 := h13 _ (Option.some.inj hy).symm
        refine zj_loc [0, 1, 2, 3, 4, 5] rfl ?_
        exact HE7 _ _ _ _ e9.symm
      · have hy := zt_f hy c14
        refine zj_aload_n (pc' := 30) 0 dX12_now_29 rfl rfl rfl ?_
        refine zj_iload (pc' := 32) 6 dX12_now_30 rfl rfl ?_
        obtain ⟨y15, hy15, hy⟩ := zt_b hy
        refine zj_V1 (pc' := 35) (z := YX12_ringOf) (As := [.int x6]) (N := (zui M 186 r0v1)) dX12_now_32 rfl mlX12_286 lkX12_ringOf sh186 ⟨_, _, rfl⟩ rfl rfl (Nat.le_of_ble_eq_true rfl) (Nat.le_of_ble_eq_true rfl) (LX12_ringOf_186 Γ _ r0_6 (zr_n rfl e_i188) x6 hy15) rfl ?_
        refine zj_istore (pc' := 37) (L' := [(7, .int y15), (0, .ref (zad Γ 186)), (1, .int a1), (2, .int x2), (3, .int x3), (4, .int x4), (5, .int x5), (6, .int x6)]) dX12_now_35 rfl (by decide) rfl ?_
        refine zj_iload_n (pc' := 38) 3 dX12_now_37 rfl rfl rfl ?_
        refine zj_aload_n (pc' := 39) 1 dX12_now_38 rfl rfl rfl ?_
        refine zj_getR (pc' := 42) (j := 188) dX12_now_39 rfl flX12_33 sh186 rfl ?_
        refine zj_sipush (pc' := 45) dX12_now_42 rfl ksipush_133 ?_
        refine zj_iload (pc' := 47) 7 dX12_now_45 rfl rfl ?_
        refine zj_iadd (pc' := 48) dX12_now_47 rfl ?_
        obtain ⟨v16, hv16, hy⟩ := zt_b hy
        refine zj_rdi (pc' := 49) dX12_now_48 rfl sh188 (zr_n rfl e_i188) hv16 ?_
        have HJ17 : zR Γ 3 YX12_now 60 [(7, .int y15), (0, .ref (zad Γ 186)), (1, .int a1), (2, .int x2), (3, .int x3), (4, .int x4), (5, .int x5), (6, .int x6)] [.int (if v16 ≤ 0 then (0 : Int32) else ((1 : Int32) <<< (x6 &&& 31))), .int x2] (zui M 186 r0v1) Q := by
          refine zj_ior (pc' := 61) dX12_now_60 rfl ?_
          refine zj_topi (fun x19 ex19 => ?_)
          have hy := zlet_at ex19 hy
          refine zj_istore_n (pc' := 62) (L' := [(2, .int x19), (7, .int y15), (0, .ref (zad Γ 186)), (1, .int a1), (3, .int x3), (4, .int x4), (5, .int x5), (6, .int x6)]) dX12_now_61 rfl rfl (by decide) rfl ?_
          refine zj_iload_n (pc' := 63) 4 dX12_now_62 rfl rfl rfl ?_
          refine zj_aload_n (pc' := 64) 2 dX12_now_63 rfl rfl rfl ?_
          refine zj_getR (pc' := 67) (j := 188) dX12_now_64 rfl flX12_33 sh186 rfl ?_
          refine zj_sipush (pc' := 70) dX12_now_67 rfl ksipush_145 ?_
          refine zj_iload (pc' := 72) 7 dX12_now_70 rfl rfl ?_
          refine zj_iadd (pc' := 73) dX12_now_72 rfl ?_
          obtain ⟨v20, hv20, hy⟩ := zt_b hy
          refine zj_rdi (pc' := 74) dX12_now_73 rfl sh188 (zr_n rfl e_i188) hv20 ?_
          have HJ21 : zR Γ 3 YX12_now 85 [(2, .int x19), (7, .int y15), (0, .ref (zad Γ 186)), (1, .int a1), (3, .int x3), (4, .int x4), (5, .int x5), (6, .int x6)] [.int (if v20 ≤ 0 then (0 : Int32) else ((1 : Int32) <<< (x6 &&& 31))), .int x3] (zui M 186 r0v1) Q := by
            refine zj_ior (pc' := 86) dX12_now_85 rfl ?_
            refine zj_topi (fun x23 ex23 => ?_)
            have hy := zlet_at ex23 hy
            refine zj_istore_n (pc' := 87) (L' := [(3, .int x23), (2, .int x19), (7, .int y15), (0, .ref (zad Γ 186)), (1, .int a1), (4, .int x4), (5, .int x5), (6, .int x6)]) dX12_now_86 rfl rfl (by decide) rfl ?_
            refine zj_iload (pc' := 89) 5 dX12_now_87 rfl rfl ?_
            refine zj_iload (pc' := 91) 2 dX12_now_89 rfl rfl ?_
            refine zj_ior (pc' := 92) dX12_now_91 rfl ?_
            refine zj_topi (fun x24 ex24 => ?_)
            have hy := zlet_at ex24 hy
            refine zj_istore (pc' := 94) (L' := [(4, .int x24), (3, .int x23), (2, .int x19), (7, .int y15), (0, .ref (zad Γ 186)), (1, .int a1), (5, .int x5), (6, .int x6)]) dX12_now_92 rfl (by decide) rfl ?_
            refine zj_iload (pc' := 96) 6 dX12_now_94 rfl rfl ?_
            refine zj_iload (pc' := 98) 3 dX12_now_96 rfl rfl ?_
            have HJ25 : zR Γ 3 YX12_now 119 [(4, .int x24), (3, .int x23), (2, .int x19), (7, .int y15), (0, .ref (zad Γ 186)), (1, .int a1), (5, .int x5), (6, .int x6)] [.int (zb (if y15 ≤ 0 then false else (if ((y15 >>> (x6 &&& 31)) <<< (x6 &&& 31)) = y15 then true else false))), .int x5] (zui M 186 r0v1) Q := by
              refine zj_iadd (pc' := 120) dX12_now_119 rfl ?_
              refine zj_topi (fun x28 ex28 => ?_)
              have hy := zlet_at ex28 hy
              refine zj_istore (pc' := 122) (L' := [(5, .int x28), (4, .int x24), (3, .int x23), (2, .int x19), (7, .int y15), (0, .ref (zad Γ 186)), (1, .int a1), (6, .int x6)]) dX12_now_120 rfl (by decide) rfl ?_
              obtain ⟨x29, ex29⟩ : ∃ z : Int32, z = (x6 + 1) := ⟨_, rfl⟩
              have hy := zlet_at ex29 hy
              refine zj_iinc (pc' := 125) 7 (L' := [(6, .int x29), (5, .int x28), (4, .int x24), (3, .int x23), (2, .int x19), (7, .int y15), (0, .ref (zad Γ 186)), (1, .int a1)]) dX12_now_122 rfl rfl (by decide) (by rw [ci1, ← ex29]; rfl) ?_
              refine zj_goto (tgt := 18) dX12_now_125 (by decide) ?_
              have hn9 := h12 _ (Option.some.inj hy).symm
              refine zj_loc [6, 7, 4, 3, 2, 1, 0] rfl ?_
              exact ih11 _ _ _ _ _ hn9
            refine zj_if_le (tgt := 118) (pc' := 101) dX12_now_98 rfl (by decide) (fun c26 => ?_) (fun c26 => ?_)
            · refine zj_iconst (pc' := 119) dX12_now_118 rfl kiconst_0 ?_
              exact zj_eqb (b := false) (if_pos c26) HJ25
            · refine zj_iload (pc' := 103) 3 dX12_now_101 rfl rfl ?_
              refine zj_iload (pc' := 105) 7 dX12_now_103 rfl rfl ?_
              refine zj_ishr (pc' := 106) dX12_now_105 rfl ?_
              refine zj_iload (pc' := 108) 7 dX12_now_106 rfl rfl ?_
              refine zj_ishl (pc' := 109) dX12_now_108 rfl ?_
              refine zj_iload (pc' := 111) 3 dX12_now_109 rfl rfl ?_
              refine zj_icmp_ne (tgt := 118) (pc' := 114) dX12_now_111 rfl (by decide) (fun c27 => ?_) (fun c27 => ?_)
              · refine zj_iconst (pc' := 119) dX12_now_118 rfl kiconst_0 ?_
                exact zj_eqb (b := false) ((if_neg c26).trans (if_neg c27)) HJ25
              · refine zj_iconst (pc' := 115) dX12_now_114 rfl kiconst_1 ?_
                refine zj_goto (tgt := 119) dX12_now_115 (by decide) ?_
                exact zj_eqb (b := true) ((if_neg c26).trans (if_pos c27)) HJ25
          refine zj_if_le (tgt := 84) (pc' := 77) dX12_now_74 rfl (by decide) (fun c22 => ?_) (fun c22 => ?_)
          · refine zj_iconst (pc' := 85) dX12_now_84 rfl kiconst_0 ?_
            exact zj_eqi (if_pos c22) HJ21
          · refine zj_iconst (pc' := 78) dX12_now_77 rfl kiconst_1 ?_
            refine zj_iload (pc' := 80) 7 dX12_now_78 rfl rfl ?_
            refine zj_ishl (pc' := 81) dX12_now_80 rfl ?_
            refine zj_goto (tgt := 85) dX12_now_81 (by decide) ?_
            exact zj_eqi (if_neg c22) HJ21
        refine zj_if_le (tgt := 59) (pc' := 52) dX12_now_49 rfl (by decide) (fun c18 => ?_) (fun c18 => ?_)
        · refine zj_iconst (pc' := 60) dX12_now_59 rfl kiconst_0 ?_
          exact zj_eqi (if_pos c18) HJ17
        · refine zj_iconst (pc' := 53) dX12_now_52 rfl kiconst_1 ?_
          refine zj_iload (pc' := 55) 7 dX12_now_53 rfl rfl ?_
          refine zj_ishl (pc' := 56) dX12_now_55 rfl ?_
          refine zj_goto (tgt := 60) dX12_now_56 (by decide) ?_
          exact zj_eqi (if_neg c18) HJ17
  exact HL8 n9 _ _ _ _ _ hn9
set_option maxRecDepth 20000 in
theorem LX12_now_186 (Γ : zG) (M : zM) (r0 : Nat → Int32) (r0_6 : Nat → Int32) (e_i186 : M.1 186 = r0) (e_i188 : M.1 188 = r0_6) (a1 : Int32) {res : Int32 × (Nat → Int32)} (hy : (fM_now r0 r0_6 a1) = some res) : zK Γ 3 YX12_now [.ref (zad Γ 186), .int a1] M (fun v N => v = some (.int res.1) ∧ N = (zui M 186 res.2)) :=
  zK_of (by decide) (Nat.le_of_ble_eq_true rfl) (TX12_now_186 Γ M r0 r0_6 e_i186 e_i188 a1 hy ⟨rfl, rfl⟩)


set_option maxRecDepth 20000 in
theorem TX1_copyFrom_25_15 (Γ : zG) {Q : Option Value → zM → Prop} (M : zM) (r0 : Nat → Int32) (r0_0 : Nat → Int32) (r0_1 : Nat → Int32) (r0_2 : Nat → Int32) (r0_3 : Nat → Int32) (r0_4 : Nat → Int32) (r0_5 : Nat → Int32) (r0_6 : Nat → Int32) (r0_7 : Nat → Int32) (r1 : Nat → Int32) (r1_0 : Nat → Int32) (r1_1 : Nat → Int32) (r1_2 : Nat → Int32) (r1_3 : Nat → Int32) (r1_4 : Nat → Int32) (r1_5 : Nat → Int32) (r1_6 : Nat → Int32) (r1_7 : Nat → Int32) (e_i25 : M.1 25 = r0) (e_i26 : M.1 26 = r0_0) (e_i27 : M.1 27 = r0_1) (e_i28 : M.1 28 = r0_2) (e_i29 : M.1 29 = r0_3) (e_i30 : M.1 30 = r0_4) (e_i31 : M.1 31 = r0_5) (e_i32 : M.1 32 = r0_6) (e_i33 : M.1 33 = r0_7) (e_i15 : M.1 15 = r1) (e_i16 : M.1 16 = r1_0) (e_i17 : M.1 17 = r1_1) (e_i18 : M.1 18 = r1_2) (e_i19 : M.1 19 = r1_3) (e_i20 : M.1 20 = r1_4) (e_i21 : M.1 21 = r1_5) (e_i22 : M.1 22 = r1_6) (e_i23 : M.1 23 = r1_7)  {res : (Nat → Int32) × (Nat → Int32) × (Nat → Int32) × (Nat → Int32) × (Nat → Int32) × (Nat → Int32) × (Nat → Int32) × (Nat → Int32) × (Nat → Int32)} (hy : (fDy_copyFrom r0 r0_0 r0_1 r0_2 r0_3 r0_4 r0_5 r0_6 r0_7 r1 r1_0 r1_1 r1_2 r1_3 r1_4 r1_5 r1_6 r1_7) = some res) (hq : Q none (zui (zui (zui (zui (zui (zui (zui (zui (zui M 25 res.1) 26 res.2.1) 27 res.2.2.1) 28 res.2.2.2.1) 29 res.2.2.2.2.1) 30 res.2.2.2.2.2.1) 31 res.2.2.2.2.2.2.1) 32 res.2.2.2.2.2.2.2.1) 33 res.2.2.2.2.2.2.2.2)) : zR Γ 2 YX1_copyFrom 0 [(0, .ref (zad Γ 25)), (1, .ref (zad Γ 15))] [] M Q := by
  unfold fDy_copyFrom at hy
  refine zj_aload_n (pc' := 1) 1 dX1_copyFrom_0 rfl rfl rfl ?_
  refine zj_getR (pc' := 4) (j := 16) dX1_copyFrom_1 rfl flX1_9 sh15 rfl ?_
  refine zj_iconst (pc' := 5) dX1_copyFrom_4 rfl kiconst_0 ?_
  refine zj_aload_n (pc' := 6) 0 dX1_copyFrom_5 rfl rfl rfl ?_
  refine zj_getR (pc' := 9) (j := 26) dX1_copyFrom_6 rfl flX1_9 sh25 rfl ?_
  refine zj_iconst (pc' := 10) dX1_copyFrom_9 rfl kiconst_0 ?_
  refine zj_bipush (pc' := 12) dX1_copyFrom_10 rfl kbipush_36 ?_
  obtain ⟨r0_0v1, er0_0v1⟩ : ∃ z, z = (va_cpy r1_0 r0_0 0 0 36) := ⟨_, rfl⟩
  have hy := zlet_at er0_0v1 hy
  refine zj_cpI (pc' := 15) (N := (zui M 26 r0_0v1)) dX1_copyFrom_12 rfl mlX1_52 zcpw sh16 sh26 tn0 tn0 tn36 (by decide) (by decide) (Nat.le_of_ble_eq_true rfl) (Nat.le_of_ble_eq_true rfl) e_i16 e_i26 er0_0v1 rfl (Nat.le_of_ble_eq_true rfl) (Nat.le_of_ble_eq_true rfl) ?_
  refine zj_aload_n (pc' := 16) 1 dX1_copyFrom_15 rfl rfl rfl ?_
  refine zj_getR (pc' := 19) (j := 17) dX1_copyFrom_16 rfl flX1_15 sh15 rfl ?_
  refine zj_iconst (pc' := 20) dX1_copyFrom_19 rfl kiconst_0 ?_
  refine zj_aload_n (pc' := 21) 0 dX1_copyFrom_20 rfl rfl rfl ?_
  refine zj_getR (pc' := 24) (j := 27) dX1_copyFrom_21 rfl flX1_15 sh25 rfl ?_
  refine zj_iconst (pc' := 25) dX1_copyFrom_24 rfl kiconst_0 ?_
  refine zj_bipush (pc' := 27) dX1_copyFrom_25 rfl kbipush_6 ?_
  obtain ⟨r0_1v2, er0_1v2⟩ : ∃ z, z = (va_cpy r1_1 r0_1 0 0 6) := ⟨_, rfl⟩
  have hy := zlet_at er0_1v2 hy
  refine zj_cpI (pc' := 30) (N := (zui (zui M 26 r0_0v1) 27 r0_1v2)) dX1_copyFrom_27 rfl mlX1_52 zcpw sh17 sh27 tn0 tn0 tn6 (by decide) (by decide) (Nat.le_of_ble_eq_true rfl) (Nat.le_of_ble_eq_true rfl) (zr_n rfl e_i17) (zr_n rfl e_i27) er0_1v2 rfl (Nat.le_of_ble_eq_true rfl) (Nat.le_of_ble_eq_true rfl) ?_
  refine zj_aload_n (pc' := 31) 1 dX1_copyFrom_30 rfl rfl rfl ?_
  refine zj_getR (pc' := 34) (j := 18) dX1_copyFrom_31 rfl flX1_18 sh15 rfl ?_
  refine zj_iconst (pc' := 35) dX1_copyFrom_34 rfl kiconst_0 ?_
  refine zj_aload_n (pc' := 36) 0 dX1_copyFrom_35 rfl rfl rfl ?_
  refine zj_getR (pc' := 39) (j := 28) dX1_copyFrom_36 rfl flX1_18 sh25 rfl ?_
  refine zj_iconst (pc' := 40) dX1_copyFrom_39 rfl kiconst_0 ?_
  refine zj_bipush (pc' := 42) dX1_copyFrom_40 rfl kbipush_6 ?_
  obtain ⟨r0_2v3, er0_2v3⟩ : ∃ z, z = (va_cpy r1_2 r0_2 0 0 6) := ⟨_, rfl⟩
  have hy := zlet_at er0_2v3 hy
  refine zj_cpI (pc' := 45) (N := (zui (zui (zui M 26 r0_0v1) 27 r0_1v2) 28 r0_2v3)) dX1_copyFrom_42 rfl mlX1_52 zcpw sh18 sh28 tn0 tn0 tn6 (by decide) (by decide) (Nat.le_of_ble_eq_true rfl) (Nat.le_of_ble_eq_true rfl) (zr_n rfl (zr_n rfl e_i18)) (zr_n rfl (zr_n rfl e_i28)) er0_2v3 rfl (Nat.le_of_ble_eq_true rfl) (Nat.le_of_ble_eq_true rfl) ?_
  refine zj_aload_n (pc' := 46) 1 dX1_copyFrom_45 rfl rfl rfl ?_
  refine zj_getR (pc' := 49) (j := 19) dX1_copyFrom_46 rfl flX1_21 sh15 rfl ?_
  refine zj_iconst (pc' := 50) dX1_copyFrom_49 rfl kiconst_0 ?_
  refine zj_aload_n (pc' := 51) 0 dX1_copyFrom_50 rfl rfl rfl ?_
  refine zj_getR (pc' := 54) (j := 29) dX1_copyFrom_51 rfl flX1_21 sh25 rfl ?_
  refine zj_iconst (pc' := 55) dX1_copyFrom_54 rfl kiconst_0 ?_
  refine zj_bipush (pc' := 57) dX1_copyFrom_55 rfl kbipush_6 ?_
  obtain ⟨r0_3v4, er0_3v4⟩ : ∃ z, z = (va_cpy r1_3 r0_3 0 0 6) := ⟨_, rfl⟩
  have hy := zlet_at er0_3v4 hy
  refine zj_cpI (pc' := 60) (N := (zui (zui (zui (zui M 26 r0_0v1) 27 r0_1v2) 28 r0_2v3) 29 r0_3v4)) dX1_copyFrom_57 rfl mlX1_52 zcpw sh19 sh29 tn0 tn0 tn6 (by decide) (by decide) (Nat.le_of_ble_eq_true rfl) (Nat.le_of_ble_eq_true rfl) (zr_n rfl (zr_n rfl (zr_n rfl e_i19))) (zr_n rfl (zr_n rfl (zr_n rfl e_i29))) er0_3v4 rfl (Nat.le_of_ble_eq_true rfl) (Nat.le_of_ble_eq_true rfl) ?_
  refine zj_aload_n (pc' := 61) 1 dX1_copyFrom_60 rfl rfl rfl ?_
  refine zj_getR (pc' := 64) (j := 20) dX1_copyFrom_61 rfl flX1_24 sh15 rfl ?_
  refine zj_iconst (pc' := 65) dX1_copyFrom_64 rfl kiconst_0 ?_
  refine zj_aload_n (pc' := 66) 0 dX1_copyFrom_65 rfl rfl rfl ?_
  refine zj_getR (pc' := 69) (j := 30) dX1_copyFrom_66 rfl flX1_24 sh25 rfl ?_
  refine zj_iconst (pc' := 70) dX1_copyFrom_69 rfl kiconst_0 ?_
  refine zj_bipush (pc' := 72) dX1_copyFrom_70 rfl kbipush_48 ?_
  obtain ⟨r0_4v5, er0_4v5⟩ : ∃ z, z = (va_cpy r1_4 r0_4 0 0 48) := ⟨_, rfl⟩
  have hy := zlet_at er0_4v5 hy
  refine zj_cpI (pc' := 75) (N := (zui (zui (zui (zui (zui M 26 r0_0v1) 27 r0_1v2) 28 r0_2v3) 29 r0_3v4) 30 r0_4v5)) dX1_copyFrom_72 rfl mlX1_52 zcpw sh20 sh30 tn0 tn0 tn48 (by decide) (by decide) (Nat.le_of_ble_eq_true rfl) (Nat.le_of_ble_eq_true rfl) (zr_n rfl (zr_n rfl (zr_n rfl (zr_n rfl e_i20)))) (zr_n rfl (zr_n rfl (zr_n rfl (zr_n rfl e_i30)))) er0_4v5 rfl (Nat.le_of_ble_eq_true rfl) (Nat.le_of_ble_eq_true rfl) ?_
  refine zj_aload_n (pc' := 76) 1 dX1_copyFrom_75 rfl rfl rfl ?_
  refine zj_getR (pc' := 79) (j := 21) dX1_copyFrom_76 rfl flX1_27 sh15 rfl ?_
  refine zj_iconst (pc' := 80) dX1_copyFrom_79 rfl kiconst_0 ?_
  refine zj_aload_n (pc' := 81) 0 dX1_copyFrom_80 rfl rfl rfl ?_
  refine zj_getR (pc' := 84) (j := 31) dX1_copyFrom_81 rfl flX1_27 sh25 rfl ?_
  refine zj_iconst (pc' := 85) dX1_copyFrom_84 rfl kiconst_0 ?_
  refine zj_bipush (pc' := 87) dX1_copyFrom_85 rfl kbipush_6 ?_
  obtain ⟨r0_5v6, er0_5v6⟩ : ∃ z, z = (va_cpy r1_5 r0_5 0 0 6) := ⟨_, rfl⟩
  have hy := zlet_at er0_5v6 hy
  refine zj_cpI (pc' := 90) (N := (zui (zui (zui (zui (zui (zui M 26 r0_0v1) 27 r0_1v2) 28 r0_2v3) 29 r0_3v4) 30 r0_4v5) 31 r0_5v6)) dX1_copyFrom_87 rfl mlX1_52 zcpw sh21 sh31 tn0 tn0 tn6 (by decide) (by decide) (Nat.le_of_ble_eq_true rfl) (Nat.le_of_ble_eq_true rfl) (zr_n rfl (zr_n rfl (zr_n rfl (zr_n rfl (zr_n rfl e_i21))))) (zr_n rfl (zr_n rfl (zr_n rfl (zr_n rfl (zr_n rfl e_i31))))) er0_5v6 rfl (Nat.le_of_ble_eq_true rfl) (Nat.le_of_ble_eq_true rfl) ?_
  refine zj_aload_n (pc' := 91) 1 dX1_copyFrom_90 rfl rfl rfl ?_
  refine zj_getR (pc' := 94) (j := 22) dX1_copyFrom_91 rfl flX1_30 sh15 rfl ?_
  refine zj_iconst (pc' := 95) dX1_copyFrom_94 rfl kiconst_0 ?_
  refine zj_aload_n (pc' := 96) 0 dX1_copyFrom_95 rfl rfl rfl ?_
  refine zj_getR (pc' := 99) (j := 32) dX1_copyFrom_96 rfl flX1_30 sh25 rfl ?_
  refine zj_iconst (pc' := 100) dX1_copyFrom_99 rfl kiconst_0 ?_
  refine zj_bipush (pc' := 102) dX1_copyFrom_100 rfl kbipush_8 ?_
  obtain ⟨r0_6v7, er0_6v7⟩ : ∃ z, z = (va_cpy r1_6 r0_6 0 0 8) := ⟨_, rfl⟩
  have hy := zlet_at er0_6v7 hy
  refine zj_cpI (pc' := 105) (N := (zui (zui (zui (zui (zui (zui (zui M 26 r0_0v1) 27 r0_1v2) 28 r0_2v3) 29 r0_3v4) 30 r0_4v5) 31 r0_5v6) 32 r0_6v7)) dX1_copyFrom_102 rfl mlX1_52 zcpw sh22 sh32 tn0 tn0 tn8 (by decide) (by decide) (Nat.le_of_ble_eq_true rfl) (Nat.le_of_ble_eq_true rfl) (zr_n rfl (zr_n rfl (zr_n rfl (zr_n rfl (zr_n rfl (zr_n rfl e_i22)))))) (zr_n rfl (zr_n rfl (zr_n rfl (zr_n rfl (zr_n rfl (zr_n rfl e_i32)))))) er0_6v7 rfl (Nat.le_of_ble_eq_true rfl) (Nat.le_of_ble_eq_true rfl) ?_
  refine zj_aload_n (pc' := 106) 1 dX1_copyFrom_105 rfl rfl rfl ?_
  refine zj_getR (pc' := 109) (j := 23) dX1_copyFrom_106 rfl flX1_33 sh15 rfl ?_
  refine zj_iconst (pc' := 110) dX1_copyFrom_109 rfl kiconst_0 ?_
  refine zj_aload_n (pc' := 111) 0 dX1_copyFrom_110 rfl rfl rfl ?_
  refine zj_getR (pc' := 114) (j := 33) dX1_copyFrom_111 rfl flX1_33 sh25 rfl ?_
  refine zj_iconst (pc' := 115) dX1_copyFrom_114 rfl kiconst_0 ?_
  refine zj_bipush (pc' := 117) dX1_copyFrom_115 rfl kbipush_8 ?_
  obtain ⟨r0_7v8, er0_7v8⟩ : ∃ z, z = (va_cpy r1_7 r0_7 0 0 8) := ⟨_, rfl⟩
  have hy := zlet_at er0_7v8 hy
  refine zj_cpI (pc' := 120) (N := (zui (zui (zui (zui (zui (zui (zui (zui M 26 r0_0v1) 27 r0_1v2) 28 r0_2v3) 29 r0_3v4) 30 r0_4v5) 31 r0_5v6) 32 r0_6v7) 33 r0_7v8)) dX1_copyFrom_117 rfl mlX1_52 zcpw sh23 sh33 tn0 tn0 tn8 (by decide) (by decide) (Nat.le_of_ble_eq_true rfl) (Nat.le_of_ble_eq_true rfl) (zr_n rfl (zr_n rfl (zr_n rfl (zr_n rfl (zr_n rfl (zr_n rfl (zr_n rfl e_i23))))))) (zr_n rfl (zr_n rfl (zr_n rfl (zr_n rfl (zr_n rfl (zr_n rfl (zr_n rfl e_i33))))))) er0_7v8 rfl (Nat.le_of_ble_eq_true rfl) (Nat.le_of_ble_eq_true rfl) ?_
  refine zj_aload_n (pc' := 121) 0 dX1_copyFrom_120 rfl rfl rfl ?_
  refine zj_aload_n (pc' := 122) 1 dX1_copyFrom_121 rfl rfl rfl ?_
  refine zj_fI (pc' := 125) dX1_copyFrom_122 rfl flX1_45 sh15 rfl (zr_n rfl (zr_n rfl (zr_n rfl (zr_n rfl (zr_n rfl (zr_n rfl (zr_n rfl (zr_n rfl e_i15)))))))) rfl ?_
  obtain ⟨r0v9, er0v9⟩ : ∃ z, z = (zup r0 9 (r1 9)) := ⟨_, rfl⟩
  have hy := zlet_at er0v9 hy
  refine zj_pI (pc' := 128) (N := (zui (zui (zui (zui (zui (zui (zui (zui (zui M 25 r0v9) 26 r0_0v1) 27 r0_1v2) 28 r0_2v3) 29 r0_3v4) 30 r0_4v5) 31 r0_5v6) 32 r0_6v7) 33 r0_7v8)) dX1_copyFrom_125 rfl fpX1_45 sh25 rfl (zr_n rfl (zr_n rfl (zr_n rfl (zr_n rfl (zr_n rfl (zr_n rfl (zr_n rfl (zr_n rfl e_i25)))))))) er0v9 (zm_n rfl (zm_n rfl (zm_n rfl (zm_n rfl (zm_n rfl (zm_n rfl (zm_n rfl (zm_n rfl rfl)))))))) ?_
  refine zj_aload_n (pc' := 129) 0 dX1_copyFrom_128 rfl rfl rfl ?_
  refine zj_aload_n (pc' := 130) 1 dX1_copyFrom_129 rfl rfl rfl ?_
  refine zj_fI (pc' := 133) dX1_copyFrom_130 rfl flX1_49 sh15 rfl (zr_n rfl (zr_n rfl (zr_n rfl (zr_n rfl (zr_n rfl (zr_n rfl (zr_n rfl (zr_n rfl (zr_n rfl e_i15))))))))) rfl ?_
  obtain ⟨r0v10, er0v10⟩ : ∃ z, z = (zup r0v9 10 (r1 10)) := ⟨_, rfl⟩
  have hy := zlet_at er0v10 hy
  refine zj_pI (pc' := 136) (N := (zui (zui (zui (zui (zui (zui (zui (zui (zui M 25 r0v10) 26 r0_0v1) 27 r0_1v2) 28 r0_2v3) 29 r0_3v4) 30 r0_4v5) 31 r0_5v6) 32 r0_6v7) 33 r0_7v8)) dX1_copyFrom_133 rfl fpX1_49 sh25 rfl (zr_n rfl (zr_n rfl (zr_n rfl (zr_n rfl (zr_n rfl (zr_n rfl (zr_n rfl (zr_n rfl zr_s)))))))) er0v10 (zm_n rfl (zm_n rfl (zm_n rfl (zm_n rfl (zm_n rfl (zm_n rfl (zm_n rfl (zm_n rfl zm_s)))))))) ?_
  have e9 := Option.some.inj hy
  subst e9
  exact zj_vret dX1_copyFrom_136 rfl hq
set_option maxRecDepth 20000 in
theorem LX1_copyFrom_25_15 (Γ : zG) (M : zM) (r0 : Nat → Int32) (r0_0 : Nat → Int32) (r0_1 : Nat → Int32) (r0_2 : Nat → Int32) (r0_3 : Nat → Int32) (r0_4 : Nat → Int32) (r0_5 : Nat → Int32) (r0_6 : Nat → Int32) (r0_7 : Nat → Int32) (r1 : Nat → Int32) (r1_0 : Nat → Int32) (r1_1 : Nat → Int32) (r1_2 : Nat → Int32) (r1_3 : Nat → Int32) (r1_4 : Nat → Int32) (r1_5 : Nat → Int32) (r1_6 : Nat → Int32) (r1_7 : Nat → Int32) (e_i25 : M.1 25 = r0) (e_i26 : M.1 26 = r0_0) (e_i27 : M.1 27 = r0_1) (e_i28 : M.1 28 = r0_2) (e_i29 : M.1 29 = r0_3) (e_i30 : M.1 30 = r0_4) (e_i31 : M.1 31 = r0_5) (e_i32 : M.1 32 = r0_6) (e_i33 : M.1 33 = r0_7) (e_i15 : M.1 15 = r1) (e_i16 : M.1 16 = r1_0) (e_i17 : M.1 17 = r1_1) (e_i18 : M.1 18 = r1_2) (e_i19 : M.1 19 = r1_3) (e_i20 : M.1 20 = r1_4) (e_i21 : M.1 21 = r1_5) (e_i22 : M.1 22 = r1_6) (e_i23 : M.1 23 = r1_7)  {res : (Nat → Int32) × (Nat → Int32) × (Nat → Int32) × (Nat → Int32) × (Nat → Int32) × (Nat → Int32) × (Nat → Int32) × (Nat → Int32) × (Nat → Int32)} (hy : (fDy_copyFrom r0 r0_0 r0_1 r0_2 r0_3 r0_4 r0_5 r0_6 r0_7 r1 r1_0 r1_1 r1_2 r1_3 r1_4 r1_5 r1_6 r1_7) = some res) : zK Γ 2 YX1_copyFrom [.ref (zad Γ 25), .ref (zad Γ 15)] M (fun v N => v = none ∧ N = (zui (zui (zui (zui (zui (zui (zui (zui (zui M 25 res.1) 26 res.2.1) 27 res.2.2.1) 28 res.2.2.2.1) 29 res.2.2.2.2.1) 30 res.2.2.2.2.2.1) 31 res.2.2.2.2.2.2.1) 32 res.2.2.2.2.2.2.2.1) 33 res.2.2.2.2.2.2.2.2)) :=
  zK_of (by decide) (Nat.le_of_ble_eq_true rfl) (TX1_copyFrom_25_15 Γ M r0 r0_0 r0_1 r0_2 r0_3 r0_4 r0_5 r0_6 r0_7 r1 r1_0 r1_1 r1_2 r1_3 r1_4 r1_5 r1_6 r1_7 e_i25 e_i26 e_i27 e_i28 e_i29 e_i30 e_i31 e_i32 e_i33 e_i15 e_i16 e_i17 e_i18 e_i19 e_i20 e_i21 e_i22 e_i23 hy ⟨rfl, rfl⟩)


set_option maxRecDepth 20000 in
theorem TX7_areBeside_5 (Γ : zG) {Q : Option Value → zM → Prop} (M : zM) (r0 : Nat → Int32) (r0_2 : Nat → Int32) (e_i5 : M.1 5 = r0) (e_i8 : M.1 8 = r0_2) (a1 : Int32) (a2 : Int32) {res : Bool} (hy : (fPl_areBeside r0 r0_2 a1 a2) = some res) (hq : Q (some (.int (zb res))) M) : zR Γ 3 YX7_areBeside 0 [(0, .ref (zad Γ 5)), (1, .int a1), (2, .int a2)] [] M Q := by
  unfold fPl_areBeside at hy
  refine zj_aload_n (pc' := 1) 0 dX7_areBeside_0 rfl rfl rfl ?_
  refine zj_iload_n (pc' := 2) 2 dX7_areBeside_1 rfl rfl rfl ?_
  refine zj_V1 (pc' := 5) (z := YX7_hasCorner) (As := [.int a2]) (N := M) dX7_areBeside_2 rfl mlX7_35 lkX7_hasCorner sh5 ⟨_, _, rfl⟩ rfl rfl (Nat.le_of_ble_eq_true rfl) (Nat.le_of_ble_eq_true rfl) (LX7_hasCorner_5 Γ _ r0 e_i5 a2 rfl) rfl ?_
  refine zj_bif_eq (tgt := 24) (pc' := 8) dX7_areBeside_5 rfl (by decide) (fun c1 => ?_) (fun c1 => ?_)
  · have hy := zt_f hy c1
    refine zj_iconst (pc' := 25) dX7_areBeside_24 rfl kiconst_0 ?_
    have e9 := Option.some.inj hy
    subst e9
    exact zj_bret (b := false) dX7_areBeside_25 rfl hq
  · have hy := zt_t hy c1
    refine zj_aload_n (pc' := 9) 0 dX7_areBeside_8 rfl rfl rfl ?_
    refine zj_iload_n (pc' := 10) 1 dX7_areBeside_9 rfl rfl rfl ?_
    obtain ⟨y2, hy2, hy⟩ := zt_b hy
    refine zj_V1 (pc' := 13) (z := YX7_besideOf) (As := [.int a1]) (N := M) dX7_areBeside_10 rfl mlX7_42 lkX7_besideOf sh5 ⟨_, _, rfl⟩ rfl rfl (Nat.le_of_ble_eq_true rfl) (Nat.le_of_ble_eq_true rfl) (LX7_besideOf_5 Γ _ r0 r0_2 e_i5 e_i8 a1 hy2) rfl ?_
    refine zj_iload_n (pc' := 14) 2 dX7_areBeside_13 rfl rfl rfl ?_
    refine zj_N1 (pc' := 17) (z := YX11_hasBit) (As := [.int y2, .int a2]) (N := M) dX7_areBeside_14 rfl nlX7_46 lkX11_hasBit rfl rfl (Nat.le_of_ble_eq_true rfl) (Nat.le_of_ble_eq_true rfl) (LX11_hasBit Γ _ y2 a2 rfl) rfl ?_
    have HJ3 : zR Γ 3 YX7_areBeside 25 [(0, .ref (zad Γ 5)), (1, .int a1), (2, .int a2)] [.int (zb (if (fX_hasBit y2 a2) = true then true else false))] M Q := by
      have e9 := Option.some.inj hy
      subst e9
      exact zj_bret (b := (if (fX_hasBit y2 a2) = true then true else false)) dX7_areBeside_25 rfl hq
    refine zj_bif_eq (tgt := 24) (pc' := 20) dX7_areBeside_17 rfl (by decide) (fun c4 => ?_) (fun c4 => ?_)
    · refine zj_iconst (pc' := 25) dX7_areBeside_24 rfl kiconst_0 ?_
      exact zj_eqb (b := false) (if_neg c4) HJ3
    · refine zj_iconst (pc' := 21) dX7_areBeside_20 rfl kiconst_1 ?_
      refine zj_goto (tgt := 25) dX7_areBeside_21 (by decide) ?_
      exact zj_eqb (b := true) (if_pos c4) HJ3
set_option maxRecDepth 20000 in
theorem LX7_areBeside_5 (Γ : zG) (M : zM) (r0 : Nat → Int32) (r0_2 : Nat → Int32) (e_i5 : M.1 5 = r0) (e_i8 : M.1 8 = r0_2) (a1 : Int32) (a2 : Int32) {res : Bool} (hy : (fPl_areBeside r0 r0_2 a1 a2) = some res) : zK Γ 3 YX7_areBeside [.ref (zad Γ 5), .int a1, .int a2] M (fun v N => v = some (.int (zb res)) ∧ N = M) :=
  zK_of (by decide) (Nat.le_of_ble_eq_true rfl) (TX7_areBeside_5 Γ M r0 r0_2 e_i5 e_i8 a1 a2 hy ⟨rfl, rfl⟩)


set_option maxRecDepth 20000 in
theorem TX1_goesTo_25_5 (Γ : zG) {Q : Option Value → zM → Prop} (M : zM) (r0_0 : Nat → Int32) (r0_2 : Nat → Int32) (r0_4 : Nat → Int32) (r0_5 : Nat → Int32) (r1 : Nat → Int32) (r1_2 : Nat → Int32) (e_i26 : M.1 26 = r0_0) (e_i28 : M.1 28 = r0_2) (e_i30 : M.1 30 = r0_4) (e_i31 : M.1 31 = r0_5) (e_i5 : M.1 5 = r1) (e_i8 : M.1 8 = r1_2) (a2 : Int32) (a3 : Int32) {res : Int32 × (Nat → Int32) × (Nat → Int32)} (hy : (fDy_goesTo r0_0 r0_2 r0_4 r0_5 r1 r1_2 a2 a3) = some res) (hq : Q (some (.int res.1)) (zui (zui M 30 res.2.1) 31 res.2.2)) : zR Γ 4 YX1_goesTo 0 [(0, .ref (zad Γ 25)), (1, .ref (zad Γ 5)), (2, .int a2), (3, .int a3)] [] M Q := by
  unfold fDy_goesTo at hy
  refine zj_aload_n (pc' := 1) 0 dX1_goesTo_0 rfl rfl rfl ?_
  refine zj_iload_n (pc' := 2) 2 dX1_goesTo_1 rfl rfl rfl ?_
  obtain ⟨y1, hy1, hy⟩ := zt_b hy
  refine zj_V1 (pc' := 5) (z := YX1_followedBy) (As := [.int a2]) (N := M) dX1_goesTo_2 rfl mlX1_69 lkX1_followedBy sh25 ⟨_, _, rfl⟩ rfl rfl (Nat.le_of_ble_eq_true rfl) (Nat.le_of_ble_eq_true rfl) (LX1_followedBy_25 Γ _ r0_2 e_i28 a2 hy1) rfl ?_
  refine zj_iconst (pc' := 6) dX1_goesTo_5 rfl kiconst_m1 ?_
  refine zj_icmp_eq (tgt := 11) (pc' := 9) dX1_goesTo_6 rfl (by decide) (fun c2 => ?_) (fun c2 => ?_)
  · have hy := zt_t hy c2
    refine zj_aload_n (pc' := 12) 0 dX1_goesTo_11 rfl rfl rfl ?_
    refine zj_iload_n (pc' := 13) 2 dX1_goesTo_12 rfl rfl rfl ?_
    obtain ⟨y3, hy3, hy⟩ := zt_b hy
    refine zj_V1 (pc' := 16) (z := YX1_wayLeft) (As := [.int a2]) (N := M) dX1_goesTo_13 rfl mlX1_73 lkX1_wayLeft sh25 ⟨_, _, rfl⟩ rfl rfl (Nat.le_of_ble_eq_true rfl) (Nat.le_of_ble_eq_true rfl) (LX1_wayLeft_25 Γ _ r0_5 e_i31 a2 hy3) rfl ?_
    refine zj_istore (pc' := 18) (L' := [(4, .int y3), (0, .ref (zad Γ 25)), (1, .ref (zad Γ 5)), (2, .int a2), (3, .int a3)]) dX1_goesTo_16 rfl (by decide) rfl ?_
    refine zj_iload_n (pc' := 19) 3 dX1_goesTo_18 rfl rfl rfl ?_
    refine zj_S1 (pc' := 22) (z := YX1_mayBe) (As := [.int a2]) (N := M) dX1_goesTo_19 rfl mlX1_58 lkX1_mayBe rfl rfl (Nat.le_of_ble_eq_true rfl) (Nat.le_of_ble_eq_true rfl) (LX1_mayBe Γ _ a2 rfl) rfl ?_
    refine zj_bif_eq (tgt := 32) (pc' := 25) dX1_goesTo_22 rfl (by decide) (fun c4 => ?_) (fun c4 => ?_)
    · have hy := zt_f hy c4
      refine zj_iconst (pc' := 33) dX1_goesTo_32 rfl kiconst_2 ?_
      have e9 := Option.some.inj hy
      subst e9
      refine zj_mem (N := (zui M 30 r0_4)) (zself_i e_i30 rfl) ?_
      refine zj_mem (N := (zui (zui M 30 r0_4) 31 r0_5)) (zself_i (zr_n rfl e_i31) rfl) ?_
      exact zj_iret dX1_goesTo_33 rfl hq
    · have hy := zt_t hy c4
      refine zj_iload (pc' := 27) 0 dX1_goesTo_25 rfl rfl ?_
      refine zj_bipush (pc' := 29) dX1_goesTo_27 rfl kbipush_8 ?_
      refine zj_icmp_lt (tgt := 34) (pc' := 32) dX1_goesTo_29 rfl (by decide) (fun c5 => ?_) (fun c5 => ?_)
      · have hy := zt_t hy c5
        refine zj_iload (pc' := 36) 0 dX1_goesTo_34 rfl rfl ?_
        obtain ⟨J11, eJ11, hy⟩ := zlet_ex hy
        have HJ11 : ∀ (x6 : Int32), J11 x6 = some res → zR Γ 4 YX1_goesTo 61 [(0, .ref (zad Γ 25)), (1, .ref (zad Γ 5)), (2, .int a2), (3, .int a3), (4, .int y3)] [.int x6] M Q := by
          intro x6 hy
          have hy := zap1 eJ11 hy
          refine zj_istore (pc' := 63) (L' := [(5, .int x6), (0, .ref (zad Γ 25)), (1, .ref (zad Γ 5)), (2, .int a2), (3, .int a3), (4, .int y3)]) dX1_goesTo_61 rfl (by decide) rfl ?_
          refine zj_aload_n (pc' := 64) 2 dX1_goesTo_63 rfl rfl rfl ?_
          refine zj_iload (pc' := 66) 0 dX1_goesTo_64 rfl rfl ?_
          refine zj_iload_n (pc' := 67) 4 dX1_goesTo_66 rfl rfl rfl ?_
          obtain ⟨y7, hy7, hy⟩ := zt_b hy
          refine zj_V1 (pc' := 70) (z := YX7_areBeside) (As := [.int x6, .int a3]) (N := M) dX1_goesTo_67 rfl mlX1_91 lkX7_areBeside sh5 ⟨_, _, rfl⟩ rfl rfl (Nat.le_of_ble_eq_true rfl) (Nat.le_of_ble_eq_true rfl) (LX7_areBeside_5 Γ _ r1 r1_2 e_i5 e_i8 x6 a3 hy7) rfl ?_
          refine zj_bif_ne (tgt := 75) (pc' := 73) dX1_goesTo_70 rfl (by decide) (fun c8 => ?_) (fun c8 => ?_)
          · have hy := zt_t hy c8
            refine zj_aload_n (pc' := 76) 1 dX1_goesTo_75 rfl rfl rfl ?_
            refine zj_getR (pc' := 79) (j := 30) dX1_goesTo_76 rfl flX1_24 sh25 rfl ?_
            refine zj_iload_n (pc' := 80) 3 dX1_goesTo_79 rfl rfl rfl ?_
            refine zj_bipush (pc' := 82) dX1_goesTo_80 rfl kbipush_8 ?_
            refine zj_imul (pc' := 83) dX1_goesTo_82 rfl ?_
            refine zj_iload (pc' := 85) 5 dX1_goesTo_83 rfl rfl ?_
            refine zj_iadd (pc' := 86) dX1_goesTo_85 rfl ?_
            refine zj_iload_n (pc' := 87) 4 dX1_goesTo_86 rfl rfl rfl ?_
            obtain ⟨r0_4v9, hr0_4v9, hy⟩ := zt_b hy
            refine zj_wri (pc' := 88) (N := (zui M 30 r0_4v9)) dX1_goesTo_87 rfl sh30 e_i30 hr0_4v9 rfl ?_
            refine zj_aload_n (pc' := 89) 1 dX1_goesTo_88 rfl rfl rfl ?_
            refine zj_getR (pc' := 92) (j := 31) dX1_goesTo_89 rfl flX1_27 sh25 rfl ?_
            refine zj_iload_n (pc' := 93) 3 dX1_goesTo_92 rfl rfl rfl ?_
            refine zj_iload (pc' := 95) 5 dX1_goesTo_93 rfl rfl ?_
            refine zj_iconst (pc' := 96) dX1_goesTo_95 rfl kiconst_1 ?_
            refine zj_iadd (pc' := 97) dX1_goesTo_96 rfl ?_
            obtain ⟨r0_5v10, hr0_5v10, hy⟩ := zt_b hy
            refine zj_wri (pc' := 98) (N := (zui (zui M 30 r0_4v9) 31 r0_5v10)) dX1_goesTo_97 rfl sh31 (zr_n rfl e_i31) hr0_5v10 rfl ?_
            refine zj_iconst (pc' := 99) dX1_goesTo_98 rfl kiconst_0 ?_
            have e9 := Option.some.inj hy
            subst e9
            exact zj_iret dX1_goesTo_99 rfl hq
          · have hy := zt_f hy c8
            refine zj_iconst (pc' := 74) dX1_goesTo_73 rfl kiconst_3 ?_
            have e9 := Option.some.inj hy
            subst e9
            refine zj_mem (N := (zui M 30 r0_4)) (zself_i e_i30 rfl) ?_
            refine zj_mem (N := (zui (zui M 30 r0_4) 31 r0_5)) (zself_i (zr_n rfl e_i31) rfl) ?_
            exact zj_iret dX1_goesTo_74 rfl hq
        refine zj_if_le (tgt := 56) (pc' := 39) dX1_goesTo_36 rfl (by decide) (fun c12 => ?_) (fun c12 => ?_)
        · have hy := zt_t hy c12
          refine zj_aload_n (pc' := 57) 1 dX1_goesTo_56 rfl rfl rfl ?_
          refine zj_iload_n (pc' := 58) 3 dX1_goesTo_57 rfl rfl rfl ?_
          obtain ⟨y13, hy13, hy⟩ := zt_b hy
          refine zj_V1 (pc' := 61) (z := YX1_whereIs) (As := [.int a2]) (N := M) dX1_goesTo_58 rfl mlX1_88 lkX1_whereIs sh25 ⟨_, _, rfl⟩ rfl rfl (Nat.le_of_ble_eq_true rfl) (Nat.le_of_ble_eq_true rfl) (LX1_whereIs_25 Γ _ r0_0 e_i26 a2 hy13) rfl ?_
          refine zj_loc [1, 2, 3, 4, 0] rfl ?_
          exact HJ11 y13 hy
        · have hy := zt_f hy c12
          refine zj_aload_n (pc' := 40) 1 dX1_goesTo_39 rfl rfl rfl ?_
          refine zj_getR (pc' := 43) (j := 30) dX1_goesTo_40 rfl flX1_24 sh25 rfl ?_
          refine zj_iload_n (pc' := 44) 3 dX1_goesTo_43 rfl rfl rfl ?_
          refine zj_bipush (pc' := 46) dX1_goesTo_44 rfl kbipush_8 ?_
          refine zj_imul (pc' := 47) dX1_goesTo_46 rfl ?_
          refine zj_iload (pc' := 49) 0 dX1_goesTo_47 rfl rfl ?_
          refine zj_iadd (pc' := 50) dX1_goesTo_49 rfl ?_
          refine zj_iconst (pc' := 51) dX1_goesTo_50 rfl kiconst_1 ?_
          refine zj_isub (pc' := 52) dX1_goesTo_51 rfl ?_
          obtain ⟨v14, hv14, hy⟩ := zt_b hy
          refine zj_rdi (pc' := 53) dX1_goesTo_52 rfl sh30 e_i30 hv14 ?_
          refine zj_goto (tgt := 61) dX1_goesTo_53 (by decide) ?_
          refine zj_loc [1, 2, 3, 4, 0] rfl ?_
          exact HJ11 v14 hy
      · have hy := zt_f hy c5
        refine zj_iconst (pc' := 33) dX1_goesTo_32 rfl kiconst_2 ?_
        have e9 := Option.some.inj hy
        subst e9
        refine zj_mem (N := (zui M 30 r0_4)) (zself_i e_i30 rfl) ?_
        refine zj_mem (N := (zui (zui M 30 r0_4) 31 r0_5)) (zself_i (zr_n rfl e_i31) rfl) ?_
        exact zj_iret dX1_goesTo_33 rfl hq
  · have hy := zt_f hy c2
    refine zj_iconst (pc' := 10) dX1_goesTo_9 rfl kiconst_1 ?_
    have e9 := Option.some.inj hy
    subst e9
    refine zj_mem (N := (zui M 30 r0_4)) (zself_i e_i30 rfl) ?_
    refine zj_mem (N := (zui (zui M 30 r0_4) 31 r0_5)) (zself_i (zr_n rfl e_i31) rfl) ?_
    exact zj_iret dX1_goesTo_10 rfl hq
set_option maxRecDepth 20000 in
theorem LX1_goesTo_25_5 (Γ : zG) (M : zM) (r0_0 : Nat → Int32) (r0_2 : Nat → Int32) (r0_4 : Nat → Int32) (r0_5 : Nat → Int32) (r1 : Nat → Int32) (r1_2 : Nat → Int32) (e_i26 : M.1 26 = r0_0) (e_i28 : M.1 28 = r0_2) (e_i30 : M.1 30 = r0_4) (e_i31 : M.1 31 = r0_5) (e_i5 : M.1 5 = r1) (e_i8 : M.1 8 = r1_2) (a2 : Int32) (a3 : Int32) {res : Int32 × (Nat → Int32) × (Nat → Int32)} (hy : (fDy_goesTo r0_0 r0_2 r0_4 r0_5 r1 r1_2 a2 a3) = some res) : zK Γ 4 YX1_goesTo [.ref (zad Γ 25), .ref (zad Γ 5), .int a2, .int a3] M (fun v N => v = some (.int res.1) ∧ N = (zui (zui M 30 res.2.1) 31 res.2.2)) :=
  zK_of (by decide) (Nat.le_of_ble_eq_true rfl) (TX1_goesTo_25_5 Γ M r0_0 r0_2 r0_4 r0_5 r1 r1_2 e_i26 e_i28 e_i30 e_i31 e_i5 e_i8 a2 a3 hy ⟨rfl, rfl⟩)

noncomputable def fM_whySend (r0_6 : Nat → Int32) (a1 : Int32) (a2 : Int32) : Option (Int32) :=
  (zrd r0_6 397 (133 + a1)).bind (fun (v1 : Int32) =>
  (if v1 ≤ 0 then
  (zrd r0_6 397 (145 + a1)).bind (fun (v3 : Int32) =>
  (if v3 = 8 then
  some 2
  else
  (if v3 = 0 then
  (zrd r0_6 397 (91 + a1)).bind (fun (v6 : Int32) =>
  (fM_isBeside r0_6 v6 a2).bind (fun (y7 : Bool) =>
  some (if y7 = true then (0 : Int32) else (3 : Int32))))
  else
  (zrd r0_6 397 (((151 + (8 * a1)) + v3) - 1)).bind (fun (v10 : Int32) =>
  (fM_isBeside r0_6 v10 a2).bind (fun (y11 : Bool) =>
  some (if y11 = true then (0 : Int32) else (3 : Int32)))))))
  else
  some 1))

set_option maxRecDepth 20000 in
theorem TX12_whySend_186 (Γ : zG) {Q : Option Value → zM → Prop} (M : zM) (r0_6 : Nat → Int32) (e_i188 : M.1 188 = r0_6) (a1 : Int32) (a2 : Int32) {res : Int32} (hy : (fM_whySend r0_6 a1 a2) = some res) (hq : Q (some (.int res)) M) : zR Γ 3 YX12_whySend 0 [(0, .ref (zad Γ 186)), (1, .int a1), (2, .int a2)] [] M Q := by
  unfold fM_whySend at hy
  refine zj_aload_n (pc' := 1) 0 dX12_whySend_0 rfl rfl rfl ?_
  refine zj_getR (pc' := 4) (j := 188) dX12_whySend_1 rfl flX12_33 sh186 rfl ?_
  refine zj_sipush (pc' := 7) dX12_whySend_4 rfl ksipush_133 ?_
  refine zj_iload_n (pc' := 8) 1 dX12_whySend_7 rfl rfl rfl ?_
  refine zj_iadd (pc' := 9) dX12_whySend_8 rfl ?_
  obtain ⟨v1, hv1, hy⟩ := zt_b hy
  refine zj_rdi (pc' := 10) dX12_whySend_9 rfl sh188 e_i188 hv1 ?_
  refine zj_if_le (tgt := 15) (pc' := 13) dX12_whySend_10 rfl (by decide) (fun c2 => ?_) (fun c2 => ?_)
  · have hy := zt_t hy c2
    refine zj_aload_n (pc' := 16) 0 dX12_whySend_15 rfl rfl rfl ?_
    refine zj_getR (pc' := 19) (j := 188) dX12_whySend_16 rfl flX12_33 sh186 rfl ?_
    refine zj_sipush (pc' := 22) dX12_whySend_19 rfl ksipush_145 ?_
    refine zj_iload_n (pc' := 23) 1 dX12_whySend_22 rfl rfl rfl ?_
    refine zj_iadd (pc' := 24) dX12_whySend_23 rfl ?_
    obtain ⟨v3, hv3, hy⟩ := zt_b hy
    refine zj_rdi (pc' := 25) dX12_whySend_24 rfl sh188 e_i188 hv3 ?_
    refine zj_istore_n (pc' := 26) (L' := [(3, .int v3), (0, .ref (zad Γ 186)), (1, .int a1), (2, .int a2)]) dX12_whySend_25 rfl rfl (by decide) rfl ?_
    refine zj_iload_n (pc' := 27) 0 dX12_whySend_26 rfl rfl rfl ?_
    refine zj_bipush (pc' := 29) dX12_whySend_27 rfl kbipush_8 ?_
    refine zj_icmp_ne (tgt := 34) (pc' := 32) dX12_whySend_29 rfl (by decide) (fun c4 => ?_) (fun c4 => ?_)
    · have hy := zt_f hy c4
      refine zj_aload_n (pc' := 35) 1 dX12_whySend_34 rfl rfl rfl ?_
      refine zj_iload_n (pc' := 36) 0 dX12_whySend_35 rfl rfl rfl ?_
      refine zj_if_ne (tgt := 51) (pc' := 39) dX12_whySend_36 rfl (by decide) (fun c5 => ?_) (fun c5 => ?_)
      · have hy := zt_f hy c5
        refine zj_aload_n (pc' := 52) 1 dX12_whySend_51 rfl rfl rfl ?_
        refine zj_getR (pc' := 55) (j := 188) dX12_whySend_52 rfl flX12_33 sh186 rfl ?_
        refine zj_sipush (pc' := 58) dX12_whySend_55 rfl ksipush_151 ?_
        refine zj_bipush (pc' := 60) dX12_whySend_58 rfl kbipush_8 ?_
        refine zj_iload_n (pc' := 61) 2 dX12_whySend_60 rfl rfl rfl ?_
        refine zj_imul (pc' := 62) dX12_whySend_61 rfl ?_
        refine zj_iadd (pc' := 63) dX12_whySend_62 rfl ?_
        refine zj_iload_n (pc' := 64) 0 dX12_whySend_63 rfl rfl rfl ?_
        refine zj_iadd (pc' := 65) dX12_whySend_64 rfl ?_
        refine zj_iconst (pc' := 66) dX12_whySend_65 rfl kiconst_1 ?_
        refine zj_isub (pc' := 67) dX12_whySend_66 rfl ?_
        obtain ⟨v10, hv10, hy⟩ := zt_b hy
        refine zj_rdi (pc' := 68) dX12_whySend_67 rfl sh188 e_i188 hv10 ?_
        refine zj_iload_n (pc' := 69) 3 dX12_whySend_68 rfl rfl rfl ?_
        obtain ⟨y11, hy11, hy⟩ := zt_b hy
        refine zj_V1 (pc' := 72) (z := YX12_isBeside) (As := [.int v10, .int a2]) (N := M) dX12_whySend_69 rfl mlX12_259 lkX12_isBeside sh186 ⟨_, _, rfl⟩ rfl rfl (Nat.le_of_ble_eq_true rfl) (Nat.le_of_ble_eq_true rfl) (LX12_isBeside_186 Γ _ r0_6 e_i188 v10 a2 hy11) rfl ?_
        have HJ12 : zR Γ 3 YX12_whySend 80 [(3, .int v3), (0, .ref (zad Γ 186)), (1, .int a1), (2, .int a2)] [.int (if y11 = true then (0 : Int32) else (3 : Int32))] M Q := by
          have e9 := Option.some.inj hy
          subst e9
          exact zj_iret dX12_whySend_80 rfl hq
        refine zj_bif_eq (tgt := 79) (pc' := 75) dX12_whySend_72 rfl (by decide) (fun c13 => ?_) (fun c13 => ?_)
        · refine zj_iconst (pc' := 80) dX12_whySend_79 rfl kiconst_3 ?_
          exact zj_eqi (if_neg c13) HJ12
        · refine zj_iconst (pc' := 76) dX12_whySend_75 rfl kiconst_0 ?_
          refine zj_goto (tgt := 80) dX12_whySend_76 (by decide) ?_
          exact zj_eqi (if_pos c13) HJ12
      · have hy := zt_t hy c5
        refine zj_aload_n (pc' := 40) 1 dX12_whySend_39 rfl rfl rfl ?_
        refine zj_getR (pc' := 43) (j := 188) dX12_whySend_40 rfl flX12_33 sh186 rfl ?_
        refine zj_bipush (pc' := 45) dX12_whySend_43 rfl kbipush_91 ?_
        refine zj_iload_n (pc' := 46) 2 dX12_whySend_45 rfl rfl rfl ?_
        refine zj_iadd (pc' := 47) dX12_whySend_46 rfl ?_
        obtain ⟨v6, hv6, hy⟩ := zt_b hy
        refine zj_rdi (pc' := 48) dX12_whySend_47 rfl sh188 e_i188 hv6 ?_
        refine zj_goto (tgt := 68) dX12_whySend_48 (by decide) ?_
        refine zj_iload_n (pc' := 69) 3 dX12_whySend_68 rfl rfl rfl ?_
        obtain ⟨y7, hy7, hy⟩ := zt_b hy
        refine zj_V1 (pc' := 72) (z := YX12_isBeside) (As := [.int v6, .int a2]) (N := M) dX12_whySend_69 rfl mlX12_259 lkX12_isBeside sh186 ⟨_, _, rfl⟩ rfl rfl (Nat.le_of_ble_eq_true rfl) (Nat.le_of_ble_eq_true rfl) (LX12_isBeside_186 Γ _ r0_6 e_i188 v6 a2 hy7) rfl ?_
        have HJ8 : zR Γ 3 YX12_whySend 80 [(3, .int v3), (0, .ref (zad Γ 186)), (1, .int a1), (2, .int a2)] [.int (if y7 = true then (0 : Int32) else (3 : Int32))] M Q := by
          have e9 := Option.some.inj hy
          subst e9
          exact zj_iret dX12_whySend_80 rfl hq
        refine zj_bif_eq (tgt := 79) (pc' := 75) dX12_whySend_72 rfl (by decide) (fun c9 => ?_) (fun c9 => ?_)
        · refine zj_iconst (pc' := 80) dX12_whySend_79 rfl kiconst_3 ?_
          exact zj_eqi (if_neg c9) HJ8
        · refine zj_iconst (pc' := 76) dX12_whySend_75 rfl kiconst_0 ?_
          refine zj_goto (tgt := 80) dX12_whySend_76 (by decide) ?_
          exact zj_eqi (if_pos c9) HJ8
    · have hy := zt_t hy c4
      refine zj_iconst (pc' := 33) dX12_whySend_32 rfl kiconst_2 ?_
      have e9 := Option.some.inj hy
      subst e9
      exact zj_iret dX12_whySend_33 rfl hq
  · have hy := zt_f hy c2
    refine zj_iconst (pc' := 14) dX12_whySend_13 rfl kiconst_1 ?_
    have e9 := Option.some.inj hy
    subst e9
    exact zj_iret dX12_whySend_14 rfl hq
set_option maxRecDepth 20000 in
theorem LX12_whySend_186 (Γ : zG) (M : zM) (r0_6 : Nat → Int32) (e_i188 : M.1 188 = r0_6) (a1 : Int32) (a2 : Int32) {res : Int32} (hy : (fM_whySend r0_6 a1 a2) = some res) : zK Γ 3 YX12_whySend [.ref (zad Γ 186), .int a1, .int a2] M (fun v N => v = some (.int res) ∧ N = M) :=
  zK_of (by decide) (Nat.le_of_ble_eq_true rfl) (TX12_whySend_186 Γ M r0_6 e_i188 a1 a2 hy ⟨rfl, rfl⟩)

noncomputable def fM_keep_L47 (r0_6 : Nat → Int32) (r0v1 : Nat → Int32) (r0_22v3 : Nat → Int32) (x4 : Int32) : Option (((Nat → Int32) × Int32) ⊕ ((Nat → Int32))) :=
  (if 127 ≤ x4 then
  some (.inr r0_22v3)
  else
  (zrd r0_6 397 (89 + x4)).bind (fun (v13 : Int32) =>
  (zwr r0_22v3 1016 ((127 * (r0v1 24)) + x4) v13).bind (fun (r0_22v14 : Nat → Int32) =>
  zlet (x4 + 1) (fun (x15 : Int32) =>
  some (.inl (r0_22v14, x15))))))
noncomputable def fM_keep_L11 (r0_22v20 : Nat → Int32) (x21 : Int32) : Option (((Nat → Int32) × Int32) ⊕ ((Nat → Int32))) :=
  (if 889 ≤ x21 then
  some (.inr r0_22v20)
  else
  (zrd r0_22v20 1016 (x21 + 127)).bind (fun (v30 : Int32) =>
  (zwr r0_22v20 1016 x21 v30).bind (fun (r0_22v31 : Nat → Int32) =>
  zlet (x21 + 1) (fun (x32 : Int32) =>
  some (.inl (r0_22v31, x32))))))
noncomputable def fM_keep (r0 : Nat → Int32) (r0_6 : Nat → Int32) (r0_22 : Nat → Int32) : Option ((Nat → Int32) × (Nat → Int32)) :=
  zlet (fun (r0v1 : Nat → Int32) (r0_22v2 : Nat → Int32) =>
  (zLP (fun s => fM_keep_L47 r0_6 r0v1 s.1 s.2) (r0_22v2, 0)).bind (fun r7 =>
  zlet (zup r0v1 24 ((r0v1 24) + 1)) (fun (r0v17 : Nat → Int32) =>
  some (r0v17, r7)))) (fun J18 =>
  (if (r0 24) = 8 then
  (zLP (fun s => fM_keep_L11 s.1 s.2) (r0_22, 0)).bind (fun r24 =>
  zlet (zup r0 24 7) (fun (r0v34 : Nat → Int32) =>
  J18 r0v34 r24))
  else
  J18 r0 r0_22))

set_option maxRecDepth 20000 in
theorem TX12_keep_186 (Γ : zG) {Q : Option Value → zM → Prop} (M : zM) (r0 : Nat → Int32) (r0_6 : Nat → Int32) (r0_22 : Nat → Int32) (e_i186 : M.1 186 = r0) (e_i188 : M.1 188 = r0_6) (e_i195 : M.1 195 = r0_22)  {res : (Nat → Int32) × (Nat → Int32)} (hy : (fM_keep r0 r0_6 r0_22) = some res) (hq : Q none (zui (zui M 186 res.1) 195 res.2)) : zR Γ 1 YX12_keep 0 [(0, .ref (zad Γ 186))] [] M Q := by
  unfold fM_keep at hy
  refine zj_aload_n (pc' := 1) 0 dX12_keep_0 rfl rfl rfl ?_
  refine zj_fI (pc' := 4) dX12_keep_1 rfl flX12_256 sh186 rfl e_i186 rfl ?_
  refine zj_bipush (pc' := 6) dX12_keep_4 rfl kbipush_8 ?_
  obtain ⟨J18, eJ18, hy⟩ := zlet_ex hy
  have HJ18 : ∀ (r0v1 : Nat → Int32) (r0_22v2 : Nat → Int32), J18 r0v1 r0_22v2 = some res → zR Γ 1 YX12_keep 45 [(0, .ref (zad Γ 186))] [] (zui (zui M 186 r0v1) 195 r0_22v2) Q := by
    intro r0v1 r0_22v2 hy
    have hy := zap2 eJ18 hy
    refine zj_iconst (pc' := 46) dX12_keep_45 rfl kiconst_0 ?_
    refine zj_istore_n (pc' := 47) (L' := [(1, .int 0), (0, .ref (zad Γ 186))]) dX12_keep_46 rfl rfl (by decide) rfl ?_
    refine zj_loc [1, 0] rfl ?_
    obtain ⟨r7, hr9, hyo8⟩ := zt_b hy
    obtain ⟨n9, hn9⟩ := zLP_some hr9
    have HE5 : ∀ (r0_22v16 : Nat → Int32), r7 = r0_22v16 → zR Γ 1 YX12_keep 82 [(0, .ref (zad Γ 186))] [] (zui (zui M 186 r0v1) 195 r0_22v16) Q := by
      intro r0_22v16 e9
      have hy := hyo8
      try rw [e9] at hy
      try dsimp only at hy
      refine zj_aload_n (pc' := 83) 0 dX12_keep_82 rfl rfl rfl ?_
      refine zj_dup (pc' := 84) dX12_keep_83 rfl rfl ?_
      refine zj_fI (pc' := 87) dX12_keep_84 rfl flX12_256 sh186 rfl (zr_n rfl zr_s) rfl ?_
      refine zj_iconst (pc' := 88) dX12_keep_87 rfl kiconst_1 ?_
      refine zj_iadd (pc' := 89) dX12_keep_88 rfl ?_
      obtain ⟨r0v17, er0v17⟩ : ∃ z, z = (zup r0v1 24 ((r0v1 24) + 1)) := ⟨_, rfl⟩
      have hy := zlet_at er0v17 hy
      refine zj_pI (pc' := 92) (N := (zui (zui M 186 r0v17) 195 r0_22v16)) dX12_keep_89 rfl fpX12_256 sh186 rfl (zr_n rfl zr_s) er0v17 (zm_n rfl zm_s) ?_
      have e9 := Option.some.inj hy
      subst e9
      exact zj_vret dX12_keep_92 rfl hq
    have HL6 : ∀ (n : Nat) (r0_22v3 : Nat → Int32) (x4 : Int32), zlp (fun s => fM_keep_L47 r0_6 r0v1 s.1 s.2) n (r0_22v3, x4) = some r7 → zR Γ 1 YX12_keep 47 [(0, .ref (zad Γ 186)), (1, .int x4)] [] (zui (zui M 186 r0v1) 195 r0_22v3) Q := by
      intro n
      induction n with
      | zero => intro r0_22v3 x4 hn9; cases hn9
      | succ n ih9 =>
        intro r0_22v3 x4 hn9
        obtain ⟨o9, hb9, h10, h11⟩ := zlp_step hn9
        have hy : fM_keep_L47 r0_6 r0v1 r0_22v3 x4 = some o9 := hb9
        unfold fM_keep_L47 at hy
        refine zj_iload_n (pc' := 48) 1 dX12_keep_47 rfl rfl rfl ?_
        refine zj_bipush (pc' := 50) dX12_keep_48 rfl kbipush_127 ?_
        refine zj_icmp_ge (tgt := 82) (pc' := 53) dX12_keep_50 rfl (by decide) (fun c12 => ?_) (fun c12 => ?_)
        · have hy := zt_t hy c12
          have e9 := h11 _ (Option.some.inj hy).symm
          refine zj_loc [0] rfl ?_
          exact HE5 _ e9.symm
        · have hy := zt_f hy c12
          refine zj_aload_n (pc' := 54) 0 dX12_keep_53 rfl rfl rfl ?_
          refine zj_getR (pc' := 57) (j := 195) dX12_keep_54 rfl flX12_56 sh186 rfl ?_
          refine zj_bipush (pc' := 59) dX12_keep_57 rfl kbipush_127 ?_
          refine zj_aload_n (pc' := 60) 0 dX12_keep_59 rfl rfl rfl ?_
          refine zj_fI (pc' := 63) dX12_keep_60 rfl flX12_256 sh186 rfl (zr_n rfl zr_s) rfl ?_
          refine zj_imul (pc' := 64) dX12_keep_63 rfl ?_
          refine zj_iload_n (pc' := 65) 1 dX12_keep_64 rfl rfl rfl ?_
          refine zj_iadd (pc' := 66) dX12_keep_65 rfl ?_
          refine zj_aload_n (pc' := 67) 0 dX12_keep_66 rfl rfl rfl ?_
          refine zj_getR (pc' := 70) (j := 188) dX12_keep_67 rfl flX12_33 sh186 rfl ?_
          refine zj_bipush (pc' := 72) dX12_keep_70 rfl kbipush_89 ?_
          refine zj_iload_n (pc' := 73) 1 dX12_keep_72 rfl rfl rfl ?_
          refine zj_iadd (pc' := 74) dX12_keep_73 rfl ?_
          obtain ⟨v13, hv13, hy⟩ := zt_b hy
          refine zj_rdi (pc' := 75) dX12_keep_74 rfl sh188 (zr_n rfl (zr_n rfl e_i188)) hv13 ?_
          obtain ⟨r0_22v14, hr0_22v14, hy⟩ := zt_b hy
          refine zj_wri (pc' := 76) (N := (zui (zui M 186 r0v1) 195 r0_22v14)) dX12_keep_75 rfl sh195 zr_s hr0_22v14 zm_s ?_
          obtain ⟨x15, ex15⟩ : ∃ z : Int32, z = (x4 + 1) := ⟨_, rfl⟩
          have hy := zlet_at ex15 hy
          refine zj_iinc (pc' := 79) 1 (L' := [(1, .int x15), (0, .ref (zad Γ 186))]) dX12_keep_76 rfl rfl (by decide) (by rw [ci1, ← ex15]; rfl) ?_
          refine zj_goto (tgt := 47) dX12_keep_79 (by decide) ?_
          have hn9 := h10 _ (Option.some.inj hy).symm
          refine zj_loc [1, 0] rfl ?_
          exact ih9 _ _ hn9
    exact HL6 n9 _ _ hn9
  refine zj_icmp_ne (tgt := 45) (pc' := 9) dX12_keep_6 rfl (by decide) (fun c19 => ?_) (fun c19 => ?_)
  · have hy := zt_f hy c19
    refine zj_mem (N := (zui M 186 r0)) (zself_i e_i186 rfl) ?_
    refine zj_mem (N := (zui (zui M 186 r0) 195 r0_22)) (zself_i (zr_n rfl e_i195) rfl) ?_
    exact HJ18 r0 r0_22 hy
  · have hy := zt_t hy c19
    refine zj_iconst (pc' := 10) dX12_keep_9 rfl kiconst_0 ?_
    refine zj_istore_n (pc' := 11) (L' := [(1, .int 0), (0, .ref (zad Γ 186))]) dX12_keep_10 rfl rfl (by decide) rfl ?_
    refine zj_loc [1, 0] rfl ?_
    refine zj_mem (N := (zui M 195 r0_22)) (zself_i e_i195 rfl) ?_
    obtain ⟨r24, hr9, hyo25⟩ := zt_b hy
    obtain ⟨n9, hn9⟩ := zLP_some hr9
    have HE22 : ∀ (r0_22v33 : Nat → Int32), r24 = r0_22v33 → zR Γ 1 YX12_keep 39 [(0, .ref (zad Γ 186))] [] (zui M 195 r0_22v33) Q := by
      intro r0_22v33 e9
      have hy := hyo25
      try rw [e9] at hy
      try dsimp only at hy
      refine zj_aload_n (pc' := 40) 0 dX12_keep_39 rfl rfl rfl ?_
      refine zj_bipush (pc' := 42) dX12_keep_40 rfl kbipush_7 ?_
      obtain ⟨r0v34, er0v34⟩ : ∃ z, z = (zup r0 24 7) := ⟨_, rfl⟩
      have hy := zlet_at er0v34 hy
      refine zj_pI (pc' := 45) (N := (zui (zui M 186 r0v34) 195 r0_22v33)) dX12_keep_42 rfl fpX12_256 sh186 rfl (zr_n rfl e_i186) er0v34 (zm_n rfl rfl) ?_
      exact HJ18 r0v34 r0_22v33 hy
    have HL23 : ∀ (n : Nat) (r0_22v20 : Nat → Int32) (x21 : Int32), zlp (fun s => fM_keep_L11 s.1 s.2) n (r0_22v20, x21) = some r24 → zR Γ 1 YX12_keep 11 [(0, .ref (zad Γ 186)), (1, .int x21)] [] (zui M 195 r0_22v20) Q := by
      intro n
      induction n with
      | zero => intro r0_22v20 x21 hn9; cases hn9
      | succ n ih26 =>
        intro r0_22v20 x21 hn9
        obtain ⟨o9, hb9, h27, h28⟩ := zlp_step hn9
        have hy : fM_keep_L11 r0_22v20 x21 = some o9 := hb9
        unfold fM_keep_L11 at hy
        refine zj_iload_n (pc' := 12) 1 dX12_keep_11 rfl rfl rfl ?_
        refine zj_sipush (pc' := 15) dX12_keep_12 rfl ksipush_889 ?_
        refine zj_icmp_ge (tgt := 39) (pc' := 18) dX12_keep_15 rfl (by decide) (fun c29 => ?_) (fun c29 => ?_)
        · have hy := zt_t hy c29
          have e9 := h28 _ (Option.some.inj hy).symm
          refine zj_loc [0] rfl ?_
          exact HE22 _ e9.symm
        · have hy := zt_f hy c29
          refine zj_aload_n (pc' := 19) 0 dX12_keep_18 rfl rfl rfl ?_
          refine zj_getR (pc' := 22) (j := 195) dX12_keep_19 rfl flX12_56 sh186 rfl ?_
          refine zj_iload_n (pc' := 23) 1 dX12_keep_22 rfl rfl rfl ?_
          refine zj_aload_n (pc' := 24) 0 dX12_keep_23 rfl rfl rfl ?_
          refine zj_getR (pc' := 27) (j := 195) dX12_keep_24 rfl flX12_56 sh186 rfl ?_
          refine zj_iload_n (pc' := 28) 1 dX12_keep_27 rfl rfl rfl ?_
          refine zj_bipush (pc' := 30) dX12_keep_28 rfl kbipush_127 ?_
          refine zj_iadd (pc' := 31) dX12_keep_30 rfl ?_
          obtain ⟨v30, hv30, hy⟩ := zt_b hy
          refine zj_rdi (pc' := 32) dX12_keep_31 rfl sh195 zr_s hv30 ?_
          obtain ⟨r0_22v31, hr0_22v31, hy⟩ := zt_b hy
          refine zj_wri (pc' := 33) (N := (zui M 195 r0_22v31)) dX12_keep_32 rfl sh195 zr_s hr0_22v31 zm_s ?_
          obtain ⟨x32, ex32⟩ : ∃ z : Int32, z = (x21 + 1) := ⟨_, rfl⟩
          have hy := zlet_at ex32 hy
          refine zj_iinc (pc' := 36) 1 (L' := [(1, .int x32), (0, .ref (zad Γ 186))]) dX12_keep_33 rfl rfl (by decide) (by rw [ci1, ← ex32]; rfl) ?_
          refine zj_goto (tgt := 11) dX12_keep_36 (by decide) ?_
          have hn9 := h27 _ (Option.some.inj hy).symm
          refine zj_loc [1, 0] rfl ?_
          exact ih26 _ _ hn9
    exact HL23 n9 _ _ hn9
set_option maxRecDepth 20000 in
theorem LX12_keep_186 (Γ : zG) (M : zM) (r0 : Nat → Int32) (r0_6 : Nat → Int32) (r0_22 : Nat → Int32) (e_i186 : M.1 186 = r0) (e_i188 : M.1 188 = r0_6) (e_i195 : M.1 195 = r0_22)  {res : (Nat → Int32) × (Nat → Int32)} (hy : (fM_keep r0 r0_6 r0_22) = some res) : zK Γ 1 YX12_keep [.ref (zad Γ 186)] M (fun v N => v = none ∧ N = (zui (zui M 186 res.1) 195 res.2)) :=
  zK_of (by decide) (Nat.le_of_ble_eq_true rfl) (TX12_keep_186 Γ M r0 r0_6 r0_22 e_i186 e_i188 e_i195 hy ⟨rfl, rfl⟩)

noncomputable def fM_sends (r0_6 : Nat → Int32) (a1 : Int32) (a2 : Int32) : Option ((Nat → Int32)) :=
  (zrd r0_6 397 (145 + a1)).bind (fun (v1 : Int32) =>
  (zwr r0_6 397 ((151 + (8 * a1)) + v1) a2).bind (fun (r0_6v2 : Nat → Int32) =>
  (zrd r0_6v2 397 (145 + a1)).bind (fun (v3 : Int32) =>
  (zwr r0_6v2 397 (145 + a1) (v3 + 1)).bind (fun (r0_6v4 : Nat → Int32) =>
  some r0_6v4))))

set_option maxRecDepth 20000 in
theorem TX12_sends_186 (Γ : zG) {Q : Option Value → zM → Prop} (M : zM) (r0_6 : Nat → Int32) (e_i188 : M.1 188 = r0_6) (a1 : Int32) (a2 : Int32) {res : (Nat → Int32)} (hy : (fM_sends r0_6 a1 a2) = some res) (hq : Q none (zui M 188 res)) : zR Γ 1 YX12_sends 0 [(0, .ref (zad Γ 186)), (1, .int a1), (2, .int a2)] [] M Q := by
  unfold fM_sends at hy
  refine zj_aload_n (pc' := 1) 0 dX12_sends_0 rfl rfl rfl ?_
  refine zj_getR (pc' := 4) (j := 188) dX12_sends_1 rfl flX12_33 sh186 rfl ?_
  refine zj_sipush (pc' := 7) dX12_sends_4 rfl ksipush_151 ?_
  refine zj_bipush (pc' := 9) dX12_sends_7 rfl kbipush_8 ?_
  refine zj_iload_n (pc' := 10) 1 dX12_sends_9 rfl rfl rfl ?_
  refine zj_imul (pc' := 11) dX12_sends_10 rfl ?_
  refine zj_iadd (pc' := 12) dX12_sends_11 rfl ?_
  refine zj_aload_n (pc' := 13) 0 dX12_sends_12 rfl rfl rfl ?_
  refine zj_getR (pc' := 16) (j := 188) dX12_sends_13 rfl flX12_33 sh186 rfl ?_
  refine zj_sipush (pc' := 19) dX12_sends_16 rfl ksipush_145 ?_
  refine zj_iload_n (pc' := 20) 1 dX12_sends_19 rfl rfl rfl ?_
  refine zj_iadd (pc' := 21) dX12_sends_20 rfl ?_
  obtain ⟨v1, hv1, hy⟩ := zt_b hy
  refine zj_rdi (pc' := 22) dX12_sends_21 rfl sh188 e_i188 hv1 ?_
  refine zj_iadd (pc' := 23) dX12_sends_22 rfl ?_
  refine zj_iload_n (pc' := 24) 2 dX12_sends_23 rfl rfl rfl ?_
  obtain ⟨r0_6v2, hr0_6v2, hy⟩ := zt_b hy
  refine zj_wri (pc' := 25) (N := (zui M 188 r0_6v2)) dX12_sends_24 rfl sh188 e_i188 hr0_6v2 rfl ?_
  refine zj_aload_n (pc' := 26) 0 dX12_sends_25 rfl rfl rfl ?_
  refine zj_getR (pc' := 29) (j := 188) dX12_sends_26 rfl flX12_33 sh186 rfl ?_
  refine zj_sipush (pc' := 32) dX12_sends_29 rfl ksipush_145 ?_
  refine zj_iload_n (pc' := 33) 1 dX12_sends_32 rfl rfl rfl ?_
  refine zj_iadd (pc' := 34) dX12_sends_33 rfl ?_
  refine zj_dup2 (pc' := 35) dX12_sends_34 rfl rfl rfl ?_
  obtain ⟨v3, hv3, hy⟩ := zt_b hy
  refine zj_rdi (pc' := 36) dX12_sends_35 rfl sh188 zr_s hv3 ?_
  refine zj_iconst (pc' := 37) dX12_sends_36 rfl kiconst_1 ?_
  refine zj_iadd (pc' := 38) dX12_sends_37 rfl ?_
  obtain ⟨r0_6v4, hr0_6v4, hy⟩ := zt_b hy
  refine zj_wri (pc' := 39) (N := (zui M 188 r0_6v4)) dX12_sends_38 rfl sh188 zr_s hr0_6v4 zm_s ?_
  have e9 := Option.some.inj hy
  subst e9
  exact zj_vret dX12_sends_39 rfl hq
set_option maxRecDepth 20000 in
theorem LX12_sends_186 (Γ : zG) (M : zM) (r0_6 : Nat → Int32) (e_i188 : M.1 188 = r0_6) (a1 : Int32) (a2 : Int32) {res : (Nat → Int32)} (hy : (fM_sends r0_6 a1 a2) = some res) : zK Γ 1 YX12_sends [.ref (zad Γ 186), .int a1, .int a2] M (fun v N => v = none ∧ N = (zui M 188 res)) :=
  zK_of (by decide) (Nat.le_of_ble_eq_true rfl) (TX12_sends_186 Γ M r0_6 e_i188 a1 a2 hy ⟨rfl, rfl⟩)

noncomputable def fM_send (r0 : Nat → Int32) (r0_6 : Nat → Int32) (r0_22 : Nat → Int32) (a1 : Int32) (a2 : Int32) : Option (Int32 × (Nat → Int32) × (Nat → Int32) × (Nat → Int32)) :=
  zlet (zup r0 0 0) (fun (r0v1 : Nat → Int32) =>
  (fM_isPerson r0_6 a1).bind (fun (y2 : Bool) =>
  (if y2 = true then
  (fM_isCorner r0_6 a2).bind (fun (y4 : Bool) =>
  (if y4 = true then
  (fM_whySend r0_6 a1 a2).bind (fun (y6 : Int32) =>
  (if y6 ≤ 0 then
  (fM_keep r0v1 r0_6 r0_22).bind (fun (y8 : (Nat → Int32) × (Nat → Int32)) =>
  (fM_sends r0_6 a1 a2).bind (fun (y9 : (Nat → Int32)) =>
  some (0, y8.1, y9, y8.2)))
  else
  some (y6, r0v1, r0_6, r0_22)))
  else
  some ((-1), r0v1, r0_6, r0_22)))
  else
  some ((-1), r0v1, r0_6, r0_22))))

set_option maxRecDepth 20000 in
theorem TX12_send_186 (Γ : zG) {Q : Option Value → zM → Prop} (M : zM) (r0 : Nat → Int32) (r0_6 : Nat → Int32) (r0_22 : Nat → Int32) (e_i186 : M.1 186 = r0) (e_i188 : M.1 188 = r0_6) (e_i195 : M.1 195 = r0_22) (a1 : Int32) (a2 : Int32) {res : Int32 × (Nat → Int32) × (Nat → Int32) × (Nat → Int32)} (hy : (fM_send r0 r0_6 r0_22 a1 a2) = some res) (hq : Q (some (.int res.1)) (zui (zui (zui M 186 res.2.1) 188 res.2.2.1) 195 res.2.2.2)) : zR Γ 4 YX12_send 0 [(0, .ref (zad Γ 186)), (1, .int a1), (2, .int a2)] [] M Q := by
  unfold fM_send at hy
  refine zj_aload_n (pc' := 1) 0 dX12_send_0 rfl rfl rfl ?_
  refine zj_iconst (pc' := 2) dX12_send_1 rfl kiconst_0 ?_
  obtain ⟨r0v1, er0v1⟩ : ∃ z, z = (zup r0 0 0) := ⟨_, rfl⟩
  have hy := zlet_at er0v1 hy
  refine zj_pI (pc' := 5) (N := (zui M 186 r0v1)) dX12_send_2 rfl fpX12_1 sh186 rfl e_i186 er0v1 rfl ?_
  refine zj_aload_n (pc' := 6) 0 dX12_send_5 rfl rfl rfl ?_
  refine zj_iload_n (pc' := 7) 1 dX12_send_6 rfl rfl rfl ?_
  obtain ⟨y2, hy2, hy⟩ := zt_b hy
  refine zj_V1 (pc' := 10) (z := YX12_isPerson) (As := [.int a1]) (N := (zui M 186 r0v1)) dX12_send_7 rfl mlX12_270 lkX12_isPerson sh186 ⟨_, _, rfl⟩ rfl rfl (Nat.le_of_ble_eq_true rfl) (Nat.le_of_ble_eq_true rfl) (LX12_isPerson_186 Γ _ r0_6 (zr_n rfl e_i188) a1 hy2) rfl ?_
  refine zj_bif_eq (tgt := 21) (pc' := 13) dX12_send_10 rfl (by decide) (fun c3 => ?_) (fun c3 => ?_)
  · have hy := zt_f hy c3
    refine zj_iconst (pc' := 22) dX12_send_21 rfl kiconst_m1 ?_
    have e9 := Option.some.inj hy
    subst e9
    refine zj_mem (N := (zui (zui M 186 r0v1) 188 r0_6)) (zself_i (zr_n rfl e_i188) rfl) ?_
    refine zj_mem (N := (zui (zui (zui M 186 r0v1) 188 r0_6) 195 r0_22)) (zself_i (zr_n rfl (zr_n rfl e_i195)) rfl) ?_
    exact zj_iret dX12_send_22 rfl hq
  · have hy := zt_t hy c3
    refine zj_aload_n (pc' := 14) 0 dX12_send_13 rfl rfl rfl ?_
    refine zj_iload_n (pc' := 15) 2 dX12_send_14 rfl rfl rfl ?_
    obtain ⟨y4, hy4, hy⟩ := zt_b hy
    refine zj_V1 (pc' := 18) (z := YX12_isCorner) (As := [.int a2]) (N := (zui M 186 r0v1)) dX12_send_15 rfl mlX12_283 lkX12_isCorner sh186 ⟨_, _, rfl⟩ rfl rfl (Nat.le_of_ble_eq_true rfl) (Nat.le_of_ble_eq_true rfl) (LX12_isCorner_186 Γ _ r0_6 (zr_n rfl e_i188) a2 hy4) rfl ?_
    refine zj_bif_ne (tgt := 23) (pc' := 21) dX12_send_18 rfl (by decide) (fun c5 => ?_) (fun c5 => ?_)
    · have hy := zt_t hy c5
      refine zj_aload_n (pc' := 24) 0 dX12_send_23 rfl rfl rfl ?_
      refine zj_iload_n (pc' := 25) 1 dX12_send_24 rfl rfl rfl ?_
      refine zj_iload_n (pc' := 26) 2 dX12_send_25 rfl rfl rfl ?_
      obtain ⟨y6, hy6, hy⟩ := zt_b hy
      refine zj_V1 (pc' := 29) (z := YX12_whySend) (As := [.int a1, .int a2]) (N := (zui M 186 r0v1)) dX12_send_26 rfl mlX12_301 lkX12_whySend sh186 ⟨_, _, rfl⟩ rfl rfl (Nat.le_of_ble_eq_true rfl) (Nat.le_of_ble_eq_true rfl) (LX12_whySend_186 Γ _ r0_6 (zr_n rfl e_i188) a1 a2 hy6) rfl ?_
      refine zj_istore_n (pc' := 30) (L' := [(3, .int y6), (0, .ref (zad Γ 186)), (1, .int a1), (2, .int a2)]) dX12_send_29 rfl rfl (by decide) rfl ?_
      refine zj_iload_n (pc' := 31) 0 dX12_send_30 rfl rfl rfl ?_
      refine zj_if_le (tgt := 36) (pc' := 34) dX12_send_31 rfl (by decide) (fun c7 => ?_) (fun c7 => ?_)
      · have hy := zt_t hy c7
        refine zj_aload_n (pc' := 37) 1 dX12_send_36 rfl rfl rfl ?_
        obtain ⟨y8, hy8, hy⟩ := zt_b hy
        refine zj_V0 (pc' := 40) (z := YX12_keep) (As := []) (N := (zui (zui M 186 y8.1) 195 y8.2)) dX12_send_37 rfl mlX12_304 lkX12_keep sh186 ⟨_, _, rfl⟩ rfl rfl (Nat.le_of_ble_eq_true rfl) (Nat.le_of_ble_eq_true rfl) (LX12_keep_186 Γ _ r0v1 r0_6 r0_22 zr_s (zr_n rfl e_i188) (zr_n rfl e_i195) hy8) ((zch_i zm_s rfl)).symm ?_
        refine zj_aload_n (pc' := 41) 1 dX12_send_40 rfl rfl rfl ?_
        refine zj_iload_n (pc' := 42) 2 dX12_send_41 rfl rfl rfl ?_
        refine zj_iload_n (pc' := 43) 3 dX12_send_42 rfl rfl rfl ?_
        obtain ⟨y9, hy9, hy⟩ := zt_b hy
        refine zj_V0 (pc' := 46) (z := YX12_sends) (As := [.int a1, .int a2]) (N := (zui (zui (zui M 186 y8.1) 188 y9) 195 y8.2)) dX12_send_43 rfl mlX12_307 lkX12_sends sh186 ⟨_, _, rfl⟩ rfl rfl (Nat.le_of_ble_eq_true rfl) (Nat.le_of_ble_eq_true rfl) (LX12_sends_186 Γ _ r0_6 (zr_n rfl (zr_n rfl e_i188)) a1 a2 hy9) ((zm_n rfl rfl)).symm ?_
        refine zj_iconst (pc' := 47) dX12_send_46 rfl kiconst_0 ?_
        have e9 := Option.some.inj hy
        subst e9
        exact zj_iret dX12_send_47 rfl hq
      · have hy := zt_f hy c7
        refine zj_iload_n (pc' := 35) 0 dX12_send_34 rfl rfl rfl ?_
        have e9 := Option.some.inj hy
        subst e9
        refine zj_mem (N := (zui (zui M 186 r0v1) 188 r0_6)) (zself_i (zr_n rfl e_i188) rfl) ?_
        refine zj_mem (N := (zui (zui (zui M 186 r0v1) 188 r0_6) 195 r0_22)) (zself_i (zr_n rfl (zr_n rfl e_i195)) rfl) ?_
        exact zj_iret dX12_send_35 rfl hq
    · have hy := zt_f hy c5
      refine zj_iconst (pc' := 22) dX12_send_21 rfl kiconst_m1 ?_
      have e9 := Option.some.inj hy
      subst e9
      refine zj_mem (N := (zui (zui M 186 r0v1) 188 r0_6)) (zself_i (zr_n rfl e_i188) rfl) ?_
      refine zj_mem (N := (zui (zui (zui M 186 r0v1) 188 r0_6) 195 r0_22)) (zself_i (zr_n rfl (zr_n rfl e_i195)) rfl) ?_
      exact zj_iret dX12_send_22 rfl hq
set_option maxRecDepth 20000 in
theorem LX12_send_186 (Γ : zG) (M : zM) (r0 : Nat → Int32) (r0_6 : Nat → Int32) (r0_22 : Nat → Int32) (e_i186 : M.1 186 = r0) (e_i188 : M.1 188 = r0_6) (e_i195 : M.1 195 = r0_22) (a1 : Int32) (a2 : Int32) {res : Int32 × (Nat → Int32) × (Nat → Int32) × (Nat → Int32)} (hy : (fM_send r0 r0_6 r0_22 a1 a2) = some res) : zK Γ 4 YX12_send [.ref (zad Γ 186), .int a1, .int a2] M (fun v N => v = some (.int res.1) ∧ N = (zui (zui (zui M 186 res.2.1) 188 res.2.2.1) 195 res.2.2.2)) :=
  zK_of (by decide) (Nat.le_of_ble_eq_true rfl) (TX12_send_186 Γ M r0 r0_6 r0_22 e_i186 e_i188 e_i195 a1 a2 hy ⟨rfl, rfl⟩)

noncomputable def fDy_bunsOf (r0_1 : Nat → Int32) (a1 : Int32) : Option (Int32) :=
  (if (fDy_mayBe a1) = true then
  (zrd r0_1 6 a1).bind (fun (v2 : Int32) =>
  some v2)
  else
  some 0)

set_option maxRecDepth 20000 in
theorem TX1_bunsOf_25 (Γ : zG) {Q : Option Value → zM → Prop} (M : zM) (r0_1 : Nat → Int32) (e_i27 : M.1 27 = r0_1) (a1 : Int32) {res : Int32} (hy : (fDy_bunsOf r0_1 a1) = some res) (hq : Q (some (.int res)) M) : zR Γ 2 YX1_bunsOf 0 [(0, .ref (zad Γ 25)), (1, .int a1)] [] M Q := by
  unfold fDy_bunsOf at hy
  refine zj_iload_n (pc' := 1) 1 dX1_bunsOf_0 rfl rfl rfl ?_
  refine zj_S1 (pc' := 4) (z := YX1_mayBe) (As := [.int a1]) (N := M) dX1_bunsOf_1 rfl mlX1_58 lkX1_mayBe rfl rfl (Nat.le_of_ble_eq_true rfl) (Nat.le_of_ble_eq_true rfl) (LX1_mayBe Γ _ a1 rfl) rfl ?_
  refine zj_bif_eq (tgt := 16) (pc' := 7) dX1_bunsOf_4 rfl (by decide) (fun c1 => ?_) (fun c1 => ?_)
  · have hy := zt_f hy c1
    refine zj_iconst (pc' := 17) dX1_bunsOf_16 rfl kiconst_0 ?_
    have e9 := Option.some.inj hy
    subst e9
    exact zj_iret dX1_bunsOf_17 rfl hq
  · have hy := zt_t hy c1
    refine zj_aload_n (pc' := 8) 0 dX1_bunsOf_7 rfl rfl rfl ?_
    refine zj_getR (pc' := 11) (j := 27) dX1_bunsOf_8 rfl flX1_15 sh25 rfl ?_
    refine zj_iload_n (pc' := 12) 1 dX1_bunsOf_11 rfl rfl rfl ?_
    obtain ⟨v2, hv2, hy⟩ := zt_b hy
    refine zj_rdi (pc' := 13) dX1_bunsOf_12 rfl sh27 e_i27 hv2 ?_
    refine zj_goto (tgt := 17) dX1_bunsOf_13 (by decide) ?_
    have e9 := Option.some.inj hy
    subst e9
    exact zj_iret dX1_bunsOf_17 rfl hq
set_option maxRecDepth 20000 in
theorem LX1_bunsOf_25 (Γ : zG) (M : zM) (r0_1 : Nat → Int32) (e_i27 : M.1 27 = r0_1) (a1 : Int32) {res : Int32} (hy : (fDy_bunsOf r0_1 a1) = some res) : zK Γ 2 YX1_bunsOf [.ref (zad Γ 25), .int a1] M (fun v N => v = some (.int res) ∧ N = M) :=
  zK_of (by decide) (Nat.le_of_ble_eq_true rfl) (TX1_bunsOf_25 Γ M r0_1 e_i27 a1 hy ⟨rfl, rfl⟩)

noncomputable def fDy_dropsBun (r0_0 : Nat → Int32) (r0_1 : Nat → Int32) (r0_6 : Nat → Int32) (a1 : Int32) : Option (Int32 × (Nat → Int32) × (Nat → Int32)) :=
  (fDy_whereIs r0_0 a1).bind (fun (y1 : Int32) =>
  (fDy_bunsOf r0_1 a1).bind (fun (y2 : Int32) =>
  (if y2 < 1 then
  some (1, r0_1, r0_6)
  else
  (if (fDy_mayBe a1) = true then
  (if (fDy_mayBeCorner y1) = true then
  (zrd r0_1 6 a1).bind (fun (v6 : Int32) =>
  (zwr r0_1 6 a1 (v6 - 1)).bind (fun (r0_1v7 : Nat → Int32) =>
  (zrd r0_6 8 y1).bind (fun (v8 : Int32) =>
  (zwr r0_6 8 y1 (v8 + 1)).bind (fun (r0_6v9 : Nat → Int32) =>
  some (0, r0_1v7, r0_6v9)))))
  else
  some (1, r0_1, r0_6))
  else
  some (1, r0_1, r0_6)))))

set_option maxRecDepth 20000 in
theorem TX1_dropsBun_25 (Γ : zG) {Q : Option Value → zM → Prop} (M : zM) (r0_0 : Nat → Int32) (r0_1 : Nat → Int32) (r0_6 : Nat → Int32) (e_i26 : M.1 26 = r0_0) (e_i27 : M.1 27 = r0_1) (e_i32 : M.1 32 = r0_6) (a1 : Int32) {res : Int32 × (Nat → Int32) × (Nat → Int32)} (hy : (fDy_dropsBun r0_0 r0_1 r0_6 a1) = some res) (hq : Q (some (.int res.1)) (zui (zui M 27 res.2.1) 32 res.2.2)) : zR Γ 4 YX1_dropsBun 0 [(0, .ref (zad Γ 25)), (1, .int a1)] [] M Q := by
  unfold fDy_dropsBun at hy
  refine zj_aload_n (pc' := 1) 0 dX1_dropsBun_0 rfl rfl rfl ?_
  refine zj_iload_n (pc' := 2) 1 dX1_dropsBun_1 rfl rfl rfl ?_
  obtain ⟨y1, hy1, hy⟩ := zt_b hy
  refine zj_V1 (pc' := 5) (z := YX1_whereIs) (As := [.int a1]) (N := M) dX1_dropsBun_2 rfl mlX1_88 lkX1_whereIs sh25 ⟨_, _, rfl⟩ rfl rfl (Nat.le_of_ble_eq_true rfl) (Nat.le_of_ble_eq_true rfl) (LX1_whereIs_25 Γ _ r0_0 e_i26 a1 hy1) rfl ?_
  refine zj_istore_n (pc' := 6) (L' := [(2, .int y1), (0, .ref (zad Γ 25)), (1, .int a1)]) dX1_dropsBun_5 rfl rfl (by decide) rfl ?_
  refine zj_aload_n (pc' := 7) 1 dX1_dropsBun_6 rfl rfl rfl ?_
  refine zj_iload_n (pc' := 8) 2 dX1_dropsBun_7 rfl rfl rfl ?_
  obtain ⟨y2, hy2, hy⟩ := zt_b hy
  refine zj_V1 (pc' := 11) (z := YX1_bunsOf) (As := [.int a1]) (N := M) dX1_dropsBun_8 rfl mlX1_96 lkX1_bunsOf sh25 ⟨_, _, rfl⟩ rfl rfl (Nat.le_of_ble_eq_true rfl) (Nat.le_of_ble_eq_true rfl) (LX1_bunsOf_25 Γ _ r0_1 e_i27 a1 hy2) rfl ?_
  refine zj_iconst (pc' := 12) dX1_dropsBun_11 rfl kiconst_1 ?_
  refine zj_icmp_lt (tgt := 29) (pc' := 15) dX1_dropsBun_12 rfl (by decide) (fun c3 => ?_) (fun c3 => ?_)
  · have hy := zt_t hy c3
    refine zj_iconst (pc' := 30) dX1_dropsBun_29 rfl kiconst_1 ?_
    have e9 := Option.some.inj hy
    subst e9
    refine zj_mem (N := (zui M 27 r0_1)) (zself_i e_i27 rfl) ?_
    refine zj_mem (N := (zui (zui M 27 r0_1) 32 r0_6)) (zself_i (zr_n rfl e_i32) rfl) ?_
    exact zj_iret dX1_dropsBun_30 rfl hq
  · have hy := zt_f hy c3
    refine zj_iload_n (pc' := 16) 2 dX1_dropsBun_15 rfl rfl rfl ?_
    refine zj_S1 (pc' := 19) (z := YX1_mayBe) (As := [.int a1]) (N := M) dX1_dropsBun_16 rfl mlX1_58 lkX1_mayBe rfl rfl (Nat.le_of_ble_eq_true rfl) (Nat.le_of_ble_eq_true rfl) (LX1_mayBe Γ _ a1 rfl) rfl ?_
    refine zj_bif_eq (tgt := 29) (pc' := 22) dX1_dropsBun_19 rfl (by decide) (fun c4 => ?_) (fun c4 => ?_)
    · have hy := zt_f hy c4
      refine zj_iconst (pc' := 30) dX1_dropsBun_29 rfl kiconst_1 ?_
      have e9 := Option.some.inj hy
      subst e9
      refine zj_mem (N := (zui M 27 r0_1)) (zself_i e_i27 rfl) ?_
      refine zj_mem (N := (zui (zui M 27 r0_1) 32 r0_6)) (zself_i (zr_n rfl e_i32) rfl) ?_
      exact zj_iret dX1_dropsBun_30 rfl hq
    · have hy := zt_t hy c4
      refine zj_iload_n (pc' := 23) 0 dX1_dropsBun_22 rfl rfl rfl ?_
      refine zj_S1 (pc' := 26) (z := YX1_mayBeCorner) (As := [.int y1]) (N := M) dX1_dropsBun_23 rfl mlX1_66 lkX1_mayBeCorner rfl rfl (Nat.le_of_ble_eq_true rfl) (Nat.le_of_ble_eq_true rfl) (LX1_mayBeCorner Γ _ y1 rfl) rfl ?_
      refine zj_bif_ne (tgt := 31) (pc' := 29) dX1_dropsBun_26 rfl (by decide) (fun c5 => ?_) (fun c5 => ?_)
      · have hy := zt_t hy c5
        refine zj_aload_n (pc' := 32) 1 dX1_dropsBun_31 rfl rfl rfl ?_
        refine zj_getR (pc' := 35) (j := 27) dX1_dropsBun_32 rfl flX1_15 sh25 rfl ?_
        refine zj_iload_n (pc' := 36) 2 dX1_dropsBun_35 rfl rfl rfl ?_
        refine zj_dup2 (pc' := 37) dX1_dropsBun_36 rfl rfl rfl ?_
        obtain ⟨v6, hv6, hy⟩ := zt_b hy
        refine zj_rdi (pc' := 38) dX1_dropsBun_37 rfl sh27 e_i27 hv6 ?_
        refine zj_iconst (pc' := 39) dX1_dropsBun_38 rfl kiconst_1 ?_
        refine zj_isub (pc' := 40) dX1_dropsBun_39 rfl ?_
        obtain ⟨r0_1v7, hr0_1v7, hy⟩ := zt_b hy
        refine zj_wri (pc' := 41) (N := (zui M 27 r0_1v7)) dX1_dropsBun_40 rfl sh27 e_i27 hr0_1v7 rfl ?_
        refine zj_aload_n (pc' := 42) 1 dX1_dropsBun_41 rfl rfl rfl ?_
        refine zj_getR (pc' := 45) (j := 32) dX1_dropsBun_42 rfl flX1_30 sh25 rfl ?_
        refine zj_iload_n (pc' := 46) 0 dX1_dropsBun_45 rfl rfl rfl ?_
        refine zj_dup2 (pc' := 47) dX1_dropsBun_46 rfl rfl rfl ?_
        obtain ⟨v8, hv8, hy⟩ := zt_b hy
        refine zj_rdi (pc' := 48) dX1_dropsBun_47 rfl sh32 (zr_n rfl e_i32) hv8 ?_
        refine zj_iconst (pc' := 49) dX1_dropsBun_48 rfl kiconst_1 ?_
        refine zj_iadd (pc' := 50) dX1_dropsBun_49 rfl ?_
        obtain ⟨r0_6v9, hr0_6v9, hy⟩ := zt_b hy
        refine zj_wri (pc' := 51) (N := (zui (zui M 27 r0_1v7) 32 r0_6v9)) dX1_dropsBun_50 rfl sh32 (zr_n rfl e_i32) hr0_6v9 rfl ?_
        refine zj_iconst (pc' := 52) dX1_dropsBun_51 rfl kiconst_0 ?_
        have e9 := Option.some.inj hy
        subst e9
        exact zj_iret dX1_dropsBun_52 rfl hq
      · have hy := zt_f hy c5
        refine zj_iconst (pc' := 30) dX1_dropsBun_29 rfl kiconst_1 ?_
        have e9 := Option.some.inj hy
        subst e9
        refine zj_mem (N := (zui M 27 r0_1)) (zself_i e_i27 rfl) ?_
        refine zj_mem (N := (zui (zui M 27 r0_1) 32 r0_6)) (zself_i (zr_n rfl e_i32) rfl) ?_
        exact zj_iret dX1_dropsBun_30 rfl hq
set_option maxRecDepth 20000 in
theorem LX1_dropsBun_25 (Γ : zG) (M : zM) (r0_0 : Nat → Int32) (r0_1 : Nat → Int32) (r0_6 : Nat → Int32) (e_i26 : M.1 26 = r0_0) (e_i27 : M.1 27 = r0_1) (e_i32 : M.1 32 = r0_6) (a1 : Int32) {res : Int32 × (Nat → Int32) × (Nat → Int32)} (hy : (fDy_dropsBun r0_0 r0_1 r0_6 a1) = some res) : zK Γ 4 YX1_dropsBun [.ref (zad Γ 25), .int a1] M (fun v N => v = some (.int res.1) ∧ N = (zui (zui M 27 res.2.1) 32 res.2.2)) :=
  zK_of (by decide) (Nat.le_of_ble_eq_true rfl) (TX1_dropsBun_25 Γ M r0_0 r0_1 r0_6 e_i26 e_i27 e_i32 a1 hy ⟨rfl, rfl⟩)

noncomputable def fM_lets (r0_6 : Nat → Int32) (a1 : Int32) : Option ((Nat → Int32)) :=
  (zrd r0_6 397 (127 + a1)).bind (fun (v1 : Int32) =>
  (zwr r0_6 397 (127 + a1) (v1 - 1)).bind (fun (r0_6v2 : Nat → Int32) =>
  (zrd r0_6v2 397 (91 + a1)).bind (fun (v3 : Int32) =>
  (zrd r0_6v2 397 (199 + v3)).bind (fun (v4 : Int32) =>
  (zwr r0_6v2 397 (199 + v3) (v4 + 1)).bind (fun (r0_6v5 : Nat → Int32) =>
  some r0_6v5)))))

set_option maxRecDepth 20000 in
theorem TX12_lets_186 (Γ : zG) {Q : Option Value → zM → Prop} (M : zM) (r0_6 : Nat → Int32) (e_i188 : M.1 188 = r0_6) (a1 : Int32) {res : (Nat → Int32)} (hy : (fM_lets r0_6 a1) = some res) (hq : Q none (zui M 188 res)) : zR Γ 1 YX12_lets 0 [(0, .ref (zad Γ 186)), (1, .int a1)] [] M Q := by
  unfold fM_lets at hy
  refine zj_aload_n (pc' := 1) 0 dX12_lets_0 rfl rfl rfl ?_
  refine zj_getR (pc' := 4) (j := 188) dX12_lets_1 rfl flX12_33 sh186 rfl ?_
  refine zj_bipush (pc' := 6) dX12_lets_4 rfl kbipush_127 ?_
  refine zj_iload_n (pc' := 7) 1 dX12_lets_6 rfl rfl rfl ?_
  refine zj_iadd (pc' := 8) dX12_lets_7 rfl ?_
  refine zj_dup2 (pc' := 9) dX12_lets_8 rfl rfl rfl ?_
  obtain ⟨v1, hv1, hy⟩ := zt_b hy
  refine zj_rdi (pc' := 10) dX12_lets_9 rfl sh188 e_i188 hv1 ?_
  refine zj_iconst (pc' := 11) dX12_lets_10 rfl kiconst_1 ?_
  refine zj_isub (pc' := 12) dX12_lets_11 rfl ?_
  obtain ⟨r0_6v2, hr0_6v2, hy⟩ := zt_b hy
  refine zj_wri (pc' := 13) (N := (zui M 188 r0_6v2)) dX12_lets_12 rfl sh188 e_i188 hr0_6v2 rfl ?_
  refine zj_aload_n (pc' := 14) 0 dX12_lets_13 rfl rfl rfl ?_
  refine zj_getR (pc' := 17) (j := 188) dX12_lets_14 rfl flX12_33 sh186 rfl ?_
  refine zj_sipush (pc' := 20) dX12_lets_17 rfl ksipush_199 ?_
  refine zj_aload_n (pc' := 21) 0 dX12_lets_20 rfl rfl rfl ?_
  refine zj_getR (pc' := 24) (j := 188) dX12_lets_21 rfl flX12_33 sh186 rfl ?_
  refine zj_bipush (pc' := 26) dX12_lets_24 rfl kbipush_91 ?_
  refine zj_iload_n (pc' := 27) 1 dX12_lets_26 rfl rfl rfl ?_
  refine zj_iadd (pc' := 28) dX12_lets_27 rfl ?_
  obtain ⟨v3, hv3, hy⟩ := zt_b hy
  refine zj_rdi (pc' := 29) dX12_lets_28 rfl sh188 zr_s hv3 ?_
  refine zj_iadd (pc' := 30) dX12_lets_29 rfl ?_
  refine zj_dup2 (pc' := 31) dX12_lets_30 rfl rfl rfl ?_
  obtain ⟨v4, hv4, hy⟩ := zt_b hy
  refine zj_rdi (pc' := 32) dX12_lets_31 rfl sh188 zr_s hv4 ?_
  refine zj_iconst (pc' := 33) dX12_lets_32 rfl kiconst_1 ?_
  refine zj_iadd (pc' := 34) dX12_lets_33 rfl ?_
  obtain ⟨r0_6v5, hr0_6v5, hy⟩ := zt_b hy
  refine zj_wri (pc' := 35) (N := (zui M 188 r0_6v5)) dX12_lets_34 rfl sh188 zr_s hr0_6v5 zm_s ?_
  have e9 := Option.some.inj hy
  subst e9
  exact zj_vret dX12_lets_35 rfl hq
set_option maxRecDepth 20000 in
theorem LX12_lets_186 (Γ : zG) (M : zM) (r0_6 : Nat → Int32) (e_i188 : M.1 188 = r0_6) (a1 : Int32) {res : (Nat → Int32)} (hy : (fM_lets r0_6 a1) = some res) : zK Γ 1 YX12_lets [.ref (zad Γ 186), .int a1] M (fun v N => v = none ∧ N = (zui M 188 res)) :=
  zK_of (by decide) (Nat.le_of_ble_eq_true rfl) (TX12_lets_186 Γ M r0_6 e_i188 a1 hy ⟨rfl, rfl⟩)

noncomputable def fM_drop (r0 : Nat → Int32) (r0_6 : Nat → Int32) (r0_22 : Nat → Int32) (a1 : Int32) : Option (Int32 × (Nat → Int32) × (Nat → Int32) × (Nat → Int32)) :=
  zlet (zup r0 0 0) (fun (r0v1 : Nat → Int32) =>
  (fM_isPerson r0_6 a1).bind (fun (y2 : Bool) =>
  (if y2 = true then
  (zrd r0_6 397 (127 + a1)).bind (fun (v4 : Int32) =>
  (if v4 = 0 then
  some (1, r0v1, r0_6, r0_22)
  else
  (fM_keep r0v1 r0_6 r0_22).bind (fun (y6 : (Nat → Int32) × (Nat → Int32)) =>
  (fM_lets r0_6 a1).bind (fun (y7 : (Nat → Int32)) =>
  some (0, y6.1, y7, y6.2)))))
  else
  some ((-1), r0v1, r0_6, r0_22))))

set_option maxRecDepth 20000 in
theorem TX12_drop_186 (Γ : zG) {Q : Option Value → zM → Prop} (M : zM) (r0 : Nat → Int32) (r0_6 : Nat → Int32) (r0_22 : Nat → Int32) (e_i186 : M.1 186 = r0) (e_i188 : M.1 188 = r0_6) (e_i195 : M.1 195 = r0_22) (a1 : Int32) {res : Int32 × (Nat → Int32) × (Nat → Int32) × (Nat → Int32)} (hy : (fM_drop r0 r0_6 r0_22 a1) = some res) (hq : Q (some (.int res.1)) (zui (zui (zui M 186 res.2.1) 188 res.2.2.1) 195 res.2.2.2)) : zR Γ 3 YX12_drop 0 [(0, .ref (zad Γ 186)), (1, .int a1)] [] M Q := by
  unfold fM_drop at hy
  refine zj_aload_n (pc' := 1) 0 dX12_drop_0 rfl rfl rfl ?_
  refine zj_iconst (pc' := 2) dX12_drop_1 rfl kiconst_0 ?_
  obtain ⟨r0v1, er0v1⟩ : ∃ z, z = (zup r0 0 0) := ⟨_, rfl⟩
  have hy := zlet_at er0v1 hy
  refine zj_pI (pc' := 5) (N := (zui M 186 r0v1)) dX12_drop_2 rfl fpX12_1 sh186 rfl e_i186 er0v1 rfl ?_
  refine zj_aload_n (pc' := 6) 0 dX12_drop_5 rfl rfl rfl ?_
  refine zj_iload_n (pc' := 7) 1 dX12_drop_6 rfl rfl rfl ?_
  obtain ⟨y2, hy2, hy⟩ := zt_b hy
  refine zj_V1 (pc' := 10) (z := YX12_isPerson) (As := [.int a1]) (N := (zui M 186 r0v1)) dX12_drop_7 rfl mlX12_270 lkX12_isPerson sh186 ⟨_, _, rfl⟩ rfl rfl (Nat.le_of_ble_eq_true rfl) (Nat.le_of_ble_eq_true rfl) (LX12_isPerson_186 Γ _ r0_6 (zr_n rfl e_i188) a1 hy2) rfl ?_
  refine zj_bif_ne (tgt := 15) (pc' := 13) dX12_drop_10 rfl (by decide) (fun c3 => ?_) (fun c3 => ?_)
  · have hy := zt_t hy c3
    refine zj_aload_n (pc' := 16) 0 dX12_drop_15 rfl rfl rfl ?_
    refine zj_getR (pc' := 19) (j := 188) dX12_drop_16 rfl flX12_33 sh186 rfl ?_
    refine zj_bipush (pc' := 21) dX12_drop_19 rfl kbipush_127 ?_
    refine zj_iload_n (pc' := 22) 1 dX12_drop_21 rfl rfl rfl ?_
    refine zj_iadd (pc' := 23) dX12_drop_22 rfl ?_
    obtain ⟨v4, hv4, hy⟩ := zt_b hy
    refine zj_rdi (pc' := 24) dX12_drop_23 rfl sh188 (zr_n rfl e_i188) hv4 ?_
    refine zj_if_ne (tgt := 29) (pc' := 27) dX12_drop_24 rfl (by decide) (fun c5 => ?_) (fun c5 => ?_)
    · have hy := zt_f hy c5
      refine zj_aload_n (pc' := 30) 0 dX12_drop_29 rfl rfl rfl ?_
      obtain ⟨y6, hy6, hy⟩ := zt_b hy
      refine zj_V0 (pc' := 33) (z := YX12_keep) (As := []) (N := (zui (zui M 186 y6.1) 195 y6.2)) dX12_drop_30 rfl mlX12_304 lkX12_keep sh186 ⟨_, _, rfl⟩ rfl rfl (Nat.le_of_ble_eq_true rfl) (Nat.le_of_ble_eq_true rfl) (LX12_keep_186 Γ _ r0v1 r0_6 r0_22 zr_s (zr_n rfl e_i188) (zr_n rfl e_i195) hy6) ((zch_i zm_s rfl)).symm ?_
      refine zj_aload_n (pc' := 34) 0 dX12_drop_33 rfl rfl rfl ?_
      refine zj_iload_n (pc' := 35) 1 dX12_drop_34 rfl rfl rfl ?_
      obtain ⟨y7, hy7, hy⟩ := zt_b hy
      refine zj_V0 (pc' := 38) (z := YX12_lets) (As := [.int a1]) (N := (zui (zui (zui M 186 y6.1) 188 y7) 195 y6.2)) dX12_drop_35 rfl mlX12_311 lkX12_lets sh186 ⟨_, _, rfl⟩ rfl rfl (Nat.le_of_ble_eq_true rfl) (Nat.le_of_ble_eq_true rfl) (LX12_lets_186 Γ _ r0_6 (zr_n rfl (zr_n rfl e_i188)) a1 hy7) ((zm_n rfl rfl)).symm ?_
      refine zj_iconst (pc' := 39) dX12_drop_38 rfl kiconst_0 ?_
      have e9 := Option.some.inj hy
      subst e9
      exact zj_iret dX12_drop_39 rfl hq
    · have hy := zt_t hy c5
      refine zj_iconst (pc' := 28) dX12_drop_27 rfl kiconst_1 ?_
      have e9 := Option.some.inj hy
      subst e9
      refine zj_mem (N := (zui (zui M 186 r0v1) 188 r0_6)) (zself_i (zr_n rfl e_i188) rfl) ?_
      refine zj_mem (N := (zui (zui (zui M 186 r0v1) 188 r0_6) 195 r0_22)) (zself_i (zr_n rfl (zr_n rfl e_i195)) rfl) ?_
      exact zj_iret dX12_drop_28 rfl hq
  · have hy := zt_f hy c3
    refine zj_iconst (pc' := 14) dX12_drop_13 rfl kiconst_m1 ?_
    have e9 := Option.some.inj hy
    subst e9
    refine zj_mem (N := (zui (zui M 186 r0v1) 188 r0_6)) (zself_i (zr_n rfl e_i188) rfl) ?_
    refine zj_mem (N := (zui (zui (zui M 186 r0v1) 188 r0_6) 195 r0_22)) (zself_i (zr_n rfl (zr_n rfl e_i195)) rfl) ?_
    exact zj_iret dX12_drop_14 rfl hq
set_option maxRecDepth 20000 in
theorem LX12_drop_186 (Γ : zG) (M : zM) (r0 : Nat → Int32) (r0_6 : Nat → Int32) (r0_22 : Nat → Int32) (e_i186 : M.1 186 = r0) (e_i188 : M.1 188 = r0_6) (e_i195 : M.1 195 = r0_22) (a1 : Int32) {res : Int32 × (Nat → Int32) × (Nat → Int32) × (Nat → Int32)} (hy : (fM_drop r0 r0_6 r0_22 a1) = some res) : zK Γ 3 YX12_drop [.ref (zad Γ 186), .int a1] M (fun v N => v = some (.int res.1) ∧ N = (zui (zui (zui M 186 res.2.1) 188 res.2.2.1) 195 res.2.2.2)) :=
  zK_of (by decide) (Nat.le_of_ble_eq_true rfl) (TX12_drop_186 Γ M r0 r0_6 r0_22 e_i186 e_i188 e_i195 a1 hy ⟨rfl, rfl⟩)

noncomputable def fDy_leavesOff (r0_2 : Nat → Int32) (r0_3 : Nat → Int32) (a1 : Int32) : Option (Int32 × (Nat → Int32) × (Nat → Int32)) :=
  (if (fDy_mayBe a1) = true then
  (fDy_followedBy r0_2 a1).bind (fun (y2 : Int32) =>
  (if y2 = (-1) then
  some (1, r0_2, r0_3)
  else
  (zwr r0_2 6 a1 (-1)).bind (fun (r0_2v4 : Nat → Int32) =>
  (zwr r0_3 6 a1 (-1)).bind (fun (r0_3v5 : Nat → Int32) =>
  some (0, r0_2v4, r0_3v5)))))
  else
  some (1, r0_2, r0_3))

set_option maxRecDepth 20000 in
theorem TX1_leavesOff_25 (Γ : zG) {Q : Option Value → zM → Prop} (M : zM) (r0_2 : Nat → Int32) (r0_3 : Nat → Int32) (e_i28 : M.1 28 = r0_2) (e_i29 : M.1 29 = r0_3) (a1 : Int32) {res : Int32 × (Nat → Int32) × (Nat → Int32)} (hy : (fDy_leavesOff r0_2 r0_3 a1) = some res) (hq : Q (some (.int res.1)) (zui (zui M 28 res.2.1) 29 res.2.2)) : zR Γ 3 YX1_leavesOff 0 [(0, .ref (zad Γ 25)), (1, .int a1)] [] M Q := by
  unfold fDy_leavesOff at hy
  refine zj_iload_n (pc' := 1) 1 dX1_leavesOff_0 rfl rfl rfl ?_
  refine zj_S1 (pc' := 4) (z := YX1_mayBe) (As := [.int a1]) (N := M) dX1_leavesOff_1 rfl mlX1_58 lkX1_mayBe rfl rfl (Nat.le_of_ble_eq_true rfl) (Nat.le_of_ble_eq_true rfl) (LX1_mayBe Γ _ a1 rfl) rfl ?_
  refine zj_bif_eq (tgt := 16) (pc' := 7) dX1_leavesOff_4 rfl (by decide) (fun c1 => ?_) (fun c1 => ?_)
  · have hy := zt_f hy c1
    refine zj_iconst (pc' := 17) dX1_leavesOff_16 rfl kiconst_1 ?_
    have e9 := Option.some.inj hy
    subst e9
    refine zj_mem (N := (zui M 28 r0_2)) (zself_i e_i28 rfl) ?_
    refine zj_mem (N := (zui (zui M 28 r0_2) 29 r0_3)) (zself_i (zr_n rfl e_i29) rfl) ?_
    exact zj_iret dX1_leavesOff_17 rfl hq
  · have hy := zt_t hy c1
    refine zj_aload_n (pc' := 8) 0 dX1_leavesOff_7 rfl rfl rfl ?_
    refine zj_iload_n (pc' := 9) 1 dX1_leavesOff_8 rfl rfl rfl ?_
    obtain ⟨y2, hy2, hy⟩ := zt_b hy
    refine zj_V1 (pc' := 12) (z := YX1_followedBy) (As := [.int a1]) (N := M) dX1_leavesOff_9 rfl mlX1_69 lkX1_followedBy sh25 ⟨_, _, rfl⟩ rfl rfl (Nat.le_of_ble_eq_true rfl) (Nat.le_of_ble_eq_true rfl) (LX1_followedBy_25 Γ _ r0_2 e_i28 a1 hy2) rfl ?_
    refine zj_iconst (pc' := 13) dX1_leavesOff_12 rfl kiconst_m1 ?_
    refine zj_icmp_ne (tgt := 18) (pc' := 16) dX1_leavesOff_13 rfl (by decide) (fun c3 => ?_) (fun c3 => ?_)
    · have hy := zt_f hy c3
      refine zj_aload_n (pc' := 19) 0 dX1_leavesOff_18 rfl rfl rfl ?_
      refine zj_getR (pc' := 22) (j := 28) dX1_leavesOff_19 rfl flX1_18 sh25 rfl ?_
      refine zj_iload_n (pc' := 23) 1 dX1_leavesOff_22 rfl rfl rfl ?_
      refine zj_iconst (pc' := 24) dX1_leavesOff_23 rfl kiconst_m1 ?_
      obtain ⟨r0_2v4, hr0_2v4, hy⟩ := zt_b hy
      refine zj_wri (pc' := 25) (N := (zui M 28 r0_2v4)) dX1_leavesOff_24 rfl sh28 e_i28 hr0_2v4 rfl ?_
      refine zj_aload_n (pc' := 26) 0 dX1_leavesOff_25 rfl rfl rfl ?_
      refine zj_getR (pc' := 29) (j := 29) dX1_leavesOff_26 rfl flX1_21 sh25 rfl ?_
      refine zj_iload_n (pc' := 30) 1 dX1_leavesOff_29 rfl rfl rfl ?_
      refine zj_iconst (pc' := 31) dX1_leavesOff_30 rfl kiconst_m1 ?_
      obtain ⟨r0_3v5, hr0_3v5, hy⟩ := zt_b hy
      refine zj_wri (pc' := 32) (N := (zui (zui M 28 r0_2v4) 29 r0_3v5)) dX1_leavesOff_31 rfl sh29 (zr_n rfl e_i29) hr0_3v5 rfl ?_
      refine zj_iconst (pc' := 33) dX1_leavesOff_32 rfl kiconst_0 ?_
      have e9 := Option.some.inj hy
      subst e9
      exact zj_iret dX1_leavesOff_33 rfl hq
    · have hy := zt_t hy c3
      refine zj_iconst (pc' := 17) dX1_leavesOff_16 rfl kiconst_1 ?_
      have e9 := Option.some.inj hy
      subst e9
      refine zj_mem (N := (zui M 28 r0_2)) (zself_i e_i28 rfl) ?_
      refine zj_mem (N := (zui (zui M 28 r0_2) 29 r0_3)) (zself_i (zr_n rfl e_i29) rfl) ?_
      exact zj_iret dX1_leavesOff_17 rfl hq
set_option maxRecDepth 20000 in
theorem LX1_leavesOff_25 (Γ : zG) (M : zM) (r0_2 : Nat → Int32) (r0_3 : Nat → Int32) (e_i28 : M.1 28 = r0_2) (e_i29 : M.1 29 = r0_3) (a1 : Int32) {res : Int32 × (Nat → Int32) × (Nat → Int32)} (hy : (fDy_leavesOff r0_2 r0_3 a1) = some res) : zK Γ 3 YX1_leavesOff [.ref (zad Γ 25), .int a1] M (fun v N => v = some (.int res.1) ∧ N = (zui (zui M 28 res.2.1) 29 res.2.2)) :=
  zK_of (by decide) (Nat.le_of_ble_eq_true rfl) (TX1_leavesOff_25 Γ M r0_2 r0_3 e_i28 e_i29 a1 hy ⟨rfl, rfl⟩)

noncomputable def fM_parts (r0_6 : Nat → Int32) (a1 : Int32) : Option ((Nat → Int32)) :=
  (zwr r0_6 397 (133 + a1) 0).bind (fun (r0_6v1 : Nat → Int32) =>
  (zwr r0_6v1 397 (139 + a1) 0).bind (fun (r0_6v2 : Nat → Int32) =>
  some r0_6v2))

set_option maxRecDepth 20000 in
theorem TX12_parts_186 (Γ : zG) {Q : Option Value → zM → Prop} (M : zM) (r0_6 : Nat → Int32) (e_i188 : M.1 188 = r0_6) (a1 : Int32) {res : (Nat → Int32)} (hy : (fM_parts r0_6 a1) = some res) (hq : Q none (zui M 188 res)) : zR Γ 1 YX12_parts 0 [(0, .ref (zad Γ 186)), (1, .int a1)] [] M Q := by
  unfold fM_parts at hy
  refine zj_aload_n (pc' := 1) 0 dX12_parts_0 rfl rfl rfl ?_
  refine zj_getR (pc' := 4) (j := 188) dX12_parts_1 rfl flX12_33 sh186 rfl ?_
  refine zj_sipush (pc' := 7) dX12_parts_4 rfl ksipush_133 ?_
  refine zj_iload_n (pc' := 8) 1 dX12_parts_7 rfl rfl rfl ?_
  refine zj_iadd (pc' := 9) dX12_parts_8 rfl ?_
  refine zj_iconst (pc' := 10) dX12_parts_9 rfl kiconst_0 ?_
  obtain ⟨r0_6v1, hr0_6v1, hy⟩ := zt_b hy
  refine zj_wri (pc' := 11) (N := (zui M 188 r0_6v1)) dX12_parts_10 rfl sh188 e_i188 hr0_6v1 rfl ?_
  refine zj_aload_n (pc' := 12) 0 dX12_parts_11 rfl rfl rfl ?_
  refine zj_getR (pc' := 15) (j := 188) dX12_parts_12 rfl flX12_33 sh186 rfl ?_
  refine zj_sipush (pc' := 18) dX12_parts_15 rfl ksipush_139 ?_
  refine zj_iload_n (pc' := 19) 1 dX12_parts_18 rfl rfl rfl ?_
  refine zj_iadd (pc' := 20) dX12_parts_19 rfl ?_
  refine zj_iconst (pc' := 21) dX12_parts_20 rfl kiconst_0 ?_
  obtain ⟨r0_6v2, hr0_6v2, hy⟩ := zt_b hy
  refine zj_wri (pc' := 22) (N := (zui M 188 r0_6v2)) dX12_parts_21 rfl sh188 zr_s hr0_6v2 zm_s ?_
  have e9 := Option.some.inj hy
  subst e9
  exact zj_vret dX12_parts_22 rfl hq
set_option maxRecDepth 20000 in
theorem LX12_parts_186 (Γ : zG) (M : zM) (r0_6 : Nat → Int32) (e_i188 : M.1 188 = r0_6) (a1 : Int32) {res : (Nat → Int32)} (hy : (fM_parts r0_6 a1) = some res) : zK Γ 1 YX12_parts [.ref (zad Γ 186), .int a1] M (fun v N => v = none ∧ N = (zui M 188 res)) :=
  zK_of (by decide) (Nat.le_of_ble_eq_true rfl) (TX12_parts_186 Γ M r0_6 e_i188 a1 hy ⟨rfl, rfl⟩)

noncomputable def fM_leave (r0 : Nat → Int32) (r0_6 : Nat → Int32) (r0_22 : Nat → Int32) (a1 : Int32) : Option (Int32 × (Nat → Int32) × (Nat → Int32) × (Nat → Int32)) :=
  zlet (zup r0 0 0) (fun (r0v1 : Nat → Int32) =>
  (fM_isPerson r0_6 a1).bind (fun (y2 : Bool) =>
  (if y2 = true then
  (zrd r0_6 397 (133 + a1)).bind (fun (v4 : Int32) =>
  (if v4 = 0 then
  some (1, r0v1, r0_6, r0_22)
  else
  (fM_keep r0v1 r0_6 r0_22).bind (fun (y6 : (Nat → Int32) × (Nat → Int32)) =>
  (fM_parts r0_6 a1).bind (fun (y7 : (Nat → Int32)) =>
  some (0, y6.1, y7, y6.2)))))
  else
  some ((-1), r0v1, r0_6, r0_22))))

set_option maxRecDepth 20000 in
theorem TX12_leave_186 (Γ : zG) {Q : Option Value → zM → Prop} (M : zM) (r0 : Nat → Int32) (r0_6 : Nat → Int32) (r0_22 : Nat → Int32) (e_i186 : M.1 186 = r0) (e_i188 : M.1 188 = r0_6) (e_i195 : M.1 195 = r0_22) (a1 : Int32) {res : Int32 × (Nat → Int32) × (Nat → Int32) × (Nat → Int32)} (hy : (fM_leave r0 r0_6 r0_22 a1) = some res) (hq : Q (some (.int res.1)) (zui (zui (zui M 186 res.2.1) 188 res.2.2.1) 195 res.2.2.2)) : zR Γ 3 YX12_leave 0 [(0, .ref (zad Γ 186)), (1, .int a1)] [] M Q := by
  unfold fM_leave at hy
  refine zj_aload_n (pc' := 1) 0 dX12_leave_0 rfl rfl rfl ?_
  refine zj_iconst (pc' := 2) dX12_leave_1 rfl kiconst_0 ?_
  obtain ⟨r0v1, er0v1⟩ : ∃ z, z = (zup r0 0 0) := ⟨_, rfl⟩
  have hy := zlet_at er0v1 hy
  refine zj_pI (pc' := 5) (N := (zui M 186 r0v1)) dX12_leave_2 rfl fpX12_1 sh186 rfl e_i186 er0v1 rfl ?_
  refine zj_aload_n (pc' := 6) 0 dX12_leave_5 rfl rfl rfl ?_
  refine zj_iload_n (pc' := 7) 1 dX12_leave_6 rfl rfl rfl ?_
  obtain ⟨y2, hy2, hy⟩ := zt_b hy
  refine zj_V1 (pc' := 10) (z := YX12_isPerson) (As := [.int a1]) (N := (zui M 186 r0v1)) dX12_leave_7 rfl mlX12_270 lkX12_isPerson sh186 ⟨_, _, rfl⟩ rfl rfl (Nat.le_of_ble_eq_true rfl) (Nat.le_of_ble_eq_true rfl) (LX12_isPerson_186 Γ _ r0_6 (zr_n rfl e_i188) a1 hy2) rfl ?_
  refine zj_bif_ne (tgt := 15) (pc' := 13) dX12_leave_10 rfl (by decide) (fun c3 => ?_) (fun c3 => ?_)
  · have hy := zt_t hy c3
    refine zj_aload_n (pc' := 16) 0 dX12_leave_15 rfl rfl rfl ?_
    refine zj_getR (pc' := 19) (j := 188) dX12_leave_16 rfl flX12_33 sh186 rfl ?_
    refine zj_sipush (pc' := 22) dX12_leave_19 rfl ksipush_133 ?_
    refine zj_iload_n (pc' := 23) 1 dX12_leave_22 rfl rfl rfl ?_
    refine zj_iadd (pc' := 24) dX12_leave_23 rfl ?_
    obtain ⟨v4, hv4, hy⟩ := zt_b hy
    refine zj_rdi (pc' := 25) dX12_leave_24 rfl sh188 (zr_n rfl e_i188) hv4 ?_
    refine zj_if_ne (tgt := 30) (pc' := 28) dX12_leave_25 rfl (by decide) (fun c5 => ?_) (fun c5 => ?_)
    · have hy := zt_f hy c5
      refine zj_aload_n (pc' := 31) 0 dX12_leave_30 rfl rfl rfl ?_
      obtain ⟨y6, hy6, hy⟩ := zt_b hy
      refine zj_V0 (pc' := 34) (z := YX12_keep) (As := []) (N := (zui (zui M 186 y6.1) 195 y6.2)) dX12_leave_31 rfl mlX12_304 lkX12_keep sh186 ⟨_, _, rfl⟩ rfl rfl (Nat.le_of_ble_eq_true rfl) (Nat.le_of_ble_eq_true rfl) (LX12_keep_186 Γ _ r0v1 r0_6 r0_22 zr_s (zr_n rfl e_i188) (zr_n rfl e_i195) hy6) ((zch_i zm_s rfl)).symm ?_
      refine zj_aload_n (pc' := 35) 0 dX12_leave_34 rfl rfl rfl ?_
      refine zj_iload_n (pc' := 36) 1 dX12_leave_35 rfl rfl rfl ?_
      obtain ⟨y7, hy7, hy⟩ := zt_b hy
      refine zj_V0 (pc' := 39) (z := YX12_parts) (As := [.int a1]) (N := (zui (zui (zui M 186 y6.1) 188 y7) 195 y6.2)) dX12_leave_36 rfl mlX12_314 lkX12_parts sh186 ⟨_, _, rfl⟩ rfl rfl (Nat.le_of_ble_eq_true rfl) (Nat.le_of_ble_eq_true rfl) (LX12_parts_186 Γ _ r0_6 (zr_n rfl (zr_n rfl e_i188)) a1 hy7) ((zm_n rfl rfl)).symm ?_
      refine zj_iconst (pc' := 40) dX12_leave_39 rfl kiconst_0 ?_
      have e9 := Option.some.inj hy
      subst e9
      exact zj_iret dX12_leave_40 rfl hq
    · have hy := zt_t hy c5
      refine zj_iconst (pc' := 29) dX12_leave_28 rfl kiconst_1 ?_
      have e9 := Option.some.inj hy
      subst e9
      refine zj_mem (N := (zui (zui M 186 r0v1) 188 r0_6)) (zself_i (zr_n rfl e_i188) rfl) ?_
      refine zj_mem (N := (zui (zui (zui M 186 r0v1) 188 r0_6) 195 r0_22)) (zself_i (zr_n rfl (zr_n rfl e_i195)) rfl) ?_
      exact zj_iret dX12_leave_29 rfl hq
  · have hy := zt_f hy c3
    refine zj_iconst (pc' := 14) dX12_leave_13 rfl kiconst_m1 ?_
    have e9 := Option.some.inj hy
    subst e9
    refine zj_mem (N := (zui (zui M 186 r0v1) 188 r0_6)) (zself_i (zr_n rfl e_i188) rfl) ?_
    refine zj_mem (N := (zui (zui (zui M 186 r0v1) 188 r0_6) 195 r0_22)) (zself_i (zr_n rfl (zr_n rfl e_i195)) rfl) ?_
    exact zj_iret dX12_leave_14 rfl hq
set_option maxRecDepth 20000 in
theorem LX12_leave_186 (Γ : zG) (M : zM) (r0 : Nat → Int32) (r0_6 : Nat → Int32) (r0_22 : Nat → Int32) (e_i186 : M.1 186 = r0) (e_i188 : M.1 188 = r0_6) (e_i195 : M.1 195 = r0_22) (a1 : Int32) {res : Int32 × (Nat → Int32) × (Nat → Int32) × (Nat → Int32)} (hy : (fM_leave r0 r0_6 r0_22 a1) = some res) : zK Γ 3 YX12_leave [.ref (zad Γ 186), .int a1] M (fun v N => v = some (.int res.1) ∧ N = (zui (zui (zui M 186 res.2.1) 188 res.2.2.1) 195 res.2.2.2)) :=
  zK_of (by decide) (Nat.le_of_ble_eq_true rfl) (TX12_leave_186 Γ M r0 r0_6 r0_22 e_i186 e_i188 e_i195 a1 hy ⟨rfl, rfl⟩)

noncomputable def fM_whyHire (r0_6 : Nat → Int32) (a1 : Int32) : Option (Int32) :=
  (zrd r0_6 397 (133 + a1)).bind (fun (v1 : Int32) =>
  (if v1 ≤ 0 then
  (zrd r0_6 397 (145 + a1)).bind (fun (v3 : Int32) =>
  some (if v3 ≤ 0 then (0 : Int32) else (2 : Int32)))
  else
  some 1))

set_option maxRecDepth 20000 in
theorem TX12_whyHire_186 (Γ : zG) {Q : Option Value → zM → Prop} (M : zM) (r0_6 : Nat → Int32) (e_i188 : M.1 188 = r0_6) (a1 : Int32) {res : Int32} (hy : (fM_whyHire r0_6 a1) = some res) (hq : Q (some (.int res)) M) : zR Γ 1 YX12_whyHire 0 [(0, .ref (zad Γ 186)), (1, .int a1)] [] M Q := by
  unfold fM_whyHire at hy
  refine zj_aload_n (pc' := 1) 0 dX12_whyHire_0 rfl rfl rfl ?_
  refine zj_getR (pc' := 4) (j := 188) dX12_whyHire_1 rfl flX12_33 sh186 rfl ?_
  refine zj_sipush (pc' := 7) dX12_whyHire_4 rfl ksipush_133 ?_
  refine zj_iload_n (pc' := 8) 1 dX12_whyHire_7 rfl rfl rfl ?_
  refine zj_iadd (pc' := 9) dX12_whyHire_8 rfl ?_
  obtain ⟨v1, hv1, hy⟩ := zt_b hy
  refine zj_rdi (pc' := 10) dX12_whyHire_9 rfl sh188 e_i188 hv1 ?_
  refine zj_if_le (tgt := 17) (pc' := 13) dX12_whyHire_10 rfl (by decide) (fun c2 => ?_) (fun c2 => ?_)
  · have hy := zt_t hy c2
    refine zj_aload_n (pc' := 18) 0 dX12_whyHire_17 rfl rfl rfl ?_
    refine zj_getR (pc' := 21) (j := 188) dX12_whyHire_18 rfl flX12_33 sh186 rfl ?_
    refine zj_sipush (pc' := 24) dX12_whyHire_21 rfl ksipush_145 ?_
    refine zj_iload_n (pc' := 25) 1 dX12_whyHire_24 rfl rfl rfl ?_
    refine zj_iadd (pc' := 26) dX12_whyHire_25 rfl ?_
    obtain ⟨v3, hv3, hy⟩ := zt_b hy
    refine zj_rdi (pc' := 27) dX12_whyHire_26 rfl sh188 e_i188 hv3 ?_
    have HJ4 : zR Γ 1 YX12_whyHire 35 [(0, .ref (zad Γ 186)), (1, .int a1)] [.int (if v3 ≤ 0 then (0 : Int32) else (2 : Int32))] M Q := by
      have e9 := Option.some.inj hy
      subst e9
      exact zj_iret dX12_whyHire_35 rfl hq
    refine zj_if_le (tgt := 34) (pc' := 30) dX12_whyHire_27 rfl (by decide) (fun c5 => ?_) (fun c5 => ?_)
    · refine zj_iconst (pc' := 35) dX12_whyHire_34 rfl kiconst_0 ?_
      exact zj_eqi (if_pos c5) HJ4
    · refine zj_iconst (pc' := 31) dX12_whyHire_30 rfl kiconst_2 ?_
      refine zj_goto (tgt := 35) dX12_whyHire_31 (by decide) ?_
      exact zj_eqi (if_neg c5) HJ4
  · have hy := zt_f hy c2
    refine zj_iconst (pc' := 14) dX12_whyHire_13 rfl kiconst_1 ?_
    refine zj_goto (tgt := 35) dX12_whyHire_14 (by decide) ?_
    have e9 := Option.some.inj hy
    subst e9
    exact zj_iret dX12_whyHire_35 rfl hq
set_option maxRecDepth 20000 in
theorem LX12_whyHire_186 (Γ : zG) (M : zM) (r0_6 : Nat → Int32) (e_i188 : M.1 188 = r0_6) (a1 : Int32) {res : Int32} (hy : (fM_whyHire r0_6 a1) = some res) : zK Γ 1 YX12_whyHire [.ref (zad Γ 186), .int a1] M (fun v N => v = some (.int res) ∧ N = M) :=
  zK_of (by decide) (Nat.le_of_ble_eq_true rfl) (TX12_whyHire_186 Γ M r0_6 e_i188 a1 hy ⟨rfl, rfl⟩)

noncomputable def fM_binds (r0_6 : Nat → Int32) (a1 : Int32) (a2 : Int32) (a3 : Int32) : Option ((Nat → Int32)) :=
  (zwr r0_6 397 (133 + a2) (a1 + 1)).bind (fun (r0_6v1 : Nat → Int32) =>
  (zwr r0_6v1 397 (139 + a2) a3).bind (fun (r0_6v2 : Nat → Int32) =>
  some r0_6v2))

set_option maxRecDepth 20000 in
theorem TX12_binds_186 (Γ : zG) {Q : Option Value → zM → Prop} (M : zM) (r0_6 : Nat → Int32) (e_i188 : M.1 188 = r0_6) (a1 : Int32) (a2 : Int32) (a3 : Int32) {res : (Nat → Int32)} (hy : (fM_binds r0_6 a1 a2 a3) = some res) (hq : Q none (zui M 188 res)) : zR Γ 1 YX12_binds 0 [(0, .ref (zad Γ 186)), (1, .int a1), (2, .int a2), (3, .int a3)] [] M Q := by
  unfold fM_binds at hy
  refine zj_aload_n (pc' := 1) 0 dX12_binds_0 rfl rfl rfl ?_
  refine zj_getR (pc' := 4) (j := 188) dX12_binds_1 rfl flX12_33 sh186 rfl ?_
  refine zj_sipush (pc' := 7) dX12_binds_4 rfl ksipush_133 ?_
  refine zj_iload_n (pc' := 8) 2 dX12_binds_7 rfl rfl rfl ?_
  refine zj_iadd (pc' := 9) dX12_binds_8 rfl ?_
  refine zj_iload_n (pc' := 10) 1 dX12_binds_9 rfl rfl rfl ?_
  refine zj_iconst (pc' := 11) dX12_binds_10 rfl kiconst_1 ?_
  refine zj_iadd (pc' := 12) dX12_binds_11 rfl ?_
  obtain ⟨r0_6v1, hr0_6v1, hy⟩ := zt_b hy
  refine zj_wri (pc' := 13) (N := (zui M 188 r0_6v1)) dX12_binds_12 rfl sh188 e_i188 hr0_6v1 rfl ?_
  refine zj_aload_n (pc' := 14) 0 dX12_binds_13 rfl rfl rfl ?_
  refine zj_getR (pc' := 17) (j := 188) dX12_binds_14 rfl flX12_33 sh186 rfl ?_
  refine zj_sipush (pc' := 20) dX12_binds_17 rfl ksipush_139 ?_
  refine zj_iload_n (pc' := 21) 2 dX12_binds_20 rfl rfl rfl ?_
  refine zj_iadd (pc' := 22) dX12_binds_21 rfl ?_
  refine zj_iload_n (pc' := 23) 3 dX12_binds_22 rfl rfl rfl ?_
  obtain ⟨r0_6v2, hr0_6v2, hy⟩ := zt_b hy
  refine zj_wri (pc' := 24) (N := (zui M 188 r0_6v2)) dX12_binds_23 rfl sh188 zr_s hr0_6v2 zm_s ?_
  have e9 := Option.some.inj hy
  subst e9
  exact zj_vret dX12_binds_24 rfl hq
set_option maxRecDepth 20000 in
theorem LX12_binds_186 (Γ : zG) (M : zM) (r0_6 : Nat → Int32) (e_i188 : M.1 188 = r0_6) (a1 : Int32) (a2 : Int32) (a3 : Int32) {res : (Nat → Int32)} (hy : (fM_binds r0_6 a1 a2 a3) = some res) : zK Γ 1 YX12_binds [.ref (zad Γ 186), .int a1, .int a2, .int a3] M (fun v N => v = none ∧ N = (zui M 188 res)) :=
  zK_of (by decide) (Nat.le_of_ble_eq_true rfl) (TX12_binds_186 Γ M r0_6 e_i188 a1 a2 a3 hy ⟨rfl, rfl⟩)

noncomputable def fM_hire (r0 : Nat → Int32) (r0_6 : Nat → Int32) (r0_22 : Nat → Int32) (a1 : Int32) (a2 : Int32) (a3 : Int32) : Option (Int32 × (Nat → Int32) × (Nat → Int32) × (Nat → Int32)) :=
  zlet (zup r0 0 0) (fun (r0v1 : Nat → Int32) =>
  (fM_isPerson r0_6 a1).bind (fun (y2 : Bool) =>
  (if y2 = true then
  (fM_isPerson r0_6 a2).bind (fun (y4 : Bool) =>
  (if y4 = true then
  (if a1 = a2 then
  some ((-1), r0v1, r0_6, r0_22)
  else
  (if (fM_isIn a3 1 5) = true then
  (fM_whyHire r0_6 a2).bind (fun (y8 : Int32) =>
  (if y8 ≤ 0 then
  (fM_keep r0v1 r0_6 r0_22).bind (fun (y10 : (Nat → Int32) × (Nat → Int32)) =>
  (fM_binds r0_6 a1 a2 a3).bind (fun (y11 : (Nat → Int32)) =>
  some (0, y10.1, y11, y10.2)))
  else
  some (y8, r0v1, r0_6, r0_22)))
  else
  some ((-1), r0v1, r0_6, r0_22)))
  else
  some ((-1), r0v1, r0_6, r0_22)))
  else
  some ((-1), r0v1, r0_6, r0_22))))

set_option maxRecDepth 20000 in
theorem TX12_hire_186 (Γ : zG) {Q : Option Value → zM → Prop} (M : zM) (r0 : Nat → Int32) (r0_6 : Nat → Int32) (r0_22 : Nat → Int32) (e_i186 : M.1 186 = r0) (e_i188 : M.1 188 = r0_6) (e_i195 : M.1 195 = r0_22) (a1 : Int32) (a2 : Int32) (a3 : Int32) {res : Int32 × (Nat → Int32) × (Nat → Int32) × (Nat → Int32)} (hy : (fM_hire r0 r0_6 r0_22 a1 a2 a3) = some res) (hq : Q (some (.int res.1)) (zui (zui (zui M 186 res.2.1) 188 res.2.2.1) 195 res.2.2.2)) : zR Γ 3 YX12_hire 0 [(0, .ref (zad Γ 186)), (1, .int a1), (2, .int a2), (3, .int a3)] [] M Q := by
  unfold fM_hire at hy
  refine zj_aload_n (pc' := 1) 0 dX12_hire_0 rfl rfl rfl ?_
  refine zj_iconst (pc' := 2) dX12_hire_1 rfl kiconst_0 ?_
  obtain ⟨r0v1, er0v1⟩ : ∃ z, z = (zup r0 0 0) := ⟨_, rfl⟩
  have hy := zlet_at er0v1 hy
  refine zj_pI (pc' := 5) (N := (zui M 186 r0v1)) dX12_hire_2 rfl fpX12_1 sh186 rfl e_i186 er0v1 rfl ?_
  refine zj_aload_n (pc' := 6) 0 dX12_hire_5 rfl rfl rfl ?_
  refine zj_iload_n (pc' := 7) 1 dX12_hire_6 rfl rfl rfl ?_
  obtain ⟨y2, hy2, hy⟩ := zt_b hy
  refine zj_V1 (pc' := 10) (z := YX12_isPerson) (As := [.int a1]) (N := (zui M 186 r0v1)) dX12_hire_7 rfl mlX12_270 lkX12_isPerson sh186 ⟨_, _, rfl⟩ rfl rfl (Nat.le_of_ble_eq_true rfl) (Nat.le_of_ble_eq_true rfl) (LX12_isPerson_186 Γ _ r0_6 (zr_n rfl e_i188) a1 hy2) rfl ?_
  refine zj_bif_eq (tgt := 35) (pc' := 13) dX12_hire_10 rfl (by decide) (fun c3 => ?_) (fun c3 => ?_)
  · have hy := zt_f hy c3
    refine zj_iconst (pc' := 36) dX12_hire_35 rfl kiconst_m1 ?_
    have e9 := Option.some.inj hy
    subst e9
    refine zj_mem (N := (zui (zui M 186 r0v1) 188 r0_6)) (zself_i (zr_n rfl e_i188) rfl) ?_
    refine zj_mem (N := (zui (zui (zui M 186 r0v1) 188 r0_6) 195 r0_22)) (zself_i (zr_n rfl (zr_n rfl e_i195)) rfl) ?_
    exact zj_iret dX12_hire_36 rfl hq
  · have hy := zt_t hy c3
    refine zj_aload_n (pc' := 14) 0 dX12_hire_13 rfl rfl rfl ?_
    refine zj_iload_n (pc' := 15) 2 dX12_hire_14 rfl rfl rfl ?_
    obtain ⟨y4, hy4, hy⟩ := zt_b hy
    refine zj_V1 (pc' := 18) (z := YX12_isPerson) (As := [.int a2]) (N := (zui M 186 r0v1)) dX12_hire_15 rfl mlX12_270 lkX12_isPerson sh186 ⟨_, _, rfl⟩ rfl rfl (Nat.le_of_ble_eq_true rfl) (Nat.le_of_ble_eq_true rfl) (LX12_isPerson_186 Γ _ r0_6 (zr_n rfl e_i188) a2 hy4) rfl ?_
    refine zj_bif_eq (tgt := 35) (pc' := 21) dX12_hire_18 rfl (by decide) (fun c5 => ?_) (fun c5 => ?_)
    · have hy := zt_f hy c5
      refine zj_iconst (pc' := 36) dX12_hire_35 rfl kiconst_m1 ?_
      have e9 := Option.some.inj hy
      subst e9
      refine zj_mem (N := (zui (zui M 186 r0v1) 188 r0_6)) (zself_i (zr_n rfl e_i188) rfl) ?_
      refine zj_mem (N := (zui (zui (zui M 186 r0v1) 188 r0_6) 195 r0_22)) (zself_i (zr_n rfl (zr_n rfl e_i195)) rfl) ?_
      exact zj_iret dX12_hire_36 rfl hq
    · have hy := zt_t hy c5
      refine zj_iload_n (pc' := 22) 1 dX12_hire_21 rfl rfl rfl ?_
      refine zj_iload_n (pc' := 23) 2 dX12_hire_22 rfl rfl rfl ?_
      refine zj_icmp_eq (tgt := 35) (pc' := 26) dX12_hire_23 rfl (by decide) (fun c6 => ?_) (fun c6 => ?_)
      · have hy := zt_t hy c6
        refine zj_iconst (pc' := 36) dX12_hire_35 rfl kiconst_m1 ?_
        have e9 := Option.some.inj hy
        subst e9
        refine zj_mem (N := (zui (zui M 186 r0v1) 188 r0_6)) (zself_i (zr_n rfl e_i188) rfl) ?_
        refine zj_mem (N := (zui (zui (zui M 186 r0v1) 188 r0_6) 195 r0_22)) (zself_i (zr_n rfl (zr_n rfl e_i195)) rfl) ?_
        exact zj_iret dX12_hire_36 rfl hq
      · have hy := zt_f hy c6
        refine zj_iload_n (pc' := 27) 3 dX12_hire_26 rfl rfl rfl ?_
        refine zj_iconst (pc' := 28) dX12_hire_27 rfl kiconst_1 ?_
        refine zj_iconst (pc' := 29) dX12_hire_28 rfl kiconst_5 ?_
        refine zj_S1 (pc' := 32) (z := YX12_isIn) (As := [.int a3, .int 1, .int 5]) (N := (zui M 186 r0v1)) dX12_hire_29 rfl mlX12_188 lkX12_isIn rfl rfl (Nat.le_of_ble_eq_true rfl) (Nat.le_of_ble_eq_true rfl) (LX12_isIn Γ _ a3 1 5 rfl) rfl ?_
        refine zj_bif_ne (tgt := 37) (pc' := 35) dX12_hire_32 rfl (by decide) (fun c7 => ?_) (fun c7 => ?_)
        · have hy := zt_t hy c7
          refine zj_aload_n (pc' := 38) 0 dX12_hire_37 rfl rfl rfl ?_
          refine zj_iload_n (pc' := 39) 2 dX12_hire_38 rfl rfl rfl ?_
          obtain ⟨y8, hy8, hy⟩ := zt_b hy
          refine zj_V1 (pc' := 42) (z := YX12_whyHire) (As := [.int a2]) (N := (zui M 186 r0v1)) dX12_hire_39 rfl mlX12_317 lkX12_whyHire sh186 ⟨_, _, rfl⟩ rfl rfl (Nat.le_of_ble_eq_true rfl) (Nat.le_of_ble_eq_true rfl) (LX12_whyHire_186 Γ _ r0_6 (zr_n rfl e_i188) a2 hy8) rfl ?_
          refine zj_istore (pc' := 44) (L' := [(4, .int y8), (0, .ref (zad Γ 186)), (1, .int a1), (2, .int a2), (3, .int a3)]) dX12_hire_42 rfl (by decide) rfl ?_
          refine zj_iload (pc' := 46) 0 dX12_hire_44 rfl rfl ?_
          refine zj_if_le (tgt := 52) (pc' := 49) dX12_hire_46 rfl (by decide) (fun c9 => ?_) (fun c9 => ?_)
          · have hy := zt_t hy c9
            refine zj_aload_n (pc' := 53) 1 dX12_hire_52 rfl rfl rfl ?_
            obtain ⟨y10, hy10, hy⟩ := zt_b hy
            refine zj_V0 (pc' := 56) (z := YX12_keep) (As := []) (N := (zui (zui M 186 y10.1) 195 y10.2)) dX12_hire_53 rfl mlX12_304 lkX12_keep sh186 ⟨_, _, rfl⟩ rfl rfl (Nat.le_of_ble_eq_true rfl) (Nat.le_of_ble_eq_true rfl) (LX12_keep_186 Γ _ r0v1 r0_6 r0_22 zr_s (zr_n rfl e_i188) (zr_n rfl e_i195) hy10) ((zch_i zm_s rfl)).symm ?_
            refine zj_aload_n (pc' := 57) 1 dX12_hire_56 rfl rfl rfl ?_
            refine zj_iload_n (pc' := 58) 2 dX12_hire_57 rfl rfl rfl ?_
            refine zj_iload_n (pc' := 59) 3 dX12_hire_58 rfl rfl rfl ?_
            refine zj_iload_n (pc' := 60) 4 dX12_hire_59 rfl rfl rfl ?_
            obtain ⟨y11, hy11, hy⟩ := zt_b hy
            refine zj_V0 (pc' := 63) (z := YX12_binds) (As := [.int a1, .int a2, .int a3]) (N := (zui (zui (zui M 186 y10.1) 188 y11) 195 y10.2)) dX12_hire_60 rfl mlX12_320 lkX12_binds sh186 ⟨_, _, rfl⟩ rfl rfl (Nat.le_of_ble_eq_true rfl) (Nat.le_of_ble_eq_true rfl) (LX12_binds_186 Γ _ r0_6 (zr_n rfl (zr_n rfl e_i188)) a1 a2 a3 hy11) ((zm_n rfl rfl)).symm ?_
            refine zj_iconst (pc' := 64) dX12_hire_63 rfl kiconst_0 ?_
            have e9 := Option.some.inj hy
            subst e9
            exact zj_iret dX12_hire_64 rfl hq
          · have hy := zt_f hy c9
            refine zj_iload (pc' := 51) 0 dX12_hire_49 rfl rfl ?_
            have e9 := Option.some.inj hy
            subst e9
            refine zj_mem (N := (zui (zui M 186 r0v1) 188 r0_6)) (zself_i (zr_n rfl e_i188) rfl) ?_
            refine zj_mem (N := (zui (zui (zui M 186 r0v1) 188 r0_6) 195 r0_22)) (zself_i (zr_n rfl (zr_n rfl e_i195)) rfl) ?_
            exact zj_iret dX12_hire_51 rfl hq
        · have hy := zt_f hy c7
          refine zj_iconst (pc' := 36) dX12_hire_35 rfl kiconst_m1 ?_
          have e9 := Option.some.inj hy
          subst e9
          refine zj_mem (N := (zui (zui M 186 r0v1) 188 r0_6)) (zself_i (zr_n rfl e_i188) rfl) ?_
          refine zj_mem (N := (zui (zui (zui M 186 r0v1) 188 r0_6) 195 r0_22)) (zself_i (zr_n rfl (zr_n rfl e_i195)) rfl) ?_
          exact zj_iret dX12_hire_36 rfl hq
set_option maxRecDepth 20000 in
theorem LX12_hire_186 (Γ : zG) (M : zM) (r0 : Nat → Int32) (r0_6 : Nat → Int32) (r0_22 : Nat → Int32) (e_i186 : M.1 186 = r0) (e_i188 : M.1 188 = r0_6) (e_i195 : M.1 195 = r0_22) (a1 : Int32) (a2 : Int32) (a3 : Int32) {res : Int32 × (Nat → Int32) × (Nat → Int32) × (Nat → Int32)} (hy : (fM_hire r0 r0_6 r0_22 a1 a2 a3) = some res) : zK Γ 3 YX12_hire [.ref (zad Γ 186), .int a1, .int a2, .int a3] M (fun v N => v = some (.int res.1) ∧ N = (zui (zui (zui M 186 res.2.1) 188 res.2.2.1) 195 res.2.2.2)) :=
  zK_of (by decide) (Nat.le_of_ble_eq_true rfl) (TX12_hire_186 Γ M r0 r0_6 r0_22 e_i186 e_i188 e_i195 a1 a2 a3 hy ⟨rfl, rfl⟩)

noncomputable def fDy_minutesLeft (r0 : Nat → Int32) : Int32 :=
  (400 - (r0 9))

set_option maxRecDepth 20000 in
theorem TX1_minutesLeft_25 (Γ : zG) {Q : Option Value → zM → Prop} (M : zM) (r0 : Nat → Int32) (e_i25 : M.1 25 = r0)  {res : Int32} (hy : (fDy_minutesLeft r0) = res) (hq : Q (some (.int res)) M) : zR Γ 1 YX1_minutesLeft 0 [(0, .ref (zad Γ 25))] [] M Q := by
  unfold fDy_minutesLeft at hy
  refine zj_sipush (pc' := 3) dX1_minutesLeft_0 rfl ksipush_400 ?_
  refine zj_aload_n (pc' := 4) 0 dX1_minutesLeft_3 rfl rfl rfl ?_
  refine zj_fI (pc' := 7) dX1_minutesLeft_4 rfl flX1_45 sh25 rfl e_i25 rfl ?_
  refine zj_isub (pc' := 8) dX1_minutesLeft_7 rfl ?_
  subst hy
  exact zj_iret dX1_minutesLeft_8 rfl hq
set_option maxRecDepth 20000 in
theorem LX1_minutesLeft_25 (Γ : zG) (M : zM) (r0 : Nat → Int32) (e_i25 : M.1 25 = r0)  {res : Int32} (hy : (fDy_minutesLeft r0) = res) : zK Γ 1 YX1_minutesLeft [.ref (zad Γ 25)] M (fun v N => v = some (.int res) ∧ N = M) :=
  zK_of (by decide) (Nat.le_of_ble_eq_true rfl) (TX1_minutesLeft_25 Γ M r0 e_i25 hy ⟨rfl, rfl⟩)

noncomputable def fPl_farFrom (r0 : Nat → Int32) (r0_3 : Nat → Int32) (a1 : Int32) (a2 : Int32) : Option (Int32) :=
  (if (fPl_hasCorner r0 a1) = true then
  (if (fPl_hasCorner r0 a2) = true then
  (zrd r0_3 64 ((a1 * 8) + a2)).bind (fun (v3 : Int32) =>
  some v3)
  else
  some (-1))
  else
  some (-1))

set_option maxRecDepth 20000 in
theorem TX7_farFrom_5 (Γ : zG) {Q : Option Value → zM → Prop} (M : zM) (r0 : Nat → Int32) (r0_3 : Nat → Int32) (e_i5 : M.1 5 = r0) (e_i9 : M.1 9 = r0_3) (a1 : Int32) (a2 : Int32) {res : Int32} (hy : (fPl_farFrom r0 r0_3 a1 a2) = some res) (hq : Q (some (.int res)) M) : zR Γ 2 YX7_farFrom 0 [(0, .ref (zad Γ 5)), (1, .int a1), (2, .int a2)] [] M Q := by
  unfold fPl_farFrom at hy
  refine zj_aload_n (pc' := 1) 0 dX7_farFrom_0 rfl rfl rfl ?_
  refine zj_iload_n (pc' := 2) 1 dX7_farFrom_1 rfl rfl rfl ?_
  refine zj_V1 (pc' := 5) (z := YX7_hasCorner) (As := [.int a1]) (N := M) dX7_farFrom_2 rfl mlX7_35 lkX7_hasCorner sh5 ⟨_, _, rfl⟩ rfl rfl (Nat.le_of_ble_eq_true rfl) (Nat.le_of_ble_eq_true rfl) (LX7_hasCorner_5 Γ _ r0 e_i5 a1 rfl) rfl ?_
  refine zj_bif_eq (tgt := 30) (pc' := 8) dX7_farFrom_5 rfl (by decide) (fun c1 => ?_) (fun c1 => ?_)
  · have hy := zt_f hy c1
    refine zj_iconst (pc' := 31) dX7_farFrom_30 rfl kiconst_m1 ?_
    have e9 := Option.some.inj hy
    subst e9
    exact zj_iret dX7_farFrom_31 rfl hq
  · have hy := zt_t hy c1
    refine zj_aload_n (pc' := 9) 0 dX7_farFrom_8 rfl rfl rfl ?_
    refine zj_iload_n (pc' := 10) 2 dX7_farFrom_9 rfl rfl rfl ?_
    refine zj_V1 (pc' := 13) (z := YX7_hasCorner) (As := [.int a2]) (N := M) dX7_farFrom_10 rfl mlX7_35 lkX7_hasCorner sh5 ⟨_, _, rfl⟩ rfl rfl (Nat.le_of_ble_eq_true rfl) (Nat.le_of_ble_eq_true rfl) (LX7_hasCorner_5 Γ _ r0 e_i5 a2 rfl) rfl ?_
    refine zj_bif_eq (tgt := 30) (pc' := 16) dX7_farFrom_13 rfl (by decide) (fun c2 => ?_) (fun c2 => ?_)
    · have hy := zt_f hy c2
      refine zj_iconst (pc' := 31) dX7_farFrom_30 rfl kiconst_m1 ?_
      have e9 := Option.some.inj hy
      subst e9
      exact zj_iret dX7_farFrom_31 rfl hq
    · have hy := zt_t hy c2
      refine zj_aload_n (pc' := 17) 0 dX7_farFrom_16 rfl rfl rfl ?_
      refine zj_getR (pc' := 20) (j := 9) dX7_farFrom_17 rfl flX7_22 sh5 rfl ?_
      refine zj_iload_n (pc' := 21) 1 dX7_farFrom_20 rfl rfl rfl ?_
      refine zj_bipush (pc' := 23) dX7_farFrom_21 rfl kbipush_8 ?_
      refine zj_imul (pc' := 24) dX7_farFrom_23 rfl ?_
      refine zj_iload_n (pc' := 25) 2 dX7_farFrom_24 rfl rfl rfl ?_
      refine zj_iadd (pc' := 26) dX7_farFrom_25 rfl ?_
      obtain ⟨v3, hv3, hy⟩ := zt_b hy
      refine zj_rdi (pc' := 27) dX7_farFrom_26 rfl sh9 e_i9 hv3 ?_
      refine zj_goto (tgt := 31) dX7_farFrom_27 (by decide) ?_
      have e9 := Option.some.inj hy
      subst e9
      exact zj_iret dX7_farFrom_31 rfl hq
set_option maxRecDepth 20000 in
theorem LX7_farFrom_5 (Γ : zG) (M : zM) (r0 : Nat → Int32) (r0_3 : Nat → Int32) (e_i5 : M.1 5 = r0) (e_i9 : M.1 9 = r0_3) (a1 : Int32) (a2 : Int32) {res : Int32} (hy : (fPl_farFrom r0 r0_3 a1 a2) = some res) : zK Γ 2 YX7_farFrom [.ref (zad Γ 5), .int a1, .int a2] M (fun v N => v = some (.int res) ∧ N = M) :=
  zK_of (by decide) (Nat.le_of_ble_eq_true rfl) (TX7_farFrom_5 Γ M r0 r0_3 e_i5 e_i9 a1 a2 hy ⟨rfl, rfl⟩)

noncomputable def fPl_stepTowards_L14 (r0 : Nat → Int32) (r0_2 : Nat → Int32) (r0_3 : Nat → Int32) (a1 : Int32) (a2 : Int32) (y1 : Int32) (x3 : Int32) : Option ((Int32) ⊕ (Int32)) :=
  (if 8 ≤ x3 then
  some (.inr a1)
  else
  (fPl_besideOf r0 r0_2 a1).bind (fun (y12 : Int32) =>
  (if (fX_hasBit y12 x3) = true then
  (fPl_farFrom r0 r0_3 x3 a2).bind (fun (y14 : Int32) =>
  (if y14 = (y1 - 1) then
  some (.inr x3)
  else
  zlet (x3 + 1) (fun (x16 : Int32) =>
  some (.inl x16))))
  else
  zlet (x3 + 1) (fun (x17 : Int32) =>
  some (.inl x17)))))
noncomputable def fPl_stepTowards (r0 : Nat → Int32) (r0_2 : Nat → Int32) (r0_3 : Nat → Int32) (a1 : Int32) (a2 : Int32) : Option (Int32) :=
  (fPl_farFrom r0 r0_3 a1 a2).bind (fun (y1 : Int32) =>
  (if y1 ≤ 0 then
  some a1
  else
  zLP (fun s => fPl_stepTowards_L14 r0 r0_2 r0_3 a1 a2 y1 s) 0))

set_option maxRecDepth 20000 in
theorem TX7_stepTowards_5 (Γ : zG) {Q : Option Value → zM → Prop} (M : zM) (r0 : Nat → Int32) (r0_2 : Nat → Int32) (r0_3 : Nat → Int32) (e_i5 : M.1 5 = r0) (e_i8 : M.1 8 = r0_2) (e_i9 : M.1 9 = r0_3) (a1 : Int32) (a2 : Int32) {res : Int32} (hy : (fPl_stepTowards r0 r0_2 r0_3 a1 a2) = some res) (hq : Q (some (.int res)) M) : zR Γ 3 YX7_stepTowards 0 [(0, .ref (zad Γ 5)), (1, .int a1), (2, .int a2)] [] M Q := by
  unfold fPl_stepTowards at hy
  refine zj_aload_n (pc' := 1) 0 dX7_stepTowards_0 rfl rfl rfl ?_
  refine zj_iload_n (pc' := 2) 1 dX7_stepTowards_1 rfl rfl rfl ?_
  refine zj_iload_n (pc' := 3) 2 dX7_stepTowards_2 rfl rfl rfl ?_
  obtain ⟨y1, hy1, hy⟩ := zt_b hy
  refine zj_V1 (pc' := 6) (z := YX7_farFrom) (As := [.int a1, .int a2]) (N := M) dX7_stepTowards_3 rfl mlX7_50 lkX7_farFrom sh5 ⟨_, _, rfl⟩ rfl rfl (Nat.le_of_ble_eq_true rfl) (Nat.le_of_ble_eq_true rfl) (LX7_farFrom_5 Γ _ r0 r0_3 e_i5 e_i9 a1 a2 hy1) rfl ?_
  refine zj_istore_n (pc' := 7) (L' := [(3, .int y1), (0, .ref (zad Γ 5)), (1, .int a1), (2, .int a2)]) dX7_stepTowards_6 rfl rfl (by decide) rfl ?_
  refine zj_iload_n (pc' := 8) 0 dX7_stepTowards_7 rfl rfl rfl ?_
  refine zj_if_le (tgt := 56) (pc' := 11) dX7_stepTowards_8 rfl (by decide) (fun c2 => ?_) (fun c2 => ?_)
  · have hy := zt_t hy c2
    refine zj_iload_n (pc' := 57) 2 dX7_stepTowards_56 rfl rfl rfl ?_
    have e9 := Option.some.inj hy
    subst e9
    exact zj_iret dX7_stepTowards_57 rfl hq
  · have hy := zt_f hy c2
    refine zj_iconst (pc' := 12) dX7_stepTowards_11 rfl kiconst_0 ?_
    refine zj_istore (pc' := 14) (L' := [(4, .int 0), (3, .int y1), (0, .ref (zad Γ 5)), (1, .int a1), (2, .int a2)]) dX7_stepTowards_12 rfl (by decide) rfl ?_
    refine zj_loc [2, 3, 4, 1, 0] rfl ?_
    obtain ⟨n9, hn9⟩ := zLP_some hy
    have HL5 : ∀ (n : Nat) (x3 : Int32), zlp (fun s => fPl_stepTowards_L14 r0 r0_2 r0_3 a1 a2 y1 s) n x3 = some res → zR Γ 3 YX7_stepTowards 14 [(0, .ref (zad Γ 5)), (1, .int a1), (2, .int a2), (3, .int y1), (4, .int x3)] [] M Q := by
      intro n
      induction n with
      | zero => intro x3 hn9; cases hn9
      | succ n ih8 =>
        intro x3 hn9
        obtain ⟨o9, hb9, h9, h10⟩ := zlp_step hn9
        have hy : fPl_stepTowards_L14 r0 r0_2 r0_3 a1 a2 y1 x3 = some o9 := hb9
        unfold fPl_stepTowards_L14 at hy
        refine zj_iload (pc' := 16) 4 dX7_stepTowards_14 rfl rfl ?_
        refine zj_bipush (pc' := 18) dX7_stepTowards_16 rfl kbipush_8 ?_
        refine zj_icmp_ge (tgt := 56) (pc' := 21) dX7_stepTowards_18 rfl (by decide) (fun c11 => ?_) (fun c11 => ?_)
        · have hy := zt_t hy c11
          refine zj_iload_n (pc' := 57) 1 dX7_stepTowards_56 rfl rfl rfl ?_
          have e9 := h10 _ (Option.some.inj hy).symm
          subst e9
          exact zj_iret dX7_stepTowards_57 rfl hq
        · have hy := zt_f hy c11
          refine zj_aload_n (pc' := 22) 0 dX7_stepTowards_21 rfl rfl rfl ?_
          refine zj_iload_n (pc' := 23) 1 dX7_stepTowards_22 rfl rfl rfl ?_
          obtain ⟨y12, hy12, hy⟩ := zt_b hy
          refine zj_V1 (pc' := 26) (z := YX7_besideOf) (As := [.int a1]) (N := M) dX7_stepTowards_23 rfl mlX7_42 lkX7_besideOf sh5 ⟨_, _, rfl⟩ rfl rfl (Nat.le_of_ble_eq_true rfl) (Nat.le_of_ble_eq_true rfl) (LX7_besideOf_5 Γ _ r0 r0_2 e_i5 e_i8 a1 hy12) rfl ?_
          refine zj_iload (pc' := 28) 4 dX7_stepTowards_26 rfl rfl ?_
          refine zj_N1 (pc' := 31) (z := YX11_hasBit) (As := [.int y12, .int x3]) (N := M) dX7_stepTowards_28 rfl nlX7_46 lkX11_hasBit rfl rfl (Nat.le_of_ble_eq_true rfl) (Nat.le_of_ble_eq_true rfl) (LX11_hasBit Γ _ y12 x3 rfl) rfl ?_
          refine zj_bif_eq (tgt := 50) (pc' := 34) dX7_stepTowards_31 rfl (by decide) (fun c13 => ?_) (fun c13 => ?_)
          · have hy := zt_f hy c13
            obtain ⟨x17, ex17⟩ : ∃ z : Int32, z = (x3 + 1) := ⟨_, rfl⟩
            have hy := zlet_at ex17 hy
            refine zj_iinc (pc' := 53) 4 (L' := [(4, .int x17), (0, .ref (zad Γ 5)), (1, .int a1), (2, .int a2), (3, .int y1)]) dX7_stepTowards_50 rfl rfl (by decide) (by rw [ci1, ← ex17]; rfl) ?_
            refine zj_goto (tgt := 14) dX7_stepTowards_53 (by decide) ?_
            have hn9 := h9 _ (Option.some.inj hy).symm
            refine zj_loc [1, 2, 3, 4, 0] rfl ?_
            exact ih8 _ hn9
          · have hy := zt_t hy c13
            refine zj_aload_n (pc' := 35) 0 dX7_stepTowards_34 rfl rfl rfl ?_
            refine zj_iload (pc' := 37) 4 dX7_stepTowards_35 rfl rfl ?_
            refine zj_iload_n (pc' := 38) 2 dX7_stepTowards_37 rfl rfl rfl ?_
            obtain ⟨y14, hy14, hy⟩ := zt_b hy
            refine zj_V1 (pc' := 41) (z := YX7_farFrom) (As := [.int x3, .int a2]) (N := M) dX7_stepTowards_38 rfl mlX7_50 lkX7_farFrom sh5 ⟨_, _, rfl⟩ rfl rfl (Nat.le_of_ble_eq_true rfl) (Nat.le_of_ble_eq_true rfl) (LX7_farFrom_5 Γ _ r0 r0_3 e_i5 e_i9 x3 a2 hy14) rfl ?_
            refine zj_iload_n (pc' := 42) 3 dX7_stepTowards_41 rfl rfl rfl ?_
            refine zj_iconst (pc' := 43) dX7_stepTowards_42 rfl kiconst_1 ?_
            refine zj_isub (pc' := 44) dX7_stepTowards_43 rfl ?_
            refine zj_icmp_ne (tgt := 50) (pc' := 47) dX7_stepTowards_44 rfl (by decide) (fun c15 => ?_) (fun c15 => ?_)
            · have hy := zt_f hy c15
              obtain ⟨x16, ex16⟩ : ∃ z : Int32, z = (x3 + 1) := ⟨_, rfl⟩
              have hy := zlet_at ex16 hy
              refine zj_iinc (pc' := 53) 4 (L' := [(4, .int x16), (0, .ref (zad Γ 5)), (1, .int a1), (2, .int a2), (3, .int y1)]) dX7_stepTowards_50 rfl rfl (by decide) (by rw [ci1, ← ex16]; rfl) ?_
              refine zj_goto (tgt := 14) dX7_stepTowards_53 (by decide) ?_
              have hn9 := h9 _ (Option.some.inj hy).symm
              refine zj_loc [1, 2, 3, 4, 0] rfl ?_
              exact ih8 _ hn9
            · have hy := zt_t hy c15
              refine zj_iload (pc' := 49) 4 dX7_stepTowards_47 rfl rfl ?_
              have e9 := h10 _ (Option.some.inj hy).symm
              subst e9
              exact zj_iret dX7_stepTowards_49 rfl hq
    exact HL5 n9 _ hn9
set_option maxRecDepth 20000 in
theorem LX7_stepTowards_5 (Γ : zG) (M : zM) (r0 : Nat → Int32) (r0_2 : Nat → Int32) (r0_3 : Nat → Int32) (e_i5 : M.1 5 = r0) (e_i8 : M.1 8 = r0_2) (e_i9 : M.1 9 = r0_3) (a1 : Int32) (a2 : Int32) {res : Int32} (hy : (fPl_stepTowards r0 r0_2 r0_3 a1 a2) = some res) : zK Γ 3 YX7_stepTowards [.ref (zad Γ 5), .int a1, .int a2] M (fun v N => v = some (.int res) ∧ N = M) :=
  zK_of (by decide) (Nat.le_of_ble_eq_true rfl) (TX7_stepTowards_5 Γ M r0 r0_2 r0_3 e_i5 e_i8 e_i9 a1 a2 hy ⟨rfl, rfl⟩)

noncomputable def fDy_nextPlace (r0_0 : Nat → Int32) (r0_2 : Nat → Int32) (r0_3 : Nat → Int32) (r0_4 : Nat → Int32) (r0_5 : Nat → Int32) (r1 : Nat → Int32) (r1_2 : Nat → Int32) (r1_3 : Nat → Int32) (a2 : Int32) : Option (Int32) :=
  (zrd r0_5 6 a2).bind (fun (v1 : Int32) =>
  (if v1 ≤ 0 then
  (fDy_whereIs r0_0 a2).bind (fun (y3 : Int32) =>
  (zrd r0_2 6 a2).bind (fun (v4 : Int32) =>
  (if v4 = (-1) then
  some y3
  else
  (zrd r0_3 6 a2).bind (fun (v6 : Int32) =>
  (fDy_wasAt r0_0 v4 (v6 - 1)).bind (fun (y7 : Int32) =>
  (fPl_stepTowards r1 r1_2 r1_3 y3 y7).bind (fun (y8 : Int32) =>
  some y8))))))
  else
  (zrd r0_4 48 (a2 * 8)).bind (fun (v9 : Int32) =>
  some v9)))

set_option maxRecDepth 20000 in
theorem TX1_nextPlace_25_5 (Γ : zG) {Q : Option Value → zM → Prop} (M : zM) (r0_0 : Nat → Int32) (r0_2 : Nat → Int32) (r0_3 : Nat → Int32) (r0_4 : Nat → Int32) (r0_5 : Nat → Int32) (r1 : Nat → Int32) (r1_2 : Nat → Int32) (r1_3 : Nat → Int32) (e_i26 : M.1 26 = r0_0) (e_i28 : M.1 28 = r0_2) (e_i29 : M.1 29 = r0_3) (e_i30 : M.1 30 = r0_4) (e_i31 : M.1 31 = r0_5) (e_i5 : M.1 5 = r1) (e_i8 : M.1 8 = r1_2) (e_i9 : M.1 9 = r1_3) (a2 : Int32) {res : Int32} (hy : (fDy_nextPlace r0_0 r0_2 r0_3 r0_4 r0_5 r1 r1_2 r1_3 a2) = some res) (hq : Q (some (.int res)) M) : zR Γ 4 YX1_nextPlace 0 [(0, .ref (zad Γ 25)), (1, .ref (zad Γ 5)), (2, .int a2)] [] M Q := by
  unfold fDy_nextPlace at hy
  refine zj_aload_n (pc' := 1) 0 dX1_nextPlace_0 rfl rfl rfl ?_
  refine zj_getR (pc' := 4) (j := 31) dX1_nextPlace_1 rfl flX1_27 sh25 rfl ?_
  refine zj_iload_n (pc' := 5) 2 dX1_nextPlace_4 rfl rfl rfl ?_
  obtain ⟨v1, hv1, hy⟩ := zt_b hy
  refine zj_rdi (pc' := 6) dX1_nextPlace_5 rfl sh31 e_i31 hv1 ?_
  refine zj_if_le (tgt := 19) (pc' := 9) dX1_nextPlace_6 rfl (by decide) (fun c2 => ?_) (fun c2 => ?_)
  · have hy := zt_t hy c2
    refine zj_aload_n (pc' := 20) 0 dX1_nextPlace_19 rfl rfl rfl ?_
    refine zj_iload_n (pc' := 21) 2 dX1_nextPlace_20 rfl rfl rfl ?_
    obtain ⟨y3, hy3, hy⟩ := zt_b hy
    refine zj_V1 (pc' := 24) (z := YX1_whereIs) (As := [.int a2]) (N := M) dX1_nextPlace_21 rfl mlX1_88 lkX1_whereIs sh25 ⟨_, _, rfl⟩ rfl rfl (Nat.le_of_ble_eq_true rfl) (Nat.le_of_ble_eq_true rfl) (LX1_whereIs_25 Γ _ r0_0 e_i26 a2 hy3) rfl ?_
    refine zj_istore_n (pc' := 25) (L' := [(3, .int y3), (0, .ref (zad Γ 25)), (1, .ref (zad Γ 5)), (2, .int a2)]) dX1_nextPlace_24 rfl rfl (by decide) rfl ?_
    refine zj_aload_n (pc' := 26) 1 dX1_nextPlace_25 rfl rfl rfl ?_
    refine zj_getR (pc' := 29) (j := 28) dX1_nextPlace_26 rfl flX1_18 sh25 rfl ?_
    refine zj_iload_n (pc' := 30) 3 dX1_nextPlace_29 rfl rfl rfl ?_
    obtain ⟨v4, hv4, hy⟩ := zt_b hy
    refine zj_rdi (pc' := 31) dX1_nextPlace_30 rfl sh28 e_i28 hv4 ?_
    refine zj_istore (pc' := 33) (L' := [(4, .int v4), (3, .int y3), (0, .ref (zad Γ 25)), (1, .ref (zad Γ 5)), (2, .int a2)]) dX1_nextPlace_31 rfl (by decide) rfl ?_
    refine zj_iload (pc' := 35) 0 dX1_nextPlace_33 rfl rfl ?_
    refine zj_iconst (pc' := 36) dX1_nextPlace_35 rfl kiconst_m1 ?_
    refine zj_icmp_ne (tgt := 43) (pc' := 39) dX1_nextPlace_36 rfl (by decide) (fun c5 => ?_) (fun c5 => ?_)
    · have hy := zt_f hy c5
      refine zj_aload_n (pc' := 44) 3 dX1_nextPlace_43 rfl rfl rfl ?_
      refine zj_iload_n (pc' := 45) 1 dX1_nextPlace_44 rfl rfl rfl ?_
      refine zj_aload_n (pc' := 46) 2 dX1_nextPlace_45 rfl rfl rfl ?_
      refine zj_iload (pc' := 48) 0 dX1_nextPlace_46 rfl rfl ?_
      refine zj_aload_n (pc' := 49) 2 dX1_nextPlace_48 rfl rfl rfl ?_
      refine zj_getR (pc' := 52) (j := 29) dX1_nextPlace_49 rfl flX1_21 sh25 rfl ?_
      refine zj_iload_n (pc' := 53) 4 dX1_nextPlace_52 rfl rfl rfl ?_
      obtain ⟨v6, hv6, hy⟩ := zt_b hy
      refine zj_rdi (pc' := 54) dX1_nextPlace_53 rfl sh29 e_i29 hv6 ?_
      refine zj_iconst (pc' := 55) dX1_nextPlace_54 rfl kiconst_1 ?_
      refine zj_isub (pc' := 56) dX1_nextPlace_55 rfl ?_
      obtain ⟨y7, hy7, hy⟩ := zt_b hy
      refine zj_V1 (pc' := 59) (z := YX1_wasAt) (As := [.int v4, .int (v6 - 1)]) (N := M) dX1_nextPlace_56 rfl mlX1_62 lkX1_wasAt sh25 ⟨_, _, rfl⟩ rfl rfl (Nat.le_of_ble_eq_true rfl) (Nat.le_of_ble_eq_true rfl) (LX1_wasAt_25 Γ _ r0_0 e_i26 v4 (v6 - 1) hy7) rfl ?_
      obtain ⟨y8, hy8, hy⟩ := zt_b hy
      refine zj_V1 (pc' := 62) (z := YX7_stepTowards) (As := [.int y3, .int y7]) (N := M) dX1_nextPlace_59 rfl mlX1_118 lkX7_stepTowards sh5 ⟨_, _, rfl⟩ rfl rfl (Nat.le_of_ble_eq_true rfl) (Nat.le_of_ble_eq_true rfl) (LX7_stepTowards_5 Γ _ r1 r1_2 r1_3 e_i5 e_i8 e_i9 y3 y7 hy8) rfl ?_
      have e9 := Option.some.inj hy
      subst e9
      exact zj_iret dX1_nextPlace_62 rfl hq
    · have hy := zt_t hy c5
      refine zj_iload_n (pc' := 40) 1 dX1_nextPlace_39 rfl rfl rfl ?_
      refine zj_goto (tgt := 62) dX1_nextPlace_40 (by decide) ?_
      have e9 := Option.some.inj hy
      subst e9
      exact zj_iret dX1_nextPlace_62 rfl hq
  · have hy := zt_f hy c2
    refine zj_aload_n (pc' := 10) 0 dX1_nextPlace_9 rfl rfl rfl ?_
    refine zj_getR (pc' := 13) (j := 30) dX1_nextPlace_10 rfl flX1_24 sh25 rfl ?_
    refine zj_iload_n (pc' := 14) 2 dX1_nextPlace_13 rfl rfl rfl ?_
    refine zj_bipush (pc' := 16) dX1_nextPlace_14 rfl kbipush_8 ?_
    refine zj_imul (pc' := 17) dX1_nextPlace_16 rfl ?_
    obtain ⟨v9, hv9, hy⟩ := zt_b hy
    refine zj_rdi (pc' := 18) dX1_nextPlace_17 rfl sh30 e_i30 hv9 ?_
    have e9 := Option.some.inj hy
    subst e9
    exact zj_iret dX1_nextPlace_18 rfl hq
set_option maxRecDepth 20000 in
theorem LX1_nextPlace_25_5 (Γ : zG) (M : zM) (r0_0 : Nat → Int32) (r0_2 : Nat → Int32) (r0_3 : Nat → Int32) (r0_4 : Nat → Int32) (r0_5 : Nat → Int32) (r1 : Nat → Int32) (r1_2 : Nat → Int32) (r1_3 : Nat → Int32) (e_i26 : M.1 26 = r0_0) (e_i28 : M.1 28 = r0_2) (e_i29 : M.1 29 = r0_3) (e_i30 : M.1 30 = r0_4) (e_i31 : M.1 31 = r0_5) (e_i5 : M.1 5 = r1) (e_i8 : M.1 8 = r1_2) (e_i9 : M.1 9 = r1_3) (a2 : Int32) {res : Int32} (hy : (fDy_nextPlace r0_0 r0_2 r0_3 r0_4 r0_5 r1 r1_2 r1_3 a2) = some res) : zK Γ 4 YX1_nextPlace [.ref (zad Γ 25), .ref (zad Γ 5), .int a2] M (fun v N => v = some (.int res) ∧ N = M) :=
  zK_of (by decide) (Nat.le_of_ble_eq_true rfl) (TX1_nextPlace_25_5 Γ M r0_0 r0_2 r0_3 r0_4 r0_5 r1 r1_2 r1_3 e_i26 e_i28 e_i29 e_i30 e_i31 e_i5 e_i8 e_i9 a2 hy ⟨rfl, rfl⟩)

noncomputable def fDy_shortenWay_L26 (a1 : Int32) (x3 : Int32) (r0_5v5 : Nat → Int32) (r0_4v6 : Nat → Int32) (x7 : Int32) : Option (((Nat → Int32) × Int32) ⊕ ((Nat → Int32))) :=
  (zrd r0_5v5 6 a1).bind (fun (v15 : Int32) =>
  (if v15 ≤ x7 then
  some (.inr r0_4v6)
  else
  (if 7 ≤ x7 then
  some (.inr r0_4v6)
  else
  (zrd r0_4v6 48 ((x3 + x7) + 1)).bind (fun (v18 : Int32) =>
  (zwr r0_4v6 48 (x3 + x7) v18).bind (fun (r0_4v19 : Nat → Int32) =>
  zlet (x7 + 1) (fun (x20 : Int32) =>
  some (.inl (r0_4v19, x20))))))))
noncomputable def fDy_shortenWay (r0_4 : Nat → Int32) (r0_5 : Nat → Int32) (a1 : Int32) : Option ((Nat → Int32) × (Nat → Int32)) :=
  (zrd r0_5 6 a1).bind (fun (v1 : Int32) =>
  (if v1 ≤ 0 then
  some (r0_4, r0_5)
  else
  zlet (a1 * 8) (fun (x3 : Int32) =>
  (zrd r0_5 6 a1).bind (fun (v4 : Int32) =>
  (zwr r0_5 6 a1 (v4 - 1)).bind (fun (r0_5v5 : Nat → Int32) =>
  (zLP (fun s => fDy_shortenWay_L26 a1 x3 r0_5v5 s.1 s.2) (r0_4, 0)).bind (fun r10 =>
  some (r10, r0_5v5)))))))

set_option maxRecDepth 20000 in
theorem TX1_shortenWay_25 (Γ : zG) {Q : Option Value → zM → Prop} (M : zM) (r0_4 : Nat → Int32) (r0_5 : Nat → Int32) (e_i30 : M.1 30 = r0_4) (e_i31 : M.1 31 = r0_5) (a1 : Int32) {res : (Nat → Int32) × (Nat → Int32)} (hy : (fDy_shortenWay r0_4 r0_5 a1) = some res) (hq : Q none (zui (zui M 30 res.1) 31 res.2)) : zR Γ 1 YX1_shortenWay 0 [(0, .ref (zad Γ 25)), (1, .int a1)] [] M Q := by
  unfold fDy_shortenWay at hy
  refine zj_aload_n (pc' := 1) 0 dX1_shortenWay_0 rfl rfl rfl ?_
  refine zj_getR (pc' := 4) (j := 31) dX1_shortenWay_1 rfl flX1_27 sh25 rfl ?_
  refine zj_iload_n (pc' := 5) 1 dX1_shortenWay_4 rfl rfl rfl ?_
  obtain ⟨v1, hv1, hy⟩ := zt_b hy
  refine zj_rdi (pc' := 6) dX1_shortenWay_5 rfl sh31 e_i31 hv1 ?_
  refine zj_if_le (tgt := 66) (pc' := 9) dX1_shortenWay_6 rfl (by decide) (fun c2 => ?_) (fun c2 => ?_)
  · have hy := zt_t hy c2
    have e9 := Option.some.inj hy
    subst e9
    refine zj_mem (N := (zui M 30 r0_4)) (zself_i e_i30 rfl) ?_
    refine zj_mem (N := (zui (zui M 30 r0_4) 31 r0_5)) (zself_i (zr_n rfl e_i31) rfl) ?_
    exact zj_vret dX1_shortenWay_66 rfl hq
  · have hy := zt_f hy c2
    refine zj_iload_n (pc' := 10) 1 dX1_shortenWay_9 rfl rfl rfl ?_
    refine zj_bipush (pc' := 12) dX1_shortenWay_10 rfl kbipush_8 ?_
    refine zj_imul (pc' := 13) dX1_shortenWay_12 rfl ?_
    refine zj_topi (fun x3 ex3 => ?_)
    have hy := zlet_at ex3 hy
    refine zj_istore_n (pc' := 14) (L' := [(2, .int x3), (0, .ref (zad Γ 25)), (1, .int a1)]) dX1_shortenWay_13 rfl rfl (by decide) rfl ?_
    refine zj_aload_n (pc' := 15) 1 dX1_shortenWay_14 rfl rfl rfl ?_
    refine zj_getR (pc' := 18) (j := 31) dX1_shortenWay_15 rfl flX1_27 sh25 rfl ?_
    refine zj_iload_n (pc' := 19) 2 dX1_shortenWay_18 rfl rfl rfl ?_
    refine zj_dup2 (pc' := 20) dX1_shortenWay_19 rfl rfl rfl ?_
    obtain ⟨v4, hv4, hy⟩ := zt_b hy
    refine zj_rdi (pc' := 21) dX1_shortenWay_20 rfl sh31 e_i31 hv4 ?_
    refine zj_iconst (pc' := 22) dX1_shortenWay_21 rfl kiconst_1 ?_
    refine zj_isub (pc' := 23) dX1_shortenWay_22 rfl ?_
    obtain ⟨r0_5v5, hr0_5v5, hy⟩ := zt_b hy
    refine zj_wri (pc' := 24) (N := (zui M 31 r0_5v5)) dX1_shortenWay_23 rfl sh31 e_i31 hr0_5v5 rfl ?_
    refine zj_iconst (pc' := 25) dX1_shortenWay_24 rfl kiconst_0 ?_
    refine zj_istore_n (pc' := 26) (L' := [(3, .int 0), (2, .int x3), (0, .ref (zad Γ 25)), (1, .int a1)]) dX1_shortenWay_25 rfl rfl (by decide) rfl ?_
    refine zj_loc [2, 3, 1, 0] rfl ?_
    refine zj_mem (N := (zui (zui M 30 r0_4) 31 r0_5v5)) (zself_i (zr_n rfl e_i30) (zm_n rfl rfl)) ?_
    obtain ⟨r10, hr9, hyo11⟩ := zt_b hy
    obtain ⟨n9, hn9⟩ := zLP_some hr9
    have HE8 : ∀ (r0_4v21 : Nat → Int32), r10 = r0_4v21 → zR Γ 1 YX1_shortenWay 66 [] [] (zui (zui M 30 r0_4v21) 31 r0_5v5) Q := by
      intro r0_4v21 e9
      have hy := hyo11
      try rw [e9] at hy
      try dsimp only at hy
      have e9 := Option.some.inj hy
      subst e9
      exact zj_vret dX1_shortenWay_66 rfl hq
    have HL9 : ∀ (n : Nat) (r0_4v6 : Nat → Int32) (x7 : Int32), zlp (fun s => fDy_shortenWay_L26 a1 x3 r0_5v5 s.1 s.2) n (r0_4v6, x7) = some r10 → zR Γ 1 YX1_shortenWay 26 [(0, .ref (zad Γ 25)), (1, .int a1), (2, .int x3), (3, .int x7)] [] (zui (zui M 30 r0_4v6) 31 r0_5v5) Q := by
      intro n
      induction n with
      | zero => intro r0_4v6 x7 hn9; cases hn9
      | succ n ih12 =>
        intro r0_4v6 x7 hn9
        obtain ⟨o9, hb9, h13, h14⟩ := zlp_step hn9
        have hy : fDy_shortenWay_L26 a1 x3 r0_5v5 r0_4v6 x7 = some o9 := hb9
        unfold fDy_shortenWay_L26 at hy
        refine zj_iload_n (pc' := 27) 3 dX1_shortenWay_26 rfl rfl rfl ?_
        refine zj_aload_n (pc' := 28) 0 dX1_shortenWay_27 rfl rfl rfl ?_
        refine zj_getR (pc' := 31) (j := 31) dX1_shortenWay_28 rfl flX1_27 sh25 rfl ?_
        refine zj_iload_n (pc' := 32) 1 dX1_shortenWay_31 rfl rfl rfl ?_
        obtain ⟨v15, hv15, hy⟩ := zt_b hy
        refine zj_rdi (pc' := 33) dX1_shortenWay_32 rfl sh31 zr_s hv15 ?_
        refine zj_icmp_ge (tgt := 66) (pc' := 36) dX1_shortenWay_33 rfl (by decide) (fun c16 => ?_) (fun c16 => ?_)
        · have hy := zt_t hy c16
          have e9 := h14 _ (Option.some.inj hy).symm
          refine zj_loc [] rfl ?_
          exact HE8 _ e9.symm
        · have hy := zt_f hy c16
          refine zj_iload_n (pc' := 37) 3 dX1_shortenWay_36 rfl rfl rfl ?_
          refine zj_bipush (pc' := 39) dX1_shortenWay_37 rfl kbipush_7 ?_
          refine zj_icmp_ge (tgt := 66) (pc' := 42) dX1_shortenWay_39 rfl (by decide) (fun c17 => ?_) (fun c17 => ?_)
          · have hy := zt_t hy c17
            have e9 := h14 _ (Option.some.inj hy).symm
            refine zj_loc [] rfl ?_
            exact HE8 _ e9.symm
          · have hy := zt_f hy c17
            refine zj_aload_n (pc' := 43) 0 dX1_shortenWay_42 rfl rfl rfl ?_
            refine zj_getR (pc' := 46) (j := 30) dX1_shortenWay_43 rfl flX1_24 sh25 rfl ?_
            refine zj_iload_n (pc' := 47) 2 dX1_shortenWay_46 rfl rfl rfl ?_
            refine zj_iload_n (pc' := 48) 3 dX1_shortenWay_47 rfl rfl rfl ?_
            refine zj_iadd (pc' := 49) dX1_shortenWay_48 rfl ?_
            refine zj_aload_n (pc' := 50) 0 dX1_shortenWay_49 rfl rfl rfl ?_
            refine zj_getR (pc' := 53) (j := 30) dX1_shortenWay_50 rfl flX1_24 sh25 rfl ?_
            refine zj_iload_n (pc' := 54) 2 dX1_shortenWay_53 rfl rfl rfl ?_
            refine zj_iload_n (pc' := 55) 3 dX1_shortenWay_54 rfl rfl rfl ?_
            refine zj_iadd (pc' := 56) dX1_shortenWay_55 rfl ?_
            refine zj_iconst (pc' := 57) dX1_shortenWay_56 rfl kiconst_1 ?_
            refine zj_iadd (pc' := 58) dX1_shortenWay_57 rfl ?_
            obtain ⟨v18, hv18, hy⟩ := zt_b hy
            refine zj_rdi (pc' := 59) dX1_shortenWay_58 rfl sh30 (zr_n rfl zr_s) hv18 ?_
            obtain ⟨r0_4v19, hr0_4v19, hy⟩ := zt_b hy
            refine zj_wri (pc' := 60) (N := (zui (zui M 30 r0_4v19) 31 r0_5v5)) dX1_shortenWay_59 rfl sh30 (zr_n rfl zr_s) hr0_4v19 (zm_n rfl zm_s) ?_
            obtain ⟨x20, ex20⟩ : ∃ z : Int32, z = (x7 + 1) := ⟨_, rfl⟩
            have hy := zlet_at ex20 hy
            refine zj_iinc (pc' := 63) 3 (L' := [(3, .int x20), (0, .ref (zad Γ 25)), (1, .int a1), (2, .int x3)]) dX1_shortenWay_60 rfl rfl (by decide) (by rw [ci1, ← ex20]; rfl) ?_
            refine zj_goto (tgt := 26) dX1_shortenWay_63 (by decide) ?_
            have hn9 := h13 _ (Option.some.inj hy).symm
            refine zj_loc [1, 2, 3, 0] rfl ?_
            exact ih12 _ _ hn9
    exact HL9 n9 _ _ hn9
set_option maxRecDepth 20000 in
theorem LX1_shortenWay_25 (Γ : zG) (M : zM) (r0_4 : Nat → Int32) (r0_5 : Nat → Int32) (e_i30 : M.1 30 = r0_4) (e_i31 : M.1 31 = r0_5) (a1 : Int32) {res : (Nat → Int32) × (Nat → Int32)} (hy : (fDy_shortenWay r0_4 r0_5 a1) = some res) : zK Γ 1 YX1_shortenWay [.ref (zad Γ 25), .int a1] M (fun v N => v = none ∧ N = (zui (zui M 30 res.1) 31 res.2)) :=
  zK_of (by decide) (Nat.le_of_ble_eq_true rfl) (TX1_shortenWay_25 Γ M r0_4 r0_5 e_i30 e_i31 a1 hy ⟨rfl, rfl⟩)

noncomputable def fDy_move_L25 (x1 : Int32) (r0_0v5 : Nat → Int32) (x6 : Int32) : Option (((Nat → Int32) × Int32) ⊕ ((Nat → Int32))) :=
  (if x6 ≤ 0 then
  some (.inr r0_0v5)
  else
  (zrd r0_0v5 36 ((x1 + x6) - 1)).bind (fun (v15 : Int32) =>
  (zwr r0_0v5 36 (x1 + x6) v15).bind (fun (r0_0v16 : Nat → Int32) =>
  zlet (x6 + (-1)) (fun (x17 : Int32) =>
  some (.inl (r0_0v16, x17))))))
noncomputable def fDy_move (r0_0 : Nat → Int32) (r0_7 : Nat → Int32) (a1 : Int32) (a2 : Int32) : Option ((Nat → Int32) × (Nat → Int32)) :=
  zlet (a1 * 6) (fun (x1 : Int32) =>
  (zrd r0_0 36 x1).bind (fun (v2 : Int32) =>
  (zLP (fun s => fDy_move_L25 x1 s.1 s.2) (r0_0, 5)).bind (fun r9 =>
  (zwr r9 36 x1 a2).bind (fun (r0_0v19 : Nat → Int32) =>
  (if (if v2 = a2 then false else true) = true then
  (if (fDy_mayBeCorner a2) = true then
  (zrd r0_7 8 a2).bind (fun (v22 : Int32) =>
  (zwr r0_7 8 a2 (if (v22 + 1) < (9999 : Int32) then (v22 + 1) else (9999 : Int32))).bind (fun (r0_7v23 : Nat → Int32) =>
  some (r0_0v19, r0_7v23)))
  else
  some (r0_0v19, r0_7))
  else
  some (r0_0v19, r0_7))))))

set_option maxRecDepth 20000 in
theorem TX1_move_25 (Γ : zG) {Q : Option Value → zM → Prop} (M : zM) (r0_0 : Nat → Int32) (r0_7 : Nat → Int32) (e_i26 : M.1 26 = r0_0) (e_i33 : M.1 33 = r0_7) (a1 : Int32) (a2 : Int32) {res : (Nat → Int32) × (Nat → Int32)} (hy : (fDy_move r0_0 r0_7 a1 a2) = some res) (hq : Q none (zui (zui M 26 res.1) 33 res.2)) : zR Γ 2 YX1_move 0 [(0, .ref (zad Γ 25)), (1, .int a1), (2, .int a2)] [] M Q := by
  unfold fDy_move at hy
  refine zj_iload_n (pc' := 1) 1 dX1_move_0 rfl rfl rfl ?_
  refine zj_bipush (pc' := 3) dX1_move_1 rfl kbipush_6 ?_
  refine zj_imul (pc' := 4) dX1_move_3 rfl ?_
  refine zj_topi (fun x1 ex1 => ?_)
  have hy := zlet_at ex1 hy
  refine zj_istore_n (pc' := 5) (L' := [(3, .int x1), (0, .ref (zad Γ 25)), (1, .int a1), (2, .int a2)]) dX1_move_4 rfl rfl (by decide) rfl ?_
  refine zj_aload_n (pc' := 6) 1 dX1_move_5 rfl rfl rfl ?_
  refine zj_getR (pc' := 9) (j := 26) dX1_move_6 rfl flX1_9 sh25 rfl ?_
  refine zj_iload_n (pc' := 10) 0 dX1_move_9 rfl rfl rfl ?_
  obtain ⟨v2, hv2, hy⟩ := zt_b hy
  refine zj_rdi (pc' := 11) dX1_move_10 rfl sh26 e_i26 hv2 ?_
  refine zj_iload_n (pc' := 12) 3 dX1_move_11 rfl rfl rfl ?_
  have HJ3 : zR Γ 2 YX1_move 20 [(3, .int x1), (0, .ref (zad Γ 25)), (1, .int a1), (2, .int a2)] [.int (zb (if v2 = a2 then false else true))] M Q := by
    refine zj_istore (pc' := 22) (L' := [(4, .int (zb (if v2 = a2 then false else true))), (3, .int x1), (0, .ref (zad Γ 25)), (1, .int a1), (2, .int a2)]) dX1_move_20 rfl (by decide) rfl ?_
    refine zj_iconst (pc' := 23) dX1_move_22 rfl kiconst_5 ?_
    refine zj_istore (pc' := 25) (L' := [(5, .int 5), (4, .int (zb (if v2 = a2 then false else true))), (3, .int x1), (0, .ref (zad Γ 25)), (1, .int a1), (2, .int a2)]) dX1_move_23 rfl (by decide) rfl ?_
    refine zj_loc [3, 5, 2, 1, 0] rfl ?_
    refine zj_mem (N := (zui M 26 r0_0)) (zself_i e_i26 rfl) ?_
    obtain ⟨r9, hr9, hyo10⟩ := zt_b hy
    obtain ⟨n9, hn9⟩ := zLP_some hr9
    have HE7 : ∀ (r0_0v18 : Nat → Int32), r9 = r0_0v18 → zR Γ 2 YX1_move 56 [(0, .ref (zad Γ 25)), (2, .int a2), (3, .int x1), (4, .int (zb (if v2 = a2 then false else true)))] [] (zui M 26 r0_0v18) Q := by
      intro r0_0v18 e9
      have hy := hyo10
      try rw [e9] at hy
      try dsimp only at hy
      refine zj_aload_n (pc' := 57) 0 dX1_move_56 rfl rfl rfl ?_
      refine zj_getR (pc' := 60) (j := 26) dX1_move_57 rfl flX1_9 sh25 rfl ?_
      refine zj_iload_n (pc' := 61) 2 dX1_move_60 rfl rfl rfl ?_
      refine zj_iload_n (pc' := 62) 1 dX1_move_61 rfl rfl rfl ?_
      obtain ⟨r0_0v19, hr0_0v19, hy⟩ := zt_b hy
      refine zj_wri (pc' := 63) (N := (zui M 26 r0_0v19)) dX1_move_62 rfl sh26 zr_s hr0_0v19 zm_s ?_
      refine zj_iload (pc' := 65) 3 dX1_move_63 rfl rfl ?_
      refine zj_bif_eq (tgt := 95) (pc' := 68) dX1_move_65 rfl (by decide) (fun c20 => ?_) (fun c20 => ?_)
      · have hy := zt_f hy c20
        have e9 := Option.some.inj hy
        subst e9
        refine zj_mem (N := (zui (zui M 26 r0_0v19) 33 r0_7)) (zself_i (zr_n rfl e_i33) rfl) ?_
        exact zj_vret dX1_move_95 rfl hq
      · have hy := zt_t hy c20
        refine zj_iload_n (pc' := 69) 1 dX1_move_68 rfl rfl rfl ?_
        refine zj_S1 (pc' := 72) (z := YX1_mayBeCorner) (As := [.int a2]) (N := (zui M 26 r0_0v19)) dX1_move_69 rfl mlX1_66 lkX1_mayBeCorner rfl rfl (Nat.le_of_ble_eq_true rfl) (Nat.le_of_ble_eq_true rfl) (LX1_mayBeCorner Γ _ a2 rfl) rfl ?_
        refine zj_bif_eq (tgt := 95) (pc' := 75) dX1_move_72 rfl (by decide) (fun c21 => ?_) (fun c21 => ?_)
        · have hy := zt_f hy c21
          have e9 := Option.some.inj hy
          subst e9
          refine zj_mem (N := (zui (zui M 26 r0_0v19) 33 r0_7)) (zself_i (zr_n rfl e_i33) rfl) ?_
          exact zj_vret dX1_move_95 rfl hq
        · have hy := zt_t hy c21
          refine zj_aload_n (pc' := 76) 0 dX1_move_75 rfl rfl rfl ?_
          refine zj_getR (pc' := 79) (j := 33) dX1_move_76 rfl flX1_33 sh25 rfl ?_
          refine zj_iload_n (pc' := 80) 1 dX1_move_79 rfl rfl rfl ?_
          refine zj_sipush (pc' := 83) dX1_move_80 rfl ksipush_9999 ?_
          refine zj_aload_n (pc' := 84) 0 dX1_move_83 rfl rfl rfl ?_
          refine zj_getR (pc' := 87) (j := 33) dX1_move_84 rfl flX1_33 sh25 rfl ?_
          refine zj_iload_n (pc' := 88) 1 dX1_move_87 rfl rfl rfl ?_
          obtain ⟨v22, hv22, hy⟩ := zt_b hy
          refine zj_rdi (pc' := 89) dX1_move_88 rfl sh33 (zr_n rfl e_i33) hv22 ?_
          refine zj_iconst (pc' := 90) dX1_move_89 rfl kiconst_1 ?_
          refine zj_iadd (pc' := 91) dX1_move_90 rfl ?_
          refine zj_mmin (pc' := 94) dX1_move_91 rfl mlX1_121 zmminw (Nat.le_of_ble_eq_true rfl) (Nat.le_of_ble_eq_true rfl) ?_
          obtain ⟨r0_7v23, hr0_7v23, hy⟩ := zt_b hy
          refine zj_wri (pc' := 95) (N := (zui (zui M 26 r0_0v19) 33 r0_7v23)) dX1_move_94 rfl sh33 (zr_n rfl e_i33) hr0_7v23 rfl ?_
          have e9 := Option.some.inj hy
          subst e9
          exact zj_vret dX1_move_95 rfl hq
    have HL8 : ∀ (n : Nat) (r0_0v5 : Nat → Int32) (x6 : Int32), zlp (fun s => fDy_move_L25 x1 s.1 s.2) n (r0_0v5, x6) = some r9 → zR Γ 2 YX1_move 25 [(0, .ref (zad Γ 25)), (2, .int a2), (3, .int x1), (4, .int (zb (if v2 = a2 then false else true))), (5, .int x6)] [] (zui M 26 r0_0v5) Q := by
      intro n
      induction n with
      | zero => intro r0_0v5 x6 hn9; cases hn9
      | succ n ih11 =>
        intro r0_0v5 x6 hn9
        obtain ⟨o9, hb9, h12, h13⟩ := zlp_step hn9
        have hy : fDy_move_L25 x1 r0_0v5 x6 = some o9 := hb9
        unfold fDy_move_L25 at hy
        refine zj_iload (pc' := 27) 4 dX1_move_25 rfl rfl ?_
        refine zj_if_le (tgt := 56) (pc' := 30) dX1_move_27 rfl (by decide) (fun c14 => ?_) (fun c14 => ?_)
        · have hy := zt_t hy c14
          have e9 := h13 _ (Option.some.inj hy).symm
          refine zj_loc [0, 1, 2, 3] rfl ?_
          exact HE7 _ e9.symm
        · have hy := zt_f hy c14
          refine zj_aload_n (pc' := 31) 0 dX1_move_30 rfl rfl rfl ?_
          refine zj_getR (pc' := 34) (j := 26) dX1_move_31 rfl flX1_9 sh25 rfl ?_
          refine zj_iload_n (pc' := 35) 2 dX1_move_34 rfl rfl rfl ?_
          refine zj_iload (pc' := 37) 4 dX1_move_35 rfl rfl ?_
          refine zj_iadd (pc' := 38) dX1_move_37 rfl ?_
          refine zj_aload_n (pc' := 39) 0 dX1_move_38 rfl rfl rfl ?_
          refine zj_getR (pc' := 42) (j := 26) dX1_move_39 rfl flX1_9 sh25 rfl ?_
          refine zj_iload_n (pc' := 43) 2 dX1_move_42 rfl rfl rfl ?_
          refine zj_iload (pc' := 45) 4 dX1_move_43 rfl rfl ?_
          refine zj_iadd (pc' := 46) dX1_move_45 rfl ?_
          refine zj_iconst (pc' := 47) dX1_move_46 rfl kiconst_1 ?_
          refine zj_isub (pc' := 48) dX1_move_47 rfl ?_
          obtain ⟨v15, hv15, hy⟩ := zt_b hy
          refine zj_rdi (pc' := 49) dX1_move_48 rfl sh26 zr_s hv15 ?_
          obtain ⟨r0_0v16, hr0_0v16, hy⟩ := zt_b hy
          refine zj_wri (pc' := 50) (N := (zui M 26 r0_0v16)) dX1_move_49 rfl sh26 zr_s hr0_0v16 zm_s ?_
          obtain ⟨x17, ex17⟩ : ∃ z : Int32, z = (x6 + (-1)) := ⟨_, rfl⟩
          have hy := zlet_at ex17 hy
          refine zj_iinc (pc' := 53) 4 (L' := [(5, .int x17), (0, .ref (zad Γ 25)), (2, .int a2), (3, .int x1), (4, .int (zb (if v2 = a2 then false else true)))]) dX1_move_50 rfl rfl (by decide) (by rw [cim1, ← ex17]; rfl) ?_
          refine zj_goto (tgt := 25) dX1_move_53 (by decide) ?_
          have hn9 := h12 _ (Option.some.inj hy).symm
          refine zj_loc [1, 2, 3, 4, 0] rfl ?_
          exact ih11 _ _ hn9
    exact HL8 n9 _ _ hn9
  refine zj_icmp_eq (tgt := 19) (pc' := 15) dX1_move_12 rfl (by decide) (fun c4 => ?_) (fun c4 => ?_)
  · refine zj_iconst (pc' := 20) dX1_move_19 rfl kiconst_0 ?_
    exact zj_eqb (b := false) (if_pos c4) HJ3
  · refine zj_iconst (pc' := 16) dX1_move_15 rfl kiconst_1 ?_
    refine zj_goto (tgt := 20) dX1_move_16 (by decide) ?_
    exact zj_eqb (b := true) (if_neg c4) HJ3
set_option maxRecDepth 20000 in
theorem LX1_move_25 (Γ : zG) (M : zM) (r0_0 : Nat → Int32) (r0_7 : Nat → Int32) (e_i26 : M.1 26 = r0_0) (e_i33 : M.1 33 = r0_7) (a1 : Int32) (a2 : Int32) {res : (Nat → Int32) × (Nat → Int32)} (hy : (fDy_move r0_0 r0_7 a1 a2) = some res) : zK Γ 2 YX1_move [.ref (zad Γ 25), .int a1, .int a2] M (fun v N => v = none ∧ N = (zui (zui M 26 res.1) 33 res.2)) :=
  zK_of (by decide) (Nat.le_of_ble_eq_true rfl) (TX1_move_25 Γ M r0_0 r0_7 e_i26 e_i33 a1 a2 hy ⟨rfl, rfl⟩)


set_option maxRecDepth 20000 in
theorem TX1_bunsAt_25 (Γ : zG) {Q : Option Value → zM → Prop} (M : zM) (r0_6 : Nat → Int32) (e_i32 : M.1 32 = r0_6) (a1 : Int32) {res : Int32} (hy : (fDy_bunsAt r0_6 a1) = some res) (hq : Q (some (.int res)) M) : zR Γ 2 YX1_bunsAt 0 [(0, .ref (zad Γ 25)), (1, .int a1)] [] M Q := by
  unfold fDy_bunsAt at hy
  refine zj_iload_n (pc' := 1) 1 dX1_bunsAt_0 rfl rfl rfl ?_
  refine zj_S1 (pc' := 4) (z := YX1_mayBeCorner) (As := [.int a1]) (N := M) dX1_bunsAt_1 rfl mlX1_66 lkX1_mayBeCorner rfl rfl (Nat.le_of_ble_eq_true rfl) (Nat.le_of_ble_eq_true rfl) (LX1_mayBeCorner Γ _ a1 rfl) rfl ?_
  refine zj_bif_eq (tgt := 16) (pc' := 7) dX1_bunsAt_4 rfl (by decide) (fun c1 => ?_) (fun c1 => ?_)
  · have hy := zt_f hy c1
    refine zj_iconst (pc' := 17) dX1_bunsAt_16 rfl kiconst_0 ?_
    have e9 := Option.some.inj hy
    subst e9
    exact zj_iret dX1_bunsAt_17 rfl hq
  · have hy := zt_t hy c1
    refine zj_aload_n (pc' := 8) 0 dX1_bunsAt_7 rfl rfl rfl ?_
    refine zj_getR (pc' := 11) (j := 32) dX1_bunsAt_8 rfl flX1_30 sh25 rfl ?_
    refine zj_iload_n (pc' := 12) 1 dX1_bunsAt_11 rfl rfl rfl ?_
    obtain ⟨v2, hv2, hy⟩ := zt_b hy
    refine zj_rdi (pc' := 13) dX1_bunsAt_12 rfl sh32 e_i32 hv2 ?_
    refine zj_goto (tgt := 17) dX1_bunsAt_13 (by decide) ?_
    have e9 := Option.some.inj hy
    subst e9
    exact zj_iret dX1_bunsAt_17 rfl hq
set_option maxRecDepth 20000 in
theorem LX1_bunsAt_25 (Γ : zG) (M : zM) (r0_6 : Nat → Int32) (e_i32 : M.1 32 = r0_6) (a1 : Int32) {res : Int32} (hy : (fDy_bunsAt r0_6 a1) = some res) : zK Γ 2 YX1_bunsAt [.ref (zad Γ 25), .int a1] M (fun v N => v = some (.int res) ∧ N = M) :=
  zK_of (by decide) (Nat.le_of_ble_eq_true rfl) (TX1_bunsAt_25 Γ M r0_6 e_i32 a1 hy ⟨rfl, rfl⟩)

noncomputable def fDy_findBun (r0 : Nat → Int32) (r0_0 : Nat → Int32) (r0_1 : Nat → Int32) (r0_2 : Nat → Int32) (r0_6 : Nat → Int32) (a1 : Int32) : Option ((Nat → Int32) × (Nat → Int32) × (Nat → Int32)) :=
  (fDy_whereIs r0_0 a1).bind (fun (y1 : Int32) =>
  (zrd r0_2 6 a1).bind (fun (v2 : Int32) =>
  (if v2 = (-1) then
  some (r0, r0_1, r0_6)
  else
  (fDy_bunsAt r0_6 y1).bind (fun (y4 : Int32) =>
  (if y4 ≤ 0 then
  some (r0, r0_1, r0_6)
  else
  (if (fDy_mayBeCorner y1) = true then
  (zrd r0_6 8 y1).bind (fun (v7 : Int32) =>
  (zwr r0_6 8 y1 (v7 - 1)).bind (fun (r0_6v8 : Nat → Int32) =>
  (zrd r0_1 6 a1).bind (fun (v9 : Int32) =>
  (zwr r0_1 6 a1 (v9 + 1)).bind (fun (r0_1v10 : Nat → Int32) =>
  zlet (zup r0 10 ((r0 10) + 1)) (fun (r0v11 : Nat → Int32) =>
  some (r0v11, r0_1v10, r0_6v8))))))
  else
  some (r0, r0_1, r0_6)))))))

set_option maxRecDepth 20000 in
theorem TX1_findBun_25 (Γ : zG) {Q : Option Value → zM → Prop} (M : zM) (r0 : Nat → Int32) (r0_0 : Nat → Int32) (r0_1 : Nat → Int32) (r0_2 : Nat → Int32) (r0_6 : Nat → Int32) (e_i25 : M.1 25 = r0) (e_i26 : M.1 26 = r0_0) (e_i27 : M.1 27 = r0_1) (e_i28 : M.1 28 = r0_2) (e_i32 : M.1 32 = r0_6) (a1 : Int32) {res : (Nat → Int32) × (Nat → Int32) × (Nat → Int32)} (hy : (fDy_findBun r0 r0_0 r0_1 r0_2 r0_6 a1) = some res) (hq : Q none (zui (zui (zui M 25 res.1) 27 res.2.1) 32 res.2.2)) : zR Γ 4 YX1_findBun 0 [(0, .ref (zad Γ 25)), (1, .int a1)] [] M Q := by
  unfold fDy_findBun at hy
  refine zj_aload_n (pc' := 1) 0 dX1_findBun_0 rfl rfl rfl ?_
  refine zj_iload_n (pc' := 2) 1 dX1_findBun_1 rfl rfl rfl ?_
  obtain ⟨y1, hy1, hy⟩ := zt_b hy
  refine zj_V1 (pc' := 5) (z := YX1_whereIs) (As := [.int a1]) (N := M) dX1_findBun_2 rfl mlX1_88 lkX1_whereIs sh25 ⟨_, _, rfl⟩ rfl rfl (Nat.le_of_ble_eq_true rfl) (Nat.le_of_ble_eq_true rfl) (LX1_whereIs_25 Γ _ r0_0 e_i26 a1 hy1) rfl ?_
  refine zj_istore_n (pc' := 6) (L' := [(2, .int y1), (0, .ref (zad Γ 25)), (1, .int a1)]) dX1_findBun_5 rfl rfl (by decide) rfl ?_
  refine zj_aload_n (pc' := 7) 1 dX1_findBun_6 rfl rfl rfl ?_
  refine zj_getR (pc' := 10) (j := 28) dX1_findBun_7 rfl flX1_18 sh25 rfl ?_
  refine zj_iload_n (pc' := 11) 2 dX1_findBun_10 rfl rfl rfl ?_
  obtain ⟨v2, hv2, hy⟩ := zt_b hy
  refine zj_rdi (pc' := 12) dX1_findBun_11 rfl sh28 e_i28 hv2 ?_
  refine zj_iconst (pc' := 13) dX1_findBun_12 rfl kiconst_m1 ?_
  refine zj_icmp_eq (tgt := 61) (pc' := 16) dX1_findBun_13 rfl (by decide) (fun c3 => ?_) (fun c3 => ?_)
  · have hy := zt_t hy c3
    have e9 := Option.some.inj hy
    subst e9
    refine zj_mem (N := (zui M 25 r0)) (zself_i e_i25 rfl) ?_
    refine zj_mem (N := (zui (zui M 25 r0) 27 r0_1)) (zself_i (zr_n rfl e_i27) rfl) ?_
    refine zj_mem (N := (zui (zui (zui M 25 r0) 27 r0_1) 32 r0_6)) (zself_i (zr_n rfl (zr_n rfl e_i32)) rfl) ?_
    exact zj_vret dX1_findBun_61 rfl hq
  · have hy := zt_f hy c3
    refine zj_aload_n (pc' := 17) 1 dX1_findBun_16 rfl rfl rfl ?_
    refine zj_iload_n (pc' := 18) 0 dX1_findBun_17 rfl rfl rfl ?_
    obtain ⟨y4, hy4, hy⟩ := zt_b hy
    refine zj_V1 (pc' := 21) (z := YX1_bunsAt) (As := [.int y1]) (N := M) dX1_findBun_18 rfl mlX1_126 lkX1_bunsAt sh25 ⟨_, _, rfl⟩ rfl rfl (Nat.le_of_ble_eq_true rfl) (Nat.le_of_ble_eq_true rfl) (LX1_bunsAt_25 Γ _ r0_6 e_i32 y1 hy4) rfl ?_
    refine zj_if_le (tgt := 61) (pc' := 24) dX1_findBun_21 rfl (by decide) (fun c5 => ?_) (fun c5 => ?_)
    · have hy := zt_t hy c5
      have e9 := Option.some.inj hy
      subst e9
      refine zj_mem (N := (zui M 25 r0)) (zself_i e_i25 rfl) ?_
      refine zj_mem (N := (zui (zui M 25 r0) 27 r0_1)) (zself_i (zr_n rfl e_i27) rfl) ?_
      refine zj_mem (N := (zui (zui (zui M 25 r0) 27 r0_1) 32 r0_6)) (zself_i (zr_n rfl (zr_n rfl e_i32)) rfl) ?_
      exact zj_vret dX1_findBun_61 rfl hq
    · have hy := zt_f hy c5
      refine zj_iload_n (pc' := 25) 0 dX1_findBun_24 rfl rfl rfl ?_
      refine zj_S1 (pc' := 28) (z := YX1_mayBeCorner) (As := [.int y1]) (N := M) dX1_findBun_25 rfl mlX1_66 lkX1_mayBeCorner rfl rfl (Nat.le_of_ble_eq_true rfl) (Nat.le_of_ble_eq_true rfl) (LX1_mayBeCorner Γ _ y1 rfl) rfl ?_
      refine zj_bif_eq (tgt := 61) (pc' := 31) dX1_findBun_28 rfl (by decide) (fun c6 => ?_) (fun c6 => ?_)
      · have hy := zt_f hy c6
        have e9 := Option.some.inj hy
        subst e9
        refine zj_mem (N := (zui M 25 r0)) (zself_i e_i25 rfl) ?_
        refine zj_mem (N := (zui (zui M 25 r0) 27 r0_1)) (zself_i (zr_n rfl e_i27) rfl) ?_
        refine zj_mem (N := (zui (zui (zui M 25 r0) 27 r0_1) 32 r0_6)) (zself_i (zr_n rfl (zr_n rfl e_i32)) rfl) ?_
        exact zj_vret dX1_findBun_61 rfl hq
      · have hy := zt_t hy c6
        refine zj_aload_n (pc' := 32) 1 dX1_findBun_31 rfl rfl rfl ?_
        refine zj_getR (pc' := 35) (j := 32) dX1_findBun_32 rfl flX1_30 sh25 rfl ?_
        refine zj_iload_n (pc' := 36) 0 dX1_findBun_35 rfl rfl rfl ?_
        refine zj_dup2 (pc' := 37) dX1_findBun_36 rfl rfl rfl ?_
        obtain ⟨v7, hv7, hy⟩ := zt_b hy
        refine zj_rdi (pc' := 38) dX1_findBun_37 rfl sh32 e_i32 hv7 ?_
        refine zj_iconst (pc' := 39) dX1_findBun_38 rfl kiconst_1 ?_
        refine zj_isub (pc' := 40) dX1_findBun_39 rfl ?_
        obtain ⟨r0_6v8, hr0_6v8, hy⟩ := zt_b hy
        refine zj_wri (pc' := 41) (N := (zui M 32 r0_6v8)) dX1_findBun_40 rfl sh32 e_i32 hr0_6v8 rfl ?_
        refine zj_aload_n (pc' := 42) 1 dX1_findBun_41 rfl rfl rfl ?_
        refine zj_getR (pc' := 45) (j := 27) dX1_findBun_42 rfl flX1_15 sh25 rfl ?_
        refine zj_iload_n (pc' := 46) 2 dX1_findBun_45 rfl rfl rfl ?_
        refine zj_dup2 (pc' := 47) dX1_findBun_46 rfl rfl rfl ?_
        obtain ⟨v9, hv9, hy⟩ := zt_b hy
        refine zj_rdi (pc' := 48) dX1_findBun_47 rfl sh27 (zr_n rfl e_i27) hv9 ?_
        refine zj_iconst (pc' := 49) dX1_findBun_48 rfl kiconst_1 ?_
        refine zj_iadd (pc' := 50) dX1_findBun_49 rfl ?_
        obtain ⟨r0_1v10, hr0_1v10, hy⟩ := zt_b hy
        refine zj_wri (pc' := 51) (N := (zui (zui M 27 r0_1v10) 32 r0_6v8)) dX1_findBun_50 rfl sh27 (zr_n rfl e_i27) hr0_1v10 (zm_n rfl rfl) ?_
        refine zj_aload_n (pc' := 52) 1 dX1_findBun_51 rfl rfl rfl ?_
        refine zj_dup (pc' := 53) dX1_findBun_52 rfl rfl ?_
        refine zj_fI (pc' := 56) dX1_findBun_53 rfl flX1_49 sh25 rfl (zr_n rfl (zr_n rfl e_i25)) rfl ?_
        refine zj_iconst (pc' := 57) dX1_findBun_56 rfl kiconst_1 ?_
        refine zj_iadd (pc' := 58) dX1_findBun_57 rfl ?_
        obtain ⟨r0v11, er0v11⟩ : ∃ z, z = (zup r0 10 ((r0 10) + 1)) := ⟨_, rfl⟩
        have hy := zlet_at er0v11 hy
        refine zj_pI (pc' := 61) (N := (zui (zui (zui M 25 r0v11) 27 r0_1v10) 32 r0_6v8)) dX1_findBun_58 rfl fpX1_49 sh25 rfl (zr_n rfl (zr_n rfl e_i25)) er0v11 (zm_n rfl (zm_n rfl rfl)) ?_
        have e9 := Option.some.inj hy
        subst e9
        exact zj_vret dX1_findBun_61 rfl hq
set_option maxRecDepth 20000 in
theorem LX1_findBun_25 (Γ : zG) (M : zM) (r0 : Nat → Int32) (r0_0 : Nat → Int32) (r0_1 : Nat → Int32) (r0_2 : Nat → Int32) (r0_6 : Nat → Int32) (e_i25 : M.1 25 = r0) (e_i26 : M.1 26 = r0_0) (e_i27 : M.1 27 = r0_1) (e_i28 : M.1 28 = r0_2) (e_i32 : M.1 32 = r0_6) (a1 : Int32) {res : (Nat → Int32) × (Nat → Int32) × (Nat → Int32)} (hy : (fDy_findBun r0 r0_0 r0_1 r0_2 r0_6 a1) = some res) : zK Γ 4 YX1_findBun [.ref (zad Γ 25), .int a1] M (fun v N => v = none ∧ N = (zui (zui (zui M 25 res.1) 27 res.2.1) 32 res.2.2)) :=
  zK_of (by decide) (Nat.le_of_ble_eq_true rfl) (TX1_findBun_25 Γ M r0 r0_0 r0_1 r0_2 r0_6 e_i25 e_i26 e_i27 e_i28 e_i32 a1 hy ⟨rfl, rfl⟩)

noncomputable def fDy_passMinutes_L10 (r0_2 : Nat → Int32) (r0_3 : Nat → Int32) (r1 : Nat → Int32) (r1_2 : Nat → Int32) (r1_3 : Nat → Int32) (r0_0v2 : Nat → Int32) (r0_4v4 : Nat → Int32) (r0_5v5 : Nat → Int32) (r0_8v18 : Nat → Int32) (x19 : Int32) : Option (((Nat → Int32) × Int32) ⊕ ((Nat → Int32))) :=
  (if 6 ≤ x19 then
  some (.inr r0_8v18)
  else
  (fDy_nextPlace r0_0v2 r0_2 r0_3 r0_4v4 r0_5v5 r1 r1_2 r1_3 x19).bind (fun (y28 : Int32) =>
  (zwr r0_8v18 6 x19 y28).bind (fun (r0_8v29 : Nat → Int32) =>
  zlet (x19 + 1) (fun (x30 : Int32) =>
  some (.inl (r0_8v29, x30))))))
noncomputable def fDy_passMinutes_L40 (r0_8v31 : Nat → Int32) (r0_0v32 : Nat → Int32) (r0_4v33 : Nat → Int32) (r0_5v34 : Nat → Int32) (r0_7v35 : Nat → Int32) (x36 : Int32) : Option (((Nat → Int32) × (Nat → Int32) × (Nat → Int32) × (Nat → Int32) × Int32) ⊕ ((Nat → Int32) × (Nat → Int32) × (Nat → Int32) × (Nat → Int32))) :=
  (if 6 ≤ x36 then
  some (.inr (r0_0v32, r0_4v33, r0_5v34, r0_7v35))
  else
  (fDy_shortenWay r0_4v33 r0_5v34 x36).bind (fun (y45 : (Nat → Int32) × (Nat → Int32)) =>
  (zrd r0_8v31 6 x36).bind (fun (v46 : Int32) =>
  (fDy_move r0_0v32 r0_7v35 x36 v46).bind (fun (y47 : (Nat → Int32) × (Nat → Int32)) =>
  zlet (x36 + 1) (fun (x48 : Int32) =>
  some (.inl (y47.1, y45.1, y45.2, y47.2, x48)))))))
noncomputable def fDy_passMinutes_L75 (r0_2 : Nat → Int32) (r0_0v49 : Nat → Int32) (r0v53 : Nat → Int32) (r0_1v54 : Nat → Int32) (r0_6v55 : Nat → Int32) (x56 : Int32) : Option (((Nat → Int32) × (Nat → Int32) × (Nat → Int32) × Int32) ⊕ ((Nat → Int32) × (Nat → Int32) × (Nat → Int32))) :=
  (if 6 ≤ x56 then
  some (.inr (r0v53, r0_1v54, r0_6v55))
  else
  (fDy_findBun r0v53 r0_0v49 r0_1v54 r0_2 r0_6v55 x56).bind (fun (y65 : (Nat → Int32) × (Nat → Int32) × (Nat → Int32)) =>
  zlet (x56 + 1) (fun (x66 : Int32) =>
  some (.inl (y65.1, y65.2.1, y65.2.2, x66)))))
noncomputable def fDy_passMinutes_L2 (r0_2 : Nat → Int32) (r0_3 : Nat → Int32) (r1 : Nat → Int32) (r1_2 : Nat → Int32) (r1_3 : Nat → Int32) (a2 : Int32) (r0v1 : Nat → Int32) (r0_0v2 : Nat → Int32) (r0_1v3 : Nat → Int32) (r0_4v4 : Nat → Int32) (r0_5v5 : Nat → Int32) (r0_6v6 : Nat → Int32) (r0_7v7 : Nat → Int32) (r0_8v8 : Nat → Int32) (x9 : Int32) : Option (((Nat → Int32) × (Nat → Int32) × (Nat → Int32) × (Nat → Int32) × (Nat → Int32) × (Nat → Int32) × (Nat → Int32) × (Nat → Int32) × Int32) ⊕ ((Nat → Int32) × (Nat → Int32) × (Nat → Int32) × (Nat → Int32) × (Nat → Int32) × (Nat → Int32) × (Nat → Int32) × (Nat → Int32))) :=
  (if a2 ≤ x9 then
  some (.inr (r0v1, r0_0v2, r0_1v3, r0_4v4, r0_5v5, r0_6v6, r0_7v7, r0_8v8))
  else
  (zLP (fun s => fDy_passMinutes_L10 r0_2 r0_3 r1 r1_2 r1_3 r0_0v2 r0_4v4 r0_5v5 s.1 s.2) (r0_8v8, 0)).bind (fun r22 =>
  (zLP (fun s => fDy_passMinutes_L40 r22 s.1 s.2.1 s.2.2.1 s.2.2.2.1 s.2.2.2.2) (r0_0v2, r0_4v4, r0_5v5, r0_7v7, 0)).bind (fun r39 =>
  (zLP (fun s => fDy_passMinutes_L75 r0_2 r39.1 s.1 s.2.1 s.2.2.1 s.2.2.2) (r0v1, r0_1v3, r0_6v6, 0)).bind (fun r59 =>
  zlet (zup r59.1 9 ((r59.1 9) + 1)) (fun (r0v70 : Nat → Int32) =>
  zlet (x9 + 1) (fun (x71 : Int32) =>
  some (.inl (r0v70, r39.1, r59.2.1, r39.2.1, r39.2.2.1, r59.2.2, r39.2.2.2, r22, x71))))))))
noncomputable def fDy_passMinutes (r0 : Nat → Int32) (r0_0 : Nat → Int32) (r0_1 : Nat → Int32) (r0_2 : Nat → Int32) (r0_3 : Nat → Int32) (r0_4 : Nat → Int32) (r0_5 : Nat → Int32) (r0_6 : Nat → Int32) (r0_7 : Nat → Int32) (r0_8 : Nat → Int32) (r1 : Nat → Int32) (r1_2 : Nat → Int32) (r1_3 : Nat → Int32) (a2 : Int32) : Option ((Nat → Int32) × (Nat → Int32) × (Nat → Int32) × (Nat → Int32) × (Nat → Int32) × (Nat → Int32) × (Nat → Int32) × (Nat → Int32)) :=
  (zLP (fun s => fDy_passMinutes_L2 r0_2 r0_3 r1 r1_2 r1_3 a2 s.1 s.2.1 s.2.2.1 s.2.2.2.1 s.2.2.2.2.1 s.2.2.2.2.2.1 s.2.2.2.2.2.2.1 s.2.2.2.2.2.2.2.1 s.2.2.2.2.2.2.2.2) (r0, r0_0, r0_1, r0_4, r0_5, r0_6, r0_7, r0_8, 0)).bind (fun r12 =>
  some (r12.1, r12.2.1, r12.2.2.1, r12.2.2.2.1, r12.2.2.2.2.1, r12.2.2.2.2.2.1, r12.2.2.2.2.2.2.1, r12.2.2.2.2.2.2.2))

set_option maxRecDepth 20000 in
theorem TX1_passMinutes_25_5 (Γ : zG) {Q : Option Value → zM → Prop} (M : zM) (r0 : Nat → Int32) (r0_0 : Nat → Int32) (r0_1 : Nat → Int32) (r0_2 : Nat → Int32) (r0_3 : Nat → Int32) (r0_4 : Nat → Int32) (r0_5 : Nat → Int32) (r0_6 : Nat → Int32) (r0_7 : Nat → Int32) (r0_8 : Nat → Int32) (r1 : Nat → Int32) (r1_2 : Nat → Int32) (r1_3 : Nat → Int32) (e_i25 : M.1 25 = r0) (e_i26 : M.1 26 = r0_0) (e_i27 : M.1 27 = r0_1) (e_i28 : M.1 28 = r0_2) (e_i29 : M.1 29 = r0_3) (e_i30 : M.1 30 = r0_4) (e_i31 : M.1 31 = r0_5) (e_i32 : M.1 32 = r0_6) (e_i33 : M.1 33 = r0_7) (e_i34 : M.1 34 = r0_8) (e_i5 : M.1 5 = r1) (e_i8 : M.1 8 = r1_2) (e_i9 : M.1 9 = r1_3) (a2 : Int32) {res : (Nat → Int32) × (Nat → Int32) × (Nat → Int32) × (Nat → Int32) × (Nat → Int32) × (Nat → Int32) × (Nat → Int32) × (Nat → Int32)} (hy : (fDy_passMinutes r0 r0_0 r0_1 r0_2 r0_3 r0_4 r0_5 r0_6 r0_7 r0_8 r1 r1_2 r1_3 a2) = some res) (hq : Q none (zui (zui (zui (zui (zui (zui (zui (zui M 25 res.1) 26 res.2.1) 27 res.2.2.1) 30 res.2.2.2.1) 31 res.2.2.2.2.1) 32 res.2.2.2.2.2.1) 33 res.2.2.2.2.2.2.1) 34 res.2.2.2.2.2.2.2)) : zR Γ 5 YX1_passMinutes 0 [(0, .ref (zad Γ 25)), (1, .ref (zad Γ 5)), (2, .int a2)] [] M Q := by
  unfold fDy_passMinutes at hy
  refine zj_iconst (pc' := 1) dX1_passMinutes_0 rfl kiconst_0 ?_
  refine zj_istore_n (pc' := 2) (L' := [(3, .int 0), (0, .ref (zad Γ 25)), (1, .ref (zad Γ 5)), (2, .int a2)]) dX1_passMinutes_1 rfl rfl (by decide) rfl ?_
  refine zj_loc [1, 2, 3, 0] rfl ?_
  refine zj_mem (N := (zui M 25 r0)) (zself_i e_i25 rfl) ?_
  refine zj_mem (N := (zui (zui M 25 r0) 26 r0_0)) (zself_i (zr_n rfl e_i26) rfl) ?_
  refine zj_mem (N := (zui (zui (zui M 25 r0) 26 r0_0) 27 r0_1)) (zself_i (zr_n rfl (zr_n rfl e_i27)) rfl) ?_
  refine zj_mem (N := (zui (zui (zui (zui M 25 r0) 26 r0_0) 27 r0_1) 30 r0_4)) (zself_i (zr_n rfl (zr_n rfl (zr_n rfl e_i30))) rfl) ?_
  refine zj_mem (N := (zui (zui (zui (zui (zui M 25 r0) 26 r0_0) 27 r0_1) 30 r0_4) 31 r0_5)) (zself_i (zr_n rfl (zr_n rfl (zr_n rfl (zr_n rfl e_i31)))) rfl) ?_
  refine zj_mem (N := (zui (zui (zui (zui (zui (zui M 25 r0) 26 r0_0) 27 r0_1) 30 r0_4) 31 r0_5) 32 r0_6)) (zself_i (zr_n rfl (zr_n rfl (zr_n rfl (zr_n rfl (zr_n rfl e_i32))))) rfl) ?_
  refine zj_mem (N := (zui (zui (zui (zui (zui (zui (zui M 25 r0) 26 r0_0) 27 r0_1) 30 r0_4) 31 r0_5) 32 r0_6) 33 r0_7)) (zself_i (zr_n rfl (zr_n rfl (zr_n rfl (zr_n rfl (zr_n rfl (zr_n rfl e_i33)))))) rfl) ?_
  refine zj_mem (N := (zui (zui (zui (zui (zui (zui (zui (zui M 25 r0) 26 r0_0) 27 r0_1) 30 r0_4) 31 r0_5) 32 r0_6) 33 r0_7) 34 r0_8)) (zself_i (zr_n rfl (zr_n rfl (zr_n rfl (zr_n rfl (zr_n rfl (zr_n rfl (zr_n rfl e_i34))))))) rfl) ?_
  obtain ⟨r12, hr9, hyo13⟩ := zt_b hy
  obtain ⟨n9, hn9⟩ := zLP_some hr9
  have HE10 : ∀ (r0v72 : Nat → Int32) (r0_0v73 : Nat → Int32) (r0_1v74 : Nat → Int32) (r0_4v75 : Nat → Int32) (r0_5v76 : Nat → Int32) (r0_6v77 : Nat → Int32) (r0_7v78 : Nat → Int32) (r0_8v79 : Nat → Int32), r12 = (r0v72, r0_0v73, r0_1v74, r0_4v75, r0_5v76, r0_6v77, r0_7v78, r0_8v79) → zR Γ 5 YX1_passMinutes 110 [] [] (zui (zui (zui (zui (zui (zui (zui (zui M 25 r0v72) 26 r0_0v73) 27 r0_1v74) 30 r0_4v75) 31 r0_5v76) 32 r0_6v77) 33 r0_7v78) 34 r0_8v79) Q := by
    intro r0v72 r0_0v73 r0_1v74 r0_4v75 r0_5v76 r0_6v77 r0_7v78 r0_8v79 e9
    have hy := hyo13
    try rw [e9] at hy
    try dsimp only at hy
    have e9 := Option.some.inj hy
    subst e9
    exact zj_vret dX1_passMinutes_110 rfl hq
  have HL11 : ∀ (n : Nat) (r0v1 : Nat → Int32) (r0_0v2 : Nat → Int32) (r0_1v3 : Nat → Int32) (r0_4v4 : Nat → Int32) (r0_5v5 : Nat → Int32) (r0_6v6 : Nat → Int32) (r0_7v7 : Nat → Int32) (r0_8v8 : Nat → Int32) (x9 : Int32), zlp (fun s => fDy_passMinutes_L2 r0_2 r0_3 r1 r1_2 r1_3 a2 s.1 s.2.1 s.2.2.1 s.2.2.2.1 s.2.2.2.2.1 s.2.2.2.2.2.1 s.2.2.2.2.2.2.1 s.2.2.2.2.2.2.2.1 s.2.2.2.2.2.2.2.2) n (r0v1, r0_0v2, r0_1v3, r0_4v4, r0_5v5, r0_6v6, r0_7v7, r0_8v8, x9) = some r12 → zR Γ 5 YX1_passMinutes 2 [(0, .ref (zad Γ 25)), (1, .ref (zad Γ 5)), (2, .int a2), (3, .int x9)] [] (zui (zui (zui (zui (zui (zui (zui (zui M 25 r0v1) 26 r0_0v2) 27 r0_1v3) 30 r0_4v4) 31 r0_5v5) 32 r0_6v6) 33 r0_7v7) 34 r0_8v8) Q := by
    intro n
    induction n with
    | zero => intro r0v1 r0_0v2 r0_1v3 r0_4v4 r0_5v5 r0_6v6 r0_7v7 r0_8v8 x9 hn9; cases hn9
    | succ n ih14 =>
      intro r0v1 r0_0v2 r0_1v3 r0_4v4 r0_5v5 r0_6v6 r0_7v7 r0_8v8 x9 hn9
      obtain ⟨o9, hb9, h15, h16⟩ := zlp_step hn9
      have hy : fDy_passMinutes_L2 r0_2 r0_3 r1 r1_2 r1_3 a2 r0v1 r0_0v2 r0_1v3 r0_4v4 r0_5v5 r0_6v6 r0_7v7 r0_8v8 x9 = some o9 := hb9
      unfold fDy_passMinutes_L2 at hy
      refine zj_iload_n (pc' := 3) 3 dX1_passMinutes_2 rfl rfl rfl ?_
      refine zj_iload_n (pc' := 4) 2 dX1_passMinutes_3 rfl rfl rfl ?_
      refine zj_icmp_ge (tgt := 110) (pc' := 7) dX1_passMinutes_4 rfl (by decide) (fun c17 => ?_) (fun c17 => ?_)
      · have hy := zt_t hy c17
        have e9 := h16 _ (Option.some.inj hy).symm
        refine zj_loc [] rfl ?_
        exact HE10 _ _ _ _ _ _ _ _ e9.symm
      · have hy := zt_f hy c17
        refine zj_iconst (pc' := 8) dX1_passMinutes_7 rfl kiconst_0 ?_
        refine zj_istore (pc' := 10) (L' := [(4, .int 0), (0, .ref (zad Γ 25)), (1, .ref (zad Γ 5)), (2, .int a2), (3, .int x9)]) dX1_passMinutes_8 rfl (by decide) rfl ?_
        refine zj_loc [1, 2, 3, 4, 0] rfl ?_
        obtain ⟨r22, hr9, hyo23⟩ := zt_b hy
        obtain ⟨n9, hn9⟩ := zLP_some hr9
        have HE20 : ∀ (r0_8v31 : Nat → Int32), r22 = r0_8v31 → zR Γ 5 YX1_passMinutes 37 [(0, .ref (zad Γ 25)), (1, .ref (zad Γ 5)), (2, .int a2), (3, .int x9)] [] (zui (zui (zui (zui (zui (zui (zui (zui M 25 r0v1) 26 r0_0v2) 27 r0_1v3) 30 r0_4v4) 31 r0_5v5) 32 r0_6v6) 33 r0_7v7) 34 r0_8v31) Q := by
          intro r0_8v31 e9
          have hy := hyo23
          try rw [e9] at hy
          try dsimp only at hy
          refine zj_iconst (pc' := 38) dX1_passMinutes_37 rfl kiconst_0 ?_
          refine zj_istore (pc' := 40) (L' := [(4, .int 0), (0, .ref (zad Γ 25)), (1, .ref (zad Γ 5)), (2, .int a2), (3, .int x9)]) dX1_passMinutes_38 rfl (by decide) rfl ?_
          refine zj_loc [1, 2, 3, 4, 0] rfl ?_
          obtain ⟨r39, hr9, hyo40⟩ := zt_b hy
          obtain ⟨n9, hn9⟩ := zLP_some hr9
          have HE37 : ∀ (r0_0v49 : Nat → Int32) (r0_4v50 : Nat → Int32) (r0_5v51 : Nat → Int32) (r0_7v52 : Nat → Int32), r39 = (r0_0v49, r0_4v50, r0_5v51, r0_7v52) → zR Γ 5 YX1_passMinutes 72 [(0, .ref (zad Γ 25)), (1, .ref (zad Γ 5)), (2, .int a2), (3, .int x9)] [] (zui (zui (zui (zui (zui (zui (zui (zui M 25 r0v1) 26 r0_0v49) 27 r0_1v3) 30 r0_4v50) 31 r0_5v51) 32 r0_6v6) 33 r0_7v52) 34 r0_8v31) Q := by
            intro r0_0v49 r0_4v50 r0_5v51 r0_7v52 e9
            have hy := hyo40
            try rw [e9] at hy
            try dsimp only at hy
            refine zj_iconst (pc' := 73) dX1_passMinutes_72 rfl kiconst_0 ?_
            refine zj_istore (pc' := 75) (L' := [(4, .int 0), (0, .ref (zad Γ 25)), (1, .ref (zad Γ 5)), (2, .int a2), (3, .int x9)]) dX1_passMinutes_73 rfl (by decide) rfl ?_
            refine zj_loc [1, 2, 3, 4, 0] rfl ?_
            obtain ⟨r59, hr9, hyo60⟩ := zt_b hy
            obtain ⟨n9, hn9⟩ := zLP_some hr9
            have HE57 : ∀ (r0v67 : Nat → Int32) (r0_1v68 : Nat → Int32) (r0_6v69 : Nat → Int32), r59 = (r0v67, r0_1v68, r0_6v69) → zR Γ 5 YX1_passMinutes 94 [(0, .ref (zad Γ 25)), (1, .ref (zad Γ 5)), (2, .int a2), (3, .int x9)] [] (zui (zui (zui (zui (zui (zui (zui (zui M 25 r0v67) 26 r0_0v49) 27 r0_1v68) 30 r0_4v50) 31 r0_5v51) 32 r0_6v69) 33 r0_7v52) 34 r0_8v31) Q := by
              intro r0v67 r0_1v68 r0_6v69 e9
              have hy := hyo60
              try rw [e9] at hy
              try dsimp only at hy
              refine zj_aload_n (pc' := 95) 0 dX1_passMinutes_94 rfl rfl rfl ?_
              refine zj_dup (pc' := 96) dX1_passMinutes_95 rfl rfl ?_
              refine zj_fI (pc' := 99) dX1_passMinutes_96 rfl flX1_45 sh25 rfl (zr_n rfl (zr_n rfl (zr_n rfl (zr_n rfl (zr_n rfl (zr_n rfl (zr_n rfl zr_s))))))) rfl ?_
              refine zj_iconst (pc' := 100) dX1_passMinutes_99 rfl kiconst_1 ?_
              refine zj_iadd (pc' := 101) dX1_passMinutes_100 rfl ?_
              obtain ⟨r0v70, er0v70⟩ : ∃ z, z = (zup r0v67 9 ((r0v67 9) + 1)) := ⟨_, rfl⟩
              have hy := zlet_at er0v70 hy
              refine zj_pI (pc' := 104) (N := (zui (zui (zui (zui (zui (zui (zui (zui M 25 r0v70) 26 r0_0v49) 27 r0_1v68) 30 r0_4v50) 31 r0_5v51) 32 r0_6v69) 33 r0_7v52) 34 r0_8v31)) dX1_passMinutes_101 rfl fpX1_45 sh25 rfl (zr_n rfl (zr_n rfl (zr_n rfl (zr_n rfl (zr_n rfl (zr_n rfl (zr_n rfl zr_s))))))) er0v70 (zm_n rfl (zm_n rfl (zm_n rfl (zm_n rfl (zm_n rfl (zm_n rfl (zm_n rfl zm_s))))))) ?_
              obtain ⟨x71, ex71⟩ : ∃ z : Int32, z = (x9 + 1) := ⟨_, rfl⟩
              have hy := zlet_at ex71 hy
              refine zj_iinc (pc' := 107) 3 (L' := [(3, .int x71), (0, .ref (zad Γ 25)), (1, .ref (zad Γ 5)), (2, .int a2)]) dX1_passMinutes_104 rfl rfl (by decide) (by rw [ci1, ← ex71]; rfl) ?_
              refine zj_goto (tgt := 2) dX1_passMinutes_107 (by decide) ?_
              have hn9 := h15 _ (Option.some.inj hy).symm
              refine zj_loc [1, 2, 3, 0] rfl ?_
              exact ih14 _ _ _ _ _ _ _ _ _ hn9
            have HL58 : ∀ (n : Nat) (r0v53 : Nat → Int32) (r0_1v54 : Nat → Int32) (r0_6v55 : Nat → Int32) (x56 : Int32), zlp (fun s => fDy_passMinutes_L75 r0_2 r0_0v49 s.1 s.2.1 s.2.2.1 s.2.2.2) n (r0v53, r0_1v54, r0_6v55, x56) = some r59 → zR Γ 5 YX1_passMinutes 75 [(0, .ref (zad Γ 25)), (1, .ref (zad Γ 5)), (2, .int a2), (3, .int x9), (4, .int x56)] [] (zui (zui (zui (zui (zui (zui (zui (zui M 25 r0v53) 26 r0_0v49) 27 r0_1v54) 30 r0_4v50) 31 r0_5v51) 32 r0_6v55) 33 r0_7v52) 34 r0_8v31) Q := by
              intro n
              induction n with
              | zero => intro r0v53 r0_1v54 r0_6v55 x56 hn9; cases hn9
              | succ n ih61 =>
                intro r0v53 r0_1v54 r0_6v55 x56 hn9
                obtain ⟨o9, hb9, h62, h63⟩ := zlp_step hn9
                have hy : fDy_passMinutes_L75 r0_2 r0_0v49 r0v53 r0_1v54 r0_6v55 x56 = some o9 := hb9
                unfold fDy_passMinutes_L75 at hy
                refine zj_iload (pc' := 77) 4 dX1_passMinutes_75 rfl rfl ?_
                refine zj_bipush (pc' := 79) dX1_passMinutes_77 rfl kbipush_6 ?_
                refine zj_icmp_ge (tgt := 94) (pc' := 82) dX1_passMinutes_79 rfl (by decide) (fun c64 => ?_) (fun c64 => ?_)
                · have hy := zt_t hy c64
                  have e9 := h63 _ (Option.some.inj hy).symm
                  refine zj_loc [0, 1, 2, 3] rfl ?_
                  exact HE57 _ _ _ e9.symm
                · have hy := zt_f hy c64
                  refine zj_aload_n (pc' := 83) 0 dX1_passMinutes_82 rfl rfl rfl ?_
                  refine zj_iload (pc' := 85) 4 dX1_passMinutes_83 rfl rfl ?_
                  obtain ⟨y65, hy65, hy⟩ := zt_b hy
                  refine zj_V0 (pc' := 88) (z := YX1_findBun) (As := [.int x56]) (N := (zui (zui (zui (zui (zui (zui (zui (zui M 25 y65.1) 26 r0_0v49) 27 y65.2.1) 30 r0_4v50) 31 r0_5v51) 32 y65.2.2) 33 r0_7v52) 34 r0_8v31)) dX1_passMinutes_85 rfl mlX1_115 lkX1_findBun sh25 ⟨_, _, rfl⟩ rfl rfl (Nat.le_of_ble_eq_true rfl) (Nat.le_of_ble_eq_true rfl) (LX1_findBun_25 Γ _ r0v53 r0_0v49 r0_1v54 r0_2 r0_6v55 (zr_n rfl (zr_n rfl (zr_n rfl (zr_n rfl (zr_n rfl (zr_n rfl (zr_n rfl zr_s))))))) (zr_n rfl (zr_n rfl (zr_n rfl (zr_n rfl (zr_n rfl (zr_n rfl zr_s)))))) (zr_n rfl (zr_n rfl (zr_n rfl (zr_n rfl (zr_n rfl zr_s))))) (zr_n rfl (zr_n rfl (zr_n rfl (zr_n rfl (zr_n rfl (zr_n rfl (zr_n rfl (zr_n rfl e_i28)))))))) (zr_n rfl (zr_n rfl zr_s)) x56 hy65) ((zch_i (zch_i (zm_n rfl (zm_n rfl (zm_n rfl (zm_n rfl (zm_n rfl (zm_n rfl (zm_n rfl zm_s))))))) (zm_n rfl (zm_n rfl (zm_n rfl (zm_n rfl (zm_n rfl zm_s)))))) (zm_n rfl (zm_n rfl zm_s)))).symm ?_
                  obtain ⟨x66, ex66⟩ : ∃ z : Int32, z = (x56 + 1) := ⟨_, rfl⟩
                  have hy := zlet_at ex66 hy
                  refine zj_iinc (pc' := 91) 4 (L' := [(4, .int x66), (0, .ref (zad Γ 25)), (1, .ref (zad Γ 5)), (2, .int a2), (3, .int x9)]) dX1_passMinutes_88 rfl rfl (by decide) (by rw [ci1, ← ex66]; rfl) ?_
                  refine zj_goto (tgt := 75) dX1_passMinutes_91 (by decide) ?_
                  have hn9 := h62 _ (Option.some.inj hy).symm
                  refine zj_loc [1, 2, 3, 4, 0] rfl ?_
                  exact ih61 _ _ _ _ hn9
            exact HL58 n9 _ _ _ _ hn9
          have HL38 : ∀ (n : Nat) (r0_0v32 : Nat → Int32) (r0_4v33 : Nat → Int32) (r0_5v34 : Nat → Int32) (r0_7v35 : Nat → Int32) (x36 : Int32), zlp (fun s => fDy_passMinutes_L40 r0_8v31 s.1 s.2.1 s.2.2.1 s.2.2.2.1 s.2.2.2.2) n (r0_0v32, r0_4v33, r0_5v34, r0_7v35, x36) = some r39 → zR Γ 5 YX1_passMinutes 40 [(0, .ref (zad Γ 25)), (1, .ref (zad Γ 5)), (2, .int a2), (3, .int x9), (4, .int x36)] [] (zui (zui (zui (zui (zui (zui (zui (zui M 25 r0v1) 26 r0_0v32) 27 r0_1v3) 30 r0_4v33) 31 r0_5v34) 32 r0_6v6) 33 r0_7v35) 34 r0_8v31) Q := by
            intro n
            induction n with
            | zero => intro r0_0v32 r0_4v33 r0_5v34 r0_7v35 x36 hn9; cases hn9
            | succ n ih41 =>
              intro r0_0v32 r0_4v33 r0_5v34 r0_7v35 x36 hn9
              obtain ⟨o9, hb9, h42, h43⟩ := zlp_step hn9
              have hy : fDy_passMinutes_L40 r0_8v31 r0_0v32 r0_4v33 r0_5v34 r0_7v35 x36 = some o9 := hb9
              unfold fDy_passMinutes_L40 at hy
              refine zj_iload (pc' := 42) 4 dX1_passMinutes_40 rfl rfl ?_
              refine zj_bipush (pc' := 44) dX1_passMinutes_42 rfl kbipush_6 ?_
              refine zj_icmp_ge (tgt := 72) (pc' := 47) dX1_passMinutes_44 rfl (by decide) (fun c44 => ?_) (fun c44 => ?_)
              · have hy := zt_t hy c44
                have e9 := h43 _ (Option.some.inj hy).symm
                refine zj_loc [0, 1, 2, 3] rfl ?_
                exact HE37 _ _ _ _ e9.symm
              · have hy := zt_f hy c44
                refine zj_aload_n (pc' := 48) 0 dX1_passMinutes_47 rfl rfl rfl ?_
                refine zj_iload (pc' := 50) 4 dX1_passMinutes_48 rfl rfl ?_
                obtain ⟨y45, hy45, hy⟩ := zt_b hy
                refine zj_V0 (pc' := 53) (z := YX1_shortenWay) (As := [.int x36]) (N := (zui (zui (zui (zui (zui (zui (zui (zui M 25 r0v1) 26 r0_0v32) 27 r0_1v3) 30 y45.1) 31 y45.2) 32 r0_6v6) 33 r0_7v35) 34 r0_8v31)) dX1_passMinutes_50 rfl mlX1_107 lkX1_shortenWay sh25 ⟨_, _, rfl⟩ rfl rfl (Nat.le_of_ble_eq_true rfl) (Nat.le_of_ble_eq_true rfl) (LX1_shortenWay_25 Γ _ r0_4v33 r0_5v34 (zr_n rfl (zr_n rfl (zr_n rfl (zr_n rfl zr_s)))) (zr_n rfl (zr_n rfl (zr_n rfl zr_s))) x36 hy45) ((zch_i (zm_n rfl (zm_n rfl (zm_n rfl (zm_n rfl zm_s)))) (zm_n rfl (zm_n rfl (zm_n rfl zm_s))))).symm ?_
                refine zj_aload_n (pc' := 54) 0 dX1_passMinutes_53 rfl rfl rfl ?_
                refine zj_iload (pc' := 56) 4 dX1_passMinutes_54 rfl rfl ?_
                refine zj_aload_n (pc' := 57) 0 dX1_passMinutes_56 rfl rfl rfl ?_
                refine zj_getR (pc' := 60) (j := 34) dX1_passMinutes_57 rfl flX1_36 sh25 rfl ?_
                refine zj_iload (pc' := 62) 4 dX1_passMinutes_60 rfl rfl ?_
                obtain ⟨v46, hv46, hy⟩ := zt_b hy
                refine zj_rdi (pc' := 63) dX1_passMinutes_62 rfl sh34 zr_s hv46 ?_
                obtain ⟨y47, hy47, hy⟩ := zt_b hy
                refine zj_V0 (pc' := 66) (z := YX1_move) (As := [.int x36, .int v46]) (N := (zui (zui (zui (zui (zui (zui (zui (zui M 25 r0v1) 26 y47.1) 27 r0_1v3) 30 y45.1) 31 y45.2) 32 r0_6v6) 33 y47.2) 34 r0_8v31)) dX1_passMinutes_63 rfl mlX1_111 lkX1_move sh25 ⟨_, _, rfl⟩ rfl rfl (Nat.le_of_ble_eq_true rfl) (Nat.le_of_ble_eq_true rfl) (LX1_move_25 Γ _ r0_0v32 r0_7v35 (zr_n rfl (zr_n rfl (zr_n rfl (zr_n rfl (zr_n rfl (zr_n rfl zr_s)))))) (zr_n rfl zr_s) x36 v46 hy47) ((zch_i (zm_n rfl (zm_n rfl (zm_n rfl (zm_n rfl (zm_n rfl (zm_n rfl zm_s)))))) (zm_n rfl zm_s))).symm ?_
                obtain ⟨x48, ex48⟩ : ∃ z : Int32, z = (x36 + 1) := ⟨_, rfl⟩
                have hy := zlet_at ex48 hy
                refine zj_iinc (pc' := 69) 4 (L' := [(4, .int x48), (0, .ref (zad Γ 25)), (1, .ref (zad Γ 5)), (2, .int a2), (3, .int x9)]) dX1_passMinutes_66 rfl rfl (by decide) (by rw [ci1, ← ex48]; rfl) ?_
                refine zj_goto (tgt := 40) dX1_passMinutes_69 (by decide) ?_
                have hn9 := h42 _ (Option.some.inj hy).symm
                refine zj_loc [1, 2, 3, 4, 0] rfl ?_
                exact ih41 _ _ _ _ _ hn9
          exact HL38 n9 _ _ _ _ _ hn9
        have HL21 : ∀ (n : Nat) (r0_8v18 : Nat → Int32) (x19 : Int32), zlp (fun s => fDy_passMinutes_L10 r0_2 r0_3 r1 r1_2 r1_3 r0_0v2 r0_4v4 r0_5v5 s.1 s.2) n (r0_8v18, x19) = some r22 → zR Γ 5 YX1_passMinutes 10 [(0, .ref (zad Γ 25)), (1, .ref (zad Γ 5)), (2, .int a2), (3, .int x9), (4, .int x19)] [] (zui (zui (zui (zui (zui (zui (zui (zui M 25 r0v1) 26 r0_0v2) 27 r0_1v3) 30 r0_4v4) 31 r0_5v5) 32 r0_6v6) 33 r0_7v7) 34 r0_8v18) Q := by
          intro n
          induction n with
          | zero => intro r0_8v18 x19 hn9; cases hn9
          | succ n ih24 =>
            intro r0_8v18 x19 hn9
            obtain ⟨o9, hb9, h25, h26⟩ := zlp_step hn9
            have hy : fDy_passMinutes_L10 r0_2 r0_3 r1 r1_2 r1_3 r0_0v2 r0_4v4 r0_5v5 r0_8v18 x19 = some o9 := hb9
            unfold fDy_passMinutes_L10 at hy
            refine zj_iload (pc' := 12) 4 dX1_passMinutes_10 rfl rfl ?_
            refine zj_bipush (pc' := 14) dX1_passMinutes_12 rfl kbipush_6 ?_
            refine zj_icmp_ge (tgt := 37) (pc' := 17) dX1_passMinutes_14 rfl (by decide) (fun c27 => ?_) (fun c27 => ?_)
            · have hy := zt_t hy c27
              have e9 := h26 _ (Option.some.inj hy).symm
              refine zj_loc [0, 1, 2, 3] rfl ?_
              exact HE20 _ e9.symm
            · have hy := zt_f hy c27
              refine zj_aload_n (pc' := 18) 0 dX1_passMinutes_17 rfl rfl rfl ?_
              refine zj_getR (pc' := 21) (j := 34) dX1_passMinutes_18 rfl flX1_36 sh25 rfl ?_
              refine zj_iload (pc' := 23) 4 dX1_passMinutes_21 rfl rfl ?_
              refine zj_aload_n (pc' := 24) 0 dX1_passMinutes_23 rfl rfl rfl ?_
              refine zj_aload_n (pc' := 25) 1 dX1_passMinutes_24 rfl rfl rfl ?_
              refine zj_iload (pc' := 27) 4 dX1_passMinutes_25 rfl rfl ?_
              obtain ⟨y28, hy28, hy⟩ := zt_b hy
              refine zj_V1 (pc' := 30) (z := YX1_nextPlace) (As := [.ref (zad Γ 5), .int x19]) (N := (zui (zui (zui (zui (zui (zui (zui (zui M 25 r0v1) 26 r0_0v2) 27 r0_1v3) 30 r0_4v4) 31 r0_5v5) 32 r0_6v6) 33 r0_7v7) 34 r0_8v18)) dX1_passMinutes_27 rfl mlX1_103 lkX1_nextPlace sh25 ⟨_, _, rfl⟩ rfl rfl (Nat.le_of_ble_eq_true rfl) (Nat.le_of_ble_eq_true rfl) (LX1_nextPlace_25_5 Γ _ r0_0v2 r0_2 r0_3 r0_4v4 r0_5v5 r1 r1_2 r1_3 (zr_n rfl (zr_n rfl (zr_n rfl (zr_n rfl (zr_n rfl (zr_n rfl zr_s)))))) (zr_n rfl (zr_n rfl (zr_n rfl (zr_n rfl (zr_n rfl (zr_n rfl (zr_n rfl (zr_n rfl e_i28)))))))) (zr_n rfl (zr_n rfl (zr_n rfl (zr_n rfl (zr_n rfl (zr_n rfl (zr_n rfl (zr_n rfl e_i29)))))))) (zr_n rfl (zr_n rfl (zr_n rfl (zr_n rfl zr_s)))) (zr_n rfl (zr_n rfl (zr_n rfl zr_s))) (zr_n rfl (zr_n rfl (zr_n rfl (zr_n rfl (zr_n rfl (zr_n rfl (zr_n rfl (zr_n rfl e_i5)))))))) (zr_n rfl (zr_n rfl (zr_n rfl (zr_n rfl (zr_n rfl (zr_n rfl (zr_n rfl (zr_n rfl e_i8)))))))) (zr_n rfl (zr_n rfl (zr_n rfl (zr_n rfl (zr_n rfl (zr_n rfl (zr_n rfl (zr_n rfl e_i9)))))))) x19 hy28) rfl ?_
              obtain ⟨r0_8v29, hr0_8v29, hy⟩ := zt_b hy
              refine zj_wri (pc' := 31) (N := (zui (zui (zui (zui (zui (zui (zui (zui M 25 r0v1) 26 r0_0v2) 27 r0_1v3) 30 r0_4v4) 31 r0_5v5) 32 r0_6v6) 33 r0_7v7) 34 r0_8v29)) dX1_passMinutes_30 rfl sh34 zr_s hr0_8v29 zm_s ?_
              obtain ⟨x30, ex30⟩ : ∃ z : Int32, z = (x19 + 1) := ⟨_, rfl⟩
              have hy := zlet_at ex30 hy
              refine zj_iinc (pc' := 34) 4 (L' := [(4, .int x30), (0, .ref (zad Γ 25)), (1, .ref (zad Γ 5)), (2, .int a2), (3, .int x9)]) dX1_passMinutes_31 rfl rfl (by decide) (by rw [ci1, ← ex30]; rfl) ?_
              refine zj_goto (tgt := 10) dX1_passMinutes_34 (by decide) ?_
              have hn9 := h25 _ (Option.some.inj hy).symm
              refine zj_loc [1, 2, 3, 4, 0] rfl ?_
              exact ih24 _ _ hn9
        exact HL21 n9 _ _ hn9
  exact HL11 n9 _ _ _ _ _ _ _ _ _ hn9
set_option maxRecDepth 20000 in
theorem LX1_passMinutes_25_5 (Γ : zG) (M : zM) (r0 : Nat → Int32) (r0_0 : Nat → Int32) (r0_1 : Nat → Int32) (r0_2 : Nat → Int32) (r0_3 : Nat → Int32) (r0_4 : Nat → Int32) (r0_5 : Nat → Int32) (r0_6 : Nat → Int32) (r0_7 : Nat → Int32) (r0_8 : Nat → Int32) (r1 : Nat → Int32) (r1_2 : Nat → Int32) (r1_3 : Nat → Int32) (e_i25 : M.1 25 = r0) (e_i26 : M.1 26 = r0_0) (e_i27 : M.1 27 = r0_1) (e_i28 : M.1 28 = r0_2) (e_i29 : M.1 29 = r0_3) (e_i30 : M.1 30 = r0_4) (e_i31 : M.1 31 = r0_5) (e_i32 : M.1 32 = r0_6) (e_i33 : M.1 33 = r0_7) (e_i34 : M.1 34 = r0_8) (e_i5 : M.1 5 = r1) (e_i8 : M.1 8 = r1_2) (e_i9 : M.1 9 = r1_3) (a2 : Int32) {res : (Nat → Int32) × (Nat → Int32) × (Nat → Int32) × (Nat → Int32) × (Nat → Int32) × (Nat → Int32) × (Nat → Int32) × (Nat → Int32)} (hy : (fDy_passMinutes r0 r0_0 r0_1 r0_2 r0_3 r0_4 r0_5 r0_6 r0_7 r0_8 r1 r1_2 r1_3 a2) = some res) : zK Γ 5 YX1_passMinutes [.ref (zad Γ 25), .ref (zad Γ 5), .int a2] M (fun v N => v = none ∧ N = (zui (zui (zui (zui (zui (zui (zui (zui M 25 res.1) 26 res.2.1) 27 res.2.2.1) 30 res.2.2.2.1) 31 res.2.2.2.2.1) 32 res.2.2.2.2.2.1) 33 res.2.2.2.2.2.2.1) 34 res.2.2.2.2.2.2.2)) :=
  zK_of (by decide) (Nat.le_of_ble_eq_true rfl) (TX1_passMinutes_25_5 Γ M r0 r0_0 r0_1 r0_2 r0_3 r0_4 r0_5 r0_6 r0_7 r0_8 r1 r1_2 r1_3 e_i25 e_i26 e_i27 e_i28 e_i29 e_i30 e_i31 e_i32 e_i33 e_i34 e_i5 e_i8 e_i9 a2 hy ⟨rfl, rfl⟩)

noncomputable def fM_towards_L2 (r0_6 : Nat → Int32) (r0_20 : Nat → Int32) (a1 : Int32) (a2 : Int32) (x1 : Int32) : Option ((Int32) ⊕ (Int32)) :=
  (if a1 = a2 then
  some (.inr x1)
  else
  (fM_isBeside r0_6 a1 x1).bind (fun (y10 : Bool) =>
  (if y10 = true then
  (zrd r0_20 64 ((8 * x1) + a2)).bind (fun (v12 : Int32) =>
  (zrd r0_20 64 ((8 * a1) + a2)).bind (fun (v13 : Int32) =>
  (if v12 = (v13 - 1) then
  some (.inr x1)
  else
  zlet (x1 + 1) (fun (x15 : Int32) =>
  some (.inl x15)))))
  else
  zlet (x1 + 1) (fun (x16 : Int32) =>
  some (.inl x16)))))
noncomputable def fM_towards (r0_6 : Nat → Int32) (r0_20 : Nat → Int32) (a1 : Int32) (a2 : Int32) : Option (Int32) :=
  (zLP (fun s => fM_towards_L2 r0_6 r0_20 a1 a2 s) 0).bind (fun r4 =>
  some (if a1 = a2 then a1 else r4))

set_option maxRecDepth 20000 in
theorem TX12_towards_186 (Γ : zG) {Q : Option Value → zM → Prop} (M : zM) (r0_6 : Nat → Int32) (r0_20 : Nat → Int32) (e_i188 : M.1 188 = r0_6) (e_i193 : M.1 193 = r0_20) (a1 : Int32) (a2 : Int32) {res : Int32} (hy : (fM_towards r0_6 r0_20 a1 a2) = some res) (hq : Q (some (.int res)) M) : zR Γ 3 YX12_towards 0 [(0, .ref (zad Γ 186)), (1, .int a1), (2, .int a2)] [] M Q := by
  unfold fM_towards at hy
  refine zj_iconst (pc' := 1) dX12_towards_0 rfl kiconst_0 ?_
  refine zj_istore_n (pc' := 2) (L' := [(3, .int 0), (0, .ref (zad Γ 186)), (1, .int a1), (2, .int a2)]) dX12_towards_1 rfl rfl (by decide) rfl ?_
  refine zj_loc [1, 2, 3, 0] rfl ?_
  obtain ⟨r4, hr9, hyo5⟩ := zt_b hy
  obtain ⟨n9, hn9⟩ := zLP_some hr9
  have HE2 : ∀ (x17 : Int32), r4 = x17 → zR Γ 3 YX12_towards 49 [(1, .int a1), (2, .int a2), (3, .int x17)] [] M Q := by
    intro x17 e9
    have hy := hyo5
    try rw [e9] at hy
    try dsimp only at hy
    refine zj_iload_n (pc' := 50) 0 dX12_towards_49 rfl rfl rfl ?_
    refine zj_iload_n (pc' := 51) 1 dX12_towards_50 rfl rfl rfl ?_
    have HJ18 : zR Γ 3 YX12_towards 59 [(1, .int a1), (2, .int a2), (3, .int x17)] [.int (if a1 = a2 then a1 else x17)] M Q := by
      have e9 := Option.some.inj hy
      subst e9
      exact zj_iret dX12_towards_59 rfl hq
    refine zj_icmp_ne (tgt := 58) (pc' := 54) dX12_towards_51 rfl (by decide) (fun c19 => ?_) (fun c19 => ?_)
    · refine zj_iload_n (pc' := 59) 2 dX12_towards_58 rfl rfl rfl ?_
      exact zj_eqi (if_neg c19) HJ18
    · refine zj_iload_n (pc' := 55) 0 dX12_towards_54 rfl rfl rfl ?_
      refine zj_goto (tgt := 59) dX12_towards_55 (by decide) ?_
      exact zj_eqi (if_pos c19) HJ18
  have HL3 : ∀ (n : Nat) (x1 : Int32), zlp (fun s => fM_towards_L2 r0_6 r0_20 a1 a2 s) n x1 = some r4 → zR Γ 3 YX12_towards 2 [(0, .ref (zad Γ 186)), (1, .int a1), (2, .int a2), (3, .int x1)] [] M Q := by
    intro n
    induction n with
    | zero => intro x1 hn9; cases hn9
    | succ n ih6 =>
      intro x1 hn9
      obtain ⟨o9, hb9, h7, h8⟩ := zlp_step hn9
      have hy : fM_towards_L2 r0_6 r0_20 a1 a2 x1 = some o9 := hb9
      unfold fM_towards_L2 at hy
      refine zj_iload_n (pc' := 3) 1 dX12_towards_2 rfl rfl rfl ?_
      refine zj_iload_n (pc' := 4) 2 dX12_towards_3 rfl rfl rfl ?_
      refine zj_icmp_eq (tgt := 49) (pc' := 7) dX12_towards_4 rfl (by decide) (fun c9 => ?_) (fun c9 => ?_)
      · have hy := zt_t hy c9
        have e9 := h8 _ (Option.some.inj hy).symm
        refine zj_loc [1, 2, 3] rfl ?_
        exact HE2 _ e9.symm
      · have hy := zt_f hy c9
        refine zj_aload_n (pc' := 8) 0 dX12_towards_7 rfl rfl rfl ?_
        refine zj_iload_n (pc' := 9) 1 dX12_towards_8 rfl rfl rfl ?_
        refine zj_iload_n (pc' := 10) 3 dX12_towards_9 rfl rfl rfl ?_
        obtain ⟨y10, hy10, hy⟩ := zt_b hy
        refine zj_V1 (pc' := 13) (z := YX12_isBeside) (As := [.int a1, .int x1]) (N := M) dX12_towards_10 rfl mlX12_259 lkX12_isBeside sh186 ⟨_, _, rfl⟩ rfl rfl (Nat.le_of_ble_eq_true rfl) (Nat.le_of_ble_eq_true rfl) (LX12_isBeside_186 Γ _ r0_6 e_i188 a1 x1 hy10) rfl ?_
        refine zj_bif_eq (tgt := 43) (pc' := 16) dX12_towards_13 rfl (by decide) (fun c11 => ?_) (fun c11 => ?_)
        · have hy := zt_f hy c11
          obtain ⟨x16, ex16⟩ : ∃ z : Int32, z = (x1 + 1) := ⟨_, rfl⟩
          have hy := zlet_at ex16 hy
          refine zj_iinc (pc' := 46) 3 (L' := [(3, .int x16), (0, .ref (zad Γ 186)), (1, .int a1), (2, .int a2)]) dX12_towards_43 rfl rfl (by decide) (by rw [ci1, ← ex16]; rfl) ?_
          refine zj_goto (tgt := 2) dX12_towards_46 (by decide) ?_
          have hn9 := h7 _ (Option.some.inj hy).symm
          refine zj_loc [1, 2, 3, 0] rfl ?_
          exact ih6 _ hn9
        · have hy := zt_t hy c11
          refine zj_aload_n (pc' := 17) 0 dX12_towards_16 rfl rfl rfl ?_
          refine zj_getR (pc' := 20) (j := 193) dX12_towards_17 rfl flX12_50 sh186 rfl ?_
          refine zj_bipush (pc' := 22) dX12_towards_20 rfl kbipush_8 ?_
          refine zj_iload_n (pc' := 23) 3 dX12_towards_22 rfl rfl rfl ?_
          refine zj_imul (pc' := 24) dX12_towards_23 rfl ?_
          refine zj_iload_n (pc' := 25) 2 dX12_towards_24 rfl rfl rfl ?_
          refine zj_iadd (pc' := 26) dX12_towards_25 rfl ?_
          obtain ⟨v12, hv12, hy⟩ := zt_b hy
          refine zj_rdi (pc' := 27) dX12_towards_26 rfl sh193 e_i193 hv12 ?_
          refine zj_aload_n (pc' := 28) 0 dX12_towards_27 rfl rfl rfl ?_
          refine zj_getR (pc' := 31) (j := 193) dX12_towards_28 rfl flX12_50 sh186 rfl ?_
          refine zj_bipush (pc' := 33) dX12_towards_31 rfl kbipush_8 ?_
          refine zj_iload_n (pc' := 34) 1 dX12_towards_33 rfl rfl rfl ?_
          refine zj_imul (pc' := 35) dX12_towards_34 rfl ?_
          refine zj_iload_n (pc' := 36) 2 dX12_towards_35 rfl rfl rfl ?_
          refine zj_iadd (pc' := 37) dX12_towards_36 rfl ?_
          obtain ⟨v13, hv13, hy⟩ := zt_b hy
          refine zj_rdi (pc' := 38) dX12_towards_37 rfl sh193 e_i193 hv13 ?_
          refine zj_iconst (pc' := 39) dX12_towards_38 rfl kiconst_1 ?_
          refine zj_isub (pc' := 40) dX12_towards_39 rfl ?_
          refine zj_icmp_eq (tgt := 49) (pc' := 43) dX12_towards_40 rfl (by decide) (fun c14 => ?_) (fun c14 => ?_)
          · have hy := zt_t hy c14
            have e9 := h8 _ (Option.some.inj hy).symm
            refine zj_loc [1, 2, 3] rfl ?_
            exact HE2 _ e9.symm
          · have hy := zt_f hy c14
            obtain ⟨x15, ex15⟩ : ∃ z : Int32, z = (x1 + 1) := ⟨_, rfl⟩
            have hy := zlet_at ex15 hy
            refine zj_iinc (pc' := 46) 3 (L' := [(3, .int x15), (0, .ref (zad Γ 186)), (1, .int a1), (2, .int a2)]) dX12_towards_43 rfl rfl (by decide) (by rw [ci1, ← ex15]; rfl) ?_
            refine zj_goto (tgt := 2) dX12_towards_46 (by decide) ?_
            have hn9 := h7 _ (Option.some.inj hy).symm
            refine zj_loc [1, 2, 3, 0] rfl ?_
            exact ih6 _ hn9
  exact HL3 n9 _ hn9
set_option maxRecDepth 20000 in
theorem LX12_towards_186 (Γ : zG) (M : zM) (r0_6 : Nat → Int32) (r0_20 : Nat → Int32) (e_i188 : M.1 188 = r0_6) (e_i193 : M.1 193 = r0_20) (a1 : Int32) (a2 : Int32) {res : Int32} (hy : (fM_towards r0_6 r0_20 a1 a2) = some res) : zK Γ 3 YX12_towards [.ref (zad Γ 186), .int a1, .int a2] M (fun v N => v = some (.int res) ∧ N = M) :=
  zK_of (by decide) (Nat.le_of_ble_eq_true rfl) (TX12_towards_186 Γ M r0_6 r0_20 e_i188 e_i193 a1 a2 hy ⟨rfl, rfl⟩)

noncomputable def fM_goesTo (r0_6 : Nat → Int32) (r0_20 : Nat → Int32) (a1 : Int32) : Option (Int32) :=
  (zrd r0_6 397 (145 + a1)).bind (fun (v1 : Int32) =>
  (if v1 ≤ 0 then
  (zrd r0_6 397 (133 + a1)).bind (fun (v3 : Int32) =>
  (if v3 = 0 then
  (zrd r0_6 397 (91 + a1)).bind (fun (v5 : Int32) =>
  some v5)
  else
  (zrd r0_6 397 (139 + a1)).bind (fun (v6 : Int32) =>
  (fM_whomBy r0_6 a1).bind (fun (y7 : Int32) =>
  (zrd r0_6 397 ((91 + (6 * (v6 - 1))) + y7)).bind (fun (v8 : Int32) =>
  (zrd r0_6 397 (91 + a1)).bind (fun (v9 : Int32) =>
  (zrd r0_20 64 ((8 * v9) + v8)).bind (fun (v10 : Int32) =>
  (if v10 < 1000000 then
  (zrd r0_6 397 (91 + a1)).bind (fun (v12 : Int32) =>
  (fM_towards r0_6 r0_20 v12 v8).bind (fun (y13 : Int32) =>
  some y13))
  else
  (zrd r0_6 397 (91 + a1)).bind (fun (v14 : Int32) =>
  some v14)))))))))
  else
  (zrd r0_6 397 (151 + (8 * a1))).bind (fun (v15 : Int32) =>
  some v15)))

set_option maxRecDepth 20000 in
theorem TX12_goesTo_186 (Γ : zG) {Q : Option Value → zM → Prop} (M : zM) (r0_6 : Nat → Int32) (r0_20 : Nat → Int32) (e_i188 : M.1 188 = r0_6) (e_i193 : M.1 193 = r0_20) (a1 : Int32) {res : Int32} (hy : (fM_goesTo r0_6 r0_20 a1) = some res) (hq : Q (some (.int res)) M) : zR Γ 4 YX12_goesTo 0 [(0, .ref (zad Γ 186)), (1, .int a1)] [] M Q := by
  unfold fM_goesTo at hy
  refine zj_aload_n (pc' := 1) 0 dX12_goesTo_0 rfl rfl rfl ?_
  refine zj_getR (pc' := 4) (j := 188) dX12_goesTo_1 rfl flX12_33 sh186 rfl ?_
  refine zj_sipush (pc' := 7) dX12_goesTo_4 rfl ksipush_145 ?_
  refine zj_iload_n (pc' := 8) 1 dX12_goesTo_7 rfl rfl rfl ?_
  refine zj_iadd (pc' := 9) dX12_goesTo_8 rfl ?_
  obtain ⟨v1, hv1, hy⟩ := zt_b hy
  refine zj_rdi (pc' := 10) dX12_goesTo_9 rfl sh188 e_i188 hv1 ?_
  refine zj_if_le (tgt := 27) (pc' := 13) dX12_goesTo_10 rfl (by decide) (fun c2 => ?_) (fun c2 => ?_)
  · have hy := zt_t hy c2
    refine zj_aload_n (pc' := 28) 0 dX12_goesTo_27 rfl rfl rfl ?_
    refine zj_getR (pc' := 31) (j := 188) dX12_goesTo_28 rfl flX12_33 sh186 rfl ?_
    refine zj_sipush (pc' := 34) dX12_goesTo_31 rfl ksipush_133 ?_
    refine zj_iload_n (pc' := 35) 1 dX12_goesTo_34 rfl rfl rfl ?_
    refine zj_iadd (pc' := 36) dX12_goesTo_35 rfl ?_
    obtain ⟨v3, hv3, hy⟩ := zt_b hy
    refine zj_rdi (pc' := 37) dX12_goesTo_36 rfl sh188 e_i188 hv3 ?_
    refine zj_if_ne (tgt := 50) (pc' := 40) dX12_goesTo_37 rfl (by decide) (fun c4 => ?_) (fun c4 => ?_)
    · have hy := zt_f hy c4
      refine zj_aload_n (pc' := 51) 0 dX12_goesTo_50 rfl rfl rfl ?_
      refine zj_getR (pc' := 54) (j := 188) dX12_goesTo_51 rfl flX12_33 sh186 rfl ?_
      refine zj_bipush (pc' := 56) dX12_goesTo_54 rfl kbipush_91 ?_
      refine zj_bipush (pc' := 58) dX12_goesTo_56 rfl kbipush_6 ?_
      refine zj_aload_n (pc' := 59) 0 dX12_goesTo_58 rfl rfl rfl ?_
      refine zj_getR (pc' := 62) (j := 188) dX12_goesTo_59 rfl flX12_33 sh186 rfl ?_
      refine zj_sipush (pc' := 65) dX12_goesTo_62 rfl ksipush_139 ?_
      refine zj_iload_n (pc' := 66) 1 dX12_goesTo_65 rfl rfl rfl ?_
      refine zj_iadd (pc' := 67) dX12_goesTo_66 rfl ?_
      obtain ⟨v6, hv6, hy⟩ := zt_b hy
      refine zj_rdi (pc' := 68) dX12_goesTo_67 rfl sh188 e_i188 hv6 ?_
      refine zj_iconst (pc' := 69) dX12_goesTo_68 rfl kiconst_1 ?_
      refine zj_isub (pc' := 70) dX12_goesTo_69 rfl ?_
      refine zj_imul (pc' := 71) dX12_goesTo_70 rfl ?_
      refine zj_iadd (pc' := 72) dX12_goesTo_71 rfl ?_
      refine zj_aload_n (pc' := 73) 0 dX12_goesTo_72 rfl rfl rfl ?_
      refine zj_iload_n (pc' := 74) 1 dX12_goesTo_73 rfl rfl rfl ?_
      obtain ⟨y7, hy7, hy⟩ := zt_b hy
      refine zj_V1 (pc' := 77) (z := YX12_whomBy) (As := [.int a1]) (N := M) dX12_goesTo_74 rfl mlX12_266 lkX12_whomBy sh186 ⟨_, _, rfl⟩ rfl rfl (Nat.le_of_ble_eq_true rfl) (Nat.le_of_ble_eq_true rfl) (LX12_whomBy_186 Γ _ r0_6 e_i188 a1 hy7) rfl ?_
      refine zj_iadd (pc' := 78) dX12_goesTo_77 rfl ?_
      obtain ⟨v8, hv8, hy⟩ := zt_b hy
      refine zj_rdi (pc' := 79) dX12_goesTo_78 rfl sh188 e_i188 hv8 ?_
      refine zj_istore_n (pc' := 80) (L' := [(2, .int v8), (0, .ref (zad Γ 186)), (1, .int a1)]) dX12_goesTo_79 rfl rfl (by decide) rfl ?_
      refine zj_aload_n (pc' := 81) 1 dX12_goesTo_80 rfl rfl rfl ?_
      refine zj_getR (pc' := 84) (j := 193) dX12_goesTo_81 rfl flX12_50 sh186 rfl ?_
      refine zj_bipush (pc' := 86) dX12_goesTo_84 rfl kbipush_8 ?_
      refine zj_aload_n (pc' := 87) 1 dX12_goesTo_86 rfl rfl rfl ?_
      refine zj_getR (pc' := 90) (j := 188) dX12_goesTo_87 rfl flX12_33 sh186 rfl ?_
      refine zj_bipush (pc' := 92) dX12_goesTo_90 rfl kbipush_91 ?_
      refine zj_iload_n (pc' := 93) 2 dX12_goesTo_92 rfl rfl rfl ?_
      refine zj_iadd (pc' := 94) dX12_goesTo_93 rfl ?_
      obtain ⟨v9, hv9, hy⟩ := zt_b hy
      refine zj_rdi (pc' := 95) dX12_goesTo_94 rfl sh188 e_i188 hv9 ?_
      refine zj_imul (pc' := 96) dX12_goesTo_95 rfl ?_
      refine zj_iload_n (pc' := 97) 0 dX12_goesTo_96 rfl rfl rfl ?_
      refine zj_iadd (pc' := 98) dX12_goesTo_97 rfl ?_
      obtain ⟨v10, hv10, hy⟩ := zt_b hy
      refine zj_rdi (pc' := 99) dX12_goesTo_98 rfl sh193 e_i193 hv10 ?_
      refine zj_ldcw (pc' := 102) dX12_goesTo_99 rfl cI1681 ?_
      refine zj_icmp_lt (tgt := 117) (pc' := 105) dX12_goesTo_102 rfl (by decide) (fun c11 => ?_) (fun c11 => ?_)
      · have hy := zt_t hy c11
        refine zj_aload_n (pc' := 118) 1 dX12_goesTo_117 rfl rfl rfl ?_
        refine zj_aload_n (pc' := 119) 1 dX12_goesTo_118 rfl rfl rfl ?_
        refine zj_getR (pc' := 122) (j := 188) dX12_goesTo_119 rfl flX12_33 sh186 rfl ?_
        refine zj_bipush (pc' := 124) dX12_goesTo_122 rfl kbipush_91 ?_
        refine zj_iload_n (pc' := 125) 2 dX12_goesTo_124 rfl rfl rfl ?_
        refine zj_iadd (pc' := 126) dX12_goesTo_125 rfl ?_
        obtain ⟨v12, hv12, hy⟩ := zt_b hy
        refine zj_rdi (pc' := 127) dX12_goesTo_126 rfl sh188 e_i188 hv12 ?_
        refine zj_iload_n (pc' := 128) 0 dX12_goesTo_127 rfl rfl rfl ?_
        obtain ⟨y13, hy13, hy⟩ := zt_b hy
        refine zj_V1 (pc' := 131) (z := YX12_towards) (As := [.int v12, .int v8]) (N := M) dX12_goesTo_128 rfl mlX12_292 lkX12_towards sh186 ⟨_, _, rfl⟩ rfl rfl (Nat.le_of_ble_eq_true rfl) (Nat.le_of_ble_eq_true rfl) (LX12_towards_186 Γ _ r0_6 r0_20 e_i188 e_i193 v12 v8 hy13) rfl ?_
        have e9 := Option.some.inj hy
        subst e9
        exact zj_iret dX12_goesTo_131 rfl hq
      · have hy := zt_f hy c11
        refine zj_aload_n (pc' := 106) 1 dX12_goesTo_105 rfl rfl rfl ?_
        refine zj_getR (pc' := 109) (j := 188) dX12_goesTo_106 rfl flX12_33 sh186 rfl ?_
        refine zj_bipush (pc' := 111) dX12_goesTo_109 rfl kbipush_91 ?_
        refine zj_iload_n (pc' := 112) 2 dX12_goesTo_111 rfl rfl rfl ?_
        refine zj_iadd (pc' := 113) dX12_goesTo_112 rfl ?_
        obtain ⟨v14, hv14, hy⟩ := zt_b hy
        refine zj_rdi (pc' := 114) dX12_goesTo_113 rfl sh188 e_i188 hv14 ?_
        refine zj_goto (tgt := 131) dX12_goesTo_114 (by decide) ?_
        have e9 := Option.some.inj hy
        subst e9
        exact zj_iret dX12_goesTo_131 rfl hq
    · have hy := zt_t hy c4
      refine zj_aload_n (pc' := 41) 0 dX12_goesTo_40 rfl rfl rfl ?_
      refine zj_getR (pc' := 44) (j := 188) dX12_goesTo_41 rfl flX12_33 sh186 rfl ?_
      refine zj_bipush (pc' := 46) dX12_goesTo_44 rfl kbipush_91 ?_
      refine zj_iload_n (pc' := 47) 1 dX12_goesTo_46 rfl rfl rfl ?_
      refine zj_iadd (pc' := 48) dX12_goesTo_47 rfl ?_
      obtain ⟨v5, hv5, hy⟩ := zt_b hy
      refine zj_rdi (pc' := 49) dX12_goesTo_48 rfl sh188 e_i188 hv5 ?_
      have e9 := Option.some.inj hy
      subst e9
      exact zj_iret dX12_goesTo_49 rfl hq
  · have hy := zt_f hy c2
    refine zj_aload_n (pc' := 14) 0 dX12_goesTo_13 rfl rfl rfl ?_
    refine zj_getR (pc' := 17) (j := 188) dX12_goesTo_14 rfl flX12_33 sh186 rfl ?_
    refine zj_sipush (pc' := 20) dX12_goesTo_17 rfl ksipush_151 ?_
    refine zj_bipush (pc' := 22) dX12_goesTo_20 rfl kbipush_8 ?_
    refine zj_iload_n (pc' := 23) 1 dX12_goesTo_22 rfl rfl rfl ?_
    refine zj_imul (pc' := 24) dX12_goesTo_23 rfl ?_
    refine zj_iadd (pc' := 25) dX12_goesTo_24 rfl ?_
    obtain ⟨v15, hv15, hy⟩ := zt_b hy
    refine zj_rdi (pc' := 26) dX12_goesTo_25 rfl sh188 e_i188 hv15 ?_
    have e9 := Option.some.inj hy
    subst e9
    exact zj_iret dX12_goesTo_26 rfl hq
set_option maxRecDepth 20000 in
theorem LX12_goesTo_186 (Γ : zG) (M : zM) (r0_6 : Nat → Int32) (r0_20 : Nat → Int32) (e_i188 : M.1 188 = r0_6) (e_i193 : M.1 193 = r0_20) (a1 : Int32) {res : Int32} (hy : (fM_goesTo r0_6 r0_20 a1) = some res) : zK Γ 4 YX12_goesTo [.ref (zad Γ 186), .int a1] M (fun v N => v = some (.int res) ∧ N = M) :=
  zK_of (by decide) (Nat.le_of_ble_eq_true rfl) (TX12_goesTo_186 Γ M r0_6 r0_20 e_i188 e_i193 a1 hy ⟨rfl, rfl⟩)

noncomputable def fM_minute_L2 (r0_6 : Nat → Int32) (r0_20 : Nat → Int32) (r0_21v1 : Nat → Int32) (x2 : Int32) : Option (((Nat → Int32) × Int32) ⊕ ((Nat → Int32))) :=
  (if (r0_6 2) ≤ x2 then
  some (.inr r0_21v1)
  else
  (fM_goesTo r0_6 r0_20 x2).bind (fun (y11 : Int32) =>
  (zwr r0_21v1 6 x2 y11).bind (fun (r0_21v12 : Nat → Int32) =>
  zlet (x2 + 1) (fun (x13 : Int32) =>
  some (.inl (r0_21v12, x13))))))
noncomputable def fM_minute_L32 (r0_6v15 : Nat → Int32) (x16 : Int32) : Option (((Nat → Int32) × Int32) ⊕ ((Nat → Int32))) :=
  (if x16 < 6 then
  some (.inr r0_6v15)
  else
  (zrd r0_6v15 397 ((91 + x16) - 6)).bind (fun (v25 : Int32) =>
  (zwr r0_6v15 397 (91 + x16) v25).bind (fun (r0_6v26 : Nat → Int32) =>
  zlet (x16 + (-1)) (fun (x27 : Int32) =>
  some (.inl (r0_6v26, x27))))))
noncomputable def fM_minute_L166 (x30 : Int32) (r0_6v47 : Nat → Int32) (x48 : Int32) : Option (((Nat → Int32) × Int32) ⊕ ((Nat → Int32))) :=
  (if 7 ≤ x48 then
  some (.inr r0_6v47)
  else
  (zrd r0_6v47 397 (((151 + (8 * x30)) + x48) + 1)).bind (fun (v57 : Int32) =>
  (zwr r0_6v47 397 ((151 + (8 * x30)) + x48) v57).bind (fun (r0_6v58 : Nat → Int32) =>
  zlet (x48 + 1) (fun (x59 : Int32) =>
  some (.inl (r0_6v58, x59))))))
noncomputable def fM_minute_L67 (r0_21v14 : Nat → Int32) (r0_6v29 : Nat → Int32) (x30 : Int32) : Option (((Nat → Int32) × Int32) ⊕ ((Nat → Int32))) :=
  (if (r0_6v29 2) ≤ x30 then
  some (.inr r0_6v29)
  else
  (zrd r0_21v14 6 x30).bind (fun (v39 : Int32) =>
  (zrd r0_6v29 397 (91 + x30)).bind (fun (v40 : Int32) =>
  zlet (fun (r0_6v41 : Nat → Int32) =>
  (zrd r0_21v14 6 x30).bind (fun (v42 : Int32) =>
  (zwr r0_6v41 397 (91 + x30) v42).bind (fun (r0_6v43 : Nat → Int32) =>
  (zrd r0_6v43 397 (145 + x30)).bind (fun (v44 : Int32) =>
  (if v44 = 0 then
  zlet (x30 + 1) (fun (x46 : Int32) =>
  some (.inl (r0_6v43, x46)))
  else
  (zLP (fun s => fM_minute_L166 x30 s.1 s.2) (r0_6v43, 0)).bind (fun r51 =>
  (zrd r51 397 (145 + x30)).bind (fun (v61 : Int32) =>
  (zwr r51 397 (145 + x30) (v61 - 1)).bind (fun (r0_6v62 : Nat → Int32) =>
  zlet (x30 + 1) (fun (x63 : Int32) =>
  some (.inl (r0_6v62, x63))))))))))) (fun J64 =>
  (if v39 = v40 then
  J64 r0_6v29
  else
  (zrd r0_21v14 6 x30).bind (fun (v66 : Int32) =>
  (zrd r0_21v14 6 x30).bind (fun (v67 : Int32) =>
  (zrd r0_6v29 397 (207 + v67)).bind (fun (v68 : Int32) =>
  (zwr r0_6v29 397 (207 + v66) (fM_lesser 9999 (v68 + 1))).bind (fun (r0_6v69 : Nat → Int32) =>
  J64 r0_6v69)))))))))
noncomputable def fM_minute_L232 (r0_21v14 : Nat → Int32) (r0_6v71 : Nat → Int32) (x72 : Int32) : Option (((Nat → Int32) × Int32) ⊕ ((Nat → Int32))) :=
  (if (r0_6v71 2) ≤ x72 then
  some (.inr r0_6v71)
  else
  (zrd r0_6v71 397 (133 + x72)).bind (fun (v81 : Int32) =>
  (if v81 = 0 then
  zlet (x72 + 1) (fun (x83 : Int32) =>
  some (.inl (r0_6v71, x83)))
  else
  (zrd r0_21v14 6 x72).bind (fun (v84 : Int32) =>
  (zrd r0_6v71 397 (199 + v84)).bind (fun (v85 : Int32) =>
  (if v85 = 0 then
  zlet (x72 + 1) (fun (x87 : Int32) =>
  some (.inl (r0_6v71, x87)))
  else
  (zrd r0_21v14 6 x72).bind (fun (v88 : Int32) =>
  (zrd r0_6v71 397 (199 + v88)).bind (fun (v89 : Int32) =>
  (zwr r0_6v71 397 (199 + v88) (v89 - 1)).bind (fun (r0_6v90 : Nat → Int32) =>
  (zrd r0_6v90 397 (127 + x72)).bind (fun (v91 : Int32) =>
  (zwr r0_6v90 397 (127 + x72) (v91 + 1)).bind (fun (r0_6v92 : Nat → Int32) =>
  zlet (zup r0_6v92 90 ((r0_6v92 90) + 1)) (fun (r0_6v93 : Nat → Int32) =>
  zlet (x72 + 1) (fun (x94 : Int32) =>
  some (.inl (r0_6v93, x94)))))))))))))))
noncomputable def fM_minute (r0_6 : Nat → Int32) (r0_20 : Nat → Int32) (r0_21 : Nat → Int32) : Option ((Nat → Int32) × (Nat → Int32)) :=
  (zLP (fun s => fM_minute_L2 r0_6 r0_20 s.1 s.2) (r0_21, 0)).bind (fun r5 =>
  (zLP (fun s => fM_minute_L32 s.1 s.2) (r0_6, 35)).bind (fun r19 =>
  (zLP (fun s => fM_minute_L67 r5 s.1 s.2) (r19, 0)).bind (fun r33 =>
  (zLP (fun s => fM_minute_L232 r5 s.1 s.2) (r33, 0)).bind (fun r75 =>
  zlet (zup r75 89 ((r75 89) + 1)) (fun (r0_6v96 : Nat → Int32) =>
  some (r0_6v96, r5))))))

set_option maxRecDepth 20000 in
theorem TX12_minute_186 (Γ : zG) {Q : Option Value → zM → Prop} (M : zM) (r0_6 : Nat → Int32) (r0_20 : Nat → Int32) (r0_21 : Nat → Int32) (e_i188 : M.1 188 = r0_6) (e_i193 : M.1 193 = r0_20) (e_i194 : M.1 194 = r0_21)  {res : (Nat → Int32) × (Nat → Int32)} (hy : (fM_minute r0_6 r0_20 r0_21) = some res) (hq : Q none (zui (zui M 188 res.1) 194 res.2)) : zR Γ 5 YX12_minute 0 [(0, .ref (zad Γ 186))] [] M Q := by
  unfold fM_minute at hy
  refine zj_iconst (pc' := 1) dX12_minute_0 rfl kiconst_0 ?_
  refine zj_istore_n (pc' := 2) (L' := [(1, .int 0), (0, .ref (zad Γ 186))]) dX12_minute_1 rfl rfl (by decide) rfl ?_
  refine zj_loc [1, 0] rfl ?_
  refine zj_mem (N := (zui M 194 r0_21)) (zself_i e_i194 rfl) ?_
  obtain ⟨r5, hr9, hyo6⟩ := zt_b hy
  obtain ⟨n9, hn9⟩ := zLP_some hr9
  have HE3 : ∀ (r0_21v14 : Nat → Int32), r5 = r0_21v14 → zR Γ 5 YX12_minute 29 [(0, .ref (zad Γ 186))] [] (zui M 194 r0_21v14) Q := by
    intro r0_21v14 e9
    have hy := hyo6
    try rw [e9] at hy
    try dsimp only at hy
    refine zj_bipush (pc' := 31) dX12_minute_29 rfl kbipush_35 ?_
    refine zj_istore_n (pc' := 32) (L' := [(1, .int 35), (0, .ref (zad Γ 186))]) dX12_minute_31 rfl rfl (by decide) rfl ?_
    refine zj_loc [1, 0] rfl ?_
    refine zj_mem (N := (zui (zui M 188 r0_6) 194 r0_21v14)) (zself_i (zr_n rfl e_i188) (zm_n rfl rfl)) ?_
    obtain ⟨r19, hr9, hyo20⟩ := zt_b hy
    obtain ⟨n9, hn9⟩ := zLP_some hr9
    have HE17 : ∀ (r0_6v28 : Nat → Int32), r19 = r0_6v28 → zR Γ 5 YX12_minute 65 [(0, .ref (zad Γ 186))] [] (zui (zui M 188 r0_6v28) 194 r0_21v14) Q := by
      intro r0_6v28 e9
      have hy := hyo20
      try rw [e9] at hy
      try dsimp only at hy
      refine zj_iconst (pc' := 66) dX12_minute_65 rfl kiconst_0 ?_
      refine zj_istore_n (pc' := 67) (L' := [(1, .int 0), (0, .ref (zad Γ 186))]) dX12_minute_66 rfl rfl (by decide) rfl ?_
      refine zj_loc [1, 0] rfl ?_
      obtain ⟨r33, hr9, hyo34⟩ := zt_b hy
      obtain ⟨n9, hn9⟩ := zLP_some hr9
      have HE31 : ∀ (r0_6v70 : Nat → Int32), r33 = r0_6v70 → zR Γ 5 YX12_minute 230 [(0, .ref (zad Γ 186))] [] (zui (zui M 188 r0_6v70) 194 r0_21v14) Q := by
        intro r0_6v70 e9
        have hy := hyo34
        try rw [e9] at hy
        try dsimp only at hy
        refine zj_iconst (pc' := 231) dX12_minute_230 rfl kiconst_0 ?_
        refine zj_istore_n (pc' := 232) (L' := [(1, .int 0), (0, .ref (zad Γ 186))]) dX12_minute_231 rfl rfl (by decide) rfl ?_
        refine zj_loc [1, 0] rfl ?_
        obtain ⟨r75, hr9, hyo76⟩ := zt_b hy
        obtain ⟨n9, hn9⟩ := zLP_some hr9
        have HE73 : ∀ (r0_6v95 : Nat → Int32), r75 = r0_6v95 → zR Γ 5 YX12_minute 325 [(0, .ref (zad Γ 186))] [] (zui (zui M 188 r0_6v95) 194 r0_21v14) Q := by
          intro r0_6v95 e9
          have hy := hyo76
          try rw [e9] at hy
          try dsimp only at hy
          refine zj_aload_n (pc' := 326) 0 dX12_minute_325 rfl rfl rfl ?_
          refine zj_getR (pc' := 329) (j := 188) dX12_minute_326 rfl flX12_33 sh186 rfl ?_
          refine zj_bipush (pc' := 331) dX12_minute_329 rfl kbipush_89 ?_
          refine zj_dup2 (pc' := 332) dX12_minute_331 rfl rfl rfl ?_
          refine zj_rdi (pc' := 333) dX12_minute_332 rfl sh188 (zr_n rfl zr_s) (zrdK zi89_397 tn89) ?_
          refine zj_iconst (pc' := 334) dX12_minute_333 rfl kiconst_1 ?_
          refine zj_iadd (pc' := 335) dX12_minute_334 rfl ?_
          obtain ⟨r0_6v96, er0_6v96⟩ : ∃ z, z = (zup r0_6v95 89 ((r0_6v95 89) + 1)) := ⟨_, rfl⟩
          have hy := zlet_at er0_6v96 hy
          refine zj_wri (pc' := 336) (N := (zui (zui M 188 r0_6v96) 194 r0_21v14)) dX12_minute_335 rfl sh188 (zr_n rfl zr_s) (zwrK zi89_397 tn89 er0_6v96) (zm_n rfl zm_s) ?_
          have e9 := Option.some.inj hy
          subst e9
          exact zj_vret dX12_minute_336 rfl hq
        have HL74 : ∀ (n : Nat) (r0_6v71 : Nat → Int32) (x72 : Int32), zlp (fun s => fM_minute_L232 r0_21v14 s.1 s.2) n (r0_6v71, x72) = some r75 → zR Γ 5 YX12_minute 232 [(0, .ref (zad Γ 186)), (1, .int x72)] [] (zui (zui M 188 r0_6v71) 194 r0_21v14) Q := by
          intro n
          induction n with
          | zero => intro r0_6v71 x72 hn9; cases hn9
          | succ n ih77 =>
            intro r0_6v71 x72 hn9
            obtain ⟨o9, hb9, h78, h79⟩ := zlp_step hn9
            have hy : fM_minute_L232 r0_21v14 r0_6v71 x72 = some o9 := hb9
            unfold fM_minute_L232 at hy
            refine zj_iload_n (pc' := 233) 1 dX12_minute_232 rfl rfl rfl ?_
            refine zj_aload_n (pc' := 234) 0 dX12_minute_233 rfl rfl rfl ?_
            refine zj_getR (pc' := 237) (j := 188) dX12_minute_234 rfl flX12_33 sh186 rfl ?_
            refine zj_iconst (pc' := 238) dX12_minute_237 rfl kiconst_2 ?_
            refine zj_rdi (pc' := 239) dX12_minute_238 rfl sh188 (zr_n rfl zr_s) (zrdK zi2_397 tn2) ?_
            refine zj_icmp_ge (tgt := 325) (pc' := 242) dX12_minute_239 rfl (by decide) (fun c80 => ?_) (fun c80 => ?_)
            · have hy := zt_t hy c80
              have e9 := h79 _ (Option.some.inj hy).symm
              refine zj_loc [0] rfl ?_
              exact HE73 _ e9.symm
            · have hy := zt_f hy c80
              refine zj_aload_n (pc' := 243) 0 dX12_minute_242 rfl rfl rfl ?_
              refine zj_getR (pc' := 246) (j := 188) dX12_minute_243 rfl flX12_33 sh186 rfl ?_
              refine zj_sipush (pc' := 249) dX12_minute_246 rfl ksipush_133 ?_
              refine zj_iload_n (pc' := 250) 1 dX12_minute_249 rfl rfl rfl ?_
              refine zj_iadd (pc' := 251) dX12_minute_250 rfl ?_
              obtain ⟨v81, hv81, hy⟩ := zt_b hy
              refine zj_rdi (pc' := 252) dX12_minute_251 rfl sh188 (zr_n rfl zr_s) hv81 ?_
              refine zj_if_eq (tgt := 319) (pc' := 255) dX12_minute_252 rfl (by decide) (fun c82 => ?_) (fun c82 => ?_)
              · have hy := zt_t hy c82
                obtain ⟨x83, ex83⟩ : ∃ z : Int32, z = (x72 + 1) := ⟨_, rfl⟩
                have hy := zlet_at ex83 hy
                refine zj_iinc (pc' := 322) 1 (L' := [(1, .int x83), (0, .ref (zad Γ 186))]) dX12_minute_319 rfl rfl (by decide) (by rw [ci1, ← ex83]; rfl) ?_
                refine zj_goto (tgt := 232) dX12_minute_322 (by decide) ?_
                have hn9 := h78 _ (Option.some.inj hy).symm
                refine zj_loc [1, 0] rfl ?_
                exact ih77 _ _ hn9
              · have hy := zt_f hy c82
                refine zj_aload_n (pc' := 256) 0 dX12_minute_255 rfl rfl rfl ?_
                refine zj_getR (pc' := 259) (j := 188) dX12_minute_256 rfl flX12_33 sh186 rfl ?_
                refine zj_sipush (pc' := 262) dX12_minute_259 rfl ksipush_199 ?_
                refine zj_aload_n (pc' := 263) 0 dX12_minute_262 rfl rfl rfl ?_
                refine zj_getR (pc' := 266) (j := 194) dX12_minute_263 rfl flX12_53 sh186 rfl ?_
                refine zj_iload_n (pc' := 267) 1 dX12_minute_266 rfl rfl rfl ?_
                obtain ⟨v84, hv84, hy⟩ := zt_b hy
                refine zj_rdi (pc' := 268) dX12_minute_267 rfl sh194 zr_s hv84 ?_
                refine zj_iadd (pc' := 269) dX12_minute_268 rfl ?_
                obtain ⟨v85, hv85, hy⟩ := zt_b hy
                refine zj_rdi (pc' := 270) dX12_minute_269 rfl sh188 (zr_n rfl zr_s) hv85 ?_
                refine zj_if_ne (tgt := 276) (pc' := 273) dX12_minute_270 rfl (by decide) (fun c86 => ?_) (fun c86 => ?_)
                · have hy := zt_f hy c86
                  refine zj_aload_n (pc' := 277) 0 dX12_minute_276 rfl rfl rfl ?_
                  refine zj_getR (pc' := 280) (j := 188) dX12_minute_277 rfl flX12_33 sh186 rfl ?_
                  refine zj_sipush (pc' := 283) dX12_minute_280 rfl ksipush_199 ?_
                  refine zj_aload_n (pc' := 284) 0 dX12_minute_283 rfl rfl rfl ?_
                  refine zj_getR (pc' := 287) (j := 194) dX12_minute_284 rfl flX12_53 sh186 rfl ?_
                  refine zj_iload_n (pc' := 288) 1 dX12_minute_287 rfl rfl rfl ?_
                  obtain ⟨v88, hv88, hy⟩ := zt_b hy
                  refine zj_rdi (pc' := 289) dX12_minute_288 rfl sh194 zr_s hv88 ?_
                  refine zj_iadd (pc' := 290) dX12_minute_289 rfl ?_
                  refine zj_dup2 (pc' := 291) dX12_minute_290 rfl rfl rfl ?_
                  obtain ⟨v89, hv89, hy⟩ := zt_b hy
                  refine zj_rdi (pc' := 292) dX12_minute_291 rfl sh188 (zr_n rfl zr_s) hv89 ?_
                  refine zj_iconst (pc' := 293) dX12_minute_292 rfl kiconst_1 ?_
                  refine zj_isub (pc' := 294) dX12_minute_293 rfl ?_
                  obtain ⟨r0_6v90, hr0_6v90, hy⟩ := zt_b hy
                  refine zj_wri (pc' := 295) (N := (zui (zui M 188 r0_6v90) 194 r0_21v14)) dX12_minute_294 rfl sh188 (zr_n rfl zr_s) hr0_6v90 (zm_n rfl zm_s) ?_
                  refine zj_aload_n (pc' := 296) 0 dX12_minute_295 rfl rfl rfl ?_
                  refine zj_getR (pc' := 299) (j := 188) dX12_minute_296 rfl flX12_33 sh186 rfl ?_
                  refine zj_bipush (pc' := 301) dX12_minute_299 rfl kbipush_127 ?_
                  refine zj_iload_n (pc' := 302) 1 dX12_minute_301 rfl rfl rfl ?_
                  refine zj_iadd (pc' := 303) dX12_minute_302 rfl ?_
                  refine zj_dup2 (pc' := 304) dX12_minute_303 rfl rfl rfl ?_
                  obtain ⟨v91, hv91, hy⟩ := zt_b hy
                  refine zj_rdi (pc' := 305) dX12_minute_304 rfl sh188 (zr_n rfl zr_s) hv91 ?_
                  refine zj_iconst (pc' := 306) dX12_minute_305 rfl kiconst_1 ?_
                  refine zj_iadd (pc' := 307) dX12_minute_306 rfl ?_
                  obtain ⟨r0_6v92, hr0_6v92, hy⟩ := zt_b hy
                  refine zj_wri (pc' := 308) (N := (zui (zui M 188 r0_6v92) 194 r0_21v14)) dX12_minute_307 rfl sh188 (zr_n rfl zr_s) hr0_6v92 (zm_n rfl zm_s) ?_
                  refine zj_aload_n (pc' := 309) 0 dX12_minute_308 rfl rfl rfl ?_
                  refine zj_getR (pc' := 312) (j := 188) dX12_minute_309 rfl flX12_33 sh186 rfl ?_
                  refine zj_bipush (pc' := 314) dX12_minute_312 rfl kbipush_90 ?_
                  refine zj_dup2 (pc' := 315) dX12_minute_314 rfl rfl rfl ?_
                  refine zj_rdi (pc' := 316) dX12_minute_315 rfl sh188 (zr_n rfl zr_s) (zrdK zi90_397 tn90) ?_
                  refine zj_iconst (pc' := 317) dX12_minute_316 rfl kiconst_1 ?_
                  refine zj_iadd (pc' := 318) dX12_minute_317 rfl ?_
                  obtain ⟨r0_6v93, er0_6v93⟩ : ∃ z, z = (zup r0_6v92 90 ((r0_6v92 90) + 1)) := ⟨_, rfl⟩
                  have hy := zlet_at er0_6v93 hy
                  refine zj_wri (pc' := 319) (N := (zui (zui M 188 r0_6v93) 194 r0_21v14)) dX12_minute_318 rfl sh188 (zr_n rfl zr_s) (zwrK zi90_397 tn90 er0_6v93) (zm_n rfl zm_s) ?_
                  obtain ⟨x94, ex94⟩ : ∃ z : Int32, z = (x72 + 1) := ⟨_, rfl⟩
                  have hy := zlet_at ex94 hy
                  refine zj_iinc (pc' := 322) 1 (L' := [(1, .int x94), (0, .ref (zad Γ 186))]) dX12_minute_319 rfl rfl (by decide) (by rw [ci1, ← ex94]; rfl) ?_
                  refine zj_goto (tgt := 232) dX12_minute_322 (by decide) ?_
                  have hn9 := h78 _ (Option.some.inj hy).symm
                  refine zj_loc [1, 0] rfl ?_
                  exact ih77 _ _ hn9
                · have hy := zt_t hy c86
                  refine zj_goto (tgt := 319) dX12_minute_273 (by decide) ?_
                  obtain ⟨x87, ex87⟩ : ∃ z : Int32, z = (x72 + 1) := ⟨_, rfl⟩
                  have hy := zlet_at ex87 hy
                  refine zj_iinc (pc' := 322) 1 (L' := [(1, .int x87), (0, .ref (zad Γ 186))]) dX12_minute_319 rfl rfl (by decide) (by rw [ci1, ← ex87]; rfl) ?_
                  refine zj_goto (tgt := 232) dX12_minute_322 (by decide) ?_
                  have hn9 := h78 _ (Option.some.inj hy).symm
                  refine zj_loc [1, 0] rfl ?_
                  exact ih77 _ _ hn9
        exact HL74 n9 _ _ hn9
      have HL32 : ∀ (n : Nat) (r0_6v29 : Nat → Int32) (x30 : Int32), zlp (fun s => fM_minute_L67 r0_21v14 s.1 s.2) n (r0_6v29, x30) = some r33 → zR Γ 5 YX12_minute 67 [(0, .ref (zad Γ 186)), (1, .int x30)] [] (zui (zui M 188 r0_6v29) 194 r0_21v14) Q := by
        intro n
        induction n with
        | zero => intro r0_6v29 x30 hn9; cases hn9
        | succ n ih35 =>
          intro r0_6v29 x30 hn9
          obtain ⟨o9, hb9, h36, h37⟩ := zlp_step hn9
          have hy : fM_minute_L67 r0_21v14 r0_6v29 x30 = some o9 := hb9
          unfold fM_minute_L67 at hy
          refine zj_iload_n (pc' := 68) 1 dX12_minute_67 rfl rfl rfl ?_
          refine zj_aload_n (pc' := 69) 0 dX12_minute_68 rfl rfl rfl ?_
          refine zj_getR (pc' := 72) (j := 188) dX12_minute_69 rfl flX12_33 sh186 rfl ?_
          refine zj_iconst (pc' := 73) dX12_minute_72 rfl kiconst_2 ?_
          refine zj_rdi (pc' := 74) dX12_minute_73 rfl sh188 (zr_n rfl zr_s) (zrdK zi2_397 tn2) ?_
          refine zj_icmp_ge (tgt := 230) (pc' := 77) dX12_minute_74 rfl (by decide) (fun c38 => ?_) (fun c38 => ?_)
          · have hy := zt_t hy c38
            have e9 := h37 _ (Option.some.inj hy).symm
            refine zj_loc [0] rfl ?_
            exact HE31 _ e9.symm
          · have hy := zt_f hy c38
            refine zj_aload_n (pc' := 78) 0 dX12_minute_77 rfl rfl rfl ?_
            refine zj_getR (pc' := 81) (j := 194) dX12_minute_78 rfl flX12_53 sh186 rfl ?_
            refine zj_iload_n (pc' := 82) 1 dX12_minute_81 rfl rfl rfl ?_
            obtain ⟨v39, hv39, hy⟩ := zt_b hy
            refine zj_rdi (pc' := 83) dX12_minute_82 rfl sh194 zr_s hv39 ?_
            refine zj_aload_n (pc' := 84) 0 dX12_minute_83 rfl rfl rfl ?_
            refine zj_getR (pc' := 87) (j := 188) dX12_minute_84 rfl flX12_33 sh186 rfl ?_
            refine zj_bipush (pc' := 89) dX12_minute_87 rfl kbipush_91 ?_
            refine zj_iload_n (pc' := 90) 1 dX12_minute_89 rfl rfl rfl ?_
            refine zj_iadd (pc' := 91) dX12_minute_90 rfl ?_
            obtain ⟨v40, hv40, hy⟩ := zt_b hy
            refine zj_rdi (pc' := 92) dX12_minute_91 rfl sh188 (zr_n rfl zr_s) hv40 ?_
            obtain ⟨J64, eJ64, hy⟩ := zlet_ex hy
            have HJ64 : ∀ (r0_6v41 : Nat → Int32), J64 r0_6v41 = some o9 → zR Γ 5 YX12_minute 133 [(0, .ref (zad Γ 186)), (1, .int x30)] [] (zui (zui M 188 r0_6v41) 194 r0_21v14) Q := by
              intro r0_6v41 hy
              have hy := zap1 eJ64 hy
              refine zj_aload_n (pc' := 134) 0 dX12_minute_133 rfl rfl rfl ?_
              refine zj_getR (pc' := 137) (j := 188) dX12_minute_134 rfl flX12_33 sh186 rfl ?_
              refine zj_bipush (pc' := 139) dX12_minute_137 rfl kbipush_91 ?_
              refine zj_iload_n (pc' := 140) 1 dX12_minute_139 rfl rfl rfl ?_
              refine zj_iadd (pc' := 141) dX12_minute_140 rfl ?_
              refine zj_aload_n (pc' := 142) 0 dX12_minute_141 rfl rfl rfl ?_
              refine zj_getR (pc' := 145) (j := 194) dX12_minute_142 rfl flX12_53 sh186 rfl ?_
              refine zj_iload_n (pc' := 146) 1 dX12_minute_145 rfl rfl rfl ?_
              obtain ⟨v42, hv42, hy⟩ := zt_b hy
              refine zj_rdi (pc' := 147) dX12_minute_146 rfl sh194 zr_s hv42 ?_
              obtain ⟨r0_6v43, hr0_6v43, hy⟩ := zt_b hy
              refine zj_wri (pc' := 148) (N := (zui (zui M 188 r0_6v43) 194 r0_21v14)) dX12_minute_147 rfl sh188 (zr_n rfl zr_s) hr0_6v43 (zm_n rfl zm_s) ?_
              refine zj_aload_n (pc' := 149) 0 dX12_minute_148 rfl rfl rfl ?_
              refine zj_getR (pc' := 152) (j := 188) dX12_minute_149 rfl flX12_33 sh186 rfl ?_
              refine zj_sipush (pc' := 155) dX12_minute_152 rfl ksipush_145 ?_
              refine zj_iload_n (pc' := 156) 1 dX12_minute_155 rfl rfl rfl ?_
              refine zj_iadd (pc' := 157) dX12_minute_156 rfl ?_
              obtain ⟨v44, hv44, hy⟩ := zt_b hy
              refine zj_rdi (pc' := 158) dX12_minute_157 rfl sh188 (zr_n rfl zr_s) hv44 ?_
              refine zj_if_ne (tgt := 164) (pc' := 161) dX12_minute_158 rfl (by decide) (fun c45 => ?_) (fun c45 => ?_)
              · have hy := zt_f hy c45
                refine zj_iconst (pc' := 165) dX12_minute_164 rfl kiconst_0 ?_
                refine zj_istore_n (pc' := 166) (L' := [(2, .int 0), (0, .ref (zad Γ 186)), (1, .int x30)]) dX12_minute_165 rfl rfl (by decide) rfl ?_
                refine zj_loc [1, 2, 0] rfl ?_
                obtain ⟨r51, hr9, hyo52⟩ := zt_b hy
                obtain ⟨n9, hn9⟩ := zLP_some hr9
                have HE49 : ∀ (r0_6v60 : Nat → Int32), r51 = r0_6v60 → zR Γ 5 YX12_minute 210 [(0, .ref (zad Γ 186)), (1, .int x30)] [] (zui (zui M 188 r0_6v60) 194 r0_21v14) Q := by
                  intro r0_6v60 e9
                  have hy := hyo52
                  try rw [e9] at hy
                  try dsimp only at hy
                  refine zj_aload_n (pc' := 211) 0 dX12_minute_210 rfl rfl rfl ?_
                  refine zj_getR (pc' := 214) (j := 188) dX12_minute_211 rfl flX12_33 sh186 rfl ?_
                  refine zj_sipush (pc' := 217) dX12_minute_214 rfl ksipush_145 ?_
                  refine zj_iload_n (pc' := 218) 1 dX12_minute_217 rfl rfl rfl ?_
                  refine zj_iadd (pc' := 219) dX12_minute_218 rfl ?_
                  refine zj_dup2 (pc' := 220) dX12_minute_219 rfl rfl rfl ?_
                  obtain ⟨v61, hv61, hy⟩ := zt_b hy
                  refine zj_rdi (pc' := 221) dX12_minute_220 rfl sh188 (zr_n rfl zr_s) hv61 ?_
                  refine zj_iconst (pc' := 222) dX12_minute_221 rfl kiconst_1 ?_
                  refine zj_isub (pc' := 223) dX12_minute_222 rfl ?_
                  obtain ⟨r0_6v62, hr0_6v62, hy⟩ := zt_b hy
                  refine zj_wri (pc' := 224) (N := (zui (zui M 188 r0_6v62) 194 r0_21v14)) dX12_minute_223 rfl sh188 (zr_n rfl zr_s) hr0_6v62 (zm_n rfl zm_s) ?_
                  obtain ⟨x63, ex63⟩ : ∃ z : Int32, z = (x30 + 1) := ⟨_, rfl⟩
                  have hy := zlet_at ex63 hy
                  refine zj_iinc (pc' := 227) 1 (L' := [(1, .int x63), (0, .ref (zad Γ 186))]) dX12_minute_224 rfl rfl (by decide) (by rw [ci1, ← ex63]; rfl) ?_
                  refine zj_goto (tgt := 67) dX12_minute_227 (by decide) ?_
                  have hn9 := h36 _ (Option.some.inj hy).symm
                  refine zj_loc [1, 0] rfl ?_
                  exact ih35 _ _ hn9
                have HL50 : ∀ (n : Nat) (r0_6v47 : Nat → Int32) (x48 : Int32), zlp (fun s => fM_minute_L166 x30 s.1 s.2) n (r0_6v47, x48) = some r51 → zR Γ 5 YX12_minute 166 [(0, .ref (zad Γ 186)), (1, .int x30), (2, .int x48)] [] (zui (zui M 188 r0_6v47) 194 r0_21v14) Q := by
                  intro n
                  induction n with
                  | zero => intro r0_6v47 x48 hn9; cases hn9
                  | succ n ih53 =>
                    intro r0_6v47 x48 hn9
                    obtain ⟨o9, hb9, h54, h55⟩ := zlp_step hn9
                    have hy : fM_minute_L166 x30 r0_6v47 x48 = some o9 := hb9
                    unfold fM_minute_L166 at hy
                    refine zj_iload_n (pc' := 167) 2 dX12_minute_166 rfl rfl rfl ?_
                    refine zj_bipush (pc' := 169) dX12_minute_167 rfl kbipush_7 ?_
                    refine zj_icmp_ge (tgt := 210) (pc' := 172) dX12_minute_169 rfl (by decide) (fun c56 => ?_) (fun c56 => ?_)
                    · have hy := zt_t hy c56
                      have e9 := h55 _ (Option.some.inj hy).symm
                      refine zj_loc [0, 1] rfl ?_
                      exact HE49 _ e9.symm
                    · have hy := zt_f hy c56
                      refine zj_aload_n (pc' := 173) 0 dX12_minute_172 rfl rfl rfl ?_
                      refine zj_getR (pc' := 176) (j := 188) dX12_minute_173 rfl flX12_33 sh186 rfl ?_
                      refine zj_sipush (pc' := 179) dX12_minute_176 rfl ksipush_151 ?_
                      refine zj_bipush (pc' := 181) dX12_minute_179 rfl kbipush_8 ?_
                      refine zj_iload_n (pc' := 182) 1 dX12_minute_181 rfl rfl rfl ?_
                      refine zj_imul (pc' := 183) dX12_minute_182 rfl ?_
                      refine zj_iadd (pc' := 184) dX12_minute_183 rfl ?_
                      refine zj_iload_n (pc' := 185) 2 dX12_minute_184 rfl rfl rfl ?_
                      refine zj_iadd (pc' := 186) dX12_minute_185 rfl ?_
                      refine zj_aload_n (pc' := 187) 0 dX12_minute_186 rfl rfl rfl ?_
                      refine zj_getR (pc' := 190) (j := 188) dX12_minute_187 rfl flX12_33 sh186 rfl ?_
                      refine zj_sipush (pc' := 193) dX12_minute_190 rfl ksipush_151 ?_
                      refine zj_bipush (pc' := 195) dX12_minute_193 rfl kbipush_8 ?_
                      refine zj_iload_n (pc' := 196) 1 dX12_minute_195 rfl rfl rfl ?_
                      refine zj_imul (pc' := 197) dX12_minute_196 rfl ?_
                      refine zj_iadd (pc' := 198) dX12_minute_197 rfl ?_
                      refine zj_iload_n (pc' := 199) 2 dX12_minute_198 rfl rfl rfl ?_
                      refine zj_iadd (pc' := 200) dX12_minute_199 rfl ?_
                      refine zj_iconst (pc' := 201) dX12_minute_200 rfl kiconst_1 ?_
                      refine zj_iadd (pc' := 202) dX12_minute_201 rfl ?_
                      obtain ⟨v57, hv57, hy⟩ := zt_b hy
                      refine zj_rdi (pc' := 203) dX12_minute_202 rfl sh188 (zr_n rfl zr_s) hv57 ?_
                      obtain ⟨r0_6v58, hr0_6v58, hy⟩ := zt_b hy
                      refine zj_wri (pc' := 204) (N := (zui (zui M 188 r0_6v58) 194 r0_21v14)) dX12_minute_203 rfl sh188 (zr_n rfl zr_s) hr0_6v58 (zm_n rfl zm_s) ?_
                      obtain ⟨x59, ex59⟩ : ∃ z : Int32, z = (x48 + 1) := ⟨_, rfl⟩
                      have hy := zlet_at ex59 hy
                      refine zj_iinc (pc' := 207) 2 (L' := [(2, .int x59), (0, .ref (zad Γ 186)), (1, .int x30)]) dX12_minute_204 rfl rfl (by decide) (by rw [ci1, ← ex59]; rfl) ?_
                      refine zj_goto (tgt := 166) dX12_minute_207 (by decide) ?_
                      have hn9 := h54 _ (Option.some.inj hy).symm
                      refine zj_loc [1, 2, 0] rfl ?_
                      exact ih53 _ _ hn9
                exact HL50 n9 _ _ hn9
              · have hy := zt_t hy c45
                refine zj_goto (tgt := 224) dX12_minute_161 (by decide) ?_
                obtain ⟨x46, ex46⟩ : ∃ z : Int32, z = (x30 + 1) := ⟨_, rfl⟩
                have hy := zlet_at ex46 hy
                refine zj_iinc (pc' := 227) 1 (L' := [(1, .int x46), (0, .ref (zad Γ 186))]) dX12_minute_224 rfl rfl (by decide) (by rw [ci1, ← ex46]; rfl) ?_
                refine zj_goto (tgt := 67) dX12_minute_227 (by decide) ?_
                have hn9 := h36 _ (Option.some.inj hy).symm
                refine zj_loc [1, 0] rfl ?_
                exact ih35 _ _ hn9
            refine zj_icmp_eq (tgt := 133) (pc' := 95) dX12_minute_92 rfl (by decide) (fun c65 => ?_) (fun c65 => ?_)
            · have hy := zt_t hy c65
              exact HJ64 r0_6v29 hy
            · have hy := zt_f hy c65
              refine zj_aload_n (pc' := 96) 0 dX12_minute_95 rfl rfl rfl ?_
              refine zj_getR (pc' := 99) (j := 188) dX12_minute_96 rfl flX12_33 sh186 rfl ?_
              refine zj_sipush (pc' := 102) dX12_minute_99 rfl ksipush_207 ?_
              refine zj_aload_n (pc' := 103) 0 dX12_minute_102 rfl rfl rfl ?_
              refine zj_getR (pc' := 106) (j := 194) dX12_minute_103 rfl flX12_53 sh186 rfl ?_
              refine zj_iload_n (pc' := 107) 1 dX12_minute_106 rfl rfl rfl ?_
              obtain ⟨v66, hv66, hy⟩ := zt_b hy
              refine zj_rdi (pc' := 108) dX12_minute_107 rfl sh194 zr_s hv66 ?_
              refine zj_iadd (pc' := 109) dX12_minute_108 rfl ?_
              refine zj_sipush (pc' := 112) dX12_minute_109 rfl ksipush_9999 ?_
              refine zj_aload_n (pc' := 113) 0 dX12_minute_112 rfl rfl rfl ?_
              refine zj_getR (pc' := 116) (j := 188) dX12_minute_113 rfl flX12_33 sh186 rfl ?_
              refine zj_sipush (pc' := 119) dX12_minute_116 rfl ksipush_207 ?_
              refine zj_aload_n (pc' := 120) 0 dX12_minute_119 rfl rfl rfl ?_
              refine zj_getR (pc' := 123) (j := 194) dX12_minute_120 rfl flX12_53 sh186 rfl ?_
              refine zj_iload_n (pc' := 124) 1 dX12_minute_123 rfl rfl rfl ?_
              obtain ⟨v67, hv67, hy⟩ := zt_b hy
              refine zj_rdi (pc' := 125) dX12_minute_124 rfl sh194 zr_s hv67 ?_
              refine zj_iadd (pc' := 126) dX12_minute_125 rfl ?_
              obtain ⟨v68, hv68, hy⟩ := zt_b hy
              refine zj_rdi (pc' := 127) dX12_minute_126 rfl sh188 (zr_n rfl zr_s) hv68 ?_
              refine zj_iconst (pc' := 128) dX12_minute_127 rfl kiconst_1 ?_
              refine zj_iadd (pc' := 129) dX12_minute_128 rfl ?_
              refine zj_S1 (pc' := 132) (z := YX12_lesser) (As := [.int 9999, .int (v68 + 1)]) (N := (zui (zui M 188 r0_6v29) 194 r0_21v14)) dX12_minute_129 rfl mlX12_263 lkX12_lesser rfl rfl (Nat.le_of_ble_eq_true rfl) (Nat.le_of_ble_eq_true rfl) (LX12_lesser Γ _ 9999 (v68 + 1) rfl) rfl ?_
              obtain ⟨r0_6v69, hr0_6v69, hy⟩ := zt_b hy
              refine zj_wri (pc' := 133) (N := (zui (zui M 188 r0_6v69) 194 r0_21v14)) dX12_minute_132 rfl sh188 (zr_n rfl zr_s) hr0_6v69 (zm_n rfl zm_s) ?_
              exact HJ64 r0_6v69 hy
      exact HL32 n9 _ _ hn9
    have HL18 : ∀ (n : Nat) (r0_6v15 : Nat → Int32) (x16 : Int32), zlp (fun s => fM_minute_L32 s.1 s.2) n (r0_6v15, x16) = some r19 → zR Γ 5 YX12_minute 32 [(0, .ref (zad Γ 186)), (1, .int x16)] [] (zui (zui M 188 r0_6v15) 194 r0_21v14) Q := by
      intro n
      induction n with
      | zero => intro r0_6v15 x16 hn9; cases hn9
      | succ n ih21 =>
        intro r0_6v15 x16 hn9
        obtain ⟨o9, hb9, h22, h23⟩ := zlp_step hn9
        have hy : fM_minute_L32 r0_6v15 x16 = some o9 := hb9
        unfold fM_minute_L32 at hy
        refine zj_iload_n (pc' := 33) 1 dX12_minute_32 rfl rfl rfl ?_
        refine zj_bipush (pc' := 35) dX12_minute_33 rfl kbipush_6 ?_
        refine zj_icmp_lt (tgt := 65) (pc' := 38) dX12_minute_35 rfl (by decide) (fun c24 => ?_) (fun c24 => ?_)
        · have hy := zt_t hy c24
          have e9 := h23 _ (Option.some.inj hy).symm
          refine zj_loc [0] rfl ?_
          exact HE17 _ e9.symm
        · have hy := zt_f hy c24
          refine zj_aload_n (pc' := 39) 0 dX12_minute_38 rfl rfl rfl ?_
          refine zj_getR (pc' := 42) (j := 188) dX12_minute_39 rfl flX12_33 sh186 rfl ?_
          refine zj_bipush (pc' := 44) dX12_minute_42 rfl kbipush_91 ?_
          refine zj_iload_n (pc' := 45) 1 dX12_minute_44 rfl rfl rfl ?_
          refine zj_iadd (pc' := 46) dX12_minute_45 rfl ?_
          refine zj_aload_n (pc' := 47) 0 dX12_minute_46 rfl rfl rfl ?_
          refine zj_getR (pc' := 50) (j := 188) dX12_minute_47 rfl flX12_33 sh186 rfl ?_
          refine zj_bipush (pc' := 52) dX12_minute_50 rfl kbipush_91 ?_
          refine zj_iload_n (pc' := 53) 1 dX12_minute_52 rfl rfl rfl ?_
          refine zj_iadd (pc' := 54) dX12_minute_53 rfl ?_
          refine zj_bipush (pc' := 56) dX12_minute_54 rfl kbipush_6 ?_
          refine zj_isub (pc' := 57) dX12_minute_56 rfl ?_
          obtain ⟨v25, hv25, hy⟩ := zt_b hy
          refine zj_rdi (pc' := 58) dX12_minute_57 rfl sh188 (zr_n rfl zr_s) hv25 ?_
          obtain ⟨r0_6v26, hr0_6v26, hy⟩ := zt_b hy
          refine zj_wri (pc' := 59) (N := (zui (zui M 188 r0_6v26) 194 r0_21v14)) dX12_minute_58 rfl sh188 (zr_n rfl zr_s) hr0_6v26 (zm_n rfl zm_s) ?_
          obtain ⟨x27, ex27⟩ : ∃ z : Int32, z = (x16 + (-1)) := ⟨_, rfl⟩
          have hy := zlet_at ex27 hy
          refine zj_iinc (pc' := 62) 1 (L' := [(1, .int x27), (0, .ref (zad Γ 186))]) dX12_minute_59 rfl rfl (by decide) (by rw [cim1, ← ex27]; rfl) ?_
          refine zj_goto (tgt := 32) dX12_minute_62 (by decide) ?_
          have hn9 := h22 _ (Option.some.inj hy).symm
          refine zj_loc [1, 0] rfl ?_
          exact ih21 _ _ hn9
    exact HL18 n9 _ _ hn9
  have HL4 : ∀ (n : Nat) (r0_21v1 : Nat → Int32) (x2 : Int32), zlp (fun s => fM_minute_L2 r0_6 r0_20 s.1 s.2) n (r0_21v1, x2) = some r5 → zR Γ 5 YX12_minute 2 [(0, .ref (zad Γ 186)), (1, .int x2)] [] (zui M 194 r0_21v1) Q := by
    intro n
    induction n with
    | zero => intro r0_21v1 x2 hn9; cases hn9
    | succ n ih7 =>
      intro r0_21v1 x2 hn9
      obtain ⟨o9, hb9, h8, h9⟩ := zlp_step hn9
      have hy : fM_minute_L2 r0_6 r0_20 r0_21v1 x2 = some o9 := hb9
      unfold fM_minute_L2 at hy
      refine zj_iload_n (pc' := 3) 1 dX12_minute_2 rfl rfl rfl ?_
      refine zj_aload_n (pc' := 4) 0 dX12_minute_3 rfl rfl rfl ?_
      refine zj_getR (pc' := 7) (j := 188) dX12_minute_4 rfl flX12_33 sh186 rfl ?_
      refine zj_iconst (pc' := 8) dX12_minute_7 rfl kiconst_2 ?_
      refine zj_rdi (pc' := 9) dX12_minute_8 rfl sh188 (zr_n rfl e_i188) (zrdK zi2_397 tn2) ?_
      refine zj_icmp_ge (tgt := 29) (pc' := 12) dX12_minute_9 rfl (by decide) (fun c10 => ?_) (fun c10 => ?_)
      · have hy := zt_t hy c10
        have e9 := h9 _ (Option.some.inj hy).symm
        refine zj_loc [0] rfl ?_
        exact HE3 _ e9.symm
      · have hy := zt_f hy c10
        refine zj_aload_n (pc' := 13) 0 dX12_minute_12 rfl rfl rfl ?_
        refine zj_getR (pc' := 16) (j := 194) dX12_minute_13 rfl flX12_53 sh186 rfl ?_
        refine zj_iload_n (pc' := 17) 1 dX12_minute_16 rfl rfl rfl ?_
        refine zj_aload_n (pc' := 18) 0 dX12_minute_17 rfl rfl rfl ?_
        refine zj_iload_n (pc' := 19) 1 dX12_minute_18 rfl rfl rfl ?_
        obtain ⟨y11, hy11, hy⟩ := zt_b hy
        refine zj_V1 (pc' := 22) (z := YX12_goesTo) (As := [.int x2]) (N := (zui M 194 r0_21v1)) dX12_minute_19 rfl mlX12_295 lkX12_goesTo sh186 ⟨_, _, rfl⟩ rfl rfl (Nat.le_of_ble_eq_true rfl) (Nat.le_of_ble_eq_true rfl) (LX12_goesTo_186 Γ _ r0_6 r0_20 (zr_n rfl e_i188) (zr_n rfl e_i193) x2 hy11) rfl ?_
        obtain ⟨r0_21v12, hr0_21v12, hy⟩ := zt_b hy
        refine zj_wri (pc' := 23) (N := (zui M 194 r0_21v12)) dX12_minute_22 rfl sh194 zr_s hr0_21v12 zm_s ?_
        obtain ⟨x13, ex13⟩ : ∃ z : Int32, z = (x2 + 1) := ⟨_, rfl⟩
        have hy := zlet_at ex13 hy
        refine zj_iinc (pc' := 26) 1 (L' := [(1, .int x13), (0, .ref (zad Γ 186))]) dX12_minute_23 rfl rfl (by decide) (by rw [ci1, ← ex13]; rfl) ?_
        refine zj_goto (tgt := 2) dX12_minute_26 (by decide) ?_
        have hn9 := h8 _ (Option.some.inj hy).symm
        refine zj_loc [1, 0] rfl ?_
        exact ih7 _ _ hn9
  exact HL4 n9 _ _ hn9
set_option maxRecDepth 20000 in
theorem LX12_minute_186 (Γ : zG) (M : zM) (r0_6 : Nat → Int32) (r0_20 : Nat → Int32) (r0_21 : Nat → Int32) (e_i188 : M.1 188 = r0_6) (e_i193 : M.1 193 = r0_20) (e_i194 : M.1 194 = r0_21)  {res : (Nat → Int32) × (Nat → Int32)} (hy : (fM_minute r0_6 r0_20 r0_21) = some res) : zK Γ 5 YX12_minute [.ref (zad Γ 186)] M (fun v N => v = none ∧ N = (zui (zui M 188 res.1) 194 res.2)) :=
  zK_of (by decide) (Nat.le_of_ble_eq_true rfl) (TX12_minute_186 Γ M r0_6 r0_20 r0_21 e_i188 e_i193 e_i194 hy ⟨rfl, rfl⟩)

