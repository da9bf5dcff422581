noncomputable def fM_pathAt (r0 : Nat → Int32) (r0_29 : Nat → Int32) (a1 : Int32) : Option (Int32 × (Nat → Int32)) :=
  zlet (zup r0 0 0) (fun (r0v1 : Nat → Int32) =>
  (if (fM_isIn a1 0 ((r0v1 30) - 1)) = true then
  (zrd r0_29 8 a1).bind (fun (v3 : Int32) =>
  some (v3, r0v1))
  else
  some ((-1), r0v1)))

set_option maxRecDepth 20000 in
theorem TX12_pathAt_186 (Γ : zG) {Q : Option Value → zM → Prop} (M : zM) (r0 : Nat → Int32) (r0_29 : Nat → Int32) (e_i186 : M.1 186 = r0) (e_i197 : M.1 197 = r0_29) (a1 : Int32) {res : Int32 × (Nat → Int32)} (hy : (fM_pathAt r0 r0_29 a1) = some res) (hq : Q (some (.int res.1)) (zui M 186 res.2)) : zR Γ 2 YX12_pathAt 0 [(0, .ref (zad Γ 186)), (1, .int a1)] [] M Q := by
  unfold fM_pathAt at hy
  refine zj_aload_n (pc' := 1) 0 dX12_pathAt_0 rfl rfl rfl ?_
  refine zj_iconst (pc' := 2) dX12_pathAt_1 rfl kiconst_0 ?_
  obtain ⟨r0v1, er0v1⟩ : ∃ z, z = (zup r0 0 0) := ⟨_, rfl⟩
  have hy := zlet_at er0v1 hy
  refine zj_pI (pc' := 5) (N := (zui M 186 r0v1)) dX12_pathAt_2 rfl fpX12_1 sh186 rfl e_i186 er0v1 rfl ?_
  refine zj_iload_n (pc' := 6) 1 dX12_pathAt_5 rfl rfl rfl ?_
  refine zj_iconst (pc' := 7) dX12_pathAt_6 rfl kiconst_0 ?_
  refine zj_aload_n (pc' := 8) 0 dX12_pathAt_7 rfl rfl rfl ?_
  refine zj_fI (pc' := 11) dX12_pathAt_8 rfl flX12_65 sh186 rfl zr_s rfl ?_
  refine zj_iconst (pc' := 12) dX12_pathAt_11 rfl kiconst_1 ?_
  refine zj_isub (pc' := 13) dX12_pathAt_12 rfl ?_
  refine zj_S1 (pc' := 16) (z := YX12_isIn) (As := [.int a1, .int 0, .int ((r0v1 30) - 1)]) (N := (zui M 186 r0v1)) dX12_pathAt_13 rfl mlX12_188 lkX12_isIn rfl rfl (Nat.le_of_ble_eq_true rfl) (Nat.le_of_ble_eq_true rfl) (LX12_isIn Γ _ a1 0 ((r0v1 30) - 1) rfl) rfl ?_
  refine zj_bif_eq (tgt := 28) (pc' := 19) dX12_pathAt_16 rfl (by decide) (fun c2 => ?_) (fun c2 => ?_)
  · have hy := zt_f hy c2
    refine zj_iconst (pc' := 29) dX12_pathAt_28 rfl kiconst_m1 ?_
    have e9 := Option.some.inj hy
    subst e9
    exact zj_iret dX12_pathAt_29 rfl hq
  · have hy := zt_t hy c2
    refine zj_aload_n (pc' := 20) 0 dX12_pathAt_19 rfl rfl rfl ?_
    refine zj_getR (pc' := 23) (j := 197) dX12_pathAt_20 rfl flX12_62 sh186 rfl ?_
    refine zj_iload_n (pc' := 24) 1 dX12_pathAt_23 rfl rfl rfl ?_
    obtain ⟨v3, hv3, hy⟩ := zt_b hy
    refine zj_rdi (pc' := 25) dX12_pathAt_24 rfl sh197 (zr_n rfl e_i197) hv3 ?_
    refine zj_goto (tgt := 29) dX12_pathAt_25 (by decide) ?_
    have e9 := Option.some.inj hy
    subst e9
    exact zj_iret dX12_pathAt_29 rfl hq
set_option maxRecDepth 20000 in
theorem LX12_pathAt_186 (Γ : zG) (M : zM) (r0 : Nat → Int32) (r0_29 : Nat → Int32) (e_i186 : M.1 186 = r0) (e_i197 : M.1 197 = r0_29) (a1 : Int32) {res : Int32 × (Nat → Int32)} (hy : (fM_pathAt r0 r0_29 a1) = some res) : zK Γ 2 YX12_pathAt [.ref (zad Γ 186), .int a1] M (fun v N => v = some (.int res.1) ∧ N = (zui M 186 res.2)) :=
  zK_of (by decide) (Nat.le_of_ble_eq_true rfl) (TX12_pathAt_186 Γ M r0 r0_29 e_i186 e_i197 a1 hy ⟨rfl, rfl⟩)


set_option maxRecDepth 20000 in
theorem TX7_besideAny_5 (Γ : zG) {Q : Option Value → zM → Prop} (M : zM) (r0_2 : Nat → Int32) (e_i8 : M.1 8 = r0_2) (a1 : Int32) {res : Int32} (hy : (fPl_besideAny r0_2 a1) = some res) (hq : Q (some (.int res)) M) : zR Γ 2 YX7_besideAny 0 [(0, .ref (zad Γ 5)), (1, .int a1)] [] M Q := by
  unfold fPl_besideAny at hy
  refine zj_iconst (pc' := 1) dX7_besideAny_0 rfl kiconst_0 ?_
  refine zj_istore_n (pc' := 2) (L' := [(2, .int 0), (0, .ref (zad Γ 5)), (1, .int a1)]) dX7_besideAny_1 rfl rfl (by decide) rfl ?_
  refine zj_iconst (pc' := 3) dX7_besideAny_2 rfl kiconst_0 ?_
  refine zj_istore_n (pc' := 4) (L' := [(3, .int 0), (2, .int 0), (0, .ref (zad Γ 5)), (1, .int a1)]) dX7_besideAny_3 rfl rfl (by decide) rfl ?_
  refine zj_loc [2, 3, 1, 0] rfl ?_
  obtain ⟨r5, hr9, hyo6⟩ := zt_b hy
  obtain ⟨n9, hn9⟩ := zLP_some hr9
  have HE3 : ∀ (x16 : Int32), r5 = x16 → zR Γ 2 YX7_besideAny 33 [(2, .int x16)] [] M Q := by
    intro x16 e9
    have hy := hyo6
    try rw [e9] at hy
    try dsimp only at hy
    refine zj_iload_n (pc' := 34) 0 dX7_besideAny_33 rfl rfl rfl ?_
    have e9 := Option.some.inj hy
    subst e9
    exact zj_iret dX7_besideAny_34 rfl hq
  have HL4 : ∀ (n : Nat) (x1 : Int32) (x2 : Int32), zlp (fun s => fPl_besideAny_L4 r0_2 a1 s.1 s.2) n (x1, x2) = some r5 → zR Γ 2 YX7_besideAny 4 [(0, .ref (zad Γ 5)), (1, .int a1), (2, .int x1), (3, .int x2)] [] M Q := by
    intro n
    induction n with
    | zero => intro x1 x2 hn9; cases hn9
    | succ n ih7 =>
      intro x1 x2 hn9
      obtain ⟨o9, hb9, h8, h9⟩ := zlp_step hn9
      have hy : fPl_besideAny_L4 r0_2 a1 x1 x2 = some o9 := hb9
      unfold fPl_besideAny_L4 at hy
      refine zj_iload_n (pc' := 5) 3 dX7_besideAny_4 rfl rfl rfl ?_
      refine zj_bipush (pc' := 7) dX7_besideAny_5 rfl kbipush_8 ?_
      refine zj_icmp_ge (tgt := 33) (pc' := 10) dX7_besideAny_7 rfl (by decide) (fun c10 => ?_) (fun c10 => ?_)
      · have hy := zt_t hy c10
        have e9 := h9 _ (Option.some.inj hy).symm
        refine zj_loc [2] rfl ?_
        exact HE3 _ e9.symm
      · have hy := zt_f hy c10
        refine zj_iload_n (pc' := 11) 1 dX7_besideAny_10 rfl rfl rfl ?_
        refine zj_iload_n (pc' := 12) 3 dX7_besideAny_11 rfl rfl rfl ?_
        refine zj_N1 (pc' := 15) (z := YX11_hasBit) (As := [.int a1, .int x2]) (N := M) dX7_besideAny_12 rfl nlX7_46 lkX11_hasBit rfl rfl (Nat.le_of_ble_eq_true rfl) (Nat.le_of_ble_eq_true rfl) (LX11_hasBit Γ _ a1 x2 rfl) rfl ?_
        refine zj_bif_eq (tgt := 27) (pc' := 18) dX7_besideAny_15 rfl (by decide) (fun c11 => ?_) (fun c11 => ?_)
        · have hy := zt_f hy c11
          obtain ⟨x15, ex15⟩ : ∃ z : Int32, z = (x2 + 1) := ⟨_, rfl⟩
          have hy := zlet_at ex15 hy
          refine zj_iinc (pc' := 30) 3 (L' := [(3, .int x15), (0, .ref (zad Γ 5)), (1, .int a1), (2, .int x1)]) dX7_besideAny_27 rfl rfl (by decide) (by rw [ci1, ← ex15]; rfl) ?_
          refine zj_goto (tgt := 4) dX7_besideAny_30 (by decide) ?_
          have hn9 := h8 _ (Option.some.inj hy).symm
          refine zj_loc [1, 2, 3, 0] rfl ?_
          exact ih7 _ _ hn9
        · have hy := zt_t hy c11
          refine zj_iload_n (pc' := 19) 2 dX7_besideAny_18 rfl rfl rfl ?_
          refine zj_aload_n (pc' := 20) 0 dX7_besideAny_19 rfl rfl rfl ?_
          refine zj_getR (pc' := 23) (j := 8) dX7_besideAny_20 rfl flX7_18 sh5 rfl ?_
          refine zj_iload_n (pc' := 24) 3 dX7_besideAny_23 rfl rfl rfl ?_
          obtain ⟨v12, hv12, hy⟩ := zt_b hy
          refine zj_rdi (pc' := 25) dX7_besideAny_24 rfl sh8 e_i8 hv12 ?_
          refine zj_ior (pc' := 26) dX7_besideAny_25 rfl ?_
          refine zj_topi (fun x13 ex13 => ?_)
          have hy := zlet_at ex13 hy
          refine zj_istore_n (pc' := 27) (L' := [(2, .int x13), (0, .ref (zad Γ 5)), (1, .int a1), (3, .int x2)]) dX7_besideAny_26 rfl rfl (by decide) rfl ?_
          obtain ⟨x14, ex14⟩ : ∃ z : Int32, z = (x2 + 1) := ⟨_, rfl⟩
          have hy := zlet_at ex14 hy
          refine zj_iinc (pc' := 30) 3 (L' := [(3, .int x14), (2, .int x13), (0, .ref (zad Γ 5)), (1, .int a1)]) dX7_besideAny_27 rfl rfl (by decide) (by rw [ci1, ← ex14]; rfl) ?_
          refine zj_goto (tgt := 4) dX7_besideAny_30 (by decide) ?_
          have hn9 := h8 _ (Option.some.inj hy).symm
          refine zj_loc [2, 3, 1, 0] rfl ?_
          exact ih7 _ _ hn9
  exact HL4 n9 _ _ hn9
set_option maxRecDepth 20000 in
theorem LX7_besideAny_5 (Γ : zG) (M : zM) (r0_2 : Nat → Int32) (e_i8 : M.1 8 = r0_2) (a1 : Int32) {res : Int32} (hy : (fPl_besideAny r0_2 a1) = some res) : zK Γ 2 YX7_besideAny [.ref (zad Γ 5), .int a1] M (fun v N => v = some (.int res) ∧ N = M) :=
  zK_of (by decide) (Nat.le_of_ble_eq_true rfl) (TX7_besideAny_5 Γ M r0_2 e_i8 a1 hy ⟨rfl, rfl⟩)

noncomputable def fPl_reached_L7 (r0_2 : Nat → Int32) (a2 : Int32) (x2 : Int32) (x3 : Int32) : Option ((Int32 × Int32) ⊕ (Int32)) :=
  (if 8 ≤ x3 then
  some (.inr x2)
  else
  (fPl_besideAny r0_2 x2).bind (fun (y12 : Int32) =>
  zlet (x2 ||| (y12 &&& (a2 ^^^ (-1)))) (fun (x13 : Int32) =>
  zlet (x3 + 1) (fun (x14 : Int32) =>
  some (.inl (x13, x14))))))
noncomputable def fPl_reached (r0_2 : Nat → Int32) (a1 : Int32) (a2 : Int32) : Option (Int32) :=
  zlet ((1 : Int32) <<< (a1 &&& 31)) (fun (x1 : Int32) =>
  (zLP (fun s => fPl_reached_L7 r0_2 a2 s.1 s.2) (x1, 0)).bind (fun r6 =>
  some r6))

set_option maxRecDepth 20000 in
theorem TX7_reached_5 (Γ : zG) {Q : Option Value → zM → Prop} (M : zM) (r0_2 : Nat → Int32) (e_i8 : M.1 8 = r0_2) (a1 : Int32) (a2 : Int32) {res : Int32} (hy : (fPl_reached r0_2 a1 a2) = some res) (hq : Q (some (.int res)) M) : zR Γ 3 YX7_reached 0 [(0, .ref (zad Γ 5)), (1, .int a1), (2, .int a2)] [] M Q := by
  unfold fPl_reached at hy
  refine zj_iconst (pc' := 1) dX7_reached_0 rfl kiconst_1 ?_
  refine zj_iload_n (pc' := 2) 1 dX7_reached_1 rfl rfl rfl ?_
  refine zj_ishl (pc' := 3) dX7_reached_2 rfl ?_
  refine zj_topi (fun x1 ex1 => ?_)
  have hy := zlet_at ex1 hy
  refine zj_istore_n (pc' := 4) (L' := [(3, .int x1), (0, .ref (zad Γ 5)), (1, .int a1), (2, .int a2)]) dX7_reached_3 rfl rfl (by decide) rfl ?_
  refine zj_iconst (pc' := 5) dX7_reached_4 rfl kiconst_0 ?_
  refine zj_istore (pc' := 7) (L' := [(4, .int 0), (3, .int x1), (0, .ref (zad Γ 5)), (1, .int a1), (2, .int a2)]) dX7_reached_5 rfl (by decide) rfl ?_
  refine zj_loc [2, 4, 1, 0] rfl ?_
  obtain ⟨r6, hr9, hyo7⟩ := zt_b hy
  obtain ⟨n9, hn9⟩ := zLP_some hr9
  have HE4 : ∀ (x15 : Int32), r6 = x15 → zR Γ 3 YX7_reached 32 [(3, .int x15)] [] M Q := by
    intro x15 e9
    have hy := hyo7
    try rw [e9] at hy
    try dsimp only at hy
    refine zj_iload_n (pc' := 33) 0 dX7_reached_32 rfl rfl rfl ?_
    have e9 := Option.some.inj hy
    subst e9
    exact zj_iret dX7_reached_33 rfl hq
  have HL5 : ∀ (n : Nat) (x2 : Int32) (x3 : Int32), zlp (fun s => fPl_reached_L7 r0_2 a2 s.1 s.2) n (x2, x3) = some r6 → zR Γ 3 YX7_reached 7 [(0, .ref (zad Γ 5)), (2, .int a2), (3, .int x2), (4, .int x3)] [] M Q := by
    intro n
    induction n with
    | zero => intro x2 x3 hn9; cases hn9
    | succ n ih8 =>
      intro x2 x3 hn9
      obtain ⟨o9, hb9, h9, h10⟩ := zlp_step hn9
      have hy : fPl_reached_L7 r0_2 a2 x2 x3 = some o9 := hb9
      unfold fPl_reached_L7 at hy
      refine zj_iload (pc' := 9) 3 dX7_reached_7 rfl rfl ?_
      refine zj_bipush (pc' := 11) dX7_reached_9 rfl kbipush_8 ?_
      refine zj_icmp_ge (tgt := 32) (pc' := 14) dX7_reached_11 rfl (by decide) (fun c11 => ?_) (fun c11 => ?_)
      · have hy := zt_t hy c11
        have e9 := h10 _ (Option.some.inj hy).symm
        refine zj_loc [2] rfl ?_
        exact HE4 _ e9.symm
      · have hy := zt_f hy c11
        refine zj_iload_n (pc' := 15) 2 dX7_reached_14 rfl rfl rfl ?_
        refine zj_aload_n (pc' := 16) 0 dX7_reached_15 rfl rfl rfl ?_
        refine zj_iload_n (pc' := 17) 2 dX7_reached_16 rfl rfl rfl ?_
        obtain ⟨y12, hy12, hy⟩ := zt_b hy
        refine zj_V1 (pc' := 20) (z := YX7_besideAny) (As := [.int x2]) (N := M) dX7_reached_17 rfl mlX7_62 lkX7_besideAny sh5 ⟨_, _, rfl⟩ rfl rfl (Nat.le_of_ble_eq_true rfl) (Nat.le_of_ble_eq_true rfl) (LX7_besideAny_5 Γ _ r0_2 e_i8 x2 hy12) rfl ?_
        refine zj_iload_n (pc' := 21) 1 dX7_reached_20 rfl rfl rfl ?_
        refine zj_iconst (pc' := 22) dX7_reached_21 rfl kiconst_m1 ?_
        refine zj_ixor (pc' := 23) dX7_reached_22 rfl ?_
        refine zj_iand (pc' := 24) dX7_reached_23 rfl ?_
        refine zj_ior (pc' := 25) dX7_reached_24 rfl ?_
        refine zj_topi (fun x13 ex13 => ?_)
        have hy := zlet_at ex13 hy
        refine zj_istore_n (pc' := 26) (L' := [(3, .int x13), (0, .ref (zad Γ 5)), (2, .int a2), (4, .int x3)]) dX7_reached_25 rfl rfl (by decide) rfl ?_
        obtain ⟨x14, ex14⟩ : ∃ z : Int32, z = (x3 + 1) := ⟨_, rfl⟩
        have hy := zlet_at ex14 hy
        refine zj_iinc (pc' := 29) 3 (L' := [(4, .int x14), (3, .int x13), (0, .ref (zad Γ 5)), (2, .int a2)]) dX7_reached_26 rfl rfl (by decide) (by rw [ci1, ← ex14]; rfl) ?_
        refine zj_goto (tgt := 7) dX7_reached_29 (by decide) ?_
        have hn9 := h9 _ (Option.some.inj hy).symm
        refine zj_loc [2, 3, 1, 0] rfl ?_
        exact ih8 _ _ hn9
  exact HL5 n9 _ _ hn9
set_option maxRecDepth 20000 in
theorem LX7_reached_5 (Γ : zG) (M : zM) (r0_2 : Nat → Int32) (e_i8 : M.1 8 = r0_2) (a1 : Int32) (a2 : Int32) {res : Int32} (hy : (fPl_reached r0_2 a1 a2) = some res) : zK Γ 3 YX7_reached [.ref (zad Γ 5), .int a1, .int a2] M (fun v N => v = some (.int res) ∧ N = M) :=
  zK_of (by decide) (Nat.le_of_ble_eq_true rfl) (TX7_reached_5 Γ M r0_2 e_i8 a1 a2 hy ⟨rfl, rfl⟩)

noncomputable def fPl_leastBar_L16 (r0 : Nat → Int32) (r0_2 : Nat → Int32) (a1 : Int32) (a2 : Int32) (x2 : Int32) (x3 : Int32) (x4 : Int32) : Option ((Int32 × Int32 × Int32) ⊕ (Int32)) :=
  (if ((1 : Int32) <<< ((r0 4) &&& 31)) ≤ x4 then
  some (.inr x2)
  else
  (if (if (fX_hasBit x4 a1) = true then false else (if (fX_hasBit x4 a2) = true then false else true)) = true then
  (if x3 ≤ (fJI_bitCount x4) then
  zlet (x4 + 1) (fun (x18 : Int32) =>
  some (.inl (x2, x3, x18)))
  else
  (fPl_reached r0_2 a1 x4).bind (fun (y19 : Int32) =>
  (if (fX_hasBit y19 a2) = true then
  zlet (x4 + 1) (fun (x21 : Int32) =>
  some (.inl (x2, x3, x21)))
  else
  zlet (fJI_bitCount x4) (fun (x22 : Int32) =>
  zlet (x4 + 1) (fun (x23 : Int32) =>
  some (.inl (x4, x22, x23)))))))
  else
  zlet (x4 + 1) (fun (x24 : Int32) =>
  some (.inl (x2, x3, x24)))))
noncomputable def fPl_leastBar (r0 : Nat → Int32) (r0_2 : Nat → Int32) (a1 : Int32) (a2 : Int32) : Option (Int32) :=
  zlet (((1 : Int32) <<< ((r0 4) &&& 31)) - 1) (fun (x1 : Int32) =>
  (zLP (fun s => fPl_leastBar_L16 r0 r0_2 a1 a2 s.1 s.2.1 s.2.2) (x1, 9, 0)).bind (fun r7 =>
  some r7))

set_option maxRecDepth 20000 in
theorem TX7_leastBar_5 (Γ : zG) {Q : Option Value → zM → Prop} (M : zM) (r0 : Nat → Int32) (r0_2 : Nat → Int32) (e_i5 : M.1 5 = r0) (e_i8 : M.1 8 = r0_2) (a1 : Int32) (a2 : Int32) {res : Int32} (hy : (fPl_leastBar r0 r0_2 a1 a2) = some res) (hq : Q (some (.int res)) M) : zR Γ 4 YX7_leastBar 0 [(0, .ref (zad Γ 5)), (1, .int a1), (2, .int a2)] [] M Q := by
  unfold fPl_leastBar at hy
  refine zj_iconst (pc' := 1) dX7_leastBar_0 rfl kiconst_1 ?_
  refine zj_aload_n (pc' := 2) 0 dX7_leastBar_1 rfl rfl rfl ?_
  refine zj_fI (pc' := 5) dX7_leastBar_2 rfl flX7_25 sh5 rfl e_i5 rfl ?_
  refine zj_ishl (pc' := 6) dX7_leastBar_5 rfl ?_
  refine zj_iconst (pc' := 7) dX7_leastBar_6 rfl kiconst_1 ?_
  refine zj_isub (pc' := 8) dX7_leastBar_7 rfl ?_
  refine zj_topi (fun x1 ex1 => ?_)
  have hy := zlet_at ex1 hy
  refine zj_istore_n (pc' := 9) (L' := [(3, .int x1), (0, .ref (zad Γ 5)), (1, .int a1), (2, .int a2)]) dX7_leastBar_8 rfl rfl (by decide) rfl ?_
  refine zj_bipush (pc' := 11) dX7_leastBar_9 rfl kbipush_9 ?_
  refine zj_istore (pc' := 13) (L' := [(4, .int 9), (3, .int x1), (0, .ref (zad Γ 5)), (1, .int a1), (2, .int a2)]) dX7_leastBar_11 rfl (by decide) rfl ?_
  refine zj_iconst (pc' := 14) dX7_leastBar_13 rfl kiconst_0 ?_
  refine zj_istore (pc' := 16) (L' := [(5, .int 0), (4, .int 9), (3, .int x1), (0, .ref (zad Γ 5)), (1, .int a1), (2, .int a2)]) dX7_leastBar_14 rfl (by decide) rfl ?_
  refine zj_loc [3, 4, 5, 2, 1, 0] rfl ?_
  obtain ⟨r7, hr9, hyo8⟩ := zt_b hy
  obtain ⟨n9, hn9⟩ := zLP_some hr9
  have HE5 : ∀ (x25 : Int32), r7 = x25 → zR Γ 4 YX7_leastBar 97 [(3, .int x25)] [] M Q := by
    intro x25 e9
    have hy := hyo8
    try rw [e9] at hy
    try dsimp only at hy
    refine zj_iload_n (pc' := 98) 0 dX7_leastBar_97 rfl rfl rfl ?_
    have e9 := Option.some.inj hy
    subst e9
    exact zj_iret dX7_leastBar_98 rfl hq
  have HL6 : ∀ (n : Nat) (x2 : Int32) (x3 : Int32) (x4 : Int32), zlp (fun s => fPl_leastBar_L16 r0 r0_2 a1 a2 s.1 s.2.1 s.2.2) n (x2, x3, x4) = some r7 → zR Γ 4 YX7_leastBar 16 [(0, .ref (zad Γ 5)), (1, .int a1), (2, .int a2), (3, .int x2), (4, .int x3), (5, .int x4)] [] M Q := by
    intro n
    induction n with
    | zero => intro x2 x3 x4 hn9; cases hn9
    | succ n ih9 =>
      intro x2 x3 x4 hn9
      obtain ⟨o9, hb9, h10, h11⟩ := zlp_step hn9
      have hy : fPl_leastBar_L16 r0 r0_2 a1 a2 x2 x3 x4 = some o9 := hb9
      unfold fPl_leastBar_L16 at hy
      refine zj_iload (pc' := 18) 5 dX7_leastBar_16 rfl rfl ?_
      refine zj_iconst (pc' := 19) dX7_leastBar_18 rfl kiconst_1 ?_
      refine zj_aload_n (pc' := 20) 0 dX7_leastBar_19 rfl rfl rfl ?_
      refine zj_fI (pc' := 23) dX7_leastBar_20 rfl flX7_25 sh5 rfl e_i5 rfl ?_
      refine zj_ishl (pc' := 24) dX7_leastBar_23 rfl ?_
      refine zj_icmp_ge (tgt := 97) (pc' := 27) dX7_leastBar_24 rfl (by decide) (fun c12 => ?_) (fun c12 => ?_)
      · have hy := zt_t hy c12
        have e9 := h11 _ (Option.some.inj hy).symm
        refine zj_loc [3] rfl ?_
        exact HE5 _ e9.symm
      · have hy := zt_f hy c12
        refine zj_iload (pc' := 29) 5 dX7_leastBar_27 rfl rfl ?_
        refine zj_iload_n (pc' := 30) 1 dX7_leastBar_29 rfl rfl rfl ?_
        refine zj_N1 (pc' := 33) (z := YX11_hasBit) (As := [.int x4, .int a1]) (N := M) dX7_leastBar_30 rfl nlX7_46 lkX11_hasBit rfl rfl (Nat.le_of_ble_eq_true rfl) (Nat.le_of_ble_eq_true rfl) (LX11_hasBit Γ _ x4 a1 rfl) rfl ?_
        have HJ13 : zR Γ 4 YX7_leastBar 50 [(0, .ref (zad Γ 5)), (1, .int a1), (2, .int a2), (3, .int x2), (4, .int x3), (5, .int x4)] [.int (zb (if (fX_hasBit x4 a1) = true then false else (if (fX_hasBit x4 a2) = true then false else true)))] M Q := by
          refine zj_istore (pc' := 52) (L' := [(6, .int (zb (if (fX_hasBit x4 a1) = true then false else (if (fX_hasBit x4 a2) = true then false else true)))), (0, .ref (zad Γ 5)), (1, .int a1), (2, .int a2), (3, .int x2), (4, .int x3), (5, .int x4)]) dX7_leastBar_50 rfl (by decide) rfl ?_
          refine zj_iload (pc' := 54) 0 dX7_leastBar_52 rfl rfl ?_
          refine zj_bif_eq (tgt := 91) (pc' := 57) dX7_leastBar_54 rfl (by decide) (fun c16 => ?_) (fun c16 => ?_)
          · have hy := zt_f hy c16
            obtain ⟨x24, ex24⟩ : ∃ z : Int32, z = (x4 + 1) := ⟨_, rfl⟩
            have hy := zlet_at ex24 hy
            refine zj_iinc (pc' := 94) 6 (L' := [(5, .int x24), (6, .int (zb (if (fX_hasBit x4 a1) = true then false else (if (fX_hasBit x4 a2) = true then false else true)))), (0, .ref (zad Γ 5)), (1, .int a1), (2, .int a2), (3, .int x2), (4, .int x3)]) dX7_leastBar_91 rfl rfl (by decide) (by rw [ci1, ← ex24]; rfl) ?_
            refine zj_goto (tgt := 16) dX7_leastBar_94 (by decide) ?_
            have hn9 := h10 _ (Option.some.inj hy).symm
            refine zj_loc [2, 3, 4, 5, 6, 0] rfl ?_
            exact ih9 _ _ _ hn9
          · have hy := zt_t hy c16
            refine zj_iload (pc' := 59) 6 dX7_leastBar_57 rfl rfl ?_
            refine zj_S1 (pc' := 62) (z := YJ6_bitCount_0f7a4) (As := [.int x4]) (N := M) dX7_leastBar_59 rfl mlX7_54 lkJ6_bitCount_0f7a4 rfl rfl (Nat.le_of_ble_eq_true rfl) (Nat.le_of_ble_eq_true rfl) (LJ6_bitCount_0f7a4 Γ _ x4 rfl) rfl ?_
            refine zj_iload (pc' := 64) 5 dX7_leastBar_62 rfl rfl ?_
            refine zj_icmp_ge (tgt := 91) (pc' := 67) dX7_leastBar_64 rfl (by decide) (fun c17 => ?_) (fun c17 => ?_)
            · have hy := zt_t hy c17
              obtain ⟨x18, ex18⟩ : ∃ z : Int32, z = (x4 + 1) := ⟨_, rfl⟩
              have hy := zlet_at ex18 hy
              refine zj_iinc (pc' := 94) 6 (L' := [(5, .int x18), (6, .int (zb (if (fX_hasBit x4 a1) = true then false else (if (fX_hasBit x4 a2) = true then false else true)))), (0, .ref (zad Γ 5)), (1, .int a1), (2, .int a2), (3, .int x2), (4, .int x3)]) dX7_leastBar_91 rfl rfl (by decide) (by rw [ci1, ← ex18]; rfl) ?_
              refine zj_goto (tgt := 16) dX7_leastBar_94 (by decide) ?_
              have hn9 := h10 _ (Option.some.inj hy).symm
              refine zj_loc [2, 3, 4, 5, 6, 0] rfl ?_
              exact ih9 _ _ _ hn9
            · have hy := zt_f hy c17
              refine zj_aload_n (pc' := 68) 1 dX7_leastBar_67 rfl rfl rfl ?_
              refine zj_iload_n (pc' := 69) 2 dX7_leastBar_68 rfl rfl rfl ?_
              refine zj_iload (pc' := 71) 6 dX7_leastBar_69 rfl rfl ?_
              obtain ⟨y19, hy19, hy⟩ := zt_b hy
              refine zj_V1 (pc' := 74) (z := YX7_reached) (As := [.int a1, .int x4]) (N := M) dX7_leastBar_71 rfl mlX7_59 lkX7_reached sh5 ⟨_, _, rfl⟩ rfl rfl (Nat.le_of_ble_eq_true rfl) (Nat.le_of_ble_eq_true rfl) (LX7_reached_5 Γ _ r0_2 e_i8 a1 x4 hy19) rfl ?_
              refine zj_iload_n (pc' := 75) 3 dX7_leastBar_74 rfl rfl rfl ?_
              refine zj_N1 (pc' := 78) (z := YX11_hasBit) (As := [.int y19, .int a2]) (N := M) dX7_leastBar_75 rfl nlX7_46 lkX11_hasBit rfl rfl (Nat.le_of_ble_eq_true rfl) (Nat.le_of_ble_eq_true rfl) (LX11_hasBit Γ _ y19 a2 rfl) rfl ?_
              refine zj_bif_ne (tgt := 91) (pc' := 81) dX7_leastBar_78 rfl (by decide) (fun c20 => ?_) (fun c20 => ?_)
              · have hy := zt_t hy c20
                obtain ⟨x21, ex21⟩ : ∃ z : Int32, z = (x4 + 1) := ⟨_, rfl⟩
                have hy := zlet_at ex21 hy
                refine zj_iinc (pc' := 94) 6 (L' := [(5, .int x21), (6, .int (zb (if (fX_hasBit x4 a1) = true then false else (if (fX_hasBit x4 a2) = true then false else true)))), (0, .ref (zad Γ 5)), (1, .int a1), (2, .int a2), (3, .int x2), (4, .int x3)]) dX7_leastBar_91 rfl rfl (by decide) (by rw [ci1, ← ex21]; rfl) ?_
                refine zj_goto (tgt := 16) dX7_leastBar_94 (by decide) ?_
                have hn9 := h10 _ (Option.some.inj hy).symm
                refine zj_loc [2, 3, 4, 5, 6, 0] rfl ?_
                exact ih9 _ _ _ hn9
              · have hy := zt_f hy c20
                refine zj_iload (pc' := 83) 6 dX7_leastBar_81 rfl rfl ?_
                refine zj_istore_n (pc' := 84) (L' := [(3, .int x4), (6, .int (zb (if (fX_hasBit x4 a1) = true then false else (if (fX_hasBit x4 a2) = true then false else true)))), (0, .ref (zad Γ 5)), (1, .int a1), (2, .int a2), (4, .int x3), (5, .int x4)]) dX7_leastBar_83 rfl rfl (by decide) rfl ?_
                refine zj_iload (pc' := 86) 6 dX7_leastBar_84 rfl rfl ?_
                refine zj_S1 (pc' := 89) (z := YJ6_bitCount_0f7a4) (As := [.int x4]) (N := M) dX7_leastBar_86 rfl mlX7_54 lkJ6_bitCount_0f7a4 rfl rfl (Nat.le_of_ble_eq_true rfl) (Nat.le_of_ble_eq_true rfl) (LJ6_bitCount_0f7a4 Γ _ x4 rfl) rfl ?_
                refine zj_topi (fun x22 ex22 => ?_)
                have hy := zlet_at ex22 hy
                refine zj_istore (pc' := 91) (L' := [(4, .int x22), (3, .int x4), (6, .int (zb (if (fX_hasBit x4 a1) = true then false else (if (fX_hasBit x4 a2) = true then false else true)))), (0, .ref (zad Γ 5)), (1, .int a1), (2, .int a2), (5, .int x4)]) dX7_leastBar_89 rfl (by decide) rfl ?_
                obtain ⟨x23, ex23⟩ : ∃ z : Int32, z = (x4 + 1) := ⟨_, rfl⟩
                have hy := zlet_at ex23 hy
                refine zj_iinc (pc' := 94) 6 (L' := [(5, .int x23), (4, .int x22), (3, .int x4), (6, .int (zb (if (fX_hasBit x4 a1) = true then false else (if (fX_hasBit x4 a2) = true then false else true)))), (0, .ref (zad Γ 5)), (1, .int a1), (2, .int a2)]) dX7_leastBar_91 rfl rfl (by decide) (by rw [ci1, ← ex23]; rfl) ?_
                refine zj_goto (tgt := 16) dX7_leastBar_94 (by decide) ?_
                have hn9 := h10 _ (Option.some.inj hy).symm
                refine zj_loc [4, 5, 6, 2, 1, 0] rfl ?_
                exact ih9 _ _ _ hn9
        refine zj_bif_ne (tgt := 49) (pc' := 36) dX7_leastBar_33 rfl (by decide) (fun c14 => ?_) (fun c14 => ?_)
        · refine zj_iconst (pc' := 50) dX7_leastBar_49 rfl kiconst_0 ?_
          exact zj_eqb (b := false) (if_pos c14) HJ13
        · refine zj_iload (pc' := 38) 5 dX7_leastBar_36 rfl rfl ?_
          refine zj_iload_n (pc' := 39) 2 dX7_leastBar_38 rfl rfl rfl ?_
          refine zj_N1 (pc' := 42) (z := YX11_hasBit) (As := [.int x4, .int a2]) (N := M) dX7_leastBar_39 rfl nlX7_46 lkX11_hasBit rfl rfl (Nat.le_of_ble_eq_true rfl) (Nat.le_of_ble_eq_true rfl) (LX11_hasBit Γ _ x4 a2 rfl) rfl ?_
          refine zj_bif_ne (tgt := 49) (pc' := 45) dX7_leastBar_42 rfl (by decide) (fun c15 => ?_) (fun c15 => ?_)
          · refine zj_iconst (pc' := 50) dX7_leastBar_49 rfl kiconst_0 ?_
            exact zj_eqb (b := false) ((if_neg c14).trans (if_pos c15)) HJ13
          · refine zj_iconst (pc' := 46) dX7_leastBar_45 rfl kiconst_1 ?_
            refine zj_goto (tgt := 50) dX7_leastBar_46 (by decide) ?_
            exact zj_eqb (b := true) ((if_neg c14).trans (if_neg c15)) HJ13
  exact HL6 n9 _ _ _ hn9
set_option maxRecDepth 20000 in
theorem LX7_leastBar_5 (Γ : zG) (M : zM) (r0 : Nat → Int32) (r0_2 : Nat → Int32) (e_i5 : M.1 5 = r0) (e_i8 : M.1 8 = r0_2) (a1 : Int32) (a2 : Int32) {res : Int32} (hy : (fPl_leastBar r0 r0_2 a1 a2) = some res) : zK Γ 4 YX7_leastBar [.ref (zad Γ 5), .int a1, .int a2] M (fun v N => v = some (.int res) ∧ N = M) :=
  zK_of (by decide) (Nat.le_of_ble_eq_true rfl) (TX7_leastBar_5 Γ M r0 r0_2 e_i5 e_i8 a1 a2 hy ⟨rfl, rfl⟩)

noncomputable def fX_bar (r0 : Nat → Int32) (r0_2 : Nat → Int32) (r0_2_2 : Nat → Int32) (a1 : Int32) (a2 : Int32) : Option (Int32 × (Nat → Int32)) :=
  (if (fPl_hasCorner r0_2 a1) = true then
  (if (fPl_hasCorner r0_2 a2) = true then
  (if a1 = a2 then
  some ((-1), r0)
  else
  (fPl_areBeside r0_2 r0_2_2 a1 a2).bind (fun (y4 : Bool) =>
  (if y4 = true then
  some ((-1), r0)
  else
  (fPl_leastBar r0_2 r0_2_2 a1 a2).bind (fun (y6 : Int32) =>
  zlet (zup r0 18 y6) (fun (r0v7 : Nat → Int32) =>
  some ((fJI_bitCount (r0v7 18)), r0v7))))))
  else
  some ((-1), r0))
  else
  some ((-1), r0))

set_option maxRecDepth 20000 in
theorem TX11_bar_0 (Γ : zG) {Q : Option Value → zM → Prop} (M : zM) (r0 : Nat → Int32) (r0_2 : Nat → Int32) (r0_2_2 : Nat → Int32) (e_i0 : M.1 0 = r0) (e_i5 : M.1 5 = r0_2) (e_i8 : M.1 8 = r0_2_2) (a1 : Int32) (a2 : Int32) {res : Int32 × (Nat → Int32)} (hy : (fX_bar r0 r0_2 r0_2_2 a1 a2) = some res) (hq : Q (some (.int res.1)) (zui M 0 res.2)) : zR Γ 5 YX11_bar 0 [(0, .ref (zad Γ 0)), (1, .int a1), (2, .int a2)] [] M Q := by
  unfold fX_bar at hy
  refine zj_aload_n (pc' := 1) 0 dX11_bar_0 rfl rfl rfl ?_
  refine zj_getR (pc' := 4) (j := 5) dX11_bar_1 rfl flX11_28 sh0 rfl ?_
  refine zj_iload_n (pc' := 5) 1 dX11_bar_4 rfl rfl rfl ?_
  refine zj_V1 (pc' := 8) (z := YX7_hasCorner) (As := [.int a1]) (N := M) dX11_bar_5 rfl mlX11_192 lkX7_hasCorner sh5 ⟨_, _, rfl⟩ rfl rfl (Nat.le_of_ble_eq_true rfl) (Nat.le_of_ble_eq_true rfl) (LX7_hasCorner_5 Γ _ r0_2 e_i5 a1 rfl) rfl ?_
  refine zj_bif_eq (tgt := 39) (pc' := 11) dX11_bar_8 rfl (by decide) (fun c1 => ?_) (fun c1 => ?_)
  · have hy := zt_f hy c1
    refine zj_iconst (pc' := 40) dX11_bar_39 rfl kiconst_m1 ?_
    have e9 := Option.some.inj hy
    subst e9
    refine zj_mem (N := (zui M 0 r0)) (zself_i e_i0 rfl) ?_
    exact zj_iret dX11_bar_40 rfl hq
  · have hy := zt_t hy c1
    refine zj_aload_n (pc' := 12) 0 dX11_bar_11 rfl rfl rfl ?_
    refine zj_getR (pc' := 15) (j := 5) dX11_bar_12 rfl flX11_28 sh0 rfl ?_
    refine zj_iload_n (pc' := 16) 2 dX11_bar_15 rfl rfl rfl ?_
    refine zj_V1 (pc' := 19) (z := YX7_hasCorner) (As := [.int a2]) (N := M) dX11_bar_16 rfl mlX11_192 lkX7_hasCorner sh5 ⟨_, _, rfl⟩ rfl rfl (Nat.le_of_ble_eq_true rfl) (Nat.le_of_ble_eq_true rfl) (LX7_hasCorner_5 Γ _ r0_2 e_i5 a2 rfl) rfl ?_
    refine zj_bif_eq (tgt := 39) (pc' := 22) dX11_bar_19 rfl (by decide) (fun c2 => ?_) (fun c2 => ?_)
    · have hy := zt_f hy c2
      refine zj_iconst (pc' := 40) dX11_bar_39 rfl kiconst_m1 ?_
      have e9 := Option.some.inj hy
      subst e9
      refine zj_mem (N := (zui M 0 r0)) (zself_i e_i0 rfl) ?_
      exact zj_iret dX11_bar_40 rfl hq
    · have hy := zt_t hy c2
      refine zj_iload_n (pc' := 23) 1 dX11_bar_22 rfl rfl rfl ?_
      refine zj_iload_n (pc' := 24) 2 dX11_bar_23 rfl rfl rfl ?_
      refine zj_icmp_eq (tgt := 39) (pc' := 27) dX11_bar_24 rfl (by decide) (fun c3 => ?_) (fun c3 => ?_)
      · have hy := zt_t hy c3
        refine zj_iconst (pc' := 40) dX11_bar_39 rfl kiconst_m1 ?_
        have e9 := Option.some.inj hy
        subst e9
        refine zj_mem (N := (zui M 0 r0)) (zself_i e_i0 rfl) ?_
        exact zj_iret dX11_bar_40 rfl hq
      · have hy := zt_f hy c3
        refine zj_aload_n (pc' := 28) 0 dX11_bar_27 rfl rfl rfl ?_
        refine zj_getR (pc' := 31) (j := 5) dX11_bar_28 rfl flX11_28 sh0 rfl ?_
        refine zj_iload_n (pc' := 32) 1 dX11_bar_31 rfl rfl rfl ?_
        refine zj_iload_n (pc' := 33) 2 dX11_bar_32 rfl rfl rfl ?_
        obtain ⟨y4, hy4, hy⟩ := zt_b hy
        refine zj_V1 (pc' := 36) (z := YX7_areBeside) (As := [.int a1, .int a2]) (N := M) dX11_bar_33 rfl mlX11_288 lkX7_areBeside sh5 ⟨_, _, rfl⟩ rfl rfl (Nat.le_of_ble_eq_true rfl) (Nat.le_of_ble_eq_true rfl) (LX7_areBeside_5 Γ _ r0_2 r0_2_2 e_i5 e_i8 a1 a2 hy4) rfl ?_
        refine zj_bif_eq (tgt := 41) (pc' := 39) dX11_bar_36 rfl (by decide) (fun c5 => ?_) (fun c5 => ?_)
        · have hy := zt_f hy c5
          refine zj_aload_n (pc' := 42) 0 dX11_bar_41 rfl rfl rfl ?_
          refine zj_aload_n (pc' := 43) 0 dX11_bar_42 rfl rfl rfl ?_
          refine zj_getR (pc' := 46) (j := 5) dX11_bar_43 rfl flX11_28 sh0 rfl ?_
          refine zj_iload_n (pc' := 47) 1 dX11_bar_46 rfl rfl rfl ?_
          refine zj_iload_n (pc' := 48) 2 dX11_bar_47 rfl rfl rfl ?_
          obtain ⟨y6, hy6, hy⟩ := zt_b hy
          refine zj_V1 (pc' := 51) (z := YX7_leastBar) (As := [.int a1, .int a2]) (N := M) dX11_bar_48 rfl mlX11_292 lkX7_leastBar sh5 ⟨_, _, rfl⟩ rfl rfl (Nat.le_of_ble_eq_true rfl) (Nat.le_of_ble_eq_true rfl) (LX7_leastBar_5 Γ _ r0_2 r0_2_2 e_i5 e_i8 a1 a2 hy6) rfl ?_
          obtain ⟨r0v7, er0v7⟩ : ∃ z, z = (zup r0 18 y6) := ⟨_, rfl⟩
          have hy := zlet_at er0v7 hy
          refine zj_pI (pc' := 54) (N := (zui M 0 r0v7)) dX11_bar_51 rfl fpX11_107 sh0 rfl e_i0 er0v7 rfl ?_
          refine zj_aload_n (pc' := 55) 0 dX11_bar_54 rfl rfl rfl ?_
          refine zj_fI (pc' := 58) dX11_bar_55 rfl flX11_107 sh0 rfl zr_s rfl ?_
          refine zj_S1 (pc' := 61) (z := YJ6_bitCount_0f7a4) (As := [.int (r0v7 18)]) (N := (zui M 0 r0v7)) dX11_bar_58 rfl mlX11_222 lkJ6_bitCount_0f7a4 rfl rfl (Nat.le_of_ble_eq_true rfl) (Nat.le_of_ble_eq_true rfl) (LJ6_bitCount_0f7a4 Γ _ (r0v7 18) rfl) rfl ?_
          have e9 := Option.some.inj hy
          subst e9
          exact zj_iret dX11_bar_61 rfl hq
        · have hy := zt_t hy c5
          refine zj_iconst (pc' := 40) dX11_bar_39 rfl kiconst_m1 ?_
          have e9 := Option.some.inj hy
          subst e9
          refine zj_mem (N := (zui M 0 r0)) (zself_i e_i0 rfl) ?_
          exact zj_iret dX11_bar_40 rfl hq
set_option maxRecDepth 20000 in
theorem LX11_bar_0 (Γ : zG) (M : zM) (r0 : Nat → Int32) (r0_2 : Nat → Int32) (r0_2_2 : Nat → Int32) (e_i0 : M.1 0 = r0) (e_i5 : M.1 5 = r0_2) (e_i8 : M.1 8 = r0_2_2) (a1 : Int32) (a2 : Int32) {res : Int32 × (Nat → Int32)} (hy : (fX_bar r0 r0_2 r0_2_2 a1 a2) = some res) : zK Γ 5 YX11_bar [.ref (zad Γ 0), .int a1, .int a2] M (fun v N => v = some (.int res.1) ∧ N = (zui M 0 res.2)) :=
  zK_of (by decide) (Nat.le_of_ble_eq_true rfl) (TX11_bar_0 Γ M r0 r0_2 r0_2_2 e_i0 e_i5 e_i8 a1 a2 hy ⟨rfl, rfl⟩)

noncomputable def fM_isReached_L18 (r0_6 : Nat → Int32) (a3 : Int32) (x12 : Int32) (x13 : Int32) : Option ((Int32 × Int32) ⊕ (Int32)) :=
  (if (r0_6 0) ≤ x13 then
  some (.inr x12)
  else
  (if (fM_bitOf x12 x13) = true then
  (zrd r0_6 397 (3 + x13)).bind (fun (v23 : Int32) =>
  zlet (x12 ||| (v23 &&& (a3 ^^^ (-1)))) (fun (x24 : Int32) =>
  zlet (x13 + 1) (fun (x25 : Int32) =>
  some (.inl (x24, x25)))))
  else
  zlet (x12 ||| 0) (fun (x26 : Int32) =>
  zlet (x13 + 1) (fun (x27 : Int32) =>
  some (.inl (x26, x27))))))
noncomputable def fM_isReached_L8 (r0_6 : Nat → Int32) (a3 : Int32) (x2 : Int32) (x3 : Int32) : Option ((Int32 × Int32) ⊕ (Int32)) :=
  (if 8 ≤ x3 then
  some (.inr x2)
  else
  (zLP (fun s => fM_isReached_L18 r0_6 a3 s.1 s.2) (x2, 0)).bind (fun r16 =>
  zlet (x3 + 1) (fun (x29 : Int32) =>
  some (.inl (r16, x29)))))
noncomputable def fM_isReached (r0_6 : Nat → Int32) (a1 : Int32) (a2 : Int32) (a3 : Int32) : Option (Bool) :=
  zlet ((1 : Int32) <<< (a1 &&& 31)) (fun (x1 : Int32) =>
  (zLP (fun s => fM_isReached_L8 r0_6 a3 s.1 s.2) (x1, 0)).bind (fun r6 =>
  some (fM_bitOf r6 a2)))

set_option maxRecDepth 20000 in
theorem TX12_isReached_186 (Γ : zG) {Q : Option Value → zM → Prop} (M : zM) (r0_6 : Nat → Int32) (e_i188 : M.1 188 = r0_6) (a1 : Int32) (a2 : Int32) (a3 : Int32) {res : Bool} (hy : (fM_isReached r0_6 a1 a2 a3) = some res) (hq : Q (some (.int (zb res))) M) : zR Γ 2 YX12_isReached 0 [(0, .ref (zad Γ 186)), (1, .int a1), (2, .int a2), (3, .int a3)] [] M Q := by
  unfold fM_isReached at hy
  refine zj_iconst (pc' := 1) dX12_isReached_0 rfl kiconst_1 ?_
  refine zj_iload_n (pc' := 2) 1 dX12_isReached_1 rfl rfl rfl ?_
  refine zj_ishl (pc' := 3) dX12_isReached_2 rfl ?_
  refine zj_topi (fun x1 ex1 => ?_)
  have hy := zlet_at ex1 hy
  refine zj_istore (pc' := 5) (L' := [(4, .int x1), (0, .ref (zad Γ 186)), (1, .int a1), (2, .int a2), (3, .int a3)]) dX12_isReached_3 rfl (by decide) rfl ?_
  refine zj_iconst (pc' := 6) dX12_isReached_5 rfl kiconst_0 ?_
  refine zj_istore (pc' := 8) (L' := [(5, .int 0), (4, .int x1), (0, .ref (zad Γ 186)), (1, .int a1), (2, .int a2), (3, .int a3)]) dX12_isReached_6 rfl (by decide) rfl ?_
  refine zj_loc [2, 4, 5, 1, 0] rfl ?_
  obtain ⟨r6, hr9, hyo7⟩ := zt_b hy
  obtain ⟨n9, hn9⟩ := zLP_some hr9
  have HE4 : ∀ (x30 : Int32), r6 = x30 → zR Γ 2 YX12_isReached 73 [(2, .int a2), (4, .int x30)] [] M Q := by
    intro x30 e9
    have hy := hyo7
    try rw [e9] at hy
    try dsimp only at hy
    refine zj_iload (pc' := 75) 1 dX12_isReached_73 rfl rfl ?_
    refine zj_iload_n (pc' := 76) 0 dX12_isReached_75 rfl rfl rfl ?_
    refine zj_S1 (pc' := 79) (z := YX12_bitOf) (As := [.int x30, .int a2]) (N := M) dX12_isReached_76 rfl mlX12_235 lkX12_bitOf rfl rfl (Nat.le_of_ble_eq_true rfl) (Nat.le_of_ble_eq_true rfl) (LX12_bitOf Γ _ x30 a2 rfl) rfl ?_
    have e9 := Option.some.inj hy
    subst e9
    exact zj_bret (b := (fM_bitOf x30 a2)) dX12_isReached_79 rfl hq
  have HL5 : ∀ (n : Nat) (x2 : Int32) (x3 : Int32), zlp (fun s => fM_isReached_L8 r0_6 a3 s.1 s.2) n (x2, x3) = some r6 → zR Γ 2 YX12_isReached 8 [(0, .ref (zad Γ 186)), (2, .int a2), (3, .int a3), (4, .int x2), (5, .int x3)] [] M Q := by
    intro n
    induction n with
    | zero => intro x2 x3 hn9; cases hn9
    | succ n ih8 =>
      intro x2 x3 hn9
      obtain ⟨o9, hb9, h9, h10⟩ := zlp_step hn9
      have hy : fM_isReached_L8 r0_6 a3 x2 x3 = some o9 := hb9
      unfold fM_isReached_L8 at hy
      refine zj_iload (pc' := 10) 4 dX12_isReached_8 rfl rfl ?_
      refine zj_bipush (pc' := 12) dX12_isReached_10 rfl kbipush_8 ?_
      refine zj_icmp_ge (tgt := 73) (pc' := 15) dX12_isReached_12 rfl (by decide) (fun c11 => ?_) (fun c11 => ?_)
      · have hy := zt_t hy c11
        have e9 := h10 _ (Option.some.inj hy).symm
        refine zj_loc [1, 3] rfl ?_
        exact HE4 _ e9.symm
      · have hy := zt_f hy c11
        refine zj_iconst (pc' := 16) dX12_isReached_15 rfl kiconst_0 ?_
        refine zj_istore (pc' := 18) (L' := [(6, .int 0), (0, .ref (zad Γ 186)), (2, .int a2), (3, .int a3), (4, .int x2), (5, .int x3)]) dX12_isReached_16 rfl (by decide) rfl ?_
        refine zj_loc [1, 2, 3, 4, 5, 0] rfl ?_
        obtain ⟨r16, hr9, hyo17⟩ := zt_b hy
        obtain ⟨n9, hn9⟩ := zLP_some hr9
        have HE14 : ∀ (x28 : Int32), r16 = x28 → zR Γ 2 YX12_isReached 67 [(0, .ref (zad Γ 186)), (2, .int a2), (3, .int a3), (4, .int x28), (5, .int x3)] [] M Q := by
          intro x28 e9
          have hy := hyo17
          try rw [e9] at hy
          try dsimp only at hy
          obtain ⟨x29, ex29⟩ : ∃ z : Int32, z = (x3 + 1) := ⟨_, rfl⟩
          have hy := zlet_at ex29 hy
          refine zj_iinc (pc' := 70) 4 (L' := [(5, .int x29), (0, .ref (zad Γ 186)), (2, .int a2), (3, .int a3), (4, .int x28)]) dX12_isReached_67 rfl rfl (by decide) (by rw [ci1, ← ex29]; rfl) ?_
          refine zj_goto (tgt := 8) dX12_isReached_70 (by decide) ?_
          have hn9 := h9 _ (Option.some.inj hy).symm
          refine zj_loc [1, 2, 3, 4, 0] rfl ?_
          exact ih8 _ _ hn9
        have HL15 : ∀ (n : Nat) (x12 : Int32) (x13 : Int32), zlp (fun s => fM_isReached_L18 r0_6 a3 s.1 s.2) n (x12, x13) = some r16 → zR Γ 2 YX12_isReached 18 [(0, .ref (zad Γ 186)), (2, .int a2), (3, .int a3), (4, .int x12), (5, .int x3), (6, .int x13)] [] M Q := by
          intro n
          induction n with
          | zero => intro x12 x13 hn9; cases hn9
          | succ n ih18 =>
            intro x12 x13 hn9
            obtain ⟨o9, hb9, h19, h20⟩ := zlp_step hn9
            have hy : fM_isReached_L18 r0_6 a3 x12 x13 = some o9 := hb9
            unfold fM_isReached_L18 at hy
            refine zj_iload (pc' := 20) 5 dX12_isReached_18 rfl rfl ?_
            refine zj_aload_n (pc' := 21) 0 dX12_isReached_20 rfl rfl rfl ?_
            refine zj_getR (pc' := 24) (j := 188) dX12_isReached_21 rfl flX12_33 sh186 rfl ?_
            refine zj_iconst (pc' := 25) dX12_isReached_24 rfl kiconst_0 ?_
            refine zj_rdi (pc' := 26) dX12_isReached_25 rfl sh188 e_i188 (zrdK zi0_397 tn0) ?_
            refine zj_icmp_ge (tgt := 67) (pc' := 29) dX12_isReached_26 rfl (by decide) (fun c21 => ?_) (fun c21 => ?_)
            · have hy := zt_t hy c21
              have e9 := h20 _ (Option.some.inj hy).symm
              refine zj_loc [0, 1, 2, 3, 4] rfl ?_
              exact HE14 _ e9.symm
            · have hy := zt_f hy c21
              refine zj_iload (pc' := 31) 3 dX12_isReached_29 rfl rfl ?_
              refine zj_iload (pc' := 33) 3 dX12_isReached_31 rfl rfl ?_
              refine zj_iload (pc' := 35) 5 dX12_isReached_33 rfl rfl ?_
              refine zj_S1 (pc' := 38) (z := YX12_bitOf) (As := [.int x12, .int x13]) (N := M) dX12_isReached_35 rfl mlX12_235 lkX12_bitOf rfl rfl (Nat.le_of_ble_eq_true rfl) (Nat.le_of_ble_eq_true rfl) (LX12_bitOf Γ _ x12 x13 rfl) rfl ?_
              refine zj_bif_eq (tgt := 57) (pc' := 41) dX12_isReached_38 rfl (by decide) (fun c22 => ?_) (fun c22 => ?_)
              · have hy := zt_f hy c22
                refine zj_iconst (pc' := 58) dX12_isReached_57 rfl kiconst_0 ?_
                refine zj_ior (pc' := 59) dX12_isReached_58 rfl ?_
                refine zj_topi (fun x26 ex26 => ?_)
                have hy := zlet_at ex26 hy
                refine zj_istore (pc' := 61) (L' := [(4, .int x26), (0, .ref (zad Γ 186)), (2, .int a2), (3, .int a3), (5, .int x3), (6, .int x13)]) dX12_isReached_59 rfl (by decide) rfl ?_
                obtain ⟨x27, ex27⟩ : ∃ z : Int32, z = (x13 + 1) := ⟨_, rfl⟩
                have hy := zlet_at ex27 hy
                refine zj_iinc (pc' := 64) 5 (L' := [(6, .int x27), (4, .int x26), (0, .ref (zad Γ 186)), (2, .int a2), (3, .int a3), (5, .int x3)]) dX12_isReached_61 rfl rfl (by decide) (by rw [ci1, ← ex27]; rfl) ?_
                refine zj_goto (tgt := 18) dX12_isReached_64 (by decide) ?_
                have hn9 := h19 _ (Option.some.inj hy).symm
                refine zj_loc [2, 3, 4, 1, 5, 0] rfl ?_
                exact ih18 _ _ hn9
              · have hy := zt_t hy c22
                refine zj_aload_n (pc' := 42) 0 dX12_isReached_41 rfl rfl rfl ?_
                refine zj_getR (pc' := 45) (j := 188) dX12_isReached_42 rfl flX12_33 sh186 rfl ?_
                refine zj_iconst (pc' := 46) dX12_isReached_45 rfl kiconst_3 ?_
                refine zj_iload (pc' := 48) 5 dX12_isReached_46 rfl rfl ?_
                refine zj_iadd (pc' := 49) dX12_isReached_48 rfl ?_
                obtain ⟨v23, hv23, hy⟩ := zt_b hy
                refine zj_rdi (pc' := 50) dX12_isReached_49 rfl sh188 e_i188 hv23 ?_
                refine zj_iload_n (pc' := 51) 2 dX12_isReached_50 rfl rfl rfl ?_
                refine zj_iconst (pc' := 52) dX12_isReached_51 rfl kiconst_m1 ?_
                refine zj_ixor (pc' := 53) dX12_isReached_52 rfl ?_
                refine zj_iand (pc' := 54) dX12_isReached_53 rfl ?_
                refine zj_goto (tgt := 58) dX12_isReached_54 (by decide) ?_
                refine zj_ior (pc' := 59) dX12_isReached_58 rfl ?_
                refine zj_topi (fun x24 ex24 => ?_)
                have hy := zlet_at ex24 hy
                refine zj_istore (pc' := 61) (L' := [(4, .int x24), (0, .ref (zad Γ 186)), (2, .int a2), (3, .int a3), (5, .int x3), (6, .int x13)]) dX12_isReached_59 rfl (by decide) rfl ?_
                obtain ⟨x25, ex25⟩ : ∃ z : Int32, z = (x13 + 1) := ⟨_, rfl⟩
                have hy := zlet_at ex25 hy
                refine zj_iinc (pc' := 64) 5 (L' := [(6, .int x25), (4, .int x24), (0, .ref (zad Γ 186)), (2, .int a2), (3, .int a3), (5, .int x3)]) dX12_isReached_61 rfl rfl (by decide) (by rw [ci1, ← ex25]; rfl) ?_
                refine zj_goto (tgt := 18) dX12_isReached_64 (by decide) ?_
                have hn9 := h19 _ (Option.some.inj hy).symm
                refine zj_loc [2, 3, 4, 1, 5, 0] rfl ?_
                exact ih18 _ _ hn9
        exact HL15 n9 _ _ hn9
  exact HL5 n9 _ _ hn9
set_option maxRecDepth 20000 in
theorem LX12_isReached_186 (Γ : zG) (M : zM) (r0_6 : Nat → Int32) (e_i188 : M.1 188 = r0_6) (a1 : Int32) (a2 : Int32) (a3 : Int32) {res : Bool} (hy : (fM_isReached r0_6 a1 a2 a3) = some res) : zK Γ 2 YX12_isReached [.ref (zad Γ 186), .int a1, .int a2, .int a3] M (fun v N => v = some (.int (zb res)) ∧ N = M) :=
  zK_of (by decide) (Nat.le_of_ble_eq_true rfl) (TX12_isReached_186 Γ M r0_6 e_i188 a1 a2 a3 hy ⟨rfl, rfl⟩)

noncomputable def fM_bar_L42 (r0_6 : Nat → Int32) (a1 : Int32) (a2 : Int32) (x9 : Int32) (x10 : Int32) : Option ((Int32 × Int32) ⊕ (Int32)) :=
  (if ((1 : Int32) <<< ((r0_6 0) &&& 31)) ≤ x10 then
  some (.inr x9)
  else
  (if (fM_bitOf x10 a1) = true then
  zlet (x10 + 1) (fun (x20 : Int32) =>
  some (.inl (x9, x20)))
  else
  (if (fM_bitOf x10 a2) = true then
  zlet (x10 + 1) (fun (x22 : Int32) =>
  some (.inl (x9, x22)))
  else
  zlet (fun (u9 : Unit) =>
  (fM_isReached r0_6 a1 a2 x10).bind (fun (y23 : Bool) =>
  (if y23 = true then
  zlet (x10 + 1) (fun (x25 : Int32) =>
  some (.inl (x9, x25)))
  else
  zlet (x10 + 1) (fun (x26 : Int32) =>
  some (.inl (x10, x26)))))) (fun J27 =>
  (if x9 < 0 then
  J27 ()
  else
  (fM_bits x10).bind (fun (y29 : Int32) =>
  (fM_bits x9).bind (fun (y30 : Int32) =>
  (if y30 ≤ y29 then
  zlet (x10 + 1) (fun (x32 : Int32) =>
  some (.inl (x9, x32)))
  else
  J27 ()))))))))
noncomputable def fM_bar (r0 : Nat → Int32) (r0_6 : Nat → Int32) (a1 : Int32) (a2 : Int32) : Option (Int32 × (Nat → Int32)) :=
  zlet (zup r0 0 0) (fun (r0v1 : Nat → Int32) =>
  (fM_isCorner r0_6 a1).bind (fun (y2 : Bool) =>
  (if y2 = true then
  (fM_isCorner r0_6 a2).bind (fun (y4 : Bool) =>
  (if y4 = true then
  (if a1 = a2 then
  some ((-1), r0v1)
  else
  (fM_isBeside r0_6 a1 a2).bind (fun (y7 : Bool) =>
  (if y7 = true then
  some ((-1), r0v1)
  else
  (zLP (fun s => fM_bar_L42 r0_6 a1 a2 s.1 s.2) ((-1), 0)).bind (fun r13 =>
  zlet (zup r0v1 32 1) (fun (r0v34 : Nat → Int32) =>
  zlet (zup r0v34 31 r13) (fun (r0v35 : Nat → Int32) =>
  (fM_bits r13).bind (fun (y36 : Int32) =>
  some (y36, r0v35))))))))
  else
  some ((-1), r0v1)))
  else
  some ((-1), r0v1))))

set_option maxRecDepth 20000 in
theorem TX12_bar_186 (Γ : zG) {Q : Option Value → zM → Prop} (M : zM) (r0 : Nat → Int32) (r0_6 : Nat → Int32) (e_i186 : M.1 186 = r0) (e_i188 : M.1 188 = r0_6) (a1 : Int32) (a2 : Int32) {res : Int32 × (Nat → Int32)} (hy : (fM_bar r0 r0_6 a1 a2) = some res) (hq : Q (some (.int res.1)) (zui M 186 res.2)) : zR Γ 3 YX12_bar 0 [(0, .ref (zad Γ 186)), (1, .int a1), (2, .int a2)] [] M Q := by
  unfold fM_bar at hy
  refine zj_aload_n (pc' := 1) 0 dX12_bar_0 rfl rfl rfl ?_
  refine zj_iconst (pc' := 2) dX12_bar_1 rfl kiconst_0 ?_
  obtain ⟨r0v1, er0v1⟩ : ∃ z, z = (zup r0 0 0) := ⟨_, rfl⟩
  have hy := zlet_at er0v1 hy
  refine zj_pI (pc' := 5) (N := (zui M 186 r0v1)) dX12_bar_2 rfl fpX12_1 sh186 rfl e_i186 er0v1 rfl ?_
  refine zj_aload_n (pc' := 6) 0 dX12_bar_5 rfl rfl rfl ?_
  refine zj_iload_n (pc' := 7) 1 dX12_bar_6 rfl rfl rfl ?_
  obtain ⟨y2, hy2, hy⟩ := zt_b hy
  refine zj_V1 (pc' := 10) (z := YX12_isCorner) (As := [.int a1]) (N := (zui M 186 r0v1)) dX12_bar_7 rfl mlX12_283 lkX12_isCorner sh186 ⟨_, _, rfl⟩ rfl rfl (Nat.le_of_ble_eq_true rfl) (Nat.le_of_ble_eq_true rfl) (LX12_isCorner_186 Γ _ r0_6 (zr_n rfl e_i188) a1 hy2) rfl ?_
  refine zj_bif_eq (tgt := 35) (pc' := 13) dX12_bar_10 rfl (by decide) (fun c3 => ?_) (fun c3 => ?_)
  · have hy := zt_f hy c3
    refine zj_iconst (pc' := 36) dX12_bar_35 rfl kiconst_m1 ?_
    have e9 := Option.some.inj hy
    subst e9
    exact zj_iret dX12_bar_36 rfl hq
  · have hy := zt_t hy c3
    refine zj_aload_n (pc' := 14) 0 dX12_bar_13 rfl rfl rfl ?_
    refine zj_iload_n (pc' := 15) 2 dX12_bar_14 rfl rfl rfl ?_
    obtain ⟨y4, hy4, hy⟩ := zt_b hy
    refine zj_V1 (pc' := 18) (z := YX12_isCorner) (As := [.int a2]) (N := (zui M 186 r0v1)) dX12_bar_15 rfl mlX12_283 lkX12_isCorner sh186 ⟨_, _, rfl⟩ rfl rfl (Nat.le_of_ble_eq_true rfl) (Nat.le_of_ble_eq_true rfl) (LX12_isCorner_186 Γ _ r0_6 (zr_n rfl e_i188) a2 hy4) rfl ?_
    refine zj_bif_eq (tgt := 35) (pc' := 21) dX12_bar_18 rfl (by decide) (fun c5 => ?_) (fun c5 => ?_)
    · have hy := zt_f hy c5
      refine zj_iconst (pc' := 36) dX12_bar_35 rfl kiconst_m1 ?_
      have e9 := Option.some.inj hy
      subst e9
      exact zj_iret dX12_bar_36 rfl hq
    · have hy := zt_t hy c5
      refine zj_iload_n (pc' := 22) 1 dX12_bar_21 rfl rfl rfl ?_
      refine zj_iload_n (pc' := 23) 2 dX12_bar_22 rfl rfl rfl ?_
      refine zj_icmp_eq (tgt := 35) (pc' := 26) dX12_bar_23 rfl (by decide) (fun c6 => ?_) (fun c6 => ?_)
      · have hy := zt_t hy c6
        refine zj_iconst (pc' := 36) dX12_bar_35 rfl kiconst_m1 ?_
        have e9 := Option.some.inj hy
        subst e9
        exact zj_iret dX12_bar_36 rfl hq
      · have hy := zt_f hy c6
        refine zj_aload_n (pc' := 27) 0 dX12_bar_26 rfl rfl rfl ?_
        refine zj_iload_n (pc' := 28) 1 dX12_bar_27 rfl rfl rfl ?_
        refine zj_iload_n (pc' := 29) 2 dX12_bar_28 rfl rfl rfl ?_
        obtain ⟨y7, hy7, hy⟩ := zt_b hy
        refine zj_V1 (pc' := 32) (z := YX12_isBeside) (As := [.int a1, .int a2]) (N := (zui M 186 r0v1)) dX12_bar_29 rfl mlX12_259 lkX12_isBeside sh186 ⟨_, _, rfl⟩ rfl rfl (Nat.le_of_ble_eq_true rfl) (Nat.le_of_ble_eq_true rfl) (LX12_isBeside_186 Γ _ r0_6 (zr_n rfl e_i188) a1 a2 hy7) rfl ?_
        refine zj_bif_eq (tgt := 37) (pc' := 35) dX12_bar_32 rfl (by decide) (fun c8 => ?_) (fun c8 => ?_)
        · have hy := zt_f hy c8
          refine zj_iconst (pc' := 38) dX12_bar_37 rfl kiconst_m1 ?_
          refine zj_istore_n (pc' := 39) (L' := [(3, .int (-1)), (0, .ref (zad Γ 186)), (1, .int a1), (2, .int a2)]) dX12_bar_38 rfl rfl (by decide) rfl ?_
          refine zj_iconst (pc' := 40) dX12_bar_39 rfl kiconst_0 ?_
          refine zj_istore (pc' := 42) (L' := [(4, .int 0), (3, .int (-1)), (0, .ref (zad Γ 186)), (1, .int a1), (2, .int a2)]) dX12_bar_40 rfl (by decide) rfl ?_
          refine zj_loc [2, 3, 4, 1, 0] rfl ?_
          obtain ⟨r13, hr9, hyo14⟩ := zt_b hy
          obtain ⟨n9, hn9⟩ := zLP_some hr9
          have HE11 : ∀ (x33 : Int32), r13 = x33 → zR Γ 3 YX12_bar 109 [(0, .ref (zad Γ 186)), (3, .int x33)] [] (zui M 186 r0v1) Q := by
            intro x33 e9
            have hy := hyo14
            try rw [e9] at hy
            try dsimp only at hy
            refine zj_aload_n (pc' := 110) 0 dX12_bar_109 rfl rfl rfl ?_
            refine zj_iconst (pc' := 111) dX12_bar_110 rfl kiconst_1 ?_
            obtain ⟨r0v34, er0v34⟩ : ∃ z, z = (zup r0v1 32 1) := ⟨_, rfl⟩
            have hy := zlet_at er0v34 hy
            refine zj_pZ (pc' := 114) (N := (zui M 186 r0v34)) dX12_bar_111 rfl fpX12_367 sh186 rfl (Or.inr rfl) zr_s er0v34 zm_s ?_
            refine zj_aload_n (pc' := 115) 0 dX12_bar_114 rfl rfl rfl ?_
            refine zj_iload_n (pc' := 116) 1 dX12_bar_115 rfl rfl rfl ?_
            obtain ⟨r0v35, er0v35⟩ : ∃ z, z = (zup r0v34 31 x33) := ⟨_, rfl⟩
            have hy := zlet_at er0v35 hy
            refine zj_pI (pc' := 119) (N := (zui M 186 r0v35)) dX12_bar_116 rfl fpX12_370 sh186 rfl zr_s er0v35 zm_s ?_
            refine zj_iload_n (pc' := 120) 1 dX12_bar_119 rfl rfl rfl ?_
            obtain ⟨y36, hy36, hy⟩ := zt_b hy
            refine zj_S1 (pc' := 123) (z := YX12_bits) (As := [.int x33]) (N := (zui M 186 r0v35)) dX12_bar_120 rfl mlX12_334 lkX12_bits rfl rfl (Nat.le_of_ble_eq_true rfl) (Nat.le_of_ble_eq_true rfl) (LX12_bits Γ _ x33 hy36) rfl ?_
            have e9 := Option.some.inj hy
            subst e9
            exact zj_iret dX12_bar_123 rfl hq
          have HL12 : ∀ (n : Nat) (x9 : Int32) (x10 : Int32), zlp (fun s => fM_bar_L42 r0_6 a1 a2 s.1 s.2) n (x9, x10) = some r13 → zR Γ 3 YX12_bar 42 [(0, .ref (zad Γ 186)), (1, .int a1), (2, .int a2), (3, .int x9), (4, .int x10)] [] (zui M 186 r0v1) Q := by
            intro n
            induction n with
            | zero => intro x9 x10 hn9; cases hn9
            | succ n ih15 =>
              intro x9 x10 hn9
              obtain ⟨o9, hb9, h16, h17⟩ := zlp_step hn9
              have hy : fM_bar_L42 r0_6 a1 a2 x9 x10 = some o9 := hb9
              unfold fM_bar_L42 at hy
              refine zj_iload (pc' := 44) 4 dX12_bar_42 rfl rfl ?_
              refine zj_iconst (pc' := 45) dX12_bar_44 rfl kiconst_1 ?_
              refine zj_aload_n (pc' := 46) 0 dX12_bar_45 rfl rfl rfl ?_
              refine zj_getR (pc' := 49) (j := 188) dX12_bar_46 rfl flX12_33 sh186 rfl ?_
              refine zj_iconst (pc' := 50) dX12_bar_49 rfl kiconst_0 ?_
              refine zj_rdi (pc' := 51) dX12_bar_50 rfl sh188 (zr_n rfl e_i188) (zrdK zi0_397 tn0) ?_
              refine zj_ishl (pc' := 52) dX12_bar_51 rfl ?_
              refine zj_icmp_ge (tgt := 109) (pc' := 55) dX12_bar_52 rfl (by decide) (fun c18 => ?_) (fun c18 => ?_)
              · have hy := zt_t hy c18
                have e9 := h17 _ (Option.some.inj hy).symm
                refine zj_loc [0, 3] rfl ?_
                exact HE11 _ e9.symm
              · have hy := zt_f hy c18
                refine zj_iload (pc' := 57) 4 dX12_bar_55 rfl rfl ?_
                refine zj_iload_n (pc' := 58) 1 dX12_bar_57 rfl rfl rfl ?_
                refine zj_S1 (pc' := 61) (z := YX12_bitOf) (As := [.int x10, .int a1]) (N := (zui M 186 r0v1)) dX12_bar_58 rfl mlX12_235 lkX12_bitOf rfl rfl (Nat.le_of_ble_eq_true rfl) (Nat.le_of_ble_eq_true rfl) (LX12_bitOf Γ _ x10 a1 rfl) rfl ?_
                refine zj_bif_ne (tgt := 103) (pc' := 64) dX12_bar_61 rfl (by decide) (fun c19 => ?_) (fun c19 => ?_)
                · have hy := zt_t hy c19
                  obtain ⟨x20, ex20⟩ : ∃ z : Int32, z = (x10 + 1) := ⟨_, rfl⟩
                  have hy := zlet_at ex20 hy
                  refine zj_iinc (pc' := 106) 4 (L' := [(4, .int x20), (0, .ref (zad Γ 186)), (1, .int a1), (2, .int a2), (3, .int x9)]) dX12_bar_103 rfl rfl (by decide) (by rw [ci1, ← ex20]; rfl) ?_
                  refine zj_goto (tgt := 42) dX12_bar_106 (by decide) ?_
                  have hn9 := h16 _ (Option.some.inj hy).symm
                  refine zj_loc [1, 2, 3, 4, 0] rfl ?_
                  exact ih15 _ _ hn9
                · have hy := zt_f hy c19
                  refine zj_iload (pc' := 66) 4 dX12_bar_64 rfl rfl ?_
                  refine zj_iload_n (pc' := 67) 2 dX12_bar_66 rfl rfl rfl ?_
                  refine zj_S1 (pc' := 70) (z := YX12_bitOf) (As := [.int x10, .int a2]) (N := (zui M 186 r0v1)) dX12_bar_67 rfl mlX12_235 lkX12_bitOf rfl rfl (Nat.le_of_ble_eq_true rfl) (Nat.le_of_ble_eq_true rfl) (LX12_bitOf Γ _ x10 a2 rfl) rfl ?_
                  refine zj_bif_ne (tgt := 103) (pc' := 73) dX12_bar_70 rfl (by decide) (fun c21 => ?_) (fun c21 => ?_)
                  · have hy := zt_t hy c21
                    obtain ⟨x22, ex22⟩ : ∃ z : Int32, z = (x10 + 1) := ⟨_, rfl⟩
                    have hy := zlet_at ex22 hy
                    refine zj_iinc (pc' := 106) 4 (L' := [(4, .int x22), (0, .ref (zad Γ 186)), (1, .int a1), (2, .int a2), (3, .int x9)]) dX12_bar_103 rfl rfl (by decide) (by rw [ci1, ← ex22]; rfl) ?_
                    refine zj_goto (tgt := 42) dX12_bar_106 (by decide) ?_
                    have hn9 := h16 _ (Option.some.inj hy).symm
                    refine zj_loc [1, 2, 3, 4, 0] rfl ?_
                    exact ih15 _ _ hn9
                  · have hy := zt_f hy c21
                    refine zj_iload_n (pc' := 74) 3 dX12_bar_73 rfl rfl rfl ?_
                    obtain ⟨J27, eJ27, hy⟩ := zlet_ex hy
                    have HJ27 : ∀ (u9 : Unit), J27 u9 = some o9 → zR Γ 3 YX12_bar 89 [(0, .ref (zad Γ 186)), (1, .int a1), (2, .int a2), (3, .int x9), (4, .int x10)] [] (zui M 186 r0v1) Q := by
                      intro u9 hy
                      have hy := zap1 eJ27 hy
                      refine zj_aload_n (pc' := 90) 0 dX12_bar_89 rfl rfl rfl ?_
                      refine zj_iload_n (pc' := 91) 1 dX12_bar_90 rfl rfl rfl ?_
                      refine zj_iload_n (pc' := 92) 2 dX12_bar_91 rfl rfl rfl ?_
                      refine zj_iload (pc' := 94) 4 dX12_bar_92 rfl rfl ?_
                      obtain ⟨y23, hy23, hy⟩ := zt_b hy
                      refine zj_V1 (pc' := 97) (z := YX12_isReached) (As := [.int a1, .int a2, .int x10]) (N := (zui M 186 r0v1)) dX12_bar_94 rfl mlX12_364 lkX12_isReached sh186 ⟨_, _, rfl⟩ rfl rfl (Nat.le_of_ble_eq_true rfl) (Nat.le_of_ble_eq_true rfl) (LX12_isReached_186 Γ _ r0_6 (zr_n rfl e_i188) a1 a2 x10 hy23) rfl ?_
                      refine zj_bif_ne (tgt := 103) (pc' := 100) dX12_bar_97 rfl (by decide) (fun c24 => ?_) (fun c24 => ?_)
                      · have hy := zt_t hy c24
                        obtain ⟨x25, ex25⟩ : ∃ z : Int32, z = (x10 + 1) := ⟨_, rfl⟩
                        have hy := zlet_at ex25 hy
                        refine zj_iinc (pc' := 106) 4 (L' := [(4, .int x25), (0, .ref (zad Γ 186)), (1, .int a1), (2, .int a2), (3, .int x9)]) dX12_bar_103 rfl rfl (by decide) (by rw [ci1, ← ex25]; rfl) ?_
                        refine zj_goto (tgt := 42) dX12_bar_106 (by decide) ?_
                        have hn9 := h16 _ (Option.some.inj hy).symm
                        refine zj_loc [1, 2, 3, 4, 0] rfl ?_
                        exact ih15 _ _ hn9
                      · have hy := zt_f hy c24
                        refine zj_iload (pc' := 102) 4 dX12_bar_100 rfl rfl ?_
                        refine zj_istore_n (pc' := 103) (L' := [(3, .int x10), (0, .ref (zad Γ 186)), (1, .int a1), (2, .int a2), (4, .int x10)]) dX12_bar_102 rfl rfl (by decide) rfl ?_
                        obtain ⟨x26, ex26⟩ : ∃ z : Int32, z = (x10 + 1) := ⟨_, rfl⟩
                        have hy := zlet_at ex26 hy
                        refine zj_iinc (pc' := 106) 4 (L' := [(4, .int x26), (3, .int x10), (0, .ref (zad Γ 186)), (1, .int a1), (2, .int a2)]) dX12_bar_103 rfl rfl (by decide) (by rw [ci1, ← ex26]; rfl) ?_
                        refine zj_goto (tgt := 42) dX12_bar_106 (by decide) ?_
                        have hn9 := h16 _ (Option.some.inj hy).symm
                        refine zj_loc [2, 3, 4, 1, 0] rfl ?_
                        exact ih15 _ _ hn9
                    refine zj_if_lt (tgt := 89) (pc' := 77) dX12_bar_74 rfl (by decide) (fun c28 => ?_) (fun c28 => ?_)
                    · have hy := zt_t hy c28
                      exact HJ27 () hy
                    · have hy := zt_f hy c28
                      refine zj_iload (pc' := 79) 4 dX12_bar_77 rfl rfl ?_
                      obtain ⟨y29, hy29, hy⟩ := zt_b hy
                      refine zj_S1 (pc' := 82) (z := YX12_bits) (As := [.int x10]) (N := (zui M 186 r0v1)) dX12_bar_79 rfl mlX12_334 lkX12_bits rfl rfl (Nat.le_of_ble_eq_true rfl) (Nat.le_of_ble_eq_true rfl) (LX12_bits Γ _ x10 hy29) rfl ?_
                      refine zj_iload_n (pc' := 83) 3 dX12_bar_82 rfl rfl rfl ?_
                      obtain ⟨y30, hy30, hy⟩ := zt_b hy
                      refine zj_S1 (pc' := 86) (z := YX12_bits) (As := [.int x9]) (N := (zui M 186 r0v1)) dX12_bar_83 rfl mlX12_334 lkX12_bits rfl rfl (Nat.le_of_ble_eq_true rfl) (Nat.le_of_ble_eq_true rfl) (LX12_bits Γ _ x9 hy30) rfl ?_
                      refine zj_icmp_ge (tgt := 103) (pc' := 89) dX12_bar_86 rfl (by decide) (fun c31 => ?_) (fun c31 => ?_)
                      · have hy := zt_t hy c31
                        obtain ⟨x32, ex32⟩ : ∃ z : Int32, z = (x10 + 1) := ⟨_, rfl⟩
                        have hy := zlet_at ex32 hy
                        refine zj_iinc (pc' := 106) 4 (L' := [(4, .int x32), (0, .ref (zad Γ 186)), (1, .int a1), (2, .int a2), (3, .int x9)]) dX12_bar_103 rfl rfl (by decide) (by rw [ci1, ← ex32]; rfl) ?_
                        refine zj_goto (tgt := 42) dX12_bar_106 (by decide) ?_
                        have hn9 := h16 _ (Option.some.inj hy).symm
                        refine zj_loc [1, 2, 3, 4, 0] rfl ?_
                        exact ih15 _ _ hn9
                      · have hy := zt_f hy c31
                        exact HJ27 () hy
          exact HL12 n9 _ _ hn9
        · have hy := zt_t hy c8
          refine zj_iconst (pc' := 36) dX12_bar_35 rfl kiconst_m1 ?_
          have e9 := Option.some.inj hy
          subst e9
          exact zj_iret dX12_bar_36 rfl hq
set_option maxRecDepth 20000 in
theorem LX12_bar_186 (Γ : zG) (M : zM) (r0 : Nat → Int32) (r0_6 : Nat → Int32) (e_i186 : M.1 186 = r0) (e_i188 : M.1 188 = r0_6) (a1 : Int32) (a2 : Int32) {res : Int32 × (Nat → Int32)} (hy : (fM_bar r0 r0_6 a1 a2) = some res) : zK Γ 3 YX12_bar [.ref (zad Γ 186), .int a1, .int a2] M (fun v N => v = some (.int res.1) ∧ N = (zui M 186 res.2)) :=
  zK_of (by decide) (Nat.le_of_ble_eq_true rfl) (TX12_bar_186 Γ M r0 r0_6 e_i186 e_i188 a1 a2 hy ⟨rfl, rfl⟩)

noncomputable def fX_barred (r0 : Nat → Int32) : Int32 :=
  (r0 18)

set_option maxRecDepth 20000 in
theorem TX11_barred_0 (Γ : zG) {Q : Option Value → zM → Prop} (M : zM) (r0 : Nat → Int32) (e_i0 : M.1 0 = r0)  {res : Int32} (hy : (fX_barred r0) = res) (hq : Q (some (.int res)) M) : zR Γ 1 YX11_barred 0 [(0, .ref (zad Γ 0))] [] M Q := by
  unfold fX_barred at hy
  refine zj_aload_n (pc' := 1) 0 dX11_barred_0 rfl rfl rfl ?_
  refine zj_fI (pc' := 4) dX11_barred_1 rfl flX11_107 sh0 rfl e_i0 rfl ?_
  subst hy
  exact zj_iret dX11_barred_4 rfl hq
set_option maxRecDepth 20000 in
theorem LX11_barred_0 (Γ : zG) (M : zM) (r0 : Nat → Int32) (e_i0 : M.1 0 = r0)  {res : Int32} (hy : (fX_barred r0) = res) : zK Γ 1 YX11_barred [.ref (zad Γ 0)] M (fun v N => v = some (.int res) ∧ N = M) :=
  zK_of (by decide) (Nat.le_of_ble_eq_true rfl) (TX11_barred_0 Γ M r0 e_i0 hy ⟨rfl, rfl⟩)

noncomputable def fM_barred (r0 : Nat → Int32) : Option (Int32 × (Nat → Int32)) :=
  zlet (zup r0 0 0) (fun (r0v1 : Nat → Int32) =>
  some ((if (r0v1 32) = 0 then ((-1) : Int32) else (r0v1 31)), r0v1))

set_option maxRecDepth 20000 in
theorem TX12_barred_186 (Γ : zG) {Q : Option Value → zM → Prop} (M : zM) (r0 : Nat → Int32) (e_i186 : M.1 186 = r0)  {res : Int32 × (Nat → Int32)} (hy : (fM_barred r0) = some res) (hq : Q (some (.int res.1)) (zui M 186 res.2)) : zR Γ 1 YX12_barred 0 [(0, .ref (zad Γ 186))] [] M Q := by
  unfold fM_barred at hy
  refine zj_aload_n (pc' := 1) 0 dX12_barred_0 rfl rfl rfl ?_
  refine zj_iconst (pc' := 2) dX12_barred_1 rfl kiconst_0 ?_
  obtain ⟨r0v1, er0v1⟩ : ∃ z, z = (zup r0 0 0) := ⟨_, rfl⟩
  have hy := zlet_at er0v1 hy
  refine zj_pI (pc' := 5) (N := (zui M 186 r0v1)) dX12_barred_2 rfl fpX12_1 sh186 rfl e_i186 er0v1 rfl ?_
  refine zj_aload_n (pc' := 6) 0 dX12_barred_5 rfl rfl rfl ?_
  refine zj_fI (pc' := 9) dX12_barred_6 rfl flX12_367 sh186 rfl zr_s rfl ?_
  have HJ2 : zR Γ 1 YX12_barred 20 [(0, .ref (zad Γ 186))] [.int (if (r0v1 32) = 0 then ((-1) : Int32) else (r0v1 31))] (zui M 186 r0v1) Q := by
    have e9 := Option.some.inj hy
    subst e9
    exact zj_iret dX12_barred_20 rfl hq
  refine zj_if_eq (tgt := 19) (pc' := 12) dX12_barred_9 rfl (by decide) (fun c3 => ?_) (fun c3 => ?_)
  · refine zj_iconst (pc' := 20) dX12_barred_19 rfl kiconst_m1 ?_
    exact zj_eqi (if_pos c3) HJ2
  · refine zj_aload_n (pc' := 13) 0 dX12_barred_12 rfl rfl rfl ?_
    refine zj_fI (pc' := 16) dX12_barred_13 rfl flX12_370 sh186 rfl zr_s rfl ?_
    refine zj_goto (tgt := 20) dX12_barred_16 (by decide) ?_
    exact zj_eqi (if_neg c3) HJ2
set_option maxRecDepth 20000 in
theorem LX12_barred_186 (Γ : zG) (M : zM) (r0 : Nat → Int32) (e_i186 : M.1 186 = r0)  {res : Int32 × (Nat → Int32)} (hy : (fM_barred r0) = some res) : zK Γ 1 YX12_barred [.ref (zad Γ 186)] M (fun v N => v = some (.int res.1) ∧ N = (zui M 186 res.2)) :=
  zK_of (by decide) (Nat.le_of_ble_eq_true rfl) (TX12_barred_186 Γ M r0 e_i186 hy ⟨rfl, rfl⟩)


set_option maxRecDepth 20000 in
theorem TX1_wayLeft_15 (Γ : zG) {Q : Option Value → zM → Prop} (M : zM) (r0_5 : Nat → Int32) (e_i21 : M.1 21 = r0_5) (a1 : Int32) {res : Int32} (hy : (fDy_wayLeft r0_5 a1) = some res) (hq : Q (some (.int res)) M) : zR Γ 2 YX1_wayLeft 0 [(0, .ref (zad Γ 15)), (1, .int a1)] [] M Q := by
  unfold fDy_wayLeft at hy
  refine zj_iload_n (pc' := 1) 1 dX1_wayLeft_0 rfl rfl rfl ?_
  refine zj_S1 (pc' := 4) (z := YX1_mayBe) (As := [.int a1]) (N := M) dX1_wayLeft_1 rfl mlX1_58 lkX1_mayBe rfl rfl (Nat.le_of_ble_eq_true rfl) (Nat.le_of_ble_eq_true rfl) (LX1_mayBe Γ _ a1 rfl) rfl ?_
  refine zj_bif_eq (tgt := 16) (pc' := 7) dX1_wayLeft_4 rfl (by decide) (fun c1 => ?_) (fun c1 => ?_)
  · have hy := zt_f hy c1
    refine zj_iconst (pc' := 17) dX1_wayLeft_16 rfl kiconst_0 ?_
    have e9 := Option.some.inj hy
    subst e9
    exact zj_iret dX1_wayLeft_17 rfl hq
  · have hy := zt_t hy c1
    refine zj_aload_n (pc' := 8) 0 dX1_wayLeft_7 rfl rfl rfl ?_
    refine zj_getR (pc' := 11) (j := 21) dX1_wayLeft_8 rfl flX1_27 sh15 rfl ?_
    refine zj_iload_n (pc' := 12) 1 dX1_wayLeft_11 rfl rfl rfl ?_
    obtain ⟨v2, hv2, hy⟩ := zt_b hy
    refine zj_rdi (pc' := 13) dX1_wayLeft_12 rfl sh21 e_i21 hv2 ?_
    refine zj_goto (tgt := 17) dX1_wayLeft_13 (by decide) ?_
    have e9 := Option.some.inj hy
    subst e9
    exact zj_iret dX1_wayLeft_17 rfl hq
set_option maxRecDepth 20000 in
theorem LX1_wayLeft_15 (Γ : zG) (M : zM) (r0_5 : Nat → Int32) (e_i21 : M.1 21 = r0_5) (a1 : Int32) {res : Int32} (hy : (fDy_wayLeft r0_5 a1) = some res) : zK Γ 2 YX1_wayLeft [.ref (zad Γ 15), .int a1] M (fun v N => v = some (.int res) ∧ N = M) :=
  zK_of (by decide) (Nat.le_of_ble_eq_true rfl) (TX1_wayLeft_15 Γ M r0_5 e_i21 a1 hy ⟨rfl, rfl⟩)

noncomputable def fDy_isIdle (r0_2 : Nat → Int32) (r0_5 : Nat → Int32) (a1 : Int32) : Option (Bool) :=
  (fDy_followedBy r0_2 a1).bind (fun (y1 : Int32) =>
  (if y1 = (-1) then
  (fDy_wayLeft r0_5 a1).bind (fun (y3 : Int32) =>
  some (if y3 = 0 then true else false))
  else
  some false))

set_option maxRecDepth 20000 in
theorem TX1_isIdle_15 (Γ : zG) {Q : Option Value → zM → Prop} (M : zM) (r0_2 : Nat → Int32) (r0_5 : Nat → Int32) (e_i18 : M.1 18 = r0_2) (e_i21 : M.1 21 = r0_5) (a1 : Int32) {res : Bool} (hy : (fDy_isIdle r0_2 r0_5 a1) = some res) (hq : Q (some (.int (zb res))) M) : zR Γ 3 YX1_isIdle 0 [(0, .ref (zad Γ 15)), (1, .int a1)] [] M Q := by
  unfold fDy_isIdle at hy
  refine zj_aload_n (pc' := 1) 0 dX1_isIdle_0 rfl rfl rfl ?_
  refine zj_iload_n (pc' := 2) 1 dX1_isIdle_1 rfl rfl rfl ?_
  obtain ⟨y1, hy1, hy⟩ := zt_b hy
  refine zj_V1 (pc' := 5) (z := YX1_followedBy) (As := [.int a1]) (N := M) dX1_isIdle_2 rfl mlX1_69 lkX1_followedBy sh15 ⟨_, _, rfl⟩ rfl rfl (Nat.le_of_ble_eq_true rfl) (Nat.le_of_ble_eq_true rfl) (LX1_followedBy_15 Γ _ r0_2 e_i18 a1 hy1) rfl ?_
  refine zj_iconst (pc' := 6) dX1_isIdle_5 rfl kiconst_m1 ?_
  refine zj_icmp_ne (tgt := 21) (pc' := 9) dX1_isIdle_6 rfl (by decide) (fun c2 => ?_) (fun c2 => ?_)
  · have hy := zt_f hy c2
    refine zj_iconst (pc' := 22) dX1_isIdle_21 rfl kiconst_0 ?_
    have e9 := Option.some.inj hy
    subst e9
    exact zj_bret (b := false) dX1_isIdle_22 rfl hq
  · have hy := zt_t hy c2
    refine zj_aload_n (pc' := 10) 0 dX1_isIdle_9 rfl rfl rfl ?_
    refine zj_iload_n (pc' := 11) 1 dX1_isIdle_10 rfl rfl rfl ?_
    obtain ⟨y3, hy3, hy⟩ := zt_b hy
    refine zj_V1 (pc' := 14) (z := YX1_wayLeft) (As := [.int a1]) (N := M) dX1_isIdle_11 rfl mlX1_73 lkX1_wayLeft sh15 ⟨_, _, rfl⟩ rfl rfl (Nat.le_of_ble_eq_true rfl) (Nat.le_of_ble_eq_true rfl) (LX1_wayLeft_15 Γ _ r0_5 e_i21 a1 hy3) rfl ?_
    have HJ4 : zR Γ 3 YX1_isIdle 22 [(0, .ref (zad Γ 15)), (1, .int a1)] [.int (zb (if y3 = 0 then true else false))] M Q := by
      have e9 := Option.some.inj hy
      subst e9
      exact zj_bret (b := (if y3 = 0 then true else false)) dX1_isIdle_22 rfl hq
    refine zj_if_ne (tgt := 21) (pc' := 17) dX1_isIdle_14 rfl (by decide) (fun c5 => ?_) (fun c5 => ?_)
    · refine zj_iconst (pc' := 22) dX1_isIdle_21 rfl kiconst_0 ?_
      exact zj_eqb (b := false) (if_neg c5) HJ4
    · refine zj_iconst (pc' := 18) dX1_isIdle_17 rfl kiconst_1 ?_
      refine zj_goto (tgt := 22) dX1_isIdle_18 (by decide) ?_
      exact zj_eqb (b := true) (if_pos c5) HJ4
set_option maxRecDepth 20000 in
theorem LX1_isIdle_15 (Γ : zG) (M : zM) (r0_2 : Nat → Int32) (r0_5 : Nat → Int32) (e_i18 : M.1 18 = r0_2) (e_i21 : M.1 21 = r0_5) (a1 : Int32) {res : Bool} (hy : (fDy_isIdle r0_2 r0_5 a1) = some res) : zK Γ 3 YX1_isIdle [.ref (zad Γ 15), .int a1] M (fun v N => v = some (.int (zb res)) ∧ N = M) :=
  zK_of (by decide) (Nat.le_of_ble_eq_true rfl) (TX1_isIdle_15 Γ M r0_2 r0_5 e_i18 e_i21 a1 hy ⟨rfl, rfl⟩)

noncomputable def fPr_keepIfBetter (r0 : Nat → Int32) (r0_0 : Nat → Int32) (r0_1 : Nat → Int32) (a1 : Int32) (a2 : Int32) : Option ((Nat → Int32) × (Nat → Int32)) :=
  zlet (fun (u9 : Unit) =>
  zlet (zup r0 2 a1) (fun (r0v1 : Nat → Int32) =>
  zlet (zup r0v1 3 a2) (fun (r0v2 : Nat → Int32) =>
  zlet (va_cpy r0_0 r0_1 0 0 6) (fun (r0_1v3 : Nat → Int32) =>
  some (r0v2, r0_1v3))))) (fun J4 =>
  (if (r0 2) < a1 then
  J4 ()
  else
  (if a1 = (r0 2) then
  (if (r0 3) ≤ a2 then
  some (r0, r0_1)
  else
  J4 ())
  else
  some (r0, r0_1))))

set_option maxRecDepth 20000 in
theorem TX6_keepIfBetter_179 (Γ : zG) {Q : Option Value → zM → Prop} (M : zM) (r0 : Nat → Int32) (r0_0 : Nat → Int32) (r0_1 : Nat → Int32) (e_i179 : M.1 179 = r0) (e_i180 : M.1 180 = r0_0) (e_i181 : M.1 181 = r0_1) (a1 : Int32) (a2 : Int32) {res : (Nat → Int32) × (Nat → Int32)} (hy : (fPr_keepIfBetter r0 r0_0 r0_1 a1 a2) = some res) (hq : Q none (zui (zui M 179 res.1) 181 res.2)) : zR Γ 2 YX6_keepIfBetter 0 [(0, .ref (zad Γ 179)), (1, .int a1), (2, .int a2)] [] M Q := by
  unfold fPr_keepIfBetter at hy
  refine zj_iload_n (pc' := 1) 1 dX6_keepIfBetter_0 rfl rfl rfl ?_
  refine zj_aload_n (pc' := 2) 0 dX6_keepIfBetter_1 rfl rfl rfl ?_
  refine zj_fI (pc' := 5) dX6_keepIfBetter_2 rfl flX6_18 sh179 rfl e_i179 rfl ?_
  obtain ⟨J4, eJ4, hy⟩ := zlet_ex hy
  have HJ4 : ∀ (u9 : Unit), J4 u9 = some res → zR Γ 2 YX6_keepIfBetter 24 [(0, .ref (zad Γ 179)), (1, .int a1), (2, .int a2)] [] M Q := by
    intro u9 hy
    have hy := zap1 eJ4 hy
    refine zj_aload_n (pc' := 25) 0 dX6_keepIfBetter_24 rfl rfl rfl ?_
    refine zj_iload_n (pc' := 26) 1 dX6_keepIfBetter_25 rfl rfl rfl ?_
    obtain ⟨r0v1, er0v1⟩ : ∃ z, z = (zup r0 2 a1) := ⟨_, rfl⟩
    have hy := zlet_at er0v1 hy
    refine zj_pI (pc' := 29) (N := (zui M 179 r0v1)) dX6_keepIfBetter_26 rfl fpX6_18 sh179 rfl e_i179 er0v1 rfl ?_
    refine zj_aload_n (pc' := 30) 0 dX6_keepIfBetter_29 rfl rfl rfl ?_
    refine zj_iload_n (pc' := 31) 2 dX6_keepIfBetter_30 rfl rfl rfl ?_
    obtain ⟨r0v2, er0v2⟩ : ∃ z, z = (zup r0v1 3 a2) := ⟨_, rfl⟩
    have hy := zlet_at er0v2 hy
    refine zj_pI (pc' := 34) (N := (zui M 179 r0v2)) dX6_keepIfBetter_31 rfl fpX6_22 sh179 rfl zr_s er0v2 zm_s ?_
    refine zj_aload_n (pc' := 35) 0 dX6_keepIfBetter_34 rfl rfl rfl ?_
    refine zj_getR (pc' := 38) (j := 180) dX6_keepIfBetter_35 rfl flX6_9 sh179 rfl ?_
    refine zj_iconst (pc' := 39) dX6_keepIfBetter_38 rfl kiconst_0 ?_
    refine zj_aload_n (pc' := 40) 0 dX6_keepIfBetter_39 rfl rfl rfl ?_
    refine zj_getR (pc' := 43) (j := 181) dX6_keepIfBetter_40 rfl flX6_15 sh179 rfl ?_
    refine zj_iconst (pc' := 44) dX6_keepIfBetter_43 rfl kiconst_0 ?_
    refine zj_bipush (pc' := 46) dX6_keepIfBetter_44 rfl kbipush_6 ?_
    obtain ⟨r0_1v3, er0_1v3⟩ : ∃ z, z = (va_cpy r0_0 r0_1 0 0 6) := ⟨_, rfl⟩
    have hy := zlet_at er0_1v3 hy
    refine zj_cpI (pc' := 49) (N := (zui (zui M 179 r0v2) 181 r0_1v3)) dX6_keepIfBetter_46 rfl mlX6_69 zcpw sh180 sh181 tn0 tn0 tn6 (by decide) (by decide) (Nat.le_of_ble_eq_true rfl) (Nat.le_of_ble_eq_true rfl) (zr_n rfl e_i180) (zr_n rfl e_i181) er0_1v3 rfl (Nat.le_of_ble_eq_true rfl) (Nat.le_of_ble_eq_true rfl) ?_
    have e9 := Option.some.inj hy
    subst e9
    exact zj_vret dX6_keepIfBetter_49 rfl hq
  refine zj_icmp_gt (tgt := 24) (pc' := 8) dX6_keepIfBetter_5 rfl (by decide) (fun c5 => ?_) (fun c5 => ?_)
  · have hy := zt_t hy c5
    exact HJ4 () hy
  · have hy := zt_f hy c5
    refine zj_iload_n (pc' := 9) 1 dX6_keepIfBetter_8 rfl rfl rfl ?_
    refine zj_aload_n (pc' := 10) 0 dX6_keepIfBetter_9 rfl rfl rfl ?_
    refine zj_fI (pc' := 13) dX6_keepIfBetter_10 rfl flX6_18 sh179 rfl e_i179 rfl ?_
    refine zj_icmp_ne (tgt := 49) (pc' := 16) dX6_keepIfBetter_13 rfl (by decide) (fun c6 => ?_) (fun c6 => ?_)
    · have hy := zt_f hy c6
      have e9 := Option.some.inj hy
      subst e9
      refine zj_mem (N := (zui M 179 r0)) (zself_i e_i179 rfl) ?_
      refine zj_mem (N := (zui (zui M 179 r0) 181 r0_1)) (zself_i (zr_n rfl e_i181) rfl) ?_
      exact zj_vret dX6_keepIfBetter_49 rfl hq
    · have hy := zt_t hy c6
      refine zj_iload_n (pc' := 17) 2 dX6_keepIfBetter_16 rfl rfl rfl ?_
      refine zj_aload_n (pc' := 18) 0 dX6_keepIfBetter_17 rfl rfl rfl ?_
      refine zj_fI (pc' := 21) dX6_keepIfBetter_18 rfl flX6_22 sh179 rfl e_i179 rfl ?_
      refine zj_icmp_ge (tgt := 49) (pc' := 24) dX6_keepIfBetter_21 rfl (by decide) (fun c7 => ?_) (fun c7 => ?_)
      · have hy := zt_t hy c7
        have e9 := Option.some.inj hy
        subst e9
        refine zj_mem (N := (zui M 179 r0)) (zself_i e_i179 rfl) ?_
        refine zj_mem (N := (zui (zui M 179 r0) 181 r0_1)) (zself_i (zr_n rfl e_i181) rfl) ?_
        exact zj_vret dX6_keepIfBetter_49 rfl hq
      · have hy := zt_f hy c7
        exact HJ4 () hy
set_option maxRecDepth 20000 in
theorem LX6_keepIfBetter_179 (Γ : zG) (M : zM) (r0 : Nat → Int32) (r0_0 : Nat → Int32) (r0_1 : Nat → Int32) (e_i179 : M.1 179 = r0) (e_i180 : M.1 180 = r0_0) (e_i181 : M.1 181 = r0_1) (a1 : Int32) (a2 : Int32) {res : (Nat → Int32) × (Nat → Int32)} (hy : (fPr_keepIfBetter r0 r0_0 r0_1 a1 a2) = some res) : zK Γ 2 YX6_keepIfBetter [.ref (zad Γ 179), .int a1, .int a2] M (fun v N => v = none ∧ N = (zui (zui M 179 res.1) 181 res.2)) :=
  zK_of (by decide) (Nat.le_of_ble_eq_true rfl) (TX6_keepIfBetter_179 Γ M r0 r0_0 r0_1 e_i179 e_i180 e_i181 a1 a2 hy ⟨rfl, rfl⟩)

noncomputable def fDy_followersOf_L4 (r0_2 : Nat → Int32) (a1 : Int32) (x1 : Int32) (x2 : Int32) : Option ((Int32 × Int32) ⊕ (Int32)) :=
  (if 6 ≤ x2 then
  some (.inr x1)
  else
  (zrd r0_2 6 x2).bind (fun (v11 : Int32) =>
  (if v11 = a1 then
  zlet (x1 ||| ((1 : Int32) <<< (x2 &&& 31))) (fun (x13 : Int32) =>
  zlet (x2 + 1) (fun (x14 : Int32) =>
  some (.inl (x13, x14))))
  else
  zlet (x2 + 1) (fun (x15 : Int32) =>
  some (.inl (x1, x15))))))
noncomputable def fDy_followersOf (r0_2 : Nat → Int32) (a1 : Int32) : Option (Int32) :=
  (zLP (fun s => fDy_followersOf_L4 r0_2 a1 s.1 s.2) (0, 0)).bind (fun r5 =>
  some r5)

set_option maxRecDepth 20000 in
theorem TX1_followersOf_15 (Γ : zG) {Q : Option Value → zM → Prop} (M : zM) (r0_2 : Nat → Int32) (e_i18 : M.1 18 = r0_2) (a1 : Int32) {res : Int32} (hy : (fDy_followersOf r0_2 a1) = some res) (hq : Q (some (.int res)) M) : zR Γ 1 YX1_followersOf 0 [(0, .ref (zad Γ 15)), (1, .int a1)] [] M Q := by
  unfold fDy_followersOf at hy
  refine zj_iconst (pc' := 1) dX1_followersOf_0 rfl kiconst_0 ?_
  refine zj_istore_n (pc' := 2) (L' := [(2, .int 0), (0, .ref (zad Γ 15)), (1, .int a1)]) dX1_followersOf_1 rfl rfl (by decide) rfl ?_
  refine zj_iconst (pc' := 3) dX1_followersOf_2 rfl kiconst_0 ?_
  refine zj_istore_n (pc' := 4) (L' := [(3, .int 0), (2, .int 0), (0, .ref (zad Γ 15)), (1, .int a1)]) dX1_followersOf_3 rfl rfl (by decide) rfl ?_
  refine zj_loc [2, 3, 1, 0] rfl ?_
  obtain ⟨r5, hr9, hyo6⟩ := zt_b hy
  obtain ⟨n9, hn9⟩ := zLP_some hr9
  have HE3 : ∀ (x16 : Int32), r5 = x16 → zR Γ 1 YX1_followersOf 32 [(2, .int x16)] [] M Q := by
    intro x16 e9
    have hy := hyo6
    try rw [e9] at hy
    try dsimp only at hy
    refine zj_iload_n (pc' := 33) 0 dX1_followersOf_32 rfl rfl rfl ?_
    have e9 := Option.some.inj hy
    subst e9
    exact zj_iret dX1_followersOf_33 rfl hq
  have HL4 : ∀ (n : Nat) (x1 : Int32) (x2 : Int32), zlp (fun s => fDy_followersOf_L4 r0_2 a1 s.1 s.2) n (x1, x2) = some r5 → zR Γ 1 YX1_followersOf 4 [(0, .ref (zad Γ 15)), (1, .int a1), (2, .int x1), (3, .int x2)] [] M Q := by
    intro n
    induction n with
    | zero => intro x1 x2 hn9; cases hn9
    | succ n ih7 =>
      intro x1 x2 hn9
      obtain ⟨o9, hb9, h8, h9⟩ := zlp_step hn9
      have hy : fDy_followersOf_L4 r0_2 a1 x1 x2 = some o9 := hb9
      unfold fDy_followersOf_L4 at hy
      refine zj_iload_n (pc' := 5) 3 dX1_followersOf_4 rfl rfl rfl ?_
      refine zj_bipush (pc' := 7) dX1_followersOf_5 rfl kbipush_6 ?_
      refine zj_icmp_ge (tgt := 32) (pc' := 10) dX1_followersOf_7 rfl (by decide) (fun c10 => ?_) (fun c10 => ?_)
      · have hy := zt_t hy c10
        have e9 := h9 _ (Option.some.inj hy).symm
        refine zj_loc [2] rfl ?_
        exact HE3 _ e9.symm
      · have hy := zt_f hy c10
        refine zj_aload_n (pc' := 11) 0 dX1_followersOf_10 rfl rfl rfl ?_
        refine zj_getR (pc' := 14) (j := 18) dX1_followersOf_11 rfl flX1_18 sh15 rfl ?_
        refine zj_iload_n (pc' := 15) 3 dX1_followersOf_14 rfl rfl rfl ?_
        obtain ⟨v11, hv11, hy⟩ := zt_b hy
        refine zj_rdi (pc' := 16) dX1_followersOf_15 rfl sh18 e_i18 hv11 ?_
        refine zj_iload_n (pc' := 17) 1 dX1_followersOf_16 rfl rfl rfl ?_
        refine zj_icmp_ne (tgt := 26) (pc' := 20) dX1_followersOf_17 rfl (by decide) (fun c12 => ?_) (fun c12 => ?_)
        · have hy := zt_f hy c12
          obtain ⟨x15, ex15⟩ : ∃ z : Int32, z = (x2 + 1) := ⟨_, rfl⟩
          have hy := zlet_at ex15 hy
          refine zj_iinc (pc' := 29) 3 (L' := [(3, .int x15), (0, .ref (zad Γ 15)), (1, .int a1), (2, .int x1)]) dX1_followersOf_26 rfl rfl (by decide) (by rw [ci1, ← ex15]; rfl) ?_
          refine zj_goto (tgt := 4) dX1_followersOf_29 (by decide) ?_
          have hn9 := h8 _ (Option.some.inj hy).symm
          refine zj_loc [1, 2, 3, 0] rfl ?_
          exact ih7 _ _ hn9
        · have hy := zt_t hy c12
          refine zj_iload_n (pc' := 21) 2 dX1_followersOf_20 rfl rfl rfl ?_
          refine zj_iconst (pc' := 22) dX1_followersOf_21 rfl kiconst_1 ?_
          refine zj_iload_n (pc' := 23) 3 dX1_followersOf_22 rfl rfl rfl ?_
          refine zj_ishl (pc' := 24) dX1_followersOf_23 rfl ?_
          refine zj_ior (pc' := 25) dX1_followersOf_24 rfl ?_
          refine zj_topi (fun x13 ex13 => ?_)
          have hy := zlet_at ex13 hy
          refine zj_istore_n (pc' := 26) (L' := [(2, .int x13), (0, .ref (zad Γ 15)), (1, .int a1), (3, .int x2)]) dX1_followersOf_25 rfl rfl (by decide) rfl ?_
          obtain ⟨x14, ex14⟩ : ∃ z : Int32, z = (x2 + 1) := ⟨_, rfl⟩
          have hy := zlet_at ex14 hy
          refine zj_iinc (pc' := 29) 3 (L' := [(3, .int x14), (2, .int x13), (0, .ref (zad Γ 15)), (1, .int a1)]) dX1_followersOf_26 rfl rfl (by decide) (by rw [ci1, ← ex14]; rfl) ?_
          refine zj_goto (tgt := 4) dX1_followersOf_29 (by decide) ?_
          have hn9 := h8 _ (Option.some.inj hy).symm
          refine zj_loc [2, 3, 1, 0] rfl ?_
          exact ih7 _ _ hn9
  exact HL4 n9 _ _ hn9
set_option maxRecDepth 20000 in
theorem LX1_followersOf_15 (Γ : zG) (M : zM) (r0_2 : Nat → Int32) (e_i18 : M.1 18 = r0_2) (a1 : Int32) {res : Int32} (hy : (fDy_followersOf r0_2 a1) = some res) : zK Γ 1 YX1_followersOf [.ref (zad Γ 15), .int a1] M (fun v N => v = some (.int res) ∧ N = M) :=
  zK_of (by decide) (Nat.le_of_ble_eq_true rfl) (TX1_followersOf_15 Γ M r0_2 e_i18 a1 hy ⟨rfl, rfl⟩)

noncomputable def fM_worthBy (r0_6 : Nat → Int32) (r0_20 : Nat → Int32) (r0_33 : Nat → Int32) (a1 : Int32) (a2 : Int32) (a3 : Int32) : Option (Int32) :=
  (if 0 ≤ a3 then
  (zrd r0_6 397 (91 + a3)).bind (fun (v2 : Int32) =>
  (zrd r0_6 397 (91 + a1)).bind (fun (v3 : Int32) =>
  (zrd r0_20 64 ((8 * v2) + v3)).bind (fun (v4 : Int32) =>
  (zrd r0_33 448 ((64 * (a1 + 1)) + (a2 ||| ((1 : Int32) <<< (a3 &&& 31))))).bind (fun (v5 : Int32) =>
  some ((1000 - v4) + v5)))))
  else
  (zrd r0_33 448 ((64 * (a1 + 1)) + a2)).bind (fun (v6 : Int32) =>
  some v6))

set_option maxRecDepth 20000 in
theorem TX12_worthBy_186 (Γ : zG) {Q : Option Value → zM → Prop} (M : zM) (r0_6 : Nat → Int32) (r0_20 : Nat → Int32) (r0_33 : Nat → Int32) (e_i188 : M.1 188 = r0_6) (e_i193 : M.1 193 = r0_20) (e_i198 : M.1 198 = r0_33) (a1 : Int32) (a2 : Int32) (a3 : Int32) {res : Int32} (hy : (fM_worthBy r0_6 r0_20 r0_33 a1 a2 a3) = some res) (hq : Q (some (.int res)) M) : zR Γ 1 YX12_worthBy 0 [(0, .ref (zad Γ 186)), (1, .int a1), (2, .int a2), (3, .int a3)] [] M Q := by
  unfold fM_worthBy at hy
  refine zj_iload_n (pc' := 1) 3 dX12_worthBy_0 rfl rfl rfl ?_
  refine zj_if_ge (tgt := 20) (pc' := 4) dX12_worthBy_1 rfl (by decide) (fun c1 => ?_) (fun c1 => ?_)
  · have hy := zt_t hy c1
    refine zj_sipush (pc' := 23) dX12_worthBy_20 rfl ksipush_1000 ?_
    refine zj_aload_n (pc' := 24) 0 dX12_worthBy_23 rfl rfl rfl ?_
    refine zj_getR (pc' := 27) (j := 193) dX12_worthBy_24 rfl flX12_50 sh186 rfl ?_
    refine zj_bipush (pc' := 29) dX12_worthBy_27 rfl kbipush_8 ?_
    refine zj_aload_n (pc' := 30) 0 dX12_worthBy_29 rfl rfl rfl ?_
    refine zj_getR (pc' := 33) (j := 188) dX12_worthBy_30 rfl flX12_33 sh186 rfl ?_
    refine zj_bipush (pc' := 35) dX12_worthBy_33 rfl kbipush_91 ?_
    refine zj_iload_n (pc' := 36) 3 dX12_worthBy_35 rfl rfl rfl ?_
    refine zj_iadd (pc' := 37) dX12_worthBy_36 rfl ?_
    obtain ⟨v2, hv2, hy⟩ := zt_b hy
    refine zj_rdi (pc' := 38) dX12_worthBy_37 rfl sh188 e_i188 hv2 ?_
    refine zj_imul (pc' := 39) dX12_worthBy_38 rfl ?_
    refine zj_aload_n (pc' := 40) 0 dX12_worthBy_39 rfl rfl rfl ?_
    refine zj_getR (pc' := 43) (j := 188) dX12_worthBy_40 rfl flX12_33 sh186 rfl ?_
    refine zj_bipush (pc' := 45) dX12_worthBy_43 rfl kbipush_91 ?_
    refine zj_iload_n (pc' := 46) 1 dX12_worthBy_45 rfl rfl rfl ?_
    refine zj_iadd (pc' := 47) dX12_worthBy_46 rfl ?_
    obtain ⟨v3, hv3, hy⟩ := zt_b hy
    refine zj_rdi (pc' := 48) dX12_worthBy_47 rfl sh188 e_i188 hv3 ?_
    refine zj_iadd (pc' := 49) dX12_worthBy_48 rfl ?_
    obtain ⟨v4, hv4, hy⟩ := zt_b hy
    refine zj_rdi (pc' := 50) dX12_worthBy_49 rfl sh193 e_i193 hv4 ?_
    refine zj_isub (pc' := 51) dX12_worthBy_50 rfl ?_
    refine zj_aload_n (pc' := 52) 0 dX12_worthBy_51 rfl rfl rfl ?_
    refine zj_getR (pc' := 55) (j := 198) dX12_worthBy_52 rfl flX12_68 sh186 rfl ?_
    refine zj_bipush (pc' := 57) dX12_worthBy_55 rfl kbipush_64 ?_
    refine zj_iload_n (pc' := 58) 1 dX12_worthBy_57 rfl rfl rfl ?_
    refine zj_iconst (pc' := 59) dX12_worthBy_58 rfl kiconst_1 ?_
    refine zj_iadd (pc' := 60) dX12_worthBy_59 rfl ?_
    refine zj_imul (pc' := 61) dX12_worthBy_60 rfl ?_
    refine zj_iload_n (pc' := 62) 2 dX12_worthBy_61 rfl rfl rfl ?_
    refine zj_iconst (pc' := 63) dX12_worthBy_62 rfl kiconst_1 ?_
    refine zj_iload_n (pc' := 64) 3 dX12_worthBy_63 rfl rfl rfl ?_
    refine zj_ishl (pc' := 65) dX12_worthBy_64 rfl ?_
    refine zj_ior (pc' := 66) dX12_worthBy_65 rfl ?_
    refine zj_iadd (pc' := 67) dX12_worthBy_66 rfl ?_
    obtain ⟨v5, hv5, hy⟩ := zt_b hy
    refine zj_rdi (pc' := 68) dX12_worthBy_67 rfl sh198 e_i198 hv5 ?_
    refine zj_iadd (pc' := 69) dX12_worthBy_68 rfl ?_
    have e9 := Option.some.inj hy
    subst e9
    exact zj_iret dX12_worthBy_69 rfl hq
  · have hy := zt_f hy c1
    refine zj_aload_n (pc' := 5) 0 dX12_worthBy_4 rfl rfl rfl ?_
    refine zj_getR (pc' := 8) (j := 198) dX12_worthBy_5 rfl flX12_68 sh186 rfl ?_
    refine zj_bipush (pc' := 10) dX12_worthBy_8 rfl kbipush_64 ?_
    refine zj_iload_n (pc' := 11) 1 dX12_worthBy_10 rfl rfl rfl ?_
    refine zj_iconst (pc' := 12) dX12_worthBy_11 rfl kiconst_1 ?_
    refine zj_iadd (pc' := 13) dX12_worthBy_12 rfl ?_
    refine zj_imul (pc' := 14) dX12_worthBy_13 rfl ?_
    refine zj_iload_n (pc' := 15) 2 dX12_worthBy_14 rfl rfl rfl ?_
    refine zj_iadd (pc' := 16) dX12_worthBy_15 rfl ?_
    obtain ⟨v6, hv6, hy⟩ := zt_b hy
    refine zj_rdi (pc' := 17) dX12_worthBy_16 rfl sh198 e_i198 hv6 ?_
    refine zj_goto (tgt := 69) dX12_worthBy_17 (by decide) ?_
    have e9 := Option.some.inj hy
    subst e9
    exact zj_iret dX12_worthBy_69 rfl hq
set_option maxRecDepth 20000 in
theorem LX12_worthBy_186 (Γ : zG) (M : zM) (r0_6 : Nat → Int32) (r0_20 : Nat → Int32) (r0_33 : Nat → Int32) (e_i188 : M.1 188 = r0_6) (e_i193 : M.1 193 = r0_20) (e_i198 : M.1 198 = r0_33) (a1 : Int32) (a2 : Int32) (a3 : Int32) {res : Int32} (hy : (fM_worthBy r0_6 r0_20 r0_33 a1 a2 a3) = some res) : zK Γ 1 YX12_worthBy [.ref (zad Γ 186), .int a1, .int a2, .int a3] M (fun v N => v = some (.int res) ∧ N = M) :=
  zK_of (by decide) (Nat.le_of_ble_eq_true rfl) (TX12_worthBy_186 Γ M r0_6 r0_20 r0_33 e_i188 e_i193 e_i198 a1 a2 a3 hy ⟨rfl, rfl⟩)

noncomputable def fM_isIdle (r0_6 : Nat → Int32) (a1 : Int32) : Option (Bool) :=
  (zrd r0_6 397 (133 + a1)).bind (fun (v1 : Int32) =>
  (if v1 = 0 then
  (zrd r0_6 397 (145 + a1)).bind (fun (v3 : Int32) =>
  some (if v3 = 0 then true else false))
  else
  some false))

set_option maxRecDepth 20000 in
theorem TX12_isIdle_186 (Γ : zG) {Q : Option Value → zM → Prop} (M : zM) (r0_6 : Nat → Int32) (e_i188 : M.1 188 = r0_6) (a1 : Int32) {res : Bool} (hy : (fM_isIdle r0_6 a1) = some res) (hq : Q (some (.int (zb res))) M) : zR Γ 1 YX12_isIdle 0 [(0, .ref (zad Γ 186)), (1, .int a1)] [] M Q := by
  unfold fM_isIdle at hy
  refine zj_aload_n (pc' := 1) 0 dX12_isIdle_0 rfl rfl rfl ?_
  refine zj_getR (pc' := 4) (j := 188) dX12_isIdle_1 rfl flX12_33 sh186 rfl ?_
  refine zj_sipush (pc' := 7) dX12_isIdle_4 rfl ksipush_133 ?_
  refine zj_iload_n (pc' := 8) 1 dX12_isIdle_7 rfl rfl rfl ?_
  refine zj_iadd (pc' := 9) dX12_isIdle_8 rfl ?_
  obtain ⟨v1, hv1, hy⟩ := zt_b hy
  refine zj_rdi (pc' := 10) dX12_isIdle_9 rfl sh188 e_i188 hv1 ?_
  refine zj_if_ne (tgt := 30) (pc' := 13) dX12_isIdle_10 rfl (by decide) (fun c2 => ?_) (fun c2 => ?_)
  · have hy := zt_f hy c2
    refine zj_iconst (pc' := 31) dX12_isIdle_30 rfl kiconst_0 ?_
    have e9 := Option.some.inj hy
    subst e9
    exact zj_bret (b := false) dX12_isIdle_31 rfl hq
  · have hy := zt_t hy c2
    refine zj_aload_n (pc' := 14) 0 dX12_isIdle_13 rfl rfl rfl ?_
    refine zj_getR (pc' := 17) (j := 188) dX12_isIdle_14 rfl flX12_33 sh186 rfl ?_
    refine zj_sipush (pc' := 20) dX12_isIdle_17 rfl ksipush_145 ?_
    refine zj_iload_n (pc' := 21) 1 dX12_isIdle_20 rfl rfl rfl ?_
    refine zj_iadd (pc' := 22) dX12_isIdle_21 rfl ?_
    obtain ⟨v3, hv3, hy⟩ := zt_b hy
    refine zj_rdi (pc' := 23) dX12_isIdle_22 rfl sh188 e_i188 hv3 ?_
    have HJ4 : zR Γ 1 YX12_isIdle 31 [(0, .ref (zad Γ 186)), (1, .int a1)] [.int (zb (if v3 = 0 then true else false))] M Q := by
      have e9 := Option.some.inj hy
      subst e9
      exact zj_bret (b := (if v3 = 0 then true else false)) dX12_isIdle_31 rfl hq
    refine zj_if_ne (tgt := 30) (pc' := 26) dX12_isIdle_23 rfl (by decide) (fun c5 => ?_) (fun c5 => ?_)
    · refine zj_iconst (pc' := 31) dX12_isIdle_30 rfl kiconst_0 ?_
      exact zj_eqb (b := false) (if_neg c5) HJ4
    · refine zj_iconst (pc' := 27) dX12_isIdle_26 rfl kiconst_1 ?_
      refine zj_goto (tgt := 31) dX12_isIdle_27 (by decide) ?_
      exact zj_eqb (b := true) (if_pos c5) HJ4
set_option maxRecDepth 20000 in
theorem LX12_isIdle_186 (Γ : zG) (M : zM) (r0_6 : Nat → Int32) (e_i188 : M.1 188 = r0_6) (a1 : Int32) {res : Bool} (hy : (fM_isIdle r0_6 a1) = some res) : zK Γ 1 YX12_isIdle [.ref (zad Γ 186), .int a1] M (fun v N => v = some (.int (zb res)) ∧ N = M) :=
  zK_of (by decide) (Nat.le_of_ble_eq_true rfl) (TX12_isIdle_186 Γ M r0_6 e_i188 a1 hy ⟨rfl, rfl⟩)

noncomputable def fM_couldBe_L28 (r0_6 : Nat → Int32) (r0_20 : Nat → Int32) (a1 : Int32) (a2 : Int32) (x5 : Int32) (x6 : Int32) : Option ((Int32 × Int32) ⊕ (Int32)) :=
  (if (r0_6 2) ≤ x6 then
  some (.inr x5)
  else
  (fM_isIdle r0_6 x6).bind (fun (y15 : Bool) =>
  (if y15 = true then
  (if (fM_bitOf a2 x6) = true then
  zlet (x5 ||| 0) (fun (x18 : Int32) =>
  zlet (x6 + 1) (fun (x19 : Int32) =>
  some (.inl (x18, x19))))
  else
  (zrd r0_6 397 (91 + x6)).bind (fun (v20 : Int32) =>
  (zrd r0_6 397 (91 + a1)).bind (fun (v21 : Int32) =>
  (zrd r0_20 64 ((8 * v20) + v21)).bind (fun (v22 : Int32) =>
  zlet (x5 ||| (if 1000000 ≤ v22 then (0 : Int32) else ((1 : Int32) <<< (x6 &&& 31)))) (fun (x25 : Int32) =>
  zlet (x6 + 1) (fun (x26 : Int32) =>
  some (.inl (x25, x26))))))))
  else
  zlet (x5 ||| 0) (fun (x27 : Int32) =>
  zlet (x6 + 1) (fun (x28 : Int32) =>
  some (.inl (x27, x28)))))))
noncomputable def fM_couldBe (r0_6 : Nat → Int32) (r0_20 : Nat → Int32) (a1 : Int32) (a2 : Int32) : Option (Int32) :=
  (zrd r0_6 397 (145 + a1)).bind (fun (v1 : Int32) =>
  (if v1 = 0 then
  some 0
  else
  (fM_followersOf r0_6 a1).bind (fun (y3 : Int32) =>
  (if y3 = 0 then
  (zLP (fun s => fM_couldBe_L28 r0_6 r0_20 a1 a2 s.1 s.2) (0, 0)).bind (fun r9 =>
  some r9)
  else
  some 0))))

set_option maxRecDepth 20000 in
theorem TX12_couldBe_186 (Γ : zG) {Q : Option Value → zM → Prop} (M : zM) (r0_6 : Nat → Int32) (r0_20 : Nat → Int32) (e_i188 : M.1 188 = r0_6) (e_i193 : M.1 193 = r0_20) (a1 : Int32) (a2 : Int32) {res : Int32} (hy : (fM_couldBe r0_6 r0_20 a1 a2) = some res) (hq : Q (some (.int res)) M) : zR Γ 3 YX12_couldBe 0 [(0, .ref (zad Γ 186)), (1, .int a1), (2, .int a2)] [] M Q := by
  unfold fM_couldBe at hy
  refine zj_aload_n (pc' := 1) 0 dX12_couldBe_0 rfl rfl rfl ?_
  refine zj_getR (pc' := 4) (j := 188) dX12_couldBe_1 rfl flX12_33 sh186 rfl ?_
  refine zj_sipush (pc' := 7) dX12_couldBe_4 rfl ksipush_145 ?_
  refine zj_iload_n (pc' := 8) 1 dX12_couldBe_7 rfl rfl rfl ?_
  refine zj_iadd (pc' := 9) dX12_couldBe_8 rfl ?_
  obtain ⟨v1, hv1, hy⟩ := zt_b hy
  refine zj_rdi (pc' := 10) dX12_couldBe_9 rfl sh188 e_i188 hv1 ?_
  refine zj_if_eq (tgt := 21) (pc' := 13) dX12_couldBe_10 rfl (by decide) (fun c2 => ?_) (fun c2 => ?_)
  · have hy := zt_t hy c2
    refine zj_iconst (pc' := 22) dX12_couldBe_21 rfl kiconst_0 ?_
    have e9 := Option.some.inj hy
    subst e9
    exact zj_iret dX12_couldBe_22 rfl hq
  · have hy := zt_f hy c2
    refine zj_aload_n (pc' := 14) 0 dX12_couldBe_13 rfl rfl rfl ?_
    refine zj_iload_n (pc' := 15) 1 dX12_couldBe_14 rfl rfl rfl ?_
    obtain ⟨y3, hy3, hy⟩ := zt_b hy
    refine zj_V1 (pc' := 18) (z := YX12_followersOf) (As := [.int a1]) (N := M) dX12_couldBe_15 rfl mlX12_277 lkX12_followersOf sh186 ⟨_, _, rfl⟩ rfl rfl (Nat.le_of_ble_eq_true rfl) (Nat.le_of_ble_eq_true rfl) (LX12_followersOf_186 Γ _ r0_6 e_i188 a1 hy3) rfl ?_
    refine zj_if_eq (tgt := 23) (pc' := 21) dX12_couldBe_18 rfl (by decide) (fun c4 => ?_) (fun c4 => ?_)
    · have hy := zt_t hy c4
      refine zj_iconst (pc' := 24) dX12_couldBe_23 rfl kiconst_0 ?_
      refine zj_istore_n (pc' := 25) (L' := [(3, .int 0), (0, .ref (zad Γ 186)), (1, .int a1), (2, .int a2)]) dX12_couldBe_24 rfl rfl (by decide) rfl ?_
      refine zj_iconst (pc' := 26) dX12_couldBe_25 rfl kiconst_0 ?_
      refine zj_istore (pc' := 28) (L' := [(4, .int 0), (3, .int 0), (0, .ref (zad Γ 186)), (1, .int a1), (2, .int a2)]) dX12_couldBe_26 rfl (by decide) rfl ?_
      refine zj_loc [2, 3, 4, 1, 0] rfl ?_
      obtain ⟨r9, hr9, hyo10⟩ := zt_b hy
      obtain ⟨n9, hn9⟩ := zLP_some hr9
      have HE7 : ∀ (x29 : Int32), r9 = x29 → zR Γ 3 YX12_couldBe 108 [(3, .int x29)] [] M Q := by
        intro x29 e9
        have hy := hyo10
        try rw [e9] at hy
        try dsimp only at hy
        refine zj_iload_n (pc' := 109) 0 dX12_couldBe_108 rfl rfl rfl ?_
        have e9 := Option.some.inj hy
        subst e9
        exact zj_iret dX12_couldBe_109 rfl hq
      have HL8 : ∀ (n : Nat) (x5 : Int32) (x6 : Int32), zlp (fun s => fM_couldBe_L28 r0_6 r0_20 a1 a2 s.1 s.2) n (x5, x6) = some r9 → zR Γ 3 YX12_couldBe 28 [(0, .ref (zad Γ 186)), (1, .int a1), (2, .int a2), (3, .int x5), (4, .int x6)] [] M Q := by
        intro n
        induction n with
        | zero => intro x5 x6 hn9; cases hn9
        | succ n ih11 =>
          intro x5 x6 hn9
          obtain ⟨o9, hb9, h12, h13⟩ := zlp_step hn9
          have hy : fM_couldBe_L28 r0_6 r0_20 a1 a2 x5 x6 = some o9 := hb9
          unfold fM_couldBe_L28 at hy
          refine zj_iload (pc' := 30) 4 dX12_couldBe_28 rfl rfl ?_
          refine zj_aload_n (pc' := 31) 0 dX12_couldBe_30 rfl rfl rfl ?_
          refine zj_getR (pc' := 34) (j := 188) dX12_couldBe_31 rfl flX12_33 sh186 rfl ?_
          refine zj_iconst (pc' := 35) dX12_couldBe_34 rfl kiconst_2 ?_
          refine zj_rdi (pc' := 36) dX12_couldBe_35 rfl sh188 e_i188 (zrdK zi2_397 tn2) ?_
          refine zj_icmp_ge (tgt := 108) (pc' := 39) dX12_couldBe_36 rfl (by decide) (fun c14 => ?_) (fun c14 => ?_)
          · have hy := zt_t hy c14
            have e9 := h13 _ (Option.some.inj hy).symm
            refine zj_loc [3] rfl ?_
            exact HE7 _ e9.symm
          · have hy := zt_f hy c14
            refine zj_iload_n (pc' := 40) 3 dX12_couldBe_39 rfl rfl rfl ?_
            refine zj_aload_n (pc' := 41) 0 dX12_couldBe_40 rfl rfl rfl ?_
            refine zj_iload (pc' := 43) 4 dX12_couldBe_41 rfl rfl ?_
            obtain ⟨y15, hy15, hy⟩ := zt_b hy
            refine zj_V1 (pc' := 46) (z := YX12_isIdle) (As := [.int x6]) (N := M) dX12_couldBe_43 rfl mlX12_373 lkX12_isIdle sh186 ⟨_, _, rfl⟩ rfl rfl (Nat.le_of_ble_eq_true rfl) (Nat.le_of_ble_eq_true rfl) (LX12_isIdle_186 Γ _ r0_6 e_i188 x6 hy15) rfl ?_
            refine zj_bif_eq (tgt := 99) (pc' := 49) dX12_couldBe_46 rfl (by decide) (fun c16 => ?_) (fun c16 => ?_)
            · have hy := zt_f hy c16
              refine zj_iconst (pc' := 100) dX12_couldBe_99 rfl kiconst_0 ?_
              refine zj_ior (pc' := 101) dX12_couldBe_100 rfl ?_
              refine zj_topi (fun x27 ex27 => ?_)
              have hy := zlet_at ex27 hy
              refine zj_istore_n (pc' := 102) (L' := [(3, .int x27), (0, .ref (zad Γ 186)), (1, .int a1), (2, .int a2), (4, .int x6)]) dX12_couldBe_101 rfl rfl (by decide) rfl ?_
              obtain ⟨x28, ex28⟩ : ∃ z : Int32, z = (x6 + 1) := ⟨_, rfl⟩
              have hy := zlet_at ex28 hy
              refine zj_iinc (pc' := 105) 4 (L' := [(4, .int x28), (3, .int x27), (0, .ref (zad Γ 186)), (1, .int a1), (2, .int a2)]) dX12_couldBe_102 rfl rfl (by decide) (by rw [ci1, ← ex28]; rfl) ?_
              refine zj_goto (tgt := 28) dX12_couldBe_105 (by decide) ?_
              have hn9 := h12 _ (Option.some.inj hy).symm
              refine zj_loc [2, 3, 4, 1, 0] rfl ?_
              exact ih11 _ _ hn9
            · have hy := zt_t hy c16
              refine zj_iload_n (pc' := 50) 2 dX12_couldBe_49 rfl rfl rfl ?_
              refine zj_iload (pc' := 52) 4 dX12_couldBe_50 rfl rfl ?_
              refine zj_S1 (pc' := 55) (z := YX12_bitOf) (As := [.int a2, .int x6]) (N := M) dX12_couldBe_52 rfl mlX12_235 lkX12_bitOf rfl rfl (Nat.le_of_ble_eq_true rfl) (Nat.le_of_ble_eq_true rfl) (LX12_bitOf Γ _ a2 x6 rfl) rfl ?_
              refine zj_bif_ne (tgt := 99) (pc' := 58) dX12_couldBe_55 rfl (by decide) (fun c17 => ?_) (fun c17 => ?_)
              · have hy := zt_t hy c17
                refine zj_iconst (pc' := 100) dX12_couldBe_99 rfl kiconst_0 ?_
                refine zj_ior (pc' := 101) dX12_couldBe_100 rfl ?_
                refine zj_topi (fun x18 ex18 => ?_)
                have hy := zlet_at ex18 hy
                refine zj_istore_n (pc' := 102) (L' := [(3, .int x18), (0, .ref (zad Γ 186)), (1, .int a1), (2, .int a2), (4, .int x6)]) dX12_couldBe_101 rfl rfl (by decide) rfl ?_
                obtain ⟨x19, ex19⟩ : ∃ z : Int32, z = (x6 + 1) := ⟨_, rfl⟩
                have hy := zlet_at ex19 hy
                refine zj_iinc (pc' := 105) 4 (L' := [(4, .int x19), (3, .int x18), (0, .ref (zad Γ 186)), (1, .int a1), (2, .int a2)]) dX12_couldBe_102 rfl rfl (by decide) (by rw [ci1, ← ex19]; rfl) ?_
                refine zj_goto (tgt := 28) dX12_couldBe_105 (by decide) ?_
                have hn9 := h12 _ (Option.some.inj hy).symm
                refine zj_loc [2, 3, 4, 1, 0] rfl ?_
                exact ih11 _ _ hn9
              · have hy := zt_f hy c17
                refine zj_aload_n (pc' := 59) 0 dX12_couldBe_58 rfl rfl rfl ?_
                refine zj_getR (pc' := 62) (j := 193) dX12_couldBe_59 rfl flX12_50 sh186 rfl ?_
                refine zj_bipush (pc' := 64) dX12_couldBe_62 rfl kbipush_8 ?_
                refine zj_aload_n (pc' := 65) 0 dX12_couldBe_64 rfl rfl rfl ?_
                refine zj_getR (pc' := 68) (j := 188) dX12_couldBe_65 rfl flX12_33 sh186 rfl ?_
                refine zj_bipush (pc' := 70) dX12_couldBe_68 rfl kbipush_91 ?_
                refine zj_iload (pc' := 72) 4 dX12_couldBe_70 rfl rfl ?_
                refine zj_iadd (pc' := 73) dX12_couldBe_72 rfl ?_
                obtain ⟨v20, hv20, hy⟩ := zt_b hy
                refine zj_rdi (pc' := 74) dX12_couldBe_73 rfl sh188 e_i188 hv20 ?_
                refine zj_imul (pc' := 75) dX12_couldBe_74 rfl ?_
                refine zj_aload_n (pc' := 76) 0 dX12_couldBe_75 rfl rfl rfl ?_
                refine zj_getR (pc' := 79) (j := 188) dX12_couldBe_76 rfl flX12_33 sh186 rfl ?_
                refine zj_bipush (pc' := 81) dX12_couldBe_79 rfl kbipush_91 ?_
                refine zj_iload_n (pc' := 82) 1 dX12_couldBe_81 rfl rfl rfl ?_
                refine zj_iadd (pc' := 83) dX12_couldBe_82 rfl ?_
                obtain ⟨v21, hv21, hy⟩ := zt_b hy
                refine zj_rdi (pc' := 84) dX12_couldBe_83 rfl sh188 e_i188 hv21 ?_
                refine zj_iadd (pc' := 85) dX12_couldBe_84 rfl ?_
                obtain ⟨v22, hv22, hy⟩ := zt_b hy
                refine zj_rdi (pc' := 86) dX12_couldBe_85 rfl sh193 e_i193 hv22 ?_
                refine zj_ldcw (pc' := 89) dX12_couldBe_86 rfl cI1681 ?_
                have HJ23 : zR Γ 3 YX12_couldBe 100 [(0, .ref (zad Γ 186)), (1, .int a1), (2, .int a2), (3, .int x5), (4, .int x6)] [.int (if 1000000 ≤ v22 then (0 : Int32) else ((1 : Int32) <<< (x6 &&& 31))), .int x5] M Q := by
                  refine zj_ior (pc' := 101) dX12_couldBe_100 rfl ?_
                  refine zj_topi (fun x25 ex25 => ?_)
                  have hy := zlet_at ex25 hy
                  refine zj_istore_n (pc' := 102) (L' := [(3, .int x25), (0, .ref (zad Γ 186)), (1, .int a1), (2, .int a2), (4, .int x6)]) dX12_couldBe_101 rfl rfl (by decide) rfl ?_
                  obtain ⟨x26, ex26⟩ : ∃ z : Int32, z = (x6 + 1) := ⟨_, rfl⟩
                  have hy := zlet_at ex26 hy
                  refine zj_iinc (pc' := 105) 4 (L' := [(4, .int x26), (3, .int x25), (0, .ref (zad Γ 186)), (1, .int a1), (2, .int a2)]) dX12_couldBe_102 rfl rfl (by decide) (by rw [ci1, ← ex26]; rfl) ?_
                  refine zj_goto (tgt := 28) dX12_couldBe_105 (by decide) ?_
                  have hn9 := h12 _ (Option.some.inj hy).symm
                  refine zj_loc [2, 3, 4, 1, 0] rfl ?_
                  exact ih11 _ _ hn9
                refine zj_icmp_ge (tgt := 99) (pc' := 92) dX12_couldBe_89 rfl (by decide) (fun c24 => ?_) (fun c24 => ?_)
                · refine zj_iconst (pc' := 100) dX12_couldBe_99 rfl kiconst_0 ?_
                  exact zj_eqi (if_pos c24) HJ23
                · refine zj_iconst (pc' := 93) dX12_couldBe_92 rfl kiconst_1 ?_
                  refine zj_iload (pc' := 95) 4 dX12_couldBe_93 rfl rfl ?_
                  refine zj_ishl (pc' := 96) dX12_couldBe_95 rfl ?_
                  refine zj_goto (tgt := 100) dX12_couldBe_96 (by decide) ?_
                  exact zj_eqi (if_neg c24) HJ23
      exact HL8 n9 _ _ hn9
    · have hy := zt_f hy c4
      refine zj_iconst (pc' := 22) dX12_couldBe_21 rfl kiconst_0 ?_
      have e9 := Option.some.inj hy
      subst e9
      exact zj_iret dX12_couldBe_22 rfl hq
set_option maxRecDepth 20000 in
theorem LX12_couldBe_186 (Γ : zG) (M : zM) (r0_6 : Nat → Int32) (r0_20 : Nat → Int32) (e_i188 : M.1 188 = r0_6) (e_i193 : M.1 193 = r0_20) (a1 : Int32) (a2 : Int32) {res : Int32} (hy : (fM_couldBe r0_6 r0_20 a1 a2) = some res) : zK Γ 3 YX12_couldBe [.ref (zad Γ 186), .int a1, .int a2] M (fun v N => v = some (.int res) ∧ N = M) :=
  zK_of (by decide) (Nat.le_of_ble_eq_true rfl) (TX12_couldBe_186 Γ M r0_6 r0_20 e_i188 e_i193 a1 a2 hy ⟨rfl, rfl⟩)

noncomputable def fM_hires_L7 (r0_6 : Nat → Int32) (r0_33v2 : Nat → Int32) (x3 : Int32) : Option (((Nat → Int32) × Int32) ⊕ ((Nat → Int32))) :=
  (if 64 ≤ x3 then
  some (.inr r0_33v2)
  else
  (zwr r0_33v2 448 ((64 * (r0_6 2)) + x3) 0).bind (fun (r0_33v12 : Nat → Int32) =>
  zlet (x3 + 1) (fun (x13 : Int32) =>
  some (.inl (r0_33v12, x13)))))
noncomputable def fM_hires_L76 (r0_6 : Nat → Int32) (r0_20 : Nat → Int32) (x17 : Int32) (r0_33v26 : Nat → Int32) (x27 : Int32) (y37 : Int32) (x38 : Int32) (x39 : Int32) : Option ((Int32 × Int32) ⊕ (Int32)) :=
  (if (r0_6 2) ≤ x39 then
  some (.inr x38)
  else
  (if (fM_bitOf y37 x39) = true then
  (fM_worthBy r0_6 r0_20 r0_33v26 x17 x27 x39).bind (fun (y49 : Int32) =>
  zlet (fM_greater x38 y49) (fun (x50 : Int32) =>
  zlet (x39 + 1) (fun (x51 : Int32) =>
  some (.inl (x50, x51)))))
  else
  zlet (x39 + 1) (fun (x52 : Int32) =>
  some (.inl (x38, x52)))))
noncomputable def fM_hires_L51 (r0_6 : Nat → Int32) (r0_20 : Nat → Int32) (x17 : Int32) (r0_33v26 : Nat → Int32) (x27 : Int32) : Option (((Nat → Int32) × Int32) ⊕ ((Nat → Int32))) :=
  (if 64 ≤ x27 then
  some (.inr r0_33v26)
  else
  (fM_worthBy r0_6 r0_20 r0_33v26 x17 x27 (-1)).bind (fun (y36 : Int32) =>
  (fM_couldBe r0_6 r0_20 x17 x27).bind (fun (y37 : Int32) =>
  (zLP (fun s => fM_hires_L76 r0_6 r0_20 x17 r0_33v26 x27 y37 s.1 s.2) (y36, 0)).bind (fun r42 =>
  (zwr r0_33v26 448 ((64 * x17) + x27) r42).bind (fun (r0_33v54 : Nat → Int32) =>
  zlet (x27 + 1) (fun (x55 : Int32) =>
  some (.inl (r0_33v54, x55))))))))
noncomputable def fM_hires_L45 (r0_6 : Nat → Int32) (r0_20 : Nat → Int32) (r0_33v16 : Nat → Int32) (x17 : Int32) : Option (((Nat → Int32) × Int32) ⊕ ((Nat → Int32))) :=
  (if x17 < 0 then
  some (.inr r0_33v16)
  else
  (zLP (fun s => fM_hires_L51 r0_6 r0_20 x17 s.1 s.2) (r0_33v16, 0)).bind (fun r30 =>
  zlet (x17 + (-1)) (fun (x57 : Int32) =>
  some (.inl (r30, x57)))))
noncomputable def fM_hires_L197 (r0_6 : Nat → Int32) (r0_20 : Nat → Int32) (r0_33v58 : Nat → Int32) (x63 : Int32) (x64 : Int32) (y75 : Int32) (r0_34v77 : Nat → Int32) (x78 : Int32) : Option (((Nat → Int32) × Int32) ⊕ ((Nat → Int32))) :=
  (if x78 < 0 then
  some (.inr r0_34v77)
  else
  (if (fM_bitOf y75 x78) = true then
  (fM_worthBy r0_6 r0_20 r0_33v58 x64 x63 x78).bind (fun (y88 : Int32) =>
  (zrd r0_33v58 448 ((64 * x64) + x63)).bind (fun (v89 : Int32) =>
  (if y88 = v89 then
  (zwr r0_34v77 6 x64 x78).bind (fun (r0_34v91 : Nat → Int32) =>
  zlet (x78 + (-1)) (fun (x92 : Int32) =>
  some (.inl (r0_34v91, x92))))
  else
  zlet (x78 + (-1)) (fun (x93 : Int32) =>
  some (.inl (r0_34v77, x93))))))
  else
  zlet (x78 + (-1)) (fun (x94 : Int32) =>
  some (.inl (r0_34v77, x94)))))
noncomputable def fM_hires_L154 (r0_6 : Nat → Int32) (r0_20 : Nat → Int32) (r0_33v58 : Nat → Int32) (r0v61 : Nat → Int32) (r0_34v62 : Nat → Int32) (x63 : Int32) (x64 : Int32) : Option (((Nat → Int32) × (Nat → Int32) × Int32 × Int32) ⊕ ((Nat → Int32) × (Nat → Int32))) :=
  (if 6 ≤ x64 then
  some (.inr (r0v61, r0_34v62))
  else
  (zwr r0_34v62 6 x64 (-1)).bind (fun (r0_34v73 : Nat → Int32) =>
  (if x64 < (r0_6 2) then
  (fM_couldBe r0_6 r0_20 x64 x63).bind (fun (y75 : Int32) =>
  zlet ((r0_6 2) - 1) (fun (x76 : Int32) =>
  (zLP (fun s => fM_hires_L197 r0_6 r0_20 r0_33v58 x63 x64 y75 s.1 s.2) (r0_34v73, x76)).bind (fun r81 =>
  (zrd r81 6 x64).bind (fun (v96 : Int32) =>
  (if 0 ≤ v96 then
  (zrd r81 6 x64).bind (fun (v98 : Int32) =>
  zlet (x63 ||| ((1 : Int32) <<< (v98 &&& 31))) (fun (x99 : Int32) =>
  zlet (zup r0v61 35 ((r0v61 35) + 1)) (fun (r0v100 : Nat → Int32) =>
  (zrd r81 6 x64).bind (fun (v101 : Int32) =>
  (zrd r0_6 397 (91 + v101)).bind (fun (v102 : Int32) =>
  (zrd r0_6 397 (91 + x64)).bind (fun (v103 : Int32) =>
  (zrd r0_20 64 ((8 * v102) + v103)).bind (fun (v104 : Int32) =>
  zlet (zup r0v100 36 ((r0v100 36) + v104)) (fun (r0v105 : Nat → Int32) =>
  zlet (x64 + 1) (fun (x106 : Int32) =>
  some (.inl (r0v105, r81, x99, x106)))))))))))
  else
  zlet (x64 + 1) (fun (x107 : Int32) =>
  some (.inl (r0v61, r81, x63, x107))))))))
  else
  zlet (x64 + 1) (fun (x108 : Int32) =>
  some (.inl (r0v61, r0_34v73, x63, x108))))))
noncomputable def fM_hires (r0 : Nat → Int32) (r0_6 : Nat → Int32) (r0_20 : Nat → Int32) (r0_33 : Nat → Int32) (r0_34 : Nat → Int32) : Option (Int32 × (Nat → Int32) × (Nat → Int32) × (Nat → Int32)) :=
  zlet (zup r0 0 0) (fun (r0v1 : Nat → Int32) =>
  (zLP (fun s => fM_hires_L7 r0_6 s.1 s.2) (r0_33, 0)).bind (fun r6 =>
  zlet ((r0_6 2) - 1) (fun (x15 : Int32) =>
  (zLP (fun s => fM_hires_L45 r0_6 r0_20 s.1 s.2) (r6, x15)).bind (fun r20 =>
  zlet (zup r0v1 35 0) (fun (r0v59 : Nat → Int32) =>
  zlet (zup r0v59 36 0) (fun (r0v60 : Nat → Int32) =>
  (zLP (fun s => fM_hires_L154 r0_6 r0_20 r20 s.1 s.2.1 s.2.2.1 s.2.2.2) (r0v60, r0_34, 0, 0)).bind (fun r67 =>
  some ((r67.1 35), r67.1, r20, r67.2))))))))

set_option maxRecDepth 20000 in
theorem TX12_hires_186 (Γ : zG) {Q : Option Value → zM → Prop} (M : zM) (r0 : Nat → Int32) (r0_6 : Nat → Int32) (r0_20 : Nat → Int32) (r0_33 : Nat → Int32) (r0_34 : Nat → Int32) (e_i186 : M.1 186 = r0) (e_i188 : M.1 188 = r0_6) (e_i193 : M.1 193 = r0_20) (e_i198 : M.1 198 = r0_33) (e_i199 : M.1 199 = r0_34)  {res : Int32 × (Nat → Int32) × (Nat → Int32) × (Nat → Int32)} (hy : (fM_hires r0 r0_6 r0_20 r0_33 r0_34) = some res) (hq : Q (some (.int res.1)) (zui (zui (zui M 186 res.2.1) 198 res.2.2.1) 199 res.2.2.2)) : zR Γ 4 YX12_hires 0 [(0, .ref (zad Γ 186))] [] M Q := by
  unfold fM_hires at hy
  refine zj_aload_n (pc' := 1) 0 dX12_hires_0 rfl rfl rfl ?_
  refine zj_iconst (pc' := 2) dX12_hires_1 rfl kiconst_0 ?_
  obtain ⟨r0v1, er0v1⟩ : ∃ z, z = (zup r0 0 0) := ⟨_, rfl⟩
  have hy := zlet_at er0v1 hy
  refine zj_pI (pc' := 5) (N := (zui M 186 r0v1)) dX12_hires_2 rfl fpX12_1 sh186 rfl e_i186 er0v1 rfl ?_
  refine zj_iconst (pc' := 6) dX12_hires_5 rfl kiconst_0 ?_
  refine zj_istore_n (pc' := 7) (L' := [(1, .int 0), (0, .ref (zad Γ 186))]) dX12_hires_6 rfl rfl (by decide) rfl ?_
  refine zj_loc [1, 0] rfl ?_
  refine zj_mem (N := (zui (zui M 186 r0v1) 198 r0_33)) (zself_i (zr_n rfl e_i198) rfl) ?_
  obtain ⟨r6, hr9, hyo7⟩ := zt_b hy
  obtain ⟨n9, hn9⟩ := zLP_some hr9
  have HE4 : ∀ (r0_33v14 : Nat → Int32), r6 = r0_33v14 → zR Γ 4 YX12_hires 36 [(0, .ref (zad Γ 186))] [] (zui (zui M 186 r0v1) 198 r0_33v14) Q := by
    intro r0_33v14 e9
    have hy := hyo7
    try rw [e9] at hy
    try dsimp only at hy
    refine zj_aload_n (pc' := 37) 0 dX12_hires_36 rfl rfl rfl ?_
    refine zj_getR (pc' := 40) (j := 188) dX12_hires_37 rfl flX12_33 sh186 rfl ?_
    refine zj_iconst (pc' := 41) dX12_hires_40 rfl kiconst_2 ?_
    refine zj_rdi (pc' := 42) dX12_hires_41 rfl sh188 (zr_n rfl (zr_n rfl e_i188)) (zrdK zi2_397 tn2) ?_
    refine zj_iconst (pc' := 43) dX12_hires_42 rfl kiconst_1 ?_
    refine zj_isub (pc' := 44) dX12_hires_43 rfl ?_
    refine zj_topi (fun x15 ex15 => ?_)
    have hy := zlet_at ex15 hy
    refine zj_istore_n (pc' := 45) (L' := [(1, .int x15), (0, .ref (zad Γ 186))]) dX12_hires_44 rfl rfl (by decide) rfl ?_
    refine zj_loc [1, 0] rfl ?_
    obtain ⟨r20, hr9, hyo21⟩ := zt_b hy
    obtain ⟨n9, hn9⟩ := zLP_some hr9
    have HE18 : ∀ (r0_33v58 : Nat → Int32), r20 = r0_33v58 → zR Γ 4 YX12_hires 140 [(0, .ref (zad Γ 186))] [] (zui (zui M 186 r0v1) 198 r0_33v58) Q := by
      intro r0_33v58 e9
      have hy := hyo21
      try rw [e9] at hy
      try dsimp only at hy
      refine zj_aload_n (pc' := 141) 0 dX12_hires_140 rfl rfl rfl ?_
      refine zj_iconst (pc' := 142) dX12_hires_141 rfl kiconst_0 ?_
      obtain ⟨r0v59, er0v59⟩ : ∃ z, z = (zup r0v1 35 0) := ⟨_, rfl⟩
      have hy := zlet_at er0v59 hy
      refine zj_pI (pc' := 145) (N := (zui (zui M 186 r0v59) 198 r0_33v58)) dX12_hires_142 rfl fpX12_74 sh186 rfl (zr_n rfl zr_s) er0v59 (zm_n rfl zm_s) ?_
      refine zj_aload_n (pc' := 146) 0 dX12_hires_145 rfl rfl rfl ?_
      refine zj_iconst (pc' := 147) dX12_hires_146 rfl kiconst_0 ?_
      obtain ⟨r0v60, er0v60⟩ : ∃ z, z = (zup r0v59 36 0) := ⟨_, rfl⟩
      have hy := zlet_at er0v60 hy
      refine zj_pI (pc' := 150) (N := (zui (zui M 186 r0v60) 198 r0_33v58)) dX12_hires_147 rfl fpX12_383 sh186 rfl (zr_n rfl zr_s) er0v60 (zm_n rfl zm_s) ?_
      refine zj_iconst (pc' := 151) dX12_hires_150 rfl kiconst_0 ?_
      refine zj_istore_n (pc' := 152) (L' := [(1, .int 0), (0, .ref (zad Γ 186))]) dX12_hires_151 rfl rfl (by decide) rfl ?_
      refine zj_iconst (pc' := 153) dX12_hires_152 rfl kiconst_0 ?_
      refine zj_istore_n (pc' := 154) (L' := [(2, .int 0), (1, .int 0), (0, .ref (zad Γ 186))]) dX12_hires_153 rfl rfl (by decide) rfl ?_
      refine zj_loc [2, 1, 0] rfl ?_
      refine zj_mem (N := (zui (zui (zui M 186 r0v60) 198 r0_33v58) 199 r0_34)) (zself_i (zr_n rfl (zr_n rfl e_i199)) rfl) ?_
      obtain ⟨r67, hr9, hyo68⟩ := zt_b hy
      obtain ⟨n9, hn9⟩ := zLP_some hr9
      have HE65 : ∀ (r0v109 : Nat → Int32) (r0_34v110 : Nat → Int32), r67 = (r0v109, r0_34v110) → zR Γ 4 YX12_hires 327 [(0, .ref (zad Γ 186))] [] (zui (zui (zui M 186 r0v109) 198 r0_33v58) 199 r0_34v110) Q := by
        intro r0v109 r0_34v110 e9
        have hy := hyo68
        try rw [e9] at hy
        try dsimp only at hy
        refine zj_aload_n (pc' := 328) 0 dX12_hires_327 rfl rfl rfl ?_
        refine zj_fI (pc' := 331) dX12_hires_328 rfl flX12_74 sh186 rfl (zr_n rfl (zr_n rfl zr_s)) rfl ?_
        have e9 := Option.some.inj hy
        subst e9
        exact zj_iret dX12_hires_331 rfl hq
      have HL66 : ∀ (n : Nat) (r0v61 : Nat → Int32) (r0_34v62 : Nat → Int32) (x63 : Int32) (x64 : Int32), zlp (fun s => fM_hires_L154 r0_6 r0_20 r0_33v58 s.1 s.2.1 s.2.2.1 s.2.2.2) n (r0v61, r0_34v62, x63, x64) = some r67 → zR Γ 4 YX12_hires 154 [(0, .ref (zad Γ 186)), (1, .int x63), (2, .int x64)] [] (zui (zui (zui M 186 r0v61) 198 r0_33v58) 199 r0_34v62) Q := by
        intro n
        induction n with
        | zero => intro r0v61 r0_34v62 x63 x64 hn9; cases hn9
        | succ n ih69 =>
          intro r0v61 r0_34v62 x63 x64 hn9
          obtain ⟨o9, hb9, h70, h71⟩ := zlp_step hn9
          have hy : fM_hires_L154 r0_6 r0_20 r0_33v58 r0v61 r0_34v62 x63 x64 = some o9 := hb9
          unfold fM_hires_L154 at hy
          refine zj_iload_n (pc' := 155) 2 dX12_hires_154 rfl rfl rfl ?_
          refine zj_bipush (pc' := 157) dX12_hires_155 rfl kbipush_6 ?_
          refine zj_icmp_ge (tgt := 327) (pc' := 160) dX12_hires_157 rfl (by decide) (fun c72 => ?_) (fun c72 => ?_)
          · have hy := zt_t hy c72
            have e9 := h71 _ (Option.some.inj hy).symm
            refine zj_loc [0] rfl ?_
            exact HE65 _ _ e9.symm
          · have hy := zt_f hy c72
            refine zj_aload_n (pc' := 161) 0 dX12_hires_160 rfl rfl rfl ?_
            refine zj_getR (pc' := 164) (j := 199) dX12_hires_161 rfl flX12_71 sh186 rfl ?_
            refine zj_iload_n (pc' := 165) 2 dX12_hires_164 rfl rfl rfl ?_
            refine zj_iconst (pc' := 166) dX12_hires_165 rfl kiconst_m1 ?_
            obtain ⟨r0_34v73, hr0_34v73, hy⟩ := zt_b hy
            refine zj_wri (pc' := 167) (N := (zui (zui (zui M 186 r0v61) 198 r0_33v58) 199 r0_34v73)) dX12_hires_166 rfl sh199 zr_s hr0_34v73 zm_s ?_
            refine zj_iload_n (pc' := 168) 2 dX12_hires_167 rfl rfl rfl ?_
            refine zj_aload_n (pc' := 169) 0 dX12_hires_168 rfl rfl rfl ?_
            refine zj_getR (pc' := 172) (j := 188) dX12_hires_169 rfl flX12_33 sh186 rfl ?_
            refine zj_iconst (pc' := 173) dX12_hires_172 rfl kiconst_2 ?_
            refine zj_rdi (pc' := 174) dX12_hires_173 rfl sh188 (zr_n rfl (zr_n rfl (zr_n rfl e_i188))) (zrdK zi2_397 tn2) ?_
            refine zj_icmp_lt (tgt := 180) (pc' := 177) dX12_hires_174 rfl (by decide) (fun c74 => ?_) (fun c74 => ?_)
            · have hy := zt_t hy c74
              refine zj_aload_n (pc' := 181) 0 dX12_hires_180 rfl rfl rfl ?_
              refine zj_iload_n (pc' := 182) 2 dX12_hires_181 rfl rfl rfl ?_
              refine zj_iload_n (pc' := 183) 1 dX12_hires_182 rfl rfl rfl ?_
              obtain ⟨y75, hy75, hy⟩ := zt_b hy
              refine zj_V1 (pc' := 186) (z := YX12_couldBe) (As := [.int x64, .int x63]) (N := (zui (zui (zui M 186 r0v61) 198 r0_33v58) 199 r0_34v73)) dX12_hires_183 rfl mlX12_380 lkX12_couldBe sh186 ⟨_, _, rfl⟩ rfl rfl (Nat.le_of_ble_eq_true rfl) (Nat.le_of_ble_eq_true rfl) (LX12_couldBe_186 Γ _ r0_6 r0_20 (zr_n rfl (zr_n rfl (zr_n rfl e_i188))) (zr_n rfl (zr_n rfl (zr_n rfl e_i193))) x64 x63 hy75) rfl ?_
              refine zj_istore_n (pc' := 187) (L' := [(3, .int y75), (0, .ref (zad Γ 186)), (1, .int x63), (2, .int x64)]) dX12_hires_186 rfl rfl (by decide) rfl ?_
              refine zj_aload_n (pc' := 188) 1 dX12_hires_187 rfl rfl rfl ?_
              refine zj_getR (pc' := 191) (j := 188) dX12_hires_188 rfl flX12_33 sh186 rfl ?_
              refine zj_iconst (pc' := 192) dX12_hires_191 rfl kiconst_2 ?_
              refine zj_rdi (pc' := 193) dX12_hires_192 rfl sh188 (zr_n rfl (zr_n rfl (zr_n rfl e_i188))) (zrdK zi2_397 tn2) ?_
              refine zj_iconst (pc' := 194) dX12_hires_193 rfl kiconst_1 ?_
              refine zj_isub (pc' := 195) dX12_hires_194 rfl ?_
              refine zj_topi (fun x76 ex76 => ?_)
              have hy := zlet_at ex76 hy
              refine zj_istore (pc' := 197) (L' := [(4, .int x76), (3, .int y75), (0, .ref (zad Γ 186)), (1, .int x63), (2, .int x64)]) dX12_hires_195 rfl (by decide) rfl ?_
              refine zj_loc [2, 3, 4, 1, 0] rfl ?_
              obtain ⟨r81, hr9, hyo82⟩ := zt_b hy
              obtain ⟨n9, hn9⟩ := zLP_some hr9
              have HE79 : ∀ (r0_34v95 : Nat → Int32), r81 = r0_34v95 → zR Γ 4 YX12_hires 247 [(0, .ref (zad Γ 186)), (1, .int x63), (2, .int x64)] [] (zui (zui (zui M 186 r0v61) 198 r0_33v58) 199 r0_34v95) Q := by
                intro r0_34v95 e9
                have hy := hyo82
                try rw [e9] at hy
                try dsimp only at hy
                refine zj_aload_n (pc' := 248) 0 dX12_hires_247 rfl rfl rfl ?_
                refine zj_getR (pc' := 251) (j := 199) dX12_hires_248 rfl flX12_71 sh186 rfl ?_
                refine zj_iload_n (pc' := 252) 2 dX12_hires_251 rfl rfl rfl ?_
                obtain ⟨v96, hv96, hy⟩ := zt_b hy
                refine zj_rdi (pc' := 253) dX12_hires_252 rfl sh199 zr_s hv96 ?_
                refine zj_if_ge (tgt := 259) (pc' := 256) dX12_hires_253 rfl (by decide) (fun c97 => ?_) (fun c97 => ?_)
                · have hy := zt_t hy c97
                  refine zj_iload_n (pc' := 260) 1 dX12_hires_259 rfl rfl rfl ?_
                  refine zj_iconst (pc' := 261) dX12_hires_260 rfl kiconst_1 ?_
                  refine zj_aload_n (pc' := 262) 0 dX12_hires_261 rfl rfl rfl ?_
                  refine zj_getR (pc' := 265) (j := 199) dX12_hires_262 rfl flX12_71 sh186 rfl ?_
                  refine zj_iload_n (pc' := 266) 2 dX12_hires_265 rfl rfl rfl ?_
                  obtain ⟨v98, hv98, hy⟩ := zt_b hy
                  refine zj_rdi (pc' := 267) dX12_hires_266 rfl sh199 zr_s hv98 ?_
                  refine zj_ishl (pc' := 268) dX12_hires_267 rfl ?_
                  refine zj_ior (pc' := 269) dX12_hires_268 rfl ?_
                  refine zj_topi (fun x99 ex99 => ?_)
                  have hy := zlet_at ex99 hy
                  refine zj_istore_n (pc' := 270) (L' := [(1, .int x99), (0, .ref (zad Γ 186)), (2, .int x64)]) dX12_hires_269 rfl rfl (by decide) rfl ?_
                  refine zj_aload_n (pc' := 271) 1 dX12_hires_270 rfl rfl rfl ?_
                  refine zj_dup (pc' := 272) dX12_hires_271 rfl rfl ?_
                  refine zj_fI (pc' := 275) dX12_hires_272 rfl flX12_74 sh186 rfl (zr_n rfl (zr_n rfl zr_s)) rfl ?_
                  refine zj_iconst (pc' := 276) dX12_hires_275 rfl kiconst_1 ?_
                  refine zj_iadd (pc' := 277) dX12_hires_276 rfl ?_
                  obtain ⟨r0v100, er0v100⟩ : ∃ z, z = (zup r0v61 35 ((r0v61 35) + 1)) := ⟨_, rfl⟩
                  have hy := zlet_at er0v100 hy
                  refine zj_pI (pc' := 280) (N := (zui (zui (zui M 186 r0v100) 198 r0_33v58) 199 r0_34v95)) dX12_hires_277 rfl fpX12_74 sh186 rfl (zr_n rfl (zr_n rfl zr_s)) er0v100 (zm_n rfl (zm_n rfl zm_s)) ?_
                  refine zj_aload_n (pc' := 281) 1 dX12_hires_280 rfl rfl rfl ?_
                  refine zj_dup (pc' := 282) dX12_hires_281 rfl rfl ?_
                  refine zj_fI (pc' := 285) dX12_hires_282 rfl flX12_383 sh186 rfl (zr_n rfl (zr_n rfl zr_s)) rfl ?_
                  refine zj_aload_n (pc' := 286) 1 dX12_hires_285 rfl rfl rfl ?_
                  refine zj_getR (pc' := 289) (j := 193) dX12_hires_286 rfl flX12_50 sh186 rfl ?_
                  refine zj_bipush (pc' := 291) dX12_hires_289 rfl kbipush_8 ?_
                  refine zj_aload_n (pc' := 292) 1 dX12_hires_291 rfl rfl rfl ?_
                  refine zj_getR (pc' := 295) (j := 188) dX12_hires_292 rfl flX12_33 sh186 rfl ?_
                  refine zj_bipush (pc' := 297) dX12_hires_295 rfl kbipush_91 ?_
                  refine zj_aload_n (pc' := 298) 1 dX12_hires_297 rfl rfl rfl ?_
                  refine zj_getR (pc' := 301) (j := 199) dX12_hires_298 rfl flX12_71 sh186 rfl ?_
                  refine zj_iload_n (pc' := 302) 2 dX12_hires_301 rfl rfl rfl ?_
                  obtain ⟨v101, hv101, hy⟩ := zt_b hy
                  refine zj_rdi (pc' := 303) dX12_hires_302 rfl sh199 zr_s hv101 ?_
                  refine zj_iadd (pc' := 304) dX12_hires_303 rfl ?_
                  obtain ⟨v102, hv102, hy⟩ := zt_b hy
                  refine zj_rdi (pc' := 305) dX12_hires_304 rfl sh188 (zr_n rfl (zr_n rfl (zr_n rfl e_i188))) hv102 ?_
                  refine zj_imul (pc' := 306) dX12_hires_305 rfl ?_
                  refine zj_aload_n (pc' := 307) 1 dX12_hires_306 rfl rfl rfl ?_
                  refine zj_getR (pc' := 310) (j := 188) dX12_hires_307 rfl flX12_33 sh186 rfl ?_
                  refine zj_bipush (pc' := 312) dX12_hires_310 rfl kbipush_91 ?_
                  refine zj_iload_n (pc' := 313) 2 dX12_hires_312 rfl rfl rfl ?_
                  refine zj_iadd (pc' := 314) dX12_hires_313 rfl ?_
                  obtain ⟨v103, hv103, hy⟩ := zt_b hy
                  refine zj_rdi (pc' := 315) dX12_hires_314 rfl sh188 (zr_n rfl (zr_n rfl (zr_n rfl e_i188))) hv103 ?_
                  refine zj_iadd (pc' := 316) dX12_hires_315 rfl ?_
                  obtain ⟨v104, hv104, hy⟩ := zt_b hy
                  refine zj_rdi (pc' := 317) dX12_hires_316 rfl sh193 (zr_n rfl (zr_n rfl (zr_n rfl e_i193))) hv104 ?_
                  refine zj_iadd (pc' := 318) dX12_hires_317 rfl ?_
                  obtain ⟨r0v105, er0v105⟩ : ∃ z, z = (zup r0v100 36 ((r0v100 36) + v104)) := ⟨_, rfl⟩
                  have hy := zlet_at er0v105 hy
                  refine zj_pI (pc' := 321) (N := (zui (zui (zui M 186 r0v105) 198 r0_33v58) 199 r0_34v95)) dX12_hires_318 rfl fpX12_383 sh186 rfl (zr_n rfl (zr_n rfl zr_s)) er0v105 (zm_n rfl (zm_n rfl zm_s)) ?_
                  obtain ⟨x106, ex106⟩ : ∃ z : Int32, z = (x64 + 1) := ⟨_, rfl⟩
                  have hy := zlet_at ex106 hy
                  refine zj_iinc (pc' := 324) 2 (L' := [(2, .int x106), (1, .int x99), (0, .ref (zad Γ 186))]) dX12_hires_321 rfl rfl (by decide) (by rw [ci1, ← ex106]; rfl) ?_
                  refine zj_goto (tgt := 154) dX12_hires_324 (by decide) ?_
                  have hn9 := h70 _ (Option.some.inj hy).symm
                  refine zj_loc [2, 1, 0] rfl ?_
                  exact ih69 _ _ _ _ hn9
                · have hy := zt_f hy c97
                  refine zj_goto (tgt := 321) dX12_hires_256 (by decide) ?_
                  obtain ⟨x107, ex107⟩ : ∃ z : Int32, z = (x64 + 1) := ⟨_, rfl⟩
                  have hy := zlet_at ex107 hy
                  refine zj_iinc (pc' := 324) 2 (L' := [(2, .int x107), (0, .ref (zad Γ 186)), (1, .int x63)]) dX12_hires_321 rfl rfl (by decide) (by rw [ci1, ← ex107]; rfl) ?_
                  refine zj_goto (tgt := 154) dX12_hires_324 (by decide) ?_
                  have hn9 := h70 _ (Option.some.inj hy).symm
                  refine zj_loc [1, 2, 0] rfl ?_
                  exact ih69 _ _ _ _ hn9
              have HL80 : ∀ (n : Nat) (r0_34v77 : Nat → Int32) (x78 : Int32), zlp (fun s => fM_hires_L197 r0_6 r0_20 r0_33v58 x63 x64 y75 s.1 s.2) n (r0_34v77, x78) = some r81 → zR Γ 4 YX12_hires 197 [(0, .ref (zad Γ 186)), (1, .int x63), (2, .int x64), (3, .int y75), (4, .int x78)] [] (zui (zui (zui M 186 r0v61) 198 r0_33v58) 199 r0_34v77) Q := by
                intro n
                induction n with
                | zero => intro r0_34v77 x78 hn9; cases hn9
                | succ n ih83 =>
                  intro r0_34v77 x78 hn9
                  obtain ⟨o9, hb9, h84, h85⟩ := zlp_step hn9
                  have hy : fM_hires_L197 r0_6 r0_20 r0_33v58 x63 x64 y75 r0_34v77 x78 = some o9 := hb9
                  unfold fM_hires_L197 at hy
                  refine zj_iload (pc' := 199) 4 dX12_hires_197 rfl rfl ?_
                  refine zj_if_lt (tgt := 247) (pc' := 202) dX12_hires_199 rfl (by decide) (fun c86 => ?_) (fun c86 => ?_)
                  · have hy := zt_t hy c86
                    have e9 := h85 _ (Option.some.inj hy).symm
                    refine zj_loc [0, 1, 2] rfl ?_
                    exact HE79 _ e9.symm
                  · have hy := zt_f hy c86
                    refine zj_iload_n (pc' := 203) 3 dX12_hires_202 rfl rfl rfl ?_
                    refine zj_iload (pc' := 205) 4 dX12_hires_203 rfl rfl ?_
                    refine zj_S1 (pc' := 208) (z := YX12_bitOf) (As := [.int y75, .int x78]) (N := (zui (zui (zui M 186 r0v61) 198 r0_33v58) 199 r0_34v77)) dX12_hires_205 rfl mlX12_235 lkX12_bitOf rfl rfl (Nat.le_of_ble_eq_true rfl) (Nat.le_of_ble_eq_true rfl) (LX12_bitOf Γ _ y75 x78 rfl) rfl ?_
                    refine zj_bif_eq (tgt := 241) (pc' := 211) dX12_hires_208 rfl (by decide) (fun c87 => ?_) (fun c87 => ?_)
                    · have hy := zt_f hy c87
                      obtain ⟨x94, ex94⟩ : ∃ z : Int32, z = (x78 + (-1)) := ⟨_, rfl⟩
                      have hy := zlet_at ex94 hy
                      refine zj_iinc (pc' := 244) 4 (L' := [(4, .int x94), (0, .ref (zad Γ 186)), (1, .int x63), (2, .int x64), (3, .int y75)]) dX12_hires_241 rfl rfl (by decide) (by rw [cim1, ← ex94]; rfl) ?_
                      refine zj_goto (tgt := 197) dX12_hires_244 (by decide) ?_
                      have hn9 := h84 _ (Option.some.inj hy).symm
                      refine zj_loc [1, 2, 3, 4, 0] rfl ?_
                      exact ih83 _ _ hn9
                    · have hy := zt_t hy c87
                      refine zj_aload_n (pc' := 212) 0 dX12_hires_211 rfl rfl rfl ?_
                      refine zj_iload_n (pc' := 213) 2 dX12_hires_212 rfl rfl rfl ?_
                      refine zj_iload_n (pc' := 214) 1 dX12_hires_213 rfl rfl rfl ?_
                      refine zj_iload (pc' := 216) 4 dX12_hires_214 rfl rfl ?_
                      obtain ⟨y88, hy88, hy⟩ := zt_b hy
                      refine zj_V1 (pc' := 219) (z := YX12_worthBy) (As := [.int x64, .int x63, .int x78]) (N := (zui (zui (zui M 186 r0v61) 198 r0_33v58) 199 r0_34v77)) dX12_hires_216 rfl mlX12_376 lkX12_worthBy sh186 ⟨_, _, rfl⟩ rfl rfl (Nat.le_of_ble_eq_true rfl) (Nat.le_of_ble_eq_true rfl) (LX12_worthBy_186 Γ _ r0_6 r0_20 r0_33v58 (zr_n rfl (zr_n rfl (zr_n rfl e_i188))) (zr_n rfl (zr_n rfl (zr_n rfl e_i193))) (zr_n rfl zr_s) x64 x63 x78 hy88) rfl ?_
                      refine zj_aload_n (pc' := 220) 0 dX12_hires_219 rfl rfl rfl ?_
                      refine zj_getR (pc' := 223) (j := 198) dX12_hires_220 rfl flX12_68 sh186 rfl ?_
                      refine zj_bipush (pc' := 225) dX12_hires_223 rfl kbipush_64 ?_
                      refine zj_iload_n (pc' := 226) 2 dX12_hires_225 rfl rfl rfl ?_
                      refine zj_imul (pc' := 227) dX12_hires_226 rfl ?_
                      refine zj_iload_n (pc' := 228) 1 dX12_hires_227 rfl rfl rfl ?_
                      refine zj_iadd (pc' := 229) dX12_hires_228 rfl ?_
                      obtain ⟨v89, hv89, hy⟩ := zt_b hy
                      refine zj_rdi (pc' := 230) dX12_hires_229 rfl sh198 (zr_n rfl zr_s) hv89 ?_
                      refine zj_icmp_ne (tgt := 241) (pc' := 233) dX12_hires_230 rfl (by decide) (fun c90 => ?_) (fun c90 => ?_)
                      · have hy := zt_f hy c90
                        obtain ⟨x93, ex93⟩ : ∃ z : Int32, z = (x78 + (-1)) := ⟨_, rfl⟩
                        have hy := zlet_at ex93 hy
                        refine zj_iinc (pc' := 244) 4 (L' := [(4, .int x93), (0, .ref (zad Γ 186)), (1, .int x63), (2, .int x64), (3, .int y75)]) dX12_hires_241 rfl rfl (by decide) (by rw [cim1, ← ex93]; rfl) ?_
                        refine zj_goto (tgt := 197) dX12_hires_244 (by decide) ?_
                        have hn9 := h84 _ (Option.some.inj hy).symm
                        refine zj_loc [1, 2, 3, 4, 0] rfl ?_
                        exact ih83 _ _ hn9
                      · have hy := zt_t hy c90
                        refine zj_aload_n (pc' := 234) 0 dX12_hires_233 rfl rfl rfl ?_
                        refine zj_getR (pc' := 237) (j := 199) dX12_hires_234 rfl flX12_71 sh186 rfl ?_
                        refine zj_iload_n (pc' := 238) 2 dX12_hires_237 rfl rfl rfl ?_
                        refine zj_iload (pc' := 240) 4 dX12_hires_238 rfl rfl ?_
                        obtain ⟨r0_34v91, hr0_34v91, hy⟩ := zt_b hy
                        refine zj_wri (pc' := 241) (N := (zui (zui (zui M 186 r0v61) 198 r0_33v58) 199 r0_34v91)) dX12_hires_240 rfl sh199 zr_s hr0_34v91 zm_s ?_
                        obtain ⟨x92, ex92⟩ : ∃ z : Int32, z = (x78 + (-1)) := ⟨_, rfl⟩
                        have hy := zlet_at ex92 hy
                        refine zj_iinc (pc' := 244) 4 (L' := [(4, .int x92), (0, .ref (zad Γ 186)), (1, .int x63), (2, .int x64), (3, .int y75)]) dX12_hires_241 rfl rfl (by decide) (by rw [cim1, ← ex92]; rfl) ?_
                        refine zj_goto (tgt := 197) dX12_hires_244 (by decide) ?_
                        have hn9 := h84 _ (Option.some.inj hy).symm
                        refine zj_loc [1, 2, 3, 4, 0] rfl ?_
                        exact ih83 _ _ hn9
              exact HL80 n9 _ _ hn9
            · have hy := zt_f hy c74
              refine zj_goto (tgt := 321) dX12_hires_177 (by decide) ?_
              obtain ⟨x108, ex108⟩ : ∃ z : Int32, z = (x64 + 1) := ⟨_, rfl⟩
              have hy := zlet_at ex108 hy
              refine zj_iinc (pc' := 324) 2 (L' := [(2, .int x108), (0, .ref (zad Γ 186)), (1, .int x63)]) dX12_hires_321 rfl rfl (by decide) (by rw [ci1, ← ex108]; rfl) ?_
              refine zj_goto (tgt := 154) dX12_hires_324 (by decide) ?_
              have hn9 := h70 _ (Option.some.inj hy).symm
              refine zj_loc [1, 2, 0] rfl ?_
              exact ih69 _ _ _ _ hn9
      exact HL66 n9 _ _ _ _ hn9
    have HL19 : ∀ (n : Nat) (r0_33v16 : Nat → Int32) (x17 : Int32), zlp (fun s => fM_hires_L45 r0_6 r0_20 s.1 s.2) n (r0_33v16, x17) = some r20 → zR Γ 4 YX12_hires 45 [(0, .ref (zad Γ 186)), (1, .int x17)] [] (zui (zui M 186 r0v1) 198 r0_33v16) Q := by
      intro n
      induction n with
      | zero => intro r0_33v16 x17 hn9; cases hn9
      | succ n ih22 =>
        intro r0_33v16 x17 hn9
        obtain ⟨o9, hb9, h23, h24⟩ := zlp_step hn9
        have hy : fM_hires_L45 r0_6 r0_20 r0_33v16 x17 = some o9 := hb9
        unfold fM_hires_L45 at hy
        refine zj_iload_n (pc' := 46) 1 dX12_hires_45 rfl rfl rfl ?_
        refine zj_if_lt (tgt := 140) (pc' := 49) dX12_hires_46 rfl (by decide) (fun c25 => ?_) (fun c25 => ?_)
        · have hy := zt_t hy c25
          have e9 := h24 _ (Option.some.inj hy).symm
          refine zj_loc [0] rfl ?_
          exact HE18 _ e9.symm
        · have hy := zt_f hy c25
          refine zj_iconst (pc' := 50) dX12_hires_49 rfl kiconst_0 ?_
          refine zj_istore_n (pc' := 51) (L' := [(2, .int 0), (0, .ref (zad Γ 186)), (1, .int x17)]) dX12_hires_50 rfl rfl (by decide) rfl ?_
          refine zj_loc [1, 2, 0] rfl ?_
          obtain ⟨r30, hr9, hyo31⟩ := zt_b hy
          obtain ⟨n9, hn9⟩ := zLP_some hr9
          have HE28 : ∀ (r0_33v56 : Nat → Int32), r30 = r0_33v56 → zR Γ 4 YX12_hires 134 [(0, .ref (zad Γ 186)), (1, .int x17)] [] (zui (zui M 186 r0v1) 198 r0_33v56) Q := by
            intro r0_33v56 e9
            have hy := hyo31
            try rw [e9] at hy
            try dsimp only at hy
            obtain ⟨x57, ex57⟩ : ∃ z : Int32, z = (x17 + (-1)) := ⟨_, rfl⟩
            have hy := zlet_at ex57 hy
            refine zj_iinc (pc' := 137) 1 (L' := [(1, .int x57), (0, .ref (zad Γ 186))]) dX12_hires_134 rfl rfl (by decide) (by rw [cim1, ← ex57]; rfl) ?_
            refine zj_goto (tgt := 45) dX12_hires_137 (by decide) ?_
            have hn9 := h23 _ (Option.some.inj hy).symm
            refine zj_loc [1, 0] rfl ?_
            exact ih22 _ _ hn9
          have HL29 : ∀ (n : Nat) (r0_33v26 : Nat → Int32) (x27 : Int32), zlp (fun s => fM_hires_L51 r0_6 r0_20 x17 s.1 s.2) n (r0_33v26, x27) = some r30 → zR Γ 4 YX12_hires 51 [(0, .ref (zad Γ 186)), (1, .int x17), (2, .int x27)] [] (zui (zui M 186 r0v1) 198 r0_33v26) Q := by
            intro n
            induction n with
            | zero => intro r0_33v26 x27 hn9; cases hn9
            | succ n ih32 =>
              intro r0_33v26 x27 hn9
              obtain ⟨o9, hb9, h33, h34⟩ := zlp_step hn9
              have hy : fM_hires_L51 r0_6 r0_20 x17 r0_33v26 x27 = some o9 := hb9
              unfold fM_hires_L51 at hy
              refine zj_iload_n (pc' := 52) 2 dX12_hires_51 rfl rfl rfl ?_
              refine zj_bipush (pc' := 54) dX12_hires_52 rfl kbipush_64 ?_
              refine zj_icmp_ge (tgt := 134) (pc' := 57) dX12_hires_54 rfl (by decide) (fun c35 => ?_) (fun c35 => ?_)
              · have hy := zt_t hy c35
                have e9 := h34 _ (Option.some.inj hy).symm
                refine zj_loc [0, 1] rfl ?_
                exact HE28 _ e9.symm
              · have hy := zt_f hy c35
                refine zj_aload_n (pc' := 58) 0 dX12_hires_57 rfl rfl rfl ?_
                refine zj_iload_n (pc' := 59) 1 dX12_hires_58 rfl rfl rfl ?_
                refine zj_iload_n (pc' := 60) 2 dX12_hires_59 rfl rfl rfl ?_
                refine zj_iconst (pc' := 61) dX12_hires_60 rfl kiconst_m1 ?_
                obtain ⟨y36, hy36, hy⟩ := zt_b hy
                refine zj_V1 (pc' := 64) (z := YX12_worthBy) (As := [.int x17, .int x27, .int (-1)]) (N := (zui (zui M 186 r0v1) 198 r0_33v26)) dX12_hires_61 rfl mlX12_376 lkX12_worthBy sh186 ⟨_, _, rfl⟩ rfl rfl (Nat.le_of_ble_eq_true rfl) (Nat.le_of_ble_eq_true rfl) (LX12_worthBy_186 Γ _ r0_6 r0_20 r0_33v26 (zr_n rfl (zr_n rfl e_i188)) (zr_n rfl (zr_n rfl e_i193)) zr_s x17 x27 (-1) hy36) rfl ?_
                refine zj_istore_n (pc' := 65) (L' := [(3, .int y36), (0, .ref (zad Γ 186)), (1, .int x17), (2, .int x27)]) dX12_hires_64 rfl rfl (by decide) rfl ?_
                refine zj_aload_n (pc' := 66) 1 dX12_hires_65 rfl rfl rfl ?_
                refine zj_iload_n (pc' := 67) 2 dX12_hires_66 rfl rfl rfl ?_
                refine zj_iload_n (pc' := 68) 3 dX12_hires_67 rfl rfl rfl ?_
                obtain ⟨y37, hy37, hy⟩ := zt_b hy
                refine zj_V1 (pc' := 71) (z := YX12_couldBe) (As := [.int x17, .int x27]) (N := (zui (zui M 186 r0v1) 198 r0_33v26)) dX12_hires_68 rfl mlX12_380 lkX12_couldBe sh186 ⟨_, _, rfl⟩ rfl rfl (Nat.le_of_ble_eq_true rfl) (Nat.le_of_ble_eq_true rfl) (LX12_couldBe_186 Γ _ r0_6 r0_20 (zr_n rfl (zr_n rfl e_i188)) (zr_n rfl (zr_n rfl e_i193)) x17 x27 hy37) rfl ?_
                refine zj_istore (pc' := 73) (L' := [(4, .int y37), (3, .int y36), (0, .ref (zad Γ 186)), (1, .int x17), (2, .int x27)]) dX12_hires_71 rfl (by decide) rfl ?_
                refine zj_iconst (pc' := 74) dX12_hires_73 rfl kiconst_0 ?_
                refine zj_istore (pc' := 76) (L' := [(5, .int 0), (4, .int y37), (3, .int y36), (0, .ref (zad Γ 186)), (1, .int x17), (2, .int x27)]) dX12_hires_74 rfl (by decide) rfl ?_
                refine zj_loc [3, 4, 5, 2, 1, 0] rfl ?_
                obtain ⟨r42, hr9, hyo43⟩ := zt_b hy
                obtain ⟨n9, hn9⟩ := zLP_some hr9
                have HE40 : ∀ (x53 : Int32), r42 = x53 → zR Γ 4 YX12_hires 116 [(0, .ref (zad Γ 186)), (1, .int x17), (2, .int x27), (3, .int x53)] [] (zui (zui M 186 r0v1) 198 r0_33v26) Q := by
                  intro x53 e9
                  have hy := hyo43
                  try rw [e9] at hy
                  try dsimp only at hy
                  refine zj_aload_n (pc' := 117) 0 dX12_hires_116 rfl rfl rfl ?_
                  refine zj_getR (pc' := 120) (j := 198) dX12_hires_117 rfl flX12_68 sh186 rfl ?_
                  refine zj_bipush (pc' := 122) dX12_hires_120 rfl kbipush_64 ?_
                  refine zj_iload_n (pc' := 123) 1 dX12_hires_122 rfl rfl rfl ?_
                  refine zj_imul (pc' := 124) dX12_hires_123 rfl ?_
                  refine zj_iload_n (pc' := 125) 2 dX12_hires_124 rfl rfl rfl ?_
                  refine zj_iadd (pc' := 126) dX12_hires_125 rfl ?_
                  refine zj_iload_n (pc' := 127) 3 dX12_hires_126 rfl rfl rfl ?_
                  obtain ⟨r0_33v54, hr0_33v54, hy⟩ := zt_b hy
                  refine zj_wri (pc' := 128) (N := (zui (zui M 186 r0v1) 198 r0_33v54)) dX12_hires_127 rfl sh198 zr_s hr0_33v54 zm_s ?_
                  obtain ⟨x55, ex55⟩ : ∃ z : Int32, z = (x27 + 1) := ⟨_, rfl⟩
                  have hy := zlet_at ex55 hy
                  refine zj_iinc (pc' := 131) 2 (L' := [(2, .int x55), (0, .ref (zad Γ 186)), (1, .int x17), (3, .int x53)]) dX12_hires_128 rfl rfl (by decide) (by rw [ci1, ← ex55]; rfl) ?_
                  refine zj_goto (tgt := 51) dX12_hires_131 (by decide) ?_
                  have hn9 := h33 _ (Option.some.inj hy).symm
                  refine zj_loc [1, 2, 0] rfl ?_
                  exact ih32 _ _ hn9
                have HL41 : ∀ (n : Nat) (x38 : Int32) (x39 : Int32), zlp (fun s => fM_hires_L76 r0_6 r0_20 x17 r0_33v26 x27 y37 s.1 s.2) n (x38, x39) = some r42 → zR Γ 4 YX12_hires 76 [(0, .ref (zad Γ 186)), (1, .int x17), (2, .int x27), (3, .int x38), (4, .int y37), (5, .int x39)] [] (zui (zui M 186 r0v1) 198 r0_33v26) Q := by
                  intro n
                  induction n with
                  | zero => intro x38 x39 hn9; cases hn9
                  | succ n ih44 =>
                    intro x38 x39 hn9
                    obtain ⟨o9, hb9, h45, h46⟩ := zlp_step hn9
                    have hy : fM_hires_L76 r0_6 r0_20 x17 r0_33v26 x27 y37 x38 x39 = some o9 := hb9
                    unfold fM_hires_L76 at hy
                    refine zj_iload (pc' := 78) 5 dX12_hires_76 rfl rfl ?_
                    refine zj_aload_n (pc' := 79) 0 dX12_hires_78 rfl rfl rfl ?_
                    refine zj_getR (pc' := 82) (j := 188) dX12_hires_79 rfl flX12_33 sh186 rfl ?_
                    refine zj_iconst (pc' := 83) dX12_hires_82 rfl kiconst_2 ?_
                    refine zj_rdi (pc' := 84) dX12_hires_83 rfl sh188 (zr_n rfl (zr_n rfl e_i188)) (zrdK zi2_397 tn2) ?_
                    refine zj_icmp_ge (tgt := 116) (pc' := 87) dX12_hires_84 rfl (by decide) (fun c47 => ?_) (fun c47 => ?_)
                    · have hy := zt_t hy c47
                      have e9 := h46 _ (Option.some.inj hy).symm
                      refine zj_loc [0, 1, 2, 3] rfl ?_
                      exact HE40 _ e9.symm
                    · have hy := zt_f hy c47
                      refine zj_iload (pc' := 89) 4 dX12_hires_87 rfl rfl ?_
                      refine zj_iload (pc' := 91) 5 dX12_hires_89 rfl rfl ?_
                      refine zj_S1 (pc' := 94) (z := YX12_bitOf) (As := [.int y37, .int x39]) (N := (zui (zui M 186 r0v1) 198 r0_33v26)) dX12_hires_91 rfl mlX12_235 lkX12_bitOf rfl rfl (Nat.le_of_ble_eq_true rfl) (Nat.le_of_ble_eq_true rfl) (LX12_bitOf Γ _ y37 x39 rfl) rfl ?_
                      refine zj_bif_eq (tgt := 110) (pc' := 97) dX12_hires_94 rfl (by decide) (fun c48 => ?_) (fun c48 => ?_)
                      · have hy := zt_f hy c48
                        obtain ⟨x52, ex52⟩ : ∃ z : Int32, z = (x39 + 1) := ⟨_, rfl⟩
                        have hy := zlet_at ex52 hy
                        refine zj_iinc (pc' := 113) 5 (L' := [(5, .int x52), (0, .ref (zad Γ 186)), (1, .int x17), (2, .int x27), (3, .int x38), (4, .int y37)]) dX12_hires_110 rfl rfl (by decide) (by rw [ci1, ← ex52]; rfl) ?_
                        refine zj_goto (tgt := 76) dX12_hires_113 (by decide) ?_
                        have hn9 := h45 _ (Option.some.inj hy).symm
                        refine zj_loc [1, 2, 3, 4, 5, 0] rfl ?_
                        exact ih44 _ _ hn9
                      · have hy := zt_t hy c48
                        refine zj_iload_n (pc' := 98) 3 dX12_hires_97 rfl rfl rfl ?_
                        refine zj_aload_n (pc' := 99) 0 dX12_hires_98 rfl rfl rfl ?_
                        refine zj_iload_n (pc' := 100) 1 dX12_hires_99 rfl rfl rfl ?_
                        refine zj_iload_n (pc' := 101) 2 dX12_hires_100 rfl rfl rfl ?_
                        refine zj_iload (pc' := 103) 5 dX12_hires_101 rfl rfl ?_
                        obtain ⟨y49, hy49, hy⟩ := zt_b hy
                        refine zj_V1 (pc' := 106) (z := YX12_worthBy) (As := [.int x17, .int x27, .int x39]) (N := (zui (zui M 186 r0v1) 198 r0_33v26)) dX12_hires_103 rfl mlX12_376 lkX12_worthBy sh186 ⟨_, _, rfl⟩ rfl rfl (Nat.le_of_ble_eq_true rfl) (Nat.le_of_ble_eq_true rfl) (LX12_worthBy_186 Γ _ r0_6 r0_20 r0_33v26 (zr_n rfl (zr_n rfl e_i188)) (zr_n rfl (zr_n rfl e_i193)) zr_s x17 x27 x39 hy49) rfl ?_
                        refine zj_S1 (pc' := 109) (z := YX12_greater) (As := [.int x38, .int y49]) (N := (zui (zui M 186 r0v1) 198 r0_33v26)) dX12_hires_106 rfl mlX12_349 lkX12_greater rfl rfl (Nat.le_of_ble_eq_true rfl) (Nat.le_of_ble_eq_true rfl) (LX12_greater Γ _ x38 y49 rfl) rfl ?_
                        refine zj_topi (fun x50 ex50 => ?_)
                        have hy := zlet_at ex50 hy
                        refine zj_istore_n (pc' := 110) (L' := [(3, .int x50), (0, .ref (zad Γ 186)), (1, .int x17), (2, .int x27), (4, .int y37), (5, .int x39)]) dX12_hires_109 rfl rfl (by decide) rfl ?_
                        obtain ⟨x51, ex51⟩ : ∃ z : Int32, z = (x39 + 1) := ⟨_, rfl⟩
                        have hy := zlet_at ex51 hy
                        refine zj_iinc (pc' := 113) 5 (L' := [(5, .int x51), (3, .int x50), (0, .ref (zad Γ 186)), (1, .int x17), (2, .int x27), (4, .int y37)]) dX12_hires_110 rfl rfl (by decide) (by rw [ci1, ← ex51]; rfl) ?_
                        refine zj_goto (tgt := 76) dX12_hires_113 (by decide) ?_
                        have hn9 := h45 _ (Option.some.inj hy).symm
                        refine zj_loc [2, 3, 4, 1, 5, 0] rfl ?_
                        exact ih44 _ _ hn9
                exact HL41 n9 _ _ hn9
          exact HL29 n9 _ _ hn9
    exact HL19 n9 _ _ hn9
  have HL5 : ∀ (n : Nat) (r0_33v2 : Nat → Int32) (x3 : Int32), zlp (fun s => fM_hires_L7 r0_6 s.1 s.2) n (r0_33v2, x3) = some r6 → zR Γ 4 YX12_hires 7 [(0, .ref (zad Γ 186)), (1, .int x3)] [] (zui (zui M 186 r0v1) 198 r0_33v2) Q := by
    intro n
    induction n with
    | zero => intro r0_33v2 x3 hn9; cases hn9
    | succ n ih8 =>
      intro r0_33v2 x3 hn9
      obtain ⟨o9, hb9, h9, h10⟩ := zlp_step hn9
      have hy : fM_hires_L7 r0_6 r0_33v2 x3 = some o9 := hb9
      unfold fM_hires_L7 at hy
      refine zj_iload_n (pc' := 8) 1 dX12_hires_7 rfl rfl rfl ?_
      refine zj_bipush (pc' := 10) dX12_hires_8 rfl kbipush_64 ?_
      refine zj_icmp_ge (tgt := 36) (pc' := 13) dX12_hires_10 rfl (by decide) (fun c11 => ?_) (fun c11 => ?_)
      · have hy := zt_t hy c11
        have e9 := h10 _ (Option.some.inj hy).symm
        refine zj_loc [0] rfl ?_
        exact HE4 _ e9.symm
      · have hy := zt_f hy c11
        refine zj_aload_n (pc' := 14) 0 dX12_hires_13 rfl rfl rfl ?_
        refine zj_getR (pc' := 17) (j := 198) dX12_hires_14 rfl flX12_68 sh186 rfl ?_
        refine zj_bipush (pc' := 19) dX12_hires_17 rfl kbipush_64 ?_
        refine zj_aload_n (pc' := 20) 0 dX12_hires_19 rfl rfl rfl ?_
        refine zj_getR (pc' := 23) (j := 188) dX12_hires_20 rfl flX12_33 sh186 rfl ?_
        refine zj_iconst (pc' := 24) dX12_hires_23 rfl kiconst_2 ?_
        refine zj_rdi (pc' := 25) dX12_hires_24 rfl sh188 (zr_n rfl (zr_n rfl e_i188)) (zrdK zi2_397 tn2) ?_
        refine zj_imul (pc' := 26) dX12_hires_25 rfl ?_
        refine zj_iload_n (pc' := 27) 1 dX12_hires_26 rfl rfl rfl ?_
        refine zj_iadd (pc' := 28) dX12_hires_27 rfl ?_
        refine zj_iconst (pc' := 29) dX12_hires_28 rfl kiconst_0 ?_
        obtain ⟨r0_33v12, hr0_33v12, hy⟩ := zt_b hy
        refine zj_wri (pc' := 30) (N := (zui (zui M 186 r0v1) 198 r0_33v12)) dX12_hires_29 rfl sh198 zr_s hr0_33v12 zm_s ?_
        obtain ⟨x13, ex13⟩ : ∃ z : Int32, z = (x3 + 1) := ⟨_, rfl⟩
        have hy := zlet_at ex13 hy
        refine zj_iinc (pc' := 33) 1 (L' := [(1, .int x13), (0, .ref (zad Γ 186))]) dX12_hires_30 rfl rfl (by decide) (by rw [ci1, ← ex13]; rfl) ?_
        refine zj_goto (tgt := 7) dX12_hires_33 (by decide) ?_
        have hn9 := h9 _ (Option.some.inj hy).symm
        refine zj_loc [1, 0] rfl ?_
        exact ih8 _ _ hn9
  exact HL5 n9 _ _ hn9
set_option maxRecDepth 20000 in
theorem LX12_hires_186 (Γ : zG) (M : zM) (r0 : Nat → Int32) (r0_6 : Nat → Int32) (r0_20 : Nat → Int32) (r0_33 : Nat → Int32) (r0_34 : Nat → Int32) (e_i186 : M.1 186 = r0) (e_i188 : M.1 188 = r0_6) (e_i193 : M.1 193 = r0_20) (e_i198 : M.1 198 = r0_33) (e_i199 : M.1 199 = r0_34)  {res : Int32 × (Nat → Int32) × (Nat → Int32) × (Nat → Int32)} (hy : (fM_hires r0 r0_6 r0_20 r0_33 r0_34) = some res) : zK Γ 4 YX12_hires [.ref (zad Γ 186)] M (fun v N => v = some (.int res.1) ∧ N = (zui (zui (zui M 186 res.2.1) 198 res.2.2.1) 199 res.2.2.2)) :=
  zK_of (by decide) (Nat.le_of_ble_eq_true rfl) (TX12_hires_186 Γ M r0 r0_6 r0_20 r0_33 r0_34 e_i186 e_i188 e_i193 e_i198 e_i199 hy ⟨rfl, rfl⟩)

noncomputable def fPr_farInAll (r0 : Nat → Int32) : Int32 :=
  (r0 3)

set_option maxRecDepth 20000 in
theorem TX6_farInAll_179 (Γ : zG) {Q : Option Value → zM → Prop} (M : zM) (r0 : Nat → Int32) (e_i179 : M.1 179 = r0)  {res : Int32} (hy : (fPr_farInAll r0) = res) (hq : Q (some (.int res)) M) : zR Γ 1 YX6_farInAll 0 [(0, .ref (zad Γ 179))] [] M Q := by
  unfold fPr_farInAll at hy
  refine zj_aload_n (pc' := 1) 0 dX6_farInAll_0 rfl rfl rfl ?_
  refine zj_fI (pc' := 4) dX6_farInAll_1 rfl flX6_22 sh179 rfl e_i179 rfl ?_
  subst hy
  exact zj_iret dX6_farInAll_4 rfl hq
set_option maxRecDepth 20000 in
theorem LX6_farInAll_179 (Γ : zG) (M : zM) (r0 : Nat → Int32) (e_i179 : M.1 179 = r0)  {res : Int32} (hy : (fPr_farInAll r0) = res) : zK Γ 1 YX6_farInAll [.ref (zad Γ 179)] M (fun v N => v = some (.int res) ∧ N = M) :=
  zK_of (by decide) (Nat.le_of_ble_eq_true rfl) (TX6_farInAll_179 Γ M r0 e_i179 hy ⟨rfl, rfl⟩)

noncomputable def fX_hiresFar (r0_11 : Nat → Int32) : Int32 :=
  (fPr_farInAll r0_11)

set_option maxRecDepth 20000 in
theorem TX11_hiresFar_0 (Γ : zG) {Q : Option Value → zM → Prop} (M : zM) (r0_11 : Nat → Int32) (e_i179 : M.1 179 = r0_11)  {res : Int32} (hy : (fX_hiresFar r0_11) = res) (hq : Q (some (.int res)) M) : zR Γ 2 YX11_hiresFar 0 [(0, .ref (zad Γ 0))] [] M Q := by
  unfold fX_hiresFar at hy
  refine zj_aload_n (pc' := 1) 0 dX11_hiresFar_0 rfl rfl rfl ?_
  refine zj_getR (pc' := 4) (j := 179) dX11_hiresFar_1 rfl flX11_78 sh0 rfl ?_
  refine zj_V1 (pc' := 7) (z := YX6_farInAll) (As := []) (N := M) dX11_hiresFar_4 rfl mlX11_302 lkX6_farInAll sh179 ⟨_, _, rfl⟩ rfl rfl (Nat.le_of_ble_eq_true rfl) (Nat.le_of_ble_eq_true rfl) (LX6_farInAll_179 Γ _ r0_11 e_i179 rfl) rfl ?_
  subst hy
  exact zj_iret dX11_hiresFar_7 rfl hq
set_option maxRecDepth 20000 in
theorem LX11_hiresFar_0 (Γ : zG) (M : zM) (r0_11 : Nat → Int32) (e_i179 : M.1 179 = r0_11)  {res : Int32} (hy : (fX_hiresFar r0_11) = res) : zK Γ 2 YX11_hiresFar [.ref (zad Γ 0)] M (fun v N => v = some (.int res) ∧ N = M) :=
  zK_of (by decide) (Nat.le_of_ble_eq_true rfl) (TX11_hiresFar_0 Γ M r0_11 e_i179 hy ⟨rfl, rfl⟩)

noncomputable def fM_hiresFar (r0 : Nat → Int32) : Option (Int32 × (Nat → Int32)) :=
  zlet (zup r0 0 0) (fun (r0v1 : Nat → Int32) =>
  some ((if 0 ≤ (r0v1 35) then (r0v1 36) else ((-1) : Int32)), r0v1))

set_option maxRecDepth 20000 in
theorem TX12_hiresFar_186 (Γ : zG) {Q : Option Value → zM → Prop} (M : zM) (r0 : Nat → Int32) (e_i186 : M.1 186 = r0)  {res : Int32 × (Nat → Int32)} (hy : (fM_hiresFar r0) = some res) (hq : Q (some (.int res.1)) (zui M 186 res.2)) : zR Γ 1 YX12_hiresFar 0 [(0, .ref (zad Γ 186))] [] M Q := by
  unfold fM_hiresFar at hy
  refine zj_aload_n (pc' := 1) 0 dX12_hiresFar_0 rfl rfl rfl ?_
  refine zj_iconst (pc' := 2) dX12_hiresFar_1 rfl kiconst_0 ?_
  obtain ⟨r0v1, er0v1⟩ : ∃ z, z = (zup r0 0 0) := ⟨_, rfl⟩
  have hy := zlet_at er0v1 hy
  refine zj_pI (pc' := 5) (N := (zui M 186 r0v1)) dX12_hiresFar_2 rfl fpX12_1 sh186 rfl e_i186 er0v1 rfl ?_
  refine zj_aload_n (pc' := 6) 0 dX12_hiresFar_5 rfl rfl rfl ?_
  refine zj_fI (pc' := 9) dX12_hiresFar_6 rfl flX12_74 sh186 rfl zr_s rfl ?_
  have HJ2 : zR Γ 1 YX12_hiresFar 20 [(0, .ref (zad Γ 186))] [.int (if 0 ≤ (r0v1 35) then (r0v1 36) else ((-1) : Int32))] (zui M 186 r0v1) Q := by
    have e9 := Option.some.inj hy
    subst e9
    exact zj_iret dX12_hiresFar_20 rfl hq
  refine zj_if_ge (tgt := 16) (pc' := 12) dX12_hiresFar_9 rfl (by decide) (fun c3 => ?_) (fun c3 => ?_)
  · refine zj_aload_n (pc' := 17) 0 dX12_hiresFar_16 rfl rfl rfl ?_
    refine zj_fI (pc' := 20) dX12_hiresFar_17 rfl flX12_383 sh186 rfl zr_s rfl ?_
    exact zj_eqi (if_pos c3) HJ2
  · refine zj_iconst (pc' := 13) dX12_hiresFar_12 rfl kiconst_m1 ?_
    refine zj_goto (tgt := 20) dX12_hiresFar_13 (by decide) ?_
    exact zj_eqi (if_neg c3) HJ2
set_option maxRecDepth 20000 in
theorem LX12_hiresFar_186 (Γ : zG) (M : zM) (r0 : Nat → Int32) (e_i186 : M.1 186 = r0)  {res : Int32 × (Nat → Int32)} (hy : (fM_hiresFar r0) = some res) : zK Γ 1 YX12_hiresFar [.ref (zad Γ 186)] M (fun v N => v = some (.int res.1) ∧ N = (zui M 186 res.2)) :=
  zK_of (by decide) (Nat.le_of_ble_eq_true rfl) (TX12_hiresFar_186 Γ M r0 e_i186 hy ⟨rfl, rfl⟩)

noncomputable def fPr_chosenFor (r0_1 : Nat → Int32) (a1 : Int32) : Option (Int32) :=
  (if a1 < 0 then
  some (-1)
  else
  (if 6 ≤ a1 then
  some (-1)
  else
  (zrd r0_1 6 a1).bind (fun (v3 : Int32) =>
  some v3)))

set_option maxRecDepth 20000 in
theorem TX6_chosenFor_179 (Γ : zG) {Q : Option Value → zM → Prop} (M : zM) (r0_1 : Nat → Int32) (e_i181 : M.1 181 = r0_1) (a1 : Int32) {res : Int32} (hy : (fPr_chosenFor r0_1 a1) = some res) (hq : Q (some (.int res)) M) : zR Γ 1 YX6_chosenFor 0 [(0, .ref (zad Γ 179)), (1, .int a1)] [] M Q := by
  unfold fPr_chosenFor at hy
  refine zj_iload_n (pc' := 1) 1 dX6_chosenFor_0 rfl rfl rfl ?_
  refine zj_if_lt (tgt := 19) (pc' := 4) dX6_chosenFor_1 rfl (by decide) (fun c1 => ?_) (fun c1 => ?_)
  · have hy := zt_t hy c1
    refine zj_iconst (pc' := 20) dX6_chosenFor_19 rfl kiconst_m1 ?_
    have e9 := Option.some.inj hy
    subst e9
    exact zj_iret dX6_chosenFor_20 rfl hq
  · have hy := zt_f hy c1
    refine zj_iload_n (pc' := 5) 1 dX6_chosenFor_4 rfl rfl rfl ?_
    refine zj_bipush (pc' := 7) dX6_chosenFor_5 rfl kbipush_6 ?_
    refine zj_icmp_ge (tgt := 19) (pc' := 10) dX6_chosenFor_7 rfl (by decide) (fun c2 => ?_) (fun c2 => ?_)
    · have hy := zt_t hy c2
      refine zj_iconst (pc' := 20) dX6_chosenFor_19 rfl kiconst_m1 ?_
      have e9 := Option.some.inj hy
      subst e9
      exact zj_iret dX6_chosenFor_20 rfl hq
    · have hy := zt_f hy c2
      refine zj_aload_n (pc' := 11) 0 dX6_chosenFor_10 rfl rfl rfl ?_
      refine zj_getR (pc' := 14) (j := 181) dX6_chosenFor_11 rfl flX6_15 sh179 rfl ?_
      refine zj_iload_n (pc' := 15) 1 dX6_chosenFor_14 rfl rfl rfl ?_
      obtain ⟨v3, hv3, hy⟩ := zt_b hy
      refine zj_rdi (pc' := 16) dX6_chosenFor_15 rfl sh181 e_i181 hv3 ?_
      refine zj_goto (tgt := 20) dX6_chosenFor_16 (by decide) ?_
      have e9 := Option.some.inj hy
      subst e9
      exact zj_iret dX6_chosenFor_20 rfl hq
set_option maxRecDepth 20000 in
theorem LX6_chosenFor_179 (Γ : zG) (M : zM) (r0_1 : Nat → Int32) (e_i181 : M.1 181 = r0_1) (a1 : Int32) {res : Int32} (hy : (fPr_chosenFor r0_1 a1) = some res) : zK Γ 1 YX6_chosenFor [.ref (zad Γ 179), .int a1] M (fun v N => v = some (.int res) ∧ N = M) :=
  zK_of (by decide) (Nat.le_of_ble_eq_true rfl) (TX6_chosenFor_179 Γ M r0_1 e_i181 a1 hy ⟨rfl, rfl⟩)

noncomputable def fX_hiredBy (r0_11_1 : Nat → Int32) (a1 : Int32) : Option (Int32) :=
  (fPr_chosenFor r0_11_1 a1).bind (fun (y1 : Int32) =>
  some y1)

set_option maxRecDepth 20000 in
theorem TX11_hiredBy_0 (Γ : zG) {Q : Option Value → zM → Prop} (M : zM) (r0_11_1 : Nat → Int32) (e_i181 : M.1 181 = r0_11_1) (a1 : Int32) {res : Int32} (hy : (fX_hiredBy r0_11_1 a1) = some res) (hq : Q (some (.int res)) M) : zR Γ 2 YX11_hiredBy 0 [(0, .ref (zad Γ 0)), (1, .int a1)] [] M Q := by
  unfold fX_hiredBy at hy
  refine zj_aload_n (pc' := 1) 0 dX11_hiredBy_0 rfl rfl rfl ?_
  refine zj_getR (pc' := 4) (j := 179) dX11_hiredBy_1 rfl flX11_78 sh0 rfl ?_
  refine zj_iload_n (pc' := 5) 1 dX11_hiredBy_4 rfl rfl rfl ?_
  obtain ⟨y1, hy1, hy⟩ := zt_b hy
  refine zj_V1 (pc' := 8) (z := YX6_chosenFor) (As := [.int a1]) (N := M) dX11_hiredBy_5 rfl mlX11_305 lkX6_chosenFor sh179 ⟨_, _, rfl⟩ rfl rfl (Nat.le_of_ble_eq_true rfl) (Nat.le_of_ble_eq_true rfl) (LX6_chosenFor_179 Γ _ r0_11_1 e_i181 a1 hy1) rfl ?_
  have e9 := Option.some.inj hy
  subst e9
  exact zj_iret dX11_hiredBy_8 rfl hq
set_option maxRecDepth 20000 in
theorem LX11_hiredBy_0 (Γ : zG) (M : zM) (r0_11_1 : Nat → Int32) (e_i181 : M.1 181 = r0_11_1) (a1 : Int32) {res : Int32} (hy : (fX_hiredBy r0_11_1 a1) = some res) : zK Γ 2 YX11_hiredBy [.ref (zad Γ 0), .int a1] M (fun v N => v = some (.int res) ∧ N = M) :=
  zK_of (by decide) (Nat.le_of_ble_eq_true rfl) (TX11_hiredBy_0 Γ M r0_11_1 e_i181 a1 hy ⟨rfl, rfl⟩)

noncomputable def fM_hiredBy (r0 : Nat → Int32) (r0_34 : Nat → Int32) (a1 : Int32) : Option (Int32 × (Nat → Int32)) :=
  zlet (zup r0 0 0) (fun (r0v1 : Nat → Int32) =>
  (if (r0v1 35) < 0 then
  some ((-1), r0v1)
  else
  (if (fM_isIn a1 0 5) = true then
  (zrd r0_34 6 a1).bind (fun (v4 : Int32) =>
  some (v4, r0v1))
  else
  some ((-1), r0v1))))

set_option maxRecDepth 20000 in
theorem TX12_hiredBy_186 (Γ : zG) {Q : Option Value → zM → Prop} (M : zM) (r0 : Nat → Int32) (r0_34 : Nat → Int32) (e_i186 : M.1 186 = r0) (e_i199 : M.1 199 = r0_34) (a1 : Int32) {res : Int32 × (Nat → Int32)} (hy : (fM_hiredBy r0 r0_34 a1) = some res) (hq : Q (some (.int res.1)) (zui M 186 res.2)) : zR Γ 2 YX12_hiredBy 0 [(0, .ref (zad Γ 186)), (1, .int a1)] [] M Q := by
  unfold fM_hiredBy at hy
  refine zj_aload_n (pc' := 1) 0 dX12_hiredBy_0 rfl rfl rfl ?_
  refine zj_iconst (pc' := 2) dX12_hiredBy_1 rfl kiconst_0 ?_
  obtain ⟨r0v1, er0v1⟩ : ∃ z, z = (zup r0 0 0) := ⟨_, rfl⟩
  have hy := zlet_at er0v1 hy
  refine zj_pI (pc' := 5) (N := (zui M 186 r0v1)) dX12_hiredBy_2 rfl fpX12_1 sh186 rfl e_i186 er0v1 rfl ?_
  refine zj_aload_n (pc' := 6) 0 dX12_hiredBy_5 rfl rfl rfl ?_
  refine zj_fI (pc' := 9) dX12_hiredBy_6 rfl flX12_74 sh186 rfl zr_s rfl ?_
  refine zj_if_lt (tgt := 21) (pc' := 12) dX12_hiredBy_9 rfl (by decide) (fun c2 => ?_) (fun c2 => ?_)
  · have hy := zt_t hy c2
    refine zj_iconst (pc' := 22) dX12_hiredBy_21 rfl kiconst_m1 ?_
    refine zj_goto (tgt := 31) dX12_hiredBy_22 (by decide) ?_
    have e9 := Option.some.inj hy
    subst e9
    exact zj_iret dX12_hiredBy_31 rfl hq
  · have hy := zt_f hy c2
    refine zj_iload_n (pc' := 13) 1 dX12_hiredBy_12 rfl rfl rfl ?_
    refine zj_iconst (pc' := 14) dX12_hiredBy_13 rfl kiconst_0 ?_
    refine zj_iconst (pc' := 15) dX12_hiredBy_14 rfl kiconst_5 ?_
    refine zj_S1 (pc' := 18) (z := YX12_isIn) (As := [.int a1, .int 0, .int 5]) (N := (zui M 186 r0v1)) dX12_hiredBy_15 rfl mlX12_188 lkX12_isIn rfl rfl (Nat.le_of_ble_eq_true rfl) (Nat.le_of_ble_eq_true rfl) (LX12_isIn Γ _ a1 0 5 rfl) rfl ?_
    refine zj_bif_ne (tgt := 25) (pc' := 21) dX12_hiredBy_18 rfl (by decide) (fun c3 => ?_) (fun c3 => ?_)
    · have hy := zt_t hy c3
      refine zj_aload_n (pc' := 26) 0 dX12_hiredBy_25 rfl rfl rfl ?_
      refine zj_getR (pc' := 29) (j := 199) dX12_hiredBy_26 rfl flX12_71 sh186 rfl ?_
      refine zj_iload_n (pc' := 30) 1 dX12_hiredBy_29 rfl rfl rfl ?_
      obtain ⟨v4, hv4, hy⟩ := zt_b hy
      refine zj_rdi (pc' := 31) dX12_hiredBy_30 rfl sh199 (zr_n rfl e_i199) hv4 ?_
      have e9 := Option.some.inj hy
      subst e9
      exact zj_iret dX12_hiredBy_31 rfl hq
    · have hy := zt_f hy c3
      refine zj_iconst (pc' := 22) dX12_hiredBy_21 rfl kiconst_m1 ?_
      refine zj_goto (tgt := 31) dX12_hiredBy_22 (by decide) ?_
      have e9 := Option.some.inj hy
      subst e9
      exact zj_iret dX12_hiredBy_31 rfl hq
set_option maxRecDepth 20000 in
theorem LX12_hiredBy_186 (Γ : zG) (M : zM) (r0 : Nat → Int32) (r0_34 : Nat → Int32) (e_i186 : M.1 186 = r0) (e_i199 : M.1 199 = r0_34) (a1 : Int32) {res : Int32 × (Nat → Int32)} (hy : (fM_hiredBy r0 r0_34 a1) = some res) : zK Γ 2 YX12_hiredBy [.ref (zad Γ 186), .int a1] M (fun v N => v = some (.int res.1) ∧ N = (zui M 186 res.2)) :=
  zK_of (by decide) (Nat.le_of_ble_eq_true rfl) (TX12_hiredBy_186 Γ M r0 r0_34 e_i186 e_i199 a1 hy ⟨rfl, rfl⟩)

noncomputable def fM_mean_L44 (x8 : Int32) (x9 : Int32) : Option ((Int32 × Int32) ⊕ (Int32)) :=
  (if x9 = 0 then
  some (.inr x8)
  else
  (if x9 = 0 then none else
  zlet (x8 - x8 / x9 * x9) (fun (x19 : Int32) =>
  some (.inl (x9, x19)))))
noncomputable def fM_mean (r0 : Nat → Int32) (r0_6 : Nat → Int32) (a1 : Int32) : Option (Int32 × (Nat → Int32)) :=
  (fM_throwsIf r0 (zb (if (r0_6 2) = 0 then true else (if (fM_isIn a1 0 1) = true then false else true)))).bind (fun (y4 : Bool × (Nat → Int32)) =>
  (if y4.1 = true then
  some (0, y4.2)
  else
  zlet (r0_6 2) (fun (x6 : Int32) =>
  (fM_printsInAll r0_6).bind (fun (y7 : Int32) =>
  (zLP (fun s => fM_mean_L44 s.1 s.2) (x6, y7)).bind (fun r12 =>
  (if a1 = 0 then
  (fM_printsInAll r0_6).bind (fun (y22 : Int32) =>
  (if r12 = 0 then none else
  some ((y22 / r12), y4.2)))
  else
  (if r12 = 0 then none else
  some (((r0_6 2) / r12), y4.2))))))))

set_option maxRecDepth 20000 in
theorem TX12_mean_186 (Γ : zG) {Q : Option Value → zM → Prop} (M : zM) (r0 : Nat → Int32) (r0_6 : Nat → Int32) (e_i186 : M.1 186 = r0) (e_i188 : M.1 188 = r0_6) (a1 : Int32) {res : Int32 × (Nat → Int32)} (hy : (fM_mean r0 r0_6 a1) = some res) (hq : Q (some (.int res.1)) (zui M 186 res.2)) : zR Γ 2 YX12_mean 0 [(0, .ref (zad Γ 186)), (1, .int a1)] [] M Q := by
  unfold fM_mean at hy
  refine zj_aload_n (pc' := 1) 0 dX12_mean_0 rfl rfl rfl ?_
  refine zj_aload_n (pc' := 2) 0 dX12_mean_1 rfl rfl rfl ?_
  refine zj_getR (pc' := 5) (j := 188) dX12_mean_2 rfl flX12_33 sh186 rfl ?_
  refine zj_iconst (pc' := 6) dX12_mean_5 rfl kiconst_2 ?_
  refine zj_rdi (pc' := 7) dX12_mean_6 rfl sh188 e_i188 (zrdK zi2_397 tn2) ?_
  have HJ1 : zR Γ 2 YX12_mean 24 [(0, .ref (zad Γ 186)), (1, .int a1)] [.int (zb (if (r0_6 2) = 0 then true else (if (fM_isIn a1 0 1) = true then false else true))), .ref (zad Γ 186)] M Q := by
    obtain ⟨y4, hy4, hy⟩ := zt_b hy
    refine zj_V1 (pc' := 27) (z := YX12_throwsIf) (As := [.int (zb (if (r0_6 2) = 0 then true else (if (fM_isIn a1 0 1) = true then false else true)))]) (N := (zui M 186 y4.2)) dX12_mean_24 rfl mlX12_273 lkX12_throwsIf sh186 ⟨_, _, rfl⟩ rfl rfl (Nat.le_of_ble_eq_true rfl) (Nat.le_of_ble_eq_true rfl) (LX12_throwsIf_186 Γ _ r0 e_i186 (zb (if (r0_6 2) = 0 then true else (if (fM_isIn a1 0 1) = true then false else true))) hy4) (rfl).symm ?_
    refine zj_bif_eq (tgt := 32) (pc' := 30) dX12_mean_27 rfl (by decide) (fun c5 => ?_) (fun c5 => ?_)
    · have hy := zt_f hy c5
      refine zj_aload_n (pc' := 33) 0 dX12_mean_32 rfl rfl rfl ?_
      refine zj_getR (pc' := 36) (j := 188) dX12_mean_33 rfl flX12_33 sh186 rfl ?_
      refine zj_iconst (pc' := 37) dX12_mean_36 rfl kiconst_2 ?_
      refine zj_rdi (pc' := 38) dX12_mean_37 rfl sh188 (zr_n rfl e_i188) (zrdK zi2_397 tn2) ?_
      refine zj_topi (fun x6 ex6 => ?_)
      have hy := zlet_at ex6 hy
      refine zj_istore_n (pc' := 39) (L' := [(2, .int x6), (0, .ref (zad Γ 186)), (1, .int a1)]) dX12_mean_38 rfl rfl (by decide) rfl ?_
      refine zj_aload_n (pc' := 40) 1 dX12_mean_39 rfl rfl rfl ?_
      obtain ⟨y7, hy7, hy⟩ := zt_b hy
      refine zj_V1 (pc' := 43) (z := YX12_printsInAll) (As := []) (N := (zui M 186 y4.2)) dX12_mean_40 rfl mlX12_289 lkX12_printsInAll sh186 ⟨_, _, rfl⟩ rfl rfl (Nat.le_of_ble_eq_true rfl) (Nat.le_of_ble_eq_true rfl) (LX12_printsInAll_186 Γ _ r0_6 (zr_n rfl e_i188) hy7) rfl ?_
      refine zj_istore_n (pc' := 44) (L' := [(3, .int y7), (2, .int x6), (0, .ref (zad Γ 186)), (1, .int a1)]) dX12_mean_43 rfl rfl (by decide) rfl ?_
      refine zj_loc [2, 3, 1, 0] rfl ?_
      obtain ⟨r12, hr9, hyo13⟩ := zt_b hy
      obtain ⟨n9, hn9⟩ := zLP_some hr9
      have HE10 : ∀ (x20 : Int32), r12 = x20 → zR Γ 2 YX12_mean 61 [(0, .ref (zad Γ 186)), (1, .int a1), (2, .int x20)] [] (zui M 186 y4.2) Q := by
        intro x20 e9
        have hy := hyo13
        try rw [e9] at hy
        try dsimp only at hy
        refine zj_iload_n (pc' := 62) 1 dX12_mean_61 rfl rfl rfl ?_
        refine zj_if_ne (tgt := 72) (pc' := 65) dX12_mean_62 rfl (by decide) (fun c21 => ?_) (fun c21 => ?_)
        · have hy := zt_f hy c21
          refine zj_aload_n (pc' := 73) 0 dX12_mean_72 rfl rfl rfl ?_
          refine zj_getR (pc' := 76) (j := 188) dX12_mean_73 rfl flX12_33 sh186 rfl ?_
          refine zj_iconst (pc' := 77) dX12_mean_76 rfl kiconst_2 ?_
          refine zj_rdi (pc' := 78) dX12_mean_77 rfl sh188 (zr_n rfl e_i188) (zrdK zi2_397 tn2) ?_
          refine zj_iload_n (pc' := 79) 2 dX12_mean_78 rfl rfl rfl ?_
          obtain ⟨c24, hy⟩ := zck' hy
          refine zj_idiv (pc' := 80) dX12_mean_79 rfl c24 ?_
          have e9 := Option.some.inj hy
          subst e9
          exact zj_iret dX12_mean_80 rfl hq
        · have hy := zt_t hy c21
          refine zj_aload_n (pc' := 66) 0 dX12_mean_65 rfl rfl rfl ?_
          obtain ⟨y22, hy22, hy⟩ := zt_b hy
          refine zj_V1 (pc' := 69) (z := YX12_printsInAll) (As := []) (N := (zui M 186 y4.2)) dX12_mean_66 rfl mlX12_289 lkX12_printsInAll sh186 ⟨_, _, rfl⟩ rfl rfl (Nat.le_of_ble_eq_true rfl) (Nat.le_of_ble_eq_true rfl) (LX12_printsInAll_186 Γ _ r0_6 (zr_n rfl e_i188) hy22) rfl ?_
          refine zj_goto (tgt := 78) dX12_mean_69 (by decide) ?_
          refine zj_iload_n (pc' := 79) 2 dX12_mean_78 rfl rfl rfl ?_
          obtain ⟨c23, hy⟩ := zck' hy
          refine zj_idiv (pc' := 80) dX12_mean_79 rfl c23 ?_
          have e9 := Option.some.inj hy
          subst e9
          exact zj_iret dX12_mean_80 rfl hq
      have HL11 : ∀ (n : Nat) (x8 : Int32) (x9 : Int32), zlp (fun s => fM_mean_L44 s.1 s.2) n (x8, x9) = some r12 → zR Γ 2 YX12_mean 44 [(0, .ref (zad Γ 186)), (1, .int a1), (2, .int x8), (3, .int x9)] [] (zui M 186 y4.2) Q := by
        intro n
        induction n with
        | zero => intro x8 x9 hn9; cases hn9
        | succ n ih14 =>
          intro x8 x9 hn9
          obtain ⟨o9, hb9, h15, h16⟩ := zlp_step hn9
          have hy : fM_mean_L44 x8 x9 = some o9 := hb9
          unfold fM_mean_L44 at hy
          refine zj_iload_n (pc' := 45) 3 dX12_mean_44 rfl rfl rfl ?_
          refine zj_if_eq (tgt := 61) (pc' := 48) dX12_mean_45 rfl (by decide) (fun c17 => ?_) (fun c17 => ?_)
          · have hy := zt_t hy c17
            have e9 := h16 _ (Option.some.inj hy).symm
            refine zj_loc [0, 1, 2] rfl ?_
            exact HE10 _ e9.symm
          · have hy := zt_f hy c17
            refine zj_iload_n (pc' := 49) 2 dX12_mean_48 rfl rfl rfl ?_
            refine zj_iload_n (pc' := 50) 3 dX12_mean_49 rfl rfl rfl ?_
            obtain ⟨c18, hy⟩ := zck' hy
            refine zj_irem (pc' := 51) dX12_mean_50 rfl c18 ?_
            refine zj_topi (fun x19 ex19 => ?_)
            have hy := zlet_at ex19 hy
            refine zj_istore (pc' := 53) (L' := [(4, .int x19), (0, .ref (zad Γ 186)), (1, .int a1), (2, .int x8), (3, .int x9)]) dX12_mean_51 rfl (by decide) rfl ?_
            refine zj_iload_n (pc' := 54) 4 dX12_mean_53 rfl rfl rfl ?_
            refine zj_istore_n (pc' := 55) (L' := [(2, .int x9), (4, .int x19), (0, .ref (zad Γ 186)), (1, .int a1), (3, .int x9)]) dX12_mean_54 rfl rfl (by decide) rfl ?_
            refine zj_iload (pc' := 57) 1 dX12_mean_55 rfl rfl ?_
            refine zj_istore_n (pc' := 58) (L' := [(3, .int x19), (2, .int x9), (4, .int x19), (0, .ref (zad Γ 186)), (1, .int a1)]) dX12_mean_57 rfl rfl (by decide) rfl ?_
            refine zj_goto (tgt := 44) dX12_mean_58 (by decide) ?_
            have hn9 := h15 _ (Option.some.inj hy).symm
            refine zj_loc [3, 4, 1, 0] rfl ?_
            exact ih14 _ _ hn9
      exact HL11 n9 _ _ hn9
    · have hy := zt_t hy c5
      refine zj_iconst (pc' := 31) dX12_mean_30 rfl kiconst_0 ?_
      have e9 := Option.some.inj hy
      subst e9
      exact zj_iret dX12_mean_31 rfl hq
  refine zj_if_eq (tgt := 19) (pc' := 10) dX12_mean_7 rfl (by decide) (fun c2 => ?_) (fun c2 => ?_)
  · refine zj_iconst (pc' := 20) dX12_mean_19 rfl kiconst_1 ?_
    refine zj_goto (tgt := 24) dX12_mean_20 (by decide) ?_
    exact zj_eqb (b := true) (if_pos c2) HJ1
  · refine zj_iload_n (pc' := 11) 1 dX12_mean_10 rfl rfl rfl ?_
    refine zj_iconst (pc' := 12) dX12_mean_11 rfl kiconst_0 ?_
    refine zj_iconst (pc' := 13) dX12_mean_12 rfl kiconst_1 ?_
    refine zj_S1 (pc' := 16) (z := YX12_isIn) (As := [.int a1, .int 0, .int 1]) (N := M) dX12_mean_13 rfl mlX12_188 lkX12_isIn rfl rfl (Nat.le_of_ble_eq_true rfl) (Nat.le_of_ble_eq_true rfl) (LX12_isIn Γ _ a1 0 1 rfl) rfl ?_
    refine zj_bif_ne (tgt := 23) (pc' := 19) dX12_mean_16 rfl (by decide) (fun c3 => ?_) (fun c3 => ?_)
    · refine zj_iconst (pc' := 24) dX12_mean_23 rfl kiconst_0 ?_
      exact zj_eqb (b := false) ((if_neg c2).trans (if_pos c3)) HJ1
    · refine zj_iconst (pc' := 20) dX12_mean_19 rfl kiconst_1 ?_
      refine zj_goto (tgt := 24) dX12_mean_20 (by decide) ?_
      exact zj_eqb (b := true) ((if_neg c2).trans (if_neg c3)) HJ1
set_option maxRecDepth 20000 in
theorem LX12_mean_186 (Γ : zG) (M : zM) (r0 : Nat → Int32) (r0_6 : Nat → Int32) (e_i186 : M.1 186 = r0) (e_i188 : M.1 188 = r0_6) (a1 : Int32) {res : Int32 × (Nat → Int32)} (hy : (fM_mean r0 r0_6 a1) = some res) : zK Γ 2 YX12_mean [.ref (zad Γ 186), .int a1] M (fun v N => v = some (.int res.1) ∧ N = (zui M 186 res.2)) :=
  zK_of (by decide) (Nat.le_of_ble_eq_true rfl) (TX12_mean_186 Γ M r0 r0_6 e_i186 e_i188 a1 hy ⟨rfl, rfl⟩)

noncomputable def fLn_clear (r0 : Nat → Int32) : Option ((Nat → Int32)) :=
  zlet (zup r0 1 0) (fun (r0v1 : Nat → Int32) =>
  some r0v1)

set_option maxRecDepth 20000 in
theorem TX5_clear_183 (Γ : zG) {Q : Option Value → zM → Prop} (M : zM) (r0 : Nat → Int32) (e_i183 : M.1 183 = r0)  {res : (Nat → Int32)} (hy : (fLn_clear r0) = some res) (hq : Q none (zui M 183 res)) : zR Γ 1 YX5_clear 0 [(0, .ref (zad Γ 183))] [] M Q := by
  unfold fLn_clear at hy
  refine zj_aload_n (pc' := 1) 0 dX5_clear_0 rfl rfl rfl ?_
  refine zj_iconst (pc' := 2) dX5_clear_1 rfl kiconst_0 ?_
  obtain ⟨r0v1, er0v1⟩ : ∃ z, z = (zup r0 1 0) := ⟨_, rfl⟩
  have hy := zlet_at er0v1 hy
  refine zj_pI (pc' := 5) (N := (zui M 183 r0v1)) dX5_clear_2 rfl fpX5_15 sh183 rfl e_i183 er0v1 rfl ?_
  have e9 := Option.some.inj hy
  subst e9
  exact zj_vret dX5_clear_5 rfl hq
set_option maxRecDepth 20000 in
theorem LX5_clear_183 (Γ : zG) (M : zM) (r0 : Nat → Int32) (e_i183 : M.1 183 = r0)  {res : (Nat → Int32)} (hy : (fLn_clear r0) = some res) : zK Γ 1 YX5_clear [.ref (zad Γ 183)] M (fun v N => v = none ∧ N = (zui M 183 res)) :=
  zK_of (by decide) (Nat.le_of_ble_eq_true rfl) (TX5_clear_183 Γ M r0 e_i183 hy ⟨rfl, rfl⟩)

noncomputable def fPl_personName (r0 : Nat → Int32) (w0_1 : Nat → Int64) (a1 : Int32) : Option (Int64) :=
  (if (fPl_hasPerson r0 a1) = true then
  (zrd w0_1 6 a1).bind (fun (v2 : Int64) =>
  some v2)
  else
  some (0 : Int64))

set_option maxRecDepth 20000 in
theorem TX7_personName_5 (Γ : zG) {Q : Option Value → zM → Prop} (M : zM) (r0 : Nat → Int32) (w0_1 : Nat → Int64) (e_i5 : M.1 5 = r0) (e_l7 : M.2 7 = w0_1) (a1 : Int32) {res : Int64} (hy : (fPl_personName r0 w0_1 a1) = some res) (hq : Q (some (.long res)) M) : zR Γ 2 YX7_personName 0 [(0, .ref (zad Γ 5)), (1, .int a1)] [] M Q := by
  unfold fPl_personName at hy
  refine zj_aload_n (pc' := 1) 0 dX7_personName_0 rfl rfl rfl ?_
  refine zj_iload_n (pc' := 2) 1 dX7_personName_1 rfl rfl rfl ?_
  refine zj_V1 (pc' := 5) (z := YX7_hasPerson) (As := [.int a1]) (N := M) dX7_personName_2 rfl mlX7_39 lkX7_hasPerson sh5 ⟨_, _, rfl⟩ rfl rfl (Nat.le_of_ble_eq_true rfl) (Nat.le_of_ble_eq_true rfl) (LX7_hasPerson_5 Γ _ r0 e_i5 a1 rfl) rfl ?_
  refine zj_bif_eq (tgt := 17) (pc' := 8) dX7_personName_5 rfl (by decide) (fun c1 => ?_) (fun c1 => ?_)
  · have hy := zt_f hy c1
    refine zj_lconst (pc' := 18) (v := 0) dX7_personName_17 rfl (by decide) ?_
    have e9 := Option.some.inj hy
    subst e9
    exact zj_lret dX7_personName_18 rfl hq
  · have hy := zt_t hy c1
    refine zj_aload_n (pc' := 9) 0 dX7_personName_8 rfl rfl rfl ?_
    refine zj_getR (pc' := 12) (j := 7) dX7_personName_9 rfl flX7_15 sh5 rfl ?_
    refine zj_iload_n (pc' := 13) 1 dX7_personName_12 rfl rfl rfl ?_
    obtain ⟨v2, hv2, hy⟩ := zt_b hy
    refine zj_rdl (pc' := 14) dX7_personName_13 rfl sh7 e_l7 hv2 ?_
    refine zj_goto (tgt := 18) dX7_personName_14 (by decide) ?_
    have e9 := Option.some.inj hy
    subst e9
    exact zj_lret dX7_personName_18 rfl hq
set_option maxRecDepth 20000 in
theorem LX7_personName_5 (Γ : zG) (M : zM) (r0 : Nat → Int32) (w0_1 : Nat → Int64) (e_i5 : M.1 5 = r0) (e_l7 : M.2 7 = w0_1) (a1 : Int32) {res : Int64} (hy : (fPl_personName r0 w0_1 a1) = some res) : zK Γ 2 YX7_personName [.ref (zad Γ 5), .int a1] M (fun v N => v = some (.long res) ∧ N = M) :=
  zK_of (by decide) (Nat.le_of_ble_eq_true rfl) (TX7_personName_5 Γ M r0 w0_1 e_i5 e_l7 a1 hy ⟨rfl, rfl⟩)

noncomputable def fLn_addByte (r0 : Nat → Int32) (r0_0 : Nat → Int32) (a1 : Int32) : Option ((Nat → Int32) × (Nat → Int32)) :=
  (if 40 ≤ (r0 1) then
  some (r0, r0_0)
  else
  (zwr r0_0 40 (r0 1) a1).bind (fun (r0_0v2 : Nat → Int32) =>
  zlet (zup r0 1 ((r0 1) + 1)) (fun (r0v3 : Nat → Int32) =>
  some (r0v3, r0_0v2))))

set_option maxRecDepth 20000 in
theorem TX5_addByte_183 (Γ : zG) {Q : Option Value → zM → Prop} (M : zM) (r0 : Nat → Int32) (r0_0 : Nat → Int32) (e_i183 : M.1 183 = r0) (e_i184 : M.1 184 = r0_0) (a1 : Int32) {res : (Nat → Int32) × (Nat → Int32)} (hy : (fLn_addByte r0 r0_0 a1) = some res) (hq : Q none (zui (zui M 183 res.1) 184 res.2)) : zR Γ 1 YX5_addByte 0 [(0, .ref (zad Γ 183)), (1, .int a1)] [] M Q := by
  unfold fLn_addByte at hy
  refine zj_aload_n (pc' := 1) 0 dX5_addByte_0 rfl rfl rfl ?_
  refine zj_fI (pc' := 4) dX5_addByte_1 rfl flX5_15 sh183 rfl e_i183 rfl ?_
  refine zj_bipush (pc' := 6) dX5_addByte_4 rfl kbipush_40 ?_
  refine zj_icmp_ge (tgt := 29) (pc' := 9) dX5_addByte_6 rfl (by decide) (fun c1 => ?_) (fun c1 => ?_)
  · have hy := zt_t hy c1
    have e9 := Option.some.inj hy
    subst e9
    refine zj_mem (N := (zui M 183 r0)) (zself_i e_i183 rfl) ?_
    refine zj_mem (N := (zui (zui M 183 r0) 184 r0_0)) (zself_i (zr_n rfl e_i184) rfl) ?_
    exact zj_vret dX5_addByte_29 rfl hq
  · have hy := zt_f hy c1
    refine zj_aload_n (pc' := 10) 0 dX5_addByte_9 rfl rfl rfl ?_
    refine zj_getR (pc' := 13) (j := 184) dX5_addByte_10 rfl flX5_11 sh183 rfl ?_
    refine zj_aload_n (pc' := 14) 0 dX5_addByte_13 rfl rfl rfl ?_
    refine zj_fI (pc' := 17) dX5_addByte_14 rfl flX5_15 sh183 rfl e_i183 rfl ?_
    refine zj_iload_n (pc' := 18) 1 dX5_addByte_17 rfl rfl rfl ?_
    obtain ⟨r0_0v2, hr0_0v2, hy⟩ := zt_b hy
    refine zj_wri (pc' := 19) (N := (zui M 184 r0_0v2)) dX5_addByte_18 rfl sh184 e_i184 hr0_0v2 rfl ?_
    refine zj_aload_n (pc' := 20) 0 dX5_addByte_19 rfl rfl rfl ?_
    refine zj_dup (pc' := 21) dX5_addByte_20 rfl rfl ?_
    refine zj_fI (pc' := 24) dX5_addByte_21 rfl flX5_15 sh183 rfl (zr_n rfl e_i183) rfl ?_
    refine zj_iconst (pc' := 25) dX5_addByte_24 rfl kiconst_1 ?_
    refine zj_iadd (pc' := 26) dX5_addByte_25 rfl ?_
    obtain ⟨r0v3, er0v3⟩ : ∃ z, z = (zup r0 1 ((r0 1) + 1)) := ⟨_, rfl⟩
    have hy := zlet_at er0v3 hy
    refine zj_pI (pc' := 29) (N := (zui (zui M 183 r0v3) 184 r0_0v2)) dX5_addByte_26 rfl fpX5_15 sh183 rfl (zr_n rfl e_i183) er0v3 (zm_n rfl rfl) ?_
    have e9 := Option.some.inj hy
    subst e9
    exact zj_vret dX5_addByte_29 rfl hq
set_option maxRecDepth 20000 in
theorem LX5_addByte_183 (Γ : zG) (M : zM) (r0 : Nat → Int32) (r0_0 : Nat → Int32) (e_i183 : M.1 183 = r0) (e_i184 : M.1 184 = r0_0) (a1 : Int32) {res : (Nat → Int32) × (Nat → Int32)} (hy : (fLn_addByte r0 r0_0 a1) = some res) : zK Γ 1 YX5_addByte [.ref (zad Γ 183), .int a1] M (fun v N => v = none ∧ N = (zui (zui M 183 res.1) 184 res.2)) :=
  zK_of (by decide) (Nat.le_of_ble_eq_true rfl) (TX5_addByte_183 Γ M r0 r0_0 e_i183 e_i184 a1 hy ⟨rfl, rfl⟩)

noncomputable def fLn_addName_L3 (a1 : Int64) (r0v1 : Nat → Int32) (r0_0v2 : Nat → Int32) (x3 : Int32) : Option (((Nat → Int32) × (Nat → Int32) × Int32) ⊕ ((Nat → Int32) × (Nat → Int32))) :=
  (if x3 < 0 then
  some (.inr (r0v1, r0_0v2))
  else
  zlet (Int64.toInt32 ((a1 >>> (Int32.toInt64 x3 &&& 63)) &&& (31 : Int64))) (fun (x12 : Int32) =>
  (if x12 = 0 then
  zlet (x3 + (-5)) (fun (x14 : Int32) =>
  some (.inl (r0v1, r0_0v2, x14)))
  else
  (fLn_addByte r0v1 r0_0v2 ((97 + x12) - 1)).bind (fun (y15 : (Nat → Int32) × (Nat → Int32)) =>
  zlet (x3 + (-5)) (fun (x16 : Int32) =>
  some (.inl (y15.1, y15.2, x16)))))))
noncomputable def fLn_addName (r0 : Nat → Int32) (r0_0 : Nat → Int32) (a1 : Int64) : Option ((Nat → Int32) × (Nat → Int32)) :=
  (zLP (fun s => fLn_addName_L3 a1 s.1 s.2.1 s.2.2) (r0, r0_0, 30)).bind (fun r6 =>
  some (r6.1, r6.2))

set_option maxRecDepth 20000 in
theorem TX5_addName_183 (Γ : zG) {Q : Option Value → zM → Prop} (M : zM) (r0 : Nat → Int32) (r0_0 : Nat → Int32) (e_i183 : M.1 183 = r0) (e_i184 : M.1 184 = r0_0) (a1 : Int64) {res : (Nat → Int32) × (Nat → Int32)} (hy : (fLn_addName r0 r0_0 a1) = some res) (hq : Q none (zui (zui M 183 res.1) 184 res.2)) : zR Γ 2 YX5_addName 0 [(0, .ref (zad Γ 183)), (1, .long a1)] [] M Q := by
  unfold fLn_addName at hy
  refine zj_bipush (pc' := 2) dX5_addName_0 rfl kbipush_30 ?_
  refine zj_istore_n (pc' := 3) (L' := [(3, .int 30), (0, .ref (zad Γ 183)), (1, .long a1)]) dX5_addName_2 rfl rfl (by decide) rfl ?_
  refine zj_loc [1, 2, 0] rfl ?_
  refine zj_mem (N := (zui M 183 r0)) (zself_i e_i183 rfl) ?_
  refine zj_mem (N := (zui (zui M 183 r0) 184 r0_0)) (zself_i (zr_n rfl e_i184) rfl) ?_
  obtain ⟨r6, hr9, hyo7⟩ := zt_b hy
  obtain ⟨n9, hn9⟩ := zLP_some hr9
  have HE4 : ∀ (r0v17 : Nat → Int32) (r0_0v18 : Nat → Int32), r6 = (r0v17, r0_0v18) → zR Γ 2 YX5_addName 39 [] [] (zui (zui M 183 r0v17) 184 r0_0v18) Q := by
    intro r0v17 r0_0v18 e9
    have hy := hyo7
    try rw [e9] at hy
    try dsimp only at hy
    have e9 := Option.some.inj hy
    subst e9
    exact zj_vret dX5_addName_39 rfl hq
  have HL5 : ∀ (n : Nat) (r0v1 : Nat → Int32) (r0_0v2 : Nat → Int32) (x3 : Int32), zlp (fun s => fLn_addName_L3 a1 s.1 s.2.1 s.2.2) n (r0v1, r0_0v2, x3) = some r6 → zR Γ 2 YX5_addName 3 [(0, .ref (zad Γ 183)), (1, .long a1), (3, .int x3)] [] (zui (zui M 183 r0v1) 184 r0_0v2) Q := by
    intro n
    induction n with
    | zero => intro r0v1 r0_0v2 x3 hn9; cases hn9
    | succ n ih8 =>
      intro r0v1 r0_0v2 x3 hn9
      obtain ⟨o9, hb9, h9, h10⟩ := zlp_step hn9
      have hy : fLn_addName_L3 a1 r0v1 r0_0v2 x3 = some o9 := hb9
      unfold fLn_addName_L3 at hy
      refine zj_iload_n (pc' := 4) 2 dX5_addName_3 rfl rfl rfl ?_
      refine zj_if_lt (tgt := 39) (pc' := 7) dX5_addName_4 rfl (by decide) (fun c11 => ?_) (fun c11 => ?_)
      · have hy := zt_t hy c11
        have e9 := h10 _ (Option.some.inj hy).symm
        refine zj_loc [] rfl ?_
        exact HE4 _ _ e9.symm
      · have hy := zt_f hy c11
        refine zj_lload_n (pc' := 8) 1 dX5_addName_7 rfl rfl rfl ?_
        refine zj_iload_n (pc' := 9) 2 dX5_addName_8 rfl rfl rfl ?_
        refine zj_lshr (pc' := 10) dX5_addName_9 rfl ?_
        refine zj_ldc2 (pc' := 13) dX5_addName_10 rfl cL1007 ?_
        refine zj_land (pc' := 14) dX5_addName_13 rfl ?_
        refine zj_l2i (pc' := 15) dX5_addName_14 rfl ?_
        refine zj_topi (fun x12 ex12 => ?_)
        have hy := zlet_at ex12 hy
        refine zj_istore (pc' := 17) (L' := [(4, .int x12), (0, .ref (zad Γ 183)), (1, .long a1), (3, .int x3)]) dX5_addName_15 rfl (by decide) rfl ?_
        refine zj_iload (pc' := 19) 0 dX5_addName_17 rfl rfl ?_
        refine zj_if_eq (tgt := 33) (pc' := 22) dX5_addName_19 rfl (by decide) (fun c13 => ?_) (fun c13 => ?_)
        · have hy := zt_t hy c13
          obtain ⟨x14, ex14⟩ : ∃ z : Int32, z = (x3 + (-5)) := ⟨_, rfl⟩
          have hy := zlet_at ex14 hy
          refine zj_iinc (pc' := 36) 3 (L' := [(3, .int x14), (4, .int x12), (0, .ref (zad Γ 183)), (1, .long a1)]) dX5_addName_33 rfl rfl (by decide) (by rw [cim5, ← ex14]; rfl) ?_
          refine zj_goto (tgt := 3) dX5_addName_36 (by decide) ?_
          have hn9 := h9 _ (Option.some.inj hy).symm
          refine zj_loc [2, 3, 0] rfl ?_
          exact ih8 _ _ _ hn9
        · have hy := zt_f hy c13
          refine zj_aload_n (pc' := 23) 1 dX5_addName_22 rfl rfl rfl ?_
          refine zj_bipush (pc' := 25) dX5_addName_23 rfl kbipush_97 ?_
          refine zj_iload (pc' := 27) 0 dX5_addName_25 rfl rfl ?_
          refine zj_iadd (pc' := 28) dX5_addName_27 rfl ?_
          refine zj_iconst (pc' := 29) dX5_addName_28 rfl kiconst_1 ?_
          refine zj_isub (pc' := 30) dX5_addName_29 rfl ?_
          obtain ⟨y15, hy15, hy⟩ := zt_b hy
          refine zj_V0 (pc' := 33) (z := YX5_addByte) (As := [.int ((97 + x12) - 1)]) (N := (zui (zui M 183 y15.1) 184 y15.2)) dX5_addName_30 rfl mlX5_29 lkX5_addByte sh183 ⟨_, _, rfl⟩ rfl rfl (Nat.le_of_ble_eq_true rfl) (Nat.le_of_ble_eq_true rfl) (LX5_addByte_183 Γ _ r0v1 r0_0v2 (zr_n rfl zr_s) zr_s ((97 + x12) - 1) hy15) ((zch_i (zm_n rfl zm_s) zm_s)).symm ?_
          obtain ⟨x16, ex16⟩ : ∃ z : Int32, z = (x3 + (-5)) := ⟨_, rfl⟩
          have hy := zlet_at ex16 hy
          refine zj_iinc (pc' := 36) 3 (L' := [(3, .int x16), (4, .int x12), (0, .ref (zad Γ 183)), (1, .long a1)]) dX5_addName_33 rfl rfl (by decide) (by rw [cim5, ← ex16]; rfl) ?_
          refine zj_goto (tgt := 3) dX5_addName_36 (by decide) ?_
          have hn9 := h9 _ (Option.some.inj hy).symm
          refine zj_loc [2, 3, 0] rfl ?_
          exact ih8 _ _ _ hn9
  exact HL5 n9 _ _ _ hn9
set_option maxRecDepth 20000 in
theorem LX5_addName_183 (Γ : zG) (M : zM) (r0 : Nat → Int32) (r0_0 : Nat → Int32) (e_i183 : M.1 183 = r0) (e_i184 : M.1 184 = r0_0) (a1 : Int64) {res : (Nat → Int32) × (Nat → Int32)} (hy : (fLn_addName r0 r0_0 a1) = some res) : zK Γ 2 YX5_addName [.ref (zad Γ 183), .long a1] M (fun v N => v = none ∧ N = (zui (zui M 183 res.1) 184 res.2)) :=
  zK_of (by decide) (Nat.le_of_ble_eq_true rfl) (TX5_addName_183 Γ M r0 r0_0 e_i183 e_i184 a1 hy ⟨rfl, rfl⟩)

noncomputable def fM_lays (r0 : Nat → Int32) (r0_37 : Nat → Int32) (a1 : Int32) : Option ((Nat → Int32) × (Nat → Int32)) :=
  (zwr r0_37 48 (r0 38) (vp_nar .byte (Int8.toInt32 (Int32.toInt8 a1)))).bind (fun (r0_37v1 : Nat → Int32) =>
  zlet (zup r0 38 ((r0 38) + 1)) (fun (r0v2 : Nat → Int32) =>
  some (r0v2, r0_37v1)))

set_option maxRecDepth 20000 in
theorem TX12_lays_186 (Γ : zG) {Q : Option Value → zM → Prop} (M : zM) (r0 : Nat → Int32) (r0_37 : Nat → Int32) (e_i186 : M.1 186 = r0) (e_i200 : M.1 200 = r0_37) (a1 : Int32) {res : (Nat → Int32) × (Nat → Int32)} (hy : (fM_lays r0 r0_37 a1) = some res) (hq : Q none (zui (zui M 186 res.1) 200 res.2)) : zR Γ 1 YX12_lays 0 [(0, .ref (zad Γ 186)), (1, .int a1)] [] M Q := by
  unfold fM_lays at hy
  refine zj_aload_n (pc' := 1) 0 dX12_lays_0 rfl rfl rfl ?_
  refine zj_getR (pc' := 4) (j := 200) dX12_lays_1 rfl flX12_77 sh186 rfl ?_
  refine zj_aload_n (pc' := 5) 0 dX12_lays_4 rfl rfl rfl ?_
  refine zj_fI (pc' := 8) dX12_lays_5 rfl flX12_386 sh186 rfl e_i186 rfl ?_
  refine zj_iload_n (pc' := 9) 1 dX12_lays_8 rfl rfl rfl ?_
  refine zj_i2b (pc' := 10) dX12_lays_9 rfl ?_
  obtain ⟨r0_37v1, hr0_37v1, hy⟩ := zt_b hy
  refine zj_wrb (pc' := 11) (N := (zui M 200 r0_37v1)) dX12_lays_10 rfl sh200 e_i200 hr0_37v1 rfl ?_
  refine zj_aload_n (pc' := 12) 0 dX12_lays_11 rfl rfl rfl ?_
  refine zj_dup (pc' := 13) dX12_lays_12 rfl rfl ?_
  refine zj_fI (pc' := 16) dX12_lays_13 rfl flX12_386 sh186 rfl (zr_n rfl e_i186) rfl ?_
  refine zj_iconst (pc' := 17) dX12_lays_16 rfl kiconst_1 ?_
  refine zj_iadd (pc' := 18) dX12_lays_17 rfl ?_
  obtain ⟨r0v2, er0v2⟩ : ∃ z, z = (zup r0 38 ((r0 38) + 1)) := ⟨_, rfl⟩
  have hy := zlet_at er0v2 hy
  refine zj_pI (pc' := 21) (N := (zui (zui M 186 r0v2) 200 r0_37v1)) dX12_lays_18 rfl fpX12_386 sh186 rfl (zr_n rfl e_i186) er0v2 (zm_n rfl rfl) ?_
  have e9 := Option.some.inj hy
  subst e9
  exact zj_vret dX12_lays_21 rfl hq
set_option maxRecDepth 20000 in
theorem LX12_lays_186 (Γ : zG) (M : zM) (r0 : Nat → Int32) (r0_37 : Nat → Int32) (e_i186 : M.1 186 = r0) (e_i200 : M.1 200 = r0_37) (a1 : Int32) {res : (Nat → Int32) × (Nat → Int32)} (hy : (fM_lays r0 r0_37 a1) = some res) : zK Γ 1 YX12_lays [.ref (zad Γ 186), .int a1] M (fun v N => v = none ∧ N = (zui (zui M 186 res.1) 200 res.2)) :=
  zK_of (by decide) (Nat.le_of_ble_eq_true rfl) (TX12_lays_186 Γ M r0 r0_37 e_i186 e_i200 a1 hy ⟨rfl, rfl⟩)

noncomputable def fM_spells_L3 (a1 : Int64) (r0v1 : Nat → Int32) (r0_37v2 : Nat → Int32) (x3 : Int32) : Option (((Nat → Int32) × (Nat → Int32) × Int32) ⊕ ((Nat → Int32) × (Nat → Int32))) :=
  (if x3 < 0 then
  some (.inr (r0v1, r0_37v2))
  else
  (if (lg_cmp ((a1 >>> (Int32.toInt64 x3 &&& 63)) &&& (255 : Int64)) (0 : Int64)) = 0 then
  zlet (x3 + (-8)) (fun (x13 : Int32) =>
  some (.inl (r0v1, r0_37v2, x13)))
  else
  (fM_lays r0v1 r0_37v2 (Int64.toInt32 ((a1 >>> (Int32.toInt64 x3 &&& 63)) &&& (255 : Int64)))).bind (fun (y14 : (Nat → Int32) × (Nat → Int32)) =>
  zlet (x3 + (-8)) (fun (x15 : Int32) =>
  some (.inl (y14.1, y14.2, x15))))))
noncomputable def fM_spells (r0 : Nat → Int32) (r0_37 : Nat → Int32) (a1 : Int64) : Option ((Nat → Int32) × (Nat → Int32)) :=
  (zLP (fun s => fM_spells_L3 a1 s.1 s.2.1 s.2.2) (r0, r0_37, 56)).bind (fun r6 =>
  some (r6.1, r6.2))

set_option maxRecDepth 20000 in
theorem TX12_spells_186 (Γ : zG) {Q : Option Value → zM → Prop} (M : zM) (r0 : Nat → Int32) (r0_37 : Nat → Int32) (e_i186 : M.1 186 = r0) (e_i200 : M.1 200 = r0_37) (a1 : Int64) {res : (Nat → Int32) × (Nat → Int32)} (hy : (fM_spells r0 r0_37 a1) = some res) (hq : Q none (zui (zui M 186 res.1) 200 res.2)) : zR Γ 2 YX12_spells 0 [(0, .ref (zad Γ 186)), (1, .long a1)] [] M Q := by
  unfold fM_spells at hy
  refine zj_bipush (pc' := 2) dX12_spells_0 rfl kbipush_56 ?_
  refine zj_istore_n (pc' := 3) (L' := [(3, .int 56), (0, .ref (zad Γ 186)), (1, .long a1)]) dX12_spells_2 rfl rfl (by decide) rfl ?_
  refine zj_loc [1, 2, 0] rfl ?_
  refine zj_mem (N := (zui M 186 r0)) (zself_i e_i186 rfl) ?_
  refine zj_mem (N := (zui (zui M 186 r0) 200 r0_37)) (zself_i (zr_n rfl e_i200) rfl) ?_
  obtain ⟨r6, hr9, hyo7⟩ := zt_b hy
  obtain ⟨n9, hn9⟩ := zLP_some hr9
  have HE4 : ∀ (r0v16 : Nat → Int32) (r0_37v17 : Nat → Int32), r6 = (r0v16, r0_37v17) → zR Γ 2 YX12_spells 37 [] [] (zui (zui M 186 r0v16) 200 r0_37v17) Q := by
    intro r0v16 r0_37v17 e9
    have hy := hyo7
    try rw [e9] at hy
    try dsimp only at hy
    have e9 := Option.some.inj hy
    subst e9
    exact zj_vret dX12_spells_37 rfl hq
  have HL5 : ∀ (n : Nat) (r0v1 : Nat → Int32) (r0_37v2 : Nat → Int32) (x3 : Int32), zlp (fun s => fM_spells_L3 a1 s.1 s.2.1 s.2.2) n (r0v1, r0_37v2, x3) = some r6 → zR Γ 2 YX12_spells 3 [(0, .ref (zad Γ 186)), (1, .long a1), (3, .int x3)] [] (zui (zui M 186 r0v1) 200 r0_37v2) Q := by
    intro n
    induction n with
    | zero => intro r0v1 r0_37v2 x3 hn9; cases hn9
    | succ n ih8 =>
      intro r0v1 r0_37v2 x3 hn9
      obtain ⟨o9, hb9, h9, h10⟩ := zlp_step hn9
      have hy : fM_spells_L3 a1 r0v1 r0_37v2 x3 = some o9 := hb9
      unfold fM_spells_L3 at hy
      refine zj_iload_n (pc' := 4) 2 dX12_spells_3 rfl rfl rfl ?_
      refine zj_if_lt (tgt := 37) (pc' := 7) dX12_spells_4 rfl (by decide) (fun c11 => ?_) (fun c11 => ?_)
      · have hy := zt_t hy c11
        have e9 := h10 _ (Option.some.inj hy).symm
        refine zj_loc [] rfl ?_
        exact HE4 _ _ e9.symm
      · have hy := zt_f hy c11
        refine zj_lload_n (pc' := 8) 1 dX12_spells_7 rfl rfl rfl ?_
        refine zj_iload_n (pc' := 9) 2 dX12_spells_8 rfl rfl rfl ?_
        refine zj_lshr (pc' := 10) dX12_spells_9 rfl ?_
        refine zj_ldc2 (pc' := 13) dX12_spells_10 rfl cL1919 ?_
        refine zj_land (pc' := 14) dX12_spells_13 rfl ?_
        refine zj_lconst (pc' := 15) (v := 0) dX12_spells_14 rfl (by decide) ?_
        refine zj_lcmp (pc' := 16) dX12_spells_15 rfl ?_
        refine zj_if_eq (tgt := 31) (pc' := 19) dX12_spells_16 rfl (by decide) (fun c12 => ?_) (fun c12 => ?_)
        · have hy := zt_t hy c12
          obtain ⟨x13, ex13⟩ : ∃ z : Int32, z = (x3 + (-8)) := ⟨_, rfl⟩
          have hy := zlet_at ex13 hy
          refine zj_iinc (pc' := 34) 2 (L' := [(3, .int x13), (0, .ref (zad Γ 186)), (1, .long a1)]) dX12_spells_31 rfl rfl (by decide) (by rw [cim8, ← ex13]; rfl) ?_
          refine zj_goto (tgt := 3) dX12_spells_34 (by decide) ?_
          have hn9 := h9 _ (Option.some.inj hy).symm
          refine zj_loc [1, 2, 0] rfl ?_
          exact ih8 _ _ _ hn9
        · have hy := zt_f hy c12
          refine zj_aload_n (pc' := 20) 0 dX12_spells_19 rfl rfl rfl ?_
          refine zj_lload_n (pc' := 21) 1 dX12_spells_20 rfl rfl rfl ?_
          refine zj_iload_n (pc' := 22) 2 dX12_spells_21 rfl rfl rfl ?_
          refine zj_lshr (pc' := 23) dX12_spells_22 rfl ?_
          refine zj_ldc2 (pc' := 26) dX12_spells_23 rfl cL1919 ?_
          refine zj_land (pc' := 27) dX12_spells_26 rfl ?_
          refine zj_l2i (pc' := 28) dX12_spells_27 rfl ?_
          obtain ⟨y14, hy14, hy⟩ := zt_b hy
          refine zj_V0 (pc' := 31) (z := YX12_lays) (As := [.int (Int64.toInt32 ((a1 >>> (Int32.toInt64 x3 &&& 63)) &&& (255 : Int64)))]) (N := (zui (zui M 186 y14.1) 200 y14.2)) dX12_spells_28 rfl mlX12_391 lkX12_lays sh186 ⟨_, _, rfl⟩ rfl rfl (Nat.le_of_ble_eq_true rfl) (Nat.le_of_ble_eq_true rfl) (LX12_lays_186 Γ _ r0v1 r0_37v2 (zr_n rfl zr_s) zr_s (Int64.toInt32 ((a1 >>> (Int32.toInt64 x3 &&& 63)) &&& (255 : Int64))) hy14) ((zch_i (zm_n rfl zm_s) zm_s)).symm ?_
          obtain ⟨x15, ex15⟩ : ∃ z : Int32, z = (x3 + (-8)) := ⟨_, rfl⟩
          have hy := zlet_at ex15 hy
          refine zj_iinc (pc' := 34) 2 (L' := [(3, .int x15), (0, .ref (zad Γ 186)), (1, .long a1)]) dX12_spells_31 rfl rfl (by decide) (by rw [cim8, ← ex15]; rfl) ?_
          refine zj_goto (tgt := 3) dX12_spells_34 (by decide) ?_
          have hn9 := h9 _ (Option.some.inj hy).symm
          refine zj_loc [1, 2, 0] rfl ?_
          exact ih8 _ _ _ hn9
  exact HL5 n9 _ _ _ hn9
set_option maxRecDepth 20000 in
theorem LX12_spells_186 (Γ : zG) (M : zM) (r0 : Nat → Int32) (r0_37 : Nat → Int32) (e_i186 : M.1 186 = r0) (e_i200 : M.1 200 = r0_37) (a1 : Int64) {res : (Nat → Int32) × (Nat → Int32)} (hy : (fM_spells r0 r0_37 a1) = some res) : zK Γ 2 YX12_spells [.ref (zad Γ 186), .long a1] M (fun v N => v = none ∧ N = (zui (zui M 186 res.1) 200 res.2)) :=
  zK_of (by decide) (Nat.le_of_ble_eq_true rfl) (TX12_spells_186 Γ M r0 r0_37 e_i186 e_i200 a1 hy ⟨rfl, rfl⟩)

noncomputable def fM_says (r0 : Nat → Int32) (r0_37 : Nat → Int32) (a1 : Int64) : Option ((Nat → Int32) × (Nat → Int32)) :=
  (fM_lays r0 r0_37 32).bind (fun (y1 : (Nat → Int32) × (Nat → Int32)) =>
  (fM_spells y1.1 y1.2 a1).bind (fun (y2 : (Nat → Int32) × (Nat → Int32)) =>
  some (y2.1, y2.2)))

set_option maxRecDepth 20000 in
theorem TX12_says_186 (Γ : zG) {Q : Option Value → zM → Prop} (M : zM) (r0 : Nat → Int32) (r0_37 : Nat → Int32) (e_i186 : M.1 186 = r0) (e_i200 : M.1 200 = r0_37) (a1 : Int64) {res : (Nat → Int32) × (Nat → Int32)} (hy : (fM_says r0 r0_37 a1) = some res) (hq : Q none (zui (zui M 186 res.1) 200 res.2)) : zR Γ 3 YX12_says 0 [(0, .ref (zad Γ 186)), (1, .long a1)] [] M Q := by
  unfold fM_says at hy
  refine zj_aload_n (pc' := 1) 0 dX12_says_0 rfl rfl rfl ?_
  refine zj_bipush (pc' := 3) dX12_says_1 rfl kbipush_32 ?_
  obtain ⟨y1, hy1, hy⟩ := zt_b hy
  refine zj_V0 (pc' := 6) (z := YX12_lays) (As := [.int 32]) (N := (zui (zui M 186 y1.1) 200 y1.2)) dX12_says_3 rfl mlX12_391 lkX12_lays sh186 ⟨_, _, rfl⟩ rfl rfl (Nat.le_of_ble_eq_true rfl) (Nat.le_of_ble_eq_true rfl) (LX12_lays_186 Γ _ r0 r0_37 e_i186 e_i200 32 hy1) ((zch_i rfl rfl)).symm ?_
  refine zj_aload_n (pc' := 7) 0 dX12_says_6 rfl rfl rfl ?_
  refine zj_lload_n (pc' := 8) 1 dX12_says_7 rfl rfl rfl ?_
  obtain ⟨y2, hy2, hy⟩ := zt_b hy
  refine zj_V0 (pc' := 11) (z := YX12_spells) (As := [.long a1]) (N := (zui (zui M 186 y2.1) 200 y2.2)) dX12_says_8 rfl mlX12_394 lkX12_spells sh186 ⟨_, _, rfl⟩ rfl rfl (Nat.le_of_ble_eq_true rfl) (Nat.le_of_ble_eq_true rfl) (LX12_spells_186 Γ _ y1.1 y1.2 (zr_n rfl zr_s) zr_s a1 hy2) ((zch_i (zm_n rfl zm_s) zm_s)).symm ?_
  have e9 := Option.some.inj hy
  subst e9
  exact zj_vret dX12_says_11 rfl hq
set_option maxRecDepth 20000 in
theorem LX12_says_186 (Γ : zG) (M : zM) (r0 : Nat → Int32) (r0_37 : Nat → Int32) (e_i186 : M.1 186 = r0) (e_i200 : M.1 200 = r0_37) (a1 : Int64) {res : (Nat → Int32) × (Nat → Int32)} (hy : (fM_says r0 r0_37 a1) = some res) : zK Γ 3 YX12_says [.ref (zad Γ 186), .long a1] M (fun v N => v = none ∧ N = (zui (zui M 186 res.1) 200 res.2)) :=
  zK_of (by decide) (Nat.le_of_ble_eq_true rfl) (TX12_says_186 Γ M r0 r0_37 e_i186 e_i200 a1 hy ⟨rfl, rfl⟩)

noncomputable def fM_line (r0 : Nat → Int32) (r0_6 : Nat → Int32) (w0_9 : Nat → Int64) (r0_37 : Nat → Int32) (a1 : Int32) : Option (Int32 × (Nat → Int32) × (Nat → Int32)) :=
  zlet (zup r0 0 0) (fun (r0v1 : Nat → Int32) =>
  (fM_isPerson r0_6 a1).bind (fun (y2 : Bool) =>
  (if y2 = true then
  zlet (zup r0v1 38 0) (fun (r0v4 : Nat → Int32) =>
  (zrd w0_9 28 (8 + a1)).bind (fun (v5 : Int64) =>
  (fM_spells r0v4 r0_37 v5).bind (fun (y6 : (Nat → Int32) × (Nat → Int32)) =>
  (fM_says y6.1 y6.2 (24948 : Int64)).bind (fun (y7 : (Nat → Int32) × (Nat → Int32)) =>
  (zrd r0_6 397 (91 + a1)).bind (fun (v8 : Int32) =>
  (zrd w0_9 28 v8).bind (fun (v9 : Int64) =>
  (fM_says y7.1 y7.2 v9).bind (fun (y10 : (Nat → Int32) × (Nat → Int32)) =>
  (zrd r0_6 397 (133 + a1)).bind (fun (v11 : Int32) =>
  (if v11 ≤ 0 then
  (zrd r0_6 397 (145 + a1)).bind (fun (v13 : Int32) =>
  (if v13 ≤ 0 then
  (fM_says y10.1 y10.2 (495873784179 : Int64)).bind (fun (y15 : (Nat → Int32) × (Nat → Int32)) =>
  some ((y15.1 38), y15.1, y15.2))
  else
  (fM_says y10.1 y10.2 (1735353715 : Int64)).bind (fun (y16 : (Nat → Int32) × (Nat → Int32)) =>
  (fM_lays y16.1 y16.2 32).bind (fun (y17 : (Nat → Int32) × (Nat → Int32)) =>
  (zrd r0_6 397 (145 + a1)).bind (fun (v18 : Int32) =>
  (fM_lays y17.1 y17.2 (48 + v18)).bind (fun (y19 : (Nat → Int32) × (Nat → Int32)) =>
  some ((y19.1 38), y19.1, y19.2)))))))
  else
  (fM_says y10.1 y10.2 (418330731890 : Int64)).bind (fun (y20 : (Nat → Int32) × (Nat → Int32)) =>
  (fM_whomBy r0_6 a1).bind (fun (y21 : Int32) =>
  (zrd w0_9 28 (8 + y21)).bind (fun (v22 : Int64) =>
  (fM_says y20.1 y20.2 v22).bind (fun (y23 : (Nat → Int32) × (Nat → Int32)) =>
  some ((y23.1 38), y23.1, y23.2))))))))))))))
  else
  some ((-1), r0v1, r0_37))))

set_option maxRecDepth 20000 in
theorem TX12_line_186 (Γ : zG) {Q : Option Value → zM → Prop} (M : zM) (r0 : Nat → Int32) (r0_6 : Nat → Int32) (w0_9 : Nat → Int64) (r0_37 : Nat → Int32) (e_i186 : M.1 186 = r0) (e_i188 : M.1 188 = r0_6) (e_l191 : M.2 191 = w0_9) (e_i200 : M.1 200 = r0_37) (a1 : Int32) {res : Int32 × (Nat → Int32) × (Nat → Int32)} (hy : (fM_line r0 r0_6 w0_9 r0_37 a1) = some res) (hq : Q (some (.int res.1)) (zui (zui M 186 res.2.1) 200 res.2.2)) : zR Γ 4 YX12_line 0 [(0, .ref (zad Γ 186)), (1, .int a1)] [] M Q := by
  unfold fM_line at hy
  refine zj_aload_n (pc' := 1) 0 dX12_line_0 rfl rfl rfl ?_
  refine zj_iconst (pc' := 2) dX12_line_1 rfl kiconst_0 ?_
  obtain ⟨r0v1, er0v1⟩ : ∃ z, z = (zup r0 0 0) := ⟨_, rfl⟩
  have hy := zlet_at er0v1 hy
  refine zj_pI (pc' := 5) (N := (zui M 186 r0v1)) dX12_line_2 rfl fpX12_1 sh186 rfl e_i186 er0v1 rfl ?_
  refine zj_aload_n (pc' := 6) 0 dX12_line_5 rfl rfl rfl ?_
  refine zj_iload_n (pc' := 7) 1 dX12_line_6 rfl rfl rfl ?_
  obtain ⟨y2, hy2, hy⟩ := zt_b hy
  refine zj_V1 (pc' := 10) (z := YX12_isPerson) (As := [.int a1]) (N := (zui M 186 r0v1)) dX12_line_7 rfl mlX12_270 lkX12_isPerson sh186 ⟨_, _, rfl⟩ rfl rfl (Nat.le_of_ble_eq_true rfl) (Nat.le_of_ble_eq_true rfl) (LX12_isPerson_186 Γ _ r0_6 (zr_n rfl e_i188) a1 hy2) rfl ?_
  refine zj_bif_ne (tgt := 15) (pc' := 13) dX12_line_10 rfl (by decide) (fun c3 => ?_) (fun c3 => ?_)
  · have hy := zt_t hy c3
    refine zj_aload_n (pc' := 16) 0 dX12_line_15 rfl rfl rfl ?_
    refine zj_iconst (pc' := 17) dX12_line_16 rfl kiconst_0 ?_
    obtain ⟨r0v4, er0v4⟩ : ∃ z, z = (zup r0v1 38 0) := ⟨_, rfl⟩
    have hy := zlet_at er0v4 hy
    refine zj_pI (pc' := 20) (N := (zui M 186 r0v4)) dX12_line_17 rfl fpX12_386 sh186 rfl zr_s er0v4 zm_s ?_
    refine zj_aload_n (pc' := 21) 0 dX12_line_20 rfl rfl rfl ?_
    refine zj_aload_n (pc' := 22) 0 dX12_line_21 rfl rfl rfl ?_
    refine zj_getR (pc' := 25) (j := 191) dX12_line_22 rfl flX12_43 sh186 rfl ?_
    refine zj_bipush (pc' := 27) dX12_line_25 rfl kbipush_8 ?_
    refine zj_iload_n (pc' := 28) 1 dX12_line_27 rfl rfl rfl ?_
    refine zj_iadd (pc' := 29) dX12_line_28 rfl ?_
    obtain ⟨v5, hv5, hy⟩ := zt_b hy
    refine zj_rdl (pc' := 30) dX12_line_29 rfl sh191 (zq_i e_l191) hv5 ?_
    obtain ⟨y6, hy6, hy⟩ := zt_b hy
    refine zj_V0 (pc' := 33) (z := YX12_spells) (As := [.long v5]) (N := (zui (zui M 186 y6.1) 200 y6.2)) dX12_line_30 rfl mlX12_394 lkX12_spells sh186 ⟨_, _, rfl⟩ rfl rfl (Nat.le_of_ble_eq_true rfl) (Nat.le_of_ble_eq_true rfl) (LX12_spells_186 Γ _ r0v4 r0_37 zr_s (zr_n rfl e_i200) v5 hy6) ((zch_i zm_s rfl)).symm ?_
    refine zj_aload_n (pc' := 34) 0 dX12_line_33 rfl rfl rfl ?_
    refine zj_ldc2 (pc' := 37) dX12_line_34 rfl cL1406 ?_
    obtain ⟨y7, hy7, hy⟩ := zt_b hy
    refine zj_V0 (pc' := 40) (z := YX12_says) (As := [.long (24948 : Int64)]) (N := (zui (zui M 186 y7.1) 200 y7.2)) dX12_line_37 rfl mlX12_398 lkX12_says sh186 ⟨_, _, rfl⟩ rfl rfl (Nat.le_of_ble_eq_true rfl) (Nat.le_of_ble_eq_true rfl) (LX12_says_186 Γ _ y6.1 y6.2 (zr_n rfl zr_s) zr_s (24948 : Int64) hy7) ((zch_i (zm_n rfl zm_s) zm_s)).symm ?_
    refine zj_aload_n (pc' := 41) 0 dX12_line_40 rfl rfl rfl ?_
    refine zj_aload_n (pc' := 42) 0 dX12_line_41 rfl rfl rfl ?_
    refine zj_getR (pc' := 45) (j := 191) dX12_line_42 rfl flX12_43 sh186 rfl ?_
    refine zj_aload_n (pc' := 46) 0 dX12_line_45 rfl rfl rfl ?_
    refine zj_getR (pc' := 49) (j := 188) dX12_line_46 rfl flX12_33 sh186 rfl ?_
    refine zj_bipush (pc' := 51) dX12_line_49 rfl kbipush_91 ?_
    refine zj_iload_n (pc' := 52) 1 dX12_line_51 rfl rfl rfl ?_
    refine zj_iadd (pc' := 53) dX12_line_52 rfl ?_
    obtain ⟨v8, hv8, hy⟩ := zt_b hy
    refine zj_rdi (pc' := 54) dX12_line_53 rfl sh188 (zr_n rfl (zr_n rfl e_i188)) hv8 ?_
    obtain ⟨v9, hv9, hy⟩ := zt_b hy
    refine zj_rdl (pc' := 55) dX12_line_54 rfl sh191 (zq_i (zq_i e_l191)) hv9 ?_
    obtain ⟨y10, hy10, hy⟩ := zt_b hy
    refine zj_V0 (pc' := 58) (z := YX12_says) (As := [.long v9]) (N := (zui (zui M 186 y10.1) 200 y10.2)) dX12_line_55 rfl mlX12_398 lkX12_says sh186 ⟨_, _, rfl⟩ rfl rfl (Nat.le_of_ble_eq_true rfl) (Nat.le_of_ble_eq_true rfl) (LX12_says_186 Γ _ y7.1 y7.2 (zr_n rfl zr_s) zr_s v9 hy10) ((zch_i (zm_n rfl zm_s) zm_s)).symm ?_
    refine zj_aload_n (pc' := 59) 0 dX12_line_58 rfl rfl rfl ?_
    refine zj_getR (pc' := 62) (j := 188) dX12_line_59 rfl flX12_33 sh186 rfl ?_
    refine zj_sipush (pc' := 65) dX12_line_62 rfl ksipush_133 ?_
    refine zj_iload_n (pc' := 66) 1 dX12_line_65 rfl rfl rfl ?_
    refine zj_iadd (pc' := 67) dX12_line_66 rfl ?_
    obtain ⟨v11, hv11, hy⟩ := zt_b hy
    refine zj_rdi (pc' := 68) dX12_line_67 rfl sh188 (zr_n rfl (zr_n rfl e_i188)) hv11 ?_
    refine zj_if_le (tgt := 98) (pc' := 71) dX12_line_68 rfl (by decide) (fun c12 => ?_) (fun c12 => ?_)
    · have hy := zt_t hy c12
      refine zj_aload_n (pc' := 99) 0 dX12_line_98 rfl rfl rfl ?_
      refine zj_getR (pc' := 102) (j := 188) dX12_line_99 rfl flX12_33 sh186 rfl ?_
      refine zj_sipush (pc' := 105) dX12_line_102 rfl ksipush_145 ?_
      refine zj_iload_n (pc' := 106) 1 dX12_line_105 rfl rfl rfl ?_
      refine zj_iadd (pc' := 107) dX12_line_106 rfl ?_
      obtain ⟨v13, hv13, hy⟩ := zt_b hy
      refine zj_rdi (pc' := 108) dX12_line_107 rfl sh188 (zr_n rfl (zr_n rfl e_i188)) hv13 ?_
      refine zj_if_le (tgt := 144) (pc' := 111) dX12_line_108 rfl (by decide) (fun c14 => ?_) (fun c14 => ?_)
      · have hy := zt_t hy c14
        refine zj_aload_n (pc' := 145) 0 dX12_line_144 rfl rfl rfl ?_
        refine zj_ldc2 (pc' := 148) dX12_line_145 rfl cL1928 ?_
        obtain ⟨y15, hy15, hy⟩ := zt_b hy
        refine zj_V0 (pc' := 151) (z := YX12_says) (As := [.long (495873784179 : Int64)]) (N := (zui (zui M 186 y15.1) 200 y15.2)) dX12_line_148 rfl mlX12_398 lkX12_says sh186 ⟨_, _, rfl⟩ rfl rfl (Nat.le_of_ble_eq_true rfl) (Nat.le_of_ble_eq_true rfl) (LX12_says_186 Γ _ y10.1 y10.2 (zr_n rfl zr_s) zr_s (495873784179 : Int64) hy15) ((zch_i (zm_n rfl zm_s) zm_s)).symm ?_
        refine zj_aload_n (pc' := 152) 0 dX12_line_151 rfl rfl rfl ?_
        refine zj_fI (pc' := 155) dX12_line_152 rfl flX12_386 sh186 rfl (zr_n rfl zr_s) rfl ?_
        have e9 := Option.some.inj hy
        subst e9
        exact zj_iret dX12_line_155 rfl hq
      · have hy := zt_f hy c14
        refine zj_aload_n (pc' := 112) 0 dX12_line_111 rfl rfl rfl ?_
        refine zj_ldc2 (pc' := 115) dX12_line_112 rfl cL1395 ?_
        obtain ⟨y16, hy16, hy⟩ := zt_b hy
        refine zj_V0 (pc' := 118) (z := YX12_says) (As := [.long (1735353715 : Int64)]) (N := (zui (zui M 186 y16.1) 200 y16.2)) dX12_line_115 rfl mlX12_398 lkX12_says sh186 ⟨_, _, rfl⟩ rfl rfl (Nat.le_of_ble_eq_true rfl) (Nat.le_of_ble_eq_true rfl) (LX12_says_186 Γ _ y10.1 y10.2 (zr_n rfl zr_s) zr_s (1735353715 : Int64) hy16) ((zch_i (zm_n rfl zm_s) zm_s)).symm ?_
        refine zj_aload_n (pc' := 119) 0 dX12_line_118 rfl rfl rfl ?_
        refine zj_bipush (pc' := 121) dX12_line_119 rfl kbipush_32 ?_
        obtain ⟨y17, hy17, hy⟩ := zt_b hy
        refine zj_V0 (pc' := 124) (z := YX12_lays) (As := [.int 32]) (N := (zui (zui M 186 y17.1) 200 y17.2)) dX12_line_121 rfl mlX12_391 lkX12_lays sh186 ⟨_, _, rfl⟩ rfl rfl (Nat.le_of_ble_eq_true rfl) (Nat.le_of_ble_eq_true rfl) (LX12_lays_186 Γ _ y16.1 y16.2 (zr_n rfl zr_s) zr_s 32 hy17) ((zch_i (zm_n rfl zm_s) zm_s)).symm ?_
        refine zj_aload_n (pc' := 125) 0 dX12_line_124 rfl rfl rfl ?_
        refine zj_bipush (pc' := 127) dX12_line_125 rfl kbipush_48 ?_
        refine zj_aload_n (pc' := 128) 0 dX12_line_127 rfl rfl rfl ?_
        refine zj_getR (pc' := 131) (j := 188) dX12_line_128 rfl flX12_33 sh186 rfl ?_
        refine zj_sipush (pc' := 134) dX12_line_131 rfl ksipush_145 ?_
        refine zj_iload_n (pc' := 135) 1 dX12_line_134 rfl rfl rfl ?_
        refine zj_iadd (pc' := 136) dX12_line_135 rfl ?_
        obtain ⟨v18, hv18, hy⟩ := zt_b hy
        refine zj_rdi (pc' := 137) dX12_line_136 rfl sh188 (zr_n rfl (zr_n rfl e_i188)) hv18 ?_
        refine zj_iadd (pc' := 138) dX12_line_137 rfl ?_
        obtain ⟨y19, hy19, hy⟩ := zt_b hy
        refine zj_V0 (pc' := 141) (z := YX12_lays) (As := [.int (48 + v18)]) (N := (zui (zui M 186 y19.1) 200 y19.2)) dX12_line_138 rfl mlX12_391 lkX12_lays sh186 ⟨_, _, rfl⟩ rfl rfl (Nat.le_of_ble_eq_true rfl) (Nat.le_of_ble_eq_true rfl) (LX12_lays_186 Γ _ y17.1 y17.2 (zr_n rfl zr_s) zr_s (48 + v18) hy19) ((zch_i (zm_n rfl zm_s) zm_s)).symm ?_
        refine zj_goto (tgt := 151) dX12_line_141 (by decide) ?_
        refine zj_aload_n (pc' := 152) 0 dX12_line_151 rfl rfl rfl ?_
        refine zj_fI (pc' := 155) dX12_line_152 rfl flX12_386 sh186 rfl (zr_n rfl zr_s) rfl ?_
        have e9 := Option.some.inj hy
        subst e9
        exact zj_iret dX12_line_155 rfl hq
    · have hy := zt_f hy c12
      refine zj_aload_n (pc' := 72) 0 dX12_line_71 rfl rfl rfl ?_
      refine zj_ldc2 (pc' := 75) dX12_line_72 rfl cL1407 ?_
      obtain ⟨y20, hy20, hy⟩ := zt_b hy
      refine zj_V0 (pc' := 78) (z := YX12_says) (As := [.long (418330731890 : Int64)]) (N := (zui (zui M 186 y20.1) 200 y20.2)) dX12_line_75 rfl mlX12_398 lkX12_says sh186 ⟨_, _, rfl⟩ rfl rfl (Nat.le_of_ble_eq_true rfl) (Nat.le_of_ble_eq_true rfl) (LX12_says_186 Γ _ y10.1 y10.2 (zr_n rfl zr_s) zr_s (418330731890 : Int64) hy20) ((zch_i (zm_n rfl zm_s) zm_s)).symm ?_
      refine zj_aload_n (pc' := 79) 0 dX12_line_78 rfl rfl rfl ?_
      refine zj_aload_n (pc' := 80) 0 dX12_line_79 rfl rfl rfl ?_
      refine zj_getR (pc' := 83) (j := 191) dX12_line_80 rfl flX12_43 sh186 rfl ?_
      refine zj_bipush (pc' := 85) dX12_line_83 rfl kbipush_8 ?_
      refine zj_aload_n (pc' := 86) 0 dX12_line_85 rfl rfl rfl ?_
      refine zj_iload_n (pc' := 87) 1 dX12_line_86 rfl rfl rfl ?_
      obtain ⟨y21, hy21, hy⟩ := zt_b hy
      refine zj_V1 (pc' := 90) (z := YX12_whomBy) (As := [.int a1]) (N := (zui (zui M 186 y20.1) 200 y20.2)) dX12_line_87 rfl mlX12_266 lkX12_whomBy sh186 ⟨_, _, rfl⟩ rfl rfl (Nat.le_of_ble_eq_true rfl) (Nat.le_of_ble_eq_true rfl) (LX12_whomBy_186 Γ _ r0_6 (zr_n rfl (zr_n rfl e_i188)) a1 hy21) rfl ?_
      refine zj_iadd (pc' := 91) dX12_line_90 rfl ?_
      obtain ⟨v22, hv22, hy⟩ := zt_b hy
      refine zj_rdl (pc' := 92) dX12_line_91 rfl sh191 (zq_i (zq_i e_l191)) hv22 ?_
      obtain ⟨y23, hy23, hy⟩ := zt_b hy
      refine zj_V0 (pc' := 95) (z := YX12_says) (As := [.long v22]) (N := (zui (zui M 186 y23.1) 200 y23.2)) dX12_line_92 rfl mlX12_398 lkX12_says sh186 ⟨_, _, rfl⟩ rfl rfl (Nat.le_of_ble_eq_true rfl) (Nat.le_of_ble_eq_true rfl) (LX12_says_186 Γ _ y20.1 y20.2 (zr_n rfl zr_s) zr_s v22 hy23) ((zch_i (zm_n rfl zm_s) zm_s)).symm ?_
      refine zj_goto (tgt := 151) dX12_line_95 (by decide) ?_
      refine zj_aload_n (pc' := 152) 0 dX12_line_151 rfl rfl rfl ?_
      refine zj_fI (pc' := 155) dX12_line_152 rfl flX12_386 sh186 rfl (zr_n rfl zr_s) rfl ?_
      have e9 := Option.some.inj hy
      subst e9
      exact zj_iret dX12_line_155 rfl hq
  · have hy := zt_f hy c3
    refine zj_iconst (pc' := 14) dX12_line_13 rfl kiconst_m1 ?_
    have e9 := Option.some.inj hy
    subst e9
    refine zj_mem (N := (zui (zui M 186 r0v1) 200 r0_37)) (zself_i (zr_n rfl e_i200) rfl) ?_
    exact zj_iret dX12_line_14 rfl hq
set_option maxRecDepth 20000 in
theorem LX12_line_186 (Γ : zG) (M : zM) (r0 : Nat → Int32) (r0_6 : Nat → Int32) (w0_9 : Nat → Int64) (r0_37 : Nat → Int32) (e_i186 : M.1 186 = r0) (e_i188 : M.1 188 = r0_6) (e_l191 : M.2 191 = w0_9) (e_i200 : M.1 200 = r0_37) (a1 : Int32) {res : Int32 × (Nat → Int32) × (Nat → Int32)} (hy : (fM_line r0 r0_6 w0_9 r0_37 a1) = some res) : zK Γ 4 YX12_line [.ref (zad Γ 186), .int a1] M (fun v N => v = some (.int res.1) ∧ N = (zui (zui M 186 res.2.1) 200 res.2.2)) :=
  zK_of (by decide) (Nat.le_of_ble_eq_true rfl) (TX12_line_186 Γ M r0 r0_6 w0_9 r0_37 e_i186 e_i188 e_l191 e_i200 a1 hy ⟨rfl, rfl⟩)

noncomputable def fLn_byteOf (r0 : Nat → Int32) (r0_0 : Nat → Int32) (a1 : Int32) : Option (Int32) :=
  (if a1 < 0 then
  some (-1)
  else
  (if (r0 1) ≤ a1 then
  some (-1)
  else
  (if 40 ≤ a1 then
  some (-1)
  else
  (zrd r0_0 40 a1).bind (fun (v4 : Int32) =>
  some v4))))

set_option maxRecDepth 20000 in
theorem TX5_byteOf_183 (Γ : zG) {Q : Option Value → zM → Prop} (M : zM) (r0 : Nat → Int32) (r0_0 : Nat → Int32) (e_i183 : M.1 183 = r0) (e_i184 : M.1 184 = r0_0) (a1 : Int32) {res : Int32} (hy : (fLn_byteOf r0 r0_0 a1) = some res) (hq : Q (some (.int res)) M) : zR Γ 1 YX5_byteOf 0 [(0, .ref (zad Γ 183)), (1, .int a1)] [] M Q := by
  unfold fLn_byteOf at hy
  refine zj_iload_n (pc' := 1) 1 dX5_byteOf_0 rfl rfl rfl ?_
  refine zj_if_lt (tgt := 27) (pc' := 4) dX5_byteOf_1 rfl (by decide) (fun c1 => ?_) (fun c1 => ?_)
  · have hy := zt_t hy c1
    refine zj_iconst (pc' := 28) dX5_byteOf_27 rfl kiconst_m1 ?_
    have e9 := Option.some.inj hy
    subst e9
    exact zj_iret dX5_byteOf_28 rfl hq
  · have hy := zt_f hy c1
    refine zj_iload_n (pc' := 5) 1 dX5_byteOf_4 rfl rfl rfl ?_
    refine zj_aload_n (pc' := 6) 0 dX5_byteOf_5 rfl rfl rfl ?_
    refine zj_fI (pc' := 9) dX5_byteOf_6 rfl flX5_15 sh183 rfl e_i183 rfl ?_
    refine zj_icmp_ge (tgt := 27) (pc' := 12) dX5_byteOf_9 rfl (by decide) (fun c2 => ?_) (fun c2 => ?_)
    · have hy := zt_t hy c2
      refine zj_iconst (pc' := 28) dX5_byteOf_27 rfl kiconst_m1 ?_
      have e9 := Option.some.inj hy
      subst e9
      exact zj_iret dX5_byteOf_28 rfl hq
    · have hy := zt_f hy c2
      refine zj_iload_n (pc' := 13) 1 dX5_byteOf_12 rfl rfl rfl ?_
      refine zj_bipush (pc' := 15) dX5_byteOf_13 rfl kbipush_40 ?_
      refine zj_icmp_ge (tgt := 27) (pc' := 18) dX5_byteOf_15 rfl (by decide) (fun c3 => ?_) (fun c3 => ?_)
      · have hy := zt_t hy c3
        refine zj_iconst (pc' := 28) dX5_byteOf_27 rfl kiconst_m1 ?_
        have e9 := Option.some.inj hy
        subst e9
        exact zj_iret dX5_byteOf_28 rfl hq
      · have hy := zt_f hy c3
        refine zj_aload_n (pc' := 19) 0 dX5_byteOf_18 rfl rfl rfl ?_
        refine zj_getR (pc' := 22) (j := 184) dX5_byteOf_19 rfl flX5_11 sh183 rfl ?_
        refine zj_iload_n (pc' := 23) 1 dX5_byteOf_22 rfl rfl rfl ?_
        obtain ⟨v4, hv4, hy⟩ := zt_b hy
        refine zj_rdi (pc' := 24) dX5_byteOf_23 rfl sh184 e_i184 hv4 ?_
        refine zj_goto (tgt := 28) dX5_byteOf_24 (by decide) ?_
        have e9 := Option.some.inj hy
        subst e9
        exact zj_iret dX5_byteOf_28 rfl hq
set_option maxRecDepth 20000 in
theorem LX5_byteOf_183 (Γ : zG) (M : zM) (r0 : Nat → Int32) (r0_0 : Nat → Int32) (e_i183 : M.1 183 = r0) (e_i184 : M.1 184 = r0_0) (a1 : Int32) {res : Int32} (hy : (fLn_byteOf r0 r0_0 a1) = some res) : zK Γ 1 YX5_byteOf [.ref (zad Γ 183), .int a1] M (fun v N => v = some (.int res) ∧ N = M) :=
  zK_of (by decide) (Nat.le_of_ble_eq_true rfl) (TX5_byteOf_183 Γ M r0 r0_0 e_i183 e_i184 a1 hy ⟨rfl, rfl⟩)

noncomputable def fX_byteAt (r0_13 : Nat → Int32) (r0_13_0 : Nat → Int32) (a1 : Int32) : Option (Int32) :=
  (fLn_byteOf r0_13 r0_13_0 a1).bind (fun (y1 : Int32) =>
  some y1)

set_option maxRecDepth 20000 in
theorem TX11_byteAt_0 (Γ : zG) {Q : Option Value → zM → Prop} (M : zM) (r0_13 : Nat → Int32) (r0_13_0 : Nat → Int32) (e_i183 : M.1 183 = r0_13) (e_i184 : M.1 184 = r0_13_0) (a1 : Int32) {res : Int32} (hy : (fX_byteAt r0_13 r0_13_0 a1) = some res) (hq : Q (some (.int res)) M) : zR Γ 2 YX11_byteAt 0 [(0, .ref (zad Γ 0)), (1, .int a1)] [] M Q := by
  unfold fX_byteAt at hy
  refine zj_aload_n (pc' := 1) 0 dX11_byteAt_0 rfl rfl rfl ?_
  refine zj_getR (pc' := 4) (j := 183) dX11_byteAt_1 rfl flX11_92 sh0 rfl ?_
  refine zj_iload_n (pc' := 5) 1 dX11_byteAt_4 rfl rfl rfl ?_
  obtain ⟨y1, hy1, hy⟩ := zt_b hy
  refine zj_V1 (pc' := 8) (z := YX5_byteOf) (As := [.int a1]) (N := M) dX11_byteAt_5 rfl mlX11_343 lkX5_byteOf sh183 ⟨_, _, rfl⟩ rfl rfl (Nat.le_of_ble_eq_true rfl) (Nat.le_of_ble_eq_true rfl) (LX5_byteOf_183 Γ _ r0_13 r0_13_0 e_i183 e_i184 a1 hy1) rfl ?_
  have e9 := Option.some.inj hy
  subst e9
  exact zj_iret dX11_byteAt_8 rfl hq
set_option maxRecDepth 20000 in
theorem LX11_byteAt_0 (Γ : zG) (M : zM) (r0_13 : Nat → Int32) (r0_13_0 : Nat → Int32) (e_i183 : M.1 183 = r0_13) (e_i184 : M.1 184 = r0_13_0) (a1 : Int32) {res : Int32} (hy : (fX_byteAt r0_13 r0_13_0 a1) = some res) : zK Γ 2 YX11_byteAt [.ref (zad Γ 0), .int a1] M (fun v N => v = some (.int res) ∧ N = M) :=
  zK_of (by decide) (Nat.le_of_ble_eq_true rfl) (TX11_byteAt_0 Γ M r0_13 r0_13_0 e_i183 e_i184 a1 hy ⟨rfl, rfl⟩)

noncomputable def fM_byteAt (r0 : Nat → Int32) (r0_37 : Nat → Int32) (a1 : Int32) : Option (Int32 × (Nat → Int32)) :=
  zlet (zup r0 0 0) (fun (r0v1 : Nat → Int32) =>
  (if (fM_isIn a1 0 ((r0v1 38) - 1)) = true then
  (zrd r0_37 48 a1).bind (fun (v3 : Int32) =>
  some (v3, r0v1))
  else
  some ((-1), r0v1)))

set_option maxRecDepth 20000 in
theorem TX12_byteAt_186 (Γ : zG) {Q : Option Value → zM → Prop} (M : zM) (r0 : Nat → Int32) (r0_37 : Nat → Int32) (e_i186 : M.1 186 = r0) (e_i200 : M.1 200 = r0_37) (a1 : Int32) {res : Int32 × (Nat → Int32)} (hy : (fM_byteAt r0 r0_37 a1) = some res) (hq : Q (some (.int res.1)) (zui M 186 res.2)) : zR Γ 2 YX12_byteAt 0 [(0, .ref (zad Γ 186)), (1, .int a1)] [] M Q := by
  unfold fM_byteAt at hy
  refine zj_aload_n (pc' := 1) 0 dX12_byteAt_0 rfl rfl rfl ?_
  refine zj_iconst (pc' := 2) dX12_byteAt_1 rfl kiconst_0 ?_
  obtain ⟨r0v1, er0v1⟩ : ∃ z, z = (zup r0 0 0) := ⟨_, rfl⟩
  have hy := zlet_at er0v1 hy
  refine zj_pI (pc' := 5) (N := (zui M 186 r0v1)) dX12_byteAt_2 rfl fpX12_1 sh186 rfl e_i186 er0v1 rfl ?_
  refine zj_iload_n (pc' := 6) 1 dX12_byteAt_5 rfl rfl rfl ?_
  refine zj_iconst (pc' := 7) dX12_byteAt_6 rfl kiconst_0 ?_
  refine zj_aload_n (pc' := 8) 0 dX12_byteAt_7 rfl rfl rfl ?_
  refine zj_fI (pc' := 11) dX12_byteAt_8 rfl flX12_386 sh186 rfl zr_s rfl ?_
  refine zj_iconst (pc' := 12) dX12_byteAt_11 rfl kiconst_1 ?_
  refine zj_isub (pc' := 13) dX12_byteAt_12 rfl ?_
  refine zj_S1 (pc' := 16) (z := YX12_isIn) (As := [.int a1, .int 0, .int ((r0v1 38) - 1)]) (N := (zui M 186 r0v1)) dX12_byteAt_13 rfl mlX12_188 lkX12_isIn rfl rfl (Nat.le_of_ble_eq_true rfl) (Nat.le_of_ble_eq_true rfl) (LX12_isIn Γ _ a1 0 ((r0v1 38) - 1) rfl) rfl ?_
  refine zj_bif_eq (tgt := 28) (pc' := 19) dX12_byteAt_16 rfl (by decide) (fun c2 => ?_) (fun c2 => ?_)
  · have hy := zt_f hy c2
    refine zj_iconst (pc' := 29) dX12_byteAt_28 rfl kiconst_m1 ?_
    have e9 := Option.some.inj hy
    subst e9
    exact zj_iret dX12_byteAt_29 rfl hq
  · have hy := zt_t hy c2
    refine zj_aload_n (pc' := 20) 0 dX12_byteAt_19 rfl rfl rfl ?_
    refine zj_getR (pc' := 23) (j := 200) dX12_byteAt_20 rfl flX12_77 sh186 rfl ?_
    refine zj_iload_n (pc' := 24) 1 dX12_byteAt_23 rfl rfl rfl ?_
    obtain ⟨v3, hv3, hy⟩ := zt_b hy
    refine zj_rdb (pc' := 25) dX12_byteAt_24 rfl sh200 (zr_n rfl e_i200) hv3 ?_
    refine zj_goto (tgt := 29) dX12_byteAt_25 (by decide) ?_
    have e9 := Option.some.inj hy
    subst e9
    exact zj_iret dX12_byteAt_29 rfl hq
set_option maxRecDepth 20000 in
theorem LX12_byteAt_186 (Γ : zG) (M : zM) (r0 : Nat → Int32) (r0_37 : Nat → Int32) (e_i186 : M.1 186 = r0) (e_i200 : M.1 200 = r0_37) (a1 : Int32) {res : Int32 × (Nat → Int32)} (hy : (fM_byteAt r0 r0_37 a1) = some res) : zK Γ 2 YX12_byteAt [.ref (zad Γ 186), .int a1] M (fun v N => v = some (.int res.1) ∧ N = (zui M 186 res.2)) :=
  zK_of (by decide) (Nat.le_of_ble_eq_true rfl) (TX12_byteAt_186 Γ M r0 r0_37 e_i186 e_i200 a1 hy ⟨rfl, rfl⟩)

noncomputable def fDr_draw (r0 : Nat → Int32) (a1 : Int32) : Option (Int32 × (Nat → Int32)) :=
  zlet (zup r0 0 (((r0 0) * 1103515245) + 12345)) (fun (r0v1 : Nat → Int32) =>
  (if a1 ≤ 0 then
  some (0, r0v1)
  else
  (if a1 = 0 then none else
  some ((((Int32.toUInt32 (r0v1 0) >>> (Int32.toUInt32 (8 : Int32) &&& Int32.toUInt32 31)).toInt32) - ((Int32.toUInt32 (r0v1 0) >>> (Int32.toUInt32 (8 : Int32) &&& Int32.toUInt32 31)).toInt32) / a1 * a1), r0v1))))

set_option maxRecDepth 20000 in
theorem TX2_draw_182 (Γ : zG) {Q : Option Value → zM → Prop} (M : zM) (r0 : Nat → Int32) (e_i182 : M.1 182 = r0) (a1 : Int32) {res : Int32 × (Nat → Int32)} (hy : (fDr_draw r0 a1) = some res) (hq : Q (some (.int res.1)) (zui M 182 res.2)) : zR Γ 1 YX2_draw 0 [(0, .ref (zad Γ 182)), (1, .int a1)] [] M Q := by
  unfold fDr_draw at hy
  refine zj_aload_n (pc' := 1) 0 dX2_draw_0 rfl rfl rfl ?_
  refine zj_aload_n (pc' := 2) 0 dX2_draw_1 rfl rfl rfl ?_
  refine zj_fI (pc' := 5) dX2_draw_2 rfl flX2_9 sh182 rfl e_i182 rfl ?_
  refine zj_ldc (pc' := 7) dX2_draw_5 rfl cI1063 ?_
  refine zj_imul (pc' := 8) dX2_draw_7 rfl ?_
  refine zj_sipush (pc' := 11) dX2_draw_8 rfl ksipush_12345 ?_
  refine zj_iadd (pc' := 12) dX2_draw_11 rfl ?_
  obtain ⟨r0v1, er0v1⟩ : ∃ z, z = (zup r0 0 (((r0 0) * 1103515245) + 12345)) := ⟨_, rfl⟩
  have hy := zlet_at er0v1 hy
  refine zj_pI (pc' := 15) (N := (zui M 182 r0v1)) dX2_draw_12 rfl fpX2_9 sh182 rfl e_i182 er0v1 rfl ?_
  refine zj_iload_n (pc' := 16) 1 dX2_draw_15 rfl rfl rfl ?_
  refine zj_if_le (tgt := 31) (pc' := 19) dX2_draw_16 rfl (by decide) (fun c2 => ?_) (fun c2 => ?_)
  · have hy := zt_t hy c2
    refine zj_iconst (pc' := 32) dX2_draw_31 rfl kiconst_0 ?_
    have e9 := Option.some.inj hy
    subst e9
    exact zj_iret dX2_draw_32 rfl hq
  · have hy := zt_f hy c2
    refine zj_aload_n (pc' := 20) 0 dX2_draw_19 rfl rfl rfl ?_
    refine zj_fI (pc' := 23) dX2_draw_20 rfl flX2_9 sh182 rfl zr_s rfl ?_
    refine zj_bipush (pc' := 25) dX2_draw_23 rfl kbipush_8 ?_
    refine zj_iushr (pc' := 26) dX2_draw_25 rfl ?_
    refine zj_iload_n (pc' := 27) 1 dX2_draw_26 rfl rfl rfl ?_
    obtain ⟨c3, hy⟩ := zck' hy
    refine zj_irem (pc' := 28) dX2_draw_27 rfl c3 ?_
    refine zj_goto (tgt := 32) dX2_draw_28 (by decide) ?_
    have e9 := Option.some.inj hy
    subst e9
    exact zj_iret dX2_draw_32 rfl hq
set_option maxRecDepth 20000 in
theorem LX2_draw_182 (Γ : zG) (M : zM) (r0 : Nat → Int32) (e_i182 : M.1 182 = r0) (a1 : Int32) {res : Int32 × (Nat → Int32)} (hy : (fDr_draw r0 a1) = some res) : zK Γ 1 YX2_draw [.ref (zad Γ 182), .int a1] M (fun v N => v = some (.int res.1) ∧ N = (zui M 182 res.2)) :=
  zK_of (by decide) (Nat.le_of_ble_eq_true rfl) (TX2_draw_182 Γ M r0 e_i182 a1 hy ⟨rfl, rfl⟩)

noncomputable def fPl_corners (r0 : Nat → Int32) : Int32 :=
  (r0 4)

set_option maxRecDepth 20000 in
theorem TX7_corners_5 (Γ : zG) {Q : Option Value → zM → Prop} (M : zM) (r0 : Nat → Int32) (e_i5 : M.1 5 = r0)  {res : Int32} (hy : (fPl_corners r0) = res) (hq : Q (some (.int res)) M) : zR Γ 1 YX7_corners 0 [(0, .ref (zad Γ 5))] [] M Q := by
  unfold fPl_corners at hy
  refine zj_aload_n (pc' := 1) 0 dX7_corners_0 rfl rfl rfl ?_
  refine zj_fI (pc' := 4) dX7_corners_1 rfl flX7_25 sh5 rfl e_i5 rfl ?_
  subst hy
  exact zj_iret dX7_corners_4 rfl hq
set_option maxRecDepth 20000 in
theorem LX7_corners_5 (Γ : zG) (M : zM) (r0 : Nat → Int32) (e_i5 : M.1 5 = r0)  {res : Int32} (hy : (fPl_corners r0) = res) : zK Γ 1 YX7_corners [.ref (zad Γ 5)] M (fun v N => v = some (.int res) ∧ N = M) :=
  zK_of (by decide) (Nat.le_of_ble_eq_true rfl) (TX7_corners_5 Γ M r0 e_i5 hy ⟨rfl, rfl⟩)

noncomputable def fDr_act (r0 : Nat → Int32) (r1 : Nat → Int32) (r1_2 : Nat → Int32) (r2_0 : Nat → Int32) (r2_1 : Nat → Int32) (r2_2 : Nat → Int32) (r2_3 : Nat → Int32) (r2_4 : Nat → Int32) (r2_5 : Nat → Int32) (r2_6 : Nat → Int32) (a3 : Int32) : Option ((Nat → Int32) × (Nat → Int32) × (Nat → Int32) × (Nat → Int32) × (Nat → Int32) × (Nat → Int32) × (Nat → Int32)) :=
  (fDr_draw r0 8).bind (fun (y1 : Int32 × (Nat → Int32)) =>
  (if y1.1 = 0 then
  (fDr_draw y1.2 (fPl_persons r1)).bind (fun (y3 : Int32 × (Nat → Int32)) =>
  zlet y3.1 (fun (x4 : Int32) =>
  (fDr_draw y3.2 5).bind (fun (y5 : Int32 × (Nat → Int32)) =>
  zlet (y5.1 + 1) (fun (x6 : Int32) =>
  (if a3 = x4 then
  some (y5.2, r2_1, r2_2, r2_3, r2_4, r2_5, r2_6)
  else
  (fDy_takesOn r2_2 r2_3 r2_5 a3 x4 x6).bind (fun (y8 : Int32 × (Nat → Int32) × (Nat → Int32) × (Nat → Int32)) =>
  some (y5.2, r2_1, y8.2.1, y8.2.2.1, r2_4, y8.2.2.2, r2_6)))))))
  else
  (if y1.1 = 1 then
  (fDy_leavesOff r2_2 r2_3 a3).bind (fun (y10 : Int32 × (Nat → Int32) × (Nat → Int32)) =>
  some (y1.2, r2_1, y10.2.1, y10.2.2, r2_4, r2_5, r2_6))
  else
  (if y1.1 = 2 then
  (fDr_draw y1.2 (fPl_corners r1)).bind (fun (y12 : Int32 × (Nat → Int32)) =>
  (fDy_goesTo r2_0 r2_2 r2_4 r2_5 r1 r1_2 a3 y12.1).bind (fun (y13 : Int32 × (Nat → Int32) × (Nat → Int32)) =>
  some (y12.2, r2_1, r2_2, r2_3, y13.2.1, y13.2.2, r2_6)))
  else
  (if y1.1 = 3 then
  (fDr_draw y1.2 (fPl_corners r1)).bind (fun (y15 : Int32 × (Nat → Int32)) =>
  (fDy_goesTo r2_0 r2_2 r2_4 r2_5 r1 r1_2 a3 y15.1).bind (fun (y16 : Int32 × (Nat → Int32) × (Nat → Int32)) =>
  some (y15.2, r2_1, r2_2, r2_3, y16.2.1, y16.2.2, r2_6)))
  else
  (if y1.1 = 4 then
  (fDr_draw y1.2 (fPl_corners r1)).bind (fun (y18 : Int32 × (Nat → Int32)) =>
  (fDy_goesTo r2_0 r2_2 r2_4 r2_5 r1 r1_2 a3 y18.1).bind (fun (y19 : Int32 × (Nat → Int32) × (Nat → Int32)) =>
  some (y18.2, r2_1, r2_2, r2_3, y19.2.1, y19.2.2, r2_6)))
  else
  (if y1.1 = 5 then
  (fDy_dropsBun r2_0 r2_1 r2_6 a3).bind (fun (y21 : Int32 × (Nat → Int32) × (Nat → Int32)) =>
  some (y1.2, y21.2.1, r2_2, r2_3, r2_4, r2_5, y21.2.2))
  else
  some (y1.2, r2_1, r2_2, r2_3, r2_4, r2_5, r2_6))))))))

set_option maxRecDepth 20000 in
theorem TX2_act_182_5_25 (Γ : zG) {Q : Option Value → zM → Prop} (M : zM) (r0 : Nat → Int32) (r1 : Nat → Int32) (r1_2 : Nat → Int32) (r2_0 : Nat → Int32) (r2_1 : Nat → Int32) (r2_2 : Nat → Int32) (r2_3 : Nat → Int32) (r2_4 : Nat → Int32) (r2_5 : Nat → Int32) (r2_6 : Nat → Int32) (e_i182 : M.1 182 = r0) (e_i5 : M.1 5 = r1) (e_i8 : M.1 8 = r1_2) (e_i26 : M.1 26 = r2_0) (e_i27 : M.1 27 = r2_1) (e_i28 : M.1 28 = r2_2) (e_i29 : M.1 29 = r2_3) (e_i30 : M.1 30 = r2_4) (e_i31 : M.1 31 = r2_5) (e_i32 : M.1 32 = r2_6) (a3 : Int32) {res : (Nat → Int32) × (Nat → Int32) × (Nat → Int32) × (Nat → Int32) × (Nat → Int32) × (Nat → Int32) × (Nat → Int32)} (hy : (fDr_act r0 r1 r1_2 r2_0 r2_1 r2_2 r2_3 r2_4 r2_5 r2_6 a3) = some res) (hq : Q none (zui (zui (zui (zui (zui (zui (zui M 27 res.2.1) 28 res.2.2.1) 29 res.2.2.2.1) 30 res.2.2.2.2.1) 31 res.2.2.2.2.2.1) 32 res.2.2.2.2.2.2) 182 res.1)) : zR Γ 5 YX2_act 0 [(0, .ref (zad Γ 182)), (1, .ref (zad Γ 5)), (2, .ref (zad Γ 25)), (3, .int a3)] [] M Q := by
  unfold fDr_act at hy
  refine zj_aload_n (pc' := 1) 0 dX2_act_0 rfl rfl rfl ?_
  refine zj_bipush (pc' := 3) dX2_act_1 rfl kbipush_8 ?_
  obtain ⟨y1, hy1, hy⟩ := zt_b hy
  refine zj_V1 (pc' := 6) (z := YX2_draw) (As := [.int 8]) (N := (zui M 182 y1.2)) dX2_act_3 rfl mlX2_41 lkX2_draw sh182 ⟨_, _, rfl⟩ rfl rfl (Nat.le_of_ble_eq_true rfl) (Nat.le_of_ble_eq_true rfl) (LX2_draw_182 Γ _ r0 e_i182 8 hy1) (rfl).symm ?_
  rcases Decidable.em (y1.1 = 0) with c2 | c2
  · have hy := zt_t hy c2
    refine zj_tsIn (tgt := 44) (v := 0) dX2_act_6 c2 (by decide) (by decide) (off := 38) (by decide) (by decide) ?_
    refine zj_aload_n (pc' := 45) 0 dX2_act_44 rfl rfl rfl ?_
    refine zj_aload_n (pc' := 46) 1 dX2_act_45 rfl rfl rfl ?_
    refine zj_V1 (pc' := 49) (z := YX7_persons) (As := []) (N := (zui M 182 y1.2)) dX2_act_46 rfl mlX2_28 lkX7_persons sh5 ⟨_, _, rfl⟩ rfl rfl (Nat.le_of_ble_eq_true rfl) (Nat.le_of_ble_eq_true rfl) (LX7_persons_5 Γ _ r1 (zr_n rfl e_i5) rfl) rfl ?_
    obtain ⟨y3, hy3, hy⟩ := zt_b hy
    refine zj_V1 (pc' := 52) (z := YX2_draw) (As := [.int (fPl_persons r1)]) (N := (zui M 182 y3.2)) dX2_act_49 rfl mlX2_41 lkX2_draw sh182 ⟨_, _, rfl⟩ rfl rfl (Nat.le_of_ble_eq_true rfl) (Nat.le_of_ble_eq_true rfl) (LX2_draw_182 Γ _ y1.2 zr_s (fPl_persons r1) hy3) (zm_s).symm ?_
    refine zj_topi (fun x4 ex4 => ?_)
    have hy := zlet_at ex4 hy
    refine zj_istore (pc' := 54) (L' := [(4, .int x4), (0, .ref (zad Γ 182)), (1, .ref (zad Γ 5)), (2, .ref (zad Γ 25)), (3, .int a3)]) dX2_act_52 rfl (by decide) rfl ?_
    refine zj_aload_n (pc' := 55) 1 dX2_act_54 rfl rfl rfl ?_
    refine zj_iconst (pc' := 56) dX2_act_55 rfl kiconst_5 ?_
    obtain ⟨y5, hy5, hy⟩ := zt_b hy
    refine zj_V1 (pc' := 59) (z := YX2_draw) (As := [.int 5]) (N := (zui M 182 y5.2)) dX2_act_56 rfl mlX2_41 lkX2_draw sh182 ⟨_, _, rfl⟩ rfl rfl (Nat.le_of_ble_eq_true rfl) (Nat.le_of_ble_eq_true rfl) (LX2_draw_182 Γ _ y3.2 zr_s 5 hy5) (zm_s).symm ?_
    refine zj_iconst (pc' := 60) dX2_act_59 rfl kiconst_1 ?_
    refine zj_iadd (pc' := 61) dX2_act_60 rfl ?_
    refine zj_topi (fun x6 ex6 => ?_)
    have hy := zlet_at ex6 hy
    refine zj_istore (pc' := 63) (L' := [(5, .int x6), (4, .int x4), (0, .ref (zad Γ 182)), (1, .ref (zad Γ 5)), (2, .ref (zad Γ 25)), (3, .int a3)]) dX2_act_61 rfl (by decide) rfl ?_
    refine zj_iload_n (pc' := 64) 5 dX2_act_63 rfl rfl rfl ?_
    refine zj_iload (pc' := 66) 1 dX2_act_64 rfl rfl ?_
    refine zj_icmp_eq (tgt := 118) (pc' := 69) dX2_act_66 rfl (by decide) (fun c7 => ?_) (fun c7 => ?_)
    · have hy := zt_t hy c7
      have e9 := Option.some.inj hy
      subst e9
      refine zj_mem (N := (zui (zui M 27 r2_1) 182 y5.2)) (zself_i (zr_n rfl e_i27) (zm_n rfl rfl)) ?_
      refine zj_mem (N := (zui (zui (zui M 27 r2_1) 28 r2_2) 182 y5.2)) (zself_i (zr_n rfl (zr_n rfl e_i28)) (zm_n rfl rfl)) ?_
      refine zj_mem (N := (zui (zui (zui (zui M 27 r2_1) 28 r2_2) 29 r2_3) 182 y5.2)) (zself_i (zr_n rfl (zr_n rfl (zr_n rfl e_i29))) (zm_n rfl rfl)) ?_
      refine zj_mem (N := (zui (zui (zui (zui (zui M 27 r2_1) 28 r2_2) 29 r2_3) 30 r2_4) 182 y5.2)) (zself_i (zr_n rfl (zr_n rfl (zr_n rfl (zr_n rfl e_i30)))) (zm_n rfl rfl)) ?_
      refine zj_mem (N := (zui (zui (zui (zui (zui (zui M 27 r2_1) 28 r2_2) 29 r2_3) 30 r2_4) 31 r2_5) 182 y5.2)) (zself_i (zr_n rfl (zr_n rfl (zr_n rfl (zr_n rfl (zr_n rfl e_i31))))) (zm_n rfl rfl)) ?_
      refine zj_mem (N := (zui (zui (zui (zui (zui (zui (zui M 27 r2_1) 28 r2_2) 29 r2_3) 30 r2_4) 31 r2_5) 32 r2_6) 182 y5.2)) (zself_i (zr_n rfl (zr_n rfl (zr_n rfl (zr_n rfl (zr_n rfl (zr_n rfl e_i32)))))) (zm_n rfl rfl)) ?_
      exact zj_vret dX2_act_118 rfl hq
    · have hy := zt_f hy c7
      refine zj_aload_n (pc' := 70) 4 dX2_act_69 rfl rfl rfl ?_
      refine zj_iload_n (pc' := 71) 5 dX2_act_70 rfl rfl rfl ?_
      refine zj_iload (pc' := 73) 1 dX2_act_71 rfl rfl ?_
      refine zj_iload (pc' := 75) 0 dX2_act_73 rfl rfl ?_
      obtain ⟨y8, hy8, hy⟩ := zt_b hy
      refine zj_V1 (pc' := 78) (z := YX1_takesOn) (As := [.int a3, .int x4, .int x6]) (N := (zui (zui (zui (zui M 28 y8.2.1) 29 y8.2.2.1) 31 y8.2.2.2) 182 y5.2)) dX2_act_75 rfl mlX2_45 lkX1_takesOn sh25 ⟨_, _, rfl⟩ rfl rfl (Nat.le_of_ble_eq_true rfl) (Nat.le_of_ble_eq_true rfl) (LX1_takesOn_25 Γ _ r2_2 r2_3 r2_5 (zr_n rfl e_i28) (zr_n rfl e_i29) (zr_n rfl e_i31) a3 x4 x6 hy8) ((zch_i (zch_i (zm_n rfl rfl) (zm_n rfl rfl)) (zm_n rfl rfl))).symm ?_
      refine zj_pop (pc' := 79) dX2_act_78 rfl rfl ?_
      refine zj_goto (tgt := 118) dX2_act_79 (by decide) ?_
      have e9 := Option.some.inj hy
      subst e9
      refine zj_mem (N := (zui (zui (zui (zui (zui M 27 r2_1) 28 y8.2.1) 29 y8.2.2.1) 31 y8.2.2.2) 182 y5.2)) (zself_i (zr_n rfl (zr_n rfl (zr_n rfl (zr_n rfl e_i27)))) (zm_n rfl (zm_n rfl (zm_n rfl (zm_n rfl rfl))))) ?_
      refine zj_mem (N := (zui (zui (zui (zui (zui (zui M 27 r2_1) 28 y8.2.1) 29 y8.2.2.1) 30 r2_4) 31 y8.2.2.2) 182 y5.2)) (zself_i (zr_n rfl (zr_n rfl (zr_n rfl (zr_n rfl (zr_n rfl e_i30))))) (zm_n rfl (zm_n rfl rfl))) ?_
      refine zj_mem (N := (zui (zui (zui (zui (zui (zui (zui M 27 r2_1) 28 y8.2.1) 29 y8.2.2.1) 30 r2_4) 31 y8.2.2.2) 32 r2_6) 182 y5.2)) (zself_i (zr_n rfl (zr_n rfl (zr_n rfl (zr_n rfl (zr_n rfl (zr_n rfl e_i32)))))) (zm_n rfl rfl)) ?_
      exact zj_vret dX2_act_118 rfl hq
  · have hy := zt_f hy c2
    rcases Decidable.em (y1.1 = 1) with c9 | c9
    · have hy := zt_t hy c9
      refine zj_tsIn (tgt := 82) (v := 1) dX2_act_6 c9 (by decide) (by decide) (off := 76) (by decide) (by decide) ?_
      refine zj_aload_n (pc' := 83) 2 dX2_act_82 rfl rfl rfl ?_
      refine zj_iload_n (pc' := 84) 3 dX2_act_83 rfl rfl rfl ?_
      obtain ⟨y10, hy10, hy⟩ := zt_b hy
      refine zj_V1 (pc' := 87) (z := YX1_leavesOff) (As := [.int a3]) (N := (zui (zui (zui M 28 y10.2.1) 29 y10.2.2) 182 y1.2)) dX2_act_84 rfl mlX2_49 lkX1_leavesOff sh25 ⟨_, _, rfl⟩ rfl rfl (Nat.le_of_ble_eq_true rfl) (Nat.le_of_ble_eq_true rfl) (LX1_leavesOff_25 Γ _ r2_2 r2_3 (zr_n rfl e_i28) (zr_n rfl e_i29) a3 hy10) ((zch_i (zm_n rfl rfl) (zm_n rfl rfl))).symm ?_
      refine zj_pop (pc' := 88) dX2_act_87 rfl rfl ?_
      refine zj_goto (tgt := 118) dX2_act_88 (by decide) ?_
      have e9 := Option.some.inj hy
      subst e9
      refine zj_mem (N := (zui (zui (zui (zui M 27 r2_1) 28 y10.2.1) 29 y10.2.2) 182 y1.2)) (zself_i (zr_n rfl (zr_n rfl (zr_n rfl e_i27))) (zm_n rfl (zm_n rfl (zm_n rfl rfl)))) ?_
      refine zj_mem (N := (zui (zui (zui (zui (zui M 27 r2_1) 28 y10.2.1) 29 y10.2.2) 30 r2_4) 182 y1.2)) (zself_i (zr_n rfl (zr_n rfl (zr_n rfl (zr_n rfl e_i30)))) (zm_n rfl rfl)) ?_
      refine zj_mem (N := (zui (zui (zui (zui (zui (zui M 27 r2_1) 28 y10.2.1) 29 y10.2.2) 30 r2_4) 31 r2_5) 182 y1.2)) (zself_i (zr_n rfl (zr_n rfl (zr_n rfl (zr_n rfl (zr_n rfl e_i31))))) (zm_n rfl rfl)) ?_
      refine zj_mem (N := (zui (zui (zui (zui (zui (zui (zui M 27 r2_1) 28 y10.2.1) 29 y10.2.2) 30 r2_4) 31 r2_5) 32 r2_6) 182 y1.2)) (zself_i (zr_n rfl (zr_n rfl (zr_n rfl (zr_n rfl (zr_n rfl (zr_n rfl e_i32)))))) (zm_n rfl rfl)) ?_
      exact zj_vret dX2_act_118 rfl hq
    · have hy := zt_f hy c9
      rcases Decidable.em (y1.1 = 2) with c11 | c11
      · have hy := zt_t hy c11
        refine zj_tsIn (tgt := 91) (v := 2) dX2_act_6 c11 (by decide) (by decide) (off := 85) (by decide) (by decide) ?_
        refine zj_aload_n (pc' := 92) 2 dX2_act_91 rfl rfl rfl ?_
        refine zj_aload_n (pc' := 93) 1 dX2_act_92 rfl rfl rfl ?_
        refine zj_iload_n (pc' := 94) 3 dX2_act_93 rfl rfl rfl ?_
        refine zj_aload_n (pc' := 95) 0 dX2_act_94 rfl rfl rfl ?_
        refine zj_aload_n (pc' := 96) 1 dX2_act_95 rfl rfl rfl ?_
        refine zj_V1 (pc' := 99) (z := YX7_corners) (As := []) (N := (zui M 182 y1.2)) dX2_act_96 rfl mlX2_52 lkX7_corners sh5 ⟨_, _, rfl⟩ rfl rfl (Nat.le_of_ble_eq_true rfl) (Nat.le_of_ble_eq_true rfl) (LX7_corners_5 Γ _ r1 (zr_n rfl e_i5) rfl) rfl ?_
        obtain ⟨y12, hy12, hy⟩ := zt_b hy
        refine zj_V1 (pc' := 102) (z := YX2_draw) (As := [.int (fPl_corners r1)]) (N := (zui M 182 y12.2)) dX2_act_99 rfl mlX2_41 lkX2_draw sh182 ⟨_, _, rfl⟩ rfl rfl (Nat.le_of_ble_eq_true rfl) (Nat.le_of_ble_eq_true rfl) (LX2_draw_182 Γ _ y1.2 zr_s (fPl_corners r1) hy12) (zm_s).symm ?_
        obtain ⟨y13, hy13, hy⟩ := zt_b hy
        refine zj_V1 (pc' := 105) (z := YX1_goesTo) (As := [.ref (zad Γ 5), .int a3, .int y12.1]) (N := (zui (zui (zui M 30 y13.2.1) 31 y13.2.2) 182 y12.2)) dX2_act_102 rfl mlX2_55 lkX1_goesTo sh25 ⟨_, _, rfl⟩ rfl rfl (Nat.le_of_ble_eq_true rfl) (Nat.le_of_ble_eq_true rfl) (LX1_goesTo_25_5 Γ _ r2_0 r2_2 r2_4 r2_5 r1 r1_2 (zr_n rfl e_i26) (zr_n rfl e_i28) (zr_n rfl e_i30) (zr_n rfl e_i31) (zr_n rfl e_i5) (zr_n rfl e_i8) a3 y12.1 hy13) ((zch_i (zm_n rfl rfl) (zm_n rfl rfl))).symm ?_
        refine zj_pop (pc' := 106) dX2_act_105 rfl rfl ?_
        refine zj_goto (tgt := 118) dX2_act_106 (by decide) ?_
        have e9 := Option.some.inj hy
        subst e9
        refine zj_mem (N := (zui (zui (zui (zui M 27 r2_1) 30 y13.2.1) 31 y13.2.2) 182 y12.2)) (zself_i (zr_n rfl (zr_n rfl (zr_n rfl e_i27))) (zm_n rfl (zm_n rfl (zm_n rfl rfl)))) ?_
        refine zj_mem (N := (zui (zui (zui (zui (zui M 27 r2_1) 28 r2_2) 30 y13.2.1) 31 y13.2.2) 182 y12.2)) (zself_i (zr_n rfl (zr_n rfl (zr_n rfl (zr_n rfl e_i28)))) (zm_n rfl (zm_n rfl (zm_n rfl rfl)))) ?_
        refine zj_mem (N := (zui (zui (zui (zui (zui (zui M 27 r2_1) 28 r2_2) 29 r2_3) 30 y13.2.1) 31 y13.2.2) 182 y12.2)) (zself_i (zr_n rfl (zr_n rfl (zr_n rfl (zr_n rfl (zr_n rfl e_i29))))) (zm_n rfl (zm_n rfl (zm_n rfl rfl)))) ?_
        refine zj_mem (N := (zui (zui (zui (zui (zui (zui (zui M 27 r2_1) 28 r2_2) 29 r2_3) 30 y13.2.1) 31 y13.2.2) 32 r2_6) 182 y12.2)) (zself_i (zr_n rfl (zr_n rfl (zr_n rfl (zr_n rfl (zr_n rfl (zr_n rfl e_i32)))))) (zm_n rfl rfl)) ?_
        exact zj_vret dX2_act_118 rfl hq
      · have hy := zt_f hy c11
        rcases Decidable.em (y1.1 = 3) with c14 | c14
        · have hy := zt_t hy c14
          refine zj_tsIn (tgt := 91) (v := 3) dX2_act_6 c14 (by decide) (by decide) (off := 85) (by decide) (by decide) ?_
          refine zj_aload_n (pc' := 92) 2 dX2_act_91 rfl rfl rfl ?_
          refine zj_aload_n (pc' := 93) 1 dX2_act_92 rfl rfl rfl ?_
          refine zj_iload_n (pc' := 94) 3 dX2_act_93 rfl rfl rfl ?_
          refine zj_aload_n (pc' := 95) 0 dX2_act_94 rfl rfl rfl ?_
          refine zj_aload_n (pc' := 96) 1 dX2_act_95 rfl rfl rfl ?_
          refine zj_V1 (pc' := 99) (z := YX7_corners) (As := []) (N := (zui M 182 y1.2)) dX2_act_96 rfl mlX2_52 lkX7_corners sh5 ⟨_, _, rfl⟩ rfl rfl (Nat.le_of_ble_eq_true rfl) (Nat.le_of_ble_eq_true rfl) (LX7_corners_5 Γ _ r1 (zr_n rfl e_i5) rfl) rfl ?_
          obtain ⟨y15, hy15, hy⟩ := zt_b hy
          refine zj_V1 (pc' := 102) (z := YX2_draw) (As := [.int (fPl_corners r1)]) (N := (zui M 182 y15.2)) dX2_act_99 rfl mlX2_41 lkX2_draw sh182 ⟨_, _, rfl⟩ rfl rfl (Nat.le_of_ble_eq_true rfl) (Nat.le_of_ble_eq_true rfl) (LX2_draw_182 Γ _ y1.2 zr_s (fPl_corners r1) hy15) (zm_s).symm ?_
          obtain ⟨y16, hy16, hy⟩ := zt_b hy
          refine zj_V1 (pc' := 105) (z := YX1_goesTo) (As := [.ref (zad Γ 5), .int a3, .int y15.1]) (N := (zui (zui (zui M 30 y16.2.1) 31 y16.2.2) 182 y15.2)) dX2_act_102 rfl mlX2_55 lkX1_goesTo sh25 ⟨_, _, rfl⟩ rfl rfl (Nat.le_of_ble_eq_true rfl) (Nat.le_of_ble_eq_true rfl) (LX1_goesTo_25_5 Γ _ r2_0 r2_2 r2_4 r2_5 r1 r1_2 (zr_n rfl e_i26) (zr_n rfl e_i28) (zr_n rfl e_i30) (zr_n rfl e_i31) (zr_n rfl e_i5) (zr_n rfl e_i8) a3 y15.1 hy16) ((zch_i (zm_n rfl rfl) (zm_n rfl rfl))).symm ?_
          refine zj_pop (pc' := 106) dX2_act_105 rfl rfl ?_
          refine zj_goto (tgt := 118) dX2_act_106 (by decide) ?_
          have e9 := Option.some.inj hy
          subst e9
          refine zj_mem (N := (zui (zui (zui (zui M 27 r2_1) 30 y16.2.1) 31 y16.2.2) 182 y15.2)) (zself_i (zr_n rfl (zr_n rfl (zr_n rfl e_i27))) (zm_n rfl (zm_n rfl (zm_n rfl rfl)))) ?_
          refine zj_mem (N := (zui (zui (zui (zui (zui M 27 r2_1) 28 r2_2) 30 y16.2.1) 31 y16.2.2) 182 y15.2)) (zself_i (zr_n rfl (zr_n rfl (zr_n rfl (zr_n rfl e_i28)))) (zm_n rfl (zm_n rfl (zm_n rfl rfl)))) ?_
          refine zj_mem (N := (zui (zui (zui (zui (zui (zui M 27 r2_1) 28 r2_2) 29 r2_3) 30 y16.2.1) 31 y16.2.2) 182 y15.2)) (zself_i (zr_n rfl (zr_n rfl (zr_n rfl (zr_n rfl (zr_n rfl e_i29))))) (zm_n rfl (zm_n rfl (zm_n rfl rfl)))) ?_
          refine zj_mem (N := (zui (zui (zui (zui (zui (zui (zui M 27 r2_1) 28 r2_2) 29 r2_3) 30 y16.2.1) 31 y16.2.2) 32 r2_6) 182 y15.2)) (zself_i (zr_n rfl (zr_n rfl (zr_n rfl (zr_n rfl (zr_n rfl (zr_n rfl e_i32)))))) (zm_n rfl rfl)) ?_
          exact zj_vret dX2_act_118 rfl hq
        · have hy := zt_f hy c14
          rcases Decidable.em (y1.1 = 4) with c17 | c17
          · have hy := zt_t hy c17
            refine zj_tsIn (tgt := 91) (v := 4) dX2_act_6 c17 (by decide) (by decide) (off := 85) (by decide) (by decide) ?_
            refine zj_aload_n (pc' := 92) 2 dX2_act_91 rfl rfl rfl ?_
            refine zj_aload_n (pc' := 93) 1 dX2_act_92 rfl rfl rfl ?_
            refine zj_iload_n (pc' := 94) 3 dX2_act_93 rfl rfl rfl ?_
            refine zj_aload_n (pc' := 95) 0 dX2_act_94 rfl rfl rfl ?_
            refine zj_aload_n (pc' := 96) 1 dX2_act_95 rfl rfl rfl ?_
            refine zj_V1 (pc' := 99) (z := YX7_corners) (As := []) (N := (zui M 182 y1.2)) dX2_act_96 rfl mlX2_52 lkX7_corners sh5 ⟨_, _, rfl⟩ rfl rfl (Nat.le_of_ble_eq_true rfl) (Nat.le_of_ble_eq_true rfl) (LX7_corners_5 Γ _ r1 (zr_n rfl e_i5) rfl) rfl ?_
            obtain ⟨y18, hy18, hy⟩ := zt_b hy
            refine zj_V1 (pc' := 102) (z := YX2_draw) (As := [.int (fPl_corners r1)]) (N := (zui M 182 y18.2)) dX2_act_99 rfl mlX2_41 lkX2_draw sh182 ⟨_, _, rfl⟩ rfl rfl (Nat.le_of_ble_eq_true rfl) (Nat.le_of_ble_eq_true rfl) (LX2_draw_182 Γ _ y1.2 zr_s (fPl_corners r1) hy18) (zm_s).symm ?_
            obtain ⟨y19, hy19, hy⟩ := zt_b hy
            refine zj_V1 (pc' := 105) (z := YX1_goesTo) (As := [.ref (zad Γ 5), .int a3, .int y18.1]) (N := (zui (zui (zui M 30 y19.2.1) 31 y19.2.2) 182 y18.2)) dX2_act_102 rfl mlX2_55 lkX1_goesTo sh25 ⟨_, _, rfl⟩ rfl rfl (Nat.le_of_ble_eq_true rfl) (Nat.le_of_ble_eq_true rfl) (LX1_goesTo_25_5 Γ _ r2_0 r2_2 r2_4 r2_5 r1 r1_2 (zr_n rfl e_i26) (zr_n rfl e_i28) (zr_n rfl e_i30) (zr_n rfl e_i31) (zr_n rfl e_i5) (zr_n rfl e_i8) a3 y18.1 hy19) ((zch_i (zm_n rfl rfl) (zm_n rfl rfl))).symm ?_
            refine zj_pop (pc' := 106) dX2_act_105 rfl rfl ?_
            refine zj_goto (tgt := 118) dX2_act_106 (by decide) ?_
            have e9 := Option.some.inj hy
            subst e9
            refine zj_mem (N := (zui (zui (zui (zui M 27 r2_1) 30 y19.2.1) 31 y19.2.2) 182 y18.2)) (zself_i (zr_n rfl (zr_n rfl (zr_n rfl e_i27))) (zm_n rfl (zm_n rfl (zm_n rfl rfl)))) ?_
            refine zj_mem (N := (zui (zui (zui (zui (zui M 27 r2_1) 28 r2_2) 30 y19.2.1) 31 y19.2.2) 182 y18.2)) (zself_i (zr_n rfl (zr_n rfl (zr_n rfl (zr_n rfl e_i28)))) (zm_n rfl (zm_n rfl (zm_n rfl rfl)))) ?_
            refine zj_mem (N := (zui (zui (zui (zui (zui (zui M 27 r2_1) 28 r2_2) 29 r2_3) 30 y19.2.1) 31 y19.2.2) 182 y18.2)) (zself_i (zr_n rfl (zr_n rfl (zr_n rfl (zr_n rfl (zr_n rfl e_i29))))) (zm_n rfl (zm_n rfl (zm_n rfl rfl)))) ?_
            refine zj_mem (N := (zui (zui (zui (zui (zui (zui (zui M 27 r2_1) 28 r2_2) 29 r2_3) 30 y19.2.1) 31 y19.2.2) 32 r2_6) 182 y18.2)) (zself_i (zr_n rfl (zr_n rfl (zr_n rfl (zr_n rfl (zr_n rfl (zr_n rfl e_i32)))))) (zm_n rfl rfl)) ?_
            exact zj_vret dX2_act_118 rfl hq
          · have hy := zt_f hy c17
            rcases Decidable.em (y1.1 = 5) with c20 | c20
            · have hy := zt_t hy c20
              refine zj_tsIn (tgt := 109) (v := 5) dX2_act_6 c20 (by decide) (by decide) (off := 103) (by decide) (by decide) ?_
              refine zj_aload_n (pc' := 110) 2 dX2_act_109 rfl rfl rfl ?_
              refine zj_iload_n (pc' := 111) 3 dX2_act_110 rfl rfl rfl ?_
              obtain ⟨y21, hy21, hy⟩ := zt_b hy
              refine zj_V1 (pc' := 114) (z := YX1_dropsBun) (As := [.int a3]) (N := (zui (zui (zui M 27 y21.2.1) 32 y21.2.2) 182 y1.2)) dX2_act_111 rfl mlX2_59 lkX1_dropsBun sh25 ⟨_, _, rfl⟩ rfl rfl (Nat.le_of_ble_eq_true rfl) (Nat.le_of_ble_eq_true rfl) (LX1_dropsBun_25 Γ _ r2_0 r2_1 r2_6 (zr_n rfl e_i26) (zr_n rfl e_i27) (zr_n rfl e_i32) a3 hy21) ((zch_i (zm_n rfl rfl) (zm_n rfl rfl))).symm ?_
              refine zj_pop (pc' := 115) dX2_act_114 rfl rfl ?_
              refine zj_goto (tgt := 118) dX2_act_115 (by decide) ?_
              have e9 := Option.some.inj hy
              subst e9
              refine zj_mem (N := (zui (zui (zui (zui M 27 y21.2.1) 28 r2_2) 32 y21.2.2) 182 y1.2)) (zself_i (zr_n rfl (zr_n rfl (zr_n rfl e_i28))) (zm_n rfl (zm_n rfl rfl))) ?_
              refine zj_mem (N := (zui (zui (zui (zui (zui M 27 y21.2.1) 28 r2_2) 29 r2_3) 32 y21.2.2) 182 y1.2)) (zself_i (zr_n rfl (zr_n rfl (zr_n rfl (zr_n rfl e_i29)))) (zm_n rfl (zm_n rfl rfl))) ?_
              refine zj_mem (N := (zui (zui (zui (zui (zui (zui M 27 y21.2.1) 28 r2_2) 29 r2_3) 30 r2_4) 32 y21.2.2) 182 y1.2)) (zself_i (zr_n rfl (zr_n rfl (zr_n rfl (zr_n rfl (zr_n rfl e_i30))))) (zm_n rfl (zm_n rfl rfl))) ?_
              refine zj_mem (N := (zui (zui (zui (zui (zui (zui (zui M 27 y21.2.1) 28 r2_2) 29 r2_3) 30 r2_4) 31 r2_5) 32 y21.2.2) 182 y1.2)) (zself_i (zr_n rfl (zr_n rfl (zr_n rfl (zr_n rfl (zr_n rfl (zr_n rfl e_i31)))))) (zm_n rfl (zm_n rfl rfl))) ?_
              exact zj_vret dX2_act_118 rfl hq
            · have hy := zt_f hy c20
              refine zj_tsOut (tgt := 118) dX2_act_6 (by have q0 := zne (k := 0) c2 (by decide); have q1 := zne (k := 1) c9 (by decide); have q2 := zne (k := 2) c11 (by decide); have q3 := zne (k := 3) c14 (by decide); have q4 := zne (k := 4) c17 (by decide); have q5 := zne (k := 5) c20 (by decide); omega) (by decide) ?_
              have e9 := Option.some.inj hy
              subst e9
              refine zj_mem (N := (zui (zui M 27 r2_1) 182 y1.2)) (zself_i (zr_n rfl e_i27) (zm_n rfl rfl)) ?_
              refine zj_mem (N := (zui (zui (zui M 27 r2_1) 28 r2_2) 182 y1.2)) (zself_i (zr_n rfl (zr_n rfl e_i28)) (zm_n rfl rfl)) ?_
              refine zj_mem (N := (zui (zui (zui (zui M 27 r2_1) 28 r2_2) 29 r2_3) 182 y1.2)) (zself_i (zr_n rfl (zr_n rfl (zr_n rfl e_i29))) (zm_n rfl rfl)) ?_
              refine zj_mem (N := (zui (zui (zui (zui (zui M 27 r2_1) 28 r2_2) 29 r2_3) 30 r2_4) 182 y1.2)) (zself_i (zr_n rfl (zr_n rfl (zr_n rfl (zr_n rfl e_i30)))) (zm_n rfl rfl)) ?_
              refine zj_mem (N := (zui (zui (zui (zui (zui (zui M 27 r2_1) 28 r2_2) 29 r2_3) 30 r2_4) 31 r2_5) 182 y1.2)) (zself_i (zr_n rfl (zr_n rfl (zr_n rfl (zr_n rfl (zr_n rfl e_i31))))) (zm_n rfl rfl)) ?_
              refine zj_mem (N := (zui (zui (zui (zui (zui (zui (zui M 27 r2_1) 28 r2_2) 29 r2_3) 30 r2_4) 31 r2_5) 32 r2_6) 182 y1.2)) (zself_i (zr_n rfl (zr_n rfl (zr_n rfl (zr_n rfl (zr_n rfl (zr_n rfl e_i32)))))) (zm_n rfl rfl)) ?_
              exact zj_vret dX2_act_118 rfl hq
set_option maxRecDepth 20000 in
theorem LX2_act_182_5_25 (Γ : zG) (M : zM) (r0 : Nat → Int32) (r1 : Nat → Int32) (r1_2 : Nat → Int32) (r2_0 : Nat → Int32) (r2_1 : Nat → Int32) (r2_2 : Nat → Int32) (r2_3 : Nat → Int32) (r2_4 : Nat → Int32) (r2_5 : Nat → Int32) (r2_6 : Nat → Int32) (e_i182 : M.1 182 = r0) (e_i5 : M.1 5 = r1) (e_i8 : M.1 8 = r1_2) (e_i26 : M.1 26 = r2_0) (e_i27 : M.1 27 = r2_1) (e_i28 : M.1 28 = r2_2) (e_i29 : M.1 29 = r2_3) (e_i30 : M.1 30 = r2_4) (e_i31 : M.1 31 = r2_5) (e_i32 : M.1 32 = r2_6) (a3 : Int32) {res : (Nat → Int32) × (Nat → Int32) × (Nat → Int32) × (Nat → Int32) × (Nat → Int32) × (Nat → Int32) × (Nat → Int32)} (hy : (fDr_act r0 r1 r1_2 r2_0 r2_1 r2_2 r2_3 r2_4 r2_5 r2_6 a3) = some res) : zK Γ 5 YX2_act [.ref (zad Γ 182), .ref (zad Γ 5), .ref (zad Γ 25), .int a3] M (fun v N => v = none ∧ N = (zui (zui (zui (zui (zui (zui (zui M 27 res.2.1) 28 res.2.2.1) 29 res.2.2.2.1) 30 res.2.2.2.2.1) 31 res.2.2.2.2.2.1) 32 res.2.2.2.2.2.2) 182 res.1)) :=
  zK_of (by decide) (Nat.le_of_ble_eq_true rfl) (TX2_act_182_5_25 Γ M r0 r1 r1_2 r2_0 r2_1 r2_2 r2_3 r2_4 r2_5 r2_6 e_i182 e_i5 e_i8 e_i26 e_i27 e_i28 e_i29 e_i30 e_i31 e_i32 a3 hy ⟨rfl, rfl⟩)

noncomputable def fDr_passMinutes_L29 (r1 : Nat → Int32) (r1_2 : Nat → Int32) (r2_0v5 : Nat → Int32) (r0v23 : Nat → Int32) (r2_1v24 : Nat → Int32) (r2_2v25 : Nat → Int32) (r2_3v26 : Nat → Int32) (r2_4v27 : Nat → Int32) (r2_5v28 : Nat → Int32) (r2_6v29 : Nat → Int32) (x30 : Int32) : Option (((Nat → Int32) × (Nat → Int32) × (Nat → Int32) × (Nat → Int32) × (Nat → Int32) × (Nat → Int32) × (Nat → Int32) × Int32) ⊕ ((Nat → Int32) × (Nat → Int32) × (Nat → Int32) × (Nat → Int32) × (Nat → Int32) × (Nat → Int32) × (Nat → Int32))) :=
  (if (fPl_persons r1) ≤ x30 then
  some (.inr (r0v23, r2_1v24, r2_2v25, r2_3v26, r2_4v27, r2_5v28, r2_6v29))
  else
  (fDr_act r0v23 r1 r1_2 r2_0v5 r2_1v24 r2_2v25 r2_3v26 r2_4v27 r2_5v28 r2_6v29 x30).bind (fun (y39 : (Nat → Int32) × (Nat → Int32) × (Nat → Int32) × (Nat → Int32) × (Nat → Int32) × (Nat → Int32) × (Nat → Int32)) =>
  zlet (x30 + 1) (fun (x40 : Int32) =>
  some (.inl (y39.1, y39.2.1, y39.2.2.1, y39.2.2.2.1, y39.2.2.2.2.1, y39.2.2.2.2.2.1, y39.2.2.2.2.2.2, x40)))))
noncomputable def fDr_passMinutes_L19 (r1 : Nat → Int32) (r1_2 : Nat → Int32) (r1_3 : Nat → Int32) (x2 : Int32) (r0v3 : Nat → Int32) (r2v4 : Nat → Int32) (r2_0v5 : Nat → Int32) (r2_1v6 : Nat → Int32) (r2_2v7 : Nat → Int32) (r2_3v8 : Nat → Int32) (r2_4v9 : Nat → Int32) (r2_5v10 : Nat → Int32) (r2_6v11 : Nat → Int32) (r2_7v12 : Nat → Int32) (r2_8v13 : Nat → Int32) (x14 : Int32) : Option (((Nat → Int32) × (Nat → Int32) × (Nat → Int32) × (Nat → Int32) × (Nat → Int32) × (Nat → Int32) × (Nat → Int32) × (Nat → Int32) × (Nat → Int32) × (Nat → Int32) × (Nat → Int32) × Int32) ⊕ ((Nat → Int32) × (Nat → Int32) × (Nat → Int32) × (Nat → Int32) × (Nat → Int32) × (Nat → Int32) × (Nat → Int32) × (Nat → Int32) × (Nat → Int32) × (Nat → Int32) × (Nat → Int32))) :=
  (if x2 ≤ x14 then
  some (.inr (r0v3, r2v4, r2_0v5, r2_1v6, r2_2v7, r2_3v8, r2_4v9, r2_5v10, r2_6v11, r2_7v12, r2_8v13))
  else
  (zLP (fun s => fDr_passMinutes_L29 r1 r1_2 r2_0v5 s.1 s.2.1 s.2.2.1 s.2.2.2.1 s.2.2.2.2.1 s.2.2.2.2.2.1 s.2.2.2.2.2.2.1 s.2.2.2.2.2.2.2) (r0v3, r2_1v6, r2_2v7, r2_3v8, r2_4v9, r2_5v10, r2_6v11, 0)).bind (fun r33 =>
  (fDy_passMinutes r2v4 r2_0v5 r33.2.1 r33.2.2.1 r33.2.2.2.1 r33.2.2.2.2.1 r33.2.2.2.2.2.1 r33.2.2.2.2.2.2 r2_7v12 r2_8v13 r1 r1_2 r1_3 1).bind (fun (y48 : (Nat → Int32) × (Nat → Int32) × (Nat → Int32) × (Nat → Int32) × (Nat → Int32) × (Nat → Int32) × (Nat → Int32) × (Nat → Int32)) =>
  zlet (x14 + 1) (fun (x49 : Int32) =>
  some (.inl (r33.1, y48.1, y48.2.1, y48.2.2.1, r33.2.2.1, r33.2.2.2.1, y48.2.2.2.1, y48.2.2.2.2.1, y48.2.2.2.2.2.1, y48.2.2.2.2.2.2.1, y48.2.2.2.2.2.2.2, x49))))))
noncomputable def fDr_passMinutes (r0 : Nat → Int32) (r1 : Nat → Int32) (r1_2 : Nat → Int32) (r1_3 : Nat → Int32) (r2 : Nat → Int32) (r2_0 : Nat → Int32) (r2_1 : Nat → Int32) (r2_2 : Nat → Int32) (r2_3 : Nat → Int32) (r2_4 : Nat → Int32) (r2_5 : Nat → Int32) (r2_6 : Nat → Int32) (r2_7 : Nat → Int32) (r2_8 : Nat → Int32) (a3 : Int32) (a4 : Int32) : Option (Int32 × (Nat → Int32) × (Nat → Int32) × (Nat → Int32) × (Nat → Int32) × (Nat → Int32) × (Nat → Int32) × (Nat → Int32) × (Nat → Int32) × (Nat → Int32) × (Nat → Int32) × (Nat → Int32)) :=
  zlet (zup r0 0 a4) (fun (r0v1 : Nat → Int32) =>
  zlet (if (fDy_minutesLeft r2) < a3 then (fDy_minutesLeft r2) else a3) (fun (x2 : Int32) =>
  (zLP (fun s => fDr_passMinutes_L19 r1 r1_2 r1_3 x2 s.1 s.2.1 s.2.2.1 s.2.2.2.1 s.2.2.2.2.1 s.2.2.2.2.2.1 s.2.2.2.2.2.2.1 s.2.2.2.2.2.2.2.1 s.2.2.2.2.2.2.2.2.1 s.2.2.2.2.2.2.2.2.2.1 s.2.2.2.2.2.2.2.2.2.2.1 s.2.2.2.2.2.2.2.2.2.2.2) (r0v1, r2, r2_0, r2_1, r2_2, r2_3, r2_4, r2_5, r2_6, r2_7, r2_8, 0)).bind (fun r17 =>
  some (x2, r17.1, r17.2.1, r17.2.2.1, r17.2.2.2.1, r17.2.2.2.2.1, r17.2.2.2.2.2.1, r17.2.2.2.2.2.2.1, r17.2.2.2.2.2.2.2.1, r17.2.2.2.2.2.2.2.2.1, r17.2.2.2.2.2.2.2.2.2.1, r17.2.2.2.2.2.2.2.2.2.2))))

set_option maxRecDepth 20000 in
theorem TX2_passMinutes_182_5_25 (Γ : zG) {Q : Option Value → zM → Prop} (M : zM) (r0 : Nat → Int32) (r1 : Nat → Int32) (r1_2 : Nat → Int32) (r1_3 : Nat → Int32) (r2 : Nat → Int32) (r2_0 : Nat → Int32) (r2_1 : Nat → Int32) (r2_2 : Nat → Int32) (r2_3 : Nat → Int32) (r2_4 : Nat → Int32) (r2_5 : Nat → Int32) (r2_6 : Nat → Int32) (r2_7 : Nat → Int32) (r2_8 : Nat → Int32) (e_i182 : M.1 182 = r0) (e_i5 : M.1 5 = r1) (e_i8 : M.1 8 = r1_2) (e_i9 : M.1 9 = r1_3) (e_i25 : M.1 25 = r2) (e_i26 : M.1 26 = r2_0) (e_i27 : M.1 27 = r2_1) (e_i28 : M.1 28 = r2_2) (e_i29 : M.1 29 = r2_3) (e_i30 : M.1 30 = r2_4) (e_i31 : M.1 31 = r2_5) (e_i32 : M.1 32 = r2_6) (e_i33 : M.1 33 = r2_7) (e_i34 : M.1 34 = r2_8) (a3 : Int32) (a4 : Int32) {res : Int32 × (Nat → Int32) × (Nat → Int32) × (Nat → Int32) × (Nat → Int32) × (Nat → Int32) × (Nat → Int32) × (Nat → Int32) × (Nat → Int32) × (Nat → Int32) × (Nat → Int32) × (Nat → Int32)} (hy : (fDr_passMinutes r0 r1 r1_2 r1_3 r2 r2_0 r2_1 r2_2 r2_3 r2_4 r2_5 r2_6 r2_7 r2_8 a3 a4) = some res) (hq : Q (some (.int res.1)) (zui (zui (zui (zui (zui (zui (zui (zui (zui (zui (zui M 25 res.2.2.1) 26 res.2.2.2.1) 27 res.2.2.2.2.1) 28 res.2.2.2.2.2.1) 29 res.2.2.2.2.2.2.1) 30 res.2.2.2.2.2.2.2.1) 31 res.2.2.2.2.2.2.2.2.1) 32 res.2.2.2.2.2.2.2.2.2.1) 33 res.2.2.2.2.2.2.2.2.2.2.1) 34 res.2.2.2.2.2.2.2.2.2.2.2) 182 res.2.1)) : zR Γ 6 YX2_passMinutes 0 [(0, .ref (zad Γ 182)), (1, .ref (zad Γ 5)), (2, .ref (zad Γ 25)), (3, .int a3), (4, .int a4)] [] M Q := by
  unfold fDr_passMinutes at hy
  refine zj_aload_n (pc' := 1) 0 dX2_passMinutes_0 rfl rfl rfl ?_
  refine zj_iload (pc' := 3) 4 dX2_passMinutes_1 rfl rfl ?_
  obtain ⟨r0v1, er0v1⟩ : ∃ z, z = (zup r0 0 a4) := ⟨_, rfl⟩
  have hy := zlet_at er0v1 hy
  refine zj_pI (pc' := 6) (N := (zui M 182 r0v1)) dX2_passMinutes_3 rfl fpX2_9 sh182 rfl e_i182 er0v1 rfl ?_
  refine zj_iload_n (pc' := 7) 3 dX2_passMinutes_6 rfl rfl rfl ?_
  refine zj_aload_n (pc' := 8) 2 dX2_passMinutes_7 rfl rfl rfl ?_
  refine zj_V1 (pc' := 11) (z := YX1_minutesLeft) (As := []) (N := (zui M 182 r0v1)) dX2_passMinutes_8 rfl mlX2_16 lkX1_minutesLeft sh25 ⟨_, _, rfl⟩ rfl rfl (Nat.le_of_ble_eq_true rfl) (Nat.le_of_ble_eq_true rfl) (LX1_minutesLeft_25 Γ _ r2 (zr_n rfl e_i25) rfl) rfl ?_
  refine zj_mmin (pc' := 14) dX2_passMinutes_11 rfl mlX2_22 zmminw (Nat.le_of_ble_eq_true rfl) (Nat.le_of_ble_eq_true rfl) ?_
  refine zj_topi (fun x2 ex2 => ?_)
  have hy := zlet_at ex2 hy
  refine zj_istore (pc' := 16) (L' := [(5, .int x2), (0, .ref (zad Γ 182)), (1, .ref (zad Γ 5)), (2, .ref (zad Γ 25)), (3, .int a3), (4, .int a4)]) dX2_passMinutes_14 rfl (by decide) rfl ?_
  refine zj_iconst (pc' := 17) dX2_passMinutes_16 rfl kiconst_0 ?_
  refine zj_istore (pc' := 19) (L' := [(6, .int 0), (5, .int x2), (0, .ref (zad Γ 182)), (1, .ref (zad Γ 5)), (2, .ref (zad Γ 25)), (3, .int a3), (4, .int a4)]) dX2_passMinutes_17 rfl (by decide) rfl ?_
  refine zj_loc [2, 3, 4, 1, 0] rfl ?_
  refine zj_mem (N := (zui (zui M 25 r2) 182 r0v1)) (zself_i (zr_n rfl e_i25) (zm_n rfl rfl)) ?_
  refine zj_mem (N := (zui (zui (zui M 25 r2) 26 r2_0) 182 r0v1)) (zself_i (zr_n rfl (zr_n rfl e_i26)) (zm_n rfl rfl)) ?_
  refine zj_mem (N := (zui (zui (zui (zui M 25 r2) 26 r2_0) 27 r2_1) 182 r0v1)) (zself_i (zr_n rfl (zr_n rfl (zr_n rfl e_i27))) (zm_n rfl rfl)) ?_
  refine zj_mem (N := (zui (zui (zui (zui (zui M 25 r2) 26 r2_0) 27 r2_1) 28 r2_2) 182 r0v1)) (zself_i (zr_n rfl (zr_n rfl (zr_n rfl (zr_n rfl e_i28)))) (zm_n rfl rfl)) ?_
  refine zj_mem (N := (zui (zui (zui (zui (zui (zui M 25 r2) 26 r2_0) 27 r2_1) 28 r2_2) 29 r2_3) 182 r0v1)) (zself_i (zr_n rfl (zr_n rfl (zr_n rfl (zr_n rfl (zr_n rfl e_i29))))) (zm_n rfl rfl)) ?_
  refine zj_mem (N := (zui (zui (zui (zui (zui (zui (zui M 25 r2) 26 r2_0) 27 r2_1) 28 r2_2) 29 r2_3) 30 r2_4) 182 r0v1)) (zself_i (zr_n rfl (zr_n rfl (zr_n rfl (zr_n rfl (zr_n rfl (zr_n rfl e_i30)))))) (zm_n rfl rfl)) ?_
  refine zj_mem (N := (zui (zui (zui (zui (zui (zui (zui (zui M 25 r2) 26 r2_0) 27 r2_1) 28 r2_2) 29 r2_3) 30 r2_4) 31 r2_5) 182 r0v1)) (zself_i (zr_n rfl (zr_n rfl (zr_n rfl (zr_n rfl (zr_n rfl (zr_n rfl (zr_n rfl e_i31))))))) (zm_n rfl rfl)) ?_
  refine zj_mem (N := (zui (zui (zui (zui (zui (zui (zui (zui (zui M 25 r2) 26 r2_0) 27 r2_1) 28 r2_2) 29 r2_3) 30 r2_4) 31 r2_5) 32 r2_6) 182 r0v1)) (zself_i (zr_n rfl (zr_n rfl (zr_n rfl (zr_n rfl (zr_n rfl (zr_n rfl (zr_n rfl (zr_n rfl e_i32)))))))) (zm_n rfl rfl)) ?_
  refine zj_mem (N := (zui (zui (zui (zui (zui (zui (zui (zui (zui (zui M 25 r2) 26 r2_0) 27 r2_1) 28 r2_2) 29 r2_3) 30 r2_4) 31 r2_5) 32 r2_6) 33 r2_7) 182 r0v1)) (zself_i (zr_n rfl (zr_n rfl (zr_n rfl (zr_n rfl (zr_n rfl (zr_n rfl (zr_n rfl (zr_n rfl (zr_n rfl e_i33))))))))) (zm_n rfl rfl)) ?_
  refine zj_mem (N := (zui (zui (zui (zui (zui (zui (zui (zui (zui (zui (zui M 25 r2) 26 r2_0) 27 r2_1) 28 r2_2) 29 r2_3) 30 r2_4) 31 r2_5) 32 r2_6) 33 r2_7) 34 r2_8) 182 r0v1)) (zself_i (zr_n rfl (zr_n rfl (zr_n rfl (zr_n rfl (zr_n rfl (zr_n rfl (zr_n rfl (zr_n rfl (zr_n rfl (zr_n rfl e_i34)))))))))) (zm_n rfl rfl)) ?_
  obtain ⟨r17, hr9, hyo18⟩ := zt_b hy
  obtain ⟨n9, hn9⟩ := zLP_some hr9
  have HE15 : ∀ (r0v50 : Nat → Int32) (r2v51 : Nat → Int32) (r2_0v52 : Nat → Int32) (r2_1v53 : Nat → Int32) (r2_2v54 : Nat → Int32) (r2_3v55 : Nat → Int32) (r2_4v56 : Nat → Int32) (r2_5v57 : Nat → Int32) (r2_6v58 : Nat → Int32) (r2_7v59 : Nat → Int32) (r2_8v60 : Nat → Int32), r17 = (r0v50, r2v51, r2_0v52, r2_1v53, r2_2v54, r2_3v55, r2_4v56, r2_5v57, r2_6v58, r2_7v59, r2_8v60) → zR Γ 6 YX2_passMinutes 64 [(5, .int x2)] [] (zui (zui (zui (zui (zui (zui (zui (zui (zui (zui (zui M 25 r2v51) 26 r2_0v52) 27 r2_1v53) 28 r2_2v54) 29 r2_3v55) 30 r2_4v56) 31 r2_5v57) 32 r2_6v58) 33 r2_7v59) 34 r2_8v60) 182 r0v50) Q := by
    intro r0v50 r2v51 r2_0v52 r2_1v53 r2_2v54 r2_3v55 r2_4v56 r2_5v57 r2_6v58 r2_7v59 r2_8v60 e9
    have hy := hyo18
    try rw [e9] at hy
    try dsimp only at hy
    refine zj_iload (pc' := 66) 0 dX2_passMinutes_64 rfl rfl ?_
    have e9 := Option.some.inj hy
    subst e9
    exact zj_iret dX2_passMinutes_66 rfl hq
  have HL16 : ∀ (n : Nat) (r0v3 : Nat → Int32) (r2v4 : Nat → Int32) (r2_0v5 : Nat → Int32) (r2_1v6 : Nat → Int32) (r2_2v7 : Nat → Int32) (r2_3v8 : Nat → Int32) (r2_4v9 : Nat → Int32) (r2_5v10 : Nat → Int32) (r2_6v11 : Nat → Int32) (r2_7v12 : Nat → Int32) (r2_8v13 : Nat → Int32) (x14 : Int32), zlp (fun s => fDr_passMinutes_L19 r1 r1_2 r1_3 x2 s.1 s.2.1 s.2.2.1 s.2.2.2.1 s.2.2.2.2.1 s.2.2.2.2.2.1 s.2.2.2.2.2.2.1 s.2.2.2.2.2.2.2.1 s.2.2.2.2.2.2.2.2.1 s.2.2.2.2.2.2.2.2.2.1 s.2.2.2.2.2.2.2.2.2.2.1 s.2.2.2.2.2.2.2.2.2.2.2) n (r0v3, r2v4, r2_0v5, r2_1v6, r2_2v7, r2_3v8, r2_4v9, r2_5v10, r2_6v11, r2_7v12, r2_8v13, x14) = some r17 → zR Γ 6 YX2_passMinutes 19 [(0, .ref (zad Γ 182)), (1, .ref (zad Γ 5)), (2, .ref (zad Γ 25)), (5, .int x2), (6, .int x14)] [] (zui (zui (zui (zui (zui (zui (zui (zui (zui (zui (zui M 25 r2v4) 26 r2_0v5) 27 r2_1v6) 28 r2_2v7) 29 r2_3v8) 30 r2_4v9) 31 r2_5v10) 32 r2_6v11) 33 r2_7v12) 34 r2_8v13) 182 r0v3) Q := by
    intro n
    induction n with
    | zero => intro r0v3 r2v4 r2_0v5 r2_1v6 r2_2v7 r2_3v8 r2_4v9 r2_5v10 r2_6v11 r2_7v12 r2_8v13 x14 hn9; cases hn9
    | succ n ih19 =>
      intro r0v3 r2v4 r2_0v5 r2_1v6 r2_2v7 r2_3v8 r2_4v9 r2_5v10 r2_6v11 r2_7v12 r2_8v13 x14 hn9
      obtain ⟨o9, hb9, h20, h21⟩ := zlp_step hn9
      have hy : fDr_passMinutes_L19 r1 r1_2 r1_3 x2 r0v3 r2v4 r2_0v5 r2_1v6 r2_2v7 r2_3v8 r2_4v9 r2_5v10 r2_6v11 r2_7v12 r2_8v13 x14 = some o9 := hb9
      unfold fDr_passMinutes_L19 at hy
      refine zj_iload (pc' := 21) 4 dX2_passMinutes_19 rfl rfl ?_
      refine zj_iload (pc' := 23) 3 dX2_passMinutes_21 rfl rfl ?_
      refine zj_icmp_ge (tgt := 64) (pc' := 26) dX2_passMinutes_23 rfl (by decide) (fun c22 => ?_) (fun c22 => ?_)
      · have hy := zt_t hy c22
        have e9 := h21 _ (Option.some.inj hy).symm
        refine zj_loc [3] rfl ?_
        exact HE15 _ _ _ _ _ _ _ _ _ _ _ e9.symm
      · have hy := zt_f hy c22
        refine zj_iconst (pc' := 27) dX2_passMinutes_26 rfl kiconst_0 ?_
        refine zj_istore (pc' := 29) (L' := [(7, .int 0), (0, .ref (zad Γ 182)), (1, .ref (zad Γ 5)), (2, .ref (zad Γ 25)), (5, .int x2), (6, .int x14)]) dX2_passMinutes_27 rfl (by decide) rfl ?_
        refine zj_loc [1, 2, 3, 4, 5, 0] rfl ?_
        obtain ⟨r33, hr9, hyo34⟩ := zt_b hy
        obtain ⟨n9, hn9⟩ := zLP_some hr9
        have HE31 : ∀ (r0v41 : Nat → Int32) (r2_1v42 : Nat → Int32) (r2_2v43 : Nat → Int32) (r2_3v44 : Nat → Int32) (r2_4v45 : Nat → Int32) (r2_5v46 : Nat → Int32) (r2_6v47 : Nat → Int32), r33 = (r0v41, r2_1v42, r2_2v43, r2_3v44, r2_4v45, r2_5v46, r2_6v47) → zR Γ 6 YX2_passMinutes 52 [(0, .ref (zad Γ 182)), (1, .ref (zad Γ 5)), (2, .ref (zad Γ 25)), (5, .int x2), (6, .int x14)] [] (zui (zui (zui (zui (zui (zui (zui (zui (zui (zui (zui M 25 r2v4) 26 r2_0v5) 27 r2_1v42) 28 r2_2v43) 29 r2_3v44) 30 r2_4v45) 31 r2_5v46) 32 r2_6v47) 33 r2_7v12) 34 r2_8v13) 182 r0v41) Q := by
          intro r0v41 r2_1v42 r2_2v43 r2_3v44 r2_4v45 r2_5v46 r2_6v47 e9
          have hy := hyo34
          try rw [e9] at hy
          try dsimp only at hy
          refine zj_aload_n (pc' := 53) 2 dX2_passMinutes_52 rfl rfl rfl ?_
          refine zj_aload_n (pc' := 54) 1 dX2_passMinutes_53 rfl rfl rfl ?_
          refine zj_iconst (pc' := 55) dX2_passMinutes_54 rfl kiconst_1 ?_
          obtain ⟨y48, hy48, hy⟩ := zt_b hy
          refine zj_V0 (pc' := 58) (z := YX1_passMinutes) (As := [.ref (zad Γ 5), .int 1]) (N := (zui (zui (zui (zui (zui (zui (zui (zui (zui (zui (zui M 25 y48.1) 26 y48.2.1) 27 y48.2.2.1) 28 r2_2v43) 29 r2_3v44) 30 y48.2.2.2.1) 31 y48.2.2.2.2.1) 32 y48.2.2.2.2.2.1) 33 y48.2.2.2.2.2.2.1) 34 y48.2.2.2.2.2.2.2) 182 r0v41)) dX2_passMinutes_55 rfl mlX2_37 lkX1_passMinutes sh25 ⟨_, _, rfl⟩ rfl rfl (Nat.le_of_ble_eq_true rfl) (Nat.le_of_ble_eq_true rfl) (LX1_passMinutes_25_5 Γ _ r2v4 r2_0v5 r2_1v42 r2_2v43 r2_3v44 r2_4v45 r2_5v46 r2_6v47 r2_7v12 r2_8v13 r1 r1_2 r1_3 (zr_n rfl (zr_n rfl (zr_n rfl (zr_n rfl (zr_n rfl (zr_n rfl (zr_n rfl (zr_n rfl (zr_n rfl (zr_n rfl zr_s)))))))))) (zr_n rfl (zr_n rfl (zr_n rfl (zr_n rfl (zr_n rfl (zr_n rfl (zr_n rfl (zr_n rfl (zr_n rfl zr_s))))))))) (zr_n rfl (zr_n rfl (zr_n rfl (zr_n rfl (zr_n rfl (zr_n rfl (zr_n rfl (zr_n rfl zr_s)))))))) (zr_n rfl (zr_n rfl (zr_n rfl (zr_n rfl (zr_n rfl (zr_n rfl (zr_n rfl zr_s))))))) (zr_n rfl (zr_n rfl (zr_n rfl (zr_n rfl (zr_n rfl (zr_n rfl zr_s)))))) (zr_n rfl (zr_n rfl (zr_n rfl (zr_n rfl (zr_n rfl zr_s))))) (zr_n rfl (zr_n rfl (zr_n rfl (zr_n rfl zr_s)))) (zr_n rfl (zr_n rfl (zr_n rfl zr_s))) (zr_n rfl (zr_n rfl zr_s)) (zr_n rfl zr_s) (zr_n rfl (zr_n rfl (zr_n rfl (zr_n rfl (zr_n rfl (zr_n rfl (zr_n rfl (zr_n rfl (zr_n rfl (zr_n rfl (zr_n rfl e_i5))))))))))) (zr_n rfl (zr_n rfl (zr_n rfl (zr_n rfl (zr_n rfl (zr_n rfl (zr_n rfl (zr_n rfl (zr_n rfl (zr_n rfl (zr_n rfl e_i8))))))))))) (zr_n rfl (zr_n rfl (zr_n rfl (zr_n rfl (zr_n rfl (zr_n rfl (zr_n rfl (zr_n rfl (zr_n rfl (zr_n rfl (zr_n rfl e_i9))))))))))) 1 hy48) ((zch_i (zch_i (zch_i (zch_i (zch_i (zch_i (zch_i (zm_n rfl (zm_n rfl (zm_n rfl (zm_n rfl (zm_n rfl (zm_n rfl (zm_n rfl (zm_n rfl (zm_n rfl (zm_n rfl zm_s)))))))))) (zm_n rfl (zm_n rfl (zm_n rfl (zm_n rfl (zm_n rfl (zm_n rfl (zm_n rfl (zm_n rfl (zm_n rfl zm_s)))))))))) (zm_n rfl (zm_n rfl (zm_n rfl (zm_n rfl (zm_n rfl (zm_n rfl (zm_n rfl (zm_n rfl zm_s))))))))) (zm_n rfl (zm_n rfl (zm_n rfl (zm_n rfl (zm_n rfl zm_s)))))) (zm_n rfl (zm_n rfl (zm_n rfl (zm_n rfl zm_s))))) (zm_n rfl (zm_n rfl (zm_n rfl zm_s)))) (zm_n rfl (zm_n rfl zm_s))) (zm_n rfl zm_s))).symm ?_
          obtain ⟨x49, ex49⟩ : ∃ z : Int32, z = (x14 + 1) := ⟨_, rfl⟩
          have hy := zlet_at ex49 hy
          refine zj_iinc (pc' := 61) 4 (L' := [(6, .int x49), (0, .ref (zad Γ 182)), (1, .ref (zad Γ 5)), (2, .ref (zad Γ 25)), (5, .int x2)]) dX2_passMinutes_58 rfl rfl (by decide) (by rw [ci1, ← ex49]; rfl) ?_
          refine zj_goto (tgt := 19) dX2_passMinutes_61 (by decide) ?_
          have hn9 := h20 _ (Option.some.inj hy).symm
          refine zj_loc [1, 2, 3, 4, 0] rfl ?_
          exact ih19 _ _ _ _ _ _ _ _ _ _ _ _ hn9
        have HL32 : ∀ (n : Nat) (r0v23 : Nat → Int32) (r2_1v24 : Nat → Int32) (r2_2v25 : Nat → Int32) (r2_3v26 : Nat → Int32) (r2_4v27 : Nat → Int32) (r2_5v28 : Nat → Int32) (r2_6v29 : Nat → Int32) (x30 : Int32), zlp (fun s => fDr_passMinutes_L29 r1 r1_2 r2_0v5 s.1 s.2.1 s.2.2.1 s.2.2.2.1 s.2.2.2.2.1 s.2.2.2.2.2.1 s.2.2.2.2.2.2.1 s.2.2.2.2.2.2.2) n (r0v23, r2_1v24, r2_2v25, r2_3v26, r2_4v27, r2_5v28, r2_6v29, x30) = some r33 → zR Γ 6 YX2_passMinutes 29 [(0, .ref (zad Γ 182)), (1, .ref (zad Γ 5)), (2, .ref (zad Γ 25)), (5, .int x2), (6, .int x14), (7, .int x30)] [] (zui (zui (zui (zui (zui (zui (zui (zui (zui (zui (zui M 25 r2v4) 26 r2_0v5) 27 r2_1v24) 28 r2_2v25) 29 r2_3v26) 30 r2_4v27) 31 r2_5v28) 32 r2_6v29) 33 r2_7v12) 34 r2_8v13) 182 r0v23) Q := by
          intro n
          induction n with
          | zero => intro r0v23 r2_1v24 r2_2v25 r2_3v26 r2_4v27 r2_5v28 r2_6v29 x30 hn9; cases hn9
          | succ n ih35 =>
            intro r0v23 r2_1v24 r2_2v25 r2_3v26 r2_4v27 r2_5v28 r2_6v29 x30 hn9
            obtain ⟨o9, hb9, h36, h37⟩ := zlp_step hn9
            have hy : fDr_passMinutes_L29 r1 r1_2 r2_0v5 r0v23 r2_1v24 r2_2v25 r2_3v26 r2_4v27 r2_5v28 r2_6v29 x30 = some o9 := hb9
            unfold fDr_passMinutes_L29 at hy
            refine zj_iload (pc' := 31) 5 dX2_passMinutes_29 rfl rfl ?_
            refine zj_aload_n (pc' := 32) 1 dX2_passMinutes_31 rfl rfl rfl ?_
            refine zj_V1 (pc' := 35) (z := YX7_persons) (As := []) (N := (zui (zui (zui (zui (zui (zui (zui (zui (zui (zui (zui M 25 r2v4) 26 r2_0v5) 27 r2_1v24) 28 r2_2v25) 29 r2_3v26) 30 r2_4v27) 31 r2_5v28) 32 r2_6v29) 33 r2_7v12) 34 r2_8v13) 182 r0v23)) dX2_passMinutes_32 rfl mlX2_28 lkX7_persons sh5 ⟨_, _, rfl⟩ rfl rfl (Nat.le_of_ble_eq_true rfl) (Nat.le_of_ble_eq_true rfl) (LX7_persons_5 Γ _ r1 (zr_n rfl (zr_n rfl (zr_n rfl (zr_n rfl (zr_n rfl (zr_n rfl (zr_n rfl (zr_n rfl (zr_n rfl (zr_n rfl (zr_n rfl e_i5))))))))))) rfl) rfl ?_
            refine zj_icmp_ge (tgt := 52) (pc' := 38) dX2_passMinutes_35 rfl (by decide) (fun c38 => ?_) (fun c38 => ?_)
            · have hy := zt_t hy c38
              have e9 := h37 _ (Option.some.inj hy).symm
              refine zj_loc [0, 1, 2, 3, 4] rfl ?_
              exact HE31 _ _ _ _ _ _ _ e9.symm
            · have hy := zt_f hy c38
              refine zj_aload_n (pc' := 39) 0 dX2_passMinutes_38 rfl rfl rfl ?_
              refine zj_aload_n (pc' := 40) 1 dX2_passMinutes_39 rfl rfl rfl ?_
              refine zj_aload_n (pc' := 41) 2 dX2_passMinutes_40 rfl rfl rfl ?_
              refine zj_iload (pc' := 43) 5 dX2_passMinutes_41 rfl rfl ?_
              obtain ⟨y39, hy39, hy⟩ := zt_b hy
              refine zj_V0 (pc' := 46) (z := YX2_act) (As := [.ref (zad Γ 5), .ref (zad Γ 25), .int x30]) (N := (zui (zui (zui (zui (zui (zui (zui (zui (zui (zui (zui M 25 r2v4) 26 r2_0v5) 27 y39.2.1) 28 y39.2.2.1) 29 y39.2.2.2.1) 30 y39.2.2.2.2.1) 31 y39.2.2.2.2.2.1) 32 y39.2.2.2.2.2.2) 33 r2_7v12) 34 r2_8v13) 182 y39.1)) dX2_passMinutes_43 rfl mlX2_33 lkX2_act sh182 ⟨_, _, rfl⟩ rfl rfl (Nat.le_of_ble_eq_true rfl) (Nat.le_of_ble_eq_true rfl) (LX2_act_182_5_25 Γ _ r0v23 r1 r1_2 r2_0v5 r2_1v24 r2_2v25 r2_3v26 r2_4v27 r2_5v28 r2_6v29 zr_s (zr_n rfl (zr_n rfl (zr_n rfl (zr_n rfl (zr_n rfl (zr_n rfl (zr_n rfl (zr_n rfl (zr_n rfl (zr_n rfl (zr_n rfl e_i5))))))))))) (zr_n rfl (zr_n rfl (zr_n rfl (zr_n rfl (zr_n rfl (zr_n rfl (zr_n rfl (zr_n rfl (zr_n rfl (zr_n rfl (zr_n rfl e_i8))))))))))) (zr_n rfl (zr_n rfl (zr_n rfl (zr_n rfl (zr_n rfl (zr_n rfl (zr_n rfl (zr_n rfl (zr_n rfl zr_s))))))))) (zr_n rfl (zr_n rfl (zr_n rfl (zr_n rfl (zr_n rfl (zr_n rfl (zr_n rfl (zr_n rfl zr_s)))))))) (zr_n rfl (zr_n rfl (zr_n rfl (zr_n rfl (zr_n rfl (zr_n rfl (zr_n rfl zr_s))))))) (zr_n rfl (zr_n rfl (zr_n rfl (zr_n rfl (zr_n rfl (zr_n rfl zr_s)))))) (zr_n rfl (zr_n rfl (zr_n rfl (zr_n rfl (zr_n rfl zr_s))))) (zr_n rfl (zr_n rfl (zr_n rfl (zr_n rfl zr_s)))) (zr_n rfl (zr_n rfl (zr_n rfl zr_s))) x30 hy39) ((zch_i (zch_i (zch_i (zch_i (zch_i (zch_i (zm_n rfl (zm_n rfl (zm_n rfl (zm_n rfl (zm_n rfl (zm_n rfl (zm_n rfl (zm_n rfl zm_s)))))))) (zm_n rfl (zm_n rfl (zm_n rfl (zm_n rfl (zm_n rfl (zm_n rfl (zm_n rfl zm_s)))))))) (zm_n rfl (zm_n rfl (zm_n rfl (zm_n rfl (zm_n rfl (zm_n rfl zm_s))))))) (zm_n rfl (zm_n rfl (zm_n rfl (zm_n rfl (zm_n rfl zm_s)))))) (zm_n rfl (zm_n rfl (zm_n rfl (zm_n rfl zm_s))))) (zm_n rfl (zm_n rfl (zm_n rfl zm_s)))) zm_s)).symm ?_
              obtain ⟨x40, ex40⟩ : ∃ z : Int32, z = (x30 + 1) := ⟨_, rfl⟩
              have hy := zlet_at ex40 hy
              refine zj_iinc (pc' := 49) 5 (L' := [(7, .int x40), (0, .ref (zad Γ 182)), (1, .ref (zad Γ 5)), (2, .ref (zad Γ 25)), (5, .int x2), (6, .int x14)]) dX2_passMinutes_46 rfl rfl (by decide) (by rw [ci1, ← ex40]; rfl) ?_
              refine zj_goto (tgt := 29) dX2_passMinutes_49 (by decide) ?_
              have hn9 := h36 _ (Option.some.inj hy).symm
              refine zj_loc [1, 2, 3, 4, 5, 0] rfl ?_
              exact ih35 _ _ _ _ _ _ _ _ hn9
        exact HL32 n9 _ _ _ _ _ _ _ _ hn9
  exact HL16 n9 _ _ _ _ _ _ _ _ _ _ _ _ hn9
set_option maxRecDepth 20000 in
theorem LX2_passMinutes_182_5_25 (Γ : zG) (M : zM) (r0 : Nat → Int32) (r1 : Nat → Int32) (r1_2 : Nat → Int32) (r1_3 : Nat → Int32) (r2 : Nat → Int32) (r2_0 : Nat → Int32) (r2_1 : Nat → Int32) (r2_2 : Nat → Int32) (r2_3 : Nat → Int32) (r2_4 : Nat → Int32) (r2_5 : Nat → Int32) (r2_6 : Nat → Int32) (r2_7 : Nat → Int32) (r2_8 : Nat → Int32) (e_i182 : M.1 182 = r0) (e_i5 : M.1 5 = r1) (e_i8 : M.1 8 = r1_2) (e_i9 : M.1 9 = r1_3) (e_i25 : M.1 25 = r2) (e_i26 : M.1 26 = r2_0) (e_i27 : M.1 27 = r2_1) (e_i28 : M.1 28 = r2_2) (e_i29 : M.1 29 = r2_3) (e_i30 : M.1 30 = r2_4) (e_i31 : M.1 31 = r2_5) (e_i32 : M.1 32 = r2_6) (e_i33 : M.1 33 = r2_7) (e_i34 : M.1 34 = r2_8) (a3 : Int32) (a4 : Int32) {res : Int32 × (Nat → Int32) × (Nat → Int32) × (Nat → Int32) × (Nat → Int32) × (Nat → Int32) × (Nat → Int32) × (Nat → Int32) × (Nat → Int32) × (Nat → Int32) × (Nat → Int32) × (Nat → Int32)} (hy : (fDr_passMinutes r0 r1 r1_2 r1_3 r2 r2_0 r2_1 r2_2 r2_3 r2_4 r2_5 r2_6 r2_7 r2_8 a3 a4) = some res) : zK Γ 6 YX2_passMinutes [.ref (zad Γ 182), .ref (zad Γ 5), .ref (zad Γ 25), .int a3, .int a4] M (fun v N => v = some (.int res.1) ∧ N = (zui (zui (zui (zui (zui (zui (zui (zui (zui (zui (zui M 25 res.2.2.1) 26 res.2.2.2.1) 27 res.2.2.2.2.1) 28 res.2.2.2.2.2.1) 29 res.2.2.2.2.2.2.1) 30 res.2.2.2.2.2.2.2.1) 31 res.2.2.2.2.2.2.2.2.1) 32 res.2.2.2.2.2.2.2.2.2.1) 33 res.2.2.2.2.2.2.2.2.2.2.1) 34 res.2.2.2.2.2.2.2.2.2.2.2) 182 res.2.1)) :=
  zK_of (by decide) (Nat.le_of_ble_eq_true rfl) (TX2_passMinutes_182_5_25 Γ M r0 r1 r1_2 r1_3 r2 r2_0 r2_1 r2_2 r2_3 r2_4 r2_5 r2_6 r2_7 r2_8 e_i182 e_i5 e_i8 e_i9 e_i25 e_i26 e_i27 e_i28 e_i29 e_i30 e_i31 e_i32 e_i33 e_i34 a3 a4 hy ⟨rfl, rfl⟩)

