noncomputable def fM_goesOn_L2 (r0_20 : Nat → Int32) (a1 : Int32) (r0_6v1 : Nat → Int32) (r0_21v2 : Nat → Int32) (x3 : Int32) : Option (((Nat → Int32) × (Nat → Int32) × Int32) ⊕ ((Nat → Int32) × (Nat → Int32) × Int32)) :=
  (if a1 ≤ x3 then
  some (.inr (r0_6v1, r0_21v2, x3))
  else
  (if 400 ≤ (r0_6v1 89) then
  some (.inr (r0_6v1, r0_21v2, x3))
  else
  (fM_minute r0_6v1 r0_20 r0_21v2).bind (fun (y13 : (Nat → Int32) × (Nat → Int32)) =>
  zlet (x3 + 1) (fun (x14 : Int32) =>
  some (.inl (y13.1, y13.2, x14))))))
noncomputable def fM_goesOn (r0_6 : Nat → Int32) (r0_20 : Nat → Int32) (r0_21 : Nat → Int32) (a1 : Int32) : Option (Int32 × (Nat → Int32) × (Nat → Int32)) :=
  (zLP (fun s => fM_goesOn_L2 r0_20 a1 s.1 s.2.1 s.2.2) (r0_6, r0_21, 0)).bind (fun r6 =>
  some (r6.2.2, r6.1, r6.2.1))

set_option maxRecDepth 20000 in
theorem TX12_goesOn_186 (Γ : zG) {Q : Option Value → zM → Prop} (M : zM) (r0_6 : Nat → Int32) (r0_20 : Nat → Int32) (r0_21 : Nat → Int32) (e_i188 : M.1 188 = r0_6) (e_i193 : M.1 193 = r0_20) (e_i194 : M.1 194 = r0_21) (a1 : Int32) {res : Int32 × (Nat → Int32) × (Nat → Int32)} (hy : (fM_goesOn r0_6 r0_20 r0_21 a1) = some res) (hq : Q (some (.int res.1)) (zui (zui M 188 res.2.1) 194 res.2.2)) : zR Γ 6 YX12_goesOn 0 [(0, .ref (zad Γ 186)), (1, .int a1)] [] M Q := by
  unfold fM_goesOn at hy
  refine zj_iconst (pc' := 1) dX12_goesOn_0 rfl kiconst_0 ?_
  refine zj_istore_n (pc' := 2) (L' := [(2, .int 0), (0, .ref (zad Γ 186)), (1, .int a1)]) dX12_goesOn_1 rfl rfl (by decide) rfl ?_
  refine zj_loc [1, 2, 0] rfl ?_
  refine zj_mem (N := (zui M 188 r0_6)) (zself_i e_i188 rfl) ?_
  refine zj_mem (N := (zui (zui M 188 r0_6) 194 r0_21)) (zself_i (zr_n rfl e_i194) rfl) ?_
  obtain ⟨r6, hr9, hyo7⟩ := zt_b hy
  obtain ⟨n9, hn9⟩ := zLP_some hr9
  have HE4 : ∀ (r0_6v15 : Nat → Int32) (r0_21v16 : Nat → Int32) (x17 : Int32), r6 = (r0_6v15, r0_21v16, x17) → zR Γ 6 YX12_goesOn 30 [(2, .int x17)] [] (zui (zui M 188 r0_6v15) 194 r0_21v16) Q := by
    intro r0_6v15 r0_21v16 x17 e9
    have hy := hyo7
    try rw [e9] at hy
    try dsimp only at hy
    refine zj_iload_n (pc' := 31) 0 dX12_goesOn_30 rfl rfl rfl ?_
    have e9 := Option.some.inj hy
    subst e9
    exact zj_iret dX12_goesOn_31 rfl hq
  have HL5 : ∀ (n : Nat) (r0_6v1 : Nat → Int32) (r0_21v2 : Nat → Int32) (x3 : Int32), zlp (fun s => fM_goesOn_L2 r0_20 a1 s.1 s.2.1 s.2.2) n (r0_6v1, r0_21v2, x3) = some r6 → zR Γ 6 YX12_goesOn 2 [(0, .ref (zad Γ 186)), (1, .int a1), (2, .int x3)] [] (zui (zui M 188 r0_6v1) 194 r0_21v2) Q := by
    intro n
    induction n with
    | zero => intro r0_6v1 r0_21v2 x3 hn9; cases hn9
    | succ n ih8 =>
      intro r0_6v1 r0_21v2 x3 hn9
      obtain ⟨o9, hb9, h9, h10⟩ := zlp_step hn9
      have hy : fM_goesOn_L2 r0_20 a1 r0_6v1 r0_21v2 x3 = some o9 := hb9
      unfold fM_goesOn_L2 at hy
      refine zj_iload_n (pc' := 3) 2 dX12_goesOn_2 rfl rfl rfl ?_
      refine zj_iload_n (pc' := 4) 1 dX12_goesOn_3 rfl rfl rfl ?_
      refine zj_icmp_ge (tgt := 30) (pc' := 7) dX12_goesOn_4 rfl (by decide) (fun c11 => ?_) (fun c11 => ?_)
      · have hy := zt_t hy c11
        have e9 := h10 _ (Option.some.inj hy).symm
        refine zj_loc [2] rfl ?_
        exact HE4 _ _ _ e9.symm
      · have hy := zt_f hy c11
        refine zj_aload_n (pc' := 8) 0 dX12_goesOn_7 rfl rfl rfl ?_
        refine zj_getR (pc' := 11) (j := 188) dX12_goesOn_8 rfl flX12_33 sh186 rfl ?_
        refine zj_bipush (pc' := 13) dX12_goesOn_11 rfl kbipush_89 ?_
        refine zj_rdi (pc' := 14) dX12_goesOn_13 rfl sh188 (zr_n rfl zr_s) (zrdK zi89_397 tn89) ?_
        refine zj_sipush (pc' := 17) dX12_goesOn_14 rfl ksipush_400 ?_
        refine zj_icmp_ge (tgt := 30) (pc' := 20) dX12_goesOn_17 rfl (by decide) (fun c12 => ?_) (fun c12 => ?_)
        · have hy := zt_t hy c12
          have e9 := h10 _ (Option.some.inj hy).symm
          refine zj_loc [2] rfl ?_
          exact HE4 _ _ _ e9.symm
        · have hy := zt_f hy c12
          refine zj_aload_n (pc' := 21) 0 dX12_goesOn_20 rfl rfl rfl ?_
          obtain ⟨y13, hy13, hy⟩ := zt_b hy
          refine zj_V0 (pc' := 24) (z := YX12_minute) (As := []) (N := (zui (zui M 188 y13.1) 194 y13.2)) dX12_goesOn_21 rfl mlX12_298 lkX12_minute sh186 ⟨_, _, rfl⟩ rfl rfl (Nat.le_of_ble_eq_true rfl) (Nat.le_of_ble_eq_true rfl) (LX12_minute_186 Γ _ r0_6v1 r0_20 r0_21v2 (zr_n rfl zr_s) (zr_n rfl (zr_n rfl e_i193)) zr_s hy13) ((zch_i (zm_n rfl zm_s) zm_s)).symm ?_
          obtain ⟨x14, ex14⟩ : ∃ z : Int32, z = (x3 + 1) := ⟨_, rfl⟩
          have hy := zlet_at ex14 hy
          refine zj_iinc (pc' := 27) 2 (L' := [(2, .int x14), (0, .ref (zad Γ 186)), (1, .int a1)]) dX12_goesOn_24 rfl rfl (by decide) (by rw [ci1, ← ex14]; rfl) ?_
          refine zj_goto (tgt := 2) dX12_goesOn_27 (by decide) ?_
          have hn9 := h9 _ (Option.some.inj hy).symm
          refine zj_loc [1, 2, 0] rfl ?_
          exact ih8 _ _ _ hn9
  exact HL5 n9 _ _ _ hn9
set_option maxRecDepth 20000 in
theorem LX12_goesOn_186 (Γ : zG) (M : zM) (r0_6 : Nat → Int32) (r0_20 : Nat → Int32) (r0_21 : Nat → Int32) (e_i188 : M.1 188 = r0_6) (e_i193 : M.1 193 = r0_20) (e_i194 : M.1 194 = r0_21) (a1 : Int32) {res : Int32 × (Nat → Int32) × (Nat → Int32)} (hy : (fM_goesOn r0_6 r0_20 r0_21 a1) = some res) : zK Γ 6 YX12_goesOn [.ref (zad Γ 186), .int a1] M (fun v N => v = some (.int res.1) ∧ N = (zui (zui M 188 res.2.1) 194 res.2.2)) :=
  zK_of (by decide) (Nat.le_of_ble_eq_true rfl) (TX12_goesOn_186 Γ M r0_6 r0_20 r0_21 e_i188 e_i193 e_i194 a1 hy ⟨rfl, rfl⟩)

noncomputable def fM_minutes (r0 : Nat → Int32) (r0_6 : Nat → Int32) (r0_20 : Nat → Int32) (r0_21 : Nat → Int32) (r0_22 : Nat → Int32) (a1 : Int32) : Option (Int32 × (Nat → Int32) × (Nat → Int32) × (Nat → Int32) × (Nat → Int32)) :=
  zlet (zup r0 0 0) (fun (r0v1 : Nat → Int32) =>
  (if (fM_isIn a1 1 60) = true then
  (if (r0_6 89) = 400 then
  some (0, r0v1, r0_6, r0_21, r0_22)
  else
  (fM_keep r0v1 r0_6 r0_22).bind (fun (y4 : (Nat → Int32) × (Nat → Int32)) =>
  (fM_goesOn r0_6 r0_20 r0_21 a1).bind (fun (y5 : Int32 × (Nat → Int32) × (Nat → Int32)) =>
  some (y5.1, y4.1, y5.2.1, y5.2.2, y4.2))))
  else
  some ((-1), r0v1, r0_6, r0_21, r0_22)))

set_option maxRecDepth 20000 in
theorem TX12_minutes_186 (Γ : zG) {Q : Option Value → zM → Prop} (M : zM) (r0 : Nat → Int32) (r0_6 : Nat → Int32) (r0_20 : Nat → Int32) (r0_21 : Nat → Int32) (r0_22 : Nat → Int32) (e_i186 : M.1 186 = r0) (e_i188 : M.1 188 = r0_6) (e_i193 : M.1 193 = r0_20) (e_i194 : M.1 194 = r0_21) (e_i195 : M.1 195 = r0_22) (a1 : Int32) {res : Int32 × (Nat → Int32) × (Nat → Int32) × (Nat → Int32) × (Nat → Int32)} (hy : (fM_minutes r0 r0_6 r0_20 r0_21 r0_22 a1) = some res) (hq : Q (some (.int res.1)) (zui (zui (zui (zui M 186 res.2.1) 188 res.2.2.1) 194 res.2.2.2.1) 195 res.2.2.2.2)) : zR Γ 7 YX12_minutes 0 [(0, .ref (zad Γ 186)), (1, .int a1)] [] M Q := by
  unfold fM_minutes at hy
  refine zj_aload_n (pc' := 1) 0 dX12_minutes_0 rfl rfl rfl ?_
  refine zj_iconst (pc' := 2) dX12_minutes_1 rfl kiconst_0 ?_
  obtain ⟨r0v1, er0v1⟩ : ∃ z, z = (zup r0 0 0) := ⟨_, rfl⟩
  have hy := zlet_at er0v1 hy
  refine zj_pI (pc' := 5) (N := (zui M 186 r0v1)) dX12_minutes_2 rfl fpX12_1 sh186 rfl e_i186 er0v1 rfl ?_
  refine zj_iload_n (pc' := 6) 1 dX12_minutes_5 rfl rfl rfl ?_
  refine zj_iconst (pc' := 7) dX12_minutes_6 rfl kiconst_1 ?_
  refine zj_bipush (pc' := 9) dX12_minutes_7 rfl kbipush_60 ?_
  refine zj_S1 (pc' := 12) (z := YX12_isIn) (As := [.int a1, .int 1, .int 60]) (N := (zui M 186 r0v1)) dX12_minutes_9 rfl mlX12_188 lkX12_isIn rfl rfl (Nat.le_of_ble_eq_true rfl) (Nat.le_of_ble_eq_true rfl) (LX12_isIn Γ _ a1 1 60 rfl) rfl ?_
  refine zj_bif_ne (tgt := 17) (pc' := 15) dX12_minutes_12 rfl (by decide) (fun c2 => ?_) (fun c2 => ?_)
  · have hy := zt_t hy c2
    refine zj_aload_n (pc' := 18) 0 dX12_minutes_17 rfl rfl rfl ?_
    refine zj_getR (pc' := 21) (j := 188) dX12_minutes_18 rfl flX12_33 sh186 rfl ?_
    refine zj_bipush (pc' := 23) dX12_minutes_21 rfl kbipush_89 ?_
    refine zj_rdi (pc' := 24) dX12_minutes_23 rfl sh188 (zr_n rfl e_i188) (zrdK zi89_397 tn89) ?_
    refine zj_sipush (pc' := 27) dX12_minutes_24 rfl ksipush_400 ?_
    refine zj_icmp_ne (tgt := 32) (pc' := 30) dX12_minutes_27 rfl (by decide) (fun c3 => ?_) (fun c3 => ?_)
    · have hy := zt_f hy c3
      refine zj_aload_n (pc' := 33) 0 dX12_minutes_32 rfl rfl rfl ?_
      obtain ⟨y4, hy4, hy⟩ := zt_b hy
      refine zj_V0 (pc' := 36) (z := YX12_keep) (As := []) (N := (zui (zui M 186 y4.1) 195 y4.2)) dX12_minutes_33 rfl mlX12_304 lkX12_keep sh186 ⟨_, _, rfl⟩ rfl rfl (Nat.le_of_ble_eq_true rfl) (Nat.le_of_ble_eq_true rfl) (LX12_keep_186 Γ _ r0v1 r0_6 r0_22 zr_s (zr_n rfl e_i188) (zr_n rfl e_i195) hy4) ((zch_i zm_s rfl)).symm ?_
      refine zj_aload_n (pc' := 37) 0 dX12_minutes_36 rfl rfl rfl ?_
      refine zj_iload_n (pc' := 38) 1 dX12_minutes_37 rfl rfl rfl ?_
      obtain ⟨y5, hy5, hy⟩ := zt_b hy
      refine zj_V1 (pc' := 41) (z := YX12_goesOn) (As := [.int a1]) (N := (zui (zui (zui (zui M 186 y4.1) 188 y5.2.1) 194 y5.2.2) 195 y4.2)) dX12_minutes_38 rfl mlX12_324 lkX12_goesOn sh186 ⟨_, _, rfl⟩ rfl rfl (Nat.le_of_ble_eq_true rfl) (Nat.le_of_ble_eq_true rfl) (LX12_goesOn_186 Γ _ r0_6 r0_20 r0_21 (zr_n rfl (zr_n rfl e_i188)) (zr_n rfl (zr_n rfl e_i193)) (zr_n rfl (zr_n rfl e_i194)) a1 hy5) ((zch_i (zm_n rfl rfl) (zm_n rfl rfl))).symm ?_
      have e9 := Option.some.inj hy
      subst e9
      exact zj_iret dX12_minutes_41 rfl hq
    · have hy := zt_t hy c3
      refine zj_iconst (pc' := 31) dX12_minutes_30 rfl kiconst_0 ?_
      have e9 := Option.some.inj hy
      subst e9
      refine zj_mem (N := (zui (zui M 186 r0v1) 188 r0_6)) (zself_i (zr_n rfl e_i188) rfl) ?_
      refine zj_mem (N := (zui (zui (zui M 186 r0v1) 188 r0_6) 194 r0_21)) (zself_i (zr_n rfl (zr_n rfl e_i194)) rfl) ?_
      refine zj_mem (N := (zui (zui (zui (zui M 186 r0v1) 188 r0_6) 194 r0_21) 195 r0_22)) (zself_i (zr_n rfl (zr_n rfl (zr_n rfl e_i195))) rfl) ?_
      exact zj_iret dX12_minutes_31 rfl hq
  · have hy := zt_f hy c2
    refine zj_iconst (pc' := 16) dX12_minutes_15 rfl kiconst_m1 ?_
    have e9 := Option.some.inj hy
    subst e9
    refine zj_mem (N := (zui (zui M 186 r0v1) 188 r0_6)) (zself_i (zr_n rfl e_i188) rfl) ?_
    refine zj_mem (N := (zui (zui (zui M 186 r0v1) 188 r0_6) 194 r0_21)) (zself_i (zr_n rfl (zr_n rfl e_i194)) rfl) ?_
    refine zj_mem (N := (zui (zui (zui (zui M 186 r0v1) 188 r0_6) 194 r0_21) 195 r0_22)) (zself_i (zr_n rfl (zr_n rfl (zr_n rfl e_i195))) rfl) ?_
    exact zj_iret dX12_minutes_16 rfl hq
set_option maxRecDepth 20000 in
theorem LX12_minutes_186 (Γ : zG) (M : zM) (r0 : Nat → Int32) (r0_6 : Nat → Int32) (r0_20 : Nat → Int32) (r0_21 : Nat → Int32) (r0_22 : Nat → Int32) (e_i186 : M.1 186 = r0) (e_i188 : M.1 188 = r0_6) (e_i193 : M.1 193 = r0_20) (e_i194 : M.1 194 = r0_21) (e_i195 : M.1 195 = r0_22) (a1 : Int32) {res : Int32 × (Nat → Int32) × (Nat → Int32) × (Nat → Int32) × (Nat → Int32)} (hy : (fM_minutes r0 r0_6 r0_20 r0_21 r0_22 a1) = some res) : zK Γ 7 YX12_minutes [.ref (zad Γ 186), .int a1] M (fun v N => v = some (.int res.1) ∧ N = (zui (zui (zui (zui M 186 res.2.1) 188 res.2.2.1) 194 res.2.2.2.1) 195 res.2.2.2.2)) :=
  zK_of (by decide) (Nat.le_of_ble_eq_true rfl) (TX12_minutes_186 Γ M r0 r0_6 r0_20 r0_21 r0_22 e_i186 e_i188 e_i193 e_i194 e_i195 a1 hy ⟨rfl, rfl⟩)

noncomputable def fHi_length (r0 : Nat → Int32) : Int32 :=
  (r0 2)

set_option maxRecDepth 20000 in
theorem TX3_length_47 (Γ : zG) {Q : Option Value → zM → Prop} (M : zM) (r0 : Nat → Int32) (e_i47 : M.1 47 = r0)  {res : Int32} (hy : (fHi_length r0) = res) (hq : Q (some (.int res)) M) : zR Γ 1 YX3_length 0 [(0, .ref (zad Γ 47))] [] M Q := by
  unfold fHi_length at hy
  refine zj_aload_n (pc' := 1) 0 dX3_length_0 rfl rfl rfl ?_
  refine zj_fI (pc' := 4) dX3_length_1 rfl flX3_16 sh47 rfl e_i47 rfl ?_
  subst hy
  exact zj_iret dX3_length_4 rfl hq
set_option maxRecDepth 20000 in
theorem LX3_length_47 (Γ : zG) (M : zM) (r0 : Nat → Int32) (e_i47 : M.1 47 = r0)  {res : Int32} (hy : (fHi_length r0) = res) : zK Γ 1 YX3_length [.ref (zad Γ 47)] M (fun v N => v = some (.int res) ∧ N = M) :=
  zK_of (by decide) (Nat.le_of_ble_eq_true rfl) (TX3_length_47 Γ M r0 e_i47 hy ⟨rfl, rfl⟩)

noncomputable def fM_undo_L26 (r0_22 : Nat → Int32) (r0v3 : Nat → Int32) (r0_6v4 : Nat → Int32) (x5 : Int32) : Option (((Nat → Int32) × Int32) ⊕ ((Nat → Int32))) :=
  (if 127 ≤ x5 then
  some (.inr r0_6v4)
  else
  (zrd r0_22 1016 ((127 * (r0v3 24)) + x5)).bind (fun (v14 : Int32) =>
  (zwr r0_6v4 397 (89 + x5) v14).bind (fun (r0_6v15 : Nat → Int32) =>
  zlet (x5 + 1) (fun (x16 : Int32) =>
  some (.inl (r0_6v15, x16))))))
noncomputable def fM_undo (r0 : Nat → Int32) (r0_6 : Nat → Int32) (r0_22 : Nat → Int32) : Option (Int32 × (Nat → Int32) × (Nat → Int32)) :=
  zlet (zup r0 0 0) (fun (r0v1 : Nat → Int32) =>
  (if (r0v1 24) = 0 then
  some ((-1), r0v1, r0_6)
  else
  zlet (zup r0v1 24 ((r0v1 24) - 1)) (fun (r0v3 : Nat → Int32) =>
  (zLP (fun s => fM_undo_L26 r0_22 r0v3 s.1 s.2) (r0_6, 0)).bind (fun r8 =>
  some ((r0v3 24), r0v3, r8)))))

set_option maxRecDepth 20000 in
theorem TX12_undo_186 (Γ : zG) {Q : Option Value → zM → Prop} (M : zM) (r0 : Nat → Int32) (r0_6 : Nat → Int32) (r0_22 : Nat → Int32) (e_i186 : M.1 186 = r0) (e_i188 : M.1 188 = r0_6) (e_i195 : M.1 195 = r0_22)  {res : Int32 × (Nat → Int32) × (Nat → Int32)} (hy : (fM_undo r0 r0_6 r0_22) = some res) (hq : Q (some (.int res.1)) (zui (zui M 186 res.2.1) 188 res.2.2)) : zR Γ 1 YX12_undo 0 [(0, .ref (zad Γ 186))] [] M Q := by
  unfold fM_undo at hy
  refine zj_aload_n (pc' := 1) 0 dX12_undo_0 rfl rfl rfl ?_
  refine zj_iconst (pc' := 2) dX12_undo_1 rfl kiconst_0 ?_
  obtain ⟨r0v1, er0v1⟩ : ∃ z, z = (zup r0 0 0) := ⟨_, rfl⟩
  have hy := zlet_at er0v1 hy
  refine zj_pI (pc' := 5) (N := (zui M 186 r0v1)) dX12_undo_2 rfl fpX12_1 sh186 rfl e_i186 er0v1 rfl ?_
  refine zj_aload_n (pc' := 6) 0 dX12_undo_5 rfl rfl rfl ?_
  refine zj_fI (pc' := 9) dX12_undo_6 rfl flX12_256 sh186 rfl zr_s rfl ?_
  refine zj_if_ne (tgt := 14) (pc' := 12) dX12_undo_9 rfl (by decide) (fun c2 => ?_) (fun c2 => ?_)
  · have hy := zt_f hy c2
    refine zj_aload_n (pc' := 15) 0 dX12_undo_14 rfl rfl rfl ?_
    refine zj_dup (pc' := 16) dX12_undo_15 rfl rfl ?_
    refine zj_fI (pc' := 19) dX12_undo_16 rfl flX12_256 sh186 rfl zr_s rfl ?_
    refine zj_iconst (pc' := 20) dX12_undo_19 rfl kiconst_1 ?_
    refine zj_isub (pc' := 21) dX12_undo_20 rfl ?_
    obtain ⟨r0v3, er0v3⟩ : ∃ z, z = (zup r0v1 24 ((r0v1 24) - 1)) := ⟨_, rfl⟩
    have hy := zlet_at er0v3 hy
    refine zj_pI (pc' := 24) (N := (zui M 186 r0v3)) dX12_undo_21 rfl fpX12_256 sh186 rfl zr_s er0v3 zm_s ?_
    refine zj_iconst (pc' := 25) dX12_undo_24 rfl kiconst_0 ?_
    refine zj_istore_n (pc' := 26) (L' := [(1, .int 0), (0, .ref (zad Γ 186))]) dX12_undo_25 rfl rfl (by decide) rfl ?_
    refine zj_loc [1, 0] rfl ?_
    refine zj_mem (N := (zui (zui M 186 r0v3) 188 r0_6)) (zself_i (zr_n rfl e_i188) rfl) ?_
    obtain ⟨r8, hr9, hyo9⟩ := zt_b hy
    obtain ⟨n9, hn9⟩ := zLP_some hr9
    have HE6 : ∀ (r0_6v17 : Nat → Int32), r8 = r0_6v17 → zR Γ 1 YX12_undo 61 [(0, .ref (zad Γ 186))] [] (zui (zui M 186 r0v3) 188 r0_6v17) Q := by
      intro r0_6v17 e9
      have hy := hyo9
      try rw [e9] at hy
      try dsimp only at hy
      refine zj_aload_n (pc' := 62) 0 dX12_undo_61 rfl rfl rfl ?_
      refine zj_fI (pc' := 65) dX12_undo_62 rfl flX12_256 sh186 rfl (zr_n rfl zr_s) rfl ?_
      have e9 := Option.some.inj hy
      subst e9
      exact zj_iret dX12_undo_65 rfl hq
    have HL7 : ∀ (n : Nat) (r0_6v4 : Nat → Int32) (x5 : Int32), zlp (fun s => fM_undo_L26 r0_22 r0v3 s.1 s.2) n (r0_6v4, x5) = some r8 → zR Γ 1 YX12_undo 26 [(0, .ref (zad Γ 186)), (1, .int x5)] [] (zui (zui M 186 r0v3) 188 r0_6v4) Q := by
      intro n
      induction n with
      | zero => intro r0_6v4 x5 hn9; cases hn9
      | succ n ih10 =>
        intro r0_6v4 x5 hn9
        obtain ⟨o9, hb9, h11, h12⟩ := zlp_step hn9
        have hy : fM_undo_L26 r0_22 r0v3 r0_6v4 x5 = some o9 := hb9
        unfold fM_undo_L26 at hy
        refine zj_iload_n (pc' := 27) 1 dX12_undo_26 rfl rfl rfl ?_
        refine zj_bipush (pc' := 29) dX12_undo_27 rfl kbipush_127 ?_
        refine zj_icmp_ge (tgt := 61) (pc' := 32) dX12_undo_29 rfl (by decide) (fun c13 => ?_) (fun c13 => ?_)
        · have hy := zt_t hy c13
          have e9 := h12 _ (Option.some.inj hy).symm
          refine zj_loc [0] rfl ?_
          exact HE6 _ e9.symm
        · have hy := zt_f hy c13
          refine zj_aload_n (pc' := 33) 0 dX12_undo_32 rfl rfl rfl ?_
          refine zj_getR (pc' := 36) (j := 188) dX12_undo_33 rfl flX12_33 sh186 rfl ?_
          refine zj_bipush (pc' := 38) dX12_undo_36 rfl kbipush_89 ?_
          refine zj_iload_n (pc' := 39) 1 dX12_undo_38 rfl rfl rfl ?_
          refine zj_iadd (pc' := 40) dX12_undo_39 rfl ?_
          refine zj_aload_n (pc' := 41) 0 dX12_undo_40 rfl rfl rfl ?_
          refine zj_getR (pc' := 44) (j := 195) dX12_undo_41 rfl flX12_56 sh186 rfl ?_
          refine zj_bipush (pc' := 46) dX12_undo_44 rfl kbipush_127 ?_
          refine zj_aload_n (pc' := 47) 0 dX12_undo_46 rfl rfl rfl ?_
          refine zj_fI (pc' := 50) dX12_undo_47 rfl flX12_256 sh186 rfl (zr_n rfl zr_s) rfl ?_
          refine zj_imul (pc' := 51) dX12_undo_50 rfl ?_
          refine zj_iload_n (pc' := 52) 1 dX12_undo_51 rfl rfl rfl ?_
          refine zj_iadd (pc' := 53) dX12_undo_52 rfl ?_
          obtain ⟨v14, hv14, hy⟩ := zt_b hy
          refine zj_rdi (pc' := 54) dX12_undo_53 rfl sh195 (zr_n rfl (zr_n rfl e_i195)) hv14 ?_
          obtain ⟨r0_6v15, hr0_6v15, hy⟩ := zt_b hy
          refine zj_wri (pc' := 55) (N := (zui (zui M 186 r0v3) 188 r0_6v15)) dX12_undo_54 rfl sh188 zr_s hr0_6v15 zm_s ?_
          obtain ⟨x16, ex16⟩ : ∃ z : Int32, z = (x5 + 1) := ⟨_, rfl⟩
          have hy := zlet_at ex16 hy
          refine zj_iinc (pc' := 58) 1 (L' := [(1, .int x16), (0, .ref (zad Γ 186))]) dX12_undo_55 rfl rfl (by decide) (by rw [ci1, ← ex16]; rfl) ?_
          refine zj_goto (tgt := 26) dX12_undo_58 (by decide) ?_
          have hn9 := h11 _ (Option.some.inj hy).symm
          refine zj_loc [1, 0] rfl ?_
          exact ih10 _ _ hn9
    exact HL7 n9 _ _ hn9
  · have hy := zt_t hy c2
    refine zj_iconst (pc' := 13) dX12_undo_12 rfl kiconst_m1 ?_
    have e9 := Option.some.inj hy
    subst e9
    refine zj_mem (N := (zui (zui M 186 r0v1) 188 r0_6)) (zself_i (zr_n rfl e_i188) rfl) ?_
    exact zj_iret dX12_undo_13 rfl hq
set_option maxRecDepth 20000 in
theorem LX12_undo_186 (Γ : zG) (M : zM) (r0 : Nat → Int32) (r0_6 : Nat → Int32) (r0_22 : Nat → Int32) (e_i186 : M.1 186 = r0) (e_i188 : M.1 188 = r0_6) (e_i195 : M.1 195 = r0_22)  {res : Int32 × (Nat → Int32) × (Nat → Int32)} (hy : (fM_undo r0 r0_6 r0_22) = some res) : zK Γ 1 YX12_undo [.ref (zad Γ 186)] M (fun v N => v = some (.int res.1) ∧ N = (zui (zui M 186 res.2.1) 188 res.2.2)) :=
  zK_of (by decide) (Nat.le_of_ble_eq_true rfl) (TX12_undo_186 Γ M r0 r0_6 r0_22 e_i186 e_i188 e_i195 hy ⟨rfl, rfl⟩)

noncomputable def fX_ring (r0_2 : Nat → Int32) (r0_4_2 : Nat → Int32) (a1 : Int32) : Option (Int32) :=
  (if (fPl_hasPerson r0_2 a1) = true then
  (fDy_ringOf r0_4_2 a1).bind (fun (y2 : Int32) =>
  some y2)
  else
  some (-1))

set_option maxRecDepth 20000 in
theorem TX11_ring_0 (Γ : zG) {Q : Option Value → zM → Prop} (M : zM) (r0_2 : Nat → Int32) (r0_4_2 : Nat → Int32) (e_i5 : M.1 5 = r0_2) (e_i18 : M.1 18 = r0_4_2) (a1 : Int32) {res : Int32} (hy : (fX_ring r0_2 r0_4_2 a1) = some res) (hq : Q (some (.int res)) M) : zR Γ 4 YX11_ring 0 [(0, .ref (zad Γ 0)), (1, .int a1)] [] M Q := by
  unfold fX_ring at hy
  refine zj_aload_n (pc' := 1) 0 dX11_ring_0 rfl rfl rfl ?_
  refine zj_getR (pc' := 4) (j := 5) dX11_ring_1 rfl flX11_28 sh0 rfl ?_
  refine zj_iload_n (pc' := 5) 1 dX11_ring_4 rfl rfl rfl ?_
  refine zj_V1 (pc' := 8) (z := YX7_hasPerson) (As := [.int a1]) (N := M) dX11_ring_5 rfl mlX11_156 lkX7_hasPerson sh5 ⟨_, _, rfl⟩ rfl rfl (Nat.le_of_ble_eq_true rfl) (Nat.le_of_ble_eq_true rfl) (LX7_hasPerson_5 Γ _ r0_2 e_i5 a1 rfl) rfl ?_
  refine zj_bif_eq (tgt := 22) (pc' := 11) dX11_ring_8 rfl (by decide) (fun c1 => ?_) (fun c1 => ?_)
  · have hy := zt_f hy c1
    refine zj_iconst (pc' := 23) dX11_ring_22 rfl kiconst_m1 ?_
    have e9 := Option.some.inj hy
    subst e9
    exact zj_iret dX11_ring_23 rfl hq
  · have hy := zt_t hy c1
    refine zj_aload_n (pc' := 12) 0 dX11_ring_11 rfl rfl rfl ?_
    refine zj_getR (pc' := 15) (j := 15) dX11_ring_12 rfl flX11_38 sh0 rfl ?_
    refine zj_iload_n (pc' := 16) 1 dX11_ring_15 rfl rfl rfl ?_
    obtain ⟨y2, hy2, hy⟩ := zt_b hy
    refine zj_V1 (pc' := 19) (z := YX1_ringOf) (As := [.int a1]) (N := M) dX11_ring_16 rfl mlX11_269 lkX1_ringOf sh15 ⟨_, _, rfl⟩ rfl rfl (Nat.le_of_ble_eq_true rfl) (Nat.le_of_ble_eq_true rfl) (LX1_ringOf_15 Γ _ r0_4_2 e_i18 a1 hy2) rfl ?_
    refine zj_goto (tgt := 23) dX11_ring_19 (by decide) ?_
    have e9 := Option.some.inj hy
    subst e9
    exact zj_iret dX11_ring_23 rfl hq
set_option maxRecDepth 20000 in
theorem LX11_ring_0 (Γ : zG) (M : zM) (r0_2 : Nat → Int32) (r0_4_2 : Nat → Int32) (e_i5 : M.1 5 = r0_2) (e_i18 : M.1 18 = r0_4_2) (a1 : Int32) {res : Int32} (hy : (fX_ring r0_2 r0_4_2 a1) = some res) : zK Γ 4 YX11_ring [.ref (zad Γ 0), .int a1] M (fun v N => v = some (.int res) ∧ N = M) :=
  zK_of (by decide) (Nat.le_of_ble_eq_true rfl) (TX11_ring_0 Γ M r0_2 r0_4_2 e_i5 e_i18 a1 hy ⟨rfl, rfl⟩)

noncomputable def fM_ring (r0 : Nat → Int32) (r0_6 : Nat → Int32) (a1 : Int32) : Option (Int32 × (Nat → Int32)) :=
  zlet (zup r0 0 0) (fun (r0v1 : Nat → Int32) =>
  (fM_isPerson r0_6 a1).bind (fun (y2 : Bool) =>
  (if y2 = true then
  (fM_ringOf r0_6 a1).bind (fun (y4 : Int32) =>
  some (y4, r0v1))
  else
  some ((-1), r0v1))))

set_option maxRecDepth 20000 in
theorem TX12_ring_186 (Γ : zG) {Q : Option Value → zM → Prop} (M : zM) (r0 : Nat → Int32) (r0_6 : Nat → Int32) (e_i186 : M.1 186 = r0) (e_i188 : M.1 188 = r0_6) (a1 : Int32) {res : Int32 × (Nat → Int32)} (hy : (fM_ring r0 r0_6 a1) = some res) (hq : Q (some (.int res.1)) (zui M 186 res.2)) : zR Γ 3 YX12_ring 0 [(0, .ref (zad Γ 186)), (1, .int a1)] [] M Q := by
  unfold fM_ring at hy
  refine zj_aload_n (pc' := 1) 0 dX12_ring_0 rfl rfl rfl ?_
  refine zj_iconst (pc' := 2) dX12_ring_1 rfl kiconst_0 ?_
  obtain ⟨r0v1, er0v1⟩ : ∃ z, z = (zup r0 0 0) := ⟨_, rfl⟩
  have hy := zlet_at er0v1 hy
  refine zj_pI (pc' := 5) (N := (zui M 186 r0v1)) dX12_ring_2 rfl fpX12_1 sh186 rfl e_i186 er0v1 rfl ?_
  refine zj_aload_n (pc' := 6) 0 dX12_ring_5 rfl rfl rfl ?_
  refine zj_iload_n (pc' := 7) 1 dX12_ring_6 rfl rfl rfl ?_
  obtain ⟨y2, hy2, hy⟩ := zt_b hy
  refine zj_V1 (pc' := 10) (z := YX12_isPerson) (As := [.int a1]) (N := (zui M 186 r0v1)) dX12_ring_7 rfl mlX12_270 lkX12_isPerson sh186 ⟨_, _, rfl⟩ rfl rfl (Nat.le_of_ble_eq_true rfl) (Nat.le_of_ble_eq_true rfl) (LX12_isPerson_186 Γ _ r0_6 (zr_n rfl e_i188) a1 hy2) rfl ?_
  refine zj_bif_eq (tgt := 21) (pc' := 13) dX12_ring_10 rfl (by decide) (fun c3 => ?_) (fun c3 => ?_)
  · have hy := zt_f hy c3
    refine zj_iconst (pc' := 22) dX12_ring_21 rfl kiconst_m1 ?_
    have e9 := Option.some.inj hy
    subst e9
    exact zj_iret dX12_ring_22 rfl hq
  · have hy := zt_t hy c3
    refine zj_aload_n (pc' := 14) 0 dX12_ring_13 rfl rfl rfl ?_
    refine zj_iload_n (pc' := 15) 1 dX12_ring_14 rfl rfl rfl ?_
    obtain ⟨y4, hy4, hy⟩ := zt_b hy
    refine zj_V1 (pc' := 18) (z := YX12_ringOf) (As := [.int a1]) (N := (zui M 186 r0v1)) dX12_ring_15 rfl mlX12_286 lkX12_ringOf sh186 ⟨_, _, rfl⟩ rfl rfl (Nat.le_of_ble_eq_true rfl) (Nat.le_of_ble_eq_true rfl) (LX12_ringOf_186 Γ _ r0_6 (zr_n rfl e_i188) a1 hy4) rfl ?_
    refine zj_goto (tgt := 22) dX12_ring_18 (by decide) ?_
    have e9 := Option.some.inj hy
    subst e9
    exact zj_iret dX12_ring_22 rfl hq
set_option maxRecDepth 20000 in
theorem LX12_ring_186 (Γ : zG) (M : zM) (r0 : Nat → Int32) (r0_6 : Nat → Int32) (e_i186 : M.1 186 = r0) (e_i188 : M.1 188 = r0_6) (a1 : Int32) {res : Int32 × (Nat → Int32)} (hy : (fM_ring r0 r0_6 a1) = some res) : zK Γ 3 YX12_ring [.ref (zad Γ 186), .int a1] M (fun v N => v = some (.int res.1) ∧ N = (zui M 186 res.2)) :=
  zK_of (by decide) (Nat.le_of_ble_eq_true rfl) (TX12_ring_186 Γ M r0 r0_6 e_i186 e_i188 a1 hy ⟨rfl, rfl⟩)

noncomputable def fX_cut (r0 : Nat → Int32) (r0_4_2 : Nat → Int32) : Option (Int32 × (Nat → Int32)) :=
  (fDy_firstOfRings r0_4_2).bind (fun (y1 : Int32) =>
  zlet (zup r0 17 y1) (fun (r0v2 : Nat → Int32) =>
  some ((fJI_bitCount (r0v2 17)), r0v2)))

set_option maxRecDepth 20000 in
theorem TX11_cut_0 (Γ : zG) {Q : Option Value → zM → Prop} (M : zM) (r0 : Nat → Int32) (r0_4_2 : Nat → Int32) (e_i0 : M.1 0 = r0) (e_i18 : M.1 18 = r0_4_2)  {res : Int32 × (Nat → Int32)} (hy : (fX_cut r0 r0_4_2) = some res) (hq : Q (some (.int res.1)) (zui M 0 res.2)) : zR Γ 5 YX11_cut 0 [(0, .ref (zad Γ 0))] [] M Q := by
  unfold fX_cut at hy
  refine zj_aload_n (pc' := 1) 0 dX11_cut_0 rfl rfl rfl ?_
  refine zj_aload_n (pc' := 2) 0 dX11_cut_1 rfl rfl rfl ?_
  refine zj_getR (pc' := 5) (j := 15) dX11_cut_2 rfl flX11_38 sh0 rfl ?_
  obtain ⟨y1, hy1, hy⟩ := zt_b hy
  refine zj_V1 (pc' := 8) (z := YX1_firstOfRings) (As := []) (N := M) dX11_cut_5 rfl mlX11_219 lkX1_firstOfRings sh15 ⟨_, _, rfl⟩ rfl rfl (Nat.le_of_ble_eq_true rfl) (Nat.le_of_ble_eq_true rfl) (LX1_firstOfRings_15 Γ _ r0_4_2 e_i18 hy1) rfl ?_
  obtain ⟨r0v2, er0v2⟩ : ∃ z, z = (zup r0 17 y1) := ⟨_, rfl⟩
  have hy := zlet_at er0v2 hy
  refine zj_pI (pc' := 11) (N := (zui M 0 r0v2)) dX11_cut_8 rfl fpX11_104 sh0 rfl e_i0 er0v2 rfl ?_
  refine zj_aload_n (pc' := 12) 0 dX11_cut_11 rfl rfl rfl ?_
  refine zj_fI (pc' := 15) dX11_cut_12 rfl flX11_104 sh0 rfl zr_s rfl ?_
  refine zj_S1 (pc' := 18) (z := YJ6_bitCount_0f7a4) (As := [.int (r0v2 17)]) (N := (zui M 0 r0v2)) dX11_cut_15 rfl mlX11_222 lkJ6_bitCount_0f7a4 rfl rfl (Nat.le_of_ble_eq_true rfl) (Nat.le_of_ble_eq_true rfl) (LJ6_bitCount_0f7a4 Γ _ (r0v2 17) rfl) rfl ?_
  have e9 := Option.some.inj hy
  subst e9
  exact zj_iret dX11_cut_18 rfl hq
set_option maxRecDepth 20000 in
theorem LX11_cut_0 (Γ : zG) (M : zM) (r0 : Nat → Int32) (r0_4_2 : Nat → Int32) (e_i0 : M.1 0 = r0) (e_i18 : M.1 18 = r0_4_2)  {res : Int32 × (Nat → Int32)} (hy : (fX_cut r0 r0_4_2) = some res) : zK Γ 5 YX11_cut [.ref (zad Γ 0)] M (fun v N => v = some (.int res.1) ∧ N = (zui M 0 res.2)) :=
  zK_of (by decide) (Nat.le_of_ble_eq_true rfl) (TX11_cut_0 Γ M r0 r0_4_2 e_i0 e_i18 hy ⟨rfl, rfl⟩)

noncomputable def fM_bits_L4 (x1 : Int32) (x2 : Int32) : Option ((Int32 × Int32) ⊕ (Int32)) :=
  (if x2 = 0 then
  some (.inr x1)
  else
  zlet (x1 + 1) (fun (x11 : Int32) =>
  zlet (x2 &&& (x2 - 1)) (fun (x12 : Int32) =>
  some (.inl (x11, x12)))))
noncomputable def fM_bits (a1 : Int32) : Option (Int32) :=
  (zLP (fun s => fM_bits_L4 s.1 s.2) (0, a1)).bind (fun r5 =>
  some r5)

set_option maxRecDepth 20000 in
theorem TX12_bits (Γ : zG) {Q : Option Value → zM → Prop} (M : zM)   (a1 : Int32) {res : Int32} (hy : (fM_bits a1) = some res) (hq : Q (some (.int res)) M) : zR Γ 1 YX12_bits 0 [(0, .int a1)] [] M Q := by
  unfold fM_bits at hy
  refine zj_iconst (pc' := 1) dX12_bits_0 rfl kiconst_0 ?_
  refine zj_istore_n (pc' := 2) (L' := [(1, .int 0), (0, .int a1)]) dX12_bits_1 rfl rfl (by decide) rfl ?_
  refine zj_iload_n (pc' := 3) 1 dX12_bits_2 rfl rfl rfl ?_
  refine zj_istore_n (pc' := 4) (L' := [(2, .int a1), (1, .int 0), (0, .int a1)]) dX12_bits_3 rfl rfl (by decide) rfl ?_
  refine zj_loc [1, 0] rfl ?_
  obtain ⟨r5, hr9, hyo6⟩ := zt_b hy
  obtain ⟨n9, hn9⟩ := zLP_some hr9
  have HE3 : ∀ (x13 : Int32), r5 = x13 → zR Γ 1 YX12_bits 20 [(1, .int x13)] [] M Q := by
    intro x13 e9
    have hy := hyo6
    try rw [e9] at hy
    try dsimp only at hy
    refine zj_iload_n (pc' := 21) 0 dX12_bits_20 rfl rfl rfl ?_
    have e9 := Option.some.inj hy
    subst e9
    exact zj_iret dX12_bits_21 rfl hq
  have HL4 : ∀ (n : Nat) (x1 : Int32) (x2 : Int32), zlp (fun s => fM_bits_L4 s.1 s.2) n (x1, x2) = some r5 → zR Γ 1 YX12_bits 4 [(1, .int x1), (2, .int x2)] [] M Q := by
    intro n
    induction n with
    | zero => intro x1 x2 hn9; cases hn9
    | succ n ih7 =>
      intro x1 x2 hn9
      obtain ⟨o9, hb9, h8, h9⟩ := zlp_step hn9
      have hy : fM_bits_L4 x1 x2 = some o9 := hb9
      unfold fM_bits_L4 at hy
      refine zj_iload_n (pc' := 5) 1 dX12_bits_4 rfl rfl rfl ?_
      refine zj_if_eq (tgt := 20) (pc' := 8) dX12_bits_5 rfl (by decide) (fun c10 => ?_) (fun c10 => ?_)
      · have hy := zt_t hy c10
        have e9 := h9 _ (Option.some.inj hy).symm
        refine zj_loc [0] rfl ?_
        exact HE3 _ e9.symm
      · have hy := zt_f hy c10
        obtain ⟨x11, ex11⟩ : ∃ z : Int32, z = (x1 + 1) := ⟨_, rfl⟩
        have hy := zlet_at ex11 hy
        refine zj_iinc (pc' := 11) 0 (L' := [(1, .int x11), (2, .int x2)]) dX12_bits_8 rfl rfl (by decide) (by rw [ci1, ← ex11]; rfl) ?_
        refine zj_iload_n (pc' := 12) 1 dX12_bits_11 rfl rfl rfl ?_
        refine zj_iload_n (pc' := 13) 1 dX12_bits_12 rfl rfl rfl ?_
        refine zj_iconst (pc' := 14) dX12_bits_13 rfl kiconst_1 ?_
        refine zj_isub (pc' := 15) dX12_bits_14 rfl ?_
        refine zj_iand (pc' := 16) dX12_bits_15 rfl ?_
        refine zj_topi (fun x12 ex12 => ?_)
        have hy := zlet_at ex12 hy
        refine zj_istore_n (pc' := 17) (L' := [(2, .int x12), (1, .int x11)]) dX12_bits_16 rfl rfl (by decide) rfl ?_
        refine zj_goto (tgt := 4) dX12_bits_17 (by decide) ?_
        have hn9 := h8 _ (Option.some.inj hy).symm
        refine zj_loc [1, 0] rfl ?_
        exact ih7 _ _ hn9
  exact HL4 n9 _ _ hn9
set_option maxRecDepth 20000 in
theorem LX12_bits (Γ : zG) (M : zM)   (a1 : Int32) {res : Int32} (hy : (fM_bits a1) = some res) : zK Γ 1 YX12_bits [.int a1] M (fun v N => v = some (.int res) ∧ N = M) :=
  zK_of (by decide) (Nat.le_of_ble_eq_true rfl) (TX12_bits Γ M a1 hy ⟨rfl, rfl⟩)

noncomputable def fM_cut_L17 (r0_6 : Nat → Int32) (r0v4 : Nat → Int32) (x5 : Int32) : Option (((Nat → Int32) × Int32) ⊕ ((Nat → Int32))) :=
  (if (r0_6 2) ≤ x5 then
  some (.inr r0v4)
  else
  (fM_ringOf r0_6 x5).bind (fun (y14 : Int32) =>
  (if y14 ≤ 0 then
  zlet (zup r0v4 25 ((r0v4 25) ||| 0)) (fun (r0v16 : Nat → Int32) =>
  zlet (x5 + 1) (fun (x17 : Int32) =>
  some (.inl (r0v16, x17))))
  else
  (fM_ringOf r0_6 x5).bind (fun (y18 : Int32) =>
  (fM_ringOf r0_6 x5).bind (fun (y19 : Int32) =>
  zlet (zup r0v4 25 ((r0v4 25) ||| (if ((y18 >>> (x5 &&& 31)) <<< (x5 &&& 31)) = y19 then ((1 : Int32) <<< (x5 &&& 31)) else (0 : Int32)))) (fun (r0v22 : Nat → Int32) =>
  zlet (x5 + 1) (fun (x23 : Int32) =>
  some (.inl (r0v22, x23)))))))))
noncomputable def fM_cut (r0 : Nat → Int32) (r0_6 : Nat → Int32) : Option (Int32 × (Nat → Int32)) :=
  zlet (zup r0 0 0) (fun (r0v1 : Nat → Int32) =>
  zlet (zup r0v1 25 0) (fun (r0v2 : Nat → Int32) =>
  zlet (zup r0v2 26 1) (fun (r0v3 : Nat → Int32) =>
  (zLP (fun s => fM_cut_L17 r0_6 s.1 s.2) (r0v3, 0)).bind (fun r8 =>
  (fM_bits (r8 25)).bind (fun (y25 : Int32) =>
  some (y25, r8))))))

set_option maxRecDepth 20000 in
theorem TX12_cut_186 (Γ : zG) {Q : Option Value → zM → Prop} (M : zM) (r0 : Nat → Int32) (r0_6 : Nat → Int32) (e_i186 : M.1 186 = r0) (e_i188 : M.1 188 = r0_6)  {res : Int32 × (Nat → Int32)} (hy : (fM_cut r0 r0_6) = some res) (hq : Q (some (.int res.1)) (zui M 186 res.2)) : zR Γ 3 YX12_cut 0 [(0, .ref (zad Γ 186))] [] M Q := by
  unfold fM_cut at hy
  refine zj_aload_n (pc' := 1) 0 dX12_cut_0 rfl rfl rfl ?_
  refine zj_iconst (pc' := 2) dX12_cut_1 rfl kiconst_0 ?_
  obtain ⟨r0v1, er0v1⟩ : ∃ z, z = (zup r0 0 0) := ⟨_, rfl⟩
  have hy := zlet_at er0v1 hy
  refine zj_pI (pc' := 5) (N := (zui M 186 r0v1)) dX12_cut_2 rfl fpX12_1 sh186 rfl e_i186 er0v1 rfl ?_
  refine zj_aload_n (pc' := 6) 0 dX12_cut_5 rfl rfl rfl ?_
  refine zj_iconst (pc' := 7) dX12_cut_6 rfl kiconst_0 ?_
  obtain ⟨r0v2, er0v2⟩ : ∃ z, z = (zup r0v1 25 0) := ⟨_, rfl⟩
  have hy := zlet_at er0v2 hy
  refine zj_pI (pc' := 10) (N := (zui M 186 r0v2)) dX12_cut_7 rfl fpX12_327 sh186 rfl zr_s er0v2 zm_s ?_
  refine zj_aload_n (pc' := 11) 0 dX12_cut_10 rfl rfl rfl ?_
  refine zj_iconst (pc' := 12) dX12_cut_11 rfl kiconst_1 ?_
  obtain ⟨r0v3, er0v3⟩ : ∃ z, z = (zup r0v2 26 1) := ⟨_, rfl⟩
  have hy := zlet_at er0v3 hy
  refine zj_pZ (pc' := 15) (N := (zui M 186 r0v3)) dX12_cut_12 rfl fpX12_330 sh186 rfl (Or.inr rfl) zr_s er0v3 zm_s ?_
  refine zj_iconst (pc' := 16) dX12_cut_15 rfl kiconst_0 ?_
  refine zj_istore_n (pc' := 17) (L' := [(1, .int 0), (0, .ref (zad Γ 186))]) dX12_cut_16 rfl rfl (by decide) rfl ?_
  refine zj_loc [1, 0] rfl ?_
  obtain ⟨r8, hr9, hyo9⟩ := zt_b hy
  obtain ⟨n9, hn9⟩ := zLP_some hr9
  have HE6 : ∀ (r0v24 : Nat → Int32), r8 = r0v24 → zR Γ 3 YX12_cut 74 [(0, .ref (zad Γ 186))] [] (zui M 186 r0v24) Q := by
    intro r0v24 e9
    have hy := hyo9
    try rw [e9] at hy
    try dsimp only at hy
    refine zj_aload_n (pc' := 75) 0 dX12_cut_74 rfl rfl rfl ?_
    refine zj_fI (pc' := 78) dX12_cut_75 rfl flX12_327 sh186 rfl zr_s rfl ?_
    obtain ⟨y25, hy25, hy⟩ := zt_b hy
    refine zj_S1 (pc' := 81) (z := YX12_bits) (As := [.int (r0v24 25)]) (N := (zui M 186 r0v24)) dX12_cut_78 rfl mlX12_334 lkX12_bits rfl rfl (Nat.le_of_ble_eq_true rfl) (Nat.le_of_ble_eq_true rfl) (LX12_bits Γ _ (r0v24 25) hy25) rfl ?_
    have e9 := Option.some.inj hy
    subst e9
    exact zj_iret dX12_cut_81 rfl hq
  have HL7 : ∀ (n : Nat) (r0v4 : Nat → Int32) (x5 : Int32), zlp (fun s => fM_cut_L17 r0_6 s.1 s.2) n (r0v4, x5) = some r8 → zR Γ 3 YX12_cut 17 [(0, .ref (zad Γ 186)), (1, .int x5)] [] (zui M 186 r0v4) Q := by
    intro n
    induction n with
    | zero => intro r0v4 x5 hn9; cases hn9
    | succ n ih10 =>
      intro r0v4 x5 hn9
      obtain ⟨o9, hb9, h11, h12⟩ := zlp_step hn9
      have hy : fM_cut_L17 r0_6 r0v4 x5 = some o9 := hb9
      unfold fM_cut_L17 at hy
      refine zj_iload_n (pc' := 18) 1 dX12_cut_17 rfl rfl rfl ?_
      refine zj_aload_n (pc' := 19) 0 dX12_cut_18 rfl rfl rfl ?_
      refine zj_getR (pc' := 22) (j := 188) dX12_cut_19 rfl flX12_33 sh186 rfl ?_
      refine zj_iconst (pc' := 23) dX12_cut_22 rfl kiconst_2 ?_
      refine zj_rdi (pc' := 24) dX12_cut_23 rfl sh188 (zr_n rfl e_i188) (zrdK zi2_397 tn2) ?_
      refine zj_icmp_ge (tgt := 74) (pc' := 27) dX12_cut_24 rfl (by decide) (fun c13 => ?_) (fun c13 => ?_)
      · have hy := zt_t hy c13
        have e9 := h12 _ (Option.some.inj hy).symm
        refine zj_loc [0] rfl ?_
        exact HE6 _ e9.symm
      · have hy := zt_f hy c13
        refine zj_aload_n (pc' := 28) 0 dX12_cut_27 rfl rfl rfl ?_
        refine zj_dup (pc' := 29) dX12_cut_28 rfl rfl ?_
        refine zj_fI (pc' := 32) dX12_cut_29 rfl flX12_327 sh186 rfl zr_s rfl ?_
        refine zj_aload_n (pc' := 33) 0 dX12_cut_32 rfl rfl rfl ?_
        refine zj_iload_n (pc' := 34) 1 dX12_cut_33 rfl rfl rfl ?_
        obtain ⟨y14, hy14, hy⟩ := zt_b hy
        refine zj_V1 (pc' := 37) (z := YX12_ringOf) (As := [.int x5]) (N := (zui M 186 r0v4)) dX12_cut_34 rfl mlX12_286 lkX12_ringOf sh186 ⟨_, _, rfl⟩ rfl rfl (Nat.le_of_ble_eq_true rfl) (Nat.le_of_ble_eq_true rfl) (LX12_ringOf_186 Γ _ r0_6 (zr_n rfl e_i188) x5 hy14) rfl ?_
        refine zj_if_le (tgt := 63) (pc' := 40) dX12_cut_37 rfl (by decide) (fun c15 => ?_) (fun c15 => ?_)
        · have hy := zt_t hy c15
          refine zj_iconst (pc' := 64) dX12_cut_63 rfl kiconst_0 ?_
          refine zj_ior (pc' := 65) dX12_cut_64 rfl ?_
          obtain ⟨r0v16, er0v16⟩ : ∃ z, z = (zup r0v4 25 ((r0v4 25) ||| 0)) := ⟨_, rfl⟩
          have hy := zlet_at er0v16 hy
          refine zj_pI (pc' := 68) (N := (zui M 186 r0v16)) dX12_cut_65 rfl fpX12_327 sh186 rfl zr_s er0v16 zm_s ?_
          obtain ⟨x17, ex17⟩ : ∃ z : Int32, z = (x5 + 1) := ⟨_, rfl⟩
          have hy := zlet_at ex17 hy
          refine zj_iinc (pc' := 71) 1 (L' := [(1, .int x17), (0, .ref (zad Γ 186))]) dX12_cut_68 rfl rfl (by decide) (by rw [ci1, ← ex17]; rfl) ?_
          refine zj_goto (tgt := 17) dX12_cut_71 (by decide) ?_
          have hn9 := h11 _ (Option.some.inj hy).symm
          refine zj_loc [1, 0] rfl ?_
          exact ih10 _ _ hn9
        · have hy := zt_f hy c15
          refine zj_aload_n (pc' := 41) 0 dX12_cut_40 rfl rfl rfl ?_
          refine zj_iload_n (pc' := 42) 1 dX12_cut_41 rfl rfl rfl ?_
          obtain ⟨y18, hy18, hy⟩ := zt_b hy
          refine zj_V1 (pc' := 45) (z := YX12_ringOf) (As := [.int x5]) (N := (zui M 186 r0v4)) dX12_cut_42 rfl mlX12_286 lkX12_ringOf sh186 ⟨_, _, rfl⟩ rfl rfl (Nat.le_of_ble_eq_true rfl) (Nat.le_of_ble_eq_true rfl) (LX12_ringOf_186 Γ _ r0_6 (zr_n rfl e_i188) x5 hy18) rfl ?_
          refine zj_iload_n (pc' := 46) 1 dX12_cut_45 rfl rfl rfl ?_
          refine zj_ishr (pc' := 47) dX12_cut_46 rfl ?_
          refine zj_iload_n (pc' := 48) 1 dX12_cut_47 rfl rfl rfl ?_
          refine zj_ishl (pc' := 49) dX12_cut_48 rfl ?_
          refine zj_aload_n (pc' := 50) 0 dX12_cut_49 rfl rfl rfl ?_
          refine zj_iload_n (pc' := 51) 1 dX12_cut_50 rfl rfl rfl ?_
          obtain ⟨y19, hy19, hy⟩ := zt_b hy
          refine zj_V1 (pc' := 54) (z := YX12_ringOf) (As := [.int x5]) (N := (zui M 186 r0v4)) dX12_cut_51 rfl mlX12_286 lkX12_ringOf sh186 ⟨_, _, rfl⟩ rfl rfl (Nat.le_of_ble_eq_true rfl) (Nat.le_of_ble_eq_true rfl) (LX12_ringOf_186 Γ _ r0_6 (zr_n rfl e_i188) x5 hy19) rfl ?_
          have HJ20 : zR Γ 3 YX12_cut 64 [(0, .ref (zad Γ 186)), (1, .int x5)] [.int (if ((y18 >>> (x5 &&& 31)) <<< (x5 &&& 31)) = y19 then ((1 : Int32) <<< (x5 &&& 31)) else (0 : Int32)), .int (r0v4 25), .ref (zad Γ 186)] (zui M 186 r0v4) Q := by
            refine zj_ior (pc' := 65) dX12_cut_64 rfl ?_
            obtain ⟨r0v22, er0v22⟩ : ∃ z, z = (zup r0v4 25 ((r0v4 25) ||| (if ((y18 >>> (x5 &&& 31)) <<< (x5 &&& 31)) = y19 then ((1 : Int32) <<< (x5 &&& 31)) else (0 : Int32)))) := ⟨_, rfl⟩
            have hy := zlet_at er0v22 hy
            refine zj_pI (pc' := 68) (N := (zui M 186 r0v22)) dX12_cut_65 rfl fpX12_327 sh186 rfl zr_s er0v22 zm_s ?_
            obtain ⟨x23, ex23⟩ : ∃ z : Int32, z = (x5 + 1) := ⟨_, rfl⟩
            have hy := zlet_at ex23 hy
            refine zj_iinc (pc' := 71) 1 (L' := [(1, .int x23), (0, .ref (zad Γ 186))]) dX12_cut_68 rfl rfl (by decide) (by rw [ci1, ← ex23]; rfl) ?_
            refine zj_goto (tgt := 17) dX12_cut_71 (by decide) ?_
            have hn9 := h11 _ (Option.some.inj hy).symm
            refine zj_loc [1, 0] rfl ?_
            exact ih10 _ _ hn9
          refine zj_icmp_ne (tgt := 63) (pc' := 57) dX12_cut_54 rfl (by decide) (fun c21 => ?_) (fun c21 => ?_)
          · refine zj_iconst (pc' := 64) dX12_cut_63 rfl kiconst_0 ?_
            exact zj_eqi (if_neg c21) HJ20
          · refine zj_iconst (pc' := 58) dX12_cut_57 rfl kiconst_1 ?_
            refine zj_iload_n (pc' := 59) 1 dX12_cut_58 rfl rfl rfl ?_
            refine zj_ishl (pc' := 60) dX12_cut_59 rfl ?_
            refine zj_goto (tgt := 64) dX12_cut_60 (by decide) ?_
            exact zj_eqi (if_pos c21) HJ20
  exact HL7 n9 _ _ hn9
set_option maxRecDepth 20000 in
theorem LX12_cut_186 (Γ : zG) (M : zM) (r0 : Nat → Int32) (r0_6 : Nat → Int32) (e_i186 : M.1 186 = r0) (e_i188 : M.1 188 = r0_6)  {res : Int32 × (Nat → Int32)} (hy : (fM_cut r0 r0_6) = some res) : zK Γ 3 YX12_cut [.ref (zad Γ 186)] M (fun v N => v = some (.int res.1) ∧ N = (zui M 186 res.2)) :=
  zK_of (by decide) (Nat.le_of_ble_eq_true rfl) (TX12_cut_186 Γ M r0 r0_6 e_i186 e_i188 hy ⟨rfl, rfl⟩)

noncomputable def fX_cutting (r0 : Nat → Int32) : Int32 :=
  (r0 17)

set_option maxRecDepth 20000 in
theorem TX11_cutting_0 (Γ : zG) {Q : Option Value → zM → Prop} (M : zM) (r0 : Nat → Int32) (e_i0 : M.1 0 = r0)  {res : Int32} (hy : (fX_cutting r0) = res) (hq : Q (some (.int res)) M) : zR Γ 1 YX11_cutting 0 [(0, .ref (zad Γ 0))] [] M Q := by
  unfold fX_cutting at hy
  refine zj_aload_n (pc' := 1) 0 dX11_cutting_0 rfl rfl rfl ?_
  refine zj_fI (pc' := 4) dX11_cutting_1 rfl flX11_104 sh0 rfl e_i0 rfl ?_
  subst hy
  exact zj_iret dX11_cutting_4 rfl hq
set_option maxRecDepth 20000 in
theorem LX11_cutting_0 (Γ : zG) (M : zM) (r0 : Nat → Int32) (e_i0 : M.1 0 = r0)  {res : Int32} (hy : (fX_cutting r0) = res) : zK Γ 1 YX11_cutting [.ref (zad Γ 0)] M (fun v N => v = some (.int res) ∧ N = M) :=
  zK_of (by decide) (Nat.le_of_ble_eq_true rfl) (TX11_cutting_0 Γ M r0 e_i0 hy ⟨rfl, rfl⟩)

noncomputable def fM_cutting (r0 : Nat → Int32) : Option (Int32 × (Nat → Int32)) :=
  zlet (zup r0 0 0) (fun (r0v1 : Nat → Int32) =>
  some ((if (r0v1 26) = 0 then ((-1) : Int32) else (r0v1 25)), r0v1))

set_option maxRecDepth 20000 in
theorem TX12_cutting_186 (Γ : zG) {Q : Option Value → zM → Prop} (M : zM) (r0 : Nat → Int32) (e_i186 : M.1 186 = r0)  {res : Int32 × (Nat → Int32)} (hy : (fM_cutting r0) = some res) (hq : Q (some (.int res.1)) (zui M 186 res.2)) : zR Γ 1 YX12_cutting 0 [(0, .ref (zad Γ 186))] [] M Q := by
  unfold fM_cutting at hy
  refine zj_aload_n (pc' := 1) 0 dX12_cutting_0 rfl rfl rfl ?_
  refine zj_iconst (pc' := 2) dX12_cutting_1 rfl kiconst_0 ?_
  obtain ⟨r0v1, er0v1⟩ : ∃ z, z = (zup r0 0 0) := ⟨_, rfl⟩
  have hy := zlet_at er0v1 hy
  refine zj_pI (pc' := 5) (N := (zui M 186 r0v1)) dX12_cutting_2 rfl fpX12_1 sh186 rfl e_i186 er0v1 rfl ?_
  refine zj_aload_n (pc' := 6) 0 dX12_cutting_5 rfl rfl rfl ?_
  refine zj_fI (pc' := 9) dX12_cutting_6 rfl flX12_330 sh186 rfl zr_s rfl ?_
  have HJ2 : zR Γ 1 YX12_cutting 20 [(0, .ref (zad Γ 186))] [.int (if (r0v1 26) = 0 then ((-1) : Int32) else (r0v1 25))] (zui M 186 r0v1) Q := by
    have e9 := Option.some.inj hy
    subst e9
    exact zj_iret dX12_cutting_20 rfl hq
  refine zj_if_eq (tgt := 19) (pc' := 12) dX12_cutting_9 rfl (by decide) (fun c3 => ?_) (fun c3 => ?_)
  · refine zj_iconst (pc' := 20) dX12_cutting_19 rfl kiconst_m1 ?_
    exact zj_eqi (if_pos c3) HJ2
  · refine zj_aload_n (pc' := 13) 0 dX12_cutting_12 rfl rfl rfl ?_
    refine zj_fI (pc' := 16) dX12_cutting_13 rfl flX12_327 sh186 rfl zr_s rfl ?_
    refine zj_goto (tgt := 20) dX12_cutting_16 (by decide) ?_
    exact zj_eqi (if_neg c3) HJ2
set_option maxRecDepth 20000 in
theorem LX12_cutting_186 (Γ : zG) (M : zM) (r0 : Nat → Int32) (e_i186 : M.1 186 = r0)  {res : Int32 × (Nat → Int32)} (hy : (fM_cutting r0) = some res) : zK Γ 1 YX12_cutting [.ref (zad Γ 186)] M (fun v N => v = some (.int res.1) ∧ N = (zui M 186 res.2)) :=
  zK_of (by decide) (Nat.le_of_ble_eq_true rfl) (TX12_cutting_186 Γ M r0 e_i186 hy ⟨rfl, rfl⟩)

noncomputable def fX_meet_L42 (r0_2 : Nat → Int32) (r0_2_2 : Nat → Int32) (r0_2_3 : Nat → Int32) (a1 : Int32) (a2 : Int32) (y4 : (Nat → Int32) × (Nat → Int32) × (Nat → Int32) × (Nat → Int32) × (Nat → Int32) × (Nat → Int32) × (Nat → Int32) × (Nat → Int32) × (Nat → Int32)) (r0_5v5 : Nat → Int32) (r0_5_0v6 : Nat → Int32) (r0_5_1v7 : Nat → Int32) (r0_5_4v8 : Nat → Int32) (r0_5_5v9 : Nat → Int32) (r0_5_6v10 : Nat → Int32) (r0_5_7v11 : Nat → Int32) (r0_5_8v12 : Nat → Int32) (x13 : Int32) : Option (((Nat → Int32) × (Nat → Int32) × (Nat → Int32) × (Nat → Int32) × (Nat → Int32) × (Nat → Int32) × (Nat → Int32) × (Nat → Int32) × Int32) ⊕ (Int32 × (Nat → Int32) × (Nat → Int32) × (Nat → Int32) × (Nat → Int32) × (Nat → Int32) × (Nat → Int32) × (Nat → Int32) × (Nat → Int32) × (Nat → Int32) × (Nat → Int32))) :=
  (if 99 < x13 then
  some (.inr ((-1), r0_5v5, r0_5_0v6, r0_5_1v7, y4.2.2.2.1, y4.2.2.2.2.1, r0_5_4v8, r0_5_5v9, r0_5_6v10, r0_5_7v11, r0_5_8v12))
  else
  (fDy_whereIs r0_5_0v6 a1).bind (fun (y22 : Int32) =>
  (fDy_whereIs r0_5_0v6 a2).bind (fun (y23 : Int32) =>
  (if y22 = y23 then
  some (.inr (x13, r0_5v5, r0_5_0v6, r0_5_1v7, y4.2.2.2.1, y4.2.2.2.2.1, r0_5_4v8, r0_5_5v9, r0_5_6v10, r0_5_7v11, r0_5_8v12))
  else
  (fDy_passMinutes r0_5v5 r0_5_0v6 r0_5_1v7 y4.2.2.2.1 y4.2.2.2.2.1 r0_5_4v8 r0_5_5v9 r0_5_6v10 r0_5_7v11 r0_5_8v12 r0_2 r0_2_2 r0_2_3 1).bind (fun (y25 : (Nat → Int32) × (Nat → Int32) × (Nat → Int32) × (Nat → Int32) × (Nat → Int32) × (Nat → Int32) × (Nat → Int32) × (Nat → Int32)) =>
  zlet (x13 + 1) (fun (x26 : Int32) =>
  some (.inl (y25.1, y25.2.1, y25.2.2.1, y25.2.2.2.1, y25.2.2.2.2.1, y25.2.2.2.2.2.1, y25.2.2.2.2.2.2.1, y25.2.2.2.2.2.2.2, x26))))))))
noncomputable def fX_meet (r0_2 : Nat → Int32) (r0_2_2 : Nat → Int32) (r0_2_3 : Nat → Int32) (r0_4 : Nat → Int32) (r0_4_0 : Nat → Int32) (r0_4_1 : Nat → Int32) (r0_4_2 : Nat → Int32) (r0_4_3 : Nat → Int32) (r0_4_4 : Nat → Int32) (r0_4_5 : Nat → Int32) (r0_4_6 : Nat → Int32) (r0_4_7 : Nat → Int32) (r0_5 : Nat → Int32) (r0_5_0 : Nat → Int32) (r0_5_1 : Nat → Int32) (r0_5_2 : Nat → Int32) (r0_5_3 : Nat → Int32) (r0_5_4 : Nat → Int32) (r0_5_5 : Nat → Int32) (r0_5_6 : Nat → Int32) (r0_5_7 : Nat → Int32) (r0_5_8 : Nat → Int32) (a1 : Int32) (a2 : Int32) : Option (Int32 × (Nat → Int32) × (Nat → Int32) × (Nat → Int32) × (Nat → Int32) × (Nat → Int32) × (Nat → Int32) × (Nat → Int32) × (Nat → Int32) × (Nat → Int32) × (Nat → Int32)) :=
  (if (fPl_hasPerson r0_2 a1) = true then
  (if (fPl_hasPerson r0_2 a2) = true then
  (if a1 = a2 then
  some ((-1), r0_5, r0_5_0, r0_5_1, r0_5_2, r0_5_3, r0_5_4, r0_5_5, r0_5_6, r0_5_7, r0_5_8)
  else
  (fDy_copyFrom r0_5 r0_5_0 r0_5_1 r0_5_2 r0_5_3 r0_5_4 r0_5_5 r0_5_6 r0_5_7 r0_4 r0_4_0 r0_4_1 r0_4_2 r0_4_3 r0_4_4 r0_4_5 r0_4_6 r0_4_7).bind (fun (y4 : (Nat → Int32) × (Nat → Int32) × (Nat → Int32) × (Nat → Int32) × (Nat → Int32) × (Nat → Int32) × (Nat → Int32) × (Nat → Int32) × (Nat → Int32)) =>
  zLP (fun s => fX_meet_L42 r0_2 r0_2_2 r0_2_3 a1 a2 y4 s.1 s.2.1 s.2.2.1 s.2.2.2.1 s.2.2.2.2.1 s.2.2.2.2.2.1 s.2.2.2.2.2.2.1 s.2.2.2.2.2.2.2.1 s.2.2.2.2.2.2.2.2) (y4.1, y4.2.1, y4.2.2.1, y4.2.2.2.2.2.1, y4.2.2.2.2.2.2.1, y4.2.2.2.2.2.2.2.1, y4.2.2.2.2.2.2.2.2, r0_5_8, 0)))
  else
  some ((-1), r0_5, r0_5_0, r0_5_1, r0_5_2, r0_5_3, r0_5_4, r0_5_5, r0_5_6, r0_5_7, r0_5_8))
  else
  some ((-1), r0_5, r0_5_0, r0_5_1, r0_5_2, r0_5_3, r0_5_4, r0_5_5, r0_5_6, r0_5_7, r0_5_8))

set_option maxRecDepth 20000 in
theorem TX11_meet_0 (Γ : zG) {Q : Option Value → zM → Prop} (M : zM) (r0_2 : Nat → Int32) (r0_2_2 : Nat → Int32) (r0_2_3 : Nat → Int32) (r0_4 : Nat → Int32) (r0_4_0 : Nat → Int32) (r0_4_1 : Nat → Int32) (r0_4_2 : Nat → Int32) (r0_4_3 : Nat → Int32) (r0_4_4 : Nat → Int32) (r0_4_5 : Nat → Int32) (r0_4_6 : Nat → Int32) (r0_4_7 : Nat → Int32) (r0_5 : Nat → Int32) (r0_5_0 : Nat → Int32) (r0_5_1 : Nat → Int32) (r0_5_2 : Nat → Int32) (r0_5_3 : Nat → Int32) (r0_5_4 : Nat → Int32) (r0_5_5 : Nat → Int32) (r0_5_6 : Nat → Int32) (r0_5_7 : Nat → Int32) (r0_5_8 : Nat → Int32) (e_i5 : M.1 5 = r0_2) (e_i8 : M.1 8 = r0_2_2) (e_i9 : M.1 9 = r0_2_3) (e_i15 : M.1 15 = r0_4) (e_i16 : M.1 16 = r0_4_0) (e_i17 : M.1 17 = r0_4_1) (e_i18 : M.1 18 = r0_4_2) (e_i19 : M.1 19 = r0_4_3) (e_i20 : M.1 20 = r0_4_4) (e_i21 : M.1 21 = r0_4_5) (e_i22 : M.1 22 = r0_4_6) (e_i23 : M.1 23 = r0_4_7) (e_i25 : M.1 25 = r0_5) (e_i26 : M.1 26 = r0_5_0) (e_i27 : M.1 27 = r0_5_1) (e_i28 : M.1 28 = r0_5_2) (e_i29 : M.1 29 = r0_5_3) (e_i30 : M.1 30 = r0_5_4) (e_i31 : M.1 31 = r0_5_5) (e_i32 : M.1 32 = r0_5_6) (e_i33 : M.1 33 = r0_5_7) (e_i34 : M.1 34 = r0_5_8) (a1 : Int32) (a2 : Int32) {res : Int32 × (Nat → Int32) × (Nat → Int32) × (Nat → Int32) × (Nat → Int32) × (Nat → Int32) × (Nat → Int32) × (Nat → Int32) × (Nat → Int32) × (Nat → Int32) × (Nat → Int32)} (hy : (fX_meet r0_2 r0_2_2 r0_2_3 r0_4 r0_4_0 r0_4_1 r0_4_2 r0_4_3 r0_4_4 r0_4_5 r0_4_6 r0_4_7 r0_5 r0_5_0 r0_5_1 r0_5_2 r0_5_3 r0_5_4 r0_5_5 r0_5_6 r0_5_7 r0_5_8 a1 a2) = some res) (hq : Q (some (.int res.1)) (zui (zui (zui (zui (zui (zui (zui (zui (zui (zui M 25 res.2.1) 26 res.2.2.1) 27 res.2.2.2.1) 28 res.2.2.2.2.1) 29 res.2.2.2.2.2.1) 30 res.2.2.2.2.2.2.1) 31 res.2.2.2.2.2.2.2.1) 32 res.2.2.2.2.2.2.2.2.1) 33 res.2.2.2.2.2.2.2.2.2.1) 34 res.2.2.2.2.2.2.2.2.2.2)) : zR Γ 6 YX11_meet 0 [(0, .ref (zad Γ 0)), (1, .int a1), (2, .int a2)] [] M Q := by
  unfold fX_meet at hy
  refine zj_aload_n (pc' := 1) 0 dX11_meet_0 rfl rfl rfl ?_
  refine zj_getR (pc' := 4) (j := 5) dX11_meet_1 rfl flX11_28 sh0 rfl ?_
  refine zj_iload_n (pc' := 5) 1 dX11_meet_4 rfl rfl rfl ?_
  refine zj_V1 (pc' := 8) (z := YX7_hasPerson) (As := [.int a1]) (N := M) dX11_meet_5 rfl mlX11_156 lkX7_hasPerson sh5 ⟨_, _, rfl⟩ rfl rfl (Nat.le_of_ble_eq_true rfl) (Nat.le_of_ble_eq_true rfl) (LX7_hasPerson_5 Γ _ r0_2 e_i5 a1 rfl) rfl ?_
  refine zj_bif_eq (tgt := 27) (pc' := 11) dX11_meet_8 rfl (by decide) (fun c1 => ?_) (fun c1 => ?_)
  · have hy := zt_f hy c1
    refine zj_iconst (pc' := 28) dX11_meet_27 rfl kiconst_m1 ?_
    have e9 := Option.some.inj hy
    subst e9
    refine zj_mem (N := (zui M 25 r0_5)) (zself_i e_i25 rfl) ?_
    refine zj_mem (N := (zui (zui M 25 r0_5) 26 r0_5_0)) (zself_i (zr_n rfl e_i26) rfl) ?_
    refine zj_mem (N := (zui (zui (zui M 25 r0_5) 26 r0_5_0) 27 r0_5_1)) (zself_i (zr_n rfl (zr_n rfl e_i27)) rfl) ?_
    refine zj_mem (N := (zui (zui (zui (zui M 25 r0_5) 26 r0_5_0) 27 r0_5_1) 28 r0_5_2)) (zself_i (zr_n rfl (zr_n rfl (zr_n rfl e_i28))) rfl) ?_
    refine zj_mem (N := (zui (zui (zui (zui (zui M 25 r0_5) 26 r0_5_0) 27 r0_5_1) 28 r0_5_2) 29 r0_5_3)) (zself_i (zr_n rfl (zr_n rfl (zr_n rfl (zr_n rfl e_i29)))) rfl) ?_
    refine zj_mem (N := (zui (zui (zui (zui (zui (zui M 25 r0_5) 26 r0_5_0) 27 r0_5_1) 28 r0_5_2) 29 r0_5_3) 30 r0_5_4)) (zself_i (zr_n rfl (zr_n rfl (zr_n rfl (zr_n rfl (zr_n rfl e_i30))))) rfl) ?_
    refine zj_mem (N := (zui (zui (zui (zui (zui (zui (zui M 25 r0_5) 26 r0_5_0) 27 r0_5_1) 28 r0_5_2) 29 r0_5_3) 30 r0_5_4) 31 r0_5_5)) (zself_i (zr_n rfl (zr_n rfl (zr_n rfl (zr_n rfl (zr_n rfl (zr_n rfl e_i31)))))) rfl) ?_
    refine zj_mem (N := (zui (zui (zui (zui (zui (zui (zui (zui M 25 r0_5) 26 r0_5_0) 27 r0_5_1) 28 r0_5_2) 29 r0_5_3) 30 r0_5_4) 31 r0_5_5) 32 r0_5_6)) (zself_i (zr_n rfl (zr_n rfl (zr_n rfl (zr_n rfl (zr_n rfl (zr_n rfl (zr_n rfl e_i32))))))) rfl) ?_
    refine zj_mem (N := (zui (zui (zui (zui (zui (zui (zui (zui (zui M 25 r0_5) 26 r0_5_0) 27 r0_5_1) 28 r0_5_2) 29 r0_5_3) 30 r0_5_4) 31 r0_5_5) 32 r0_5_6) 33 r0_5_7)) (zself_i (zr_n rfl (zr_n rfl (zr_n rfl (zr_n rfl (zr_n rfl (zr_n rfl (zr_n rfl (zr_n rfl e_i33)))))))) rfl) ?_
    refine zj_mem (N := (zui (zui (zui (zui (zui (zui (zui (zui (zui (zui M 25 r0_5) 26 r0_5_0) 27 r0_5_1) 28 r0_5_2) 29 r0_5_3) 30 r0_5_4) 31 r0_5_5) 32 r0_5_6) 33 r0_5_7) 34 r0_5_8)) (zself_i (zr_n rfl (zr_n rfl (zr_n rfl (zr_n rfl (zr_n rfl (zr_n rfl (zr_n rfl (zr_n rfl (zr_n rfl e_i34))))))))) rfl) ?_
    exact zj_iret dX11_meet_28 rfl hq
  · have hy := zt_t hy c1
    refine zj_aload_n (pc' := 12) 0 dX11_meet_11 rfl rfl rfl ?_
    refine zj_getR (pc' := 15) (j := 5) dX11_meet_12 rfl flX11_28 sh0 rfl ?_
    refine zj_iload_n (pc' := 16) 2 dX11_meet_15 rfl rfl rfl ?_
    refine zj_V1 (pc' := 19) (z := YX7_hasPerson) (As := [.int a2]) (N := M) dX11_meet_16 rfl mlX11_156 lkX7_hasPerson sh5 ⟨_, _, rfl⟩ rfl rfl (Nat.le_of_ble_eq_true rfl) (Nat.le_of_ble_eq_true rfl) (LX7_hasPerson_5 Γ _ r0_2 e_i5 a2 rfl) rfl ?_
    refine zj_bif_eq (tgt := 27) (pc' := 22) dX11_meet_19 rfl (by decide) (fun c2 => ?_) (fun c2 => ?_)
    · have hy := zt_f hy c2
      refine zj_iconst (pc' := 28) dX11_meet_27 rfl kiconst_m1 ?_
      have e9 := Option.some.inj hy
      subst e9
      refine zj_mem (N := (zui M 25 r0_5)) (zself_i e_i25 rfl) ?_
      refine zj_mem (N := (zui (zui M 25 r0_5) 26 r0_5_0)) (zself_i (zr_n rfl e_i26) rfl) ?_
      refine zj_mem (N := (zui (zui (zui M 25 r0_5) 26 r0_5_0) 27 r0_5_1)) (zself_i (zr_n rfl (zr_n rfl e_i27)) rfl) ?_
      refine zj_mem (N := (zui (zui (zui (zui M 25 r0_5) 26 r0_5_0) 27 r0_5_1) 28 r0_5_2)) (zself_i (zr_n rfl (zr_n rfl (zr_n rfl e_i28))) rfl) ?_
      refine zj_mem (N := (zui (zui (zui (zui (zui M 25 r0_5) 26 r0_5_0) 27 r0_5_1) 28 r0_5_2) 29 r0_5_3)) (zself_i (zr_n rfl (zr_n rfl (zr_n rfl (zr_n rfl e_i29)))) rfl) ?_
      refine zj_mem (N := (zui (zui (zui (zui (zui (zui M 25 r0_5) 26 r0_5_0) 27 r0_5_1) 28 r0_5_2) 29 r0_5_3) 30 r0_5_4)) (zself_i (zr_n rfl (zr_n rfl (zr_n rfl (zr_n rfl (zr_n rfl e_i30))))) rfl) ?_
      refine zj_mem (N := (zui (zui (zui (zui (zui (zui (zui M 25 r0_5) 26 r0_5_0) 27 r0_5_1) 28 r0_5_2) 29 r0_5_3) 30 r0_5_4) 31 r0_5_5)) (zself_i (zr_n rfl (zr_n rfl (zr_n rfl (zr_n rfl (zr_n rfl (zr_n rfl e_i31)))))) rfl) ?_
      refine zj_mem (N := (zui (zui (zui (zui (zui (zui (zui (zui M 25 r0_5) 26 r0_5_0) 27 r0_5_1) 28 r0_5_2) 29 r0_5_3) 30 r0_5_4) 31 r0_5_5) 32 r0_5_6)) (zself_i (zr_n rfl (zr_n rfl (zr_n rfl (zr_n rfl (zr_n rfl (zr_n rfl (zr_n rfl e_i32))))))) rfl) ?_
      refine zj_mem (N := (zui (zui (zui (zui (zui (zui (zui (zui (zui M 25 r0_5) 26 r0_5_0) 27 r0_5_1) 28 r0_5_2) 29 r0_5_3) 30 r0_5_4) 31 r0_5_5) 32 r0_5_6) 33 r0_5_7)) (zself_i (zr_n rfl (zr_n rfl (zr_n rfl (zr_n rfl (zr_n rfl (zr_n rfl (zr_n rfl (zr_n rfl e_i33)))))))) rfl) ?_
      refine zj_mem (N := (zui (zui (zui (zui (zui (zui (zui (zui (zui (zui M 25 r0_5) 26 r0_5_0) 27 r0_5_1) 28 r0_5_2) 29 r0_5_3) 30 r0_5_4) 31 r0_5_5) 32 r0_5_6) 33 r0_5_7) 34 r0_5_8)) (zself_i (zr_n rfl (zr_n rfl (zr_n rfl (zr_n rfl (zr_n rfl (zr_n rfl (zr_n rfl (zr_n rfl (zr_n rfl e_i34))))))))) rfl) ?_
      exact zj_iret dX11_meet_28 rfl hq
    · have hy := zt_t hy c2
      refine zj_iload_n (pc' := 23) 1 dX11_meet_22 rfl rfl rfl ?_
      refine zj_iload_n (pc' := 24) 2 dX11_meet_23 rfl rfl rfl ?_
      refine zj_icmp_ne (tgt := 29) (pc' := 27) dX11_meet_24 rfl (by decide) (fun c3 => ?_) (fun c3 => ?_)
      · have hy := zt_f hy c3
        refine zj_aload_n (pc' := 30) 0 dX11_meet_29 rfl rfl rfl ?_
        refine zj_getR (pc' := 33) (j := 25) dX11_meet_30 rfl flX11_42 sh0 rfl ?_
        refine zj_aload_n (pc' := 34) 0 dX11_meet_33 rfl rfl rfl ?_
        refine zj_getR (pc' := 37) (j := 15) dX11_meet_34 rfl flX11_38 sh0 rfl ?_
        obtain ⟨y4, hy4, hy⟩ := zt_b hy
        refine zj_V0 (pc' := 40) (z := YX1_copyFrom) (As := [.ref (zad Γ 15)]) (N := (zui (zui (zui (zui (zui (zui (zui (zui (zui M 25 y4.1) 26 y4.2.1) 27 y4.2.2.1) 28 y4.2.2.2.1) 29 y4.2.2.2.2.1) 30 y4.2.2.2.2.2.1) 31 y4.2.2.2.2.2.2.1) 32 y4.2.2.2.2.2.2.2.1) 33 y4.2.2.2.2.2.2.2.2)) dX11_meet_37 rfl mlX11_151 lkX1_copyFrom sh25 ⟨_, _, rfl⟩ rfl rfl (Nat.le_of_ble_eq_true rfl) (Nat.le_of_ble_eq_true rfl) (LX1_copyFrom_25_15 Γ _ r0_5 r0_5_0 r0_5_1 r0_5_2 r0_5_3 r0_5_4 r0_5_5 r0_5_6 r0_5_7 r0_4 r0_4_0 r0_4_1 r0_4_2 r0_4_3 r0_4_4 r0_4_5 r0_4_6 r0_4_7 e_i25 e_i26 e_i27 e_i28 e_i29 e_i30 e_i31 e_i32 e_i33 e_i15 e_i16 e_i17 e_i18 e_i19 e_i20 e_i21 e_i22 e_i23 hy4) ((zch_i (zch_i (zch_i (zch_i (zch_i (zch_i (zch_i (zch_i rfl rfl) rfl) rfl) rfl) rfl) rfl) rfl) rfl)).symm ?_
        refine zj_iconst (pc' := 41) dX11_meet_40 rfl kiconst_0 ?_
        refine zj_istore_n (pc' := 42) (L' := [(3, .int 0), (0, .ref (zad Γ 0)), (1, .int a1), (2, .int a2)]) dX11_meet_41 rfl rfl (by decide) rfl ?_
        refine zj_loc [1, 2, 3, 0] rfl ?_
        refine zj_mem (N := (zui (zui (zui (zui (zui (zui (zui (zui (zui (zui M 25 y4.1) 26 y4.2.1) 27 y4.2.2.1) 28 y4.2.2.2.1) 29 y4.2.2.2.2.1) 30 y4.2.2.2.2.2.1) 31 y4.2.2.2.2.2.2.1) 32 y4.2.2.2.2.2.2.2.1) 33 y4.2.2.2.2.2.2.2.2) 34 r0_5_8)) (zself_i (zr_n rfl (zr_n rfl (zr_n rfl (zr_n rfl (zr_n rfl (zr_n rfl (zr_n rfl (zr_n rfl (zr_n rfl e_i34))))))))) rfl) ?_
        obtain ⟨n9, hn9⟩ := zLP_some hy
        have HL15 : ∀ (n : Nat) (r0_5v5 : Nat → Int32) (r0_5_0v6 : Nat → Int32) (r0_5_1v7 : Nat → Int32) (r0_5_4v8 : Nat → Int32) (r0_5_5v9 : Nat → Int32) (r0_5_6v10 : Nat → Int32) (r0_5_7v11 : Nat → Int32) (r0_5_8v12 : Nat → Int32) (x13 : Int32), zlp (fun s => fX_meet_L42 r0_2 r0_2_2 r0_2_3 a1 a2 y4 s.1 s.2.1 s.2.2.1 s.2.2.2.1 s.2.2.2.2.1 s.2.2.2.2.2.1 s.2.2.2.2.2.2.1 s.2.2.2.2.2.2.2.1 s.2.2.2.2.2.2.2.2) n (r0_5v5, r0_5_0v6, r0_5_1v7, r0_5_4v8, r0_5_5v9, r0_5_6v10, r0_5_7v11, r0_5_8v12, x13) = some res → zR Γ 6 YX11_meet 42 [(0, .ref (zad Γ 0)), (1, .int a1), (2, .int a2), (3, .int x13)] [] (zui (zui (zui (zui (zui (zui (zui (zui (zui (zui M 25 r0_5v5) 26 r0_5_0v6) 27 r0_5_1v7) 28 y4.2.2.2.1) 29 y4.2.2.2.2.1) 30 r0_5_4v8) 31 r0_5_5v9) 32 r0_5_6v10) 33 r0_5_7v11) 34 r0_5_8v12) Q := by
          intro n
          induction n with
          | zero => intro r0_5v5 r0_5_0v6 r0_5_1v7 r0_5_4v8 r0_5_5v9 r0_5_6v10 r0_5_7v11 r0_5_8v12 x13 hn9; cases hn9
          | succ n ih18 =>
            intro r0_5v5 r0_5_0v6 r0_5_1v7 r0_5_4v8 r0_5_5v9 r0_5_6v10 r0_5_7v11 r0_5_8v12 x13 hn9
            obtain ⟨o9, hb9, h19, h20⟩ := zlp_step hn9
            have hy : fX_meet_L42 r0_2 r0_2_2 r0_2_3 a1 a2 y4 r0_5v5 r0_5_0v6 r0_5_1v7 r0_5_4v8 r0_5_5v9 r0_5_6v10 r0_5_7v11 r0_5_8v12 x13 = some o9 := hb9
            unfold fX_meet_L42 at hy
            refine zj_iload_n (pc' := 43) 3 dX11_meet_42 rfl rfl rfl ?_
            refine zj_bipush (pc' := 45) dX11_meet_43 rfl kbipush_99 ?_
            refine zj_icmp_gt (tgt := 87) (pc' := 48) dX11_meet_45 rfl (by decide) (fun c21 => ?_) (fun c21 => ?_)
            · have hy := zt_t hy c21
              refine zj_iconst (pc' := 88) dX11_meet_87 rfl kiconst_m1 ?_
              have e9 := h20 _ (Option.some.inj hy).symm
              subst e9
              exact zj_iret dX11_meet_88 rfl hq
            · have hy := zt_f hy c21
              refine zj_aload_n (pc' := 49) 0 dX11_meet_48 rfl rfl rfl ?_
              refine zj_getR (pc' := 52) (j := 25) dX11_meet_49 rfl flX11_42 sh0 rfl ?_
              refine zj_iload_n (pc' := 53) 1 dX11_meet_52 rfl rfl rfl ?_
              obtain ⟨y22, hy22, hy⟩ := zt_b hy
              refine zj_V1 (pc' := 56) (z := YX1_whereIs) (As := [.int a1]) (N := (zui (zui (zui (zui (zui (zui (zui (zui (zui (zui M 25 r0_5v5) 26 r0_5_0v6) 27 r0_5_1v7) 28 y4.2.2.2.1) 29 y4.2.2.2.2.1) 30 r0_5_4v8) 31 r0_5_5v9) 32 r0_5_6v10) 33 r0_5_7v11) 34 r0_5_8v12)) dX11_meet_53 rfl mlX11_166 lkX1_whereIs sh25 ⟨_, _, rfl⟩ rfl rfl (Nat.le_of_ble_eq_true rfl) (Nat.le_of_ble_eq_true rfl) (LX1_whereIs_25 Γ _ r0_5_0v6 (zr_n rfl (zr_n rfl (zr_n rfl (zr_n rfl (zr_n rfl (zr_n rfl (zr_n rfl (zr_n rfl zr_s)))))))) a1 hy22) rfl ?_
              refine zj_aload_n (pc' := 57) 0 dX11_meet_56 rfl rfl rfl ?_
              refine zj_getR (pc' := 60) (j := 25) dX11_meet_57 rfl flX11_42 sh0 rfl ?_
              refine zj_iload_n (pc' := 61) 2 dX11_meet_60 rfl rfl rfl ?_
              obtain ⟨y23, hy23, hy⟩ := zt_b hy
              refine zj_V1 (pc' := 64) (z := YX1_whereIs) (As := [.int a2]) (N := (zui (zui (zui (zui (zui (zui (zui (zui (zui (zui M 25 r0_5v5) 26 r0_5_0v6) 27 r0_5_1v7) 28 y4.2.2.2.1) 29 y4.2.2.2.2.1) 30 r0_5_4v8) 31 r0_5_5v9) 32 r0_5_6v10) 33 r0_5_7v11) 34 r0_5_8v12)) dX11_meet_61 rfl mlX11_166 lkX1_whereIs sh25 ⟨_, _, rfl⟩ rfl rfl (Nat.le_of_ble_eq_true rfl) (Nat.le_of_ble_eq_true rfl) (LX1_whereIs_25 Γ _ r0_5_0v6 (zr_n rfl (zr_n rfl (zr_n rfl (zr_n rfl (zr_n rfl (zr_n rfl (zr_n rfl (zr_n rfl zr_s)))))))) a2 hy23) rfl ?_
              refine zj_icmp_ne (tgt := 69) (pc' := 67) dX11_meet_64 rfl (by decide) (fun c24 => ?_) (fun c24 => ?_)
              · have hy := zt_f hy c24
                refine zj_aload_n (pc' := 70) 0 dX11_meet_69 rfl rfl rfl ?_
                refine zj_getR (pc' := 73) (j := 25) dX11_meet_70 rfl flX11_42 sh0 rfl ?_
                refine zj_aload_n (pc' := 74) 0 dX11_meet_73 rfl rfl rfl ?_
                refine zj_getR (pc' := 77) (j := 5) dX11_meet_74 rfl flX11_28 sh0 rfl ?_
                refine zj_iconst (pc' := 78) dX11_meet_77 rfl kiconst_1 ?_
                obtain ⟨y25, hy25, hy⟩ := zt_b hy
                refine zj_V0 (pc' := 81) (z := YX1_passMinutes) (As := [.ref (zad Γ 5), .int 1]) (N := (zui (zui (zui (zui (zui (zui (zui (zui (zui (zui M 25 y25.1) 26 y25.2.1) 27 y25.2.2.1) 28 y4.2.2.2.1) 29 y4.2.2.2.2.1) 30 y25.2.2.2.1) 31 y25.2.2.2.2.1) 32 y25.2.2.2.2.2.1) 33 y25.2.2.2.2.2.2.1) 34 y25.2.2.2.2.2.2.2)) dX11_meet_78 rfl mlX11_258 lkX1_passMinutes sh25 ⟨_, _, rfl⟩ rfl rfl (Nat.le_of_ble_eq_true rfl) (Nat.le_of_ble_eq_true rfl) (LX1_passMinutes_25_5 Γ _ r0_5v5 r0_5_0v6 r0_5_1v7 y4.2.2.2.1 y4.2.2.2.2.1 r0_5_4v8 r0_5_5v9 r0_5_6v10 r0_5_7v11 r0_5_8v12 r0_2 r0_2_2 r0_2_3 (zr_n rfl (zr_n rfl (zr_n rfl (zr_n rfl (zr_n rfl (zr_n rfl (zr_n rfl (zr_n rfl (zr_n rfl zr_s))))))))) (zr_n rfl (zr_n rfl (zr_n rfl (zr_n rfl (zr_n rfl (zr_n rfl (zr_n rfl (zr_n rfl zr_s)))))))) (zr_n rfl (zr_n rfl (zr_n rfl (zr_n rfl (zr_n rfl (zr_n rfl (zr_n rfl zr_s))))))) (zr_n rfl (zr_n rfl (zr_n rfl (zr_n rfl (zr_n rfl (zr_n rfl zr_s)))))) (zr_n rfl (zr_n rfl (zr_n rfl (zr_n rfl (zr_n rfl zr_s))))) (zr_n rfl (zr_n rfl (zr_n rfl (zr_n rfl zr_s)))) (zr_n rfl (zr_n rfl (zr_n rfl zr_s))) (zr_n rfl (zr_n rfl zr_s)) (zr_n rfl zr_s) zr_s (zr_n rfl (zr_n rfl (zr_n rfl (zr_n rfl (zr_n rfl (zr_n rfl (zr_n rfl (zr_n rfl (zr_n rfl (zr_n rfl e_i5)))))))))) (zr_n rfl (zr_n rfl (zr_n rfl (zr_n rfl (zr_n rfl (zr_n rfl (zr_n rfl (zr_n rfl (zr_n rfl (zr_n rfl e_i8)))))))))) (zr_n rfl (zr_n rfl (zr_n rfl (zr_n rfl (zr_n rfl (zr_n rfl (zr_n rfl (zr_n rfl (zr_n rfl (zr_n rfl e_i9)))))))))) 1 hy25) ((zch_i (zch_i (zch_i (zch_i (zch_i (zch_i (zch_i (zm_n rfl (zm_n rfl (zm_n rfl (zm_n rfl (zm_n rfl (zm_n rfl (zm_n rfl (zm_n rfl (zm_n rfl zm_s))))))))) (zm_n rfl (zm_n rfl (zm_n rfl (zm_n rfl (zm_n rfl (zm_n rfl (zm_n rfl (zm_n rfl zm_s))))))))) (zm_n rfl (zm_n rfl (zm_n rfl (zm_n rfl (zm_n rfl (zm_n rfl (zm_n rfl zm_s)))))))) (zm_n rfl (zm_n rfl (zm_n rfl (zm_n rfl zm_s))))) (zm_n rfl (zm_n rfl (zm_n rfl zm_s)))) (zm_n rfl (zm_n rfl zm_s))) (zm_n rfl zm_s)) zm_s)).symm ?_
                obtain ⟨x26, ex26⟩ : ∃ z : Int32, z = (x13 + 1) := ⟨_, rfl⟩
                have hy := zlet_at ex26 hy
                refine zj_iinc (pc' := 84) 3 (L' := [(3, .int x26), (0, .ref (zad Γ 0)), (1, .int a1), (2, .int a2)]) dX11_meet_81 rfl rfl (by decide) (by rw [ci1, ← ex26]; rfl) ?_
                refine zj_goto (tgt := 42) dX11_meet_84 (by decide) ?_
                have hn9 := h19 _ (Option.some.inj hy).symm
                refine zj_loc [1, 2, 3, 0] rfl ?_
                exact ih18 _ _ _ _ _ _ _ _ _ hn9
              · have hy := zt_t hy c24
                refine zj_iload_n (pc' := 68) 3 dX11_meet_67 rfl rfl rfl ?_
                have e9 := h20 _ (Option.some.inj hy).symm
                subst e9
                exact zj_iret dX11_meet_68 rfl hq
        exact HL15 n9 _ _ _ _ _ _ _ _ _ hn9
      · have hy := zt_t hy c3
        refine zj_iconst (pc' := 28) dX11_meet_27 rfl kiconst_m1 ?_
        have e9 := Option.some.inj hy
        subst e9
        refine zj_mem (N := (zui M 25 r0_5)) (zself_i e_i25 rfl) ?_
        refine zj_mem (N := (zui (zui M 25 r0_5) 26 r0_5_0)) (zself_i (zr_n rfl e_i26) rfl) ?_
        refine zj_mem (N := (zui (zui (zui M 25 r0_5) 26 r0_5_0) 27 r0_5_1)) (zself_i (zr_n rfl (zr_n rfl e_i27)) rfl) ?_
        refine zj_mem (N := (zui (zui (zui (zui M 25 r0_5) 26 r0_5_0) 27 r0_5_1) 28 r0_5_2)) (zself_i (zr_n rfl (zr_n rfl (zr_n rfl e_i28))) rfl) ?_
        refine zj_mem (N := (zui (zui (zui (zui (zui M 25 r0_5) 26 r0_5_0) 27 r0_5_1) 28 r0_5_2) 29 r0_5_3)) (zself_i (zr_n rfl (zr_n rfl (zr_n rfl (zr_n rfl e_i29)))) rfl) ?_
        refine zj_mem (N := (zui (zui (zui (zui (zui (zui M 25 r0_5) 26 r0_5_0) 27 r0_5_1) 28 r0_5_2) 29 r0_5_3) 30 r0_5_4)) (zself_i (zr_n rfl (zr_n rfl (zr_n rfl (zr_n rfl (zr_n rfl e_i30))))) rfl) ?_
        refine zj_mem (N := (zui (zui (zui (zui (zui (zui (zui M 25 r0_5) 26 r0_5_0) 27 r0_5_1) 28 r0_5_2) 29 r0_5_3) 30 r0_5_4) 31 r0_5_5)) (zself_i (zr_n rfl (zr_n rfl (zr_n rfl (zr_n rfl (zr_n rfl (zr_n rfl e_i31)))))) rfl) ?_
        refine zj_mem (N := (zui (zui (zui (zui (zui (zui (zui (zui M 25 r0_5) 26 r0_5_0) 27 r0_5_1) 28 r0_5_2) 29 r0_5_3) 30 r0_5_4) 31 r0_5_5) 32 r0_5_6)) (zself_i (zr_n rfl (zr_n rfl (zr_n rfl (zr_n rfl (zr_n rfl (zr_n rfl (zr_n rfl e_i32))))))) rfl) ?_
        refine zj_mem (N := (zui (zui (zui (zui (zui (zui (zui (zui (zui M 25 r0_5) 26 r0_5_0) 27 r0_5_1) 28 r0_5_2) 29 r0_5_3) 30 r0_5_4) 31 r0_5_5) 32 r0_5_6) 33 r0_5_7)) (zself_i (zr_n rfl (zr_n rfl (zr_n rfl (zr_n rfl (zr_n rfl (zr_n rfl (zr_n rfl (zr_n rfl e_i33)))))))) rfl) ?_
        refine zj_mem (N := (zui (zui (zui (zui (zui (zui (zui (zui (zui (zui M 25 r0_5) 26 r0_5_0) 27 r0_5_1) 28 r0_5_2) 29 r0_5_3) 30 r0_5_4) 31 r0_5_5) 32 r0_5_6) 33 r0_5_7) 34 r0_5_8)) (zself_i (zr_n rfl (zr_n rfl (zr_n rfl (zr_n rfl (zr_n rfl (zr_n rfl (zr_n rfl (zr_n rfl (zr_n rfl e_i34))))))))) rfl) ?_
        exact zj_iret dX11_meet_28 rfl hq
set_option maxRecDepth 20000 in
theorem LX11_meet_0 (Γ : zG) (M : zM) (r0_2 : Nat → Int32) (r0_2_2 : Nat → Int32) (r0_2_3 : Nat → Int32) (r0_4 : Nat → Int32) (r0_4_0 : Nat → Int32) (r0_4_1 : Nat → Int32) (r0_4_2 : Nat → Int32) (r0_4_3 : Nat → Int32) (r0_4_4 : Nat → Int32) (r0_4_5 : Nat → Int32) (r0_4_6 : Nat → Int32) (r0_4_7 : Nat → Int32) (r0_5 : Nat → Int32) (r0_5_0 : Nat → Int32) (r0_5_1 : Nat → Int32) (r0_5_2 : Nat → Int32) (r0_5_3 : Nat → Int32) (r0_5_4 : Nat → Int32) (r0_5_5 : Nat → Int32) (r0_5_6 : Nat → Int32) (r0_5_7 : Nat → Int32) (r0_5_8 : Nat → Int32) (e_i5 : M.1 5 = r0_2) (e_i8 : M.1 8 = r0_2_2) (e_i9 : M.1 9 = r0_2_3) (e_i15 : M.1 15 = r0_4) (e_i16 : M.1 16 = r0_4_0) (e_i17 : M.1 17 = r0_4_1) (e_i18 : M.1 18 = r0_4_2) (e_i19 : M.1 19 = r0_4_3) (e_i20 : M.1 20 = r0_4_4) (e_i21 : M.1 21 = r0_4_5) (e_i22 : M.1 22 = r0_4_6) (e_i23 : M.1 23 = r0_4_7) (e_i25 : M.1 25 = r0_5) (e_i26 : M.1 26 = r0_5_0) (e_i27 : M.1 27 = r0_5_1) (e_i28 : M.1 28 = r0_5_2) (e_i29 : M.1 29 = r0_5_3) (e_i30 : M.1 30 = r0_5_4) (e_i31 : M.1 31 = r0_5_5) (e_i32 : M.1 32 = r0_5_6) (e_i33 : M.1 33 = r0_5_7) (e_i34 : M.1 34 = r0_5_8) (a1 : Int32) (a2 : Int32) {res : Int32 × (Nat → Int32) × (Nat → Int32) × (Nat → Int32) × (Nat → Int32) × (Nat → Int32) × (Nat → Int32) × (Nat → Int32) × (Nat → Int32) × (Nat → Int32) × (Nat → Int32)} (hy : (fX_meet r0_2 r0_2_2 r0_2_3 r0_4 r0_4_0 r0_4_1 r0_4_2 r0_4_3 r0_4_4 r0_4_5 r0_4_6 r0_4_7 r0_5 r0_5_0 r0_5_1 r0_5_2 r0_5_3 r0_5_4 r0_5_5 r0_5_6 r0_5_7 r0_5_8 a1 a2) = some res) : zK Γ 6 YX11_meet [.ref (zad Γ 0), .int a1, .int a2] M (fun v N => v = some (.int res.1) ∧ N = (zui (zui (zui (zui (zui (zui (zui (zui (zui (zui M 25 res.2.1) 26 res.2.2.1) 27 res.2.2.2.1) 28 res.2.2.2.2.1) 29 res.2.2.2.2.2.1) 30 res.2.2.2.2.2.2.1) 31 res.2.2.2.2.2.2.2.1) 32 res.2.2.2.2.2.2.2.2.1) 33 res.2.2.2.2.2.2.2.2.2.1) 34 res.2.2.2.2.2.2.2.2.2.2)) :=
  zK_of (by decide) (Nat.le_of_ble_eq_true rfl) (TX11_meet_0 Γ M r0_2 r0_2_2 r0_2_3 r0_4 r0_4_0 r0_4_1 r0_4_2 r0_4_3 r0_4_4 r0_4_5 r0_4_6 r0_4_7 r0_5 r0_5_0 r0_5_1 r0_5_2 r0_5_3 r0_5_4 r0_5_5 r0_5_6 r0_5_7 r0_5_8 e_i5 e_i8 e_i9 e_i15 e_i16 e_i17 e_i18 e_i19 e_i20 e_i21 e_i22 e_i23 e_i25 e_i26 e_i27 e_i28 e_i29 e_i30 e_i31 e_i32 e_i33 e_i34 a1 a2 hy ⟨rfl, rfl⟩)

noncomputable def fM_tries_L2 (r0_6 : Nat → Int32) (r0_23v1 : Nat → Int32) (x2 : Int32) : Option (((Nat → Int32) × Int32) ⊕ ((Nat → Int32))) :=
  (if 127 ≤ x2 then
  some (.inr r0_23v1)
  else
  (zrd r0_6 397 (89 + x2)).bind (fun (v11 : Int32) =>
  (zwr r0_23v1 127 x2 v11).bind (fun (r0_23v12 : Nat → Int32) =>
  zlet (x2 + 1) (fun (x13 : Int32) =>
  some (.inl (r0_23v12, x13))))))
noncomputable def fM_tries (r0_6 : Nat → Int32) (r0_23 : Nat → Int32) : Option ((Nat → Int32)) :=
  (zLP (fun s => fM_tries_L2 r0_6 s.1 s.2) (r0_23, 0)).bind (fun r5 =>
  some r5)

set_option maxRecDepth 20000 in
theorem TX12_tries_186 (Γ : zG) {Q : Option Value → zM → Prop} (M : zM) (r0_6 : Nat → Int32) (r0_23 : Nat → Int32) (e_i188 : M.1 188 = r0_6) (e_i196 : M.1 196 = r0_23)  {res : (Nat → Int32)} (hy : (fM_tries r0_6 r0_23) = some res) (hq : Q none (zui M 196 res)) : zR Γ 1 YX12_tries 0 [(0, .ref (zad Γ 186))] [] M Q := by
  unfold fM_tries at hy
  refine zj_iconst (pc' := 1) dX12_tries_0 rfl kiconst_0 ?_
  refine zj_istore_n (pc' := 2) (L' := [(1, .int 0), (0, .ref (zad Γ 186))]) dX12_tries_1 rfl rfl (by decide) rfl ?_
  refine zj_loc [1, 0] rfl ?_
  refine zj_mem (N := (zui M 196 r0_23)) (zself_i e_i196 rfl) ?_
  obtain ⟨r5, hr9, hyo6⟩ := zt_b hy
  obtain ⟨n9, hn9⟩ := zLP_some hr9
  have HE3 : ∀ (r0_23v14 : Nat → Int32), r5 = r0_23v14 → zR Γ 1 YX12_tries 29 [] [] (zui M 196 r0_23v14) Q := by
    intro r0_23v14 e9
    have hy := hyo6
    try rw [e9] at hy
    try dsimp only at hy
    have e9 := Option.some.inj hy
    subst e9
    exact zj_vret dX12_tries_29 rfl hq
  have HL4 : ∀ (n : Nat) (r0_23v1 : Nat → Int32) (x2 : Int32), zlp (fun s => fM_tries_L2 r0_6 s.1 s.2) n (r0_23v1, x2) = some r5 → zR Γ 1 YX12_tries 2 [(0, .ref (zad Γ 186)), (1, .int x2)] [] (zui M 196 r0_23v1) Q := by
    intro n
    induction n with
    | zero => intro r0_23v1 x2 hn9; cases hn9
    | succ n ih7 =>
      intro r0_23v1 x2 hn9
      obtain ⟨o9, hb9, h8, h9⟩ := zlp_step hn9
      have hy : fM_tries_L2 r0_6 r0_23v1 x2 = some o9 := hb9
      unfold fM_tries_L2 at hy
      refine zj_iload_n (pc' := 3) 1 dX12_tries_2 rfl rfl rfl ?_
      refine zj_bipush (pc' := 5) dX12_tries_3 rfl kbipush_127 ?_
      refine zj_icmp_ge (tgt := 29) (pc' := 8) dX12_tries_5 rfl (by decide) (fun c10 => ?_) (fun c10 => ?_)
      · have hy := zt_t hy c10
        have e9 := h9 _ (Option.some.inj hy).symm
        refine zj_loc [] rfl ?_
        exact HE3 _ e9.symm
      · have hy := zt_f hy c10
        refine zj_aload_n (pc' := 9) 0 dX12_tries_8 rfl rfl rfl ?_
        refine zj_getR (pc' := 12) (j := 196) dX12_tries_9 rfl flX12_59 sh186 rfl ?_
        refine zj_iload_n (pc' := 13) 1 dX12_tries_12 rfl rfl rfl ?_
        refine zj_aload_n (pc' := 14) 0 dX12_tries_13 rfl rfl rfl ?_
        refine zj_getR (pc' := 17) (j := 188) dX12_tries_14 rfl flX12_33 sh186 rfl ?_
        refine zj_bipush (pc' := 19) dX12_tries_17 rfl kbipush_89 ?_
        refine zj_iload_n (pc' := 20) 1 dX12_tries_19 rfl rfl rfl ?_
        refine zj_iadd (pc' := 21) dX12_tries_20 rfl ?_
        obtain ⟨v11, hv11, hy⟩ := zt_b hy
        refine zj_rdi (pc' := 22) dX12_tries_21 rfl sh188 (zr_n rfl e_i188) hv11 ?_
        obtain ⟨r0_23v12, hr0_23v12, hy⟩ := zt_b hy
        refine zj_wri (pc' := 23) (N := (zui M 196 r0_23v12)) dX12_tries_22 rfl sh196 zr_s hr0_23v12 zm_s ?_
        obtain ⟨x13, ex13⟩ : ∃ z : Int32, z = (x2 + 1) := ⟨_, rfl⟩
        have hy := zlet_at ex13 hy
        refine zj_iinc (pc' := 26) 1 (L' := [(1, .int x13), (0, .ref (zad Γ 186))]) dX12_tries_23 rfl rfl (by decide) (by rw [ci1, ← ex13]; rfl) ?_
        refine zj_goto (tgt := 2) dX12_tries_26 (by decide) ?_
        have hn9 := h8 _ (Option.some.inj hy).symm
        refine zj_loc [1, 0] rfl ?_
        exact ih7 _ _ hn9
  exact HL4 n9 _ _ hn9
set_option maxRecDepth 20000 in
theorem LX12_tries_186 (Γ : zG) (M : zM) (r0_6 : Nat → Int32) (r0_23 : Nat → Int32) (e_i188 : M.1 188 = r0_6) (e_i196 : M.1 196 = r0_23)  {res : (Nat → Int32)} (hy : (fM_tries r0_6 r0_23) = some res) : zK Γ 1 YX12_tries [.ref (zad Γ 186)] M (fun v N => v = none ∧ N = (zui M 196 res)) :=
  zK_of (by decide) (Nat.le_of_ble_eq_true rfl) (TX12_tries_186 Γ M r0_6 r0_23 e_i188 e_i196 hy ⟨rfl, rfl⟩)

noncomputable def fM_back_L2 (r0_23 : Nat → Int32) (r0_6v1 : Nat → Int32) (x2 : Int32) : Option (((Nat → Int32) × Int32) ⊕ ((Nat → Int32))) :=
  (if 127 ≤ x2 then
  some (.inr r0_6v1)
  else
  (zrd r0_23 127 x2).bind (fun (v11 : Int32) =>
  (zwr r0_6v1 397 (89 + x2) v11).bind (fun (r0_6v12 : Nat → Int32) =>
  zlet (x2 + 1) (fun (x13 : Int32) =>
  some (.inl (r0_6v12, x13))))))
noncomputable def fM_back (r0_6 : Nat → Int32) (r0_23 : Nat → Int32) : Option ((Nat → Int32)) :=
  (zLP (fun s => fM_back_L2 r0_23 s.1 s.2) (r0_6, 0)).bind (fun r5 =>
  some r5)

set_option maxRecDepth 20000 in
theorem TX12_back_186 (Γ : zG) {Q : Option Value → zM → Prop} (M : zM) (r0_6 : Nat → Int32) (r0_23 : Nat → Int32) (e_i188 : M.1 188 = r0_6) (e_i196 : M.1 196 = r0_23)  {res : (Nat → Int32)} (hy : (fM_back r0_6 r0_23) = some res) (hq : Q none (zui M 188 res)) : zR Γ 1 YX12_back 0 [(0, .ref (zad Γ 186))] [] M Q := by
  unfold fM_back at hy
  refine zj_iconst (pc' := 1) dX12_back_0 rfl kiconst_0 ?_
  refine zj_istore_n (pc' := 2) (L' := [(1, .int 0), (0, .ref (zad Γ 186))]) dX12_back_1 rfl rfl (by decide) rfl ?_
  refine zj_loc [1, 0] rfl ?_
  refine zj_mem (N := (zui M 188 r0_6)) (zself_i e_i188 rfl) ?_
  obtain ⟨r5, hr9, hyo6⟩ := zt_b hy
  obtain ⟨n9, hn9⟩ := zLP_some hr9
  have HE3 : ∀ (r0_6v14 : Nat → Int32), r5 = r0_6v14 → zR Γ 1 YX12_back 29 [] [] (zui M 188 r0_6v14) Q := by
    intro r0_6v14 e9
    have hy := hyo6
    try rw [e9] at hy
    try dsimp only at hy
    have e9 := Option.some.inj hy
    subst e9
    exact zj_vret dX12_back_29 rfl hq
  have HL4 : ∀ (n : Nat) (r0_6v1 : Nat → Int32) (x2 : Int32), zlp (fun s => fM_back_L2 r0_23 s.1 s.2) n (r0_6v1, x2) = some r5 → zR Γ 1 YX12_back 2 [(0, .ref (zad Γ 186)), (1, .int x2)] [] (zui M 188 r0_6v1) Q := by
    intro n
    induction n with
    | zero => intro r0_6v1 x2 hn9; cases hn9
    | succ n ih7 =>
      intro r0_6v1 x2 hn9
      obtain ⟨o9, hb9, h8, h9⟩ := zlp_step hn9
      have hy : fM_back_L2 r0_23 r0_6v1 x2 = some o9 := hb9
      unfold fM_back_L2 at hy
      refine zj_iload_n (pc' := 3) 1 dX12_back_2 rfl rfl rfl ?_
      refine zj_bipush (pc' := 5) dX12_back_3 rfl kbipush_127 ?_
      refine zj_icmp_ge (tgt := 29) (pc' := 8) dX12_back_5 rfl (by decide) (fun c10 => ?_) (fun c10 => ?_)
      · have hy := zt_t hy c10
        have e9 := h9 _ (Option.some.inj hy).symm
        refine zj_loc [] rfl ?_
        exact HE3 _ e9.symm
      · have hy := zt_f hy c10
        refine zj_aload_n (pc' := 9) 0 dX12_back_8 rfl rfl rfl ?_
        refine zj_getR (pc' := 12) (j := 188) dX12_back_9 rfl flX12_33 sh186 rfl ?_
        refine zj_bipush (pc' := 14) dX12_back_12 rfl kbipush_89 ?_
        refine zj_iload_n (pc' := 15) 1 dX12_back_14 rfl rfl rfl ?_
        refine zj_iadd (pc' := 16) dX12_back_15 rfl ?_
        refine zj_aload_n (pc' := 17) 0 dX12_back_16 rfl rfl rfl ?_
        refine zj_getR (pc' := 20) (j := 196) dX12_back_17 rfl flX12_59 sh186 rfl ?_
        refine zj_iload_n (pc' := 21) 1 dX12_back_20 rfl rfl rfl ?_
        obtain ⟨v11, hv11, hy⟩ := zt_b hy
        refine zj_rdi (pc' := 22) dX12_back_21 rfl sh196 (zr_n rfl e_i196) hv11 ?_
        obtain ⟨r0_6v12, hr0_6v12, hy⟩ := zt_b hy
        refine zj_wri (pc' := 23) (N := (zui M 188 r0_6v12)) dX12_back_22 rfl sh188 zr_s hr0_6v12 zm_s ?_
        obtain ⟨x13, ex13⟩ : ∃ z : Int32, z = (x2 + 1) := ⟨_, rfl⟩
        have hy := zlet_at ex13 hy
        refine zj_iinc (pc' := 26) 1 (L' := [(1, .int x13), (0, .ref (zad Γ 186))]) dX12_back_23 rfl rfl (by decide) (by rw [ci1, ← ex13]; rfl) ?_
        refine zj_goto (tgt := 2) dX12_back_26 (by decide) ?_
        have hn9 := h8 _ (Option.some.inj hy).symm
        refine zj_loc [1, 0] rfl ?_
        exact ih7 _ _ hn9
  exact HL4 n9 _ _ hn9
set_option maxRecDepth 20000 in
theorem LX12_back_186 (Γ : zG) (M : zM) (r0_6 : Nat → Int32) (r0_23 : Nat → Int32) (e_i188 : M.1 188 = r0_6) (e_i196 : M.1 196 = r0_23)  {res : (Nat → Int32)} (hy : (fM_back r0_6 r0_23) = some res) : zK Γ 1 YX12_back [.ref (zad Γ 186)] M (fun v N => v = none ∧ N = (zui M 188 res)) :=
  zK_of (by decide) (Nat.le_of_ble_eq_true rfl) (TX12_back_186 Γ M r0_6 r0_23 e_i188 e_i196 hy ⟨rfl, rfl⟩)

noncomputable def fM_meet_L37 (r0_20 : Nat → Int32) (a1 : Int32) (a2 : Int32) (r0_6v8 : Nat → Int32) (r0_21v9 : Nat → Int32) (x10 : Int32) (x11 : Int32) : Option (((Nat → Int32) × (Nat → Int32) × Int32 × Int32) ⊕ ((Nat → Int32) × (Nat → Int32) × Int32)) :=
  (if 99 < x11 then
  some (.inr (r0_6v8, r0_21v9, x10))
  else
  (if 0 ≤ x10 then
  some (.inr (r0_6v8, r0_21v9, x10))
  else
  (zrd r0_6v8 397 (91 + a1)).bind (fun (v21 : Int32) =>
  (zrd r0_6v8 397 (91 + a2)).bind (fun (v22 : Int32) =>
  (if v21 = v22 then
  (fM_minute r0_6v8 r0_20 r0_21v9).bind (fun (y24 : (Nat → Int32) × (Nat → Int32)) =>
  zlet (x11 + 1) (fun (x25 : Int32) =>
  some (.inl (y24.1, y24.2, x11, x25))))
  else
  (fM_minute r0_6v8 r0_20 r0_21v9).bind (fun (y26 : (Nat → Int32) × (Nat → Int32)) =>
  zlet (x11 + 1) (fun (x27 : Int32) =>
  some (.inl (y26.1, y26.2, x10, x27)))))))))
noncomputable def fM_meet (r0 : Nat → Int32) (r0_6 : Nat → Int32) (r0_20 : Nat → Int32) (r0_21 : Nat → Int32) (r0_23 : Nat → Int32) (a1 : Int32) (a2 : Int32) : Option (Int32 × (Nat → Int32) × (Nat → Int32) × (Nat → Int32) × (Nat → Int32)) :=
  zlet (zup r0 0 0) (fun (r0v1 : Nat → Int32) =>
  (fM_isPerson r0_6 a1).bind (fun (y2 : Bool) =>
  (if y2 = true then
  (fM_isPerson r0_6 a2).bind (fun (y4 : Bool) =>
  (if y4 = true then
  (if a1 = a2 then
  some ((-1), r0v1, r0_6, r0_21, r0_23)
  else
  (fM_tries r0_6 r0_23).bind (fun (y7 : (Nat → Int32)) =>
  (zLP (fun s => fM_meet_L37 r0_20 a1 a2 s.1 s.2.1 s.2.2.1 s.2.2.2) (r0_6, r0_21, (-1), 0)).bind (fun r14 =>
  (fM_back r14.1 y7).bind (fun (y31 : (Nat → Int32)) =>
  some (r14.2.2, r0v1, y31, r14.2.1, y7)))))
  else
  some ((-1), r0v1, r0_6, r0_21, r0_23)))
  else
  some ((-1), r0v1, r0_6, r0_21, r0_23))))

set_option maxRecDepth 20000 in
theorem TX12_meet_186 (Γ : zG) {Q : Option Value → zM → Prop} (M : zM) (r0 : Nat → Int32) (r0_6 : Nat → Int32) (r0_20 : Nat → Int32) (r0_21 : Nat → Int32) (r0_23 : Nat → Int32) (e_i186 : M.1 186 = r0) (e_i188 : M.1 188 = r0_6) (e_i193 : M.1 193 = r0_20) (e_i194 : M.1 194 = r0_21) (e_i196 : M.1 196 = r0_23) (a1 : Int32) (a2 : Int32) {res : Int32 × (Nat → Int32) × (Nat → Int32) × (Nat → Int32) × (Nat → Int32)} (hy : (fM_meet r0 r0_6 r0_20 r0_21 r0_23 a1 a2) = some res) (hq : Q (some (.int res.1)) (zui (zui (zui (zui M 186 res.2.1) 188 res.2.2.1) 194 res.2.2.2.1) 196 res.2.2.2.2)) : zR Γ 6 YX12_meet 0 [(0, .ref (zad Γ 186)), (1, .int a1), (2, .int a2)] [] M Q := by
  unfold fM_meet at hy
  refine zj_aload_n (pc' := 1) 0 dX12_meet_0 rfl rfl rfl ?_
  refine zj_iconst (pc' := 2) dX12_meet_1 rfl kiconst_0 ?_
  obtain ⟨r0v1, er0v1⟩ : ∃ z, z = (zup r0 0 0) := ⟨_, rfl⟩
  have hy := zlet_at er0v1 hy
  refine zj_pI (pc' := 5) (N := (zui M 186 r0v1)) dX12_meet_2 rfl fpX12_1 sh186 rfl e_i186 er0v1 rfl ?_
  refine zj_aload_n (pc' := 6) 0 dX12_meet_5 rfl rfl rfl ?_
  refine zj_iload_n (pc' := 7) 1 dX12_meet_6 rfl rfl rfl ?_
  obtain ⟨y2, hy2, hy⟩ := zt_b hy
  refine zj_V1 (pc' := 10) (z := YX12_isPerson) (As := [.int a1]) (N := (zui M 186 r0v1)) dX12_meet_7 rfl mlX12_270 lkX12_isPerson sh186 ⟨_, _, rfl⟩ rfl rfl (Nat.le_of_ble_eq_true rfl) (Nat.le_of_ble_eq_true rfl) (LX12_isPerson_186 Γ _ r0_6 (zr_n rfl e_i188) a1 hy2) rfl ?_
  refine zj_bif_eq (tgt := 26) (pc' := 13) dX12_meet_10 rfl (by decide) (fun c3 => ?_) (fun c3 => ?_)
  · have hy := zt_f hy c3
    refine zj_iconst (pc' := 27) dX12_meet_26 rfl kiconst_m1 ?_
    have e9 := Option.some.inj hy
    subst e9
    refine zj_mem (N := (zui (zui M 186 r0v1) 188 r0_6)) (zself_i (zr_n rfl e_i188) rfl) ?_
    refine zj_mem (N := (zui (zui (zui M 186 r0v1) 188 r0_6) 194 r0_21)) (zself_i (zr_n rfl (zr_n rfl e_i194)) rfl) ?_
    refine zj_mem (N := (zui (zui (zui (zui M 186 r0v1) 188 r0_6) 194 r0_21) 196 r0_23)) (zself_i (zr_n rfl (zr_n rfl (zr_n rfl e_i196))) rfl) ?_
    exact zj_iret dX12_meet_27 rfl hq
  · have hy := zt_t hy c3
    refine zj_aload_n (pc' := 14) 0 dX12_meet_13 rfl rfl rfl ?_
    refine zj_iload_n (pc' := 15) 2 dX12_meet_14 rfl rfl rfl ?_
    obtain ⟨y4, hy4, hy⟩ := zt_b hy
    refine zj_V1 (pc' := 18) (z := YX12_isPerson) (As := [.int a2]) (N := (zui M 186 r0v1)) dX12_meet_15 rfl mlX12_270 lkX12_isPerson sh186 ⟨_, _, rfl⟩ rfl rfl (Nat.le_of_ble_eq_true rfl) (Nat.le_of_ble_eq_true rfl) (LX12_isPerson_186 Γ _ r0_6 (zr_n rfl e_i188) a2 hy4) rfl ?_
    refine zj_bif_eq (tgt := 26) (pc' := 21) dX12_meet_18 rfl (by decide) (fun c5 => ?_) (fun c5 => ?_)
    · have hy := zt_f hy c5
      refine zj_iconst (pc' := 27) dX12_meet_26 rfl kiconst_m1 ?_
      have e9 := Option.some.inj hy
      subst e9
      refine zj_mem (N := (zui (zui M 186 r0v1) 188 r0_6)) (zself_i (zr_n rfl e_i188) rfl) ?_
      refine zj_mem (N := (zui (zui (zui M 186 r0v1) 188 r0_6) 194 r0_21)) (zself_i (zr_n rfl (zr_n rfl e_i194)) rfl) ?_
      refine zj_mem (N := (zui (zui (zui (zui M 186 r0v1) 188 r0_6) 194 r0_21) 196 r0_23)) (zself_i (zr_n rfl (zr_n rfl (zr_n rfl e_i196))) rfl) ?_
      exact zj_iret dX12_meet_27 rfl hq
    · have hy := zt_t hy c5
      refine zj_iload_n (pc' := 22) 1 dX12_meet_21 rfl rfl rfl ?_
      refine zj_iload_n (pc' := 23) 2 dX12_meet_22 rfl rfl rfl ?_
      refine zj_icmp_ne (tgt := 28) (pc' := 26) dX12_meet_23 rfl (by decide) (fun c6 => ?_) (fun c6 => ?_)
      · have hy := zt_f hy c6
        refine zj_aload_n (pc' := 29) 0 dX12_meet_28 rfl rfl rfl ?_
        obtain ⟨y7, hy7, hy⟩ := zt_b hy
        refine zj_V0 (pc' := 32) (z := YX12_tries) (As := []) (N := (zui (zui M 186 r0v1) 196 y7)) dX12_meet_29 rfl mlX12_337 lkX12_tries sh186 ⟨_, _, rfl⟩ rfl rfl (Nat.le_of_ble_eq_true rfl) (Nat.le_of_ble_eq_true rfl) (LX12_tries_186 Γ _ r0_6 r0_23 (zr_n rfl e_i188) (zr_n rfl e_i196) hy7) (rfl).symm ?_
        refine zj_iconst (pc' := 33) dX12_meet_32 rfl kiconst_m1 ?_
        refine zj_istore_n (pc' := 34) (L' := [(3, .int (-1)), (0, .ref (zad Γ 186)), (1, .int a1), (2, .int a2)]) dX12_meet_33 rfl rfl (by decide) rfl ?_
        refine zj_iconst (pc' := 35) dX12_meet_34 rfl kiconst_0 ?_
        refine zj_istore (pc' := 37) (L' := [(4, .int 0), (3, .int (-1)), (0, .ref (zad Γ 186)), (1, .int a1), (2, .int a2)]) dX12_meet_35 rfl (by decide) rfl ?_
        refine zj_loc [2, 3, 4, 1, 0] rfl ?_
        refine zj_mem (N := (zui (zui (zui M 186 r0v1) 188 r0_6) 196 y7)) (zself_i (zr_n rfl (zr_n rfl e_i188)) (zm_n rfl rfl)) ?_
        refine zj_mem (N := (zui (zui (zui (zui M 186 r0v1) 188 r0_6) 194 r0_21) 196 y7)) (zself_i (zr_n rfl (zr_n rfl (zr_n rfl e_i194))) (zm_n rfl rfl)) ?_
        obtain ⟨r14, hr9, hyo15⟩ := zt_b hy
        obtain ⟨n9, hn9⟩ := zLP_some hr9
        have HE12 : ∀ (r0_6v28 : Nat → Int32) (r0_21v29 : Nat → Int32) (x30 : Int32), r14 = (r0_6v28, r0_21v29, x30) → zR Γ 6 YX12_meet 82 [(0, .ref (zad Γ 186)), (3, .int x30)] [] (zui (zui (zui (zui M 186 r0v1) 188 r0_6v28) 194 r0_21v29) 196 y7) Q := by
          intro r0_6v28 r0_21v29 x30 e9
          have hy := hyo15
          try rw [e9] at hy
          try dsimp only at hy
          refine zj_aload_n (pc' := 83) 0 dX12_meet_82 rfl rfl rfl ?_
          obtain ⟨y31, hy31, hy⟩ := zt_b hy
          refine zj_V0 (pc' := 86) (z := YX12_back) (As := []) (N := (zui (zui (zui (zui M 186 r0v1) 188 y31) 194 r0_21v29) 196 y7)) dX12_meet_83 rfl mlX12_340 lkX12_back sh186 ⟨_, _, rfl⟩ rfl rfl (Nat.le_of_ble_eq_true rfl) (Nat.le_of_ble_eq_true rfl) (LX12_back_186 Γ _ r0_6v28 y7 (zr_n rfl (zr_n rfl zr_s)) zr_s hy31) ((zm_n rfl (zm_n rfl zm_s))).symm ?_
          refine zj_iload_n (pc' := 87) 1 dX12_meet_86 rfl rfl rfl ?_
          have e9 := Option.some.inj hy
          subst e9
          exact zj_iret dX12_meet_87 rfl hq
        have HL13 : ∀ (n : Nat) (r0_6v8 : Nat → Int32) (r0_21v9 : Nat → Int32) (x10 : Int32) (x11 : Int32), zlp (fun s => fM_meet_L37 r0_20 a1 a2 s.1 s.2.1 s.2.2.1 s.2.2.2) n (r0_6v8, r0_21v9, x10, x11) = some r14 → zR Γ 6 YX12_meet 37 [(0, .ref (zad Γ 186)), (1, .int a1), (2, .int a2), (3, .int x10), (4, .int x11)] [] (zui (zui (zui (zui M 186 r0v1) 188 r0_6v8) 194 r0_21v9) 196 y7) Q := by
          intro n
          induction n with
          | zero => intro r0_6v8 r0_21v9 x10 x11 hn9; cases hn9
          | succ n ih16 =>
            intro r0_6v8 r0_21v9 x10 x11 hn9
            obtain ⟨o9, hb9, h17, h18⟩ := zlp_step hn9
            have hy : fM_meet_L37 r0_20 a1 a2 r0_6v8 r0_21v9 x10 x11 = some o9 := hb9
            unfold fM_meet_L37 at hy
            refine zj_iload (pc' := 39) 4 dX12_meet_37 rfl rfl ?_
            refine zj_bipush (pc' := 41) dX12_meet_39 rfl kbipush_99 ?_
            refine zj_icmp_gt (tgt := 82) (pc' := 44) dX12_meet_41 rfl (by decide) (fun c19 => ?_) (fun c19 => ?_)
            · have hy := zt_t hy c19
              have e9 := h18 _ (Option.some.inj hy).symm
              refine zj_loc [0, 3] rfl ?_
              exact HE12 _ _ _ e9.symm
            · have hy := zt_f hy c19
              refine zj_iload_n (pc' := 45) 3 dX12_meet_44 rfl rfl rfl ?_
              refine zj_if_ge (tgt := 82) (pc' := 48) dX12_meet_45 rfl (by decide) (fun c20 => ?_) (fun c20 => ?_)
              · have hy := zt_t hy c20
                have e9 := h18 _ (Option.some.inj hy).symm
                refine zj_loc [0, 3] rfl ?_
                exact HE12 _ _ _ e9.symm
              · have hy := zt_f hy c20
                refine zj_aload_n (pc' := 49) 0 dX12_meet_48 rfl rfl rfl ?_
                refine zj_getR (pc' := 52) (j := 188) dX12_meet_49 rfl flX12_33 sh186 rfl ?_
                refine zj_bipush (pc' := 54) dX12_meet_52 rfl kbipush_91 ?_
                refine zj_iload_n (pc' := 55) 1 dX12_meet_54 rfl rfl rfl ?_
                refine zj_iadd (pc' := 56) dX12_meet_55 rfl ?_
                obtain ⟨v21, hv21, hy⟩ := zt_b hy
                refine zj_rdi (pc' := 57) dX12_meet_56 rfl sh188 (zr_n rfl (zr_n rfl zr_s)) hv21 ?_
                refine zj_aload_n (pc' := 58) 0 dX12_meet_57 rfl rfl rfl ?_
                refine zj_getR (pc' := 61) (j := 188) dX12_meet_58 rfl flX12_33 sh186 rfl ?_
                refine zj_bipush (pc' := 63) dX12_meet_61 rfl kbipush_91 ?_
                refine zj_iload_n (pc' := 64) 2 dX12_meet_63 rfl rfl rfl ?_
                refine zj_iadd (pc' := 65) dX12_meet_64 rfl ?_
                obtain ⟨v22, hv22, hy⟩ := zt_b hy
                refine zj_rdi (pc' := 66) dX12_meet_65 rfl sh188 (zr_n rfl (zr_n rfl zr_s)) hv22 ?_
                refine zj_icmp_ne (tgt := 72) (pc' := 69) dX12_meet_66 rfl (by decide) (fun c23 => ?_) (fun c23 => ?_)
                · have hy := zt_f hy c23
                  refine zj_aload_n (pc' := 73) 0 dX12_meet_72 rfl rfl rfl ?_
                  obtain ⟨y26, hy26, hy⟩ := zt_b hy
                  refine zj_V0 (pc' := 76) (z := YX12_minute) (As := []) (N := (zui (zui (zui (zui M 186 r0v1) 188 y26.1) 194 y26.2) 196 y7)) dX12_meet_73 rfl mlX12_298 lkX12_minute sh186 ⟨_, _, rfl⟩ rfl rfl (Nat.le_of_ble_eq_true rfl) (Nat.le_of_ble_eq_true rfl) (LX12_minute_186 Γ _ r0_6v8 r0_20 r0_21v9 (zr_n rfl (zr_n rfl zr_s)) (zr_n rfl (zr_n rfl (zr_n rfl (zr_n rfl e_i193)))) (zr_n rfl zr_s) hy26) ((zch_i (zm_n rfl (zm_n rfl zm_s)) (zm_n rfl zm_s))).symm ?_
                  obtain ⟨x27, ex27⟩ : ∃ z : Int32, z = (x11 + 1) := ⟨_, rfl⟩
                  have hy := zlet_at ex27 hy
                  refine zj_iinc (pc' := 79) 4 (L' := [(4, .int x27), (0, .ref (zad Γ 186)), (1, .int a1), (2, .int a2), (3, .int x10)]) dX12_meet_76 rfl rfl (by decide) (by rw [ci1, ← ex27]; rfl) ?_
                  refine zj_goto (tgt := 37) dX12_meet_79 (by decide) ?_
                  have hn9 := h17 _ (Option.some.inj hy).symm
                  refine zj_loc [1, 2, 3, 4, 0] rfl ?_
                  exact ih16 _ _ _ _ hn9
                · have hy := zt_t hy c23
                  refine zj_iload (pc' := 71) 4 dX12_meet_69 rfl rfl ?_
                  refine zj_istore_n (pc' := 72) (L' := [(3, .int x11), (0, .ref (zad Γ 186)), (1, .int a1), (2, .int a2), (4, .int x11)]) dX12_meet_71 rfl rfl (by decide) rfl ?_
                  refine zj_aload_n (pc' := 73) 1 dX12_meet_72 rfl rfl rfl ?_
                  obtain ⟨y24, hy24, hy⟩ := zt_b hy
                  refine zj_V0 (pc' := 76) (z := YX12_minute) (As := []) (N := (zui (zui (zui (zui M 186 r0v1) 188 y24.1) 194 y24.2) 196 y7)) dX12_meet_73 rfl mlX12_298 lkX12_minute sh186 ⟨_, _, rfl⟩ rfl rfl (Nat.le_of_ble_eq_true rfl) (Nat.le_of_ble_eq_true rfl) (LX12_minute_186 Γ _ r0_6v8 r0_20 r0_21v9 (zr_n rfl (zr_n rfl zr_s)) (zr_n rfl (zr_n rfl (zr_n rfl (zr_n rfl e_i193)))) (zr_n rfl zr_s) hy24) ((zch_i (zm_n rfl (zm_n rfl zm_s)) (zm_n rfl zm_s))).symm ?_
                  obtain ⟨x25, ex25⟩ : ∃ z : Int32, z = (x11 + 1) := ⟨_, rfl⟩
                  have hy := zlet_at ex25 hy
                  refine zj_iinc (pc' := 79) 4 (L' := [(4, .int x25), (3, .int x11), (0, .ref (zad Γ 186)), (1, .int a1), (2, .int a2)]) dX12_meet_76 rfl rfl (by decide) (by rw [ci1, ← ex25]; rfl) ?_
                  refine zj_goto (tgt := 37) dX12_meet_79 (by decide) ?_
                  have hn9 := h17 _ (Option.some.inj hy).symm
                  refine zj_loc [2, 3, 4, 1, 0] rfl ?_
                  exact ih16 _ _ _ _ hn9
        exact HL13 n9 _ _ _ _ hn9
      · have hy := zt_t hy c6
        refine zj_iconst (pc' := 27) dX12_meet_26 rfl kiconst_m1 ?_
        have e9 := Option.some.inj hy
        subst e9
        refine zj_mem (N := (zui (zui M 186 r0v1) 188 r0_6)) (zself_i (zr_n rfl e_i188) rfl) ?_
        refine zj_mem (N := (zui (zui (zui M 186 r0v1) 188 r0_6) 194 r0_21)) (zself_i (zr_n rfl (zr_n rfl e_i194)) rfl) ?_
        refine zj_mem (N := (zui (zui (zui (zui M 186 r0v1) 188 r0_6) 194 r0_21) 196 r0_23)) (zself_i (zr_n rfl (zr_n rfl (zr_n rfl e_i196))) rfl) ?_
        exact zj_iret dX12_meet_27 rfl hq
set_option maxRecDepth 20000 in
theorem LX12_meet_186 (Γ : zG) (M : zM) (r0 : Nat → Int32) (r0_6 : Nat → Int32) (r0_20 : Nat → Int32) (r0_21 : Nat → Int32) (r0_23 : Nat → Int32) (e_i186 : M.1 186 = r0) (e_i188 : M.1 188 = r0_6) (e_i193 : M.1 193 = r0_20) (e_i194 : M.1 194 = r0_21) (e_i196 : M.1 196 = r0_23) (a1 : Int32) (a2 : Int32) {res : Int32 × (Nat → Int32) × (Nat → Int32) × (Nat → Int32) × (Nat → Int32)} (hy : (fM_meet r0 r0_6 r0_20 r0_21 r0_23 a1 a2) = some res) : zK Γ 6 YX12_meet [.ref (zad Γ 186), .int a1, .int a2] M (fun v N => v = some (.int res.1) ∧ N = (zui (zui (zui (zui M 186 res.2.1) 188 res.2.2.1) 194 res.2.2.2.1) 196 res.2.2.2.2)) :=
  zK_of (by decide) (Nat.le_of_ble_eq_true rfl) (TX12_meet_186 Γ M r0 r0_6 r0_20 r0_21 r0_23 e_i186 e_i188 e_i193 e_i194 e_i196 a1 a2 hy ⟨rfl, rfl⟩)

noncomputable def fX_staysUnseen_L24 (r0_2 : Nat → Int32) (r0_2_2 : Nat → Int32) (r0_2_3 : Nat → Int32) (a1 : Int32) (a2 : Int32) (y2 : (Nat → Int32) × (Nat → Int32) × (Nat → Int32)) (r0_5v3 : Nat → Int32) (r0_5_0v4 : Nat → Int32) (r0_5_1v5 : Nat → Int32) (r0_5_4v6 : Nat → Int32) (r0_5_5v7 : Nat → Int32) (r0_5_6v8 : Nat → Int32) (r0_5_7v9 : Nat → Int32) (r0_5_8v10 : Nat → Int32) (x11 : Int32) : Option (((Nat → Int32) × (Nat → Int32) × (Nat → Int32) × (Nat → Int32) × (Nat → Int32) × (Nat → Int32) × (Nat → Int32) × (Nat → Int32) × Int32) ⊕ (Bool × (Nat → Int32) × (Nat → Int32) × (Nat → Int32) × (Nat → Int32) × (Nat → Int32) × (Nat → Int32) × (Nat → Int32) × (Nat → Int32) × (Nat → Int32) × (Nat → Int32))) :=
  (if 20 ≤ x11 then
  some (.inr (true, r0_5v3, r0_5_0v4, r0_5_1v5, y2.1, y2.2.1, r0_5_4v6, r0_5_5v7, r0_5_6v8, r0_5_7v9, r0_5_8v10))
  else
  (fDy_passMinutes r0_5v3 r0_5_0v4 r0_5_1v5 y2.1 y2.2.1 r0_5_4v6 r0_5_5v7 r0_5_6v8 r0_5_7v9 r0_5_8v10 r0_2 r0_2_2 r0_2_3 1).bind (fun (y20 : (Nat → Int32) × (Nat → Int32) × (Nat → Int32) × (Nat → Int32) × (Nat → Int32) × (Nat → Int32) × (Nat → Int32) × (Nat → Int32)) =>
  (fDy_whereIs y20.2.1 a1).bind (fun (y21 : Int32) =>
  (fDy_whereIs y20.2.1 a2).bind (fun (y22 : Int32) =>
  (if y21 = y22 then
  some (.inr (false, y20.1, y20.2.1, y20.2.2.1, y2.1, y2.2.1, y20.2.2.2.1, y20.2.2.2.2.1, y20.2.2.2.2.2.1, y20.2.2.2.2.2.2.1, y20.2.2.2.2.2.2.2))
  else
  (fPl_areBeside r0_2 r0_2_2 y21 y22).bind (fun (y24 : Bool) =>
  (if y24 = true then
  some (.inr (false, y20.1, y20.2.1, y20.2.2.1, y2.1, y2.2.1, y20.2.2.2.1, y20.2.2.2.2.1, y20.2.2.2.2.2.1, y20.2.2.2.2.2.2.1, y20.2.2.2.2.2.2.2))
  else
  zlet (x11 + 1) (fun (x26 : Int32) =>
  some (.inl (y20.1, y20.2.1, y20.2.2.1, y20.2.2.2.1, y20.2.2.2.2.1, y20.2.2.2.2.2.1, y20.2.2.2.2.2.2.1, y20.2.2.2.2.2.2.2, x26))))))))))
noncomputable def fX_staysUnseen (r0_2 : Nat → Int32) (r0_2_2 : Nat → Int32) (r0_2_3 : Nat → Int32) (r0_4 : Nat → Int32) (r0_4_0 : Nat → Int32) (r0_4_1 : Nat → Int32) (r0_4_2 : Nat → Int32) (r0_4_3 : Nat → Int32) (r0_4_4 : Nat → Int32) (r0_4_5 : Nat → Int32) (r0_4_6 : Nat → Int32) (r0_4_7 : Nat → Int32) (r0_5 : Nat → Int32) (r0_5_0 : Nat → Int32) (r0_5_1 : Nat → Int32) (r0_5_2 : Nat → Int32) (r0_5_3 : Nat → Int32) (r0_5_4 : Nat → Int32) (r0_5_5 : Nat → Int32) (r0_5_6 : Nat → Int32) (r0_5_7 : Nat → Int32) (r0_5_8 : Nat → Int32) (a1 : Int32) (a2 : Int32) (a3 : Int32) : Option (Bool × (Nat → Int32) × (Nat → Int32) × (Nat → Int32) × (Nat → Int32) × (Nat → Int32) × (Nat → Int32) × (Nat → Int32) × (Nat → Int32) × (Nat → Int32) × (Nat → Int32)) :=
  (fDy_copyFrom r0_5 r0_5_0 r0_5_1 r0_5_2 r0_5_3 r0_5_4 r0_5_5 r0_5_6 r0_5_7 r0_4 r0_4_0 r0_4_1 r0_4_2 r0_4_3 r0_4_4 r0_4_5 r0_4_6 r0_4_7).bind (fun (y1 : (Nat → Int32) × (Nat → Int32) × (Nat → Int32) × (Nat → Int32) × (Nat → Int32) × (Nat → Int32) × (Nat → Int32) × (Nat → Int32) × (Nat → Int32)) =>
  (fDy_followsInstead y1.2.2.2.1 y1.2.2.2.2.1 y1.2.2.2.2.2.2.1 a1 a2 a3).bind (fun (y2 : (Nat → Int32) × (Nat → Int32) × (Nat → Int32)) =>
  zLP (fun s => fX_staysUnseen_L24 r0_2 r0_2_2 r0_2_3 a1 a2 y2 s.1 s.2.1 s.2.2.1 s.2.2.2.1 s.2.2.2.2.1 s.2.2.2.2.2.1 s.2.2.2.2.2.2.1 s.2.2.2.2.2.2.2.1 s.2.2.2.2.2.2.2.2) (y1.1, y1.2.1, y1.2.2.1, y1.2.2.2.2.2.1, y2.2.2, y1.2.2.2.2.2.2.2.1, y1.2.2.2.2.2.2.2.2, r0_5_8, 0)))

set_option maxRecDepth 20000 in
theorem TX11_staysUnseen_0 (Γ : zG) {Q : Option Value → zM → Prop} (M : zM) (r0_2 : Nat → Int32) (r0_2_2 : Nat → Int32) (r0_2_3 : Nat → Int32) (r0_4 : Nat → Int32) (r0_4_0 : Nat → Int32) (r0_4_1 : Nat → Int32) (r0_4_2 : Nat → Int32) (r0_4_3 : Nat → Int32) (r0_4_4 : Nat → Int32) (r0_4_5 : Nat → Int32) (r0_4_6 : Nat → Int32) (r0_4_7 : Nat → Int32) (r0_5 : Nat → Int32) (r0_5_0 : Nat → Int32) (r0_5_1 : Nat → Int32) (r0_5_2 : Nat → Int32) (r0_5_3 : Nat → Int32) (r0_5_4 : Nat → Int32) (r0_5_5 : Nat → Int32) (r0_5_6 : Nat → Int32) (r0_5_7 : Nat → Int32) (r0_5_8 : Nat → Int32) (e_i5 : M.1 5 = r0_2) (e_i8 : M.1 8 = r0_2_2) (e_i9 : M.1 9 = r0_2_3) (e_i15 : M.1 15 = r0_4) (e_i16 : M.1 16 = r0_4_0) (e_i17 : M.1 17 = r0_4_1) (e_i18 : M.1 18 = r0_4_2) (e_i19 : M.1 19 = r0_4_3) (e_i20 : M.1 20 = r0_4_4) (e_i21 : M.1 21 = r0_4_5) (e_i22 : M.1 22 = r0_4_6) (e_i23 : M.1 23 = r0_4_7) (e_i25 : M.1 25 = r0_5) (e_i26 : M.1 26 = r0_5_0) (e_i27 : M.1 27 = r0_5_1) (e_i28 : M.1 28 = r0_5_2) (e_i29 : M.1 29 = r0_5_3) (e_i30 : M.1 30 = r0_5_4) (e_i31 : M.1 31 = r0_5_5) (e_i32 : M.1 32 = r0_5_6) (e_i33 : M.1 33 = r0_5_7) (e_i34 : M.1 34 = r0_5_8) (a1 : Int32) (a2 : Int32) (a3 : Int32) {res : Bool × (Nat → Int32) × (Nat → Int32) × (Nat → Int32) × (Nat → Int32) × (Nat → Int32) × (Nat → Int32) × (Nat → Int32) × (Nat → Int32) × (Nat → Int32) × (Nat → Int32)} (hy : (fX_staysUnseen r0_2 r0_2_2 r0_2_3 r0_4 r0_4_0 r0_4_1 r0_4_2 r0_4_3 r0_4_4 r0_4_5 r0_4_6 r0_4_7 r0_5 r0_5_0 r0_5_1 r0_5_2 r0_5_3 r0_5_4 r0_5_5 r0_5_6 r0_5_7 r0_5_8 a1 a2 a3) = some res) (hq : Q (some (.int (zb res.1))) (zui (zui (zui (zui (zui (zui (zui (zui (zui (zui M 25 res.2.1) 26 res.2.2.1) 27 res.2.2.2.1) 28 res.2.2.2.2.1) 29 res.2.2.2.2.2.1) 30 res.2.2.2.2.2.2.1) 31 res.2.2.2.2.2.2.2.1) 32 res.2.2.2.2.2.2.2.2.1) 33 res.2.2.2.2.2.2.2.2.2.1) 34 res.2.2.2.2.2.2.2.2.2.2)) : zR Γ 6 YX11_staysUnseen 0 [(0, .ref (zad Γ 0)), (1, .int a1), (2, .int a2), (3, .int a3)] [] M Q := by
  unfold fX_staysUnseen at hy
  refine zj_aload_n (pc' := 1) 0 dX11_staysUnseen_0 rfl rfl rfl ?_
  refine zj_getR (pc' := 4) (j := 25) dX11_staysUnseen_1 rfl flX11_42 sh0 rfl ?_
  refine zj_aload_n (pc' := 5) 0 dX11_staysUnseen_4 rfl rfl rfl ?_
  refine zj_getR (pc' := 8) (j := 15) dX11_staysUnseen_5 rfl flX11_38 sh0 rfl ?_
  obtain ⟨y1, hy1, hy⟩ := zt_b hy
  refine zj_V0 (pc' := 11) (z := YX1_copyFrom) (As := [.ref (zad Γ 15)]) (N := (zui (zui (zui (zui (zui (zui (zui (zui (zui M 25 y1.1) 26 y1.2.1) 27 y1.2.2.1) 28 y1.2.2.2.1) 29 y1.2.2.2.2.1) 30 y1.2.2.2.2.2.1) 31 y1.2.2.2.2.2.2.1) 32 y1.2.2.2.2.2.2.2.1) 33 y1.2.2.2.2.2.2.2.2)) dX11_staysUnseen_8 rfl mlX11_151 lkX1_copyFrom sh25 ⟨_, _, rfl⟩ rfl rfl (Nat.le_of_ble_eq_true rfl) (Nat.le_of_ble_eq_true rfl) (LX1_copyFrom_25_15 Γ _ r0_5 r0_5_0 r0_5_1 r0_5_2 r0_5_3 r0_5_4 r0_5_5 r0_5_6 r0_5_7 r0_4 r0_4_0 r0_4_1 r0_4_2 r0_4_3 r0_4_4 r0_4_5 r0_4_6 r0_4_7 e_i25 e_i26 e_i27 e_i28 e_i29 e_i30 e_i31 e_i32 e_i33 e_i15 e_i16 e_i17 e_i18 e_i19 e_i20 e_i21 e_i22 e_i23 hy1) ((zch_i (zch_i (zch_i (zch_i (zch_i (zch_i (zch_i (zch_i rfl rfl) rfl) rfl) rfl) rfl) rfl) rfl) rfl)).symm ?_
  refine zj_aload_n (pc' := 12) 0 dX11_staysUnseen_11 rfl rfl rfl ?_
  refine zj_getR (pc' := 15) (j := 25) dX11_staysUnseen_12 rfl flX11_42 sh0 rfl ?_
  refine zj_iload_n (pc' := 16) 1 dX11_staysUnseen_15 rfl rfl rfl ?_
  refine zj_iload_n (pc' := 17) 2 dX11_staysUnseen_16 rfl rfl rfl ?_
  refine zj_iload_n (pc' := 18) 3 dX11_staysUnseen_17 rfl rfl rfl ?_
  obtain ⟨y2, hy2, hy⟩ := zt_b hy
  refine zj_V0 (pc' := 21) (z := YX1_followsInstead) (As := [.int a1, .int a2, .int a3]) (N := (zui (zui (zui (zui (zui (zui (zui (zui (zui M 25 y1.1) 26 y1.2.1) 27 y1.2.2.1) 28 y2.1) 29 y2.2.1) 30 y1.2.2.2.2.2.1) 31 y2.2.2) 32 y1.2.2.2.2.2.2.2.1) 33 y1.2.2.2.2.2.2.2.2)) dX11_staysUnseen_18 rfl mlX11_402 lkX1_followsInstead sh25 ⟨_, _, rfl⟩ rfl rfl (Nat.le_of_ble_eq_true rfl) (Nat.le_of_ble_eq_true rfl) (LX1_followsInstead_25 Γ _ y1.2.2.2.1 y1.2.2.2.2.1 y1.2.2.2.2.2.2.1 (zr_n rfl (zr_n rfl (zr_n rfl (zr_n rfl (zr_n rfl zr_s))))) (zr_n rfl (zr_n rfl (zr_n rfl (zr_n rfl zr_s)))) (zr_n rfl (zr_n rfl zr_s)) a1 a2 a3 hy2) ((zch_i (zch_i (zm_n rfl (zm_n rfl (zm_n rfl (zm_n rfl (zm_n rfl zm_s))))) (zm_n rfl (zm_n rfl (zm_n rfl (zm_n rfl zm_s))))) (zm_n rfl (zm_n rfl zm_s)))).symm ?_
  refine zj_iconst (pc' := 22) dX11_staysUnseen_21 rfl kiconst_0 ?_
  refine zj_istore (pc' := 24) (L' := [(4, .int 0), (0, .ref (zad Γ 0)), (1, .int a1), (2, .int a2), (3, .int a3)]) dX11_staysUnseen_22 rfl (by decide) rfl ?_
  refine zj_loc [1, 2, 3, 0] rfl ?_
  refine zj_mem (N := (zui (zui (zui (zui (zui (zui (zui (zui (zui (zui M 25 y1.1) 26 y1.2.1) 27 y1.2.2.1) 28 y2.1) 29 y2.2.1) 30 y1.2.2.2.2.2.1) 31 y2.2.2) 32 y1.2.2.2.2.2.2.2.1) 33 y1.2.2.2.2.2.2.2.2) 34 r0_5_8)) (zself_i (zr_n rfl (zr_n rfl (zr_n rfl (zr_n rfl (zr_n rfl (zr_n rfl (zr_n rfl (zr_n rfl (zr_n rfl e_i34))))))))) rfl) ?_
  obtain ⟨n9, hn9⟩ := zLP_some hy
  have HL13 : ∀ (n : Nat) (r0_5v3 : Nat → Int32) (r0_5_0v4 : Nat → Int32) (r0_5_1v5 : Nat → Int32) (r0_5_4v6 : Nat → Int32) (r0_5_5v7 : Nat → Int32) (r0_5_6v8 : Nat → Int32) (r0_5_7v9 : Nat → Int32) (r0_5_8v10 : Nat → Int32) (x11 : Int32), zlp (fun s => fX_staysUnseen_L24 r0_2 r0_2_2 r0_2_3 a1 a2 y2 s.1 s.2.1 s.2.2.1 s.2.2.2.1 s.2.2.2.2.1 s.2.2.2.2.2.1 s.2.2.2.2.2.2.1 s.2.2.2.2.2.2.2.1 s.2.2.2.2.2.2.2.2) n (r0_5v3, r0_5_0v4, r0_5_1v5, r0_5_4v6, r0_5_5v7, r0_5_6v8, r0_5_7v9, r0_5_8v10, x11) = some res → zR Γ 6 YX11_staysUnseen 24 [(0, .ref (zad Γ 0)), (1, .int a1), (2, .int a2), (4, .int x11)] [] (zui (zui (zui (zui (zui (zui (zui (zui (zui (zui M 25 r0_5v3) 26 r0_5_0v4) 27 r0_5_1v5) 28 y2.1) 29 y2.2.1) 30 r0_5_4v6) 31 r0_5_5v7) 32 r0_5_6v8) 33 r0_5_7v9) 34 r0_5_8v10) Q := by
    intro n
    induction n with
    | zero => intro r0_5v3 r0_5_0v4 r0_5_1v5 r0_5_4v6 r0_5_5v7 r0_5_6v8 r0_5_7v9 r0_5_8v10 x11 hn9; cases hn9
    | succ n ih16 =>
      intro r0_5v3 r0_5_0v4 r0_5_1v5 r0_5_4v6 r0_5_5v7 r0_5_6v8 r0_5_7v9 r0_5_8v10 x11 hn9
      obtain ⟨o9, hb9, h17, h18⟩ := zlp_step hn9
      have hy : fX_staysUnseen_L24 r0_2 r0_2_2 r0_2_3 a1 a2 y2 r0_5v3 r0_5_0v4 r0_5_1v5 r0_5_4v6 r0_5_5v7 r0_5_6v8 r0_5_7v9 r0_5_8v10 x11 = some o9 := hb9
      unfold fX_staysUnseen_L24 at hy
      refine zj_iload (pc' := 26) 3 dX11_staysUnseen_24 rfl rfl ?_
      refine zj_bipush (pc' := 28) dX11_staysUnseen_26 rfl kbipush_20 ?_
      refine zj_icmp_ge (tgt := 92) (pc' := 31) dX11_staysUnseen_28 rfl (by decide) (fun c19 => ?_) (fun c19 => ?_)
      · have hy := zt_t hy c19
        refine zj_iconst (pc' := 93) dX11_staysUnseen_92 rfl kiconst_1 ?_
        have e9 := h18 _ (Option.some.inj hy).symm
        subst e9
        exact zj_bret (b := true) dX11_staysUnseen_93 rfl hq
      · have hy := zt_f hy c19
        refine zj_aload_n (pc' := 32) 0 dX11_staysUnseen_31 rfl rfl rfl ?_
        refine zj_getR (pc' := 35) (j := 25) dX11_staysUnseen_32 rfl flX11_42 sh0 rfl ?_
        refine zj_aload_n (pc' := 36) 0 dX11_staysUnseen_35 rfl rfl rfl ?_
        refine zj_getR (pc' := 39) (j := 5) dX11_staysUnseen_36 rfl flX11_28 sh0 rfl ?_
        refine zj_iconst (pc' := 40) dX11_staysUnseen_39 rfl kiconst_1 ?_
        obtain ⟨y20, hy20, hy⟩ := zt_b hy
        refine zj_V0 (pc' := 43) (z := YX1_passMinutes) (As := [.ref (zad Γ 5), .int 1]) (N := (zui (zui (zui (zui (zui (zui (zui (zui (zui (zui M 25 y20.1) 26 y20.2.1) 27 y20.2.2.1) 28 y2.1) 29 y2.2.1) 30 y20.2.2.2.1) 31 y20.2.2.2.2.1) 32 y20.2.2.2.2.2.1) 33 y20.2.2.2.2.2.2.1) 34 y20.2.2.2.2.2.2.2)) dX11_staysUnseen_40 rfl mlX11_258 lkX1_passMinutes sh25 ⟨_, _, rfl⟩ rfl rfl (Nat.le_of_ble_eq_true rfl) (Nat.le_of_ble_eq_true rfl) (LX1_passMinutes_25_5 Γ _ r0_5v3 r0_5_0v4 r0_5_1v5 y2.1 y2.2.1 r0_5_4v6 r0_5_5v7 r0_5_6v8 r0_5_7v9 r0_5_8v10 r0_2 r0_2_2 r0_2_3 (zr_n rfl (zr_n rfl (zr_n rfl (zr_n rfl (zr_n rfl (zr_n rfl (zr_n rfl (zr_n rfl (zr_n rfl zr_s))))))))) (zr_n rfl (zr_n rfl (zr_n rfl (zr_n rfl (zr_n rfl (zr_n rfl (zr_n rfl (zr_n rfl zr_s)))))))) (zr_n rfl (zr_n rfl (zr_n rfl (zr_n rfl (zr_n rfl (zr_n rfl (zr_n rfl zr_s))))))) (zr_n rfl (zr_n rfl (zr_n rfl (zr_n rfl (zr_n rfl (zr_n rfl zr_s)))))) (zr_n rfl (zr_n rfl (zr_n rfl (zr_n rfl (zr_n rfl zr_s))))) (zr_n rfl (zr_n rfl (zr_n rfl (zr_n rfl zr_s)))) (zr_n rfl (zr_n rfl (zr_n rfl zr_s))) (zr_n rfl (zr_n rfl zr_s)) (zr_n rfl zr_s) zr_s (zr_n rfl (zr_n rfl (zr_n rfl (zr_n rfl (zr_n rfl (zr_n rfl (zr_n rfl (zr_n rfl (zr_n rfl (zr_n rfl e_i5)))))))))) (zr_n rfl (zr_n rfl (zr_n rfl (zr_n rfl (zr_n rfl (zr_n rfl (zr_n rfl (zr_n rfl (zr_n rfl (zr_n rfl e_i8)))))))))) (zr_n rfl (zr_n rfl (zr_n rfl (zr_n rfl (zr_n rfl (zr_n rfl (zr_n rfl (zr_n rfl (zr_n rfl (zr_n rfl e_i9)))))))))) 1 hy20) ((zch_i (zch_i (zch_i (zch_i (zch_i (zch_i (zch_i (zm_n rfl (zm_n rfl (zm_n rfl (zm_n rfl (zm_n rfl (zm_n rfl (zm_n rfl (zm_n rfl (zm_n rfl zm_s))))))))) (zm_n rfl (zm_n rfl (zm_n rfl (zm_n rfl (zm_n rfl (zm_n rfl (zm_n rfl (zm_n rfl zm_s))))))))) (zm_n rfl (zm_n rfl (zm_n rfl (zm_n rfl (zm_n rfl (zm_n rfl (zm_n rfl zm_s)))))))) (zm_n rfl (zm_n rfl (zm_n rfl (zm_n rfl zm_s))))) (zm_n rfl (zm_n rfl (zm_n rfl zm_s)))) (zm_n rfl (zm_n rfl zm_s))) (zm_n rfl zm_s)) zm_s)).symm ?_
        refine zj_aload_n (pc' := 44) 0 dX11_staysUnseen_43 rfl rfl rfl ?_
        refine zj_getR (pc' := 47) (j := 25) dX11_staysUnseen_44 rfl flX11_42 sh0 rfl ?_
        refine zj_iload_n (pc' := 48) 1 dX11_staysUnseen_47 rfl rfl rfl ?_
        obtain ⟨y21, hy21, hy⟩ := zt_b hy
        refine zj_V1 (pc' := 51) (z := YX1_whereIs) (As := [.int a1]) (N := (zui (zui (zui (zui (zui (zui (zui (zui (zui (zui M 25 y20.1) 26 y20.2.1) 27 y20.2.2.1) 28 y2.1) 29 y2.2.1) 30 y20.2.2.2.1) 31 y20.2.2.2.2.1) 32 y20.2.2.2.2.2.1) 33 y20.2.2.2.2.2.2.1) 34 y20.2.2.2.2.2.2.2)) dX11_staysUnseen_48 rfl mlX11_166 lkX1_whereIs sh25 ⟨_, _, rfl⟩ rfl rfl (Nat.le_of_ble_eq_true rfl) (Nat.le_of_ble_eq_true rfl) (LX1_whereIs_25 Γ _ y20.2.1 (zr_n rfl (zr_n rfl (zr_n rfl (zr_n rfl (zr_n rfl (zr_n rfl (zr_n rfl (zr_n rfl zr_s)))))))) a1 hy21) rfl ?_
        refine zj_istore (pc' := 53) (L' := [(5, .int y21), (0, .ref (zad Γ 0)), (1, .int a1), (2, .int a2), (4, .int x11)]) dX11_staysUnseen_51 rfl (by decide) rfl ?_
        refine zj_aload_n (pc' := 54) 1 dX11_staysUnseen_53 rfl rfl rfl ?_
        refine zj_getR (pc' := 57) (j := 25) dX11_staysUnseen_54 rfl flX11_42 sh0 rfl ?_
        refine zj_iload_n (pc' := 58) 3 dX11_staysUnseen_57 rfl rfl rfl ?_
        obtain ⟨y22, hy22, hy⟩ := zt_b hy
        refine zj_V1 (pc' := 61) (z := YX1_whereIs) (As := [.int a2]) (N := (zui (zui (zui (zui (zui (zui (zui (zui (zui (zui M 25 y20.1) 26 y20.2.1) 27 y20.2.2.1) 28 y2.1) 29 y2.2.1) 30 y20.2.2.2.1) 31 y20.2.2.2.2.1) 32 y20.2.2.2.2.2.1) 33 y20.2.2.2.2.2.2.1) 34 y20.2.2.2.2.2.2.2)) dX11_staysUnseen_58 rfl mlX11_166 lkX1_whereIs sh25 ⟨_, _, rfl⟩ rfl rfl (Nat.le_of_ble_eq_true rfl) (Nat.le_of_ble_eq_true rfl) (LX1_whereIs_25 Γ _ y20.2.1 (zr_n rfl (zr_n rfl (zr_n rfl (zr_n rfl (zr_n rfl (zr_n rfl (zr_n rfl (zr_n rfl zr_s)))))))) a2 hy22) rfl ?_
        refine zj_istore (pc' := 63) (L' := [(6, .int y22), (5, .int y21), (0, .ref (zad Γ 0)), (1, .int a1), (2, .int a2), (4, .int x11)]) dX11_staysUnseen_61 rfl (by decide) rfl ?_
        refine zj_iload (pc' := 65) 1 dX11_staysUnseen_63 rfl rfl ?_
        refine zj_iload (pc' := 67) 0 dX11_staysUnseen_65 rfl rfl ?_
        refine zj_icmp_eq (tgt := 84) (pc' := 70) dX11_staysUnseen_67 rfl (by decide) (fun c23 => ?_) (fun c23 => ?_)
        · have hy := zt_t hy c23
          refine zj_iconst (pc' := 85) dX11_staysUnseen_84 rfl kiconst_0 ?_
          have e9 := h18 _ (Option.some.inj hy).symm
          subst e9
          exact zj_bret (b := false) dX11_staysUnseen_85 rfl hq
        · have hy := zt_f hy c23
          refine zj_aload_n (pc' := 71) 2 dX11_staysUnseen_70 rfl rfl rfl ?_
          refine zj_getR (pc' := 74) (j := 5) dX11_staysUnseen_71 rfl flX11_28 sh0 rfl ?_
          refine zj_iload (pc' := 76) 1 dX11_staysUnseen_74 rfl rfl ?_
          refine zj_iload (pc' := 78) 0 dX11_staysUnseen_76 rfl rfl ?_
          obtain ⟨y24, hy24, hy⟩ := zt_b hy
          refine zj_V1 (pc' := 81) (z := YX7_areBeside) (As := [.int y21, .int y22]) (N := (zui (zui (zui (zui (zui (zui (zui (zui (zui (zui M 25 y20.1) 26 y20.2.1) 27 y20.2.2.1) 28 y2.1) 29 y2.2.1) 30 y20.2.2.2.1) 31 y20.2.2.2.2.1) 32 y20.2.2.2.2.2.1) 33 y20.2.2.2.2.2.2.1) 34 y20.2.2.2.2.2.2.2)) dX11_staysUnseen_78 rfl mlX11_288 lkX7_areBeside sh5 ⟨_, _, rfl⟩ rfl rfl (Nat.le_of_ble_eq_true rfl) (Nat.le_of_ble_eq_true rfl) (LX7_areBeside_5 Γ _ r0_2 r0_2_2 (zr_n rfl (zr_n rfl (zr_n rfl (zr_n rfl (zr_n rfl (zr_n rfl (zr_n rfl (zr_n rfl (zr_n rfl (zr_n rfl e_i5)))))))))) (zr_n rfl (zr_n rfl (zr_n rfl (zr_n rfl (zr_n rfl (zr_n rfl (zr_n rfl (zr_n rfl (zr_n rfl (zr_n rfl e_i8)))))))))) y21 y22 hy24) rfl ?_
          refine zj_bif_eq (tgt := 86) (pc' := 84) dX11_staysUnseen_81 rfl (by decide) (fun c25 => ?_) (fun c25 => ?_)
          · have hy := zt_f hy c25
            obtain ⟨x26, ex26⟩ : ∃ z : Int32, z = (x11 + 1) := ⟨_, rfl⟩
            have hy := zlet_at ex26 hy
            refine zj_iinc (pc' := 89) 5 (L' := [(4, .int x26), (6, .int y22), (5, .int y21), (0, .ref (zad Γ 0)), (1, .int a1), (2, .int a2)]) dX11_staysUnseen_86 rfl rfl (by decide) (by rw [ci1, ← ex26]; rfl) ?_
            refine zj_goto (tgt := 24) dX11_staysUnseen_89 (by decide) ?_
            have hn9 := h17 _ (Option.some.inj hy).symm
            refine zj_loc [3, 4, 5, 0] rfl ?_
            exact ih16 _ _ _ _ _ _ _ _ _ hn9
          · have hy := zt_t hy c25
            refine zj_iconst (pc' := 85) dX11_staysUnseen_84 rfl kiconst_0 ?_
            have e9 := h18 _ (Option.some.inj hy).symm
            subst e9
            exact zj_bret (b := false) dX11_staysUnseen_85 rfl hq
  exact HL13 n9 _ _ _ _ _ _ _ _ _ hn9
set_option maxRecDepth 20000 in
theorem LX11_staysUnseen_0 (Γ : zG) (M : zM) (r0_2 : Nat → Int32) (r0_2_2 : Nat → Int32) (r0_2_3 : Nat → Int32) (r0_4 : Nat → Int32) (r0_4_0 : Nat → Int32) (r0_4_1 : Nat → Int32) (r0_4_2 : Nat → Int32) (r0_4_3 : Nat → Int32) (r0_4_4 : Nat → Int32) (r0_4_5 : Nat → Int32) (r0_4_6 : Nat → Int32) (r0_4_7 : Nat → Int32) (r0_5 : Nat → Int32) (r0_5_0 : Nat → Int32) (r0_5_1 : Nat → Int32) (r0_5_2 : Nat → Int32) (r0_5_3 : Nat → Int32) (r0_5_4 : Nat → Int32) (r0_5_5 : Nat → Int32) (r0_5_6 : Nat → Int32) (r0_5_7 : Nat → Int32) (r0_5_8 : Nat → Int32) (e_i5 : M.1 5 = r0_2) (e_i8 : M.1 8 = r0_2_2) (e_i9 : M.1 9 = r0_2_3) (e_i15 : M.1 15 = r0_4) (e_i16 : M.1 16 = r0_4_0) (e_i17 : M.1 17 = r0_4_1) (e_i18 : M.1 18 = r0_4_2) (e_i19 : M.1 19 = r0_4_3) (e_i20 : M.1 20 = r0_4_4) (e_i21 : M.1 21 = r0_4_5) (e_i22 : M.1 22 = r0_4_6) (e_i23 : M.1 23 = r0_4_7) (e_i25 : M.1 25 = r0_5) (e_i26 : M.1 26 = r0_5_0) (e_i27 : M.1 27 = r0_5_1) (e_i28 : M.1 28 = r0_5_2) (e_i29 : M.1 29 = r0_5_3) (e_i30 : M.1 30 = r0_5_4) (e_i31 : M.1 31 = r0_5_5) (e_i32 : M.1 32 = r0_5_6) (e_i33 : M.1 33 = r0_5_7) (e_i34 : M.1 34 = r0_5_8) (a1 : Int32) (a2 : Int32) (a3 : Int32) {res : Bool × (Nat → Int32) × (Nat → Int32) × (Nat → Int32) × (Nat → Int32) × (Nat → Int32) × (Nat → Int32) × (Nat → Int32) × (Nat → Int32) × (Nat → Int32) × (Nat → Int32)} (hy : (fX_staysUnseen r0_2 r0_2_2 r0_2_3 r0_4 r0_4_0 r0_4_1 r0_4_2 r0_4_3 r0_4_4 r0_4_5 r0_4_6 r0_4_7 r0_5 r0_5_0 r0_5_1 r0_5_2 r0_5_3 r0_5_4 r0_5_5 r0_5_6 r0_5_7 r0_5_8 a1 a2 a3) = some res) : zK Γ 6 YX11_staysUnseen [.ref (zad Γ 0), .int a1, .int a2, .int a3] M (fun v N => v = some (.int (zb res.1)) ∧ N = (zui (zui (zui (zui (zui (zui (zui (zui (zui (zui M 25 res.2.1) 26 res.2.2.1) 27 res.2.2.2.1) 28 res.2.2.2.2.1) 29 res.2.2.2.2.2.1) 30 res.2.2.2.2.2.2.1) 31 res.2.2.2.2.2.2.2.1) 32 res.2.2.2.2.2.2.2.2.1) 33 res.2.2.2.2.2.2.2.2.2.1) 34 res.2.2.2.2.2.2.2.2.2.2)) :=
  zK_of (by decide) (Nat.le_of_ble_eq_true rfl) (TX11_staysUnseen_0 Γ M r0_2 r0_2_2 r0_2_3 r0_4 r0_4_0 r0_4_1 r0_4_2 r0_4_3 r0_4_4 r0_4_5 r0_4_6 r0_4_7 r0_5 r0_5_0 r0_5_1 r0_5_2 r0_5_3 r0_5_4 r0_5_5 r0_5_6 r0_5_7 r0_5_8 e_i5 e_i8 e_i9 e_i15 e_i16 e_i17 e_i18 e_i19 e_i20 e_i21 e_i22 e_i23 e_i25 e_i26 e_i27 e_i28 e_i29 e_i30 e_i31 e_i32 e_i33 e_i34 a1 a2 a3 hy ⟨rfl, rfl⟩)

noncomputable def fX_proper_L31 (r0_2 : Nat → Int32) (r0_2_2 : Nat → Int32) (r0_2_3 : Nat → Int32) (r0_4 : Nat → Int32) (r0_4_0 : Nat → Int32) (r0_4_1 : Nat → Int32) (r0_4_2 : Nat → Int32) (r0_4_3 : Nat → Int32) (r0_4_4 : Nat → Int32) (r0_4_5 : Nat → Int32) (r0_4_6 : Nat → Int32) (r0_4_7 : Nat → Int32) (a1 : Int32) (a2 : Int32) (r0_5v4 : Nat → Int32) (r0_5_0v5 : Nat → Int32) (r0_5_1v6 : Nat → Int32) (r0_5_2v7 : Nat → Int32) (r0_5_3v8 : Nat → Int32) (r0_5_4v9 : Nat → Int32) (r0_5_5v10 : Nat → Int32) (r0_5_6v11 : Nat → Int32) (r0_5_7v12 : Nat → Int32) (r0_5_8v13 : Nat → Int32) (x14 : Int32) : Option (((Nat → Int32) × (Nat → Int32) × (Nat → Int32) × (Nat → Int32) × (Nat → Int32) × (Nat → Int32) × (Nat → Int32) × (Nat → Int32) × (Nat → Int32) × (Nat → Int32) × Int32) ⊕ (Int32 × (Nat → Int32) × (Nat → Int32) × (Nat → Int32) × (Nat → Int32) × (Nat → Int32) × (Nat → Int32) × (Nat → Int32) × (Nat → Int32) × (Nat → Int32) × (Nat → Int32))) :=
  (if 5 < x14 then
  some (.inr ((-1), r0_5v4, r0_5_0v5, r0_5_1v6, r0_5_2v7, r0_5_3v8, r0_5_4v9, r0_5_5v10, r0_5_6v11, r0_5_7v12, r0_5_8v13))
  else
  (fX_staysUnseen r0_2 r0_2_2 r0_2_3 r0_4 r0_4_0 r0_4_1 r0_4_2 r0_4_3 r0_4_4 r0_4_5 r0_4_6 r0_4_7 r0_5v4 r0_5_0v5 r0_5_1v6 r0_5_2v7 r0_5_3v8 r0_5_4v9 r0_5_5v10 r0_5_6v11 r0_5_7v12 r0_5_8v13 a1 a2 x14).bind (fun (y23 : Bool × (Nat → Int32) × (Nat → Int32) × (Nat → Int32) × (Nat → Int32) × (Nat → Int32) × (Nat → Int32) × (Nat → Int32) × (Nat → Int32) × (Nat → Int32) × (Nat → Int32)) =>
  (if y23.1 = true then
  some (.inr (x14, y23.2.1, y23.2.2.1, y23.2.2.2.1, y23.2.2.2.2.1, y23.2.2.2.2.2.1, y23.2.2.2.2.2.2.1, y23.2.2.2.2.2.2.2.1, y23.2.2.2.2.2.2.2.2.1, y23.2.2.2.2.2.2.2.2.2.1, y23.2.2.2.2.2.2.2.2.2.2))
  else
  zlet (x14 + 1) (fun (x25 : Int32) =>
  some (.inl (y23.2.1, y23.2.2.1, y23.2.2.2.1, y23.2.2.2.2.1, y23.2.2.2.2.2.1, y23.2.2.2.2.2.2.1, y23.2.2.2.2.2.2.2.1, y23.2.2.2.2.2.2.2.2.1, y23.2.2.2.2.2.2.2.2.2.1, y23.2.2.2.2.2.2.2.2.2.2, x25))))))
noncomputable def fX_proper (r0_2 : Nat → Int32) (r0_2_2 : Nat → Int32) (r0_2_3 : Nat → Int32) (r0_4 : Nat → Int32) (r0_4_0 : Nat → Int32) (r0_4_1 : Nat → Int32) (r0_4_2 : Nat → Int32) (r0_4_3 : Nat → Int32) (r0_4_4 : Nat → Int32) (r0_4_5 : Nat → Int32) (r0_4_6 : Nat → Int32) (r0_4_7 : Nat → Int32) (r0_5 : Nat → Int32) (r0_5_0 : Nat → Int32) (r0_5_1 : Nat → Int32) (r0_5_2 : Nat → Int32) (r0_5_3 : Nat → Int32) (r0_5_4 : Nat → Int32) (r0_5_5 : Nat → Int32) (r0_5_6 : Nat → Int32) (r0_5_7 : Nat → Int32) (r0_5_8 : Nat → Int32) (a1 : Int32) (a2 : Int32) : Option (Int32 × (Nat → Int32) × (Nat → Int32) × (Nat → Int32) × (Nat → Int32) × (Nat → Int32) × (Nat → Int32) × (Nat → Int32) × (Nat → Int32) × (Nat → Int32) × (Nat → Int32)) :=
  (if (fPl_hasPerson r0_2 a1) = true then
  (if (fPl_hasPerson r0_2 a2) = true then
  (if a1 = a2 then
  some ((-1), r0_5, r0_5_0, r0_5_1, r0_5_2, r0_5_3, r0_5_4, r0_5_5, r0_5_6, r0_5_7, r0_5_8)
  else
  zLP (fun s => fX_proper_L31 r0_2 r0_2_2 r0_2_3 r0_4 r0_4_0 r0_4_1 r0_4_2 r0_4_3 r0_4_4 r0_4_5 r0_4_6 r0_4_7 a1 a2 s.1 s.2.1 s.2.2.1 s.2.2.2.1 s.2.2.2.2.1 s.2.2.2.2.2.1 s.2.2.2.2.2.2.1 s.2.2.2.2.2.2.2.1 s.2.2.2.2.2.2.2.2.1 s.2.2.2.2.2.2.2.2.2.1 s.2.2.2.2.2.2.2.2.2.2) (r0_5, r0_5_0, r0_5_1, r0_5_2, r0_5_3, r0_5_4, r0_5_5, r0_5_6, r0_5_7, r0_5_8, 1))
  else
  some ((-1), r0_5, r0_5_0, r0_5_1, r0_5_2, r0_5_3, r0_5_4, r0_5_5, r0_5_6, r0_5_7, r0_5_8))
  else
  some ((-1), r0_5, r0_5_0, r0_5_1, r0_5_2, r0_5_3, r0_5_4, r0_5_5, r0_5_6, r0_5_7, r0_5_8))

set_option maxRecDepth 20000 in
theorem TX11_proper_0 (Γ : zG) {Q : Option Value → zM → Prop} (M : zM) (r0_2 : Nat → Int32) (r0_2_2 : Nat → Int32) (r0_2_3 : Nat → Int32) (r0_4 : Nat → Int32) (r0_4_0 : Nat → Int32) (r0_4_1 : Nat → Int32) (r0_4_2 : Nat → Int32) (r0_4_3 : Nat → Int32) (r0_4_4 : Nat → Int32) (r0_4_5 : Nat → Int32) (r0_4_6 : Nat → Int32) (r0_4_7 : Nat → Int32) (r0_5 : Nat → Int32) (r0_5_0 : Nat → Int32) (r0_5_1 : Nat → Int32) (r0_5_2 : Nat → Int32) (r0_5_3 : Nat → Int32) (r0_5_4 : Nat → Int32) (r0_5_5 : Nat → Int32) (r0_5_6 : Nat → Int32) (r0_5_7 : Nat → Int32) (r0_5_8 : Nat → Int32) (e_i5 : M.1 5 = r0_2) (e_i8 : M.1 8 = r0_2_2) (e_i9 : M.1 9 = r0_2_3) (e_i15 : M.1 15 = r0_4) (e_i16 : M.1 16 = r0_4_0) (e_i17 : M.1 17 = r0_4_1) (e_i18 : M.1 18 = r0_4_2) (e_i19 : M.1 19 = r0_4_3) (e_i20 : M.1 20 = r0_4_4) (e_i21 : M.1 21 = r0_4_5) (e_i22 : M.1 22 = r0_4_6) (e_i23 : M.1 23 = r0_4_7) (e_i25 : M.1 25 = r0_5) (e_i26 : M.1 26 = r0_5_0) (e_i27 : M.1 27 = r0_5_1) (e_i28 : M.1 28 = r0_5_2) (e_i29 : M.1 29 = r0_5_3) (e_i30 : M.1 30 = r0_5_4) (e_i31 : M.1 31 = r0_5_5) (e_i32 : M.1 32 = r0_5_6) (e_i33 : M.1 33 = r0_5_7) (e_i34 : M.1 34 = r0_5_8) (a1 : Int32) (a2 : Int32) {res : Int32 × (Nat → Int32) × (Nat → Int32) × (Nat → Int32) × (Nat → Int32) × (Nat → Int32) × (Nat → Int32) × (Nat → Int32) × (Nat → Int32) × (Nat → Int32) × (Nat → Int32)} (hy : (fX_proper r0_2 r0_2_2 r0_2_3 r0_4 r0_4_0 r0_4_1 r0_4_2 r0_4_3 r0_4_4 r0_4_5 r0_4_6 r0_4_7 r0_5 r0_5_0 r0_5_1 r0_5_2 r0_5_3 r0_5_4 r0_5_5 r0_5_6 r0_5_7 r0_5_8 a1 a2) = some res) (hq : Q (some (.int res.1)) (zui (zui (zui (zui (zui (zui (zui (zui (zui (zui M 25 res.2.1) 26 res.2.2.1) 27 res.2.2.2.1) 28 res.2.2.2.2.1) 29 res.2.2.2.2.2.1) 30 res.2.2.2.2.2.2.1) 31 res.2.2.2.2.2.2.2.1) 32 res.2.2.2.2.2.2.2.2.1) 33 res.2.2.2.2.2.2.2.2.2.1) 34 res.2.2.2.2.2.2.2.2.2.2)) : zR Γ 7 YX11_proper 0 [(0, .ref (zad Γ 0)), (1, .int a1), (2, .int a2)] [] M Q := by
  unfold fX_proper at hy
  refine zj_aload_n (pc' := 1) 0 dX11_proper_0 rfl rfl rfl ?_
  refine zj_getR (pc' := 4) (j := 5) dX11_proper_1 rfl flX11_28 sh0 rfl ?_
  refine zj_iload_n (pc' := 5) 1 dX11_proper_4 rfl rfl rfl ?_
  refine zj_V1 (pc' := 8) (z := YX7_hasPerson) (As := [.int a1]) (N := M) dX11_proper_5 rfl mlX11_156 lkX7_hasPerson sh5 ⟨_, _, rfl⟩ rfl rfl (Nat.le_of_ble_eq_true rfl) (Nat.le_of_ble_eq_true rfl) (LX7_hasPerson_5 Γ _ r0_2 e_i5 a1 rfl) rfl ?_
  refine zj_bif_eq (tgt := 27) (pc' := 11) dX11_proper_8 rfl (by decide) (fun c1 => ?_) (fun c1 => ?_)
  · have hy := zt_f hy c1
    refine zj_iconst (pc' := 28) dX11_proper_27 rfl kiconst_m1 ?_
    have e9 := Option.some.inj hy
    subst e9
    refine zj_mem (N := (zui M 25 r0_5)) (zself_i e_i25 rfl) ?_
    refine zj_mem (N := (zui (zui M 25 r0_5) 26 r0_5_0)) (zself_i (zr_n rfl e_i26) rfl) ?_
    refine zj_mem (N := (zui (zui (zui M 25 r0_5) 26 r0_5_0) 27 r0_5_1)) (zself_i (zr_n rfl (zr_n rfl e_i27)) rfl) ?_
    refine zj_mem (N := (zui (zui (zui (zui M 25 r0_5) 26 r0_5_0) 27 r0_5_1) 28 r0_5_2)) (zself_i (zr_n rfl (zr_n rfl (zr_n rfl e_i28))) rfl) ?_
    refine zj_mem (N := (zui (zui (zui (zui (zui M 25 r0_5) 26 r0_5_0) 27 r0_5_1) 28 r0_5_2) 29 r0_5_3)) (zself_i (zr_n rfl (zr_n rfl (zr_n rfl (zr_n rfl e_i29)))) rfl) ?_
    refine zj_mem (N := (zui (zui (zui (zui (zui (zui M 25 r0_5) 26 r0_5_0) 27 r0_5_1) 28 r0_5_2) 29 r0_5_3) 30 r0_5_4)) (zself_i (zr_n rfl (zr_n rfl (zr_n rfl (zr_n rfl (zr_n rfl e_i30))))) rfl) ?_
    refine zj_mem (N := (zui (zui (zui (zui (zui (zui (zui M 25 r0_5) 26 r0_5_0) 27 r0_5_1) 28 r0_5_2) 29 r0_5_3) 30 r0_5_4) 31 r0_5_5)) (zself_i (zr_n rfl (zr_n rfl (zr_n rfl (zr_n rfl (zr_n rfl (zr_n rfl e_i31)))))) rfl) ?_
    refine zj_mem (N := (zui (zui (zui (zui (zui (zui (zui (zui M 25 r0_5) 26 r0_5_0) 27 r0_5_1) 28 r0_5_2) 29 r0_5_3) 30 r0_5_4) 31 r0_5_5) 32 r0_5_6)) (zself_i (zr_n rfl (zr_n rfl (zr_n rfl (zr_n rfl (zr_n rfl (zr_n rfl (zr_n rfl e_i32))))))) rfl) ?_
    refine zj_mem (N := (zui (zui (zui (zui (zui (zui (zui (zui (zui M 25 r0_5) 26 r0_5_0) 27 r0_5_1) 28 r0_5_2) 29 r0_5_3) 30 r0_5_4) 31 r0_5_5) 32 r0_5_6) 33 r0_5_7)) (zself_i (zr_n rfl (zr_n rfl (zr_n rfl (zr_n rfl (zr_n rfl (zr_n rfl (zr_n rfl (zr_n rfl e_i33)))))))) rfl) ?_
    refine zj_mem (N := (zui (zui (zui (zui (zui (zui (zui (zui (zui (zui M 25 r0_5) 26 r0_5_0) 27 r0_5_1) 28 r0_5_2) 29 r0_5_3) 30 r0_5_4) 31 r0_5_5) 32 r0_5_6) 33 r0_5_7) 34 r0_5_8)) (zself_i (zr_n rfl (zr_n rfl (zr_n rfl (zr_n rfl (zr_n rfl (zr_n rfl (zr_n rfl (zr_n rfl (zr_n rfl e_i34))))))))) rfl) ?_
    exact zj_iret dX11_proper_28 rfl hq
  · have hy := zt_t hy c1
    refine zj_aload_n (pc' := 12) 0 dX11_proper_11 rfl rfl rfl ?_
    refine zj_getR (pc' := 15) (j := 5) dX11_proper_12 rfl flX11_28 sh0 rfl ?_
    refine zj_iload_n (pc' := 16) 2 dX11_proper_15 rfl rfl rfl ?_
    refine zj_V1 (pc' := 19) (z := YX7_hasPerson) (As := [.int a2]) (N := M) dX11_proper_16 rfl mlX11_156 lkX7_hasPerson sh5 ⟨_, _, rfl⟩ rfl rfl (Nat.le_of_ble_eq_true rfl) (Nat.le_of_ble_eq_true rfl) (LX7_hasPerson_5 Γ _ r0_2 e_i5 a2 rfl) rfl ?_
    refine zj_bif_eq (tgt := 27) (pc' := 22) dX11_proper_19 rfl (by decide) (fun c2 => ?_) (fun c2 => ?_)
    · have hy := zt_f hy c2
      refine zj_iconst (pc' := 28) dX11_proper_27 rfl kiconst_m1 ?_
      have e9 := Option.some.inj hy
      subst e9
      refine zj_mem (N := (zui M 25 r0_5)) (zself_i e_i25 rfl) ?_
      refine zj_mem (N := (zui (zui M 25 r0_5) 26 r0_5_0)) (zself_i (zr_n rfl e_i26) rfl) ?_
      refine zj_mem (N := (zui (zui (zui M 25 r0_5) 26 r0_5_0) 27 r0_5_1)) (zself_i (zr_n rfl (zr_n rfl e_i27)) rfl) ?_
      refine zj_mem (N := (zui (zui (zui (zui M 25 r0_5) 26 r0_5_0) 27 r0_5_1) 28 r0_5_2)) (zself_i (zr_n rfl (zr_n rfl (zr_n rfl e_i28))) rfl) ?_
      refine zj_mem (N := (zui (zui (zui (zui (zui M 25 r0_5) 26 r0_5_0) 27 r0_5_1) 28 r0_5_2) 29 r0_5_3)) (zself_i (zr_n rfl (zr_n rfl (zr_n rfl (zr_n rfl e_i29)))) rfl) ?_
      refine zj_mem (N := (zui (zui (zui (zui (zui (zui M 25 r0_5) 26 r0_5_0) 27 r0_5_1) 28 r0_5_2) 29 r0_5_3) 30 r0_5_4)) (zself_i (zr_n rfl (zr_n rfl (zr_n rfl (zr_n rfl (zr_n rfl e_i30))))) rfl) ?_
      refine zj_mem (N := (zui (zui (zui (zui (zui (zui (zui M 25 r0_5) 26 r0_5_0) 27 r0_5_1) 28 r0_5_2) 29 r0_5_3) 30 r0_5_4) 31 r0_5_5)) (zself_i (zr_n rfl (zr_n rfl (zr_n rfl (zr_n rfl (zr_n rfl (zr_n rfl e_i31)))))) rfl) ?_
      refine zj_mem (N := (zui (zui (zui (zui (zui (zui (zui (zui M 25 r0_5) 26 r0_5_0) 27 r0_5_1) 28 r0_5_2) 29 r0_5_3) 30 r0_5_4) 31 r0_5_5) 32 r0_5_6)) (zself_i (zr_n rfl (zr_n rfl (zr_n rfl (zr_n rfl (zr_n rfl (zr_n rfl (zr_n rfl e_i32))))))) rfl) ?_
      refine zj_mem (N := (zui (zui (zui (zui (zui (zui (zui (zui (zui M 25 r0_5) 26 r0_5_0) 27 r0_5_1) 28 r0_5_2) 29 r0_5_3) 30 r0_5_4) 31 r0_5_5) 32 r0_5_6) 33 r0_5_7)) (zself_i (zr_n rfl (zr_n rfl (zr_n rfl (zr_n rfl (zr_n rfl (zr_n rfl (zr_n rfl (zr_n rfl e_i33)))))))) rfl) ?_
      refine zj_mem (N := (zui (zui (zui (zui (zui (zui (zui (zui (zui (zui M 25 r0_5) 26 r0_5_0) 27 r0_5_1) 28 r0_5_2) 29 r0_5_3) 30 r0_5_4) 31 r0_5_5) 32 r0_5_6) 33 r0_5_7) 34 r0_5_8)) (zself_i (zr_n rfl (zr_n rfl (zr_n rfl (zr_n rfl (zr_n rfl (zr_n rfl (zr_n rfl (zr_n rfl (zr_n rfl e_i34))))))))) rfl) ?_
      exact zj_iret dX11_proper_28 rfl hq
    · have hy := zt_t hy c2
      refine zj_iload_n (pc' := 23) 1 dX11_proper_22 rfl rfl rfl ?_
      refine zj_iload_n (pc' := 24) 2 dX11_proper_23 rfl rfl rfl ?_
      refine zj_icmp_ne (tgt := 29) (pc' := 27) dX11_proper_24 rfl (by decide) (fun c3 => ?_) (fun c3 => ?_)
      · have hy := zt_f hy c3
        refine zj_iconst (pc' := 30) dX11_proper_29 rfl kiconst_1 ?_
        refine zj_istore_n (pc' := 31) (L' := [(3, .int 1), (0, .ref (zad Γ 0)), (1, .int a1), (2, .int a2)]) dX11_proper_30 rfl rfl (by decide) rfl ?_
        refine zj_loc [1, 2, 3, 0] rfl ?_
        refine zj_mem (N := (zui M 25 r0_5)) (zself_i e_i25 rfl) ?_
        refine zj_mem (N := (zui (zui M 25 r0_5) 26 r0_5_0)) (zself_i (zr_n rfl e_i26) rfl) ?_
        refine zj_mem (N := (zui (zui (zui M 25 r0_5) 26 r0_5_0) 27 r0_5_1)) (zself_i (zr_n rfl (zr_n rfl e_i27)) rfl) ?_
        refine zj_mem (N := (zui (zui (zui (zui M 25 r0_5) 26 r0_5_0) 27 r0_5_1) 28 r0_5_2)) (zself_i (zr_n rfl (zr_n rfl (zr_n rfl e_i28))) rfl) ?_
        refine zj_mem (N := (zui (zui (zui (zui (zui M 25 r0_5) 26 r0_5_0) 27 r0_5_1) 28 r0_5_2) 29 r0_5_3)) (zself_i (zr_n rfl (zr_n rfl (zr_n rfl (zr_n rfl e_i29)))) rfl) ?_
        refine zj_mem (N := (zui (zui (zui (zui (zui (zui M 25 r0_5) 26 r0_5_0) 27 r0_5_1) 28 r0_5_2) 29 r0_5_3) 30 r0_5_4)) (zself_i (zr_n rfl (zr_n rfl (zr_n rfl (zr_n rfl (zr_n rfl e_i30))))) rfl) ?_
        refine zj_mem (N := (zui (zui (zui (zui (zui (zui (zui M 25 r0_5) 26 r0_5_0) 27 r0_5_1) 28 r0_5_2) 29 r0_5_3) 30 r0_5_4) 31 r0_5_5)) (zself_i (zr_n rfl (zr_n rfl (zr_n rfl (zr_n rfl (zr_n rfl (zr_n rfl e_i31)))))) rfl) ?_
        refine zj_mem (N := (zui (zui (zui (zui (zui (zui (zui (zui M 25 r0_5) 26 r0_5_0) 27 r0_5_1) 28 r0_5_2) 29 r0_5_3) 30 r0_5_4) 31 r0_5_5) 32 r0_5_6)) (zself_i (zr_n rfl (zr_n rfl (zr_n rfl (zr_n rfl (zr_n rfl (zr_n rfl (zr_n rfl e_i32))))))) rfl) ?_
        refine zj_mem (N := (zui (zui (zui (zui (zui (zui (zui (zui (zui M 25 r0_5) 26 r0_5_0) 27 r0_5_1) 28 r0_5_2) 29 r0_5_3) 30 r0_5_4) 31 r0_5_5) 32 r0_5_6) 33 r0_5_7)) (zself_i (zr_n rfl (zr_n rfl (zr_n rfl (zr_n rfl (zr_n rfl (zr_n rfl (zr_n rfl (zr_n rfl e_i33)))))))) rfl) ?_
        refine zj_mem (N := (zui (zui (zui (zui (zui (zui (zui (zui (zui (zui M 25 r0_5) 26 r0_5_0) 27 r0_5_1) 28 r0_5_2) 29 r0_5_3) 30 r0_5_4) 31 r0_5_5) 32 r0_5_6) 33 r0_5_7) 34 r0_5_8)) (zself_i (zr_n rfl (zr_n rfl (zr_n rfl (zr_n rfl (zr_n rfl (zr_n rfl (zr_n rfl (zr_n rfl (zr_n rfl e_i34))))))))) rfl) ?_
        obtain ⟨n9, hn9⟩ := zLP_some hy
        have HL16 : ∀ (n : Nat) (r0_5v4 : Nat → Int32) (r0_5_0v5 : Nat → Int32) (r0_5_1v6 : Nat → Int32) (r0_5_2v7 : Nat → Int32) (r0_5_3v8 : Nat → Int32) (r0_5_4v9 : Nat → Int32) (r0_5_5v10 : Nat → Int32) (r0_5_6v11 : Nat → Int32) (r0_5_7v12 : Nat → Int32) (r0_5_8v13 : Nat → Int32) (x14 : Int32), zlp (fun s => fX_proper_L31 r0_2 r0_2_2 r0_2_3 r0_4 r0_4_0 r0_4_1 r0_4_2 r0_4_3 r0_4_4 r0_4_5 r0_4_6 r0_4_7 a1 a2 s.1 s.2.1 s.2.2.1 s.2.2.2.1 s.2.2.2.2.1 s.2.2.2.2.2.1 s.2.2.2.2.2.2.1 s.2.2.2.2.2.2.2.1 s.2.2.2.2.2.2.2.2.1 s.2.2.2.2.2.2.2.2.2.1 s.2.2.2.2.2.2.2.2.2.2) n (r0_5v4, r0_5_0v5, r0_5_1v6, r0_5_2v7, r0_5_3v8, r0_5_4v9, r0_5_5v10, r0_5_6v11, r0_5_7v12, r0_5_8v13, x14) = some res → zR Γ 7 YX11_proper 31 [(0, .ref (zad Γ 0)), (1, .int a1), (2, .int a2), (3, .int x14)] [] (zui (zui (zui (zui (zui (zui (zui (zui (zui (zui M 25 r0_5v4) 26 r0_5_0v5) 27 r0_5_1v6) 28 r0_5_2v7) 29 r0_5_3v8) 30 r0_5_4v9) 31 r0_5_5v10) 32 r0_5_6v11) 33 r0_5_7v12) 34 r0_5_8v13) Q := by
          intro n
          induction n with
          | zero => intro r0_5v4 r0_5_0v5 r0_5_1v6 r0_5_2v7 r0_5_3v8 r0_5_4v9 r0_5_5v10 r0_5_6v11 r0_5_7v12 r0_5_8v13 x14 hn9; cases hn9
          | succ n ih19 =>
            intro r0_5v4 r0_5_0v5 r0_5_1v6 r0_5_2v7 r0_5_3v8 r0_5_4v9 r0_5_5v10 r0_5_6v11 r0_5_7v12 r0_5_8v13 x14 hn9
            obtain ⟨o9, hb9, h20, h21⟩ := zlp_step hn9
            have hy : fX_proper_L31 r0_2 r0_2_2 r0_2_3 r0_4 r0_4_0 r0_4_1 r0_4_2 r0_4_3 r0_4_4 r0_4_5 r0_4_6 r0_4_7 a1 a2 r0_5v4 r0_5_0v5 r0_5_1v6 r0_5_2v7 r0_5_3v8 r0_5_4v9 r0_5_5v10 r0_5_6v11 r0_5_7v12 r0_5_8v13 x14 = some o9 := hb9
            unfold fX_proper_L31 at hy
            refine zj_iload_n (pc' := 32) 3 dX11_proper_31 rfl rfl rfl ?_
            refine zj_iconst (pc' := 33) dX11_proper_32 rfl kiconst_5 ?_
            refine zj_icmp_gt (tgt := 54) (pc' := 36) dX11_proper_33 rfl (by decide) (fun c22 => ?_) (fun c22 => ?_)
            · have hy := zt_t hy c22
              refine zj_iconst (pc' := 55) dX11_proper_54 rfl kiconst_m1 ?_
              have e9 := h21 _ (Option.some.inj hy).symm
              subst e9
              exact zj_iret dX11_proper_55 rfl hq
            · have hy := zt_f hy c22
              refine zj_aload_n (pc' := 37) 0 dX11_proper_36 rfl rfl rfl ?_
              refine zj_iload_n (pc' := 38) 1 dX11_proper_37 rfl rfl rfl ?_
              refine zj_iload_n (pc' := 39) 2 dX11_proper_38 rfl rfl rfl ?_
              refine zj_iload_n (pc' := 40) 3 dX11_proper_39 rfl rfl rfl ?_
              obtain ⟨y23, hy23, hy⟩ := zt_b hy
              refine zj_V1 (pc' := 43) (z := YX11_staysUnseen) (As := [.int a1, .int a2, .int x14]) (N := (zui (zui (zui (zui (zui (zui (zui (zui (zui (zui M 25 y23.2.1) 26 y23.2.2.1) 27 y23.2.2.2.1) 28 y23.2.2.2.2.1) 29 y23.2.2.2.2.2.1) 30 y23.2.2.2.2.2.2.1) 31 y23.2.2.2.2.2.2.2.1) 32 y23.2.2.2.2.2.2.2.2.1) 33 y23.2.2.2.2.2.2.2.2.2.1) 34 y23.2.2.2.2.2.2.2.2.2.2)) dX11_proper_40 rfl mlX11_272 lkX11_staysUnseen sh0 ⟨_, _, rfl⟩ rfl rfl (Nat.le_of_ble_eq_true rfl) (Nat.le_of_ble_eq_true rfl) (LX11_staysUnseen_0 Γ _ r0_2 r0_2_2 r0_2_3 r0_4 r0_4_0 r0_4_1 r0_4_2 r0_4_3 r0_4_4 r0_4_5 r0_4_6 r0_4_7 r0_5v4 r0_5_0v5 r0_5_1v6 r0_5_2v7 r0_5_3v8 r0_5_4v9 r0_5_5v10 r0_5_6v11 r0_5_7v12 r0_5_8v13 (zr_n rfl (zr_n rfl (zr_n rfl (zr_n rfl (zr_n rfl (zr_n rfl (zr_n rfl (zr_n rfl (zr_n rfl (zr_n rfl e_i5)))))))))) (zr_n rfl (zr_n rfl (zr_n rfl (zr_n rfl (zr_n rfl (zr_n rfl (zr_n rfl (zr_n rfl (zr_n rfl (zr_n rfl e_i8)))))))))) (zr_n rfl (zr_n rfl (zr_n rfl (zr_n rfl (zr_n rfl (zr_n rfl (zr_n rfl (zr_n rfl (zr_n rfl (zr_n rfl e_i9)))))))))) (zr_n rfl (zr_n rfl (zr_n rfl (zr_n rfl (zr_n rfl (zr_n rfl (zr_n rfl (zr_n rfl (zr_n rfl (zr_n rfl e_i15)))))))))) (zr_n rfl (zr_n rfl (zr_n rfl (zr_n rfl (zr_n rfl (zr_n rfl (zr_n rfl (zr_n rfl (zr_n rfl (zr_n rfl e_i16)))))))))) (zr_n rfl (zr_n rfl (zr_n rfl (zr_n rfl (zr_n rfl (zr_n rfl (zr_n rfl (zr_n rfl (zr_n rfl (zr_n rfl e_i17)))))))))) (zr_n rfl (zr_n rfl (zr_n rfl (zr_n rfl (zr_n rfl (zr_n rfl (zr_n rfl (zr_n rfl (zr_n rfl (zr_n rfl e_i18)))))))))) (zr_n rfl (zr_n rfl (zr_n rfl (zr_n rfl (zr_n rfl (zr_n rfl (zr_n rfl (zr_n rfl (zr_n rfl (zr_n rfl e_i19)))))))))) (zr_n rfl (zr_n rfl (zr_n rfl (zr_n rfl (zr_n rfl (zr_n rfl (zr_n rfl (zr_n rfl (zr_n rfl (zr_n rfl e_i20)))))))))) (zr_n rfl (zr_n rfl (zr_n rfl (zr_n rfl (zr_n rfl (zr_n rfl (zr_n rfl (zr_n rfl (zr_n rfl (zr_n rfl e_i21)))))))))) (zr_n rfl (zr_n rfl (zr_n rfl (zr_n rfl (zr_n rfl (zr_n rfl (zr_n rfl (zr_n rfl (zr_n rfl (zr_n rfl e_i22)))))))))) (zr_n rfl (zr_n rfl (zr_n rfl (zr_n rfl (zr_n rfl (zr_n rfl (zr_n rfl (zr_n rfl (zr_n rfl (zr_n rfl e_i23)))))))))) (zr_n rfl (zr_n rfl (zr_n rfl (zr_n rfl (zr_n rfl (zr_n rfl (zr_n rfl (zr_n rfl (zr_n rfl zr_s))))))))) (zr_n rfl (zr_n rfl (zr_n rfl (zr_n rfl (zr_n rfl (zr_n rfl (zr_n rfl (zr_n rfl zr_s)))))))) (zr_n rfl (zr_n rfl (zr_n rfl (zr_n rfl (zr_n rfl (zr_n rfl (zr_n rfl zr_s))))))) (zr_n rfl (zr_n rfl (zr_n rfl (zr_n rfl (zr_n rfl (zr_n rfl zr_s)))))) (zr_n rfl (zr_n rfl (zr_n rfl (zr_n rfl (zr_n rfl zr_s))))) (zr_n rfl (zr_n rfl (zr_n rfl (zr_n rfl zr_s)))) (zr_n rfl (zr_n rfl (zr_n rfl zr_s))) (zr_n rfl (zr_n rfl zr_s)) (zr_n rfl zr_s) zr_s a1 a2 x14 hy23) ((zch_i (zch_i (zch_i (zch_i (zch_i (zch_i (zch_i (zch_i (zch_i (zm_n rfl (zm_n rfl (zm_n rfl (zm_n rfl (zm_n rfl (zm_n rfl (zm_n rfl (zm_n rfl (zm_n rfl zm_s))))))))) (zm_n rfl (zm_n rfl (zm_n rfl (zm_n rfl (zm_n rfl (zm_n rfl (zm_n rfl (zm_n rfl zm_s))))))))) (zm_n rfl (zm_n rfl (zm_n rfl (zm_n rfl (zm_n rfl (zm_n rfl (zm_n rfl zm_s)))))))) (zm_n rfl (zm_n rfl (zm_n rfl (zm_n rfl (zm_n rfl (zm_n rfl zm_s))))))) (zm_n rfl (zm_n rfl (zm_n rfl (zm_n rfl (zm_n rfl zm_s)))))) (zm_n rfl (zm_n rfl (zm_n rfl (zm_n rfl zm_s))))) (zm_n rfl (zm_n rfl (zm_n rfl zm_s)))) (zm_n rfl (zm_n rfl zm_s))) (zm_n rfl zm_s)) zm_s)).symm ?_
              refine zj_bif_eq (tgt := 48) (pc' := 46) dX11_proper_43 rfl (by decide) (fun c24 => ?_) (fun c24 => ?_)
              · have hy := zt_f hy c24
                obtain ⟨x25, ex25⟩ : ∃ z : Int32, z = (x14 + 1) := ⟨_, rfl⟩
                have hy := zlet_at ex25 hy
                refine zj_iinc (pc' := 51) 3 (L' := [(3, .int x25), (0, .ref (zad Γ 0)), (1, .int a1), (2, .int a2)]) dX11_proper_48 rfl rfl (by decide) (by rw [ci1, ← ex25]; rfl) ?_
                refine zj_goto (tgt := 31) dX11_proper_51 (by decide) ?_
                have hn9 := h20 _ (Option.some.inj hy).symm
                refine zj_loc [1, 2, 3, 0] rfl ?_
                exact ih19 _ _ _ _ _ _ _ _ _ _ _ hn9
              · have hy := zt_t hy c24
                refine zj_iload_n (pc' := 47) 3 dX11_proper_46 rfl rfl rfl ?_
                have e9 := h21 _ (Option.some.inj hy).symm
                subst e9
                exact zj_iret dX11_proper_47 rfl hq
        exact HL16 n9 _ _ _ _ _ _ _ _ _ _ _ hn9
      · have hy := zt_t hy c3
        refine zj_iconst (pc' := 28) dX11_proper_27 rfl kiconst_m1 ?_
        have e9 := Option.some.inj hy
        subst e9
        refine zj_mem (N := (zui M 25 r0_5)) (zself_i e_i25 rfl) ?_
        refine zj_mem (N := (zui (zui M 25 r0_5) 26 r0_5_0)) (zself_i (zr_n rfl e_i26) rfl) ?_
        refine zj_mem (N := (zui (zui (zui M 25 r0_5) 26 r0_5_0) 27 r0_5_1)) (zself_i (zr_n rfl (zr_n rfl e_i27)) rfl) ?_
        refine zj_mem (N := (zui (zui (zui (zui M 25 r0_5) 26 r0_5_0) 27 r0_5_1) 28 r0_5_2)) (zself_i (zr_n rfl (zr_n rfl (zr_n rfl e_i28))) rfl) ?_
        refine zj_mem (N := (zui (zui (zui (zui (zui M 25 r0_5) 26 r0_5_0) 27 r0_5_1) 28 r0_5_2) 29 r0_5_3)) (zself_i (zr_n rfl (zr_n rfl (zr_n rfl (zr_n rfl e_i29)))) rfl) ?_
        refine zj_mem (N := (zui (zui (zui (zui (zui (zui M 25 r0_5) 26 r0_5_0) 27 r0_5_1) 28 r0_5_2) 29 r0_5_3) 30 r0_5_4)) (zself_i (zr_n rfl (zr_n rfl (zr_n rfl (zr_n rfl (zr_n rfl e_i30))))) rfl) ?_
        refine zj_mem (N := (zui (zui (zui (zui (zui (zui (zui M 25 r0_5) 26 r0_5_0) 27 r0_5_1) 28 r0_5_2) 29 r0_5_3) 30 r0_5_4) 31 r0_5_5)) (zself_i (zr_n rfl (zr_n rfl (zr_n rfl (zr_n rfl (zr_n rfl (zr_n rfl e_i31)))))) rfl) ?_
        refine zj_mem (N := (zui (zui (zui (zui (zui (zui (zui (zui M 25 r0_5) 26 r0_5_0) 27 r0_5_1) 28 r0_5_2) 29 r0_5_3) 30 r0_5_4) 31 r0_5_5) 32 r0_5_6)) (zself_i (zr_n rfl (zr_n rfl (zr_n rfl (zr_n rfl (zr_n rfl (zr_n rfl (zr_n rfl e_i32))))))) rfl) ?_
        refine zj_mem (N := (zui (zui (zui (zui (zui (zui (zui (zui (zui M 25 r0_5) 26 r0_5_0) 27 r0_5_1) 28 r0_5_2) 29 r0_5_3) 30 r0_5_4) 31 r0_5_5) 32 r0_5_6) 33 r0_5_7)) (zself_i (zr_n rfl (zr_n rfl (zr_n rfl (zr_n rfl (zr_n rfl (zr_n rfl (zr_n rfl (zr_n rfl e_i33)))))))) rfl) ?_
        refine zj_mem (N := (zui (zui (zui (zui (zui (zui (zui (zui (zui (zui M 25 r0_5) 26 r0_5_0) 27 r0_5_1) 28 r0_5_2) 29 r0_5_3) 30 r0_5_4) 31 r0_5_5) 32 r0_5_6) 33 r0_5_7) 34 r0_5_8)) (zself_i (zr_n rfl (zr_n rfl (zr_n rfl (zr_n rfl (zr_n rfl (zr_n rfl (zr_n rfl (zr_n rfl (zr_n rfl e_i34))))))))) rfl) ?_
        exact zj_iret dX11_proper_28 rfl hq
set_option maxRecDepth 20000 in
theorem LX11_proper_0 (Γ : zG) (M : zM) (r0_2 : Nat → Int32) (r0_2_2 : Nat → Int32) (r0_2_3 : Nat → Int32) (r0_4 : Nat → Int32) (r0_4_0 : Nat → Int32) (r0_4_1 : Nat → Int32) (r0_4_2 : Nat → Int32) (r0_4_3 : Nat → Int32) (r0_4_4 : Nat → Int32) (r0_4_5 : Nat → Int32) (r0_4_6 : Nat → Int32) (r0_4_7 : Nat → Int32) (r0_5 : Nat → Int32) (r0_5_0 : Nat → Int32) (r0_5_1 : Nat → Int32) (r0_5_2 : Nat → Int32) (r0_5_3 : Nat → Int32) (r0_5_4 : Nat → Int32) (r0_5_5 : Nat → Int32) (r0_5_6 : Nat → Int32) (r0_5_7 : Nat → Int32) (r0_5_8 : Nat → Int32) (e_i5 : M.1 5 = r0_2) (e_i8 : M.1 8 = r0_2_2) (e_i9 : M.1 9 = r0_2_3) (e_i15 : M.1 15 = r0_4) (e_i16 : M.1 16 = r0_4_0) (e_i17 : M.1 17 = r0_4_1) (e_i18 : M.1 18 = r0_4_2) (e_i19 : M.1 19 = r0_4_3) (e_i20 : M.1 20 = r0_4_4) (e_i21 : M.1 21 = r0_4_5) (e_i22 : M.1 22 = r0_4_6) (e_i23 : M.1 23 = r0_4_7) (e_i25 : M.1 25 = r0_5) (e_i26 : M.1 26 = r0_5_0) (e_i27 : M.1 27 = r0_5_1) (e_i28 : M.1 28 = r0_5_2) (e_i29 : M.1 29 = r0_5_3) (e_i30 : M.1 30 = r0_5_4) (e_i31 : M.1 31 = r0_5_5) (e_i32 : M.1 32 = r0_5_6) (e_i33 : M.1 33 = r0_5_7) (e_i34 : M.1 34 = r0_5_8) (a1 : Int32) (a2 : Int32) {res : Int32 × (Nat → Int32) × (Nat → Int32) × (Nat → Int32) × (Nat → Int32) × (Nat → Int32) × (Nat → Int32) × (Nat → Int32) × (Nat → Int32) × (Nat → Int32) × (Nat → Int32)} (hy : (fX_proper r0_2 r0_2_2 r0_2_3 r0_4 r0_4_0 r0_4_1 r0_4_2 r0_4_3 r0_4_4 r0_4_5 r0_4_6 r0_4_7 r0_5 r0_5_0 r0_5_1 r0_5_2 r0_5_3 r0_5_4 r0_5_5 r0_5_6 r0_5_7 r0_5_8 a1 a2) = some res) : zK Γ 7 YX11_proper [.ref (zad Γ 0), .int a1, .int a2] M (fun v N => v = some (.int res.1) ∧ N = (zui (zui (zui (zui (zui (zui (zui (zui (zui (zui M 25 res.2.1) 26 res.2.2.1) 27 res.2.2.2.1) 28 res.2.2.2.2.1) 29 res.2.2.2.2.2.1) 30 res.2.2.2.2.2.2.1) 31 res.2.2.2.2.2.2.2.1) 32 res.2.2.2.2.2.2.2.2.1) 33 res.2.2.2.2.2.2.2.2.2.1) 34 res.2.2.2.2.2.2.2.2.2.2)) :=
  zK_of (by decide) (Nat.le_of_ble_eq_true rfl) (TX11_proper_0 Γ M r0_2 r0_2_2 r0_2_3 r0_4 r0_4_0 r0_4_1 r0_4_2 r0_4_3 r0_4_4 r0_4_5 r0_4_6 r0_4_7 r0_5 r0_5_0 r0_5_1 r0_5_2 r0_5_3 r0_5_4 r0_5_5 r0_5_6 r0_5_7 r0_5_8 e_i5 e_i8 e_i9 e_i15 e_i16 e_i17 e_i18 e_i19 e_i20 e_i21 e_i22 e_i23 e_i25 e_i26 e_i27 e_i28 e_i29 e_i30 e_i31 e_i32 e_i33 e_i34 a1 a2 hy ⟨rfl, rfl⟩)

noncomputable def fM_isProper_L24 (r0_20 : Nat → Int32) (a1 : Int32) (a2 : Int32) (r0_6v3 : Nat → Int32) (r0_21v4 : Nat → Int32) (x5 : Int32) (x6 : Int32) : Option (((Nat → Int32) × (Nat → Int32) × Int32 × Int32) ⊕ ((Nat → Int32) × (Nat → Int32) × Int32)) :=
  (if 20 ≤ x6 then
  some (.inr (r0_6v3, r0_21v4, x5))
  else
  (if x5 = 0 then
  some (.inr (r0_6v3, r0_21v4, x5))
  else
  (fM_minute r0_6v3 r0_20 r0_21v4).bind (fun (y16 : (Nat → Int32) × (Nat → Int32)) =>
  (zrd y16.1 397 (91 + a1)).bind (fun (v17 : Int32) =>
  (zrd y16.1 397 (91 + a2)).bind (fun (v18 : Int32) =>
  (zrd r0_20 64 ((8 * v17) + v18)).bind (fun (v19 : Int32) =>
  zlet (x6 + 1) (fun (x22 : Int32) =>
  some (.inl (y16.1, y16.2, (zb (if v19 ≤ 1 then false else true)), x22)))))))))
noncomputable def fM_isProper (r0_6 : Nat → Int32) (r0_20 : Nat → Int32) (r0_21 : Nat → Int32) (r0_23 : Nat → Int32) (a1 : Int32) (a2 : Int32) (a3 : Int32) : Option (Bool × (Nat → Int32) × (Nat → Int32)) :=
  (zwr r0_6 397 (145 + a1) 0).bind (fun (r0_6v1 : Nat → Int32) =>
  (fM_binds r0_6v1 a2 a1 a3).bind (fun (y2 : (Nat → Int32)) =>
  (zLP (fun s => fM_isProper_L24 r0_20 a1 a2 s.1 s.2.1 s.2.2.1 s.2.2.2) (y2, r0_21, 1, 0)).bind (fun r9 =>
  (fM_back r9.1 r0_23).bind (fun (y26 : (Nat → Int32)) =>
  (if r9.2.2 = 0 ∨ r9.2.2 = 1 then some ((decide (r9.2.2 = 1)), y26, r9.2.1) else none)))))

set_option maxRecDepth 20000 in
theorem TX12_isProper_186 (Γ : zG) {Q : Option Value → zM → Prop} (M : zM) (r0_6 : Nat → Int32) (r0_20 : Nat → Int32) (r0_21 : Nat → Int32) (r0_23 : Nat → Int32) (e_i188 : M.1 188 = r0_6) (e_i193 : M.1 193 = r0_20) (e_i194 : M.1 194 = r0_21) (e_i196 : M.1 196 = r0_23) (a1 : Int32) (a2 : Int32) (a3 : Int32) {res : Bool × (Nat → Int32) × (Nat → Int32)} (hy : (fM_isProper r0_6 r0_20 r0_21 r0_23 a1 a2 a3) = some res) (hq : Q (some (.int (zb res.1))) (zui (zui M 188 res.2.1) 194 res.2.2)) : zR Γ 6 YX12_isProper 0 [(0, .ref (zad Γ 186)), (1, .int a1), (2, .int a2), (3, .int a3)] [] M Q := by
  unfold fM_isProper at hy
  refine zj_aload_n (pc' := 1) 0 dX12_isProper_0 rfl rfl rfl ?_
  refine zj_getR (pc' := 4) (j := 188) dX12_isProper_1 rfl flX12_33 sh186 rfl ?_
  refine zj_sipush (pc' := 7) dX12_isProper_4 rfl ksipush_145 ?_
  refine zj_iload_n (pc' := 8) 1 dX12_isProper_7 rfl rfl rfl ?_
  refine zj_iadd (pc' := 9) dX12_isProper_8 rfl ?_
  refine zj_iconst (pc' := 10) dX12_isProper_9 rfl kiconst_0 ?_
  obtain ⟨r0_6v1, hr0_6v1, hy⟩ := zt_b hy
  refine zj_wri (pc' := 11) (N := (zui M 188 r0_6v1)) dX12_isProper_10 rfl sh188 e_i188 hr0_6v1 rfl ?_
  refine zj_aload_n (pc' := 12) 0 dX12_isProper_11 rfl rfl rfl ?_
  refine zj_iload_n (pc' := 13) 2 dX12_isProper_12 rfl rfl rfl ?_
  refine zj_iload_n (pc' := 14) 1 dX12_isProper_13 rfl rfl rfl ?_
  refine zj_iload_n (pc' := 15) 3 dX12_isProper_14 rfl rfl rfl ?_
  obtain ⟨y2, hy2, hy⟩ := zt_b hy
  refine zj_V0 (pc' := 18) (z := YX12_binds) (As := [.int a2, .int a1, .int a3]) (N := (zui M 188 y2)) dX12_isProper_15 rfl mlX12_320 lkX12_binds sh186 ⟨_, _, rfl⟩ rfl rfl (Nat.le_of_ble_eq_true rfl) (Nat.le_of_ble_eq_true rfl) (LX12_binds_186 Γ _ r0_6v1 zr_s a2 a1 a3 hy2) (zm_s).symm ?_
  refine zj_iconst (pc' := 19) dX12_isProper_18 rfl kiconst_1 ?_
  refine zj_istore (pc' := 21) (L' := [(4, .int 1), (0, .ref (zad Γ 186)), (1, .int a1), (2, .int a2), (3, .int a3)]) dX12_isProper_19 rfl (by decide) rfl ?_
  refine zj_iconst (pc' := 22) dX12_isProper_21 rfl kiconst_0 ?_
  refine zj_istore (pc' := 24) (L' := [(5, .int 0), (4, .int 1), (0, .ref (zad Γ 186)), (1, .int a1), (2, .int a2), (3, .int a3)]) dX12_isProper_22 rfl (by decide) rfl ?_
  refine zj_loc [2, 3, 4, 1, 0] rfl ?_
  refine zj_mem (N := (zui (zui M 188 y2) 194 r0_21)) (zself_i (zr_n rfl e_i194) rfl) ?_
  obtain ⟨r9, hr9, hyo10⟩ := zt_b hy
  obtain ⟨n9, hn9⟩ := zLP_some hr9
  have HE7 : ∀ (r0_6v23 : Nat → Int32) (r0_21v24 : Nat → Int32) (x25 : Int32), r9 = (r0_6v23, r0_21v24, x25) → zR Γ 6 YX12_isProper 84 [(0, .ref (zad Γ 186)), (4, .int x25)] [] (zui (zui M 188 r0_6v23) 194 r0_21v24) Q := by
    intro r0_6v23 r0_21v24 x25 e9
    have hy := hyo10
    try rw [e9] at hy
    try dsimp only at hy
    refine zj_aload_n (pc' := 85) 0 dX12_isProper_84 rfl rfl rfl ?_
    obtain ⟨y26, hy26, hy⟩ := zt_b hy
    refine zj_V0 (pc' := 88) (z := YX12_back) (As := []) (N := (zui (zui M 188 y26) 194 r0_21v24)) dX12_isProper_85 rfl mlX12_340 lkX12_back sh186 ⟨_, _, rfl⟩ rfl rfl (Nat.le_of_ble_eq_true rfl) (Nat.le_of_ble_eq_true rfl) (LX12_back_186 Γ _ r0_6v23 r0_23 (zr_n rfl zr_s) (zr_n rfl (zr_n rfl e_i196)) hy26) ((zm_n rfl zm_s)).symm ?_
    refine zj_iload (pc' := 90) 1 dX12_isProper_88 rfl rfl ?_
    obtain ⟨cz9, hz9⟩ := zck hy
    have e9 := Option.some.inj hz9
    subst e9
    exact zj_cret dX12_isProper_90 rfl cz9 hq
  have HL8 : ∀ (n : Nat) (r0_6v3 : Nat → Int32) (r0_21v4 : Nat → Int32) (x5 : Int32) (x6 : Int32), zlp (fun s => fM_isProper_L24 r0_20 a1 a2 s.1 s.2.1 s.2.2.1 s.2.2.2) n (r0_6v3, r0_21v4, x5, x6) = some r9 → zR Γ 6 YX12_isProper 24 [(0, .ref (zad Γ 186)), (1, .int a1), (2, .int a2), (4, .int x5), (5, .int x6)] [] (zui (zui M 188 r0_6v3) 194 r0_21v4) Q := by
    intro n
    induction n with
    | zero => intro r0_6v3 r0_21v4 x5 x6 hn9; cases hn9
    | succ n ih11 =>
      intro r0_6v3 r0_21v4 x5 x6 hn9
      obtain ⟨o9, hb9, h12, h13⟩ := zlp_step hn9
      have hy : fM_isProper_L24 r0_20 a1 a2 r0_6v3 r0_21v4 x5 x6 = some o9 := hb9
      unfold fM_isProper_L24 at hy
      refine zj_iload (pc' := 26) 4 dX12_isProper_24 rfl rfl ?_
      refine zj_bipush (pc' := 28) dX12_isProper_26 rfl kbipush_20 ?_
      refine zj_icmp_ge (tgt := 84) (pc' := 31) dX12_isProper_28 rfl (by decide) (fun c14 => ?_) (fun c14 => ?_)
      · have hy := zt_t hy c14
        have e9 := h13 _ (Option.some.inj hy).symm
        refine zj_loc [0, 3] rfl ?_
        exact HE7 _ _ _ e9.symm
      · have hy := zt_f hy c14
        refine zj_iload (pc' := 33) 3 dX12_isProper_31 rfl rfl ?_
        refine zj_if_eq (tgt := 84) (pc' := 36) dX12_isProper_33 rfl (by decide) (fun c15 => ?_) (fun c15 => ?_)
        · have hy := zt_t hy c15
          have e9 := h13 _ (Option.some.inj hy).symm
          refine zj_loc [0, 3] rfl ?_
          exact HE7 _ _ _ e9.symm
        · have hy := zt_f hy c15
          refine zj_aload_n (pc' := 37) 0 dX12_isProper_36 rfl rfl rfl ?_
          obtain ⟨y16, hy16, hy⟩ := zt_b hy
          refine zj_V0 (pc' := 40) (z := YX12_minute) (As := []) (N := (zui (zui M 188 y16.1) 194 y16.2)) dX12_isProper_37 rfl mlX12_298 lkX12_minute sh186 ⟨_, _, rfl⟩ rfl rfl (Nat.le_of_ble_eq_true rfl) (Nat.le_of_ble_eq_true rfl) (LX12_minute_186 Γ _ r0_6v3 r0_20 r0_21v4 (zr_n rfl zr_s) (zr_n rfl (zr_n rfl e_i193)) zr_s hy16) ((zch_i (zm_n rfl zm_s) zm_s)).symm ?_
          refine zj_aload_n (pc' := 41) 0 dX12_isProper_40 rfl rfl rfl ?_
          refine zj_getR (pc' := 44) (j := 193) dX12_isProper_41 rfl flX12_50 sh186 rfl ?_
          refine zj_bipush (pc' := 46) dX12_isProper_44 rfl kbipush_8 ?_
          refine zj_aload_n (pc' := 47) 0 dX12_isProper_46 rfl rfl rfl ?_
          refine zj_getR (pc' := 50) (j := 188) dX12_isProper_47 rfl flX12_33 sh186 rfl ?_
          refine zj_bipush (pc' := 52) dX12_isProper_50 rfl kbipush_91 ?_
          refine zj_iload_n (pc' := 53) 1 dX12_isProper_52 rfl rfl rfl ?_
          refine zj_iadd (pc' := 54) dX12_isProper_53 rfl ?_
          obtain ⟨v17, hv17, hy⟩ := zt_b hy
          refine zj_rdi (pc' := 55) dX12_isProper_54 rfl sh188 (zr_n rfl zr_s) hv17 ?_
          refine zj_imul (pc' := 56) dX12_isProper_55 rfl ?_
          refine zj_aload_n (pc' := 57) 0 dX12_isProper_56 rfl rfl rfl ?_
          refine zj_getR (pc' := 60) (j := 188) dX12_isProper_57 rfl flX12_33 sh186 rfl ?_
          refine zj_bipush (pc' := 62) dX12_isProper_60 rfl kbipush_91 ?_
          refine zj_iload_n (pc' := 63) 2 dX12_isProper_62 rfl rfl rfl ?_
          refine zj_iadd (pc' := 64) dX12_isProper_63 rfl ?_
          obtain ⟨v18, hv18, hy⟩ := zt_b hy
          refine zj_rdi (pc' := 65) dX12_isProper_64 rfl sh188 (zr_n rfl zr_s) hv18 ?_
          refine zj_iadd (pc' := 66) dX12_isProper_65 rfl ?_
          obtain ⟨v19, hv19, hy⟩ := zt_b hy
          refine zj_rdi (pc' := 67) dX12_isProper_66 rfl sh193 (zr_n rfl (zr_n rfl e_i193)) hv19 ?_
          refine zj_iconst (pc' := 68) dX12_isProper_67 rfl kiconst_1 ?_
          have HJ20 : zR Γ 6 YX12_isProper 76 [(0, .ref (zad Γ 186)), (1, .int a1), (2, .int a2), (4, .int x5), (5, .int x6)] [.int (zb (if v19 ≤ 1 then false else true))] (zui (zui M 188 y16.1) 194 y16.2) Q := by
            refine zj_istore (pc' := 78) (L' := [(4, .int (zb (if v19 ≤ 1 then false else true))), (0, .ref (zad Γ 186)), (1, .int a1), (2, .int a2), (5, .int x6)]) dX12_isProper_76 rfl (by decide) rfl ?_
            obtain ⟨x22, ex22⟩ : ∃ z : Int32, z = (x6 + 1) := ⟨_, rfl⟩
            have hy := zlet_at ex22 hy
            refine zj_iinc (pc' := 81) 4 (L' := [(5, .int x22), (4, .int (zb (if v19 ≤ 1 then false else true))), (0, .ref (zad Γ 186)), (1, .int a1), (2, .int a2)]) dX12_isProper_78 rfl rfl (by decide) (by rw [ci1, ← ex22]; rfl) ?_
            refine zj_goto (tgt := 24) dX12_isProper_81 (by decide) ?_
            have hn9 := h12 _ (Option.some.inj hy).symm
            refine zj_loc [2, 3, 4, 1, 0] rfl ?_
            exact ih11 _ _ _ _ hn9
          refine zj_icmp_le (tgt := 75) (pc' := 71) dX12_isProper_68 rfl (by decide) (fun c21 => ?_) (fun c21 => ?_)
          · refine zj_iconst (pc' := 76) dX12_isProper_75 rfl kiconst_0 ?_
            exact zj_eqb (b := false) (if_pos c21) HJ20
          · refine zj_iconst (pc' := 72) dX12_isProper_71 rfl kiconst_1 ?_
            refine zj_goto (tgt := 76) dX12_isProper_72 (by decide) ?_
            exact zj_eqb (b := true) (if_neg c21) HJ20
  exact HL8 n9 _ _ _ _ hn9
set_option maxRecDepth 20000 in
theorem LX12_isProper_186 (Γ : zG) (M : zM) (r0_6 : Nat → Int32) (r0_20 : Nat → Int32) (r0_21 : Nat → Int32) (r0_23 : Nat → Int32) (e_i188 : M.1 188 = r0_6) (e_i193 : M.1 193 = r0_20) (e_i194 : M.1 194 = r0_21) (e_i196 : M.1 196 = r0_23) (a1 : Int32) (a2 : Int32) (a3 : Int32) {res : Bool × (Nat → Int32) × (Nat → Int32)} (hy : (fM_isProper r0_6 r0_20 r0_21 r0_23 a1 a2 a3) = some res) : zK Γ 6 YX12_isProper [.ref (zad Γ 186), .int a1, .int a2, .int a3] M (fun v N => v = some (.int (zb res.1)) ∧ N = (zui (zui M 188 res.2.1) 194 res.2.2)) :=
  zK_of (by decide) (Nat.le_of_ble_eq_true rfl) (TX12_isProper_186 Γ M r0_6 r0_20 r0_21 r0_23 e_i188 e_i193 e_i194 e_i196 a1 a2 a3 hy ⟨rfl, rfl⟩)

noncomputable def fM_proper_L37 (r0_20 : Nat → Int32) (a1 : Int32) (a2 : Int32) (y7 : (Nat → Int32)) (r0_6v8 : Nat → Int32) (r0_21v9 : Nat → Int32) (x10 : Int32) (x11 : Int32) : Option (((Nat → Int32) × (Nat → Int32) × Int32 × Int32) ⊕ ((Nat → Int32) × (Nat → Int32) × Int32)) :=
  (if x11 ≤ 0 then
  some (.inr (r0_6v8, r0_21v9, x10))
  else
  (fM_isProper r0_6v8 r0_20 r0_21v9 y7 a1 a2 x11).bind (fun (y20 : Bool × (Nat → Int32) × (Nat → Int32)) =>
  (if y20.1 = true then
  zlet (x11 + (-1)) (fun (x22 : Int32) =>
  some (.inl (y20.2.1, y20.2.2, x11, x22)))
  else
  zlet (x11 + (-1)) (fun (x23 : Int32) =>
  some (.inl (y20.2.1, y20.2.2, x10, x23))))))
noncomputable def fM_proper (r0 : Nat → Int32) (r0_6 : Nat → Int32) (r0_20 : Nat → Int32) (r0_21 : Nat → Int32) (r0_23 : Nat → Int32) (a1 : Int32) (a2 : Int32) : Option (Int32 × (Nat → Int32) × (Nat → Int32) × (Nat → Int32) × (Nat → Int32)) :=
  zlet (zup r0 0 0) (fun (r0v1 : Nat → Int32) =>
  (fM_isPerson r0_6 a1).bind (fun (y2 : Bool) =>
  (if y2 = true then
  (fM_isPerson r0_6 a2).bind (fun (y4 : Bool) =>
  (if y4 = true then
  (if a1 = a2 then
  some ((-1), r0v1, r0_6, r0_21, r0_23)
  else
  (fM_tries r0_6 r0_23).bind (fun (y7 : (Nat → Int32)) =>
  (zLP (fun s => fM_proper_L37 r0_20 a1 a2 y7 s.1 s.2.1 s.2.2.1 s.2.2.2) (r0_6, r0_21, (-1), 5)).bind (fun r14 =>
  some (r14.2.2, r0v1, r14.1, r14.2.1, y7))))
  else
  some ((-1), r0v1, r0_6, r0_21, r0_23)))
  else
  some ((-1), r0v1, r0_6, r0_21, r0_23))))

set_option maxRecDepth 20000 in
theorem TX12_proper_186 (Γ : zG) {Q : Option Value → zM → Prop} (M : zM) (r0 : Nat → Int32) (r0_6 : Nat → Int32) (r0_20 : Nat → Int32) (r0_21 : Nat → Int32) (r0_23 : Nat → Int32) (e_i186 : M.1 186 = r0) (e_i188 : M.1 188 = r0_6) (e_i193 : M.1 193 = r0_20) (e_i194 : M.1 194 = r0_21) (e_i196 : M.1 196 = r0_23) (a1 : Int32) (a2 : Int32) {res : Int32 × (Nat → Int32) × (Nat → Int32) × (Nat → Int32) × (Nat → Int32)} (hy : (fM_proper r0 r0_6 r0_20 r0_21 r0_23 a1 a2) = some res) (hq : Q (some (.int res.1)) (zui (zui (zui (zui M 186 res.2.1) 188 res.2.2.1) 194 res.2.2.2.1) 196 res.2.2.2.2)) : zR Γ 7 YX12_proper 0 [(0, .ref (zad Γ 186)), (1, .int a1), (2, .int a2)] [] M Q := by
  unfold fM_proper at hy
  refine zj_aload_n (pc' := 1) 0 dX12_proper_0 rfl rfl rfl ?_
  refine zj_iconst (pc' := 2) dX12_proper_1 rfl kiconst_0 ?_
  obtain ⟨r0v1, er0v1⟩ : ∃ z, z = (zup r0 0 0) := ⟨_, rfl⟩
  have hy := zlet_at er0v1 hy
  refine zj_pI (pc' := 5) (N := (zui M 186 r0v1)) dX12_proper_2 rfl fpX12_1 sh186 rfl e_i186 er0v1 rfl ?_
  refine zj_aload_n (pc' := 6) 0 dX12_proper_5 rfl rfl rfl ?_
  refine zj_iload_n (pc' := 7) 1 dX12_proper_6 rfl rfl rfl ?_
  obtain ⟨y2, hy2, hy⟩ := zt_b hy
  refine zj_V1 (pc' := 10) (z := YX12_isPerson) (As := [.int a1]) (N := (zui M 186 r0v1)) dX12_proper_7 rfl mlX12_270 lkX12_isPerson sh186 ⟨_, _, rfl⟩ rfl rfl (Nat.le_of_ble_eq_true rfl) (Nat.le_of_ble_eq_true rfl) (LX12_isPerson_186 Γ _ r0_6 (zr_n rfl e_i188) a1 hy2) rfl ?_
  refine zj_bif_eq (tgt := 26) (pc' := 13) dX12_proper_10 rfl (by decide) (fun c3 => ?_) (fun c3 => ?_)
  · have hy := zt_f hy c3
    refine zj_iconst (pc' := 27) dX12_proper_26 rfl kiconst_m1 ?_
    have e9 := Option.some.inj hy
    subst e9
    refine zj_mem (N := (zui (zui M 186 r0v1) 188 r0_6)) (zself_i (zr_n rfl e_i188) rfl) ?_
    refine zj_mem (N := (zui (zui (zui M 186 r0v1) 188 r0_6) 194 r0_21)) (zself_i (zr_n rfl (zr_n rfl e_i194)) rfl) ?_
    refine zj_mem (N := (zui (zui (zui (zui M 186 r0v1) 188 r0_6) 194 r0_21) 196 r0_23)) (zself_i (zr_n rfl (zr_n rfl (zr_n rfl e_i196))) rfl) ?_
    exact zj_iret dX12_proper_27 rfl hq
  · have hy := zt_t hy c3
    refine zj_aload_n (pc' := 14) 0 dX12_proper_13 rfl rfl rfl ?_
    refine zj_iload_n (pc' := 15) 2 dX12_proper_14 rfl rfl rfl ?_
    obtain ⟨y4, hy4, hy⟩ := zt_b hy
    refine zj_V1 (pc' := 18) (z := YX12_isPerson) (As := [.int a2]) (N := (zui M 186 r0v1)) dX12_proper_15 rfl mlX12_270 lkX12_isPerson sh186 ⟨_, _, rfl⟩ rfl rfl (Nat.le_of_ble_eq_true rfl) (Nat.le_of_ble_eq_true rfl) (LX12_isPerson_186 Γ _ r0_6 (zr_n rfl e_i188) a2 hy4) rfl ?_
    refine zj_bif_eq (tgt := 26) (pc' := 21) dX12_proper_18 rfl (by decide) (fun c5 => ?_) (fun c5 => ?_)
    · have hy := zt_f hy c5
      refine zj_iconst (pc' := 27) dX12_proper_26 rfl kiconst_m1 ?_
      have e9 := Option.some.inj hy
      subst e9
      refine zj_mem (N := (zui (zui M 186 r0v1) 188 r0_6)) (zself_i (zr_n rfl e_i188) rfl) ?_
      refine zj_mem (N := (zui (zui (zui M 186 r0v1) 188 r0_6) 194 r0_21)) (zself_i (zr_n rfl (zr_n rfl e_i194)) rfl) ?_
      refine zj_mem (N := (zui (zui (zui (zui M 186 r0v1) 188 r0_6) 194 r0_21) 196 r0_23)) (zself_i (zr_n rfl (zr_n rfl (zr_n rfl e_i196))) rfl) ?_
      exact zj_iret dX12_proper_27 rfl hq
    · have hy := zt_t hy c5
      refine zj_iload_n (pc' := 22) 1 dX12_proper_21 rfl rfl rfl ?_
      refine zj_iload_n (pc' := 23) 2 dX12_proper_22 rfl rfl rfl ?_
      refine zj_icmp_ne (tgt := 28) (pc' := 26) dX12_proper_23 rfl (by decide) (fun c6 => ?_) (fun c6 => ?_)
      · have hy := zt_f hy c6
        refine zj_aload_n (pc' := 29) 0 dX12_proper_28 rfl rfl rfl ?_
        obtain ⟨y7, hy7, hy⟩ := zt_b hy
        refine zj_V0 (pc' := 32) (z := YX12_tries) (As := []) (N := (zui (zui M 186 r0v1) 196 y7)) dX12_proper_29 rfl mlX12_337 lkX12_tries sh186 ⟨_, _, rfl⟩ rfl rfl (Nat.le_of_ble_eq_true rfl) (Nat.le_of_ble_eq_true rfl) (LX12_tries_186 Γ _ r0_6 r0_23 (zr_n rfl e_i188) (zr_n rfl e_i196) hy7) (rfl).symm ?_
        refine zj_iconst (pc' := 33) dX12_proper_32 rfl kiconst_m1 ?_
        refine zj_istore_n (pc' := 34) (L' := [(3, .int (-1)), (0, .ref (zad Γ 186)), (1, .int a1), (2, .int a2)]) dX12_proper_33 rfl rfl (by decide) rfl ?_
        refine zj_iconst (pc' := 35) dX12_proper_34 rfl kiconst_5 ?_
        refine zj_istore (pc' := 37) (L' := [(4, .int 5), (3, .int (-1)), (0, .ref (zad Γ 186)), (1, .int a1), (2, .int a2)]) dX12_proper_35 rfl (by decide) rfl ?_
        refine zj_loc [2, 3, 4, 1, 0] rfl ?_
        refine zj_mem (N := (zui (zui (zui M 186 r0v1) 188 r0_6) 196 y7)) (zself_i (zr_n rfl (zr_n rfl e_i188)) (zm_n rfl rfl)) ?_
        refine zj_mem (N := (zui (zui (zui (zui M 186 r0v1) 188 r0_6) 194 r0_21) 196 y7)) (zself_i (zr_n rfl (zr_n rfl (zr_n rfl e_i194))) (zm_n rfl rfl)) ?_
        obtain ⟨r14, hr9, hyo15⟩ := zt_b hy
        obtain ⟨n9, hn9⟩ := zLP_some hr9
        have HE12 : ∀ (r0_6v24 : Nat → Int32) (r0_21v25 : Nat → Int32) (x26 : Int32), r14 = (r0_6v24, r0_21v25, x26) → zR Γ 7 YX12_proper 62 [(3, .int x26)] [] (zui (zui (zui (zui M 186 r0v1) 188 r0_6v24) 194 r0_21v25) 196 y7) Q := by
          intro r0_6v24 r0_21v25 x26 e9
          have hy := hyo15
          try rw [e9] at hy
          try dsimp only at hy
          refine zj_iload_n (pc' := 63) 0 dX12_proper_62 rfl rfl rfl ?_
          have e9 := Option.some.inj hy
          subst e9
          exact zj_iret dX12_proper_63 rfl hq
        have HL13 : ∀ (n : Nat) (r0_6v8 : Nat → Int32) (r0_21v9 : Nat → Int32) (x10 : Int32) (x11 : Int32), zlp (fun s => fM_proper_L37 r0_20 a1 a2 y7 s.1 s.2.1 s.2.2.1 s.2.2.2) n (r0_6v8, r0_21v9, x10, x11) = some r14 → zR Γ 7 YX12_proper 37 [(0, .ref (zad Γ 186)), (1, .int a1), (2, .int a2), (3, .int x10), (4, .int x11)] [] (zui (zui (zui (zui M 186 r0v1) 188 r0_6v8) 194 r0_21v9) 196 y7) Q := by
          intro n
          induction n with
          | zero => intro r0_6v8 r0_21v9 x10 x11 hn9; cases hn9
          | succ n ih16 =>
            intro r0_6v8 r0_21v9 x10 x11 hn9
            obtain ⟨o9, hb9, h17, h18⟩ := zlp_step hn9
            have hy : fM_proper_L37 r0_20 a1 a2 y7 r0_6v8 r0_21v9 x10 x11 = some o9 := hb9
            unfold fM_proper_L37 at hy
            refine zj_iload (pc' := 39) 4 dX12_proper_37 rfl rfl ?_
            refine zj_if_le (tgt := 62) (pc' := 42) dX12_proper_39 rfl (by decide) (fun c19 => ?_) (fun c19 => ?_)
            · have hy := zt_t hy c19
              have e9 := h18 _ (Option.some.inj hy).symm
              refine zj_loc [3] rfl ?_
              exact HE12 _ _ _ e9.symm
            · have hy := zt_f hy c19
              refine zj_aload_n (pc' := 43) 0 dX12_proper_42 rfl rfl rfl ?_
              refine zj_iload_n (pc' := 44) 1 dX12_proper_43 rfl rfl rfl ?_
              refine zj_iload_n (pc' := 45) 2 dX12_proper_44 rfl rfl rfl ?_
              refine zj_iload (pc' := 47) 4 dX12_proper_45 rfl rfl ?_
              obtain ⟨y20, hy20, hy⟩ := zt_b hy
              refine zj_V1 (pc' := 50) (z := YX12_isProper) (As := [.int a1, .int a2, .int x11]) (N := (zui (zui (zui (zui M 186 r0v1) 188 y20.2.1) 194 y20.2.2) 196 y7)) dX12_proper_47 rfl mlX12_343 lkX12_isProper sh186 ⟨_, _, rfl⟩ rfl rfl (Nat.le_of_ble_eq_true rfl) (Nat.le_of_ble_eq_true rfl) (LX12_isProper_186 Γ _ r0_6v8 r0_20 r0_21v9 y7 (zr_n rfl (zr_n rfl zr_s)) (zr_n rfl (zr_n rfl (zr_n rfl (zr_n rfl e_i193)))) (zr_n rfl zr_s) zr_s a1 a2 x11 hy20) ((zch_i (zm_n rfl (zm_n rfl zm_s)) (zm_n rfl zm_s))).symm ?_
              refine zj_bif_eq (tgt := 56) (pc' := 53) dX12_proper_50 rfl (by decide) (fun c21 => ?_) (fun c21 => ?_)
              · have hy := zt_f hy c21
                obtain ⟨x23, ex23⟩ : ∃ z : Int32, z = (x11 + (-1)) := ⟨_, rfl⟩
                have hy := zlet_at ex23 hy
                refine zj_iinc (pc' := 59) 4 (L' := [(4, .int x23), (0, .ref (zad Γ 186)), (1, .int a1), (2, .int a2), (3, .int x10)]) dX12_proper_56 rfl rfl (by decide) (by rw [cim1, ← ex23]; rfl) ?_
                refine zj_goto (tgt := 37) dX12_proper_59 (by decide) ?_
                have hn9 := h17 _ (Option.some.inj hy).symm
                refine zj_loc [1, 2, 3, 4, 0] rfl ?_
                exact ih16 _ _ _ _ hn9
              · have hy := zt_t hy c21
                refine zj_iload (pc' := 55) 4 dX12_proper_53 rfl rfl ?_
                refine zj_istore_n (pc' := 56) (L' := [(3, .int x11), (0, .ref (zad Γ 186)), (1, .int a1), (2, .int a2), (4, .int x11)]) dX12_proper_55 rfl rfl (by decide) rfl ?_
                obtain ⟨x22, ex22⟩ : ∃ z : Int32, z = (x11 + (-1)) := ⟨_, rfl⟩
                have hy := zlet_at ex22 hy
                refine zj_iinc (pc' := 59) 4 (L' := [(4, .int x22), (3, .int x11), (0, .ref (zad Γ 186)), (1, .int a1), (2, .int a2)]) dX12_proper_56 rfl rfl (by decide) (by rw [cim1, ← ex22]; rfl) ?_
                refine zj_goto (tgt := 37) dX12_proper_59 (by decide) ?_
                have hn9 := h17 _ (Option.some.inj hy).symm
                refine zj_loc [2, 3, 4, 1, 0] rfl ?_
                exact ih16 _ _ _ _ hn9
        exact HL13 n9 _ _ _ _ hn9
      · have hy := zt_t hy c6
        refine zj_iconst (pc' := 27) dX12_proper_26 rfl kiconst_m1 ?_
        have e9 := Option.some.inj hy
        subst e9
        refine zj_mem (N := (zui (zui M 186 r0v1) 188 r0_6)) (zself_i (zr_n rfl e_i188) rfl) ?_
        refine zj_mem (N := (zui (zui (zui M 186 r0v1) 188 r0_6) 194 r0_21)) (zself_i (zr_n rfl (zr_n rfl e_i194)) rfl) ?_
        refine zj_mem (N := (zui (zui (zui (zui M 186 r0v1) 188 r0_6) 194 r0_21) 196 r0_23)) (zself_i (zr_n rfl (zr_n rfl (zr_n rfl e_i196))) rfl) ?_
        exact zj_iret dX12_proper_27 rfl hq
set_option maxRecDepth 20000 in
theorem LX12_proper_186 (Γ : zG) (M : zM) (r0 : Nat → Int32) (r0_6 : Nat → Int32) (r0_20 : Nat → Int32) (r0_21 : Nat → Int32) (r0_23 : Nat → Int32) (e_i186 : M.1 186 = r0) (e_i188 : M.1 188 = r0_6) (e_i193 : M.1 193 = r0_20) (e_i194 : M.1 194 = r0_21) (e_i196 : M.1 196 = r0_23) (a1 : Int32) (a2 : Int32) {res : Int32 × (Nat → Int32) × (Nat → Int32) × (Nat → Int32) × (Nat → Int32)} (hy : (fM_proper r0 r0_6 r0_20 r0_21 r0_23 a1 a2) = some res) : zK Γ 7 YX12_proper [.ref (zad Γ 186), .int a1, .int a2] M (fun v N => v = some (.int res.1) ∧ N = (zui (zui (zui (zui M 186 res.2.1) 188 res.2.2.1) 194 res.2.2.2.1) 196 res.2.2.2.2)) :=
  zK_of (by decide) (Nat.le_of_ble_eq_true rfl) (TX12_proper_186 Γ M r0 r0_6 r0_20 r0_21 r0_23 e_i186 e_i188 e_i193 e_i194 e_i196 a1 a2 hy ⟨rfl, rfl⟩)

noncomputable def fPl_persons (r0 : Nat → Int32) : Int32 :=
  (r0 6)

set_option maxRecDepth 20000 in
theorem TX7_persons_5 (Γ : zG) {Q : Option Value → zM → Prop} (M : zM) (r0 : Nat → Int32) (e_i5 : M.1 5 = r0)  {res : Int32} (hy : (fPl_persons r0) = res) (hq : Q (some (.int res)) M) : zR Γ 1 YX7_persons 0 [(0, .ref (zad Γ 5))] [] M Q := by
  unfold fPl_persons at hy
  refine zj_aload_n (pc' := 1) 0 dX7_persons_0 rfl rfl rfl ?_
  refine zj_fI (pc' := 4) dX7_persons_1 rfl flX7_32 sh5 rfl e_i5 rfl ?_
  subst hy
  exact zj_iret dX7_persons_4 rfl hq
set_option maxRecDepth 20000 in
theorem LX7_persons_5 (Γ : zG) (M : zM) (r0 : Nat → Int32) (e_i5 : M.1 5 = r0)  {res : Int32} (hy : (fPl_persons r0) = res) : zK Γ 1 YX7_persons [.ref (zad Γ 5)] M (fun v N => v = some (.int res) ∧ N = M) :=
  zK_of (by decide) (Nat.le_of_ble_eq_true rfl) (TX7_persons_5 Γ M r0 e_i5 hy ⟨rfl, rfl⟩)

noncomputable def fX_whoFitsTape_L35 (r0_0 : Nat → Int32) (r0_0_0 : Nat → Int32) (r0_2 : Nat → Int32) (r0_4_0 : Nat → Int32) (x1 : Int32) (x5 : Int32) (x6 : Int32) : Option ((Int32 × Int32) ⊕ (Int32)) :=
  (if x1 ≤ x6 then
  some (.inr x5)
  else
  (fTp_byteOf r0_0 r0_0_0 x6).bind (fun (y15 : Int32) =>
  zlet (fun (u9 : Unit) =>
  (if y15 = 255 then
  zlet (x6 + 1) (fun (x17 : Int32) =>
  some (.inl (x5, x17)))
  else
  (fDy_whoWasAt r0_4_0 y15 x6).bind (fun (y18 : Int32) =>
  zlet (x5 &&& y18) (fun (x19 : Int32) =>
  zlet (x6 + 1) (fun (x20 : Int32) =>
  some (.inl (x19, x20))))))) (fun J21 =>
  (if y15 = 255 then
  J21 ()
  else
  (if (fPl_hasCorner r0_2 y15) = true then
  J21 ()
  else
  some (.inr (-1)))))))
noncomputable def fX_whoFitsTape (r0_0 : Nat → Int32) (r0_0_0 : Nat → Int32) (r0_2 : Nat → Int32) (r0_4_0 : Nat → Int32) : Option (Int32) :=
  zlet (fTp_length r0_0) (fun (x1 : Int32) =>
  (if x1 < 1 then
  some (-1)
  else
  (if x1 ≤ 6 then
  zlet (((1 : Int32) <<< ((fPl_persons r0_2) &&& 31)) - 1) (fun (x4 : Int32) =>
  zLP (fun s => fX_whoFitsTape_L35 r0_0 r0_0_0 r0_2 r0_4_0 x1 s.1 s.2) (x4, 0))
  else
  some (-1))))

set_option maxRecDepth 20000 in
theorem TX11_whoFitsTape_0 (Γ : zG) {Q : Option Value → zM → Prop} (M : zM) (r0_0 : Nat → Int32) (r0_0_0 : Nat → Int32) (r0_2 : Nat → Int32) (r0_4_0 : Nat → Int32) (e_i1 : M.1 1 = r0_0) (e_i2 : M.1 2 = r0_0_0) (e_i5 : M.1 5 = r0_2) (e_i16 : M.1 16 = r0_4_0)  {res : Int32} (hy : (fX_whoFitsTape r0_0 r0_0_0 r0_2 r0_4_0) = some res) (hq : Q (some (.int res)) M) : zR Γ 4 YX11_whoFitsTape 0 [(0, .ref (zad Γ 0))] [] M Q := by
  unfold fX_whoFitsTape at hy
  refine zj_aload_n (pc' := 1) 0 dX11_whoFitsTape_0 rfl rfl rfl ?_
  refine zj_getR (pc' := 4) (j := 1) dX11_whoFitsTape_1 rfl flX11_10 sh0 rfl ?_
  refine zj_V1 (pc' := 7) (z := YX10_length) (As := []) (N := M) dX11_whoFitsTape_4 rfl mlX11_122 lkX10_length sh1 ⟨_, _, rfl⟩ rfl rfl (Nat.le_of_ble_eq_true rfl) (Nat.le_of_ble_eq_true rfl) (LX10_length_1 Γ _ r0_0 e_i1 rfl) rfl ?_
  refine zj_topi (fun x1 ex1 => ?_)
  have hy := zlet_at ex1 hy
  refine zj_istore_n (pc' := 8) (L' := [(1, .int x1), (0, .ref (zad Γ 0))]) dX11_whoFitsTape_7 rfl rfl (by decide) rfl ?_
  refine zj_iload_n (pc' := 9) 0 dX11_whoFitsTape_8 rfl rfl rfl ?_
  refine zj_iconst (pc' := 10) dX11_whoFitsTape_9 rfl kiconst_1 ?_
  refine zj_icmp_lt (tgt := 19) (pc' := 13) dX11_whoFitsTape_10 rfl (by decide) (fun c2 => ?_) (fun c2 => ?_)
  · have hy := zt_t hy c2
    refine zj_iconst (pc' := 20) dX11_whoFitsTape_19 rfl kiconst_m1 ?_
    have e9 := Option.some.inj hy
    subst e9
    exact zj_iret dX11_whoFitsTape_20 rfl hq
  · have hy := zt_f hy c2
    refine zj_iload_n (pc' := 14) 0 dX11_whoFitsTape_13 rfl rfl rfl ?_
    refine zj_bipush (pc' := 16) dX11_whoFitsTape_14 rfl kbipush_6 ?_
    refine zj_icmp_le (tgt := 21) (pc' := 19) dX11_whoFitsTape_16 rfl (by decide) (fun c3 => ?_) (fun c3 => ?_)
    · have hy := zt_t hy c3
      refine zj_iconst (pc' := 22) dX11_whoFitsTape_21 rfl kiconst_1 ?_
      refine zj_aload_n (pc' := 23) 1 dX11_whoFitsTape_22 rfl rfl rfl ?_
      refine zj_getR (pc' := 26) (j := 5) dX11_whoFitsTape_23 rfl flX11_28 sh0 rfl ?_
      refine zj_V1 (pc' := 29) (z := YX7_persons) (As := []) (N := M) dX11_whoFitsTape_26 rfl mlX11_308 lkX7_persons sh5 ⟨_, _, rfl⟩ rfl rfl (Nat.le_of_ble_eq_true rfl) (Nat.le_of_ble_eq_true rfl) (LX7_persons_5 Γ _ r0_2 e_i5 rfl) rfl ?_
      refine zj_ishl (pc' := 30) dX11_whoFitsTape_29 rfl ?_
      refine zj_iconst (pc' := 31) dX11_whoFitsTape_30 rfl kiconst_1 ?_
      refine zj_isub (pc' := 32) dX11_whoFitsTape_31 rfl ?_
      refine zj_topi (fun x4 ex4 => ?_)
      have hy := zlet_at ex4 hy
      refine zj_istore_n (pc' := 33) (L' := [(2, .int x4), (1, .int x1), (0, .ref (zad Γ 0))]) dX11_whoFitsTape_32 rfl rfl (by decide) rfl ?_
      refine zj_iconst (pc' := 34) dX11_whoFitsTape_33 rfl kiconst_0 ?_
      refine zj_istore_n (pc' := 35) (L' := [(3, .int 0), (2, .int x4), (1, .int x1), (0, .ref (zad Γ 0))]) dX11_whoFitsTape_34 rfl rfl (by decide) rfl ?_
      refine zj_loc [3, 2, 1, 0] rfl ?_
      obtain ⟨n9, hn9⟩ := zLP_some hy
      have HL8 : ∀ (n : Nat) (x5 : Int32) (x6 : Int32), zlp (fun s => fX_whoFitsTape_L35 r0_0 r0_0_0 r0_2 r0_4_0 x1 s.1 s.2) n (x5, x6) = some res → zR Γ 4 YX11_whoFitsTape 35 [(0, .ref (zad Γ 0)), (1, .int x1), (2, .int x5), (3, .int x6)] [] M Q := by
        intro n
        induction n with
        | zero => intro x5 x6 hn9; cases hn9
        | succ n ih11 =>
          intro x5 x6 hn9
          obtain ⟨o9, hb9, h12, h13⟩ := zlp_step hn9
          have hy : fX_whoFitsTape_L35 r0_0 r0_0_0 r0_2 r0_4_0 x1 x5 x6 = some o9 := hb9
          unfold fX_whoFitsTape_L35 at hy
          refine zj_iload_n (pc' := 36) 3 dX11_whoFitsTape_35 rfl rfl rfl ?_
          refine zj_iload_n (pc' := 37) 1 dX11_whoFitsTape_36 rfl rfl rfl ?_
          refine zj_icmp_ge (tgt := 99) (pc' := 40) dX11_whoFitsTape_37 rfl (by decide) (fun c14 => ?_) (fun c14 => ?_)
          · have hy := zt_t hy c14
            refine zj_iload_n (pc' := 100) 2 dX11_whoFitsTape_99 rfl rfl rfl ?_
            have e9 := h13 _ (Option.some.inj hy).symm
            subst e9
            exact zj_iret dX11_whoFitsTape_100 rfl hq
          · have hy := zt_f hy c14
            refine zj_aload_n (pc' := 41) 0 dX11_whoFitsTape_40 rfl rfl rfl ?_
            refine zj_getR (pc' := 44) (j := 1) dX11_whoFitsTape_41 rfl flX11_10 sh0 rfl ?_
            refine zj_iload_n (pc' := 45) 3 dX11_whoFitsTape_44 rfl rfl rfl ?_
            obtain ⟨y15, hy15, hy⟩ := zt_b hy
            refine zj_V1 (pc' := 48) (z := YX10_byteOf) (As := [.int x6]) (N := M) dX11_whoFitsTape_45 rfl mlX11_406 lkX10_byteOf sh1 ⟨_, _, rfl⟩ rfl rfl (Nat.le_of_ble_eq_true rfl) (Nat.le_of_ble_eq_true rfl) (LX10_byteOf_1 Γ _ r0_0 r0_0_0 e_i1 e_i2 x6 hy15) rfl ?_
            refine zj_istore (pc' := 50) (L' := [(4, .int y15), (0, .ref (zad Γ 0)), (1, .int x1), (2, .int x5), (3, .int x6)]) dX11_whoFitsTape_48 rfl (by decide) rfl ?_
            refine zj_iload (pc' := 52) 0 dX11_whoFitsTape_50 rfl rfl ?_
            refine zj_sipush (pc' := 55) dX11_whoFitsTape_52 rfl ksipush_255 ?_
            obtain ⟨J21, eJ21, hy⟩ := zlet_ex hy
            have HJ21 : ∀ (u9 : Unit), J21 u9 = some o9 → zR Γ 4 YX11_whoFitsTape 72 [(0, .ref (zad Γ 0)), (1, .int x1), (2, .int x5), (3, .int x6), (4, .int y15)] [] M Q := by
              intro u9 hy
              have hy := zap1 eJ21 hy
              refine zj_iload (pc' := 74) 4 dX11_whoFitsTape_72 rfl rfl ?_
              refine zj_sipush (pc' := 77) dX11_whoFitsTape_74 rfl ksipush_255 ?_
              refine zj_icmp_eq (tgt := 93) (pc' := 80) dX11_whoFitsTape_77 rfl (by decide) (fun c16 => ?_) (fun c16 => ?_)
              · have hy := zt_t hy c16
                obtain ⟨x17, ex17⟩ : ∃ z : Int32, z = (x6 + 1) := ⟨_, rfl⟩
                have hy := zlet_at ex17 hy
                refine zj_iinc (pc' := 96) 3 (L' := [(3, .int x17), (0, .ref (zad Γ 0)), (1, .int x1), (2, .int x5), (4, .int y15)]) dX11_whoFitsTape_93 rfl rfl (by decide) (by rw [ci1, ← ex17]; rfl) ?_
                refine zj_goto (tgt := 35) dX11_whoFitsTape_96 (by decide) ?_
                have hn9 := h12 _ (Option.some.inj hy).symm
                refine zj_loc [1, 2, 3, 0] rfl ?_
                exact ih11 _ _ hn9
              · have hy := zt_f hy c16
                refine zj_iload_n (pc' := 81) 2 dX11_whoFitsTape_80 rfl rfl rfl ?_
                refine zj_aload_n (pc' := 82) 0 dX11_whoFitsTape_81 rfl rfl rfl ?_
                refine zj_getR (pc' := 85) (j := 15) dX11_whoFitsTape_82 rfl flX11_38 sh0 rfl ?_
                refine zj_iload (pc' := 87) 4 dX11_whoFitsTape_85 rfl rfl ?_
                refine zj_iload_n (pc' := 88) 3 dX11_whoFitsTape_87 rfl rfl rfl ?_
                obtain ⟨y18, hy18, hy⟩ := zt_b hy
                refine zj_V1 (pc' := 91) (z := YX1_whoWasAt) (As := [.int y15, .int x6]) (N := M) dX11_whoFitsTape_88 rfl mlX11_198 lkX1_whoWasAt sh15 ⟨_, _, rfl⟩ rfl rfl (Nat.le_of_ble_eq_true rfl) (Nat.le_of_ble_eq_true rfl) (LX1_whoWasAt_15 Γ _ r0_4_0 e_i16 y15 x6 hy18) rfl ?_
                refine zj_iand (pc' := 92) dX11_whoFitsTape_91 rfl ?_
                refine zj_topi (fun x19 ex19 => ?_)
                have hy := zlet_at ex19 hy
                refine zj_istore_n (pc' := 93) (L' := [(2, .int x19), (0, .ref (zad Γ 0)), (1, .int x1), (3, .int x6), (4, .int y15)]) dX11_whoFitsTape_92 rfl rfl (by decide) rfl ?_
                obtain ⟨x20, ex20⟩ : ∃ z : Int32, z = (x6 + 1) := ⟨_, rfl⟩
                have hy := zlet_at ex20 hy
                refine zj_iinc (pc' := 96) 3 (L' := [(3, .int x20), (2, .int x19), (0, .ref (zad Γ 0)), (1, .int x1), (4, .int y15)]) dX11_whoFitsTape_93 rfl rfl (by decide) (by rw [ci1, ← ex20]; rfl) ?_
                refine zj_goto (tgt := 35) dX11_whoFitsTape_96 (by decide) ?_
                have hn9 := h12 _ (Option.some.inj hy).symm
                refine zj_loc [2, 3, 1, 0] rfl ?_
                exact ih11 _ _ hn9
            refine zj_icmp_eq (tgt := 72) (pc' := 58) dX11_whoFitsTape_55 rfl (by decide) (fun c22 => ?_) (fun c22 => ?_)
            · have hy := zt_t hy c22
              refine zj_loc [1, 2, 3, 4, 0] rfl ?_
              exact HJ21 () hy
            · have hy := zt_f hy c22
              refine zj_aload_n (pc' := 59) 1 dX11_whoFitsTape_58 rfl rfl rfl ?_
              refine zj_getR (pc' := 62) (j := 5) dX11_whoFitsTape_59 rfl flX11_28 sh0 rfl ?_
              refine zj_iload (pc' := 64) 0 dX11_whoFitsTape_62 rfl rfl ?_
              refine zj_V1 (pc' := 67) (z := YX7_hasCorner) (As := [.int y15]) (N := M) dX11_whoFitsTape_64 rfl mlX11_192 lkX7_hasCorner sh5 ⟨_, _, rfl⟩ rfl rfl (Nat.le_of_ble_eq_true rfl) (Nat.le_of_ble_eq_true rfl) (LX7_hasCorner_5 Γ _ r0_2 e_i5 y15 rfl) rfl ?_
              refine zj_bif_ne (tgt := 72) (pc' := 70) dX11_whoFitsTape_67 rfl (by decide) (fun c23 => ?_) (fun c23 => ?_)
              · have hy := zt_t hy c23
                refine zj_loc [1, 2, 3, 4, 0] rfl ?_
                exact HJ21 () hy
              · have hy := zt_f hy c23
                refine zj_iconst (pc' := 71) dX11_whoFitsTape_70 rfl kiconst_m1 ?_
                have e9 := h13 _ (Option.some.inj hy).symm
                subst e9
                exact zj_iret dX11_whoFitsTape_71 rfl hq
      exact HL8 n9 _ _ hn9
    · have hy := zt_f hy c3
      refine zj_iconst (pc' := 20) dX11_whoFitsTape_19 rfl kiconst_m1 ?_
      have e9 := Option.some.inj hy
      subst e9
      exact zj_iret dX11_whoFitsTape_20 rfl hq
set_option maxRecDepth 20000 in
theorem LX11_whoFitsTape_0 (Γ : zG) (M : zM) (r0_0 : Nat → Int32) (r0_0_0 : Nat → Int32) (r0_2 : Nat → Int32) (r0_4_0 : Nat → Int32) (e_i1 : M.1 1 = r0_0) (e_i2 : M.1 2 = r0_0_0) (e_i5 : M.1 5 = r0_2) (e_i16 : M.1 16 = r0_4_0)  {res : Int32} (hy : (fX_whoFitsTape r0_0 r0_0_0 r0_2 r0_4_0) = some res) : zK Γ 4 YX11_whoFitsTape [.ref (zad Γ 0)] M (fun v N => v = some (.int res) ∧ N = M) :=
  zK_of (by decide) (Nat.le_of_ble_eq_true rfl) (TX11_whoFitsTape_0 Γ M r0_0 r0_0_0 r0_2 r0_4_0 e_i1 e_i2 e_i5 e_i16 hy ⟨rfl, rfl⟩)

noncomputable def fX_bestQuestion_L21 (r0_4_0 : Nat → Int32) (a1 : Int32) (x3 : Int32) (x12 : Int32) (x13 : Int32) : Option ((Int32 × Int32) ⊕ (Int32)) :=
  (if 8 ≤ x13 then
  some (.inr x12)
  else
  (fDy_whoWasAt r0_4_0 x13 x3).bind (fun (y22 : Int32) =>
  zlet (if x12 < (fJI_bitCount (a1 &&& y22)) then (fJI_bitCount (a1 &&& y22)) else x12) (fun (x23 : Int32) =>
  zlet (x13 + 1) (fun (x24 : Int32) =>
  some (.inl (x23, x24))))))
noncomputable def fX_bestQuestion_L8 (r0_4_0 : Nat → Int32) (a1 : Int32) (x1 : Int32) (x2 : Int32) (x3 : Int32) : Option ((Int32 × Int32 × Int32) ⊕ (Int32)) :=
  (if 6 ≤ x3 then
  some (.inr x1)
  else
  (zLP (fun s => fX_bestQuestion_L21 r0_4_0 a1 x3 s.1 s.2) (0, 0)).bind (fun r16 =>
  (if x2 ≤ r16 then
  zlet (x3 + 1) (fun (x27 : Int32) =>
  some (.inl (x1, x2, x27)))
  else
  zlet (x3 + 1) (fun (x28 : Int32) =>
  some (.inl (x3, r16, x28))))))
noncomputable def fX_bestQuestion (r0_4_0 : Nat → Int32) (a1 : Int32) : Option (Int32) :=
  (zLP (fun s => fX_bestQuestion_L8 r0_4_0 a1 s.1 s.2.1 s.2.2) ((-1), 7, 0)).bind (fun r6 =>
  some r6)

set_option maxRecDepth 20000 in
theorem TX11_bestQuestion_0 (Γ : zG) {Q : Option Value → zM → Prop} (M : zM) (r0_4_0 : Nat → Int32) (e_i16 : M.1 16 = r0_4_0) (a1 : Int32) {res : Int32} (hy : (fX_bestQuestion r0_4_0 a1) = some res) (hq : Q (some (.int res)) M) : zR Γ 4 YX11_bestQuestion 0 [(0, .ref (zad Γ 0)), (1, .int a1)] [] M Q := by
  unfold fX_bestQuestion at hy
  refine zj_iconst (pc' := 1) dX11_bestQuestion_0 rfl kiconst_m1 ?_
  refine zj_istore_n (pc' := 2) (L' := [(2, .int (-1)), (0, .ref (zad Γ 0)), (1, .int a1)]) dX11_bestQuestion_1 rfl rfl (by decide) rfl ?_
  refine zj_bipush (pc' := 4) dX11_bestQuestion_2 rfl kbipush_7 ?_
  refine zj_istore_n (pc' := 5) (L' := [(3, .int 7), (2, .int (-1)), (0, .ref (zad Γ 0)), (1, .int a1)]) dX11_bestQuestion_4 rfl rfl (by decide) rfl ?_
  refine zj_iconst (pc' := 6) dX11_bestQuestion_5 rfl kiconst_0 ?_
  refine zj_istore (pc' := 8) (L' := [(4, .int 0), (3, .int 7), (2, .int (-1)), (0, .ref (zad Γ 0)), (1, .int a1)]) dX11_bestQuestion_6 rfl (by decide) rfl ?_
  refine zj_loc [3, 4, 2, 1, 0] rfl ?_
  obtain ⟨r6, hr9, hyo7⟩ := zt_b hy
  obtain ⟨n9, hn9⟩ := zLP_some hr9
  have HE4 : ∀ (x29 : Int32), r6 = x29 → zR Γ 4 YX11_bestQuestion 75 [(2, .int x29)] [] M Q := by
    intro x29 e9
    have hy := hyo7
    try rw [e9] at hy
    try dsimp only at hy
    refine zj_iload_n (pc' := 76) 0 dX11_bestQuestion_75 rfl rfl rfl ?_
    have e9 := Option.some.inj hy
    subst e9
    exact zj_iret dX11_bestQuestion_76 rfl hq
  have HL5 : ∀ (n : Nat) (x1 : Int32) (x2 : Int32) (x3 : Int32), zlp (fun s => fX_bestQuestion_L8 r0_4_0 a1 s.1 s.2.1 s.2.2) n (x1, x2, x3) = some r6 → zR Γ 4 YX11_bestQuestion 8 [(0, .ref (zad Γ 0)), (1, .int a1), (2, .int x1), (3, .int x2), (4, .int x3)] [] M Q := by
    intro n
    induction n with
    | zero => intro x1 x2 x3 hn9; cases hn9
    | succ n ih8 =>
      intro x1 x2 x3 hn9
      obtain ⟨o9, hb9, h9, h10⟩ := zlp_step hn9
      have hy : fX_bestQuestion_L8 r0_4_0 a1 x1 x2 x3 = some o9 := hb9
      unfold fX_bestQuestion_L8 at hy
      refine zj_iload (pc' := 10) 4 dX11_bestQuestion_8 rfl rfl ?_
      refine zj_bipush (pc' := 12) dX11_bestQuestion_10 rfl kbipush_6 ?_
      refine zj_icmp_ge (tgt := 75) (pc' := 15) dX11_bestQuestion_12 rfl (by decide) (fun c11 => ?_) (fun c11 => ?_)
      · have hy := zt_t hy c11
        have e9 := h10 _ (Option.some.inj hy).symm
        refine zj_loc [2] rfl ?_
        exact HE4 _ e9.symm
      · have hy := zt_f hy c11
        refine zj_iconst (pc' := 16) dX11_bestQuestion_15 rfl kiconst_0 ?_
        refine zj_istore (pc' := 18) (L' := [(5, .int 0), (0, .ref (zad Γ 0)), (1, .int a1), (2, .int x1), (3, .int x2), (4, .int x3)]) dX11_bestQuestion_16 rfl (by decide) rfl ?_
        refine zj_iconst (pc' := 19) dX11_bestQuestion_18 rfl kiconst_0 ?_
        refine zj_istore (pc' := 21) (L' := [(6, .int 0), (5, .int 0), (0, .ref (zad Γ 0)), (1, .int a1), (2, .int x1), (3, .int x2), (4, .int x3)]) dX11_bestQuestion_19 rfl (by decide) rfl ?_
        refine zj_loc [2, 3, 4, 5, 6, 1, 0] rfl ?_
        obtain ⟨r16, hr9, hyo17⟩ := zt_b hy
        obtain ⟨n9, hn9⟩ := zLP_some hr9
        have HE14 : ∀ (x25 : Int32), r16 = x25 → zR Γ 4 YX11_bestQuestion 57 [(0, .ref (zad Γ 0)), (1, .int a1), (2, .int x1), (3, .int x2), (4, .int x3), (5, .int x25)] [] M Q := by
          intro x25 e9
          have hy := hyo17
          try rw [e9] at hy
          try dsimp only at hy
          refine zj_iload (pc' := 59) 5 dX11_bestQuestion_57 rfl rfl ?_
          refine zj_iload_n (pc' := 60) 3 dX11_bestQuestion_59 rfl rfl rfl ?_
          refine zj_icmp_ge (tgt := 69) (pc' := 63) dX11_bestQuestion_60 rfl (by decide) (fun c26 => ?_) (fun c26 => ?_)
          · have hy := zt_t hy c26
            obtain ⟨x27, ex27⟩ : ∃ z : Int32, z = (x3 + 1) := ⟨_, rfl⟩
            have hy := zlet_at ex27 hy
            refine zj_iinc (pc' := 72) 4 (L' := [(4, .int x27), (0, .ref (zad Γ 0)), (1, .int a1), (2, .int x1), (3, .int x2), (5, .int x25)]) dX11_bestQuestion_69 rfl rfl (by decide) (by rw [ci1, ← ex27]; rfl) ?_
            refine zj_goto (tgt := 8) dX11_bestQuestion_72 (by decide) ?_
            have hn9 := h9 _ (Option.some.inj hy).symm
            refine zj_loc [1, 2, 3, 4, 0] rfl ?_
            exact ih8 _ _ _ hn9
          · have hy := zt_f hy c26
            refine zj_iload (pc' := 65) 5 dX11_bestQuestion_63 rfl rfl ?_
            refine zj_istore_n (pc' := 66) (L' := [(3, .int x25), (0, .ref (zad Γ 0)), (1, .int a1), (2, .int x1), (4, .int x3), (5, .int x25)]) dX11_bestQuestion_65 rfl rfl (by decide) rfl ?_
            refine zj_iload (pc' := 68) 4 dX11_bestQuestion_66 rfl rfl ?_
            refine zj_istore_n (pc' := 69) (L' := [(2, .int x3), (3, .int x25), (0, .ref (zad Γ 0)), (1, .int a1), (4, .int x3), (5, .int x25)]) dX11_bestQuestion_68 rfl rfl (by decide) rfl ?_
            obtain ⟨x28, ex28⟩ : ∃ z : Int32, z = (x3 + 1) := ⟨_, rfl⟩
            have hy := zlet_at ex28 hy
            refine zj_iinc (pc' := 72) 4 (L' := [(4, .int x28), (2, .int x3), (3, .int x25), (0, .ref (zad Γ 0)), (1, .int a1), (5, .int x25)]) dX11_bestQuestion_69 rfl rfl (by decide) (by rw [ci1, ← ex28]; rfl) ?_
            refine zj_goto (tgt := 8) dX11_bestQuestion_72 (by decide) ?_
            have hn9 := h9 _ (Option.some.inj hy).symm
            refine zj_loc [3, 4, 1, 2, 0] rfl ?_
            exact ih8 _ _ _ hn9
        have HL15 : ∀ (n : Nat) (x12 : Int32) (x13 : Int32), zlp (fun s => fX_bestQuestion_L21 r0_4_0 a1 x3 s.1 s.2) n (x12, x13) = some r16 → zR Γ 4 YX11_bestQuestion 21 [(0, .ref (zad Γ 0)), (1, .int a1), (2, .int x1), (3, .int x2), (4, .int x3), (5, .int x12), (6, .int x13)] [] M Q := by
          intro n
          induction n with
          | zero => intro x12 x13 hn9; cases hn9
          | succ n ih18 =>
            intro x12 x13 hn9
            obtain ⟨o9, hb9, h19, h20⟩ := zlp_step hn9
            have hy : fX_bestQuestion_L21 r0_4_0 a1 x3 x12 x13 = some o9 := hb9
            unfold fX_bestQuestion_L21 at hy
            refine zj_iload (pc' := 23) 6 dX11_bestQuestion_21 rfl rfl ?_
            refine zj_bipush (pc' := 25) dX11_bestQuestion_23 rfl kbipush_8 ?_
            refine zj_icmp_ge (tgt := 57) (pc' := 28) dX11_bestQuestion_25 rfl (by decide) (fun c21 => ?_) (fun c21 => ?_)
            · have hy := zt_t hy c21
              have e9 := h20 _ (Option.some.inj hy).symm
              refine zj_loc [0, 1, 2, 3, 4, 5] rfl ?_
              exact HE14 _ e9.symm
            · have hy := zt_f hy c21
              refine zj_iload (pc' := 30) 5 dX11_bestQuestion_28 rfl rfl ?_
              refine zj_iload_n (pc' := 31) 1 dX11_bestQuestion_30 rfl rfl rfl ?_
              refine zj_aload_n (pc' := 32) 0 dX11_bestQuestion_31 rfl rfl rfl ?_
              refine zj_getR (pc' := 35) (j := 15) dX11_bestQuestion_32 rfl flX11_38 sh0 rfl ?_
              refine zj_iload (pc' := 37) 6 dX11_bestQuestion_35 rfl rfl ?_
              refine zj_iload (pc' := 39) 4 dX11_bestQuestion_37 rfl rfl ?_
              obtain ⟨y22, hy22, hy⟩ := zt_b hy
              refine zj_V1 (pc' := 42) (z := YX1_whoWasAt) (As := [.int x13, .int x3]) (N := M) dX11_bestQuestion_39 rfl mlX11_198 lkX1_whoWasAt sh15 ⟨_, _, rfl⟩ rfl rfl (Nat.le_of_ble_eq_true rfl) (Nat.le_of_ble_eq_true rfl) (LX1_whoWasAt_15 Γ _ r0_4_0 e_i16 x13 x3 hy22) rfl ?_
              refine zj_iand (pc' := 43) dX11_bestQuestion_42 rfl ?_
              refine zj_S1 (pc' := 46) (z := YJ6_bitCount_0f7a4) (As := [.int (a1 &&& y22)]) (N := M) dX11_bestQuestion_43 rfl mlX11_222 lkJ6_bitCount_0f7a4 rfl rfl (Nat.le_of_ble_eq_true rfl) (Nat.le_of_ble_eq_true rfl) (LJ6_bitCount_0f7a4 Γ _ (a1 &&& y22) rfl) rfl ?_
              refine zj_mmax (pc' := 49) dX11_bestQuestion_46 rfl mlX11_407 zmmaxw (Nat.le_of_ble_eq_true rfl) (Nat.le_of_ble_eq_true rfl) ?_
              refine zj_topi (fun x23 ex23 => ?_)
              have hy := zlet_at ex23 hy
              refine zj_istore (pc' := 51) (L' := [(5, .int x23), (0, .ref (zad Γ 0)), (1, .int a1), (2, .int x1), (3, .int x2), (4, .int x3), (6, .int x13)]) dX11_bestQuestion_49 rfl (by decide) rfl ?_
              obtain ⟨x24, ex24⟩ : ∃ z : Int32, z = (x13 + 1) := ⟨_, rfl⟩
              have hy := zlet_at ex24 hy
              refine zj_iinc (pc' := 54) 6 (L' := [(6, .int x24), (5, .int x23), (0, .ref (zad Γ 0)), (1, .int a1), (2, .int x1), (3, .int x2), (4, .int x3)]) dX11_bestQuestion_51 rfl rfl (by decide) (by rw [ci1, ← ex24]; rfl) ?_
              refine zj_goto (tgt := 21) dX11_bestQuestion_54 (by decide) ?_
              have hn9 := h19 _ (Option.some.inj hy).symm
              refine zj_loc [2, 3, 4, 5, 6, 1, 0] rfl ?_
              exact ih18 _ _ hn9
        exact HL15 n9 _ _ hn9
  exact HL5 n9 _ _ _ hn9
set_option maxRecDepth 20000 in
theorem LX11_bestQuestion_0 (Γ : zG) (M : zM) (r0_4_0 : Nat → Int32) (e_i16 : M.1 16 = r0_4_0) (a1 : Int32) {res : Int32} (hy : (fX_bestQuestion r0_4_0 a1) = some res) : zK Γ 4 YX11_bestQuestion [.ref (zad Γ 0), .int a1] M (fun v N => v = some (.int res) ∧ N = M) :=
  zK_of (by decide) (Nat.le_of_ble_eq_true rfl) (TX11_bestQuestion_0 Γ M r0_4_0 e_i16 a1 hy ⟨rfl, rfl⟩)

noncomputable def fX_fits (r0 : Nat → Int32) (r0_0 : Nat → Int32) (r0_0_0 : Nat → Int32) (r0_2 : Nat → Int32) (r0_4_0 : Nat → Int32) : Option (Int32 × (Nat → Int32) × (Nat → Int32)) :=
  (fX_whoFitsTape r0_0 r0_0_0 r0_2 r0_4_0).bind (fun (y1 : Int32) =>
  (fTp_clear r0_0).bind (fun (y2 : (Nat → Int32)) =>
  (if y1 ≤ 0 then
  some (y1, r0, y2)
  else
  (fX_bestQuestion r0_4_0 y1).bind (fun (y4 : Int32) =>
  zlet (zup r0 19 y4) (fun (r0v5 : Nat → Int32) =>
  some (y1, r0v5, y2))))))

set_option maxRecDepth 20000 in
theorem TX11_fits_0 (Γ : zG) {Q : Option Value → zM → Prop} (M : zM) (r0 : Nat → Int32) (r0_0 : Nat → Int32) (r0_0_0 : Nat → Int32) (r0_2 : Nat → Int32) (r0_4_0 : Nat → Int32) (e_i0 : M.1 0 = r0) (e_i1 : M.1 1 = r0_0) (e_i2 : M.1 2 = r0_0_0) (e_i5 : M.1 5 = r0_2) (e_i16 : M.1 16 = r0_4_0)  {res : Int32 × (Nat → Int32) × (Nat → Int32)} (hy : (fX_fits r0 r0_0 r0_0_0 r0_2 r0_4_0) = some res) (hq : Q (some (.int res.1)) (zui (zui M 0 res.2.1) 1 res.2.2)) : zR Γ 5 YX11_fits 0 [(0, .ref (zad Γ 0))] [] M Q := by
  unfold fX_fits at hy
  refine zj_aload_n (pc' := 1) 0 dX11_fits_0 rfl rfl rfl ?_
  obtain ⟨y1, hy1, hy⟩ := zt_b hy
  refine zj_V1 (pc' := 4) (z := YX11_whoFitsTape) (As := []) (N := M) dX11_fits_1 rfl mlX11_276 lkX11_whoFitsTape sh0 ⟨_, _, rfl⟩ rfl rfl (Nat.le_of_ble_eq_true rfl) (Nat.le_of_ble_eq_true rfl) (LX11_whoFitsTape_0 Γ _ r0_0 r0_0_0 r0_2 r0_4_0 e_i1 e_i2 e_i5 e_i16 hy1) rfl ?_
  refine zj_istore_n (pc' := 5) (L' := [(1, .int y1), (0, .ref (zad Γ 0))]) dX11_fits_4 rfl rfl (by decide) rfl ?_
  refine zj_aload_n (pc' := 6) 1 dX11_fits_5 rfl rfl rfl ?_
  refine zj_getR (pc' := 9) (j := 1) dX11_fits_6 rfl flX11_10 sh0 rfl ?_
  obtain ⟨y2, hy2, hy⟩ := zt_b hy
  refine zj_V0 (pc' := 12) (z := YX10_clear) (As := []) (N := (zui M 1 y2)) dX11_fits_9 rfl mlX11_141 lkX10_clear sh1 ⟨_, _, rfl⟩ rfl rfl (Nat.le_of_ble_eq_true rfl) (Nat.le_of_ble_eq_true rfl) (LX10_clear_1 Γ _ r0_0 e_i1 hy2) (rfl).symm ?_
  refine zj_iload_n (pc' := 13) 0 dX11_fits_12 rfl rfl rfl ?_
  refine zj_if_le (tgt := 25) (pc' := 16) dX11_fits_13 rfl (by decide) (fun c3 => ?_) (fun c3 => ?_)
  · have hy := zt_t hy c3
    refine zj_iload_n (pc' := 26) 0 dX11_fits_25 rfl rfl rfl ?_
    have e9 := Option.some.inj hy
    subst e9
    refine zj_mem (N := (zui (zui M 0 r0) 1 y2)) (zself_i (zr_n rfl e_i0) (zm_n rfl rfl)) ?_
    exact zj_iret dX11_fits_26 rfl hq
  · have hy := zt_f hy c3
    refine zj_aload_n (pc' := 17) 1 dX11_fits_16 rfl rfl rfl ?_
    refine zj_aload_n (pc' := 18) 1 dX11_fits_17 rfl rfl rfl ?_
    refine zj_iload_n (pc' := 19) 0 dX11_fits_18 rfl rfl rfl ?_
    obtain ⟨y4, hy4, hy⟩ := zt_b hy
    refine zj_V1 (pc' := 22) (z := YX11_bestQuestion) (As := [.int y1]) (N := (zui M 1 y2)) dX11_fits_19 rfl mlX11_279 lkX11_bestQuestion sh0 ⟨_, _, rfl⟩ rfl rfl (Nat.le_of_ble_eq_true rfl) (Nat.le_of_ble_eq_true rfl) (LX11_bestQuestion_0 Γ _ r0_4_0 (zr_n rfl e_i16) y1 hy4) rfl ?_
    obtain ⟨r0v5, er0v5⟩ : ∃ z, z = (zup r0 19 y4) := ⟨_, rfl⟩
    have hy := zlet_at er0v5 hy
    refine zj_pI (pc' := 25) (N := (zui (zui M 0 r0v5) 1 y2)) dX11_fits_22 rfl fpX11_110 sh0 rfl (zr_n rfl e_i0) er0v5 (zm_n rfl rfl) ?_
    refine zj_iload_n (pc' := 26) 0 dX11_fits_25 rfl rfl rfl ?_
    have e9 := Option.some.inj hy
    subst e9
    exact zj_iret dX11_fits_26 rfl hq
set_option maxRecDepth 20000 in
theorem LX11_fits_0 (Γ : zG) (M : zM) (r0 : Nat → Int32) (r0_0 : Nat → Int32) (r0_0_0 : Nat → Int32) (r0_2 : Nat → Int32) (r0_4_0 : Nat → Int32) (e_i0 : M.1 0 = r0) (e_i1 : M.1 1 = r0_0) (e_i2 : M.1 2 = r0_0_0) (e_i5 : M.1 5 = r0_2) (e_i16 : M.1 16 = r0_4_0)  {res : Int32 × (Nat → Int32) × (Nat → Int32)} (hy : (fX_fits r0 r0_0 r0_0_0 r0_2 r0_4_0) = some res) : zK Γ 5 YX11_fits [.ref (zad Γ 0)] M (fun v N => v = some (.int res.1) ∧ N = (zui (zui M 0 res.2.1) 1 res.2.2)) :=
  zK_of (by decide) (Nat.le_of_ble_eq_true rfl) (TX11_fits_0 Γ M r0 r0_0 r0_0_0 r0_2 r0_4_0 e_i0 e_i1 e_i2 e_i5 e_i16 hy ⟨rfl, rfl⟩)

noncomputable def fM_octet (r0_1 : Nat → Int32) (a1 : Int32) : Option (Int32) :=
  (zrd r0_1 940 a1).bind (fun (v1 : Int32) =>
  some (v1 &&& 255))

set_option maxRecDepth 20000 in
theorem TX12_octet_186 (Γ : zG) {Q : Option Value → zM → Prop} (M : zM) (r0_1 : Nat → Int32) (e_i187 : M.1 187 = r0_1) (a1 : Int32) {res : Int32} (hy : (fM_octet r0_1 a1) = some res) (hq : Q (some (.int res)) M) : zR Γ 1 YX12_octet 0 [(0, .ref (zad Γ 186)), (1, .int a1)] [] M Q := by
  unfold fM_octet at hy
  refine zj_aload_n (pc' := 1) 0 dX12_octet_0 rfl rfl rfl ?_
  refine zj_getR (pc' := 4) (j := 187) dX12_octet_1 rfl flX12_14 sh186 rfl ?_
  refine zj_iload_n (pc' := 5) 1 dX12_octet_4 rfl rfl rfl ?_
  obtain ⟨v1, hv1, hy⟩ := zt_b hy
  refine zj_rdb (pc' := 6) dX12_octet_5 rfl sh187 e_i187 hv1 ?_
  refine zj_sipush (pc' := 9) dX12_octet_6 rfl ksipush_255 ?_
  refine zj_iand (pc' := 10) dX12_octet_9 rfl ?_
  have e9 := Option.some.inj hy
  subst e9
  exact zj_iret dX12_octet_10 rfl hq
set_option maxRecDepth 20000 in
theorem LX12_octet_186 (Γ : zG) (M : zM) (r0_1 : Nat → Int32) (e_i187 : M.1 187 = r0_1) (a1 : Int32) {res : Int32} (hy : (fM_octet r0_1 a1) = some res) : zK Γ 1 YX12_octet [.ref (zad Γ 186), .int a1] M (fun v N => v = some (.int res) ∧ N = M) :=
  zK_of (by decide) (Nat.le_of_ble_eq_true rfl) (TX12_octet_186 Γ M r0_1 e_i187 a1 hy ⟨rfl, rfl⟩)

noncomputable def fM_isFit_L4 (r0 : Nat → Int32) (r0_1 : Nat → Int32) (r0_6 : Nat → Int32) (a1 : Int32) (x1 : Int32) (x2 : Int32) : Option ((Int32 × Int32) ⊕ (Int32)) :=
  (if (r0 3) ≤ x2 then
  some (.inr x1)
  else
  (if x1 = 0 then
  zlet (x2 + 1) (fun (x12 : Int32) =>
  some (.inl (0, x12)))
  else
  (fM_octet r0_1 x2).bind (fun (y13 : Int32) =>
  (if y13 = 255 then
  zlet (x2 + 1) (fun (x15 : Int32) =>
  some (.inl (1, x15)))
  else
  (fM_octet r0_1 x2).bind (fun (y16 : Int32) =>
  (zrd r0_6 397 ((91 + (6 * x2)) + a1)).bind (fun (v17 : Int32) =>
  zlet (x2 + 1) (fun (x20 : Int32) =>
  some (.inl ((zb (if y16 = v17 then true else false)), x20)))))))))
noncomputable def fM_isFit (r0 : Nat → Int32) (r0_1 : Nat → Int32) (r0_6 : Nat → Int32) (a1 : Int32) : Option (Bool) :=
  (zLP (fun s => fM_isFit_L4 r0 r0_1 r0_6 a1 s.1 s.2) (1, 0)).bind (fun r5 =>
  (if r5 = 0 ∨ r5 = 1 then some (decide (r5 = 1)) else none))

set_option maxRecDepth 20000 in
theorem TX12_isFit_186 (Γ : zG) {Q : Option Value → zM → Prop} (M : zM) (r0 : Nat → Int32) (r0_1 : Nat → Int32) (r0_6 : Nat → Int32) (e_i186 : M.1 186 = r0) (e_i187 : M.1 187 = r0_1) (e_i188 : M.1 188 = r0_6) (a1 : Int32) {res : Bool} (hy : (fM_isFit r0 r0_1 r0_6 a1) = some res) (hq : Q (some (.int (zb res))) M) : zR Γ 2 YX12_isFit 0 [(0, .ref (zad Γ 186)), (1, .int a1)] [] M Q := by
  unfold fM_isFit at hy
  refine zj_iconst (pc' := 1) dX12_isFit_0 rfl kiconst_1 ?_
  refine zj_istore_n (pc' := 2) (L' := [(2, .int 1), (0, .ref (zad Γ 186)), (1, .int a1)]) dX12_isFit_1 rfl rfl (by decide) rfl ?_
  refine zj_iconst (pc' := 3) dX12_isFit_2 rfl kiconst_0 ?_
  refine zj_istore_n (pc' := 4) (L' := [(3, .int 0), (2, .int 1), (0, .ref (zad Γ 186)), (1, .int a1)]) dX12_isFit_3 rfl rfl (by decide) rfl ?_
  refine zj_loc [2, 3, 1, 0] rfl ?_
  obtain ⟨r5, hr9, hyo6⟩ := zt_b hy
  obtain ⟨n9, hn9⟩ := zLP_some hr9
  have HE3 : ∀ (x21 : Int32), r5 = x21 → zR Γ 2 YX12_isFit 61 [(2, .int x21)] [] M Q := by
    intro x21 e9
    have hy := hyo6
    try rw [e9] at hy
    try dsimp only at hy
    refine zj_iload_n (pc' := 62) 0 dX12_isFit_61 rfl rfl rfl ?_
    obtain ⟨cz9, hz9⟩ := zck hy
    have e9 := Option.some.inj hz9
    subst e9
    exact zj_cret dX12_isFit_62 rfl cz9 hq
  have HL4 : ∀ (n : Nat) (x1 : Int32) (x2 : Int32), zlp (fun s => fM_isFit_L4 r0 r0_1 r0_6 a1 s.1 s.2) n (x1, x2) = some r5 → zR Γ 2 YX12_isFit 4 [(0, .ref (zad Γ 186)), (1, .int a1), (2, .int x1), (3, .int x2)] [] M Q := by
    intro n
    induction n with
    | zero => intro x1 x2 hn9; cases hn9
    | succ n ih7 =>
      intro x1 x2 hn9
      obtain ⟨o9, hb9, h8, h9⟩ := zlp_step hn9
      have hy : fM_isFit_L4 r0 r0_1 r0_6 a1 x1 x2 = some o9 := hb9
      unfold fM_isFit_L4 at hy
      refine zj_iload_n (pc' := 5) 3 dX12_isFit_4 rfl rfl rfl ?_
      refine zj_aload_n (pc' := 6) 0 dX12_isFit_5 rfl rfl rfl ?_
      refine zj_fI (pc' := 9) dX12_isFit_6 rfl flX12_18 sh186 rfl e_i186 rfl ?_
      refine zj_icmp_ge (tgt := 61) (pc' := 12) dX12_isFit_9 rfl (by decide) (fun c10 => ?_) (fun c10 => ?_)
      · have hy := zt_t hy c10
        have e9 := h9 _ (Option.some.inj hy).symm
        refine zj_loc [2] rfl ?_
        exact HE3 _ e9.symm
      · have hy := zt_f hy c10
        refine zj_iload_n (pc' := 13) 2 dX12_isFit_12 rfl rfl rfl ?_
        refine zj_if_eq (tgt := 53) (pc' := 16) dX12_isFit_13 rfl (by decide) (fun c11 => ?_) (fun c11 => ?_)
        · have hy := zt_t hy c11
          refine zj_iconst (pc' := 54) dX12_isFit_53 rfl kiconst_0 ?_
          refine zj_istore_n (pc' := 55) (L' := [(2, .int 0), (0, .ref (zad Γ 186)), (1, .int a1), (3, .int x2)]) dX12_isFit_54 rfl rfl (by decide) rfl ?_
          obtain ⟨x12, ex12⟩ : ∃ z : Int32, z = (x2 + 1) := ⟨_, rfl⟩
          have hy := zlet_at ex12 hy
          refine zj_iinc (pc' := 58) 3 (L' := [(3, .int x12), (2, .int 0), (0, .ref (zad Γ 186)), (1, .int a1)]) dX12_isFit_55 rfl rfl (by decide) (by rw [ci1, ← ex12]; rfl) ?_
          refine zj_goto (tgt := 4) dX12_isFit_58 (by decide) ?_
          have hn9 := h8 _ (Option.some.inj hy).symm
          refine zj_loc [2, 3, 1, 0] rfl ?_
          exact ih7 _ _ hn9
        · have hy := zt_f hy c11
          refine zj_aload_n (pc' := 17) 0 dX12_isFit_16 rfl rfl rfl ?_
          refine zj_iload_n (pc' := 18) 3 dX12_isFit_17 rfl rfl rfl ?_
          obtain ⟨y13, hy13, hy⟩ := zt_b hy
          refine zj_V1 (pc' := 21) (z := YX12_octet) (As := [.int x2]) (N := M) dX12_isFit_18 rfl mlX12_346 lkX12_octet sh186 ⟨_, _, rfl⟩ rfl rfl (Nat.le_of_ble_eq_true rfl) (Nat.le_of_ble_eq_true rfl) (LX12_octet_186 Γ _ r0_1 e_i187 x2 hy13) rfl ?_
          refine zj_sipush (pc' := 24) dX12_isFit_21 rfl ksipush_255 ?_
          refine zj_icmp_eq (tgt := 49) (pc' := 27) dX12_isFit_24 rfl (by decide) (fun c14 => ?_) (fun c14 => ?_)
          · have hy := zt_t hy c14
            refine zj_iconst (pc' := 50) dX12_isFit_49 rfl kiconst_1 ?_
            refine zj_goto (tgt := 54) dX12_isFit_50 (by decide) ?_
            refine zj_istore_n (pc' := 55) (L' := [(2, .int 1), (0, .ref (zad Γ 186)), (1, .int a1), (3, .int x2)]) dX12_isFit_54 rfl rfl (by decide) rfl ?_
            obtain ⟨x15, ex15⟩ : ∃ z : Int32, z = (x2 + 1) := ⟨_, rfl⟩
            have hy := zlet_at ex15 hy
            refine zj_iinc (pc' := 58) 3 (L' := [(3, .int x15), (2, .int 1), (0, .ref (zad Γ 186)), (1, .int a1)]) dX12_isFit_55 rfl rfl (by decide) (by rw [ci1, ← ex15]; rfl) ?_
            refine zj_goto (tgt := 4) dX12_isFit_58 (by decide) ?_
            have hn9 := h8 _ (Option.some.inj hy).symm
            refine zj_loc [2, 3, 1, 0] rfl ?_
            exact ih7 _ _ hn9
          · have hy := zt_f hy c14
            refine zj_aload_n (pc' := 28) 0 dX12_isFit_27 rfl rfl rfl ?_
            refine zj_iload_n (pc' := 29) 3 dX12_isFit_28 rfl rfl rfl ?_
            obtain ⟨y16, hy16, hy⟩ := zt_b hy
            refine zj_V1 (pc' := 32) (z := YX12_octet) (As := [.int x2]) (N := M) dX12_isFit_29 rfl mlX12_346 lkX12_octet sh186 ⟨_, _, rfl⟩ rfl rfl (Nat.le_of_ble_eq_true rfl) (Nat.le_of_ble_eq_true rfl) (LX12_octet_186 Γ _ r0_1 e_i187 x2 hy16) rfl ?_
            refine zj_aload_n (pc' := 33) 0 dX12_isFit_32 rfl rfl rfl ?_
            refine zj_getR (pc' := 36) (j := 188) dX12_isFit_33 rfl flX12_33 sh186 rfl ?_
            refine zj_bipush (pc' := 38) dX12_isFit_36 rfl kbipush_91 ?_
            refine zj_bipush (pc' := 40) dX12_isFit_38 rfl kbipush_6 ?_
            refine zj_iload_n (pc' := 41) 3 dX12_isFit_40 rfl rfl rfl ?_
            refine zj_imul (pc' := 42) dX12_isFit_41 rfl ?_
            refine zj_iadd (pc' := 43) dX12_isFit_42 rfl ?_
            refine zj_iload_n (pc' := 44) 1 dX12_isFit_43 rfl rfl rfl ?_
            refine zj_iadd (pc' := 45) dX12_isFit_44 rfl ?_
            obtain ⟨v17, hv17, hy⟩ := zt_b hy
            refine zj_rdi (pc' := 46) dX12_isFit_45 rfl sh188 e_i188 hv17 ?_
            have HJ18 : zR Γ 2 YX12_isFit 54 [(0, .ref (zad Γ 186)), (1, .int a1), (2, .int x1), (3, .int x2)] [.int (zb (if y16 = v17 then true else false))] M Q := by
              refine zj_istore_n (pc' := 55) (L' := [(2, .int (zb (if y16 = v17 then true else false))), (0, .ref (zad Γ 186)), (1, .int a1), (3, .int x2)]) dX12_isFit_54 rfl rfl (by decide) rfl ?_
              obtain ⟨x20, ex20⟩ : ∃ z : Int32, z = (x2 + 1) := ⟨_, rfl⟩
              have hy := zlet_at ex20 hy
              refine zj_iinc (pc' := 58) 3 (L' := [(3, .int x20), (2, .int (zb (if y16 = v17 then true else false))), (0, .ref (zad Γ 186)), (1, .int a1)]) dX12_isFit_55 rfl rfl (by decide) (by rw [ci1, ← ex20]; rfl) ?_
              refine zj_goto (tgt := 4) dX12_isFit_58 (by decide) ?_
              have hn9 := h8 _ (Option.some.inj hy).symm
              refine zj_loc [2, 3, 1, 0] rfl ?_
              exact ih7 _ _ hn9
            refine zj_icmp_ne (tgt := 53) (pc' := 49) dX12_isFit_46 rfl (by decide) (fun c19 => ?_) (fun c19 => ?_)
            · refine zj_iconst (pc' := 54) dX12_isFit_53 rfl kiconst_0 ?_
              exact zj_eqb (b := false) (if_neg c19) HJ18
            · refine zj_iconst (pc' := 50) dX12_isFit_49 rfl kiconst_1 ?_
              refine zj_goto (tgt := 54) dX12_isFit_50 (by decide) ?_
              exact zj_eqb (b := true) (if_pos c19) HJ18
  exact HL4 n9 _ _ hn9
set_option maxRecDepth 20000 in
theorem LX12_isFit_186 (Γ : zG) (M : zM) (r0 : Nat → Int32) (r0_1 : Nat → Int32) (r0_6 : Nat → Int32) (e_i186 : M.1 186 = r0) (e_i187 : M.1 187 = r0_1) (e_i188 : M.1 188 = r0_6) (a1 : Int32) {res : Bool} (hy : (fM_isFit r0 r0_1 r0_6 a1) = some res) : zK Γ 2 YX12_isFit [.ref (zad Γ 186), .int a1] M (fun v N => v = some (.int (zb res)) ∧ N = M) :=
  zK_of (by decide) (Nat.le_of_ble_eq_true rfl) (TX12_isFit_186 Γ M r0 r0_1 r0_6 e_i186 e_i187 e_i188 a1 hy ⟨rfl, rfl⟩)

noncomputable def fM_greater (a1 : Int32) (a2 : Int32) : Int32 :=
  (if a1 ≤ a2 then a2 else a1)

set_option maxRecDepth 20000 in
theorem TX12_greater (Γ : zG) {Q : Option Value → zM → Prop} (M : zM)   (a1 : Int32) (a2 : Int32) {res : Int32} (hy : (fM_greater a1 a2) = res) (hq : Q (some (.int res)) M) : zR Γ 1 YX12_greater 0 [(0, .int a1), (1, .int a2)] [] M Q := by
  unfold fM_greater at hy
  refine zj_iload_n (pc' := 1) 0 dX12_greater_0 rfl rfl rfl ?_
  refine zj_iload_n (pc' := 2) 1 dX12_greater_1 rfl rfl rfl ?_
  have HJ1 : zR Γ 1 YX12_greater 10 [(0, .int a1), (1, .int a2)] [.int (if a1 ≤ a2 then a2 else a1)] M Q := by
    subst hy
    exact zj_iret dX12_greater_10 rfl hq
  refine zj_icmp_le (tgt := 9) (pc' := 5) dX12_greater_2 rfl (by decide) (fun c2 => ?_) (fun c2 => ?_)
  · refine zj_iload_n (pc' := 10) 1 dX12_greater_9 rfl rfl rfl ?_
    exact zj_eqi (if_pos c2) HJ1
  · refine zj_iload_n (pc' := 6) 0 dX12_greater_5 rfl rfl rfl ?_
    refine zj_goto (tgt := 10) dX12_greater_6 (by decide) ?_
    exact zj_eqi (if_neg c2) HJ1
set_option maxRecDepth 20000 in
theorem LX12_greater (Γ : zG) (M : zM)   (a1 : Int32) (a2 : Int32) {res : Int32} (hy : (fM_greater a1 a2) = res) : zK Γ 1 YX12_greater [.int a1, .int a2] M (fun v N => v = some (.int res) ∧ N = M) :=
  zK_of (by decide) (Nat.le_of_ble_eq_true rfl) (TX12_greater Γ M a1 a2 hy ⟨rfl, rfl⟩)

noncomputable def fM_leftBy_L22 (r0_6 : Nat → Int32) (a1 : Int32) (a2 : Int32) (x2 : Int32) (x11 : Int32) (x12 : Int32) : Option ((Int32 × Int32) ⊕ (Int32)) :=
  (if (r0_6 2) ≤ x12 then
  some (.inr x11)
  else
  (if (fM_bitOf a1 x12) = true then
  (zrd r0_6 397 ((91 + (6 * a2)) + x12)).bind (fun (v22 : Int32) =>
  zlet (x11 + (zb (if v22 = x2 then true else false))) (fun (x25 : Int32) =>
  zlet (x12 + 1) (fun (x26 : Int32) =>
  some (.inl (x25, x26)))))
  else
  zlet (x11 + 0) (fun (x27 : Int32) =>
  zlet (x12 + 1) (fun (x28 : Int32) =>
  some (.inl (x27, x28))))))
noncomputable def fM_leftBy_L5 (r0_6 : Nat → Int32) (a1 : Int32) (a2 : Int32) (x1 : Int32) (x2 : Int32) : Option ((Int32 × Int32) ⊕ (Int32)) :=
  (if (r0_6 0) ≤ x2 then
  some (.inr x1)
  else
  (zLP (fun s => fM_leftBy_L22 r0_6 a1 a2 x2 s.1 s.2) (0, 0)).bind (fun r15 =>
  zlet (fM_greater x1 r15) (fun (x30 : Int32) =>
  zlet (x2 + 1) (fun (x31 : Int32) =>
  some (.inl (x30, x31))))))
noncomputable def fM_leftBy (r0_6 : Nat → Int32) (a1 : Int32) (a2 : Int32) : Option (Int32) :=
  (zLP (fun s => fM_leftBy_L5 r0_6 a1 a2 s.1 s.2) (0, 0)).bind (fun r5 =>
  some r5)

set_option maxRecDepth 20000 in
theorem TX12_leftBy_186 (Γ : zG) {Q : Option Value → zM → Prop} (M : zM) (r0_6 : Nat → Int32) (e_i188 : M.1 188 = r0_6) (a1 : Int32) (a2 : Int32) {res : Int32} (hy : (fM_leftBy r0_6 a1 a2) = some res) (hq : Q (some (.int res)) M) : zR Γ 2 YX12_leftBy 0 [(0, .ref (zad Γ 186)), (1, .int a1), (2, .int a2)] [] M Q := by
  unfold fM_leftBy at hy
  refine zj_iconst (pc' := 1) dX12_leftBy_0 rfl kiconst_0 ?_
  refine zj_istore_n (pc' := 2) (L' := [(3, .int 0), (0, .ref (zad Γ 186)), (1, .int a1), (2, .int a2)]) dX12_leftBy_1 rfl rfl (by decide) rfl ?_
  refine zj_iconst (pc' := 3) dX12_leftBy_2 rfl kiconst_0 ?_
  refine zj_istore (pc' := 5) (L' := [(4, .int 0), (3, .int 0), (0, .ref (zad Γ 186)), (1, .int a1), (2, .int a2)]) dX12_leftBy_3 rfl (by decide) rfl ?_
  refine zj_loc [2, 3, 4, 1, 0] rfl ?_
  obtain ⟨r5, hr9, hyo6⟩ := zt_b hy
  obtain ⟨n9, hn9⟩ := zLP_some hr9
  have HE3 : ∀ (x32 : Int32), r5 = x32 → zR Γ 2 YX12_leftBy 91 [(3, .int x32)] [] M Q := by
    intro x32 e9
    have hy := hyo6
    try rw [e9] at hy
    try dsimp only at hy
    refine zj_iload_n (pc' := 92) 0 dX12_leftBy_91 rfl rfl rfl ?_
    have e9 := Option.some.inj hy
    subst e9
    exact zj_iret dX12_leftBy_92 rfl hq
  have HL4 : ∀ (n : Nat) (x1 : Int32) (x2 : Int32), zlp (fun s => fM_leftBy_L5 r0_6 a1 a2 s.1 s.2) n (x1, x2) = some r5 → zR Γ 2 YX12_leftBy 5 [(0, .ref (zad Γ 186)), (1, .int a1), (2, .int a2), (3, .int x1), (4, .int x2)] [] M Q := by
    intro n
    induction n with
    | zero => intro x1 x2 hn9; cases hn9
    | succ n ih7 =>
      intro x1 x2 hn9
      obtain ⟨o9, hb9, h8, h9⟩ := zlp_step hn9
      have hy : fM_leftBy_L5 r0_6 a1 a2 x1 x2 = some o9 := hb9
      unfold fM_leftBy_L5 at hy
      refine zj_iload (pc' := 7) 4 dX12_leftBy_5 rfl rfl ?_
      refine zj_aload_n (pc' := 8) 0 dX12_leftBy_7 rfl rfl rfl ?_
      refine zj_getR (pc' := 11) (j := 188) dX12_leftBy_8 rfl flX12_33 sh186 rfl ?_
      refine zj_iconst (pc' := 12) dX12_leftBy_11 rfl kiconst_0 ?_
      refine zj_rdi (pc' := 13) dX12_leftBy_12 rfl sh188 e_i188 (zrdK zi0_397 tn0) ?_
      refine zj_icmp_ge (tgt := 91) (pc' := 16) dX12_leftBy_13 rfl (by decide) (fun c10 => ?_) (fun c10 => ?_)
      · have hy := zt_t hy c10
        have e9 := h9 _ (Option.some.inj hy).symm
        refine zj_loc [3] rfl ?_
        exact HE3 _ e9.symm
      · have hy := zt_f hy c10
        refine zj_iconst (pc' := 17) dX12_leftBy_16 rfl kiconst_0 ?_
        refine zj_istore (pc' := 19) (L' := [(5, .int 0), (0, .ref (zad Γ 186)), (1, .int a1), (2, .int a2), (3, .int x1), (4, .int x2)]) dX12_leftBy_17 rfl (by decide) rfl ?_
        refine zj_iconst (pc' := 20) dX12_leftBy_19 rfl kiconst_0 ?_
        refine zj_istore (pc' := 22) (L' := [(6, .int 0), (5, .int 0), (0, .ref (zad Γ 186)), (1, .int a1), (2, .int a2), (3, .int x1), (4, .int x2)]) dX12_leftBy_20 rfl (by decide) rfl ?_
        refine zj_loc [2, 3, 4, 5, 6, 1, 0] rfl ?_
        obtain ⟨r15, hr9, hyo16⟩ := zt_b hy
        obtain ⟨n9, hn9⟩ := zLP_some hr9
        have HE13 : ∀ (x29 : Int32), r15 = x29 → zR Γ 2 YX12_leftBy 78 [(0, .ref (zad Γ 186)), (1, .int a1), (2, .int a2), (3, .int x1), (4, .int x2), (5, .int x29)] [] M Q := by
          intro x29 e9
          have hy := hyo16
          try rw [e9] at hy
          try dsimp only at hy
          refine zj_iload_n (pc' := 79) 3 dX12_leftBy_78 rfl rfl rfl ?_
          refine zj_iload (pc' := 81) 5 dX12_leftBy_79 rfl rfl ?_
          refine zj_S1 (pc' := 84) (z := YX12_greater) (As := [.int x1, .int x29]) (N := M) dX12_leftBy_81 rfl mlX12_349 lkX12_greater rfl rfl (Nat.le_of_ble_eq_true rfl) (Nat.le_of_ble_eq_true rfl) (LX12_greater Γ _ x1 x29 rfl) rfl ?_
          refine zj_topi (fun x30 ex30 => ?_)
          have hy := zlet_at ex30 hy
          refine zj_istore_n (pc' := 85) (L' := [(3, .int x30), (0, .ref (zad Γ 186)), (1, .int a1), (2, .int a2), (4, .int x2), (5, .int x29)]) dX12_leftBy_84 rfl rfl (by decide) rfl ?_
          obtain ⟨x31, ex31⟩ : ∃ z : Int32, z = (x2 + 1) := ⟨_, rfl⟩
          have hy := zlet_at ex31 hy
          refine zj_iinc (pc' := 88) 4 (L' := [(4, .int x31), (3, .int x30), (0, .ref (zad Γ 186)), (1, .int a1), (2, .int a2), (5, .int x29)]) dX12_leftBy_85 rfl rfl (by decide) (by rw [ci1, ← ex31]; rfl) ?_
          refine zj_goto (tgt := 5) dX12_leftBy_88 (by decide) ?_
          have hn9 := h8 _ (Option.some.inj hy).symm
          refine zj_loc [2, 3, 4, 1, 0] rfl ?_
          exact ih7 _ _ hn9
        have HL14 : ∀ (n : Nat) (x11 : Int32) (x12 : Int32), zlp (fun s => fM_leftBy_L22 r0_6 a1 a2 x2 s.1 s.2) n (x11, x12) = some r15 → zR Γ 2 YX12_leftBy 22 [(0, .ref (zad Γ 186)), (1, .int a1), (2, .int a2), (3, .int x1), (4, .int x2), (5, .int x11), (6, .int x12)] [] M Q := by
          intro n
          induction n with
          | zero => intro x11 x12 hn9; cases hn9
          | succ n ih17 =>
            intro x11 x12 hn9
            obtain ⟨o9, hb9, h18, h19⟩ := zlp_step hn9
            have hy : fM_leftBy_L22 r0_6 a1 a2 x2 x11 x12 = some o9 := hb9
            unfold fM_leftBy_L22 at hy
            refine zj_iload (pc' := 24) 6 dX12_leftBy_22 rfl rfl ?_
            refine zj_aload_n (pc' := 25) 0 dX12_leftBy_24 rfl rfl rfl ?_
            refine zj_getR (pc' := 28) (j := 188) dX12_leftBy_25 rfl flX12_33 sh186 rfl ?_
            refine zj_iconst (pc' := 29) dX12_leftBy_28 rfl kiconst_2 ?_
            refine zj_rdi (pc' := 30) dX12_leftBy_29 rfl sh188 e_i188 (zrdK zi2_397 tn2) ?_
            refine zj_icmp_ge (tgt := 78) (pc' := 33) dX12_leftBy_30 rfl (by decide) (fun c20 => ?_) (fun c20 => ?_)
            · have hy := zt_t hy c20
              have e9 := h19 _ (Option.some.inj hy).symm
              refine zj_loc [0, 1, 2, 3, 4, 5] rfl ?_
              exact HE13 _ e9.symm
            · have hy := zt_f hy c20
              refine zj_iload (pc' := 35) 5 dX12_leftBy_33 rfl rfl ?_
              refine zj_iload_n (pc' := 36) 1 dX12_leftBy_35 rfl rfl rfl ?_
              refine zj_iload (pc' := 38) 6 dX12_leftBy_36 rfl rfl ?_
              refine zj_S1 (pc' := 41) (z := YX12_bitOf) (As := [.int a1, .int x12]) (N := M) dX12_leftBy_38 rfl mlX12_235 lkX12_bitOf rfl rfl (Nat.le_of_ble_eq_true rfl) (Nat.le_of_ble_eq_true rfl) (LX12_bitOf Γ _ a1 x12 rfl) rfl ?_
              refine zj_bif_eq (tgt := 68) (pc' := 44) dX12_leftBy_41 rfl (by decide) (fun c21 => ?_) (fun c21 => ?_)
              · have hy := zt_f hy c21
                refine zj_iconst (pc' := 69) dX12_leftBy_68 rfl kiconst_0 ?_
                refine zj_iadd (pc' := 70) dX12_leftBy_69 rfl ?_
                refine zj_topi (fun x27 ex27 => ?_)
                have hy := zlet_at ex27 hy
                refine zj_istore (pc' := 72) (L' := [(5, .int x27), (0, .ref (zad Γ 186)), (1, .int a1), (2, .int a2), (3, .int x1), (4, .int x2), (6, .int x12)]) dX12_leftBy_70 rfl (by decide) rfl ?_
                obtain ⟨x28, ex28⟩ : ∃ z : Int32, z = (x12 + 1) := ⟨_, rfl⟩
                have hy := zlet_at ex28 hy
                refine zj_iinc (pc' := 75) 6 (L' := [(6, .int x28), (5, .int x27), (0, .ref (zad Γ 186)), (1, .int a1), (2, .int a2), (3, .int x1), (4, .int x2)]) dX12_leftBy_72 rfl rfl (by decide) (by rw [ci1, ← ex28]; rfl) ?_
                refine zj_goto (tgt := 22) dX12_leftBy_75 (by decide) ?_
                have hn9 := h18 _ (Option.some.inj hy).symm
                refine zj_loc [2, 3, 4, 5, 6, 1, 0] rfl ?_
                exact ih17 _ _ hn9
              · have hy := zt_t hy c21
                refine zj_aload_n (pc' := 45) 0 dX12_leftBy_44 rfl rfl rfl ?_
                refine zj_getR (pc' := 48) (j := 188) dX12_leftBy_45 rfl flX12_33 sh186 rfl ?_
                refine zj_bipush (pc' := 50) dX12_leftBy_48 rfl kbipush_91 ?_
                refine zj_bipush (pc' := 52) dX12_leftBy_50 rfl kbipush_6 ?_
                refine zj_iload_n (pc' := 53) 2 dX12_leftBy_52 rfl rfl rfl ?_
                refine zj_imul (pc' := 54) dX12_leftBy_53 rfl ?_
                refine zj_iadd (pc' := 55) dX12_leftBy_54 rfl ?_
                refine zj_iload (pc' := 57) 6 dX12_leftBy_55 rfl rfl ?_
                refine zj_iadd (pc' := 58) dX12_leftBy_57 rfl ?_
                obtain ⟨v22, hv22, hy⟩ := zt_b hy
                refine zj_rdi (pc' := 59) dX12_leftBy_58 rfl sh188 e_i188 hv22 ?_
                refine zj_iload (pc' := 61) 4 dX12_leftBy_59 rfl rfl ?_
                have HJ23 : zR Γ 2 YX12_leftBy 69 [(0, .ref (zad Γ 186)), (1, .int a1), (2, .int a2), (3, .int x1), (4, .int x2), (5, .int x11), (6, .int x12)] [.int (zb (if v22 = x2 then true else false)), .int x11] M Q := by
                  refine zj_iadd (pc' := 70) dX12_leftBy_69 rfl ?_
                  refine zj_topi (fun x25 ex25 => ?_)
                  have hy := zlet_at ex25 hy
                  refine zj_istore (pc' := 72) (L' := [(5, .int x25), (0, .ref (zad Γ 186)), (1, .int a1), (2, .int a2), (3, .int x1), (4, .int x2), (6, .int x12)]) dX12_leftBy_70 rfl (by decide) rfl ?_
                  obtain ⟨x26, ex26⟩ : ∃ z : Int32, z = (x12 + 1) := ⟨_, rfl⟩
                  have hy := zlet_at ex26 hy
                  refine zj_iinc (pc' := 75) 6 (L' := [(6, .int x26), (5, .int x25), (0, .ref (zad Γ 186)), (1, .int a1), (2, .int a2), (3, .int x1), (4, .int x2)]) dX12_leftBy_72 rfl rfl (by decide) (by rw [ci1, ← ex26]; rfl) ?_
                  refine zj_goto (tgt := 22) dX12_leftBy_75 (by decide) ?_
                  have hn9 := h18 _ (Option.some.inj hy).symm
                  refine zj_loc [2, 3, 4, 5, 6, 1, 0] rfl ?_
                  exact ih17 _ _ hn9
                refine zj_icmp_ne (tgt := 68) (pc' := 64) dX12_leftBy_61 rfl (by decide) (fun c24 => ?_) (fun c24 => ?_)
                · refine zj_iconst (pc' := 69) dX12_leftBy_68 rfl kiconst_0 ?_
                  exact zj_eqb (b := false) (if_neg c24) HJ23
                · refine zj_iconst (pc' := 65) dX12_leftBy_64 rfl kiconst_1 ?_
                  refine zj_goto (tgt := 69) dX12_leftBy_65 (by decide) ?_
                  exact zj_eqb (b := true) (if_pos c24) HJ23
        exact HL14 n9 _ _ hn9
  exact HL4 n9 _ _ hn9
set_option maxRecDepth 20000 in
theorem LX12_leftBy_186 (Γ : zG) (M : zM) (r0_6 : Nat → Int32) (e_i188 : M.1 188 = r0_6) (a1 : Int32) (a2 : Int32) {res : Int32} (hy : (fM_leftBy r0_6 a1 a2) = some res) : zK Γ 2 YX12_leftBy [.ref (zad Γ 186), .int a1, .int a2] M (fun v N => v = some (.int res) ∧ N = M) :=
  zK_of (by decide) (Nat.le_of_ble_eq_true rfl) (TX12_leftBy_186 Γ M r0_6 e_i188 a1 a2 hy ⟨rfl, rfl⟩)

noncomputable def fM_fits_L29 (r0_1 : Nat → Int32) (r0_6 : Nat → Int32) (y2 : (Nat → Int32)) (x4 : Int32) : Option ((Int32) ⊕ ((Unit) ⊕ (Int32 × (Nat → Int32)))) :=
  (if (y2 3) ≤ x4 then
  some (.inr (.inl ()))
  else
  (fM_octet r0_1 x4).bind (fun (y13 : Int32) =>
  (if y13 = 255 then
  zlet (x4 + 1) (fun (x15 : Int32) =>
  some (.inl x15))
  else
  (fM_octet r0_1 x4).bind (fun (y16 : Int32) =>
  (fM_isCorner r0_6 y16).bind (fun (y17 : Bool) =>
  (if y17 = true then
  zlet (x4 + 1) (fun (x19 : Int32) =>
  some (.inl x19))
  else
  some (.inr (.inr ((-1), y2)))))))))
noncomputable def fM_fits_L72 (r0_1 : Nat → Int32) (r0_6 : Nat → Int32) (y2 : (Nat → Int32)) (x21 : Int32) (x22 : Int32) : Option ((Int32 × Int32) ⊕ (Int32)) :=
  (if (r0_6 2) ≤ x22 then
  some (.inr x21)
  else
  (fM_isFit y2 r0_1 r0_6 x22).bind (fun (y31 : Bool) =>
  zlet (x21 ||| (if y31 = true then ((1 : Int32) <<< (x22 &&& 31)) else (0 : Int32))) (fun (x34 : Int32) =>
  zlet (x22 + 1) (fun (x35 : Int32) =>
  some (.inl (x34, x35))))))
noncomputable def fM_fits_L124 (r0_6 : Nat → Int32) (x36 : Int32) (r0v40 : Nat → Int32) (x41 : Int32) : Option (((Nat → Int32) × Int32) ⊕ ((Nat → Int32))) :=
  (if 6 ≤ x41 then
  some (.inr r0v40)
  else
  (fM_leftBy r0_6 x36 x41).bind (fun (y50 : Int32) =>
  (fM_leftBy r0_6 x36 (r0v40 27)).bind (fun (y51 : Int32) =>
  (if y51 ≤ y50 then
  zlet (x41 + 1) (fun (x53 : Int32) =>
  some (.inl (r0v40, x53)))
  else
  zlet (zup r0v40 27 x41) (fun (r0v54 : Nat → Int32) =>
  zlet (x41 + 1) (fun (x55 : Int32) =>
  some (.inl (r0v54, x55))))))))
noncomputable def fM_fits (r0 : Nat → Int32) (r0_1 : Nat → Int32) (r0_6 : Nat → Int32) : Option (Int32 × (Nat → Int32)) :=
  zlet (zup r0 0 0) (fun (r0v1 : Nat → Int32) =>
  (fM_taken r0v1 940).bind (fun (y2 : (Nat → Int32)) =>
  (if (fM_isIn (y2 3) 1 6) = true then
  (zLP (fun s => fM_fits_L29 r0_1 r0_6 y2 s) 0).bind (fun r7 => zsum r7 (fun x9 =>
  (zLP (fun s => fM_fits_L72 r0_1 r0_6 y2 s.1 s.2) (0, 0)).bind (fun r25 =>
  (if r25 = 0 then
  some (0, y2)
  else
  zlet (zup y2 28 1) (fun (r0v38 : Nat → Int32) =>
  zlet (zup r0v38 27 0) (fun (r0v39 : Nat → Int32) =>
  (zLP (fun s => fM_fits_L124 r0_6 r25 s.1 s.2) (r0v39, 1)).bind (fun r44 =>
  some (r25, r44))))))) (fun q9 => some q9))
  else
  some ((-1), y2))))

set_option maxRecDepth 20000 in
theorem TX12_fits_186 (Γ : zG) {Q : Option Value → zM → Prop} (M : zM) (r0 : Nat → Int32) (r0_1 : Nat → Int32) (r0_6 : Nat → Int32) (e_i186 : M.1 186 = r0) (e_i187 : M.1 187 = r0_1) (e_i188 : M.1 188 = r0_6)  {res : Int32 × (Nat → Int32)} (hy : (fM_fits r0 r0_1 r0_6) = some res) (hq : Q (some (.int res.1)) (zui M 186 res.2)) : zR Γ 3 YX12_fits 0 [(0, .ref (zad Γ 186))] [] M Q := by
  unfold fM_fits at hy
  refine zj_aload_n (pc' := 1) 0 dX12_fits_0 rfl rfl rfl ?_
  refine zj_iconst (pc' := 2) dX12_fits_1 rfl kiconst_0 ?_
  obtain ⟨r0v1, er0v1⟩ : ∃ z, z = (zup r0 0 0) := ⟨_, rfl⟩
  have hy := zlet_at er0v1 hy
  refine zj_pI (pc' := 5) (N := (zui M 186 r0v1)) dX12_fits_2 rfl fpX12_1 sh186 rfl e_i186 er0v1 rfl ?_
  refine zj_aload_n (pc' := 6) 0 dX12_fits_5 rfl rfl rfl ?_
  refine zj_sipush (pc' := 9) dX12_fits_6 rfl ksipush_940 ?_
  obtain ⟨y2, hy2, hy⟩ := zt_b hy
  refine zj_V0 (pc' := 12) (z := YX12_taken) (As := [.int 940]) (N := (zui M 186 y2)) dX12_fits_9 rfl mlX12_241 lkX12_taken sh186 ⟨_, _, rfl⟩ rfl rfl (Nat.le_of_ble_eq_true rfl) (Nat.le_of_ble_eq_true rfl) (LX12_taken_186 Γ _ r0v1 zr_s 940 hy2) (zm_s).symm ?_
  refine zj_aload_n (pc' := 13) 0 dX12_fits_12 rfl rfl rfl ?_
  refine zj_fI (pc' := 16) dX12_fits_13 rfl flX12_18 sh186 rfl zr_s rfl ?_
  refine zj_iconst (pc' := 17) dX12_fits_16 rfl kiconst_1 ?_
  refine zj_bipush (pc' := 19) dX12_fits_17 rfl kbipush_6 ?_
  refine zj_S1 (pc' := 22) (z := YX12_isIn) (As := [.int (y2 3), .int 1, .int 6]) (N := (zui M 186 y2)) dX12_fits_19 rfl mlX12_188 lkX12_isIn rfl rfl (Nat.le_of_ble_eq_true rfl) (Nat.le_of_ble_eq_true rfl) (LX12_isIn Γ _ (y2 3) 1 6 rfl) rfl ?_
  refine zj_bif_ne (tgt := 27) (pc' := 25) dX12_fits_22 rfl (by decide) (fun c3 => ?_) (fun c3 => ?_)
  · have hy := zt_t hy c3
    refine zj_iconst (pc' := 28) dX12_fits_27 rfl kiconst_0 ?_
    refine zj_istore_n (pc' := 29) (L' := [(1, .int 0), (0, .ref (zad Γ 186))]) dX12_fits_28 rfl rfl (by decide) rfl ?_
    refine zj_loc [1, 0] rfl ?_
    obtain ⟨r7, hr9, hyo8⟩ := zt_b hy
    obtain ⟨n9, hn9⟩ := zLP_some hr9
    have HE5 : ∀ (_ : Unit), r7 = .inl () → zR Γ 3 YX12_fits 68 [(0, .ref (zad Γ 186))] [] (zui M 186 y2) Q := by
      intro _ e9
      have hy := zsum_l hyo8 e9
      try dsimp only at hy
      refine zj_iconst (pc' := 69) dX12_fits_68 rfl kiconst_0 ?_
      refine zj_istore_n (pc' := 70) (L' := [(1, .int 0), (0, .ref (zad Γ 186))]) dX12_fits_69 rfl rfl (by decide) rfl ?_
      refine zj_iconst (pc' := 71) dX12_fits_70 rfl kiconst_0 ?_
      refine zj_istore_n (pc' := 72) (L' := [(2, .int 0), (1, .int 0), (0, .ref (zad Γ 186))]) dX12_fits_71 rfl rfl (by decide) rfl ?_
      refine zj_loc [2, 1, 0] rfl ?_
      obtain ⟨r25, hr9, hyo26⟩ := zt_b hy
      obtain ⟨n9, hn9⟩ := zLP_some hr9
      have HE23 : ∀ (x36 : Int32), r25 = x36 → zR Γ 3 YX12_fits 106 [(0, .ref (zad Γ 186)), (1, .int x36)] [] (zui M 186 y2) Q := by
        intro x36 e9
        have hy := hyo26
        try rw [e9] at hy
        try dsimp only at hy
        refine zj_iload_n (pc' := 107) 1 dX12_fits_106 rfl rfl rfl ?_
        refine zj_if_ne (tgt := 112) (pc' := 110) dX12_fits_107 rfl (by decide) (fun c37 => ?_) (fun c37 => ?_)
        · have hy := zt_f hy c37
          refine zj_aload_n (pc' := 113) 0 dX12_fits_112 rfl rfl rfl ?_
          refine zj_iconst (pc' := 114) dX12_fits_113 rfl kiconst_1 ?_
          obtain ⟨r0v38, er0v38⟩ : ∃ z, z = (zup y2 28 1) := ⟨_, rfl⟩
          have hy := zlet_at er0v38 hy
          refine zj_pZ (pc' := 117) (N := (zui M 186 r0v38)) dX12_fits_114 rfl fpX12_355 sh186 rfl (Or.inr rfl) zr_s er0v38 zm_s ?_
          refine zj_aload_n (pc' := 118) 0 dX12_fits_117 rfl rfl rfl ?_
          refine zj_iconst (pc' := 119) dX12_fits_118 rfl kiconst_0 ?_
          obtain ⟨r0v39, er0v39⟩ : ∃ z, z = (zup r0v38 27 0) := ⟨_, rfl⟩
          have hy := zlet_at er0v39 hy
          refine zj_pI (pc' := 122) (N := (zui M 186 r0v39)) dX12_fits_119 rfl fpX12_358 sh186 rfl zr_s er0v39 zm_s ?_
          refine zj_iconst (pc' := 123) dX12_fits_122 rfl kiconst_1 ?_
          refine zj_istore_n (pc' := 124) (L' := [(2, .int 1), (0, .ref (zad Γ 186)), (1, .int x36)]) dX12_fits_123 rfl rfl (by decide) rfl ?_
          refine zj_loc [1, 2, 0] rfl ?_
          obtain ⟨r44, hr9, hyo45⟩ := zt_b hy
          obtain ⟨n9, hn9⟩ := zLP_some hr9
          have HE42 : ∀ (r0v56 : Nat → Int32), r44 = r0v56 → zR Γ 3 YX12_fits 159 [(1, .int x36)] [] (zui M 186 r0v56) Q := by
            intro r0v56 e9
            have hy := hyo45
            try rw [e9] at hy
            try dsimp only at hy
            refine zj_iload_n (pc' := 160) 0 dX12_fits_159 rfl rfl rfl ?_
            have e9 := Option.some.inj hy
            subst e9
            exact zj_iret dX12_fits_160 rfl hq
          have HL43 : ∀ (n : Nat) (r0v40 : Nat → Int32) (x41 : Int32), zlp (fun s => fM_fits_L124 r0_6 x36 s.1 s.2) n (r0v40, x41) = some r44 → zR Γ 3 YX12_fits 124 [(0, .ref (zad Γ 186)), (1, .int x36), (2, .int x41)] [] (zui M 186 r0v40) Q := by
            intro n
            induction n with
            | zero => intro r0v40 x41 hn9; cases hn9
            | succ n ih46 =>
              intro r0v40 x41 hn9
              obtain ⟨o9, hb9, h47, h48⟩ := zlp_step hn9
              have hy : fM_fits_L124 r0_6 x36 r0v40 x41 = some o9 := hb9
              unfold fM_fits_L124 at hy
              refine zj_iload_n (pc' := 125) 2 dX12_fits_124 rfl rfl rfl ?_
              refine zj_bipush (pc' := 127) dX12_fits_125 rfl kbipush_6 ?_
              refine zj_icmp_ge (tgt := 159) (pc' := 130) dX12_fits_127 rfl (by decide) (fun c49 => ?_) (fun c49 => ?_)
              · have hy := zt_t hy c49
                have e9 := h48 _ (Option.some.inj hy).symm
                refine zj_loc [1] rfl ?_
                exact HE42 _ e9.symm
              · have hy := zt_f hy c49
                refine zj_aload_n (pc' := 131) 0 dX12_fits_130 rfl rfl rfl ?_
                refine zj_iload_n (pc' := 132) 1 dX12_fits_131 rfl rfl rfl ?_
                refine zj_iload_n (pc' := 133) 2 dX12_fits_132 rfl rfl rfl ?_
                obtain ⟨y50, hy50, hy⟩ := zt_b hy
                refine zj_V1 (pc' := 136) (z := YX12_leftBy) (As := [.int x36, .int x41]) (N := (zui M 186 r0v40)) dX12_fits_133 rfl mlX12_361 lkX12_leftBy sh186 ⟨_, _, rfl⟩ rfl rfl (Nat.le_of_ble_eq_true rfl) (Nat.le_of_ble_eq_true rfl) (LX12_leftBy_186 Γ _ r0_6 (zr_n rfl e_i188) x36 x41 hy50) rfl ?_
                refine zj_aload_n (pc' := 137) 0 dX12_fits_136 rfl rfl rfl ?_
                refine zj_iload_n (pc' := 138) 1 dX12_fits_137 rfl rfl rfl ?_
                refine zj_aload_n (pc' := 139) 0 dX12_fits_138 rfl rfl rfl ?_
                refine zj_fI (pc' := 142) dX12_fits_139 rfl flX12_358 sh186 rfl zr_s rfl ?_
                obtain ⟨y51, hy51, hy⟩ := zt_b hy
                refine zj_V1 (pc' := 145) (z := YX12_leftBy) (As := [.int x36, .int (r0v40 27)]) (N := (zui M 186 r0v40)) dX12_fits_142 rfl mlX12_361 lkX12_leftBy sh186 ⟨_, _, rfl⟩ rfl rfl (Nat.le_of_ble_eq_true rfl) (Nat.le_of_ble_eq_true rfl) (LX12_leftBy_186 Γ _ r0_6 (zr_n rfl e_i188) x36 (r0v40 27) hy51) rfl ?_
                refine zj_icmp_ge (tgt := 153) (pc' := 148) dX12_fits_145 rfl (by decide) (fun c52 => ?_) (fun c52 => ?_)
                · have hy := zt_t hy c52
                  obtain ⟨x53, ex53⟩ : ∃ z : Int32, z = (x41 + 1) := ⟨_, rfl⟩
                  have hy := zlet_at ex53 hy
                  refine zj_iinc (pc' := 156) 2 (L' := [(2, .int x53), (0, .ref (zad Γ 186)), (1, .int x36)]) dX12_fits_153 rfl rfl (by decide) (by rw [ci1, ← ex53]; rfl) ?_
                  refine zj_goto (tgt := 124) dX12_fits_156 (by decide) ?_
                  have hn9 := h47 _ (Option.some.inj hy).symm
                  refine zj_loc [1, 2, 0] rfl ?_
                  exact ih46 _ _ hn9
                · have hy := zt_f hy c52
                  refine zj_aload_n (pc' := 149) 0 dX12_fits_148 rfl rfl rfl ?_
                  refine zj_iload_n (pc' := 150) 2 dX12_fits_149 rfl rfl rfl ?_
                  obtain ⟨r0v54, er0v54⟩ : ∃ z, z = (zup r0v40 27 x41) := ⟨_, rfl⟩
                  have hy := zlet_at er0v54 hy
                  refine zj_pI (pc' := 153) (N := (zui M 186 r0v54)) dX12_fits_150 rfl fpX12_358 sh186 rfl zr_s er0v54 zm_s ?_
                  obtain ⟨x55, ex55⟩ : ∃ z : Int32, z = (x41 + 1) := ⟨_, rfl⟩
                  have hy := zlet_at ex55 hy
                  refine zj_iinc (pc' := 156) 2 (L' := [(2, .int x55), (0, .ref (zad Γ 186)), (1, .int x36)]) dX12_fits_153 rfl rfl (by decide) (by rw [ci1, ← ex55]; rfl) ?_
                  refine zj_goto (tgt := 124) dX12_fits_156 (by decide) ?_
                  have hn9 := h47 _ (Option.some.inj hy).symm
                  refine zj_loc [1, 2, 0] rfl ?_
                  exact ih46 _ _ hn9
          exact HL43 n9 _ _ hn9
        · have hy := zt_t hy c37
          refine zj_iconst (pc' := 111) dX12_fits_110 rfl kiconst_0 ?_
          have e9 := Option.some.inj hy
          subst e9
          exact zj_iret dX12_fits_111 rfl hq
      have HL24 : ∀ (n : Nat) (x21 : Int32) (x22 : Int32), zlp (fun s => fM_fits_L72 r0_1 r0_6 y2 s.1 s.2) n (x21, x22) = some r25 → zR Γ 3 YX12_fits 72 [(0, .ref (zad Γ 186)), (1, .int x21), (2, .int x22)] [] (zui M 186 y2) Q := by
        intro n
        induction n with
        | zero => intro x21 x22 hn9; cases hn9
        | succ n ih27 =>
          intro x21 x22 hn9
          obtain ⟨o9, hb9, h28, h29⟩ := zlp_step hn9
          have hy : fM_fits_L72 r0_1 r0_6 y2 x21 x22 = some o9 := hb9
          unfold fM_fits_L72 at hy
          refine zj_iload_n (pc' := 73) 2 dX12_fits_72 rfl rfl rfl ?_
          refine zj_aload_n (pc' := 74) 0 dX12_fits_73 rfl rfl rfl ?_
          refine zj_getR (pc' := 77) (j := 188) dX12_fits_74 rfl flX12_33 sh186 rfl ?_
          refine zj_iconst (pc' := 78) dX12_fits_77 rfl kiconst_2 ?_
          refine zj_rdi (pc' := 79) dX12_fits_78 rfl sh188 (zr_n rfl e_i188) (zrdK zi2_397 tn2) ?_
          refine zj_icmp_ge (tgt := 106) (pc' := 82) dX12_fits_79 rfl (by decide) (fun c30 => ?_) (fun c30 => ?_)
          · have hy := zt_t hy c30
            have e9 := h29 _ (Option.some.inj hy).symm
            refine zj_loc [0, 1] rfl ?_
            exact HE23 _ e9.symm
          · have hy := zt_f hy c30
            refine zj_iload_n (pc' := 83) 1 dX12_fits_82 rfl rfl rfl ?_
            refine zj_aload_n (pc' := 84) 0 dX12_fits_83 rfl rfl rfl ?_
            refine zj_iload_n (pc' := 85) 2 dX12_fits_84 rfl rfl rfl ?_
            obtain ⟨y31, hy31, hy⟩ := zt_b hy
            refine zj_V1 (pc' := 88) (z := YX12_isFit) (As := [.int x22]) (N := (zui M 186 y2)) dX12_fits_85 rfl mlX12_352 lkX12_isFit sh186 ⟨_, _, rfl⟩ rfl rfl (Nat.le_of_ble_eq_true rfl) (Nat.le_of_ble_eq_true rfl) (LX12_isFit_186 Γ _ y2 r0_1 r0_6 zr_s (zr_n rfl e_i187) (zr_n rfl e_i188) x22 hy31) rfl ?_
            have HJ32 : zR Γ 3 YX12_fits 98 [(0, .ref (zad Γ 186)), (1, .int x21), (2, .int x22)] [.int (if y31 = true then ((1 : Int32) <<< (x22 &&& 31)) else (0 : Int32)), .int x21] (zui M 186 y2) Q := by
              refine zj_ior (pc' := 99) dX12_fits_98 rfl ?_
              refine zj_topi (fun x34 ex34 => ?_)
              have hy := zlet_at ex34 hy
              refine zj_istore_n (pc' := 100) (L' := [(1, .int x34), (0, .ref (zad Γ 186)), (2, .int x22)]) dX12_fits_99 rfl rfl (by decide) rfl ?_
              obtain ⟨x35, ex35⟩ : ∃ z : Int32, z = (x22 + 1) := ⟨_, rfl⟩
              have hy := zlet_at ex35 hy
              refine zj_iinc (pc' := 103) 2 (L' := [(2, .int x35), (1, .int x34), (0, .ref (zad Γ 186))]) dX12_fits_100 rfl rfl (by decide) (by rw [ci1, ← ex35]; rfl) ?_
              refine zj_goto (tgt := 72) dX12_fits_103 (by decide) ?_
              have hn9 := h28 _ (Option.some.inj hy).symm
              refine zj_loc [2, 1, 0] rfl ?_
              exact ih27 _ _ hn9
            refine zj_bif_eq (tgt := 97) (pc' := 91) dX12_fits_88 rfl (by decide) (fun c33 => ?_) (fun c33 => ?_)
            · refine zj_iconst (pc' := 98) dX12_fits_97 rfl kiconst_0 ?_
              exact zj_eqi (if_neg c33) HJ32
            · refine zj_iconst (pc' := 92) dX12_fits_91 rfl kiconst_1 ?_
              refine zj_iload_n (pc' := 93) 2 dX12_fits_92 rfl rfl rfl ?_
              refine zj_ishl (pc' := 94) dX12_fits_93 rfl ?_
              refine zj_goto (tgt := 98) dX12_fits_94 (by decide) ?_
              exact zj_eqi (if_pos c33) HJ32
      exact HL24 n9 _ _ hn9
    have HL6 : ∀ (n : Nat) (x4 : Int32), zlp (fun s => fM_fits_L29 r0_1 r0_6 y2 s) n x4 = some r7 → zR Γ 3 YX12_fits 29 [(0, .ref (zad Γ 186)), (1, .int x4)] [] (zui M 186 y2) Q := by
      intro n
      induction n with
      | zero => intro x4 hn9; cases hn9
      | succ n ih9 =>
        intro x4 hn9
        obtain ⟨o9, hb9, h10, h11⟩ := zlp_step hn9
        have hy : fM_fits_L29 r0_1 r0_6 y2 x4 = some o9 := hb9
        unfold fM_fits_L29 at hy
        refine zj_iload_n (pc' := 30) 1 dX12_fits_29 rfl rfl rfl ?_
        refine zj_aload_n (pc' := 31) 0 dX12_fits_30 rfl rfl rfl ?_
        refine zj_fI (pc' := 34) dX12_fits_31 rfl flX12_18 sh186 rfl zr_s rfl ?_
        refine zj_icmp_ge (tgt := 68) (pc' := 37) dX12_fits_34 rfl (by decide) (fun c12 => ?_) (fun c12 => ?_)
        · have hy := zt_t hy c12
          have e9 := h11 _ (Option.some.inj hy).symm
          refine zj_loc [0] rfl ?_
          exact HE5 () e9.symm
        · have hy := zt_f hy c12
          refine zj_aload_n (pc' := 38) 0 dX12_fits_37 rfl rfl rfl ?_
          refine zj_iload_n (pc' := 39) 1 dX12_fits_38 rfl rfl rfl ?_
          obtain ⟨y13, hy13, hy⟩ := zt_b hy
          refine zj_V1 (pc' := 42) (z := YX12_octet) (As := [.int x4]) (N := (zui M 186 y2)) dX12_fits_39 rfl mlX12_346 lkX12_octet sh186 ⟨_, _, rfl⟩ rfl rfl (Nat.le_of_ble_eq_true rfl) (Nat.le_of_ble_eq_true rfl) (LX12_octet_186 Γ _ r0_1 (zr_n rfl e_i187) x4 hy13) rfl ?_
          refine zj_sipush (pc' := 45) dX12_fits_42 rfl ksipush_255 ?_
          refine zj_icmp_eq (tgt := 62) (pc' := 48) dX12_fits_45 rfl (by decide) (fun c14 => ?_) (fun c14 => ?_)
          · have hy := zt_t hy c14
            obtain ⟨x15, ex15⟩ : ∃ z : Int32, z = (x4 + 1) := ⟨_, rfl⟩
            have hy := zlet_at ex15 hy
            refine zj_iinc (pc' := 65) 1 (L' := [(1, .int x15), (0, .ref (zad Γ 186))]) dX12_fits_62 rfl rfl (by decide) (by rw [ci1, ← ex15]; rfl) ?_
            refine zj_goto (tgt := 29) dX12_fits_65 (by decide) ?_
            have hn9 := h10 _ (Option.some.inj hy).symm
            refine zj_loc [1, 0] rfl ?_
            exact ih9 _ hn9
          · have hy := zt_f hy c14
            refine zj_aload_n (pc' := 49) 0 dX12_fits_48 rfl rfl rfl ?_
            refine zj_aload_n (pc' := 50) 0 dX12_fits_49 rfl rfl rfl ?_
            refine zj_iload_n (pc' := 51) 1 dX12_fits_50 rfl rfl rfl ?_
            obtain ⟨y16, hy16, hy⟩ := zt_b hy
            refine zj_V1 (pc' := 54) (z := YX12_octet) (As := [.int x4]) (N := (zui M 186 y2)) dX12_fits_51 rfl mlX12_346 lkX12_octet sh186 ⟨_, _, rfl⟩ rfl rfl (Nat.le_of_ble_eq_true rfl) (Nat.le_of_ble_eq_true rfl) (LX12_octet_186 Γ _ r0_1 (zr_n rfl e_i187) x4 hy16) rfl ?_
            obtain ⟨y17, hy17, hy⟩ := zt_b hy
            refine zj_V1 (pc' := 57) (z := YX12_isCorner) (As := [.int y16]) (N := (zui M 186 y2)) dX12_fits_54 rfl mlX12_283 lkX12_isCorner sh186 ⟨_, _, rfl⟩ rfl rfl (Nat.le_of_ble_eq_true rfl) (Nat.le_of_ble_eq_true rfl) (LX12_isCorner_186 Γ _ r0_6 (zr_n rfl e_i188) y16 hy17) rfl ?_
            refine zj_bif_ne (tgt := 62) (pc' := 60) dX12_fits_57 rfl (by decide) (fun c18 => ?_) (fun c18 => ?_)
            · have hy := zt_t hy c18
              obtain ⟨x19, ex19⟩ : ∃ z : Int32, z = (x4 + 1) := ⟨_, rfl⟩
              have hy := zlet_at ex19 hy
              refine zj_iinc (pc' := 65) 1 (L' := [(1, .int x19), (0, .ref (zad Γ 186))]) dX12_fits_62 rfl rfl (by decide) (by rw [ci1, ← ex19]; rfl) ?_
              refine zj_goto (tgt := 29) dX12_fits_65 (by decide) ?_
              have hn9 := h10 _ (Option.some.inj hy).symm
              refine zj_loc [1, 0] rfl ?_
              exact ih9 _ hn9
            · have hy := zt_f hy c18
              refine zj_iconst (pc' := 61) dX12_fits_60 rfl kiconst_m1 ?_
              have e9 := h11 _ (Option.some.inj hy).symm
              have hz20 := zsum_r hyo8 e9.symm
              have e9 := Option.some.inj hz20
              subst e9
              exact zj_iret dX12_fits_61 rfl hq
    exact HL6 n9 _ hn9
  · have hy := zt_f hy c3
    refine zj_iconst (pc' := 26) dX12_fits_25 rfl kiconst_m1 ?_
    have e9 := Option.some.inj hy
    subst e9
    exact zj_iret dX12_fits_26 rfl hq
set_option maxRecDepth 20000 in
theorem LX12_fits_186 (Γ : zG) (M : zM) (r0 : Nat → Int32) (r0_1 : Nat → Int32) (r0_6 : Nat → Int32) (e_i186 : M.1 186 = r0) (e_i187 : M.1 187 = r0_1) (e_i188 : M.1 188 = r0_6)  {res : Int32 × (Nat → Int32)} (hy : (fM_fits r0 r0_1 r0_6) = some res) : zK Γ 3 YX12_fits [.ref (zad Γ 186)] M (fun v N => v = some (.int res.1) ∧ N = (zui M 186 res.2)) :=
  zK_of (by decide) (Nat.le_of_ble_eq_true rfl) (TX12_fits_186 Γ M r0 r0_1 r0_6 e_i186 e_i187 e_i188 hy ⟨rfl, rfl⟩)

noncomputable def fX_ask (r0 : Nat → Int32) : Int32 :=
  (r0 19)

set_option maxRecDepth 20000 in
theorem TX11_ask_0 (Γ : zG) {Q : Option Value → zM → Prop} (M : zM) (r0 : Nat → Int32) (e_i0 : M.1 0 = r0)  {res : Int32} (hy : (fX_ask r0) = res) (hq : Q (some (.int res)) M) : zR Γ 1 YX11_ask 0 [(0, .ref (zad Γ 0))] [] M Q := by
  unfold fX_ask at hy
  refine zj_aload_n (pc' := 1) 0 dX11_ask_0 rfl rfl rfl ?_
  refine zj_fI (pc' := 4) dX11_ask_1 rfl flX11_110 sh0 rfl e_i0 rfl ?_
  subst hy
  exact zj_iret dX11_ask_4 rfl hq
set_option maxRecDepth 20000 in
theorem LX11_ask_0 (Γ : zG) (M : zM) (r0 : Nat → Int32) (e_i0 : M.1 0 = r0)  {res : Int32} (hy : (fX_ask r0) = res) : zK Γ 1 YX11_ask [.ref (zad Γ 0)] M (fun v N => v = some (.int res) ∧ N = M) :=
  zK_of (by decide) (Nat.le_of_ble_eq_true rfl) (TX11_ask_0 Γ M r0 e_i0 hy ⟨rfl, rfl⟩)

noncomputable def fM_ask (r0 : Nat → Int32) : Option (Int32 × (Nat → Int32)) :=
  zlet (zup r0 0 0) (fun (r0v1 : Nat → Int32) =>
  some ((if (r0v1 28) = 0 then ((-1) : Int32) else (r0v1 27)), r0v1))

set_option maxRecDepth 20000 in
theorem TX12_ask_186 (Γ : zG) {Q : Option Value → zM → Prop} (M : zM) (r0 : Nat → Int32) (e_i186 : M.1 186 = r0)  {res : Int32 × (Nat → Int32)} (hy : (fM_ask r0) = some res) (hq : Q (some (.int res.1)) (zui M 186 res.2)) : zR Γ 1 YX12_ask 0 [(0, .ref (zad Γ 186))] [] M Q := by
  unfold fM_ask at hy
  refine zj_aload_n (pc' := 1) 0 dX12_ask_0 rfl rfl rfl ?_
  refine zj_iconst (pc' := 2) dX12_ask_1 rfl kiconst_0 ?_
  obtain ⟨r0v1, er0v1⟩ : ∃ z, z = (zup r0 0 0) := ⟨_, rfl⟩
  have hy := zlet_at er0v1 hy
  refine zj_pI (pc' := 5) (N := (zui M 186 r0v1)) dX12_ask_2 rfl fpX12_1 sh186 rfl e_i186 er0v1 rfl ?_
  refine zj_aload_n (pc' := 6) 0 dX12_ask_5 rfl rfl rfl ?_
  refine zj_fI (pc' := 9) dX12_ask_6 rfl flX12_355 sh186 rfl zr_s rfl ?_
  have HJ2 : zR Γ 1 YX12_ask 20 [(0, .ref (zad Γ 186))] [.int (if (r0v1 28) = 0 then ((-1) : Int32) else (r0v1 27))] (zui M 186 r0v1) Q := by
    have e9 := Option.some.inj hy
    subst e9
    exact zj_iret dX12_ask_20 rfl hq
  refine zj_if_eq (tgt := 19) (pc' := 12) dX12_ask_9 rfl (by decide) (fun c3 => ?_) (fun c3 => ?_)
  · refine zj_iconst (pc' := 20) dX12_ask_19 rfl kiconst_m1 ?_
    exact zj_eqi (if_pos c3) HJ2
  · refine zj_aload_n (pc' := 13) 0 dX12_ask_12 rfl rfl rfl ?_
    refine zj_fI (pc' := 16) dX12_ask_13 rfl flX12_358 sh186 rfl zr_s rfl ?_
    refine zj_goto (tgt := 20) dX12_ask_16 (by decide) ?_
    exact zj_eqi (if_neg c3) HJ2
set_option maxRecDepth 20000 in
theorem LX12_ask_186 (Γ : zG) (M : zM) (r0 : Nat → Int32) (e_i186 : M.1 186 = r0)  {res : Int32 × (Nat → Int32)} (hy : (fM_ask r0) = some res) : zK Γ 1 YX12_ask [.ref (zad Γ 186)] M (fun v N => v = some (.int res.1) ∧ N = (zui M 186 res.2)) :=
  zK_of (by decide) (Nat.le_of_ble_eq_true rfl) (TX12_ask_186 Γ M r0 e_i186 hy ⟨rfl, rfl⟩)


set_option maxRecDepth 20000 in
theorem TX1_whereIs_15 (Γ : zG) {Q : Option Value → zM → Prop} (M : zM) (r0_0 : Nat → Int32) (e_i16 : M.1 16 = r0_0) (a1 : Int32) {res : Int32} (hy : (fDy_whereIs r0_0 a1) = some res) (hq : Q (some (.int res)) M) : zR Γ 3 YX1_whereIs 0 [(0, .ref (zad Γ 15)), (1, .int a1)] [] M Q := by
  unfold fDy_whereIs at hy
  refine zj_aload_n (pc' := 1) 0 dX1_whereIs_0 rfl rfl rfl ?_
  refine zj_iload_n (pc' := 2) 1 dX1_whereIs_1 rfl rfl rfl ?_
  refine zj_iconst (pc' := 3) dX1_whereIs_2 rfl kiconst_0 ?_
  obtain ⟨y1, hy1, hy⟩ := zt_b hy
  refine zj_V1 (pc' := 6) (z := YX1_wasAt) (As := [.int a1, .int 0]) (N := M) dX1_whereIs_3 rfl mlX1_62 lkX1_wasAt sh15 ⟨_, _, rfl⟩ rfl rfl (Nat.le_of_ble_eq_true rfl) (Nat.le_of_ble_eq_true rfl) (LX1_wasAt_15 Γ _ r0_0 e_i16 a1 0 hy1) rfl ?_
  have e9 := Option.some.inj hy
  subst e9
  exact zj_iret dX1_whereIs_6 rfl hq
set_option maxRecDepth 20000 in
theorem LX1_whereIs_15 (Γ : zG) (M : zM) (r0_0 : Nat → Int32) (e_i16 : M.1 16 = r0_0) (a1 : Int32) {res : Int32} (hy : (fDy_whereIs r0_0 a1) = some res) : zK Γ 3 YX1_whereIs [.ref (zad Γ 15), .int a1] M (fun v N => v = some (.int res) ∧ N = M) :=
  zK_of (by decide) (Nat.le_of_ble_eq_true rfl) (TX1_whereIs_15 Γ M r0_0 e_i16 a1 hy ⟨rfl, rfl⟩)

noncomputable def fX_path_L44 (r0_2 : Nat → Int32) (r0_2_2 : Nat → Int32) (r0_2_3 : Nat → Int32) (a2 : Int32) (y3 : Int32) (r0_14v5 : Nat → Int32) (x6 : Int32) (x7 : Int32) : Option (((Nat → Int32) × Int32 × Int32) ⊕ ((Nat → Int32))) :=
  (if y3 ≤ x7 then
  some (.inr r0_14v5)
  else
  (if 8 ≤ x7 then
  some (.inr r0_14v5)
  else
  (fPl_stepTowards r0_2 r0_2_2 r0_2_3 x6 a2).bind (fun (y17 : Int32) =>
  (zwr r0_14v5 8 x7 y17).bind (fun (r0_14v18 : Nat → Int32) =>
  zlet (x7 + 1) (fun (x19 : Int32) =>
  some (.inl (r0_14v18, y17, x19)))))))
noncomputable def fX_path (r0 : Nat → Int32) (r0_2 : Nat → Int32) (r0_2_2 : Nat → Int32) (r0_2_3 : Nat → Int32) (r0_4_0 : Nat → Int32) (r0_14 : Nat → Int32) (a1 : Int32) (a2 : Int32) : Option (Int32 × (Nat → Int32) × (Nat → Int32)) :=
  (if (fPl_hasPerson r0_2 a1) = true then
  (fDy_whereIs r0_4_0 a1).bind (fun (y2 : Int32) =>
  (fPl_farFrom r0_2 r0_2_3 y2 a2).bind (fun (y3 : Int32) =>
  (if y3 = (-1) then
  some ((-1), r0, r0_14)
  else
  (zLP (fun s => fX_path_L44 r0_2 r0_2_2 r0_2_3 a2 y3 s.1 s.2.1 s.2.2) (r0_14, y2, 0)).bind (fun r10 =>
  zlet (zup r0 15 y3) (fun (r0v21 : Nat → Int32) =>
  some (y3, r0v21, r10))))))
  else
  some ((-1), r0, r0_14))

set_option maxRecDepth 20000 in
theorem TX11_path_0 (Γ : zG) {Q : Option Value → zM → Prop} (M : zM) (r0 : Nat → Int32) (r0_2 : Nat → Int32) (r0_2_2 : Nat → Int32) (r0_2_3 : Nat → Int32) (r0_4_0 : Nat → Int32) (r0_14 : Nat → Int32) (e_i0 : M.1 0 = r0) (e_i5 : M.1 5 = r0_2) (e_i8 : M.1 8 = r0_2_2) (e_i9 : M.1 9 = r0_2_3) (e_i16 : M.1 16 = r0_4_0) (e_i185 : M.1 185 = r0_14) (a1 : Int32) (a2 : Int32) {res : Int32 × (Nat → Int32) × (Nat → Int32)} (hy : (fX_path r0 r0_2 r0_2_2 r0_2_3 r0_4_0 r0_14 a1 a2) = some res) (hq : Q (some (.int res.1)) (zui (zui M 0 res.2.1) 185 res.2.2)) : zR Γ 4 YX11_path 0 [(0, .ref (zad Γ 0)), (1, .int a1), (2, .int a2)] [] M Q := by
  unfold fX_path at hy
  refine zj_aload_n (pc' := 1) 0 dX11_path_0 rfl rfl rfl ?_
  refine zj_getR (pc' := 4) (j := 5) dX11_path_1 rfl flX11_28 sh0 rfl ?_
  refine zj_iload_n (pc' := 5) 1 dX11_path_4 rfl rfl rfl ?_
  refine zj_V1 (pc' := 8) (z := YX7_hasPerson) (As := [.int a1]) (N := M) dX11_path_5 rfl mlX11_156 lkX7_hasPerson sh5 ⟨_, _, rfl⟩ rfl rfl (Nat.le_of_ble_eq_true rfl) (Nat.le_of_ble_eq_true rfl) (LX7_hasPerson_5 Γ _ r0_2 e_i5 a1 rfl) rfl ?_
  refine zj_bif_ne (tgt := 13) (pc' := 11) dX11_path_8 rfl (by decide) (fun c1 => ?_) (fun c1 => ?_)
  · have hy := zt_t hy c1
    refine zj_aload_n (pc' := 14) 0 dX11_path_13 rfl rfl rfl ?_
    refine zj_getR (pc' := 17) (j := 15) dX11_path_14 rfl flX11_38 sh0 rfl ?_
    refine zj_iload_n (pc' := 18) 1 dX11_path_17 rfl rfl rfl ?_
    obtain ⟨y2, hy2, hy⟩ := zt_b hy
    refine zj_V1 (pc' := 21) (z := YX1_whereIs) (As := [.int a1]) (N := M) dX11_path_18 rfl mlX11_166 lkX1_whereIs sh15 ⟨_, _, rfl⟩ rfl rfl (Nat.le_of_ble_eq_true rfl) (Nat.le_of_ble_eq_true rfl) (LX1_whereIs_15 Γ _ r0_4_0 e_i16 a1 hy2) rfl ?_
    refine zj_istore_n (pc' := 22) (L' := [(3, .int y2), (0, .ref (zad Γ 0)), (1, .int a1), (2, .int a2)]) dX11_path_21 rfl rfl (by decide) rfl ?_
    refine zj_aload_n (pc' := 23) 1 dX11_path_22 rfl rfl rfl ?_
    refine zj_getR (pc' := 26) (j := 5) dX11_path_23 rfl flX11_28 sh0 rfl ?_
    refine zj_iload_n (pc' := 27) 0 dX11_path_26 rfl rfl rfl ?_
    refine zj_iload_n (pc' := 28) 3 dX11_path_27 rfl rfl rfl ?_
    obtain ⟨y3, hy3, hy⟩ := zt_b hy
    refine zj_V1 (pc' := 31) (z := YX7_farFrom) (As := [.int y2, .int a2]) (N := M) dX11_path_28 rfl mlX11_282 lkX7_farFrom sh5 ⟨_, _, rfl⟩ rfl rfl (Nat.le_of_ble_eq_true rfl) (Nat.le_of_ble_eq_true rfl) (LX7_farFrom_5 Γ _ r0_2 r0_2_3 e_i5 e_i9 y2 a2 hy3) rfl ?_
    refine zj_istore (pc' := 33) (L' := [(4, .int y3), (3, .int y2), (0, .ref (zad Γ 0)), (1, .int a1), (2, .int a2)]) dX11_path_31 rfl (by decide) rfl ?_
    refine zj_iload (pc' := 35) 0 dX11_path_33 rfl rfl ?_
    refine zj_iconst (pc' := 36) dX11_path_35 rfl kiconst_m1 ?_
    refine zj_icmp_ne (tgt := 41) (pc' := 39) dX11_path_36 rfl (by decide) (fun c4 => ?_) (fun c4 => ?_)
    · have hy := zt_f hy c4
      refine zj_iconst (pc' := 42) dX11_path_41 rfl kiconst_0 ?_
      refine zj_istore (pc' := 44) (L' := [(5, .int 0), (4, .int y3), (3, .int y2), (0, .ref (zad Γ 0)), (1, .int a1), (2, .int a2)]) dX11_path_42 rfl (by decide) rfl ?_
      refine zj_loc [3, 5, 2, 1, 0] rfl ?_
      refine zj_mem (N := (zui M 185 r0_14)) (zself_i e_i185 rfl) ?_
      obtain ⟨r10, hr9, hyo11⟩ := zt_b hy
      obtain ⟨n9, hn9⟩ := zLP_some hr9
      have HE8 : ∀ (r0_14v20 : Nat → Int32), r10 = r0_14v20 → zR Γ 4 YX11_path 82 [(0, .ref (zad Γ 0)), (4, .int y3)] [] (zui M 185 r0_14v20) Q := by
        intro r0_14v20 e9
        have hy := hyo11
        try rw [e9] at hy
        try dsimp only at hy
        refine zj_aload_n (pc' := 83) 0 dX11_path_82 rfl rfl rfl ?_
        refine zj_iload (pc' := 85) 1 dX11_path_83 rfl rfl ?_
        obtain ⟨r0v21, er0v21⟩ : ∃ z, z = (zup r0 15 y3) := ⟨_, rfl⟩
        have hy := zlet_at er0v21 hy
        refine zj_pI (pc' := 88) (N := (zui (zui M 0 r0v21) 185 r0_14v20)) dX11_path_85 rfl fpX11_100 sh0 rfl (zr_n rfl e_i0) er0v21 (zm_n rfl rfl) ?_
        refine zj_iload (pc' := 90) 1 dX11_path_88 rfl rfl ?_
        have e9 := Option.some.inj hy
        subst e9
        exact zj_iret dX11_path_90 rfl hq
      have HL9 : ∀ (n : Nat) (r0_14v5 : Nat → Int32) (x6 : Int32) (x7 : Int32), zlp (fun s => fX_path_L44 r0_2 r0_2_2 r0_2_3 a2 y3 s.1 s.2.1 s.2.2) n (r0_14v5, x6, x7) = some r10 → zR Γ 4 YX11_path 44 [(0, .ref (zad Γ 0)), (2, .int a2), (3, .int x6), (4, .int y3), (5, .int x7)] [] (zui M 185 r0_14v5) Q := by
        intro n
        induction n with
        | zero => intro r0_14v5 x6 x7 hn9; cases hn9
        | succ n ih12 =>
          intro r0_14v5 x6 x7 hn9
          obtain ⟨o9, hb9, h13, h14⟩ := zlp_step hn9
          have hy : fX_path_L44 r0_2 r0_2_2 r0_2_3 a2 y3 r0_14v5 x6 x7 = some o9 := hb9
          unfold fX_path_L44 at hy
          refine zj_iload (pc' := 46) 4 dX11_path_44 rfl rfl ?_
          refine zj_iload (pc' := 48) 3 dX11_path_46 rfl rfl ?_
          refine zj_icmp_ge (tgt := 82) (pc' := 51) dX11_path_48 rfl (by decide) (fun c15 => ?_) (fun c15 => ?_)
          · have hy := zt_t hy c15
            have e9 := h14 _ (Option.some.inj hy).symm
            refine zj_loc [0, 3] rfl ?_
            exact HE8 _ e9.symm
          · have hy := zt_f hy c15
            refine zj_iload (pc' := 53) 4 dX11_path_51 rfl rfl ?_
            refine zj_bipush (pc' := 55) dX11_path_53 rfl kbipush_8 ?_
            refine zj_icmp_ge (tgt := 82) (pc' := 58) dX11_path_55 rfl (by decide) (fun c16 => ?_) (fun c16 => ?_)
            · have hy := zt_t hy c16
              have e9 := h14 _ (Option.some.inj hy).symm
              refine zj_loc [0, 3] rfl ?_
              exact HE8 _ e9.symm
            · have hy := zt_f hy c16
              refine zj_aload_n (pc' := 59) 0 dX11_path_58 rfl rfl rfl ?_
              refine zj_getR (pc' := 62) (j := 5) dX11_path_59 rfl flX11_28 sh0 rfl ?_
              refine zj_iload_n (pc' := 63) 2 dX11_path_62 rfl rfl rfl ?_
              refine zj_iload_n (pc' := 64) 1 dX11_path_63 rfl rfl rfl ?_
              obtain ⟨y17, hy17, hy⟩ := zt_b hy
              refine zj_V1 (pc' := 67) (z := YX7_stepTowards) (As := [.int x6, .int a2]) (N := (zui M 185 r0_14v5)) dX11_path_64 rfl mlX11_285 lkX7_stepTowards sh5 ⟨_, _, rfl⟩ rfl rfl (Nat.le_of_ble_eq_true rfl) (Nat.le_of_ble_eq_true rfl) (LX7_stepTowards_5 Γ _ r0_2 r0_2_2 r0_2_3 (zr_n rfl e_i5) (zr_n rfl e_i8) (zr_n rfl e_i9) x6 a2 hy17) rfl ?_
              refine zj_istore_n (pc' := 68) (L' := [(3, .int y17), (0, .ref (zad Γ 0)), (2, .int a2), (4, .int y3), (5, .int x7)]) dX11_path_67 rfl rfl (by decide) rfl ?_
              refine zj_aload_n (pc' := 69) 1 dX11_path_68 rfl rfl rfl ?_
              refine zj_getR (pc' := 72) (j := 185) dX11_path_69 rfl flX11_96 sh0 rfl ?_
              refine zj_iload (pc' := 74) 4 dX11_path_72 rfl rfl ?_
              refine zj_iload_n (pc' := 75) 0 dX11_path_74 rfl rfl rfl ?_
              obtain ⟨r0_14v18, hr0_14v18, hy⟩ := zt_b hy
              refine zj_wri (pc' := 76) (N := (zui M 185 r0_14v18)) dX11_path_75 rfl sh185 zr_s hr0_14v18 zm_s ?_
              obtain ⟨x19, ex19⟩ : ∃ z : Int32, z = (x7 + 1) := ⟨_, rfl⟩
              have hy := zlet_at ex19 hy
              refine zj_iinc (pc' := 79) 4 (L' := [(5, .int x19), (3, .int y17), (0, .ref (zad Γ 0)), (2, .int a2), (4, .int y3)]) dX11_path_76 rfl rfl (by decide) (by rw [ci1, ← ex19]; rfl) ?_
              refine zj_goto (tgt := 44) dX11_path_79 (by decide) ?_
              have hn9 := h13 _ (Option.some.inj hy).symm
              refine zj_loc [2, 3, 1, 4, 0] rfl ?_
              exact ih12 _ _ _ hn9
      exact HL9 n9 _ _ _ hn9
    · have hy := zt_t hy c4
      refine zj_iconst (pc' := 40) dX11_path_39 rfl kiconst_m1 ?_
      have e9 := Option.some.inj hy
      subst e9
      refine zj_mem (N := (zui M 0 r0)) (zself_i e_i0 rfl) ?_
      refine zj_mem (N := (zui (zui M 0 r0) 185 r0_14)) (zself_i (zr_n rfl e_i185) rfl) ?_
      exact zj_iret dX11_path_40 rfl hq
  · have hy := zt_f hy c1
    refine zj_iconst (pc' := 12) dX11_path_11 rfl kiconst_m1 ?_
    have e9 := Option.some.inj hy
    subst e9
    refine zj_mem (N := (zui M 0 r0)) (zself_i e_i0 rfl) ?_
    refine zj_mem (N := (zui (zui M 0 r0) 185 r0_14)) (zself_i (zr_n rfl e_i185) rfl) ?_
    exact zj_iret dX11_path_12 rfl hq
set_option maxRecDepth 20000 in
theorem LX11_path_0 (Γ : zG) (M : zM) (r0 : Nat → Int32) (r0_2 : Nat → Int32) (r0_2_2 : Nat → Int32) (r0_2_3 : Nat → Int32) (r0_4_0 : Nat → Int32) (r0_14 : Nat → Int32) (e_i0 : M.1 0 = r0) (e_i5 : M.1 5 = r0_2) (e_i8 : M.1 8 = r0_2_2) (e_i9 : M.1 9 = r0_2_3) (e_i16 : M.1 16 = r0_4_0) (e_i185 : M.1 185 = r0_14) (a1 : Int32) (a2 : Int32) {res : Int32 × (Nat → Int32) × (Nat → Int32)} (hy : (fX_path r0 r0_2 r0_2_2 r0_2_3 r0_4_0 r0_14 a1 a2) = some res) : zK Γ 4 YX11_path [.ref (zad Γ 0), .int a1, .int a2] M (fun v N => v = some (.int res.1) ∧ N = (zui (zui M 0 res.2.1) 185 res.2.2)) :=
  zK_of (by decide) (Nat.le_of_ble_eq_true rfl) (TX11_path_0 Γ M r0 r0_2 r0_2_2 r0_2_3 r0_4_0 r0_14 e_i0 e_i5 e_i8 e_i9 e_i16 e_i185 a1 a2 hy ⟨rfl, rfl⟩)

noncomputable def fM_path_L76 (r0_6 : Nat → Int32) (r0_20 : Nat → Int32) (a2 : Int32) (r0v11 : Nat → Int32) (r0_29v12 : Nat → Int32) (x13 : Int32) (x14 : Int32) : Option (((Nat → Int32) × Int32 × Int32) ⊕ ((Nat → Int32))) :=
  (if (r0v11 30) ≤ x14 then
  some (.inr r0_29v12)
  else
  (fM_towards r0_6 r0_20 x13 a2).bind (fun (y23 : Int32) =>
  (zwr r0_29v12 8 x14 y23).bind (fun (r0_29v24 : Nat → Int32) =>
  zlet (x14 + 1) (fun (x25 : Int32) =>
  some (.inl (r0_29v24, y23, x25))))))
noncomputable def fM_path (r0 : Nat → Int32) (r0_6 : Nat → Int32) (r0_20 : Nat → Int32) (r0_29 : Nat → Int32) (a1 : Int32) (a2 : Int32) : Option (Int32 × (Nat → Int32) × (Nat → Int32)) :=
  zlet (zup r0 0 0) (fun (r0v1 : Nat → Int32) =>
  (fM_isPerson r0_6 a1).bind (fun (y2 : Bool) =>
  (if y2 = true then
  (fM_isCorner r0_6 a2).bind (fun (y4 : Bool) =>
  (if y4 = true then
  (zrd r0_6 397 (91 + a1)).bind (fun (v6 : Int32) =>
  (zrd r0_20 64 ((8 * v6) + a2)).bind (fun (v7 : Int32) =>
  (if v7 < 1000000 then
  (zrd r0_6 397 (91 + a1)).bind (fun (v9 : Int32) =>
  (zrd r0_20 64 ((8 * v9) + a2)).bind (fun (v10 : Int32) =>
  zlet (zup r0v1 30 v10) (fun (r0v11 : Nat → Int32) =>
  (zLP (fun s => fM_path_L76 r0_6 r0_20 a2 r0v11 s.1 s.2.1 s.2.2) (r0_29, v9, 0)).bind (fun r17 =>
  some ((r0v11 30), r0v11, r17)))))
  else
  some ((-1), r0v1, r0_29))))
  else
  some ((-1), r0v1, r0_29)))
  else
  some ((-1), r0v1, r0_29))))

set_option maxRecDepth 20000 in
theorem TX12_path_186 (Γ : zG) {Q : Option Value → zM → Prop} (M : zM) (r0 : Nat → Int32) (r0_6 : Nat → Int32) (r0_20 : Nat → Int32) (r0_29 : Nat → Int32) (e_i186 : M.1 186 = r0) (e_i188 : M.1 188 = r0_6) (e_i193 : M.1 193 = r0_20) (e_i197 : M.1 197 = r0_29) (a1 : Int32) (a2 : Int32) {res : Int32 × (Nat → Int32) × (Nat → Int32)} (hy : (fM_path r0 r0_6 r0_20 r0_29 a1 a2) = some res) (hq : Q (some (.int res.1)) (zui (zui M 186 res.2.1) 197 res.2.2)) : zR Γ 4 YX12_path 0 [(0, .ref (zad Γ 186)), (1, .int a1), (2, .int a2)] [] M Q := by
  unfold fM_path at hy
  refine zj_aload_n (pc' := 1) 0 dX12_path_0 rfl rfl rfl ?_
  refine zj_iconst (pc' := 2) dX12_path_1 rfl kiconst_0 ?_
  obtain ⟨r0v1, er0v1⟩ : ∃ z, z = (zup r0 0 0) := ⟨_, rfl⟩
  have hy := zlet_at er0v1 hy
  refine zj_pI (pc' := 5) (N := (zui M 186 r0v1)) dX12_path_2 rfl fpX12_1 sh186 rfl e_i186 er0v1 rfl ?_
  refine zj_aload_n (pc' := 6) 0 dX12_path_5 rfl rfl rfl ?_
  refine zj_iload_n (pc' := 7) 1 dX12_path_6 rfl rfl rfl ?_
  obtain ⟨y2, hy2, hy⟩ := zt_b hy
  refine zj_V1 (pc' := 10) (z := YX12_isPerson) (As := [.int a1]) (N := (zui M 186 r0v1)) dX12_path_7 rfl mlX12_270 lkX12_isPerson sh186 ⟨_, _, rfl⟩ rfl rfl (Nat.le_of_ble_eq_true rfl) (Nat.le_of_ble_eq_true rfl) (LX12_isPerson_186 Γ _ r0_6 (zr_n rfl e_i188) a1 hy2) rfl ?_
  refine zj_bif_eq (tgt := 46) (pc' := 13) dX12_path_10 rfl (by decide) (fun c3 => ?_) (fun c3 => ?_)
  · have hy := zt_f hy c3
    refine zj_iconst (pc' := 47) dX12_path_46 rfl kiconst_m1 ?_
    have e9 := Option.some.inj hy
    subst e9
    refine zj_mem (N := (zui (zui M 186 r0v1) 197 r0_29)) (zself_i (zr_n rfl e_i197) rfl) ?_
    exact zj_iret dX12_path_47 rfl hq
  · have hy := zt_t hy c3
    refine zj_aload_n (pc' := 14) 0 dX12_path_13 rfl rfl rfl ?_
    refine zj_iload_n (pc' := 15) 2 dX12_path_14 rfl rfl rfl ?_
    obtain ⟨y4, hy4, hy⟩ := zt_b hy
    refine zj_V1 (pc' := 18) (z := YX12_isCorner) (As := [.int a2]) (N := (zui M 186 r0v1)) dX12_path_15 rfl mlX12_283 lkX12_isCorner sh186 ⟨_, _, rfl⟩ rfl rfl (Nat.le_of_ble_eq_true rfl) (Nat.le_of_ble_eq_true rfl) (LX12_isCorner_186 Γ _ r0_6 (zr_n rfl e_i188) a2 hy4) rfl ?_
    refine zj_bif_eq (tgt := 46) (pc' := 21) dX12_path_18 rfl (by decide) (fun c5 => ?_) (fun c5 => ?_)
    · have hy := zt_f hy c5
      refine zj_iconst (pc' := 47) dX12_path_46 rfl kiconst_m1 ?_
      have e9 := Option.some.inj hy
      subst e9
      refine zj_mem (N := (zui (zui M 186 r0v1) 197 r0_29)) (zself_i (zr_n rfl e_i197) rfl) ?_
      exact zj_iret dX12_path_47 rfl hq
    · have hy := zt_t hy c5
      refine zj_aload_n (pc' := 22) 0 dX12_path_21 rfl rfl rfl ?_
      refine zj_getR (pc' := 25) (j := 193) dX12_path_22 rfl flX12_50 sh186 rfl ?_
      refine zj_bipush (pc' := 27) dX12_path_25 rfl kbipush_8 ?_
      refine zj_aload_n (pc' := 28) 0 dX12_path_27 rfl rfl rfl ?_
      refine zj_getR (pc' := 31) (j := 188) dX12_path_28 rfl flX12_33 sh186 rfl ?_
      refine zj_bipush (pc' := 33) dX12_path_31 rfl kbipush_91 ?_
      refine zj_iload_n (pc' := 34) 1 dX12_path_33 rfl rfl rfl ?_
      refine zj_iadd (pc' := 35) dX12_path_34 rfl ?_
      obtain ⟨v6, hv6, hy⟩ := zt_b hy
      refine zj_rdi (pc' := 36) dX12_path_35 rfl sh188 (zr_n rfl e_i188) hv6 ?_
      refine zj_imul (pc' := 37) dX12_path_36 rfl ?_
      refine zj_iload_n (pc' := 38) 2 dX12_path_37 rfl rfl rfl ?_
      refine zj_iadd (pc' := 39) dX12_path_38 rfl ?_
      obtain ⟨v7, hv7, hy⟩ := zt_b hy
      refine zj_rdi (pc' := 40) dX12_path_39 rfl sh193 (zr_n rfl e_i193) hv7 ?_
      refine zj_ldcw (pc' := 43) dX12_path_40 rfl cI1681 ?_
      refine zj_icmp_lt (tgt := 48) (pc' := 46) dX12_path_43 rfl (by decide) (fun c8 => ?_) (fun c8 => ?_)
      · have hy := zt_t hy c8
        refine zj_aload_n (pc' := 49) 0 dX12_path_48 rfl rfl rfl ?_
        refine zj_getR (pc' := 52) (j := 188) dX12_path_49 rfl flX12_33 sh186 rfl ?_
        refine zj_bipush (pc' := 54) dX12_path_52 rfl kbipush_91 ?_
        refine zj_iload_n (pc' := 55) 1 dX12_path_54 rfl rfl rfl ?_
        refine zj_iadd (pc' := 56) dX12_path_55 rfl ?_
        obtain ⟨v9, hv9, hy⟩ := zt_b hy
        refine zj_rdi (pc' := 57) dX12_path_56 rfl sh188 (zr_n rfl e_i188) hv9 ?_
        refine zj_istore_n (pc' := 58) (L' := [(3, .int v9), (0, .ref (zad Γ 186)), (1, .int a1), (2, .int a2)]) dX12_path_57 rfl rfl (by decide) rfl ?_
        refine zj_aload_n (pc' := 59) 1 dX12_path_58 rfl rfl rfl ?_
        refine zj_aload_n (pc' := 60) 1 dX12_path_59 rfl rfl rfl ?_
        refine zj_getR (pc' := 63) (j := 193) dX12_path_60 rfl flX12_50 sh186 rfl ?_
        refine zj_bipush (pc' := 65) dX12_path_63 rfl kbipush_8 ?_
        refine zj_iload_n (pc' := 66) 0 dX12_path_65 rfl rfl rfl ?_
        refine zj_imul (pc' := 67) dX12_path_66 rfl ?_
        refine zj_iload_n (pc' := 68) 3 dX12_path_67 rfl rfl rfl ?_
        refine zj_iadd (pc' := 69) dX12_path_68 rfl ?_
        obtain ⟨v10, hv10, hy⟩ := zt_b hy
        refine zj_rdi (pc' := 70) dX12_path_69 rfl sh193 (zr_n rfl e_i193) hv10 ?_
        obtain ⟨r0v11, er0v11⟩ : ∃ z, z = (zup r0v1 30 v10) := ⟨_, rfl⟩
        have hy := zlet_at er0v11 hy
        refine zj_pI (pc' := 73) (N := (zui M 186 r0v11)) dX12_path_70 rfl fpX12_65 sh186 rfl zr_s er0v11 zm_s ?_
        refine zj_iconst (pc' := 74) dX12_path_73 rfl kiconst_0 ?_
        refine zj_istore (pc' := 76) (L' := [(4, .int 0), (3, .int v9), (0, .ref (zad Γ 186)), (1, .int a1), (2, .int a2)]) dX12_path_74 rfl (by decide) rfl ?_
        refine zj_loc [2, 4, 1, 0] rfl ?_
        refine zj_mem (N := (zui (zui M 186 r0v11) 197 r0_29)) (zself_i (zr_n rfl e_i197) rfl) ?_
        obtain ⟨r17, hr9, hyo18⟩ := zt_b hy
        obtain ⟨n9, hn9⟩ := zLP_some hr9
        have HE15 : ∀ (r0_29v26 : Nat → Int32), r17 = r0_29v26 → zR Γ 4 YX12_path 106 [(0, .ref (zad Γ 186))] [] (zui (zui M 186 r0v11) 197 r0_29v26) Q := by
          intro r0_29v26 e9
          have hy := hyo18
          try rw [e9] at hy
          try dsimp only at hy
          refine zj_aload_n (pc' := 107) 0 dX12_path_106 rfl rfl rfl ?_
          refine zj_fI (pc' := 110) dX12_path_107 rfl flX12_65 sh186 rfl (zr_n rfl zr_s) rfl ?_
          have e9 := Option.some.inj hy
          subst e9
          exact zj_iret dX12_path_110 rfl hq
        have HL16 : ∀ (n : Nat) (r0_29v12 : Nat → Int32) (x13 : Int32) (x14 : Int32), zlp (fun s => fM_path_L76 r0_6 r0_20 a2 r0v11 s.1 s.2.1 s.2.2) n (r0_29v12, x13, x14) = some r17 → zR Γ 4 YX12_path 76 [(0, .ref (zad Γ 186)), (2, .int a2), (3, .int x13), (4, .int x14)] [] (zui (zui M 186 r0v11) 197 r0_29v12) Q := by
          intro n
          induction n with
          | zero => intro r0_29v12 x13 x14 hn9; cases hn9
          | succ n ih19 =>
            intro r0_29v12 x13 x14 hn9
            obtain ⟨o9, hb9, h20, h21⟩ := zlp_step hn9
            have hy : fM_path_L76 r0_6 r0_20 a2 r0v11 r0_29v12 x13 x14 = some o9 := hb9
            unfold fM_path_L76 at hy
            refine zj_iload (pc' := 78) 3 dX12_path_76 rfl rfl ?_
            refine zj_aload_n (pc' := 79) 0 dX12_path_78 rfl rfl rfl ?_
            refine zj_fI (pc' := 82) dX12_path_79 rfl flX12_65 sh186 rfl (zr_n rfl zr_s) rfl ?_
            refine zj_icmp_ge (tgt := 106) (pc' := 85) dX12_path_82 rfl (by decide) (fun c22 => ?_) (fun c22 => ?_)
            · have hy := zt_t hy c22
              have e9 := h21 _ (Option.some.inj hy).symm
              refine zj_loc [0] rfl ?_
              exact HE15 _ e9.symm
            · have hy := zt_f hy c22
              refine zj_aload_n (pc' := 86) 0 dX12_path_85 rfl rfl rfl ?_
              refine zj_iload_n (pc' := 87) 2 dX12_path_86 rfl rfl rfl ?_
              refine zj_iload_n (pc' := 88) 1 dX12_path_87 rfl rfl rfl ?_
              obtain ⟨y23, hy23, hy⟩ := zt_b hy
              refine zj_V1 (pc' := 91) (z := YX12_towards) (As := [.int x13, .int a2]) (N := (zui (zui M 186 r0v11) 197 r0_29v12)) dX12_path_88 rfl mlX12_292 lkX12_towards sh186 ⟨_, _, rfl⟩ rfl rfl (Nat.le_of_ble_eq_true rfl) (Nat.le_of_ble_eq_true rfl) (LX12_towards_186 Γ _ r0_6 r0_20 (zr_n rfl (zr_n rfl e_i188)) (zr_n rfl (zr_n rfl e_i193)) x13 a2 hy23) rfl ?_
              refine zj_istore_n (pc' := 92) (L' := [(3, .int y23), (0, .ref (zad Γ 186)), (2, .int a2), (4, .int x14)]) dX12_path_91 rfl rfl (by decide) rfl ?_
              refine zj_aload_n (pc' := 93) 1 dX12_path_92 rfl rfl rfl ?_
              refine zj_getR (pc' := 96) (j := 197) dX12_path_93 rfl flX12_62 sh186 rfl ?_
              refine zj_iload (pc' := 98) 3 dX12_path_96 rfl rfl ?_
              refine zj_iload_n (pc' := 99) 0 dX12_path_98 rfl rfl rfl ?_
              obtain ⟨r0_29v24, hr0_29v24, hy⟩ := zt_b hy
              refine zj_wri (pc' := 100) (N := (zui (zui M 186 r0v11) 197 r0_29v24)) dX12_path_99 rfl sh197 zr_s hr0_29v24 zm_s ?_
              obtain ⟨x25, ex25⟩ : ∃ z : Int32, z = (x14 + 1) := ⟨_, rfl⟩
              have hy := zlet_at ex25 hy
              refine zj_iinc (pc' := 103) 3 (L' := [(4, .int x25), (3, .int y23), (0, .ref (zad Γ 186)), (2, .int a2)]) dX12_path_100 rfl rfl (by decide) (by rw [ci1, ← ex25]; rfl) ?_
              refine zj_goto (tgt := 76) dX12_path_103 (by decide) ?_
              have hn9 := h20 _ (Option.some.inj hy).symm
              refine zj_loc [2, 3, 1, 0] rfl ?_
              exact ih19 _ _ _ hn9
        exact HL16 n9 _ _ _ hn9
      · have hy := zt_f hy c8
        refine zj_iconst (pc' := 47) dX12_path_46 rfl kiconst_m1 ?_
        have e9 := Option.some.inj hy
        subst e9
        refine zj_mem (N := (zui (zui M 186 r0v1) 197 r0_29)) (zself_i (zr_n rfl e_i197) rfl) ?_
        exact zj_iret dX12_path_47 rfl hq
set_option maxRecDepth 20000 in
theorem LX12_path_186 (Γ : zG) (M : zM) (r0 : Nat → Int32) (r0_6 : Nat → Int32) (r0_20 : Nat → Int32) (r0_29 : Nat → Int32) (e_i186 : M.1 186 = r0) (e_i188 : M.1 188 = r0_6) (e_i193 : M.1 193 = r0_20) (e_i197 : M.1 197 = r0_29) (a1 : Int32) (a2 : Int32) {res : Int32 × (Nat → Int32) × (Nat → Int32)} (hy : (fM_path r0 r0_6 r0_20 r0_29 a1 a2) = some res) : zK Γ 4 YX12_path [.ref (zad Γ 186), .int a1, .int a2] M (fun v N => v = some (.int res.1) ∧ N = (zui (zui M 186 res.2.1) 197 res.2.2)) :=
  zK_of (by decide) (Nat.le_of_ble_eq_true rfl) (TX12_path_186 Γ M r0 r0_6 r0_20 r0_29 e_i186 e_i188 e_i193 e_i197 a1 a2 hy ⟨rfl, rfl⟩)

noncomputable def fX_pathAt (r0 : Nat → Int32) (r0_14 : Nat → Int32) (a1 : Int32) : Option (Int32) :=
  (if a1 < 0 then
  some (-1)
  else
  (if (r0 15) ≤ a1 then
  some (-1)
  else
  (if 8 ≤ a1 then
  some (-1)
  else
  (zrd r0_14 8 a1).bind (fun (v4 : Int32) =>
  some v4))))

set_option maxRecDepth 20000 in
theorem TX11_pathAt_0 (Γ : zG) {Q : Option Value → zM → Prop} (M : zM) (r0 : Nat → Int32) (r0_14 : Nat → Int32) (e_i0 : M.1 0 = r0) (e_i185 : M.1 185 = r0_14) (a1 : Int32) {res : Int32} (hy : (fX_pathAt r0 r0_14 a1) = some res) (hq : Q (some (.int res)) M) : zR Γ 1 YX11_pathAt 0 [(0, .ref (zad Γ 0)), (1, .int a1)] [] M Q := by
  unfold fX_pathAt at hy
  refine zj_iload_n (pc' := 1) 1 dX11_pathAt_0 rfl rfl rfl ?_
  refine zj_if_lt (tgt := 27) (pc' := 4) dX11_pathAt_1 rfl (by decide) (fun c1 => ?_) (fun c1 => ?_)
  · have hy := zt_t hy c1
    refine zj_iconst (pc' := 28) dX11_pathAt_27 rfl kiconst_m1 ?_
    have e9 := Option.some.inj hy
    subst e9
    exact zj_iret dX11_pathAt_28 rfl hq
  · have hy := zt_f hy c1
    refine zj_iload_n (pc' := 5) 1 dX11_pathAt_4 rfl rfl rfl ?_
    refine zj_aload_n (pc' := 6) 0 dX11_pathAt_5 rfl rfl rfl ?_
    refine zj_fI (pc' := 9) dX11_pathAt_6 rfl flX11_100 sh0 rfl e_i0 rfl ?_
    refine zj_icmp_ge (tgt := 27) (pc' := 12) dX11_pathAt_9 rfl (by decide) (fun c2 => ?_) (fun c2 => ?_)
    · have hy := zt_t hy c2
      refine zj_iconst (pc' := 28) dX11_pathAt_27 rfl kiconst_m1 ?_
      have e9 := Option.some.inj hy
      subst e9
      exact zj_iret dX11_pathAt_28 rfl hq
    · have hy := zt_f hy c2
      refine zj_iload_n (pc' := 13) 1 dX11_pathAt_12 rfl rfl rfl ?_
      refine zj_bipush (pc' := 15) dX11_pathAt_13 rfl kbipush_8 ?_
      refine zj_icmp_ge (tgt := 27) (pc' := 18) dX11_pathAt_15 rfl (by decide) (fun c3 => ?_) (fun c3 => ?_)
      · have hy := zt_t hy c3
        refine zj_iconst (pc' := 28) dX11_pathAt_27 rfl kiconst_m1 ?_
        have e9 := Option.some.inj hy
        subst e9
        exact zj_iret dX11_pathAt_28 rfl hq
      · have hy := zt_f hy c3
        refine zj_aload_n (pc' := 19) 0 dX11_pathAt_18 rfl rfl rfl ?_
        refine zj_getR (pc' := 22) (j := 185) dX11_pathAt_19 rfl flX11_96 sh0 rfl ?_
        refine zj_iload_n (pc' := 23) 1 dX11_pathAt_22 rfl rfl rfl ?_
        obtain ⟨v4, hv4, hy⟩ := zt_b hy
        refine zj_rdi (pc' := 24) dX11_pathAt_23 rfl sh185 e_i185 hv4 ?_
        refine zj_goto (tgt := 28) dX11_pathAt_24 (by decide) ?_
        have e9 := Option.some.inj hy
        subst e9
        exact zj_iret dX11_pathAt_28 rfl hq
set_option maxRecDepth 20000 in
theorem LX11_pathAt_0 (Γ : zG) (M : zM) (r0 : Nat → Int32) (r0_14 : Nat → Int32) (e_i0 : M.1 0 = r0) (e_i185 : M.1 185 = r0_14) (a1 : Int32) {res : Int32} (hy : (fX_pathAt r0 r0_14 a1) = some res) : zK Γ 1 YX11_pathAt [.ref (zad Γ 0), .int a1] M (fun v N => v = some (.int res) ∧ N = M) :=
  zK_of (by decide) (Nat.le_of_ble_eq_true rfl) (TX11_pathAt_0 Γ M r0 r0_14 e_i0 e_i185 a1 hy ⟨rfl, rfl⟩)

