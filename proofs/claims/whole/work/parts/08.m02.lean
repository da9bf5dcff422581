noncomputable def fM_readCorner (r0 : Nat → Int32) (w0 : Nat → Int64) (r0_1 : Nat → Int32) (r0_7 : Nat → Int32) (w0_9 : Nat → Int64) (w0_10 : Nat → Int64) : Option (Bool × (Nat → Int32) × (Nat → Int64) × (Nat → Int32) × (Nat → Int64)) :=
  zlet (r0_7 0) (fun (x1 : Int32) =>
  (if x1 = 8 then
  (fM_bad r0 4).bind (fun (y3 : Bool × (Nat → Int32)) =>
  some (y3.1, y3.2, w0, r0_7, w0_9))
  else
  (fM_next r0 w0 r0_1).bind (fun (y4 : (Nat → Int32) × (Nat → Int64)) =>
  (fM_fresh y4.1 y4.2 r0_1 r0_7 w0_9 w0_10 (14 + x1)).bind (fun (y5 : Bool × (Nat → Int32) × (Nat → Int64) × (Nat → Int64)) =>
  (if y5.1 = true then
  zlet (zup r0_7 0 ((r0_7 0) + 1)) (fun (r0_7v7 : Nat → Int32) =>
  some (true, y5.2.1, y5.2.2.1, r0_7v7, y5.2.2.2))
  else
  some (false, y5.2.1, y5.2.2.1, r0_7, y5.2.2.2))))))

set_option maxRecDepth 20000 in
theorem TX12_readCorner_186 (Γ : zG) {Q : Option Value → zM → Prop} (M : zM) (r0 : Nat → Int32) (w0 : Nat → Int64) (r0_1 : Nat → Int32) (r0_7 : Nat → Int32) (w0_9 : Nat → Int64) (w0_10 : Nat → Int64) (e_i186 : M.1 186 = r0) (e_l186 : M.2 186 = w0) (e_i187 : M.1 187 = r0_1) (e_i189 : M.1 189 = r0_7) (e_l191 : M.2 191 = w0_9) (e_l192 : M.2 192 = w0_10)  {res : Bool × (Nat → Int32) × (Nat → Int64) × (Nat → Int32) × (Nat → Int64)} (hy : (fM_readCorner r0 w0 r0_1 r0_7 w0_9 w0_10) = some res) (hq : Q (some (.int (zb res.1))) (zui (zui (zul (zul M 186 res.2.2.1) 191 res.2.2.2.2) 186 res.2.1) 189 res.2.2.2.1)) : zR Γ 4 YX12_readCorner 0 [(0, .ref (zad Γ 186))] [] M Q := by
  unfold fM_readCorner at hy
  refine zj_aload_n (pc' := 1) 0 dX12_readCorner_0 rfl rfl rfl ?_
  refine zj_getR (pc' := 4) (j := 189) dX12_readCorner_1 rfl flX12_37 sh186 rfl ?_
  refine zj_iconst (pc' := 5) dX12_readCorner_4 rfl kiconst_0 ?_
  refine zj_rdi (pc' := 6) dX12_readCorner_5 rfl sh189 e_i189 (zrdK zi0_89 tn0) ?_
  refine zj_topi (fun x1 ex1 => ?_)
  have hy := zlet_at ex1 hy
  refine zj_istore_n (pc' := 7) (L' := [(1, .int x1), (0, .ref (zad Γ 186))]) dX12_readCorner_6 rfl rfl (by decide) rfl ?_
  refine zj_iload_n (pc' := 8) 0 dX12_readCorner_7 rfl rfl rfl ?_
  refine zj_bipush (pc' := 10) dX12_readCorner_8 rfl kbipush_8 ?_
  refine zj_icmp_ne (tgt := 19) (pc' := 13) dX12_readCorner_10 rfl (by decide) (fun c2 => ?_) (fun c2 => ?_)
  · have hy := zt_f hy c2
    refine zj_aload_n (pc' := 20) 1 dX12_readCorner_19 rfl rfl rfl ?_
    obtain ⟨y4, hy4, hy⟩ := zt_b hy
    refine zj_V0 (pc' := 23) (z := YX12_next) (As := []) (N := (zui (zul M 186 y4.2) 186 y4.1)) dX12_readCorner_20 rfl mlX12_185 lkX12_next sh186 ⟨_, _, rfl⟩ rfl rfl (Nat.le_of_ble_eq_true rfl) (Nat.le_of_ble_eq_true rfl) (LX12_next_186 Γ _ r0 w0 r0_1 e_i186 e_l186 e_i187 hy4) ((zch_i rfl rfl)).symm ?_
    refine zj_aload_n (pc' := 24) 1 dX12_readCorner_23 rfl rfl rfl ?_
    refine zj_bipush (pc' := 26) dX12_readCorner_24 rfl kbipush_14 ?_
    refine zj_iload_n (pc' := 27) 0 dX12_readCorner_26 rfl rfl rfl ?_
    refine zj_iadd (pc' := 28) dX12_readCorner_27 rfl ?_
    obtain ⟨y5, hy5, hy⟩ := zt_b hy
    refine zj_V1 (pc' := 31) (z := YX12_fresh) (As := [.int (14 + x1)]) (N := (zui (zul (zul M 186 y5.2.2.1) 191 y5.2.2.2) 186 y5.2.1)) dX12_readCorner_28 rfl mlX12_229 lkX12_fresh sh186 ⟨_, _, rfl⟩ rfl rfl (Nat.le_of_ble_eq_true rfl) (Nat.le_of_ble_eq_true rfl) (LX12_fresh_186 Γ _ y4.1 y4.2 r0_1 r0_7 w0_9 w0_10 zr_s (zq_i zq_s) (zr_n rfl (zr_l e_i187)) (zr_n rfl (zr_l e_i189)) (zq_i (zq_n rfl e_l191)) (zq_i (zq_n rfl e_l192)) (14 + x1) hy5) ((zch_i (zch_l (zm_li zn_s) (zm_li rfl)) zm_s)).symm ?_
    refine zj_bif_ne (tgt := 36) (pc' := 34) dX12_readCorner_31 rfl (by decide) (fun c6 => ?_) (fun c6 => ?_)
    · have hy := zt_t hy c6
      refine zj_aload_n (pc' := 37) 1 dX12_readCorner_36 rfl rfl rfl ?_
      refine zj_getR (pc' := 40) (j := 189) dX12_readCorner_37 rfl flX12_37 sh186 rfl ?_
      refine zj_iconst (pc' := 41) dX12_readCorner_40 rfl kiconst_0 ?_
      refine zj_dup2 (pc' := 42) dX12_readCorner_41 rfl rfl rfl ?_
      refine zj_rdi (pc' := 43) dX12_readCorner_42 rfl sh189 (zr_n rfl (zr_l (zr_l e_i189))) (zrdK zi0_89 tn0) ?_
      refine zj_iconst (pc' := 44) dX12_readCorner_43 rfl kiconst_1 ?_
      refine zj_iadd (pc' := 45) dX12_readCorner_44 rfl ?_
      obtain ⟨r0_7v7, er0_7v7⟩ : ∃ z, z = (zup r0_7 0 ((r0_7 0) + 1)) := ⟨_, rfl⟩
      have hy := zlet_at er0_7v7 hy
      refine zj_wri (pc' := 46) (N := (zui (zui (zul (zul M 186 y5.2.2.1) 191 y5.2.2.2) 186 y5.2.1) 189 r0_7v7)) dX12_readCorner_45 rfl sh189 (zr_n rfl (zr_l (zr_l e_i189))) (zwrK zi0_89 tn0 er0_7v7) rfl ?_
      refine zj_iconst (pc' := 47) dX12_readCorner_46 rfl kiconst_1 ?_
      have e9 := Option.some.inj hy
      subst e9
      exact zj_bret (b := true) dX12_readCorner_47 rfl hq
    · have hy := zt_f hy c6
      refine zj_iconst (pc' := 35) dX12_readCorner_34 rfl kiconst_0 ?_
      have e9 := Option.some.inj hy
      subst e9
      refine zj_mem (N := (zui (zui (zul (zul M 186 y5.2.2.1) 191 y5.2.2.2) 186 y5.2.1) 189 r0_7)) (zself_i (zr_n rfl (zr_l (zr_l e_i189))) rfl) ?_
      exact zj_bret (b := false) dX12_readCorner_35 rfl hq
  · have hy := zt_t hy c2
    refine zj_aload_n (pc' := 14) 1 dX12_readCorner_13 rfl rfl rfl ?_
    refine zj_iconst (pc' := 15) dX12_readCorner_14 rfl kiconst_4 ?_
    obtain ⟨y3, hy3, hy⟩ := zt_b hy
    refine zj_V1 (pc' := 18) (z := YX12_bad) (As := [.int 4]) (N := (zui M 186 y3.2)) dX12_readCorner_15 rfl mlX12_182 lkX12_bad sh186 ⟨_, _, rfl⟩ rfl rfl (Nat.le_of_ble_eq_true rfl) (Nat.le_of_ble_eq_true rfl) (LX12_bad_186 Γ _ r0 e_i186 4 hy3) (rfl).symm ?_
    have e9 := Option.some.inj hy
    subst e9
    refine zj_mem (N := (zui (zul M 186 w0) 186 y3.2)) (zself_l (zq_i e_l186) (zm_li rfl)) ?_
    refine zj_mem (N := (zui (zul (zul M 186 w0) 191 w0_9) 186 y3.2)) (zself_l (zq_i (zq_n rfl e_l191)) (zm_li rfl)) ?_
    refine zj_mem (N := (zui (zui (zul (zul M 186 w0) 191 w0_9) 186 y3.2) 189 r0_7)) (zself_i (zr_n rfl (zr_l (zr_l e_i189))) rfl) ?_
    exact zj_bret (b := y3.1) dX12_readCorner_18 rfl hq
set_option maxRecDepth 20000 in
theorem LX12_readCorner_186 (Γ : zG) (M : zM) (r0 : Nat → Int32) (w0 : Nat → Int64) (r0_1 : Nat → Int32) (r0_7 : Nat → Int32) (w0_9 : Nat → Int64) (w0_10 : Nat → Int64) (e_i186 : M.1 186 = r0) (e_l186 : M.2 186 = w0) (e_i187 : M.1 187 = r0_1) (e_i189 : M.1 189 = r0_7) (e_l191 : M.2 191 = w0_9) (e_l192 : M.2 192 = w0_10)  {res : Bool × (Nat → Int32) × (Nat → Int64) × (Nat → Int32) × (Nat → Int64)} (hy : (fM_readCorner r0 w0 r0_1 r0_7 w0_9 w0_10) = some res) : zK Γ 4 YX12_readCorner [.ref (zad Γ 186)] M (fun v N => v = some (.int (zb res.1)) ∧ N = (zui (zui (zul (zul M 186 res.2.2.1) 191 res.2.2.2.2) 186 res.2.1) 189 res.2.2.2.1)) :=
  zK_of (by decide) (Nat.le_of_ble_eq_true rfl) (TX12_readCorner_186 Γ M r0 w0 r0_1 r0_7 w0_9 w0_10 e_i186 e_l186 e_i187 e_i189 e_l191 e_l192 hy ⟨rfl, rfl⟩)

noncomputable def fM_looksAt (r0 : Nat → Int32) (w0 : Nat → Int64) (w0_9 : Nat → Int64) (w0_10 : Nat → Int64) (a1 : Int32) (a2 : Int32) : Option (Bool × (Nat → Int32)) :=
  (fM_isName r0 w0 w0_10).bind (fun (y1 : Bool) =>
  (if y1 = true then
  (fM_seek w0 w0_9 a1 a2).bind (fun (y3 : Int32) =>
  zlet (zup r0 18 y3) (fun (r0v4 : Nat → Int32) =>
  (if 0 ≤ (r0v4 18) then
  some (true, r0v4)
  else
  (fM_bad r0v4 3).bind (fun (y6 : Bool × (Nat → Int32)) =>
  some ((if y6.1 = true then true else false), y6.2)))))
  else
  (fM_bad r0 1).bind (fun (y9 : Bool × (Nat → Int32)) =>
  some (y9.1, y9.2))))

set_option maxRecDepth 20000 in
theorem TX12_looksAt_186 (Γ : zG) {Q : Option Value → zM → Prop} (M : zM) (r0 : Nat → Int32) (w0 : Nat → Int64) (w0_9 : Nat → Int64) (w0_10 : Nat → Int64) (e_i186 : M.1 186 = r0) (e_l186 : M.2 186 = w0) (e_l191 : M.2 191 = w0_9) (e_l192 : M.2 192 = w0_10) (a1 : Int32) (a2 : Int32) {res : Bool × (Nat → Int32)} (hy : (fM_looksAt r0 w0 w0_9 w0_10 a1 a2) = some res) (hq : Q (some (.int (zb res.1))) (zui M 186 res.2)) : zR Γ 2 YX12_looksAt 0 [(0, .ref (zad Γ 186)), (1, .int a1), (2, .int a2)] [] M Q := by
  unfold fM_looksAt at hy
  refine zj_aload_n (pc' := 1) 0 dX12_looksAt_0 rfl rfl rfl ?_
  obtain ⟨y1, hy1, hy⟩ := zt_b hy
  refine zj_V1 (pc' := 4) (z := YX12_isName) (As := []) (N := M) dX12_looksAt_1 rfl mlX12_199 lkX12_isName sh186 ⟨_, _, rfl⟩ rfl rfl (Nat.le_of_ble_eq_true rfl) (Nat.le_of_ble_eq_true rfl) (LX12_isName_186 Γ _ r0 w0 w0_10 e_i186 e_l186 e_l192 hy1) rfl ?_
  refine zj_bif_ne (tgt := 13) (pc' := 7) dX12_looksAt_4 rfl (by decide) (fun c2 => ?_) (fun c2 => ?_)
  · have hy := zt_t hy c2
    refine zj_aload_n (pc' := 14) 0 dX12_looksAt_13 rfl rfl rfl ?_
    refine zj_aload_n (pc' := 15) 0 dX12_looksAt_14 rfl rfl rfl ?_
    refine zj_iload_n (pc' := 16) 1 dX12_looksAt_15 rfl rfl rfl ?_
    refine zj_iload_n (pc' := 17) 2 dX12_looksAt_16 rfl rfl rfl ?_
    obtain ⟨y3, hy3, hy⟩ := zt_b hy
    refine zj_V1 (pc' := 20) (z := YX12_seek) (As := [.int a1, .int a2]) (N := M) dX12_looksAt_17 rfl mlX12_203 lkX12_seek sh186 ⟨_, _, rfl⟩ rfl rfl (Nat.le_of_ble_eq_true rfl) (Nat.le_of_ble_eq_true rfl) (LX12_seek_186 Γ _ w0 w0_9 e_l186 e_l191 a1 a2 hy3) rfl ?_
    obtain ⟨r0v4, er0v4⟩ : ∃ z, z = (zup r0 18 y3) := ⟨_, rfl⟩
    have hy := zlet_at er0v4 hy
    refine zj_pI (pc' := 23) (N := (zui M 186 r0v4)) dX12_looksAt_20 rfl fpX12_192 sh186 rfl e_i186 er0v4 rfl ?_
    refine zj_aload_n (pc' := 24) 0 dX12_looksAt_23 rfl rfl rfl ?_
    refine zj_fI (pc' := 27) dX12_looksAt_24 rfl flX12_192 sh186 rfl zr_s rfl ?_
    refine zj_if_ge (tgt := 38) (pc' := 30) dX12_looksAt_27 rfl (by decide) (fun c5 => ?_) (fun c5 => ?_)
    · have hy := zt_t hy c5
      refine zj_iconst (pc' := 39) dX12_looksAt_38 rfl kiconst_1 ?_
      refine zj_goto (tgt := 43) dX12_looksAt_39 (by decide) ?_
      have e9 := Option.some.inj hy
      subst e9
      exact zj_bret (b := true) dX12_looksAt_43 rfl hq
    · have hy := zt_f hy c5
      refine zj_aload_n (pc' := 31) 0 dX12_looksAt_30 rfl rfl rfl ?_
      refine zj_iconst (pc' := 32) dX12_looksAt_31 rfl kiconst_3 ?_
      obtain ⟨y6, hy6, hy⟩ := zt_b hy
      refine zj_V1 (pc' := 35) (z := YX12_bad) (As := [.int 3]) (N := (zui M 186 y6.2)) dX12_looksAt_32 rfl mlX12_182 lkX12_bad sh186 ⟨_, _, rfl⟩ rfl rfl (Nat.le_of_ble_eq_true rfl) (Nat.le_of_ble_eq_true rfl) (LX12_bad_186 Γ _ r0v4 zr_s 3 hy6) (zm_s).symm ?_
      have HJ7 : zR Γ 2 YX12_looksAt 43 [(0, .ref (zad Γ 186)), (1, .int a1), (2, .int a2)] [.int (zb (if y6.1 = true then true else false))] (zui M 186 y6.2) Q := by
        have e9 := Option.some.inj hy
        subst e9
        exact zj_bret (b := (if y6.1 = true then true else false)) dX12_looksAt_43 rfl hq
      refine zj_bif_eq (tgt := 42) (pc' := 38) dX12_looksAt_35 rfl (by decide) (fun c8 => ?_) (fun c8 => ?_)
      · refine zj_iconst (pc' := 43) dX12_looksAt_42 rfl kiconst_0 ?_
        exact zj_eqb (b := false) (if_neg c8) HJ7
      · refine zj_iconst (pc' := 39) dX12_looksAt_38 rfl kiconst_1 ?_
        refine zj_goto (tgt := 43) dX12_looksAt_39 (by decide) ?_
        exact zj_eqb (b := true) (if_pos c8) HJ7
  · have hy := zt_f hy c2
    refine zj_aload_n (pc' := 8) 0 dX12_looksAt_7 rfl rfl rfl ?_
    refine zj_iconst (pc' := 9) dX12_looksAt_8 rfl kiconst_1 ?_
    obtain ⟨y9, hy9, hy⟩ := zt_b hy
    refine zj_V1 (pc' := 12) (z := YX12_bad) (As := [.int 1]) (N := (zui M 186 y9.2)) dX12_looksAt_9 rfl mlX12_182 lkX12_bad sh186 ⟨_, _, rfl⟩ rfl rfl (Nat.le_of_ble_eq_true rfl) (Nat.le_of_ble_eq_true rfl) (LX12_bad_186 Γ _ r0 e_i186 1 hy9) (rfl).symm ?_
    have e9 := Option.some.inj hy
    subst e9
    exact zj_bret (b := y9.1) dX12_looksAt_12 rfl hq
set_option maxRecDepth 20000 in
theorem LX12_looksAt_186 (Γ : zG) (M : zM) (r0 : Nat → Int32) (w0 : Nat → Int64) (w0_9 : Nat → Int64) (w0_10 : Nat → Int64) (e_i186 : M.1 186 = r0) (e_l186 : M.2 186 = w0) (e_l191 : M.2 191 = w0_9) (e_l192 : M.2 192 = w0_10) (a1 : Int32) (a2 : Int32) {res : Bool × (Nat → Int32)} (hy : (fM_looksAt r0 w0 w0_9 w0_10 a1 a2) = some res) : zK Γ 2 YX12_looksAt [.ref (zad Γ 186), .int a1, .int a2] M (fun v N => v = some (.int (zb res.1)) ∧ N = (zui M 186 res.2)) :=
  zK_of (by decide) (Nat.le_of_ble_eq_true rfl) (TX12_looksAt_186 Γ M r0 w0 w0_9 w0_10 e_i186 e_l186 e_l191 e_l192 a1 a2 hy ⟨rfl, rfl⟩)

noncomputable def fM_takesName (r0 : Nat → Int32) (w0 : Nat → Int64) (r0_1 : Nat → Int32) (w0_9 : Nat → Int64) (w0_10 : Nat → Int64) (a1 : Int32) (a2 : Int32) : Option (Bool × (Nat → Int32) × (Nat → Int64)) :=
  (fM_looksAt r0 w0 w0_9 w0_10 a1 a2).bind (fun (y1 : Bool × (Nat → Int32)) =>
  (if y1.1 = true then
  (fM_next y1.2 w0 r0_1).bind (fun (y3 : (Nat → Int32) × (Nat → Int64)) =>
  some (true, y3.1, y3.2))
  else
  some (false, y1.2, w0)))

set_option maxRecDepth 20000 in
theorem TX12_takesName_186 (Γ : zG) {Q : Option Value → zM → Prop} (M : zM) (r0 : Nat → Int32) (w0 : Nat → Int64) (r0_1 : Nat → Int32) (w0_9 : Nat → Int64) (w0_10 : Nat → Int64) (e_i186 : M.1 186 = r0) (e_l186 : M.2 186 = w0) (e_i187 : M.1 187 = r0_1) (e_l191 : M.2 191 = w0_9) (e_l192 : M.2 192 = w0_10) (a1 : Int32) (a2 : Int32) {res : Bool × (Nat → Int32) × (Nat → Int64)} (hy : (fM_takesName r0 w0 r0_1 w0_9 w0_10 a1 a2) = some res) (hq : Q (some (.int (zb res.1))) (zui (zul M 186 res.2.2) 186 res.2.1)) : zR Γ 3 YX12_takesName 0 [(0, .ref (zad Γ 186)), (1, .int a1), (2, .int a2)] [] M Q := by
  unfold fM_takesName at hy
  refine zj_aload_n (pc' := 1) 0 dX12_takesName_0 rfl rfl rfl ?_
  refine zj_iload_n (pc' := 2) 1 dX12_takesName_1 rfl rfl rfl ?_
  refine zj_iload_n (pc' := 3) 2 dX12_takesName_2 rfl rfl rfl ?_
  obtain ⟨y1, hy1, hy⟩ := zt_b hy
  refine zj_V1 (pc' := 6) (z := YX12_looksAt) (As := [.int a1, .int a2]) (N := (zui M 186 y1.2)) dX12_takesName_3 rfl mlX12_207 lkX12_looksAt sh186 ⟨_, _, rfl⟩ rfl rfl (Nat.le_of_ble_eq_true rfl) (Nat.le_of_ble_eq_true rfl) (LX12_looksAt_186 Γ _ r0 w0 w0_9 w0_10 e_i186 e_l186 e_l191 e_l192 a1 a2 hy1) (rfl).symm ?_
  refine zj_bif_ne (tgt := 11) (pc' := 9) dX12_takesName_6 rfl (by decide) (fun c2 => ?_) (fun c2 => ?_)
  · have hy := zt_t hy c2
    refine zj_aload_n (pc' := 12) 0 dX12_takesName_11 rfl rfl rfl ?_
    obtain ⟨y3, hy3, hy⟩ := zt_b hy
    refine zj_V0 (pc' := 15) (z := YX12_next) (As := []) (N := (zui (zul M 186 y3.2) 186 y3.1)) dX12_takesName_12 rfl mlX12_185 lkX12_next sh186 ⟨_, _, rfl⟩ rfl rfl (Nat.le_of_ble_eq_true rfl) (Nat.le_of_ble_eq_true rfl) (LX12_next_186 Γ _ y1.2 w0 r0_1 zr_s (zq_i e_l186) (zr_n rfl e_i187) hy3) ((zch_i (zm_li rfl) zm_s)).symm ?_
    refine zj_iconst (pc' := 16) dX12_takesName_15 rfl kiconst_1 ?_
    have e9 := Option.some.inj hy
    subst e9
    exact zj_bret (b := true) dX12_takesName_16 rfl hq
  · have hy := zt_f hy c2
    refine zj_iconst (pc' := 10) dX12_takesName_9 rfl kiconst_0 ?_
    have e9 := Option.some.inj hy
    subst e9
    refine zj_mem (N := (zui (zul M 186 w0) 186 y1.2)) (zself_l (zq_i e_l186) (zm_li rfl)) ?_
    exact zj_bret (b := false) dX12_takesName_10 rfl hq
set_option maxRecDepth 20000 in
theorem LX12_takesName_186 (Γ : zG) (M : zM) (r0 : Nat → Int32) (w0 : Nat → Int64) (r0_1 : Nat → Int32) (w0_9 : Nat → Int64) (w0_10 : Nat → Int64) (e_i186 : M.1 186 = r0) (e_l186 : M.2 186 = w0) (e_i187 : M.1 187 = r0_1) (e_l191 : M.2 191 = w0_9) (e_l192 : M.2 192 = w0_10) (a1 : Int32) (a2 : Int32) {res : Bool × (Nat → Int32) × (Nat → Int64)} (hy : (fM_takesName r0 w0 r0_1 w0_9 w0_10 a1 a2) = some res) : zK Γ 3 YX12_takesName [.ref (zad Γ 186), .int a1, .int a2] M (fun v N => v = some (.int (zb res.1)) ∧ N = (zui (zul M 186 res.2.2) 186 res.2.1)) :=
  zK_of (by decide) (Nat.le_of_ble_eq_true rfl) (TX12_takesName_186 Γ M r0 w0 r0_1 w0_9 w0_10 e_i186 e_l186 e_i187 e_l191 e_l192 a1 a2 hy ⟨rfl, rfl⟩)

noncomputable def fM_bitOf (a1 : Int32) (a2 : Int32) : Bool :=
  (if ((a1 >>> (a2 &&& 31)) &&& 1) = 1 then true else false)

set_option maxRecDepth 20000 in
theorem TX12_bitOf (Γ : zG) {Q : Option Value → zM → Prop} (M : zM)   (a1 : Int32) (a2 : Int32) {res : Bool} (hy : (fM_bitOf a1 a2) = res) (hq : Q (some (.int (zb res))) M) : zR Γ 1 YX12_bitOf 0 [(0, .int a1), (1, .int a2)] [] M Q := by
  unfold fM_bitOf at hy
  refine zj_iload_n (pc' := 1) 0 dX12_bitOf_0 rfl rfl rfl ?_
  refine zj_iload_n (pc' := 2) 1 dX12_bitOf_1 rfl rfl rfl ?_
  refine zj_ishr (pc' := 3) dX12_bitOf_2 rfl ?_
  refine zj_iconst (pc' := 4) dX12_bitOf_3 rfl kiconst_1 ?_
  refine zj_iand (pc' := 5) dX12_bitOf_4 rfl ?_
  refine zj_iconst (pc' := 6) dX12_bitOf_5 rfl kiconst_1 ?_
  have HJ1 : zR Γ 1 YX12_bitOf 14 [(0, .int a1), (1, .int a2)] [.int (zb (if ((a1 >>> (a2 &&& 31)) &&& 1) = 1 then true else false))] M Q := by
    subst hy
    exact zj_bret (b := (if ((a1 >>> (a2 &&& 31)) &&& 1) = 1 then true else false)) dX12_bitOf_14 rfl hq
  refine zj_icmp_ne (tgt := 13) (pc' := 9) dX12_bitOf_6 rfl (by decide) (fun c2 => ?_) (fun c2 => ?_)
  · refine zj_iconst (pc' := 14) dX12_bitOf_13 rfl kiconst_0 ?_
    exact zj_eqb (b := false) (if_neg c2) HJ1
  · refine zj_iconst (pc' := 10) dX12_bitOf_9 rfl kiconst_1 ?_
    refine zj_goto (tgt := 14) dX12_bitOf_10 (by decide) ?_
    exact zj_eqb (b := true) (if_pos c2) HJ1
set_option maxRecDepth 20000 in
theorem LX12_bitOf (Γ : zG) (M : zM)   (a1 : Int32) (a2 : Int32) {res : Bool} (hy : (fM_bitOf a1 a2) = res) : zK Γ 1 YX12_bitOf [.int a1, .int a2] M (fun v N => v = some (.int (zb res)) ∧ N = M) :=
  zK_of (by decide) (Nat.le_of_ble_eq_true rfl) (TX12_bitOf Γ M a1 a2 hy ⟨rfl, rfl⟩)

noncomputable def fM_readStreet (r0 : Nat → Int32) (w0 : Nat → Int64) (r0_1 : Nat → Int32) (r0_7 : Nat → Int32) (w0_9 : Nat → Int64) (w0_10 : Nat → Int64) : Option (Bool × (Nat → Int32) × (Nat → Int64) × (Nat → Int32)) :=
  (if (r0_7 1) = 14 then
  (fM_bad r0 4).bind (fun (y2 : Bool × (Nat → Int32)) =>
  some (y2.1, y2.2, w0, r0_7))
  else
  (fM_next r0 w0 r0_1).bind (fun (y3 : (Nat → Int32) × (Nat → Int64)) =>
  (fM_takesName y3.1 y3.2 r0_1 w0_9 w0_10 14 (r0_7 0)).bind (fun (y4 : Bool × (Nat → Int32) × (Nat → Int64)) =>
  (if y4.1 = true then
  zlet (y4.2.1 18) (fun (x6 : Int32) =>
  (fM_looksAt y4.2.1 y4.2.2 w0_9 w0_10 14 (r0_7 0)).bind (fun (y7 : Bool × (Nat → Int32)) =>
  (if y7.1 = true then
  (if (y7.2 18) = x6 then
  (fM_bad y7.2 3).bind (fun (y10 : Bool × (Nat → Int32)) =>
  some (y10.1, y10.2, y4.2.2, r0_7))
  else
  (zrd r0_7 89 (3 + x6)).bind (fun (v11 : Int32) =>
  (if (fM_bitOf v11 (y7.2 18)) = true then
  (fM_bad y7.2 3).bind (fun (y13 : Bool × (Nat → Int32)) =>
  some (y13.1, y13.2, y4.2.2, r0_7))
  else
  (zrd r0_7 89 (3 + x6)).bind (fun (v14 : Int32) =>
  (zwr r0_7 89 (3 + x6) (v14 ||| ((1 : Int32) <<< ((y7.2 18) &&& 31)))).bind (fun (r0_7v15 : Nat → Int32) =>
  (zrd r0_7v15 89 (3 + (y7.2 18))).bind (fun (v16 : Int32) =>
  (zwr r0_7v15 89 (3 + (y7.2 18)) (v16 ||| ((1 : Int32) <<< (x6 &&& 31)))).bind (fun (r0_7v17 : Nat → Int32) =>
  zlet (zup r0_7v17 1 ((r0_7v17 1) + 1)) (fun (r0_7v18 : Nat → Int32) =>
  (fM_next y7.2 y4.2.2 r0_1).bind (fun (y19 : (Nat → Int32) × (Nat → Int64)) =>
  some (true, y19.1, y19.2, r0_7v18))))))))))
  else
  some (false, y7.2, y4.2.2, r0_7))))
  else
  some (false, y4.2.1, y4.2.2, r0_7)))))

set_option maxRecDepth 20000 in
theorem TX12_readStreet_186 (Γ : zG) {Q : Option Value → zM → Prop} (M : zM) (r0 : Nat → Int32) (w0 : Nat → Int64) (r0_1 : Nat → Int32) (r0_7 : Nat → Int32) (w0_9 : Nat → Int64) (w0_10 : Nat → Int64) (e_i186 : M.1 186 = r0) (e_l186 : M.2 186 = w0) (e_i187 : M.1 187 = r0_1) (e_i189 : M.1 189 = r0_7) (e_l191 : M.2 191 = w0_9) (e_l192 : M.2 192 = w0_10)  {res : Bool × (Nat → Int32) × (Nat → Int64) × (Nat → Int32)} (hy : (fM_readStreet r0 w0 r0_1 r0_7 w0_9 w0_10) = some res) (hq : Q (some (.int (zb res.1))) (zui (zui (zul M 186 res.2.2.1) 186 res.2.1) 189 res.2.2.2)) : zR Γ 4 YX12_readStreet 0 [(0, .ref (zad Γ 186))] [] M Q := by
  unfold fM_readStreet at hy
  refine zj_aload_n (pc' := 1) 0 dX12_readStreet_0 rfl rfl rfl ?_
  refine zj_getR (pc' := 4) (j := 189) dX12_readStreet_1 rfl flX12_37 sh186 rfl ?_
  refine zj_iconst (pc' := 5) dX12_readStreet_4 rfl kiconst_1 ?_
  refine zj_rdi (pc' := 6) dX12_readStreet_5 rfl sh189 e_i189 (zrdK zi1_89 tn1) ?_
  refine zj_bipush (pc' := 8) dX12_readStreet_6 rfl kbipush_14 ?_
  refine zj_icmp_ne (tgt := 17) (pc' := 11) dX12_readStreet_8 rfl (by decide) (fun c1 => ?_) (fun c1 => ?_)
  · have hy := zt_f hy c1
    refine zj_aload_n (pc' := 18) 0 dX12_readStreet_17 rfl rfl rfl ?_
    obtain ⟨y3, hy3, hy⟩ := zt_b hy
    refine zj_V0 (pc' := 21) (z := YX12_next) (As := []) (N := (zui (zul M 186 y3.2) 186 y3.1)) dX12_readStreet_18 rfl mlX12_185 lkX12_next sh186 ⟨_, _, rfl⟩ rfl rfl (Nat.le_of_ble_eq_true rfl) (Nat.le_of_ble_eq_true rfl) (LX12_next_186 Γ _ r0 w0 r0_1 e_i186 e_l186 e_i187 hy3) ((zch_i rfl rfl)).symm ?_
    refine zj_aload_n (pc' := 22) 0 dX12_readStreet_21 rfl rfl rfl ?_
    refine zj_bipush (pc' := 24) dX12_readStreet_22 rfl kbipush_14 ?_
    refine zj_aload_n (pc' := 25) 0 dX12_readStreet_24 rfl rfl rfl ?_
    refine zj_getR (pc' := 28) (j := 189) dX12_readStreet_25 rfl flX12_37 sh186 rfl ?_
    refine zj_iconst (pc' := 29) dX12_readStreet_28 rfl kiconst_0 ?_
    refine zj_rdi (pc' := 30) dX12_readStreet_29 rfl sh189 (zr_n rfl (zr_l e_i189)) (zrdK zi0_89 tn0) ?_
    obtain ⟨y4, hy4, hy⟩ := zt_b hy
    refine zj_V1 (pc' := 33) (z := YX12_takesName) (As := [.int 14, .int (r0_7 0)]) (N := (zui (zul M 186 y4.2.2) 186 y4.2.1)) dX12_readStreet_30 rfl mlX12_232 lkX12_takesName sh186 ⟨_, _, rfl⟩ rfl rfl (Nat.le_of_ble_eq_true rfl) (Nat.le_of_ble_eq_true rfl) (LX12_takesName_186 Γ _ y3.1 y3.2 r0_1 w0_9 w0_10 zr_s (zq_i zq_s) (zr_n rfl (zr_l e_i187)) (zq_i (zq_n rfl e_l191)) (zq_i (zq_n rfl e_l192)) 14 (r0_7 0) hy4) ((zch_i (zm_li zn_s) zm_s)).symm ?_
    refine zj_bif_ne (tgt := 38) (pc' := 36) dX12_readStreet_33 rfl (by decide) (fun c5 => ?_) (fun c5 => ?_)
    · have hy := zt_t hy c5
      refine zj_aload_n (pc' := 39) 0 dX12_readStreet_38 rfl rfl rfl ?_
      refine zj_fI (pc' := 42) dX12_readStreet_39 rfl flX12_192 sh186 rfl zr_s rfl ?_
      refine zj_topi (fun x6 ex6 => ?_)
      have hy := zlet_at ex6 hy
      refine zj_istore_n (pc' := 43) (L' := [(1, .int x6), (0, .ref (zad Γ 186))]) dX12_readStreet_42 rfl rfl (by decide) rfl ?_
      refine zj_aload_n (pc' := 44) 1 dX12_readStreet_43 rfl rfl rfl ?_
      refine zj_bipush (pc' := 46) dX12_readStreet_44 rfl kbipush_14 ?_
      refine zj_aload_n (pc' := 47) 1 dX12_readStreet_46 rfl rfl rfl ?_
      refine zj_getR (pc' := 50) (j := 189) dX12_readStreet_47 rfl flX12_37 sh186 rfl ?_
      refine zj_iconst (pc' := 51) dX12_readStreet_50 rfl kiconst_0 ?_
      refine zj_rdi (pc' := 52) dX12_readStreet_51 rfl sh189 (zr_n rfl (zr_l e_i189)) (zrdK zi0_89 tn0) ?_
      obtain ⟨y7, hy7, hy⟩ := zt_b hy
      refine zj_V1 (pc' := 55) (z := YX12_looksAt) (As := [.int 14, .int (r0_7 0)]) (N := (zui (zul M 186 y4.2.2) 186 y7.2)) dX12_readStreet_52 rfl mlX12_207 lkX12_looksAt sh186 ⟨_, _, rfl⟩ rfl rfl (Nat.le_of_ble_eq_true rfl) (Nat.le_of_ble_eq_true rfl) (LX12_looksAt_186 Γ _ y4.2.1 y4.2.2 w0_9 w0_10 zr_s (zq_i zq_s) (zq_i (zq_n rfl e_l191)) (zq_i (zq_n rfl e_l192)) 14 (r0_7 0) hy7) (zm_s).symm ?_
      refine zj_bif_ne (tgt := 60) (pc' := 58) dX12_readStreet_55 rfl (by decide) (fun c8 => ?_) (fun c8 => ?_)
      · have hy := zt_t hy c8
        refine zj_aload_n (pc' := 61) 1 dX12_readStreet_60 rfl rfl rfl ?_
        refine zj_fI (pc' := 64) dX12_readStreet_61 rfl flX12_192 sh186 rfl zr_s rfl ?_
        refine zj_iload_n (pc' := 65) 0 dX12_readStreet_64 rfl rfl rfl ?_
        refine zj_icmp_eq (tgt := 86) (pc' := 68) dX12_readStreet_65 rfl (by decide) (fun c9 => ?_) (fun c9 => ?_)
        · have hy := zt_t hy c9
          refine zj_aload_n (pc' := 87) 1 dX12_readStreet_86 rfl rfl rfl ?_
          refine zj_iconst (pc' := 88) dX12_readStreet_87 rfl kiconst_3 ?_
          obtain ⟨y10, hy10, hy⟩ := zt_b hy
          refine zj_V1 (pc' := 91) (z := YX12_bad) (As := [.int 3]) (N := (zui (zul M 186 y4.2.2) 186 y10.2)) dX12_readStreet_88 rfl mlX12_182 lkX12_bad sh186 ⟨_, _, rfl⟩ rfl rfl (Nat.le_of_ble_eq_true rfl) (Nat.le_of_ble_eq_true rfl) (LX12_bad_186 Γ _ y7.2 zr_s 3 hy10) (zm_s).symm ?_
          have e9 := Option.some.inj hy
          subst e9
          refine zj_mem (N := (zui (zui (zul M 186 y4.2.2) 186 y10.2) 189 r0_7)) (zself_i (zr_n rfl (zr_l e_i189)) rfl) ?_
          exact zj_bret (b := y10.1) dX12_readStreet_91 rfl hq
        · have hy := zt_f hy c9
          refine zj_aload_n (pc' := 69) 1 dX12_readStreet_68 rfl rfl rfl ?_
          refine zj_getR (pc' := 72) (j := 189) dX12_readStreet_69 rfl flX12_37 sh186 rfl ?_
          refine zj_iconst (pc' := 73) dX12_readStreet_72 rfl kiconst_3 ?_
          refine zj_iload_n (pc' := 74) 0 dX12_readStreet_73 rfl rfl rfl ?_
          refine zj_iadd (pc' := 75) dX12_readStreet_74 rfl ?_
          obtain ⟨v11, hv11, hy⟩ := zt_b hy
          refine zj_rdi (pc' := 76) dX12_readStreet_75 rfl sh189 (zr_n rfl (zr_l e_i189)) hv11 ?_
          refine zj_aload_n (pc' := 77) 1 dX12_readStreet_76 rfl rfl rfl ?_
          refine zj_fI (pc' := 80) dX12_readStreet_77 rfl flX12_192 sh186 rfl zr_s rfl ?_
          refine zj_S1 (pc' := 83) (z := YX12_bitOf) (As := [.int v11, .int (y7.2 18)]) (N := (zui (zul M 186 y4.2.2) 186 y7.2)) dX12_readStreet_80 rfl mlX12_235 lkX12_bitOf rfl rfl (Nat.le_of_ble_eq_true rfl) (Nat.le_of_ble_eq_true rfl) (LX12_bitOf Γ _ v11 (y7.2 18) rfl) rfl ?_
          refine zj_bif_eq (tgt := 92) (pc' := 86) dX12_readStreet_83 rfl (by decide) (fun c12 => ?_) (fun c12 => ?_)
          · have hy := zt_f hy c12
            refine zj_aload_n (pc' := 93) 1 dX12_readStreet_92 rfl rfl rfl ?_
            refine zj_getR (pc' := 96) (j := 189) dX12_readStreet_93 rfl flX12_37 sh186 rfl ?_
            refine zj_iconst (pc' := 97) dX12_readStreet_96 rfl kiconst_3 ?_
            refine zj_iload_n (pc' := 98) 0 dX12_readStreet_97 rfl rfl rfl ?_
            refine zj_iadd (pc' := 99) dX12_readStreet_98 rfl ?_
            refine zj_dup2 (pc' := 100) dX12_readStreet_99 rfl rfl rfl ?_
            obtain ⟨v14, hv14, hy⟩ := zt_b hy
            refine zj_rdi (pc' := 101) dX12_readStreet_100 rfl sh189 (zr_n rfl (zr_l e_i189)) hv14 ?_
            refine zj_iconst (pc' := 102) dX12_readStreet_101 rfl kiconst_1 ?_
            refine zj_aload_n (pc' := 103) 1 dX12_readStreet_102 rfl rfl rfl ?_
            refine zj_fI (pc' := 106) dX12_readStreet_103 rfl flX12_192 sh186 rfl zr_s rfl ?_
            refine zj_ishl (pc' := 107) dX12_readStreet_106 rfl ?_
            refine zj_ior (pc' := 108) dX12_readStreet_107 rfl ?_
            obtain ⟨r0_7v15, hr0_7v15, hy⟩ := zt_b hy
            refine zj_wri (pc' := 109) (N := (zui (zui (zul M 186 y4.2.2) 186 y7.2) 189 r0_7v15)) dX12_readStreet_108 rfl sh189 (zr_n rfl (zr_l e_i189)) hr0_7v15 rfl ?_
            refine zj_aload_n (pc' := 110) 1 dX12_readStreet_109 rfl rfl rfl ?_
            refine zj_getR (pc' := 113) (j := 189) dX12_readStreet_110 rfl flX12_37 sh186 rfl ?_
            refine zj_iconst (pc' := 114) dX12_readStreet_113 rfl kiconst_3 ?_
            refine zj_aload_n (pc' := 115) 1 dX12_readStreet_114 rfl rfl rfl ?_
            refine zj_fI (pc' := 118) dX12_readStreet_115 rfl flX12_192 sh186 rfl (zr_n rfl zr_s) rfl ?_
            refine zj_iadd (pc' := 119) dX12_readStreet_118 rfl ?_
            refine zj_dup2 (pc' := 120) dX12_readStreet_119 rfl rfl rfl ?_
            obtain ⟨v16, hv16, hy⟩ := zt_b hy
            refine zj_rdi (pc' := 121) dX12_readStreet_120 rfl sh189 zr_s hv16 ?_
            refine zj_iconst (pc' := 122) dX12_readStreet_121 rfl kiconst_1 ?_
            refine zj_iload_n (pc' := 123) 0 dX12_readStreet_122 rfl rfl rfl ?_
            refine zj_ishl (pc' := 124) dX12_readStreet_123 rfl ?_
            refine zj_ior (pc' := 125) dX12_readStreet_124 rfl ?_
            obtain ⟨r0_7v17, hr0_7v17, hy⟩ := zt_b hy
            refine zj_wri (pc' := 126) (N := (zui (zui (zul M 186 y4.2.2) 186 y7.2) 189 r0_7v17)) dX12_readStreet_125 rfl sh189 zr_s hr0_7v17 zm_s ?_
            refine zj_aload_n (pc' := 127) 1 dX12_readStreet_126 rfl rfl rfl ?_
            refine zj_getR (pc' := 130) (j := 189) dX12_readStreet_127 rfl flX12_37 sh186 rfl ?_
            refine zj_iconst (pc' := 131) dX12_readStreet_130 rfl kiconst_1 ?_
            refine zj_dup2 (pc' := 132) dX12_readStreet_131 rfl rfl rfl ?_
            refine zj_rdi (pc' := 133) dX12_readStreet_132 rfl sh189 zr_s (zrdK zi1_89 tn1) ?_
            refine zj_iconst (pc' := 134) dX12_readStreet_133 rfl kiconst_1 ?_
            refine zj_iadd (pc' := 135) dX12_readStreet_134 rfl ?_
            obtain ⟨r0_7v18, er0_7v18⟩ : ∃ z, z = (zup r0_7v17 1 ((r0_7v17 1) + 1)) := ⟨_, rfl⟩
            have hy := zlet_at er0_7v18 hy
            refine zj_wri (pc' := 136) (N := (zui (zui (zul M 186 y4.2.2) 186 y7.2) 189 r0_7v18)) dX12_readStreet_135 rfl sh189 zr_s (zwrK zi1_89 tn1 er0_7v18) zm_s ?_
            refine zj_aload_n (pc' := 137) 1 dX12_readStreet_136 rfl rfl rfl ?_
            obtain ⟨y19, hy19, hy⟩ := zt_b hy
            refine zj_V0 (pc' := 140) (z := YX12_next) (As := []) (N := (zui (zui (zul M 186 y19.2) 186 y19.1) 189 r0_7v18)) dX12_readStreet_137 rfl mlX12_185 lkX12_next sh186 ⟨_, _, rfl⟩ rfl rfl (Nat.le_of_ble_eq_true rfl) (Nat.le_of_ble_eq_true rfl) (LX12_next_186 Γ _ y7.2 y4.2.2 r0_1 (zr_n rfl zr_s) (zq_i (zq_i zq_s)) (zr_n rfl (zr_n rfl (zr_l e_i187))) hy19) ((zch_i (zm_li (zm_li zn_s)) (zm_n rfl zm_s))).symm ?_
            refine zj_iconst (pc' := 141) dX12_readStreet_140 rfl kiconst_1 ?_
            have e9 := Option.some.inj hy
            subst e9
            exact zj_bret (b := true) dX12_readStreet_141 rfl hq
          · have hy := zt_t hy c12
            refine zj_aload_n (pc' := 87) 1 dX12_readStreet_86 rfl rfl rfl ?_
            refine zj_iconst (pc' := 88) dX12_readStreet_87 rfl kiconst_3 ?_
            obtain ⟨y13, hy13, hy⟩ := zt_b hy
            refine zj_V1 (pc' := 91) (z := YX12_bad) (As := [.int 3]) (N := (zui (zul M 186 y4.2.2) 186 y13.2)) dX12_readStreet_88 rfl mlX12_182 lkX12_bad sh186 ⟨_, _, rfl⟩ rfl rfl (Nat.le_of_ble_eq_true rfl) (Nat.le_of_ble_eq_true rfl) (LX12_bad_186 Γ _ y7.2 zr_s 3 hy13) (zm_s).symm ?_
            have e9 := Option.some.inj hy
            subst e9
            refine zj_mem (N := (zui (zui (zul M 186 y4.2.2) 186 y13.2) 189 r0_7)) (zself_i (zr_n rfl (zr_l e_i189)) rfl) ?_
            exact zj_bret (b := y13.1) dX12_readStreet_91 rfl hq
      · have hy := zt_f hy c8
        refine zj_iconst (pc' := 59) dX12_readStreet_58 rfl kiconst_0 ?_
        have e9 := Option.some.inj hy
        subst e9
        refine zj_mem (N := (zui (zui (zul M 186 y4.2.2) 186 y7.2) 189 r0_7)) (zself_i (zr_n rfl (zr_l e_i189)) rfl) ?_
        exact zj_bret (b := false) dX12_readStreet_59 rfl hq
    · have hy := zt_f hy c5
      refine zj_iconst (pc' := 37) dX12_readStreet_36 rfl kiconst_0 ?_
      have e9 := Option.some.inj hy
      subst e9
      refine zj_mem (N := (zui (zui (zul M 186 y4.2.2) 186 y4.2.1) 189 r0_7)) (zself_i (zr_n rfl (zr_l e_i189)) rfl) ?_
      exact zj_bret (b := false) dX12_readStreet_37 rfl hq
  · have hy := zt_t hy c1
    refine zj_aload_n (pc' := 12) 0 dX12_readStreet_11 rfl rfl rfl ?_
    refine zj_iconst (pc' := 13) dX12_readStreet_12 rfl kiconst_4 ?_
    obtain ⟨y2, hy2, hy⟩ := zt_b hy
    refine zj_V1 (pc' := 16) (z := YX12_bad) (As := [.int 4]) (N := (zui M 186 y2.2)) dX12_readStreet_13 rfl mlX12_182 lkX12_bad sh186 ⟨_, _, rfl⟩ rfl rfl (Nat.le_of_ble_eq_true rfl) (Nat.le_of_ble_eq_true rfl) (LX12_bad_186 Γ _ r0 e_i186 4 hy2) (rfl).symm ?_
    have e9 := Option.some.inj hy
    subst e9
    refine zj_mem (N := (zui (zul M 186 w0) 186 y2.2)) (zself_l (zq_i e_l186) (zm_li rfl)) ?_
    refine zj_mem (N := (zui (zui (zul M 186 w0) 186 y2.2) 189 r0_7)) (zself_i (zr_n rfl (zr_l e_i189)) rfl) ?_
    exact zj_bret (b := y2.1) dX12_readStreet_16 rfl hq
set_option maxRecDepth 20000 in
theorem LX12_readStreet_186 (Γ : zG) (M : zM) (r0 : Nat → Int32) (w0 : Nat → Int64) (r0_1 : Nat → Int32) (r0_7 : Nat → Int32) (w0_9 : Nat → Int64) (w0_10 : Nat → Int64) (e_i186 : M.1 186 = r0) (e_l186 : M.2 186 = w0) (e_i187 : M.1 187 = r0_1) (e_i189 : M.1 189 = r0_7) (e_l191 : M.2 191 = w0_9) (e_l192 : M.2 192 = w0_10)  {res : Bool × (Nat → Int32) × (Nat → Int64) × (Nat → Int32)} (hy : (fM_readStreet r0 w0 r0_1 r0_7 w0_9 w0_10) = some res) : zK Γ 4 YX12_readStreet [.ref (zad Γ 186)] M (fun v N => v = some (.int (zb res.1)) ∧ N = (zui (zui (zul M 186 res.2.2.1) 186 res.2.1) 189 res.2.2.2)) :=
  zK_of (by decide) (Nat.le_of_ble_eq_true rfl) (TX12_readStreet_186 Γ M r0 w0 r0_1 r0_7 w0_9 w0_10 e_i186 e_l186 e_i187 e_i189 e_l191 e_l192 hy ⟨rfl, rfl⟩)

noncomputable def fM_isIn (a1 : Int32) (a2 : Int32) (a3 : Int32) : Bool :=
  (if a1 < a2 then false else (if a3 < a1 then false else true))

set_option maxRecDepth 20000 in
theorem TX12_isIn (Γ : zG) {Q : Option Value → zM → Prop} (M : zM)   (a1 : Int32) (a2 : Int32) (a3 : Int32) {res : Bool} (hy : (fM_isIn a1 a2 a3) = res) (hq : Q (some (.int (zb res))) M) : zR Γ 1 YX12_isIn 0 [(0, .int a1), (1, .int a2), (2, .int a3)] [] M Q := by
  unfold fM_isIn at hy
  refine zj_iload_n (pc' := 1) 0 dX12_isIn_0 rfl rfl rfl ?_
  refine zj_iload_n (pc' := 2) 1 dX12_isIn_1 rfl rfl rfl ?_
  have HJ1 : zR Γ 1 YX12_isIn 15 [(0, .int a1), (1, .int a2), (2, .int a3)] [.int (zb (if a1 < a2 then false else (if a3 < a1 then false else true)))] M Q := by
    subst hy
    exact zj_bret (b := (if a1 < a2 then false else (if a3 < a1 then false else true))) dX12_isIn_15 rfl hq
  refine zj_icmp_lt (tgt := 14) (pc' := 5) dX12_isIn_2 rfl (by decide) (fun c2 => ?_) (fun c2 => ?_)
  · refine zj_iconst (pc' := 15) dX12_isIn_14 rfl kiconst_0 ?_
    exact zj_eqb (b := false) (if_pos c2) HJ1
  · refine zj_iload_n (pc' := 6) 0 dX12_isIn_5 rfl rfl rfl ?_
    refine zj_iload_n (pc' := 7) 2 dX12_isIn_6 rfl rfl rfl ?_
    refine zj_icmp_gt (tgt := 14) (pc' := 10) dX12_isIn_7 rfl (by decide) (fun c3 => ?_) (fun c3 => ?_)
    · refine zj_iconst (pc' := 15) dX12_isIn_14 rfl kiconst_0 ?_
      exact zj_eqb (b := false) ((if_neg c2).trans (if_pos c3)) HJ1
    · refine zj_iconst (pc' := 11) dX12_isIn_10 rfl kiconst_1 ?_
      refine zj_goto (tgt := 15) dX12_isIn_11 (by decide) ?_
      exact zj_eqb (b := true) ((if_neg c2).trans (if_neg c3)) HJ1
set_option maxRecDepth 20000 in
theorem LX12_isIn (Γ : zG) (M : zM)   (a1 : Int32) (a2 : Int32) (a3 : Int32) {res : Bool} (hy : (fM_isIn a1 a2 a3) = res) : zK Γ 1 YX12_isIn [.int a1, .int a2, .int a3] M (fun v N => v = some (.int (zb res)) ∧ N = M) :=
  zK_of (by decide) (Nat.le_of_ble_eq_true rfl) (TX12_isIn Γ M a1 a2 a3 hy ⟨rfl, rfl⟩)

noncomputable def fM_takes (r0 : Nat → Int32) (w0 : Nat → Int64) (r0_1 : Nat → Int32) (a1 : Int32) (a2 : Int32) : Option (Bool × (Nat → Int32) × (Nat → Int64)) :=
  (if (r0 11) = 2 then
  (if (fM_isIn (r0 14) a1 a2) = true then
  zlet (zup r0 18 (r0 14)) (fun (r0v3 : Nat → Int32) =>
  (fM_next r0v3 w0 r0_1).bind (fun (y4 : (Nat → Int32) × (Nat → Int64)) =>
  some (true, y4.1, y4.2)))
  else
  (fM_bad r0 2).bind (fun (y5 : Bool × (Nat → Int32)) =>
  some (y5.1, y5.2, w0)))
  else
  (fM_bad r0 1).bind (fun (y6 : Bool × (Nat → Int32)) =>
  some (y6.1, y6.2, w0)))

set_option maxRecDepth 20000 in
theorem TX12_takes_186 (Γ : zG) {Q : Option Value → zM → Prop} (M : zM) (r0 : Nat → Int32) (w0 : Nat → Int64) (r0_1 : Nat → Int32) (e_i186 : M.1 186 = r0) (e_l186 : M.2 186 = w0) (e_i187 : M.1 187 = r0_1) (a1 : Int32) (a2 : Int32) {res : Bool × (Nat → Int32) × (Nat → Int64)} (hy : (fM_takes r0 w0 r0_1 a1 a2) = some res) (hq : Q (some (.int (zb res.1))) (zui (zul M 186 res.2.2) 186 res.2.1)) : zR Γ 3 YX12_takes 0 [(0, .ref (zad Γ 186)), (1, .int a1), (2, .int a2)] [] M Q := by
  unfold fM_takes at hy
  refine zj_aload_n (pc' := 1) 0 dX12_takes_0 rfl rfl rfl ?_
  refine zj_fI (pc' := 4) dX12_takes_1 rfl flX12_156 sh186 rfl e_i186 rfl ?_
  refine zj_iconst (pc' := 5) dX12_takes_4 rfl kiconst_2 ?_
  refine zj_icmp_eq (tgt := 14) (pc' := 8) dX12_takes_5 rfl (by decide) (fun c1 => ?_) (fun c1 => ?_)
  · have hy := zt_t hy c1
    refine zj_aload_n (pc' := 15) 0 dX12_takes_14 rfl rfl rfl ?_
    refine zj_fI (pc' := 18) dX12_takes_15 rfl flX12_166 sh186 rfl e_i186 rfl ?_
    refine zj_iload_n (pc' := 19) 1 dX12_takes_18 rfl rfl rfl ?_
    refine zj_iload_n (pc' := 20) 2 dX12_takes_19 rfl rfl rfl ?_
    refine zj_S1 (pc' := 23) (z := YX12_isIn) (As := [.int (r0 14), .int a1, .int a2]) (N := M) dX12_takes_20 rfl mlX12_188 lkX12_isIn rfl rfl (Nat.le_of_ble_eq_true rfl) (Nat.le_of_ble_eq_true rfl) (LX12_isIn Γ _ (r0 14) a1 a2 rfl) rfl ?_
    refine zj_bif_ne (tgt := 32) (pc' := 26) dX12_takes_23 rfl (by decide) (fun c2 => ?_) (fun c2 => ?_)
    · have hy := zt_t hy c2
      refine zj_aload_n (pc' := 33) 0 dX12_takes_32 rfl rfl rfl ?_
      refine zj_aload_n (pc' := 34) 0 dX12_takes_33 rfl rfl rfl ?_
      refine zj_fI (pc' := 37) dX12_takes_34 rfl flX12_166 sh186 rfl e_i186 rfl ?_
      obtain ⟨r0v3, er0v3⟩ : ∃ z, z = (zup r0 18 (r0 14)) := ⟨_, rfl⟩
      have hy := zlet_at er0v3 hy
      refine zj_pI (pc' := 40) (N := (zui M 186 r0v3)) dX12_takes_37 rfl fpX12_192 sh186 rfl e_i186 er0v3 rfl ?_
      refine zj_aload_n (pc' := 41) 0 dX12_takes_40 rfl rfl rfl ?_
      obtain ⟨y4, hy4, hy⟩ := zt_b hy
      refine zj_V0 (pc' := 44) (z := YX12_next) (As := []) (N := (zui (zul M 186 y4.2) 186 y4.1)) dX12_takes_41 rfl mlX12_185 lkX12_next sh186 ⟨_, _, rfl⟩ rfl rfl (Nat.le_of_ble_eq_true rfl) (Nat.le_of_ble_eq_true rfl) (LX12_next_186 Γ _ r0v3 w0 r0_1 zr_s (zq_i e_l186) (zr_n rfl e_i187) hy4) ((zch_i (zm_li rfl) zm_s)).symm ?_
      refine zj_iconst (pc' := 45) dX12_takes_44 rfl kiconst_1 ?_
      have e9 := Option.some.inj hy
      subst e9
      exact zj_bret (b := true) dX12_takes_45 rfl hq
    · have hy := zt_f hy c2
      refine zj_aload_n (pc' := 27) 0 dX12_takes_26 rfl rfl rfl ?_
      refine zj_iconst (pc' := 28) dX12_takes_27 rfl kiconst_2 ?_
      obtain ⟨y5, hy5, hy⟩ := zt_b hy
      refine zj_V1 (pc' := 31) (z := YX12_bad) (As := [.int 2]) (N := (zui M 186 y5.2)) dX12_takes_28 rfl mlX12_182 lkX12_bad sh186 ⟨_, _, rfl⟩ rfl rfl (Nat.le_of_ble_eq_true rfl) (Nat.le_of_ble_eq_true rfl) (LX12_bad_186 Γ _ r0 e_i186 2 hy5) (rfl).symm ?_
      have e9 := Option.some.inj hy
      subst e9
      refine zj_mem (N := (zui (zul M 186 w0) 186 y5.2)) (zself_l (zq_i e_l186) (zm_li rfl)) ?_
      exact zj_bret (b := y5.1) dX12_takes_31 rfl hq
  · have hy := zt_f hy c1
    refine zj_aload_n (pc' := 9) 0 dX12_takes_8 rfl rfl rfl ?_
    refine zj_iconst (pc' := 10) dX12_takes_9 rfl kiconst_1 ?_
    obtain ⟨y6, hy6, hy⟩ := zt_b hy
    refine zj_V1 (pc' := 13) (z := YX12_bad) (As := [.int 1]) (N := (zui M 186 y6.2)) dX12_takes_10 rfl mlX12_182 lkX12_bad sh186 ⟨_, _, rfl⟩ rfl rfl (Nat.le_of_ble_eq_true rfl) (Nat.le_of_ble_eq_true rfl) (LX12_bad_186 Γ _ r0 e_i186 1 hy6) (rfl).symm ?_
    have e9 := Option.some.inj hy
    subst e9
    refine zj_mem (N := (zui (zul M 186 w0) 186 y6.2)) (zself_l (zq_i e_l186) (zm_li rfl)) ?_
    exact zj_bret (b := y6.1) dX12_takes_13 rfl hq
set_option maxRecDepth 20000 in
theorem LX12_takes_186 (Γ : zG) (M : zM) (r0 : Nat → Int32) (w0 : Nat → Int64) (r0_1 : Nat → Int32) (e_i186 : M.1 186 = r0) (e_l186 : M.2 186 = w0) (e_i187 : M.1 187 = r0_1) (a1 : Int32) (a2 : Int32) {res : Bool × (Nat → Int32) × (Nat → Int64)} (hy : (fM_takes r0 w0 r0_1 a1 a2) = some res) : zK Γ 3 YX12_takes [.ref (zad Γ 186), .int a1, .int a2] M (fun v N => v = some (.int (zb res.1)) ∧ N = (zui (zul M 186 res.2.2) 186 res.2.1)) :=
  zK_of (by decide) (Nat.le_of_ble_eq_true rfl) (TX12_takes_186 Γ M r0 w0 r0_1 e_i186 e_l186 e_i187 a1 a2 hy ⟨rfl, rfl⟩)

noncomputable def fM_puts (r0 : Nat → Int32) (w0 : Nat → Int64) (r0_1 : Nat → Int32) (r0_7 : Nat → Int32) (a1 : Int32) (a2 : Int32) (a3 : Int32) : Option (Bool × (Nat → Int32) × (Nat → Int64) × (Nat → Int32)) :=
  (fM_takes r0 w0 r0_1 a2 a3).bind (fun (y1 : Bool × (Nat → Int32) × (Nat → Int64)) =>
  (if y1.1 = true then
  (zwr r0_7 89 a1 (y1.2.1 18)).bind (fun (r0_7v3 : Nat → Int32) =>
  some (true, y1.2.1, y1.2.2, r0_7v3))
  else
  some (false, y1.2.1, y1.2.2, r0_7)))

set_option maxRecDepth 20000 in
theorem TX12_puts_186 (Γ : zG) {Q : Option Value → zM → Prop} (M : zM) (r0 : Nat → Int32) (w0 : Nat → Int64) (r0_1 : Nat → Int32) (r0_7 : Nat → Int32) (e_i186 : M.1 186 = r0) (e_l186 : M.2 186 = w0) (e_i187 : M.1 187 = r0_1) (e_i189 : M.1 189 = r0_7) (a1 : Int32) (a2 : Int32) (a3 : Int32) {res : Bool × (Nat → Int32) × (Nat → Int64) × (Nat → Int32)} (hy : (fM_puts r0 w0 r0_1 r0_7 a1 a2 a3) = some res) (hq : Q (some (.int (zb res.1))) (zui (zui (zul M 186 res.2.2.1) 186 res.2.1) 189 res.2.2.2)) : zR Γ 4 YX12_puts 0 [(0, .ref (zad Γ 186)), (1, .int a1), (2, .int a2), (3, .int a3)] [] M Q := by
  unfold fM_puts at hy
  refine zj_aload_n (pc' := 1) 0 dX12_puts_0 rfl rfl rfl ?_
  refine zj_iload_n (pc' := 2) 2 dX12_puts_1 rfl rfl rfl ?_
  refine zj_iload_n (pc' := 3) 3 dX12_puts_2 rfl rfl rfl ?_
  obtain ⟨y1, hy1, hy⟩ := zt_b hy
  refine zj_V1 (pc' := 6) (z := YX12_takes) (As := [.int a2, .int a3]) (N := (zui (zul M 186 y1.2.2) 186 y1.2.1)) dX12_puts_3 rfl mlX12_195 lkX12_takes sh186 ⟨_, _, rfl⟩ rfl rfl (Nat.le_of_ble_eq_true rfl) (Nat.le_of_ble_eq_true rfl) (LX12_takes_186 Γ _ r0 w0 r0_1 e_i186 e_l186 e_i187 a2 a3 hy1) ((zch_i rfl rfl)).symm ?_
  refine zj_bif_ne (tgt := 11) (pc' := 9) dX12_puts_6 rfl (by decide) (fun c2 => ?_) (fun c2 => ?_)
  · have hy := zt_t hy c2
    refine zj_aload_n (pc' := 12) 0 dX12_puts_11 rfl rfl rfl ?_
    refine zj_getR (pc' := 15) (j := 189) dX12_puts_12 rfl flX12_37 sh186 rfl ?_
    refine zj_iload_n (pc' := 16) 1 dX12_puts_15 rfl rfl rfl ?_
    refine zj_aload_n (pc' := 17) 0 dX12_puts_16 rfl rfl rfl ?_
    refine zj_fI (pc' := 20) dX12_puts_17 rfl flX12_192 sh186 rfl zr_s rfl ?_
    obtain ⟨r0_7v3, hr0_7v3, hy⟩ := zt_b hy
    refine zj_wri (pc' := 21) (N := (zui (zui (zul M 186 y1.2.2) 186 y1.2.1) 189 r0_7v3)) dX12_puts_20 rfl sh189 (zr_n rfl (zr_l e_i189)) hr0_7v3 rfl ?_
    refine zj_iconst (pc' := 22) dX12_puts_21 rfl kiconst_1 ?_
    have e9 := Option.some.inj hy
    subst e9
    exact zj_bret (b := true) dX12_puts_22 rfl hq
  · have hy := zt_f hy c2
    refine zj_iconst (pc' := 10) dX12_puts_9 rfl kiconst_0 ?_
    have e9 := Option.some.inj hy
    subst e9
    refine zj_mem (N := (zui (zui (zul M 186 y1.2.2) 186 y1.2.1) 189 r0_7)) (zself_i (zr_n rfl (zr_l e_i189)) rfl) ?_
    exact zj_bret (b := false) dX12_puts_10 rfl hq
set_option maxRecDepth 20000 in
theorem LX12_puts_186 (Γ : zG) (M : zM) (r0 : Nat → Int32) (w0 : Nat → Int64) (r0_1 : Nat → Int32) (r0_7 : Nat → Int32) (e_i186 : M.1 186 = r0) (e_l186 : M.2 186 = w0) (e_i187 : M.1 187 = r0_1) (e_i189 : M.1 189 = r0_7) (a1 : Int32) (a2 : Int32) (a3 : Int32) {res : Bool × (Nat → Int32) × (Nat → Int64) × (Nat → Int32)} (hy : (fM_puts r0 w0 r0_1 r0_7 a1 a2 a3) = some res) : zK Γ 4 YX12_puts [.ref (zad Γ 186), .int a1, .int a2, .int a3] M (fun v N => v = some (.int (zb res.1)) ∧ N = (zui (zui (zul M 186 res.2.2.1) 186 res.2.1) 189 res.2.2.2)) :=
  zK_of (by decide) (Nat.le_of_ble_eq_true rfl) (TX12_puts_186 Γ M r0 w0 r0_1 r0_7 e_i186 e_l186 e_i187 e_i189 a1 a2 a3 hy ⟨rfl, rfl⟩)

noncomputable def fM_readPerson (r0 : Nat → Int32) (w0 : Nat → Int64) (r0_1 : Nat → Int32) (r0_7 : Nat → Int32) (w0_9 : Nat → Int64) (w0_10 : Nat → Int64) : Option (Bool × (Nat → Int32) × (Nat → Int64) × (Nat → Int32) × (Nat → Int64)) :=
  zlet (r0_7 2) (fun (x1 : Int32) =>
  (if x1 = 6 then
  (fM_bad r0 4).bind (fun (y3 : Bool × (Nat → Int32)) =>
  some (y3.1, y3.2, w0, r0_7, w0_9))
  else
  (fM_next r0 w0 r0_1).bind (fun (y4 : (Nat → Int32) × (Nat → Int64)) =>
  (fM_fresh y4.1 y4.2 r0_1 r0_7 w0_9 w0_10 (22 + x1)).bind (fun (y5 : Bool × (Nat → Int32) × (Nat → Int64) × (Nat → Int64)) =>
  (if y5.1 = true then
  (fM_takesName y5.2.1 y5.2.2.1 r0_1 y5.2.2.2 w0_10 14 (r0_7 0)).bind (fun (y7 : Bool × (Nat → Int32) × (Nat → Int64)) =>
  (if y7.1 = true then
  (zwr r0_7 89 (11 + x1) (y7.2.1 18)).bind (fun (r0_7v9 : Nat → Int32) =>
  (fM_puts y7.2.1 y7.2.2 r0_1 r0_7v9 (17 + x1) 0 9).bind (fun (y10 : Bool × (Nat → Int32) × (Nat → Int64) × (Nat → Int32)) =>
  (if y10.1 = true then
  zlet (zup y10.2.2.2 2 ((y10.2.2.2 2) + 1)) (fun (r0_7v12 : Nat → Int32) =>
  some (true, y10.2.1, y10.2.2.1, r0_7v12, y5.2.2.2))
  else
  some (false, y10.2.1, y10.2.2.1, y10.2.2.2, y5.2.2.2))))
  else
  some (false, y7.2.1, y7.2.2, r0_7, y5.2.2.2)))
  else
  some (false, y5.2.1, y5.2.2.1, r0_7, y5.2.2.2))))))

set_option maxRecDepth 20000 in
theorem TX12_readPerson_186 (Γ : zG) {Q : Option Value → zM → Prop} (M : zM) (r0 : Nat → Int32) (w0 : Nat → Int64) (r0_1 : Nat → Int32) (r0_7 : Nat → Int32) (w0_9 : Nat → Int64) (w0_10 : Nat → Int64) (e_i186 : M.1 186 = r0) (e_l186 : M.2 186 = w0) (e_i187 : M.1 187 = r0_1) (e_i189 : M.1 189 = r0_7) (e_l191 : M.2 191 = w0_9) (e_l192 : M.2 192 = w0_10)  {res : Bool × (Nat → Int32) × (Nat → Int64) × (Nat → Int32) × (Nat → Int64)} (hy : (fM_readPerson r0 w0 r0_1 r0_7 w0_9 w0_10) = some res) (hq : Q (some (.int (zb res.1))) (zui (zui (zul (zul M 186 res.2.2.1) 191 res.2.2.2.2) 186 res.2.1) 189 res.2.2.2.1)) : zR Γ 5 YX12_readPerson 0 [(0, .ref (zad Γ 186))] [] M Q := by
  unfold fM_readPerson at hy
  refine zj_aload_n (pc' := 1) 0 dX12_readPerson_0 rfl rfl rfl ?_
  refine zj_getR (pc' := 4) (j := 189) dX12_readPerson_1 rfl flX12_37 sh186 rfl ?_
  refine zj_iconst (pc' := 5) dX12_readPerson_4 rfl kiconst_2 ?_
  refine zj_rdi (pc' := 6) dX12_readPerson_5 rfl sh189 e_i189 (zrdK zi2_89 tn2) ?_
  refine zj_topi (fun x1 ex1 => ?_)
  have hy := zlet_at ex1 hy
  refine zj_istore_n (pc' := 7) (L' := [(1, .int x1), (0, .ref (zad Γ 186))]) dX12_readPerson_6 rfl rfl (by decide) rfl ?_
  refine zj_iload_n (pc' := 8) 0 dX12_readPerson_7 rfl rfl rfl ?_
  refine zj_bipush (pc' := 10) dX12_readPerson_8 rfl kbipush_6 ?_
  refine zj_icmp_ne (tgt := 19) (pc' := 13) dX12_readPerson_10 rfl (by decide) (fun c2 => ?_) (fun c2 => ?_)
  · have hy := zt_f hy c2
    refine zj_aload_n (pc' := 20) 1 dX12_readPerson_19 rfl rfl rfl ?_
    obtain ⟨y4, hy4, hy⟩ := zt_b hy
    refine zj_V0 (pc' := 23) (z := YX12_next) (As := []) (N := (zui (zul M 186 y4.2) 186 y4.1)) dX12_readPerson_20 rfl mlX12_185 lkX12_next sh186 ⟨_, _, rfl⟩ rfl rfl (Nat.le_of_ble_eq_true rfl) (Nat.le_of_ble_eq_true rfl) (LX12_next_186 Γ _ r0 w0 r0_1 e_i186 e_l186 e_i187 hy4) ((zch_i rfl rfl)).symm ?_
    refine zj_aload_n (pc' := 24) 1 dX12_readPerson_23 rfl rfl rfl ?_
    refine zj_bipush (pc' := 26) dX12_readPerson_24 rfl kbipush_22 ?_
    refine zj_iload_n (pc' := 27) 0 dX12_readPerson_26 rfl rfl rfl ?_
    refine zj_iadd (pc' := 28) dX12_readPerson_27 rfl ?_
    obtain ⟨y5, hy5, hy⟩ := zt_b hy
    refine zj_V1 (pc' := 31) (z := YX12_fresh) (As := [.int (22 + x1)]) (N := (zui (zul (zul M 186 y5.2.2.1) 191 y5.2.2.2) 186 y5.2.1)) dX12_readPerson_28 rfl mlX12_229 lkX12_fresh sh186 ⟨_, _, rfl⟩ rfl rfl (Nat.le_of_ble_eq_true rfl) (Nat.le_of_ble_eq_true rfl) (LX12_fresh_186 Γ _ y4.1 y4.2 r0_1 r0_7 w0_9 w0_10 zr_s (zq_i zq_s) (zr_n rfl (zr_l e_i187)) (zr_n rfl (zr_l e_i189)) (zq_i (zq_n rfl e_l191)) (zq_i (zq_n rfl e_l192)) (22 + x1) hy5) ((zch_i (zch_l (zm_li zn_s) (zm_li rfl)) zm_s)).symm ?_
    refine zj_bif_eq (tgt := 49) (pc' := 34) dX12_readPerson_31 rfl (by decide) (fun c6 => ?_) (fun c6 => ?_)
    · have hy := zt_f hy c6
      refine zj_iconst (pc' := 50) dX12_readPerson_49 rfl kiconst_0 ?_
      have e9 := Option.some.inj hy
      subst e9
      refine zj_mem (N := (zui (zui (zul (zul M 186 y5.2.2.1) 191 y5.2.2.2) 186 y5.2.1) 189 r0_7)) (zself_i (zr_n rfl (zr_l (zr_l e_i189))) rfl) ?_
      exact zj_bret (b := false) dX12_readPerson_50 rfl hq
    · have hy := zt_t hy c6
      refine zj_aload_n (pc' := 35) 1 dX12_readPerson_34 rfl rfl rfl ?_
      refine zj_bipush (pc' := 37) dX12_readPerson_35 rfl kbipush_14 ?_
      refine zj_aload_n (pc' := 38) 1 dX12_readPerson_37 rfl rfl rfl ?_
      refine zj_getR (pc' := 41) (j := 189) dX12_readPerson_38 rfl flX12_37 sh186 rfl ?_
      refine zj_iconst (pc' := 42) dX12_readPerson_41 rfl kiconst_0 ?_
      refine zj_rdi (pc' := 43) dX12_readPerson_42 rfl sh189 (zr_n rfl (zr_l (zr_l e_i189))) (zrdK zi0_89 tn0) ?_
      obtain ⟨y7, hy7, hy⟩ := zt_b hy
      refine zj_V1 (pc' := 46) (z := YX12_takesName) (As := [.int 14, .int (r0_7 0)]) (N := (zui (zul (zul M 186 y7.2.2) 191 y5.2.2.2) 186 y7.2.1)) dX12_readPerson_43 rfl mlX12_232 lkX12_takesName sh186 ⟨_, _, rfl⟩ rfl rfl (Nat.le_of_ble_eq_true rfl) (Nat.le_of_ble_eq_true rfl) (LX12_takesName_186 Γ _ y5.2.1 y5.2.2.1 r0_1 y5.2.2.2 w0_10 zr_s (zq_i (zq_n rfl zq_s)) (zr_n rfl (zr_l (zr_l e_i187))) (zq_i zq_s) (zq_i (zq_n rfl (zq_n rfl e_l192))) 14 (r0_7 0) hy7) ((zch_i (zm_li (zn_n rfl zn_s)) zm_s)).symm ?_
      refine zj_bif_ne (tgt := 51) (pc' := 49) dX12_readPerson_46 rfl (by decide) (fun c8 => ?_) (fun c8 => ?_)
      · have hy := zt_t hy c8
        refine zj_aload_n (pc' := 52) 1 dX12_readPerson_51 rfl rfl rfl ?_
        refine zj_getR (pc' := 55) (j := 189) dX12_readPerson_52 rfl flX12_37 sh186 rfl ?_
        refine zj_bipush (pc' := 57) dX12_readPerson_55 rfl kbipush_11 ?_
        refine zj_iload_n (pc' := 58) 0 dX12_readPerson_57 rfl rfl rfl ?_
        refine zj_iadd (pc' := 59) dX12_readPerson_58 rfl ?_
        refine zj_aload_n (pc' := 60) 1 dX12_readPerson_59 rfl rfl rfl ?_
        refine zj_fI (pc' := 63) dX12_readPerson_60 rfl flX12_192 sh186 rfl zr_s rfl ?_
        obtain ⟨r0_7v9, hr0_7v9, hy⟩ := zt_b hy
        refine zj_wri (pc' := 64) (N := (zui (zui (zul (zul M 186 y7.2.2) 191 y5.2.2.2) 186 y7.2.1) 189 r0_7v9)) dX12_readPerson_63 rfl sh189 (zr_n rfl (zr_l (zr_l e_i189))) hr0_7v9 rfl ?_
        refine zj_aload_n (pc' := 65) 1 dX12_readPerson_64 rfl rfl rfl ?_
        refine zj_bipush (pc' := 67) dX12_readPerson_65 rfl kbipush_17 ?_
        refine zj_iload_n (pc' := 68) 0 dX12_readPerson_67 rfl rfl rfl ?_
        refine zj_iadd (pc' := 69) dX12_readPerson_68 rfl ?_
        refine zj_iconst (pc' := 70) dX12_readPerson_69 rfl kiconst_0 ?_
        refine zj_bipush (pc' := 72) dX12_readPerson_70 rfl kbipush_9 ?_
        obtain ⟨y10, hy10, hy⟩ := zt_b hy
        refine zj_V1 (pc' := 75) (z := YX12_puts) (As := [.int (17 + x1), .int 0, .int 9]) (N := (zui (zui (zul (zul M 186 y10.2.2.1) 191 y5.2.2.2) 186 y10.2.1) 189 y10.2.2.2)) dX12_readPerson_72 rfl mlX12_238 lkX12_puts sh186 ⟨_, _, rfl⟩ rfl rfl (Nat.le_of_ble_eq_true rfl) (Nat.le_of_ble_eq_true rfl) (LX12_puts_186 Γ _ y7.2.1 y7.2.2 r0_1 r0_7v9 (zr_n rfl zr_s) (zq_i (zq_i (zq_n rfl zq_s))) (zr_n rfl (zr_n rfl (zr_l (zr_l e_i187)))) zr_s (17 + x1) 0 9 hy10) ((zch_i (zch_i (zm_li (zm_li (zn_n rfl zn_s))) (zm_n rfl zm_s)) zm_s)).symm ?_
        refine zj_bif_ne (tgt := 80) (pc' := 78) dX12_readPerson_75 rfl (by decide) (fun c11 => ?_) (fun c11 => ?_)
        · have hy := zt_t hy c11
          refine zj_aload_n (pc' := 81) 1 dX12_readPerson_80 rfl rfl rfl ?_
          refine zj_getR (pc' := 84) (j := 189) dX12_readPerson_81 rfl flX12_37 sh186 rfl ?_
          refine zj_iconst (pc' := 85) dX12_readPerson_84 rfl kiconst_2 ?_
          refine zj_dup2 (pc' := 86) dX12_readPerson_85 rfl rfl rfl ?_
          refine zj_rdi (pc' := 87) dX12_readPerson_86 rfl sh189 zr_s (zrdK zi2_89 tn2) ?_
          refine zj_iconst (pc' := 88) dX12_readPerson_87 rfl kiconst_1 ?_
          refine zj_iadd (pc' := 89) dX12_readPerson_88 rfl ?_
          obtain ⟨r0_7v12, er0_7v12⟩ : ∃ z, z = (zup y10.2.2.2 2 ((y10.2.2.2 2) + 1)) := ⟨_, rfl⟩
          have hy := zlet_at er0_7v12 hy
          refine zj_wri (pc' := 90) (N := (zui (zui (zul (zul M 186 y10.2.2.1) 191 y5.2.2.2) 186 y10.2.1) 189 r0_7v12)) dX12_readPerson_89 rfl sh189 zr_s (zwrK zi2_89 tn2 er0_7v12) zm_s ?_
          refine zj_iconst (pc' := 91) dX12_readPerson_90 rfl kiconst_1 ?_
          have e9 := Option.some.inj hy
          subst e9
          exact zj_bret (b := true) dX12_readPerson_91 rfl hq
        · have hy := zt_f hy c11
          refine zj_iconst (pc' := 79) dX12_readPerson_78 rfl kiconst_0 ?_
          have e9 := Option.some.inj hy
          subst e9
          exact zj_bret (b := false) dX12_readPerson_79 rfl hq
      · have hy := zt_f hy c8
        refine zj_iconst (pc' := 50) dX12_readPerson_49 rfl kiconst_0 ?_
        have e9 := Option.some.inj hy
        subst e9
        refine zj_mem (N := (zui (zui (zul (zul M 186 y7.2.2) 191 y5.2.2.2) 186 y7.2.1) 189 r0_7)) (zself_i (zr_n rfl (zr_l (zr_l e_i189))) rfl) ?_
        exact zj_bret (b := false) dX12_readPerson_50 rfl hq
  · have hy := zt_t hy c2
    refine zj_aload_n (pc' := 14) 1 dX12_readPerson_13 rfl rfl rfl ?_
    refine zj_iconst (pc' := 15) dX12_readPerson_14 rfl kiconst_4 ?_
    obtain ⟨y3, hy3, hy⟩ := zt_b hy
    refine zj_V1 (pc' := 18) (z := YX12_bad) (As := [.int 4]) (N := (zui M 186 y3.2)) dX12_readPerson_15 rfl mlX12_182 lkX12_bad sh186 ⟨_, _, rfl⟩ rfl rfl (Nat.le_of_ble_eq_true rfl) (Nat.le_of_ble_eq_true rfl) (LX12_bad_186 Γ _ r0 e_i186 4 hy3) (rfl).symm ?_
    have e9 := Option.some.inj hy
    subst e9
    refine zj_mem (N := (zui (zul M 186 w0) 186 y3.2)) (zself_l (zq_i e_l186) (zm_li rfl)) ?_
    refine zj_mem (N := (zui (zul (zul M 186 w0) 191 w0_9) 186 y3.2)) (zself_l (zq_i (zq_n rfl e_l191)) (zm_li rfl)) ?_
    refine zj_mem (N := (zui (zui (zul (zul M 186 w0) 191 w0_9) 186 y3.2) 189 r0_7)) (zself_i (zr_n rfl (zr_l (zr_l e_i189))) rfl) ?_
    exact zj_bret (b := y3.1) dX12_readPerson_18 rfl hq
set_option maxRecDepth 20000 in
theorem LX12_readPerson_186 (Γ : zG) (M : zM) (r0 : Nat → Int32) (w0 : Nat → Int64) (r0_1 : Nat → Int32) (r0_7 : Nat → Int32) (w0_9 : Nat → Int64) (w0_10 : Nat → Int64) (e_i186 : M.1 186 = r0) (e_l186 : M.2 186 = w0) (e_i187 : M.1 187 = r0_1) (e_i189 : M.1 189 = r0_7) (e_l191 : M.2 191 = w0_9) (e_l192 : M.2 192 = w0_10)  {res : Bool × (Nat → Int32) × (Nat → Int64) × (Nat → Int32) × (Nat → Int64)} (hy : (fM_readPerson r0 w0 r0_1 r0_7 w0_9 w0_10) = some res) : zK Γ 5 YX12_readPerson [.ref (zad Γ 186)] M (fun v N => v = some (.int (zb res.1)) ∧ N = (zui (zui (zul (zul M 186 res.2.2.1) 191 res.2.2.2.2) 186 res.2.1) 189 res.2.2.2.1)) :=
  zK_of (by decide) (Nat.le_of_ble_eq_true rfl) (TX12_readPerson_186 Γ M r0 w0 r0_1 r0_7 w0_9 w0_10 e_i186 e_l186 e_i187 e_i189 e_l191 e_l192 hy ⟨rfl, rfl⟩)

noncomputable def fM_readNext (r0 : Nat → Int32) (w0 : Nat → Int64) (r0_1 : Nat → Int32) (r0_7 : Nat → Int32) (w0_9 : Nat → Int64) (w0_10 : Nat → Int64) : Option (Bool × (Nat → Int32) × (Nat → Int64) × (Nat → Int32)) :=
  (fM_next r0 w0 r0_1).bind (fun (y1 : (Nat → Int32) × (Nat → Int64)) =>
  (fM_looksAt y1.1 y1.2 w0_9 w0_10 22 (r0_7 2)).bind (fun (y2 : Bool × (Nat → Int32)) =>
  (if y2.1 = true then
  zlet (y2.2 18) (fun (x4 : Int32) =>
  (zrd r0_7 89 (23 + x4)).bind (fun (v5 : Int32) =>
  (if v5 ≤ 0 then
  (zrd r0_7 89 (35 + x4)).bind (fun (v7 : Int32) =>
  (if v7 = 8 then
  (fM_bad y2.2 4).bind (fun (y9 : Bool × (Nat → Int32)) =>
  some (y9.1, y9.2, y1.2, r0_7))
  else
  (fM_next y2.2 y1.2 r0_1).bind (fun (y10 : (Nat → Int32) × (Nat → Int64)) =>
  (fM_looksAt y10.1 y10.2 w0_9 w0_10 14 (r0_7 0)).bind (fun (y11 : Bool × (Nat → Int32)) =>
  (if y11.1 = true then
  zlet (fun (x13 : Int32) =>
  (zrd r0_7 89 (3 + x13)).bind (fun (v14 : Int32) =>
  (if (fM_bitOf v14 (y11.2 18)) = true then
  (zwr r0_7 89 ((41 + (8 * x4)) + v7) (y11.2 18)).bind (fun (r0_7v16 : Nat → Int32) =>
  (zrd r0_7v16 89 (35 + x4)).bind (fun (v17 : Int32) =>
  (zwr r0_7v16 89 (35 + x4) (v17 + 1)).bind (fun (r0_7v18 : Nat → Int32) =>
  (fM_next y11.2 y10.2 r0_1).bind (fun (y19 : (Nat → Int32) × (Nat → Int64)) =>
  some (true, y19.1, y19.2, r0_7v18)))))
  else
  (fM_bad y11.2 3).bind (fun (y20 : Bool × (Nat → Int32)) =>
  some (y20.1, y20.2, y10.2, r0_7))))) (fun J21 =>
  (if v7 = 0 then
  (zrd r0_7 89 (11 + x4)).bind (fun (v23 : Int32) =>
  J21 v23)
  else
  (zrd r0_7 89 (((41 + (8 * x4)) + v7) - 1)).bind (fun (v24 : Int32) =>
  J21 v24)))
  else
  some (false, y11.2, y10.2, r0_7))))))
  else
  (fM_bad y2.2 3).bind (fun (y25 : Bool × (Nat → Int32)) =>
  some (y25.1, y25.2, y1.2, r0_7)))))
  else
  some (false, y2.2, y1.2, r0_7))))

set_option maxRecDepth 20000 in
theorem TX12_readNext_186 (Γ : zG) {Q : Option Value → zM → Prop} (M : zM) (r0 : Nat → Int32) (w0 : Nat → Int64) (r0_1 : Nat → Int32) (r0_7 : Nat → Int32) (w0_9 : Nat → Int64) (w0_10 : Nat → Int64) (e_i186 : M.1 186 = r0) (e_l186 : M.2 186 = w0) (e_i187 : M.1 187 = r0_1) (e_i189 : M.1 189 = r0_7) (e_l191 : M.2 191 = w0_9) (e_l192 : M.2 192 = w0_10)  {res : Bool × (Nat → Int32) × (Nat → Int64) × (Nat → Int32)} (hy : (fM_readNext r0 w0 r0_1 r0_7 w0_9 w0_10) = some res) (hq : Q (some (.int (zb res.1))) (zui (zui (zul M 186 res.2.2.1) 186 res.2.1) 189 res.2.2.2)) : zR Γ 3 YX12_readNext 0 [(0, .ref (zad Γ 186))] [] M Q := by
  unfold fM_readNext at hy
  refine zj_aload_n (pc' := 1) 0 dX12_readNext_0 rfl rfl rfl ?_
  obtain ⟨y1, hy1, hy⟩ := zt_b hy
  refine zj_V0 (pc' := 4) (z := YX12_next) (As := []) (N := (zui (zul M 186 y1.2) 186 y1.1)) dX12_readNext_1 rfl mlX12_185 lkX12_next sh186 ⟨_, _, rfl⟩ rfl rfl (Nat.le_of_ble_eq_true rfl) (Nat.le_of_ble_eq_true rfl) (LX12_next_186 Γ _ r0 w0 r0_1 e_i186 e_l186 e_i187 hy1) ((zch_i rfl rfl)).symm ?_
  refine zj_aload_n (pc' := 5) 0 dX12_readNext_4 rfl rfl rfl ?_
  refine zj_bipush (pc' := 7) dX12_readNext_5 rfl kbipush_22 ?_
  refine zj_aload_n (pc' := 8) 0 dX12_readNext_7 rfl rfl rfl ?_
  refine zj_getR (pc' := 11) (j := 189) dX12_readNext_8 rfl flX12_37 sh186 rfl ?_
  refine zj_iconst (pc' := 12) dX12_readNext_11 rfl kiconst_2 ?_
  refine zj_rdi (pc' := 13) dX12_readNext_12 rfl sh189 (zr_n rfl (zr_l e_i189)) (zrdK zi2_89 tn2) ?_
  obtain ⟨y2, hy2, hy⟩ := zt_b hy
  refine zj_V1 (pc' := 16) (z := YX12_looksAt) (As := [.int 22, .int (r0_7 2)]) (N := (zui (zul M 186 y1.2) 186 y2.2)) dX12_readNext_13 rfl mlX12_207 lkX12_looksAt sh186 ⟨_, _, rfl⟩ rfl rfl (Nat.le_of_ble_eq_true rfl) (Nat.le_of_ble_eq_true rfl) (LX12_looksAt_186 Γ _ y1.1 y1.2 w0_9 w0_10 zr_s (zq_i zq_s) (zq_i (zq_n rfl e_l191)) (zq_i (zq_n rfl e_l192)) 22 (r0_7 2) hy2) (zm_s).symm ?_
  refine zj_bif_ne (tgt := 21) (pc' := 19) dX12_readNext_16 rfl (by decide) (fun c3 => ?_) (fun c3 => ?_)
  · have hy := zt_t hy c3
    refine zj_aload_n (pc' := 22) 0 dX12_readNext_21 rfl rfl rfl ?_
    refine zj_fI (pc' := 25) dX12_readNext_22 rfl flX12_192 sh186 rfl zr_s rfl ?_
    refine zj_topi (fun x4 ex4 => ?_)
    have hy := zlet_at ex4 hy
    refine zj_istore_n (pc' := 26) (L' := [(1, .int x4), (0, .ref (zad Γ 186))]) dX12_readNext_25 rfl rfl (by decide) rfl ?_
    refine zj_aload_n (pc' := 27) 1 dX12_readNext_26 rfl rfl rfl ?_
    refine zj_getR (pc' := 30) (j := 189) dX12_readNext_27 rfl flX12_37 sh186 rfl ?_
    refine zj_bipush (pc' := 32) dX12_readNext_30 rfl kbipush_23 ?_
    refine zj_iload_n (pc' := 33) 0 dX12_readNext_32 rfl rfl rfl ?_
    refine zj_iadd (pc' := 34) dX12_readNext_33 rfl ?_
    obtain ⟨v5, hv5, hy⟩ := zt_b hy
    refine zj_rdi (pc' := 35) dX12_readNext_34 rfl sh189 (zr_n rfl (zr_l e_i189)) hv5 ?_
    refine zj_if_le (tgt := 44) (pc' := 38) dX12_readNext_35 rfl (by decide) (fun c6 => ?_) (fun c6 => ?_)
    · have hy := zt_t hy c6
      refine zj_aload_n (pc' := 45) 1 dX12_readNext_44 rfl rfl rfl ?_
      refine zj_getR (pc' := 48) (j := 189) dX12_readNext_45 rfl flX12_37 sh186 rfl ?_
      refine zj_bipush (pc' := 50) dX12_readNext_48 rfl kbipush_35 ?_
      refine zj_iload_n (pc' := 51) 0 dX12_readNext_50 rfl rfl rfl ?_
      refine zj_iadd (pc' := 52) dX12_readNext_51 rfl ?_
      obtain ⟨v7, hv7, hy⟩ := zt_b hy
      refine zj_rdi (pc' := 53) dX12_readNext_52 rfl sh189 (zr_n rfl (zr_l e_i189)) hv7 ?_
      refine zj_istore_n (pc' := 54) (L' := [(2, .int v7), (1, .int x4), (0, .ref (zad Γ 186))]) dX12_readNext_53 rfl rfl (by decide) rfl ?_
      refine zj_iload_n (pc' := 55) 0 dX12_readNext_54 rfl rfl rfl ?_
      refine zj_bipush (pc' := 57) dX12_readNext_55 rfl kbipush_8 ?_
      refine zj_icmp_ne (tgt := 66) (pc' := 60) dX12_readNext_57 rfl (by decide) (fun c8 => ?_) (fun c8 => ?_)
      · have hy := zt_f hy c8
        refine zj_aload_n (pc' := 67) 2 dX12_readNext_66 rfl rfl rfl ?_
        obtain ⟨y10, hy10, hy⟩ := zt_b hy
        refine zj_V0 (pc' := 70) (z := YX12_next) (As := []) (N := (zui (zul M 186 y10.2) 186 y10.1)) dX12_readNext_67 rfl mlX12_185 lkX12_next sh186 ⟨_, _, rfl⟩ rfl rfl (Nat.le_of_ble_eq_true rfl) (Nat.le_of_ble_eq_true rfl) (LX12_next_186 Γ _ y2.2 y1.2 r0_1 zr_s (zq_i zq_s) (zr_n rfl (zr_l e_i187)) hy10) ((zch_i (zm_li zn_s) zm_s)).symm ?_
        refine zj_aload_n (pc' := 71) 2 dX12_readNext_70 rfl rfl rfl ?_
        refine zj_bipush (pc' := 73) dX12_readNext_71 rfl kbipush_14 ?_
        refine zj_aload_n (pc' := 74) 2 dX12_readNext_73 rfl rfl rfl ?_
        refine zj_getR (pc' := 77) (j := 189) dX12_readNext_74 rfl flX12_37 sh186 rfl ?_
        refine zj_iconst (pc' := 78) dX12_readNext_77 rfl kiconst_0 ?_
        refine zj_rdi (pc' := 79) dX12_readNext_78 rfl sh189 (zr_n rfl (zr_l e_i189)) (zrdK zi0_89 tn0) ?_
        obtain ⟨y11, hy11, hy⟩ := zt_b hy
        refine zj_V1 (pc' := 82) (z := YX12_looksAt) (As := [.int 14, .int (r0_7 0)]) (N := (zui (zul M 186 y10.2) 186 y11.2)) dX12_readNext_79 rfl mlX12_207 lkX12_looksAt sh186 ⟨_, _, rfl⟩ rfl rfl (Nat.le_of_ble_eq_true rfl) (Nat.le_of_ble_eq_true rfl) (LX12_looksAt_186 Γ _ y10.1 y10.2 w0_9 w0_10 zr_s (zq_i zq_s) (zq_i (zq_n rfl e_l191)) (zq_i (zq_n rfl e_l192)) 14 (r0_7 0) hy11) (zm_s).symm ?_
        refine zj_bif_ne (tgt := 87) (pc' := 85) dX12_readNext_82 rfl (by decide) (fun c12 => ?_) (fun c12 => ?_)
        · have hy := zt_t hy c12
          refine zj_aload_n (pc' := 88) 2 dX12_readNext_87 rfl rfl rfl ?_
          refine zj_getR (pc' := 91) (j := 189) dX12_readNext_88 rfl flX12_37 sh186 rfl ?_
          refine zj_iconst (pc' := 92) dX12_readNext_91 rfl kiconst_3 ?_
          refine zj_iload_n (pc' := 93) 0 dX12_readNext_92 rfl rfl rfl ?_
          obtain ⟨J21, eJ21, hy⟩ := zlet_ex hy
          have HJ21 : ∀ (x13 : Int32), J21 x13 = some res → zR Γ 3 YX12_readNext 124 [(0, .ref (zad Γ 186)), (1, .int x4), (2, .int v7)] [.int x13, .int 3, .ref (zad Γ 189)] (zui (zul M 186 y10.2) 186 y11.2) Q := by
            intro x13 hy
            have hy := zap1 eJ21 hy
            refine zj_iadd (pc' := 125) dX12_readNext_124 rfl ?_
            obtain ⟨v14, hv14, hy⟩ := zt_b hy
            refine zj_rdi (pc' := 126) dX12_readNext_125 rfl sh189 (zr_n rfl (zr_l e_i189)) hv14 ?_
            refine zj_aload_n (pc' := 127) 0 dX12_readNext_126 rfl rfl rfl ?_
            refine zj_fI (pc' := 130) dX12_readNext_127 rfl flX12_192 sh186 rfl zr_s rfl ?_
            refine zj_S1 (pc' := 133) (z := YX12_bitOf) (As := [.int v14, .int (y11.2 18)]) (N := (zui (zul M 186 y10.2) 186 y11.2)) dX12_readNext_130 rfl mlX12_235 lkX12_bitOf rfl rfl (Nat.le_of_ble_eq_true rfl) (Nat.le_of_ble_eq_true rfl) (LX12_bitOf Γ _ v14 (y11.2 18) rfl) rfl ?_
            refine zj_bif_ne (tgt := 142) (pc' := 136) dX12_readNext_133 rfl (by decide) (fun c15 => ?_) (fun c15 => ?_)
            · have hy := zt_t hy c15
              refine zj_aload_n (pc' := 143) 0 dX12_readNext_142 rfl rfl rfl ?_
              refine zj_getR (pc' := 146) (j := 189) dX12_readNext_143 rfl flX12_37 sh186 rfl ?_
              refine zj_bipush (pc' := 148) dX12_readNext_146 rfl kbipush_41 ?_
              refine zj_bipush (pc' := 150) dX12_readNext_148 rfl kbipush_8 ?_
              refine zj_iload_n (pc' := 151) 1 dX12_readNext_150 rfl rfl rfl ?_
              refine zj_imul (pc' := 152) dX12_readNext_151 rfl ?_
              refine zj_iadd (pc' := 153) dX12_readNext_152 rfl ?_
              refine zj_iload_n (pc' := 154) 2 dX12_readNext_153 rfl rfl rfl ?_
              refine zj_iadd (pc' := 155) dX12_readNext_154 rfl ?_
              refine zj_aload_n (pc' := 156) 0 dX12_readNext_155 rfl rfl rfl ?_
              refine zj_fI (pc' := 159) dX12_readNext_156 rfl flX12_192 sh186 rfl zr_s rfl ?_
              obtain ⟨r0_7v16, hr0_7v16, hy⟩ := zt_b hy
              refine zj_wri (pc' := 160) (N := (zui (zui (zul M 186 y10.2) 186 y11.2) 189 r0_7v16)) dX12_readNext_159 rfl sh189 (zr_n rfl (zr_l e_i189)) hr0_7v16 rfl ?_
              refine zj_aload_n (pc' := 161) 0 dX12_readNext_160 rfl rfl rfl ?_
              refine zj_getR (pc' := 164) (j := 189) dX12_readNext_161 rfl flX12_37 sh186 rfl ?_
              refine zj_bipush (pc' := 166) dX12_readNext_164 rfl kbipush_35 ?_
              refine zj_iload_n (pc' := 167) 1 dX12_readNext_166 rfl rfl rfl ?_
              refine zj_iadd (pc' := 168) dX12_readNext_167 rfl ?_
              refine zj_dup2 (pc' := 169) dX12_readNext_168 rfl rfl rfl ?_
              obtain ⟨v17, hv17, hy⟩ := zt_b hy
              refine zj_rdi (pc' := 170) dX12_readNext_169 rfl sh189 zr_s hv17 ?_
              refine zj_iconst (pc' := 171) dX12_readNext_170 rfl kiconst_1 ?_
              refine zj_iadd (pc' := 172) dX12_readNext_171 rfl ?_
              obtain ⟨r0_7v18, hr0_7v18, hy⟩ := zt_b hy
              refine zj_wri (pc' := 173) (N := (zui (zui (zul M 186 y10.2) 186 y11.2) 189 r0_7v18)) dX12_readNext_172 rfl sh189 zr_s hr0_7v18 zm_s ?_
              refine zj_aload_n (pc' := 174) 0 dX12_readNext_173 rfl rfl rfl ?_
              obtain ⟨y19, hy19, hy⟩ := zt_b hy
              refine zj_V0 (pc' := 177) (z := YX12_next) (As := []) (N := (zui (zui (zul M 186 y19.2) 186 y19.1) 189 r0_7v18)) dX12_readNext_174 rfl mlX12_185 lkX12_next sh186 ⟨_, _, rfl⟩ rfl rfl (Nat.le_of_ble_eq_true rfl) (Nat.le_of_ble_eq_true rfl) (LX12_next_186 Γ _ y11.2 y10.2 r0_1 (zr_n rfl zr_s) (zq_i (zq_i zq_s)) (zr_n rfl (zr_n rfl (zr_l e_i187))) hy19) ((zch_i (zm_li (zm_li zn_s)) (zm_n rfl zm_s))).symm ?_
              refine zj_iconst (pc' := 178) dX12_readNext_177 rfl kiconst_1 ?_
              have e9 := Option.some.inj hy
              subst e9
              exact zj_bret (b := true) dX12_readNext_178 rfl hq
            · have hy := zt_f hy c15
              refine zj_aload_n (pc' := 137) 0 dX12_readNext_136 rfl rfl rfl ?_
              refine zj_iconst (pc' := 138) dX12_readNext_137 rfl kiconst_3 ?_
              obtain ⟨y20, hy20, hy⟩ := zt_b hy
              refine zj_V1 (pc' := 141) (z := YX12_bad) (As := [.int 3]) (N := (zui (zul M 186 y10.2) 186 y20.2)) dX12_readNext_138 rfl mlX12_182 lkX12_bad sh186 ⟨_, _, rfl⟩ rfl rfl (Nat.le_of_ble_eq_true rfl) (Nat.le_of_ble_eq_true rfl) (LX12_bad_186 Γ _ y11.2 zr_s 3 hy20) (zm_s).symm ?_
              have e9 := Option.some.inj hy
              subst e9
              refine zj_mem (N := (zui (zui (zul M 186 y10.2) 186 y20.2) 189 r0_7)) (zself_i (zr_n rfl (zr_l e_i189)) rfl) ?_
              exact zj_bret (b := y20.1) dX12_readNext_141 rfl hq
          refine zj_if_ne (tgt := 108) (pc' := 96) dX12_readNext_93 rfl (by decide) (fun c22 => ?_) (fun c22 => ?_)
          · have hy := zt_f hy c22
            refine zj_aload_n (pc' := 109) 2 dX12_readNext_108 rfl rfl rfl ?_
            refine zj_getR (pc' := 112) (j := 189) dX12_readNext_109 rfl flX12_37 sh186 rfl ?_
            refine zj_bipush (pc' := 114) dX12_readNext_112 rfl kbipush_41 ?_
            refine zj_bipush (pc' := 116) dX12_readNext_114 rfl kbipush_8 ?_
            refine zj_iload_n (pc' := 117) 1 dX12_readNext_116 rfl rfl rfl ?_
            refine zj_imul (pc' := 118) dX12_readNext_117 rfl ?_
            refine zj_iadd (pc' := 119) dX12_readNext_118 rfl ?_
            refine zj_iload_n (pc' := 120) 0 dX12_readNext_119 rfl rfl rfl ?_
            refine zj_iadd (pc' := 121) dX12_readNext_120 rfl ?_
            refine zj_iconst (pc' := 122) dX12_readNext_121 rfl kiconst_1 ?_
            refine zj_isub (pc' := 123) dX12_readNext_122 rfl ?_
            obtain ⟨v24, hv24, hy⟩ := zt_b hy
            refine zj_rdi (pc' := 124) dX12_readNext_123 rfl sh189 (zr_n rfl (zr_l e_i189)) hv24 ?_
            refine zj_loc [2, 1, 0] rfl ?_
            exact HJ21 v24 hy
          · have hy := zt_t hy c22
            refine zj_aload_n (pc' := 97) 2 dX12_readNext_96 rfl rfl rfl ?_
            refine zj_getR (pc' := 100) (j := 189) dX12_readNext_97 rfl flX12_37 sh186 rfl ?_
            refine zj_bipush (pc' := 102) dX12_readNext_100 rfl kbipush_11 ?_
            refine zj_iload_n (pc' := 103) 1 dX12_readNext_102 rfl rfl rfl ?_
            refine zj_iadd (pc' := 104) dX12_readNext_103 rfl ?_
            obtain ⟨v23, hv23, hy⟩ := zt_b hy
            refine zj_rdi (pc' := 105) dX12_readNext_104 rfl sh189 (zr_n rfl (zr_l e_i189)) hv23 ?_
            refine zj_goto (tgt := 124) dX12_readNext_105 (by decide) ?_
            refine zj_loc [2, 1, 0] rfl ?_
            exact HJ21 v23 hy
        · have hy := zt_f hy c12
          refine zj_iconst (pc' := 86) dX12_readNext_85 rfl kiconst_0 ?_
          have e9 := Option.some.inj hy
          subst e9
          refine zj_mem (N := (zui (zui (zul M 186 y10.2) 186 y11.2) 189 r0_7)) (zself_i (zr_n rfl (zr_l e_i189)) rfl) ?_
          exact zj_bret (b := false) dX12_readNext_86 rfl hq
      · have hy := zt_t hy c8
        refine zj_aload_n (pc' := 61) 2 dX12_readNext_60 rfl rfl rfl ?_
        refine zj_iconst (pc' := 62) dX12_readNext_61 rfl kiconst_4 ?_
        obtain ⟨y9, hy9, hy⟩ := zt_b hy
        refine zj_V1 (pc' := 65) (z := YX12_bad) (As := [.int 4]) (N := (zui (zul M 186 y1.2) 186 y9.2)) dX12_readNext_62 rfl mlX12_182 lkX12_bad sh186 ⟨_, _, rfl⟩ rfl rfl (Nat.le_of_ble_eq_true rfl) (Nat.le_of_ble_eq_true rfl) (LX12_bad_186 Γ _ y2.2 zr_s 4 hy9) (zm_s).symm ?_
        have e9 := Option.some.inj hy
        subst e9
        refine zj_mem (N := (zui (zui (zul M 186 y1.2) 186 y9.2) 189 r0_7)) (zself_i (zr_n rfl (zr_l e_i189)) rfl) ?_
        exact zj_bret (b := y9.1) dX12_readNext_65 rfl hq
    · have hy := zt_f hy c6
      refine zj_aload_n (pc' := 39) 1 dX12_readNext_38 rfl rfl rfl ?_
      refine zj_iconst (pc' := 40) dX12_readNext_39 rfl kiconst_3 ?_
      obtain ⟨y25, hy25, hy⟩ := zt_b hy
      refine zj_V1 (pc' := 43) (z := YX12_bad) (As := [.int 3]) (N := (zui (zul M 186 y1.2) 186 y25.2)) dX12_readNext_40 rfl mlX12_182 lkX12_bad sh186 ⟨_, _, rfl⟩ rfl rfl (Nat.le_of_ble_eq_true rfl) (Nat.le_of_ble_eq_true rfl) (LX12_bad_186 Γ _ y2.2 zr_s 3 hy25) (zm_s).symm ?_
      have e9 := Option.some.inj hy
      subst e9
      refine zj_mem (N := (zui (zui (zul M 186 y1.2) 186 y25.2) 189 r0_7)) (zself_i (zr_n rfl (zr_l e_i189)) rfl) ?_
      exact zj_bret (b := y25.1) dX12_readNext_43 rfl hq
  · have hy := zt_f hy c3
    refine zj_iconst (pc' := 20) dX12_readNext_19 rfl kiconst_0 ?_
    have e9 := Option.some.inj hy
    subst e9
    refine zj_mem (N := (zui (zui (zul M 186 y1.2) 186 y2.2) 189 r0_7)) (zself_i (zr_n rfl (zr_l e_i189)) rfl) ?_
    exact zj_bret (b := false) dX12_readNext_20 rfl hq
set_option maxRecDepth 20000 in
theorem LX12_readNext_186 (Γ : zG) (M : zM) (r0 : Nat → Int32) (w0 : Nat → Int64) (r0_1 : Nat → Int32) (r0_7 : Nat → Int32) (w0_9 : Nat → Int64) (w0_10 : Nat → Int64) (e_i186 : M.1 186 = r0) (e_l186 : M.2 186 = w0) (e_i187 : M.1 187 = r0_1) (e_i189 : M.1 189 = r0_7) (e_l191 : M.2 191 = w0_9) (e_l192 : M.2 192 = w0_10)  {res : Bool × (Nat → Int32) × (Nat → Int64) × (Nat → Int32)} (hy : (fM_readNext r0 w0 r0_1 r0_7 w0_9 w0_10) = some res) : zK Γ 3 YX12_readNext [.ref (zad Γ 186)] M (fun v N => v = some (.int (zb res.1)) ∧ N = (zui (zui (zul M 186 res.2.2.1) 186 res.2.1) 189 res.2.2.2)) :=
  zK_of (by decide) (Nat.le_of_ble_eq_true rfl) (TX12_readNext_186 Γ M r0 w0 r0_1 r0_7 w0_9 w0_10 e_i186 e_l186 e_i187 e_i189 e_l191 e_l192 hy ⟨rfl, rfl⟩)

noncomputable def fM_readFollows (r0 : Nat → Int32) (w0 : Nat → Int64) (r0_1 : Nat → Int32) (r0_7 : Nat → Int32) (w0_9 : Nat → Int64) (w0_10 : Nat → Int64) : Option (Bool × (Nat → Int32) × (Nat → Int64) × (Nat → Int32)) :=
  (fM_next r0 w0 r0_1).bind (fun (y1 : (Nat → Int32) × (Nat → Int64)) =>
  (fM_looksAt y1.1 y1.2 w0_9 w0_10 22 (r0_7 2)).bind (fun (y2 : Bool × (Nat → Int32)) =>
  (if y2.1 = true then
  zlet (y2.2 18) (fun (x4 : Int32) =>
  (zrd r0_7 89 (23 + x4)).bind (fun (v5 : Int32) =>
  (if 0 < v5 then
  (fM_bad y2.2 3).bind (fun (y7 : Bool × (Nat → Int32)) =>
  some (y7.1, y7.2, y1.2, r0_7))
  else
  (zrd r0_7 89 (35 + x4)).bind (fun (v8 : Int32) =>
  (if v8 ≤ 0 then
  (fM_next y2.2 y1.2 r0_1).bind (fun (y10 : (Nat → Int32) × (Nat → Int64)) =>
  (fM_looksAt y10.1 y10.2 w0_9 w0_10 22 (r0_7 2)).bind (fun (y11 : Bool × (Nat → Int32)) =>
  (if y11.1 = true then
  (if (y11.2 18) = x4 then
  (fM_bad y11.2 3).bind (fun (y14 : Bool × (Nat → Int32)) =>
  some (y14.1, y14.2, y10.2, r0_7))
  else
  zlet (y11.2 18) (fun (x15 : Int32) =>
  (fM_next y11.2 y10.2 r0_1).bind (fun (y16 : (Nat → Int32) × (Nat → Int64)) =>
  (fM_puts y16.1 y16.2 r0_1 r0_7 (29 + x4) 1 5).bind (fun (y17 : Bool × (Nat → Int32) × (Nat → Int64) × (Nat → Int32)) =>
  (if y17.1 = true then
  (zwr y17.2.2.2 89 (23 + x4) (x15 + 1)).bind (fun (r0_7v19 : Nat → Int32) =>
  some (true, y17.2.1, y17.2.2.1, r0_7v19))
  else
  some (false, y17.2.1, y17.2.2.1, y17.2.2.2))))))
  else
  some (false, y11.2, y10.2, r0_7))))
  else
  (fM_bad y2.2 3).bind (fun (y20 : Bool × (Nat → Int32)) =>
  some (y20.1, y20.2, y1.2, r0_7)))))))
  else
  some (false, y2.2, y1.2, r0_7))))

set_option maxRecDepth 20000 in
theorem TX12_readFollows_186 (Γ : zG) {Q : Option Value → zM → Prop} (M : zM) (r0 : Nat → Int32) (w0 : Nat → Int64) (r0_1 : Nat → Int32) (r0_7 : Nat → Int32) (w0_9 : Nat → Int64) (w0_10 : Nat → Int64) (e_i186 : M.1 186 = r0) (e_l186 : M.2 186 = w0) (e_i187 : M.1 187 = r0_1) (e_i189 : M.1 189 = r0_7) (e_l191 : M.2 191 = w0_9) (e_l192 : M.2 192 = w0_10)  {res : Bool × (Nat → Int32) × (Nat → Int64) × (Nat → Int32)} (hy : (fM_readFollows r0 w0 r0_1 r0_7 w0_9 w0_10) = some res) (hq : Q (some (.int (zb res.1))) (zui (zui (zul M 186 res.2.2.1) 186 res.2.1) 189 res.2.2.2)) : zR Γ 5 YX12_readFollows 0 [(0, .ref (zad Γ 186))] [] M Q := by
  unfold fM_readFollows at hy
  refine zj_aload_n (pc' := 1) 0 dX12_readFollows_0 rfl rfl rfl ?_
  obtain ⟨y1, hy1, hy⟩ := zt_b hy
  refine zj_V0 (pc' := 4) (z := YX12_next) (As := []) (N := (zui (zul M 186 y1.2) 186 y1.1)) dX12_readFollows_1 rfl mlX12_185 lkX12_next sh186 ⟨_, _, rfl⟩ rfl rfl (Nat.le_of_ble_eq_true rfl) (Nat.le_of_ble_eq_true rfl) (LX12_next_186 Γ _ r0 w0 r0_1 e_i186 e_l186 e_i187 hy1) ((zch_i rfl rfl)).symm ?_
  refine zj_aload_n (pc' := 5) 0 dX12_readFollows_4 rfl rfl rfl ?_
  refine zj_bipush (pc' := 7) dX12_readFollows_5 rfl kbipush_22 ?_
  refine zj_aload_n (pc' := 8) 0 dX12_readFollows_7 rfl rfl rfl ?_
  refine zj_getR (pc' := 11) (j := 189) dX12_readFollows_8 rfl flX12_37 sh186 rfl ?_
  refine zj_iconst (pc' := 12) dX12_readFollows_11 rfl kiconst_2 ?_
  refine zj_rdi (pc' := 13) dX12_readFollows_12 rfl sh189 (zr_n rfl (zr_l e_i189)) (zrdK zi2_89 tn2) ?_
  obtain ⟨y2, hy2, hy⟩ := zt_b hy
  refine zj_V1 (pc' := 16) (z := YX12_looksAt) (As := [.int 22, .int (r0_7 2)]) (N := (zui (zul M 186 y1.2) 186 y2.2)) dX12_readFollows_13 rfl mlX12_207 lkX12_looksAt sh186 ⟨_, _, rfl⟩ rfl rfl (Nat.le_of_ble_eq_true rfl) (Nat.le_of_ble_eq_true rfl) (LX12_looksAt_186 Γ _ y1.1 y1.2 w0_9 w0_10 zr_s (zq_i zq_s) (zq_i (zq_n rfl e_l191)) (zq_i (zq_n rfl e_l192)) 22 (r0_7 2) hy2) (zm_s).symm ?_
  refine zj_bif_ne (tgt := 21) (pc' := 19) dX12_readFollows_16 rfl (by decide) (fun c3 => ?_) (fun c3 => ?_)
  · have hy := zt_t hy c3
    refine zj_aload_n (pc' := 22) 0 dX12_readFollows_21 rfl rfl rfl ?_
    refine zj_fI (pc' := 25) dX12_readFollows_22 rfl flX12_192 sh186 rfl zr_s rfl ?_
    refine zj_topi (fun x4 ex4 => ?_)
    have hy := zlet_at ex4 hy
    refine zj_istore_n (pc' := 26) (L' := [(1, .int x4), (0, .ref (zad Γ 186))]) dX12_readFollows_25 rfl rfl (by decide) rfl ?_
    refine zj_aload_n (pc' := 27) 1 dX12_readFollows_26 rfl rfl rfl ?_
    refine zj_getR (pc' := 30) (j := 189) dX12_readFollows_27 rfl flX12_37 sh186 rfl ?_
    refine zj_bipush (pc' := 32) dX12_readFollows_30 rfl kbipush_23 ?_
    refine zj_iload_n (pc' := 33) 0 dX12_readFollows_32 rfl rfl rfl ?_
    refine zj_iadd (pc' := 34) dX12_readFollows_33 rfl ?_
    obtain ⟨v5, hv5, hy⟩ := zt_b hy
    refine zj_rdi (pc' := 35) dX12_readFollows_34 rfl sh189 (zr_n rfl (zr_l e_i189)) hv5 ?_
    refine zj_if_gt (tgt := 50) (pc' := 38) dX12_readFollows_35 rfl (by decide) (fun c6 => ?_) (fun c6 => ?_)
    · have hy := zt_t hy c6
      refine zj_aload_n (pc' := 51) 1 dX12_readFollows_50 rfl rfl rfl ?_
      refine zj_iconst (pc' := 52) dX12_readFollows_51 rfl kiconst_3 ?_
      obtain ⟨y7, hy7, hy⟩ := zt_b hy
      refine zj_V1 (pc' := 55) (z := YX12_bad) (As := [.int 3]) (N := (zui (zul M 186 y1.2) 186 y7.2)) dX12_readFollows_52 rfl mlX12_182 lkX12_bad sh186 ⟨_, _, rfl⟩ rfl rfl (Nat.le_of_ble_eq_true rfl) (Nat.le_of_ble_eq_true rfl) (LX12_bad_186 Γ _ y2.2 zr_s 3 hy7) (zm_s).symm ?_
      have e9 := Option.some.inj hy
      subst e9
      refine zj_mem (N := (zui (zui (zul M 186 y1.2) 186 y7.2) 189 r0_7)) (zself_i (zr_n rfl (zr_l e_i189)) rfl) ?_
      exact zj_bret (b := y7.1) dX12_readFollows_55 rfl hq
    · have hy := zt_f hy c6
      refine zj_aload_n (pc' := 39) 1 dX12_readFollows_38 rfl rfl rfl ?_
      refine zj_getR (pc' := 42) (j := 189) dX12_readFollows_39 rfl flX12_37 sh186 rfl ?_
      refine zj_bipush (pc' := 44) dX12_readFollows_42 rfl kbipush_35 ?_
      refine zj_iload_n (pc' := 45) 0 dX12_readFollows_44 rfl rfl rfl ?_
      refine zj_iadd (pc' := 46) dX12_readFollows_45 rfl ?_
      obtain ⟨v8, hv8, hy⟩ := zt_b hy
      refine zj_rdi (pc' := 47) dX12_readFollows_46 rfl sh189 (zr_n rfl (zr_l e_i189)) hv8 ?_
      refine zj_if_le (tgt := 56) (pc' := 50) dX12_readFollows_47 rfl (by decide) (fun c9 => ?_) (fun c9 => ?_)
      · have hy := zt_t hy c9
        refine zj_aload_n (pc' := 57) 1 dX12_readFollows_56 rfl rfl rfl ?_
        obtain ⟨y10, hy10, hy⟩ := zt_b hy
        refine zj_V0 (pc' := 60) (z := YX12_next) (As := []) (N := (zui (zul M 186 y10.2) 186 y10.1)) dX12_readFollows_57 rfl mlX12_185 lkX12_next sh186 ⟨_, _, rfl⟩ rfl rfl (Nat.le_of_ble_eq_true rfl) (Nat.le_of_ble_eq_true rfl) (LX12_next_186 Γ _ y2.2 y1.2 r0_1 zr_s (zq_i zq_s) (zr_n rfl (zr_l e_i187)) hy10) ((zch_i (zm_li zn_s) zm_s)).symm ?_
        refine zj_aload_n (pc' := 61) 1 dX12_readFollows_60 rfl rfl rfl ?_
        refine zj_bipush (pc' := 63) dX12_readFollows_61 rfl kbipush_22 ?_
        refine zj_aload_n (pc' := 64) 1 dX12_readFollows_63 rfl rfl rfl ?_
        refine zj_getR (pc' := 67) (j := 189) dX12_readFollows_64 rfl flX12_37 sh186 rfl ?_
        refine zj_iconst (pc' := 68) dX12_readFollows_67 rfl kiconst_2 ?_
        refine zj_rdi (pc' := 69) dX12_readFollows_68 rfl sh189 (zr_n rfl (zr_l e_i189)) (zrdK zi2_89 tn2) ?_
        obtain ⟨y11, hy11, hy⟩ := zt_b hy
        refine zj_V1 (pc' := 72) (z := YX12_looksAt) (As := [.int 22, .int (r0_7 2)]) (N := (zui (zul M 186 y10.2) 186 y11.2)) dX12_readFollows_69 rfl mlX12_207 lkX12_looksAt sh186 ⟨_, _, rfl⟩ rfl rfl (Nat.le_of_ble_eq_true rfl) (Nat.le_of_ble_eq_true rfl) (LX12_looksAt_186 Γ _ y10.1 y10.2 w0_9 w0_10 zr_s (zq_i zq_s) (zq_i (zq_n rfl e_l191)) (zq_i (zq_n rfl e_l192)) 22 (r0_7 2) hy11) (zm_s).symm ?_
        refine zj_bif_ne (tgt := 77) (pc' := 75) dX12_readFollows_72 rfl (by decide) (fun c12 => ?_) (fun c12 => ?_)
        · have hy := zt_t hy c12
          refine zj_aload_n (pc' := 78) 1 dX12_readFollows_77 rfl rfl rfl ?_
          refine zj_fI (pc' := 81) dX12_readFollows_78 rfl flX12_192 sh186 rfl zr_s rfl ?_
          refine zj_iload_n (pc' := 82) 0 dX12_readFollows_81 rfl rfl rfl ?_
          refine zj_icmp_ne (tgt := 91) (pc' := 85) dX12_readFollows_82 rfl (by decide) (fun c13 => ?_) (fun c13 => ?_)
          · have hy := zt_f hy c13
            refine zj_aload_n (pc' := 92) 1 dX12_readFollows_91 rfl rfl rfl ?_
            refine zj_fI (pc' := 95) dX12_readFollows_92 rfl flX12_192 sh186 rfl zr_s rfl ?_
            refine zj_topi (fun x15 ex15 => ?_)
            have hy := zlet_at ex15 hy
            refine zj_istore_n (pc' := 96) (L' := [(2, .int x15), (1, .int x4), (0, .ref (zad Γ 186))]) dX12_readFollows_95 rfl rfl (by decide) rfl ?_
            refine zj_aload_n (pc' := 97) 2 dX12_readFollows_96 rfl rfl rfl ?_
            obtain ⟨y16, hy16, hy⟩ := zt_b hy
            refine zj_V0 (pc' := 100) (z := YX12_next) (As := []) (N := (zui (zul M 186 y16.2) 186 y16.1)) dX12_readFollows_97 rfl mlX12_185 lkX12_next sh186 ⟨_, _, rfl⟩ rfl rfl (Nat.le_of_ble_eq_true rfl) (Nat.le_of_ble_eq_true rfl) (LX12_next_186 Γ _ y11.2 y10.2 r0_1 zr_s (zq_i zq_s) (zr_n rfl (zr_l e_i187)) hy16) ((zch_i (zm_li zn_s) zm_s)).symm ?_
            refine zj_aload_n (pc' := 101) 2 dX12_readFollows_100 rfl rfl rfl ?_
            refine zj_bipush (pc' := 103) dX12_readFollows_101 rfl kbipush_29 ?_
            refine zj_iload_n (pc' := 104) 1 dX12_readFollows_103 rfl rfl rfl ?_
            refine zj_iadd (pc' := 105) dX12_readFollows_104 rfl ?_
            refine zj_iconst (pc' := 106) dX12_readFollows_105 rfl kiconst_1 ?_
            refine zj_iconst (pc' := 107) dX12_readFollows_106 rfl kiconst_5 ?_
            obtain ⟨y17, hy17, hy⟩ := zt_b hy
            refine zj_V1 (pc' := 110) (z := YX12_puts) (As := [.int (29 + x4), .int 1, .int 5]) (N := (zui (zui (zul M 186 y17.2.2.1) 186 y17.2.1) 189 y17.2.2.2)) dX12_readFollows_107 rfl mlX12_238 lkX12_puts sh186 ⟨_, _, rfl⟩ rfl rfl (Nat.le_of_ble_eq_true rfl) (Nat.le_of_ble_eq_true rfl) (LX12_puts_186 Γ _ y16.1 y16.2 r0_1 r0_7 zr_s (zq_i zq_s) (zr_n rfl (zr_l e_i187)) (zr_n rfl (zr_l e_i189)) (29 + x4) 1 5 hy17) ((zch_i (zch_i (zm_li zn_s) zm_s) rfl)).symm ?_
            refine zj_bif_ne (tgt := 115) (pc' := 113) dX12_readFollows_110 rfl (by decide) (fun c18 => ?_) (fun c18 => ?_)
            · have hy := zt_t hy c18
              refine zj_aload_n (pc' := 116) 2 dX12_readFollows_115 rfl rfl rfl ?_
              refine zj_getR (pc' := 119) (j := 189) dX12_readFollows_116 rfl flX12_37 sh186 rfl ?_
              refine zj_bipush (pc' := 121) dX12_readFollows_119 rfl kbipush_23 ?_
              refine zj_iload_n (pc' := 122) 1 dX12_readFollows_121 rfl rfl rfl ?_
              refine zj_iadd (pc' := 123) dX12_readFollows_122 rfl ?_
              refine zj_iload_n (pc' := 124) 0 dX12_readFollows_123 rfl rfl rfl ?_
              refine zj_iconst (pc' := 125) dX12_readFollows_124 rfl kiconst_1 ?_
              refine zj_iadd (pc' := 126) dX12_readFollows_125 rfl ?_
              obtain ⟨r0_7v19, hr0_7v19, hy⟩ := zt_b hy
              refine zj_wri (pc' := 127) (N := (zui (zui (zul M 186 y17.2.2.1) 186 y17.2.1) 189 r0_7v19)) dX12_readFollows_126 rfl sh189 zr_s hr0_7v19 zm_s ?_
              refine zj_iconst (pc' := 128) dX12_readFollows_127 rfl kiconst_1 ?_
              have e9 := Option.some.inj hy
              subst e9
              exact zj_bret (b := true) dX12_readFollows_128 rfl hq
            · have hy := zt_f hy c18
              refine zj_iconst (pc' := 114) dX12_readFollows_113 rfl kiconst_0 ?_
              have e9 := Option.some.inj hy
              subst e9
              exact zj_bret (b := false) dX12_readFollows_114 rfl hq
          · have hy := zt_t hy c13
            refine zj_aload_n (pc' := 86) 1 dX12_readFollows_85 rfl rfl rfl ?_
            refine zj_iconst (pc' := 87) dX12_readFollows_86 rfl kiconst_3 ?_
            obtain ⟨y14, hy14, hy⟩ := zt_b hy
            refine zj_V1 (pc' := 90) (z := YX12_bad) (As := [.int 3]) (N := (zui (zul M 186 y10.2) 186 y14.2)) dX12_readFollows_87 rfl mlX12_182 lkX12_bad sh186 ⟨_, _, rfl⟩ rfl rfl (Nat.le_of_ble_eq_true rfl) (Nat.le_of_ble_eq_true rfl) (LX12_bad_186 Γ _ y11.2 zr_s 3 hy14) (zm_s).symm ?_
            have e9 := Option.some.inj hy
            subst e9
            refine zj_mem (N := (zui (zui (zul M 186 y10.2) 186 y14.2) 189 r0_7)) (zself_i (zr_n rfl (zr_l e_i189)) rfl) ?_
            exact zj_bret (b := y14.1) dX12_readFollows_90 rfl hq
        · have hy := zt_f hy c12
          refine zj_iconst (pc' := 76) dX12_readFollows_75 rfl kiconst_0 ?_
          have e9 := Option.some.inj hy
          subst e9
          refine zj_mem (N := (zui (zui (zul M 186 y10.2) 186 y11.2) 189 r0_7)) (zself_i (zr_n rfl (zr_l e_i189)) rfl) ?_
          exact zj_bret (b := false) dX12_readFollows_76 rfl hq
      · have hy := zt_f hy c9
        refine zj_aload_n (pc' := 51) 1 dX12_readFollows_50 rfl rfl rfl ?_
        refine zj_iconst (pc' := 52) dX12_readFollows_51 rfl kiconst_3 ?_
        obtain ⟨y20, hy20, hy⟩ := zt_b hy
        refine zj_V1 (pc' := 55) (z := YX12_bad) (As := [.int 3]) (N := (zui (zul M 186 y1.2) 186 y20.2)) dX12_readFollows_52 rfl mlX12_182 lkX12_bad sh186 ⟨_, _, rfl⟩ rfl rfl (Nat.le_of_ble_eq_true rfl) (Nat.le_of_ble_eq_true rfl) (LX12_bad_186 Γ _ y2.2 zr_s 3 hy20) (zm_s).symm ?_
        have e9 := Option.some.inj hy
        subst e9
        refine zj_mem (N := (zui (zui (zul M 186 y1.2) 186 y20.2) 189 r0_7)) (zself_i (zr_n rfl (zr_l e_i189)) rfl) ?_
        exact zj_bret (b := y20.1) dX12_readFollows_55 rfl hq
  · have hy := zt_f hy c3
    refine zj_iconst (pc' := 20) dX12_readFollows_19 rfl kiconst_0 ?_
    have e9 := Option.some.inj hy
    subst e9
    refine zj_mem (N := (zui (zui (zul M 186 y1.2) 186 y2.2) 189 r0_7)) (zself_i (zr_n rfl (zr_l e_i189)) rfl) ?_
    exact zj_bret (b := false) dX12_readFollows_20 rfl hq
set_option maxRecDepth 20000 in
theorem LX12_readFollows_186 (Γ : zG) (M : zM) (r0 : Nat → Int32) (w0 : Nat → Int64) (r0_1 : Nat → Int32) (r0_7 : Nat → Int32) (w0_9 : Nat → Int64) (w0_10 : Nat → Int64) (e_i186 : M.1 186 = r0) (e_l186 : M.2 186 = w0) (e_i187 : M.1 187 = r0_1) (e_i189 : M.1 189 = r0_7) (e_l191 : M.2 191 = w0_9) (e_l192 : M.2 192 = w0_10)  {res : Bool × (Nat → Int32) × (Nat → Int64) × (Nat → Int32)} (hy : (fM_readFollows r0 w0 r0_1 r0_7 w0_9 w0_10) = some res) : zK Γ 5 YX12_readFollows [.ref (zad Γ 186)] M (fun v N => v = some (.int (zb res.1)) ∧ N = (zui (zui (zul M 186 res.2.2.1) 186 res.2.1) 189 res.2.2.2)) :=
  zK_of (by decide) (Nat.le_of_ble_eq_true rfl) (TX12_readFollows_186 Γ M r0 w0 r0_1 r0_7 w0_9 w0_10 e_i186 e_l186 e_i187 e_i189 e_l191 e_l192 hy ⟨rfl, rfl⟩)

noncomputable def fM_readLine (r0 : Nat → Int32) (w0 : Nat → Int64) (r0_1 : Nat → Int32) (r0_7 : Nat → Int32) (w0_9 : Nat → Int64) (w0_10 : Nat → Int64) : Option (Bool × (Nat → Int32) × (Nat → Int64) × (Nat → Int32) × (Nat → Int64)) :=
  (if (fM_isWord r0 w0 (109330312357234 : Int64)) = true then
  (fM_readCorner r0 w0 r0_1 r0_7 w0_9 w0_10).bind (fun (y2 : Bool × (Nat → Int32) × (Nat → Int64) × (Nat → Int32) × (Nat → Int64)) =>
  some (y2.1, y2.2.1, y2.2.2.1, y2.2.2.2.1, y2.2.2.2.2))
  else
  (if (fM_isWord r0 w0 (126943972648308 : Int64)) = true then
  (fM_readStreet r0 w0 r0_1 r0_7 w0_9 w0_10).bind (fun (y4 : Bool × (Nat → Int32) × (Nat → Int64) × (Nat → Int32)) =>
  some (y4.1, y4.2.1, y4.2.2.1, y4.2.2.2, w0_9))
  else
  (if (fM_isWord r0 w0 (123581014175598 : Int64)) = true then
  (fM_readPerson r0 w0 r0_1 r0_7 w0_9 w0_10).bind (fun (y6 : Bool × (Nat → Int32) × (Nat → Int64) × (Nat → Int32) × (Nat → Int64)) =>
  some (y6.1, y6.2.1, y6.2.2.1, y6.2.2.2.1, y6.2.2.2.2))
  else
  (if (fM_isWord r0 w0 (1852143732 : Int64)) = true then
  (fM_readNext r0 w0 r0_1 r0_7 w0_9 w0_10).bind (fun (y8 : Bool × (Nat → Int32) × (Nat → Int64) × (Nat → Int32)) =>
  some (y8.1, y8.2.1, y8.2.2.1, y8.2.2.2, w0_9))
  else
  (if (fM_isWord r0 w0 (28832959090882419 : Int64)) = true then
  (fM_readFollows r0 w0 r0_1 r0_7 w0_9 w0_10).bind (fun (y10 : Bool × (Nat → Int32) × (Nat → Int64) × (Nat → Int32)) =>
  some (y10.1, y10.2.1, y10.2.2.1, y10.2.2.2, w0_9))
  else
  (fM_bad r0 1).bind (fun (y11 : Bool × (Nat → Int32)) =>
  some (y11.1, y11.2, w0, r0_7, w0_9)))))))

set_option maxRecDepth 20000 in
theorem TX12_readLine_186 (Γ : zG) {Q : Option Value → zM → Prop} (M : zM) (r0 : Nat → Int32) (w0 : Nat → Int64) (r0_1 : Nat → Int32) (r0_7 : Nat → Int32) (w0_9 : Nat → Int64) (w0_10 : Nat → Int64) (e_i186 : M.1 186 = r0) (e_l186 : M.2 186 = w0) (e_i187 : M.1 187 = r0_1) (e_i189 : M.1 189 = r0_7) (e_l191 : M.2 191 = w0_9) (e_l192 : M.2 192 = w0_10)  {res : Bool × (Nat → Int32) × (Nat → Int64) × (Nat → Int32) × (Nat → Int64)} (hy : (fM_readLine r0 w0 r0_1 r0_7 w0_9 w0_10) = some res) (hq : Q (some (.int (zb res.1))) (zui (zui (zul (zul M 186 res.2.2.1) 191 res.2.2.2.2) 186 res.2.1) 189 res.2.2.2.1)) : zR Γ 6 YX12_readLine 0 [(0, .ref (zad Γ 186))] [] M Q := by
  unfold fM_readLine at hy
  refine zj_aload_n (pc' := 1) 0 dX12_readLine_0 rfl rfl rfl ?_
  refine zj_ldc2 (pc' := 4) dX12_readLine_1 rfl cL1390 ?_
  refine zj_V1 (pc' := 7) (z := YX12_isWord) (As := [.long (109330312357234 : Int64)]) (N := M) dX12_readLine_4 rfl mlX12_210 lkX12_isWord sh186 ⟨_, _, rfl⟩ rfl rfl (Nat.le_of_ble_eq_true rfl) (Nat.le_of_ble_eq_true rfl) (LX12_isWord_186 Γ _ r0 w0 e_i186 e_l186 (109330312357234 : Int64) rfl) rfl ?_
  refine zj_bif_eq (tgt := 15) (pc' := 10) dX12_readLine_7 rfl (by decide) (fun c1 => ?_) (fun c1 => ?_)
  · have hy := zt_f hy c1
    refine zj_aload_n (pc' := 16) 0 dX12_readLine_15 rfl rfl rfl ?_
    refine zj_ldc2 (pc' := 19) dX12_readLine_16 rfl cL1391 ?_
    refine zj_V1 (pc' := 22) (z := YX12_isWord) (As := [.long (126943972648308 : Int64)]) (N := M) dX12_readLine_19 rfl mlX12_210 lkX12_isWord sh186 ⟨_, _, rfl⟩ rfl rfl (Nat.le_of_ble_eq_true rfl) (Nat.le_of_ble_eq_true rfl) (LX12_isWord_186 Γ _ r0 w0 e_i186 e_l186 (126943972648308 : Int64) rfl) rfl ?_
    refine zj_bif_eq (tgt := 30) (pc' := 25) dX12_readLine_22 rfl (by decide) (fun c3 => ?_) (fun c3 => ?_)
    · have hy := zt_f hy c3
      refine zj_aload_n (pc' := 31) 0 dX12_readLine_30 rfl rfl rfl ?_
      refine zj_ldc2 (pc' := 34) dX12_readLine_31 rfl cL1392 ?_
      refine zj_V1 (pc' := 37) (z := YX12_isWord) (As := [.long (123581014175598 : Int64)]) (N := M) dX12_readLine_34 rfl mlX12_210 lkX12_isWord sh186 ⟨_, _, rfl⟩ rfl rfl (Nat.le_of_ble_eq_true rfl) (Nat.le_of_ble_eq_true rfl) (LX12_isWord_186 Γ _ r0 w0 e_i186 e_l186 (123581014175598 : Int64) rfl) rfl ?_
      refine zj_bif_eq (tgt := 45) (pc' := 40) dX12_readLine_37 rfl (by decide) (fun c5 => ?_) (fun c5 => ?_)
      · have hy := zt_f hy c5
        refine zj_aload_n (pc' := 46) 0 dX12_readLine_45 rfl rfl rfl ?_
        refine zj_ldc2 (pc' := 49) dX12_readLine_46 rfl cL1393 ?_
        refine zj_V1 (pc' := 52) (z := YX12_isWord) (As := [.long (1852143732 : Int64)]) (N := M) dX12_readLine_49 rfl mlX12_210 lkX12_isWord sh186 ⟨_, _, rfl⟩ rfl rfl (Nat.le_of_ble_eq_true rfl) (Nat.le_of_ble_eq_true rfl) (LX12_isWord_186 Γ _ r0 w0 e_i186 e_l186 (1852143732 : Int64) rfl) rfl ?_
        refine zj_bif_eq (tgt := 60) (pc' := 55) dX12_readLine_52 rfl (by decide) (fun c7 => ?_) (fun c7 => ?_)
        · have hy := zt_f hy c7
          refine zj_aload_n (pc' := 61) 0 dX12_readLine_60 rfl rfl rfl ?_
          refine zj_ldc2 (pc' := 64) dX12_readLine_61 rfl cL1394 ?_
          refine zj_V1 (pc' := 67) (z := YX12_isWord) (As := [.long (28832959090882419 : Int64)]) (N := M) dX12_readLine_64 rfl mlX12_210 lkX12_isWord sh186 ⟨_, _, rfl⟩ rfl rfl (Nat.le_of_ble_eq_true rfl) (Nat.le_of_ble_eq_true rfl) (LX12_isWord_186 Γ _ r0 w0 e_i186 e_l186 (28832959090882419 : Int64) rfl) rfl ?_
          refine zj_bif_eq (tgt := 77) (pc' := 70) dX12_readLine_67 rfl (by decide) (fun c9 => ?_) (fun c9 => ?_)
          · have hy := zt_f hy c9
            refine zj_aload_n (pc' := 78) 0 dX12_readLine_77 rfl rfl rfl ?_
            refine zj_iconst (pc' := 79) dX12_readLine_78 rfl kiconst_1 ?_
            obtain ⟨y11, hy11, hy⟩ := zt_b hy
            refine zj_V1 (pc' := 82) (z := YX12_bad) (As := [.int 1]) (N := (zui M 186 y11.2)) dX12_readLine_79 rfl mlX12_182 lkX12_bad sh186 ⟨_, _, rfl⟩ rfl rfl (Nat.le_of_ble_eq_true rfl) (Nat.le_of_ble_eq_true rfl) (LX12_bad_186 Γ _ r0 e_i186 1 hy11) (rfl).symm ?_
            have e9 := Option.some.inj hy
            subst e9
            refine zj_mem (N := (zui (zul M 186 w0) 186 y11.2)) (zself_l (zq_i e_l186) (zm_li rfl)) ?_
            refine zj_mem (N := (zui (zul (zul M 186 w0) 191 w0_9) 186 y11.2)) (zself_l (zq_i (zq_n rfl e_l191)) (zm_li rfl)) ?_
            refine zj_mem (N := (zui (zui (zul (zul M 186 w0) 191 w0_9) 186 y11.2) 189 r0_7)) (zself_i (zr_n rfl (zr_l (zr_l e_i189))) rfl) ?_
            exact zj_bret (b := y11.1) dX12_readLine_82 rfl hq
          · have hy := zt_t hy c9
            refine zj_aload_n (pc' := 71) 0 dX12_readLine_70 rfl rfl rfl ?_
            obtain ⟨y10, hy10, hy⟩ := zt_b hy
            refine zj_V1 (pc' := 74) (z := YX12_readFollows) (As := []) (N := (zui (zui (zul M 186 y10.2.2.1) 186 y10.2.1) 189 y10.2.2.2)) dX12_readLine_71 rfl mlX12_226 lkX12_readFollows sh186 ⟨_, _, rfl⟩ rfl rfl (Nat.le_of_ble_eq_true rfl) (Nat.le_of_ble_eq_true rfl) (LX12_readFollows_186 Γ _ r0 w0 r0_1 r0_7 w0_9 w0_10 e_i186 e_l186 e_i187 e_i189 e_l191 e_l192 hy10) ((zch_i (zch_i rfl rfl) rfl)).symm ?_
            refine zj_goto (tgt := 82) dX12_readLine_74 (by decide) ?_
            have e9 := Option.some.inj hy
            subst e9
            refine zj_mem (N := (zui (zui (zul (zul M 186 y10.2.2.1) 191 w0_9) 186 y10.2.1) 189 y10.2.2.2)) (zself_l (zq_i (zq_i (zq_n rfl e_l191))) (zm_li (zm_li rfl))) ?_
            exact zj_bret (b := y10.1) dX12_readLine_82 rfl hq
        · have hy := zt_t hy c7
          refine zj_aload_n (pc' := 56) 0 dX12_readLine_55 rfl rfl rfl ?_
          obtain ⟨y8, hy8, hy⟩ := zt_b hy
          refine zj_V1 (pc' := 59) (z := YX12_readNext) (As := []) (N := (zui (zui (zul M 186 y8.2.2.1) 186 y8.2.1) 189 y8.2.2.2)) dX12_readLine_56 rfl mlX12_223 lkX12_readNext sh186 ⟨_, _, rfl⟩ rfl rfl (Nat.le_of_ble_eq_true rfl) (Nat.le_of_ble_eq_true rfl) (LX12_readNext_186 Γ _ r0 w0 r0_1 r0_7 w0_9 w0_10 e_i186 e_l186 e_i187 e_i189 e_l191 e_l192 hy8) ((zch_i (zch_i rfl rfl) rfl)).symm ?_
          have e9 := Option.some.inj hy
          subst e9
          refine zj_mem (N := (zui (zui (zul (zul M 186 y8.2.2.1) 191 w0_9) 186 y8.2.1) 189 y8.2.2.2)) (zself_l (zq_i (zq_i (zq_n rfl e_l191))) (zm_li (zm_li rfl))) ?_
          exact zj_bret (b := y8.1) dX12_readLine_59 rfl hq
      · have hy := zt_t hy c5
        refine zj_aload_n (pc' := 41) 0 dX12_readLine_40 rfl rfl rfl ?_
        obtain ⟨y6, hy6, hy⟩ := zt_b hy
        refine zj_V1 (pc' := 44) (z := YX12_readPerson) (As := []) (N := (zui (zui (zul (zul M 186 y6.2.2.1) 191 y6.2.2.2.2) 186 y6.2.1) 189 y6.2.2.2.1)) dX12_readLine_41 rfl mlX12_220 lkX12_readPerson sh186 ⟨_, _, rfl⟩ rfl rfl (Nat.le_of_ble_eq_true rfl) (Nat.le_of_ble_eq_true rfl) (LX12_readPerson_186 Γ _ r0 w0 r0_1 r0_7 w0_9 w0_10 e_i186 e_l186 e_i187 e_i189 e_l191 e_l192 hy6) ((zch_i (zch_i (zch_l rfl rfl) rfl) rfl)).symm ?_
        have e9 := Option.some.inj hy
        subst e9
        exact zj_bret (b := y6.1) dX12_readLine_44 rfl hq
    · have hy := zt_t hy c3
      refine zj_aload_n (pc' := 26) 0 dX12_readLine_25 rfl rfl rfl ?_
      obtain ⟨y4, hy4, hy⟩ := zt_b hy
      refine zj_V1 (pc' := 29) (z := YX12_readStreet) (As := []) (N := (zui (zui (zul M 186 y4.2.2.1) 186 y4.2.1) 189 y4.2.2.2)) dX12_readLine_26 rfl mlX12_217 lkX12_readStreet sh186 ⟨_, _, rfl⟩ rfl rfl (Nat.le_of_ble_eq_true rfl) (Nat.le_of_ble_eq_true rfl) (LX12_readStreet_186 Γ _ r0 w0 r0_1 r0_7 w0_9 w0_10 e_i186 e_l186 e_i187 e_i189 e_l191 e_l192 hy4) ((zch_i (zch_i rfl rfl) rfl)).symm ?_
      have e9 := Option.some.inj hy
      subst e9
      refine zj_mem (N := (zui (zui (zul (zul M 186 y4.2.2.1) 191 w0_9) 186 y4.2.1) 189 y4.2.2.2)) (zself_l (zq_i (zq_i (zq_n rfl e_l191))) (zm_li (zm_li rfl))) ?_
      exact zj_bret (b := y4.1) dX12_readLine_29 rfl hq
  · have hy := zt_t hy c1
    refine zj_aload_n (pc' := 11) 0 dX12_readLine_10 rfl rfl rfl ?_
    obtain ⟨y2, hy2, hy⟩ := zt_b hy
    refine zj_V1 (pc' := 14) (z := YX12_readCorner) (As := []) (N := (zui (zui (zul (zul M 186 y2.2.2.1) 191 y2.2.2.2.2) 186 y2.2.1) 189 y2.2.2.2.1)) dX12_readLine_11 rfl mlX12_214 lkX12_readCorner sh186 ⟨_, _, rfl⟩ rfl rfl (Nat.le_of_ble_eq_true rfl) (Nat.le_of_ble_eq_true rfl) (LX12_readCorner_186 Γ _ r0 w0 r0_1 r0_7 w0_9 w0_10 e_i186 e_l186 e_i187 e_i189 e_l191 e_l192 hy2) ((zch_i (zch_i (zch_l rfl rfl) rfl) rfl)).symm ?_
    have e9 := Option.some.inj hy
    subst e9
    exact zj_bret (b := y2.1) dX12_readLine_14 rfl hq
set_option maxRecDepth 20000 in
theorem LX12_readLine_186 (Γ : zG) (M : zM) (r0 : Nat → Int32) (w0 : Nat → Int64) (r0_1 : Nat → Int32) (r0_7 : Nat → Int32) (w0_9 : Nat → Int64) (w0_10 : Nat → Int64) (e_i186 : M.1 186 = r0) (e_l186 : M.2 186 = w0) (e_i187 : M.1 187 = r0_1) (e_i189 : M.1 189 = r0_7) (e_l191 : M.2 191 = w0_9) (e_l192 : M.2 192 = w0_10)  {res : Bool × (Nat → Int32) × (Nat → Int64) × (Nat → Int32) × (Nat → Int64)} (hy : (fM_readLine r0 w0 r0_1 r0_7 w0_9 w0_10) = some res) : zK Γ 6 YX12_readLine [.ref (zad Γ 186)] M (fun v N => v = some (.int (zb res.1)) ∧ N = (zui (zui (zul (zul M 186 res.2.2.1) 191 res.2.2.2.2) 186 res.2.1) 189 res.2.2.2.1)) :=
  zK_of (by decide) (Nat.le_of_ble_eq_true rfl) (TX12_readLine_186 Γ M r0 w0 r0_1 r0_7 w0_9 w0_10 e_i186 e_l186 e_i187 e_i189 e_l191 e_l192 hy ⟨rfl, rfl⟩)

noncomputable def fM_isSign (r0 : Nat → Int32) (a1 : Int32) : Bool :=
  (if (r0 11) = 3 then (if (r0 14) = a1 then true else false) else false)

set_option maxRecDepth 20000 in
theorem TX12_isSign_186 (Γ : zG) {Q : Option Value → zM → Prop} (M : zM) (r0 : Nat → Int32) (e_i186 : M.1 186 = r0) (a1 : Int32) {res : Bool} (hy : (fM_isSign r0 a1) = res) (hq : Q (some (.int (zb res))) M) : zR Γ 1 YX12_isSign 0 [(0, .ref (zad Γ 186)), (1, .int a1)] [] M Q := by
  unfold fM_isSign at hy
  refine zj_aload_n (pc' := 1) 0 dX12_isSign_0 rfl rfl rfl ?_
  refine zj_fI (pc' := 4) dX12_isSign_1 rfl flX12_156 sh186 rfl e_i186 rfl ?_
  refine zj_iconst (pc' := 5) dX12_isSign_4 rfl kiconst_3 ?_
  have HJ1 : zR Γ 1 YX12_isSign 21 [(0, .ref (zad Γ 186)), (1, .int a1)] [.int (zb (if (r0 11) = 3 then (if (r0 14) = a1 then true else false) else false))] M Q := by
    subst hy
    exact zj_bret (b := (if (r0 11) = 3 then (if (r0 14) = a1 then true else false) else false)) dX12_isSign_21 rfl hq
  refine zj_icmp_ne (tgt := 20) (pc' := 8) dX12_isSign_5 rfl (by decide) (fun c2 => ?_) (fun c2 => ?_)
  · refine zj_iconst (pc' := 21) dX12_isSign_20 rfl kiconst_0 ?_
    exact zj_eqb (b := false) (if_neg c2) HJ1
  · refine zj_aload_n (pc' := 9) 0 dX12_isSign_8 rfl rfl rfl ?_
    refine zj_fI (pc' := 12) dX12_isSign_9 rfl flX12_166 sh186 rfl e_i186 rfl ?_
    refine zj_iload_n (pc' := 13) 1 dX12_isSign_12 rfl rfl rfl ?_
    refine zj_icmp_ne (tgt := 20) (pc' := 16) dX12_isSign_13 rfl (by decide) (fun c3 => ?_) (fun c3 => ?_)
    · refine zj_iconst (pc' := 21) dX12_isSign_20 rfl kiconst_0 ?_
      exact zj_eqb (b := false) ((if_pos c2).trans (if_neg c3)) HJ1
    · refine zj_iconst (pc' := 17) dX12_isSign_16 rfl kiconst_1 ?_
      refine zj_goto (tgt := 21) dX12_isSign_17 (by decide) ?_
      exact zj_eqb (b := true) ((if_pos c2).trans (if_pos c3)) HJ1
set_option maxRecDepth 20000 in
theorem LX12_isSign_186 (Γ : zG) (M : zM) (r0 : Nat → Int32) (e_i186 : M.1 186 = r0) (a1 : Int32) {res : Bool} (hy : (fM_isSign r0 a1) = res) : zK Γ 1 YX12_isSign [.ref (zad Γ 186), .int a1] M (fun v N => v = some (.int (zb res)) ∧ N = M) :=
  zK_of (by decide) (Nat.le_of_ble_eq_true rfl) (TX12_isSign_186 Γ M r0 e_i186 a1 hy ⟨rfl, rfl⟩)

noncomputable def fM_sign (r0 : Nat → Int32) (w0 : Nat → Int64) (r0_1 : Nat → Int32) (a1 : Int32) : Option (Bool × (Nat → Int32) × (Nat → Int64)) :=
  (if (fM_isSign r0 a1) = true then
  (fM_next r0 w0 r0_1).bind (fun (y2 : (Nat → Int32) × (Nat → Int64)) =>
  some (true, y2.1, y2.2))
  else
  (fM_bad r0 1).bind (fun (y3 : Bool × (Nat → Int32)) =>
  some (y3.1, y3.2, w0)))

set_option maxRecDepth 20000 in
theorem TX12_sign_186 (Γ : zG) {Q : Option Value → zM → Prop} (M : zM) (r0 : Nat → Int32) (w0 : Nat → Int64) (r0_1 : Nat → Int32) (e_i186 : M.1 186 = r0) (e_l186 : M.2 186 = w0) (e_i187 : M.1 187 = r0_1) (a1 : Int32) {res : Bool × (Nat → Int32) × (Nat → Int64)} (hy : (fM_sign r0 w0 r0_1 a1) = some res) (hq : Q (some (.int (zb res.1))) (zui (zul M 186 res.2.2) 186 res.2.1)) : zR Γ 3 YX12_sign 0 [(0, .ref (zad Γ 186)), (1, .int a1)] [] M Q := by
  unfold fM_sign at hy
  refine zj_aload_n (pc' := 1) 0 dX12_sign_0 rfl rfl rfl ?_
  refine zj_iload_n (pc' := 2) 1 dX12_sign_1 rfl rfl rfl ?_
  refine zj_V1 (pc' := 5) (z := YX12_isSign) (As := [.int a1]) (N := M) dX12_sign_2 rfl mlX12_179 lkX12_isSign sh186 ⟨_, _, rfl⟩ rfl rfl (Nat.le_of_ble_eq_true rfl) (Nat.le_of_ble_eq_true rfl) (LX12_isSign_186 Γ _ r0 e_i186 a1 rfl) rfl ?_
  refine zj_bif_ne (tgt := 14) (pc' := 8) dX12_sign_5 rfl (by decide) (fun c1 => ?_) (fun c1 => ?_)
  · have hy := zt_t hy c1
    refine zj_aload_n (pc' := 15) 0 dX12_sign_14 rfl rfl rfl ?_
    obtain ⟨y2, hy2, hy⟩ := zt_b hy
    refine zj_V0 (pc' := 18) (z := YX12_next) (As := []) (N := (zui (zul M 186 y2.2) 186 y2.1)) dX12_sign_15 rfl mlX12_185 lkX12_next sh186 ⟨_, _, rfl⟩ rfl rfl (Nat.le_of_ble_eq_true rfl) (Nat.le_of_ble_eq_true rfl) (LX12_next_186 Γ _ r0 w0 r0_1 e_i186 e_l186 e_i187 hy2) ((zch_i rfl rfl)).symm ?_
    refine zj_iconst (pc' := 19) dX12_sign_18 rfl kiconst_1 ?_
    have e9 := Option.some.inj hy
    subst e9
    exact zj_bret (b := true) dX12_sign_19 rfl hq
  · have hy := zt_f hy c1
    refine zj_aload_n (pc' := 9) 0 dX12_sign_8 rfl rfl rfl ?_
    refine zj_iconst (pc' := 10) dX12_sign_9 rfl kiconst_1 ?_
    obtain ⟨y3, hy3, hy⟩ := zt_b hy
    refine zj_V1 (pc' := 13) (z := YX12_bad) (As := [.int 1]) (N := (zui M 186 y3.2)) dX12_sign_10 rfl mlX12_182 lkX12_bad sh186 ⟨_, _, rfl⟩ rfl rfl (Nat.le_of_ble_eq_true rfl) (Nat.le_of_ble_eq_true rfl) (LX12_bad_186 Γ _ r0 e_i186 1 hy3) (rfl).symm ?_
    have e9 := Option.some.inj hy
    subst e9
    refine zj_mem (N := (zui (zul M 186 w0) 186 y3.2)) (zself_l (zq_i e_l186) (zm_li rfl)) ?_
    exact zj_bret (b := y3.1) dX12_sign_13 rfl hq
set_option maxRecDepth 20000 in
theorem LX12_sign_186 (Γ : zG) (M : zM) (r0 : Nat → Int32) (w0 : Nat → Int64) (r0_1 : Nat → Int32) (e_i186 : M.1 186 = r0) (e_l186 : M.2 186 = w0) (e_i187 : M.1 187 = r0_1) (a1 : Int32) {res : Bool × (Nat → Int32) × (Nat → Int64)} (hy : (fM_sign r0 w0 r0_1 a1) = some res) : zK Γ 3 YX12_sign [.ref (zad Γ 186), .int a1] M (fun v N => v = some (.int (zb res.1)) ∧ N = (zui (zul M 186 res.2.2) 186 res.2.1)) :=
  zK_of (by decide) (Nat.le_of_ble_eq_true rfl) (TX12_sign_186 Γ M r0 w0 r0_1 e_i186 e_l186 e_i187 a1 hy ⟨rfl, rfl⟩)

noncomputable def fM_isBeside (r0_6 : Nat → Int32) (a1 : Int32) (a2 : Int32) : Option (Bool) :=
  (zrd r0_6 397 (3 + a1)).bind (fun (v1 : Int32) =>
  some (fM_bitOf v1 a2))

set_option maxRecDepth 20000 in
theorem TX12_isBeside_186 (Γ : zG) {Q : Option Value → zM → Prop} (M : zM) (r0_6 : Nat → Int32) (e_i188 : M.1 188 = r0_6) (a1 : Int32) (a2 : Int32) {res : Bool} (hy : (fM_isBeside r0_6 a1 a2) = some res) (hq : Q (some (.int (zb res))) M) : zR Γ 2 YX12_isBeside 0 [(0, .ref (zad Γ 186)), (1, .int a1), (2, .int a2)] [] M Q := by
  unfold fM_isBeside at hy
  refine zj_aload_n (pc' := 1) 0 dX12_isBeside_0 rfl rfl rfl ?_
  refine zj_getR (pc' := 4) (j := 188) dX12_isBeside_1 rfl flX12_33 sh186 rfl ?_
  refine zj_iconst (pc' := 5) dX12_isBeside_4 rfl kiconst_3 ?_
  refine zj_iload_n (pc' := 6) 1 dX12_isBeside_5 rfl rfl rfl ?_
  refine zj_iadd (pc' := 7) dX12_isBeside_6 rfl ?_
  obtain ⟨v1, hv1, hy⟩ := zt_b hy
  refine zj_rdi (pc' := 8) dX12_isBeside_7 rfl sh188 e_i188 hv1 ?_
  refine zj_iload_n (pc' := 9) 2 dX12_isBeside_8 rfl rfl rfl ?_
  refine zj_S1 (pc' := 12) (z := YX12_bitOf) (As := [.int v1, .int a2]) (N := M) dX12_isBeside_9 rfl mlX12_235 lkX12_bitOf rfl rfl (Nat.le_of_ble_eq_true rfl) (Nat.le_of_ble_eq_true rfl) (LX12_bitOf Γ _ v1 a2 rfl) rfl ?_
  have e9 := Option.some.inj hy
  subst e9
  exact zj_bret (b := (fM_bitOf v1 a2)) dX12_isBeside_12 rfl hq
set_option maxRecDepth 20000 in
theorem LX12_isBeside_186 (Γ : zG) (M : zM) (r0_6 : Nat → Int32) (e_i188 : M.1 188 = r0_6) (a1 : Int32) (a2 : Int32) {res : Bool} (hy : (fM_isBeside r0_6 a1 a2) = some res) : zK Γ 2 YX12_isBeside [.ref (zad Γ 186), .int a1, .int a2] M (fun v N => v = some (.int (zb res)) ∧ N = M) :=
  zK_of (by decide) (Nat.le_of_ble_eq_true rfl) (TX12_isBeside_186 Γ M r0_6 e_i188 a1 a2 hy ⟨rfl, rfl⟩)

noncomputable def fM_lesser (a1 : Int32) (a2 : Int32) : Int32 :=
  (if a2 ≤ a1 then a2 else a1)

set_option maxRecDepth 20000 in
theorem TX12_lesser (Γ : zG) {Q : Option Value → zM → Prop} (M : zM)   (a1 : Int32) (a2 : Int32) {res : Int32} (hy : (fM_lesser a1 a2) = res) (hq : Q (some (.int res)) M) : zR Γ 1 YX12_lesser 0 [(0, .int a1), (1, .int a2)] [] M Q := by
  unfold fM_lesser at hy
  refine zj_iload_n (pc' := 1) 0 dX12_lesser_0 rfl rfl rfl ?_
  refine zj_iload_n (pc' := 2) 1 dX12_lesser_1 rfl rfl rfl ?_
  have HJ1 : zR Γ 1 YX12_lesser 10 [(0, .int a1), (1, .int a2)] [.int (if a2 ≤ a1 then a2 else a1)] M Q := by
    subst hy
    exact zj_iret dX12_lesser_10 rfl hq
  refine zj_icmp_ge (tgt := 9) (pc' := 5) dX12_lesser_2 rfl (by decide) (fun c2 => ?_) (fun c2 => ?_)
  · refine zj_iload_n (pc' := 10) 1 dX12_lesser_9 rfl rfl rfl ?_
    exact zj_eqi (if_pos c2) HJ1
  · refine zj_iload_n (pc' := 6) 0 dX12_lesser_5 rfl rfl rfl ?_
    refine zj_goto (tgt := 10) dX12_lesser_6 (by decide) ?_
    exact zj_eqi (if_neg c2) HJ1
set_option maxRecDepth 20000 in
theorem LX12_lesser (Γ : zG) (M : zM)   (a1 : Int32) (a2 : Int32) {res : Int32} (hy : (fM_lesser a1 a2) = res) : zK Γ 1 YX12_lesser [.int a1, .int a2] M (fun v N => v = some (.int res) ∧ N = M) :=
  zK_of (by decide) (Nat.le_of_ble_eq_true rfl) (TX12_lesser Γ M a1 a2 hy ⟨rfl, rfl⟩)

noncomputable def fM_laysApart_L10 (r0_6 : Nat → Int32) (x2 : Int32) (r0_20v11 : Nat → Int32) (x12 : Int32) : Option (((Nat → Int32) × Int32) ⊕ ((Nat → Int32))) :=
  (if 8 ≤ x12 then
  some (.inr r0_20v11)
  else
  (if x2 = x12 then
  (zwr r0_20v11 64 ((8 * x2) + x12) 0).bind (fun (r0_20v22 : Nat → Int32) =>
  zlet (x12 + 1) (fun (x23 : Int32) =>
  some (.inl (r0_20v22, x23))))
  else
  (fM_isBeside r0_6 x2 x12).bind (fun (y24 : Bool) =>
  (zwr r0_20v11 64 ((8 * x2) + x12) (if y24 = true then (1 : Int32) else (1000000 : Int32))).bind (fun (r0_20v27 : Nat → Int32) =>
  zlet (x12 + 1) (fun (x28 : Int32) =>
  some (.inl (r0_20v27, x28)))))))
noncomputable def fM_laysApart_L2 (r0_6 : Nat → Int32) (r0_20v1 : Nat → Int32) (x2 : Int32) : Option (((Nat → Int32) × Int32) ⊕ ((Nat → Int32))) :=
  (if 8 ≤ x2 then
  some (.inr r0_20v1)
  else
  (zLP (fun s => fM_laysApart_L10 r0_6 x2 s.1 s.2) (r0_20v1, 0)).bind (fun r15 =>
  zlet (x2 + 1) (fun (x30 : Int32) =>
  some (.inl (r15, x30)))))
noncomputable def fM_laysApart_L82 (x33 : Int32) (x43 : Int32) (r0_20v52 : Nat → Int32) (x53 : Int32) : Option (((Nat → Int32) × Int32) ⊕ ((Nat → Int32))) :=
  (if 8 ≤ x53 then
  some (.inr r0_20v52)
  else
  (zrd r0_20v52 64 ((8 * x43) + x53)).bind (fun (v62 : Int32) =>
  (zrd r0_20v52 64 ((8 * x43) + x33)).bind (fun (v63 : Int32) =>
  (zrd r0_20v52 64 ((8 * x33) + x53)).bind (fun (v64 : Int32) =>
  (zwr r0_20v52 64 ((8 * x43) + x53) (fM_lesser v62 (v63 + v64))).bind (fun (r0_20v65 : Nat → Int32) =>
  zlet (x53 + 1) (fun (x66 : Int32) =>
  some (.inl (r0_20v65, x66))))))))
noncomputable def fM_laysApart_L74 (x33 : Int32) (r0_20v42 : Nat → Int32) (x43 : Int32) : Option (((Nat → Int32) × Int32) ⊕ ((Nat → Int32))) :=
  (if 8 ≤ x43 then
  some (.inr r0_20v42)
  else
  (zLP (fun s => fM_laysApart_L82 x33 x43 s.1 s.2) (r0_20v42, 0)).bind (fun r56 =>
  zlet (x43 + 1) (fun (x68 : Int32) =>
  some (.inl (r56, x68)))))
noncomputable def fM_laysApart_L66 (r0_20v32 : Nat → Int32) (x33 : Int32) : Option (((Nat → Int32) × Int32) ⊕ ((Nat → Int32))) :=
  (if 8 ≤ x33 then
  some (.inr r0_20v32)
  else
  (zLP (fun s => fM_laysApart_L74 x33 s.1 s.2) (r0_20v32, 0)).bind (fun r46 =>
  zlet (x33 + 1) (fun (x70 : Int32) =>
  some (.inl (r46, x70)))))
noncomputable def fM_laysApart (r0_6 : Nat → Int32) (r0_20 : Nat → Int32) : Option ((Nat → Int32)) :=
  (zLP (fun s => fM_laysApart_L2 r0_6 s.1 s.2) (r0_20, 0)).bind (fun r5 =>
  (zLP (fun s => fM_laysApart_L66 s.1 s.2) (r5, 0)).bind (fun r36 =>
  some r36))

set_option maxRecDepth 20000 in
theorem TX12_laysApart_186 (Γ : zG) {Q : Option Value → zM → Prop} (M : zM) (r0_6 : Nat → Int32) (r0_20 : Nat → Int32) (e_i188 : M.1 188 = r0_6) (e_i193 : M.1 193 = r0_20)  {res : (Nat → Int32)} (hy : (fM_laysApart r0_6 r0_20) = some res) (hq : Q none (zui M 193 res)) : zR Γ 3 YX12_laysApart 0 [(0, .ref (zad Γ 186))] [] M Q := by
  unfold fM_laysApart at hy
  refine zj_iconst (pc' := 1) dX12_laysApart_0 rfl kiconst_0 ?_
  refine zj_istore_n (pc' := 2) (L' := [(1, .int 0), (0, .ref (zad Γ 186))]) dX12_laysApart_1 rfl rfl (by decide) rfl ?_
  refine zj_loc [1, 0] rfl ?_
  refine zj_mem (N := (zui M 193 r0_20)) (zself_i e_i193 rfl) ?_
  obtain ⟨r5, hr9, hyo6⟩ := zt_b hy
  obtain ⟨n9, hn9⟩ := zLP_some hr9
  have HE3 : ∀ (r0_20v31 : Nat → Int32), r5 = r0_20v31 → zR Γ 3 YX12_laysApart 64 [(0, .ref (zad Γ 186))] [] (zui M 193 r0_20v31) Q := by
    intro r0_20v31 e9
    have hy := hyo6
    try rw [e9] at hy
    try dsimp only at hy
    refine zj_iconst (pc' := 65) dX12_laysApart_64 rfl kiconst_0 ?_
    refine zj_istore_n (pc' := 66) (L' := [(1, .int 0), (0, .ref (zad Γ 186))]) dX12_laysApart_65 rfl rfl (by decide) rfl ?_
    refine zj_loc [1, 0] rfl ?_
    obtain ⟨r36, hr9, hyo37⟩ := zt_b hy
    obtain ⟨n9, hn9⟩ := zLP_some hr9
    have HE34 : ∀ (r0_20v71 : Nat → Int32), r36 = r0_20v71 → zR Γ 3 YX12_laysApart 154 [] [] (zui M 193 r0_20v71) Q := by
      intro r0_20v71 e9
      have hy := hyo37
      try rw [e9] at hy
      try dsimp only at hy
      have e9 := Option.some.inj hy
      subst e9
      exact zj_vret dX12_laysApart_154 rfl hq
    have HL35 : ∀ (n : Nat) (r0_20v32 : Nat → Int32) (x33 : Int32), zlp (fun s => fM_laysApart_L66 s.1 s.2) n (r0_20v32, x33) = some r36 → zR Γ 3 YX12_laysApart 66 [(0, .ref (zad Γ 186)), (1, .int x33)] [] (zui M 193 r0_20v32) Q := by
      intro n
      induction n with
      | zero => intro r0_20v32 x33 hn9; cases hn9
      | succ n ih38 =>
        intro r0_20v32 x33 hn9
        obtain ⟨o9, hb9, h39, h40⟩ := zlp_step hn9
        have hy : fM_laysApart_L66 r0_20v32 x33 = some o9 := hb9
        unfold fM_laysApart_L66 at hy
        refine zj_iload_n (pc' := 67) 1 dX12_laysApart_66 rfl rfl rfl ?_
        refine zj_bipush (pc' := 69) dX12_laysApart_67 rfl kbipush_8 ?_
        refine zj_icmp_ge (tgt := 154) (pc' := 72) dX12_laysApart_69 rfl (by decide) (fun c41 => ?_) (fun c41 => ?_)
        · have hy := zt_t hy c41
          have e9 := h40 _ (Option.some.inj hy).symm
          refine zj_loc [] rfl ?_
          exact HE34 _ e9.symm
        · have hy := zt_f hy c41
          refine zj_iconst (pc' := 73) dX12_laysApart_72 rfl kiconst_0 ?_
          refine zj_istore_n (pc' := 74) (L' := [(2, .int 0), (0, .ref (zad Γ 186)), (1, .int x33)]) dX12_laysApart_73 rfl rfl (by decide) rfl ?_
          refine zj_loc [1, 2, 0] rfl ?_
          obtain ⟨r46, hr9, hyo47⟩ := zt_b hy
          obtain ⟨n9, hn9⟩ := zLP_some hr9
          have HE44 : ∀ (r0_20v69 : Nat → Int32), r46 = r0_20v69 → zR Γ 3 YX12_laysApart 148 [(0, .ref (zad Γ 186)), (1, .int x33)] [] (zui M 193 r0_20v69) Q := by
            intro r0_20v69 e9
            have hy := hyo47
            try rw [e9] at hy
            try dsimp only at hy
            obtain ⟨x70, ex70⟩ : ∃ z : Int32, z = (x33 + 1) := ⟨_, rfl⟩
            have hy := zlet_at ex70 hy
            refine zj_iinc (pc' := 151) 1 (L' := [(1, .int x70), (0, .ref (zad Γ 186))]) dX12_laysApart_148 rfl rfl (by decide) (by rw [ci1, ← ex70]; rfl) ?_
            refine zj_goto (tgt := 66) dX12_laysApart_151 (by decide) ?_
            have hn9 := h39 _ (Option.some.inj hy).symm
            refine zj_loc [1, 0] rfl ?_
            exact ih38 _ _ hn9
          have HL45 : ∀ (n : Nat) (r0_20v42 : Nat → Int32) (x43 : Int32), zlp (fun s => fM_laysApart_L74 x33 s.1 s.2) n (r0_20v42, x43) = some r46 → zR Γ 3 YX12_laysApart 74 [(0, .ref (zad Γ 186)), (1, .int x33), (2, .int x43)] [] (zui M 193 r0_20v42) Q := by
            intro n
            induction n with
            | zero => intro r0_20v42 x43 hn9; cases hn9
            | succ n ih48 =>
              intro r0_20v42 x43 hn9
              obtain ⟨o9, hb9, h49, h50⟩ := zlp_step hn9
              have hy : fM_laysApart_L74 x33 r0_20v42 x43 = some o9 := hb9
              unfold fM_laysApart_L74 at hy
              refine zj_iload_n (pc' := 75) 2 dX12_laysApart_74 rfl rfl rfl ?_
              refine zj_bipush (pc' := 77) dX12_laysApart_75 rfl kbipush_8 ?_
              refine zj_icmp_ge (tgt := 148) (pc' := 80) dX12_laysApart_77 rfl (by decide) (fun c51 => ?_) (fun c51 => ?_)
              · have hy := zt_t hy c51
                have e9 := h50 _ (Option.some.inj hy).symm
                refine zj_loc [0, 1] rfl ?_
                exact HE44 _ e9.symm
              · have hy := zt_f hy c51
                refine zj_iconst (pc' := 81) dX12_laysApart_80 rfl kiconst_0 ?_
                refine zj_istore_n (pc' := 82) (L' := [(3, .int 0), (0, .ref (zad Γ 186)), (1, .int x33), (2, .int x43)]) dX12_laysApart_81 rfl rfl (by decide) rfl ?_
                refine zj_loc [1, 2, 3, 0] rfl ?_
                obtain ⟨r56, hr9, hyo57⟩ := zt_b hy
                obtain ⟨n9, hn9⟩ := zLP_some hr9
                have HE54 : ∀ (r0_20v67 : Nat → Int32), r56 = r0_20v67 → zR Γ 3 YX12_laysApart 142 [(0, .ref (zad Γ 186)), (1, .int x33), (2, .int x43)] [] (zui M 193 r0_20v67) Q := by
                  intro r0_20v67 e9
                  have hy := hyo57
                  try rw [e9] at hy
                  try dsimp only at hy
                  obtain ⟨x68, ex68⟩ : ∃ z : Int32, z = (x43 + 1) := ⟨_, rfl⟩
                  have hy := zlet_at ex68 hy
                  refine zj_iinc (pc' := 145) 2 (L' := [(2, .int x68), (0, .ref (zad Γ 186)), (1, .int x33)]) dX12_laysApart_142 rfl rfl (by decide) (by rw [ci1, ← ex68]; rfl) ?_
                  refine zj_goto (tgt := 74) dX12_laysApart_145 (by decide) ?_
                  have hn9 := h49 _ (Option.some.inj hy).symm
                  refine zj_loc [1, 2, 0] rfl ?_
                  exact ih48 _ _ hn9
                have HL55 : ∀ (n : Nat) (r0_20v52 : Nat → Int32) (x53 : Int32), zlp (fun s => fM_laysApart_L82 x33 x43 s.1 s.2) n (r0_20v52, x53) = some r56 → zR Γ 3 YX12_laysApart 82 [(0, .ref (zad Γ 186)), (1, .int x33), (2, .int x43), (3, .int x53)] [] (zui M 193 r0_20v52) Q := by
                  intro n
                  induction n with
                  | zero => intro r0_20v52 x53 hn9; cases hn9
                  | succ n ih58 =>
                    intro r0_20v52 x53 hn9
                    obtain ⟨o9, hb9, h59, h60⟩ := zlp_step hn9
                    have hy : fM_laysApart_L82 x33 x43 r0_20v52 x53 = some o9 := hb9
                    unfold fM_laysApart_L82 at hy
                    refine zj_iload_n (pc' := 83) 3 dX12_laysApart_82 rfl rfl rfl ?_
                    refine zj_bipush (pc' := 85) dX12_laysApart_83 rfl kbipush_8 ?_
                    refine zj_icmp_ge (tgt := 142) (pc' := 88) dX12_laysApart_85 rfl (by decide) (fun c61 => ?_) (fun c61 => ?_)
                    · have hy := zt_t hy c61
                      have e9 := h60 _ (Option.some.inj hy).symm
                      refine zj_loc [0, 1, 2] rfl ?_
                      exact HE54 _ e9.symm
                    · have hy := zt_f hy c61
                      refine zj_aload_n (pc' := 89) 0 dX12_laysApart_88 rfl rfl rfl ?_
                      refine zj_getR (pc' := 92) (j := 193) dX12_laysApart_89 rfl flX12_50 sh186 rfl ?_
                      refine zj_bipush (pc' := 94) dX12_laysApart_92 rfl kbipush_8 ?_
                      refine zj_iload_n (pc' := 95) 2 dX12_laysApart_94 rfl rfl rfl ?_
                      refine zj_imul (pc' := 96) dX12_laysApart_95 rfl ?_
                      refine zj_iload_n (pc' := 97) 3 dX12_laysApart_96 rfl rfl rfl ?_
                      refine zj_iadd (pc' := 98) dX12_laysApart_97 rfl ?_
                      refine zj_aload_n (pc' := 99) 0 dX12_laysApart_98 rfl rfl rfl ?_
                      refine zj_getR (pc' := 102) (j := 193) dX12_laysApart_99 rfl flX12_50 sh186 rfl ?_
                      refine zj_bipush (pc' := 104) dX12_laysApart_102 rfl kbipush_8 ?_
                      refine zj_iload_n (pc' := 105) 2 dX12_laysApart_104 rfl rfl rfl ?_
                      refine zj_imul (pc' := 106) dX12_laysApart_105 rfl ?_
                      refine zj_iload_n (pc' := 107) 3 dX12_laysApart_106 rfl rfl rfl ?_
                      refine zj_iadd (pc' := 108) dX12_laysApart_107 rfl ?_
                      obtain ⟨v62, hv62, hy⟩ := zt_b hy
                      refine zj_rdi (pc' := 109) dX12_laysApart_108 rfl sh193 zr_s hv62 ?_
                      refine zj_aload_n (pc' := 110) 0 dX12_laysApart_109 rfl rfl rfl ?_
                      refine zj_getR (pc' := 113) (j := 193) dX12_laysApart_110 rfl flX12_50 sh186 rfl ?_
                      refine zj_bipush (pc' := 115) dX12_laysApart_113 rfl kbipush_8 ?_
                      refine zj_iload_n (pc' := 116) 2 dX12_laysApart_115 rfl rfl rfl ?_
                      refine zj_imul (pc' := 117) dX12_laysApart_116 rfl ?_
                      refine zj_iload_n (pc' := 118) 1 dX12_laysApart_117 rfl rfl rfl ?_
                      refine zj_iadd (pc' := 119) dX12_laysApart_118 rfl ?_
                      obtain ⟨v63, hv63, hy⟩ := zt_b hy
                      refine zj_rdi (pc' := 120) dX12_laysApart_119 rfl sh193 zr_s hv63 ?_
                      refine zj_aload_n (pc' := 121) 0 dX12_laysApart_120 rfl rfl rfl ?_
                      refine zj_getR (pc' := 124) (j := 193) dX12_laysApart_121 rfl flX12_50 sh186 rfl ?_
                      refine zj_bipush (pc' := 126) dX12_laysApart_124 rfl kbipush_8 ?_
                      refine zj_iload_n (pc' := 127) 1 dX12_laysApart_126 rfl rfl rfl ?_
                      refine zj_imul (pc' := 128) dX12_laysApart_127 rfl ?_
                      refine zj_iload_n (pc' := 129) 3 dX12_laysApart_128 rfl rfl rfl ?_
                      refine zj_iadd (pc' := 130) dX12_laysApart_129 rfl ?_
                      obtain ⟨v64, hv64, hy⟩ := zt_b hy
                      refine zj_rdi (pc' := 131) dX12_laysApart_130 rfl sh193 zr_s hv64 ?_
                      refine zj_iadd (pc' := 132) dX12_laysApart_131 rfl ?_
                      refine zj_S1 (pc' := 135) (z := YX12_lesser) (As := [.int v62, .int (v63 + v64)]) (N := (zui M 193 r0_20v52)) dX12_laysApart_132 rfl mlX12_263 lkX12_lesser rfl rfl (Nat.le_of_ble_eq_true rfl) (Nat.le_of_ble_eq_true rfl) (LX12_lesser Γ _ v62 (v63 + v64) rfl) rfl ?_
                      obtain ⟨r0_20v65, hr0_20v65, hy⟩ := zt_b hy
                      refine zj_wri (pc' := 136) (N := (zui M 193 r0_20v65)) dX12_laysApart_135 rfl sh193 zr_s hr0_20v65 zm_s ?_
                      obtain ⟨x66, ex66⟩ : ∃ z : Int32, z = (x53 + 1) := ⟨_, rfl⟩
                      have hy := zlet_at ex66 hy
                      refine zj_iinc (pc' := 139) 3 (L' := [(3, .int x66), (0, .ref (zad Γ 186)), (1, .int x33), (2, .int x43)]) dX12_laysApart_136 rfl rfl (by decide) (by rw [ci1, ← ex66]; rfl) ?_
                      refine zj_goto (tgt := 82) dX12_laysApart_139 (by decide) ?_
                      have hn9 := h59 _ (Option.some.inj hy).symm
                      refine zj_loc [1, 2, 3, 0] rfl ?_
                      exact ih58 _ _ hn9
                exact HL55 n9 _ _ hn9
          exact HL45 n9 _ _ hn9
    exact HL35 n9 _ _ hn9
  have HL4 : ∀ (n : Nat) (r0_20v1 : Nat → Int32) (x2 : Int32), zlp (fun s => fM_laysApart_L2 r0_6 s.1 s.2) n (r0_20v1, x2) = some r5 → zR Γ 3 YX12_laysApart 2 [(0, .ref (zad Γ 186)), (1, .int x2)] [] (zui M 193 r0_20v1) Q := by
    intro n
    induction n with
    | zero => intro r0_20v1 x2 hn9; cases hn9
    | succ n ih7 =>
      intro r0_20v1 x2 hn9
      obtain ⟨o9, hb9, h8, h9⟩ := zlp_step hn9
      have hy : fM_laysApart_L2 r0_6 r0_20v1 x2 = some o9 := hb9
      unfold fM_laysApart_L2 at hy
      refine zj_iload_n (pc' := 3) 1 dX12_laysApart_2 rfl rfl rfl ?_
      refine zj_bipush (pc' := 5) dX12_laysApart_3 rfl kbipush_8 ?_
      refine zj_icmp_ge (tgt := 64) (pc' := 8) dX12_laysApart_5 rfl (by decide) (fun c10 => ?_) (fun c10 => ?_)
      · have hy := zt_t hy c10
        have e9 := h9 _ (Option.some.inj hy).symm
        refine zj_loc [0] rfl ?_
        exact HE3 _ e9.symm
      · have hy := zt_f hy c10
        refine zj_iconst (pc' := 9) dX12_laysApart_8 rfl kiconst_0 ?_
        refine zj_istore_n (pc' := 10) (L' := [(2, .int 0), (0, .ref (zad Γ 186)), (1, .int x2)]) dX12_laysApart_9 rfl rfl (by decide) rfl ?_
        refine zj_loc [1, 2, 0] rfl ?_
        obtain ⟨r15, hr9, hyo16⟩ := zt_b hy
        obtain ⟨n9, hn9⟩ := zLP_some hr9
        have HE13 : ∀ (r0_20v29 : Nat → Int32), r15 = r0_20v29 → zR Γ 3 YX12_laysApart 58 [(0, .ref (zad Γ 186)), (1, .int x2)] [] (zui M 193 r0_20v29) Q := by
          intro r0_20v29 e9
          have hy := hyo16
          try rw [e9] at hy
          try dsimp only at hy
          obtain ⟨x30, ex30⟩ : ∃ z : Int32, z = (x2 + 1) := ⟨_, rfl⟩
          have hy := zlet_at ex30 hy
          refine zj_iinc (pc' := 61) 1 (L' := [(1, .int x30), (0, .ref (zad Γ 186))]) dX12_laysApart_58 rfl rfl (by decide) (by rw [ci1, ← ex30]; rfl) ?_
          refine zj_goto (tgt := 2) dX12_laysApart_61 (by decide) ?_
          have hn9 := h8 _ (Option.some.inj hy).symm
          refine zj_loc [1, 0] rfl ?_
          exact ih7 _ _ hn9
        have HL14 : ∀ (n : Nat) (r0_20v11 : Nat → Int32) (x12 : Int32), zlp (fun s => fM_laysApart_L10 r0_6 x2 s.1 s.2) n (r0_20v11, x12) = some r15 → zR Γ 3 YX12_laysApart 10 [(0, .ref (zad Γ 186)), (1, .int x2), (2, .int x12)] [] (zui M 193 r0_20v11) Q := by
          intro n
          induction n with
          | zero => intro r0_20v11 x12 hn9; cases hn9
          | succ n ih17 =>
            intro r0_20v11 x12 hn9
            obtain ⟨o9, hb9, h18, h19⟩ := zlp_step hn9
            have hy : fM_laysApart_L10 r0_6 x2 r0_20v11 x12 = some o9 := hb9
            unfold fM_laysApart_L10 at hy
            refine zj_iload_n (pc' := 11) 2 dX12_laysApart_10 rfl rfl rfl ?_
            refine zj_bipush (pc' := 13) dX12_laysApart_11 rfl kbipush_8 ?_
            refine zj_icmp_ge (tgt := 58) (pc' := 16) dX12_laysApart_13 rfl (by decide) (fun c20 => ?_) (fun c20 => ?_)
            · have hy := zt_t hy c20
              have e9 := h19 _ (Option.some.inj hy).symm
              refine zj_loc [0, 1] rfl ?_
              exact HE13 _ e9.symm
            · have hy := zt_f hy c20
              refine zj_aload_n (pc' := 17) 0 dX12_laysApart_16 rfl rfl rfl ?_
              refine zj_getR (pc' := 20) (j := 193) dX12_laysApart_17 rfl flX12_50 sh186 rfl ?_
              refine zj_bipush (pc' := 22) dX12_laysApart_20 rfl kbipush_8 ?_
              refine zj_iload_n (pc' := 23) 1 dX12_laysApart_22 rfl rfl rfl ?_
              refine zj_imul (pc' := 24) dX12_laysApart_23 rfl ?_
              refine zj_iload_n (pc' := 25) 2 dX12_laysApart_24 rfl rfl rfl ?_
              refine zj_iadd (pc' := 26) dX12_laysApart_25 rfl ?_
              refine zj_iload_n (pc' := 27) 1 dX12_laysApart_26 rfl rfl rfl ?_
              refine zj_iload_n (pc' := 28) 2 dX12_laysApart_27 rfl rfl rfl ?_
              refine zj_icmp_ne (tgt := 35) (pc' := 31) dX12_laysApart_28 rfl (by decide) (fun c21 => ?_) (fun c21 => ?_)
              · have hy := zt_f hy c21
                refine zj_aload_n (pc' := 36) 0 dX12_laysApart_35 rfl rfl rfl ?_
                refine zj_iload_n (pc' := 37) 1 dX12_laysApart_36 rfl rfl rfl ?_
                refine zj_iload_n (pc' := 38) 2 dX12_laysApart_37 rfl rfl rfl ?_
                obtain ⟨y24, hy24, hy⟩ := zt_b hy
                refine zj_V1 (pc' := 41) (z := YX12_isBeside) (As := [.int x2, .int x12]) (N := (zui M 193 r0_20v11)) dX12_laysApart_38 rfl mlX12_259 lkX12_isBeside sh186 ⟨_, _, rfl⟩ rfl rfl (Nat.le_of_ble_eq_true rfl) (Nat.le_of_ble_eq_true rfl) (LX12_isBeside_186 Γ _ r0_6 (zr_n rfl e_i188) x2 x12 hy24) rfl ?_
                have HJ25 : zR Γ 3 YX12_laysApart 51 [(0, .ref (zad Γ 186)), (1, .int x2), (2, .int x12)] [.int (if y24 = true then (1 : Int32) else (1000000 : Int32)), .int ((8 * x2) + x12), .ref (zad Γ 193)] (zui M 193 r0_20v11) Q := by
                  obtain ⟨r0_20v27, hr0_20v27, hy⟩ := zt_b hy
                  refine zj_wri (pc' := 52) (N := (zui M 193 r0_20v27)) dX12_laysApart_51 rfl sh193 zr_s hr0_20v27 zm_s ?_
                  obtain ⟨x28, ex28⟩ : ∃ z : Int32, z = (x12 + 1) := ⟨_, rfl⟩
                  have hy := zlet_at ex28 hy
                  refine zj_iinc (pc' := 55) 2 (L' := [(2, .int x28), (0, .ref (zad Γ 186)), (1, .int x2)]) dX12_laysApart_52 rfl rfl (by decide) (by rw [ci1, ← ex28]; rfl) ?_
                  refine zj_goto (tgt := 10) dX12_laysApart_55 (by decide) ?_
                  have hn9 := h18 _ (Option.some.inj hy).symm
                  refine zj_loc [1, 2, 0] rfl ?_
                  exact ih17 _ _ hn9
                refine zj_bif_eq (tgt := 48) (pc' := 44) dX12_laysApart_41 rfl (by decide) (fun c26 => ?_) (fun c26 => ?_)
                · refine zj_ldcw (pc' := 51) dX12_laysApart_48 rfl cI1681 ?_
                  exact zj_eqi (if_neg c26) HJ25
                · refine zj_iconst (pc' := 45) dX12_laysApart_44 rfl kiconst_1 ?_
                  refine zj_goto (tgt := 51) dX12_laysApart_45 (by decide) ?_
                  exact zj_eqi (if_pos c26) HJ25
              · have hy := zt_t hy c21
                refine zj_iconst (pc' := 32) dX12_laysApart_31 rfl kiconst_0 ?_
                refine zj_goto (tgt := 51) dX12_laysApart_32 (by decide) ?_
                obtain ⟨r0_20v22, hr0_20v22, hy⟩ := zt_b hy
                refine zj_wri (pc' := 52) (N := (zui M 193 r0_20v22)) dX12_laysApart_51 rfl sh193 zr_s hr0_20v22 zm_s ?_
                obtain ⟨x23, ex23⟩ : ∃ z : Int32, z = (x12 + 1) := ⟨_, rfl⟩
                have hy := zlet_at ex23 hy
                refine zj_iinc (pc' := 55) 2 (L' := [(2, .int x23), (0, .ref (zad Γ 186)), (1, .int x2)]) dX12_laysApart_52 rfl rfl (by decide) (by rw [ci1, ← ex23]; rfl) ?_
                refine zj_goto (tgt := 10) dX12_laysApart_55 (by decide) ?_
                have hn9 := h18 _ (Option.some.inj hy).symm
                refine zj_loc [1, 2, 0] rfl ?_
                exact ih17 _ _ hn9
        exact HL14 n9 _ _ hn9
  exact HL4 n9 _ _ hn9
set_option maxRecDepth 20000 in
theorem LX12_laysApart_186 (Γ : zG) (M : zM) (r0_6 : Nat → Int32) (r0_20 : Nat → Int32) (e_i188 : M.1 188 = r0_6) (e_i193 : M.1 193 = r0_20)  {res : (Nat → Int32)} (hy : (fM_laysApart r0_6 r0_20) = some res) : zK Γ 3 YX12_laysApart [.ref (zad Γ 186)] M (fun v N => v = none ∧ N = (zui M 193 res)) :=
  zK_of (by decide) (Nat.le_of_ble_eq_true rfl) (TX12_laysApart_186 Γ M r0_6 r0_20 e_i188 e_i193 hy ⟨rfl, rfl⟩)

noncomputable def fM_town_L30 (r0_1 : Nat → Int32) (r0_6 : Nat → Int32) (w0_10 : Nat → Int64) (r0_20 : Nat → Int32) (r0v7 : Nat → Int32) (w0v8 : Nat → Int64) (r0_7v9 : Nat → Int32) (w0_9v10 : Nat → Int64) : Option (((Nat → Int32) × (Nat → Int64) × (Nat → Int32) × (Nat → Int64)) ⊕ (((Nat → Int32) × (Nat → Int64) × (Nat → Int32) × (Nat → Int64)) ⊕ (Int32 × (Nat → Int32) × (Nat → Int64) × (Nat → Int32) × (Nat → Int32) × (Nat → Int64) × (Nat → Int32)))) :=
  (if (r0v7 11) = 0 then
  some (.inr (.inl (r0v7, w0v8, r0_7v9, w0_9v10)))
  else
  (fM_readLine r0v7 w0v8 r0_1 r0_7v9 w0_9v10 w0_10).bind (fun (y19 : Bool × (Nat → Int32) × (Nat → Int64) × (Nat → Int32) × (Nat → Int64)) =>
  (if y19.1 = true then
  (fM_sign y19.2.1 y19.2.2.1 r0_1 59).bind (fun (y21 : Bool × (Nat → Int32) × (Nat → Int64)) =>
  (if y21.1 = true then
  zlet (zup y21.2.1 19 ((y21.2.1 19) + 1)) (fun (r0v23 : Nat → Int32) =>
  some (.inl (r0v23, y21.2.2, y19.2.2.2.1, y19.2.2.2.2)))
  else
  some (.inr (.inr (((-1) - (y21.2.1 16)), y21.2.1, y21.2.2, r0_6, y19.2.2.2.1, y19.2.2.2.2, r0_20)))))
  else
  some (.inr (.inr (((-1) - (y19.2.1 16)), y19.2.1, y19.2.2.1, r0_6, y19.2.2.2.1, y19.2.2.2.2, r0_20))))))
noncomputable def fM_town_L75 (r0_7v28 : Nat → Int32) (r0_6v30 : Nat → Int32) (x31 : Int32) : Option (((Nat → Int32) × Int32) ⊕ ((Nat → Int32))) :=
  (if 397 ≤ x31 then
  some (.inr r0_6v30)
  else
  (if 89 ≤ x31 then
  (zwr r0_6v30 397 x31 0).bind (fun (r0_6v41 : Nat → Int32) =>
  zlet (x31 + 1) (fun (x42 : Int32) =>
  some (.inl (r0_6v41, x42))))
  else
  (zrd r0_7v28 89 x31).bind (fun (v43 : Int32) =>
  (zwr r0_6v30 397 x31 v43).bind (fun (r0_6v44 : Nat → Int32) =>
  zlet (x31 + 1) (fun (x45 : Int32) =>
  some (.inl (r0_6v44, x45)))))))
noncomputable def fM_town_L112 (w0_9v47 : Nat → Int64) (x48 : Int32) : Option (((Nat → Int64) × Int32) ⊕ ((Nat → Int64))) :=
  (if 14 ≤ x48 then
  some (.inr w0_9v47)
  else
  (zrd w0_9v47 28 (14 + x48)).bind (fun (v57 : Int64) =>
  (zwr w0_9v47 28 x48 v57).bind (fun (w0_9v58 : Nat → Int64) =>
  zlet (x48 + 1) (fun (x59 : Int32) =>
  some (.inl (w0_9v58, x59))))))
noncomputable def fM_town_L149 (x62 : Int32) (r0_6v71 : Nat → Int32) (x72 : Int32) : Option (((Nat → Int32) × Int32) ⊕ ((Nat → Int32))) :=
  (if 6 ≤ x72 then
  some (.inr r0_6v71)
  else
  (zrd r0_6v71 397 (11 + x62)).bind (fun (v81 : Int32) =>
  (zwr r0_6v71 397 ((91 + (6 * x72)) + x62) v81).bind (fun (r0_6v82 : Nat → Int32) =>
  zlet (x72 + 1) (fun (x83 : Int32) =>
  some (.inl (r0_6v82, x83))))))
noncomputable def fM_town_L141 (r0_6v61 : Nat → Int32) (x62 : Int32) : Option (((Nat → Int32) × Int32) ⊕ ((Nat → Int32))) :=
  (if 6 ≤ x62 then
  some (.inr r0_6v61)
  else
  (zLP (fun s => fM_town_L149 x62 s.1 s.2) (r0_6v61, 0)).bind (fun r75 =>
  (zrd r75 397 (17 + x62)).bind (fun (v85 : Int32) =>
  (zwr r75 397 (127 + x62) v85).bind (fun (r0_6v86 : Nat → Int32) =>
  (zrd r0_6v86 397 (23 + x62)).bind (fun (v87 : Int32) =>
  (zwr r0_6v86 397 (133 + x62) v87).bind (fun (r0_6v88 : Nat → Int32) =>
  (zrd r0_6v88 397 (29 + x62)).bind (fun (v89 : Int32) =>
  (zwr r0_6v88 397 (139 + x62) v89).bind (fun (r0_6v90 : Nat → Int32) =>
  (zrd r0_6v90 397 (35 + x62)).bind (fun (v91 : Int32) =>
  (zwr r0_6v90 397 (145 + x62) v91).bind (fun (r0_6v92 : Nat → Int32) =>
  zlet (x62 + 1) (fun (x93 : Int32) =>
  some (.inl (r0_6v92, x93)))))))))))))
noncomputable def fM_town_L267 (r0_6v95 : Nat → Int32) (x96 : Int32) : Option (((Nat → Int32) × Int32) ⊕ ((Nat → Int32))) :=
  (if 48 ≤ x96 then
  some (.inr r0_6v95)
  else
  (zrd r0_6v95 397 (41 + x96)).bind (fun (v105 : Int32) =>
  (zwr r0_6v95 397 (151 + x96) v105).bind (fun (r0_6v106 : Nat → Int32) =>
  zlet (x96 + 1) (fun (x107 : Int32) =>
  some (.inl (r0_6v106, x107))))))
noncomputable def fM_town (r0 : Nat → Int32) (w0 : Nat → Int64) (r0_1 : Nat → Int32) (r0_6 : Nat → Int32) (r0_7 : Nat → Int32) (w0_9 : Nat → Int64) (w0_10 : Nat → Int64) (r0_20 : Nat → Int32) : Option (Int32 × (Nat → Int32) × (Nat → Int64) × (Nat → Int32) × (Nat → Int32) × (Nat → Int64) × (Nat → Int32)) :=
  zlet (zup r0 0 0) (fun (r0v1 : Nat → Int32) =>
  (fM_taken r0v1 900).bind (fun (y2 : (Nat → Int32)) =>
  zlet (zup y2 15 0) (fun (r0v3 : Nat → Int32) =>
  zlet (zup r0v3 19 0) (fun (r0v4 : Nat → Int32) =>
  (fM_clears r0_7).bind (fun (y5 : (Nat → Int32)) =>
  (fM_next r0v4 w0 r0_1).bind (fun (y6 : (Nat → Int32) × (Nat → Int64)) =>
  (zLP (fun s => fM_town_L30 r0_1 r0_6 w0_10 r0_20 s.1 s.2.1 s.2.2.1 s.2.2.2) (y6.1, y6.2, y5, w0_9)).bind (fun r13 => zsum r13 (fun x9 =>
  (zLP (fun s => fM_town_L75 x9.2.2.1 s.1 s.2) (r0_6, 0)).bind (fun r34 =>
  (zLP (fun s => fM_town_L112 s.1 s.2) (x9.2.2.2, 0)).bind (fun r51 =>
  (zLP (fun s => fM_town_L141 s.1 s.2) (r34, 0)).bind (fun r65 =>
  (zLP (fun s => fM_town_L267 s.1 s.2) (r65, 0)).bind (fun r99 =>
  (fM_laysApart r99 r0_20).bind (fun (y109 : (Nat → Int32)) =>
  zlet (zup x9.1 24 0) (fun (r0v110 : Nat → Int32) =>
  some ((r0v110 19), r0v110, x9.2.1, r99, x9.2.2.1, r51, y109)))))))) (fun q9 => some q9))))))))

set_option maxRecDepth 20000 in
theorem TX12_town_186 (Γ : zG) {Q : Option Value → zM → Prop} (M : zM) (r0 : Nat → Int32) (w0 : Nat → Int64) (r0_1 : Nat → Int32) (r0_6 : Nat → Int32) (r0_7 : Nat → Int32) (w0_9 : Nat → Int64) (w0_10 : Nat → Int64) (r0_20 : Nat → Int32) (e_i186 : M.1 186 = r0) (e_l186 : M.2 186 = w0) (e_i187 : M.1 187 = r0_1) (e_i188 : M.1 188 = r0_6) (e_i189 : M.1 189 = r0_7) (e_l191 : M.2 191 = w0_9) (e_l192 : M.2 192 = w0_10) (e_i193 : M.1 193 = r0_20)  {res : Int32 × (Nat → Int32) × (Nat → Int64) × (Nat → Int32) × (Nat → Int32) × (Nat → Int64) × (Nat → Int32)} (hy : (fM_town r0 w0 r0_1 r0_6 r0_7 w0_9 w0_10 r0_20) = some res) (hq : Q (some (.int res.1)) (zui (zui (zui (zui (zul (zul M 186 res.2.2.1) 191 res.2.2.2.2.2.1) 186 res.2.1) 188 res.2.2.2.1) 189 res.2.2.2.2.1) 193 res.2.2.2.2.2.2)) : zR Γ 7 YX12_town 0 [(0, .ref (zad Γ 186))] [] M Q := by
  unfold fM_town at hy
  refine zj_aload_n (pc' := 1) 0 dX12_town_0 rfl rfl rfl ?_
  refine zj_iconst (pc' := 2) dX12_town_1 rfl kiconst_0 ?_
  obtain ⟨r0v1, er0v1⟩ : ∃ z, z = (zup r0 0 0) := ⟨_, rfl⟩
  have hy := zlet_at er0v1 hy
  refine zj_pI (pc' := 5) (N := (zui M 186 r0v1)) dX12_town_2 rfl fpX12_1 sh186 rfl e_i186 er0v1 rfl ?_
  refine zj_aload_n (pc' := 6) 0 dX12_town_5 rfl rfl rfl ?_
  refine zj_sipush (pc' := 9) dX12_town_6 rfl ksipush_900 ?_
  obtain ⟨y2, hy2, hy⟩ := zt_b hy
  refine zj_V0 (pc' := 12) (z := YX12_taken) (As := [.int 900]) (N := (zui M 186 y2)) dX12_town_9 rfl mlX12_241 lkX12_taken sh186 ⟨_, _, rfl⟩ rfl rfl (Nat.le_of_ble_eq_true rfl) (Nat.le_of_ble_eq_true rfl) (LX12_taken_186 Γ _ r0v1 zr_s 900 hy2) (zm_s).symm ?_
  refine zj_aload_n (pc' := 13) 0 dX12_town_12 rfl rfl rfl ?_
  refine zj_iconst (pc' := 14) dX12_town_13 rfl kiconst_0 ?_
  obtain ⟨r0v3, er0v3⟩ : ∃ z, z = (zup y2 15 0) := ⟨_, rfl⟩
  have hy := zlet_at er0v3 hy
  refine zj_pI (pc' := 17) (N := (zui M 186 r0v3)) dX12_town_14 rfl fpX12_173 sh186 rfl zr_s er0v3 zm_s ?_
  refine zj_aload_n (pc' := 18) 0 dX12_town_17 rfl rfl rfl ?_
  refine zj_iconst (pc' := 19) dX12_town_18 rfl kiconst_0 ?_
  obtain ⟨r0v4, er0v4⟩ : ∃ z, z = (zup r0v3 19 0) := ⟨_, rfl⟩
  have hy := zlet_at er0v4 hy
  refine zj_pI (pc' := 22) (N := (zui M 186 r0v4)) dX12_town_19 rfl fpX12_244 sh186 rfl zr_s er0v4 zm_s ?_
  refine zj_aload_n (pc' := 23) 0 dX12_town_22 rfl rfl rfl ?_
  obtain ⟨y5, hy5, hy⟩ := zt_b hy
  refine zj_V0 (pc' := 26) (z := YX12_clears) (As := []) (N := (zui (zui M 186 r0v4) 189 y5)) dX12_town_23 rfl mlX12_143 lkX12_clears sh186 ⟨_, _, rfl⟩ rfl rfl (Nat.le_of_ble_eq_true rfl) (Nat.le_of_ble_eq_true rfl) (LX12_clears_186 Γ _ r0_7 (zr_n rfl e_i189) hy5) (rfl).symm ?_
  refine zj_aload_n (pc' := 27) 0 dX12_town_26 rfl rfl rfl ?_
  obtain ⟨y6, hy6, hy⟩ := zt_b hy
  refine zj_V0 (pc' := 30) (z := YX12_next) (As := []) (N := (zui (zui (zul M 186 y6.2) 186 y6.1) 189 y5)) dX12_town_27 rfl mlX12_185 lkX12_next sh186 ⟨_, _, rfl⟩ rfl rfl (Nat.le_of_ble_eq_true rfl) (Nat.le_of_ble_eq_true rfl) (LX12_next_186 Γ _ r0v4 w0 r0_1 (zr_n rfl zr_s) (zq_i (zq_i e_l186)) (zr_n rfl (zr_n rfl e_i187)) hy6) ((zch_i (zm_li (zm_li rfl)) (zm_n rfl zm_s))).symm ?_
  refine zj_mem (N := (zui (zui (zul (zul M 186 y6.2) 191 w0_9) 186 y6.1) 189 y5)) (zself_l (zq_i (zq_i (zq_n rfl e_l191))) (zm_li (zm_li rfl))) ?_
  obtain ⟨r13, hr9, hyo14⟩ := zt_b hy
  obtain ⟨n9, hn9⟩ := zLP_some hr9
  have HE11 : ∀ (r0v26 : Nat → Int32) (w0v27 : Nat → Int64) (r0_7v28 : Nat → Int32) (w0_9v29 : Nat → Int64), r13 = .inl (r0v26, w0v27, r0_7v28, w0_9v29) → zR Γ 7 YX12_town 73 [(0, .ref (zad Γ 186))] [] (zui (zui (zul (zul M 186 w0v27) 191 w0_9v29) 186 r0v26) 189 r0_7v28) Q := by
    intro r0v26 w0v27 r0_7v28 w0_9v29 e9
    have hy := zsum_l hyo14 e9
    try dsimp only at hy
    refine zj_iconst (pc' := 74) dX12_town_73 rfl kiconst_0 ?_
    refine zj_istore_n (pc' := 75) (L' := [(1, .int 0), (0, .ref (zad Γ 186))]) dX12_town_74 rfl rfl (by decide) rfl ?_
    refine zj_loc [1, 0] rfl ?_
    refine zj_mem (N := (zui (zui (zui (zul (zul M 186 w0v27) 191 w0_9v29) 186 r0v26) 188 r0_6) 189 r0_7v28)) (zself_i (zr_n rfl (zr_n rfl (zr_l (zr_l e_i188)))) (zm_n rfl rfl)) ?_
    obtain ⟨r34, hr9, hyo35⟩ := zt_b hy
    obtain ⟨n9, hn9⟩ := zLP_some hr9
    have HE32 : ∀ (r0_6v46 : Nat → Int32), r34 = r0_6v46 → zR Γ 7 YX12_town 110 [(0, .ref (zad Γ 186))] [] (zui (zui (zui (zul (zul M 186 w0v27) 191 w0_9v29) 186 r0v26) 188 r0_6v46) 189 r0_7v28) Q := by
      intro r0_6v46 e9
      have hy := hyo35
      try rw [e9] at hy
      try dsimp only at hy
      refine zj_iconst (pc' := 111) dX12_town_110 rfl kiconst_0 ?_
      refine zj_istore_n (pc' := 112) (L' := [(1, .int 0), (0, .ref (zad Γ 186))]) dX12_town_111 rfl rfl (by decide) rfl ?_
      refine zj_loc [1, 0] rfl ?_
      obtain ⟨r51, hr9, hyo52⟩ := zt_b hy
      obtain ⟨n9, hn9⟩ := zLP_some hr9
      have HE49 : ∀ (w0_9v60 : Nat → Int64), r51 = w0_9v60 → zR Γ 7 YX12_town 139 [(0, .ref (zad Γ 186))] [] (zui (zui (zui (zul (zul M 186 w0v27) 191 w0_9v60) 186 r0v26) 188 r0_6v46) 189 r0_7v28) Q := by
        intro w0_9v60 e9
        have hy := hyo52
        try rw [e9] at hy
        try dsimp only at hy
        refine zj_iconst (pc' := 140) dX12_town_139 rfl kiconst_0 ?_
        refine zj_istore_n (pc' := 141) (L' := [(1, .int 0), (0, .ref (zad Γ 186))]) dX12_town_140 rfl rfl (by decide) rfl ?_
        refine zj_loc [1, 0] rfl ?_
        obtain ⟨r65, hr9, hyo66⟩ := zt_b hy
        obtain ⟨n9, hn9⟩ := zLP_some hr9
        have HE63 : ∀ (r0_6v94 : Nat → Int32), r65 = r0_6v94 → zR Γ 7 YX12_town 265 [(0, .ref (zad Γ 186))] [] (zui (zui (zui (zul (zul M 186 w0v27) 191 w0_9v60) 186 r0v26) 188 r0_6v94) 189 r0_7v28) Q := by
          intro r0_6v94 e9
          have hy := hyo66
          try rw [e9] at hy
          try dsimp only at hy
          refine zj_iconst (pc' := 266) dX12_town_265 rfl kiconst_0 ?_
          refine zj_istore_n (pc' := 267) (L' := [(1, .int 0), (0, .ref (zad Γ 186))]) dX12_town_266 rfl rfl (by decide) rfl ?_
          refine zj_loc [1, 0] rfl ?_
          obtain ⟨r99, hr9, hyo100⟩ := zt_b hy
          obtain ⟨n9, hn9⟩ := zLP_some hr9
          have HE97 : ∀ (r0_6v108 : Nat → Int32), r99 = r0_6v108 → zR Γ 7 YX12_town 298 [(0, .ref (zad Γ 186))] [] (zui (zui (zui (zul (zul M 186 w0v27) 191 w0_9v60) 186 r0v26) 188 r0_6v108) 189 r0_7v28) Q := by
            intro r0_6v108 e9
            have hy := hyo100
            try rw [e9] at hy
            try dsimp only at hy
            refine zj_aload_n (pc' := 299) 0 dX12_town_298 rfl rfl rfl ?_
            obtain ⟨y109, hy109, hy⟩ := zt_b hy
            refine zj_V0 (pc' := 302) (z := YX12_laysApart) (As := []) (N := (zui (zui (zui (zui (zul (zul M 186 w0v27) 191 w0_9v60) 186 r0v26) 188 r0_6v108) 189 r0_7v28) 193 y109)) dX12_town_299 rfl mlX12_253 lkX12_laysApart sh186 ⟨_, _, rfl⟩ rfl rfl (Nat.le_of_ble_eq_true rfl) (Nat.le_of_ble_eq_true rfl) (LX12_laysApart_186 Γ _ r0_6v108 r0_20 (zr_n rfl zr_s) (zr_n rfl (zr_n rfl (zr_n rfl (zr_l (zr_l e_i193))))) hy109) (rfl).symm ?_
            refine zj_aload_n (pc' := 303) 0 dX12_town_302 rfl rfl rfl ?_
            refine zj_iconst (pc' := 304) dX12_town_303 rfl kiconst_0 ?_
            obtain ⟨r0v110, er0v110⟩ : ∃ z, z = (zup r0v26 24 0) := ⟨_, rfl⟩
            have hy := zlet_at er0v110 hy
            refine zj_pI (pc' := 307) (N := (zui (zui (zui (zui (zul (zul M 186 w0v27) 191 w0_9v60) 186 r0v110) 188 r0_6v108) 189 r0_7v28) 193 y109)) dX12_town_304 rfl fpX12_256 sh186 rfl (zr_n rfl (zr_n rfl (zr_n rfl zr_s))) er0v110 (zm_n rfl (zm_n rfl (zm_n rfl zm_s))) ?_
            refine zj_aload_n (pc' := 308) 0 dX12_town_307 rfl rfl rfl ?_
            refine zj_fI (pc' := 311) dX12_town_308 rfl flX12_244 sh186 rfl (zr_n rfl (zr_n rfl (zr_n rfl zr_s))) rfl ?_
            have e9 := Option.some.inj hy
            subst e9
            exact zj_iret dX12_town_311 rfl hq
          have HL98 : ∀ (n : Nat) (r0_6v95 : Nat → Int32) (x96 : Int32), zlp (fun s => fM_town_L267 s.1 s.2) n (r0_6v95, x96) = some r99 → zR Γ 7 YX12_town 267 [(0, .ref (zad Γ 186)), (1, .int x96)] [] (zui (zui (zui (zul (zul M 186 w0v27) 191 w0_9v60) 186 r0v26) 188 r0_6v95) 189 r0_7v28) Q := by
            intro n
            induction n with
            | zero => intro r0_6v95 x96 hn9; cases hn9
            | succ n ih101 =>
              intro r0_6v95 x96 hn9
              obtain ⟨o9, hb9, h102, h103⟩ := zlp_step hn9
              have hy : fM_town_L267 r0_6v95 x96 = some o9 := hb9
              unfold fM_town_L267 at hy
              refine zj_iload_n (pc' := 268) 1 dX12_town_267 rfl rfl rfl ?_
              refine zj_bipush (pc' := 270) dX12_town_268 rfl kbipush_48 ?_
              refine zj_icmp_ge (tgt := 298) (pc' := 273) dX12_town_270 rfl (by decide) (fun c104 => ?_) (fun c104 => ?_)
              · have hy := zt_t hy c104
                have e9 := h103 _ (Option.some.inj hy).symm
                refine zj_loc [0] rfl ?_
                exact HE97 _ e9.symm
              · have hy := zt_f hy c104
                refine zj_aload_n (pc' := 274) 0 dX12_town_273 rfl rfl rfl ?_
                refine zj_getR (pc' := 277) (j := 188) dX12_town_274 rfl flX12_33 sh186 rfl ?_
                refine zj_sipush (pc' := 280) dX12_town_277 rfl ksipush_151 ?_
                refine zj_iload_n (pc' := 281) 1 dX12_town_280 rfl rfl rfl ?_
                refine zj_iadd (pc' := 282) dX12_town_281 rfl ?_
                refine zj_aload_n (pc' := 283) 0 dX12_town_282 rfl rfl rfl ?_
                refine zj_getR (pc' := 286) (j := 188) dX12_town_283 rfl flX12_33 sh186 rfl ?_
                refine zj_bipush (pc' := 288) dX12_town_286 rfl kbipush_41 ?_
                refine zj_iload_n (pc' := 289) 1 dX12_town_288 rfl rfl rfl ?_
                refine zj_iadd (pc' := 290) dX12_town_289 rfl ?_
                obtain ⟨v105, hv105, hy⟩ := zt_b hy
                refine zj_rdi (pc' := 291) dX12_town_290 rfl sh188 (zr_n rfl zr_s) hv105 ?_
                obtain ⟨r0_6v106, hr0_6v106, hy⟩ := zt_b hy
                refine zj_wri (pc' := 292) (N := (zui (zui (zui (zul (zul M 186 w0v27) 191 w0_9v60) 186 r0v26) 188 r0_6v106) 189 r0_7v28)) dX12_town_291 rfl sh188 (zr_n rfl zr_s) hr0_6v106 (zm_n rfl zm_s) ?_
                obtain ⟨x107, ex107⟩ : ∃ z : Int32, z = (x96 + 1) := ⟨_, rfl⟩
                have hy := zlet_at ex107 hy
                refine zj_iinc (pc' := 295) 1 (L' := [(1, .int x107), (0, .ref (zad Γ 186))]) dX12_town_292 rfl rfl (by decide) (by rw [ci1, ← ex107]; rfl) ?_
                refine zj_goto (tgt := 267) dX12_town_295 (by decide) ?_
                have hn9 := h102 _ (Option.some.inj hy).symm
                refine zj_loc [1, 0] rfl ?_
                exact ih101 _ _ hn9
          exact HL98 n9 _ _ hn9
        have HL64 : ∀ (n : Nat) (r0_6v61 : Nat → Int32) (x62 : Int32), zlp (fun s => fM_town_L141 s.1 s.2) n (r0_6v61, x62) = some r65 → zR Γ 7 YX12_town 141 [(0, .ref (zad Γ 186)), (1, .int x62)] [] (zui (zui (zui (zul (zul M 186 w0v27) 191 w0_9v60) 186 r0v26) 188 r0_6v61) 189 r0_7v28) Q := by
          intro n
          induction n with
          | zero => intro r0_6v61 x62 hn9; cases hn9
          | succ n ih67 =>
            intro r0_6v61 x62 hn9
            obtain ⟨o9, hb9, h68, h69⟩ := zlp_step hn9
            have hy : fM_town_L141 r0_6v61 x62 = some o9 := hb9
            unfold fM_town_L141 at hy
            refine zj_iload_n (pc' := 142) 1 dX12_town_141 rfl rfl rfl ?_
            refine zj_bipush (pc' := 144) dX12_town_142 rfl kbipush_6 ?_
            refine zj_icmp_ge (tgt := 265) (pc' := 147) dX12_town_144 rfl (by decide) (fun c70 => ?_) (fun c70 => ?_)
            · have hy := zt_t hy c70
              have e9 := h69 _ (Option.some.inj hy).symm
              refine zj_loc [0] rfl ?_
              exact HE63 _ e9.symm
            · have hy := zt_f hy c70
              refine zj_iconst (pc' := 148) dX12_town_147 rfl kiconst_0 ?_
              refine zj_istore_n (pc' := 149) (L' := [(2, .int 0), (0, .ref (zad Γ 186)), (1, .int x62)]) dX12_town_148 rfl rfl (by decide) rfl ?_
              refine zj_loc [1, 2, 0] rfl ?_
              obtain ⟨r75, hr9, hyo76⟩ := zt_b hy
              obtain ⟨n9, hn9⟩ := zLP_some hr9
              have HE73 : ∀ (r0_6v84 : Nat → Int32), r75 = r0_6v84 → zR Γ 7 YX12_town 184 [(0, .ref (zad Γ 186)), (1, .int x62)] [] (zui (zui (zui (zul (zul M 186 w0v27) 191 w0_9v60) 186 r0v26) 188 r0_6v84) 189 r0_7v28) Q := by
                intro r0_6v84 e9
                have hy := hyo76
                try rw [e9] at hy
                try dsimp only at hy
                refine zj_aload_n (pc' := 185) 0 dX12_town_184 rfl rfl rfl ?_
                refine zj_getR (pc' := 188) (j := 188) dX12_town_185 rfl flX12_33 sh186 rfl ?_
                refine zj_bipush (pc' := 190) dX12_town_188 rfl kbipush_127 ?_
                refine zj_iload_n (pc' := 191) 1 dX12_town_190 rfl rfl rfl ?_
                refine zj_iadd (pc' := 192) dX12_town_191 rfl ?_
                refine zj_aload_n (pc' := 193) 0 dX12_town_192 rfl rfl rfl ?_
                refine zj_getR (pc' := 196) (j := 188) dX12_town_193 rfl flX12_33 sh186 rfl ?_
                refine zj_bipush (pc' := 198) dX12_town_196 rfl kbipush_17 ?_
                refine zj_iload_n (pc' := 199) 1 dX12_town_198 rfl rfl rfl ?_
                refine zj_iadd (pc' := 200) dX12_town_199 rfl ?_
                obtain ⟨v85, hv85, hy⟩ := zt_b hy
                refine zj_rdi (pc' := 201) dX12_town_200 rfl sh188 (zr_n rfl zr_s) hv85 ?_
                obtain ⟨r0_6v86, hr0_6v86, hy⟩ := zt_b hy
                refine zj_wri (pc' := 202) (N := (zui (zui (zui (zul (zul M 186 w0v27) 191 w0_9v60) 186 r0v26) 188 r0_6v86) 189 r0_7v28)) dX12_town_201 rfl sh188 (zr_n rfl zr_s) hr0_6v86 (zm_n rfl zm_s) ?_
                refine zj_aload_n (pc' := 203) 0 dX12_town_202 rfl rfl rfl ?_
                refine zj_getR (pc' := 206) (j := 188) dX12_town_203 rfl flX12_33 sh186 rfl ?_
                refine zj_sipush (pc' := 209) dX12_town_206 rfl ksipush_133 ?_
                refine zj_iload_n (pc' := 210) 1 dX12_town_209 rfl rfl rfl ?_
                refine zj_iadd (pc' := 211) dX12_town_210 rfl ?_
                refine zj_aload_n (pc' := 212) 0 dX12_town_211 rfl rfl rfl ?_
                refine zj_getR (pc' := 215) (j := 188) dX12_town_212 rfl flX12_33 sh186 rfl ?_
                refine zj_bipush (pc' := 217) dX12_town_215 rfl kbipush_23 ?_
                refine zj_iload_n (pc' := 218) 1 dX12_town_217 rfl rfl rfl ?_
                refine zj_iadd (pc' := 219) dX12_town_218 rfl ?_
                obtain ⟨v87, hv87, hy⟩ := zt_b hy
                refine zj_rdi (pc' := 220) dX12_town_219 rfl sh188 (zr_n rfl zr_s) hv87 ?_
                obtain ⟨r0_6v88, hr0_6v88, hy⟩ := zt_b hy
                refine zj_wri (pc' := 221) (N := (zui (zui (zui (zul (zul M 186 w0v27) 191 w0_9v60) 186 r0v26) 188 r0_6v88) 189 r0_7v28)) dX12_town_220 rfl sh188 (zr_n rfl zr_s) hr0_6v88 (zm_n rfl zm_s) ?_
                refine zj_aload_n (pc' := 222) 0 dX12_town_221 rfl rfl rfl ?_
                refine zj_getR (pc' := 225) (j := 188) dX12_town_222 rfl flX12_33 sh186 rfl ?_
                refine zj_sipush (pc' := 228) dX12_town_225 rfl ksipush_139 ?_
                refine zj_iload_n (pc' := 229) 1 dX12_town_228 rfl rfl rfl ?_
                refine zj_iadd (pc' := 230) dX12_town_229 rfl ?_
                refine zj_aload_n (pc' := 231) 0 dX12_town_230 rfl rfl rfl ?_
                refine zj_getR (pc' := 234) (j := 188) dX12_town_231 rfl flX12_33 sh186 rfl ?_
                refine zj_bipush (pc' := 236) dX12_town_234 rfl kbipush_29 ?_
                refine zj_iload_n (pc' := 237) 1 dX12_town_236 rfl rfl rfl ?_
                refine zj_iadd (pc' := 238) dX12_town_237 rfl ?_
                obtain ⟨v89, hv89, hy⟩ := zt_b hy
                refine zj_rdi (pc' := 239) dX12_town_238 rfl sh188 (zr_n rfl zr_s) hv89 ?_
                obtain ⟨r0_6v90, hr0_6v90, hy⟩ := zt_b hy
                refine zj_wri (pc' := 240) (N := (zui (zui (zui (zul (zul M 186 w0v27) 191 w0_9v60) 186 r0v26) 188 r0_6v90) 189 r0_7v28)) dX12_town_239 rfl sh188 (zr_n rfl zr_s) hr0_6v90 (zm_n rfl zm_s) ?_
                refine zj_aload_n (pc' := 241) 0 dX12_town_240 rfl rfl rfl ?_
                refine zj_getR (pc' := 244) (j := 188) dX12_town_241 rfl flX12_33 sh186 rfl ?_
                refine zj_sipush (pc' := 247) dX12_town_244 rfl ksipush_145 ?_
                refine zj_iload_n (pc' := 248) 1 dX12_town_247 rfl rfl rfl ?_
                refine zj_iadd (pc' := 249) dX12_town_248 rfl ?_
                refine zj_aload_n (pc' := 250) 0 dX12_town_249 rfl rfl rfl ?_
                refine zj_getR (pc' := 253) (j := 188) dX12_town_250 rfl flX12_33 sh186 rfl ?_
                refine zj_bipush (pc' := 255) dX12_town_253 rfl kbipush_35 ?_
                refine zj_iload_n (pc' := 256) 1 dX12_town_255 rfl rfl rfl ?_
                refine zj_iadd (pc' := 257) dX12_town_256 rfl ?_
                obtain ⟨v91, hv91, hy⟩ := zt_b hy
                refine zj_rdi (pc' := 258) dX12_town_257 rfl sh188 (zr_n rfl zr_s) hv91 ?_
                obtain ⟨r0_6v92, hr0_6v92, hy⟩ := zt_b hy
                refine zj_wri (pc' := 259) (N := (zui (zui (zui (zul (zul M 186 w0v27) 191 w0_9v60) 186 r0v26) 188 r0_6v92) 189 r0_7v28)) dX12_town_258 rfl sh188 (zr_n rfl zr_s) hr0_6v92 (zm_n rfl zm_s) ?_
                obtain ⟨x93, ex93⟩ : ∃ z : Int32, z = (x62 + 1) := ⟨_, rfl⟩
                have hy := zlet_at ex93 hy
                refine zj_iinc (pc' := 262) 1 (L' := [(1, .int x93), (0, .ref (zad Γ 186))]) dX12_town_259 rfl rfl (by decide) (by rw [ci1, ← ex93]; rfl) ?_
                refine zj_goto (tgt := 141) dX12_town_262 (by decide) ?_
                have hn9 := h68 _ (Option.some.inj hy).symm
                refine zj_loc [1, 0] rfl ?_
                exact ih67 _ _ hn9
              have HL74 : ∀ (n : Nat) (r0_6v71 : Nat → Int32) (x72 : Int32), zlp (fun s => fM_town_L149 x62 s.1 s.2) n (r0_6v71, x72) = some r75 → zR Γ 7 YX12_town 149 [(0, .ref (zad Γ 186)), (1, .int x62), (2, .int x72)] [] (zui (zui (zui (zul (zul M 186 w0v27) 191 w0_9v60) 186 r0v26) 188 r0_6v71) 189 r0_7v28) Q := by
                intro n
                induction n with
                | zero => intro r0_6v71 x72 hn9; cases hn9
                | succ n ih77 =>
                  intro r0_6v71 x72 hn9
                  obtain ⟨o9, hb9, h78, h79⟩ := zlp_step hn9
                  have hy : fM_town_L149 x62 r0_6v71 x72 = some o9 := hb9
                  unfold fM_town_L149 at hy
                  refine zj_iload_n (pc' := 150) 2 dX12_town_149 rfl rfl rfl ?_
                  refine zj_bipush (pc' := 152) dX12_town_150 rfl kbipush_6 ?_
                  refine zj_icmp_ge (tgt := 184) (pc' := 155) dX12_town_152 rfl (by decide) (fun c80 => ?_) (fun c80 => ?_)
                  · have hy := zt_t hy c80
                    have e9 := h79 _ (Option.some.inj hy).symm
                    refine zj_loc [0, 1] rfl ?_
                    exact HE73 _ e9.symm
                  · have hy := zt_f hy c80
                    refine zj_aload_n (pc' := 156) 0 dX12_town_155 rfl rfl rfl ?_
                    refine zj_getR (pc' := 159) (j := 188) dX12_town_156 rfl flX12_33 sh186 rfl ?_
                    refine zj_bipush (pc' := 161) dX12_town_159 rfl kbipush_91 ?_
                    refine zj_bipush (pc' := 163) dX12_town_161 rfl kbipush_6 ?_
                    refine zj_iload_n (pc' := 164) 2 dX12_town_163 rfl rfl rfl ?_
                    refine zj_imul (pc' := 165) dX12_town_164 rfl ?_
                    refine zj_iadd (pc' := 166) dX12_town_165 rfl ?_
                    refine zj_iload_n (pc' := 167) 1 dX12_town_166 rfl rfl rfl ?_
                    refine zj_iadd (pc' := 168) dX12_town_167 rfl ?_
                    refine zj_aload_n (pc' := 169) 0 dX12_town_168 rfl rfl rfl ?_
                    refine zj_getR (pc' := 172) (j := 188) dX12_town_169 rfl flX12_33 sh186 rfl ?_
                    refine zj_bipush (pc' := 174) dX12_town_172 rfl kbipush_11 ?_
                    refine zj_iload_n (pc' := 175) 1 dX12_town_174 rfl rfl rfl ?_
                    refine zj_iadd (pc' := 176) dX12_town_175 rfl ?_
                    obtain ⟨v81, hv81, hy⟩ := zt_b hy
                    refine zj_rdi (pc' := 177) dX12_town_176 rfl sh188 (zr_n rfl zr_s) hv81 ?_
                    obtain ⟨r0_6v82, hr0_6v82, hy⟩ := zt_b hy
                    refine zj_wri (pc' := 178) (N := (zui (zui (zui (zul (zul M 186 w0v27) 191 w0_9v60) 186 r0v26) 188 r0_6v82) 189 r0_7v28)) dX12_town_177 rfl sh188 (zr_n rfl zr_s) hr0_6v82 (zm_n rfl zm_s) ?_
                    obtain ⟨x83, ex83⟩ : ∃ z : Int32, z = (x72 + 1) := ⟨_, rfl⟩
                    have hy := zlet_at ex83 hy
                    refine zj_iinc (pc' := 181) 2 (L' := [(2, .int x83), (0, .ref (zad Γ 186)), (1, .int x62)]) dX12_town_178 rfl rfl (by decide) (by rw [ci1, ← ex83]; rfl) ?_
                    refine zj_goto (tgt := 149) dX12_town_181 (by decide) ?_
                    have hn9 := h78 _ (Option.some.inj hy).symm
                    refine zj_loc [1, 2, 0] rfl ?_
                    exact ih77 _ _ hn9
              exact HL74 n9 _ _ hn9
        exact HL64 n9 _ _ hn9
      have HL50 : ∀ (n : Nat) (w0_9v47 : Nat → Int64) (x48 : Int32), zlp (fun s => fM_town_L112 s.1 s.2) n (w0_9v47, x48) = some r51 → zR Γ 7 YX12_town 112 [(0, .ref (zad Γ 186)), (1, .int x48)] [] (zui (zui (zui (zul (zul M 186 w0v27) 191 w0_9v47) 186 r0v26) 188 r0_6v46) 189 r0_7v28) Q := by
        intro n
        induction n with
        | zero => intro w0_9v47 x48 hn9; cases hn9
        | succ n ih53 =>
          intro w0_9v47 x48 hn9
          obtain ⟨o9, hb9, h54, h55⟩ := zlp_step hn9
          have hy : fM_town_L112 w0_9v47 x48 = some o9 := hb9
          unfold fM_town_L112 at hy
          refine zj_iload_n (pc' := 113) 1 dX12_town_112 rfl rfl rfl ?_
          refine zj_bipush (pc' := 115) dX12_town_113 rfl kbipush_14 ?_
          refine zj_icmp_ge (tgt := 139) (pc' := 118) dX12_town_115 rfl (by decide) (fun c56 => ?_) (fun c56 => ?_)
          · have hy := zt_t hy c56
            have e9 := h55 _ (Option.some.inj hy).symm
            refine zj_loc [0] rfl ?_
            exact HE49 _ e9.symm
          · have hy := zt_f hy c56
            refine zj_aload_n (pc' := 119) 0 dX12_town_118 rfl rfl rfl ?_
            refine zj_getR (pc' := 122) (j := 191) dX12_town_119 rfl flX12_43 sh186 rfl ?_
            refine zj_iload_n (pc' := 123) 1 dX12_town_122 rfl rfl rfl ?_
            refine zj_aload_n (pc' := 124) 0 dX12_town_123 rfl rfl rfl ?_
            refine zj_getR (pc' := 127) (j := 191) dX12_town_124 rfl flX12_43 sh186 rfl ?_
            refine zj_bipush (pc' := 129) dX12_town_127 rfl kbipush_14 ?_
            refine zj_iload_n (pc' := 130) 1 dX12_town_129 rfl rfl rfl ?_
            refine zj_iadd (pc' := 131) dX12_town_130 rfl ?_
            obtain ⟨v57, hv57, hy⟩ := zt_b hy
            refine zj_rdl (pc' := 132) dX12_town_131 rfl sh191 (zq_i (zq_i (zq_i zq_s))) hv57 ?_
            obtain ⟨w0_9v58, hw0_9v58, hy⟩ := zt_b hy
            refine zj_wrl (pc' := 133) (N := (zui (zui (zui (zul (zul M 186 w0v27) 191 w0_9v58) 186 r0v26) 188 r0_6v46) 189 r0_7v28)) dX12_town_132 rfl sh191 (zq_i (zq_i (zq_i zq_s))) hw0_9v58 (zm_li (zm_li (zm_li zn_s))) ?_
            obtain ⟨x59, ex59⟩ : ∃ z : Int32, z = (x48 + 1) := ⟨_, rfl⟩
            have hy := zlet_at ex59 hy
            refine zj_iinc (pc' := 136) 1 (L' := [(1, .int x59), (0, .ref (zad Γ 186))]) dX12_town_133 rfl rfl (by decide) (by rw [ci1, ← ex59]; rfl) ?_
            refine zj_goto (tgt := 112) dX12_town_136 (by decide) ?_
            have hn9 := h54 _ (Option.some.inj hy).symm
            refine zj_loc [1, 0] rfl ?_
            exact ih53 _ _ hn9
      exact HL50 n9 _ _ hn9
    have HL33 : ∀ (n : Nat) (r0_6v30 : Nat → Int32) (x31 : Int32), zlp (fun s => fM_town_L75 r0_7v28 s.1 s.2) n (r0_6v30, x31) = some r34 → zR Γ 7 YX12_town 75 [(0, .ref (zad Γ 186)), (1, .int x31)] [] (zui (zui (zui (zul (zul M 186 w0v27) 191 w0_9v29) 186 r0v26) 188 r0_6v30) 189 r0_7v28) Q := by
      intro n
      induction n with
      | zero => intro r0_6v30 x31 hn9; cases hn9
      | succ n ih36 =>
        intro r0_6v30 x31 hn9
        obtain ⟨o9, hb9, h37, h38⟩ := zlp_step hn9
        have hy : fM_town_L75 r0_7v28 r0_6v30 x31 = some o9 := hb9
        unfold fM_town_L75 at hy
        refine zj_iload_n (pc' := 76) 1 dX12_town_75 rfl rfl rfl ?_
        refine zj_sipush (pc' := 79) dX12_town_76 rfl ksipush_397 ?_
        refine zj_icmp_ge (tgt := 110) (pc' := 82) dX12_town_79 rfl (by decide) (fun c39 => ?_) (fun c39 => ?_)
        · have hy := zt_t hy c39
          have e9 := h38 _ (Option.some.inj hy).symm
          refine zj_loc [0] rfl ?_
          exact HE32 _ e9.symm
        · have hy := zt_f hy c39
          refine zj_aload_n (pc' := 83) 0 dX12_town_82 rfl rfl rfl ?_
          refine zj_getR (pc' := 86) (j := 188) dX12_town_83 rfl flX12_33 sh186 rfl ?_
          refine zj_iload_n (pc' := 87) 1 dX12_town_86 rfl rfl rfl ?_
          refine zj_iload_n (pc' := 88) 1 dX12_town_87 rfl rfl rfl ?_
          refine zj_bipush (pc' := 90) dX12_town_88 rfl kbipush_89 ?_
          refine zj_icmp_ge (tgt := 102) (pc' := 93) dX12_town_90 rfl (by decide) (fun c40 => ?_) (fun c40 => ?_)
          · have hy := zt_t hy c40
            refine zj_iconst (pc' := 103) dX12_town_102 rfl kiconst_0 ?_
            obtain ⟨r0_6v41, hr0_6v41, hy⟩ := zt_b hy
            refine zj_wri (pc' := 104) (N := (zui (zui (zui (zul (zul M 186 w0v27) 191 w0_9v29) 186 r0v26) 188 r0_6v41) 189 r0_7v28)) dX12_town_103 rfl sh188 (zr_n rfl zr_s) hr0_6v41 (zm_n rfl zm_s) ?_
            obtain ⟨x42, ex42⟩ : ∃ z : Int32, z = (x31 + 1) := ⟨_, rfl⟩
            have hy := zlet_at ex42 hy
            refine zj_iinc (pc' := 107) 1 (L' := [(1, .int x42), (0, .ref (zad Γ 186))]) dX12_town_104 rfl rfl (by decide) (by rw [ci1, ← ex42]; rfl) ?_
            refine zj_goto (tgt := 75) dX12_town_107 (by decide) ?_
            have hn9 := h37 _ (Option.some.inj hy).symm
            refine zj_loc [1, 0] rfl ?_
            exact ih36 _ _ hn9
          · have hy := zt_f hy c40
            refine zj_aload_n (pc' := 94) 0 dX12_town_93 rfl rfl rfl ?_
            refine zj_getR (pc' := 97) (j := 189) dX12_town_94 rfl flX12_37 sh186 rfl ?_
            refine zj_iload_n (pc' := 98) 1 dX12_town_97 rfl rfl rfl ?_
            obtain ⟨v43, hv43, hy⟩ := zt_b hy
            refine zj_rdi (pc' := 99) dX12_town_98 rfl sh189 zr_s hv43 ?_
            refine zj_goto (tgt := 103) dX12_town_99 (by decide) ?_
            obtain ⟨r0_6v44, hr0_6v44, hy⟩ := zt_b hy
            refine zj_wri (pc' := 104) (N := (zui (zui (zui (zul (zul M 186 w0v27) 191 w0_9v29) 186 r0v26) 188 r0_6v44) 189 r0_7v28)) dX12_town_103 rfl sh188 (zr_n rfl zr_s) hr0_6v44 (zm_n rfl zm_s) ?_
            obtain ⟨x45, ex45⟩ : ∃ z : Int32, z = (x31 + 1) := ⟨_, rfl⟩
            have hy := zlet_at ex45 hy
            refine zj_iinc (pc' := 107) 1 (L' := [(1, .int x45), (0, .ref (zad Γ 186))]) dX12_town_104 rfl rfl (by decide) (by rw [ci1, ← ex45]; rfl) ?_
            refine zj_goto (tgt := 75) dX12_town_107 (by decide) ?_
            have hn9 := h37 _ (Option.some.inj hy).symm
            refine zj_loc [1, 0] rfl ?_
            exact ih36 _ _ hn9
    exact HL33 n9 _ _ hn9
  have HL12 : ∀ (n : Nat) (r0v7 : Nat → Int32) (w0v8 : Nat → Int64) (r0_7v9 : Nat → Int32) (w0_9v10 : Nat → Int64), zlp (fun s => fM_town_L30 r0_1 r0_6 w0_10 r0_20 s.1 s.2.1 s.2.2.1 s.2.2.2) n (r0v7, w0v8, r0_7v9, w0_9v10) = some r13 → zR Γ 7 YX12_town 30 [(0, .ref (zad Γ 186))] [] (zui (zui (zul (zul M 186 w0v8) 191 w0_9v10) 186 r0v7) 189 r0_7v9) Q := by
    intro n
    induction n with
    | zero => intro r0v7 w0v8 r0_7v9 w0_9v10 hn9; cases hn9
    | succ n ih15 =>
      intro r0v7 w0v8 r0_7v9 w0_9v10 hn9
      obtain ⟨o9, hb9, h16, h17⟩ := zlp_step hn9
      have hy : fM_town_L30 r0_1 r0_6 w0_10 r0_20 r0v7 w0v8 r0_7v9 w0_9v10 = some o9 := hb9
      unfold fM_town_L30 at hy
      refine zj_aload_n (pc' := 31) 0 dX12_town_30 rfl rfl rfl ?_
      refine zj_fI (pc' := 34) dX12_town_31 rfl flX12_156 sh186 rfl (zr_n rfl zr_s) rfl ?_
      refine zj_if_eq (tgt := 73) (pc' := 37) dX12_town_34 rfl (by decide) (fun c18 => ?_) (fun c18 => ?_)
      · have hy := zt_t hy c18
        have e9 := h17 _ (Option.some.inj hy).symm
        exact HE11 _ _ _ _ e9.symm
      · have hy := zt_f hy c18
        refine zj_aload_n (pc' := 38) 0 dX12_town_37 rfl rfl rfl ?_
        obtain ⟨y19, hy19, hy⟩ := zt_b hy
        refine zj_V1 (pc' := 41) (z := YX12_readLine) (As := []) (N := (zui (zui (zul (zul M 186 y19.2.2.1) 191 y19.2.2.2.2) 186 y19.2.1) 189 y19.2.2.2.1)) dX12_town_38 rfl mlX12_247 lkX12_readLine sh186 ⟨_, _, rfl⟩ rfl rfl (Nat.le_of_ble_eq_true rfl) (Nat.le_of_ble_eq_true rfl) (LX12_readLine_186 Γ _ r0v7 w0v8 r0_1 r0_7v9 w0_9v10 w0_10 (zr_n rfl zr_s) (zq_i (zq_i (zq_n rfl zq_s))) (zr_n rfl (zr_n rfl (zr_l (zr_l e_i187)))) zr_s (zq_i (zq_i zq_s)) (zq_i (zq_i (zq_n rfl (zq_n rfl e_l192)))) hy19) ((zch_i (zch_i (zch_l (zm_li (zm_li (zn_n rfl zn_s))) (zm_li (zm_li zn_s))) (zm_n rfl zm_s)) zm_s)).symm ?_
        refine zj_bif_eq (tgt := 53) (pc' := 44) dX12_town_41 rfl (by decide) (fun c20 => ?_) (fun c20 => ?_)
        · have hy := zt_f hy c20
          refine zj_iconst (pc' := 54) dX12_town_53 rfl kiconst_m1 ?_
          refine zj_aload_n (pc' := 55) 0 dX12_town_54 rfl rfl rfl ?_
          refine zj_fI (pc' := 58) dX12_town_55 rfl flX12_176 sh186 rfl (zr_n rfl zr_s) rfl ?_
          refine zj_isub (pc' := 59) dX12_town_58 rfl ?_
          have e9 := h17 _ (Option.some.inj hy).symm
          have hz25 := zsum_r hyo14 e9.symm
          have e9 := Option.some.inj hz25
          subst e9
          refine zj_mem (N := (zui (zui (zui (zul (zul M 186 y19.2.2.1) 191 y19.2.2.2.2) 186 y19.2.1) 188 r0_6) 189 y19.2.2.2.1)) (zself_i (zr_n rfl (zr_n rfl (zr_l (zr_l e_i188)))) (zm_n rfl rfl)) ?_
          refine zj_mem (N := (zui (zui (zui (zui (zul (zul M 186 y19.2.2.1) 191 y19.2.2.2.2) 186 y19.2.1) 188 r0_6) 189 y19.2.2.2.1) 193 r0_20)) (zself_i (zr_n rfl (zr_n rfl (zr_n rfl (zr_l (zr_l e_i193))))) rfl) ?_
          exact zj_iret dX12_town_59 rfl hq
        · have hy := zt_t hy c20
          refine zj_aload_n (pc' := 45) 0 dX12_town_44 rfl rfl rfl ?_
          refine zj_bipush (pc' := 47) dX12_town_45 rfl kbipush_59 ?_
          obtain ⟨y21, hy21, hy⟩ := zt_b hy
          refine zj_V1 (pc' := 50) (z := YX12_sign) (As := [.int 59]) (N := (zui (zui (zul (zul M 186 y21.2.2) 191 y19.2.2.2.2) 186 y21.2.1) 189 y19.2.2.2.1)) dX12_town_47 rfl mlX12_250 lkX12_sign sh186 ⟨_, _, rfl⟩ rfl rfl (Nat.le_of_ble_eq_true rfl) (Nat.le_of_ble_eq_true rfl) (LX12_sign_186 Γ _ y19.2.1 y19.2.2.1 r0_1 (zr_n rfl zr_s) (zq_i (zq_i (zq_n rfl zq_s))) (zr_n rfl (zr_n rfl (zr_l (zr_l e_i187)))) 59 hy21) ((zch_i (zm_li (zm_li (zn_n rfl zn_s))) (zm_n rfl zm_s))).symm ?_
          refine zj_bif_ne (tgt := 60) (pc' := 53) dX12_town_50 rfl (by decide) (fun c22 => ?_) (fun c22 => ?_)
          · have hy := zt_t hy c22
            refine zj_aload_n (pc' := 61) 0 dX12_town_60 rfl rfl rfl ?_
            refine zj_dup (pc' := 62) dX12_town_61 rfl rfl ?_
            refine zj_fI (pc' := 65) dX12_town_62 rfl flX12_244 sh186 rfl (zr_n rfl zr_s) rfl ?_
            refine zj_iconst (pc' := 66) dX12_town_65 rfl kiconst_1 ?_
            refine zj_iadd (pc' := 67) dX12_town_66 rfl ?_
            obtain ⟨r0v23, er0v23⟩ : ∃ z, z = (zup y21.2.1 19 ((y21.2.1 19) + 1)) := ⟨_, rfl⟩
            have hy := zlet_at er0v23 hy
            refine zj_pI (pc' := 70) (N := (zui (zui (zul (zul M 186 y21.2.2) 191 y19.2.2.2.2) 186 r0v23) 189 y19.2.2.2.1)) dX12_town_67 rfl fpX12_244 sh186 rfl (zr_n rfl zr_s) er0v23 (zm_n rfl zm_s) ?_
            refine zj_goto (tgt := 30) dX12_town_70 (by decide) ?_
            have hn9 := h16 _ (Option.some.inj hy).symm
            exact ih15 _ _ _ _ hn9
          · have hy := zt_f hy c22
            refine zj_iconst (pc' := 54) dX12_town_53 rfl kiconst_m1 ?_
            refine zj_aload_n (pc' := 55) 0 dX12_town_54 rfl rfl rfl ?_
            refine zj_fI (pc' := 58) dX12_town_55 rfl flX12_176 sh186 rfl (zr_n rfl zr_s) rfl ?_
            refine zj_isub (pc' := 59) dX12_town_58 rfl ?_
            have e9 := h17 _ (Option.some.inj hy).symm
            have hz24 := zsum_r hyo14 e9.symm
            have e9 := Option.some.inj hz24
            subst e9
            refine zj_mem (N := (zui (zui (zui (zul (zul M 186 y21.2.2) 191 y19.2.2.2.2) 186 y21.2.1) 188 r0_6) 189 y19.2.2.2.1)) (zself_i (zr_n rfl (zr_n rfl (zr_l (zr_l e_i188)))) (zm_n rfl rfl)) ?_
            refine zj_mem (N := (zui (zui (zui (zui (zul (zul M 186 y21.2.2) 191 y19.2.2.2.2) 186 y21.2.1) 188 r0_6) 189 y19.2.2.2.1) 193 r0_20)) (zself_i (zr_n rfl (zr_n rfl (zr_n rfl (zr_l (zr_l e_i193))))) rfl) ?_
            exact zj_iret dX12_town_59 rfl hq
  exact HL12 n9 _ _ _ _ hn9
set_option maxRecDepth 20000 in
theorem LX12_town_186 (Γ : zG) (M : zM) (r0 : Nat → Int32) (w0 : Nat → Int64) (r0_1 : Nat → Int32) (r0_6 : Nat → Int32) (r0_7 : Nat → Int32) (w0_9 : Nat → Int64) (w0_10 : Nat → Int64) (r0_20 : Nat → Int32) (e_i186 : M.1 186 = r0) (e_l186 : M.2 186 = w0) (e_i187 : M.1 187 = r0_1) (e_i188 : M.1 188 = r0_6) (e_i189 : M.1 189 = r0_7) (e_l191 : M.2 191 = w0_9) (e_l192 : M.2 192 = w0_10) (e_i193 : M.1 193 = r0_20)  {res : Int32 × (Nat → Int32) × (Nat → Int64) × (Nat → Int32) × (Nat → Int32) × (Nat → Int64) × (Nat → Int32)} (hy : (fM_town r0 w0 r0_1 r0_6 r0_7 w0_9 w0_10 r0_20) = some res) : zK Γ 7 YX12_town [.ref (zad Γ 186)] M (fun v N => v = some (.int res.1) ∧ N = (zui (zui (zui (zui (zul (zul M 186 res.2.2.1) 191 res.2.2.2.2.2.1) 186 res.2.1) 188 res.2.2.2.1) 189 res.2.2.2.2.1) 193 res.2.2.2.2.2.2)) :=
  zK_of (by decide) (Nat.le_of_ble_eq_true rfl) (TX12_town_186 Γ M r0 w0 r0_1 r0_6 r0_7 w0_9 w0_10 r0_20 e_i186 e_l186 e_i187 e_i188 e_i189 e_l191 e_l192 e_i193 hy ⟨rfl, rfl⟩)

noncomputable def fX_fault (r0 : Nat → Int32) : Int32 :=
  (r0 16)

set_option maxRecDepth 20000 in
theorem TX11_fault_0 (Γ : zG) {Q : Option Value → zM → Prop} (M : zM) (r0 : Nat → Int32) (e_i0 : M.1 0 = r0)  {res : Int32} (hy : (fX_fault r0) = res) (hq : Q (some (.int res)) M) : zR Γ 1 YX11_fault 0 [(0, .ref (zad Γ 0))] [] M Q := by
  unfold fX_fault at hy
  refine zj_aload_n (pc' := 1) 0 dX11_fault_0 rfl rfl rfl ?_
  refine zj_fI (pc' := 4) dX11_fault_1 rfl flX11_139 sh0 rfl e_i0 rfl ?_
  subst hy
  exact zj_iret dX11_fault_4 rfl hq
set_option maxRecDepth 20000 in
theorem LX11_fault_0 (Γ : zG) (M : zM) (r0 : Nat → Int32) (e_i0 : M.1 0 = r0)  {res : Int32} (hy : (fX_fault r0) = res) : zK Γ 1 YX11_fault [.ref (zad Γ 0)] M (fun v N => v = some (.int res) ∧ N = M) :=
  zK_of (by decide) (Nat.le_of_ble_eq_true rfl) (TX11_fault_0 Γ M r0 e_i0 hy ⟨rfl, rfl⟩)

noncomputable def fM_fault (r0 : Nat → Int32) : Option (Int32 × (Nat → Int32)) :=
  zlet (zup r0 0 0) (fun (r0v1 : Nat → Int32) =>
  some ((r0v1 15), r0v1))

set_option maxRecDepth 20000 in
theorem TX12_fault_186 (Γ : zG) {Q : Option Value → zM → Prop} (M : zM) (r0 : Nat → Int32) (e_i186 : M.1 186 = r0)  {res : Int32 × (Nat → Int32)} (hy : (fM_fault r0) = some res) (hq : Q (some (.int res.1)) (zui M 186 res.2)) : zR Γ 1 YX12_fault 0 [(0, .ref (zad Γ 186))] [] M Q := by
  unfold fM_fault at hy
  refine zj_aload_n (pc' := 1) 0 dX12_fault_0 rfl rfl rfl ?_
  refine zj_iconst (pc' := 2) dX12_fault_1 rfl kiconst_0 ?_
  obtain ⟨r0v1, er0v1⟩ : ∃ z, z = (zup r0 0 0) := ⟨_, rfl⟩
  have hy := zlet_at er0v1 hy
  refine zj_pI (pc' := 5) (N := (zui M 186 r0v1)) dX12_fault_2 rfl fpX12_1 sh186 rfl e_i186 er0v1 rfl ?_
  refine zj_aload_n (pc' := 6) 0 dX12_fault_5 rfl rfl rfl ?_
  refine zj_fI (pc' := 9) dX12_fault_6 rfl flX12_173 sh186 rfl zr_s rfl ?_
  have e9 := Option.some.inj hy
  subst e9
  exact zj_iret dX12_fault_9 rfl hq
set_option maxRecDepth 20000 in
theorem LX12_fault_186 (Γ : zG) (M : zM) (r0 : Nat → Int32) (e_i186 : M.1 186 = r0)  {res : Int32 × (Nat → Int32)} (hy : (fM_fault r0) = some res) : zK Γ 1 YX12_fault [.ref (zad Γ 186)] M (fun v N => v = some (.int res.1) ∧ N = (zui M 186 res.2)) :=
  zK_of (by decide) (Nat.le_of_ble_eq_true rfl) (TX12_fault_186 Γ M r0 e_i186 hy ⟨rfl, rfl⟩)

noncomputable def fPl_hasPerson (r0 : Nat → Int32) (a1 : Int32) : Bool :=
  (if a1 < 0 then false else (if (r0 6) ≤ a1 then false else (if 6 ≤ a1 then false else true)))

set_option maxRecDepth 20000 in
theorem TX7_hasPerson_5 (Γ : zG) {Q : Option Value → zM → Prop} (M : zM) (r0 : Nat → Int32) (e_i5 : M.1 5 = r0) (a1 : Int32) {res : Bool} (hy : (fPl_hasPerson r0 a1) = res) (hq : Q (some (.int (zb res))) M) : zR Γ 1 YX7_hasPerson 0 [(0, .ref (zad Γ 5)), (1, .int a1)] [] M Q := by
  unfold fPl_hasPerson at hy
  refine zj_iload_n (pc' := 1) 1 dX7_hasPerson_0 rfl rfl rfl ?_
  have HJ1 : zR Γ 1 YX7_hasPerson 23 [(0, .ref (zad Γ 5)), (1, .int a1)] [.int (zb (if a1 < 0 then false else (if (r0 6) ≤ a1 then false else (if 6 ≤ a1 then false else true))))] M Q := by
    subst hy
    exact zj_bret (b := (if a1 < 0 then false else (if (r0 6) ≤ a1 then false else (if 6 ≤ a1 then false else true)))) dX7_hasPerson_23 rfl hq
  refine zj_if_lt (tgt := 22) (pc' := 4) dX7_hasPerson_1 rfl (by decide) (fun c2 => ?_) (fun c2 => ?_)
  · refine zj_iconst (pc' := 23) dX7_hasPerson_22 rfl kiconst_0 ?_
    exact zj_eqb (b := false) (if_pos c2) HJ1
  · refine zj_iload_n (pc' := 5) 1 dX7_hasPerson_4 rfl rfl rfl ?_
    refine zj_aload_n (pc' := 6) 0 dX7_hasPerson_5 rfl rfl rfl ?_
    refine zj_fI (pc' := 9) dX7_hasPerson_6 rfl flX7_32 sh5 rfl e_i5 rfl ?_
    refine zj_icmp_ge (tgt := 22) (pc' := 12) dX7_hasPerson_9 rfl (by decide) (fun c3 => ?_) (fun c3 => ?_)
    · refine zj_iconst (pc' := 23) dX7_hasPerson_22 rfl kiconst_0 ?_
      exact zj_eqb (b := false) ((if_neg c2).trans (if_pos c3)) HJ1
    · refine zj_iload_n (pc' := 13) 1 dX7_hasPerson_12 rfl rfl rfl ?_
      refine zj_bipush (pc' := 15) dX7_hasPerson_13 rfl kbipush_6 ?_
      refine zj_icmp_ge (tgt := 22) (pc' := 18) dX7_hasPerson_15 rfl (by decide) (fun c4 => ?_) (fun c4 => ?_)
      · refine zj_iconst (pc' := 23) dX7_hasPerson_22 rfl kiconst_0 ?_
        exact zj_eqb (b := false) (((if_neg c2).trans (if_neg c3)).trans (if_pos c4)) HJ1
      · refine zj_iconst (pc' := 19) dX7_hasPerson_18 rfl kiconst_1 ?_
        refine zj_goto (tgt := 23) dX7_hasPerson_19 (by decide) ?_
        exact zj_eqb (b := true) (((if_neg c2).trans (if_neg c3)).trans (if_neg c4)) HJ1
set_option maxRecDepth 20000 in
theorem LX7_hasPerson_5 (Γ : zG) (M : zM) (r0 : Nat → Int32) (e_i5 : M.1 5 = r0) (a1 : Int32) {res : Bool} (hy : (fPl_hasPerson r0 a1) = res) : zK Γ 1 YX7_hasPerson [.ref (zad Γ 5), .int a1] M (fun v N => v = some (.int (zb res)) ∧ N = M) :=
  zK_of (by decide) (Nat.le_of_ble_eq_true rfl) (TX7_hasPerson_5 Γ M r0 e_i5 a1 hy ⟨rfl, rfl⟩)

noncomputable def fM_isPerson (r0_6 : Nat → Int32) (a1 : Int32) : Option (Bool) :=
  some (fM_isIn a1 0 ((r0_6 2) - 1))

set_option maxRecDepth 20000 in
theorem TX12_isPerson_186 (Γ : zG) {Q : Option Value → zM → Prop} (M : zM) (r0_6 : Nat → Int32) (e_i188 : M.1 188 = r0_6) (a1 : Int32) {res : Bool} (hy : (fM_isPerson r0_6 a1) = some res) (hq : Q (some (.int (zb res))) M) : zR Γ 2 YX12_isPerson 0 [(0, .ref (zad Γ 186)), (1, .int a1)] [] M Q := by
  unfold fM_isPerson at hy
  refine zj_iload_n (pc' := 1) 1 dX12_isPerson_0 rfl rfl rfl ?_
  refine zj_iconst (pc' := 2) dX12_isPerson_1 rfl kiconst_0 ?_
  refine zj_aload_n (pc' := 3) 0 dX12_isPerson_2 rfl rfl rfl ?_
  refine zj_getR (pc' := 6) (j := 188) dX12_isPerson_3 rfl flX12_33 sh186 rfl ?_
  refine zj_iconst (pc' := 7) dX12_isPerson_6 rfl kiconst_2 ?_
  refine zj_rdi (pc' := 8) dX12_isPerson_7 rfl sh188 e_i188 (zrdK zi2_397 tn2) ?_
  refine zj_iconst (pc' := 9) dX12_isPerson_8 rfl kiconst_1 ?_
  refine zj_isub (pc' := 10) dX12_isPerson_9 rfl ?_
  refine zj_S1 (pc' := 13) (z := YX12_isIn) (As := [.int a1, .int 0, .int ((r0_6 2) - 1)]) (N := M) dX12_isPerson_10 rfl mlX12_188 lkX12_isIn rfl rfl (Nat.le_of_ble_eq_true rfl) (Nat.le_of_ble_eq_true rfl) (LX12_isIn Γ _ a1 0 ((r0_6 2) - 1) rfl) rfl ?_
  have e9 := Option.some.inj hy
  subst e9
  exact zj_bret (b := (fM_isIn a1 0 ((r0_6 2) - 1))) dX12_isPerson_13 rfl hq
set_option maxRecDepth 20000 in
theorem LX12_isPerson_186 (Γ : zG) (M : zM) (r0_6 : Nat → Int32) (e_i188 : M.1 188 = r0_6) (a1 : Int32) {res : Bool} (hy : (fM_isPerson r0_6 a1) = some res) : zK Γ 2 YX12_isPerson [.ref (zad Γ 186), .int a1] M (fun v N => v = some (.int (zb res)) ∧ N = M) :=
  zK_of (by decide) (Nat.le_of_ble_eq_true rfl) (TX12_isPerson_186 Γ M r0_6 e_i188 a1 hy ⟨rfl, rfl⟩)

noncomputable def fM_throwsIf (r0 : Nat → Int32) (a1 : Int32) : Option (Bool × (Nat → Int32)) :=
  zlet (zup r0 0 (zb (if a1 = 0 then false else true))) (fun (r0v3 : Nat → Int32) =>
  (if a1 = 0 ∨ a1 = 1 then some ((decide (a1 = 1)), r0v3) else none))

set_option maxRecDepth 20000 in
theorem TX12_throwsIf_186 (Γ : zG) {Q : Option Value → zM → Prop} (M : zM) (r0 : Nat → Int32) (e_i186 : M.1 186 = r0) (a1 : Int32) {res : Bool × (Nat → Int32)} (hy : (fM_throwsIf r0 a1) = some res) (hq : Q (some (.int (zb res.1))) (zui M 186 res.2)) : zR Γ 1 YX12_throwsIf 0 [(0, .ref (zad Γ 186)), (1, .int a1)] [] M Q := by
  unfold fM_throwsIf at hy
  refine zj_aload_n (pc' := 1) 0 dX12_throwsIf_0 rfl rfl rfl ?_
  refine zj_iload_n (pc' := 2) 1 dX12_throwsIf_1 rfl rfl rfl ?_
  have HJ1 : zR Γ 1 YX12_throwsIf 10 [(0, .ref (zad Γ 186)), (1, .int a1)] [.int (zb (if a1 = 0 then false else true)), .ref (zad Γ 186)] M Q := by
    obtain ⟨r0v3, er0v3⟩ : ∃ z, z = (zup r0 0 (zb (if a1 = 0 then false else true))) := ⟨_, rfl⟩
    have hy := zlet_at er0v3 hy
    refine zj_pI (pc' := 13) (N := (zui M 186 r0v3)) dX12_throwsIf_10 rfl fpX12_1 sh186 rfl e_i186 er0v3 rfl ?_
    refine zj_iload_n (pc' := 14) 1 dX12_throwsIf_13 rfl rfl rfl ?_
    obtain ⟨cz9, hz9⟩ := zck hy
    have e9 := Option.some.inj hz9
    subst e9
    exact zj_cret dX12_throwsIf_14 rfl cz9 hq
  refine zj_if_eq (tgt := 9) (pc' := 5) dX12_throwsIf_2 rfl (by decide) (fun c2 => ?_) (fun c2 => ?_)
  · refine zj_iconst (pc' := 10) dX12_throwsIf_9 rfl kiconst_0 ?_
    exact zj_eqb (b := false) (if_pos c2) HJ1
  · refine zj_iconst (pc' := 6) dX12_throwsIf_5 rfl kiconst_1 ?_
    refine zj_goto (tgt := 10) dX12_throwsIf_6 (by decide) ?_
    exact zj_eqb (b := true) (if_neg c2) HJ1
set_option maxRecDepth 20000 in
theorem LX12_throwsIf_186 (Γ : zG) (M : zM) (r0 : Nat → Int32) (e_i186 : M.1 186 = r0) (a1 : Int32) {res : Bool × (Nat → Int32)} (hy : (fM_throwsIf r0 a1) = some res) : zK Γ 1 YX12_throwsIf [.ref (zad Γ 186), .int a1] M (fun v N => v = some (.int (zb res.1)) ∧ N = (zui M 186 res.2)) :=
  zK_of (by decide) (Nat.le_of_ble_eq_true rfl) (TX12_throwsIf_186 Γ M r0 e_i186 a1 hy ⟨rfl, rfl⟩)

noncomputable def fM_whomBy (r0_6 : Nat → Int32) (a1 : Int32) : Option (Int32) :=
  (zrd r0_6 397 (133 + a1)).bind (fun (v1 : Int32) =>
  some (v1 - 1))

set_option maxRecDepth 20000 in
theorem TX12_whomBy_186 (Γ : zG) {Q : Option Value → zM → Prop} (M : zM) (r0_6 : Nat → Int32) (e_i188 : M.1 188 = r0_6) (a1 : Int32) {res : Int32} (hy : (fM_whomBy r0_6 a1) = some res) (hq : Q (some (.int res)) M) : zR Γ 1 YX12_whomBy 0 [(0, .ref (zad Γ 186)), (1, .int a1)] [] M Q := by
  unfold fM_whomBy at hy
  refine zj_aload_n (pc' := 1) 0 dX12_whomBy_0 rfl rfl rfl ?_
  refine zj_getR (pc' := 4) (j := 188) dX12_whomBy_1 rfl flX12_33 sh186 rfl ?_
  refine zj_sipush (pc' := 7) dX12_whomBy_4 rfl ksipush_133 ?_
  refine zj_iload_n (pc' := 8) 1 dX12_whomBy_7 rfl rfl rfl ?_
  refine zj_iadd (pc' := 9) dX12_whomBy_8 rfl ?_
  obtain ⟨v1, hv1, hy⟩ := zt_b hy
  refine zj_rdi (pc' := 10) dX12_whomBy_9 rfl sh188 e_i188 hv1 ?_
  refine zj_iconst (pc' := 11) dX12_whomBy_10 rfl kiconst_1 ?_
  refine zj_isub (pc' := 12) dX12_whomBy_11 rfl ?_
  have e9 := Option.some.inj hy
  subst e9
  exact zj_iret dX12_whomBy_12 rfl hq
set_option maxRecDepth 20000 in
theorem LX12_whomBy_186 (Γ : zG) (M : zM) (r0_6 : Nat → Int32) (e_i188 : M.1 188 = r0_6) (a1 : Int32) {res : Int32} (hy : (fM_whomBy r0_6 a1) = some res) : zK Γ 1 YX12_whomBy [.ref (zad Γ 186), .int a1] M (fun v N => v = some (.int res) ∧ N = M) :=
  zK_of (by decide) (Nat.le_of_ble_eq_true rfl) (TX12_whomBy_186 Γ M r0_6 e_i188 a1 hy ⟨rfl, rfl⟩)

noncomputable def fM_lastOf_L6 (r0_6 : Nat → Int32) (x2 : Int32) (x3 : Int32) : Option ((Int32 × Int32) ⊕ (Int32)) :=
  (fM_whomBy r0_6 x3).bind (fun (y11 : Int32) =>
  (if y11 < 0 then
  some (.inr x3)
  else
  (fM_whomBy r0_6 x3).bind (fun (y13 : Int32) =>
  (if (fM_bitOf x2 y13) = true then
  some (.inr x3)
  else
  (fM_whomBy r0_6 x3).bind (fun (y15 : Int32) =>
  zlet (x2 ||| ((1 : Int32) <<< (y15 &&& 31))) (fun (x16 : Int32) =>
  some (.inl (x16, y15))))))))
noncomputable def fM_lastOf (r0_6 : Nat → Int32) (a1 : Int32) : Option (Int32) :=
  zlet ((1 : Int32) <<< (a1 &&& 31)) (fun (x1 : Int32) =>
  (zLP (fun s => fM_lastOf_L6 r0_6 s.1 s.2) (x1, a1)).bind (fun r6 =>
  some r6))

set_option maxRecDepth 20000 in
theorem TX12_lastOf_186 (Γ : zG) {Q : Option Value → zM → Prop} (M : zM) (r0_6 : Nat → Int32) (e_i188 : M.1 188 = r0_6) (a1 : Int32) {res : Int32} (hy : (fM_lastOf r0_6 a1) = some res) (hq : Q (some (.int res)) M) : zR Γ 2 YX12_lastOf 0 [(0, .ref (zad Γ 186)), (1, .int a1)] [] M Q := by
  unfold fM_lastOf at hy
  refine zj_iconst (pc' := 1) dX12_lastOf_0 rfl kiconst_1 ?_
  refine zj_iload_n (pc' := 2) 1 dX12_lastOf_1 rfl rfl rfl ?_
  refine zj_ishl (pc' := 3) dX12_lastOf_2 rfl ?_
  refine zj_topi (fun x1 ex1 => ?_)
  have hy := zlet_at ex1 hy
  refine zj_istore_n (pc' := 4) (L' := [(2, .int x1), (0, .ref (zad Γ 186)), (1, .int a1)]) dX12_lastOf_3 rfl rfl (by decide) rfl ?_
  refine zj_iload_n (pc' := 5) 2 dX12_lastOf_4 rfl rfl rfl ?_
  refine zj_istore_n (pc' := 6) (L' := [(3, .int a1), (2, .int x1), (0, .ref (zad Γ 186)), (1, .int a1)]) dX12_lastOf_5 rfl rfl (by decide) rfl ?_
  refine zj_loc [2, 1, 0] rfl ?_
  obtain ⟨r6, hr9, hyo7⟩ := zt_b hy
  obtain ⟨n9, hn9⟩ := zLP_some hr9
  have HE4 : ∀ (x17 : Int32), r6 = x17 → zR Γ 2 YX12_lastOf 41 [(3, .int x17)] [] M Q := by
    intro x17 e9
    have hy := hyo7
    try rw [e9] at hy
    try dsimp only at hy
    refine zj_iload_n (pc' := 42) 0 dX12_lastOf_41 rfl rfl rfl ?_
    have e9 := Option.some.inj hy
    subst e9
    exact zj_iret dX12_lastOf_42 rfl hq
  have HL5 : ∀ (n : Nat) (x2 : Int32) (x3 : Int32), zlp (fun s => fM_lastOf_L6 r0_6 s.1 s.2) n (x2, x3) = some r6 → zR Γ 2 YX12_lastOf 6 [(0, .ref (zad Γ 186)), (2, .int x2), (3, .int x3)] [] M Q := by
    intro n
    induction n with
    | zero => intro x2 x3 hn9; cases hn9
    | succ n ih8 =>
      intro x2 x3 hn9
      obtain ⟨o9, hb9, h9, h10⟩ := zlp_step hn9
      have hy : fM_lastOf_L6 r0_6 x2 x3 = some o9 := hb9
      unfold fM_lastOf_L6 at hy
      refine zj_aload_n (pc' := 7) 0 dX12_lastOf_6 rfl rfl rfl ?_
      refine zj_iload_n (pc' := 8) 2 dX12_lastOf_7 rfl rfl rfl ?_
      obtain ⟨y11, hy11, hy⟩ := zt_b hy
      refine zj_V1 (pc' := 11) (z := YX12_whomBy) (As := [.int x3]) (N := M) dX12_lastOf_8 rfl mlX12_266 lkX12_whomBy sh186 ⟨_, _, rfl⟩ rfl rfl (Nat.le_of_ble_eq_true rfl) (Nat.le_of_ble_eq_true rfl) (LX12_whomBy_186 Γ _ r0_6 e_i188 x3 hy11) rfl ?_
      refine zj_if_lt (tgt := 41) (pc' := 14) dX12_lastOf_11 rfl (by decide) (fun c12 => ?_) (fun c12 => ?_)
      · have hy := zt_t hy c12
        have e9 := h10 _ (Option.some.inj hy).symm
        refine zj_loc [2] rfl ?_
        exact HE4 _ e9.symm
      · have hy := zt_f hy c12
        refine zj_iload_n (pc' := 15) 1 dX12_lastOf_14 rfl rfl rfl ?_
        refine zj_aload_n (pc' := 16) 0 dX12_lastOf_15 rfl rfl rfl ?_
        refine zj_iload_n (pc' := 17) 2 dX12_lastOf_16 rfl rfl rfl ?_
        obtain ⟨y13, hy13, hy⟩ := zt_b hy
        refine zj_V1 (pc' := 20) (z := YX12_whomBy) (As := [.int x3]) (N := M) dX12_lastOf_17 rfl mlX12_266 lkX12_whomBy sh186 ⟨_, _, rfl⟩ rfl rfl (Nat.le_of_ble_eq_true rfl) (Nat.le_of_ble_eq_true rfl) (LX12_whomBy_186 Γ _ r0_6 e_i188 x3 hy13) rfl ?_
        refine zj_S1 (pc' := 23) (z := YX12_bitOf) (As := [.int x2, .int y13]) (N := M) dX12_lastOf_20 rfl mlX12_235 lkX12_bitOf rfl rfl (Nat.le_of_ble_eq_true rfl) (Nat.le_of_ble_eq_true rfl) (LX12_bitOf Γ _ x2 y13 rfl) rfl ?_
        refine zj_bif_ne (tgt := 41) (pc' := 26) dX12_lastOf_23 rfl (by decide) (fun c14 => ?_) (fun c14 => ?_)
        · have hy := zt_t hy c14
          have e9 := h10 _ (Option.some.inj hy).symm
          refine zj_loc [2] rfl ?_
          exact HE4 _ e9.symm
        · have hy := zt_f hy c14
          refine zj_aload_n (pc' := 27) 0 dX12_lastOf_26 rfl rfl rfl ?_
          refine zj_iload_n (pc' := 28) 2 dX12_lastOf_27 rfl rfl rfl ?_
          obtain ⟨y15, hy15, hy⟩ := zt_b hy
          refine zj_V1 (pc' := 31) (z := YX12_whomBy) (As := [.int x3]) (N := M) dX12_lastOf_28 rfl mlX12_266 lkX12_whomBy sh186 ⟨_, _, rfl⟩ rfl rfl (Nat.le_of_ble_eq_true rfl) (Nat.le_of_ble_eq_true rfl) (LX12_whomBy_186 Γ _ r0_6 e_i188 x3 hy15) rfl ?_
          refine zj_istore_n (pc' := 32) (L' := [(3, .int y15), (0, .ref (zad Γ 186)), (2, .int x2)]) dX12_lastOf_31 rfl rfl (by decide) rfl ?_
          refine zj_iload_n (pc' := 33) 2 dX12_lastOf_32 rfl rfl rfl ?_
          refine zj_iconst (pc' := 34) dX12_lastOf_33 rfl kiconst_1 ?_
          refine zj_iload_n (pc' := 35) 0 dX12_lastOf_34 rfl rfl rfl ?_
          refine zj_ishl (pc' := 36) dX12_lastOf_35 rfl ?_
          refine zj_ior (pc' := 37) dX12_lastOf_36 rfl ?_
          refine zj_topi (fun x16 ex16 => ?_)
          have hy := zlet_at ex16 hy
          refine zj_istore_n (pc' := 38) (L' := [(2, .int x16), (3, .int y15), (0, .ref (zad Γ 186))]) dX12_lastOf_37 rfl rfl (by decide) rfl ?_
          refine zj_goto (tgt := 6) dX12_lastOf_38 (by decide) ?_
          have hn9 := h9 _ (Option.some.inj hy).symm
          refine zj_loc [2, 0, 1] rfl ?_
          exact ih8 _ _ hn9
  exact HL5 n9 _ _ hn9
set_option maxRecDepth 20000 in
theorem LX12_lastOf_186 (Γ : zG) (M : zM) (r0_6 : Nat → Int32) (e_i188 : M.1 188 = r0_6) (a1 : Int32) {res : Int32} (hy : (fM_lastOf r0_6 a1) = some res) : zK Γ 2 YX12_lastOf [.ref (zad Γ 186), .int a1] M (fun v N => v = some (.int res) ∧ N = M) :=
  zK_of (by decide) (Nat.le_of_ble_eq_true rfl) (TX12_lastOf_186 Γ M r0_6 e_i188 a1 hy ⟨rfl, rfl⟩)

noncomputable def fM_followersOf_L4 (r0_6 : Nat → Int32) (a1 : Int32) (x1 : Int32) (x2 : Int32) : Option ((Int32 × Int32) ⊕ (Int32)) :=
  (if (r0_6 2) ≤ x2 then
  some (.inr x1)
  else
  (fM_whomBy r0_6 x2).bind (fun (y11 : Int32) =>
  zlet (x1 ||| (if y11 = a1 then ((1 : Int32) <<< (x2 &&& 31)) else (0 : Int32))) (fun (x14 : Int32) =>
  zlet (x2 + 1) (fun (x15 : Int32) =>
  some (.inl (x14, x15))))))
noncomputable def fM_followersOf (r0_6 : Nat → Int32) (a1 : Int32) : Option (Int32) :=
  (zLP (fun s => fM_followersOf_L4 r0_6 a1 s.1 s.2) (0, 0)).bind (fun r5 =>
  some r5)

set_option maxRecDepth 20000 in
theorem TX12_followersOf_186 (Γ : zG) {Q : Option Value → zM → Prop} (M : zM) (r0_6 : Nat → Int32) (e_i188 : M.1 188 = r0_6) (a1 : Int32) {res : Int32} (hy : (fM_followersOf r0_6 a1) = some res) (hq : Q (some (.int res)) M) : zR Γ 2 YX12_followersOf 0 [(0, .ref (zad Γ 186)), (1, .int a1)] [] M Q := by
  unfold fM_followersOf at hy
  refine zj_iconst (pc' := 1) dX12_followersOf_0 rfl kiconst_0 ?_
  refine zj_istore_n (pc' := 2) (L' := [(2, .int 0), (0, .ref (zad Γ 186)), (1, .int a1)]) dX12_followersOf_1 rfl rfl (by decide) rfl ?_
  refine zj_iconst (pc' := 3) dX12_followersOf_2 rfl kiconst_0 ?_
  refine zj_istore_n (pc' := 4) (L' := [(3, .int 0), (2, .int 0), (0, .ref (zad Γ 186)), (1, .int a1)]) dX12_followersOf_3 rfl rfl (by decide) rfl ?_
  refine zj_loc [2, 3, 1, 0] rfl ?_
  obtain ⟨r5, hr9, hyo6⟩ := zt_b hy
  obtain ⟨n9, hn9⟩ := zLP_some hr9
  have HE3 : ∀ (x16 : Int32), r5 = x16 → zR Γ 2 YX12_followersOf 39 [(2, .int x16)] [] M Q := by
    intro x16 e9
    have hy := hyo6
    try rw [e9] at hy
    try dsimp only at hy
    refine zj_iload_n (pc' := 40) 0 dX12_followersOf_39 rfl rfl rfl ?_
    have e9 := Option.some.inj hy
    subst e9
    exact zj_iret dX12_followersOf_40 rfl hq
  have HL4 : ∀ (n : Nat) (x1 : Int32) (x2 : Int32), zlp (fun s => fM_followersOf_L4 r0_6 a1 s.1 s.2) n (x1, x2) = some r5 → zR Γ 2 YX12_followersOf 4 [(0, .ref (zad Γ 186)), (1, .int a1), (2, .int x1), (3, .int x2)] [] M Q := by
    intro n
    induction n with
    | zero => intro x1 x2 hn9; cases hn9
    | succ n ih7 =>
      intro x1 x2 hn9
      obtain ⟨o9, hb9, h8, h9⟩ := zlp_step hn9
      have hy : fM_followersOf_L4 r0_6 a1 x1 x2 = some o9 := hb9
      unfold fM_followersOf_L4 at hy
      refine zj_iload_n (pc' := 5) 3 dX12_followersOf_4 rfl rfl rfl ?_
      refine zj_aload_n (pc' := 6) 0 dX12_followersOf_5 rfl rfl rfl ?_
      refine zj_getR (pc' := 9) (j := 188) dX12_followersOf_6 rfl flX12_33 sh186 rfl ?_
      refine zj_iconst (pc' := 10) dX12_followersOf_9 rfl kiconst_2 ?_
      refine zj_rdi (pc' := 11) dX12_followersOf_10 rfl sh188 e_i188 (zrdK zi2_397 tn2) ?_
      refine zj_icmp_ge (tgt := 39) (pc' := 14) dX12_followersOf_11 rfl (by decide) (fun c10 => ?_) (fun c10 => ?_)
      · have hy := zt_t hy c10
        have e9 := h9 _ (Option.some.inj hy).symm
        refine zj_loc [2] rfl ?_
        exact HE3 _ e9.symm
      · have hy := zt_f hy c10
        refine zj_iload_n (pc' := 15) 2 dX12_followersOf_14 rfl rfl rfl ?_
        refine zj_aload_n (pc' := 16) 0 dX12_followersOf_15 rfl rfl rfl ?_
        refine zj_iload_n (pc' := 17) 3 dX12_followersOf_16 rfl rfl rfl ?_
        obtain ⟨y11, hy11, hy⟩ := zt_b hy
        refine zj_V1 (pc' := 20) (z := YX12_whomBy) (As := [.int x2]) (N := M) dX12_followersOf_17 rfl mlX12_266 lkX12_whomBy sh186 ⟨_, _, rfl⟩ rfl rfl (Nat.le_of_ble_eq_true rfl) (Nat.le_of_ble_eq_true rfl) (LX12_whomBy_186 Γ _ r0_6 e_i188 x2 hy11) rfl ?_
        refine zj_iload_n (pc' := 21) 1 dX12_followersOf_20 rfl rfl rfl ?_
        have HJ12 : zR Γ 2 YX12_followersOf 31 [(0, .ref (zad Γ 186)), (1, .int a1), (2, .int x1), (3, .int x2)] [.int (if y11 = a1 then ((1 : Int32) <<< (x2 &&& 31)) else (0 : Int32)), .int x1] M Q := by
          refine zj_ior (pc' := 32) dX12_followersOf_31 rfl ?_
          refine zj_topi (fun x14 ex14 => ?_)
          have hy := zlet_at ex14 hy
          refine zj_istore_n (pc' := 33) (L' := [(2, .int x14), (0, .ref (zad Γ 186)), (1, .int a1), (3, .int x2)]) dX12_followersOf_32 rfl rfl (by decide) rfl ?_
          obtain ⟨x15, ex15⟩ : ∃ z : Int32, z = (x2 + 1) := ⟨_, rfl⟩
          have hy := zlet_at ex15 hy
          refine zj_iinc (pc' := 36) 3 (L' := [(3, .int x15), (2, .int x14), (0, .ref (zad Γ 186)), (1, .int a1)]) dX12_followersOf_33 rfl rfl (by decide) (by rw [ci1, ← ex15]; rfl) ?_
          refine zj_goto (tgt := 4) dX12_followersOf_36 (by decide) ?_
          have hn9 := h8 _ (Option.some.inj hy).symm
          refine zj_loc [2, 3, 1, 0] rfl ?_
          exact ih7 _ _ hn9
        refine zj_icmp_ne (tgt := 30) (pc' := 24) dX12_followersOf_21 rfl (by decide) (fun c13 => ?_) (fun c13 => ?_)
        · refine zj_iconst (pc' := 31) dX12_followersOf_30 rfl kiconst_0 ?_
          exact zj_eqi (if_neg c13) HJ12
        · refine zj_iconst (pc' := 25) dX12_followersOf_24 rfl kiconst_1 ?_
          refine zj_iload_n (pc' := 26) 3 dX12_followersOf_25 rfl rfl rfl ?_
          refine zj_ishl (pc' := 27) dX12_followersOf_26 rfl ?_
          refine zj_goto (tgt := 31) dX12_followersOf_27 (by decide) ?_
          exact zj_eqi (if_pos c13) HJ12
  exact HL4 n9 _ _ hn9
set_option maxRecDepth 20000 in
theorem LX12_followersOf_186 (Γ : zG) (M : zM) (r0_6 : Nat → Int32) (e_i188 : M.1 188 = r0_6) (a1 : Int32) {res : Int32} (hy : (fM_followersOf r0_6 a1) = some res) : zK Γ 2 YX12_followersOf [.ref (zad Γ 186), .int a1] M (fun v N => v = some (.int res) ∧ N = M) :=
  zK_of (by decide) (Nat.le_of_ble_eq_true rfl) (TX12_followersOf_186 Γ M r0_6 e_i188 a1 hy ⟨rfl, rfl⟩)

noncomputable def fM_person (r0 : Nat → Int32) (r0_6 : Nat → Int32) (a1 : Int32) (a2 : Int32) : Option (Int32 × (Nat → Int32)) :=
  (fM_isPerson r0_6 a1).bind (fun (y1 : Bool) =>
  (fM_throwsIf r0 (zb (if y1 = true then (if (fM_isIn a2 0 6) = true then false else true) else true))).bind (fun (y5 : Bool × (Nat → Int32)) =>
  (if y5.1 = true then
  some (0, y5.2)
  else
  (if a2 = 0 then
  (zrd r0_6 397 (91 + a1)).bind (fun (v8 : Int32) =>
  some (v8, y5.2))
  else
  (if a2 = 1 then
  (zrd r0_6 397 (127 + a1)).bind (fun (v10 : Int32) =>
  some (v10, y5.2))
  else
  (if a2 = 2 then
  (fM_whomBy r0_6 a1).bind (fun (y12 : Int32) =>
  some (y12, y5.2))
  else
  (if a2 = 3 then
  (zrd r0_6 397 (133 + a1)).bind (fun (v14 : Int32) =>
  (if v14 ≤ 0 then
  some ((-1), y5.2)
  else
  (zrd r0_6 397 (139 + a1)).bind (fun (v16 : Int32) =>
  some (v16, y5.2))))
  else
  (if a2 = 4 then
  (zrd r0_6 397 (145 + a1)).bind (fun (v18 : Int32) =>
  some (v18, y5.2))
  else
  (if a2 = 5 then
  (fM_followersOf r0_6 a1).bind (fun (y20 : Int32) =>
  some (y20, y5.2))
  else
  (fM_lastOf r0_6 a1).bind (fun (y21 : Int32) =>
  some (y21, y5.2)))))))))))

set_option maxRecDepth 20000 in
theorem TX12_person_186 (Γ : zG) {Q : Option Value → zM → Prop} (M : zM) (r0 : Nat → Int32) (r0_6 : Nat → Int32) (e_i186 : M.1 186 = r0) (e_i188 : M.1 188 = r0_6) (a1 : Int32) (a2 : Int32) {res : Int32 × (Nat → Int32)} (hy : (fM_person r0 r0_6 a1 a2) = some res) (hq : Q (some (.int res.1)) (zui M 186 res.2)) : zR Γ 3 YX12_person 0 [(0, .ref (zad Γ 186)), (1, .int a1), (2, .int a2)] [] M Q := by
  unfold fM_person at hy
  refine zj_aload_n (pc' := 1) 0 dX12_person_0 rfl rfl rfl ?_
  refine zj_aload_n (pc' := 2) 0 dX12_person_1 rfl rfl rfl ?_
  refine zj_iload_n (pc' := 3) 1 dX12_person_2 rfl rfl rfl ?_
  obtain ⟨y1, hy1, hy⟩ := zt_b hy
  refine zj_V1 (pc' := 6) (z := YX12_isPerson) (As := [.int a1]) (N := M) dX12_person_3 rfl mlX12_270 lkX12_isPerson sh186 ⟨_, _, rfl⟩ rfl rfl (Nat.le_of_ble_eq_true rfl) (Nat.le_of_ble_eq_true rfl) (LX12_isPerson_186 Γ _ r0_6 e_i188 a1 hy1) rfl ?_
  have HJ2 : zR Γ 3 YX12_person 24 [(0, .ref (zad Γ 186)), (1, .int a1), (2, .int a2)] [.int (zb (if y1 = true then (if (fM_isIn a2 0 6) = true then false else true) else true)), .ref (zad Γ 186)] M Q := by
    obtain ⟨y5, hy5, hy⟩ := zt_b hy
    refine zj_V1 (pc' := 27) (z := YX12_throwsIf) (As := [.int (zb (if y1 = true then (if (fM_isIn a2 0 6) = true then false else true) else true))]) (N := (zui M 186 y5.2)) dX12_person_24 rfl mlX12_273 lkX12_throwsIf sh186 ⟨_, _, rfl⟩ rfl rfl (Nat.le_of_ble_eq_true rfl) (Nat.le_of_ble_eq_true rfl) (LX12_throwsIf_186 Γ _ r0 e_i186 (zb (if y1 = true then (if (fM_isIn a2 0 6) = true then false else true) else true)) hy5) (rfl).symm ?_
    refine zj_bif_eq (tgt := 32) (pc' := 30) dX12_person_27 rfl (by decide) (fun c6 => ?_) (fun c6 => ?_)
    · have hy := zt_f hy c6
      refine zj_iload_n (pc' := 33) 2 dX12_person_32 rfl rfl rfl ?_
      rcases Decidable.em (a2 = 0) with c7 | c7
      · have hy := zt_t hy c7
        refine zj_tsIn (tgt := 72) (v := 0) dX12_person_33 c7 (by decide) (by decide) (off := 39) (by decide) (by decide) ?_
        refine zj_aload_n (pc' := 73) 0 dX12_person_72 rfl rfl rfl ?_
        refine zj_getR (pc' := 76) (j := 188) dX12_person_73 rfl flX12_33 sh186 rfl ?_
        refine zj_bipush (pc' := 78) dX12_person_76 rfl kbipush_91 ?_
        refine zj_iload_n (pc' := 79) 1 dX12_person_78 rfl rfl rfl ?_
        refine zj_iadd (pc' := 80) dX12_person_79 rfl ?_
        obtain ⟨v8, hv8, hy⟩ := zt_b hy
        refine zj_rdi (pc' := 81) dX12_person_80 rfl sh188 (zr_n rfl e_i188) hv8 ?_
        have e9 := Option.some.inj hy
        subst e9
        exact zj_iret dX12_person_81 rfl hq
      · have hy := zt_f hy c7
        rcases Decidable.em (a2 = 1) with c9 | c9
        · have hy := zt_t hy c9
          refine zj_tsIn (tgt := 82) (v := 1) dX12_person_33 c9 (by decide) (by decide) (off := 49) (by decide) (by decide) ?_
          refine zj_aload_n (pc' := 83) 0 dX12_person_82 rfl rfl rfl ?_
          refine zj_getR (pc' := 86) (j := 188) dX12_person_83 rfl flX12_33 sh186 rfl ?_
          refine zj_bipush (pc' := 88) dX12_person_86 rfl kbipush_127 ?_
          refine zj_iload_n (pc' := 89) 1 dX12_person_88 rfl rfl rfl ?_
          refine zj_iadd (pc' := 90) dX12_person_89 rfl ?_
          obtain ⟨v10, hv10, hy⟩ := zt_b hy
          refine zj_rdi (pc' := 91) dX12_person_90 rfl sh188 (zr_n rfl e_i188) hv10 ?_
          have e9 := Option.some.inj hy
          subst e9
          exact zj_iret dX12_person_91 rfl hq
        · have hy := zt_f hy c9
          rcases Decidable.em (a2 = 2) with c11 | c11
          · have hy := zt_t hy c11
            refine zj_tsIn (tgt := 92) (v := 2) dX12_person_33 c11 (by decide) (by decide) (off := 59) (by decide) (by decide) ?_
            refine zj_aload_n (pc' := 93) 0 dX12_person_92 rfl rfl rfl ?_
            refine zj_iload_n (pc' := 94) 1 dX12_person_93 rfl rfl rfl ?_
            obtain ⟨y12, hy12, hy⟩ := zt_b hy
            refine zj_V1 (pc' := 97) (z := YX12_whomBy) (As := [.int a1]) (N := (zui M 186 y5.2)) dX12_person_94 rfl mlX12_266 lkX12_whomBy sh186 ⟨_, _, rfl⟩ rfl rfl (Nat.le_of_ble_eq_true rfl) (Nat.le_of_ble_eq_true rfl) (LX12_whomBy_186 Γ _ r0_6 (zr_n rfl e_i188) a1 hy12) rfl ?_
            have e9 := Option.some.inj hy
            subst e9
            exact zj_iret dX12_person_97 rfl hq
          · have hy := zt_f hy c11
            rcases Decidable.em (a2 = 3) with c13 | c13
            · have hy := zt_t hy c13
              refine zj_tsIn (tgt := 98) (v := 3) dX12_person_33 c13 (by decide) (by decide) (off := 65) (by decide) (by decide) ?_
              refine zj_aload_n (pc' := 99) 0 dX12_person_98 rfl rfl rfl ?_
              refine zj_getR (pc' := 102) (j := 188) dX12_person_99 rfl flX12_33 sh186 rfl ?_
              refine zj_sipush (pc' := 105) dX12_person_102 rfl ksipush_133 ?_
              refine zj_iload_n (pc' := 106) 1 dX12_person_105 rfl rfl rfl ?_
              refine zj_iadd (pc' := 107) dX12_person_106 rfl ?_
              obtain ⟨v14, hv14, hy⟩ := zt_b hy
              refine zj_rdi (pc' := 108) dX12_person_107 rfl sh188 (zr_n rfl e_i188) hv14 ?_
              refine zj_if_le (tgt := 124) (pc' := 111) dX12_person_108 rfl (by decide) (fun c15 => ?_) (fun c15 => ?_)
              · have hy := zt_t hy c15
                refine zj_iconst (pc' := 125) dX12_person_124 rfl kiconst_m1 ?_
                have e9 := Option.some.inj hy
                subst e9
                exact zj_iret dX12_person_125 rfl hq
              · have hy := zt_f hy c15
                refine zj_aload_n (pc' := 112) 0 dX12_person_111 rfl rfl rfl ?_
                refine zj_getR (pc' := 115) (j := 188) dX12_person_112 rfl flX12_33 sh186 rfl ?_
                refine zj_sipush (pc' := 118) dX12_person_115 rfl ksipush_139 ?_
                refine zj_iload_n (pc' := 119) 1 dX12_person_118 rfl rfl rfl ?_
                refine zj_iadd (pc' := 120) dX12_person_119 rfl ?_
                obtain ⟨v16, hv16, hy⟩ := zt_b hy
                refine zj_rdi (pc' := 121) dX12_person_120 rfl sh188 (zr_n rfl e_i188) hv16 ?_
                refine zj_goto (tgt := 125) dX12_person_121 (by decide) ?_
                have e9 := Option.some.inj hy
                subst e9
                exact zj_iret dX12_person_125 rfl hq
            · have hy := zt_f hy c13
              rcases Decidable.em (a2 = 4) with c17 | c17
              · have hy := zt_t hy c17
                refine zj_tsIn (tgt := 126) (v := 4) dX12_person_33 c17 (by decide) (by decide) (off := 93) (by decide) (by decide) ?_
                refine zj_aload_n (pc' := 127) 0 dX12_person_126 rfl rfl rfl ?_
                refine zj_getR (pc' := 130) (j := 188) dX12_person_127 rfl flX12_33 sh186 rfl ?_
                refine zj_sipush (pc' := 133) dX12_person_130 rfl ksipush_145 ?_
                refine zj_iload_n (pc' := 134) 1 dX12_person_133 rfl rfl rfl ?_
                refine zj_iadd (pc' := 135) dX12_person_134 rfl ?_
                obtain ⟨v18, hv18, hy⟩ := zt_b hy
                refine zj_rdi (pc' := 136) dX12_person_135 rfl sh188 (zr_n rfl e_i188) hv18 ?_
                have e9 := Option.some.inj hy
                subst e9
                exact zj_iret dX12_person_136 rfl hq
              · have hy := zt_f hy c17
                rcases Decidable.em (a2 = 5) with c19 | c19
                · have hy := zt_t hy c19
                  refine zj_tsIn (tgt := 137) (v := 5) dX12_person_33 c19 (by decide) (by decide) (off := 104) (by decide) (by decide) ?_
                  refine zj_aload_n (pc' := 138) 0 dX12_person_137 rfl rfl rfl ?_
                  refine zj_iload_n (pc' := 139) 1 dX12_person_138 rfl rfl rfl ?_
                  obtain ⟨y20, hy20, hy⟩ := zt_b hy
                  refine zj_V1 (pc' := 142) (z := YX12_followersOf) (As := [.int a1]) (N := (zui M 186 y5.2)) dX12_person_139 rfl mlX12_277 lkX12_followersOf sh186 ⟨_, _, rfl⟩ rfl rfl (Nat.le_of_ble_eq_true rfl) (Nat.le_of_ble_eq_true rfl) (LX12_followersOf_186 Γ _ r0_6 (zr_n rfl e_i188) a1 hy20) rfl ?_
                  have e9 := Option.some.inj hy
                  subst e9
                  exact zj_iret dX12_person_142 rfl hq
                · have hy := zt_f hy c19
                  refine zj_tsOut (tgt := 143) dX12_person_33 (by have q0 := zne (k := 0) c7 (by decide); have q1 := zne (k := 1) c9 (by decide); have q2 := zne (k := 2) c11 (by decide); have q3 := zne (k := 3) c13 (by decide); have q4 := zne (k := 4) c17 (by decide); have q5 := zne (k := 5) c19 (by decide); omega) (by decide) ?_
                  refine zj_aload_n (pc' := 144) 0 dX12_person_143 rfl rfl rfl ?_
                  refine zj_iload_n (pc' := 145) 1 dX12_person_144 rfl rfl rfl ?_
                  obtain ⟨y21, hy21, hy⟩ := zt_b hy
                  refine zj_V1 (pc' := 148) (z := YX12_lastOf) (As := [.int a1]) (N := (zui M 186 y5.2)) dX12_person_145 rfl mlX12_280 lkX12_lastOf sh186 ⟨_, _, rfl⟩ rfl rfl (Nat.le_of_ble_eq_true rfl) (Nat.le_of_ble_eq_true rfl) (LX12_lastOf_186 Γ _ r0_6 (zr_n rfl e_i188) a1 hy21) rfl ?_
                  have e9 := Option.some.inj hy
                  subst e9
                  exact zj_iret dX12_person_148 rfl hq
    · have hy := zt_t hy c6
      refine zj_iconst (pc' := 31) dX12_person_30 rfl kiconst_0 ?_
      have e9 := Option.some.inj hy
      subst e9
      exact zj_iret dX12_person_31 rfl hq
  refine zj_bif_eq (tgt := 19) (pc' := 9) dX12_person_6 rfl (by decide) (fun c3 => ?_) (fun c3 => ?_)
  · refine zj_iconst (pc' := 20) dX12_person_19 rfl kiconst_1 ?_
    refine zj_goto (tgt := 24) dX12_person_20 (by decide) ?_
    exact zj_eqb (b := true) (if_neg c3) HJ2
  · refine zj_iload_n (pc' := 10) 2 dX12_person_9 rfl rfl rfl ?_
    refine zj_iconst (pc' := 11) dX12_person_10 rfl kiconst_0 ?_
    refine zj_bipush (pc' := 13) dX12_person_11 rfl kbipush_6 ?_
    refine zj_S1 (pc' := 16) (z := YX12_isIn) (As := [.int a2, .int 0, .int 6]) (N := M) dX12_person_13 rfl mlX12_188 lkX12_isIn rfl rfl (Nat.le_of_ble_eq_true rfl) (Nat.le_of_ble_eq_true rfl) (LX12_isIn Γ _ a2 0 6 rfl) rfl ?_
    refine zj_bif_ne (tgt := 23) (pc' := 19) dX12_person_16 rfl (by decide) (fun c4 => ?_) (fun c4 => ?_)
    · refine zj_iconst (pc' := 24) dX12_person_23 rfl kiconst_0 ?_
      exact zj_eqb (b := false) ((if_pos c3).trans (if_pos c4)) HJ2
    · refine zj_iconst (pc' := 20) dX12_person_19 rfl kiconst_1 ?_
      refine zj_goto (tgt := 24) dX12_person_20 (by decide) ?_
      exact zj_eqb (b := true) ((if_pos c3).trans (if_neg c4)) HJ2
set_option maxRecDepth 20000 in
theorem LX12_person_186 (Γ : zG) (M : zM) (r0 : Nat → Int32) (r0_6 : Nat → Int32) (e_i186 : M.1 186 = r0) (e_i188 : M.1 188 = r0_6) (a1 : Int32) (a2 : Int32) {res : Int32 × (Nat → Int32)} (hy : (fM_person r0 r0_6 a1 a2) = some res) : zK Γ 3 YX12_person [.ref (zad Γ 186), .int a1, .int a2] M (fun v N => v = some (.int res.1) ∧ N = (zui M 186 res.2)) :=
  zK_of (by decide) (Nat.le_of_ble_eq_true rfl) (TX12_person_186 Γ M r0 r0_6 e_i186 e_i188 a1 a2 hy ⟨rfl, rfl⟩)


set_option maxRecDepth 20000 in
theorem TX1_wasAt_15 (Γ : zG) {Q : Option Value → zM → Prop} (M : zM) (r0_0 : Nat → Int32) (e_i16 : M.1 16 = r0_0) (a1 : Int32) (a2 : Int32) {res : Int32} (hy : (fDy_wasAt r0_0 a1 a2) = some res) (hq : Q (some (.int res)) M) : zR Γ 2 YX1_wasAt 0 [(0, .ref (zad Γ 15)), (1, .int a1), (2, .int a2)] [] M Q := by
  unfold fDy_wasAt at hy
  refine zj_iload_n (pc' := 1) 1 dX1_wasAt_0 rfl rfl rfl ?_
  refine zj_S1 (pc' := 4) (z := YX1_mayBe) (As := [.int a1]) (N := M) dX1_wasAt_1 rfl mlX1_58 lkX1_mayBe rfl rfl (Nat.le_of_ble_eq_true rfl) (Nat.le_of_ble_eq_true rfl) (LX1_mayBe Γ _ a1 rfl) rfl ?_
  refine zj_bif_eq (tgt := 31) (pc' := 7) dX1_wasAt_4 rfl (by decide) (fun c1 => ?_) (fun c1 => ?_)
  · have hy := zt_f hy c1
    refine zj_iconst (pc' := 32) dX1_wasAt_31 rfl kiconst_m1 ?_
    have e9 := Option.some.inj hy
    subst e9
    exact zj_iret dX1_wasAt_32 rfl hq
  · have hy := zt_t hy c1
    refine zj_iload_n (pc' := 8) 2 dX1_wasAt_7 rfl rfl rfl ?_
    refine zj_if_lt (tgt := 31) (pc' := 11) dX1_wasAt_8 rfl (by decide) (fun c2 => ?_) (fun c2 => ?_)
    · have hy := zt_t hy c2
      refine zj_iconst (pc' := 32) dX1_wasAt_31 rfl kiconst_m1 ?_
      have e9 := Option.some.inj hy
      subst e9
      exact zj_iret dX1_wasAt_32 rfl hq
    · have hy := zt_f hy c2
      refine zj_iload_n (pc' := 12) 2 dX1_wasAt_11 rfl rfl rfl ?_
      refine zj_bipush (pc' := 14) dX1_wasAt_12 rfl kbipush_6 ?_
      refine zj_icmp_ge (tgt := 31) (pc' := 17) dX1_wasAt_14 rfl (by decide) (fun c3 => ?_) (fun c3 => ?_)
      · have hy := zt_t hy c3
        refine zj_iconst (pc' := 32) dX1_wasAt_31 rfl kiconst_m1 ?_
        have e9 := Option.some.inj hy
        subst e9
        exact zj_iret dX1_wasAt_32 rfl hq
      · have hy := zt_f hy c3
        refine zj_aload_n (pc' := 18) 0 dX1_wasAt_17 rfl rfl rfl ?_
        refine zj_getR (pc' := 21) (j := 16) dX1_wasAt_18 rfl flX1_9 sh15 rfl ?_
        refine zj_iload_n (pc' := 22) 1 dX1_wasAt_21 rfl rfl rfl ?_
        refine zj_bipush (pc' := 24) dX1_wasAt_22 rfl kbipush_6 ?_
        refine zj_imul (pc' := 25) dX1_wasAt_24 rfl ?_
        refine zj_iload_n (pc' := 26) 2 dX1_wasAt_25 rfl rfl rfl ?_
        refine zj_iadd (pc' := 27) dX1_wasAt_26 rfl ?_
        obtain ⟨v4, hv4, hy⟩ := zt_b hy
        refine zj_rdi (pc' := 28) dX1_wasAt_27 rfl sh16 e_i16 hv4 ?_
        refine zj_goto (tgt := 32) dX1_wasAt_28 (by decide) ?_
        have e9 := Option.some.inj hy
        subst e9
        exact zj_iret dX1_wasAt_32 rfl hq
set_option maxRecDepth 20000 in
theorem LX1_wasAt_15 (Γ : zG) (M : zM) (r0_0 : Nat → Int32) (e_i16 : M.1 16 = r0_0) (a1 : Int32) (a2 : Int32) {res : Int32} (hy : (fDy_wasAt r0_0 a1 a2) = some res) : zK Γ 2 YX1_wasAt [.ref (zad Γ 15), .int a1, .int a2] M (fun v N => v = some (.int res) ∧ N = M) :=
  zK_of (by decide) (Nat.le_of_ble_eq_true rfl) (TX1_wasAt_15 Γ M r0_0 e_i16 a1 a2 hy ⟨rfl, rfl⟩)

noncomputable def fX_was (r0_2 : Nat → Int32) (r0_4_0 : Nat → Int32) (a1 : Int32) (a2 : Int32) : Option (Int32) :=
  (if (fPl_hasPerson r0_2 a1) = true then
  (fDy_wasAt r0_4_0 a1 a2).bind (fun (y2 : Int32) =>
  some y2)
  else
  some (-1))

set_option maxRecDepth 20000 in
theorem TX11_was_0 (Γ : zG) {Q : Option Value → zM → Prop} (M : zM) (r0_2 : Nat → Int32) (r0_4_0 : Nat → Int32) (e_i5 : M.1 5 = r0_2) (e_i16 : M.1 16 = r0_4_0) (a1 : Int32) (a2 : Int32) {res : Int32} (hy : (fX_was r0_2 r0_4_0 a1 a2) = some res) (hq : Q (some (.int res)) M) : zR Γ 3 YX11_was 0 [(0, .ref (zad Γ 0)), (1, .int a1), (2, .int a2)] [] M Q := by
  unfold fX_was at hy
  refine zj_aload_n (pc' := 1) 0 dX11_was_0 rfl rfl rfl ?_
  refine zj_getR (pc' := 4) (j := 5) dX11_was_1 rfl flX11_28 sh0 rfl ?_
  refine zj_iload_n (pc' := 5) 1 dX11_was_4 rfl rfl rfl ?_
  refine zj_V1 (pc' := 8) (z := YX7_hasPerson) (As := [.int a1]) (N := M) dX11_was_5 rfl mlX11_156 lkX7_hasPerson sh5 ⟨_, _, rfl⟩ rfl rfl (Nat.le_of_ble_eq_true rfl) (Nat.le_of_ble_eq_true rfl) (LX7_hasPerson_5 Γ _ r0_2 e_i5 a1 rfl) rfl ?_
  refine zj_bif_eq (tgt := 23) (pc' := 11) dX11_was_8 rfl (by decide) (fun c1 => ?_) (fun c1 => ?_)
  · have hy := zt_f hy c1
    refine zj_iconst (pc' := 24) dX11_was_23 rfl kiconst_m1 ?_
    have e9 := Option.some.inj hy
    subst e9
    exact zj_iret dX11_was_24 rfl hq
  · have hy := zt_t hy c1
    refine zj_aload_n (pc' := 12) 0 dX11_was_11 rfl rfl rfl ?_
    refine zj_getR (pc' := 15) (j := 15) dX11_was_12 rfl flX11_38 sh0 rfl ?_
    refine zj_iload_n (pc' := 16) 1 dX11_was_15 rfl rfl rfl ?_
    refine zj_iload_n (pc' := 17) 2 dX11_was_16 rfl rfl rfl ?_
    obtain ⟨y2, hy2, hy⟩ := zt_b hy
    refine zj_V1 (pc' := 20) (z := YX1_wasAt) (As := [.int a1, .int a2]) (N := M) dX11_was_17 rfl mlX11_188 lkX1_wasAt sh15 ⟨_, _, rfl⟩ rfl rfl (Nat.le_of_ble_eq_true rfl) (Nat.le_of_ble_eq_true rfl) (LX1_wasAt_15 Γ _ r0_4_0 e_i16 a1 a2 hy2) rfl ?_
    refine zj_goto (tgt := 24) dX11_was_20 (by decide) ?_
    have e9 := Option.some.inj hy
    subst e9
    exact zj_iret dX11_was_24 rfl hq
set_option maxRecDepth 20000 in
theorem LX11_was_0 (Γ : zG) (M : zM) (r0_2 : Nat → Int32) (r0_4_0 : Nat → Int32) (e_i5 : M.1 5 = r0_2) (e_i16 : M.1 16 = r0_4_0) (a1 : Int32) (a2 : Int32) {res : Int32} (hy : (fX_was r0_2 r0_4_0 a1 a2) = some res) : zK Γ 3 YX11_was [.ref (zad Γ 0), .int a1, .int a2] M (fun v N => v = some (.int res) ∧ N = M) :=
  zK_of (by decide) (Nat.le_of_ble_eq_true rfl) (TX11_was_0 Γ M r0_2 r0_4_0 e_i5 e_i16 a1 a2 hy ⟨rfl, rfl⟩)

noncomputable def fM_was (r0 : Nat → Int32) (r0_6 : Nat → Int32) (a1 : Int32) (a2 : Int32) : Option (Int32 × (Nat → Int32)) :=
  zlet (zup r0 0 0) (fun (r0v1 : Nat → Int32) =>
  (fM_isPerson r0_6 a1).bind (fun (y2 : Bool) =>
  (if y2 = true then
  (if (fM_isIn a2 0 5) = true then
  (zrd r0_6 397 ((91 + (6 * a2)) + a1)).bind (fun (v5 : Int32) =>
  some (v5, r0v1))
  else
  some ((-1), r0v1))
  else
  some ((-1), r0v1))))

set_option maxRecDepth 20000 in
theorem TX12_was_186 (Γ : zG) {Q : Option Value → zM → Prop} (M : zM) (r0 : Nat → Int32) (r0_6 : Nat → Int32) (e_i186 : M.1 186 = r0) (e_i188 : M.1 188 = r0_6) (a1 : Int32) (a2 : Int32) {res : Int32 × (Nat → Int32)} (hy : (fM_was r0 r0_6 a1 a2) = some res) (hq : Q (some (.int res.1)) (zui M 186 res.2)) : zR Γ 3 YX12_was 0 [(0, .ref (zad Γ 186)), (1, .int a1), (2, .int a2)] [] M Q := by
  unfold fM_was at hy
  refine zj_aload_n (pc' := 1) 0 dX12_was_0 rfl rfl rfl ?_
  refine zj_iconst (pc' := 2) dX12_was_1 rfl kiconst_0 ?_
  obtain ⟨r0v1, er0v1⟩ : ∃ z, z = (zup r0 0 0) := ⟨_, rfl⟩
  have hy := zlet_at er0v1 hy
  refine zj_pI (pc' := 5) (N := (zui M 186 r0v1)) dX12_was_2 rfl fpX12_1 sh186 rfl e_i186 er0v1 rfl ?_
  refine zj_aload_n (pc' := 6) 0 dX12_was_5 rfl rfl rfl ?_
  refine zj_iload_n (pc' := 7) 1 dX12_was_6 rfl rfl rfl ?_
  obtain ⟨y2, hy2, hy⟩ := zt_b hy
  refine zj_V1 (pc' := 10) (z := YX12_isPerson) (As := [.int a1]) (N := (zui M 186 r0v1)) dX12_was_7 rfl mlX12_270 lkX12_isPerson sh186 ⟨_, _, rfl⟩ rfl rfl (Nat.le_of_ble_eq_true rfl) (Nat.le_of_ble_eq_true rfl) (LX12_isPerson_186 Γ _ r0_6 (zr_n rfl e_i188) a1 hy2) rfl ?_
  refine zj_bif_eq (tgt := 39) (pc' := 13) dX12_was_10 rfl (by decide) (fun c3 => ?_) (fun c3 => ?_)
  · have hy := zt_f hy c3
    refine zj_iconst (pc' := 40) dX12_was_39 rfl kiconst_m1 ?_
    have e9 := Option.some.inj hy
    subst e9
    exact zj_iret dX12_was_40 rfl hq
  · have hy := zt_t hy c3
    refine zj_iload_n (pc' := 14) 2 dX12_was_13 rfl rfl rfl ?_
    refine zj_iconst (pc' := 15) dX12_was_14 rfl kiconst_0 ?_
    refine zj_iconst (pc' := 16) dX12_was_15 rfl kiconst_5 ?_
    refine zj_S1 (pc' := 19) (z := YX12_isIn) (As := [.int a2, .int 0, .int 5]) (N := (zui M 186 r0v1)) dX12_was_16 rfl mlX12_188 lkX12_isIn rfl rfl (Nat.le_of_ble_eq_true rfl) (Nat.le_of_ble_eq_true rfl) (LX12_isIn Γ _ a2 0 5 rfl) rfl ?_
    refine zj_bif_eq (tgt := 39) (pc' := 22) dX12_was_19 rfl (by decide) (fun c4 => ?_) (fun c4 => ?_)
    · have hy := zt_f hy c4
      refine zj_iconst (pc' := 40) dX12_was_39 rfl kiconst_m1 ?_
      have e9 := Option.some.inj hy
      subst e9
      exact zj_iret dX12_was_40 rfl hq
    · have hy := zt_t hy c4
      refine zj_aload_n (pc' := 23) 0 dX12_was_22 rfl rfl rfl ?_
      refine zj_getR (pc' := 26) (j := 188) dX12_was_23 rfl flX12_33 sh186 rfl ?_
      refine zj_bipush (pc' := 28) dX12_was_26 rfl kbipush_91 ?_
      refine zj_bipush (pc' := 30) dX12_was_28 rfl kbipush_6 ?_
      refine zj_iload_n (pc' := 31) 2 dX12_was_30 rfl rfl rfl ?_
      refine zj_imul (pc' := 32) dX12_was_31 rfl ?_
      refine zj_iadd (pc' := 33) dX12_was_32 rfl ?_
      refine zj_iload_n (pc' := 34) 1 dX12_was_33 rfl rfl rfl ?_
      refine zj_iadd (pc' := 35) dX12_was_34 rfl ?_
      obtain ⟨v5, hv5, hy⟩ := zt_b hy
      refine zj_rdi (pc' := 36) dX12_was_35 rfl sh188 (zr_n rfl e_i188) hv5 ?_
      refine zj_goto (tgt := 40) dX12_was_36 (by decide) ?_
      have e9 := Option.some.inj hy
      subst e9
      exact zj_iret dX12_was_40 rfl hq
set_option maxRecDepth 20000 in
theorem LX12_was_186 (Γ : zG) (M : zM) (r0 : Nat → Int32) (r0_6 : Nat → Int32) (e_i186 : M.1 186 = r0) (e_i188 : M.1 188 = r0_6) (a1 : Int32) (a2 : Int32) {res : Int32 × (Nat → Int32)} (hy : (fM_was r0 r0_6 a1 a2) = some res) : zK Γ 3 YX12_was [.ref (zad Γ 186), .int a1, .int a2] M (fun v N => v = some (.int res.1) ∧ N = (zui M 186 res.2)) :=
  zK_of (by decide) (Nat.le_of_ble_eq_true rfl) (TX12_was_186 Γ M r0 r0_6 e_i186 e_i188 a1 a2 hy ⟨rfl, rfl⟩)


set_option maxRecDepth 20000 in
theorem TX7_hasCorner_5 (Γ : zG) {Q : Option Value → zM → Prop} (M : zM) (r0 : Nat → Int32) (e_i5 : M.1 5 = r0) (a1 : Int32) {res : Bool} (hy : (fPl_hasCorner r0 a1) = res) (hq : Q (some (.int (zb res))) M) : zR Γ 1 YX7_hasCorner 0 [(0, .ref (zad Γ 5)), (1, .int a1)] [] M Q := by
  unfold fPl_hasCorner at hy
  refine zj_iload_n (pc' := 1) 1 dX7_hasCorner_0 rfl rfl rfl ?_
  have HJ1 : zR Γ 1 YX7_hasCorner 23 [(0, .ref (zad Γ 5)), (1, .int a1)] [.int (zb (if a1 < 0 then false else (if (r0 4) ≤ a1 then false else (if 8 ≤ a1 then false else true))))] M Q := by
    subst hy
    exact zj_bret (b := (if a1 < 0 then false else (if (r0 4) ≤ a1 then false else (if 8 ≤ a1 then false else true)))) dX7_hasCorner_23 rfl hq
  refine zj_if_lt (tgt := 22) (pc' := 4) dX7_hasCorner_1 rfl (by decide) (fun c2 => ?_) (fun c2 => ?_)
  · refine zj_iconst (pc' := 23) dX7_hasCorner_22 rfl kiconst_0 ?_
    exact zj_eqb (b := false) (if_pos c2) HJ1
  · refine zj_iload_n (pc' := 5) 1 dX7_hasCorner_4 rfl rfl rfl ?_
    refine zj_aload_n (pc' := 6) 0 dX7_hasCorner_5 rfl rfl rfl ?_
    refine zj_fI (pc' := 9) dX7_hasCorner_6 rfl flX7_25 sh5 rfl e_i5 rfl ?_
    refine zj_icmp_ge (tgt := 22) (pc' := 12) dX7_hasCorner_9 rfl (by decide) (fun c3 => ?_) (fun c3 => ?_)
    · refine zj_iconst (pc' := 23) dX7_hasCorner_22 rfl kiconst_0 ?_
      exact zj_eqb (b := false) ((if_neg c2).trans (if_pos c3)) HJ1
    · refine zj_iload_n (pc' := 13) 1 dX7_hasCorner_12 rfl rfl rfl ?_
      refine zj_bipush (pc' := 15) dX7_hasCorner_13 rfl kbipush_8 ?_
      refine zj_icmp_ge (tgt := 22) (pc' := 18) dX7_hasCorner_15 rfl (by decide) (fun c4 => ?_) (fun c4 => ?_)
      · refine zj_iconst (pc' := 23) dX7_hasCorner_22 rfl kiconst_0 ?_
        exact zj_eqb (b := false) (((if_neg c2).trans (if_neg c3)).trans (if_pos c4)) HJ1
      · refine zj_iconst (pc' := 19) dX7_hasCorner_18 rfl kiconst_1 ?_
        refine zj_goto (tgt := 23) dX7_hasCorner_19 (by decide) ?_
        exact zj_eqb (b := true) (((if_neg c2).trans (if_neg c3)).trans (if_neg c4)) HJ1
set_option maxRecDepth 20000 in
theorem LX7_hasCorner_5 (Γ : zG) (M : zM) (r0 : Nat → Int32) (e_i5 : M.1 5 = r0) (a1 : Int32) {res : Bool} (hy : (fPl_hasCorner r0 a1) = res) : zK Γ 1 YX7_hasCorner [.ref (zad Γ 5), .int a1] M (fun v N => v = some (.int (zb res)) ∧ N = M) :=
  zK_of (by decide) (Nat.le_of_ble_eq_true rfl) (TX7_hasCorner_5 Γ M r0 e_i5 a1 hy ⟨rfl, rfl⟩)

noncomputable def fDy_mayBeCorner (a1 : Int32) : Bool :=
  (if a1 < 0 then false else (if 8 ≤ a1 then false else true))

set_option maxRecDepth 20000 in
theorem TX1_mayBeCorner (Γ : zG) {Q : Option Value → zM → Prop} (M : zM)   (a1 : Int32) {res : Bool} (hy : (fDy_mayBeCorner a1) = res) (hq : Q (some (.int (zb res))) M) : zR Γ 1 YX1_mayBeCorner 0 [(0, .int a1)] [] M Q := by
  unfold fDy_mayBeCorner at hy
  refine zj_iload_n (pc' := 1) 0 dX1_mayBeCorner_0 rfl rfl rfl ?_
  have HJ1 : zR Γ 1 YX1_mayBeCorner 15 [(0, .int a1)] [.int (zb (if a1 < 0 then false else (if 8 ≤ a1 then false else true)))] M Q := by
    subst hy
    exact zj_bret (b := (if a1 < 0 then false else (if 8 ≤ a1 then false else true))) dX1_mayBeCorner_15 rfl hq
  refine zj_if_lt (tgt := 14) (pc' := 4) dX1_mayBeCorner_1 rfl (by decide) (fun c2 => ?_) (fun c2 => ?_)
  · refine zj_iconst (pc' := 15) dX1_mayBeCorner_14 rfl kiconst_0 ?_
    exact zj_eqb (b := false) (if_pos c2) HJ1
  · refine zj_iload_n (pc' := 5) 0 dX1_mayBeCorner_4 rfl rfl rfl ?_
    refine zj_bipush (pc' := 7) dX1_mayBeCorner_5 rfl kbipush_8 ?_
    refine zj_icmp_ge (tgt := 14) (pc' := 10) dX1_mayBeCorner_7 rfl (by decide) (fun c3 => ?_) (fun c3 => ?_)
    · refine zj_iconst (pc' := 15) dX1_mayBeCorner_14 rfl kiconst_0 ?_
      exact zj_eqb (b := false) ((if_neg c2).trans (if_pos c3)) HJ1
    · refine zj_iconst (pc' := 11) dX1_mayBeCorner_10 rfl kiconst_1 ?_
      refine zj_goto (tgt := 15) dX1_mayBeCorner_11 (by decide) ?_
      exact zj_eqb (b := true) ((if_neg c2).trans (if_neg c3)) HJ1
set_option maxRecDepth 20000 in
theorem LX1_mayBeCorner (Γ : zG) (M : zM)   (a1 : Int32) {res : Bool} (hy : (fDy_mayBeCorner a1) = res) : zK Γ 1 YX1_mayBeCorner [.int a1] M (fun v N => v = some (.int (zb res)) ∧ N = M) :=
  zK_of (by decide) (Nat.le_of_ble_eq_true rfl) (TX1_mayBeCorner Γ M a1 hy ⟨rfl, rfl⟩)

noncomputable def fDy_printsAt (r0_7 : Nat → Int32) (a1 : Int32) : Option (Int32) :=
  (if (fDy_mayBeCorner a1) = true then
  (zrd r0_7 8 a1).bind (fun (v2 : Int32) =>
  some v2)
  else
  some 0)

set_option maxRecDepth 20000 in
theorem TX1_printsAt_15 (Γ : zG) {Q : Option Value → zM → Prop} (M : zM) (r0_7 : Nat → Int32) (e_i23 : M.1 23 = r0_7) (a1 : Int32) {res : Int32} (hy : (fDy_printsAt r0_7 a1) = some res) (hq : Q (some (.int res)) M) : zR Γ 2 YX1_printsAt 0 [(0, .ref (zad Γ 15)), (1, .int a1)] [] M Q := by
  unfold fDy_printsAt at hy
  refine zj_iload_n (pc' := 1) 1 dX1_printsAt_0 rfl rfl rfl ?_
  refine zj_S1 (pc' := 4) (z := YX1_mayBeCorner) (As := [.int a1]) (N := M) dX1_printsAt_1 rfl mlX1_66 lkX1_mayBeCorner rfl rfl (Nat.le_of_ble_eq_true rfl) (Nat.le_of_ble_eq_true rfl) (LX1_mayBeCorner Γ _ a1 rfl) rfl ?_
  refine zj_bif_eq (tgt := 16) (pc' := 7) dX1_printsAt_4 rfl (by decide) (fun c1 => ?_) (fun c1 => ?_)
  · have hy := zt_f hy c1
    refine zj_iconst (pc' := 17) dX1_printsAt_16 rfl kiconst_0 ?_
    have e9 := Option.some.inj hy
    subst e9
    exact zj_iret dX1_printsAt_17 rfl hq
  · have hy := zt_t hy c1
    refine zj_aload_n (pc' := 8) 0 dX1_printsAt_7 rfl rfl rfl ?_
    refine zj_getR (pc' := 11) (j := 23) dX1_printsAt_8 rfl flX1_33 sh15 rfl ?_
    refine zj_iload_n (pc' := 12) 1 dX1_printsAt_11 rfl rfl rfl ?_
    obtain ⟨v2, hv2, hy⟩ := zt_b hy
    refine zj_rdi (pc' := 13) dX1_printsAt_12 rfl sh23 e_i23 hv2 ?_
    refine zj_goto (tgt := 17) dX1_printsAt_13 (by decide) ?_
    have e9 := Option.some.inj hy
    subst e9
    exact zj_iret dX1_printsAt_17 rfl hq
set_option maxRecDepth 20000 in
theorem LX1_printsAt_15 (Γ : zG) (M : zM) (r0_7 : Nat → Int32) (e_i23 : M.1 23 = r0_7) (a1 : Int32) {res : Int32} (hy : (fDy_printsAt r0_7 a1) = some res) : zK Γ 2 YX1_printsAt [.ref (zad Γ 15), .int a1] M (fun v N => v = some (.int res) ∧ N = M) :=
  zK_of (by decide) (Nat.le_of_ble_eq_true rfl) (TX1_printsAt_15 Γ M r0_7 e_i23 a1 hy ⟨rfl, rfl⟩)

noncomputable def fDy_bunsAt (r0_6 : Nat → Int32) (a1 : Int32) : Option (Int32) :=
  (if (fDy_mayBeCorner a1) = true then
  (zrd r0_6 8 a1).bind (fun (v2 : Int32) =>
  some v2)
  else
  some 0)

set_option maxRecDepth 20000 in
theorem TX1_bunsAt_15 (Γ : zG) {Q : Option Value → zM → Prop} (M : zM) (r0_6 : Nat → Int32) (e_i22 : M.1 22 = r0_6) (a1 : Int32) {res : Int32} (hy : (fDy_bunsAt r0_6 a1) = some res) (hq : Q (some (.int res)) M) : zR Γ 2 YX1_bunsAt 0 [(0, .ref (zad Γ 15)), (1, .int a1)] [] M Q := by
  unfold fDy_bunsAt at hy
  refine zj_iload_n (pc' := 1) 1 dX1_bunsAt_0 rfl rfl rfl ?_
  refine zj_S1 (pc' := 4) (z := YX1_mayBeCorner) (As := [.int a1]) (N := M) dX1_bunsAt_1 rfl mlX1_66 lkX1_mayBeCorner rfl rfl (Nat.le_of_ble_eq_true rfl) (Nat.le_of_ble_eq_true rfl) (LX1_mayBeCorner Γ _ a1 rfl) rfl ?_
  refine zj_bif_eq (tgt := 16) (pc' := 7) dX1_bunsAt_4 rfl (by decide) (fun c1 => ?_) (fun c1 => ?_)
  · have hy := zt_f hy c1
    refine zj_iconst (pc' := 17) dX1_bunsAt_16 rfl kiconst_0 ?_
    have e9 := Option.some.inj hy
    subst e9
    exact zj_iret dX1_bunsAt_17 rfl hq
  · have hy := zt_t hy c1
    refine zj_aload_n (pc' := 8) 0 dX1_bunsAt_7 rfl rfl rfl ?_
    refine zj_getR (pc' := 11) (j := 22) dX1_bunsAt_8 rfl flX1_30 sh15 rfl ?_
    refine zj_iload_n (pc' := 12) 1 dX1_bunsAt_11 rfl rfl rfl ?_
    obtain ⟨v2, hv2, hy⟩ := zt_b hy
    refine zj_rdi (pc' := 13) dX1_bunsAt_12 rfl sh22 e_i22 hv2 ?_
    refine zj_goto (tgt := 17) dX1_bunsAt_13 (by decide) ?_
    have e9 := Option.some.inj hy
    subst e9
    exact zj_iret dX1_bunsAt_17 rfl hq
set_option maxRecDepth 20000 in
theorem LX1_bunsAt_15 (Γ : zG) (M : zM) (r0_6 : Nat → Int32) (e_i22 : M.1 22 = r0_6) (a1 : Int32) {res : Int32} (hy : (fDy_bunsAt r0_6 a1) = some res) : zK Γ 2 YX1_bunsAt [.ref (zad Γ 15), .int a1] M (fun v N => v = some (.int res) ∧ N = M) :=
  zK_of (by decide) (Nat.le_of_ble_eq_true rfl) (TX1_bunsAt_15 Γ M r0_6 e_i22 a1 hy ⟨rfl, rfl⟩)

noncomputable def fDy_whoWasAt_L5 (r0_0 : Nat → Int32) (a1 : Int32) (a2 : Int32) (x1 : Int32) (x2 : Int32) : Option ((Int32 × Int32) ⊕ (Int32)) :=
  (if 6 ≤ x2 then
  some (.inr x1)
  else
  (fDy_wasAt r0_0 x2 a2).bind (fun (y11 : Int32) =>
  (if y11 = a1 then
  zlet (x1 ||| ((1 : Int32) <<< (x2 &&& 31))) (fun (x13 : Int32) =>
  zlet (x2 + 1) (fun (x14 : Int32) =>
  some (.inl (x13, x14))))
  else
  zlet (x2 + 1) (fun (x15 : Int32) =>
  some (.inl (x1, x15))))))
noncomputable def fDy_whoWasAt (r0_0 : Nat → Int32) (a1 : Int32) (a2 : Int32) : Option (Int32) :=
  (zLP (fun s => fDy_whoWasAt_L5 r0_0 a1 a2 s.1 s.2) (0, 0)).bind (fun r5 =>
  some r5)

set_option maxRecDepth 20000 in
theorem TX1_whoWasAt_15 (Γ : zG) {Q : Option Value → zM → Prop} (M : zM) (r0_0 : Nat → Int32) (e_i16 : M.1 16 = r0_0) (a1 : Int32) (a2 : Int32) {res : Int32} (hy : (fDy_whoWasAt r0_0 a1 a2) = some res) (hq : Q (some (.int res)) M) : zR Γ 3 YX1_whoWasAt 0 [(0, .ref (zad Γ 15)), (1, .int a1), (2, .int a2)] [] M Q := by
  unfold fDy_whoWasAt at hy
  refine zj_iconst (pc' := 1) dX1_whoWasAt_0 rfl kiconst_0 ?_
  refine zj_istore_n (pc' := 2) (L' := [(3, .int 0), (0, .ref (zad Γ 15)), (1, .int a1), (2, .int a2)]) dX1_whoWasAt_1 rfl rfl (by decide) rfl ?_
  refine zj_iconst (pc' := 3) dX1_whoWasAt_2 rfl kiconst_0 ?_
  refine zj_istore (pc' := 5) (L' := [(4, .int 0), (3, .int 0), (0, .ref (zad Γ 15)), (1, .int a1), (2, .int a2)]) dX1_whoWasAt_3 rfl (by decide) rfl ?_
  refine zj_loc [2, 3, 4, 1, 0] rfl ?_
  obtain ⟨r5, hr9, hyo6⟩ := zt_b hy
  obtain ⟨n9, hn9⟩ := zLP_some hr9
  have HE3 : ∀ (x16 : Int32), r5 = x16 → zR Γ 3 YX1_whoWasAt 36 [(3, .int x16)] [] M Q := by
    intro x16 e9
    have hy := hyo6
    try rw [e9] at hy
    try dsimp only at hy
    refine zj_iload_n (pc' := 37) 0 dX1_whoWasAt_36 rfl rfl rfl ?_
    have e9 := Option.some.inj hy
    subst e9
    exact zj_iret dX1_whoWasAt_37 rfl hq
  have HL4 : ∀ (n : Nat) (x1 : Int32) (x2 : Int32), zlp (fun s => fDy_whoWasAt_L5 r0_0 a1 a2 s.1 s.2) n (x1, x2) = some r5 → zR Γ 3 YX1_whoWasAt 5 [(0, .ref (zad Γ 15)), (1, .int a1), (2, .int a2), (3, .int x1), (4, .int x2)] [] M Q := by
    intro n
    induction n with
    | zero => intro x1 x2 hn9; cases hn9
    | succ n ih7 =>
      intro x1 x2 hn9
      obtain ⟨o9, hb9, h8, h9⟩ := zlp_step hn9
      have hy : fDy_whoWasAt_L5 r0_0 a1 a2 x1 x2 = some o9 := hb9
      unfold fDy_whoWasAt_L5 at hy
      refine zj_iload (pc' := 7) 4 dX1_whoWasAt_5 rfl rfl ?_
      refine zj_bipush (pc' := 9) dX1_whoWasAt_7 rfl kbipush_6 ?_
      refine zj_icmp_ge (tgt := 36) (pc' := 12) dX1_whoWasAt_9 rfl (by decide) (fun c10 => ?_) (fun c10 => ?_)
      · have hy := zt_t hy c10
        have e9 := h9 _ (Option.some.inj hy).symm
        refine zj_loc [3] rfl ?_
        exact HE3 _ e9.symm
      · have hy := zt_f hy c10
        refine zj_aload_n (pc' := 13) 0 dX1_whoWasAt_12 rfl rfl rfl ?_
        refine zj_iload (pc' := 15) 4 dX1_whoWasAt_13 rfl rfl ?_
        refine zj_iload_n (pc' := 16) 2 dX1_whoWasAt_15 rfl rfl rfl ?_
        obtain ⟨y11, hy11, hy⟩ := zt_b hy
        refine zj_V1 (pc' := 19) (z := YX1_wasAt) (As := [.int x2, .int a2]) (N := M) dX1_whoWasAt_16 rfl mlX1_62 lkX1_wasAt sh15 ⟨_, _, rfl⟩ rfl rfl (Nat.le_of_ble_eq_true rfl) (Nat.le_of_ble_eq_true rfl) (LX1_wasAt_15 Γ _ r0_0 e_i16 x2 a2 hy11) rfl ?_
        refine zj_iload_n (pc' := 20) 1 dX1_whoWasAt_19 rfl rfl rfl ?_
        refine zj_icmp_ne (tgt := 30) (pc' := 23) dX1_whoWasAt_20 rfl (by decide) (fun c12 => ?_) (fun c12 => ?_)
        · have hy := zt_f hy c12
          obtain ⟨x15, ex15⟩ : ∃ z : Int32, z = (x2 + 1) := ⟨_, rfl⟩
          have hy := zlet_at ex15 hy
          refine zj_iinc (pc' := 33) 4 (L' := [(4, .int x15), (0, .ref (zad Γ 15)), (1, .int a1), (2, .int a2), (3, .int x1)]) dX1_whoWasAt_30 rfl rfl (by decide) (by rw [ci1, ← ex15]; rfl) ?_
          refine zj_goto (tgt := 5) dX1_whoWasAt_33 (by decide) ?_
          have hn9 := h8 _ (Option.some.inj hy).symm
          refine zj_loc [1, 2, 3, 4, 0] rfl ?_
          exact ih7 _ _ hn9
        · have hy := zt_t hy c12
          refine zj_iload_n (pc' := 24) 3 dX1_whoWasAt_23 rfl rfl rfl ?_
          refine zj_iconst (pc' := 25) dX1_whoWasAt_24 rfl kiconst_1 ?_
          refine zj_iload (pc' := 27) 4 dX1_whoWasAt_25 rfl rfl ?_
          refine zj_ishl (pc' := 28) dX1_whoWasAt_27 rfl ?_
          refine zj_ior (pc' := 29) dX1_whoWasAt_28 rfl ?_
          refine zj_topi (fun x13 ex13 => ?_)
          have hy := zlet_at ex13 hy
          refine zj_istore_n (pc' := 30) (L' := [(3, .int x13), (0, .ref (zad Γ 15)), (1, .int a1), (2, .int a2), (4, .int x2)]) dX1_whoWasAt_29 rfl rfl (by decide) rfl ?_
          obtain ⟨x14, ex14⟩ : ∃ z : Int32, z = (x2 + 1) := ⟨_, rfl⟩
          have hy := zlet_at ex14 hy
          refine zj_iinc (pc' := 33) 4 (L' := [(4, .int x14), (3, .int x13), (0, .ref (zad Γ 15)), (1, .int a1), (2, .int a2)]) dX1_whoWasAt_30 rfl rfl (by decide) (by rw [ci1, ← ex14]; rfl) ?_
          refine zj_goto (tgt := 5) dX1_whoWasAt_33 (by decide) ?_
          have hn9 := h8 _ (Option.some.inj hy).symm
          refine zj_loc [2, 3, 4, 1, 0] rfl ?_
          exact ih7 _ _ hn9
  exact HL4 n9 _ _ hn9
set_option maxRecDepth 20000 in
theorem LX1_whoWasAt_15 (Γ : zG) (M : zM) (r0_0 : Nat → Int32) (e_i16 : M.1 16 = r0_0) (a1 : Int32) (a2 : Int32) {res : Int32} (hy : (fDy_whoWasAt r0_0 a1 a2) = some res) : zK Γ 3 YX1_whoWasAt [.ref (zad Γ 15), .int a1, .int a2] M (fun v N => v = some (.int res) ∧ N = M) :=
  zK_of (by decide) (Nat.le_of_ble_eq_true rfl) (TX1_whoWasAt_15 Γ M r0_0 e_i16 a1 a2 hy ⟨rfl, rfl⟩)


set_option maxRecDepth 20000 in
theorem TX7_besideOf_5 (Γ : zG) {Q : Option Value → zM → Prop} (M : zM) (r0 : Nat → Int32) (r0_2 : Nat → Int32) (e_i5 : M.1 5 = r0) (e_i8 : M.1 8 = r0_2) (a1 : Int32) {res : Int32} (hy : (fPl_besideOf r0 r0_2 a1) = some res) (hq : Q (some (.int res)) M) : zR Γ 2 YX7_besideOf 0 [(0, .ref (zad Γ 5)), (1, .int a1)] [] M Q := by
  unfold fPl_besideOf at hy
  refine zj_aload_n (pc' := 1) 0 dX7_besideOf_0 rfl rfl rfl ?_
  refine zj_iload_n (pc' := 2) 1 dX7_besideOf_1 rfl rfl rfl ?_
  refine zj_V1 (pc' := 5) (z := YX7_hasCorner) (As := [.int a1]) (N := M) dX7_besideOf_2 rfl mlX7_35 lkX7_hasCorner sh5 ⟨_, _, rfl⟩ rfl rfl (Nat.le_of_ble_eq_true rfl) (Nat.le_of_ble_eq_true rfl) (LX7_hasCorner_5 Γ _ r0 e_i5 a1 rfl) rfl ?_
  refine zj_bif_eq (tgt := 17) (pc' := 8) dX7_besideOf_5 rfl (by decide) (fun c1 => ?_) (fun c1 => ?_)
  · have hy := zt_f hy c1
    refine zj_iconst (pc' := 18) dX7_besideOf_17 rfl kiconst_0 ?_
    have e9 := Option.some.inj hy
    subst e9
    exact zj_iret dX7_besideOf_18 rfl hq
  · have hy := zt_t hy c1
    refine zj_aload_n (pc' := 9) 0 dX7_besideOf_8 rfl rfl rfl ?_
    refine zj_getR (pc' := 12) (j := 8) dX7_besideOf_9 rfl flX7_18 sh5 rfl ?_
    refine zj_iload_n (pc' := 13) 1 dX7_besideOf_12 rfl rfl rfl ?_
    obtain ⟨v2, hv2, hy⟩ := zt_b hy
    refine zj_rdi (pc' := 14) dX7_besideOf_13 rfl sh8 e_i8 hv2 ?_
    refine zj_goto (tgt := 18) dX7_besideOf_14 (by decide) ?_
    have e9 := Option.some.inj hy
    subst e9
    exact zj_iret dX7_besideOf_18 rfl hq
set_option maxRecDepth 20000 in
theorem LX7_besideOf_5 (Γ : zG) (M : zM) (r0 : Nat → Int32) (r0_2 : Nat → Int32) (e_i5 : M.1 5 = r0) (e_i8 : M.1 8 = r0_2) (a1 : Int32) {res : Int32} (hy : (fPl_besideOf r0 r0_2 a1) = some res) : zK Γ 2 YX7_besideOf [.ref (zad Γ 5), .int a1] M (fun v N => v = some (.int res) ∧ N = M) :=
  zK_of (by decide) (Nat.le_of_ble_eq_true rfl) (TX7_besideOf_5 Γ M r0 r0_2 e_i5 e_i8 a1 hy ⟨rfl, rfl⟩)

noncomputable def fX_corner (r0_2 : Nat → Int32) (r0_2_2 : Nat → Int32) (r0_4_0 : Nat → Int32) (r0_4_6 : Nat → Int32) (r0_4_7 : Nat → Int32) (a1 : Int32) (a2 : Int32) : Option (Int32) :=
  (if (fPl_hasCorner r0_2 a1) = true then
  (if a2 = 0 then
  (fPl_besideOf r0_2 r0_2_2 a1).bind (fun (y3 : Int32) =>
  some y3)
  else
  (if a2 = 1 then
  (fDy_whoWasAt r0_4_0 a1 0).bind (fun (y5 : Int32) =>
  some y5)
  else
  (if a2 = 2 then
  (fDy_bunsAt r0_4_6 a1).bind (fun (y7 : Int32) =>
  some y7)
  else
  (if a2 = 3 then
  (fDy_printsAt r0_4_7 a1).bind (fun (y9 : Int32) =>
  some y9)
  else
  some (-1)))))
  else
  some (-1))

set_option maxRecDepth 20000 in
theorem TX11_corner_0 (Γ : zG) {Q : Option Value → zM → Prop} (M : zM) (r0_2 : Nat → Int32) (r0_2_2 : Nat → Int32) (r0_4_0 : Nat → Int32) (r0_4_6 : Nat → Int32) (r0_4_7 : Nat → Int32) (e_i5 : M.1 5 = r0_2) (e_i8 : M.1 8 = r0_2_2) (e_i16 : M.1 16 = r0_4_0) (e_i22 : M.1 22 = r0_4_6) (e_i23 : M.1 23 = r0_4_7) (a1 : Int32) (a2 : Int32) {res : Int32} (hy : (fX_corner r0_2 r0_2_2 r0_4_0 r0_4_6 r0_4_7 a1 a2) = some res) (hq : Q (some (.int res)) M) : zR Γ 4 YX11_corner 0 [(0, .ref (zad Γ 0)), (1, .int a1), (2, .int a2)] [] M Q := by
  unfold fX_corner at hy
  refine zj_aload_n (pc' := 1) 0 dX11_corner_0 rfl rfl rfl ?_
  refine zj_getR (pc' := 4) (j := 5) dX11_corner_1 rfl flX11_28 sh0 rfl ?_
  refine zj_iload_n (pc' := 5) 1 dX11_corner_4 rfl rfl rfl ?_
  refine zj_V1 (pc' := 8) (z := YX7_hasCorner) (As := [.int a1]) (N := M) dX11_corner_5 rfl mlX11_192 lkX7_hasCorner sh5 ⟨_, _, rfl⟩ rfl rfl (Nat.le_of_ble_eq_true rfl) (Nat.le_of_ble_eq_true rfl) (LX7_hasCorner_5 Γ _ r0_2 e_i5 a1 rfl) rfl ?_
  refine zj_bif_ne (tgt := 13) (pc' := 11) dX11_corner_8 rfl (by decide) (fun c1 => ?_) (fun c1 => ?_)
  · have hy := zt_t hy c1
    refine zj_iload_n (pc' := 14) 2 dX11_corner_13 rfl rfl rfl ?_
    rcases Decidable.em (a2 = 0) with c2 | c2
    · have hy := zt_t hy c2
      refine zj_tsIn (tgt := 44) (v := 0) dX11_corner_14 c2 (by decide) (by decide) (off := 30) (by decide) (by decide) ?_
      refine zj_aload_n (pc' := 45) 0 dX11_corner_44 rfl rfl rfl ?_
      refine zj_getR (pc' := 48) (j := 5) dX11_corner_45 rfl flX11_28 sh0 rfl ?_
      refine zj_iload_n (pc' := 49) 1 dX11_corner_48 rfl rfl rfl ?_
      obtain ⟨y3, hy3, hy⟩ := zt_b hy
      refine zj_V1 (pc' := 52) (z := YX7_besideOf) (As := [.int a1]) (N := M) dX11_corner_49 rfl mlX11_195 lkX7_besideOf sh5 ⟨_, _, rfl⟩ rfl rfl (Nat.le_of_ble_eq_true rfl) (Nat.le_of_ble_eq_true rfl) (LX7_besideOf_5 Γ _ r0_2 r0_2_2 e_i5 e_i8 a1 hy3) rfl ?_
      have e9 := Option.some.inj hy
      subst e9
      exact zj_iret dX11_corner_52 rfl hq
    · have hy := zt_f hy c2
      rcases Decidable.em (a2 = 1) with c4 | c4
      · have hy := zt_t hy c4
        refine zj_tsIn (tgt := 53) (v := 1) dX11_corner_14 c4 (by decide) (by decide) (off := 39) (by decide) (by decide) ?_
        refine zj_aload_n (pc' := 54) 0 dX11_corner_53 rfl rfl rfl ?_
        refine zj_getR (pc' := 57) (j := 15) dX11_corner_54 rfl flX11_38 sh0 rfl ?_
        refine zj_iload_n (pc' := 58) 1 dX11_corner_57 rfl rfl rfl ?_
        refine zj_iconst (pc' := 59) dX11_corner_58 rfl kiconst_0 ?_
        obtain ⟨y5, hy5, hy⟩ := zt_b hy
        refine zj_V1 (pc' := 62) (z := YX1_whoWasAt) (As := [.int a1, .int 0]) (N := M) dX11_corner_59 rfl mlX11_198 lkX1_whoWasAt sh15 ⟨_, _, rfl⟩ rfl rfl (Nat.le_of_ble_eq_true rfl) (Nat.le_of_ble_eq_true rfl) (LX1_whoWasAt_15 Γ _ r0_4_0 e_i16 a1 0 hy5) rfl ?_
        have e9 := Option.some.inj hy
        subst e9
        exact zj_iret dX11_corner_62 rfl hq
      · have hy := zt_f hy c4
        rcases Decidable.em (a2 = 2) with c6 | c6
        · have hy := zt_t hy c6
          refine zj_tsIn (tgt := 63) (v := 2) dX11_corner_14 c6 (by decide) (by decide) (off := 49) (by decide) (by decide) ?_
          refine zj_aload_n (pc' := 64) 0 dX11_corner_63 rfl rfl rfl ?_
          refine zj_getR (pc' := 67) (j := 15) dX11_corner_64 rfl flX11_38 sh0 rfl ?_
          refine zj_iload_n (pc' := 68) 1 dX11_corner_67 rfl rfl rfl ?_
          obtain ⟨y7, hy7, hy⟩ := zt_b hy
          refine zj_V1 (pc' := 71) (z := YX1_bunsAt) (As := [.int a1]) (N := M) dX11_corner_68 rfl mlX11_201 lkX1_bunsAt sh15 ⟨_, _, rfl⟩ rfl rfl (Nat.le_of_ble_eq_true rfl) (Nat.le_of_ble_eq_true rfl) (LX1_bunsAt_15 Γ _ r0_4_6 e_i22 a1 hy7) rfl ?_
          have e9 := Option.some.inj hy
          subst e9
          exact zj_iret dX11_corner_71 rfl hq
        · have hy := zt_f hy c6
          rcases Decidable.em (a2 = 3) with c8 | c8
          · have hy := zt_t hy c8
            refine zj_tsIn (tgt := 72) (v := 3) dX11_corner_14 c8 (by decide) (by decide) (off := 58) (by decide) (by decide) ?_
            refine zj_aload_n (pc' := 73) 0 dX11_corner_72 rfl rfl rfl ?_
            refine zj_getR (pc' := 76) (j := 15) dX11_corner_73 rfl flX11_38 sh0 rfl ?_
            refine zj_iload_n (pc' := 77) 1 dX11_corner_76 rfl rfl rfl ?_
            obtain ⟨y9, hy9, hy⟩ := zt_b hy
            refine zj_V1 (pc' := 80) (z := YX1_printsAt) (As := [.int a1]) (N := M) dX11_corner_77 rfl mlX11_204 lkX1_printsAt sh15 ⟨_, _, rfl⟩ rfl rfl (Nat.le_of_ble_eq_true rfl) (Nat.le_of_ble_eq_true rfl) (LX1_printsAt_15 Γ _ r0_4_7 e_i23 a1 hy9) rfl ?_
            have e9 := Option.some.inj hy
            subst e9
            exact zj_iret dX11_corner_80 rfl hq
          · have hy := zt_f hy c8
            refine zj_tsOut (tgt := 81) dX11_corner_14 (by have q0 := zne (k := 0) c2 (by decide); have q1 := zne (k := 1) c4 (by decide); have q2 := zne (k := 2) c6 (by decide); have q3 := zne (k := 3) c8 (by decide); omega) (by decide) ?_
            refine zj_iconst (pc' := 82) dX11_corner_81 rfl kiconst_m1 ?_
            have e9 := Option.some.inj hy
            subst e9
            exact zj_iret dX11_corner_82 rfl hq
  · have hy := zt_f hy c1
    refine zj_iconst (pc' := 12) dX11_corner_11 rfl kiconst_m1 ?_
    have e9 := Option.some.inj hy
    subst e9
    exact zj_iret dX11_corner_12 rfl hq
set_option maxRecDepth 20000 in
theorem LX11_corner_0 (Γ : zG) (M : zM) (r0_2 : Nat → Int32) (r0_2_2 : Nat → Int32) (r0_4_0 : Nat → Int32) (r0_4_6 : Nat → Int32) (r0_4_7 : Nat → Int32) (e_i5 : M.1 5 = r0_2) (e_i8 : M.1 8 = r0_2_2) (e_i16 : M.1 16 = r0_4_0) (e_i22 : M.1 22 = r0_4_6) (e_i23 : M.1 23 = r0_4_7) (a1 : Int32) (a2 : Int32) {res : Int32} (hy : (fX_corner r0_2 r0_2_2 r0_4_0 r0_4_6 r0_4_7 a1 a2) = some res) : zK Γ 4 YX11_corner [.ref (zad Γ 0), .int a1, .int a2] M (fun v N => v = some (.int res) ∧ N = M) :=
  zK_of (by decide) (Nat.le_of_ble_eq_true rfl) (TX11_corner_0 Γ M r0_2 r0_2_2 r0_4_0 r0_4_6 r0_4_7 e_i5 e_i8 e_i16 e_i22 e_i23 a1 a2 hy ⟨rfl, rfl⟩)

noncomputable def fM_isCorner (r0_6 : Nat → Int32) (a1 : Int32) : Option (Bool) :=
  some (fM_isIn a1 0 ((r0_6 0) - 1))

set_option maxRecDepth 20000 in
theorem TX12_isCorner_186 (Γ : zG) {Q : Option Value → zM → Prop} (M : zM) (r0_6 : Nat → Int32) (e_i188 : M.1 188 = r0_6) (a1 : Int32) {res : Bool} (hy : (fM_isCorner r0_6 a1) = some res) (hq : Q (some (.int (zb res))) M) : zR Γ 2 YX12_isCorner 0 [(0, .ref (zad Γ 186)), (1, .int a1)] [] M Q := by
  unfold fM_isCorner at hy
  refine zj_iload_n (pc' := 1) 1 dX12_isCorner_0 rfl rfl rfl ?_
  refine zj_iconst (pc' := 2) dX12_isCorner_1 rfl kiconst_0 ?_
  refine zj_aload_n (pc' := 3) 0 dX12_isCorner_2 rfl rfl rfl ?_
  refine zj_getR (pc' := 6) (j := 188) dX12_isCorner_3 rfl flX12_33 sh186 rfl ?_
  refine zj_iconst (pc' := 7) dX12_isCorner_6 rfl kiconst_0 ?_
  refine zj_rdi (pc' := 8) dX12_isCorner_7 rfl sh188 e_i188 (zrdK zi0_397 tn0) ?_
  refine zj_iconst (pc' := 9) dX12_isCorner_8 rfl kiconst_1 ?_
  refine zj_isub (pc' := 10) dX12_isCorner_9 rfl ?_
  refine zj_S1 (pc' := 13) (z := YX12_isIn) (As := [.int a1, .int 0, .int ((r0_6 0) - 1)]) (N := M) dX12_isCorner_10 rfl mlX12_188 lkX12_isIn rfl rfl (Nat.le_of_ble_eq_true rfl) (Nat.le_of_ble_eq_true rfl) (LX12_isIn Γ _ a1 0 ((r0_6 0) - 1) rfl) rfl ?_
  have e9 := Option.some.inj hy
  subst e9
  exact zj_bret (b := (fM_isIn a1 0 ((r0_6 0) - 1))) dX12_isCorner_13 rfl hq
set_option maxRecDepth 20000 in
theorem LX12_isCorner_186 (Γ : zG) (M : zM) (r0_6 : Nat → Int32) (e_i188 : M.1 188 = r0_6) (a1 : Int32) {res : Bool} (hy : (fM_isCorner r0_6 a1) = some res) : zK Γ 2 YX12_isCorner [.ref (zad Γ 186), .int a1] M (fun v N => v = some (.int (zb res)) ∧ N = M) :=
  zK_of (by decide) (Nat.le_of_ble_eq_true rfl) (TX12_isCorner_186 Γ M r0_6 e_i188 a1 hy ⟨rfl, rfl⟩)

noncomputable def fM_corner_L20 (r0_6 : Nat → Int32) (a1 : Int32) (x4 : Int32) (x5 : Int32) : Option ((Int32 × Int32) ⊕ (Int32)) :=
  (if (r0_6 2) ≤ x5 then
  some (.inr x4)
  else
  (zrd r0_6 397 (91 + x5)).bind (fun (v14 : Int32) =>
  zlet (x4 ||| (if v14 = a1 then ((1 : Int32) <<< (x5 &&& 31)) else (0 : Int32))) (fun (x17 : Int32) =>
  zlet (x5 + 1) (fun (x18 : Int32) =>
  some (.inl (x17, x18))))))
noncomputable def fM_corner (r0 : Nat → Int32) (r0_6 : Nat → Int32) (a1 : Int32) (a2 : Int32) : Option (Int32 × (Nat → Int32)) :=
  zlet (zup r0 0 0) (fun (r0v1 : Nat → Int32) =>
  (fM_isCorner r0_6 a1).bind (fun (y2 : Bool) =>
  (if y2 = true then
  (zLP (fun s => fM_corner_L20 r0_6 a1 s.1 s.2) (0, 0)).bind (fun r8 =>
  (if a2 = 0 then
  (zrd r0_6 397 (3 + a1)).bind (fun (v21 : Int32) =>
  some (v21, r0v1))
  else
  (if a2 = 1 then
  some (r8, r0v1)
  else
  (if a2 = 2 then
  (zrd r0_6 397 (199 + a1)).bind (fun (v24 : Int32) =>
  some (v24, r0v1))
  else
  (if a2 = 3 then
  (zrd r0_6 397 (207 + a1)).bind (fun (v26 : Int32) =>
  some (v26, r0v1))
  else
  some ((-1), r0v1))))))
  else
  some ((-1), r0v1))))

set_option maxRecDepth 20000 in
theorem TX12_corner_186 (Γ : zG) {Q : Option Value → zM → Prop} (M : zM) (r0 : Nat → Int32) (r0_6 : Nat → Int32) (e_i186 : M.1 186 = r0) (e_i188 : M.1 188 = r0_6) (a1 : Int32) (a2 : Int32) {res : Int32 × (Nat → Int32)} (hy : (fM_corner r0 r0_6 a1 a2) = some res) (hq : Q (some (.int res.1)) (zui M 186 res.2)) : zR Γ 3 YX12_corner 0 [(0, .ref (zad Γ 186)), (1, .int a1), (2, .int a2)] [] M Q := by
  unfold fM_corner at hy
  refine zj_aload_n (pc' := 1) 0 dX12_corner_0 rfl rfl rfl ?_
  refine zj_iconst (pc' := 2) dX12_corner_1 rfl kiconst_0 ?_
  obtain ⟨r0v1, er0v1⟩ : ∃ z, z = (zup r0 0 0) := ⟨_, rfl⟩
  have hy := zlet_at er0v1 hy
  refine zj_pI (pc' := 5) (N := (zui M 186 r0v1)) dX12_corner_2 rfl fpX12_1 sh186 rfl e_i186 er0v1 rfl ?_
  refine zj_aload_n (pc' := 6) 0 dX12_corner_5 rfl rfl rfl ?_
  refine zj_iload_n (pc' := 7) 1 dX12_corner_6 rfl rfl rfl ?_
  obtain ⟨y2, hy2, hy⟩ := zt_b hy
  refine zj_V1 (pc' := 10) (z := YX12_isCorner) (As := [.int a1]) (N := (zui M 186 r0v1)) dX12_corner_7 rfl mlX12_283 lkX12_isCorner sh186 ⟨_, _, rfl⟩ rfl rfl (Nat.le_of_ble_eq_true rfl) (Nat.le_of_ble_eq_true rfl) (LX12_isCorner_186 Γ _ r0_6 (zr_n rfl e_i188) a1 hy2) rfl ?_
  refine zj_bif_ne (tgt := 15) (pc' := 13) dX12_corner_10 rfl (by decide) (fun c3 => ?_) (fun c3 => ?_)
  · have hy := zt_t hy c3
    refine zj_iconst (pc' := 16) dX12_corner_15 rfl kiconst_0 ?_
    refine zj_istore_n (pc' := 17) (L' := [(3, .int 0), (0, .ref (zad Γ 186)), (1, .int a1), (2, .int a2)]) dX12_corner_16 rfl rfl (by decide) rfl ?_
    refine zj_iconst (pc' := 18) dX12_corner_17 rfl kiconst_0 ?_
    refine zj_istore (pc' := 20) (L' := [(4, .int 0), (3, .int 0), (0, .ref (zad Γ 186)), (1, .int a1), (2, .int a2)]) dX12_corner_18 rfl (by decide) rfl ?_
    refine zj_loc [2, 3, 4, 1, 0] rfl ?_
    obtain ⟨r8, hr9, hyo9⟩ := zt_b hy
    obtain ⟨n9, hn9⟩ := zLP_some hr9
    have HE6 : ∀ (x19 : Int32), r8 = x19 → zR Γ 3 YX12_corner 62 [(0, .ref (zad Γ 186)), (1, .int a1), (2, .int a2), (3, .int x19)] [] (zui M 186 r0v1) Q := by
      intro x19 e9
      have hy := hyo9
      try rw [e9] at hy
      try dsimp only at hy
      refine zj_iload_n (pc' := 63) 2 dX12_corner_62 rfl rfl rfl ?_
      rcases Decidable.em (a2 = 0) with c20 | c20
      · have hy := zt_t hy c20
        refine zj_tsIn (tgt := 92) (v := 0) dX12_corner_63 c20 (by decide) (by decide) (off := 29) (by decide) (by decide) ?_
        refine zj_aload_n (pc' := 93) 0 dX12_corner_92 rfl rfl rfl ?_
        refine zj_getR (pc' := 96) (j := 188) dX12_corner_93 rfl flX12_33 sh186 rfl ?_
        refine zj_iconst (pc' := 97) dX12_corner_96 rfl kiconst_3 ?_
        refine zj_iload_n (pc' := 98) 1 dX12_corner_97 rfl rfl rfl ?_
        refine zj_iadd (pc' := 99) dX12_corner_98 rfl ?_
        obtain ⟨v21, hv21, hy⟩ := zt_b hy
        refine zj_rdi (pc' := 100) dX12_corner_99 rfl sh188 (zr_n rfl e_i188) hv21 ?_
        have e9 := Option.some.inj hy
        subst e9
        exact zj_iret dX12_corner_100 rfl hq
      · have hy := zt_f hy c20
        rcases Decidable.em (a2 = 1) with c22 | c22
        · have hy := zt_t hy c22
          refine zj_tsIn (tgt := 101) (v := 1) dX12_corner_63 c22 (by decide) (by decide) (off := 38) (by decide) (by decide) ?_
          refine zj_iload_n (pc' := 102) 3 dX12_corner_101 rfl rfl rfl ?_
          have e9 := Option.some.inj hy
          subst e9
          exact zj_iret dX12_corner_102 rfl hq
        · have hy := zt_f hy c22
          rcases Decidable.em (a2 = 2) with c23 | c23
          · have hy := zt_t hy c23
            refine zj_tsIn (tgt := 103) (v := 2) dX12_corner_63 c23 (by decide) (by decide) (off := 40) (by decide) (by decide) ?_
            refine zj_aload_n (pc' := 104) 0 dX12_corner_103 rfl rfl rfl ?_
            refine zj_getR (pc' := 107) (j := 188) dX12_corner_104 rfl flX12_33 sh186 rfl ?_
            refine zj_sipush (pc' := 110) dX12_corner_107 rfl ksipush_199 ?_
            refine zj_iload_n (pc' := 111) 1 dX12_corner_110 rfl rfl rfl ?_
            refine zj_iadd (pc' := 112) dX12_corner_111 rfl ?_
            obtain ⟨v24, hv24, hy⟩ := zt_b hy
            refine zj_rdi (pc' := 113) dX12_corner_112 rfl sh188 (zr_n rfl e_i188) hv24 ?_
            have e9 := Option.some.inj hy
            subst e9
            exact zj_iret dX12_corner_113 rfl hq
          · have hy := zt_f hy c23
            rcases Decidable.em (a2 = 3) with c25 | c25
            · have hy := zt_t hy c25
              refine zj_tsIn (tgt := 114) (v := 3) dX12_corner_63 c25 (by decide) (by decide) (off := 51) (by decide) (by decide) ?_
              refine zj_aload_n (pc' := 115) 0 dX12_corner_114 rfl rfl rfl ?_
              refine zj_getR (pc' := 118) (j := 188) dX12_corner_115 rfl flX12_33 sh186 rfl ?_
              refine zj_sipush (pc' := 121) dX12_corner_118 rfl ksipush_207 ?_
              refine zj_iload_n (pc' := 122) 1 dX12_corner_121 rfl rfl rfl ?_
              refine zj_iadd (pc' := 123) dX12_corner_122 rfl ?_
              obtain ⟨v26, hv26, hy⟩ := zt_b hy
              refine zj_rdi (pc' := 124) dX12_corner_123 rfl sh188 (zr_n rfl e_i188) hv26 ?_
              have e9 := Option.some.inj hy
              subst e9
              exact zj_iret dX12_corner_124 rfl hq
            · have hy := zt_f hy c25
              refine zj_tsOut (tgt := 125) dX12_corner_63 (by have q0 := zne (k := 0) c20 (by decide); have q1 := zne (k := 1) c22 (by decide); have q2 := zne (k := 2) c23 (by decide); have q3 := zne (k := 3) c25 (by decide); omega) (by decide) ?_
              refine zj_iconst (pc' := 126) dX12_corner_125 rfl kiconst_m1 ?_
              have e9 := Option.some.inj hy
              subst e9
              exact zj_iret dX12_corner_126 rfl hq
    have HL7 : ∀ (n : Nat) (x4 : Int32) (x5 : Int32), zlp (fun s => fM_corner_L20 r0_6 a1 s.1 s.2) n (x4, x5) = some r8 → zR Γ 3 YX12_corner 20 [(0, .ref (zad Γ 186)), (1, .int a1), (2, .int a2), (3, .int x4), (4, .int x5)] [] (zui M 186 r0v1) Q := by
      intro n
      induction n with
      | zero => intro x4 x5 hn9; cases hn9
      | succ n ih10 =>
        intro x4 x5 hn9
        obtain ⟨o9, hb9, h11, h12⟩ := zlp_step hn9
        have hy : fM_corner_L20 r0_6 a1 x4 x5 = some o9 := hb9
        unfold fM_corner_L20 at hy
        refine zj_iload (pc' := 22) 4 dX12_corner_20 rfl rfl ?_
        refine zj_aload_n (pc' := 23) 0 dX12_corner_22 rfl rfl rfl ?_
        refine zj_getR (pc' := 26) (j := 188) dX12_corner_23 rfl flX12_33 sh186 rfl ?_
        refine zj_iconst (pc' := 27) dX12_corner_26 rfl kiconst_2 ?_
        refine zj_rdi (pc' := 28) dX12_corner_27 rfl sh188 (zr_n rfl e_i188) (zrdK zi2_397 tn2) ?_
        refine zj_icmp_ge (tgt := 62) (pc' := 31) dX12_corner_28 rfl (by decide) (fun c13 => ?_) (fun c13 => ?_)
        · have hy := zt_t hy c13
          have e9 := h12 _ (Option.some.inj hy).symm
          refine zj_loc [0, 1, 2, 3] rfl ?_
          exact HE6 _ e9.symm
        · have hy := zt_f hy c13
          refine zj_iload_n (pc' := 32) 3 dX12_corner_31 rfl rfl rfl ?_
          refine zj_aload_n (pc' := 33) 0 dX12_corner_32 rfl rfl rfl ?_
          refine zj_getR (pc' := 36) (j := 188) dX12_corner_33 rfl flX12_33 sh186 rfl ?_
          refine zj_bipush (pc' := 38) dX12_corner_36 rfl kbipush_91 ?_
          refine zj_iload (pc' := 40) 4 dX12_corner_38 rfl rfl ?_
          refine zj_iadd (pc' := 41) dX12_corner_40 rfl ?_
          obtain ⟨v14, hv14, hy⟩ := zt_b hy
          refine zj_rdi (pc' := 42) dX12_corner_41 rfl sh188 (zr_n rfl e_i188) hv14 ?_
          refine zj_iload_n (pc' := 43) 1 dX12_corner_42 rfl rfl rfl ?_
          have HJ15 : zR Γ 3 YX12_corner 54 [(0, .ref (zad Γ 186)), (1, .int a1), (2, .int a2), (3, .int x4), (4, .int x5)] [.int (if v14 = a1 then ((1 : Int32) <<< (x5 &&& 31)) else (0 : Int32)), .int x4] (zui M 186 r0v1) Q := by
            refine zj_ior (pc' := 55) dX12_corner_54 rfl ?_
            refine zj_topi (fun x17 ex17 => ?_)
            have hy := zlet_at ex17 hy
            refine zj_istore_n (pc' := 56) (L' := [(3, .int x17), (0, .ref (zad Γ 186)), (1, .int a1), (2, .int a2), (4, .int x5)]) dX12_corner_55 rfl rfl (by decide) rfl ?_
            obtain ⟨x18, ex18⟩ : ∃ z : Int32, z = (x5 + 1) := ⟨_, rfl⟩
            have hy := zlet_at ex18 hy
            refine zj_iinc (pc' := 59) 4 (L' := [(4, .int x18), (3, .int x17), (0, .ref (zad Γ 186)), (1, .int a1), (2, .int a2)]) dX12_corner_56 rfl rfl (by decide) (by rw [ci1, ← ex18]; rfl) ?_
            refine zj_goto (tgt := 20) dX12_corner_59 (by decide) ?_
            have hn9 := h11 _ (Option.some.inj hy).symm
            refine zj_loc [2, 3, 4, 1, 0] rfl ?_
            exact ih10 _ _ hn9
          refine zj_icmp_ne (tgt := 53) (pc' := 46) dX12_corner_43 rfl (by decide) (fun c16 => ?_) (fun c16 => ?_)
          · refine zj_iconst (pc' := 54) dX12_corner_53 rfl kiconst_0 ?_
            exact zj_eqi (if_neg c16) HJ15
          · refine zj_iconst (pc' := 47) dX12_corner_46 rfl kiconst_1 ?_
            refine zj_iload (pc' := 49) 4 dX12_corner_47 rfl rfl ?_
            refine zj_ishl (pc' := 50) dX12_corner_49 rfl ?_
            refine zj_goto (tgt := 54) dX12_corner_50 (by decide) ?_
            exact zj_eqi (if_pos c16) HJ15
    exact HL7 n9 _ _ hn9
  · have hy := zt_f hy c3
    refine zj_iconst (pc' := 14) dX12_corner_13 rfl kiconst_m1 ?_
    have e9 := Option.some.inj hy
    subst e9
    exact zj_iret dX12_corner_14 rfl hq
set_option maxRecDepth 20000 in
theorem LX12_corner_186 (Γ : zG) (M : zM) (r0 : Nat → Int32) (r0_6 : Nat → Int32) (e_i186 : M.1 186 = r0) (e_i188 : M.1 188 = r0_6) (a1 : Int32) (a2 : Int32) {res : Int32 × (Nat → Int32)} (hy : (fM_corner r0 r0_6 a1 a2) = some res) : zK Γ 3 YX12_corner [.ref (zad Γ 186), .int a1, .int a2] M (fun v N => v = some (.int res.1) ∧ N = (zui M 186 res.2)) :=
  zK_of (by decide) (Nat.le_of_ble_eq_true rfl) (TX12_corner_186 Γ M r0 r0_6 e_i186 e_i188 a1 a2 hy ⟨rfl, rfl⟩)

noncomputable def fDy_bunsFound (r0 : Nat → Int32) : Int32 :=
  (r0 10)

set_option maxRecDepth 20000 in
theorem TX1_bunsFound_15 (Γ : zG) {Q : Option Value → zM → Prop} (M : zM) (r0 : Nat → Int32) (e_i15 : M.1 15 = r0)  {res : Int32} (hy : (fDy_bunsFound r0) = res) (hq : Q (some (.int res)) M) : zR Γ 1 YX1_bunsFound 0 [(0, .ref (zad Γ 15))] [] M Q := by
  unfold fDy_bunsFound at hy
  refine zj_aload_n (pc' := 1) 0 dX1_bunsFound_0 rfl rfl rfl ?_
  refine zj_fI (pc' := 4) dX1_bunsFound_1 rfl flX1_49 sh15 rfl e_i15 rfl ?_
  subst hy
  exact zj_iret dX1_bunsFound_4 rfl hq
set_option maxRecDepth 20000 in
theorem LX1_bunsFound_15 (Γ : zG) (M : zM) (r0 : Nat → Int32) (e_i15 : M.1 15 = r0)  {res : Int32} (hy : (fDy_bunsFound r0) = res) : zK Γ 1 YX1_bunsFound [.ref (zad Γ 15)] M (fun v N => v = some (.int res) ∧ N = M) :=
  zK_of (by decide) (Nat.le_of_ble_eq_true rfl) (TX1_bunsFound_15 Γ M r0 e_i15 hy ⟨rfl, rfl⟩)

noncomputable def fDy_allPrints_L4 (r0_7 : Nat → Int32) (x1 : Int32) (x2 : Int32) : Option ((Int32 × Int32) ⊕ (Int32)) :=
  (if 8 ≤ x2 then
  some (.inr x1)
  else
  (zrd r0_7 8 x2).bind (fun (v11 : Int32) =>
  zlet (x1 + v11) (fun (x12 : Int32) =>
  zlet (x2 + 1) (fun (x13 : Int32) =>
  some (.inl (x12, x13))))))
noncomputable def fDy_allPrints (r0_7 : Nat → Int32) : Option (Int32) :=
  (zLP (fun s => fDy_allPrints_L4 r0_7 s.1 s.2) (0, 0)).bind (fun r5 =>
  some r5)

set_option maxRecDepth 20000 in
theorem TX1_allPrints_15 (Γ : zG) {Q : Option Value → zM → Prop} (M : zM) (r0_7 : Nat → Int32) (e_i23 : M.1 23 = r0_7)  {res : Int32} (hy : (fDy_allPrints r0_7) = some res) (hq : Q (some (.int res)) M) : zR Γ 1 YX1_allPrints 0 [(0, .ref (zad Γ 15))] [] M Q := by
  unfold fDy_allPrints at hy
  refine zj_iconst (pc' := 1) dX1_allPrints_0 rfl kiconst_0 ?_
  refine zj_istore_n (pc' := 2) (L' := [(1, .int 0), (0, .ref (zad Γ 15))]) dX1_allPrints_1 rfl rfl (by decide) rfl ?_
  refine zj_iconst (pc' := 3) dX1_allPrints_2 rfl kiconst_0 ?_
  refine zj_istore_n (pc' := 4) (L' := [(2, .int 0), (1, .int 0), (0, .ref (zad Γ 15))]) dX1_allPrints_3 rfl rfl (by decide) rfl ?_
  refine zj_loc [2, 1, 0] rfl ?_
  obtain ⟨r5, hr9, hyo6⟩ := zt_b hy
  obtain ⟨n9, hn9⟩ := zLP_some hr9
  have HE3 : ∀ (x14 : Int32), r5 = x14 → zR Γ 1 YX1_allPrints 25 [(1, .int x14)] [] M Q := by
    intro x14 e9
    have hy := hyo6
    try rw [e9] at hy
    try dsimp only at hy
    refine zj_iload_n (pc' := 26) 0 dX1_allPrints_25 rfl rfl rfl ?_
    have e9 := Option.some.inj hy
    subst e9
    exact zj_iret dX1_allPrints_26 rfl hq
  have HL4 : ∀ (n : Nat) (x1 : Int32) (x2 : Int32), zlp (fun s => fDy_allPrints_L4 r0_7 s.1 s.2) n (x1, x2) = some r5 → zR Γ 1 YX1_allPrints 4 [(0, .ref (zad Γ 15)), (1, .int x1), (2, .int x2)] [] M Q := by
    intro n
    induction n with
    | zero => intro x1 x2 hn9; cases hn9
    | succ n ih7 =>
      intro x1 x2 hn9
      obtain ⟨o9, hb9, h8, h9⟩ := zlp_step hn9
      have hy : fDy_allPrints_L4 r0_7 x1 x2 = some o9 := hb9
      unfold fDy_allPrints_L4 at hy
      refine zj_iload_n (pc' := 5) 2 dX1_allPrints_4 rfl rfl rfl ?_
      refine zj_bipush (pc' := 7) dX1_allPrints_5 rfl kbipush_8 ?_
      refine zj_icmp_ge (tgt := 25) (pc' := 10) dX1_allPrints_7 rfl (by decide) (fun c10 => ?_) (fun c10 => ?_)
      · have hy := zt_t hy c10
        have e9 := h9 _ (Option.some.inj hy).symm
        refine zj_loc [1] rfl ?_
        exact HE3 _ e9.symm
      · have hy := zt_f hy c10
        refine zj_iload_n (pc' := 11) 1 dX1_allPrints_10 rfl rfl rfl ?_
        refine zj_aload_n (pc' := 12) 0 dX1_allPrints_11 rfl rfl rfl ?_
        refine zj_getR (pc' := 15) (j := 23) dX1_allPrints_12 rfl flX1_33 sh15 rfl ?_
        refine zj_iload_n (pc' := 16) 2 dX1_allPrints_15 rfl rfl rfl ?_
        obtain ⟨v11, hv11, hy⟩ := zt_b hy
        refine zj_rdi (pc' := 17) dX1_allPrints_16 rfl sh23 e_i23 hv11 ?_
        refine zj_iadd (pc' := 18) dX1_allPrints_17 rfl ?_
        refine zj_topi (fun x12 ex12 => ?_)
        have hy := zlet_at ex12 hy
        refine zj_istore_n (pc' := 19) (L' := [(1, .int x12), (0, .ref (zad Γ 15)), (2, .int x2)]) dX1_allPrints_18 rfl rfl (by decide) rfl ?_
        obtain ⟨x13, ex13⟩ : ∃ z : Int32, z = (x2 + 1) := ⟨_, rfl⟩
        have hy := zlet_at ex13 hy
        refine zj_iinc (pc' := 22) 2 (L' := [(2, .int x13), (1, .int x12), (0, .ref (zad Γ 15))]) dX1_allPrints_19 rfl rfl (by decide) (by rw [ci1, ← ex13]; rfl) ?_
        refine zj_goto (tgt := 4) dX1_allPrints_22 (by decide) ?_
        have hn9 := h8 _ (Option.some.inj hy).symm
        refine zj_loc [2, 1, 0] rfl ?_
        exact ih7 _ _ hn9
  exact HL4 n9 _ _ hn9
set_option maxRecDepth 20000 in
theorem LX1_allPrints_15 (Γ : zG) (M : zM) (r0_7 : Nat → Int32) (e_i23 : M.1 23 = r0_7)  {res : Int32} (hy : (fDy_allPrints r0_7) = some res) : zK Γ 1 YX1_allPrints [.ref (zad Γ 15)] M (fun v N => v = some (.int res) ∧ N = M) :=
  zK_of (by decide) (Nat.le_of_ble_eq_true rfl) (TX1_allPrints_15 Γ M r0_7 e_i23 hy ⟨rfl, rfl⟩)


set_option maxRecDepth 20000 in
theorem TX1_followedBy_15 (Γ : zG) {Q : Option Value → zM → Prop} (M : zM) (r0_2 : Nat → Int32) (e_i18 : M.1 18 = r0_2) (a1 : Int32) {res : Int32} (hy : (fDy_followedBy r0_2 a1) = some res) (hq : Q (some (.int res)) M) : zR Γ 2 YX1_followedBy 0 [(0, .ref (zad Γ 15)), (1, .int a1)] [] M Q := by
  unfold fDy_followedBy at hy
  refine zj_iload_n (pc' := 1) 1 dX1_followedBy_0 rfl rfl rfl ?_
  refine zj_S1 (pc' := 4) (z := YX1_mayBe) (As := [.int a1]) (N := M) dX1_followedBy_1 rfl mlX1_58 lkX1_mayBe rfl rfl (Nat.le_of_ble_eq_true rfl) (Nat.le_of_ble_eq_true rfl) (LX1_mayBe Γ _ a1 rfl) rfl ?_
  refine zj_bif_eq (tgt := 16) (pc' := 7) dX1_followedBy_4 rfl (by decide) (fun c1 => ?_) (fun c1 => ?_)
  · have hy := zt_f hy c1
    refine zj_iconst (pc' := 17) dX1_followedBy_16 rfl kiconst_m1 ?_
    have e9 := Option.some.inj hy
    subst e9
    exact zj_iret dX1_followedBy_17 rfl hq
  · have hy := zt_t hy c1
    refine zj_aload_n (pc' := 8) 0 dX1_followedBy_7 rfl rfl rfl ?_
    refine zj_getR (pc' := 11) (j := 18) dX1_followedBy_8 rfl flX1_18 sh15 rfl ?_
    refine zj_iload_n (pc' := 12) 1 dX1_followedBy_11 rfl rfl rfl ?_
    obtain ⟨v2, hv2, hy⟩ := zt_b hy
    refine zj_rdi (pc' := 13) dX1_followedBy_12 rfl sh18 e_i18 hv2 ?_
    refine zj_goto (tgt := 17) dX1_followedBy_13 (by decide) ?_
    have e9 := Option.some.inj hy
    subst e9
    exact zj_iret dX1_followedBy_17 rfl hq
set_option maxRecDepth 20000 in
theorem LX1_followedBy_15 (Γ : zG) (M : zM) (r0_2 : Nat → Int32) (e_i18 : M.1 18 = r0_2) (a1 : Int32) {res : Int32} (hy : (fDy_followedBy r0_2 a1) = some res) : zK Γ 2 YX1_followedBy [.ref (zad Γ 15), .int a1] M (fun v N => v = some (.int res) ∧ N = M) :=
  zK_of (by decide) (Nat.le_of_ble_eq_true rfl) (TX1_followedBy_15 Γ M r0_2 e_i18 a1 hy ⟨rfl, rfl⟩)

noncomputable def fDy_ringOf_L7 (r0_2 : Nat → Int32) (a1 : Int32) (x1 : Int32) (x2 : Int32) (x3 : Int32) : Option ((Int32 × Int32 × Int32) ⊕ (Int32)) :=
  (if 6 ≤ x3 then
  some (.inr 0)
  else
  (fDy_followedBy r0_2 x2).bind (fun (y12 : Int32) =>
  (if y12 = (-1) then
  some (.inr 0)
  else
  zlet (x1 ||| ((1 : Int32) <<< (y12 &&& 31))) (fun (x14 : Int32) =>
  (if y12 = a1 then
  some (.inr x14)
  else
  zlet (x3 + 1) (fun (x16 : Int32) =>
  some (.inl (x14, y12, x16))))))))
noncomputable def fDy_ringOf (r0_2 : Nat → Int32) (a1 : Int32) : Option (Int32) :=
  zLP (fun s => fDy_ringOf_L7 r0_2 a1 s.1 s.2.1 s.2.2) (0, a1, 0)

set_option maxRecDepth 20000 in
theorem TX1_ringOf_15 (Γ : zG) {Q : Option Value → zM → Prop} (M : zM) (r0_2 : Nat → Int32) (e_i18 : M.1 18 = r0_2) (a1 : Int32) {res : Int32} (hy : (fDy_ringOf r0_2 a1) = some res) (hq : Q (some (.int res)) M) : zR Γ 3 YX1_ringOf 0 [(0, .ref (zad Γ 15)), (1, .int a1)] [] M Q := by
  unfold fDy_ringOf at hy
  refine zj_iconst (pc' := 1) dX1_ringOf_0 rfl kiconst_0 ?_
  refine zj_istore_n (pc' := 2) (L' := [(2, .int 0), (0, .ref (zad Γ 15)), (1, .int a1)]) dX1_ringOf_1 rfl rfl (by decide) rfl ?_
  refine zj_iload_n (pc' := 3) 2 dX1_ringOf_2 rfl rfl rfl ?_
  refine zj_istore_n (pc' := 4) (L' := [(3, .int a1), (2, .int 0), (0, .ref (zad Γ 15)), (1, .int a1)]) dX1_ringOf_3 rfl rfl (by decide) rfl ?_
  refine zj_iconst (pc' := 5) dX1_ringOf_4 rfl kiconst_0 ?_
  refine zj_istore (pc' := 7) (L' := [(4, .int 0), (3, .int a1), (2, .int 0), (0, .ref (zad Γ 15)), (1, .int a1)]) dX1_ringOf_5 rfl (by decide) rfl ?_
  refine zj_loc [3, 4, 2, 1, 0] rfl ?_
  obtain ⟨n9, hn9⟩ := zLP_some hy
  have HL5 : ∀ (n : Nat) (x1 : Int32) (x2 : Int32) (x3 : Int32), zlp (fun s => fDy_ringOf_L7 r0_2 a1 s.1 s.2.1 s.2.2) n (x1, x2, x3) = some res → zR Γ 3 YX1_ringOf 7 [(0, .ref (zad Γ 15)), (1, .int a1), (2, .int x1), (3, .int x2), (4, .int x3)] [] M Q := by
    intro n
    induction n with
    | zero => intro x1 x2 x3 hn9; cases hn9
    | succ n ih8 =>
      intro x1 x2 x3 hn9
      obtain ⟨o9, hb9, h9, h10⟩ := zlp_step hn9
      have hy : fDy_ringOf_L7 r0_2 a1 x1 x2 x3 = some o9 := hb9
      unfold fDy_ringOf_L7 at hy
      refine zj_iload (pc' := 9) 4 dX1_ringOf_7 rfl rfl ?_
      refine zj_bipush (pc' := 11) dX1_ringOf_9 rfl kbipush_6 ?_
      refine zj_icmp_ge (tgt := 46) (pc' := 14) dX1_ringOf_11 rfl (by decide) (fun c11 => ?_) (fun c11 => ?_)
      · have hy := zt_t hy c11
        refine zj_iconst (pc' := 47) dX1_ringOf_46 rfl kiconst_0 ?_
        have e9 := h10 _ (Option.some.inj hy).symm
        subst e9
        exact zj_iret dX1_ringOf_47 rfl hq
      · have hy := zt_f hy c11
        refine zj_aload_n (pc' := 15) 0 dX1_ringOf_14 rfl rfl rfl ?_
        refine zj_iload_n (pc' := 16) 3 dX1_ringOf_15 rfl rfl rfl ?_
        obtain ⟨y12, hy12, hy⟩ := zt_b hy
        refine zj_V1 (pc' := 19) (z := YX1_followedBy) (As := [.int x2]) (N := M) dX1_ringOf_16 rfl mlX1_69 lkX1_followedBy sh15 ⟨_, _, rfl⟩ rfl rfl (Nat.le_of_ble_eq_true rfl) (Nat.le_of_ble_eq_true rfl) (LX1_followedBy_15 Γ _ r0_2 e_i18 x2 hy12) rfl ?_
        refine zj_istore_n (pc' := 20) (L' := [(3, .int y12), (0, .ref (zad Γ 15)), (1, .int a1), (2, .int x1), (4, .int x3)]) dX1_ringOf_19 rfl rfl (by decide) rfl ?_
        refine zj_iload_n (pc' := 21) 0 dX1_ringOf_20 rfl rfl rfl ?_
        refine zj_iconst (pc' := 22) dX1_ringOf_21 rfl kiconst_m1 ?_
        refine zj_icmp_ne (tgt := 27) (pc' := 25) dX1_ringOf_22 rfl (by decide) (fun c13 => ?_) (fun c13 => ?_)
        · have hy := zt_f hy c13
          refine zj_iload_n (pc' := 28) 3 dX1_ringOf_27 rfl rfl rfl ?_
          refine zj_iconst (pc' := 29) dX1_ringOf_28 rfl kiconst_1 ?_
          refine zj_iload_n (pc' := 30) 0 dX1_ringOf_29 rfl rfl rfl ?_
          refine zj_ishl (pc' := 31) dX1_ringOf_30 rfl ?_
          refine zj_ior (pc' := 32) dX1_ringOf_31 rfl ?_
          refine zj_topi (fun x14 ex14 => ?_)
          have hy := zlet_at ex14 hy
          refine zj_istore_n (pc' := 33) (L' := [(2, .int x14), (3, .int y12), (0, .ref (zad Γ 15)), (1, .int a1), (4, .int x3)]) dX1_ringOf_32 rfl rfl (by decide) rfl ?_
          refine zj_iload_n (pc' := 34) 1 dX1_ringOf_33 rfl rfl rfl ?_
          refine zj_iload_n (pc' := 35) 3 dX1_ringOf_34 rfl rfl rfl ?_
          refine zj_icmp_ne (tgt := 40) (pc' := 38) dX1_ringOf_35 rfl (by decide) (fun c15 => ?_) (fun c15 => ?_)
          · have hy := zt_f hy c15
            obtain ⟨x16, ex16⟩ : ∃ z : Int32, z = (x3 + 1) := ⟨_, rfl⟩
            have hy := zlet_at ex16 hy
            refine zj_iinc (pc' := 43) 4 (L' := [(4, .int x16), (2, .int x14), (3, .int y12), (0, .ref (zad Γ 15)), (1, .int a1)]) dX1_ringOf_40 rfl rfl (by decide) (by rw [ci1, ← ex16]; rfl) ?_
            refine zj_goto (tgt := 7) dX1_ringOf_43 (by decide) ?_
            have hn9 := h9 _ (Option.some.inj hy).symm
            refine zj_loc [3, 4, 1, 2, 0] rfl ?_
            exact ih8 _ _ _ hn9
          · have hy := zt_t hy c15
            refine zj_iload_n (pc' := 39) 0 dX1_ringOf_38 rfl rfl rfl ?_
            have e9 := h10 _ (Option.some.inj hy).symm
            subst e9
            exact zj_iret dX1_ringOf_39 rfl hq
        · have hy := zt_t hy c13
          refine zj_iconst (pc' := 26) dX1_ringOf_25 rfl kiconst_0 ?_
          have e9 := h10 _ (Option.some.inj hy).symm
          subst e9
          exact zj_iret dX1_ringOf_26 rfl hq
  exact HL5 n9 _ _ _ hn9
set_option maxRecDepth 20000 in
theorem LX1_ringOf_15 (Γ : zG) (M : zM) (r0_2 : Nat → Int32) (e_i18 : M.1 18 = r0_2) (a1 : Int32) {res : Int32} (hy : (fDy_ringOf r0_2 a1) = some res) : zK Γ 3 YX1_ringOf [.ref (zad Γ 15), .int a1] M (fun v N => v = some (.int res) ∧ N = M) :=
  zK_of (by decide) (Nat.le_of_ble_eq_true rfl) (TX1_ringOf_15 Γ M r0_2 e_i18 a1 hy ⟨rfl, rfl⟩)

