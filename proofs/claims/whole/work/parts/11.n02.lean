
set_option maxRecDepth 20000 in
theorem TX7_copyFrom_153_5 (Γ : zG) {Q : Option Value → zM → Prop} (M : zM) (r0 : Nat → Int32) (w0_0 : Nat → Int64) (w0_1 : Nat → Int64) (r0_2 : Nat → Int32) (r0_3 : Nat → Int32) (r1 : Nat → Int32) (w1_0 : Nat → Int64) (w1_1 : Nat → Int64) (r1_2 : Nat → Int32) (r1_3 : Nat → Int32) (e_i153 : M.1 153 = r0) (e_l154 : M.2 154 = w0_0) (e_l155 : M.2 155 = w0_1) (e_i156 : M.1 156 = r0_2) (e_i157 : M.1 157 = r0_3) (e_i5 : M.1 5 = r1) (e_l6 : M.2 6 = w1_0) (e_l7 : M.2 7 = w1_1) (e_i8 : M.1 8 = r1_2) (e_i9 : M.1 9 = r1_3)  {res : (Nat → Int32) × (Nat → Int64) × (Nat → Int64) × (Nat → Int32) × (Nat → Int32)} (hy : (fPl_copyFrom r0 w0_0 w0_1 r0_2 r0_3 r1 w1_0 w1_1 r1_2 r1_3) = some res) (hq : Q none (zui (zui (zui (zul (zul M 154 res.2.1) 155 res.2.2.1) 153 res.1) 156 res.2.2.2.1) 157 res.2.2.2.2)) : zR Γ 2 YX7_copyFrom 0 [(0, .ref (zad Γ 153)), (1, .ref (zad Γ 5))] [] M Q := by
  unfold fPl_copyFrom at hy
  refine zj_aload_n (pc' := 1) 1 dX7_copyFrom_0 rfl rfl rfl ?_
  refine zj_getR (pc' := 4) (j := 6) dX7_copyFrom_1 rfl flX7_9 sh5 rfl ?_
  refine zj_iconst (pc' := 5) dX7_copyFrom_4 rfl kiconst_0 ?_
  refine zj_aload_n (pc' := 6) 0 dX7_copyFrom_5 rfl rfl rfl ?_
  refine zj_getR (pc' := 9) (j := 154) dX7_copyFrom_6 rfl flX7_9 sh153 rfl ?_
  refine zj_iconst (pc' := 10) dX7_copyFrom_9 rfl kiconst_0 ?_
  refine zj_bipush (pc' := 12) dX7_copyFrom_10 rfl kbipush_8 ?_
  obtain ⟨w0_0v1, ew0_0v1⟩ : ∃ z, z = (va_cpy w1_0 w0_0 0 0 8) := ⟨_, rfl⟩
  have hy := zlet_at ew0_0v1 hy
  refine zj_cpL (pc' := 15) (N := (zul M 154 w0_0v1)) dX7_copyFrom_12 rfl mlX7_65 zcpw sh6 sh154 tn0 tn0 tn8 (by decide) (by decide) (Nat.le_of_ble_eq_true rfl) (Nat.le_of_ble_eq_true rfl) e_l6 e_l154 ew0_0v1 rfl (Nat.le_of_ble_eq_true rfl) (Nat.le_of_ble_eq_true rfl) ?_
  refine zj_aload_n (pc' := 16) 1 dX7_copyFrom_15 rfl rfl rfl ?_
  refine zj_getR (pc' := 19) (j := 7) dX7_copyFrom_16 rfl flX7_15 sh5 rfl ?_
  refine zj_iconst (pc' := 20) dX7_copyFrom_19 rfl kiconst_0 ?_
  refine zj_aload_n (pc' := 21) 0 dX7_copyFrom_20 rfl rfl rfl ?_
  refine zj_getR (pc' := 24) (j := 155) dX7_copyFrom_21 rfl flX7_15 sh153 rfl ?_
  refine zj_iconst (pc' := 25) dX7_copyFrom_24 rfl kiconst_0 ?_
  refine zj_bipush (pc' := 27) dX7_copyFrom_25 rfl kbipush_6 ?_
  obtain ⟨w0_1v2, ew0_1v2⟩ : ∃ z, z = (va_cpy w1_1 w0_1 0 0 6) := ⟨_, rfl⟩
  have hy := zlet_at ew0_1v2 hy
  refine zj_cpL (pc' := 30) (N := (zul (zul M 154 w0_0v1) 155 w0_1v2)) dX7_copyFrom_27 rfl mlX7_65 zcpw sh7 sh155 tn0 tn0 tn6 (by decide) (by decide) (Nat.le_of_ble_eq_true rfl) (Nat.le_of_ble_eq_true rfl) (zq_n rfl e_l7) (zq_n rfl e_l155) ew0_1v2 rfl (Nat.le_of_ble_eq_true rfl) (Nat.le_of_ble_eq_true rfl) ?_
  refine zj_aload_n (pc' := 31) 1 dX7_copyFrom_30 rfl rfl rfl ?_
  refine zj_getR (pc' := 34) (j := 8) dX7_copyFrom_31 rfl flX7_18 sh5 rfl ?_
  refine zj_iconst (pc' := 35) dX7_copyFrom_34 rfl kiconst_0 ?_
  refine zj_aload_n (pc' := 36) 0 dX7_copyFrom_35 rfl rfl rfl ?_
  refine zj_getR (pc' := 39) (j := 156) dX7_copyFrom_36 rfl flX7_18 sh153 rfl ?_
  refine zj_iconst (pc' := 40) dX7_copyFrom_39 rfl kiconst_0 ?_
  refine zj_bipush (pc' := 42) dX7_copyFrom_40 rfl kbipush_8 ?_
  obtain ⟨r0_2v3, er0_2v3⟩ : ∃ z, z = (va_cpy r1_2 r0_2 0 0 8) := ⟨_, rfl⟩
  have hy := zlet_at er0_2v3 hy
  refine zj_cpI (pc' := 45) (N := (zui (zul (zul M 154 w0_0v1) 155 w0_1v2) 156 r0_2v3)) dX7_copyFrom_42 rfl mlX7_65 zcpw sh8 sh156 tn0 tn0 tn8 (by decide) (by decide) (Nat.le_of_ble_eq_true rfl) (Nat.le_of_ble_eq_true rfl) (zr_l (zr_l e_i8)) (zr_l (zr_l e_i156)) er0_2v3 rfl (Nat.le_of_ble_eq_true rfl) (Nat.le_of_ble_eq_true rfl) ?_
  refine zj_aload_n (pc' := 46) 1 dX7_copyFrom_45 rfl rfl rfl ?_
  refine zj_getR (pc' := 49) (j := 9) dX7_copyFrom_46 rfl flX7_22 sh5 rfl ?_
  refine zj_iconst (pc' := 50) dX7_copyFrom_49 rfl kiconst_0 ?_
  refine zj_aload_n (pc' := 51) 0 dX7_copyFrom_50 rfl rfl rfl ?_
  refine zj_getR (pc' := 54) (j := 157) dX7_copyFrom_51 rfl flX7_22 sh153 rfl ?_
  refine zj_iconst (pc' := 55) dX7_copyFrom_54 rfl kiconst_0 ?_
  refine zj_bipush (pc' := 57) dX7_copyFrom_55 rfl kbipush_64 ?_
  obtain ⟨r0_3v4, er0_3v4⟩ : ∃ z, z = (va_cpy r1_3 r0_3 0 0 64) := ⟨_, rfl⟩
  have hy := zlet_at er0_3v4 hy
  refine zj_cpI (pc' := 60) (N := (zui (zui (zul (zul M 154 w0_0v1) 155 w0_1v2) 156 r0_2v3) 157 r0_3v4)) dX7_copyFrom_57 rfl mlX7_65 zcpw sh9 sh157 tn0 tn0 tn64 (by decide) (by decide) (Nat.le_of_ble_eq_true rfl) (Nat.le_of_ble_eq_true rfl) (zr_n rfl (zr_l (zr_l e_i9))) (zr_n rfl (zr_l (zr_l e_i157))) er0_3v4 rfl (Nat.le_of_ble_eq_true rfl) (Nat.le_of_ble_eq_true rfl) ?_
  refine zj_aload_n (pc' := 61) 0 dX7_copyFrom_60 rfl rfl rfl ?_
  refine zj_aload_n (pc' := 62) 1 dX7_copyFrom_61 rfl rfl rfl ?_
  refine zj_fI (pc' := 65) dX7_copyFrom_62 rfl flX7_25 sh5 rfl (zr_n rfl (zr_n rfl (zr_l (zr_l e_i5)))) rfl ?_
  obtain ⟨r0v5, er0v5⟩ : ∃ z, z = (zup r0 4 (r1 4)) := ⟨_, rfl⟩
  have hy := zlet_at er0v5 hy
  refine zj_pI (pc' := 68) (N := (zui (zui (zui (zul (zul M 154 w0_0v1) 155 w0_1v2) 153 r0v5) 156 r0_2v3) 157 r0_3v4)) dX7_copyFrom_65 rfl fpX7_25 sh153 rfl (zr_n rfl (zr_n rfl (zr_l (zr_l e_i153)))) er0v5 (zm_n rfl (zm_n rfl rfl)) ?_
  refine zj_aload_n (pc' := 69) 0 dX7_copyFrom_68 rfl rfl rfl ?_
  refine zj_aload_n (pc' := 70) 1 dX7_copyFrom_69 rfl rfl rfl ?_
  refine zj_fI (pc' := 73) dX7_copyFrom_70 rfl flX7_29 sh5 rfl (zr_n rfl (zr_n rfl (zr_n rfl (zr_l (zr_l e_i5))))) rfl ?_
  obtain ⟨r0v6, er0v6⟩ : ∃ z, z = (zup r0v5 5 (r1 5)) := ⟨_, rfl⟩
  have hy := zlet_at er0v6 hy
  refine zj_pI (pc' := 76) (N := (zui (zui (zui (zul (zul M 154 w0_0v1) 155 w0_1v2) 153 r0v6) 156 r0_2v3) 157 r0_3v4)) dX7_copyFrom_73 rfl fpX7_29 sh153 rfl (zr_n rfl (zr_n rfl zr_s)) er0v6 (zm_n rfl (zm_n rfl zm_s)) ?_
  refine zj_aload_n (pc' := 77) 0 dX7_copyFrom_76 rfl rfl rfl ?_
  refine zj_aload_n (pc' := 78) 1 dX7_copyFrom_77 rfl rfl rfl ?_
  refine zj_fI (pc' := 81) dX7_copyFrom_78 rfl flX7_32 sh5 rfl (zr_n rfl (zr_n rfl (zr_n rfl (zr_l (zr_l e_i5))))) rfl ?_
  obtain ⟨r0v7, er0v7⟩ : ∃ z, z = (zup r0v6 6 (r1 6)) := ⟨_, rfl⟩
  have hy := zlet_at er0v7 hy
  refine zj_pI (pc' := 84) (N := (zui (zui (zui (zul (zul M 154 w0_0v1) 155 w0_1v2) 153 r0v7) 156 r0_2v3) 157 r0_3v4)) dX7_copyFrom_81 rfl fpX7_32 sh153 rfl (zr_n rfl (zr_n rfl zr_s)) er0v7 (zm_n rfl (zm_n rfl zm_s)) ?_
  have e9 := Option.some.inj hy
  subst e9
  exact zj_vret dX7_copyFrom_84 rfl hq
set_option maxRecDepth 20000 in
theorem LX7_copyFrom_153_5 (Γ : zG) (M : zM) (r0 : Nat → Int32) (w0_0 : Nat → Int64) (w0_1 : Nat → Int64) (r0_2 : Nat → Int32) (r0_3 : Nat → Int32) (r1 : Nat → Int32) (w1_0 : Nat → Int64) (w1_1 : Nat → Int64) (r1_2 : Nat → Int32) (r1_3 : Nat → Int32) (e_i153 : M.1 153 = r0) (e_l154 : M.2 154 = w0_0) (e_l155 : M.2 155 = w0_1) (e_i156 : M.1 156 = r0_2) (e_i157 : M.1 157 = r0_3) (e_i5 : M.1 5 = r1) (e_l6 : M.2 6 = w1_0) (e_l7 : M.2 7 = w1_1) (e_i8 : M.1 8 = r1_2) (e_i9 : M.1 9 = r1_3)  {res : (Nat → Int32) × (Nat → Int64) × (Nat → Int64) × (Nat → Int32) × (Nat → Int32)} (hy : (fPl_copyFrom r0 w0_0 w0_1 r0_2 r0_3 r1 w1_0 w1_1 r1_2 r1_3) = some res) : zK Γ 2 YX7_copyFrom [.ref (zad Γ 153), .ref (zad Γ 5)] M (fun v N => v = none ∧ N = (zui (zui (zui (zul (zul M 154 res.2.1) 155 res.2.2.1) 153 res.1) 156 res.2.2.2.1) 157 res.2.2.2.2)) :=
  zK_of (by decide) (Nat.le_of_ble_eq_true rfl) (TX7_copyFrom_153_5 Γ M r0 w0_0 w0_1 r0_2 r0_3 r1 w1_0 w1_1 r1_2 r1_3 e_i153 e_l154 e_l155 e_i156 e_i157 e_i5 e_l6 e_l7 e_i8 e_i9 hy ⟨rfl, rfl⟩)


set_option maxRecDepth 20000 in
theorem TX1_copyFrom_158_15 (Γ : zG) {Q : Option Value → zM → Prop} (M : zM) (r0 : Nat → Int32) (r0_0 : Nat → Int32) (r0_1 : Nat → Int32) (r0_2 : Nat → Int32) (r0_3 : Nat → Int32) (r0_4 : Nat → Int32) (r0_5 : Nat → Int32) (r0_6 : Nat → Int32) (r0_7 : Nat → Int32) (r1 : Nat → Int32) (r1_0 : Nat → Int32) (r1_1 : Nat → Int32) (r1_2 : Nat → Int32) (r1_3 : Nat → Int32) (r1_4 : Nat → Int32) (r1_5 : Nat → Int32) (r1_6 : Nat → Int32) (r1_7 : Nat → Int32) (e_i158 : M.1 158 = r0) (e_i159 : M.1 159 = r0_0) (e_i160 : M.1 160 = r0_1) (e_i161 : M.1 161 = r0_2) (e_i162 : M.1 162 = r0_3) (e_i163 : M.1 163 = r0_4) (e_i164 : M.1 164 = r0_5) (e_i165 : M.1 165 = r0_6) (e_i166 : M.1 166 = r0_7) (e_i15 : M.1 15 = r1) (e_i16 : M.1 16 = r1_0) (e_i17 : M.1 17 = r1_1) (e_i18 : M.1 18 = r1_2) (e_i19 : M.1 19 = r1_3) (e_i20 : M.1 20 = r1_4) (e_i21 : M.1 21 = r1_5) (e_i22 : M.1 22 = r1_6) (e_i23 : M.1 23 = r1_7)  {res : (Nat → Int32) × (Nat → Int32) × (Nat → Int32) × (Nat → Int32) × (Nat → Int32) × (Nat → Int32) × (Nat → Int32) × (Nat → Int32) × (Nat → Int32)} (hy : (fDy_copyFrom r0 r0_0 r0_1 r0_2 r0_3 r0_4 r0_5 r0_6 r0_7 r1 r1_0 r1_1 r1_2 r1_3 r1_4 r1_5 r1_6 r1_7) = some res) (hq : Q none (zui (zui (zui (zui (zui (zui (zui (zui (zui M 158 res.1) 159 res.2.1) 160 res.2.2.1) 161 res.2.2.2.1) 162 res.2.2.2.2.1) 163 res.2.2.2.2.2.1) 164 res.2.2.2.2.2.2.1) 165 res.2.2.2.2.2.2.2.1) 166 res.2.2.2.2.2.2.2.2)) : zR Γ 2 YX1_copyFrom 0 [(0, .ref (zad Γ 158)), (1, .ref (zad Γ 15))] [] M Q := by
  unfold fDy_copyFrom at hy
  refine zj_aload_n (pc' := 1) 1 dX1_copyFrom_0 rfl rfl rfl ?_
  refine zj_getR (pc' := 4) (j := 16) dX1_copyFrom_1 rfl flX1_9 sh15 rfl ?_
  refine zj_iconst (pc' := 5) dX1_copyFrom_4 rfl kiconst_0 ?_
  refine zj_aload_n (pc' := 6) 0 dX1_copyFrom_5 rfl rfl rfl ?_
  refine zj_getR (pc' := 9) (j := 159) dX1_copyFrom_6 rfl flX1_9 sh158 rfl ?_
  refine zj_iconst (pc' := 10) dX1_copyFrom_9 rfl kiconst_0 ?_
  refine zj_bipush (pc' := 12) dX1_copyFrom_10 rfl kbipush_36 ?_
  obtain ⟨r0_0v1, er0_0v1⟩ : ∃ z, z = (va_cpy r1_0 r0_0 0 0 36) := ⟨_, rfl⟩
  have hy := zlet_at er0_0v1 hy
  refine zj_cpI (pc' := 15) (N := (zui M 159 r0_0v1)) dX1_copyFrom_12 rfl mlX1_52 zcpw sh16 sh159 tn0 tn0 tn36 (by decide) (by decide) (Nat.le_of_ble_eq_true rfl) (Nat.le_of_ble_eq_true rfl) e_i16 e_i159 er0_0v1 rfl (Nat.le_of_ble_eq_true rfl) (Nat.le_of_ble_eq_true rfl) ?_
  refine zj_aload_n (pc' := 16) 1 dX1_copyFrom_15 rfl rfl rfl ?_
  refine zj_getR (pc' := 19) (j := 17) dX1_copyFrom_16 rfl flX1_15 sh15 rfl ?_
  refine zj_iconst (pc' := 20) dX1_copyFrom_19 rfl kiconst_0 ?_
  refine zj_aload_n (pc' := 21) 0 dX1_copyFrom_20 rfl rfl rfl ?_
  refine zj_getR (pc' := 24) (j := 160) dX1_copyFrom_21 rfl flX1_15 sh158 rfl ?_
  refine zj_iconst (pc' := 25) dX1_copyFrom_24 rfl kiconst_0 ?_
  refine zj_bipush (pc' := 27) dX1_copyFrom_25 rfl kbipush_6 ?_
  obtain ⟨r0_1v2, er0_1v2⟩ : ∃ z, z = (va_cpy r1_1 r0_1 0 0 6) := ⟨_, rfl⟩
  have hy := zlet_at er0_1v2 hy
  refine zj_cpI (pc' := 30) (N := (zui (zui M 159 r0_0v1) 160 r0_1v2)) dX1_copyFrom_27 rfl mlX1_52 zcpw sh17 sh160 tn0 tn0 tn6 (by decide) (by decide) (Nat.le_of_ble_eq_true rfl) (Nat.le_of_ble_eq_true rfl) (zr_n rfl e_i17) (zr_n rfl e_i160) er0_1v2 rfl (Nat.le_of_ble_eq_true rfl) (Nat.le_of_ble_eq_true rfl) ?_
  refine zj_aload_n (pc' := 31) 1 dX1_copyFrom_30 rfl rfl rfl ?_
  refine zj_getR (pc' := 34) (j := 18) dX1_copyFrom_31 rfl flX1_18 sh15 rfl ?_
  refine zj_iconst (pc' := 35) dX1_copyFrom_34 rfl kiconst_0 ?_
  refine zj_aload_n (pc' := 36) 0 dX1_copyFrom_35 rfl rfl rfl ?_
  refine zj_getR (pc' := 39) (j := 161) dX1_copyFrom_36 rfl flX1_18 sh158 rfl ?_
  refine zj_iconst (pc' := 40) dX1_copyFrom_39 rfl kiconst_0 ?_
  refine zj_bipush (pc' := 42) dX1_copyFrom_40 rfl kbipush_6 ?_
  obtain ⟨r0_2v3, er0_2v3⟩ : ∃ z, z = (va_cpy r1_2 r0_2 0 0 6) := ⟨_, rfl⟩
  have hy := zlet_at er0_2v3 hy
  refine zj_cpI (pc' := 45) (N := (zui (zui (zui M 159 r0_0v1) 160 r0_1v2) 161 r0_2v3)) dX1_copyFrom_42 rfl mlX1_52 zcpw sh18 sh161 tn0 tn0 tn6 (by decide) (by decide) (Nat.le_of_ble_eq_true rfl) (Nat.le_of_ble_eq_true rfl) (zr_n rfl (zr_n rfl e_i18)) (zr_n rfl (zr_n rfl e_i161)) er0_2v3 rfl (Nat.le_of_ble_eq_true rfl) (Nat.le_of_ble_eq_true rfl) ?_
  refine zj_aload_n (pc' := 46) 1 dX1_copyFrom_45 rfl rfl rfl ?_
  refine zj_getR (pc' := 49) (j := 19) dX1_copyFrom_46 rfl flX1_21 sh15 rfl ?_
  refine zj_iconst (pc' := 50) dX1_copyFrom_49 rfl kiconst_0 ?_
  refine zj_aload_n (pc' := 51) 0 dX1_copyFrom_50 rfl rfl rfl ?_
  refine zj_getR (pc' := 54) (j := 162) dX1_copyFrom_51 rfl flX1_21 sh158 rfl ?_
  refine zj_iconst (pc' := 55) dX1_copyFrom_54 rfl kiconst_0 ?_
  refine zj_bipush (pc' := 57) dX1_copyFrom_55 rfl kbipush_6 ?_
  obtain ⟨r0_3v4, er0_3v4⟩ : ∃ z, z = (va_cpy r1_3 r0_3 0 0 6) := ⟨_, rfl⟩
  have hy := zlet_at er0_3v4 hy
  refine zj_cpI (pc' := 60) (N := (zui (zui (zui (zui M 159 r0_0v1) 160 r0_1v2) 161 r0_2v3) 162 r0_3v4)) dX1_copyFrom_57 rfl mlX1_52 zcpw sh19 sh162 tn0 tn0 tn6 (by decide) (by decide) (Nat.le_of_ble_eq_true rfl) (Nat.le_of_ble_eq_true rfl) (zr_n rfl (zr_n rfl (zr_n rfl e_i19))) (zr_n rfl (zr_n rfl (zr_n rfl e_i162))) er0_3v4 rfl (Nat.le_of_ble_eq_true rfl) (Nat.le_of_ble_eq_true rfl) ?_
  refine zj_aload_n (pc' := 61) 1 dX1_copyFrom_60 rfl rfl rfl ?_
  refine zj_getR (pc' := 64) (j := 20) dX1_copyFrom_61 rfl flX1_24 sh15 rfl ?_
  refine zj_iconst (pc' := 65) dX1_copyFrom_64 rfl kiconst_0 ?_
  refine zj_aload_n (pc' := 66) 0 dX1_copyFrom_65 rfl rfl rfl ?_
  refine zj_getR (pc' := 69) (j := 163) dX1_copyFrom_66 rfl flX1_24 sh158 rfl ?_
  refine zj_iconst (pc' := 70) dX1_copyFrom_69 rfl kiconst_0 ?_
  refine zj_bipush (pc' := 72) dX1_copyFrom_70 rfl kbipush_48 ?_
  obtain ⟨r0_4v5, er0_4v5⟩ : ∃ z, z = (va_cpy r1_4 r0_4 0 0 48) := ⟨_, rfl⟩
  have hy := zlet_at er0_4v5 hy
  refine zj_cpI (pc' := 75) (N := (zui (zui (zui (zui (zui M 159 r0_0v1) 160 r0_1v2) 161 r0_2v3) 162 r0_3v4) 163 r0_4v5)) dX1_copyFrom_72 rfl mlX1_52 zcpw sh20 sh163 tn0 tn0 tn48 (by decide) (by decide) (Nat.le_of_ble_eq_true rfl) (Nat.le_of_ble_eq_true rfl) (zr_n rfl (zr_n rfl (zr_n rfl (zr_n rfl e_i20)))) (zr_n rfl (zr_n rfl (zr_n rfl (zr_n rfl e_i163)))) er0_4v5 rfl (Nat.le_of_ble_eq_true rfl) (Nat.le_of_ble_eq_true rfl) ?_
  refine zj_aload_n (pc' := 76) 1 dX1_copyFrom_75 rfl rfl rfl ?_
  refine zj_getR (pc' := 79) (j := 21) dX1_copyFrom_76 rfl flX1_27 sh15 rfl ?_
  refine zj_iconst (pc' := 80) dX1_copyFrom_79 rfl kiconst_0 ?_
  refine zj_aload_n (pc' := 81) 0 dX1_copyFrom_80 rfl rfl rfl ?_
  refine zj_getR (pc' := 84) (j := 164) dX1_copyFrom_81 rfl flX1_27 sh158 rfl ?_
  refine zj_iconst (pc' := 85) dX1_copyFrom_84 rfl kiconst_0 ?_
  refine zj_bipush (pc' := 87) dX1_copyFrom_85 rfl kbipush_6 ?_
  obtain ⟨r0_5v6, er0_5v6⟩ : ∃ z, z = (va_cpy r1_5 r0_5 0 0 6) := ⟨_, rfl⟩
  have hy := zlet_at er0_5v6 hy
  refine zj_cpI (pc' := 90) (N := (zui (zui (zui (zui (zui (zui M 159 r0_0v1) 160 r0_1v2) 161 r0_2v3) 162 r0_3v4) 163 r0_4v5) 164 r0_5v6)) dX1_copyFrom_87 rfl mlX1_52 zcpw sh21 sh164 tn0 tn0 tn6 (by decide) (by decide) (Nat.le_of_ble_eq_true rfl) (Nat.le_of_ble_eq_true rfl) (zr_n rfl (zr_n rfl (zr_n rfl (zr_n rfl (zr_n rfl e_i21))))) (zr_n rfl (zr_n rfl (zr_n rfl (zr_n rfl (zr_n rfl e_i164))))) er0_5v6 rfl (Nat.le_of_ble_eq_true rfl) (Nat.le_of_ble_eq_true rfl) ?_
  refine zj_aload_n (pc' := 91) 1 dX1_copyFrom_90 rfl rfl rfl ?_
  refine zj_getR (pc' := 94) (j := 22) dX1_copyFrom_91 rfl flX1_30 sh15 rfl ?_
  refine zj_iconst (pc' := 95) dX1_copyFrom_94 rfl kiconst_0 ?_
  refine zj_aload_n (pc' := 96) 0 dX1_copyFrom_95 rfl rfl rfl ?_
  refine zj_getR (pc' := 99) (j := 165) dX1_copyFrom_96 rfl flX1_30 sh158 rfl ?_
  refine zj_iconst (pc' := 100) dX1_copyFrom_99 rfl kiconst_0 ?_
  refine zj_bipush (pc' := 102) dX1_copyFrom_100 rfl kbipush_8 ?_
  obtain ⟨r0_6v7, er0_6v7⟩ : ∃ z, z = (va_cpy r1_6 r0_6 0 0 8) := ⟨_, rfl⟩
  have hy := zlet_at er0_6v7 hy
  refine zj_cpI (pc' := 105) (N := (zui (zui (zui (zui (zui (zui (zui M 159 r0_0v1) 160 r0_1v2) 161 r0_2v3) 162 r0_3v4) 163 r0_4v5) 164 r0_5v6) 165 r0_6v7)) dX1_copyFrom_102 rfl mlX1_52 zcpw sh22 sh165 tn0 tn0 tn8 (by decide) (by decide) (Nat.le_of_ble_eq_true rfl) (Nat.le_of_ble_eq_true rfl) (zr_n rfl (zr_n rfl (zr_n rfl (zr_n rfl (zr_n rfl (zr_n rfl e_i22)))))) (zr_n rfl (zr_n rfl (zr_n rfl (zr_n rfl (zr_n rfl (zr_n rfl e_i165)))))) er0_6v7 rfl (Nat.le_of_ble_eq_true rfl) (Nat.le_of_ble_eq_true rfl) ?_
  refine zj_aload_n (pc' := 106) 1 dX1_copyFrom_105 rfl rfl rfl ?_
  refine zj_getR (pc' := 109) (j := 23) dX1_copyFrom_106 rfl flX1_33 sh15 rfl ?_
  refine zj_iconst (pc' := 110) dX1_copyFrom_109 rfl kiconst_0 ?_
  refine zj_aload_n (pc' := 111) 0 dX1_copyFrom_110 rfl rfl rfl ?_
  refine zj_getR (pc' := 114) (j := 166) dX1_copyFrom_111 rfl flX1_33 sh158 rfl ?_
  refine zj_iconst (pc' := 115) dX1_copyFrom_114 rfl kiconst_0 ?_
  refine zj_bipush (pc' := 117) dX1_copyFrom_115 rfl kbipush_8 ?_
  obtain ⟨r0_7v8, er0_7v8⟩ : ∃ z, z = (va_cpy r1_7 r0_7 0 0 8) := ⟨_, rfl⟩
  have hy := zlet_at er0_7v8 hy
  refine zj_cpI (pc' := 120) (N := (zui (zui (zui (zui (zui (zui (zui (zui M 159 r0_0v1) 160 r0_1v2) 161 r0_2v3) 162 r0_3v4) 163 r0_4v5) 164 r0_5v6) 165 r0_6v7) 166 r0_7v8)) dX1_copyFrom_117 rfl mlX1_52 zcpw sh23 sh166 tn0 tn0 tn8 (by decide) (by decide) (Nat.le_of_ble_eq_true rfl) (Nat.le_of_ble_eq_true rfl) (zr_n rfl (zr_n rfl (zr_n rfl (zr_n rfl (zr_n rfl (zr_n rfl (zr_n rfl e_i23))))))) (zr_n rfl (zr_n rfl (zr_n rfl (zr_n rfl (zr_n rfl (zr_n rfl (zr_n rfl e_i166))))))) er0_7v8 rfl (Nat.le_of_ble_eq_true rfl) (Nat.le_of_ble_eq_true rfl) ?_
  refine zj_aload_n (pc' := 121) 0 dX1_copyFrom_120 rfl rfl rfl ?_
  refine zj_aload_n (pc' := 122) 1 dX1_copyFrom_121 rfl rfl rfl ?_
  refine zj_fI (pc' := 125) dX1_copyFrom_122 rfl flX1_45 sh15 rfl (zr_n rfl (zr_n rfl (zr_n rfl (zr_n rfl (zr_n rfl (zr_n rfl (zr_n rfl (zr_n rfl e_i15)))))))) rfl ?_
  obtain ⟨r0v9, er0v9⟩ : ∃ z, z = (zup r0 9 (r1 9)) := ⟨_, rfl⟩
  have hy := zlet_at er0v9 hy
  refine zj_pI (pc' := 128) (N := (zui (zui (zui (zui (zui (zui (zui (zui (zui M 158 r0v9) 159 r0_0v1) 160 r0_1v2) 161 r0_2v3) 162 r0_3v4) 163 r0_4v5) 164 r0_5v6) 165 r0_6v7) 166 r0_7v8)) dX1_copyFrom_125 rfl fpX1_45 sh158 rfl (zr_n rfl (zr_n rfl (zr_n rfl (zr_n rfl (zr_n rfl (zr_n rfl (zr_n rfl (zr_n rfl e_i158)))))))) er0v9 (zm_n rfl (zm_n rfl (zm_n rfl (zm_n rfl (zm_n rfl (zm_n rfl (zm_n rfl (zm_n rfl rfl)))))))) ?_
  refine zj_aload_n (pc' := 129) 0 dX1_copyFrom_128 rfl rfl rfl ?_
  refine zj_aload_n (pc' := 130) 1 dX1_copyFrom_129 rfl rfl rfl ?_
  refine zj_fI (pc' := 133) dX1_copyFrom_130 rfl flX1_49 sh15 rfl (zr_n rfl (zr_n rfl (zr_n rfl (zr_n rfl (zr_n rfl (zr_n rfl (zr_n rfl (zr_n rfl (zr_n rfl e_i15))))))))) rfl ?_
  obtain ⟨r0v10, er0v10⟩ : ∃ z, z = (zup r0v9 10 (r1 10)) := ⟨_, rfl⟩
  have hy := zlet_at er0v10 hy
  refine zj_pI (pc' := 136) (N := (zui (zui (zui (zui (zui (zui (zui (zui (zui M 158 r0v10) 159 r0_0v1) 160 r0_1v2) 161 r0_2v3) 162 r0_3v4) 163 r0_4v5) 164 r0_5v6) 165 r0_6v7) 166 r0_7v8)) dX1_copyFrom_133 rfl fpX1_49 sh158 rfl (zr_n rfl (zr_n rfl (zr_n rfl (zr_n rfl (zr_n rfl (zr_n rfl (zr_n rfl (zr_n rfl zr_s)))))))) er0v10 (zm_n rfl (zm_n rfl (zm_n rfl (zm_n rfl (zm_n rfl (zm_n rfl (zm_n rfl (zm_n rfl zm_s)))))))) ?_
  have e9 := Option.some.inj hy
  subst e9
  exact zj_vret dX1_copyFrom_136 rfl hq
set_option maxRecDepth 20000 in
theorem LX1_copyFrom_158_15 (Γ : zG) (M : zM) (r0 : Nat → Int32) (r0_0 : Nat → Int32) (r0_1 : Nat → Int32) (r0_2 : Nat → Int32) (r0_3 : Nat → Int32) (r0_4 : Nat → Int32) (r0_5 : Nat → Int32) (r0_6 : Nat → Int32) (r0_7 : Nat → Int32) (r1 : Nat → Int32) (r1_0 : Nat → Int32) (r1_1 : Nat → Int32) (r1_2 : Nat → Int32) (r1_3 : Nat → Int32) (r1_4 : Nat → Int32) (r1_5 : Nat → Int32) (r1_6 : Nat → Int32) (r1_7 : Nat → Int32) (e_i158 : M.1 158 = r0) (e_i159 : M.1 159 = r0_0) (e_i160 : M.1 160 = r0_1) (e_i161 : M.1 161 = r0_2) (e_i162 : M.1 162 = r0_3) (e_i163 : M.1 163 = r0_4) (e_i164 : M.1 164 = r0_5) (e_i165 : M.1 165 = r0_6) (e_i166 : M.1 166 = r0_7) (e_i15 : M.1 15 = r1) (e_i16 : M.1 16 = r1_0) (e_i17 : M.1 17 = r1_1) (e_i18 : M.1 18 = r1_2) (e_i19 : M.1 19 = r1_3) (e_i20 : M.1 20 = r1_4) (e_i21 : M.1 21 = r1_5) (e_i22 : M.1 22 = r1_6) (e_i23 : M.1 23 = r1_7)  {res : (Nat → Int32) × (Nat → Int32) × (Nat → Int32) × (Nat → Int32) × (Nat → Int32) × (Nat → Int32) × (Nat → Int32) × (Nat → Int32) × (Nat → Int32)} (hy : (fDy_copyFrom r0 r0_0 r0_1 r0_2 r0_3 r0_4 r0_5 r0_6 r0_7 r1 r1_0 r1_1 r1_2 r1_3 r1_4 r1_5 r1_6 r1_7) = some res) : zK Γ 2 YX1_copyFrom [.ref (zad Γ 158), .ref (zad Γ 15)] M (fun v N => v = none ∧ N = (zui (zui (zui (zui (zui (zui (zui (zui (zui M 158 res.1) 159 res.2.1) 160 res.2.2.1) 161 res.2.2.2.1) 162 res.2.2.2.2.1) 163 res.2.2.2.2.2.1) 164 res.2.2.2.2.2.2.1) 165 res.2.2.2.2.2.2.2.1) 166 res.2.2.2.2.2.2.2.2)) :=
  zK_of (by decide) (Nat.le_of_ble_eq_true rfl) (TX1_copyFrom_158_15 Γ M r0 r0_0 r0_1 r0_2 r0_3 r0_4 r0_5 r0_6 r0_7 r1 r1_0 r1_1 r1_2 r1_3 r1_4 r1_5 r1_6 r1_7 e_i158 e_i159 e_i160 e_i161 e_i162 e_i163 e_i164 e_i165 e_i166 e_i15 e_i16 e_i17 e_i18 e_i19 e_i20 e_i21 e_i22 e_i23 hy ⟨rfl, rfl⟩)


set_option maxRecDepth 20000 in
theorem TX9_copyFrom_168_35 (Γ : zG) {Q : Option Value → zM → Prop} (M : zM) (r0 : Nat → Int32) (r0_0 : Nat → Int32) (r0_1 : Nat → Int32) (r0_2 : Nat → Int32) (r1 : Nat → Int32) (r1_0 : Nat → Int32) (r1_1 : Nat → Int32) (r1_2 : Nat → Int32) (e_i168 : M.1 168 = r0) (e_i169 : M.1 169 = r0_0) (e_i170 : M.1 170 = r0_1) (e_i171 : M.1 171 = r0_2) (e_i35 : M.1 35 = r1) (e_i36 : M.1 36 = r1_0) (e_i37 : M.1 37 = r1_1) (e_i38 : M.1 38 = r1_2)  {res : (Nat → Int32) × (Nat → Int32) × (Nat → Int32) × (Nat → Int32)} (hy : (fSn_copyFrom r0 r0_0 r0_1 r0_2 r1 r1_0 r1_1 r1_2) = some res) (hq : Q none (zui (zui (zui (zui M 168 res.1) 169 res.2.1) 170 res.2.2.1) 171 res.2.2.2)) : zR Γ 2 YX9_copyFrom 0 [(0, .ref (zad Γ 168)), (1, .ref (zad Γ 35))] [] M Q := by
  unfold fSn_copyFrom at hy
  refine zj_aload_n (pc' := 1) 1 dX9_copyFrom_0 rfl rfl rfl ?_
  refine zj_getR (pc' := 4) (j := 36) dX9_copyFrom_1 rfl flX9_11 sh35 rfl ?_
  refine zj_iconst (pc' := 5) dX9_copyFrom_4 rfl kiconst_0 ?_
  refine zj_aload_n (pc' := 6) 0 dX9_copyFrom_5 rfl rfl rfl ?_
  refine zj_getR (pc' := 9) (j := 169) dX9_copyFrom_6 rfl flX9_11 sh168 rfl ?_
  refine zj_iconst (pc' := 10) dX9_copyFrom_9 rfl kiconst_0 ?_
  refine zj_bipush (pc' := 12) dX9_copyFrom_10 rfl kbipush_40 ?_
  obtain ⟨r0_0v1, er0_0v1⟩ : ∃ z, z = (va_cpy r1_0 r0_0 0 0 40) := ⟨_, rfl⟩
  have hy := zlet_at er0_0v1 hy
  refine zj_cpI (pc' := 15) (N := (zui M 169 r0_0v1)) dX9_copyFrom_12 rfl mlX9_44 zcpw sh36 sh169 tn0 tn0 tn40 (by decide) (by decide) (Nat.le_of_ble_eq_true rfl) (Nat.le_of_ble_eq_true rfl) e_i36 e_i169 er0_0v1 rfl (Nat.le_of_ble_eq_true rfl) (Nat.le_of_ble_eq_true rfl) ?_
  refine zj_aload_n (pc' := 16) 1 dX9_copyFrom_15 rfl rfl rfl ?_
  refine zj_getR (pc' := 19) (j := 37) dX9_copyFrom_16 rfl flX9_15 sh35 rfl ?_
  refine zj_iconst (pc' := 20) dX9_copyFrom_19 rfl kiconst_0 ?_
  refine zj_aload_n (pc' := 21) 0 dX9_copyFrom_20 rfl rfl rfl ?_
  refine zj_getR (pc' := 24) (j := 170) dX9_copyFrom_21 rfl flX9_15 sh168 rfl ?_
  refine zj_iconst (pc' := 25) dX9_copyFrom_24 rfl kiconst_0 ?_
  refine zj_bipush (pc' := 27) dX9_copyFrom_25 rfl kbipush_40 ?_
  obtain ⟨r0_1v2, er0_1v2⟩ : ∃ z, z = (va_cpy r1_1 r0_1 0 0 40) := ⟨_, rfl⟩
  have hy := zlet_at er0_1v2 hy
  refine zj_cpI (pc' := 30) (N := (zui (zui M 169 r0_0v1) 170 r0_1v2)) dX9_copyFrom_27 rfl mlX9_44 zcpw sh37 sh170 tn0 tn0 tn40 (by decide) (by decide) (Nat.le_of_ble_eq_true rfl) (Nat.le_of_ble_eq_true rfl) (zr_n rfl e_i37) (zr_n rfl e_i170) er0_1v2 rfl (Nat.le_of_ble_eq_true rfl) (Nat.le_of_ble_eq_true rfl) ?_
  refine zj_aload_n (pc' := 31) 1 dX9_copyFrom_30 rfl rfl rfl ?_
  refine zj_getR (pc' := 34) (j := 38) dX9_copyFrom_31 rfl flX9_18 sh35 rfl ?_
  refine zj_iconst (pc' := 35) dX9_copyFrom_34 rfl kiconst_0 ?_
  refine zj_aload_n (pc' := 36) 0 dX9_copyFrom_35 rfl rfl rfl ?_
  refine zj_getR (pc' := 39) (j := 171) dX9_copyFrom_36 rfl flX9_18 sh168 rfl ?_
  refine zj_iconst (pc' := 40) dX9_copyFrom_39 rfl kiconst_0 ?_
  refine zj_bipush (pc' := 42) dX9_copyFrom_40 rfl kbipush_40 ?_
  obtain ⟨r0_2v3, er0_2v3⟩ : ∃ z, z = (va_cpy r1_2 r0_2 0 0 40) := ⟨_, rfl⟩
  have hy := zlet_at er0_2v3 hy
  refine zj_cpI (pc' := 45) (N := (zui (zui (zui M 169 r0_0v1) 170 r0_1v2) 171 r0_2v3)) dX9_copyFrom_42 rfl mlX9_44 zcpw sh38 sh171 tn0 tn0 tn40 (by decide) (by decide) (Nat.le_of_ble_eq_true rfl) (Nat.le_of_ble_eq_true rfl) (zr_n rfl (zr_n rfl e_i38)) (zr_n rfl (zr_n rfl e_i171)) er0_2v3 rfl (Nat.le_of_ble_eq_true rfl) (Nat.le_of_ble_eq_true rfl) ?_
  refine zj_aload_n (pc' := 46) 0 dX9_copyFrom_45 rfl rfl rfl ?_
  refine zj_aload_n (pc' := 47) 1 dX9_copyFrom_46 rfl rfl rfl ?_
  refine zj_fI (pc' := 50) dX9_copyFrom_47 rfl flX9_35 sh35 rfl (zr_n rfl (zr_n rfl (zr_n rfl e_i35))) rfl ?_
  obtain ⟨r0v4, er0v4⟩ : ∃ z, z = (zup r0 5 (r1 5)) := ⟨_, rfl⟩
  have hy := zlet_at er0v4 hy
  refine zj_pI (pc' := 53) (N := (zui (zui (zui (zui M 168 r0v4) 169 r0_0v1) 170 r0_1v2) 171 r0_2v3)) dX9_copyFrom_50 rfl fpX9_35 sh168 rfl (zr_n rfl (zr_n rfl (zr_n rfl e_i168))) er0v4 (zm_n rfl (zm_n rfl (zm_n rfl rfl))) ?_
  refine zj_aload_n (pc' := 54) 0 dX9_copyFrom_53 rfl rfl rfl ?_
  refine zj_aload_n (pc' := 55) 1 dX9_copyFrom_54 rfl rfl rfl ?_
  refine zj_fI (pc' := 58) dX9_copyFrom_55 rfl flX9_31 sh35 rfl (zr_n rfl (zr_n rfl (zr_n rfl (zr_n rfl e_i35)))) rfl ?_
  obtain ⟨r0v5, er0v5⟩ : ∃ z, z = (zup r0v4 8 (r1 8)) := ⟨_, rfl⟩
  have hy := zlet_at er0v5 hy
  refine zj_pI (pc' := 61) (N := (zui (zui (zui (zui M 168 r0v5) 169 r0_0v1) 170 r0_1v2) 171 r0_2v3)) dX9_copyFrom_58 rfl fpX9_31 sh168 rfl (zr_n rfl (zr_n rfl (zr_n rfl zr_s))) er0v5 (zm_n rfl (zm_n rfl (zm_n rfl zm_s))) ?_
  refine zj_aload_n (pc' := 62) 0 dX9_copyFrom_61 rfl rfl rfl ?_
  refine zj_aload_n (pc' := 63) 1 dX9_copyFrom_62 rfl rfl rfl ?_
  refine zj_fI (pc' := 66) dX9_copyFrom_63 rfl flX9_27 sh35 rfl (zr_n rfl (zr_n rfl (zr_n rfl (zr_n rfl e_i35)))) rfl ?_
  obtain ⟨c7, hy⟩ := zck hy
  obtain ⟨r0v6, er0v6⟩ : ∃ z, z = (zup r0v5 10 (r1 10)) := ⟨_, rfl⟩
  have hy := zlet_at er0v6 hy
  refine zj_pZ (pc' := 69) (N := (zui (zui (zui (zui M 168 r0v6) 169 r0_0v1) 170 r0_1v2) 171 r0_2v3)) dX9_copyFrom_66 rfl fpX9_27 sh168 rfl c7 (zr_n rfl (zr_n rfl (zr_n rfl zr_s))) er0v6 (zm_n rfl (zm_n rfl (zm_n rfl zm_s))) ?_
  have e9 := Option.some.inj hy
  subst e9
  exact zj_vret dX9_copyFrom_69 rfl hq
set_option maxRecDepth 20000 in
theorem LX9_copyFrom_168_35 (Γ : zG) (M : zM) (r0 : Nat → Int32) (r0_0 : Nat → Int32) (r0_1 : Nat → Int32) (r0_2 : Nat → Int32) (r1 : Nat → Int32) (r1_0 : Nat → Int32) (r1_1 : Nat → Int32) (r1_2 : Nat → Int32) (e_i168 : M.1 168 = r0) (e_i169 : M.1 169 = r0_0) (e_i170 : M.1 170 = r0_1) (e_i171 : M.1 171 = r0_2) (e_i35 : M.1 35 = r1) (e_i36 : M.1 36 = r1_0) (e_i37 : M.1 37 = r1_1) (e_i38 : M.1 38 = r1_2)  {res : (Nat → Int32) × (Nat → Int32) × (Nat → Int32) × (Nat → Int32)} (hy : (fSn_copyFrom r0 r0_0 r0_1 r0_2 r1 r1_0 r1_1 r1_2) = some res) : zK Γ 2 YX9_copyFrom [.ref (zad Γ 168), .ref (zad Γ 35)] M (fun v N => v = none ∧ N = (zui (zui (zui (zui M 168 res.1) 169 res.2.1) 170 res.2.2.1) 171 res.2.2.2)) :=
  zK_of (by decide) (Nat.le_of_ble_eq_true rfl) (TX9_copyFrom_168_35 Γ M r0 r0_0 r0_1 r0_2 r1 r1_0 r1_1 r1_2 e_i168 e_i169 e_i170 e_i171 e_i35 e_i36 e_i37 e_i38 hy ⟨rfl, rfl⟩)

noncomputable def fKp_keep (r0 : Nat → Int32) (r0_0 : Nat → Int32) (w0_0_0 : Nat → Int64) (w0_0_1 : Nat → Int64) (r0_0_2 : Nat → Int32) (r0_0_3 : Nat → Int32) (r0_1 : Nat → Int32) (r0_1_0 : Nat → Int32) (r0_1_1 : Nat → Int32) (r0_1_2 : Nat → Int32) (r0_1_3 : Nat → Int32) (r0_1_4 : Nat → Int32) (r0_1_5 : Nat → Int32) (r0_1_6 : Nat → Int32) (r0_1_7 : Nat → Int32) (r0_2 : Nat → Int32) (r0_2_0 : Nat → Int32) (r0_2_1 : Nat → Int32) (r0_2_2 : Nat → Int32) (r1 : Nat → Int32) (w1_0 : Nat → Int64) (w1_1 : Nat → Int64) (r1_2 : Nat → Int32) (r1_3 : Nat → Int32) (r2 : Nat → Int32) (r2_0 : Nat → Int32) (r2_1 : Nat → Int32) (r2_2 : Nat → Int32) (r2_3 : Nat → Int32) (r2_4 : Nat → Int32) (r2_5 : Nat → Int32) (r2_6 : Nat → Int32) (r2_7 : Nat → Int32) (r3 : Nat → Int32) (r3_0 : Nat → Int32) (r3_1 : Nat → Int32) (r3_2 : Nat → Int32) : Option ((Nat → Int32) × (Nat → Int32) × (Nat → Int64) × (Nat → Int64) × (Nat → Int32) × (Nat → Int32) × (Nat → Int32) × (Nat → Int32) × (Nat → Int32) × (Nat → Int32) × (Nat → Int32) × (Nat → Int32) × (Nat → Int32) × (Nat → Int32) × (Nat → Int32) × (Nat → Int32) × (Nat → Int32) × (Nat → Int32) × (Nat → Int32)) :=
  (fPl_copyFrom r0_0 w0_0_0 w0_0_1 r0_0_2 r0_0_3 r1 w1_0 w1_1 r1_2 r1_3).bind (fun (y1 : (Nat → Int32) × (Nat → Int64) × (Nat → Int64) × (Nat → Int32) × (Nat → Int32)) =>
  (fDy_copyFrom r0_1 r0_1_0 r0_1_1 r0_1_2 r0_1_3 r0_1_4 r0_1_5 r0_1_6 r0_1_7 r2 r2_0 r2_1 r2_2 r2_3 r2_4 r2_5 r2_6 r2_7).bind (fun (y2 : (Nat → Int32) × (Nat → Int32) × (Nat → Int32) × (Nat → Int32) × (Nat → Int32) × (Nat → Int32) × (Nat → Int32) × (Nat → Int32) × (Nat → Int32)) =>
  (fSn_copyFrom r0_2 r0_2_0 r0_2_1 r0_2_2 r3 r3_0 r3_1 r3_2).bind (fun (y3 : (Nat → Int32) × (Nat → Int32) × (Nat → Int32) × (Nat → Int32)) =>
  zlet (zup r0 3 1) (fun (r0v4 : Nat → Int32) =>
  some (r0v4, y1.1, y1.2.1, y1.2.2.1, y1.2.2.2.1, y1.2.2.2.2, y2.1, y2.2.1, y2.2.2.1, y2.2.2.2.1, y2.2.2.2.2.1, y2.2.2.2.2.2.1, y2.2.2.2.2.2.2.1, y2.2.2.2.2.2.2.2.1, y2.2.2.2.2.2.2.2.2, y3.1, y3.2.1, y3.2.2.1, y3.2.2.2)))))

set_option maxRecDepth 20000 in
theorem TX4_keep_152_5_15_35 (Γ : zG) {Q : Option Value → zM → Prop} (M : zM) (r0 : Nat → Int32) (r0_0 : Nat → Int32) (w0_0_0 : Nat → Int64) (w0_0_1 : Nat → Int64) (r0_0_2 : Nat → Int32) (r0_0_3 : Nat → Int32) (r0_1 : Nat → Int32) (r0_1_0 : Nat → Int32) (r0_1_1 : Nat → Int32) (r0_1_2 : Nat → Int32) (r0_1_3 : Nat → Int32) (r0_1_4 : Nat → Int32) (r0_1_5 : Nat → Int32) (r0_1_6 : Nat → Int32) (r0_1_7 : Nat → Int32) (r0_2 : Nat → Int32) (r0_2_0 : Nat → Int32) (r0_2_1 : Nat → Int32) (r0_2_2 : Nat → Int32) (r1 : Nat → Int32) (w1_0 : Nat → Int64) (w1_1 : Nat → Int64) (r1_2 : Nat → Int32) (r1_3 : Nat → Int32) (r2 : Nat → Int32) (r2_0 : Nat → Int32) (r2_1 : Nat → Int32) (r2_2 : Nat → Int32) (r2_3 : Nat → Int32) (r2_4 : Nat → Int32) (r2_5 : Nat → Int32) (r2_6 : Nat → Int32) (r2_7 : Nat → Int32) (r3 : Nat → Int32) (r3_0 : Nat → Int32) (r3_1 : Nat → Int32) (r3_2 : Nat → Int32) (e_i152 : M.1 152 = r0) (e_i153 : M.1 153 = r0_0) (e_l154 : M.2 154 = w0_0_0) (e_l155 : M.2 155 = w0_0_1) (e_i156 : M.1 156 = r0_0_2) (e_i157 : M.1 157 = r0_0_3) (e_i158 : M.1 158 = r0_1) (e_i159 : M.1 159 = r0_1_0) (e_i160 : M.1 160 = r0_1_1) (e_i161 : M.1 161 = r0_1_2) (e_i162 : M.1 162 = r0_1_3) (e_i163 : M.1 163 = r0_1_4) (e_i164 : M.1 164 = r0_1_5) (e_i165 : M.1 165 = r0_1_6) (e_i166 : M.1 166 = r0_1_7) (e_i168 : M.1 168 = r0_2) (e_i169 : M.1 169 = r0_2_0) (e_i170 : M.1 170 = r0_2_1) (e_i171 : M.1 171 = r0_2_2) (e_i5 : M.1 5 = r1) (e_l6 : M.2 6 = w1_0) (e_l7 : M.2 7 = w1_1) (e_i8 : M.1 8 = r1_2) (e_i9 : M.1 9 = r1_3) (e_i15 : M.1 15 = r2) (e_i16 : M.1 16 = r2_0) (e_i17 : M.1 17 = r2_1) (e_i18 : M.1 18 = r2_2) (e_i19 : M.1 19 = r2_3) (e_i20 : M.1 20 = r2_4) (e_i21 : M.1 21 = r2_5) (e_i22 : M.1 22 = r2_6) (e_i23 : M.1 23 = r2_7) (e_i35 : M.1 35 = r3) (e_i36 : M.1 36 = r3_0) (e_i37 : M.1 37 = r3_1) (e_i38 : M.1 38 = r3_2)  {res : (Nat → Int32) × (Nat → Int32) × (Nat → Int64) × (Nat → Int64) × (Nat → Int32) × (Nat → Int32) × (Nat → Int32) × (Nat → Int32) × (Nat → Int32) × (Nat → Int32) × (Nat → Int32) × (Nat → Int32) × (Nat → Int32) × (Nat → Int32) × (Nat → Int32) × (Nat → Int32) × (Nat → Int32) × (Nat → Int32) × (Nat → Int32)} (hy : (fKp_keep r0 r0_0 w0_0_0 w0_0_1 r0_0_2 r0_0_3 r0_1 r0_1_0 r0_1_1 r0_1_2 r0_1_3 r0_1_4 r0_1_5 r0_1_6 r0_1_7 r0_2 r0_2_0 r0_2_1 r0_2_2 r1 w1_0 w1_1 r1_2 r1_3 r2 r2_0 r2_1 r2_2 r2_3 r2_4 r2_5 r2_6 r2_7 r3 r3_0 r3_1 r3_2) = some res) (hq : Q none (zui (zui (zui (zui (zui (zui (zui (zui (zui (zui (zui (zui (zui (zui (zui (zui (zui (zul (zul M 154 res.2.2.1) 155 res.2.2.2.1) 152 res.1) 153 res.2.1) 156 res.2.2.2.2.1) 157 res.2.2.2.2.2.1) 158 res.2.2.2.2.2.2.1) 159 res.2.2.2.2.2.2.2.1) 160 res.2.2.2.2.2.2.2.2.1) 161 res.2.2.2.2.2.2.2.2.2.1) 162 res.2.2.2.2.2.2.2.2.2.2.1) 163 res.2.2.2.2.2.2.2.2.2.2.2.1) 164 res.2.2.2.2.2.2.2.2.2.2.2.2.1) 165 res.2.2.2.2.2.2.2.2.2.2.2.2.2.1) 166 res.2.2.2.2.2.2.2.2.2.2.2.2.2.2.1) 168 res.2.2.2.2.2.2.2.2.2.2.2.2.2.2.2.1) 169 res.2.2.2.2.2.2.2.2.2.2.2.2.2.2.2.2.1) 170 res.2.2.2.2.2.2.2.2.2.2.2.2.2.2.2.2.2.1) 171 res.2.2.2.2.2.2.2.2.2.2.2.2.2.2.2.2.2.2)) : zR Γ 3 YX4_keep 0 [(0, .ref (zad Γ 152)), (1, .ref (zad Γ 5)), (2, .ref (zad Γ 15)), (3, .ref (zad Γ 35))] [] M Q := by
  unfold fKp_keep at hy
  refine zj_aload_n (pc' := 1) 0 dX4_keep_0 rfl rfl rfl ?_
  refine zj_getR (pc' := 4) (j := 153) dX4_keep_1 rfl flX4_10 sh152 rfl ?_
  refine zj_aload_n (pc' := 5) 1 dX4_keep_4 rfl rfl rfl ?_
  obtain ⟨y1, hy1, hy⟩ := zt_b hy
  refine zj_V0 (pc' := 8) (z := YX7_copyFrom) (As := [.ref (zad Γ 5)]) (N := (zui (zui (zui (zul (zul M 154 y1.2.1) 155 y1.2.2.1) 153 y1.1) 156 y1.2.2.2.1) 157 y1.2.2.2.2)) dX4_keep_5 rfl mlX4_34 lkX7_copyFrom sh153 ⟨_, _, rfl⟩ rfl rfl (Nat.le_of_ble_eq_true rfl) (Nat.le_of_ble_eq_true rfl) (LX7_copyFrom_153_5 Γ _ r0_0 w0_0_0 w0_0_1 r0_0_2 r0_0_3 r1 w1_0 w1_1 r1_2 r1_3 e_i153 e_l154 e_l155 e_i156 e_i157 e_i5 e_l6 e_l7 e_i8 e_i9 hy1) ((zch_i (zch_i (zch_i (zch_l rfl rfl) rfl) rfl) rfl)).symm ?_
  refine zj_aload_n (pc' := 9) 0 dX4_keep_8 rfl rfl rfl ?_
  refine zj_getR (pc' := 12) (j := 158) dX4_keep_9 rfl flX4_19 sh152 rfl ?_
  refine zj_aload_n (pc' := 13) 2 dX4_keep_12 rfl rfl rfl ?_
  obtain ⟨y2, hy2, hy⟩ := zt_b hy
  refine zj_V0 (pc' := 16) (z := YX1_copyFrom) (As := [.ref (zad Γ 15)]) (N := (zui (zui (zui (zui (zui (zui (zui (zui (zui (zui (zui (zui (zul (zul M 154 y1.2.1) 155 y1.2.2.1) 153 y1.1) 156 y1.2.2.2.1) 157 y1.2.2.2.2) 158 y2.1) 159 y2.2.1) 160 y2.2.2.1) 161 y2.2.2.2.1) 162 y2.2.2.2.2.1) 163 y2.2.2.2.2.2.1) 164 y2.2.2.2.2.2.2.1) 165 y2.2.2.2.2.2.2.2.1) 166 y2.2.2.2.2.2.2.2.2)) dX4_keep_13 rfl mlX4_38 lkX1_copyFrom sh158 ⟨_, _, rfl⟩ rfl rfl (Nat.le_of_ble_eq_true rfl) (Nat.le_of_ble_eq_true rfl) (LX1_copyFrom_158_15 Γ _ r0_1 r0_1_0 r0_1_1 r0_1_2 r0_1_3 r0_1_4 r0_1_5 r0_1_6 r0_1_7 r2 r2_0 r2_1 r2_2 r2_3 r2_4 r2_5 r2_6 r2_7 (zr_n rfl (zr_n rfl (zr_n rfl (zr_l (zr_l e_i158))))) (zr_n rfl (zr_n rfl (zr_n rfl (zr_l (zr_l e_i159))))) (zr_n rfl (zr_n rfl (zr_n rfl (zr_l (zr_l e_i160))))) (zr_n rfl (zr_n rfl (zr_n rfl (zr_l (zr_l e_i161))))) (zr_n rfl (zr_n rfl (zr_n rfl (zr_l (zr_l e_i162))))) (zr_n rfl (zr_n rfl (zr_n rfl (zr_l (zr_l e_i163))))) (zr_n rfl (zr_n rfl (zr_n rfl (zr_l (zr_l e_i164))))) (zr_n rfl (zr_n rfl (zr_n rfl (zr_l (zr_l e_i165))))) (zr_n rfl (zr_n rfl (zr_n rfl (zr_l (zr_l e_i166))))) (zr_n rfl (zr_n rfl (zr_n rfl (zr_l (zr_l e_i15))))) (zr_n rfl (zr_n rfl (zr_n rfl (zr_l (zr_l e_i16))))) (zr_n rfl (zr_n rfl (zr_n rfl (zr_l (zr_l e_i17))))) (zr_n rfl (zr_n rfl (zr_n rfl (zr_l (zr_l e_i18))))) (zr_n rfl (zr_n rfl (zr_n rfl (zr_l (zr_l e_i19))))) (zr_n rfl (zr_n rfl (zr_n rfl (zr_l (zr_l e_i20))))) (zr_n rfl (zr_n rfl (zr_n rfl (zr_l (zr_l e_i21))))) (zr_n rfl (zr_n rfl (zr_n rfl (zr_l (zr_l e_i22))))) (zr_n rfl (zr_n rfl (zr_n rfl (zr_l (zr_l e_i23))))) hy2) ((zch_i (zch_i (zch_i (zch_i (zch_i (zch_i (zch_i (zch_i rfl rfl) rfl) rfl) rfl) rfl) rfl) rfl) rfl)).symm ?_
  refine zj_aload_n (pc' := 17) 0 dX4_keep_16 rfl rfl rfl ?_
  refine zj_getR (pc' := 20) (j := 168) dX4_keep_17 rfl flX4_26 sh152 rfl ?_
  refine zj_aload_n (pc' := 21) 3 dX4_keep_20 rfl rfl rfl ?_
  obtain ⟨y3, hy3, hy⟩ := zt_b hy
  refine zj_V0 (pc' := 24) (z := YX9_copyFrom) (As := [.ref (zad Γ 35)]) (N := (zui (zui (zui (zui (zui (zui (zui (zui (zui (zui (zui (zui (zui (zui (zui (zui (zul (zul M 154 y1.2.1) 155 y1.2.2.1) 153 y1.1) 156 y1.2.2.2.1) 157 y1.2.2.2.2) 158 y2.1) 159 y2.2.1) 160 y2.2.2.1) 161 y2.2.2.2.1) 162 y2.2.2.2.2.1) 163 y2.2.2.2.2.2.1) 164 y2.2.2.2.2.2.2.1) 165 y2.2.2.2.2.2.2.2.1) 166 y2.2.2.2.2.2.2.2.2) 168 y3.1) 169 y3.2.1) 170 y3.2.2.1) 171 y3.2.2.2)) dX4_keep_21 rfl mlX4_41 lkX9_copyFrom sh168 ⟨_, _, rfl⟩ rfl rfl (Nat.le_of_ble_eq_true rfl) (Nat.le_of_ble_eq_true rfl) (LX9_copyFrom_168_35 Γ _ r0_2 r0_2_0 r0_2_1 r0_2_2 r3 r3_0 r3_1 r3_2 (zr_n rfl (zr_n rfl (zr_n rfl (zr_n rfl (zr_n rfl (zr_n rfl (zr_n rfl (zr_n rfl (zr_n rfl (zr_n rfl (zr_n rfl (zr_n rfl (zr_l (zr_l e_i168)))))))))))))) (zr_n rfl (zr_n rfl (zr_n rfl (zr_n rfl (zr_n rfl (zr_n rfl (zr_n rfl (zr_n rfl (zr_n rfl (zr_n rfl (zr_n rfl (zr_n rfl (zr_l (zr_l e_i169)))))))))))))) (zr_n rfl (zr_n rfl (zr_n rfl (zr_n rfl (zr_n rfl (zr_n rfl (zr_n rfl (zr_n rfl (zr_n rfl (zr_n rfl (zr_n rfl (zr_n rfl (zr_l (zr_l e_i170)))))))))))))) (zr_n rfl (zr_n rfl (zr_n rfl (zr_n rfl (zr_n rfl (zr_n rfl (zr_n rfl (zr_n rfl (zr_n rfl (zr_n rfl (zr_n rfl (zr_n rfl (zr_l (zr_l e_i171)))))))))))))) (zr_n rfl (zr_n rfl (zr_n rfl (zr_n rfl (zr_n rfl (zr_n rfl (zr_n rfl (zr_n rfl (zr_n rfl (zr_n rfl (zr_n rfl (zr_n rfl (zr_l (zr_l e_i35)))))))))))))) (zr_n rfl (zr_n rfl (zr_n rfl (zr_n rfl (zr_n rfl (zr_n rfl (zr_n rfl (zr_n rfl (zr_n rfl (zr_n rfl (zr_n rfl (zr_n rfl (zr_l (zr_l e_i36)))))))))))))) (zr_n rfl (zr_n rfl (zr_n rfl (zr_n rfl (zr_n rfl (zr_n rfl (zr_n rfl (zr_n rfl (zr_n rfl (zr_n rfl (zr_n rfl (zr_n rfl (zr_l (zr_l e_i37)))))))))))))) (zr_n rfl (zr_n rfl (zr_n rfl (zr_n rfl (zr_n rfl (zr_n rfl (zr_n rfl (zr_n rfl (zr_n rfl (zr_n rfl (zr_n rfl (zr_n rfl (zr_l (zr_l e_i38)))))))))))))) hy3) ((zch_i (zch_i (zch_i rfl rfl) rfl) rfl)).symm ?_
  refine zj_aload_n (pc' := 25) 0 dX4_keep_24 rfl rfl rfl ?_
  refine zj_iconst (pc' := 26) dX4_keep_25 rfl kiconst_1 ?_
  obtain ⟨r0v4, er0v4⟩ : ∃ z, z = (zup r0 3 1) := ⟨_, rfl⟩
  have hy := zlet_at er0v4 hy
  refine zj_pZ (pc' := 29) (N := (zui (zui (zui (zui (zui (zui (zui (zui (zui (zui (zui (zui (zui (zui (zui (zui (zui (zul (zul M 154 y1.2.1) 155 y1.2.2.1) 152 r0v4) 153 y1.1) 156 y1.2.2.2.1) 157 y1.2.2.2.2) 158 y2.1) 159 y2.2.1) 160 y2.2.2.1) 161 y2.2.2.2.1) 162 y2.2.2.2.2.1) 163 y2.2.2.2.2.2.1) 164 y2.2.2.2.2.2.2.1) 165 y2.2.2.2.2.2.2.2.1) 166 y2.2.2.2.2.2.2.2.2) 168 y3.1) 169 y3.2.1) 170 y3.2.2.1) 171 y3.2.2.2)) dX4_keep_26 rfl fpX4_30 sh152 rfl (Or.inr rfl) (zr_n rfl (zr_n rfl (zr_n rfl (zr_n rfl (zr_n rfl (zr_n rfl (zr_n rfl (zr_n rfl (zr_n rfl (zr_n rfl (zr_n rfl (zr_n rfl (zr_n rfl (zr_n rfl (zr_n rfl (zr_n rfl (zr_l (zr_l e_i152)))))))))))))))))) er0v4 (zm_n rfl (zm_n rfl (zm_n rfl (zm_n rfl (zm_n rfl (zm_n rfl (zm_n rfl (zm_n rfl (zm_n rfl (zm_n rfl (zm_n rfl (zm_n rfl (zm_n rfl (zm_n rfl (zm_n rfl (zm_n rfl rfl)))))))))))))))) ?_
  have e9 := Option.some.inj hy
  subst e9
  exact zj_vret dX4_keep_29 rfl hq
set_option maxRecDepth 20000 in
theorem LX4_keep_152_5_15_35 (Γ : zG) (M : zM) (r0 : Nat → Int32) (r0_0 : Nat → Int32) (w0_0_0 : Nat → Int64) (w0_0_1 : Nat → Int64) (r0_0_2 : Nat → Int32) (r0_0_3 : Nat → Int32) (r0_1 : Nat → Int32) (r0_1_0 : Nat → Int32) (r0_1_1 : Nat → Int32) (r0_1_2 : Nat → Int32) (r0_1_3 : Nat → Int32) (r0_1_4 : Nat → Int32) (r0_1_5 : Nat → Int32) (r0_1_6 : Nat → Int32) (r0_1_7 : Nat → Int32) (r0_2 : Nat → Int32) (r0_2_0 : Nat → Int32) (r0_2_1 : Nat → Int32) (r0_2_2 : Nat → Int32) (r1 : Nat → Int32) (w1_0 : Nat → Int64) (w1_1 : Nat → Int64) (r1_2 : Nat → Int32) (r1_3 : Nat → Int32) (r2 : Nat → Int32) (r2_0 : Nat → Int32) (r2_1 : Nat → Int32) (r2_2 : Nat → Int32) (r2_3 : Nat → Int32) (r2_4 : Nat → Int32) (r2_5 : Nat → Int32) (r2_6 : Nat → Int32) (r2_7 : Nat → Int32) (r3 : Nat → Int32) (r3_0 : Nat → Int32) (r3_1 : Nat → Int32) (r3_2 : Nat → Int32) (e_i152 : M.1 152 = r0) (e_i153 : M.1 153 = r0_0) (e_l154 : M.2 154 = w0_0_0) (e_l155 : M.2 155 = w0_0_1) (e_i156 : M.1 156 = r0_0_2) (e_i157 : M.1 157 = r0_0_3) (e_i158 : M.1 158 = r0_1) (e_i159 : M.1 159 = r0_1_0) (e_i160 : M.1 160 = r0_1_1) (e_i161 : M.1 161 = r0_1_2) (e_i162 : M.1 162 = r0_1_3) (e_i163 : M.1 163 = r0_1_4) (e_i164 : M.1 164 = r0_1_5) (e_i165 : M.1 165 = r0_1_6) (e_i166 : M.1 166 = r0_1_7) (e_i168 : M.1 168 = r0_2) (e_i169 : M.1 169 = r0_2_0) (e_i170 : M.1 170 = r0_2_1) (e_i171 : M.1 171 = r0_2_2) (e_i5 : M.1 5 = r1) (e_l6 : M.2 6 = w1_0) (e_l7 : M.2 7 = w1_1) (e_i8 : M.1 8 = r1_2) (e_i9 : M.1 9 = r1_3) (e_i15 : M.1 15 = r2) (e_i16 : M.1 16 = r2_0) (e_i17 : M.1 17 = r2_1) (e_i18 : M.1 18 = r2_2) (e_i19 : M.1 19 = r2_3) (e_i20 : M.1 20 = r2_4) (e_i21 : M.1 21 = r2_5) (e_i22 : M.1 22 = r2_6) (e_i23 : M.1 23 = r2_7) (e_i35 : M.1 35 = r3) (e_i36 : M.1 36 = r3_0) (e_i37 : M.1 37 = r3_1) (e_i38 : M.1 38 = r3_2)  {res : (Nat → Int32) × (Nat → Int32) × (Nat → Int64) × (Nat → Int64) × (Nat → Int32) × (Nat → Int32) × (Nat → Int32) × (Nat → Int32) × (Nat → Int32) × (Nat → Int32) × (Nat → Int32) × (Nat → Int32) × (Nat → Int32) × (Nat → Int32) × (Nat → Int32) × (Nat → Int32) × (Nat → Int32) × (Nat → Int32) × (Nat → Int32)} (hy : (fKp_keep r0 r0_0 w0_0_0 w0_0_1 r0_0_2 r0_0_3 r0_1 r0_1_0 r0_1_1 r0_1_2 r0_1_3 r0_1_4 r0_1_5 r0_1_6 r0_1_7 r0_2 r0_2_0 r0_2_1 r0_2_2 r1 w1_0 w1_1 r1_2 r1_3 r2 r2_0 r2_1 r2_2 r2_3 r2_4 r2_5 r2_6 r2_7 r3 r3_0 r3_1 r3_2) = some res) : zK Γ 3 YX4_keep [.ref (zad Γ 152), .ref (zad Γ 5), .ref (zad Γ 15), .ref (zad Γ 35)] M (fun v N => v = none ∧ N = (zui (zui (zui (zui (zui (zui (zui (zui (zui (zui (zui (zui (zui (zui (zui (zui (zui (zul (zul M 154 res.2.2.1) 155 res.2.2.2.1) 152 res.1) 153 res.2.1) 156 res.2.2.2.2.1) 157 res.2.2.2.2.2.1) 158 res.2.2.2.2.2.2.1) 159 res.2.2.2.2.2.2.2.1) 160 res.2.2.2.2.2.2.2.2.1) 161 res.2.2.2.2.2.2.2.2.2.1) 162 res.2.2.2.2.2.2.2.2.2.2.1) 163 res.2.2.2.2.2.2.2.2.2.2.2.1) 164 res.2.2.2.2.2.2.2.2.2.2.2.2.1) 165 res.2.2.2.2.2.2.2.2.2.2.2.2.2.1) 166 res.2.2.2.2.2.2.2.2.2.2.2.2.2.2.1) 168 res.2.2.2.2.2.2.2.2.2.2.2.2.2.2.2.1) 169 res.2.2.2.2.2.2.2.2.2.2.2.2.2.2.2.2.1) 170 res.2.2.2.2.2.2.2.2.2.2.2.2.2.2.2.2.2.1) 171 res.2.2.2.2.2.2.2.2.2.2.2.2.2.2.2.2.2.2)) :=
  zK_of (by decide) (Nat.le_of_ble_eq_true rfl) (TX4_keep_152_5_15_35 Γ M r0 r0_0 w0_0_0 w0_0_1 r0_0_2 r0_0_3 r0_1 r0_1_0 r0_1_1 r0_1_2 r0_1_3 r0_1_4 r0_1_5 r0_1_6 r0_1_7 r0_2 r0_2_0 r0_2_1 r0_2_2 r1 w1_0 w1_1 r1_2 r1_3 r2 r2_0 r2_1 r2_2 r2_3 r2_4 r2_5 r2_6 r2_7 r3 r3_0 r3_1 r3_2 e_i152 e_i153 e_l154 e_l155 e_i156 e_i157 e_i158 e_i159 e_i160 e_i161 e_i162 e_i163 e_i164 e_i165 e_i166 e_i168 e_i169 e_i170 e_i171 e_i5 e_l6 e_l7 e_i8 e_i9 e_i15 e_i16 e_i17 e_i18 e_i19 e_i20 e_i21 e_i22 e_i23 e_i35 e_i36 e_i37 e_i38 hy ⟨rfl, rfl⟩)


set_option maxRecDepth 20000 in
theorem TX7_copyFrom_131_5 (Γ : zG) {Q : Option Value → zM → Prop} (M : zM) (r0 : Nat → Int32) (w0_0 : Nat → Int64) (w0_1 : Nat → Int64) (r0_2 : Nat → Int32) (r0_3 : Nat → Int32) (r1 : Nat → Int32) (w1_0 : Nat → Int64) (w1_1 : Nat → Int64) (r1_2 : Nat → Int32) (r1_3 : Nat → Int32) (e_i131 : M.1 131 = r0) (e_l132 : M.2 132 = w0_0) (e_l133 : M.2 133 = w0_1) (e_i134 : M.1 134 = r0_2) (e_i135 : M.1 135 = r0_3) (e_i5 : M.1 5 = r1) (e_l6 : M.2 6 = w1_0) (e_l7 : M.2 7 = w1_1) (e_i8 : M.1 8 = r1_2) (e_i9 : M.1 9 = r1_3)  {res : (Nat → Int32) × (Nat → Int64) × (Nat → Int64) × (Nat → Int32) × (Nat → Int32)} (hy : (fPl_copyFrom r0 w0_0 w0_1 r0_2 r0_3 r1 w1_0 w1_1 r1_2 r1_3) = some res) (hq : Q none (zui (zui (zui (zul (zul M 132 res.2.1) 133 res.2.2.1) 131 res.1) 134 res.2.2.2.1) 135 res.2.2.2.2)) : zR Γ 2 YX7_copyFrom 0 [(0, .ref (zad Γ 131)), (1, .ref (zad Γ 5))] [] M Q := by
  unfold fPl_copyFrom at hy
  refine zj_aload_n (pc' := 1) 1 dX7_copyFrom_0 rfl rfl rfl ?_
  refine zj_getR (pc' := 4) (j := 6) dX7_copyFrom_1 rfl flX7_9 sh5 rfl ?_
  refine zj_iconst (pc' := 5) dX7_copyFrom_4 rfl kiconst_0 ?_
  refine zj_aload_n (pc' := 6) 0 dX7_copyFrom_5 rfl rfl rfl ?_
  refine zj_getR (pc' := 9) (j := 132) dX7_copyFrom_6 rfl flX7_9 sh131 rfl ?_
  refine zj_iconst (pc' := 10) dX7_copyFrom_9 rfl kiconst_0 ?_
  refine zj_bipush (pc' := 12) dX7_copyFrom_10 rfl kbipush_8 ?_
  obtain ⟨w0_0v1, ew0_0v1⟩ : ∃ z, z = (va_cpy w1_0 w0_0 0 0 8) := ⟨_, rfl⟩
  have hy := zlet_at ew0_0v1 hy
  refine zj_cpL (pc' := 15) (N := (zul M 132 w0_0v1)) dX7_copyFrom_12 rfl mlX7_65 zcpw sh6 sh132 tn0 tn0 tn8 (by decide) (by decide) (Nat.le_of_ble_eq_true rfl) (Nat.le_of_ble_eq_true rfl) e_l6 e_l132 ew0_0v1 rfl (Nat.le_of_ble_eq_true rfl) (Nat.le_of_ble_eq_true rfl) ?_
  refine zj_aload_n (pc' := 16) 1 dX7_copyFrom_15 rfl rfl rfl ?_
  refine zj_getR (pc' := 19) (j := 7) dX7_copyFrom_16 rfl flX7_15 sh5 rfl ?_
  refine zj_iconst (pc' := 20) dX7_copyFrom_19 rfl kiconst_0 ?_
  refine zj_aload_n (pc' := 21) 0 dX7_copyFrom_20 rfl rfl rfl ?_
  refine zj_getR (pc' := 24) (j := 133) dX7_copyFrom_21 rfl flX7_15 sh131 rfl ?_
  refine zj_iconst (pc' := 25) dX7_copyFrom_24 rfl kiconst_0 ?_
  refine zj_bipush (pc' := 27) dX7_copyFrom_25 rfl kbipush_6 ?_
  obtain ⟨w0_1v2, ew0_1v2⟩ : ∃ z, z = (va_cpy w1_1 w0_1 0 0 6) := ⟨_, rfl⟩
  have hy := zlet_at ew0_1v2 hy
  refine zj_cpL (pc' := 30) (N := (zul (zul M 132 w0_0v1) 133 w0_1v2)) dX7_copyFrom_27 rfl mlX7_65 zcpw sh7 sh133 tn0 tn0 tn6 (by decide) (by decide) (Nat.le_of_ble_eq_true rfl) (Nat.le_of_ble_eq_true rfl) (zq_n rfl e_l7) (zq_n rfl e_l133) ew0_1v2 rfl (Nat.le_of_ble_eq_true rfl) (Nat.le_of_ble_eq_true rfl) ?_
  refine zj_aload_n (pc' := 31) 1 dX7_copyFrom_30 rfl rfl rfl ?_
  refine zj_getR (pc' := 34) (j := 8) dX7_copyFrom_31 rfl flX7_18 sh5 rfl ?_
  refine zj_iconst (pc' := 35) dX7_copyFrom_34 rfl kiconst_0 ?_
  refine zj_aload_n (pc' := 36) 0 dX7_copyFrom_35 rfl rfl rfl ?_
  refine zj_getR (pc' := 39) (j := 134) dX7_copyFrom_36 rfl flX7_18 sh131 rfl ?_
  refine zj_iconst (pc' := 40) dX7_copyFrom_39 rfl kiconst_0 ?_
  refine zj_bipush (pc' := 42) dX7_copyFrom_40 rfl kbipush_8 ?_
  obtain ⟨r0_2v3, er0_2v3⟩ : ∃ z, z = (va_cpy r1_2 r0_2 0 0 8) := ⟨_, rfl⟩
  have hy := zlet_at er0_2v3 hy
  refine zj_cpI (pc' := 45) (N := (zui (zul (zul M 132 w0_0v1) 133 w0_1v2) 134 r0_2v3)) dX7_copyFrom_42 rfl mlX7_65 zcpw sh8 sh134 tn0 tn0 tn8 (by decide) (by decide) (Nat.le_of_ble_eq_true rfl) (Nat.le_of_ble_eq_true rfl) (zr_l (zr_l e_i8)) (zr_l (zr_l e_i134)) er0_2v3 rfl (Nat.le_of_ble_eq_true rfl) (Nat.le_of_ble_eq_true rfl) ?_
  refine zj_aload_n (pc' := 46) 1 dX7_copyFrom_45 rfl rfl rfl ?_
  refine zj_getR (pc' := 49) (j := 9) dX7_copyFrom_46 rfl flX7_22 sh5 rfl ?_
  refine zj_iconst (pc' := 50) dX7_copyFrom_49 rfl kiconst_0 ?_
  refine zj_aload_n (pc' := 51) 0 dX7_copyFrom_50 rfl rfl rfl ?_
  refine zj_getR (pc' := 54) (j := 135) dX7_copyFrom_51 rfl flX7_22 sh131 rfl ?_
  refine zj_iconst (pc' := 55) dX7_copyFrom_54 rfl kiconst_0 ?_
  refine zj_bipush (pc' := 57) dX7_copyFrom_55 rfl kbipush_64 ?_
  obtain ⟨r0_3v4, er0_3v4⟩ : ∃ z, z = (va_cpy r1_3 r0_3 0 0 64) := ⟨_, rfl⟩
  have hy := zlet_at er0_3v4 hy
  refine zj_cpI (pc' := 60) (N := (zui (zui (zul (zul M 132 w0_0v1) 133 w0_1v2) 134 r0_2v3) 135 r0_3v4)) dX7_copyFrom_57 rfl mlX7_65 zcpw sh9 sh135 tn0 tn0 tn64 (by decide) (by decide) (Nat.le_of_ble_eq_true rfl) (Nat.le_of_ble_eq_true rfl) (zr_n rfl (zr_l (zr_l e_i9))) (zr_n rfl (zr_l (zr_l e_i135))) er0_3v4 rfl (Nat.le_of_ble_eq_true rfl) (Nat.le_of_ble_eq_true rfl) ?_
  refine zj_aload_n (pc' := 61) 0 dX7_copyFrom_60 rfl rfl rfl ?_
  refine zj_aload_n (pc' := 62) 1 dX7_copyFrom_61 rfl rfl rfl ?_
  refine zj_fI (pc' := 65) dX7_copyFrom_62 rfl flX7_25 sh5 rfl (zr_n rfl (zr_n rfl (zr_l (zr_l e_i5)))) rfl ?_
  obtain ⟨r0v5, er0v5⟩ : ∃ z, z = (zup r0 4 (r1 4)) := ⟨_, rfl⟩
  have hy := zlet_at er0v5 hy
  refine zj_pI (pc' := 68) (N := (zui (zui (zui (zul (zul M 132 w0_0v1) 133 w0_1v2) 131 r0v5) 134 r0_2v3) 135 r0_3v4)) dX7_copyFrom_65 rfl fpX7_25 sh131 rfl (zr_n rfl (zr_n rfl (zr_l (zr_l e_i131)))) er0v5 (zm_n rfl (zm_n rfl rfl)) ?_
  refine zj_aload_n (pc' := 69) 0 dX7_copyFrom_68 rfl rfl rfl ?_
  refine zj_aload_n (pc' := 70) 1 dX7_copyFrom_69 rfl rfl rfl ?_
  refine zj_fI (pc' := 73) dX7_copyFrom_70 rfl flX7_29 sh5 rfl (zr_n rfl (zr_n rfl (zr_n rfl (zr_l (zr_l e_i5))))) rfl ?_
  obtain ⟨r0v6, er0v6⟩ : ∃ z, z = (zup r0v5 5 (r1 5)) := ⟨_, rfl⟩
  have hy := zlet_at er0v6 hy
  refine zj_pI (pc' := 76) (N := (zui (zui (zui (zul (zul M 132 w0_0v1) 133 w0_1v2) 131 r0v6) 134 r0_2v3) 135 r0_3v4)) dX7_copyFrom_73 rfl fpX7_29 sh131 rfl (zr_n rfl (zr_n rfl zr_s)) er0v6 (zm_n rfl (zm_n rfl zm_s)) ?_
  refine zj_aload_n (pc' := 77) 0 dX7_copyFrom_76 rfl rfl rfl ?_
  refine zj_aload_n (pc' := 78) 1 dX7_copyFrom_77 rfl rfl rfl ?_
  refine zj_fI (pc' := 81) dX7_copyFrom_78 rfl flX7_32 sh5 rfl (zr_n rfl (zr_n rfl (zr_n rfl (zr_l (zr_l e_i5))))) rfl ?_
  obtain ⟨r0v7, er0v7⟩ : ∃ z, z = (zup r0v6 6 (r1 6)) := ⟨_, rfl⟩
  have hy := zlet_at er0v7 hy
  refine zj_pI (pc' := 84) (N := (zui (zui (zui (zul (zul M 132 w0_0v1) 133 w0_1v2) 131 r0v7) 134 r0_2v3) 135 r0_3v4)) dX7_copyFrom_81 rfl fpX7_32 sh131 rfl (zr_n rfl (zr_n rfl zr_s)) er0v7 (zm_n rfl (zm_n rfl zm_s)) ?_
  have e9 := Option.some.inj hy
  subst e9
  exact zj_vret dX7_copyFrom_84 rfl hq
set_option maxRecDepth 20000 in
theorem LX7_copyFrom_131_5 (Γ : zG) (M : zM) (r0 : Nat → Int32) (w0_0 : Nat → Int64) (w0_1 : Nat → Int64) (r0_2 : Nat → Int32) (r0_3 : Nat → Int32) (r1 : Nat → Int32) (w1_0 : Nat → Int64) (w1_1 : Nat → Int64) (r1_2 : Nat → Int32) (r1_3 : Nat → Int32) (e_i131 : M.1 131 = r0) (e_l132 : M.2 132 = w0_0) (e_l133 : M.2 133 = w0_1) (e_i134 : M.1 134 = r0_2) (e_i135 : M.1 135 = r0_3) (e_i5 : M.1 5 = r1) (e_l6 : M.2 6 = w1_0) (e_l7 : M.2 7 = w1_1) (e_i8 : M.1 8 = r1_2) (e_i9 : M.1 9 = r1_3)  {res : (Nat → Int32) × (Nat → Int64) × (Nat → Int64) × (Nat → Int32) × (Nat → Int32)} (hy : (fPl_copyFrom r0 w0_0 w0_1 r0_2 r0_3 r1 w1_0 w1_1 r1_2 r1_3) = some res) : zK Γ 2 YX7_copyFrom [.ref (zad Γ 131), .ref (zad Γ 5)] M (fun v N => v = none ∧ N = (zui (zui (zui (zul (zul M 132 res.2.1) 133 res.2.2.1) 131 res.1) 134 res.2.2.2.1) 135 res.2.2.2.2)) :=
  zK_of (by decide) (Nat.le_of_ble_eq_true rfl) (TX7_copyFrom_131_5 Γ M r0 w0_0 w0_1 r0_2 r0_3 r1 w1_0 w1_1 r1_2 r1_3 e_i131 e_l132 e_l133 e_i134 e_i135 e_i5 e_l6 e_l7 e_i8 e_i9 hy ⟨rfl, rfl⟩)


set_option maxRecDepth 20000 in
theorem TX1_copyFrom_136_15 (Γ : zG) {Q : Option Value → zM → Prop} (M : zM) (r0 : Nat → Int32) (r0_0 : Nat → Int32) (r0_1 : Nat → Int32) (r0_2 : Nat → Int32) (r0_3 : Nat → Int32) (r0_4 : Nat → Int32) (r0_5 : Nat → Int32) (r0_6 : Nat → Int32) (r0_7 : Nat → Int32) (r1 : Nat → Int32) (r1_0 : Nat → Int32) (r1_1 : Nat → Int32) (r1_2 : Nat → Int32) (r1_3 : Nat → Int32) (r1_4 : Nat → Int32) (r1_5 : Nat → Int32) (r1_6 : Nat → Int32) (r1_7 : Nat → Int32) (e_i136 : M.1 136 = r0) (e_i137 : M.1 137 = r0_0) (e_i138 : M.1 138 = r0_1) (e_i139 : M.1 139 = r0_2) (e_i140 : M.1 140 = r0_3) (e_i141 : M.1 141 = r0_4) (e_i142 : M.1 142 = r0_5) (e_i143 : M.1 143 = r0_6) (e_i144 : M.1 144 = r0_7) (e_i15 : M.1 15 = r1) (e_i16 : M.1 16 = r1_0) (e_i17 : M.1 17 = r1_1) (e_i18 : M.1 18 = r1_2) (e_i19 : M.1 19 = r1_3) (e_i20 : M.1 20 = r1_4) (e_i21 : M.1 21 = r1_5) (e_i22 : M.1 22 = r1_6) (e_i23 : M.1 23 = r1_7)  {res : (Nat → Int32) × (Nat → Int32) × (Nat → Int32) × (Nat → Int32) × (Nat → Int32) × (Nat → Int32) × (Nat → Int32) × (Nat → Int32) × (Nat → Int32)} (hy : (fDy_copyFrom r0 r0_0 r0_1 r0_2 r0_3 r0_4 r0_5 r0_6 r0_7 r1 r1_0 r1_1 r1_2 r1_3 r1_4 r1_5 r1_6 r1_7) = some res) (hq : Q none (zui (zui (zui (zui (zui (zui (zui (zui (zui M 136 res.1) 137 res.2.1) 138 res.2.2.1) 139 res.2.2.2.1) 140 res.2.2.2.2.1) 141 res.2.2.2.2.2.1) 142 res.2.2.2.2.2.2.1) 143 res.2.2.2.2.2.2.2.1) 144 res.2.2.2.2.2.2.2.2)) : zR Γ 2 YX1_copyFrom 0 [(0, .ref (zad Γ 136)), (1, .ref (zad Γ 15))] [] M Q := by
  unfold fDy_copyFrom at hy
  refine zj_aload_n (pc' := 1) 1 dX1_copyFrom_0 rfl rfl rfl ?_
  refine zj_getR (pc' := 4) (j := 16) dX1_copyFrom_1 rfl flX1_9 sh15 rfl ?_
  refine zj_iconst (pc' := 5) dX1_copyFrom_4 rfl kiconst_0 ?_
  refine zj_aload_n (pc' := 6) 0 dX1_copyFrom_5 rfl rfl rfl ?_
  refine zj_getR (pc' := 9) (j := 137) dX1_copyFrom_6 rfl flX1_9 sh136 rfl ?_
  refine zj_iconst (pc' := 10) dX1_copyFrom_9 rfl kiconst_0 ?_
  refine zj_bipush (pc' := 12) dX1_copyFrom_10 rfl kbipush_36 ?_
  obtain ⟨r0_0v1, er0_0v1⟩ : ∃ z, z = (va_cpy r1_0 r0_0 0 0 36) := ⟨_, rfl⟩
  have hy := zlet_at er0_0v1 hy
  refine zj_cpI (pc' := 15) (N := (zui M 137 r0_0v1)) dX1_copyFrom_12 rfl mlX1_52 zcpw sh16 sh137 tn0 tn0 tn36 (by decide) (by decide) (Nat.le_of_ble_eq_true rfl) (Nat.le_of_ble_eq_true rfl) e_i16 e_i137 er0_0v1 rfl (Nat.le_of_ble_eq_true rfl) (Nat.le_of_ble_eq_true rfl) ?_
  refine zj_aload_n (pc' := 16) 1 dX1_copyFrom_15 rfl rfl rfl ?_
  refine zj_getR (pc' := 19) (j := 17) dX1_copyFrom_16 rfl flX1_15 sh15 rfl ?_
  refine zj_iconst (pc' := 20) dX1_copyFrom_19 rfl kiconst_0 ?_
  refine zj_aload_n (pc' := 21) 0 dX1_copyFrom_20 rfl rfl rfl ?_
  refine zj_getR (pc' := 24) (j := 138) dX1_copyFrom_21 rfl flX1_15 sh136 rfl ?_
  refine zj_iconst (pc' := 25) dX1_copyFrom_24 rfl kiconst_0 ?_
  refine zj_bipush (pc' := 27) dX1_copyFrom_25 rfl kbipush_6 ?_
  obtain ⟨r0_1v2, er0_1v2⟩ : ∃ z, z = (va_cpy r1_1 r0_1 0 0 6) := ⟨_, rfl⟩
  have hy := zlet_at er0_1v2 hy
  refine zj_cpI (pc' := 30) (N := (zui (zui M 137 r0_0v1) 138 r0_1v2)) dX1_copyFrom_27 rfl mlX1_52 zcpw sh17 sh138 tn0 tn0 tn6 (by decide) (by decide) (Nat.le_of_ble_eq_true rfl) (Nat.le_of_ble_eq_true rfl) (zr_n rfl e_i17) (zr_n rfl e_i138) er0_1v2 rfl (Nat.le_of_ble_eq_true rfl) (Nat.le_of_ble_eq_true rfl) ?_
  refine zj_aload_n (pc' := 31) 1 dX1_copyFrom_30 rfl rfl rfl ?_
  refine zj_getR (pc' := 34) (j := 18) dX1_copyFrom_31 rfl flX1_18 sh15 rfl ?_
  refine zj_iconst (pc' := 35) dX1_copyFrom_34 rfl kiconst_0 ?_
  refine zj_aload_n (pc' := 36) 0 dX1_copyFrom_35 rfl rfl rfl ?_
  refine zj_getR (pc' := 39) (j := 139) dX1_copyFrom_36 rfl flX1_18 sh136 rfl ?_
  refine zj_iconst (pc' := 40) dX1_copyFrom_39 rfl kiconst_0 ?_
  refine zj_bipush (pc' := 42) dX1_copyFrom_40 rfl kbipush_6 ?_
  obtain ⟨r0_2v3, er0_2v3⟩ : ∃ z, z = (va_cpy r1_2 r0_2 0 0 6) := ⟨_, rfl⟩
  have hy := zlet_at er0_2v3 hy
  refine zj_cpI (pc' := 45) (N := (zui (zui (zui M 137 r0_0v1) 138 r0_1v2) 139 r0_2v3)) dX1_copyFrom_42 rfl mlX1_52 zcpw sh18 sh139 tn0 tn0 tn6 (by decide) (by decide) (Nat.le_of_ble_eq_true rfl) (Nat.le_of_ble_eq_true rfl) (zr_n rfl (zr_n rfl e_i18)) (zr_n rfl (zr_n rfl e_i139)) er0_2v3 rfl (Nat.le_of_ble_eq_true rfl) (Nat.le_of_ble_eq_true rfl) ?_
  refine zj_aload_n (pc' := 46) 1 dX1_copyFrom_45 rfl rfl rfl ?_
  refine zj_getR (pc' := 49) (j := 19) dX1_copyFrom_46 rfl flX1_21 sh15 rfl ?_
  refine zj_iconst (pc' := 50) dX1_copyFrom_49 rfl kiconst_0 ?_
  refine zj_aload_n (pc' := 51) 0 dX1_copyFrom_50 rfl rfl rfl ?_
  refine zj_getR (pc' := 54) (j := 140) dX1_copyFrom_51 rfl flX1_21 sh136 rfl ?_
  refine zj_iconst (pc' := 55) dX1_copyFrom_54 rfl kiconst_0 ?_
  refine zj_bipush (pc' := 57) dX1_copyFrom_55 rfl kbipush_6 ?_
  obtain ⟨r0_3v4, er0_3v4⟩ : ∃ z, z = (va_cpy r1_3 r0_3 0 0 6) := ⟨_, rfl⟩
  have hy := zlet_at er0_3v4 hy
  refine zj_cpI (pc' := 60) (N := (zui (zui (zui (zui M 137 r0_0v1) 138 r0_1v2) 139 r0_2v3) 140 r0_3v4)) dX1_copyFrom_57 rfl mlX1_52 zcpw sh19 sh140 tn0 tn0 tn6 (by decide) (by decide) (Nat.le_of_ble_eq_true rfl) (Nat.le_of_ble_eq_true rfl) (zr_n rfl (zr_n rfl (zr_n rfl e_i19))) (zr_n rfl (zr_n rfl (zr_n rfl e_i140))) er0_3v4 rfl (Nat.le_of_ble_eq_true rfl) (Nat.le_of_ble_eq_true rfl) ?_
  refine zj_aload_n (pc' := 61) 1 dX1_copyFrom_60 rfl rfl rfl ?_
  refine zj_getR (pc' := 64) (j := 20) dX1_copyFrom_61 rfl flX1_24 sh15 rfl ?_
  refine zj_iconst (pc' := 65) dX1_copyFrom_64 rfl kiconst_0 ?_
  refine zj_aload_n (pc' := 66) 0 dX1_copyFrom_65 rfl rfl rfl ?_
  refine zj_getR (pc' := 69) (j := 141) dX1_copyFrom_66 rfl flX1_24 sh136 rfl ?_
  refine zj_iconst (pc' := 70) dX1_copyFrom_69 rfl kiconst_0 ?_
  refine zj_bipush (pc' := 72) dX1_copyFrom_70 rfl kbipush_48 ?_
  obtain ⟨r0_4v5, er0_4v5⟩ : ∃ z, z = (va_cpy r1_4 r0_4 0 0 48) := ⟨_, rfl⟩
  have hy := zlet_at er0_4v5 hy
  refine zj_cpI (pc' := 75) (N := (zui (zui (zui (zui (zui M 137 r0_0v1) 138 r0_1v2) 139 r0_2v3) 140 r0_3v4) 141 r0_4v5)) dX1_copyFrom_72 rfl mlX1_52 zcpw sh20 sh141 tn0 tn0 tn48 (by decide) (by decide) (Nat.le_of_ble_eq_true rfl) (Nat.le_of_ble_eq_true rfl) (zr_n rfl (zr_n rfl (zr_n rfl (zr_n rfl e_i20)))) (zr_n rfl (zr_n rfl (zr_n rfl (zr_n rfl e_i141)))) er0_4v5 rfl (Nat.le_of_ble_eq_true rfl) (Nat.le_of_ble_eq_true rfl) ?_
  refine zj_aload_n (pc' := 76) 1 dX1_copyFrom_75 rfl rfl rfl ?_
  refine zj_getR (pc' := 79) (j := 21) dX1_copyFrom_76 rfl flX1_27 sh15 rfl ?_
  refine zj_iconst (pc' := 80) dX1_copyFrom_79 rfl kiconst_0 ?_
  refine zj_aload_n (pc' := 81) 0 dX1_copyFrom_80 rfl rfl rfl ?_
  refine zj_getR (pc' := 84) (j := 142) dX1_copyFrom_81 rfl flX1_27 sh136 rfl ?_
  refine zj_iconst (pc' := 85) dX1_copyFrom_84 rfl kiconst_0 ?_
  refine zj_bipush (pc' := 87) dX1_copyFrom_85 rfl kbipush_6 ?_
  obtain ⟨r0_5v6, er0_5v6⟩ : ∃ z, z = (va_cpy r1_5 r0_5 0 0 6) := ⟨_, rfl⟩
  have hy := zlet_at er0_5v6 hy
  refine zj_cpI (pc' := 90) (N := (zui (zui (zui (zui (zui (zui M 137 r0_0v1) 138 r0_1v2) 139 r0_2v3) 140 r0_3v4) 141 r0_4v5) 142 r0_5v6)) dX1_copyFrom_87 rfl mlX1_52 zcpw sh21 sh142 tn0 tn0 tn6 (by decide) (by decide) (Nat.le_of_ble_eq_true rfl) (Nat.le_of_ble_eq_true rfl) (zr_n rfl (zr_n rfl (zr_n rfl (zr_n rfl (zr_n rfl e_i21))))) (zr_n rfl (zr_n rfl (zr_n rfl (zr_n rfl (zr_n rfl e_i142))))) er0_5v6 rfl (Nat.le_of_ble_eq_true rfl) (Nat.le_of_ble_eq_true rfl) ?_
  refine zj_aload_n (pc' := 91) 1 dX1_copyFrom_90 rfl rfl rfl ?_
  refine zj_getR (pc' := 94) (j := 22) dX1_copyFrom_91 rfl flX1_30 sh15 rfl ?_
  refine zj_iconst (pc' := 95) dX1_copyFrom_94 rfl kiconst_0 ?_
  refine zj_aload_n (pc' := 96) 0 dX1_copyFrom_95 rfl rfl rfl ?_
  refine zj_getR (pc' := 99) (j := 143) dX1_copyFrom_96 rfl flX1_30 sh136 rfl ?_
  refine zj_iconst (pc' := 100) dX1_copyFrom_99 rfl kiconst_0 ?_
  refine zj_bipush (pc' := 102) dX1_copyFrom_100 rfl kbipush_8 ?_
  obtain ⟨r0_6v7, er0_6v7⟩ : ∃ z, z = (va_cpy r1_6 r0_6 0 0 8) := ⟨_, rfl⟩
  have hy := zlet_at er0_6v7 hy
  refine zj_cpI (pc' := 105) (N := (zui (zui (zui (zui (zui (zui (zui M 137 r0_0v1) 138 r0_1v2) 139 r0_2v3) 140 r0_3v4) 141 r0_4v5) 142 r0_5v6) 143 r0_6v7)) dX1_copyFrom_102 rfl mlX1_52 zcpw sh22 sh143 tn0 tn0 tn8 (by decide) (by decide) (Nat.le_of_ble_eq_true rfl) (Nat.le_of_ble_eq_true rfl) (zr_n rfl (zr_n rfl (zr_n rfl (zr_n rfl (zr_n rfl (zr_n rfl e_i22)))))) (zr_n rfl (zr_n rfl (zr_n rfl (zr_n rfl (zr_n rfl (zr_n rfl e_i143)))))) er0_6v7 rfl (Nat.le_of_ble_eq_true rfl) (Nat.le_of_ble_eq_true rfl) ?_
  refine zj_aload_n (pc' := 106) 1 dX1_copyFrom_105 rfl rfl rfl ?_
  refine zj_getR (pc' := 109) (j := 23) dX1_copyFrom_106 rfl flX1_33 sh15 rfl ?_
  refine zj_iconst (pc' := 110) dX1_copyFrom_109 rfl kiconst_0 ?_
  refine zj_aload_n (pc' := 111) 0 dX1_copyFrom_110 rfl rfl rfl ?_
  refine zj_getR (pc' := 114) (j := 144) dX1_copyFrom_111 rfl flX1_33 sh136 rfl ?_
  refine zj_iconst (pc' := 115) dX1_copyFrom_114 rfl kiconst_0 ?_
  refine zj_bipush (pc' := 117) dX1_copyFrom_115 rfl kbipush_8 ?_
  obtain ⟨r0_7v8, er0_7v8⟩ : ∃ z, z = (va_cpy r1_7 r0_7 0 0 8) := ⟨_, rfl⟩
  have hy := zlet_at er0_7v8 hy
  refine zj_cpI (pc' := 120) (N := (zui (zui (zui (zui (zui (zui (zui (zui M 137 r0_0v1) 138 r0_1v2) 139 r0_2v3) 140 r0_3v4) 141 r0_4v5) 142 r0_5v6) 143 r0_6v7) 144 r0_7v8)) dX1_copyFrom_117 rfl mlX1_52 zcpw sh23 sh144 tn0 tn0 tn8 (by decide) (by decide) (Nat.le_of_ble_eq_true rfl) (Nat.le_of_ble_eq_true rfl) (zr_n rfl (zr_n rfl (zr_n rfl (zr_n rfl (zr_n rfl (zr_n rfl (zr_n rfl e_i23))))))) (zr_n rfl (zr_n rfl (zr_n rfl (zr_n rfl (zr_n rfl (zr_n rfl (zr_n rfl e_i144))))))) er0_7v8 rfl (Nat.le_of_ble_eq_true rfl) (Nat.le_of_ble_eq_true rfl) ?_
  refine zj_aload_n (pc' := 121) 0 dX1_copyFrom_120 rfl rfl rfl ?_
  refine zj_aload_n (pc' := 122) 1 dX1_copyFrom_121 rfl rfl rfl ?_
  refine zj_fI (pc' := 125) dX1_copyFrom_122 rfl flX1_45 sh15 rfl (zr_n rfl (zr_n rfl (zr_n rfl (zr_n rfl (zr_n rfl (zr_n rfl (zr_n rfl (zr_n rfl e_i15)))))))) rfl ?_
  obtain ⟨r0v9, er0v9⟩ : ∃ z, z = (zup r0 9 (r1 9)) := ⟨_, rfl⟩
  have hy := zlet_at er0v9 hy
  refine zj_pI (pc' := 128) (N := (zui (zui (zui (zui (zui (zui (zui (zui (zui M 136 r0v9) 137 r0_0v1) 138 r0_1v2) 139 r0_2v3) 140 r0_3v4) 141 r0_4v5) 142 r0_5v6) 143 r0_6v7) 144 r0_7v8)) dX1_copyFrom_125 rfl fpX1_45 sh136 rfl (zr_n rfl (zr_n rfl (zr_n rfl (zr_n rfl (zr_n rfl (zr_n rfl (zr_n rfl (zr_n rfl e_i136)))))))) er0v9 (zm_n rfl (zm_n rfl (zm_n rfl (zm_n rfl (zm_n rfl (zm_n rfl (zm_n rfl (zm_n rfl rfl)))))))) ?_
  refine zj_aload_n (pc' := 129) 0 dX1_copyFrom_128 rfl rfl rfl ?_
  refine zj_aload_n (pc' := 130) 1 dX1_copyFrom_129 rfl rfl rfl ?_
  refine zj_fI (pc' := 133) dX1_copyFrom_130 rfl flX1_49 sh15 rfl (zr_n rfl (zr_n rfl (zr_n rfl (zr_n rfl (zr_n rfl (zr_n rfl (zr_n rfl (zr_n rfl (zr_n rfl e_i15))))))))) rfl ?_
  obtain ⟨r0v10, er0v10⟩ : ∃ z, z = (zup r0v9 10 (r1 10)) := ⟨_, rfl⟩
  have hy := zlet_at er0v10 hy
  refine zj_pI (pc' := 136) (N := (zui (zui (zui (zui (zui (zui (zui (zui (zui M 136 r0v10) 137 r0_0v1) 138 r0_1v2) 139 r0_2v3) 140 r0_3v4) 141 r0_4v5) 142 r0_5v6) 143 r0_6v7) 144 r0_7v8)) dX1_copyFrom_133 rfl fpX1_49 sh136 rfl (zr_n rfl (zr_n rfl (zr_n rfl (zr_n rfl (zr_n rfl (zr_n rfl (zr_n rfl (zr_n rfl zr_s)))))))) er0v10 (zm_n rfl (zm_n rfl (zm_n rfl (zm_n rfl (zm_n rfl (zm_n rfl (zm_n rfl (zm_n rfl zm_s)))))))) ?_
  have e9 := Option.some.inj hy
  subst e9
  exact zj_vret dX1_copyFrom_136 rfl hq
set_option maxRecDepth 20000 in
theorem LX1_copyFrom_136_15 (Γ : zG) (M : zM) (r0 : Nat → Int32) (r0_0 : Nat → Int32) (r0_1 : Nat → Int32) (r0_2 : Nat → Int32) (r0_3 : Nat → Int32) (r0_4 : Nat → Int32) (r0_5 : Nat → Int32) (r0_6 : Nat → Int32) (r0_7 : Nat → Int32) (r1 : Nat → Int32) (r1_0 : Nat → Int32) (r1_1 : Nat → Int32) (r1_2 : Nat → Int32) (r1_3 : Nat → Int32) (r1_4 : Nat → Int32) (r1_5 : Nat → Int32) (r1_6 : Nat → Int32) (r1_7 : Nat → Int32) (e_i136 : M.1 136 = r0) (e_i137 : M.1 137 = r0_0) (e_i138 : M.1 138 = r0_1) (e_i139 : M.1 139 = r0_2) (e_i140 : M.1 140 = r0_3) (e_i141 : M.1 141 = r0_4) (e_i142 : M.1 142 = r0_5) (e_i143 : M.1 143 = r0_6) (e_i144 : M.1 144 = r0_7) (e_i15 : M.1 15 = r1) (e_i16 : M.1 16 = r1_0) (e_i17 : M.1 17 = r1_1) (e_i18 : M.1 18 = r1_2) (e_i19 : M.1 19 = r1_3) (e_i20 : M.1 20 = r1_4) (e_i21 : M.1 21 = r1_5) (e_i22 : M.1 22 = r1_6) (e_i23 : M.1 23 = r1_7)  {res : (Nat → Int32) × (Nat → Int32) × (Nat → Int32) × (Nat → Int32) × (Nat → Int32) × (Nat → Int32) × (Nat → Int32) × (Nat → Int32) × (Nat → Int32)} (hy : (fDy_copyFrom r0 r0_0 r0_1 r0_2 r0_3 r0_4 r0_5 r0_6 r0_7 r1 r1_0 r1_1 r1_2 r1_3 r1_4 r1_5 r1_6 r1_7) = some res) : zK Γ 2 YX1_copyFrom [.ref (zad Γ 136), .ref (zad Γ 15)] M (fun v N => v = none ∧ N = (zui (zui (zui (zui (zui (zui (zui (zui (zui M 136 res.1) 137 res.2.1) 138 res.2.2.1) 139 res.2.2.2.1) 140 res.2.2.2.2.1) 141 res.2.2.2.2.2.1) 142 res.2.2.2.2.2.2.1) 143 res.2.2.2.2.2.2.2.1) 144 res.2.2.2.2.2.2.2.2)) :=
  zK_of (by decide) (Nat.le_of_ble_eq_true rfl) (TX1_copyFrom_136_15 Γ M r0 r0_0 r0_1 r0_2 r0_3 r0_4 r0_5 r0_6 r0_7 r1 r1_0 r1_1 r1_2 r1_3 r1_4 r1_5 r1_6 r1_7 e_i136 e_i137 e_i138 e_i139 e_i140 e_i141 e_i142 e_i143 e_i144 e_i15 e_i16 e_i17 e_i18 e_i19 e_i20 e_i21 e_i22 e_i23 hy ⟨rfl, rfl⟩)


set_option maxRecDepth 20000 in
theorem TX9_copyFrom_146_35 (Γ : zG) {Q : Option Value → zM → Prop} (M : zM) (r0 : Nat → Int32) (r0_0 : Nat → Int32) (r0_1 : Nat → Int32) (r0_2 : Nat → Int32) (r1 : Nat → Int32) (r1_0 : Nat → Int32) (r1_1 : Nat → Int32) (r1_2 : Nat → Int32) (e_i146 : M.1 146 = r0) (e_i147 : M.1 147 = r0_0) (e_i148 : M.1 148 = r0_1) (e_i149 : M.1 149 = r0_2) (e_i35 : M.1 35 = r1) (e_i36 : M.1 36 = r1_0) (e_i37 : M.1 37 = r1_1) (e_i38 : M.1 38 = r1_2)  {res : (Nat → Int32) × (Nat → Int32) × (Nat → Int32) × (Nat → Int32)} (hy : (fSn_copyFrom r0 r0_0 r0_1 r0_2 r1 r1_0 r1_1 r1_2) = some res) (hq : Q none (zui (zui (zui (zui M 146 res.1) 147 res.2.1) 148 res.2.2.1) 149 res.2.2.2)) : zR Γ 2 YX9_copyFrom 0 [(0, .ref (zad Γ 146)), (1, .ref (zad Γ 35))] [] M Q := by
  unfold fSn_copyFrom at hy
  refine zj_aload_n (pc' := 1) 1 dX9_copyFrom_0 rfl rfl rfl ?_
  refine zj_getR (pc' := 4) (j := 36) dX9_copyFrom_1 rfl flX9_11 sh35 rfl ?_
  refine zj_iconst (pc' := 5) dX9_copyFrom_4 rfl kiconst_0 ?_
  refine zj_aload_n (pc' := 6) 0 dX9_copyFrom_5 rfl rfl rfl ?_
  refine zj_getR (pc' := 9) (j := 147) dX9_copyFrom_6 rfl flX9_11 sh146 rfl ?_
  refine zj_iconst (pc' := 10) dX9_copyFrom_9 rfl kiconst_0 ?_
  refine zj_bipush (pc' := 12) dX9_copyFrom_10 rfl kbipush_40 ?_
  obtain ⟨r0_0v1, er0_0v1⟩ : ∃ z, z = (va_cpy r1_0 r0_0 0 0 40) := ⟨_, rfl⟩
  have hy := zlet_at er0_0v1 hy
  refine zj_cpI (pc' := 15) (N := (zui M 147 r0_0v1)) dX9_copyFrom_12 rfl mlX9_44 zcpw sh36 sh147 tn0 tn0 tn40 (by decide) (by decide) (Nat.le_of_ble_eq_true rfl) (Nat.le_of_ble_eq_true rfl) e_i36 e_i147 er0_0v1 rfl (Nat.le_of_ble_eq_true rfl) (Nat.le_of_ble_eq_true rfl) ?_
  refine zj_aload_n (pc' := 16) 1 dX9_copyFrom_15 rfl rfl rfl ?_
  refine zj_getR (pc' := 19) (j := 37) dX9_copyFrom_16 rfl flX9_15 sh35 rfl ?_
  refine zj_iconst (pc' := 20) dX9_copyFrom_19 rfl kiconst_0 ?_
  refine zj_aload_n (pc' := 21) 0 dX9_copyFrom_20 rfl rfl rfl ?_
  refine zj_getR (pc' := 24) (j := 148) dX9_copyFrom_21 rfl flX9_15 sh146 rfl ?_
  refine zj_iconst (pc' := 25) dX9_copyFrom_24 rfl kiconst_0 ?_
  refine zj_bipush (pc' := 27) dX9_copyFrom_25 rfl kbipush_40 ?_
  obtain ⟨r0_1v2, er0_1v2⟩ : ∃ z, z = (va_cpy r1_1 r0_1 0 0 40) := ⟨_, rfl⟩
  have hy := zlet_at er0_1v2 hy
  refine zj_cpI (pc' := 30) (N := (zui (zui M 147 r0_0v1) 148 r0_1v2)) dX9_copyFrom_27 rfl mlX9_44 zcpw sh37 sh148 tn0 tn0 tn40 (by decide) (by decide) (Nat.le_of_ble_eq_true rfl) (Nat.le_of_ble_eq_true rfl) (zr_n rfl e_i37) (zr_n rfl e_i148) er0_1v2 rfl (Nat.le_of_ble_eq_true rfl) (Nat.le_of_ble_eq_true rfl) ?_
  refine zj_aload_n (pc' := 31) 1 dX9_copyFrom_30 rfl rfl rfl ?_
  refine zj_getR (pc' := 34) (j := 38) dX9_copyFrom_31 rfl flX9_18 sh35 rfl ?_
  refine zj_iconst (pc' := 35) dX9_copyFrom_34 rfl kiconst_0 ?_
  refine zj_aload_n (pc' := 36) 0 dX9_copyFrom_35 rfl rfl rfl ?_
  refine zj_getR (pc' := 39) (j := 149) dX9_copyFrom_36 rfl flX9_18 sh146 rfl ?_
  refine zj_iconst (pc' := 40) dX9_copyFrom_39 rfl kiconst_0 ?_
  refine zj_bipush (pc' := 42) dX9_copyFrom_40 rfl kbipush_40 ?_
  obtain ⟨r0_2v3, er0_2v3⟩ : ∃ z, z = (va_cpy r1_2 r0_2 0 0 40) := ⟨_, rfl⟩
  have hy := zlet_at er0_2v3 hy
  refine zj_cpI (pc' := 45) (N := (zui (zui (zui M 147 r0_0v1) 148 r0_1v2) 149 r0_2v3)) dX9_copyFrom_42 rfl mlX9_44 zcpw sh38 sh149 tn0 tn0 tn40 (by decide) (by decide) (Nat.le_of_ble_eq_true rfl) (Nat.le_of_ble_eq_true rfl) (zr_n rfl (zr_n rfl e_i38)) (zr_n rfl (zr_n rfl e_i149)) er0_2v3 rfl (Nat.le_of_ble_eq_true rfl) (Nat.le_of_ble_eq_true rfl) ?_
  refine zj_aload_n (pc' := 46) 0 dX9_copyFrom_45 rfl rfl rfl ?_
  refine zj_aload_n (pc' := 47) 1 dX9_copyFrom_46 rfl rfl rfl ?_
  refine zj_fI (pc' := 50) dX9_copyFrom_47 rfl flX9_35 sh35 rfl (zr_n rfl (zr_n rfl (zr_n rfl e_i35))) rfl ?_
  obtain ⟨r0v4, er0v4⟩ : ∃ z, z = (zup r0 5 (r1 5)) := ⟨_, rfl⟩
  have hy := zlet_at er0v4 hy
  refine zj_pI (pc' := 53) (N := (zui (zui (zui (zui M 146 r0v4) 147 r0_0v1) 148 r0_1v2) 149 r0_2v3)) dX9_copyFrom_50 rfl fpX9_35 sh146 rfl (zr_n rfl (zr_n rfl (zr_n rfl e_i146))) er0v4 (zm_n rfl (zm_n rfl (zm_n rfl rfl))) ?_
  refine zj_aload_n (pc' := 54) 0 dX9_copyFrom_53 rfl rfl rfl ?_
  refine zj_aload_n (pc' := 55) 1 dX9_copyFrom_54 rfl rfl rfl ?_
  refine zj_fI (pc' := 58) dX9_copyFrom_55 rfl flX9_31 sh35 rfl (zr_n rfl (zr_n rfl (zr_n rfl (zr_n rfl e_i35)))) rfl ?_
  obtain ⟨r0v5, er0v5⟩ : ∃ z, z = (zup r0v4 8 (r1 8)) := ⟨_, rfl⟩
  have hy := zlet_at er0v5 hy
  refine zj_pI (pc' := 61) (N := (zui (zui (zui (zui M 146 r0v5) 147 r0_0v1) 148 r0_1v2) 149 r0_2v3)) dX9_copyFrom_58 rfl fpX9_31 sh146 rfl (zr_n rfl (zr_n rfl (zr_n rfl zr_s))) er0v5 (zm_n rfl (zm_n rfl (zm_n rfl zm_s))) ?_
  refine zj_aload_n (pc' := 62) 0 dX9_copyFrom_61 rfl rfl rfl ?_
  refine zj_aload_n (pc' := 63) 1 dX9_copyFrom_62 rfl rfl rfl ?_
  refine zj_fI (pc' := 66) dX9_copyFrom_63 rfl flX9_27 sh35 rfl (zr_n rfl (zr_n rfl (zr_n rfl (zr_n rfl e_i35)))) rfl ?_
  obtain ⟨c7, hy⟩ := zck hy
  obtain ⟨r0v6, er0v6⟩ : ∃ z, z = (zup r0v5 10 (r1 10)) := ⟨_, rfl⟩
  have hy := zlet_at er0v6 hy
  refine zj_pZ (pc' := 69) (N := (zui (zui (zui (zui M 146 r0v6) 147 r0_0v1) 148 r0_1v2) 149 r0_2v3)) dX9_copyFrom_66 rfl fpX9_27 sh146 rfl c7 (zr_n rfl (zr_n rfl (zr_n rfl zr_s))) er0v6 (zm_n rfl (zm_n rfl (zm_n rfl zm_s))) ?_
  have e9 := Option.some.inj hy
  subst e9
  exact zj_vret dX9_copyFrom_69 rfl hq
set_option maxRecDepth 20000 in
theorem LX9_copyFrom_146_35 (Γ : zG) (M : zM) (r0 : Nat → Int32) (r0_0 : Nat → Int32) (r0_1 : Nat → Int32) (r0_2 : Nat → Int32) (r1 : Nat → Int32) (r1_0 : Nat → Int32) (r1_1 : Nat → Int32) (r1_2 : Nat → Int32) (e_i146 : M.1 146 = r0) (e_i147 : M.1 147 = r0_0) (e_i148 : M.1 148 = r0_1) (e_i149 : M.1 149 = r0_2) (e_i35 : M.1 35 = r1) (e_i36 : M.1 36 = r1_0) (e_i37 : M.1 37 = r1_1) (e_i38 : M.1 38 = r1_2)  {res : (Nat → Int32) × (Nat → Int32) × (Nat → Int32) × (Nat → Int32)} (hy : (fSn_copyFrom r0 r0_0 r0_1 r0_2 r1 r1_0 r1_1 r1_2) = some res) : zK Γ 2 YX9_copyFrom [.ref (zad Γ 146), .ref (zad Γ 35)] M (fun v N => v = none ∧ N = (zui (zui (zui (zui M 146 res.1) 147 res.2.1) 148 res.2.2.1) 149 res.2.2.2)) :=
  zK_of (by decide) (Nat.le_of_ble_eq_true rfl) (TX9_copyFrom_146_35 Γ M r0 r0_0 r0_1 r0_2 r1 r1_0 r1_1 r1_2 e_i146 e_i147 e_i148 e_i149 e_i35 e_i36 e_i37 e_i38 hy ⟨rfl, rfl⟩)


set_option maxRecDepth 20000 in
theorem TX4_keep_130_5_15_35 (Γ : zG) {Q : Option Value → zM → Prop} (M : zM) (r0 : Nat → Int32) (r0_0 : Nat → Int32) (w0_0_0 : Nat → Int64) (w0_0_1 : Nat → Int64) (r0_0_2 : Nat → Int32) (r0_0_3 : Nat → Int32) (r0_1 : Nat → Int32) (r0_1_0 : Nat → Int32) (r0_1_1 : Nat → Int32) (r0_1_2 : Nat → Int32) (r0_1_3 : Nat → Int32) (r0_1_4 : Nat → Int32) (r0_1_5 : Nat → Int32) (r0_1_6 : Nat → Int32) (r0_1_7 : Nat → Int32) (r0_2 : Nat → Int32) (r0_2_0 : Nat → Int32) (r0_2_1 : Nat → Int32) (r0_2_2 : Nat → Int32) (r1 : Nat → Int32) (w1_0 : Nat → Int64) (w1_1 : Nat → Int64) (r1_2 : Nat → Int32) (r1_3 : Nat → Int32) (r2 : Nat → Int32) (r2_0 : Nat → Int32) (r2_1 : Nat → Int32) (r2_2 : Nat → Int32) (r2_3 : Nat → Int32) (r2_4 : Nat → Int32) (r2_5 : Nat → Int32) (r2_6 : Nat → Int32) (r2_7 : Nat → Int32) (r3 : Nat → Int32) (r3_0 : Nat → Int32) (r3_1 : Nat → Int32) (r3_2 : Nat → Int32) (e_i130 : M.1 130 = r0) (e_i131 : M.1 131 = r0_0) (e_l132 : M.2 132 = w0_0_0) (e_l133 : M.2 133 = w0_0_1) (e_i134 : M.1 134 = r0_0_2) (e_i135 : M.1 135 = r0_0_3) (e_i136 : M.1 136 = r0_1) (e_i137 : M.1 137 = r0_1_0) (e_i138 : M.1 138 = r0_1_1) (e_i139 : M.1 139 = r0_1_2) (e_i140 : M.1 140 = r0_1_3) (e_i141 : M.1 141 = r0_1_4) (e_i142 : M.1 142 = r0_1_5) (e_i143 : M.1 143 = r0_1_6) (e_i144 : M.1 144 = r0_1_7) (e_i146 : M.1 146 = r0_2) (e_i147 : M.1 147 = r0_2_0) (e_i148 : M.1 148 = r0_2_1) (e_i149 : M.1 149 = r0_2_2) (e_i5 : M.1 5 = r1) (e_l6 : M.2 6 = w1_0) (e_l7 : M.2 7 = w1_1) (e_i8 : M.1 8 = r1_2) (e_i9 : M.1 9 = r1_3) (e_i15 : M.1 15 = r2) (e_i16 : M.1 16 = r2_0) (e_i17 : M.1 17 = r2_1) (e_i18 : M.1 18 = r2_2) (e_i19 : M.1 19 = r2_3) (e_i20 : M.1 20 = r2_4) (e_i21 : M.1 21 = r2_5) (e_i22 : M.1 22 = r2_6) (e_i23 : M.1 23 = r2_7) (e_i35 : M.1 35 = r3) (e_i36 : M.1 36 = r3_0) (e_i37 : M.1 37 = r3_1) (e_i38 : M.1 38 = r3_2)  {res : (Nat → Int32) × (Nat → Int32) × (Nat → Int64) × (Nat → Int64) × (Nat → Int32) × (Nat → Int32) × (Nat → Int32) × (Nat → Int32) × (Nat → Int32) × (Nat → Int32) × (Nat → Int32) × (Nat → Int32) × (Nat → Int32) × (Nat → Int32) × (Nat → Int32) × (Nat → Int32) × (Nat → Int32) × (Nat → Int32) × (Nat → Int32)} (hy : (fKp_keep r0 r0_0 w0_0_0 w0_0_1 r0_0_2 r0_0_3 r0_1 r0_1_0 r0_1_1 r0_1_2 r0_1_3 r0_1_4 r0_1_5 r0_1_6 r0_1_7 r0_2 r0_2_0 r0_2_1 r0_2_2 r1 w1_0 w1_1 r1_2 r1_3 r2 r2_0 r2_1 r2_2 r2_3 r2_4 r2_5 r2_6 r2_7 r3 r3_0 r3_1 r3_2) = some res) (hq : Q none (zui (zui (zui (zui (zui (zui (zui (zui (zui (zui (zui (zui (zui (zui (zui (zui (zui (zul (zul M 132 res.2.2.1) 133 res.2.2.2.1) 130 res.1) 131 res.2.1) 134 res.2.2.2.2.1) 135 res.2.2.2.2.2.1) 136 res.2.2.2.2.2.2.1) 137 res.2.2.2.2.2.2.2.1) 138 res.2.2.2.2.2.2.2.2.1) 139 res.2.2.2.2.2.2.2.2.2.1) 140 res.2.2.2.2.2.2.2.2.2.2.1) 141 res.2.2.2.2.2.2.2.2.2.2.2.1) 142 res.2.2.2.2.2.2.2.2.2.2.2.2.1) 143 res.2.2.2.2.2.2.2.2.2.2.2.2.2.1) 144 res.2.2.2.2.2.2.2.2.2.2.2.2.2.2.1) 146 res.2.2.2.2.2.2.2.2.2.2.2.2.2.2.2.1) 147 res.2.2.2.2.2.2.2.2.2.2.2.2.2.2.2.2.1) 148 res.2.2.2.2.2.2.2.2.2.2.2.2.2.2.2.2.2.1) 149 res.2.2.2.2.2.2.2.2.2.2.2.2.2.2.2.2.2.2)) : zR Γ 3 YX4_keep 0 [(0, .ref (zad Γ 130)), (1, .ref (zad Γ 5)), (2, .ref (zad Γ 15)), (3, .ref (zad Γ 35))] [] M Q := by
  unfold fKp_keep at hy
  refine zj_aload_n (pc' := 1) 0 dX4_keep_0 rfl rfl rfl ?_
  refine zj_getR (pc' := 4) (j := 131) dX4_keep_1 rfl flX4_10 sh130 rfl ?_
  refine zj_aload_n (pc' := 5) 1 dX4_keep_4 rfl rfl rfl ?_
  obtain ⟨y1, hy1, hy⟩ := zt_b hy
  refine zj_V0 (pc' := 8) (z := YX7_copyFrom) (As := [.ref (zad Γ 5)]) (N := (zui (zui (zui (zul (zul M 132 y1.2.1) 133 y1.2.2.1) 131 y1.1) 134 y1.2.2.2.1) 135 y1.2.2.2.2)) dX4_keep_5 rfl mlX4_34 lkX7_copyFrom sh131 ⟨_, _, rfl⟩ rfl rfl (Nat.le_of_ble_eq_true rfl) (Nat.le_of_ble_eq_true rfl) (LX7_copyFrom_131_5 Γ _ r0_0 w0_0_0 w0_0_1 r0_0_2 r0_0_3 r1 w1_0 w1_1 r1_2 r1_3 e_i131 e_l132 e_l133 e_i134 e_i135 e_i5 e_l6 e_l7 e_i8 e_i9 hy1) ((zch_i (zch_i (zch_i (zch_l rfl rfl) rfl) rfl) rfl)).symm ?_
  refine zj_aload_n (pc' := 9) 0 dX4_keep_8 rfl rfl rfl ?_
  refine zj_getR (pc' := 12) (j := 136) dX4_keep_9 rfl flX4_19 sh130 rfl ?_
  refine zj_aload_n (pc' := 13) 2 dX4_keep_12 rfl rfl rfl ?_
  obtain ⟨y2, hy2, hy⟩ := zt_b hy
  refine zj_V0 (pc' := 16) (z := YX1_copyFrom) (As := [.ref (zad Γ 15)]) (N := (zui (zui (zui (zui (zui (zui (zui (zui (zui (zui (zui (zui (zul (zul M 132 y1.2.1) 133 y1.2.2.1) 131 y1.1) 134 y1.2.2.2.1) 135 y1.2.2.2.2) 136 y2.1) 137 y2.2.1) 138 y2.2.2.1) 139 y2.2.2.2.1) 140 y2.2.2.2.2.1) 141 y2.2.2.2.2.2.1) 142 y2.2.2.2.2.2.2.1) 143 y2.2.2.2.2.2.2.2.1) 144 y2.2.2.2.2.2.2.2.2)) dX4_keep_13 rfl mlX4_38 lkX1_copyFrom sh136 ⟨_, _, rfl⟩ rfl rfl (Nat.le_of_ble_eq_true rfl) (Nat.le_of_ble_eq_true rfl) (LX1_copyFrom_136_15 Γ _ r0_1 r0_1_0 r0_1_1 r0_1_2 r0_1_3 r0_1_4 r0_1_5 r0_1_6 r0_1_7 r2 r2_0 r2_1 r2_2 r2_3 r2_4 r2_5 r2_6 r2_7 (zr_n rfl (zr_n rfl (zr_n rfl (zr_l (zr_l e_i136))))) (zr_n rfl (zr_n rfl (zr_n rfl (zr_l (zr_l e_i137))))) (zr_n rfl (zr_n rfl (zr_n rfl (zr_l (zr_l e_i138))))) (zr_n rfl (zr_n rfl (zr_n rfl (zr_l (zr_l e_i139))))) (zr_n rfl (zr_n rfl (zr_n rfl (zr_l (zr_l e_i140))))) (zr_n rfl (zr_n rfl (zr_n rfl (zr_l (zr_l e_i141))))) (zr_n rfl (zr_n rfl (zr_n rfl (zr_l (zr_l e_i142))))) (zr_n rfl (zr_n rfl (zr_n rfl (zr_l (zr_l e_i143))))) (zr_n rfl (zr_n rfl (zr_n rfl (zr_l (zr_l e_i144))))) (zr_n rfl (zr_n rfl (zr_n rfl (zr_l (zr_l e_i15))))) (zr_n rfl (zr_n rfl (zr_n rfl (zr_l (zr_l e_i16))))) (zr_n rfl (zr_n rfl (zr_n rfl (zr_l (zr_l e_i17))))) (zr_n rfl (zr_n rfl (zr_n rfl (zr_l (zr_l e_i18))))) (zr_n rfl (zr_n rfl (zr_n rfl (zr_l (zr_l e_i19))))) (zr_n rfl (zr_n rfl (zr_n rfl (zr_l (zr_l e_i20))))) (zr_n rfl (zr_n rfl (zr_n rfl (zr_l (zr_l e_i21))))) (zr_n rfl (zr_n rfl (zr_n rfl (zr_l (zr_l e_i22))))) (zr_n rfl (zr_n rfl (zr_n rfl (zr_l (zr_l e_i23))))) hy2) ((zch_i (zch_i (zch_i (zch_i (zch_i (zch_i (zch_i (zch_i rfl rfl) rfl) rfl) rfl) rfl) rfl) rfl) rfl)).symm ?_
  refine zj_aload_n (pc' := 17) 0 dX4_keep_16 rfl rfl rfl ?_
  refine zj_getR (pc' := 20) (j := 146) dX4_keep_17 rfl flX4_26 sh130 rfl ?_
  refine zj_aload_n (pc' := 21) 3 dX4_keep_20 rfl rfl rfl ?_
  obtain ⟨y3, hy3, hy⟩ := zt_b hy
  refine zj_V0 (pc' := 24) (z := YX9_copyFrom) (As := [.ref (zad Γ 35)]) (N := (zui (zui (zui (zui (zui (zui (zui (zui (zui (zui (zui (zui (zui (zui (zui (zui (zul (zul M 132 y1.2.1) 133 y1.2.2.1) 131 y1.1) 134 y1.2.2.2.1) 135 y1.2.2.2.2) 136 y2.1) 137 y2.2.1) 138 y2.2.2.1) 139 y2.2.2.2.1) 140 y2.2.2.2.2.1) 141 y2.2.2.2.2.2.1) 142 y2.2.2.2.2.2.2.1) 143 y2.2.2.2.2.2.2.2.1) 144 y2.2.2.2.2.2.2.2.2) 146 y3.1) 147 y3.2.1) 148 y3.2.2.1) 149 y3.2.2.2)) dX4_keep_21 rfl mlX4_41 lkX9_copyFrom sh146 ⟨_, _, rfl⟩ rfl rfl (Nat.le_of_ble_eq_true rfl) (Nat.le_of_ble_eq_true rfl) (LX9_copyFrom_146_35 Γ _ r0_2 r0_2_0 r0_2_1 r0_2_2 r3 r3_0 r3_1 r3_2 (zr_n rfl (zr_n rfl (zr_n rfl (zr_n rfl (zr_n rfl (zr_n rfl (zr_n rfl (zr_n rfl (zr_n rfl (zr_n rfl (zr_n rfl (zr_n rfl (zr_l (zr_l e_i146)))))))))))))) (zr_n rfl (zr_n rfl (zr_n rfl (zr_n rfl (zr_n rfl (zr_n rfl (zr_n rfl (zr_n rfl (zr_n rfl (zr_n rfl (zr_n rfl (zr_n rfl (zr_l (zr_l e_i147)))))))))))))) (zr_n rfl (zr_n rfl (zr_n rfl (zr_n rfl (zr_n rfl (zr_n rfl (zr_n rfl (zr_n rfl (zr_n rfl (zr_n rfl (zr_n rfl (zr_n rfl (zr_l (zr_l e_i148)))))))))))))) (zr_n rfl (zr_n rfl (zr_n rfl (zr_n rfl (zr_n rfl (zr_n rfl (zr_n rfl (zr_n rfl (zr_n rfl (zr_n rfl (zr_n rfl (zr_n rfl (zr_l (zr_l e_i149)))))))))))))) (zr_n rfl (zr_n rfl (zr_n rfl (zr_n rfl (zr_n rfl (zr_n rfl (zr_n rfl (zr_n rfl (zr_n rfl (zr_n rfl (zr_n rfl (zr_n rfl (zr_l (zr_l e_i35)))))))))))))) (zr_n rfl (zr_n rfl (zr_n rfl (zr_n rfl (zr_n rfl (zr_n rfl (zr_n rfl (zr_n rfl (zr_n rfl (zr_n rfl (zr_n rfl (zr_n rfl (zr_l (zr_l e_i36)))))))))))))) (zr_n rfl (zr_n rfl (zr_n rfl (zr_n rfl (zr_n rfl (zr_n rfl (zr_n rfl (zr_n rfl (zr_n rfl (zr_n rfl (zr_n rfl (zr_n rfl (zr_l (zr_l e_i37)))))))))))))) (zr_n rfl (zr_n rfl (zr_n rfl (zr_n rfl (zr_n rfl (zr_n rfl (zr_n rfl (zr_n rfl (zr_n rfl (zr_n rfl (zr_n rfl (zr_n rfl (zr_l (zr_l e_i38)))))))))))))) hy3) ((zch_i (zch_i (zch_i rfl rfl) rfl) rfl)).symm ?_
  refine zj_aload_n (pc' := 25) 0 dX4_keep_24 rfl rfl rfl ?_
  refine zj_iconst (pc' := 26) dX4_keep_25 rfl kiconst_1 ?_
  obtain ⟨r0v4, er0v4⟩ : ∃ z, z = (zup r0 3 1) := ⟨_, rfl⟩
  have hy := zlet_at er0v4 hy
  refine zj_pZ (pc' := 29) (N := (zui (zui (zui (zui (zui (zui (zui (zui (zui (zui (zui (zui (zui (zui (zui (zui (zui (zul (zul M 132 y1.2.1) 133 y1.2.2.1) 130 r0v4) 131 y1.1) 134 y1.2.2.2.1) 135 y1.2.2.2.2) 136 y2.1) 137 y2.2.1) 138 y2.2.2.1) 139 y2.2.2.2.1) 140 y2.2.2.2.2.1) 141 y2.2.2.2.2.2.1) 142 y2.2.2.2.2.2.2.1) 143 y2.2.2.2.2.2.2.2.1) 144 y2.2.2.2.2.2.2.2.2) 146 y3.1) 147 y3.2.1) 148 y3.2.2.1) 149 y3.2.2.2)) dX4_keep_26 rfl fpX4_30 sh130 rfl (Or.inr rfl) (zr_n rfl (zr_n rfl (zr_n rfl (zr_n rfl (zr_n rfl (zr_n rfl (zr_n rfl (zr_n rfl (zr_n rfl (zr_n rfl (zr_n rfl (zr_n rfl (zr_n rfl (zr_n rfl (zr_n rfl (zr_n rfl (zr_l (zr_l e_i130)))))))))))))))))) er0v4 (zm_n rfl (zm_n rfl (zm_n rfl (zm_n rfl (zm_n rfl (zm_n rfl (zm_n rfl (zm_n rfl (zm_n rfl (zm_n rfl (zm_n rfl (zm_n rfl (zm_n rfl (zm_n rfl (zm_n rfl (zm_n rfl rfl)))))))))))))))) ?_
  have e9 := Option.some.inj hy
  subst e9
  exact zj_vret dX4_keep_29 rfl hq
set_option maxRecDepth 20000 in
theorem LX4_keep_130_5_15_35 (Γ : zG) (M : zM) (r0 : Nat → Int32) (r0_0 : Nat → Int32) (w0_0_0 : Nat → Int64) (w0_0_1 : Nat → Int64) (r0_0_2 : Nat → Int32) (r0_0_3 : Nat → Int32) (r0_1 : Nat → Int32) (r0_1_0 : Nat → Int32) (r0_1_1 : Nat → Int32) (r0_1_2 : Nat → Int32) (r0_1_3 : Nat → Int32) (r0_1_4 : Nat → Int32) (r0_1_5 : Nat → Int32) (r0_1_6 : Nat → Int32) (r0_1_7 : Nat → Int32) (r0_2 : Nat → Int32) (r0_2_0 : Nat → Int32) (r0_2_1 : Nat → Int32) (r0_2_2 : Nat → Int32) (r1 : Nat → Int32) (w1_0 : Nat → Int64) (w1_1 : Nat → Int64) (r1_2 : Nat → Int32) (r1_3 : Nat → Int32) (r2 : Nat → Int32) (r2_0 : Nat → Int32) (r2_1 : Nat → Int32) (r2_2 : Nat → Int32) (r2_3 : Nat → Int32) (r2_4 : Nat → Int32) (r2_5 : Nat → Int32) (r2_6 : Nat → Int32) (r2_7 : Nat → Int32) (r3 : Nat → Int32) (r3_0 : Nat → Int32) (r3_1 : Nat → Int32) (r3_2 : Nat → Int32) (e_i130 : M.1 130 = r0) (e_i131 : M.1 131 = r0_0) (e_l132 : M.2 132 = w0_0_0) (e_l133 : M.2 133 = w0_0_1) (e_i134 : M.1 134 = r0_0_2) (e_i135 : M.1 135 = r0_0_3) (e_i136 : M.1 136 = r0_1) (e_i137 : M.1 137 = r0_1_0) (e_i138 : M.1 138 = r0_1_1) (e_i139 : M.1 139 = r0_1_2) (e_i140 : M.1 140 = r0_1_3) (e_i141 : M.1 141 = r0_1_4) (e_i142 : M.1 142 = r0_1_5) (e_i143 : M.1 143 = r0_1_6) (e_i144 : M.1 144 = r0_1_7) (e_i146 : M.1 146 = r0_2) (e_i147 : M.1 147 = r0_2_0) (e_i148 : M.1 148 = r0_2_1) (e_i149 : M.1 149 = r0_2_2) (e_i5 : M.1 5 = r1) (e_l6 : M.2 6 = w1_0) (e_l7 : M.2 7 = w1_1) (e_i8 : M.1 8 = r1_2) (e_i9 : M.1 9 = r1_3) (e_i15 : M.1 15 = r2) (e_i16 : M.1 16 = r2_0) (e_i17 : M.1 17 = r2_1) (e_i18 : M.1 18 = r2_2) (e_i19 : M.1 19 = r2_3) (e_i20 : M.1 20 = r2_4) (e_i21 : M.1 21 = r2_5) (e_i22 : M.1 22 = r2_6) (e_i23 : M.1 23 = r2_7) (e_i35 : M.1 35 = r3) (e_i36 : M.1 36 = r3_0) (e_i37 : M.1 37 = r3_1) (e_i38 : M.1 38 = r3_2)  {res : (Nat → Int32) × (Nat → Int32) × (Nat → Int64) × (Nat → Int64) × (Nat → Int32) × (Nat → Int32) × (Nat → Int32) × (Nat → Int32) × (Nat → Int32) × (Nat → Int32) × (Nat → Int32) × (Nat → Int32) × (Nat → Int32) × (Nat → Int32) × (Nat → Int32) × (Nat → Int32) × (Nat → Int32) × (Nat → Int32) × (Nat → Int32)} (hy : (fKp_keep r0 r0_0 w0_0_0 w0_0_1 r0_0_2 r0_0_3 r0_1 r0_1_0 r0_1_1 r0_1_2 r0_1_3 r0_1_4 r0_1_5 r0_1_6 r0_1_7 r0_2 r0_2_0 r0_2_1 r0_2_2 r1 w1_0 w1_1 r1_2 r1_3 r2 r2_0 r2_1 r2_2 r2_3 r2_4 r2_5 r2_6 r2_7 r3 r3_0 r3_1 r3_2) = some res) : zK Γ 3 YX4_keep [.ref (zad Γ 130), .ref (zad Γ 5), .ref (zad Γ 15), .ref (zad Γ 35)] M (fun v N => v = none ∧ N = (zui (zui (zui (zui (zui (zui (zui (zui (zui (zui (zui (zui (zui (zui (zui (zui (zui (zul (zul M 132 res.2.2.1) 133 res.2.2.2.1) 130 res.1) 131 res.2.1) 134 res.2.2.2.2.1) 135 res.2.2.2.2.2.1) 136 res.2.2.2.2.2.2.1) 137 res.2.2.2.2.2.2.2.1) 138 res.2.2.2.2.2.2.2.2.1) 139 res.2.2.2.2.2.2.2.2.2.1) 140 res.2.2.2.2.2.2.2.2.2.2.1) 141 res.2.2.2.2.2.2.2.2.2.2.2.1) 142 res.2.2.2.2.2.2.2.2.2.2.2.2.1) 143 res.2.2.2.2.2.2.2.2.2.2.2.2.2.1) 144 res.2.2.2.2.2.2.2.2.2.2.2.2.2.2.1) 146 res.2.2.2.2.2.2.2.2.2.2.2.2.2.2.2.1) 147 res.2.2.2.2.2.2.2.2.2.2.2.2.2.2.2.2.1) 148 res.2.2.2.2.2.2.2.2.2.2.2.2.2.2.2.2.2.1) 149 res.2.2.2.2.2.2.2.2.2.2.2.2.2.2.2.2.2.2)) :=
  zK_of (by decide) (Nat.le_of_ble_eq_true rfl) (TX4_keep_130_5_15_35 Γ M r0 r0_0 w0_0_0 w0_0_1 r0_0_2 r0_0_3 r0_1 r0_1_0 r0_1_1 r0_1_2 r0_1_3 r0_1_4 r0_1_5 r0_1_6 r0_1_7 r0_2 r0_2_0 r0_2_1 r0_2_2 r1 w1_0 w1_1 r1_2 r1_3 r2 r2_0 r2_1 r2_2 r2_3 r2_4 r2_5 r2_6 r2_7 r3 r3_0 r3_1 r3_2 e_i130 e_i131 e_l132 e_l133 e_i134 e_i135 e_i136 e_i137 e_i138 e_i139 e_i140 e_i141 e_i142 e_i143 e_i144 e_i146 e_i147 e_i148 e_i149 e_i5 e_l6 e_l7 e_i8 e_i9 e_i15 e_i16 e_i17 e_i18 e_i19 e_i20 e_i21 e_i22 e_i23 e_i35 e_i36 e_i37 e_i38 hy ⟨rfl, rfl⟩)

noncomputable def fX_image (r0_2 : Nat → Int32) (w0_2_0 : Nat → Int64) (w0_2_1 : Nat → Int64) (r0_2_2 : Nat → Int32) (r0_2_3 : Nat → Int32) (r0_4 : Nat → Int32) (r0_4_0 : Nat → Int32) (r0_4_1 : Nat → Int32) (r0_4_2 : Nat → Int32) (r0_4_3 : Nat → Int32) (r0_4_4 : Nat → Int32) (r0_4_5 : Nat → Int32) (r0_4_6 : Nat → Int32) (r0_4_7 : Nat → Int32) (r0_6 : Nat → Int32) (r0_6_0 : Nat → Int32) (r0_6_1 : Nat → Int32) (r0_6_2 : Nat → Int32) (g130 : zM) (a1 : Int32) : Option (Bool × zM) :=
  (if a1 = 0 then
  (fKp_keep (g130.1 130) (g130.1 131) (g130.2 132) (g130.2 133) (g130.1 134) (g130.1 135) (g130.1 136) (g130.1 137) (g130.1 138) (g130.1 139) (g130.1 140) (g130.1 141) (g130.1 142) (g130.1 143) (g130.1 144) (g130.1 146) (g130.1 147) (g130.1 148) (g130.1 149) r0_2 w0_2_0 w0_2_1 r0_2_2 r0_2_3 r0_4 r0_4_0 r0_4_1 r0_4_2 r0_4_3 r0_4_4 r0_4_5 r0_4_6 r0_4_7 r0_6 r0_6_0 r0_6_1 r0_6_2).bind (fun (y2 : (Nat → Int32) × (Nat → Int32) × (Nat → Int64) × (Nat → Int64) × (Nat → Int32) × (Nat → Int32) × (Nat → Int32) × (Nat → Int32) × (Nat → Int32) × (Nat → Int32) × (Nat → Int32) × (Nat → Int32) × (Nat → Int32) × (Nat → Int32) × (Nat → Int32) × (Nat → Int32) × (Nat → Int32) × (Nat → Int32) × (Nat → Int32)) =>
  some (true, (zui (zui (zui (zui (zui (zui (zui (zui (zui (zui (zui (zui (zui (zui (zui (zui (zui (zul (zul g130 132 y2.2.2.1) 133 y2.2.2.2.1) 130 y2.1) 131 y2.2.1) 134 y2.2.2.2.2.1) 135 y2.2.2.2.2.2.1) 136 y2.2.2.2.2.2.2.1) 137 y2.2.2.2.2.2.2.2.1) 138 y2.2.2.2.2.2.2.2.2.1) 139 y2.2.2.2.2.2.2.2.2.2.1) 140 y2.2.2.2.2.2.2.2.2.2.2.1) 141 y2.2.2.2.2.2.2.2.2.2.2.2.1) 142 y2.2.2.2.2.2.2.2.2.2.2.2.2.1) 143 y2.2.2.2.2.2.2.2.2.2.2.2.2.2.1) 144 y2.2.2.2.2.2.2.2.2.2.2.2.2.2.2.1) 146 y2.2.2.2.2.2.2.2.2.2.2.2.2.2.2.2.1) 147 y2.2.2.2.2.2.2.2.2.2.2.2.2.2.2.2.2.1) 148 y2.2.2.2.2.2.2.2.2.2.2.2.2.2.2.2.2.2.1) 149 y2.2.2.2.2.2.2.2.2.2.2.2.2.2.2.2.2.2.2)))
  else
  (if a1 = 1 then
  (fKp_keep (g130.1 152) (g130.1 153) (g130.2 154) (g130.2 155) (g130.1 156) (g130.1 157) (g130.1 158) (g130.1 159) (g130.1 160) (g130.1 161) (g130.1 162) (g130.1 163) (g130.1 164) (g130.1 165) (g130.1 166) (g130.1 168) (g130.1 169) (g130.1 170) (g130.1 171) r0_2 w0_2_0 w0_2_1 r0_2_2 r0_2_3 r0_4 r0_4_0 r0_4_1 r0_4_2 r0_4_3 r0_4_4 r0_4_5 r0_4_6 r0_4_7 r0_6 r0_6_0 r0_6_1 r0_6_2).bind (fun (y4 : (Nat → Int32) × (Nat → Int32) × (Nat → Int64) × (Nat → Int64) × (Nat → Int32) × (Nat → Int32) × (Nat → Int32) × (Nat → Int32) × (Nat → Int32) × (Nat → Int32) × (Nat → Int32) × (Nat → Int32) × (Nat → Int32) × (Nat → Int32) × (Nat → Int32) × (Nat → Int32) × (Nat → Int32) × (Nat → Int32) × (Nat → Int32)) =>
  some (true, (zui (zui (zui (zui (zui (zui (zui (zui (zui (zui (zui (zui (zui (zui (zui (zui (zui (zul (zul g130 154 y4.2.2.1) 155 y4.2.2.2.1) 152 y4.1) 153 y4.2.1) 156 y4.2.2.2.2.1) 157 y4.2.2.2.2.2.1) 158 y4.2.2.2.2.2.2.1) 159 y4.2.2.2.2.2.2.2.1) 160 y4.2.2.2.2.2.2.2.2.1) 161 y4.2.2.2.2.2.2.2.2.2.1) 162 y4.2.2.2.2.2.2.2.2.2.2.1) 163 y4.2.2.2.2.2.2.2.2.2.2.2.1) 164 y4.2.2.2.2.2.2.2.2.2.2.2.2.1) 165 y4.2.2.2.2.2.2.2.2.2.2.2.2.2.1) 166 y4.2.2.2.2.2.2.2.2.2.2.2.2.2.2.1) 168 y4.2.2.2.2.2.2.2.2.2.2.2.2.2.2.2.1) 169 y4.2.2.2.2.2.2.2.2.2.2.2.2.2.2.2.2.1) 170 y4.2.2.2.2.2.2.2.2.2.2.2.2.2.2.2.2.2.1) 171 y4.2.2.2.2.2.2.2.2.2.2.2.2.2.2.2.2.2.2)))
  else
  some (false, g130)))

set_option maxRecDepth 20000 in
theorem TX11_image_0 (Γ : zG) {Q : Option Value → zM → Prop} (M : zM) (r0_2 : Nat → Int32) (w0_2_0 : Nat → Int64) (w0_2_1 : Nat → Int64) (r0_2_2 : Nat → Int32) (r0_2_3 : Nat → Int32) (r0_4 : Nat → Int32) (r0_4_0 : Nat → Int32) (r0_4_1 : Nat → Int32) (r0_4_2 : Nat → Int32) (r0_4_3 : Nat → Int32) (r0_4_4 : Nat → Int32) (r0_4_5 : Nat → Int32) (r0_4_6 : Nat → Int32) (r0_4_7 : Nat → Int32) (r0_6 : Nat → Int32) (r0_6_0 : Nat → Int32) (r0_6_1 : Nat → Int32) (r0_6_2 : Nat → Int32) (g130 : zM) (e_i5 : M.1 5 = r0_2) (e_l6 : M.2 6 = w0_2_0) (e_l7 : M.2 7 = w0_2_1) (e_i8 : M.1 8 = r0_2_2) (e_i9 : M.1 9 = r0_2_3) (e_i15 : M.1 15 = r0_4) (e_i16 : M.1 16 = r0_4_0) (e_i17 : M.1 17 = r0_4_1) (e_i18 : M.1 18 = r0_4_2) (e_i19 : M.1 19 = r0_4_3) (e_i20 : M.1 20 = r0_4_4) (e_i21 : M.1 21 = r0_4_5) (e_i22 : M.1 22 = r0_4_6) (e_i23 : M.1 23 = r0_4_7) (e_i35 : M.1 35 = r0_6) (e_i36 : M.1 36 = r0_6_0) (e_i37 : M.1 37 = r0_6_1) (e_i38 : M.1 38 = r0_6_2) (e_h130 : zeq M 130 174 g130) (a1 : Int32) {res : Bool × zM} (hy : (fX_image r0_2 w0_2_0 w0_2_1 r0_2_2 r0_2_3 r0_4 r0_4_0 r0_4_1 r0_4_2 r0_4_3 r0_4_4 r0_4_5 r0_4_6 r0_4_7 r0_6 r0_6_0 r0_6_1 r0_6_2 g130 a1) = some res) (hq : Q (some (.int (zb res.1))) (zub M 130 174 res.2)) : zR Γ 4 YX11_image 0 [(0, .ref (zad Γ 0)), (1, .int a1)] [] M Q := by
  unfold fX_image at hy
  refine zj_mem (N := (zub M 130 174 g130)) (zself_h e_h130 rfl) ?_
  refine zj_aload_n (pc' := 1) 0 dX11_image_0 rfl rfl rfl ?_
  refine zj_iload_n (pc' := 2) 1 dX11_image_1 rfl rfl rfl ?_
  rcases Decidable.em (a1 = 0) with c1 | c1
  · have hy := zt_t hy c1
    refine zj_V1 (pc' := 5) (z := YX11_imageIn) (As := [.int a1]) (N := (zub M 130 174 g130)) dX11_image_2 rfl mlX11_379 lkX11_imageIn sh0 ⟨_, _, rfl⟩ rfl rfl (Nat.le_of_ble_eq_true rfl) (Nat.le_of_ble_eq_true rfl) (LDX11_imageIn_0 Γ _ a1 c1) rfl ?_
    refine zj_astore_n (pc' := 6) (L' := [(2, .ref (zad Γ 130)), (0, .ref (zad Γ 0)), (1, .int a1)]) dX11_image_5 rfl rfl (by decide) rfl ?_
    refine zj_aload_n (pc' := 7) 0 dX11_image_6 rfl rfl rfl ?_
    refine zj_ifnonnull (tgt := 12) dX11_image_7 (by decide) ?_
    refine zj_aload_n (pc' := 13) 0 dX11_image_12 rfl rfl rfl ?_
    refine zj_aload_n (pc' := 14) 1 dX11_image_13 rfl rfl rfl ?_
    refine zj_getR (pc' := 17) (j := 5) dX11_image_14 rfl flX11_28 sh0 rfl ?_
    refine zj_aload_n (pc' := 18) 1 dX11_image_17 rfl rfl rfl ?_
    refine zj_getR (pc' := 21) (j := 15) dX11_image_18 rfl flX11_38 sh0 rfl ?_
    refine zj_aload_n (pc' := 22) 1 dX11_image_21 rfl rfl rfl ?_
    refine zj_getR (pc' := 25) (j := 35) dX11_image_22 rfl flX11_48 sh0 rfl ?_
    obtain ⟨y2, hy2, hy⟩ := zt_b hy
    refine zj_V0 (pc' := 28) (z := YX4_keep) (As := [.ref (zad Γ 5), .ref (zad Γ 15), .ref (zad Γ 35)]) (N := (zub M 130 174 (zui (zui (zui (zui (zui (zui (zui (zui (zui (zui (zui (zui (zui (zui (zui (zui (zui (zul (zul g130 132 y2.2.2.1) 133 y2.2.2.2.1) 130 y2.1) 131 y2.2.1) 134 y2.2.2.2.2.1) 135 y2.2.2.2.2.2.1) 136 y2.2.2.2.2.2.2.1) 137 y2.2.2.2.2.2.2.2.1) 138 y2.2.2.2.2.2.2.2.2.1) 139 y2.2.2.2.2.2.2.2.2.2.1) 140 y2.2.2.2.2.2.2.2.2.2.2.1) 141 y2.2.2.2.2.2.2.2.2.2.2.2.1) 142 y2.2.2.2.2.2.2.2.2.2.2.2.2.1) 143 y2.2.2.2.2.2.2.2.2.2.2.2.2.2.1) 144 y2.2.2.2.2.2.2.2.2.2.2.2.2.2.2.1) 146 y2.2.2.2.2.2.2.2.2.2.2.2.2.2.2.2.1) 147 y2.2.2.2.2.2.2.2.2.2.2.2.2.2.2.2.2.1) 148 y2.2.2.2.2.2.2.2.2.2.2.2.2.2.2.2.2.2.1) 149 y2.2.2.2.2.2.2.2.2.2.2.2.2.2.2.2.2.2.2))) dX11_image_25 rfl mlX11_383 lkX4_keep sh130 ⟨_, _, rfl⟩ rfl rfl (Nat.le_of_ble_eq_true rfl) (Nat.le_of_ble_eq_true rfl) (LX4_keep_130_5_15_35 Γ _ (g130.1 130) (g130.1 131) (g130.2 132) (g130.2 133) (g130.1 134) (g130.1 135) (g130.1 136) (g130.1 137) (g130.1 138) (g130.1 139) (g130.1 140) (g130.1 141) (g130.1 142) (g130.1 143) (g130.1 144) (g130.1 146) (g130.1 147) (g130.1 148) (g130.1 149) r0_2 w0_2_0 w0_2_1 r0_2_2 r0_2_3 r0_4 r0_4_0 r0_4_1 r0_4_2 r0_4_3 r0_4_4 r0_4_5 r0_4_6 r0_4_7 r0_6 r0_6_0 r0_6_1 r0_6_2 (zr_in rfl rfl) (zr_in rfl rfl) (zr_inl rfl rfl) (zr_inl rfl rfl) (zr_in rfl rfl) (zr_in rfl rfl) (zr_in rfl rfl) (zr_in rfl rfl) (zr_in rfl rfl) (zr_in rfl rfl) (zr_in rfl rfl) (zr_in rfl rfl) (zr_in rfl rfl) (zr_in rfl rfl) (zr_in rfl rfl) (zr_in rfl rfl) (zr_in rfl rfl) (zr_in rfl rfl) (zr_in rfl rfl) (zr_b rfl e_i5) (zq_b rfl e_l6) (zq_b rfl e_l7) (zr_b rfl e_i8) (zr_b rfl e_i9) (zr_b rfl e_i15) (zr_b rfl e_i16) (zr_b rfl e_i17) (zr_b rfl e_i18) (zr_b rfl e_i19) (zr_b rfl e_i20) (zr_b rfl e_i21) (zr_b rfl e_i22) (zr_b rfl e_i23) (zr_b rfl e_i35) (zr_b rfl e_i36) (zr_b rfl e_i37) (zr_b rfl e_i38) hy2) ((zch_i (zch_i (zch_i (zch_i (zch_i (zch_i (zch_i (zch_i (zch_i (zch_i (zch_i (zch_i (zch_i (zch_i (zch_i (zch_i (zch_i (zch_l (zm_inl rfl rfl) (zm_inl rfl rfl)) (zm_in rfl rfl)) (zm_in rfl rfl)) (zm_in rfl rfl)) (zm_in rfl rfl)) (zm_in rfl rfl)) (zm_in rfl rfl)) (zm_in rfl rfl)) (zm_in rfl rfl)) (zm_in rfl rfl)) (zm_in rfl rfl)) (zm_in rfl rfl)) (zm_in rfl rfl)) (zm_in rfl rfl)) (zm_in rfl rfl)) (zm_in rfl rfl)) (zm_in rfl rfl)) (zm_in rfl rfl))).symm ?_
    refine zj_iconst (pc' := 29) dX11_image_28 rfl kiconst_1 ?_
    have e9 := Option.some.inj hy
    subst e9
    exact zj_bret (b := true) dX11_image_29 rfl hq
  · have hy := zt_f hy c1
    rcases Decidable.em (a1 = 1) with c3 | c3
    · have hy := zt_t hy c3
      refine zj_V1 (pc' := 5) (z := YX11_imageIn) (As := [.int a1]) (N := (zub M 130 174 g130)) dX11_image_2 rfl mlX11_379 lkX11_imageIn sh0 ⟨_, _, rfl⟩ rfl rfl (Nat.le_of_ble_eq_true rfl) (Nat.le_of_ble_eq_true rfl) (LDX11_imageIn_1 Γ _ a1 c3) rfl ?_
      refine zj_astore_n (pc' := 6) (L' := [(2, .ref (zad Γ 152)), (0, .ref (zad Γ 0)), (1, .int a1)]) dX11_image_5 rfl rfl (by decide) rfl ?_
      refine zj_aload_n (pc' := 7) 0 dX11_image_6 rfl rfl rfl ?_
      refine zj_ifnonnull (tgt := 12) dX11_image_7 (by decide) ?_
      refine zj_aload_n (pc' := 13) 0 dX11_image_12 rfl rfl rfl ?_
      refine zj_aload_n (pc' := 14) 1 dX11_image_13 rfl rfl rfl ?_
      refine zj_getR (pc' := 17) (j := 5) dX11_image_14 rfl flX11_28 sh0 rfl ?_
      refine zj_aload_n (pc' := 18) 1 dX11_image_17 rfl rfl rfl ?_
      refine zj_getR (pc' := 21) (j := 15) dX11_image_18 rfl flX11_38 sh0 rfl ?_
      refine zj_aload_n (pc' := 22) 1 dX11_image_21 rfl rfl rfl ?_
      refine zj_getR (pc' := 25) (j := 35) dX11_image_22 rfl flX11_48 sh0 rfl ?_
      obtain ⟨y4, hy4, hy⟩ := zt_b hy
      refine zj_V0 (pc' := 28) (z := YX4_keep) (As := [.ref (zad Γ 5), .ref (zad Γ 15), .ref (zad Γ 35)]) (N := (zub M 130 174 (zui (zui (zui (zui (zui (zui (zui (zui (zui (zui (zui (zui (zui (zui (zui (zui (zui (zul (zul g130 154 y4.2.2.1) 155 y4.2.2.2.1) 152 y4.1) 153 y4.2.1) 156 y4.2.2.2.2.1) 157 y4.2.2.2.2.2.1) 158 y4.2.2.2.2.2.2.1) 159 y4.2.2.2.2.2.2.2.1) 160 y4.2.2.2.2.2.2.2.2.1) 161 y4.2.2.2.2.2.2.2.2.2.1) 162 y4.2.2.2.2.2.2.2.2.2.2.1) 163 y4.2.2.2.2.2.2.2.2.2.2.2.1) 164 y4.2.2.2.2.2.2.2.2.2.2.2.2.1) 165 y4.2.2.2.2.2.2.2.2.2.2.2.2.2.1) 166 y4.2.2.2.2.2.2.2.2.2.2.2.2.2.2.1) 168 y4.2.2.2.2.2.2.2.2.2.2.2.2.2.2.2.1) 169 y4.2.2.2.2.2.2.2.2.2.2.2.2.2.2.2.2.1) 170 y4.2.2.2.2.2.2.2.2.2.2.2.2.2.2.2.2.2.1) 171 y4.2.2.2.2.2.2.2.2.2.2.2.2.2.2.2.2.2.2))) dX11_image_25 rfl mlX11_383 lkX4_keep sh152 ⟨_, _, rfl⟩ rfl rfl (Nat.le_of_ble_eq_true rfl) (Nat.le_of_ble_eq_true rfl) (LX4_keep_152_5_15_35 Γ _ (g130.1 152) (g130.1 153) (g130.2 154) (g130.2 155) (g130.1 156) (g130.1 157) (g130.1 158) (g130.1 159) (g130.1 160) (g130.1 161) (g130.1 162) (g130.1 163) (g130.1 164) (g130.1 165) (g130.1 166) (g130.1 168) (g130.1 169) (g130.1 170) (g130.1 171) r0_2 w0_2_0 w0_2_1 r0_2_2 r0_2_3 r0_4 r0_4_0 r0_4_1 r0_4_2 r0_4_3 r0_4_4 r0_4_5 r0_4_6 r0_4_7 r0_6 r0_6_0 r0_6_1 r0_6_2 (zr_in rfl rfl) (zr_in rfl rfl) (zr_inl rfl rfl) (zr_inl rfl rfl) (zr_in rfl rfl) (zr_in rfl rfl) (zr_in rfl rfl) (zr_in rfl rfl) (zr_in rfl rfl) (zr_in rfl rfl) (zr_in rfl rfl) (zr_in rfl rfl) (zr_in rfl rfl) (zr_in rfl rfl) (zr_in rfl rfl) (zr_in rfl rfl) (zr_in rfl rfl) (zr_in rfl rfl) (zr_in rfl rfl) (zr_b rfl e_i5) (zq_b rfl e_l6) (zq_b rfl e_l7) (zr_b rfl e_i8) (zr_b rfl e_i9) (zr_b rfl e_i15) (zr_b rfl e_i16) (zr_b rfl e_i17) (zr_b rfl e_i18) (zr_b rfl e_i19) (zr_b rfl e_i20) (zr_b rfl e_i21) (zr_b rfl e_i22) (zr_b rfl e_i23) (zr_b rfl e_i35) (zr_b rfl e_i36) (zr_b rfl e_i37) (zr_b rfl e_i38) hy4) ((zch_i (zch_i (zch_i (zch_i (zch_i (zch_i (zch_i (zch_i (zch_i (zch_i (zch_i (zch_i (zch_i (zch_i (zch_i (zch_i (zch_i (zch_l (zm_inl rfl rfl) (zm_inl rfl rfl)) (zm_in rfl rfl)) (zm_in rfl rfl)) (zm_in rfl rfl)) (zm_in rfl rfl)) (zm_in rfl rfl)) (zm_in rfl rfl)) (zm_in rfl rfl)) (zm_in rfl rfl)) (zm_in rfl rfl)) (zm_in rfl rfl)) (zm_in rfl rfl)) (zm_in rfl rfl)) (zm_in rfl rfl)) (zm_in rfl rfl)) (zm_in rfl rfl)) (zm_in rfl rfl)) (zm_in rfl rfl))).symm ?_
      refine zj_iconst (pc' := 29) dX11_image_28 rfl kiconst_1 ?_
      have e9 := Option.some.inj hy
      subst e9
      exact zj_bret (b := true) dX11_image_29 rfl hq
    · have hy := zt_f hy c3
      refine zj_V1 (pc' := 5) (z := YX11_imageIn) (As := [.int a1]) (N := (zub M 130 174 g130)) dX11_image_2 rfl mlX11_379 lkX11_imageIn sh0 ⟨_, _, rfl⟩ rfl rfl (Nat.le_of_ble_eq_true rfl) (Nat.le_of_ble_eq_true rfl) (LDX11_imageIn_n Γ _ a1 c1 c3) rfl ?_
      refine zj_astore_nN (pc' := 6) (L' := [(2, .null), (0, .ref (zad Γ 0)), (1, .int a1)]) dX11_image_5 rfl rfl (by decide) rfl ?_
      refine zj_aload_nN (pc' := 7) 0 dX11_image_6 rfl rfl rfl ?_
      refine zj_ifnonnullN (pc' := 10) dX11_image_7 rfl ?_
      refine zj_iconst (pc' := 11) dX11_image_10 rfl kiconst_0 ?_
      have e9 := Option.some.inj hy
      subst e9
      exact zj_bret (b := false) dX11_image_11 rfl hq
set_option maxRecDepth 20000 in
theorem LX11_image_0 (Γ : zG) (M : zM) (r0_2 : Nat → Int32) (w0_2_0 : Nat → Int64) (w0_2_1 : Nat → Int64) (r0_2_2 : Nat → Int32) (r0_2_3 : Nat → Int32) (r0_4 : Nat → Int32) (r0_4_0 : Nat → Int32) (r0_4_1 : Nat → Int32) (r0_4_2 : Nat → Int32) (r0_4_3 : Nat → Int32) (r0_4_4 : Nat → Int32) (r0_4_5 : Nat → Int32) (r0_4_6 : Nat → Int32) (r0_4_7 : Nat → Int32) (r0_6 : Nat → Int32) (r0_6_0 : Nat → Int32) (r0_6_1 : Nat → Int32) (r0_6_2 : Nat → Int32) (g130 : zM) (e_i5 : M.1 5 = r0_2) (e_l6 : M.2 6 = w0_2_0) (e_l7 : M.2 7 = w0_2_1) (e_i8 : M.1 8 = r0_2_2) (e_i9 : M.1 9 = r0_2_3) (e_i15 : M.1 15 = r0_4) (e_i16 : M.1 16 = r0_4_0) (e_i17 : M.1 17 = r0_4_1) (e_i18 : M.1 18 = r0_4_2) (e_i19 : M.1 19 = r0_4_3) (e_i20 : M.1 20 = r0_4_4) (e_i21 : M.1 21 = r0_4_5) (e_i22 : M.1 22 = r0_4_6) (e_i23 : M.1 23 = r0_4_7) (e_i35 : M.1 35 = r0_6) (e_i36 : M.1 36 = r0_6_0) (e_i37 : M.1 37 = r0_6_1) (e_i38 : M.1 38 = r0_6_2) (e_h130 : zeq M 130 174 g130) (a1 : Int32) {res : Bool × zM} (hy : (fX_image r0_2 w0_2_0 w0_2_1 r0_2_2 r0_2_3 r0_4 r0_4_0 r0_4_1 r0_4_2 r0_4_3 r0_4_4 r0_4_5 r0_4_6 r0_4_7 r0_6 r0_6_0 r0_6_1 r0_6_2 g130 a1) = some res) : zK Γ 4 YX11_image [.ref (zad Γ 0), .int a1] M (fun v N => v = some (.int (zb res.1)) ∧ N = (zub M 130 174 res.2)) :=
  zK_of (by decide) (Nat.le_of_ble_eq_true rfl) (TX11_image_0 Γ M r0_2 w0_2_0 w0_2_1 r0_2_2 r0_2_3 r0_4 r0_4_0 r0_4_1 r0_4_2 r0_4_3 r0_4_4 r0_4_5 r0_4_6 r0_4_7 r0_6 r0_6_0 r0_6_1 r0_6_2 g130 e_i5 e_l6 e_l7 e_i8 e_i9 e_i15 e_i16 e_i17 e_i18 e_i19 e_i20 e_i21 e_i22 e_i23 e_i35 e_i36 e_i37 e_i38 e_h130 a1 hy ⟨rfl, rfl⟩)

noncomputable def fKp_isFull (r0 : Nat → Int32) : Option (Bool) :=
  (if (r0 3) = 0 ∨ (r0 3) = 1 then some (decide ((r0 3) = 1)) else none)

set_option maxRecDepth 20000 in
theorem TX4_isFull_152 (Γ : zG) {Q : Option Value → zM → Prop} (M : zM) (r0 : Nat → Int32) (e_i152 : M.1 152 = r0)  {res : Bool} (hy : (fKp_isFull r0) = some res) (hq : Q (some (.int (zb res))) M) : zR Γ 1 YX4_isFull 0 [(0, .ref (zad Γ 152))] [] M Q := by
  unfold fKp_isFull at hy
  refine zj_aload_n (pc' := 1) 0 dX4_isFull_0 rfl rfl rfl ?_
  refine zj_fI (pc' := 4) dX4_isFull_1 rfl flX4_30 sh152 rfl e_i152 rfl ?_
  obtain ⟨cz9, hz9⟩ := zck hy
  have e9 := Option.some.inj hz9
  subst e9
  exact zj_cret dX4_isFull_4 rfl cz9 hq
set_option maxRecDepth 20000 in
theorem LX4_isFull_152 (Γ : zG) (M : zM) (r0 : Nat → Int32) (e_i152 : M.1 152 = r0)  {res : Bool} (hy : (fKp_isFull r0) = some res) : zK Γ 1 YX4_isFull [.ref (zad Γ 152)] M (fun v N => v = some (.int (zb res)) ∧ N = M) :=
  zK_of (by decide) (Nat.le_of_ble_eq_true rfl) (TX4_isFull_152 Γ M r0 e_i152 hy ⟨rfl, rfl⟩)


set_option maxRecDepth 20000 in
theorem TX7_copyFrom_5_153 (Γ : zG) {Q : Option Value → zM → Prop} (M : zM) (r0 : Nat → Int32) (w0_0 : Nat → Int64) (w0_1 : Nat → Int64) (r0_2 : Nat → Int32) (r0_3 : Nat → Int32) (r1 : Nat → Int32) (w1_0 : Nat → Int64) (w1_1 : Nat → Int64) (r1_2 : Nat → Int32) (r1_3 : Nat → Int32) (e_i5 : M.1 5 = r0) (e_l6 : M.2 6 = w0_0) (e_l7 : M.2 7 = w0_1) (e_i8 : M.1 8 = r0_2) (e_i9 : M.1 9 = r0_3) (e_i153 : M.1 153 = r1) (e_l154 : M.2 154 = w1_0) (e_l155 : M.2 155 = w1_1) (e_i156 : M.1 156 = r1_2) (e_i157 : M.1 157 = r1_3)  {res : (Nat → Int32) × (Nat → Int64) × (Nat → Int64) × (Nat → Int32) × (Nat → Int32)} (hy : (fPl_copyFrom r0 w0_0 w0_1 r0_2 r0_3 r1 w1_0 w1_1 r1_2 r1_3) = some res) (hq : Q none (zui (zui (zui (zul (zul M 6 res.2.1) 7 res.2.2.1) 5 res.1) 8 res.2.2.2.1) 9 res.2.2.2.2)) : zR Γ 2 YX7_copyFrom 0 [(0, .ref (zad Γ 5)), (1, .ref (zad Γ 153))] [] M Q := by
  unfold fPl_copyFrom at hy
  refine zj_aload_n (pc' := 1) 1 dX7_copyFrom_0 rfl rfl rfl ?_
  refine zj_getR (pc' := 4) (j := 154) dX7_copyFrom_1 rfl flX7_9 sh153 rfl ?_
  refine zj_iconst (pc' := 5) dX7_copyFrom_4 rfl kiconst_0 ?_
  refine zj_aload_n (pc' := 6) 0 dX7_copyFrom_5 rfl rfl rfl ?_
  refine zj_getR (pc' := 9) (j := 6) dX7_copyFrom_6 rfl flX7_9 sh5 rfl ?_
  refine zj_iconst (pc' := 10) dX7_copyFrom_9 rfl kiconst_0 ?_
  refine zj_bipush (pc' := 12) dX7_copyFrom_10 rfl kbipush_8 ?_
  obtain ⟨w0_0v1, ew0_0v1⟩ : ∃ z, z = (va_cpy w1_0 w0_0 0 0 8) := ⟨_, rfl⟩
  have hy := zlet_at ew0_0v1 hy
  refine zj_cpL (pc' := 15) (N := (zul M 6 w0_0v1)) dX7_copyFrom_12 rfl mlX7_65 zcpw sh154 sh6 tn0 tn0 tn8 (by decide) (by decide) (Nat.le_of_ble_eq_true rfl) (Nat.le_of_ble_eq_true rfl) e_l154 e_l6 ew0_0v1 rfl (Nat.le_of_ble_eq_true rfl) (Nat.le_of_ble_eq_true rfl) ?_
  refine zj_aload_n (pc' := 16) 1 dX7_copyFrom_15 rfl rfl rfl ?_
  refine zj_getR (pc' := 19) (j := 155) dX7_copyFrom_16 rfl flX7_15 sh153 rfl ?_
  refine zj_iconst (pc' := 20) dX7_copyFrom_19 rfl kiconst_0 ?_
  refine zj_aload_n (pc' := 21) 0 dX7_copyFrom_20 rfl rfl rfl ?_
  refine zj_getR (pc' := 24) (j := 7) dX7_copyFrom_21 rfl flX7_15 sh5 rfl ?_
  refine zj_iconst (pc' := 25) dX7_copyFrom_24 rfl kiconst_0 ?_
  refine zj_bipush (pc' := 27) dX7_copyFrom_25 rfl kbipush_6 ?_
  obtain ⟨w0_1v2, ew0_1v2⟩ : ∃ z, z = (va_cpy w1_1 w0_1 0 0 6) := ⟨_, rfl⟩
  have hy := zlet_at ew0_1v2 hy
  refine zj_cpL (pc' := 30) (N := (zul (zul M 6 w0_0v1) 7 w0_1v2)) dX7_copyFrom_27 rfl mlX7_65 zcpw sh155 sh7 tn0 tn0 tn6 (by decide) (by decide) (Nat.le_of_ble_eq_true rfl) (Nat.le_of_ble_eq_true rfl) (zq_n rfl e_l155) (zq_n rfl e_l7) ew0_1v2 rfl (Nat.le_of_ble_eq_true rfl) (Nat.le_of_ble_eq_true rfl) ?_
  refine zj_aload_n (pc' := 31) 1 dX7_copyFrom_30 rfl rfl rfl ?_
  refine zj_getR (pc' := 34) (j := 156) dX7_copyFrom_31 rfl flX7_18 sh153 rfl ?_
  refine zj_iconst (pc' := 35) dX7_copyFrom_34 rfl kiconst_0 ?_
  refine zj_aload_n (pc' := 36) 0 dX7_copyFrom_35 rfl rfl rfl ?_
  refine zj_getR (pc' := 39) (j := 8) dX7_copyFrom_36 rfl flX7_18 sh5 rfl ?_
  refine zj_iconst (pc' := 40) dX7_copyFrom_39 rfl kiconst_0 ?_
  refine zj_bipush (pc' := 42) dX7_copyFrom_40 rfl kbipush_8 ?_
  obtain ⟨r0_2v3, er0_2v3⟩ : ∃ z, z = (va_cpy r1_2 r0_2 0 0 8) := ⟨_, rfl⟩
  have hy := zlet_at er0_2v3 hy
  refine zj_cpI (pc' := 45) (N := (zui (zul (zul M 6 w0_0v1) 7 w0_1v2) 8 r0_2v3)) dX7_copyFrom_42 rfl mlX7_65 zcpw sh156 sh8 tn0 tn0 tn8 (by decide) (by decide) (Nat.le_of_ble_eq_true rfl) (Nat.le_of_ble_eq_true rfl) (zr_l (zr_l e_i156)) (zr_l (zr_l e_i8)) er0_2v3 rfl (Nat.le_of_ble_eq_true rfl) (Nat.le_of_ble_eq_true rfl) ?_
  refine zj_aload_n (pc' := 46) 1 dX7_copyFrom_45 rfl rfl rfl ?_
  refine zj_getR (pc' := 49) (j := 157) dX7_copyFrom_46 rfl flX7_22 sh153 rfl ?_
  refine zj_iconst (pc' := 50) dX7_copyFrom_49 rfl kiconst_0 ?_
  refine zj_aload_n (pc' := 51) 0 dX7_copyFrom_50 rfl rfl rfl ?_
  refine zj_getR (pc' := 54) (j := 9) dX7_copyFrom_51 rfl flX7_22 sh5 rfl ?_
  refine zj_iconst (pc' := 55) dX7_copyFrom_54 rfl kiconst_0 ?_
  refine zj_bipush (pc' := 57) dX7_copyFrom_55 rfl kbipush_64 ?_
  obtain ⟨r0_3v4, er0_3v4⟩ : ∃ z, z = (va_cpy r1_3 r0_3 0 0 64) := ⟨_, rfl⟩
  have hy := zlet_at er0_3v4 hy
  refine zj_cpI (pc' := 60) (N := (zui (zui (zul (zul M 6 w0_0v1) 7 w0_1v2) 8 r0_2v3) 9 r0_3v4)) dX7_copyFrom_57 rfl mlX7_65 zcpw sh157 sh9 tn0 tn0 tn64 (by decide) (by decide) (Nat.le_of_ble_eq_true rfl) (Nat.le_of_ble_eq_true rfl) (zr_n rfl (zr_l (zr_l e_i157))) (zr_n rfl (zr_l (zr_l e_i9))) er0_3v4 rfl (Nat.le_of_ble_eq_true rfl) (Nat.le_of_ble_eq_true rfl) ?_
  refine zj_aload_n (pc' := 61) 0 dX7_copyFrom_60 rfl rfl rfl ?_
  refine zj_aload_n (pc' := 62) 1 dX7_copyFrom_61 rfl rfl rfl ?_
  refine zj_fI (pc' := 65) dX7_copyFrom_62 rfl flX7_25 sh153 rfl (zr_n rfl (zr_n rfl (zr_l (zr_l e_i153)))) rfl ?_
  obtain ⟨r0v5, er0v5⟩ : ∃ z, z = (zup r0 4 (r1 4)) := ⟨_, rfl⟩
  have hy := zlet_at er0v5 hy
  refine zj_pI (pc' := 68) (N := (zui (zui (zui (zul (zul M 6 w0_0v1) 7 w0_1v2) 5 r0v5) 8 r0_2v3) 9 r0_3v4)) dX7_copyFrom_65 rfl fpX7_25 sh5 rfl (zr_n rfl (zr_n rfl (zr_l (zr_l e_i5)))) er0v5 (zm_n rfl (zm_n rfl rfl)) ?_
  refine zj_aload_n (pc' := 69) 0 dX7_copyFrom_68 rfl rfl rfl ?_
  refine zj_aload_n (pc' := 70) 1 dX7_copyFrom_69 rfl rfl rfl ?_
  refine zj_fI (pc' := 73) dX7_copyFrom_70 rfl flX7_29 sh153 rfl (zr_n rfl (zr_n rfl (zr_n rfl (zr_l (zr_l e_i153))))) rfl ?_
  obtain ⟨r0v6, er0v6⟩ : ∃ z, z = (zup r0v5 5 (r1 5)) := ⟨_, rfl⟩
  have hy := zlet_at er0v6 hy
  refine zj_pI (pc' := 76) (N := (zui (zui (zui (zul (zul M 6 w0_0v1) 7 w0_1v2) 5 r0v6) 8 r0_2v3) 9 r0_3v4)) dX7_copyFrom_73 rfl fpX7_29 sh5 rfl (zr_n rfl (zr_n rfl zr_s)) er0v6 (zm_n rfl (zm_n rfl zm_s)) ?_
  refine zj_aload_n (pc' := 77) 0 dX7_copyFrom_76 rfl rfl rfl ?_
  refine zj_aload_n (pc' := 78) 1 dX7_copyFrom_77 rfl rfl rfl ?_
  refine zj_fI (pc' := 81) dX7_copyFrom_78 rfl flX7_32 sh153 rfl (zr_n rfl (zr_n rfl (zr_n rfl (zr_l (zr_l e_i153))))) rfl ?_
  obtain ⟨r0v7, er0v7⟩ : ∃ z, z = (zup r0v6 6 (r1 6)) := ⟨_, rfl⟩
  have hy := zlet_at er0v7 hy
  refine zj_pI (pc' := 84) (N := (zui (zui (zui (zul (zul M 6 w0_0v1) 7 w0_1v2) 5 r0v7) 8 r0_2v3) 9 r0_3v4)) dX7_copyFrom_81 rfl fpX7_32 sh5 rfl (zr_n rfl (zr_n rfl zr_s)) er0v7 (zm_n rfl (zm_n rfl zm_s)) ?_
  have e9 := Option.some.inj hy
  subst e9
  exact zj_vret dX7_copyFrom_84 rfl hq
set_option maxRecDepth 20000 in
theorem LX7_copyFrom_5_153 (Γ : zG) (M : zM) (r0 : Nat → Int32) (w0_0 : Nat → Int64) (w0_1 : Nat → Int64) (r0_2 : Nat → Int32) (r0_3 : Nat → Int32) (r1 : Nat → Int32) (w1_0 : Nat → Int64) (w1_1 : Nat → Int64) (r1_2 : Nat → Int32) (r1_3 : Nat → Int32) (e_i5 : M.1 5 = r0) (e_l6 : M.2 6 = w0_0) (e_l7 : M.2 7 = w0_1) (e_i8 : M.1 8 = r0_2) (e_i9 : M.1 9 = r0_3) (e_i153 : M.1 153 = r1) (e_l154 : M.2 154 = w1_0) (e_l155 : M.2 155 = w1_1) (e_i156 : M.1 156 = r1_2) (e_i157 : M.1 157 = r1_3)  {res : (Nat → Int32) × (Nat → Int64) × (Nat → Int64) × (Nat → Int32) × (Nat → Int32)} (hy : (fPl_copyFrom r0 w0_0 w0_1 r0_2 r0_3 r1 w1_0 w1_1 r1_2 r1_3) = some res) : zK Γ 2 YX7_copyFrom [.ref (zad Γ 5), .ref (zad Γ 153)] M (fun v N => v = none ∧ N = (zui (zui (zui (zul (zul M 6 res.2.1) 7 res.2.2.1) 5 res.1) 8 res.2.2.2.1) 9 res.2.2.2.2)) :=
  zK_of (by decide) (Nat.le_of_ble_eq_true rfl) (TX7_copyFrom_5_153 Γ M r0 w0_0 w0_1 r0_2 r0_3 r1 w1_0 w1_1 r1_2 r1_3 e_i5 e_l6 e_l7 e_i8 e_i9 e_i153 e_l154 e_l155 e_i156 e_i157 hy ⟨rfl, rfl⟩)


set_option maxRecDepth 20000 in
theorem TX1_copyFrom_15_158 (Γ : zG) {Q : Option Value → zM → Prop} (M : zM) (r0 : Nat → Int32) (r0_0 : Nat → Int32) (r0_1 : Nat → Int32) (r0_2 : Nat → Int32) (r0_3 : Nat → Int32) (r0_4 : Nat → Int32) (r0_5 : Nat → Int32) (r0_6 : Nat → Int32) (r0_7 : Nat → Int32) (r1 : Nat → Int32) (r1_0 : Nat → Int32) (r1_1 : Nat → Int32) (r1_2 : Nat → Int32) (r1_3 : Nat → Int32) (r1_4 : Nat → Int32) (r1_5 : Nat → Int32) (r1_6 : Nat → Int32) (r1_7 : Nat → Int32) (e_i15 : M.1 15 = r0) (e_i16 : M.1 16 = r0_0) (e_i17 : M.1 17 = r0_1) (e_i18 : M.1 18 = r0_2) (e_i19 : M.1 19 = r0_3) (e_i20 : M.1 20 = r0_4) (e_i21 : M.1 21 = r0_5) (e_i22 : M.1 22 = r0_6) (e_i23 : M.1 23 = r0_7) (e_i158 : M.1 158 = r1) (e_i159 : M.1 159 = r1_0) (e_i160 : M.1 160 = r1_1) (e_i161 : M.1 161 = r1_2) (e_i162 : M.1 162 = r1_3) (e_i163 : M.1 163 = r1_4) (e_i164 : M.1 164 = r1_5) (e_i165 : M.1 165 = r1_6) (e_i166 : M.1 166 = r1_7)  {res : (Nat → Int32) × (Nat → Int32) × (Nat → Int32) × (Nat → Int32) × (Nat → Int32) × (Nat → Int32) × (Nat → Int32) × (Nat → Int32) × (Nat → Int32)} (hy : (fDy_copyFrom r0 r0_0 r0_1 r0_2 r0_3 r0_4 r0_5 r0_6 r0_7 r1 r1_0 r1_1 r1_2 r1_3 r1_4 r1_5 r1_6 r1_7) = some res) (hq : Q none (zui (zui (zui (zui (zui (zui (zui (zui (zui M 15 res.1) 16 res.2.1) 17 res.2.2.1) 18 res.2.2.2.1) 19 res.2.2.2.2.1) 20 res.2.2.2.2.2.1) 21 res.2.2.2.2.2.2.1) 22 res.2.2.2.2.2.2.2.1) 23 res.2.2.2.2.2.2.2.2)) : zR Γ 2 YX1_copyFrom 0 [(0, .ref (zad Γ 15)), (1, .ref (zad Γ 158))] [] M Q := by
  unfold fDy_copyFrom at hy
  refine zj_aload_n (pc' := 1) 1 dX1_copyFrom_0 rfl rfl rfl ?_
  refine zj_getR (pc' := 4) (j := 159) dX1_copyFrom_1 rfl flX1_9 sh158 rfl ?_
  refine zj_iconst (pc' := 5) dX1_copyFrom_4 rfl kiconst_0 ?_
  refine zj_aload_n (pc' := 6) 0 dX1_copyFrom_5 rfl rfl rfl ?_
  refine zj_getR (pc' := 9) (j := 16) dX1_copyFrom_6 rfl flX1_9 sh15 rfl ?_
  refine zj_iconst (pc' := 10) dX1_copyFrom_9 rfl kiconst_0 ?_
  refine zj_bipush (pc' := 12) dX1_copyFrom_10 rfl kbipush_36 ?_
  obtain ⟨r0_0v1, er0_0v1⟩ : ∃ z, z = (va_cpy r1_0 r0_0 0 0 36) := ⟨_, rfl⟩
  have hy := zlet_at er0_0v1 hy
  refine zj_cpI (pc' := 15) (N := (zui M 16 r0_0v1)) dX1_copyFrom_12 rfl mlX1_52 zcpw sh159 sh16 tn0 tn0 tn36 (by decide) (by decide) (Nat.le_of_ble_eq_true rfl) (Nat.le_of_ble_eq_true rfl) e_i159 e_i16 er0_0v1 rfl (Nat.le_of_ble_eq_true rfl) (Nat.le_of_ble_eq_true rfl) ?_
  refine zj_aload_n (pc' := 16) 1 dX1_copyFrom_15 rfl rfl rfl ?_
  refine zj_getR (pc' := 19) (j := 160) dX1_copyFrom_16 rfl flX1_15 sh158 rfl ?_
  refine zj_iconst (pc' := 20) dX1_copyFrom_19 rfl kiconst_0 ?_
  refine zj_aload_n (pc' := 21) 0 dX1_copyFrom_20 rfl rfl rfl ?_
  refine zj_getR (pc' := 24) (j := 17) dX1_copyFrom_21 rfl flX1_15 sh15 rfl ?_
  refine zj_iconst (pc' := 25) dX1_copyFrom_24 rfl kiconst_0 ?_
  refine zj_bipush (pc' := 27) dX1_copyFrom_25 rfl kbipush_6 ?_
  obtain ⟨r0_1v2, er0_1v2⟩ : ∃ z, z = (va_cpy r1_1 r0_1 0 0 6) := ⟨_, rfl⟩
  have hy := zlet_at er0_1v2 hy
  refine zj_cpI (pc' := 30) (N := (zui (zui M 16 r0_0v1) 17 r0_1v2)) dX1_copyFrom_27 rfl mlX1_52 zcpw sh160 sh17 tn0 tn0 tn6 (by decide) (by decide) (Nat.le_of_ble_eq_true rfl) (Nat.le_of_ble_eq_true rfl) (zr_n rfl e_i160) (zr_n rfl e_i17) er0_1v2 rfl (Nat.le_of_ble_eq_true rfl) (Nat.le_of_ble_eq_true rfl) ?_
  refine zj_aload_n (pc' := 31) 1 dX1_copyFrom_30 rfl rfl rfl ?_
  refine zj_getR (pc' := 34) (j := 161) dX1_copyFrom_31 rfl flX1_18 sh158 rfl ?_
  refine zj_iconst (pc' := 35) dX1_copyFrom_34 rfl kiconst_0 ?_
  refine zj_aload_n (pc' := 36) 0 dX1_copyFrom_35 rfl rfl rfl ?_
  refine zj_getR (pc' := 39) (j := 18) dX1_copyFrom_36 rfl flX1_18 sh15 rfl ?_
  refine zj_iconst (pc' := 40) dX1_copyFrom_39 rfl kiconst_0 ?_
  refine zj_bipush (pc' := 42) dX1_copyFrom_40 rfl kbipush_6 ?_
  obtain ⟨r0_2v3, er0_2v3⟩ : ∃ z, z = (va_cpy r1_2 r0_2 0 0 6) := ⟨_, rfl⟩
  have hy := zlet_at er0_2v3 hy
  refine zj_cpI (pc' := 45) (N := (zui (zui (zui M 16 r0_0v1) 17 r0_1v2) 18 r0_2v3)) dX1_copyFrom_42 rfl mlX1_52 zcpw sh161 sh18 tn0 tn0 tn6 (by decide) (by decide) (Nat.le_of_ble_eq_true rfl) (Nat.le_of_ble_eq_true rfl) (zr_n rfl (zr_n rfl e_i161)) (zr_n rfl (zr_n rfl e_i18)) er0_2v3 rfl (Nat.le_of_ble_eq_true rfl) (Nat.le_of_ble_eq_true rfl) ?_
  refine zj_aload_n (pc' := 46) 1 dX1_copyFrom_45 rfl rfl rfl ?_
  refine zj_getR (pc' := 49) (j := 162) dX1_copyFrom_46 rfl flX1_21 sh158 rfl ?_
  refine zj_iconst (pc' := 50) dX1_copyFrom_49 rfl kiconst_0 ?_
  refine zj_aload_n (pc' := 51) 0 dX1_copyFrom_50 rfl rfl rfl ?_
  refine zj_getR (pc' := 54) (j := 19) dX1_copyFrom_51 rfl flX1_21 sh15 rfl ?_
  refine zj_iconst (pc' := 55) dX1_copyFrom_54 rfl kiconst_0 ?_
  refine zj_bipush (pc' := 57) dX1_copyFrom_55 rfl kbipush_6 ?_
  obtain ⟨r0_3v4, er0_3v4⟩ : ∃ z, z = (va_cpy r1_3 r0_3 0 0 6) := ⟨_, rfl⟩
  have hy := zlet_at er0_3v4 hy
  refine zj_cpI (pc' := 60) (N := (zui (zui (zui (zui M 16 r0_0v1) 17 r0_1v2) 18 r0_2v3) 19 r0_3v4)) dX1_copyFrom_57 rfl mlX1_52 zcpw sh162 sh19 tn0 tn0 tn6 (by decide) (by decide) (Nat.le_of_ble_eq_true rfl) (Nat.le_of_ble_eq_true rfl) (zr_n rfl (zr_n rfl (zr_n rfl e_i162))) (zr_n rfl (zr_n rfl (zr_n rfl e_i19))) er0_3v4 rfl (Nat.le_of_ble_eq_true rfl) (Nat.le_of_ble_eq_true rfl) ?_
  refine zj_aload_n (pc' := 61) 1 dX1_copyFrom_60 rfl rfl rfl ?_
  refine zj_getR (pc' := 64) (j := 163) dX1_copyFrom_61 rfl flX1_24 sh158 rfl ?_
  refine zj_iconst (pc' := 65) dX1_copyFrom_64 rfl kiconst_0 ?_
  refine zj_aload_n (pc' := 66) 0 dX1_copyFrom_65 rfl rfl rfl ?_
  refine zj_getR (pc' := 69) (j := 20) dX1_copyFrom_66 rfl flX1_24 sh15 rfl ?_
  refine zj_iconst (pc' := 70) dX1_copyFrom_69 rfl kiconst_0 ?_
  refine zj_bipush (pc' := 72) dX1_copyFrom_70 rfl kbipush_48 ?_
  obtain ⟨r0_4v5, er0_4v5⟩ : ∃ z, z = (va_cpy r1_4 r0_4 0 0 48) := ⟨_, rfl⟩
  have hy := zlet_at er0_4v5 hy
  refine zj_cpI (pc' := 75) (N := (zui (zui (zui (zui (zui M 16 r0_0v1) 17 r0_1v2) 18 r0_2v3) 19 r0_3v4) 20 r0_4v5)) dX1_copyFrom_72 rfl mlX1_52 zcpw sh163 sh20 tn0 tn0 tn48 (by decide) (by decide) (Nat.le_of_ble_eq_true rfl) (Nat.le_of_ble_eq_true rfl) (zr_n rfl (zr_n rfl (zr_n rfl (zr_n rfl e_i163)))) (zr_n rfl (zr_n rfl (zr_n rfl (zr_n rfl e_i20)))) er0_4v5 rfl (Nat.le_of_ble_eq_true rfl) (Nat.le_of_ble_eq_true rfl) ?_
  refine zj_aload_n (pc' := 76) 1 dX1_copyFrom_75 rfl rfl rfl ?_
  refine zj_getR (pc' := 79) (j := 164) dX1_copyFrom_76 rfl flX1_27 sh158 rfl ?_
  refine zj_iconst (pc' := 80) dX1_copyFrom_79 rfl kiconst_0 ?_
  refine zj_aload_n (pc' := 81) 0 dX1_copyFrom_80 rfl rfl rfl ?_
  refine zj_getR (pc' := 84) (j := 21) dX1_copyFrom_81 rfl flX1_27 sh15 rfl ?_
  refine zj_iconst (pc' := 85) dX1_copyFrom_84 rfl kiconst_0 ?_
  refine zj_bipush (pc' := 87) dX1_copyFrom_85 rfl kbipush_6 ?_
  obtain ⟨r0_5v6, er0_5v6⟩ : ∃ z, z = (va_cpy r1_5 r0_5 0 0 6) := ⟨_, rfl⟩
  have hy := zlet_at er0_5v6 hy
  refine zj_cpI (pc' := 90) (N := (zui (zui (zui (zui (zui (zui M 16 r0_0v1) 17 r0_1v2) 18 r0_2v3) 19 r0_3v4) 20 r0_4v5) 21 r0_5v6)) dX1_copyFrom_87 rfl mlX1_52 zcpw sh164 sh21 tn0 tn0 tn6 (by decide) (by decide) (Nat.le_of_ble_eq_true rfl) (Nat.le_of_ble_eq_true rfl) (zr_n rfl (zr_n rfl (zr_n rfl (zr_n rfl (zr_n rfl e_i164))))) (zr_n rfl (zr_n rfl (zr_n rfl (zr_n rfl (zr_n rfl e_i21))))) er0_5v6 rfl (Nat.le_of_ble_eq_true rfl) (Nat.le_of_ble_eq_true rfl) ?_
  refine zj_aload_n (pc' := 91) 1 dX1_copyFrom_90 rfl rfl rfl ?_
  refine zj_getR (pc' := 94) (j := 165) dX1_copyFrom_91 rfl flX1_30 sh158 rfl ?_
  refine zj_iconst (pc' := 95) dX1_copyFrom_94 rfl kiconst_0 ?_
  refine zj_aload_n (pc' := 96) 0 dX1_copyFrom_95 rfl rfl rfl ?_
  refine zj_getR (pc' := 99) (j := 22) dX1_copyFrom_96 rfl flX1_30 sh15 rfl ?_
  refine zj_iconst (pc' := 100) dX1_copyFrom_99 rfl kiconst_0 ?_
  refine zj_bipush (pc' := 102) dX1_copyFrom_100 rfl kbipush_8 ?_
  obtain ⟨r0_6v7, er0_6v7⟩ : ∃ z, z = (va_cpy r1_6 r0_6 0 0 8) := ⟨_, rfl⟩
  have hy := zlet_at er0_6v7 hy
  refine zj_cpI (pc' := 105) (N := (zui (zui (zui (zui (zui (zui (zui M 16 r0_0v1) 17 r0_1v2) 18 r0_2v3) 19 r0_3v4) 20 r0_4v5) 21 r0_5v6) 22 r0_6v7)) dX1_copyFrom_102 rfl mlX1_52 zcpw sh165 sh22 tn0 tn0 tn8 (by decide) (by decide) (Nat.le_of_ble_eq_true rfl) (Nat.le_of_ble_eq_true rfl) (zr_n rfl (zr_n rfl (zr_n rfl (zr_n rfl (zr_n rfl (zr_n rfl e_i165)))))) (zr_n rfl (zr_n rfl (zr_n rfl (zr_n rfl (zr_n rfl (zr_n rfl e_i22)))))) er0_6v7 rfl (Nat.le_of_ble_eq_true rfl) (Nat.le_of_ble_eq_true rfl) ?_
  refine zj_aload_n (pc' := 106) 1 dX1_copyFrom_105 rfl rfl rfl ?_
  refine zj_getR (pc' := 109) (j := 166) dX1_copyFrom_106 rfl flX1_33 sh158 rfl ?_
  refine zj_iconst (pc' := 110) dX1_copyFrom_109 rfl kiconst_0 ?_
  refine zj_aload_n (pc' := 111) 0 dX1_copyFrom_110 rfl rfl rfl ?_
  refine zj_getR (pc' := 114) (j := 23) dX1_copyFrom_111 rfl flX1_33 sh15 rfl ?_
  refine zj_iconst (pc' := 115) dX1_copyFrom_114 rfl kiconst_0 ?_
  refine zj_bipush (pc' := 117) dX1_copyFrom_115 rfl kbipush_8 ?_
  obtain ⟨r0_7v8, er0_7v8⟩ : ∃ z, z = (va_cpy r1_7 r0_7 0 0 8) := ⟨_, rfl⟩
  have hy := zlet_at er0_7v8 hy
  refine zj_cpI (pc' := 120) (N := (zui (zui (zui (zui (zui (zui (zui (zui M 16 r0_0v1) 17 r0_1v2) 18 r0_2v3) 19 r0_3v4) 20 r0_4v5) 21 r0_5v6) 22 r0_6v7) 23 r0_7v8)) dX1_copyFrom_117 rfl mlX1_52 zcpw sh166 sh23 tn0 tn0 tn8 (by decide) (by decide) (Nat.le_of_ble_eq_true rfl) (Nat.le_of_ble_eq_true rfl) (zr_n rfl (zr_n rfl (zr_n rfl (zr_n rfl (zr_n rfl (zr_n rfl (zr_n rfl e_i166))))))) (zr_n rfl (zr_n rfl (zr_n rfl (zr_n rfl (zr_n rfl (zr_n rfl (zr_n rfl e_i23))))))) er0_7v8 rfl (Nat.le_of_ble_eq_true rfl) (Nat.le_of_ble_eq_true rfl) ?_
  refine zj_aload_n (pc' := 121) 0 dX1_copyFrom_120 rfl rfl rfl ?_
  refine zj_aload_n (pc' := 122) 1 dX1_copyFrom_121 rfl rfl rfl ?_
  refine zj_fI (pc' := 125) dX1_copyFrom_122 rfl flX1_45 sh158 rfl (zr_n rfl (zr_n rfl (zr_n rfl (zr_n rfl (zr_n rfl (zr_n rfl (zr_n rfl (zr_n rfl e_i158)))))))) rfl ?_
  obtain ⟨r0v9, er0v9⟩ : ∃ z, z = (zup r0 9 (r1 9)) := ⟨_, rfl⟩
  have hy := zlet_at er0v9 hy
  refine zj_pI (pc' := 128) (N := (zui (zui (zui (zui (zui (zui (zui (zui (zui M 15 r0v9) 16 r0_0v1) 17 r0_1v2) 18 r0_2v3) 19 r0_3v4) 20 r0_4v5) 21 r0_5v6) 22 r0_6v7) 23 r0_7v8)) dX1_copyFrom_125 rfl fpX1_45 sh15 rfl (zr_n rfl (zr_n rfl (zr_n rfl (zr_n rfl (zr_n rfl (zr_n rfl (zr_n rfl (zr_n rfl e_i15)))))))) er0v9 (zm_n rfl (zm_n rfl (zm_n rfl (zm_n rfl (zm_n rfl (zm_n rfl (zm_n rfl (zm_n rfl rfl)))))))) ?_
  refine zj_aload_n (pc' := 129) 0 dX1_copyFrom_128 rfl rfl rfl ?_
  refine zj_aload_n (pc' := 130) 1 dX1_copyFrom_129 rfl rfl rfl ?_
  refine zj_fI (pc' := 133) dX1_copyFrom_130 rfl flX1_49 sh158 rfl (zr_n rfl (zr_n rfl (zr_n rfl (zr_n rfl (zr_n rfl (zr_n rfl (zr_n rfl (zr_n rfl (zr_n rfl e_i158))))))))) rfl ?_
  obtain ⟨r0v10, er0v10⟩ : ∃ z, z = (zup r0v9 10 (r1 10)) := ⟨_, rfl⟩
  have hy := zlet_at er0v10 hy
  refine zj_pI (pc' := 136) (N := (zui (zui (zui (zui (zui (zui (zui (zui (zui M 15 r0v10) 16 r0_0v1) 17 r0_1v2) 18 r0_2v3) 19 r0_3v4) 20 r0_4v5) 21 r0_5v6) 22 r0_6v7) 23 r0_7v8)) dX1_copyFrom_133 rfl fpX1_49 sh15 rfl (zr_n rfl (zr_n rfl (zr_n rfl (zr_n rfl (zr_n rfl (zr_n rfl (zr_n rfl (zr_n rfl zr_s)))))))) er0v10 (zm_n rfl (zm_n rfl (zm_n rfl (zm_n rfl (zm_n rfl (zm_n rfl (zm_n rfl (zm_n rfl zm_s)))))))) ?_
  have e9 := Option.some.inj hy
  subst e9
  exact zj_vret dX1_copyFrom_136 rfl hq
set_option maxRecDepth 20000 in
theorem LX1_copyFrom_15_158 (Γ : zG) (M : zM) (r0 : Nat → Int32) (r0_0 : Nat → Int32) (r0_1 : Nat → Int32) (r0_2 : Nat → Int32) (r0_3 : Nat → Int32) (r0_4 : Nat → Int32) (r0_5 : Nat → Int32) (r0_6 : Nat → Int32) (r0_7 : Nat → Int32) (r1 : Nat → Int32) (r1_0 : Nat → Int32) (r1_1 : Nat → Int32) (r1_2 : Nat → Int32) (r1_3 : Nat → Int32) (r1_4 : Nat → Int32) (r1_5 : Nat → Int32) (r1_6 : Nat → Int32) (r1_7 : Nat → Int32) (e_i15 : M.1 15 = r0) (e_i16 : M.1 16 = r0_0) (e_i17 : M.1 17 = r0_1) (e_i18 : M.1 18 = r0_2) (e_i19 : M.1 19 = r0_3) (e_i20 : M.1 20 = r0_4) (e_i21 : M.1 21 = r0_5) (e_i22 : M.1 22 = r0_6) (e_i23 : M.1 23 = r0_7) (e_i158 : M.1 158 = r1) (e_i159 : M.1 159 = r1_0) (e_i160 : M.1 160 = r1_1) (e_i161 : M.1 161 = r1_2) (e_i162 : M.1 162 = r1_3) (e_i163 : M.1 163 = r1_4) (e_i164 : M.1 164 = r1_5) (e_i165 : M.1 165 = r1_6) (e_i166 : M.1 166 = r1_7)  {res : (Nat → Int32) × (Nat → Int32) × (Nat → Int32) × (Nat → Int32) × (Nat → Int32) × (Nat → Int32) × (Nat → Int32) × (Nat → Int32) × (Nat → Int32)} (hy : (fDy_copyFrom r0 r0_0 r0_1 r0_2 r0_3 r0_4 r0_5 r0_6 r0_7 r1 r1_0 r1_1 r1_2 r1_3 r1_4 r1_5 r1_6 r1_7) = some res) : zK Γ 2 YX1_copyFrom [.ref (zad Γ 15), .ref (zad Γ 158)] M (fun v N => v = none ∧ N = (zui (zui (zui (zui (zui (zui (zui (zui (zui M 15 res.1) 16 res.2.1) 17 res.2.2.1) 18 res.2.2.2.1) 19 res.2.2.2.2.1) 20 res.2.2.2.2.2.1) 21 res.2.2.2.2.2.2.1) 22 res.2.2.2.2.2.2.2.1) 23 res.2.2.2.2.2.2.2.2)) :=
  zK_of (by decide) (Nat.le_of_ble_eq_true rfl) (TX1_copyFrom_15_158 Γ M r0 r0_0 r0_1 r0_2 r0_3 r0_4 r0_5 r0_6 r0_7 r1 r1_0 r1_1 r1_2 r1_3 r1_4 r1_5 r1_6 r1_7 e_i15 e_i16 e_i17 e_i18 e_i19 e_i20 e_i21 e_i22 e_i23 e_i158 e_i159 e_i160 e_i161 e_i162 e_i163 e_i164 e_i165 e_i166 hy ⟨rfl, rfl⟩)


set_option maxRecDepth 20000 in
theorem TX9_copyFrom_35_168 (Γ : zG) {Q : Option Value → zM → Prop} (M : zM) (r0 : Nat → Int32) (r0_0 : Nat → Int32) (r0_1 : Nat → Int32) (r0_2 : Nat → Int32) (r1 : Nat → Int32) (r1_0 : Nat → Int32) (r1_1 : Nat → Int32) (r1_2 : Nat → Int32) (e_i35 : M.1 35 = r0) (e_i36 : M.1 36 = r0_0) (e_i37 : M.1 37 = r0_1) (e_i38 : M.1 38 = r0_2) (e_i168 : M.1 168 = r1) (e_i169 : M.1 169 = r1_0) (e_i170 : M.1 170 = r1_1) (e_i171 : M.1 171 = r1_2)  {res : (Nat → Int32) × (Nat → Int32) × (Nat → Int32) × (Nat → Int32)} (hy : (fSn_copyFrom r0 r0_0 r0_1 r0_2 r1 r1_0 r1_1 r1_2) = some res) (hq : Q none (zui (zui (zui (zui M 35 res.1) 36 res.2.1) 37 res.2.2.1) 38 res.2.2.2)) : zR Γ 2 YX9_copyFrom 0 [(0, .ref (zad Γ 35)), (1, .ref (zad Γ 168))] [] M Q := by
  unfold fSn_copyFrom at hy
  refine zj_aload_n (pc' := 1) 1 dX9_copyFrom_0 rfl rfl rfl ?_
  refine zj_getR (pc' := 4) (j := 169) dX9_copyFrom_1 rfl flX9_11 sh168 rfl ?_
  refine zj_iconst (pc' := 5) dX9_copyFrom_4 rfl kiconst_0 ?_
  refine zj_aload_n (pc' := 6) 0 dX9_copyFrom_5 rfl rfl rfl ?_
  refine zj_getR (pc' := 9) (j := 36) dX9_copyFrom_6 rfl flX9_11 sh35 rfl ?_
  refine zj_iconst (pc' := 10) dX9_copyFrom_9 rfl kiconst_0 ?_
  refine zj_bipush (pc' := 12) dX9_copyFrom_10 rfl kbipush_40 ?_
  obtain ⟨r0_0v1, er0_0v1⟩ : ∃ z, z = (va_cpy r1_0 r0_0 0 0 40) := ⟨_, rfl⟩
  have hy := zlet_at er0_0v1 hy
  refine zj_cpI (pc' := 15) (N := (zui M 36 r0_0v1)) dX9_copyFrom_12 rfl mlX9_44 zcpw sh169 sh36 tn0 tn0 tn40 (by decide) (by decide) (Nat.le_of_ble_eq_true rfl) (Nat.le_of_ble_eq_true rfl) e_i169 e_i36 er0_0v1 rfl (Nat.le_of_ble_eq_true rfl) (Nat.le_of_ble_eq_true rfl) ?_
  refine zj_aload_n (pc' := 16) 1 dX9_copyFrom_15 rfl rfl rfl ?_
  refine zj_getR (pc' := 19) (j := 170) dX9_copyFrom_16 rfl flX9_15 sh168 rfl ?_
  refine zj_iconst (pc' := 20) dX9_copyFrom_19 rfl kiconst_0 ?_
  refine zj_aload_n (pc' := 21) 0 dX9_copyFrom_20 rfl rfl rfl ?_
  refine zj_getR (pc' := 24) (j := 37) dX9_copyFrom_21 rfl flX9_15 sh35 rfl ?_
  refine zj_iconst (pc' := 25) dX9_copyFrom_24 rfl kiconst_0 ?_
  refine zj_bipush (pc' := 27) dX9_copyFrom_25 rfl kbipush_40 ?_
  obtain ⟨r0_1v2, er0_1v2⟩ : ∃ z, z = (va_cpy r1_1 r0_1 0 0 40) := ⟨_, rfl⟩
  have hy := zlet_at er0_1v2 hy
  refine zj_cpI (pc' := 30) (N := (zui (zui M 36 r0_0v1) 37 r0_1v2)) dX9_copyFrom_27 rfl mlX9_44 zcpw sh170 sh37 tn0 tn0 tn40 (by decide) (by decide) (Nat.le_of_ble_eq_true rfl) (Nat.le_of_ble_eq_true rfl) (zr_n rfl e_i170) (zr_n rfl e_i37) er0_1v2 rfl (Nat.le_of_ble_eq_true rfl) (Nat.le_of_ble_eq_true rfl) ?_
  refine zj_aload_n (pc' := 31) 1 dX9_copyFrom_30 rfl rfl rfl ?_
  refine zj_getR (pc' := 34) (j := 171) dX9_copyFrom_31 rfl flX9_18 sh168 rfl ?_
  refine zj_iconst (pc' := 35) dX9_copyFrom_34 rfl kiconst_0 ?_
  refine zj_aload_n (pc' := 36) 0 dX9_copyFrom_35 rfl rfl rfl ?_
  refine zj_getR (pc' := 39) (j := 38) dX9_copyFrom_36 rfl flX9_18 sh35 rfl ?_
  refine zj_iconst (pc' := 40) dX9_copyFrom_39 rfl kiconst_0 ?_
  refine zj_bipush (pc' := 42) dX9_copyFrom_40 rfl kbipush_40 ?_
  obtain ⟨r0_2v3, er0_2v3⟩ : ∃ z, z = (va_cpy r1_2 r0_2 0 0 40) := ⟨_, rfl⟩
  have hy := zlet_at er0_2v3 hy
  refine zj_cpI (pc' := 45) (N := (zui (zui (zui M 36 r0_0v1) 37 r0_1v2) 38 r0_2v3)) dX9_copyFrom_42 rfl mlX9_44 zcpw sh171 sh38 tn0 tn0 tn40 (by decide) (by decide) (Nat.le_of_ble_eq_true rfl) (Nat.le_of_ble_eq_true rfl) (zr_n rfl (zr_n rfl e_i171)) (zr_n rfl (zr_n rfl e_i38)) er0_2v3 rfl (Nat.le_of_ble_eq_true rfl) (Nat.le_of_ble_eq_true rfl) ?_
  refine zj_aload_n (pc' := 46) 0 dX9_copyFrom_45 rfl rfl rfl ?_
  refine zj_aload_n (pc' := 47) 1 dX9_copyFrom_46 rfl rfl rfl ?_
  refine zj_fI (pc' := 50) dX9_copyFrom_47 rfl flX9_35 sh168 rfl (zr_n rfl (zr_n rfl (zr_n rfl e_i168))) rfl ?_
  obtain ⟨r0v4, er0v4⟩ : ∃ z, z = (zup r0 5 (r1 5)) := ⟨_, rfl⟩
  have hy := zlet_at er0v4 hy
  refine zj_pI (pc' := 53) (N := (zui (zui (zui (zui M 35 r0v4) 36 r0_0v1) 37 r0_1v2) 38 r0_2v3)) dX9_copyFrom_50 rfl fpX9_35 sh35 rfl (zr_n rfl (zr_n rfl (zr_n rfl e_i35))) er0v4 (zm_n rfl (zm_n rfl (zm_n rfl rfl))) ?_
  refine zj_aload_n (pc' := 54) 0 dX9_copyFrom_53 rfl rfl rfl ?_
  refine zj_aload_n (pc' := 55) 1 dX9_copyFrom_54 rfl rfl rfl ?_
  refine zj_fI (pc' := 58) dX9_copyFrom_55 rfl flX9_31 sh168 rfl (zr_n rfl (zr_n rfl (zr_n rfl (zr_n rfl e_i168)))) rfl ?_
  obtain ⟨r0v5, er0v5⟩ : ∃ z, z = (zup r0v4 8 (r1 8)) := ⟨_, rfl⟩
  have hy := zlet_at er0v5 hy
  refine zj_pI (pc' := 61) (N := (zui (zui (zui (zui M 35 r0v5) 36 r0_0v1) 37 r0_1v2) 38 r0_2v3)) dX9_copyFrom_58 rfl fpX9_31 sh35 rfl (zr_n rfl (zr_n rfl (zr_n rfl zr_s))) er0v5 (zm_n rfl (zm_n rfl (zm_n rfl zm_s))) ?_
  refine zj_aload_n (pc' := 62) 0 dX9_copyFrom_61 rfl rfl rfl ?_
  refine zj_aload_n (pc' := 63) 1 dX9_copyFrom_62 rfl rfl rfl ?_
  refine zj_fI (pc' := 66) dX9_copyFrom_63 rfl flX9_27 sh168 rfl (zr_n rfl (zr_n rfl (zr_n rfl (zr_n rfl e_i168)))) rfl ?_
  obtain ⟨c7, hy⟩ := zck hy
  obtain ⟨r0v6, er0v6⟩ : ∃ z, z = (zup r0v5 10 (r1 10)) := ⟨_, rfl⟩
  have hy := zlet_at er0v6 hy
  refine zj_pZ (pc' := 69) (N := (zui (zui (zui (zui M 35 r0v6) 36 r0_0v1) 37 r0_1v2) 38 r0_2v3)) dX9_copyFrom_66 rfl fpX9_27 sh35 rfl c7 (zr_n rfl (zr_n rfl (zr_n rfl zr_s))) er0v6 (zm_n rfl (zm_n rfl (zm_n rfl zm_s))) ?_
  have e9 := Option.some.inj hy
  subst e9
  exact zj_vret dX9_copyFrom_69 rfl hq
set_option maxRecDepth 20000 in
theorem LX9_copyFrom_35_168 (Γ : zG) (M : zM) (r0 : Nat → Int32) (r0_0 : Nat → Int32) (r0_1 : Nat → Int32) (r0_2 : Nat → Int32) (r1 : Nat → Int32) (r1_0 : Nat → Int32) (r1_1 : Nat → Int32) (r1_2 : Nat → Int32) (e_i35 : M.1 35 = r0) (e_i36 : M.1 36 = r0_0) (e_i37 : M.1 37 = r0_1) (e_i38 : M.1 38 = r0_2) (e_i168 : M.1 168 = r1) (e_i169 : M.1 169 = r1_0) (e_i170 : M.1 170 = r1_1) (e_i171 : M.1 171 = r1_2)  {res : (Nat → Int32) × (Nat → Int32) × (Nat → Int32) × (Nat → Int32)} (hy : (fSn_copyFrom r0 r0_0 r0_1 r0_2 r1 r1_0 r1_1 r1_2) = some res) : zK Γ 2 YX9_copyFrom [.ref (zad Γ 35), .ref (zad Γ 168)] M (fun v N => v = none ∧ N = (zui (zui (zui (zui M 35 res.1) 36 res.2.1) 37 res.2.2.1) 38 res.2.2.2)) :=
  zK_of (by decide) (Nat.le_of_ble_eq_true rfl) (TX9_copyFrom_35_168 Γ M r0 r0_0 r0_1 r0_2 r1 r1_0 r1_1 r1_2 e_i35 e_i36 e_i37 e_i38 e_i168 e_i169 e_i170 e_i171 hy ⟨rfl, rfl⟩)

noncomputable def fKp_giveBack (r0_0 : Nat → Int32) (w0_0_0 : Nat → Int64) (w0_0_1 : Nat → Int64) (r0_0_2 : Nat → Int32) (r0_0_3 : Nat → Int32) (r0_1 : Nat → Int32) (r0_1_0 : Nat → Int32) (r0_1_1 : Nat → Int32) (r0_1_2 : Nat → Int32) (r0_1_3 : Nat → Int32) (r0_1_4 : Nat → Int32) (r0_1_5 : Nat → Int32) (r0_1_6 : Nat → Int32) (r0_1_7 : Nat → Int32) (r0_2 : Nat → Int32) (r0_2_0 : Nat → Int32) (r0_2_1 : Nat → Int32) (r0_2_2 : Nat → Int32) (r1 : Nat → Int32) (w1_0 : Nat → Int64) (w1_1 : Nat → Int64) (r1_2 : Nat → Int32) (r1_3 : Nat → Int32) (r2 : Nat → Int32) (r2_0 : Nat → Int32) (r2_1 : Nat → Int32) (r2_2 : Nat → Int32) (r2_3 : Nat → Int32) (r2_4 : Nat → Int32) (r2_5 : Nat → Int32) (r2_6 : Nat → Int32) (r2_7 : Nat → Int32) (r3 : Nat → Int32) (r3_0 : Nat → Int32) (r3_1 : Nat → Int32) (r3_2 : Nat → Int32) : Option ((Nat → Int32) × (Nat → Int64) × (Nat → Int64) × (Nat → Int32) × (Nat → Int32) × (Nat → Int32) × (Nat → Int32) × (Nat → Int32) × (Nat → Int32) × (Nat → Int32) × (Nat → Int32) × (Nat → Int32) × (Nat → Int32) × (Nat → Int32) × (Nat → Int32) × (Nat → Int32) × (Nat → Int32) × (Nat → Int32)) :=
  (fPl_copyFrom r1 w1_0 w1_1 r1_2 r1_3 r0_0 w0_0_0 w0_0_1 r0_0_2 r0_0_3).bind (fun (y1 : (Nat → Int32) × (Nat → Int64) × (Nat → Int64) × (Nat → Int32) × (Nat → Int32)) =>
  (fDy_copyFrom r2 r2_0 r2_1 r2_2 r2_3 r2_4 r2_5 r2_6 r2_7 r0_1 r0_1_0 r0_1_1 r0_1_2 r0_1_3 r0_1_4 r0_1_5 r0_1_6 r0_1_7).bind (fun (y2 : (Nat → Int32) × (Nat → Int32) × (Nat → Int32) × (Nat → Int32) × (Nat → Int32) × (Nat → Int32) × (Nat → Int32) × (Nat → Int32) × (Nat → Int32)) =>
  (fSn_copyFrom r3 r3_0 r3_1 r3_2 r0_2 r0_2_0 r0_2_1 r0_2_2).bind (fun (y3 : (Nat → Int32) × (Nat → Int32) × (Nat → Int32) × (Nat → Int32)) =>
  some (y1.1, y1.2.1, y1.2.2.1, y1.2.2.2.1, y1.2.2.2.2, y2.1, y2.2.1, y2.2.2.1, y2.2.2.2.1, y2.2.2.2.2.1, y2.2.2.2.2.2.1, y2.2.2.2.2.2.2.1, y2.2.2.2.2.2.2.2.1, y2.2.2.2.2.2.2.2.2, y3.1, y3.2.1, y3.2.2.1, y3.2.2.2))))

set_option maxRecDepth 20000 in
theorem TX4_giveBack_152_5_15_35 (Γ : zG) {Q : Option Value → zM → Prop} (M : zM) (r0_0 : Nat → Int32) (w0_0_0 : Nat → Int64) (w0_0_1 : Nat → Int64) (r0_0_2 : Nat → Int32) (r0_0_3 : Nat → Int32) (r0_1 : Nat → Int32) (r0_1_0 : Nat → Int32) (r0_1_1 : Nat → Int32) (r0_1_2 : Nat → Int32) (r0_1_3 : Nat → Int32) (r0_1_4 : Nat → Int32) (r0_1_5 : Nat → Int32) (r0_1_6 : Nat → Int32) (r0_1_7 : Nat → Int32) (r0_2 : Nat → Int32) (r0_2_0 : Nat → Int32) (r0_2_1 : Nat → Int32) (r0_2_2 : Nat → Int32) (r1 : Nat → Int32) (w1_0 : Nat → Int64) (w1_1 : Nat → Int64) (r1_2 : Nat → Int32) (r1_3 : Nat → Int32) (r2 : Nat → Int32) (r2_0 : Nat → Int32) (r2_1 : Nat → Int32) (r2_2 : Nat → Int32) (r2_3 : Nat → Int32) (r2_4 : Nat → Int32) (r2_5 : Nat → Int32) (r2_6 : Nat → Int32) (r2_7 : Nat → Int32) (r3 : Nat → Int32) (r3_0 : Nat → Int32) (r3_1 : Nat → Int32) (r3_2 : Nat → Int32) (e_i153 : M.1 153 = r0_0) (e_l154 : M.2 154 = w0_0_0) (e_l155 : M.2 155 = w0_0_1) (e_i156 : M.1 156 = r0_0_2) (e_i157 : M.1 157 = r0_0_3) (e_i158 : M.1 158 = r0_1) (e_i159 : M.1 159 = r0_1_0) (e_i160 : M.1 160 = r0_1_1) (e_i161 : M.1 161 = r0_1_2) (e_i162 : M.1 162 = r0_1_3) (e_i163 : M.1 163 = r0_1_4) (e_i164 : M.1 164 = r0_1_5) (e_i165 : M.1 165 = r0_1_6) (e_i166 : M.1 166 = r0_1_7) (e_i168 : M.1 168 = r0_2) (e_i169 : M.1 169 = r0_2_0) (e_i170 : M.1 170 = r0_2_1) (e_i171 : M.1 171 = r0_2_2) (e_i5 : M.1 5 = r1) (e_l6 : M.2 6 = w1_0) (e_l7 : M.2 7 = w1_1) (e_i8 : M.1 8 = r1_2) (e_i9 : M.1 9 = r1_3) (e_i15 : M.1 15 = r2) (e_i16 : M.1 16 = r2_0) (e_i17 : M.1 17 = r2_1) (e_i18 : M.1 18 = r2_2) (e_i19 : M.1 19 = r2_3) (e_i20 : M.1 20 = r2_4) (e_i21 : M.1 21 = r2_5) (e_i22 : M.1 22 = r2_6) (e_i23 : M.1 23 = r2_7) (e_i35 : M.1 35 = r3) (e_i36 : M.1 36 = r3_0) (e_i37 : M.1 37 = r3_1) (e_i38 : M.1 38 = r3_2)  {res : (Nat → Int32) × (Nat → Int64) × (Nat → Int64) × (Nat → Int32) × (Nat → Int32) × (Nat → Int32) × (Nat → Int32) × (Nat → Int32) × (Nat → Int32) × (Nat → Int32) × (Nat → Int32) × (Nat → Int32) × (Nat → Int32) × (Nat → Int32) × (Nat → Int32) × (Nat → Int32) × (Nat → Int32) × (Nat → Int32)} (hy : (fKp_giveBack r0_0 w0_0_0 w0_0_1 r0_0_2 r0_0_3 r0_1 r0_1_0 r0_1_1 r0_1_2 r0_1_3 r0_1_4 r0_1_5 r0_1_6 r0_1_7 r0_2 r0_2_0 r0_2_1 r0_2_2 r1 w1_0 w1_1 r1_2 r1_3 r2 r2_0 r2_1 r2_2 r2_3 r2_4 r2_5 r2_6 r2_7 r3 r3_0 r3_1 r3_2) = some res) (hq : Q none (zui (zui (zui (zui (zui (zui (zui (zui (zui (zui (zui (zui (zui (zui (zui (zui (zul (zul M 6 res.2.1) 7 res.2.2.1) 5 res.1) 8 res.2.2.2.1) 9 res.2.2.2.2.1) 15 res.2.2.2.2.2.1) 16 res.2.2.2.2.2.2.1) 17 res.2.2.2.2.2.2.2.1) 18 res.2.2.2.2.2.2.2.2.1) 19 res.2.2.2.2.2.2.2.2.2.1) 20 res.2.2.2.2.2.2.2.2.2.2.1) 21 res.2.2.2.2.2.2.2.2.2.2.2.1) 22 res.2.2.2.2.2.2.2.2.2.2.2.2.1) 23 res.2.2.2.2.2.2.2.2.2.2.2.2.2.1) 35 res.2.2.2.2.2.2.2.2.2.2.2.2.2.2.1) 36 res.2.2.2.2.2.2.2.2.2.2.2.2.2.2.2.1) 37 res.2.2.2.2.2.2.2.2.2.2.2.2.2.2.2.2.1) 38 res.2.2.2.2.2.2.2.2.2.2.2.2.2.2.2.2.2)) : zR Γ 3 YX4_giveBack 0 [(0, .ref (zad Γ 152)), (1, .ref (zad Γ 5)), (2, .ref (zad Γ 15)), (3, .ref (zad Γ 35))] [] M Q := by
  unfold fKp_giveBack at hy
  refine zj_aload_n (pc' := 1) 1 dX4_giveBack_0 rfl rfl rfl ?_
  refine zj_aload_n (pc' := 2) 0 dX4_giveBack_1 rfl rfl rfl ?_
  refine zj_getR (pc' := 5) (j := 153) dX4_giveBack_2 rfl flX4_10 sh152 rfl ?_
  obtain ⟨y1, hy1, hy⟩ := zt_b hy
  refine zj_V0 (pc' := 8) (z := YX7_copyFrom) (As := [.ref (zad Γ 153)]) (N := (zui (zui (zui (zul (zul M 6 y1.2.1) 7 y1.2.2.1) 5 y1.1) 8 y1.2.2.2.1) 9 y1.2.2.2.2)) dX4_giveBack_5 rfl mlX4_34 lkX7_copyFrom sh5 ⟨_, _, rfl⟩ rfl rfl (Nat.le_of_ble_eq_true rfl) (Nat.le_of_ble_eq_true rfl) (LX7_copyFrom_5_153 Γ _ r1 w1_0 w1_1 r1_2 r1_3 r0_0 w0_0_0 w0_0_1 r0_0_2 r0_0_3 e_i5 e_l6 e_l7 e_i8 e_i9 e_i153 e_l154 e_l155 e_i156 e_i157 hy1) ((zch_i (zch_i (zch_i (zch_l rfl rfl) rfl) rfl) rfl)).symm ?_
  refine zj_aload_n (pc' := 9) 2 dX4_giveBack_8 rfl rfl rfl ?_
  refine zj_aload_n (pc' := 10) 0 dX4_giveBack_9 rfl rfl rfl ?_
  refine zj_getR (pc' := 13) (j := 158) dX4_giveBack_10 rfl flX4_19 sh152 rfl ?_
  obtain ⟨y2, hy2, hy⟩ := zt_b hy
  refine zj_V0 (pc' := 16) (z := YX1_copyFrom) (As := [.ref (zad Γ 158)]) (N := (zui (zui (zui (zui (zui (zui (zui (zui (zui (zui (zui (zui (zul (zul M 6 y1.2.1) 7 y1.2.2.1) 5 y1.1) 8 y1.2.2.2.1) 9 y1.2.2.2.2) 15 y2.1) 16 y2.2.1) 17 y2.2.2.1) 18 y2.2.2.2.1) 19 y2.2.2.2.2.1) 20 y2.2.2.2.2.2.1) 21 y2.2.2.2.2.2.2.1) 22 y2.2.2.2.2.2.2.2.1) 23 y2.2.2.2.2.2.2.2.2)) dX4_giveBack_13 rfl mlX4_38 lkX1_copyFrom sh15 ⟨_, _, rfl⟩ rfl rfl (Nat.le_of_ble_eq_true rfl) (Nat.le_of_ble_eq_true rfl) (LX1_copyFrom_15_158 Γ _ r2 r2_0 r2_1 r2_2 r2_3 r2_4 r2_5 r2_6 r2_7 r0_1 r0_1_0 r0_1_1 r0_1_2 r0_1_3 r0_1_4 r0_1_5 r0_1_6 r0_1_7 (zr_n rfl (zr_n rfl (zr_n rfl (zr_l (zr_l e_i15))))) (zr_n rfl (zr_n rfl (zr_n rfl (zr_l (zr_l e_i16))))) (zr_n rfl (zr_n rfl (zr_n rfl (zr_l (zr_l e_i17))))) (zr_n rfl (zr_n rfl (zr_n rfl (zr_l (zr_l e_i18))))) (zr_n rfl (zr_n rfl (zr_n rfl (zr_l (zr_l e_i19))))) (zr_n rfl (zr_n rfl (zr_n rfl (zr_l (zr_l e_i20))))) (zr_n rfl (zr_n rfl (zr_n rfl (zr_l (zr_l e_i21))))) (zr_n rfl (zr_n rfl (zr_n rfl (zr_l (zr_l e_i22))))) (zr_n rfl (zr_n rfl (zr_n rfl (zr_l (zr_l e_i23))))) (zr_n rfl (zr_n rfl (zr_n rfl (zr_l (zr_l e_i158))))) (zr_n rfl (zr_n rfl (zr_n rfl (zr_l (zr_l e_i159))))) (zr_n rfl (zr_n rfl (zr_n rfl (zr_l (zr_l e_i160))))) (zr_n rfl (zr_n rfl (zr_n rfl (zr_l (zr_l e_i161))))) (zr_n rfl (zr_n rfl (zr_n rfl (zr_l (zr_l e_i162))))) (zr_n rfl (zr_n rfl (zr_n rfl (zr_l (zr_l e_i163))))) (zr_n rfl (zr_n rfl (zr_n rfl (zr_l (zr_l e_i164))))) (zr_n rfl (zr_n rfl (zr_n rfl (zr_l (zr_l e_i165))))) (zr_n rfl (zr_n rfl (zr_n rfl (zr_l (zr_l e_i166))))) hy2) ((zch_i (zch_i (zch_i (zch_i (zch_i (zch_i (zch_i (zch_i rfl rfl) rfl) rfl) rfl) rfl) rfl) rfl) rfl)).symm ?_
  refine zj_aload_n (pc' := 17) 3 dX4_giveBack_16 rfl rfl rfl ?_
  refine zj_aload_n (pc' := 18) 0 dX4_giveBack_17 rfl rfl rfl ?_
  refine zj_getR (pc' := 21) (j := 168) dX4_giveBack_18 rfl flX4_26 sh152 rfl ?_
  obtain ⟨y3, hy3, hy⟩ := zt_b hy
  refine zj_V0 (pc' := 24) (z := YX9_copyFrom) (As := [.ref (zad Γ 168)]) (N := (zui (zui (zui (zui (zui (zui (zui (zui (zui (zui (zui (zui (zui (zui (zui (zui (zul (zul M 6 y1.2.1) 7 y1.2.2.1) 5 y1.1) 8 y1.2.2.2.1) 9 y1.2.2.2.2) 15 y2.1) 16 y2.2.1) 17 y2.2.2.1) 18 y2.2.2.2.1) 19 y2.2.2.2.2.1) 20 y2.2.2.2.2.2.1) 21 y2.2.2.2.2.2.2.1) 22 y2.2.2.2.2.2.2.2.1) 23 y2.2.2.2.2.2.2.2.2) 35 y3.1) 36 y3.2.1) 37 y3.2.2.1) 38 y3.2.2.2)) dX4_giveBack_21 rfl mlX4_41 lkX9_copyFrom sh35 ⟨_, _, rfl⟩ rfl rfl (Nat.le_of_ble_eq_true rfl) (Nat.le_of_ble_eq_true rfl) (LX9_copyFrom_35_168 Γ _ r3 r3_0 r3_1 r3_2 r0_2 r0_2_0 r0_2_1 r0_2_2 (zr_n rfl (zr_n rfl (zr_n rfl (zr_n rfl (zr_n rfl (zr_n rfl (zr_n rfl (zr_n rfl (zr_n rfl (zr_n rfl (zr_n rfl (zr_n rfl (zr_l (zr_l e_i35)))))))))))))) (zr_n rfl (zr_n rfl (zr_n rfl (zr_n rfl (zr_n rfl (zr_n rfl (zr_n rfl (zr_n rfl (zr_n rfl (zr_n rfl (zr_n rfl (zr_n rfl (zr_l (zr_l e_i36)))))))))))))) (zr_n rfl (zr_n rfl (zr_n rfl (zr_n rfl (zr_n rfl (zr_n rfl (zr_n rfl (zr_n rfl (zr_n rfl (zr_n rfl (zr_n rfl (zr_n rfl (zr_l (zr_l e_i37)))))))))))))) (zr_n rfl (zr_n rfl (zr_n rfl (zr_n rfl (zr_n rfl (zr_n rfl (zr_n rfl (zr_n rfl (zr_n rfl (zr_n rfl (zr_n rfl (zr_n rfl (zr_l (zr_l e_i38)))))))))))))) (zr_n rfl (zr_n rfl (zr_n rfl (zr_n rfl (zr_n rfl (zr_n rfl (zr_n rfl (zr_n rfl (zr_n rfl (zr_n rfl (zr_n rfl (zr_n rfl (zr_l (zr_l e_i168)))))))))))))) (zr_n rfl (zr_n rfl (zr_n rfl (zr_n rfl (zr_n rfl (zr_n rfl (zr_n rfl (zr_n rfl (zr_n rfl (zr_n rfl (zr_n rfl (zr_n rfl (zr_l (zr_l e_i169)))))))))))))) (zr_n rfl (zr_n rfl (zr_n rfl (zr_n rfl (zr_n rfl (zr_n rfl (zr_n rfl (zr_n rfl (zr_n rfl (zr_n rfl (zr_n rfl (zr_n rfl (zr_l (zr_l e_i170)))))))))))))) (zr_n rfl (zr_n rfl (zr_n rfl (zr_n rfl (zr_n rfl (zr_n rfl (zr_n rfl (zr_n rfl (zr_n rfl (zr_n rfl (zr_n rfl (zr_n rfl (zr_l (zr_l e_i171)))))))))))))) hy3) ((zch_i (zch_i (zch_i rfl rfl) rfl) rfl)).symm ?_
  have e9 := Option.some.inj hy
  subst e9
  exact zj_vret dX4_giveBack_24 rfl hq
set_option maxRecDepth 20000 in
theorem LX4_giveBack_152_5_15_35 (Γ : zG) (M : zM) (r0_0 : Nat → Int32) (w0_0_0 : Nat → Int64) (w0_0_1 : Nat → Int64) (r0_0_2 : Nat → Int32) (r0_0_3 : Nat → Int32) (r0_1 : Nat → Int32) (r0_1_0 : Nat → Int32) (r0_1_1 : Nat → Int32) (r0_1_2 : Nat → Int32) (r0_1_3 : Nat → Int32) (r0_1_4 : Nat → Int32) (r0_1_5 : Nat → Int32) (r0_1_6 : Nat → Int32) (r0_1_7 : Nat → Int32) (r0_2 : Nat → Int32) (r0_2_0 : Nat → Int32) (r0_2_1 : Nat → Int32) (r0_2_2 : Nat → Int32) (r1 : Nat → Int32) (w1_0 : Nat → Int64) (w1_1 : Nat → Int64) (r1_2 : Nat → Int32) (r1_3 : Nat → Int32) (r2 : Nat → Int32) (r2_0 : Nat → Int32) (r2_1 : Nat → Int32) (r2_2 : Nat → Int32) (r2_3 : Nat → Int32) (r2_4 : Nat → Int32) (r2_5 : Nat → Int32) (r2_6 : Nat → Int32) (r2_7 : Nat → Int32) (r3 : Nat → Int32) (r3_0 : Nat → Int32) (r3_1 : Nat → Int32) (r3_2 : Nat → Int32) (e_i153 : M.1 153 = r0_0) (e_l154 : M.2 154 = w0_0_0) (e_l155 : M.2 155 = w0_0_1) (e_i156 : M.1 156 = r0_0_2) (e_i157 : M.1 157 = r0_0_3) (e_i158 : M.1 158 = r0_1) (e_i159 : M.1 159 = r0_1_0) (e_i160 : M.1 160 = r0_1_1) (e_i161 : M.1 161 = r0_1_2) (e_i162 : M.1 162 = r0_1_3) (e_i163 : M.1 163 = r0_1_4) (e_i164 : M.1 164 = r0_1_5) (e_i165 : M.1 165 = r0_1_6) (e_i166 : M.1 166 = r0_1_7) (e_i168 : M.1 168 = r0_2) (e_i169 : M.1 169 = r0_2_0) (e_i170 : M.1 170 = r0_2_1) (e_i171 : M.1 171 = r0_2_2) (e_i5 : M.1 5 = r1) (e_l6 : M.2 6 = w1_0) (e_l7 : M.2 7 = w1_1) (e_i8 : M.1 8 = r1_2) (e_i9 : M.1 9 = r1_3) (e_i15 : M.1 15 = r2) (e_i16 : M.1 16 = r2_0) (e_i17 : M.1 17 = r2_1) (e_i18 : M.1 18 = r2_2) (e_i19 : M.1 19 = r2_3) (e_i20 : M.1 20 = r2_4) (e_i21 : M.1 21 = r2_5) (e_i22 : M.1 22 = r2_6) (e_i23 : M.1 23 = r2_7) (e_i35 : M.1 35 = r3) (e_i36 : M.1 36 = r3_0) (e_i37 : M.1 37 = r3_1) (e_i38 : M.1 38 = r3_2)  {res : (Nat → Int32) × (Nat → Int64) × (Nat → Int64) × (Nat → Int32) × (Nat → Int32) × (Nat → Int32) × (Nat → Int32) × (Nat → Int32) × (Nat → Int32) × (Nat → Int32) × (Nat → Int32) × (Nat → Int32) × (Nat → Int32) × (Nat → Int32) × (Nat → Int32) × (Nat → Int32) × (Nat → Int32) × (Nat → Int32)} (hy : (fKp_giveBack r0_0 w0_0_0 w0_0_1 r0_0_2 r0_0_3 r0_1 r0_1_0 r0_1_1 r0_1_2 r0_1_3 r0_1_4 r0_1_5 r0_1_6 r0_1_7 r0_2 r0_2_0 r0_2_1 r0_2_2 r1 w1_0 w1_1 r1_2 r1_3 r2 r2_0 r2_1 r2_2 r2_3 r2_4 r2_5 r2_6 r2_7 r3 r3_0 r3_1 r3_2) = some res) : zK Γ 3 YX4_giveBack [.ref (zad Γ 152), .ref (zad Γ 5), .ref (zad Γ 15), .ref (zad Γ 35)] M (fun v N => v = none ∧ N = (zui (zui (zui (zui (zui (zui (zui (zui (zui (zui (zui (zui (zui (zui (zui (zui (zul (zul M 6 res.2.1) 7 res.2.2.1) 5 res.1) 8 res.2.2.2.1) 9 res.2.2.2.2.1) 15 res.2.2.2.2.2.1) 16 res.2.2.2.2.2.2.1) 17 res.2.2.2.2.2.2.2.1) 18 res.2.2.2.2.2.2.2.2.1) 19 res.2.2.2.2.2.2.2.2.2.1) 20 res.2.2.2.2.2.2.2.2.2.2.1) 21 res.2.2.2.2.2.2.2.2.2.2.2.1) 22 res.2.2.2.2.2.2.2.2.2.2.2.2.1) 23 res.2.2.2.2.2.2.2.2.2.2.2.2.2.1) 35 res.2.2.2.2.2.2.2.2.2.2.2.2.2.2.1) 36 res.2.2.2.2.2.2.2.2.2.2.2.2.2.2.2.1) 37 res.2.2.2.2.2.2.2.2.2.2.2.2.2.2.2.2.1) 38 res.2.2.2.2.2.2.2.2.2.2.2.2.2.2.2.2.2)) :=
  zK_of (by decide) (Nat.le_of_ble_eq_true rfl) (TX4_giveBack_152_5_15_35 Γ M r0_0 w0_0_0 w0_0_1 r0_0_2 r0_0_3 r0_1 r0_1_0 r0_1_1 r0_1_2 r0_1_3 r0_1_4 r0_1_5 r0_1_6 r0_1_7 r0_2 r0_2_0 r0_2_1 r0_2_2 r1 w1_0 w1_1 r1_2 r1_3 r2 r2_0 r2_1 r2_2 r2_3 r2_4 r2_5 r2_6 r2_7 r3 r3_0 r3_1 r3_2 e_i153 e_l154 e_l155 e_i156 e_i157 e_i158 e_i159 e_i160 e_i161 e_i162 e_i163 e_i164 e_i165 e_i166 e_i168 e_i169 e_i170 e_i171 e_i5 e_l6 e_l7 e_i8 e_i9 e_i15 e_i16 e_i17 e_i18 e_i19 e_i20 e_i21 e_i22 e_i23 e_i35 e_i36 e_i37 e_i38 hy ⟨rfl, rfl⟩)


set_option maxRecDepth 20000 in
theorem TX4_isFull_130 (Γ : zG) {Q : Option Value → zM → Prop} (M : zM) (r0 : Nat → Int32) (e_i130 : M.1 130 = r0)  {res : Bool} (hy : (fKp_isFull r0) = some res) (hq : Q (some (.int (zb res))) M) : zR Γ 1 YX4_isFull 0 [(0, .ref (zad Γ 130))] [] M Q := by
  unfold fKp_isFull at hy
  refine zj_aload_n (pc' := 1) 0 dX4_isFull_0 rfl rfl rfl ?_
  refine zj_fI (pc' := 4) dX4_isFull_1 rfl flX4_30 sh130 rfl e_i130 rfl ?_
  obtain ⟨cz9, hz9⟩ := zck hy
  have e9 := Option.some.inj hz9
  subst e9
  exact zj_cret dX4_isFull_4 rfl cz9 hq
set_option maxRecDepth 20000 in
theorem LX4_isFull_130 (Γ : zG) (M : zM) (r0 : Nat → Int32) (e_i130 : M.1 130 = r0)  {res : Bool} (hy : (fKp_isFull r0) = some res) : zK Γ 1 YX4_isFull [.ref (zad Γ 130)] M (fun v N => v = some (.int (zb res)) ∧ N = M) :=
  zK_of (by decide) (Nat.le_of_ble_eq_true rfl) (TX4_isFull_130 Γ M r0 e_i130 hy ⟨rfl, rfl⟩)


set_option maxRecDepth 20000 in
theorem TX7_copyFrom_5_131 (Γ : zG) {Q : Option Value → zM → Prop} (M : zM) (r0 : Nat → Int32) (w0_0 : Nat → Int64) (w0_1 : Nat → Int64) (r0_2 : Nat → Int32) (r0_3 : Nat → Int32) (r1 : Nat → Int32) (w1_0 : Nat → Int64) (w1_1 : Nat → Int64) (r1_2 : Nat → Int32) (r1_3 : Nat → Int32) (e_i5 : M.1 5 = r0) (e_l6 : M.2 6 = w0_0) (e_l7 : M.2 7 = w0_1) (e_i8 : M.1 8 = r0_2) (e_i9 : M.1 9 = r0_3) (e_i131 : M.1 131 = r1) (e_l132 : M.2 132 = w1_0) (e_l133 : M.2 133 = w1_1) (e_i134 : M.1 134 = r1_2) (e_i135 : M.1 135 = r1_3)  {res : (Nat → Int32) × (Nat → Int64) × (Nat → Int64) × (Nat → Int32) × (Nat → Int32)} (hy : (fPl_copyFrom r0 w0_0 w0_1 r0_2 r0_3 r1 w1_0 w1_1 r1_2 r1_3) = some res) (hq : Q none (zui (zui (zui (zul (zul M 6 res.2.1) 7 res.2.2.1) 5 res.1) 8 res.2.2.2.1) 9 res.2.2.2.2)) : zR Γ 2 YX7_copyFrom 0 [(0, .ref (zad Γ 5)), (1, .ref (zad Γ 131))] [] M Q := by
  unfold fPl_copyFrom at hy
  refine zj_aload_n (pc' := 1) 1 dX7_copyFrom_0 rfl rfl rfl ?_
  refine zj_getR (pc' := 4) (j := 132) dX7_copyFrom_1 rfl flX7_9 sh131 rfl ?_
  refine zj_iconst (pc' := 5) dX7_copyFrom_4 rfl kiconst_0 ?_
  refine zj_aload_n (pc' := 6) 0 dX7_copyFrom_5 rfl rfl rfl ?_
  refine zj_getR (pc' := 9) (j := 6) dX7_copyFrom_6 rfl flX7_9 sh5 rfl ?_
  refine zj_iconst (pc' := 10) dX7_copyFrom_9 rfl kiconst_0 ?_
  refine zj_bipush (pc' := 12) dX7_copyFrom_10 rfl kbipush_8 ?_
  obtain ⟨w0_0v1, ew0_0v1⟩ : ∃ z, z = (va_cpy w1_0 w0_0 0 0 8) := ⟨_, rfl⟩
  have hy := zlet_at ew0_0v1 hy
  refine zj_cpL (pc' := 15) (N := (zul M 6 w0_0v1)) dX7_copyFrom_12 rfl mlX7_65 zcpw sh132 sh6 tn0 tn0 tn8 (by decide) (by decide) (Nat.le_of_ble_eq_true rfl) (Nat.le_of_ble_eq_true rfl) e_l132 e_l6 ew0_0v1 rfl (Nat.le_of_ble_eq_true rfl) (Nat.le_of_ble_eq_true rfl) ?_
  refine zj_aload_n (pc' := 16) 1 dX7_copyFrom_15 rfl rfl rfl ?_
  refine zj_getR (pc' := 19) (j := 133) dX7_copyFrom_16 rfl flX7_15 sh131 rfl ?_
  refine zj_iconst (pc' := 20) dX7_copyFrom_19 rfl kiconst_0 ?_
  refine zj_aload_n (pc' := 21) 0 dX7_copyFrom_20 rfl rfl rfl ?_
  refine zj_getR (pc' := 24) (j := 7) dX7_copyFrom_21 rfl flX7_15 sh5 rfl ?_
  refine zj_iconst (pc' := 25) dX7_copyFrom_24 rfl kiconst_0 ?_
  refine zj_bipush (pc' := 27) dX7_copyFrom_25 rfl kbipush_6 ?_
  obtain ⟨w0_1v2, ew0_1v2⟩ : ∃ z, z = (va_cpy w1_1 w0_1 0 0 6) := ⟨_, rfl⟩
  have hy := zlet_at ew0_1v2 hy
  refine zj_cpL (pc' := 30) (N := (zul (zul M 6 w0_0v1) 7 w0_1v2)) dX7_copyFrom_27 rfl mlX7_65 zcpw sh133 sh7 tn0 tn0 tn6 (by decide) (by decide) (Nat.le_of_ble_eq_true rfl) (Nat.le_of_ble_eq_true rfl) (zq_n rfl e_l133) (zq_n rfl e_l7) ew0_1v2 rfl (Nat.le_of_ble_eq_true rfl) (Nat.le_of_ble_eq_true rfl) ?_
  refine zj_aload_n (pc' := 31) 1 dX7_copyFrom_30 rfl rfl rfl ?_
  refine zj_getR (pc' := 34) (j := 134) dX7_copyFrom_31 rfl flX7_18 sh131 rfl ?_
  refine zj_iconst (pc' := 35) dX7_copyFrom_34 rfl kiconst_0 ?_
  refine zj_aload_n (pc' := 36) 0 dX7_copyFrom_35 rfl rfl rfl ?_
  refine zj_getR (pc' := 39) (j := 8) dX7_copyFrom_36 rfl flX7_18 sh5 rfl ?_
  refine zj_iconst (pc' := 40) dX7_copyFrom_39 rfl kiconst_0 ?_
  refine zj_bipush (pc' := 42) dX7_copyFrom_40 rfl kbipush_8 ?_
  obtain ⟨r0_2v3, er0_2v3⟩ : ∃ z, z = (va_cpy r1_2 r0_2 0 0 8) := ⟨_, rfl⟩
  have hy := zlet_at er0_2v3 hy
  refine zj_cpI (pc' := 45) (N := (zui (zul (zul M 6 w0_0v1) 7 w0_1v2) 8 r0_2v3)) dX7_copyFrom_42 rfl mlX7_65 zcpw sh134 sh8 tn0 tn0 tn8 (by decide) (by decide) (Nat.le_of_ble_eq_true rfl) (Nat.le_of_ble_eq_true rfl) (zr_l (zr_l e_i134)) (zr_l (zr_l e_i8)) er0_2v3 rfl (Nat.le_of_ble_eq_true rfl) (Nat.le_of_ble_eq_true rfl) ?_
  refine zj_aload_n (pc' := 46) 1 dX7_copyFrom_45 rfl rfl rfl ?_
  refine zj_getR (pc' := 49) (j := 135) dX7_copyFrom_46 rfl flX7_22 sh131 rfl ?_
  refine zj_iconst (pc' := 50) dX7_copyFrom_49 rfl kiconst_0 ?_
  refine zj_aload_n (pc' := 51) 0 dX7_copyFrom_50 rfl rfl rfl ?_
  refine zj_getR (pc' := 54) (j := 9) dX7_copyFrom_51 rfl flX7_22 sh5 rfl ?_
  refine zj_iconst (pc' := 55) dX7_copyFrom_54 rfl kiconst_0 ?_
  refine zj_bipush (pc' := 57) dX7_copyFrom_55 rfl kbipush_64 ?_
  obtain ⟨r0_3v4, er0_3v4⟩ : ∃ z, z = (va_cpy r1_3 r0_3 0 0 64) := ⟨_, rfl⟩
  have hy := zlet_at er0_3v4 hy
  refine zj_cpI (pc' := 60) (N := (zui (zui (zul (zul M 6 w0_0v1) 7 w0_1v2) 8 r0_2v3) 9 r0_3v4)) dX7_copyFrom_57 rfl mlX7_65 zcpw sh135 sh9 tn0 tn0 tn64 (by decide) (by decide) (Nat.le_of_ble_eq_true rfl) (Nat.le_of_ble_eq_true rfl) (zr_n rfl (zr_l (zr_l e_i135))) (zr_n rfl (zr_l (zr_l e_i9))) er0_3v4 rfl (Nat.le_of_ble_eq_true rfl) (Nat.le_of_ble_eq_true rfl) ?_
  refine zj_aload_n (pc' := 61) 0 dX7_copyFrom_60 rfl rfl rfl ?_
  refine zj_aload_n (pc' := 62) 1 dX7_copyFrom_61 rfl rfl rfl ?_
  refine zj_fI (pc' := 65) dX7_copyFrom_62 rfl flX7_25 sh131 rfl (zr_n rfl (zr_n rfl (zr_l (zr_l e_i131)))) rfl ?_
  obtain ⟨r0v5, er0v5⟩ : ∃ z, z = (zup r0 4 (r1 4)) := ⟨_, rfl⟩
  have hy := zlet_at er0v5 hy
  refine zj_pI (pc' := 68) (N := (zui (zui (zui (zul (zul M 6 w0_0v1) 7 w0_1v2) 5 r0v5) 8 r0_2v3) 9 r0_3v4)) dX7_copyFrom_65 rfl fpX7_25 sh5 rfl (zr_n rfl (zr_n rfl (zr_l (zr_l e_i5)))) er0v5 (zm_n rfl (zm_n rfl rfl)) ?_
  refine zj_aload_n (pc' := 69) 0 dX7_copyFrom_68 rfl rfl rfl ?_
  refine zj_aload_n (pc' := 70) 1 dX7_copyFrom_69 rfl rfl rfl ?_
  refine zj_fI (pc' := 73) dX7_copyFrom_70 rfl flX7_29 sh131 rfl (zr_n rfl (zr_n rfl (zr_n rfl (zr_l (zr_l e_i131))))) rfl ?_
  obtain ⟨r0v6, er0v6⟩ : ∃ z, z = (zup r0v5 5 (r1 5)) := ⟨_, rfl⟩
  have hy := zlet_at er0v6 hy
  refine zj_pI (pc' := 76) (N := (zui (zui (zui (zul (zul M 6 w0_0v1) 7 w0_1v2) 5 r0v6) 8 r0_2v3) 9 r0_3v4)) dX7_copyFrom_73 rfl fpX7_29 sh5 rfl (zr_n rfl (zr_n rfl zr_s)) er0v6 (zm_n rfl (zm_n rfl zm_s)) ?_
  refine zj_aload_n (pc' := 77) 0 dX7_copyFrom_76 rfl rfl rfl ?_
  refine zj_aload_n (pc' := 78) 1 dX7_copyFrom_77 rfl rfl rfl ?_
  refine zj_fI (pc' := 81) dX7_copyFrom_78 rfl flX7_32 sh131 rfl (zr_n rfl (zr_n rfl (zr_n rfl (zr_l (zr_l e_i131))))) rfl ?_
  obtain ⟨r0v7, er0v7⟩ : ∃ z, z = (zup r0v6 6 (r1 6)) := ⟨_, rfl⟩
  have hy := zlet_at er0v7 hy
  refine zj_pI (pc' := 84) (N := (zui (zui (zui (zul (zul M 6 w0_0v1) 7 w0_1v2) 5 r0v7) 8 r0_2v3) 9 r0_3v4)) dX7_copyFrom_81 rfl fpX7_32 sh5 rfl (zr_n rfl (zr_n rfl zr_s)) er0v7 (zm_n rfl (zm_n rfl zm_s)) ?_
  have e9 := Option.some.inj hy
  subst e9
  exact zj_vret dX7_copyFrom_84 rfl hq
set_option maxRecDepth 20000 in
theorem LX7_copyFrom_5_131 (Γ : zG) (M : zM) (r0 : Nat → Int32) (w0_0 : Nat → Int64) (w0_1 : Nat → Int64) (r0_2 : Nat → Int32) (r0_3 : Nat → Int32) (r1 : Nat → Int32) (w1_0 : Nat → Int64) (w1_1 : Nat → Int64) (r1_2 : Nat → Int32) (r1_3 : Nat → Int32) (e_i5 : M.1 5 = r0) (e_l6 : M.2 6 = w0_0) (e_l7 : M.2 7 = w0_1) (e_i8 : M.1 8 = r0_2) (e_i9 : M.1 9 = r0_3) (e_i131 : M.1 131 = r1) (e_l132 : M.2 132 = w1_0) (e_l133 : M.2 133 = w1_1) (e_i134 : M.1 134 = r1_2) (e_i135 : M.1 135 = r1_3)  {res : (Nat → Int32) × (Nat → Int64) × (Nat → Int64) × (Nat → Int32) × (Nat → Int32)} (hy : (fPl_copyFrom r0 w0_0 w0_1 r0_2 r0_3 r1 w1_0 w1_1 r1_2 r1_3) = some res) : zK Γ 2 YX7_copyFrom [.ref (zad Γ 5), .ref (zad Γ 131)] M (fun v N => v = none ∧ N = (zui (zui (zui (zul (zul M 6 res.2.1) 7 res.2.2.1) 5 res.1) 8 res.2.2.2.1) 9 res.2.2.2.2)) :=
  zK_of (by decide) (Nat.le_of_ble_eq_true rfl) (TX7_copyFrom_5_131 Γ M r0 w0_0 w0_1 r0_2 r0_3 r1 w1_0 w1_1 r1_2 r1_3 e_i5 e_l6 e_l7 e_i8 e_i9 e_i131 e_l132 e_l133 e_i134 e_i135 hy ⟨rfl, rfl⟩)


set_option maxRecDepth 20000 in
theorem TX1_copyFrom_15_136 (Γ : zG) {Q : Option Value → zM → Prop} (M : zM) (r0 : Nat → Int32) (r0_0 : Nat → Int32) (r0_1 : Nat → Int32) (r0_2 : Nat → Int32) (r0_3 : Nat → Int32) (r0_4 : Nat → Int32) (r0_5 : Nat → Int32) (r0_6 : Nat → Int32) (r0_7 : Nat → Int32) (r1 : Nat → Int32) (r1_0 : Nat → Int32) (r1_1 : Nat → Int32) (r1_2 : Nat → Int32) (r1_3 : Nat → Int32) (r1_4 : Nat → Int32) (r1_5 : Nat → Int32) (r1_6 : Nat → Int32) (r1_7 : Nat → Int32) (e_i15 : M.1 15 = r0) (e_i16 : M.1 16 = r0_0) (e_i17 : M.1 17 = r0_1) (e_i18 : M.1 18 = r0_2) (e_i19 : M.1 19 = r0_3) (e_i20 : M.1 20 = r0_4) (e_i21 : M.1 21 = r0_5) (e_i22 : M.1 22 = r0_6) (e_i23 : M.1 23 = r0_7) (e_i136 : M.1 136 = r1) (e_i137 : M.1 137 = r1_0) (e_i138 : M.1 138 = r1_1) (e_i139 : M.1 139 = r1_2) (e_i140 : M.1 140 = r1_3) (e_i141 : M.1 141 = r1_4) (e_i142 : M.1 142 = r1_5) (e_i143 : M.1 143 = r1_6) (e_i144 : M.1 144 = r1_7)  {res : (Nat → Int32) × (Nat → Int32) × (Nat → Int32) × (Nat → Int32) × (Nat → Int32) × (Nat → Int32) × (Nat → Int32) × (Nat → Int32) × (Nat → Int32)} (hy : (fDy_copyFrom r0 r0_0 r0_1 r0_2 r0_3 r0_4 r0_5 r0_6 r0_7 r1 r1_0 r1_1 r1_2 r1_3 r1_4 r1_5 r1_6 r1_7) = some res) (hq : Q none (zui (zui (zui (zui (zui (zui (zui (zui (zui M 15 res.1) 16 res.2.1) 17 res.2.2.1) 18 res.2.2.2.1) 19 res.2.2.2.2.1) 20 res.2.2.2.2.2.1) 21 res.2.2.2.2.2.2.1) 22 res.2.2.2.2.2.2.2.1) 23 res.2.2.2.2.2.2.2.2)) : zR Γ 2 YX1_copyFrom 0 [(0, .ref (zad Γ 15)), (1, .ref (zad Γ 136))] [] M Q := by
  unfold fDy_copyFrom at hy
  refine zj_aload_n (pc' := 1) 1 dX1_copyFrom_0 rfl rfl rfl ?_
  refine zj_getR (pc' := 4) (j := 137) dX1_copyFrom_1 rfl flX1_9 sh136 rfl ?_
  refine zj_iconst (pc' := 5) dX1_copyFrom_4 rfl kiconst_0 ?_
  refine zj_aload_n (pc' := 6) 0 dX1_copyFrom_5 rfl rfl rfl ?_
  refine zj_getR (pc' := 9) (j := 16) dX1_copyFrom_6 rfl flX1_9 sh15 rfl ?_
  refine zj_iconst (pc' := 10) dX1_copyFrom_9 rfl kiconst_0 ?_
  refine zj_bipush (pc' := 12) dX1_copyFrom_10 rfl kbipush_36 ?_
  obtain ⟨r0_0v1, er0_0v1⟩ : ∃ z, z = (va_cpy r1_0 r0_0 0 0 36) := ⟨_, rfl⟩
  have hy := zlet_at er0_0v1 hy
  refine zj_cpI (pc' := 15) (N := (zui M 16 r0_0v1)) dX1_copyFrom_12 rfl mlX1_52 zcpw sh137 sh16 tn0 tn0 tn36 (by decide) (by decide) (Nat.le_of_ble_eq_true rfl) (Nat.le_of_ble_eq_true rfl) e_i137 e_i16 er0_0v1 rfl (Nat.le_of_ble_eq_true rfl) (Nat.le_of_ble_eq_true rfl) ?_
  refine zj_aload_n (pc' := 16) 1 dX1_copyFrom_15 rfl rfl rfl ?_
  refine zj_getR (pc' := 19) (j := 138) dX1_copyFrom_16 rfl flX1_15 sh136 rfl ?_
  refine zj_iconst (pc' := 20) dX1_copyFrom_19 rfl kiconst_0 ?_
  refine zj_aload_n (pc' := 21) 0 dX1_copyFrom_20 rfl rfl rfl ?_
  refine zj_getR (pc' := 24) (j := 17) dX1_copyFrom_21 rfl flX1_15 sh15 rfl ?_
  refine zj_iconst (pc' := 25) dX1_copyFrom_24 rfl kiconst_0 ?_
  refine zj_bipush (pc' := 27) dX1_copyFrom_25 rfl kbipush_6 ?_
  obtain ⟨r0_1v2, er0_1v2⟩ : ∃ z, z = (va_cpy r1_1 r0_1 0 0 6) := ⟨_, rfl⟩
  have hy := zlet_at er0_1v2 hy
  refine zj_cpI (pc' := 30) (N := (zui (zui M 16 r0_0v1) 17 r0_1v2)) dX1_copyFrom_27 rfl mlX1_52 zcpw sh138 sh17 tn0 tn0 tn6 (by decide) (by decide) (Nat.le_of_ble_eq_true rfl) (Nat.le_of_ble_eq_true rfl) (zr_n rfl e_i138) (zr_n rfl e_i17) er0_1v2 rfl (Nat.le_of_ble_eq_true rfl) (Nat.le_of_ble_eq_true rfl) ?_
  refine zj_aload_n (pc' := 31) 1 dX1_copyFrom_30 rfl rfl rfl ?_
  refine zj_getR (pc' := 34) (j := 139) dX1_copyFrom_31 rfl flX1_18 sh136 rfl ?_
  refine zj_iconst (pc' := 35) dX1_copyFrom_34 rfl kiconst_0 ?_
  refine zj_aload_n (pc' := 36) 0 dX1_copyFrom_35 rfl rfl rfl ?_
  refine zj_getR (pc' := 39) (j := 18) dX1_copyFrom_36 rfl flX1_18 sh15 rfl ?_
  refine zj_iconst (pc' := 40) dX1_copyFrom_39 rfl kiconst_0 ?_
  refine zj_bipush (pc' := 42) dX1_copyFrom_40 rfl kbipush_6 ?_
  obtain ⟨r0_2v3, er0_2v3⟩ : ∃ z, z = (va_cpy r1_2 r0_2 0 0 6) := ⟨_, rfl⟩
  have hy := zlet_at er0_2v3 hy
  refine zj_cpI (pc' := 45) (N := (zui (zui (zui M 16 r0_0v1) 17 r0_1v2) 18 r0_2v3)) dX1_copyFrom_42 rfl mlX1_52 zcpw sh139 sh18 tn0 tn0 tn6 (by decide) (by decide) (Nat.le_of_ble_eq_true rfl) (Nat.le_of_ble_eq_true rfl) (zr_n rfl (zr_n rfl e_i139)) (zr_n rfl (zr_n rfl e_i18)) er0_2v3 rfl (Nat.le_of_ble_eq_true rfl) (Nat.le_of_ble_eq_true rfl) ?_
  refine zj_aload_n (pc' := 46) 1 dX1_copyFrom_45 rfl rfl rfl ?_
  refine zj_getR (pc' := 49) (j := 140) dX1_copyFrom_46 rfl flX1_21 sh136 rfl ?_
  refine zj_iconst (pc' := 50) dX1_copyFrom_49 rfl kiconst_0 ?_
  refine zj_aload_n (pc' := 51) 0 dX1_copyFrom_50 rfl rfl rfl ?_
  refine zj_getR (pc' := 54) (j := 19) dX1_copyFrom_51 rfl flX1_21 sh15 rfl ?_
  refine zj_iconst (pc' := 55) dX1_copyFrom_54 rfl kiconst_0 ?_
  refine zj_bipush (pc' := 57) dX1_copyFrom_55 rfl kbipush_6 ?_
  obtain ⟨r0_3v4, er0_3v4⟩ : ∃ z, z = (va_cpy r1_3 r0_3 0 0 6) := ⟨_, rfl⟩
  have hy := zlet_at er0_3v4 hy
  refine zj_cpI (pc' := 60) (N := (zui (zui (zui (zui M 16 r0_0v1) 17 r0_1v2) 18 r0_2v3) 19 r0_3v4)) dX1_copyFrom_57 rfl mlX1_52 zcpw sh140 sh19 tn0 tn0 tn6 (by decide) (by decide) (Nat.le_of_ble_eq_true rfl) (Nat.le_of_ble_eq_true rfl) (zr_n rfl (zr_n rfl (zr_n rfl e_i140))) (zr_n rfl (zr_n rfl (zr_n rfl e_i19))) er0_3v4 rfl (Nat.le_of_ble_eq_true rfl) (Nat.le_of_ble_eq_true rfl) ?_
  refine zj_aload_n (pc' := 61) 1 dX1_copyFrom_60 rfl rfl rfl ?_
  refine zj_getR (pc' := 64) (j := 141) dX1_copyFrom_61 rfl flX1_24 sh136 rfl ?_
  refine zj_iconst (pc' := 65) dX1_copyFrom_64 rfl kiconst_0 ?_
  refine zj_aload_n (pc' := 66) 0 dX1_copyFrom_65 rfl rfl rfl ?_
  refine zj_getR (pc' := 69) (j := 20) dX1_copyFrom_66 rfl flX1_24 sh15 rfl ?_
  refine zj_iconst (pc' := 70) dX1_copyFrom_69 rfl kiconst_0 ?_
  refine zj_bipush (pc' := 72) dX1_copyFrom_70 rfl kbipush_48 ?_
  obtain ⟨r0_4v5, er0_4v5⟩ : ∃ z, z = (va_cpy r1_4 r0_4 0 0 48) := ⟨_, rfl⟩
  have hy := zlet_at er0_4v5 hy
  refine zj_cpI (pc' := 75) (N := (zui (zui (zui (zui (zui M 16 r0_0v1) 17 r0_1v2) 18 r0_2v3) 19 r0_3v4) 20 r0_4v5)) dX1_copyFrom_72 rfl mlX1_52 zcpw sh141 sh20 tn0 tn0 tn48 (by decide) (by decide) (Nat.le_of_ble_eq_true rfl) (Nat.le_of_ble_eq_true rfl) (zr_n rfl (zr_n rfl (zr_n rfl (zr_n rfl e_i141)))) (zr_n rfl (zr_n rfl (zr_n rfl (zr_n rfl e_i20)))) er0_4v5 rfl (Nat.le_of_ble_eq_true rfl) (Nat.le_of_ble_eq_true rfl) ?_
  refine zj_aload_n (pc' := 76) 1 dX1_copyFrom_75 rfl rfl rfl ?_
  refine zj_getR (pc' := 79) (j := 142) dX1_copyFrom_76 rfl flX1_27 sh136 rfl ?_
  refine zj_iconst (pc' := 80) dX1_copyFrom_79 rfl kiconst_0 ?_
  refine zj_aload_n (pc' := 81) 0 dX1_copyFrom_80 rfl rfl rfl ?_
  refine zj_getR (pc' := 84) (j := 21) dX1_copyFrom_81 rfl flX1_27 sh15 rfl ?_
  refine zj_iconst (pc' := 85) dX1_copyFrom_84 rfl kiconst_0 ?_
  refine zj_bipush (pc' := 87) dX1_copyFrom_85 rfl kbipush_6 ?_
  obtain ⟨r0_5v6, er0_5v6⟩ : ∃ z, z = (va_cpy r1_5 r0_5 0 0 6) := ⟨_, rfl⟩
  have hy := zlet_at er0_5v6 hy
  refine zj_cpI (pc' := 90) (N := (zui (zui (zui (zui (zui (zui M 16 r0_0v1) 17 r0_1v2) 18 r0_2v3) 19 r0_3v4) 20 r0_4v5) 21 r0_5v6)) dX1_copyFrom_87 rfl mlX1_52 zcpw sh142 sh21 tn0 tn0 tn6 (by decide) (by decide) (Nat.le_of_ble_eq_true rfl) (Nat.le_of_ble_eq_true rfl) (zr_n rfl (zr_n rfl (zr_n rfl (zr_n rfl (zr_n rfl e_i142))))) (zr_n rfl (zr_n rfl (zr_n rfl (zr_n rfl (zr_n rfl e_i21))))) er0_5v6 rfl (Nat.le_of_ble_eq_true rfl) (Nat.le_of_ble_eq_true rfl) ?_
  refine zj_aload_n (pc' := 91) 1 dX1_copyFrom_90 rfl rfl rfl ?_
  refine zj_getR (pc' := 94) (j := 143) dX1_copyFrom_91 rfl flX1_30 sh136 rfl ?_
  refine zj_iconst (pc' := 95) dX1_copyFrom_94 rfl kiconst_0 ?_
  refine zj_aload_n (pc' := 96) 0 dX1_copyFrom_95 rfl rfl rfl ?_
  refine zj_getR (pc' := 99) (j := 22) dX1_copyFrom_96 rfl flX1_30 sh15 rfl ?_
  refine zj_iconst (pc' := 100) dX1_copyFrom_99 rfl kiconst_0 ?_
  refine zj_bipush (pc' := 102) dX1_copyFrom_100 rfl kbipush_8 ?_
  obtain ⟨r0_6v7, er0_6v7⟩ : ∃ z, z = (va_cpy r1_6 r0_6 0 0 8) := ⟨_, rfl⟩
  have hy := zlet_at er0_6v7 hy
  refine zj_cpI (pc' := 105) (N := (zui (zui (zui (zui (zui (zui (zui M 16 r0_0v1) 17 r0_1v2) 18 r0_2v3) 19 r0_3v4) 20 r0_4v5) 21 r0_5v6) 22 r0_6v7)) dX1_copyFrom_102 rfl mlX1_52 zcpw sh143 sh22 tn0 tn0 tn8 (by decide) (by decide) (Nat.le_of_ble_eq_true rfl) (Nat.le_of_ble_eq_true rfl) (zr_n rfl (zr_n rfl (zr_n rfl (zr_n rfl (zr_n rfl (zr_n rfl e_i143)))))) (zr_n rfl (zr_n rfl (zr_n rfl (zr_n rfl (zr_n rfl (zr_n rfl e_i22)))))) er0_6v7 rfl (Nat.le_of_ble_eq_true rfl) (Nat.le_of_ble_eq_true rfl) ?_
  refine zj_aload_n (pc' := 106) 1 dX1_copyFrom_105 rfl rfl rfl ?_
  refine zj_getR (pc' := 109) (j := 144) dX1_copyFrom_106 rfl flX1_33 sh136 rfl ?_
  refine zj_iconst (pc' := 110) dX1_copyFrom_109 rfl kiconst_0 ?_
  refine zj_aload_n (pc' := 111) 0 dX1_copyFrom_110 rfl rfl rfl ?_
  refine zj_getR (pc' := 114) (j := 23) dX1_copyFrom_111 rfl flX1_33 sh15 rfl ?_
  refine zj_iconst (pc' := 115) dX1_copyFrom_114 rfl kiconst_0 ?_
  refine zj_bipush (pc' := 117) dX1_copyFrom_115 rfl kbipush_8 ?_
  obtain ⟨r0_7v8, er0_7v8⟩ : ∃ z, z = (va_cpy r1_7 r0_7 0 0 8) := ⟨_, rfl⟩
  have hy := zlet_at er0_7v8 hy
  refine zj_cpI (pc' := 120) (N := (zui (zui (zui (zui (zui (zui (zui (zui M 16 r0_0v1) 17 r0_1v2) 18 r0_2v3) 19 r0_3v4) 20 r0_4v5) 21 r0_5v6) 22 r0_6v7) 23 r0_7v8)) dX1_copyFrom_117 rfl mlX1_52 zcpw sh144 sh23 tn0 tn0 tn8 (by decide) (by decide) (Nat.le_of_ble_eq_true rfl) (Nat.le_of_ble_eq_true rfl) (zr_n rfl (zr_n rfl (zr_n rfl (zr_n rfl (zr_n rfl (zr_n rfl (zr_n rfl e_i144))))))) (zr_n rfl (zr_n rfl (zr_n rfl (zr_n rfl (zr_n rfl (zr_n rfl (zr_n rfl e_i23))))))) er0_7v8 rfl (Nat.le_of_ble_eq_true rfl) (Nat.le_of_ble_eq_true rfl) ?_
  refine zj_aload_n (pc' := 121) 0 dX1_copyFrom_120 rfl rfl rfl ?_
  refine zj_aload_n (pc' := 122) 1 dX1_copyFrom_121 rfl rfl rfl ?_
  refine zj_fI (pc' := 125) dX1_copyFrom_122 rfl flX1_45 sh136 rfl (zr_n rfl (zr_n rfl (zr_n rfl (zr_n rfl (zr_n rfl (zr_n rfl (zr_n rfl (zr_n rfl e_i136)))))))) rfl ?_
  obtain ⟨r0v9, er0v9⟩ : ∃ z, z = (zup r0 9 (r1 9)) := ⟨_, rfl⟩
  have hy := zlet_at er0v9 hy
  refine zj_pI (pc' := 128) (N := (zui (zui (zui (zui (zui (zui (zui (zui (zui M 15 r0v9) 16 r0_0v1) 17 r0_1v2) 18 r0_2v3) 19 r0_3v4) 20 r0_4v5) 21 r0_5v6) 22 r0_6v7) 23 r0_7v8)) dX1_copyFrom_125 rfl fpX1_45 sh15 rfl (zr_n rfl (zr_n rfl (zr_n rfl (zr_n rfl (zr_n rfl (zr_n rfl (zr_n rfl (zr_n rfl e_i15)))))))) er0v9 (zm_n rfl (zm_n rfl (zm_n rfl (zm_n rfl (zm_n rfl (zm_n rfl (zm_n rfl (zm_n rfl rfl)))))))) ?_
  refine zj_aload_n (pc' := 129) 0 dX1_copyFrom_128 rfl rfl rfl ?_
  refine zj_aload_n (pc' := 130) 1 dX1_copyFrom_129 rfl rfl rfl ?_
  refine zj_fI (pc' := 133) dX1_copyFrom_130 rfl flX1_49 sh136 rfl (zr_n rfl (zr_n rfl (zr_n rfl (zr_n rfl (zr_n rfl (zr_n rfl (zr_n rfl (zr_n rfl (zr_n rfl e_i136))))))))) rfl ?_
  obtain ⟨r0v10, er0v10⟩ : ∃ z, z = (zup r0v9 10 (r1 10)) := ⟨_, rfl⟩
  have hy := zlet_at er0v10 hy
  refine zj_pI (pc' := 136) (N := (zui (zui (zui (zui (zui (zui (zui (zui (zui M 15 r0v10) 16 r0_0v1) 17 r0_1v2) 18 r0_2v3) 19 r0_3v4) 20 r0_4v5) 21 r0_5v6) 22 r0_6v7) 23 r0_7v8)) dX1_copyFrom_133 rfl fpX1_49 sh15 rfl (zr_n rfl (zr_n rfl (zr_n rfl (zr_n rfl (zr_n rfl (zr_n rfl (zr_n rfl (zr_n rfl zr_s)))))))) er0v10 (zm_n rfl (zm_n rfl (zm_n rfl (zm_n rfl (zm_n rfl (zm_n rfl (zm_n rfl (zm_n rfl zm_s)))))))) ?_
  have e9 := Option.some.inj hy
  subst e9
  exact zj_vret dX1_copyFrom_136 rfl hq
set_option maxRecDepth 20000 in
theorem LX1_copyFrom_15_136 (Γ : zG) (M : zM) (r0 : Nat → Int32) (r0_0 : Nat → Int32) (r0_1 : Nat → Int32) (r0_2 : Nat → Int32) (r0_3 : Nat → Int32) (r0_4 : Nat → Int32) (r0_5 : Nat → Int32) (r0_6 : Nat → Int32) (r0_7 : Nat → Int32) (r1 : Nat → Int32) (r1_0 : Nat → Int32) (r1_1 : Nat → Int32) (r1_2 : Nat → Int32) (r1_3 : Nat → Int32) (r1_4 : Nat → Int32) (r1_5 : Nat → Int32) (r1_6 : Nat → Int32) (r1_7 : Nat → Int32) (e_i15 : M.1 15 = r0) (e_i16 : M.1 16 = r0_0) (e_i17 : M.1 17 = r0_1) (e_i18 : M.1 18 = r0_2) (e_i19 : M.1 19 = r0_3) (e_i20 : M.1 20 = r0_4) (e_i21 : M.1 21 = r0_5) (e_i22 : M.1 22 = r0_6) (e_i23 : M.1 23 = r0_7) (e_i136 : M.1 136 = r1) (e_i137 : M.1 137 = r1_0) (e_i138 : M.1 138 = r1_1) (e_i139 : M.1 139 = r1_2) (e_i140 : M.1 140 = r1_3) (e_i141 : M.1 141 = r1_4) (e_i142 : M.1 142 = r1_5) (e_i143 : M.1 143 = r1_6) (e_i144 : M.1 144 = r1_7)  {res : (Nat → Int32) × (Nat → Int32) × (Nat → Int32) × (Nat → Int32) × (Nat → Int32) × (Nat → Int32) × (Nat → Int32) × (Nat → Int32) × (Nat → Int32)} (hy : (fDy_copyFrom r0 r0_0 r0_1 r0_2 r0_3 r0_4 r0_5 r0_6 r0_7 r1 r1_0 r1_1 r1_2 r1_3 r1_4 r1_5 r1_6 r1_7) = some res) : zK Γ 2 YX1_copyFrom [.ref (zad Γ 15), .ref (zad Γ 136)] M (fun v N => v = none ∧ N = (zui (zui (zui (zui (zui (zui (zui (zui (zui M 15 res.1) 16 res.2.1) 17 res.2.2.1) 18 res.2.2.2.1) 19 res.2.2.2.2.1) 20 res.2.2.2.2.2.1) 21 res.2.2.2.2.2.2.1) 22 res.2.2.2.2.2.2.2.1) 23 res.2.2.2.2.2.2.2.2)) :=
  zK_of (by decide) (Nat.le_of_ble_eq_true rfl) (TX1_copyFrom_15_136 Γ M r0 r0_0 r0_1 r0_2 r0_3 r0_4 r0_5 r0_6 r0_7 r1 r1_0 r1_1 r1_2 r1_3 r1_4 r1_5 r1_6 r1_7 e_i15 e_i16 e_i17 e_i18 e_i19 e_i20 e_i21 e_i22 e_i23 e_i136 e_i137 e_i138 e_i139 e_i140 e_i141 e_i142 e_i143 e_i144 hy ⟨rfl, rfl⟩)


set_option maxRecDepth 20000 in
theorem TX9_copyFrom_35_146 (Γ : zG) {Q : Option Value → zM → Prop} (M : zM) (r0 : Nat → Int32) (r0_0 : Nat → Int32) (r0_1 : Nat → Int32) (r0_2 : Nat → Int32) (r1 : Nat → Int32) (r1_0 : Nat → Int32) (r1_1 : Nat → Int32) (r1_2 : Nat → Int32) (e_i35 : M.1 35 = r0) (e_i36 : M.1 36 = r0_0) (e_i37 : M.1 37 = r0_1) (e_i38 : M.1 38 = r0_2) (e_i146 : M.1 146 = r1) (e_i147 : M.1 147 = r1_0) (e_i148 : M.1 148 = r1_1) (e_i149 : M.1 149 = r1_2)  {res : (Nat → Int32) × (Nat → Int32) × (Nat → Int32) × (Nat → Int32)} (hy : (fSn_copyFrom r0 r0_0 r0_1 r0_2 r1 r1_0 r1_1 r1_2) = some res) (hq : Q none (zui (zui (zui (zui M 35 res.1) 36 res.2.1) 37 res.2.2.1) 38 res.2.2.2)) : zR Γ 2 YX9_copyFrom 0 [(0, .ref (zad Γ 35)), (1, .ref (zad Γ 146))] [] M Q := by
  unfold fSn_copyFrom at hy
  refine zj_aload_n (pc' := 1) 1 dX9_copyFrom_0 rfl rfl rfl ?_
  refine zj_getR (pc' := 4) (j := 147) dX9_copyFrom_1 rfl flX9_11 sh146 rfl ?_
  refine zj_iconst (pc' := 5) dX9_copyFrom_4 rfl kiconst_0 ?_
  refine zj_aload_n (pc' := 6) 0 dX9_copyFrom_5 rfl rfl rfl ?_
  refine zj_getR (pc' := 9) (j := 36) dX9_copyFrom_6 rfl flX9_11 sh35 rfl ?_
  refine zj_iconst (pc' := 10) dX9_copyFrom_9 rfl kiconst_0 ?_
  refine zj_bipush (pc' := 12) dX9_copyFrom_10 rfl kbipush_40 ?_
  obtain ⟨r0_0v1, er0_0v1⟩ : ∃ z, z = (va_cpy r1_0 r0_0 0 0 40) := ⟨_, rfl⟩
  have hy := zlet_at er0_0v1 hy
  refine zj_cpI (pc' := 15) (N := (zui M 36 r0_0v1)) dX9_copyFrom_12 rfl mlX9_44 zcpw sh147 sh36 tn0 tn0 tn40 (by decide) (by decide) (Nat.le_of_ble_eq_true rfl) (Nat.le_of_ble_eq_true rfl) e_i147 e_i36 er0_0v1 rfl (Nat.le_of_ble_eq_true rfl) (Nat.le_of_ble_eq_true rfl) ?_
  refine zj_aload_n (pc' := 16) 1 dX9_copyFrom_15 rfl rfl rfl ?_
  refine zj_getR (pc' := 19) (j := 148) dX9_copyFrom_16 rfl flX9_15 sh146 rfl ?_
  refine zj_iconst (pc' := 20) dX9_copyFrom_19 rfl kiconst_0 ?_
  refine zj_aload_n (pc' := 21) 0 dX9_copyFrom_20 rfl rfl rfl ?_
  refine zj_getR (pc' := 24) (j := 37) dX9_copyFrom_21 rfl flX9_15 sh35 rfl ?_
  refine zj_iconst (pc' := 25) dX9_copyFrom_24 rfl kiconst_0 ?_
  refine zj_bipush (pc' := 27) dX9_copyFrom_25 rfl kbipush_40 ?_
  obtain ⟨r0_1v2, er0_1v2⟩ : ∃ z, z = (va_cpy r1_1 r0_1 0 0 40) := ⟨_, rfl⟩
  have hy := zlet_at er0_1v2 hy
  refine zj_cpI (pc' := 30) (N := (zui (zui M 36 r0_0v1) 37 r0_1v2)) dX9_copyFrom_27 rfl mlX9_44 zcpw sh148 sh37 tn0 tn0 tn40 (by decide) (by decide) (Nat.le_of_ble_eq_true rfl) (Nat.le_of_ble_eq_true rfl) (zr_n rfl e_i148) (zr_n rfl e_i37) er0_1v2 rfl (Nat.le_of_ble_eq_true rfl) (Nat.le_of_ble_eq_true rfl) ?_
  refine zj_aload_n (pc' := 31) 1 dX9_copyFrom_30 rfl rfl rfl ?_
  refine zj_getR (pc' := 34) (j := 149) dX9_copyFrom_31 rfl flX9_18 sh146 rfl ?_
  refine zj_iconst (pc' := 35) dX9_copyFrom_34 rfl kiconst_0 ?_
  refine zj_aload_n (pc' := 36) 0 dX9_copyFrom_35 rfl rfl rfl ?_
  refine zj_getR (pc' := 39) (j := 38) dX9_copyFrom_36 rfl flX9_18 sh35 rfl ?_
  refine zj_iconst (pc' := 40) dX9_copyFrom_39 rfl kiconst_0 ?_
  refine zj_bipush (pc' := 42) dX9_copyFrom_40 rfl kbipush_40 ?_
  obtain ⟨r0_2v3, er0_2v3⟩ : ∃ z, z = (va_cpy r1_2 r0_2 0 0 40) := ⟨_, rfl⟩
  have hy := zlet_at er0_2v3 hy
  refine zj_cpI (pc' := 45) (N := (zui (zui (zui M 36 r0_0v1) 37 r0_1v2) 38 r0_2v3)) dX9_copyFrom_42 rfl mlX9_44 zcpw sh149 sh38 tn0 tn0 tn40 (by decide) (by decide) (Nat.le_of_ble_eq_true rfl) (Nat.le_of_ble_eq_true rfl) (zr_n rfl (zr_n rfl e_i149)) (zr_n rfl (zr_n rfl e_i38)) er0_2v3 rfl (Nat.le_of_ble_eq_true rfl) (Nat.le_of_ble_eq_true rfl) ?_
  refine zj_aload_n (pc' := 46) 0 dX9_copyFrom_45 rfl rfl rfl ?_
  refine zj_aload_n (pc' := 47) 1 dX9_copyFrom_46 rfl rfl rfl ?_
  refine zj_fI (pc' := 50) dX9_copyFrom_47 rfl flX9_35 sh146 rfl (zr_n rfl (zr_n rfl (zr_n rfl e_i146))) rfl ?_
  obtain ⟨r0v4, er0v4⟩ : ∃ z, z = (zup r0 5 (r1 5)) := ⟨_, rfl⟩
  have hy := zlet_at er0v4 hy
  refine zj_pI (pc' := 53) (N := (zui (zui (zui (zui M 35 r0v4) 36 r0_0v1) 37 r0_1v2) 38 r0_2v3)) dX9_copyFrom_50 rfl fpX9_35 sh35 rfl (zr_n rfl (zr_n rfl (zr_n rfl e_i35))) er0v4 (zm_n rfl (zm_n rfl (zm_n rfl rfl))) ?_
  refine zj_aload_n (pc' := 54) 0 dX9_copyFrom_53 rfl rfl rfl ?_
  refine zj_aload_n (pc' := 55) 1 dX9_copyFrom_54 rfl rfl rfl ?_
  refine zj_fI (pc' := 58) dX9_copyFrom_55 rfl flX9_31 sh146 rfl (zr_n rfl (zr_n rfl (zr_n rfl (zr_n rfl e_i146)))) rfl ?_
  obtain ⟨r0v5, er0v5⟩ : ∃ z, z = (zup r0v4 8 (r1 8)) := ⟨_, rfl⟩
  have hy := zlet_at er0v5 hy
  refine zj_pI (pc' := 61) (N := (zui (zui (zui (zui M 35 r0v5) 36 r0_0v1) 37 r0_1v2) 38 r0_2v3)) dX9_copyFrom_58 rfl fpX9_31 sh35 rfl (zr_n rfl (zr_n rfl (zr_n rfl zr_s))) er0v5 (zm_n rfl (zm_n rfl (zm_n rfl zm_s))) ?_
  refine zj_aload_n (pc' := 62) 0 dX9_copyFrom_61 rfl rfl rfl ?_
  refine zj_aload_n (pc' := 63) 1 dX9_copyFrom_62 rfl rfl rfl ?_
  refine zj_fI (pc' := 66) dX9_copyFrom_63 rfl flX9_27 sh146 rfl (zr_n rfl (zr_n rfl (zr_n rfl (zr_n rfl e_i146)))) rfl ?_
  obtain ⟨c7, hy⟩ := zck hy
  obtain ⟨r0v6, er0v6⟩ : ∃ z, z = (zup r0v5 10 (r1 10)) := ⟨_, rfl⟩
  have hy := zlet_at er0v6 hy
  refine zj_pZ (pc' := 69) (N := (zui (zui (zui (zui M 35 r0v6) 36 r0_0v1) 37 r0_1v2) 38 r0_2v3)) dX9_copyFrom_66 rfl fpX9_27 sh35 rfl c7 (zr_n rfl (zr_n rfl (zr_n rfl zr_s))) er0v6 (zm_n rfl (zm_n rfl (zm_n rfl zm_s))) ?_
  have e9 := Option.some.inj hy
  subst e9
  exact zj_vret dX9_copyFrom_69 rfl hq
set_option maxRecDepth 20000 in
theorem LX9_copyFrom_35_146 (Γ : zG) (M : zM) (r0 : Nat → Int32) (r0_0 : Nat → Int32) (r0_1 : Nat → Int32) (r0_2 : Nat → Int32) (r1 : Nat → Int32) (r1_0 : Nat → Int32) (r1_1 : Nat → Int32) (r1_2 : Nat → Int32) (e_i35 : M.1 35 = r0) (e_i36 : M.1 36 = r0_0) (e_i37 : M.1 37 = r0_1) (e_i38 : M.1 38 = r0_2) (e_i146 : M.1 146 = r1) (e_i147 : M.1 147 = r1_0) (e_i148 : M.1 148 = r1_1) (e_i149 : M.1 149 = r1_2)  {res : (Nat → Int32) × (Nat → Int32) × (Nat → Int32) × (Nat → Int32)} (hy : (fSn_copyFrom r0 r0_0 r0_1 r0_2 r1 r1_0 r1_1 r1_2) = some res) : zK Γ 2 YX9_copyFrom [.ref (zad Γ 35), .ref (zad Γ 146)] M (fun v N => v = none ∧ N = (zui (zui (zui (zui M 35 res.1) 36 res.2.1) 37 res.2.2.1) 38 res.2.2.2)) :=
  zK_of (by decide) (Nat.le_of_ble_eq_true rfl) (TX9_copyFrom_35_146 Γ M r0 r0_0 r0_1 r0_2 r1 r1_0 r1_1 r1_2 e_i35 e_i36 e_i37 e_i38 e_i146 e_i147 e_i148 e_i149 hy ⟨rfl, rfl⟩)


set_option maxRecDepth 20000 in
theorem TX4_giveBack_130_5_15_35 (Γ : zG) {Q : Option Value → zM → Prop} (M : zM) (r0_0 : Nat → Int32) (w0_0_0 : Nat → Int64) (w0_0_1 : Nat → Int64) (r0_0_2 : Nat → Int32) (r0_0_3 : Nat → Int32) (r0_1 : Nat → Int32) (r0_1_0 : Nat → Int32) (r0_1_1 : Nat → Int32) (r0_1_2 : Nat → Int32) (r0_1_3 : Nat → Int32) (r0_1_4 : Nat → Int32) (r0_1_5 : Nat → Int32) (r0_1_6 : Nat → Int32) (r0_1_7 : Nat → Int32) (r0_2 : Nat → Int32) (r0_2_0 : Nat → Int32) (r0_2_1 : Nat → Int32) (r0_2_2 : Nat → Int32) (r1 : Nat → Int32) (w1_0 : Nat → Int64) (w1_1 : Nat → Int64) (r1_2 : Nat → Int32) (r1_3 : Nat → Int32) (r2 : Nat → Int32) (r2_0 : Nat → Int32) (r2_1 : Nat → Int32) (r2_2 : Nat → Int32) (r2_3 : Nat → Int32) (r2_4 : Nat → Int32) (r2_5 : Nat → Int32) (r2_6 : Nat → Int32) (r2_7 : Nat → Int32) (r3 : Nat → Int32) (r3_0 : Nat → Int32) (r3_1 : Nat → Int32) (r3_2 : Nat → Int32) (e_i131 : M.1 131 = r0_0) (e_l132 : M.2 132 = w0_0_0) (e_l133 : M.2 133 = w0_0_1) (e_i134 : M.1 134 = r0_0_2) (e_i135 : M.1 135 = r0_0_3) (e_i136 : M.1 136 = r0_1) (e_i137 : M.1 137 = r0_1_0) (e_i138 : M.1 138 = r0_1_1) (e_i139 : M.1 139 = r0_1_2) (e_i140 : M.1 140 = r0_1_3) (e_i141 : M.1 141 = r0_1_4) (e_i142 : M.1 142 = r0_1_5) (e_i143 : M.1 143 = r0_1_6) (e_i144 : M.1 144 = r0_1_7) (e_i146 : M.1 146 = r0_2) (e_i147 : M.1 147 = r0_2_0) (e_i148 : M.1 148 = r0_2_1) (e_i149 : M.1 149 = r0_2_2) (e_i5 : M.1 5 = r1) (e_l6 : M.2 6 = w1_0) (e_l7 : M.2 7 = w1_1) (e_i8 : M.1 8 = r1_2) (e_i9 : M.1 9 = r1_3) (e_i15 : M.1 15 = r2) (e_i16 : M.1 16 = r2_0) (e_i17 : M.1 17 = r2_1) (e_i18 : M.1 18 = r2_2) (e_i19 : M.1 19 = r2_3) (e_i20 : M.1 20 = r2_4) (e_i21 : M.1 21 = r2_5) (e_i22 : M.1 22 = r2_6) (e_i23 : M.1 23 = r2_7) (e_i35 : M.1 35 = r3) (e_i36 : M.1 36 = r3_0) (e_i37 : M.1 37 = r3_1) (e_i38 : M.1 38 = r3_2)  {res : (Nat → Int32) × (Nat → Int64) × (Nat → Int64) × (Nat → Int32) × (Nat → Int32) × (Nat → Int32) × (Nat → Int32) × (Nat → Int32) × (Nat → Int32) × (Nat → Int32) × (Nat → Int32) × (Nat → Int32) × (Nat → Int32) × (Nat → Int32) × (Nat → Int32) × (Nat → Int32) × (Nat → Int32) × (Nat → Int32)} (hy : (fKp_giveBack r0_0 w0_0_0 w0_0_1 r0_0_2 r0_0_3 r0_1 r0_1_0 r0_1_1 r0_1_2 r0_1_3 r0_1_4 r0_1_5 r0_1_6 r0_1_7 r0_2 r0_2_0 r0_2_1 r0_2_2 r1 w1_0 w1_1 r1_2 r1_3 r2 r2_0 r2_1 r2_2 r2_3 r2_4 r2_5 r2_6 r2_7 r3 r3_0 r3_1 r3_2) = some res) (hq : Q none (zui (zui (zui (zui (zui (zui (zui (zui (zui (zui (zui (zui (zui (zui (zui (zui (zul (zul M 6 res.2.1) 7 res.2.2.1) 5 res.1) 8 res.2.2.2.1) 9 res.2.2.2.2.1) 15 res.2.2.2.2.2.1) 16 res.2.2.2.2.2.2.1) 17 res.2.2.2.2.2.2.2.1) 18 res.2.2.2.2.2.2.2.2.1) 19 res.2.2.2.2.2.2.2.2.2.1) 20 res.2.2.2.2.2.2.2.2.2.2.1) 21 res.2.2.2.2.2.2.2.2.2.2.2.1) 22 res.2.2.2.2.2.2.2.2.2.2.2.2.1) 23 res.2.2.2.2.2.2.2.2.2.2.2.2.2.1) 35 res.2.2.2.2.2.2.2.2.2.2.2.2.2.2.1) 36 res.2.2.2.2.2.2.2.2.2.2.2.2.2.2.2.1) 37 res.2.2.2.2.2.2.2.2.2.2.2.2.2.2.2.2.1) 38 res.2.2.2.2.2.2.2.2.2.2.2.2.2.2.2.2.2)) : zR Γ 3 YX4_giveBack 0 [(0, .ref (zad Γ 130)), (1, .ref (zad Γ 5)), (2, .ref (zad Γ 15)), (3, .ref (zad Γ 35))] [] M Q := by
  unfold fKp_giveBack at hy
  refine zj_aload_n (pc' := 1) 1 dX4_giveBack_0 rfl rfl rfl ?_
  refine zj_aload_n (pc' := 2) 0 dX4_giveBack_1 rfl rfl rfl ?_
  refine zj_getR (pc' := 5) (j := 131) dX4_giveBack_2 rfl flX4_10 sh130 rfl ?_
  obtain ⟨y1, hy1, hy⟩ := zt_b hy
  refine zj_V0 (pc' := 8) (z := YX7_copyFrom) (As := [.ref (zad Γ 131)]) (N := (zui (zui (zui (zul (zul M 6 y1.2.1) 7 y1.2.2.1) 5 y1.1) 8 y1.2.2.2.1) 9 y1.2.2.2.2)) dX4_giveBack_5 rfl mlX4_34 lkX7_copyFrom sh5 ⟨_, _, rfl⟩ rfl rfl (Nat.le_of_ble_eq_true rfl) (Nat.le_of_ble_eq_true rfl) (LX7_copyFrom_5_131 Γ _ r1 w1_0 w1_1 r1_2 r1_3 r0_0 w0_0_0 w0_0_1 r0_0_2 r0_0_3 e_i5 e_l6 e_l7 e_i8 e_i9 e_i131 e_l132 e_l133 e_i134 e_i135 hy1) ((zch_i (zch_i (zch_i (zch_l rfl rfl) rfl) rfl) rfl)).symm ?_
  refine zj_aload_n (pc' := 9) 2 dX4_giveBack_8 rfl rfl rfl ?_
  refine zj_aload_n (pc' := 10) 0 dX4_giveBack_9 rfl rfl rfl ?_
  refine zj_getR (pc' := 13) (j := 136) dX4_giveBack_10 rfl flX4_19 sh130 rfl ?_
  obtain ⟨y2, hy2, hy⟩ := zt_b hy
  refine zj_V0 (pc' := 16) (z := YX1_copyFrom) (As := [.ref (zad Γ 136)]) (N := (zui (zui (zui (zui (zui (zui (zui (zui (zui (zui (zui (zui (zul (zul M 6 y1.2.1) 7 y1.2.2.1) 5 y1.1) 8 y1.2.2.2.1) 9 y1.2.2.2.2) 15 y2.1) 16 y2.2.1) 17 y2.2.2.1) 18 y2.2.2.2.1) 19 y2.2.2.2.2.1) 20 y2.2.2.2.2.2.1) 21 y2.2.2.2.2.2.2.1) 22 y2.2.2.2.2.2.2.2.1) 23 y2.2.2.2.2.2.2.2.2)) dX4_giveBack_13 rfl mlX4_38 lkX1_copyFrom sh15 ⟨_, _, rfl⟩ rfl rfl (Nat.le_of_ble_eq_true rfl) (Nat.le_of_ble_eq_true rfl) (LX1_copyFrom_15_136 Γ _ r2 r2_0 r2_1 r2_2 r2_3 r2_4 r2_5 r2_6 r2_7 r0_1 r0_1_0 r0_1_1 r0_1_2 r0_1_3 r0_1_4 r0_1_5 r0_1_6 r0_1_7 (zr_n rfl (zr_n rfl (zr_n rfl (zr_l (zr_l e_i15))))) (zr_n rfl (zr_n rfl (zr_n rfl (zr_l (zr_l e_i16))))) (zr_n rfl (zr_n rfl (zr_n rfl (zr_l (zr_l e_i17))))) (zr_n rfl (zr_n rfl (zr_n rfl (zr_l (zr_l e_i18))))) (zr_n rfl (zr_n rfl (zr_n rfl (zr_l (zr_l e_i19))))) (zr_n rfl (zr_n rfl (zr_n rfl (zr_l (zr_l e_i20))))) (zr_n rfl (zr_n rfl (zr_n rfl (zr_l (zr_l e_i21))))) (zr_n rfl (zr_n rfl (zr_n rfl (zr_l (zr_l e_i22))))) (zr_n rfl (zr_n rfl (zr_n rfl (zr_l (zr_l e_i23))))) (zr_n rfl (zr_n rfl (zr_n rfl (zr_l (zr_l e_i136))))) (zr_n rfl (zr_n rfl (zr_n rfl (zr_l (zr_l e_i137))))) (zr_n rfl (zr_n rfl (zr_n rfl (zr_l (zr_l e_i138))))) (zr_n rfl (zr_n rfl (zr_n rfl (zr_l (zr_l e_i139))))) (zr_n rfl (zr_n rfl (zr_n rfl (zr_l (zr_l e_i140))))) (zr_n rfl (zr_n rfl (zr_n rfl (zr_l (zr_l e_i141))))) (zr_n rfl (zr_n rfl (zr_n rfl (zr_l (zr_l e_i142))))) (zr_n rfl (zr_n rfl (zr_n rfl (zr_l (zr_l e_i143))))) (zr_n rfl (zr_n rfl (zr_n rfl (zr_l (zr_l e_i144))))) hy2) ((zch_i (zch_i (zch_i (zch_i (zch_i (zch_i (zch_i (zch_i rfl rfl) rfl) rfl) rfl) rfl) rfl) rfl) rfl)).symm ?_
  refine zj_aload_n (pc' := 17) 3 dX4_giveBack_16 rfl rfl rfl ?_
  refine zj_aload_n (pc' := 18) 0 dX4_giveBack_17 rfl rfl rfl ?_
  refine zj_getR (pc' := 21) (j := 146) dX4_giveBack_18 rfl flX4_26 sh130 rfl ?_
  obtain ⟨y3, hy3, hy⟩ := zt_b hy
  refine zj_V0 (pc' := 24) (z := YX9_copyFrom) (As := [.ref (zad Γ 146)]) (N := (zui (zui (zui (zui (zui (zui (zui (zui (zui (zui (zui (zui (zui (zui (zui (zui (zul (zul M 6 y1.2.1) 7 y1.2.2.1) 5 y1.1) 8 y1.2.2.2.1) 9 y1.2.2.2.2) 15 y2.1) 16 y2.2.1) 17 y2.2.2.1) 18 y2.2.2.2.1) 19 y2.2.2.2.2.1) 20 y2.2.2.2.2.2.1) 21 y2.2.2.2.2.2.2.1) 22 y2.2.2.2.2.2.2.2.1) 23 y2.2.2.2.2.2.2.2.2) 35 y3.1) 36 y3.2.1) 37 y3.2.2.1) 38 y3.2.2.2)) dX4_giveBack_21 rfl mlX4_41 lkX9_copyFrom sh35 ⟨_, _, rfl⟩ rfl rfl (Nat.le_of_ble_eq_true rfl) (Nat.le_of_ble_eq_true rfl) (LX9_copyFrom_35_146 Γ _ r3 r3_0 r3_1 r3_2 r0_2 r0_2_0 r0_2_1 r0_2_2 (zr_n rfl (zr_n rfl (zr_n rfl (zr_n rfl (zr_n rfl (zr_n rfl (zr_n rfl (zr_n rfl (zr_n rfl (zr_n rfl (zr_n rfl (zr_n rfl (zr_l (zr_l e_i35)))))))))))))) (zr_n rfl (zr_n rfl (zr_n rfl (zr_n rfl (zr_n rfl (zr_n rfl (zr_n rfl (zr_n rfl (zr_n rfl (zr_n rfl (zr_n rfl (zr_n rfl (zr_l (zr_l e_i36)))))))))))))) (zr_n rfl (zr_n rfl (zr_n rfl (zr_n rfl (zr_n rfl (zr_n rfl (zr_n rfl (zr_n rfl (zr_n rfl (zr_n rfl (zr_n rfl (zr_n rfl (zr_l (zr_l e_i37)))))))))))))) (zr_n rfl (zr_n rfl (zr_n rfl (zr_n rfl (zr_n rfl (zr_n rfl (zr_n rfl (zr_n rfl (zr_n rfl (zr_n rfl (zr_n rfl (zr_n rfl (zr_l (zr_l e_i38)))))))))))))) (zr_n rfl (zr_n rfl (zr_n rfl (zr_n rfl (zr_n rfl (zr_n rfl (zr_n rfl (zr_n rfl (zr_n rfl (zr_n rfl (zr_n rfl (zr_n rfl (zr_l (zr_l e_i146)))))))))))))) (zr_n rfl (zr_n rfl (zr_n rfl (zr_n rfl (zr_n rfl (zr_n rfl (zr_n rfl (zr_n rfl (zr_n rfl (zr_n rfl (zr_n rfl (zr_n rfl (zr_l (zr_l e_i147)))))))))))))) (zr_n rfl (zr_n rfl (zr_n rfl (zr_n rfl (zr_n rfl (zr_n rfl (zr_n rfl (zr_n rfl (zr_n rfl (zr_n rfl (zr_n rfl (zr_n rfl (zr_l (zr_l e_i148)))))))))))))) (zr_n rfl (zr_n rfl (zr_n rfl (zr_n rfl (zr_n rfl (zr_n rfl (zr_n rfl (zr_n rfl (zr_n rfl (zr_n rfl (zr_n rfl (zr_n rfl (zr_l (zr_l e_i149)))))))))))))) hy3) ((zch_i (zch_i (zch_i rfl rfl) rfl) rfl)).symm ?_
  have e9 := Option.some.inj hy
  subst e9
  exact zj_vret dX4_giveBack_24 rfl hq
set_option maxRecDepth 20000 in
theorem LX4_giveBack_130_5_15_35 (Γ : zG) (M : zM) (r0_0 : Nat → Int32) (w0_0_0 : Nat → Int64) (w0_0_1 : Nat → Int64) (r0_0_2 : Nat → Int32) (r0_0_3 : Nat → Int32) (r0_1 : Nat → Int32) (r0_1_0 : Nat → Int32) (r0_1_1 : Nat → Int32) (r0_1_2 : Nat → Int32) (r0_1_3 : Nat → Int32) (r0_1_4 : Nat → Int32) (r0_1_5 : Nat → Int32) (r0_1_6 : Nat → Int32) (r0_1_7 : Nat → Int32) (r0_2 : Nat → Int32) (r0_2_0 : Nat → Int32) (r0_2_1 : Nat → Int32) (r0_2_2 : Nat → Int32) (r1 : Nat → Int32) (w1_0 : Nat → Int64) (w1_1 : Nat → Int64) (r1_2 : Nat → Int32) (r1_3 : Nat → Int32) (r2 : Nat → Int32) (r2_0 : Nat → Int32) (r2_1 : Nat → Int32) (r2_2 : Nat → Int32) (r2_3 : Nat → Int32) (r2_4 : Nat → Int32) (r2_5 : Nat → Int32) (r2_6 : Nat → Int32) (r2_7 : Nat → Int32) (r3 : Nat → Int32) (r3_0 : Nat → Int32) (r3_1 : Nat → Int32) (r3_2 : Nat → Int32) (e_i131 : M.1 131 = r0_0) (e_l132 : M.2 132 = w0_0_0) (e_l133 : M.2 133 = w0_0_1) (e_i134 : M.1 134 = r0_0_2) (e_i135 : M.1 135 = r0_0_3) (e_i136 : M.1 136 = r0_1) (e_i137 : M.1 137 = r0_1_0) (e_i138 : M.1 138 = r0_1_1) (e_i139 : M.1 139 = r0_1_2) (e_i140 : M.1 140 = r0_1_3) (e_i141 : M.1 141 = r0_1_4) (e_i142 : M.1 142 = r0_1_5) (e_i143 : M.1 143 = r0_1_6) (e_i144 : M.1 144 = r0_1_7) (e_i146 : M.1 146 = r0_2) (e_i147 : M.1 147 = r0_2_0) (e_i148 : M.1 148 = r0_2_1) (e_i149 : M.1 149 = r0_2_2) (e_i5 : M.1 5 = r1) (e_l6 : M.2 6 = w1_0) (e_l7 : M.2 7 = w1_1) (e_i8 : M.1 8 = r1_2) (e_i9 : M.1 9 = r1_3) (e_i15 : M.1 15 = r2) (e_i16 : M.1 16 = r2_0) (e_i17 : M.1 17 = r2_1) (e_i18 : M.1 18 = r2_2) (e_i19 : M.1 19 = r2_3) (e_i20 : M.1 20 = r2_4) (e_i21 : M.1 21 = r2_5) (e_i22 : M.1 22 = r2_6) (e_i23 : M.1 23 = r2_7) (e_i35 : M.1 35 = r3) (e_i36 : M.1 36 = r3_0) (e_i37 : M.1 37 = r3_1) (e_i38 : M.1 38 = r3_2)  {res : (Nat → Int32) × (Nat → Int64) × (Nat → Int64) × (Nat → Int32) × (Nat → Int32) × (Nat → Int32) × (Nat → Int32) × (Nat → Int32) × (Nat → Int32) × (Nat → Int32) × (Nat → Int32) × (Nat → Int32) × (Nat → Int32) × (Nat → Int32) × (Nat → Int32) × (Nat → Int32) × (Nat → Int32) × (Nat → Int32)} (hy : (fKp_giveBack r0_0 w0_0_0 w0_0_1 r0_0_2 r0_0_3 r0_1 r0_1_0 r0_1_1 r0_1_2 r0_1_3 r0_1_4 r0_1_5 r0_1_6 r0_1_7 r0_2 r0_2_0 r0_2_1 r0_2_2 r1 w1_0 w1_1 r1_2 r1_3 r2 r2_0 r2_1 r2_2 r2_3 r2_4 r2_5 r2_6 r2_7 r3 r3_0 r3_1 r3_2) = some res) : zK Γ 3 YX4_giveBack [.ref (zad Γ 130), .ref (zad Γ 5), .ref (zad Γ 15), .ref (zad Γ 35)] M (fun v N => v = none ∧ N = (zui (zui (zui (zui (zui (zui (zui (zui (zui (zui (zui (zui (zui (zui (zui (zui (zul (zul M 6 res.2.1) 7 res.2.2.1) 5 res.1) 8 res.2.2.2.1) 9 res.2.2.2.2.1) 15 res.2.2.2.2.2.1) 16 res.2.2.2.2.2.2.1) 17 res.2.2.2.2.2.2.2.1) 18 res.2.2.2.2.2.2.2.2.1) 19 res.2.2.2.2.2.2.2.2.2.1) 20 res.2.2.2.2.2.2.2.2.2.2.1) 21 res.2.2.2.2.2.2.2.2.2.2.2.1) 22 res.2.2.2.2.2.2.2.2.2.2.2.2.1) 23 res.2.2.2.2.2.2.2.2.2.2.2.2.2.1) 35 res.2.2.2.2.2.2.2.2.2.2.2.2.2.2.1) 36 res.2.2.2.2.2.2.2.2.2.2.2.2.2.2.2.1) 37 res.2.2.2.2.2.2.2.2.2.2.2.2.2.2.2.2.1) 38 res.2.2.2.2.2.2.2.2.2.2.2.2.2.2.2.2.2)) :=
  zK_of (by decide) (Nat.le_of_ble_eq_true rfl) (TX4_giveBack_130_5_15_35 Γ M r0_0 w0_0_0 w0_0_1 r0_0_2 r0_0_3 r0_1 r0_1_0 r0_1_1 r0_1_2 r0_1_3 r0_1_4 r0_1_5 r0_1_6 r0_1_7 r0_2 r0_2_0 r0_2_1 r0_2_2 r1 w1_0 w1_1 r1_2 r1_3 r2 r2_0 r2_1 r2_2 r2_3 r2_4 r2_5 r2_6 r2_7 r3 r3_0 r3_1 r3_2 e_i131 e_l132 e_l133 e_i134 e_i135 e_i136 e_i137 e_i138 e_i139 e_i140 e_i141 e_i142 e_i143 e_i144 e_i146 e_i147 e_i148 e_i149 e_i5 e_l6 e_l7 e_i8 e_i9 e_i15 e_i16 e_i17 e_i18 e_i19 e_i20 e_i21 e_i22 e_i23 e_i35 e_i36 e_i37 e_i38 hy ⟨rfl, rfl⟩)

noncomputable def fX_restore (r0_2 : Nat → Int32) (w0_2_0 : Nat → Int64) (w0_2_1 : Nat → Int64) (r0_2_2 : Nat → Int32) (r0_2_3 : Nat → Int32) (r0_4 : Nat → Int32) (r0_4_0 : Nat → Int32) (r0_4_1 : Nat → Int32) (r0_4_2 : Nat → Int32) (r0_4_3 : Nat → Int32) (r0_4_4 : Nat → Int32) (r0_4_5 : Nat → Int32) (r0_4_6 : Nat → Int32) (r0_4_7 : Nat → Int32) (r0_6 : Nat → Int32) (r0_6_0 : Nat → Int32) (r0_6_1 : Nat → Int32) (r0_6_2 : Nat → Int32) (r0_8 : Nat → Int32) (g130 : zM) (a1 : Int32) : Option (Bool × (Nat → Int32) × (Nat → Int64) × (Nat → Int64) × (Nat → Int32) × (Nat → Int32) × (Nat → Int32) × (Nat → Int32) × (Nat → Int32) × (Nat → Int32) × (Nat → Int32) × (Nat → Int32) × (Nat → Int32) × (Nat → Int32) × (Nat → Int32) × (Nat → Int32) × (Nat → Int32) × (Nat → Int32) × (Nat → Int32) × (Nat → Int32) × zM) :=
  (if a1 = 0 then
  (fKp_isFull (g130.1 130)).bind (fun (y2 : Bool) =>
  (if y2 = true then
  (fKp_giveBack (g130.1 131) (g130.2 132) (g130.2 133) (g130.1 134) (g130.1 135) (g130.1 136) (g130.1 137) (g130.1 138) (g130.1 139) (g130.1 140) (g130.1 141) (g130.1 142) (g130.1 143) (g130.1 144) (g130.1 146) (g130.1 147) (g130.1 148) (g130.1 149) r0_2 w0_2_0 w0_2_1 r0_2_2 r0_2_3 r0_4 r0_4_0 r0_4_1 r0_4_2 r0_4_3 r0_4_4 r0_4_5 r0_4_6 r0_4_7 r0_6 r0_6_0 r0_6_1 r0_6_2).bind (fun (y4 : (Nat → Int32) × (Nat → Int64) × (Nat → Int64) × (Nat → Int32) × (Nat → Int32) × (Nat → Int32) × (Nat → Int32) × (Nat → Int32) × (Nat → Int32) × (Nat → Int32) × (Nat → Int32) × (Nat → Int32) × (Nat → Int32) × (Nat → Int32) × (Nat → Int32) × (Nat → Int32) × (Nat → Int32) × (Nat → Int32)) =>
  (fHi_clear r0_8).bind (fun (y5 : (Nat → Int32)) =>
  some (true, y4.1, y4.2.1, y4.2.2.1, y4.2.2.2.1, y4.2.2.2.2.1, y4.2.2.2.2.2.1, y4.2.2.2.2.2.2.1, y4.2.2.2.2.2.2.2.1, y4.2.2.2.2.2.2.2.2.1, y4.2.2.2.2.2.2.2.2.2.1, y4.2.2.2.2.2.2.2.2.2.2.1, y4.2.2.2.2.2.2.2.2.2.2.2.1, y4.2.2.2.2.2.2.2.2.2.2.2.2.1, y4.2.2.2.2.2.2.2.2.2.2.2.2.2.1, y4.2.2.2.2.2.2.2.2.2.2.2.2.2.2.1, y4.2.2.2.2.2.2.2.2.2.2.2.2.2.2.2.1, y4.2.2.2.2.2.2.2.2.2.2.2.2.2.2.2.2.1, y4.2.2.2.2.2.2.2.2.2.2.2.2.2.2.2.2.2, y5, g130)))
  else
  some (false, r0_2, w0_2_0, w0_2_1, r0_2_2, r0_2_3, r0_4, r0_4_0, r0_4_1, r0_4_2, r0_4_3, r0_4_4, r0_4_5, r0_4_6, r0_4_7, r0_6, r0_6_0, r0_6_1, r0_6_2, r0_8, g130)))
  else
  (if a1 = 1 then
  (fKp_isFull (g130.1 152)).bind (fun (y7 : Bool) =>
  (if y7 = true then
  (fKp_giveBack (g130.1 153) (g130.2 154) (g130.2 155) (g130.1 156) (g130.1 157) (g130.1 158) (g130.1 159) (g130.1 160) (g130.1 161) (g130.1 162) (g130.1 163) (g130.1 164) (g130.1 165) (g130.1 166) (g130.1 168) (g130.1 169) (g130.1 170) (g130.1 171) r0_2 w0_2_0 w0_2_1 r0_2_2 r0_2_3 r0_4 r0_4_0 r0_4_1 r0_4_2 r0_4_3 r0_4_4 r0_4_5 r0_4_6 r0_4_7 r0_6 r0_6_0 r0_6_1 r0_6_2).bind (fun (y9 : (Nat → Int32) × (Nat → Int64) × (Nat → Int64) × (Nat → Int32) × (Nat → Int32) × (Nat → Int32) × (Nat → Int32) × (Nat → Int32) × (Nat → Int32) × (Nat → Int32) × (Nat → Int32) × (Nat → Int32) × (Nat → Int32) × (Nat → Int32) × (Nat → Int32) × (Nat → Int32) × (Nat → Int32) × (Nat → Int32)) =>
  (fHi_clear r0_8).bind (fun (y10 : (Nat → Int32)) =>
  some (true, y9.1, y9.2.1, y9.2.2.1, y9.2.2.2.1, y9.2.2.2.2.1, y9.2.2.2.2.2.1, y9.2.2.2.2.2.2.1, y9.2.2.2.2.2.2.2.1, y9.2.2.2.2.2.2.2.2.1, y9.2.2.2.2.2.2.2.2.2.1, y9.2.2.2.2.2.2.2.2.2.2.1, y9.2.2.2.2.2.2.2.2.2.2.2.1, y9.2.2.2.2.2.2.2.2.2.2.2.2.1, y9.2.2.2.2.2.2.2.2.2.2.2.2.2.1, y9.2.2.2.2.2.2.2.2.2.2.2.2.2.2.1, y9.2.2.2.2.2.2.2.2.2.2.2.2.2.2.2.1, y9.2.2.2.2.2.2.2.2.2.2.2.2.2.2.2.2.1, y9.2.2.2.2.2.2.2.2.2.2.2.2.2.2.2.2.2, y10, g130)))
  else
  some (false, r0_2, w0_2_0, w0_2_1, r0_2_2, r0_2_3, r0_4, r0_4_0, r0_4_1, r0_4_2, r0_4_3, r0_4_4, r0_4_5, r0_4_6, r0_4_7, r0_6, r0_6_0, r0_6_1, r0_6_2, r0_8, g130)))
  else
  some (false, r0_2, w0_2_0, w0_2_1, r0_2_2, r0_2_3, r0_4, r0_4_0, r0_4_1, r0_4_2, r0_4_3, r0_4_4, r0_4_5, r0_4_6, r0_4_7, r0_6, r0_6_0, r0_6_1, r0_6_2, r0_8, g130)))

set_option maxRecDepth 20000 in
theorem TX11_restore_0 (Γ : zG) {Q : Option Value → zM → Prop} (M : zM) (r0_2 : Nat → Int32) (w0_2_0 : Nat → Int64) (w0_2_1 : Nat → Int64) (r0_2_2 : Nat → Int32) (r0_2_3 : Nat → Int32) (r0_4 : Nat → Int32) (r0_4_0 : Nat → Int32) (r0_4_1 : Nat → Int32) (r0_4_2 : Nat → Int32) (r0_4_3 : Nat → Int32) (r0_4_4 : Nat → Int32) (r0_4_5 : Nat → Int32) (r0_4_6 : Nat → Int32) (r0_4_7 : Nat → Int32) (r0_6 : Nat → Int32) (r0_6_0 : Nat → Int32) (r0_6_1 : Nat → Int32) (r0_6_2 : Nat → Int32) (r0_8 : Nat → Int32) (g130 : zM) (e_i5 : M.1 5 = r0_2) (e_l6 : M.2 6 = w0_2_0) (e_l7 : M.2 7 = w0_2_1) (e_i8 : M.1 8 = r0_2_2) (e_i9 : M.1 9 = r0_2_3) (e_i15 : M.1 15 = r0_4) (e_i16 : M.1 16 = r0_4_0) (e_i17 : M.1 17 = r0_4_1) (e_i18 : M.1 18 = r0_4_2) (e_i19 : M.1 19 = r0_4_3) (e_i20 : M.1 20 = r0_4_4) (e_i21 : M.1 21 = r0_4_5) (e_i22 : M.1 22 = r0_4_6) (e_i23 : M.1 23 = r0_4_7) (e_i35 : M.1 35 = r0_6) (e_i36 : M.1 36 = r0_6_0) (e_i37 : M.1 37 = r0_6_1) (e_i38 : M.1 38 = r0_6_2) (e_i47 : M.1 47 = r0_8) (e_h130 : zeq M 130 174 g130) (a1 : Int32) {res : Bool × (Nat → Int32) × (Nat → Int64) × (Nat → Int64) × (Nat → Int32) × (Nat → Int32) × (Nat → Int32) × (Nat → Int32) × (Nat → Int32) × (Nat → Int32) × (Nat → Int32) × (Nat → Int32) × (Nat → Int32) × (Nat → Int32) × (Nat → Int32) × (Nat → Int32) × (Nat → Int32) × (Nat → Int32) × (Nat → Int32) × (Nat → Int32) × zM} (hy : (fX_restore r0_2 w0_2_0 w0_2_1 r0_2_2 r0_2_3 r0_4 r0_4_0 r0_4_1 r0_4_2 r0_4_3 r0_4_4 r0_4_5 r0_4_6 r0_4_7 r0_6 r0_6_0 r0_6_1 r0_6_2 r0_8 g130 a1) = some res) (hq : Q (some (.int (zb res.1))) (zub (zui (zui (zui (zui (zui (zui (zui (zui (zui (zui (zui (zui (zui (zui (zui (zui (zui (zul (zul M 6 res.2.2.1) 7 res.2.2.2.1) 5 res.2.1) 8 res.2.2.2.2.1) 9 res.2.2.2.2.2.1) 15 res.2.2.2.2.2.2.1) 16 res.2.2.2.2.2.2.2.1) 17 res.2.2.2.2.2.2.2.2.1) 18 res.2.2.2.2.2.2.2.2.2.1) 19 res.2.2.2.2.2.2.2.2.2.2.1) 20 res.2.2.2.2.2.2.2.2.2.2.2.1) 21 res.2.2.2.2.2.2.2.2.2.2.2.2.1) 22 res.2.2.2.2.2.2.2.2.2.2.2.2.2.1) 23 res.2.2.2.2.2.2.2.2.2.2.2.2.2.2.1) 35 res.2.2.2.2.2.2.2.2.2.2.2.2.2.2.2.1) 36 res.2.2.2.2.2.2.2.2.2.2.2.2.2.2.2.2.1) 37 res.2.2.2.2.2.2.2.2.2.2.2.2.2.2.2.2.2.1) 38 res.2.2.2.2.2.2.2.2.2.2.2.2.2.2.2.2.2.2.1) 47 res.2.2.2.2.2.2.2.2.2.2.2.2.2.2.2.2.2.2.2.1) 130 174 res.2.2.2.2.2.2.2.2.2.2.2.2.2.2.2.2.2.2.2.2)) : zR Γ 4 YX11_restore 0 [(0, .ref (zad Γ 0)), (1, .int a1)] [] M Q := by
  unfold fX_restore at hy
  refine zj_mem (N := (zub M 130 174 g130)) (zself_h e_h130 rfl) ?_
  refine zj_aload_n (pc' := 1) 0 dX11_restore_0 rfl rfl rfl ?_
  refine zj_iload_n (pc' := 2) 1 dX11_restore_1 rfl rfl rfl ?_
  rcases Decidable.em (a1 = 0) with c1 | c1
  · have hy := zt_t hy c1
    refine zj_V1 (pc' := 5) (z := YX11_imageIn) (As := [.int a1]) (N := (zub M 130 174 g130)) dX11_restore_2 rfl mlX11_379 lkX11_imageIn sh0 ⟨_, _, rfl⟩ rfl rfl (Nat.le_of_ble_eq_true rfl) (Nat.le_of_ble_eq_true rfl) (LDX11_imageIn_0 Γ _ a1 c1) rfl ?_
    refine zj_astore_n (pc' := 6) (L' := [(2, .ref (zad Γ 130)), (0, .ref (zad Γ 0)), (1, .int a1)]) dX11_restore_5 rfl rfl (by decide) rfl ?_
    refine zj_aload_n (pc' := 7) 0 dX11_restore_6 rfl rfl rfl ?_
    refine zj_ifnull (pc' := 10) dX11_restore_7 rfl ?_
    refine zj_aload_n (pc' := 11) 0 dX11_restore_10 rfl rfl rfl ?_
    obtain ⟨y2, hy2, hy⟩ := zt_b hy
    refine zj_V1 (pc' := 14) (z := YX4_isFull) (As := []) (N := (zub M 130 174 g130)) dX11_restore_11 rfl mlX11_387 lkX4_isFull sh130 ⟨_, _, rfl⟩ rfl rfl (Nat.le_of_ble_eq_true rfl) (Nat.le_of_ble_eq_true rfl) (LX4_isFull_130 Γ _ (g130.1 130) (zr_in rfl rfl) hy2) rfl ?_
    refine zj_bif_ne (tgt := 19) (pc' := 17) dX11_restore_14 rfl (by decide) (fun c3 => ?_) (fun c3 => ?_)
    · have hy := zt_t hy c3
      refine zj_aload_n (pc' := 20) 0 dX11_restore_19 rfl rfl rfl ?_
      refine zj_aload_n (pc' := 21) 1 dX11_restore_20 rfl rfl rfl ?_
      refine zj_getR (pc' := 24) (j := 5) dX11_restore_21 rfl flX11_28 sh0 rfl ?_
      refine zj_aload_n (pc' := 25) 1 dX11_restore_24 rfl rfl rfl ?_
      refine zj_getR (pc' := 28) (j := 15) dX11_restore_25 rfl flX11_38 sh0 rfl ?_
      refine zj_aload_n (pc' := 29) 1 dX11_restore_28 rfl rfl rfl ?_
      refine zj_getR (pc' := 32) (j := 35) dX11_restore_29 rfl flX11_48 sh0 rfl ?_
      obtain ⟨y4, hy4, hy⟩ := zt_b hy
      refine zj_V0 (pc' := 35) (z := YX4_giveBack) (As := [.ref (zad Γ 5), .ref (zad Γ 15), .ref (zad Γ 35)]) (N := (zub (zui (zui (zui (zui (zui (zui (zui (zui (zui (zui (zui (zui (zui (zui (zui (zui (zul (zul M 6 y4.2.1) 7 y4.2.2.1) 5 y4.1) 8 y4.2.2.2.1) 9 y4.2.2.2.2.1) 15 y4.2.2.2.2.2.1) 16 y4.2.2.2.2.2.2.1) 17 y4.2.2.2.2.2.2.2.1) 18 y4.2.2.2.2.2.2.2.2.1) 19 y4.2.2.2.2.2.2.2.2.2.1) 20 y4.2.2.2.2.2.2.2.2.2.2.1) 21 y4.2.2.2.2.2.2.2.2.2.2.2.1) 22 y4.2.2.2.2.2.2.2.2.2.2.2.2.1) 23 y4.2.2.2.2.2.2.2.2.2.2.2.2.2.1) 35 y4.2.2.2.2.2.2.2.2.2.2.2.2.2.2.1) 36 y4.2.2.2.2.2.2.2.2.2.2.2.2.2.2.2.1) 37 y4.2.2.2.2.2.2.2.2.2.2.2.2.2.2.2.2.1) 38 y4.2.2.2.2.2.2.2.2.2.2.2.2.2.2.2.2.2) 130 174 g130)) dX11_restore_32 rfl mlX11_390 lkX4_giveBack sh130 ⟨_, _, rfl⟩ rfl rfl (Nat.le_of_ble_eq_true rfl) (Nat.le_of_ble_eq_true rfl) (LX4_giveBack_130_5_15_35 Γ _ (g130.1 131) (g130.2 132) (g130.2 133) (g130.1 134) (g130.1 135) (g130.1 136) (g130.1 137) (g130.1 138) (g130.1 139) (g130.1 140) (g130.1 141) (g130.1 142) (g130.1 143) (g130.1 144) (g130.1 146) (g130.1 147) (g130.1 148) (g130.1 149) r0_2 w0_2_0 w0_2_1 r0_2_2 r0_2_3 r0_4 r0_4_0 r0_4_1 r0_4_2 r0_4_3 r0_4_4 r0_4_5 r0_4_6 r0_4_7 r0_6 r0_6_0 r0_6_1 r0_6_2 (zr_in rfl rfl) (zr_inl rfl rfl) (zr_inl rfl rfl) (zr_in rfl rfl) (zr_in rfl rfl) (zr_in rfl rfl) (zr_in rfl rfl) (zr_in rfl rfl) (zr_in rfl rfl) (zr_in rfl rfl) (zr_in rfl rfl) (zr_in rfl rfl) (zr_in rfl rfl) (zr_in rfl rfl) (zr_in rfl rfl) (zr_in rfl rfl) (zr_in rfl rfl) (zr_in rfl rfl) (zr_b rfl e_i5) (zq_b rfl e_l6) (zq_b rfl e_l7) (zr_b rfl e_i8) (zr_b rfl e_i9) (zr_b rfl e_i15) (zr_b rfl e_i16) (zr_b rfl e_i17) (zr_b rfl e_i18) (zr_b rfl e_i19) (zr_b rfl e_i20) (zr_b rfl e_i21) (zr_b rfl e_i22) (zr_b rfl e_i23) (zr_b rfl e_i35) (zr_b rfl e_i36) (zr_b rfl e_i37) (zr_b rfl e_i38) hy4) ((zch_i (zch_i (zch_i (zch_i (zch_i (zch_i (zch_i (zch_i (zch_i (zch_i (zch_i (zch_i (zch_i (zch_i (zch_i (zch_i (zch_l (zn_b rfl rfl) (zn_b rfl rfl)) (zm_b rfl rfl)) (zm_b rfl rfl)) (zm_b rfl rfl)) (zm_b rfl rfl)) (zm_b rfl rfl)) (zm_b rfl rfl)) (zm_b rfl rfl)) (zm_b rfl rfl)) (zm_b rfl rfl)) (zm_b rfl rfl)) (zm_b rfl rfl)) (zm_b rfl rfl)) (zm_b rfl rfl)) (zm_b rfl rfl)) (zm_b rfl rfl)) (zm_b rfl rfl))).symm ?_
      refine zj_aload_n (pc' := 36) 1 dX11_restore_35 rfl rfl rfl ?_
      refine zj_getR (pc' := 39) (j := 47) dX11_restore_36 rfl flX11_58 sh0 rfl ?_
      obtain ⟨y5, hy5, hy⟩ := zt_b hy
      refine zj_V0 (pc' := 42) (z := YX3_clear) (As := []) (N := (zub (zui (zui (zui (zui (zui (zui (zui (zui (zui (zui (zui (zui (zui (zui (zui (zui (zui (zul (zul M 6 y4.2.1) 7 y4.2.2.1) 5 y4.1) 8 y4.2.2.2.1) 9 y4.2.2.2.2.1) 15 y4.2.2.2.2.2.1) 16 y4.2.2.2.2.2.2.1) 17 y4.2.2.2.2.2.2.2.1) 18 y4.2.2.2.2.2.2.2.2.1) 19 y4.2.2.2.2.2.2.2.2.2.1) 20 y4.2.2.2.2.2.2.2.2.2.2.1) 21 y4.2.2.2.2.2.2.2.2.2.2.2.1) 22 y4.2.2.2.2.2.2.2.2.2.2.2.2.1) 23 y4.2.2.2.2.2.2.2.2.2.2.2.2.2.1) 35 y4.2.2.2.2.2.2.2.2.2.2.2.2.2.2.1) 36 y4.2.2.2.2.2.2.2.2.2.2.2.2.2.2.2.1) 37 y4.2.2.2.2.2.2.2.2.2.2.2.2.2.2.2.2.1) 38 y4.2.2.2.2.2.2.2.2.2.2.2.2.2.2.2.2.2) 47 y5) 130 174 g130)) dX11_restore_39 rfl mlX11_155 lkX3_clear sh47 ⟨_, _, rfl⟩ rfl rfl (Nat.le_of_ble_eq_true rfl) (Nat.le_of_ble_eq_true rfl) (LX3_clear_47 Γ _ r0_8 (zr_b rfl (zr_n rfl (zr_n rfl (zr_n rfl (zr_n rfl (zr_n rfl (zr_n rfl (zr_n rfl (zr_n rfl (zr_n rfl (zr_n rfl (zr_n rfl (zr_n rfl (zr_n rfl (zr_n rfl (zr_n rfl (zr_n rfl (zr_l (zr_l e_i47))))))))))))))))))) hy5) ((zm_b rfl rfl)).symm ?_
      refine zj_iconst (pc' := 43) dX11_restore_42 rfl kiconst_1 ?_
      have e9 := Option.some.inj hy
      subst e9
      exact zj_bret (b := true) dX11_restore_43 rfl hq
    · have hy := zt_f hy c3
      refine zj_iconst (pc' := 18) dX11_restore_17 rfl kiconst_0 ?_
      have e9 := Option.some.inj hy
      subst e9
      refine zj_mem (N := (zub (zul M 6 w0_2_0) 130 174 g130)) (zself_l (zq_b rfl e_l6) (zn_b rfl rfl)) ?_
      refine zj_mem (N := (zub (zul (zul M 6 w0_2_0) 7 w0_2_1) 130 174 g130)) (zself_l (zq_b rfl (zq_n rfl e_l7)) (zn_b rfl rfl)) ?_
      refine zj_mem (N := (zub (zui (zul (zul M 6 w0_2_0) 7 w0_2_1) 5 r0_2) 130 174 g130)) (zself_i (zr_b rfl (zr_l (zr_l e_i5))) (zm_b rfl rfl)) ?_
      refine zj_mem (N := (zub (zui (zui (zul (zul M 6 w0_2_0) 7 w0_2_1) 5 r0_2) 8 r0_2_2) 130 174 g130)) (zself_i (zr_b rfl (zr_n rfl (zr_l (zr_l e_i8)))) (zm_b rfl rfl)) ?_
      refine zj_mem (N := (zub (zui (zui (zui (zul (zul M 6 w0_2_0) 7 w0_2_1) 5 r0_2) 8 r0_2_2) 9 r0_2_3) 130 174 g130)) (zself_i (zr_b rfl (zr_n rfl (zr_n rfl (zr_l (zr_l e_i9))))) (zm_b rfl rfl)) ?_
      refine zj_mem (N := (zub (zui (zui (zui (zui (zul (zul M 6 w0_2_0) 7 w0_2_1) 5 r0_2) 8 r0_2_2) 9 r0_2_3) 15 r0_4) 130 174 g130)) (zself_i (zr_b rfl (zr_n rfl (zr_n rfl (zr_n rfl (zr_l (zr_l e_i15)))))) (zm_b rfl rfl)) ?_
      refine zj_mem (N := (zub (zui (zui (zui (zui (zui (zul (zul M 6 w0_2_0) 7 w0_2_1) 5 r0_2) 8 r0_2_2) 9 r0_2_3) 15 r0_4) 16 r0_4_0) 130 174 g130)) (zself_i (zr_b rfl (zr_n rfl (zr_n rfl (zr_n rfl (zr_n rfl (zr_l (zr_l e_i16))))))) (zm_b rfl rfl)) ?_
      refine zj_mem (N := (zub (zui (zui (zui (zui (zui (zui (zul (zul M 6 w0_2_0) 7 w0_2_1) 5 r0_2) 8 r0_2_2) 9 r0_2_3) 15 r0_4) 16 r0_4_0) 17 r0_4_1) 130 174 g130)) (zself_i (zr_b rfl (zr_n rfl (zr_n rfl (zr_n rfl (zr_n rfl (zr_n rfl (zr_l (zr_l e_i17)))))))) (zm_b rfl rfl)) ?_
      refine zj_mem (N := (zub (zui (zui (zui (zui (zui (zui (zui (zul (zul M 6 w0_2_0) 7 w0_2_1) 5 r0_2) 8 r0_2_2) 9 r0_2_3) 15 r0_4) 16 r0_4_0) 17 r0_4_1) 18 r0_4_2) 130 174 g130)) (zself_i (zr_b rfl (zr_n rfl (zr_n rfl (zr_n rfl (zr_n rfl (zr_n rfl (zr_n rfl (zr_l (zr_l e_i18))))))))) (zm_b rfl rfl)) ?_
      refine zj_mem (N := (zub (zui (zui (zui (zui (zui (zui (zui (zui (zul (zul M 6 w0_2_0) 7 w0_2_1) 5 r0_2) 8 r0_2_2) 9 r0_2_3) 15 r0_4) 16 r0_4_0) 17 r0_4_1) 18 r0_4_2) 19 r0_4_3) 130 174 g130)) (zself_i (zr_b rfl (zr_n rfl (zr_n rfl (zr_n rfl (zr_n rfl (zr_n rfl (zr_n rfl (zr_n rfl (zr_l (zr_l e_i19)))))))))) (zm_b rfl rfl)) ?_
      refine zj_mem (N := (zub (zui (zui (zui (zui (zui (zui (zui (zui (zui (zul (zul M 6 w0_2_0) 7 w0_2_1) 5 r0_2) 8 r0_2_2) 9 r0_2_3) 15 r0_4) 16 r0_4_0) 17 r0_4_1) 18 r0_4_2) 19 r0_4_3) 20 r0_4_4) 130 174 g130)) (zself_i (zr_b rfl (zr_n rfl (zr_n rfl (zr_n rfl (zr_n rfl (zr_n rfl (zr_n rfl (zr_n rfl (zr_n rfl (zr_l (zr_l e_i20))))))))))) (zm_b rfl rfl)) ?_
      refine zj_mem (N := (zub (zui (zui (zui (zui (zui (zui (zui (zui (zui (zui (zul (zul M 6 w0_2_0) 7 w0_2_1) 5 r0_2) 8 r0_2_2) 9 r0_2_3) 15 r0_4) 16 r0_4_0) 17 r0_4_1) 18 r0_4_2) 19 r0_4_3) 20 r0_4_4) 21 r0_4_5) 130 174 g130)) (zself_i (zr_b rfl (zr_n rfl (zr_n rfl (zr_n rfl (zr_n rfl (zr_n rfl (zr_n rfl (zr_n rfl (zr_n rfl (zr_n rfl (zr_l (zr_l e_i21)))))))))))) (zm_b rfl rfl)) ?_
      refine zj_mem (N := (zub (zui (zui (zui (zui (zui (zui (zui (zui (zui (zui (zui (zul (zul M 6 w0_2_0) 7 w0_2_1) 5 r0_2) 8 r0_2_2) 9 r0_2_3) 15 r0_4) 16 r0_4_0) 17 r0_4_1) 18 r0_4_2) 19 r0_4_3) 20 r0_4_4) 21 r0_4_5) 22 r0_4_6) 130 174 g130)) (zself_i (zr_b rfl (zr_n rfl (zr_n rfl (zr_n rfl (zr_n rfl (zr_n rfl (zr_n rfl (zr_n rfl (zr_n rfl (zr_n rfl (zr_n rfl (zr_l (zr_l e_i22))))))))))))) (zm_b rfl rfl)) ?_
      refine zj_mem (N := (zub (zui (zui (zui (zui (zui (zui (zui (zui (zui (zui (zui (zui (zul (zul M 6 w0_2_0) 7 w0_2_1) 5 r0_2) 8 r0_2_2) 9 r0_2_3) 15 r0_4) 16 r0_4_0) 17 r0_4_1) 18 r0_4_2) 19 r0_4_3) 20 r0_4_4) 21 r0_4_5) 22 r0_4_6) 23 r0_4_7) 130 174 g130)) (zself_i (zr_b rfl (zr_n rfl (zr_n rfl (zr_n rfl (zr_n rfl (zr_n rfl (zr_n rfl (zr_n rfl (zr_n rfl (zr_n rfl (zr_n rfl (zr_n rfl (zr_l (zr_l e_i23)))))))))))))) (zm_b rfl rfl)) ?_
      refine zj_mem (N := (zub (zui (zui (zui (zui (zui (zui (zui (zui (zui (zui (zui (zui (zui (zul (zul M 6 w0_2_0) 7 w0_2_1) 5 r0_2) 8 r0_2_2) 9 r0_2_3) 15 r0_4) 16 r0_4_0) 17 r0_4_1) 18 r0_4_2) 19 r0_4_3) 20 r0_4_4) 21 r0_4_5) 22 r0_4_6) 23 r0_4_7) 35 r0_6) 130 174 g130)) (zself_i (zr_b rfl (zr_n rfl (zr_n rfl (zr_n rfl (zr_n rfl (zr_n rfl (zr_n rfl (zr_n rfl (zr_n rfl (zr_n rfl (zr_n rfl (zr_n rfl (zr_n rfl (zr_l (zr_l e_i35))))))))))))))) (zm_b rfl rfl)) ?_
      refine zj_mem (N := (zub (zui (zui (zui (zui (zui (zui (zui (zui (zui (zui (zui (zui (zui (zui (zul (zul M 6 w0_2_0) 7 w0_2_1) 5 r0_2) 8 r0_2_2) 9 r0_2_3) 15 r0_4) 16 r0_4_0) 17 r0_4_1) 18 r0_4_2) 19 r0_4_3) 20 r0_4_4) 21 r0_4_5) 22 r0_4_6) 23 r0_4_7) 35 r0_6) 36 r0_6_0) 130 174 g130)) (zself_i (zr_b rfl (zr_n rfl (zr_n rfl (zr_n rfl (zr_n rfl (zr_n rfl (zr_n rfl (zr_n rfl (zr_n rfl (zr_n rfl (zr_n rfl (zr_n rfl (zr_n rfl (zr_n rfl (zr_l (zr_l e_i36)))))))))))))))) (zm_b rfl rfl)) ?_
      refine zj_mem (N := (zub (zui (zui (zui (zui (zui (zui (zui (zui (zui (zui (zui (zui (zui (zui (zui (zul (zul M 6 w0_2_0) 7 w0_2_1) 5 r0_2) 8 r0_2_2) 9 r0_2_3) 15 r0_4) 16 r0_4_0) 17 r0_4_1) 18 r0_4_2) 19 r0_4_3) 20 r0_4_4) 21 r0_4_5) 22 r0_4_6) 23 r0_4_7) 35 r0_6) 36 r0_6_0) 37 r0_6_1) 130 174 g130)) (zself_i (zr_b rfl (zr_n rfl (zr_n rfl (zr_n rfl (zr_n rfl (zr_n rfl (zr_n rfl (zr_n rfl (zr_n rfl (zr_n rfl (zr_n rfl (zr_n rfl (zr_n rfl (zr_n rfl (zr_n rfl (zr_l (zr_l e_i37))))))))))))))))) (zm_b rfl rfl)) ?_
      refine zj_mem (N := (zub (zui (zui (zui (zui (zui (zui (zui (zui (zui (zui (zui (zui (zui (zui (zui (zui (zul (zul M 6 w0_2_0) 7 w0_2_1) 5 r0_2) 8 r0_2_2) 9 r0_2_3) 15 r0_4) 16 r0_4_0) 17 r0_4_1) 18 r0_4_2) 19 r0_4_3) 20 r0_4_4) 21 r0_4_5) 22 r0_4_6) 23 r0_4_7) 35 r0_6) 36 r0_6_0) 37 r0_6_1) 38 r0_6_2) 130 174 g130)) (zself_i (zr_b rfl (zr_n rfl (zr_n rfl (zr_n rfl (zr_n rfl (zr_n rfl (zr_n rfl (zr_n rfl (zr_n rfl (zr_n rfl (zr_n rfl (zr_n rfl (zr_n rfl (zr_n rfl (zr_n rfl (zr_n rfl (zr_l (zr_l e_i38)))))))))))))))))) (zm_b rfl rfl)) ?_
      refine zj_mem (N := (zub (zui (zui (zui (zui (zui (zui (zui (zui (zui (zui (zui (zui (zui (zui (zui (zui (zui (zul (zul M 6 w0_2_0) 7 w0_2_1) 5 r0_2) 8 r0_2_2) 9 r0_2_3) 15 r0_4) 16 r0_4_0) 17 r0_4_1) 18 r0_4_2) 19 r0_4_3) 20 r0_4_4) 21 r0_4_5) 22 r0_4_6) 23 r0_4_7) 35 r0_6) 36 r0_6_0) 37 r0_6_1) 38 r0_6_2) 47 r0_8) 130 174 g130)) (zself_i (zr_b rfl (zr_n rfl (zr_n rfl (zr_n rfl (zr_n rfl (zr_n rfl (zr_n rfl (zr_n rfl (zr_n rfl (zr_n rfl (zr_n rfl (zr_n rfl (zr_n rfl (zr_n rfl (zr_n rfl (zr_n rfl (zr_n rfl (zr_l (zr_l e_i47))))))))))))))))))) (zm_b rfl rfl)) ?_
      exact zj_bret (b := false) dX11_restore_18 rfl hq
  · have hy := zt_f hy c1
    rcases Decidable.em (a1 = 1) with c6 | c6
    · have hy := zt_t hy c6
      refine zj_V1 (pc' := 5) (z := YX11_imageIn) (As := [.int a1]) (N := (zub M 130 174 g130)) dX11_restore_2 rfl mlX11_379 lkX11_imageIn sh0 ⟨_, _, rfl⟩ rfl rfl (Nat.le_of_ble_eq_true rfl) (Nat.le_of_ble_eq_true rfl) (LDX11_imageIn_1 Γ _ a1 c6) rfl ?_
      refine zj_astore_n (pc' := 6) (L' := [(2, .ref (zad Γ 152)), (0, .ref (zad Γ 0)), (1, .int a1)]) dX11_restore_5 rfl rfl (by decide) rfl ?_
      refine zj_aload_n (pc' := 7) 0 dX11_restore_6 rfl rfl rfl ?_
      refine zj_ifnull (pc' := 10) dX11_restore_7 rfl ?_
      refine zj_aload_n (pc' := 11) 0 dX11_restore_10 rfl rfl rfl ?_
      obtain ⟨y7, hy7, hy⟩ := zt_b hy
      refine zj_V1 (pc' := 14) (z := YX4_isFull) (As := []) (N := (zub M 130 174 g130)) dX11_restore_11 rfl mlX11_387 lkX4_isFull sh152 ⟨_, _, rfl⟩ rfl rfl (Nat.le_of_ble_eq_true rfl) (Nat.le_of_ble_eq_true rfl) (LX4_isFull_152 Γ _ (g130.1 152) (zr_in rfl rfl) hy7) rfl ?_
      refine zj_bif_ne (tgt := 19) (pc' := 17) dX11_restore_14 rfl (by decide) (fun c8 => ?_) (fun c8 => ?_)
      · have hy := zt_t hy c8
        refine zj_aload_n (pc' := 20) 0 dX11_restore_19 rfl rfl rfl ?_
        refine zj_aload_n (pc' := 21) 1 dX11_restore_20 rfl rfl rfl ?_
        refine zj_getR (pc' := 24) (j := 5) dX11_restore_21 rfl flX11_28 sh0 rfl ?_
        refine zj_aload_n (pc' := 25) 1 dX11_restore_24 rfl rfl rfl ?_
        refine zj_getR (pc' := 28) (j := 15) dX11_restore_25 rfl flX11_38 sh0 rfl ?_
        refine zj_aload_n (pc' := 29) 1 dX11_restore_28 rfl rfl rfl ?_
        refine zj_getR (pc' := 32) (j := 35) dX11_restore_29 rfl flX11_48 sh0 rfl ?_
        obtain ⟨y9, hy9, hy⟩ := zt_b hy
        refine zj_V0 (pc' := 35) (z := YX4_giveBack) (As := [.ref (zad Γ 5), .ref (zad Γ 15), .ref (zad Γ 35)]) (N := (zub (zui (zui (zui (zui (zui (zui (zui (zui (zui (zui (zui (zui (zui (zui (zui (zui (zul (zul M 6 y9.2.1) 7 y9.2.2.1) 5 y9.1) 8 y9.2.2.2.1) 9 y9.2.2.2.2.1) 15 y9.2.2.2.2.2.1) 16 y9.2.2.2.2.2.2.1) 17 y9.2.2.2.2.2.2.2.1) 18 y9.2.2.2.2.2.2.2.2.1) 19 y9.2.2.2.2.2.2.2.2.2.1) 20 y9.2.2.2.2.2.2.2.2.2.2.1) 21 y9.2.2.2.2.2.2.2.2.2.2.2.1) 22 y9.2.2.2.2.2.2.2.2.2.2.2.2.1) 23 y9.2.2.2.2.2.2.2.2.2.2.2.2.2.1) 35 y9.2.2.2.2.2.2.2.2.2.2.2.2.2.2.1) 36 y9.2.2.2.2.2.2.2.2.2.2.2.2.2.2.2.1) 37 y9.2.2.2.2.2.2.2.2.2.2.2.2.2.2.2.2.1) 38 y9.2.2.2.2.2.2.2.2.2.2.2.2.2.2.2.2.2) 130 174 g130)) dX11_restore_32 rfl mlX11_390 lkX4_giveBack sh152 ⟨_, _, rfl⟩ rfl rfl (Nat.le_of_ble_eq_true rfl) (Nat.le_of_ble_eq_true rfl) (LX4_giveBack_152_5_15_35 Γ _ (g130.1 153) (g130.2 154) (g130.2 155) (g130.1 156) (g130.1 157) (g130.1 158) (g130.1 159) (g130.1 160) (g130.1 161) (g130.1 162) (g130.1 163) (g130.1 164) (g130.1 165) (g130.1 166) (g130.1 168) (g130.1 169) (g130.1 170) (g130.1 171) r0_2 w0_2_0 w0_2_1 r0_2_2 r0_2_3 r0_4 r0_4_0 r0_4_1 r0_4_2 r0_4_3 r0_4_4 r0_4_5 r0_4_6 r0_4_7 r0_6 r0_6_0 r0_6_1 r0_6_2 (zr_in rfl rfl) (zr_inl rfl rfl) (zr_inl rfl rfl) (zr_in rfl rfl) (zr_in rfl rfl) (zr_in rfl rfl) (zr_in rfl rfl) (zr_in rfl rfl) (zr_in rfl rfl) (zr_in rfl rfl) (zr_in rfl rfl) (zr_in rfl rfl) (zr_in rfl rfl) (zr_in rfl rfl) (zr_in rfl rfl) (zr_in rfl rfl) (zr_in rfl rfl) (zr_in rfl rfl) (zr_b rfl e_i5) (zq_b rfl e_l6) (zq_b rfl e_l7) (zr_b rfl e_i8) (zr_b rfl e_i9) (zr_b rfl e_i15) (zr_b rfl e_i16) (zr_b rfl e_i17) (zr_b rfl e_i18) (zr_b rfl e_i19) (zr_b rfl e_i20) (zr_b rfl e_i21) (zr_b rfl e_i22) (zr_b rfl e_i23) (zr_b rfl e_i35) (zr_b rfl e_i36) (zr_b rfl e_i37) (zr_b rfl e_i38) hy9) ((zch_i (zch_i (zch_i (zch_i (zch_i (zch_i (zch_i (zch_i (zch_i (zch_i (zch_i (zch_i (zch_i (zch_i (zch_i (zch_i (zch_l (zn_b rfl rfl) (zn_b rfl rfl)) (zm_b rfl rfl)) (zm_b rfl rfl)) (zm_b rfl rfl)) (zm_b rfl rfl)) (zm_b rfl rfl)) (zm_b rfl rfl)) (zm_b rfl rfl)) (zm_b rfl rfl)) (zm_b rfl rfl)) (zm_b rfl rfl)) (zm_b rfl rfl)) (zm_b rfl rfl)) (zm_b rfl rfl)) (zm_b rfl rfl)) (zm_b rfl rfl)) (zm_b rfl rfl))).symm ?_
        refine zj_aload_n (pc' := 36) 1 dX11_restore_35 rfl rfl rfl ?_
        refine zj_getR (pc' := 39) (j := 47) dX11_restore_36 rfl flX11_58 sh0 rfl ?_
        obtain ⟨y10, hy10, hy⟩ := zt_b hy
        refine zj_V0 (pc' := 42) (z := YX3_clear) (As := []) (N := (zub (zui (zui (zui (zui (zui (zui (zui (zui (zui (zui (zui (zui (zui (zui (zui (zui (zui (zul (zul M 6 y9.2.1) 7 y9.2.2.1) 5 y9.1) 8 y9.2.2.2.1) 9 y9.2.2.2.2.1) 15 y9.2.2.2.2.2.1) 16 y9.2.2.2.2.2.2.1) 17 y9.2.2.2.2.2.2.2.1) 18 y9.2.2.2.2.2.2.2.2.1) 19 y9.2.2.2.2.2.2.2.2.2.1) 20 y9.2.2.2.2.2.2.2.2.2.2.1) 21 y9.2.2.2.2.2.2.2.2.2.2.2.1) 22 y9.2.2.2.2.2.2.2.2.2.2.2.2.1) 23 y9.2.2.2.2.2.2.2.2.2.2.2.2.2.1) 35 y9.2.2.2.2.2.2.2.2.2.2.2.2.2.2.1) 36 y9.2.2.2.2.2.2.2.2.2.2.2.2.2.2.2.1) 37 y9.2.2.2.2.2.2.2.2.2.2.2.2.2.2.2.2.1) 38 y9.2.2.2.2.2.2.2.2.2.2.2.2.2.2.2.2.2) 47 y10) 130 174 g130)) dX11_restore_39 rfl mlX11_155 lkX3_clear sh47 ⟨_, _, rfl⟩ rfl rfl (Nat.le_of_ble_eq_true rfl) (Nat.le_of_ble_eq_true rfl) (LX3_clear_47 Γ _ r0_8 (zr_b rfl (zr_n rfl (zr_n rfl (zr_n rfl (zr_n rfl (zr_n rfl (zr_n rfl (zr_n rfl (zr_n rfl (zr_n rfl (zr_n rfl (zr_n rfl (zr_n rfl (zr_n rfl (zr_n rfl (zr_n rfl (zr_n rfl (zr_l (zr_l e_i47))))))))))))))))))) hy10) ((zm_b rfl rfl)).symm ?_
        refine zj_iconst (pc' := 43) dX11_restore_42 rfl kiconst_1 ?_
        have e9 := Option.some.inj hy
        subst e9
        exact zj_bret (b := true) dX11_restore_43 rfl hq
      · have hy := zt_f hy c8
        refine zj_iconst (pc' := 18) dX11_restore_17 rfl kiconst_0 ?_
        have e9 := Option.some.inj hy
        subst e9
        refine zj_mem (N := (zub (zul M 6 w0_2_0) 130 174 g130)) (zself_l (zq_b rfl e_l6) (zn_b rfl rfl)) ?_
        refine zj_mem (N := (zub (zul (zul M 6 w0_2_0) 7 w0_2_1) 130 174 g130)) (zself_l (zq_b rfl (zq_n rfl e_l7)) (zn_b rfl rfl)) ?_
        refine zj_mem (N := (zub (zui (zul (zul M 6 w0_2_0) 7 w0_2_1) 5 r0_2) 130 174 g130)) (zself_i (zr_b rfl (zr_l (zr_l e_i5))) (zm_b rfl rfl)) ?_
        refine zj_mem (N := (zub (zui (zui (zul (zul M 6 w0_2_0) 7 w0_2_1) 5 r0_2) 8 r0_2_2) 130 174 g130)) (zself_i (zr_b rfl (zr_n rfl (zr_l (zr_l e_i8)))) (zm_b rfl rfl)) ?_
        refine zj_mem (N := (zub (zui (zui (zui (zul (zul M 6 w0_2_0) 7 w0_2_1) 5 r0_2) 8 r0_2_2) 9 r0_2_3) 130 174 g130)) (zself_i (zr_b rfl (zr_n rfl (zr_n rfl (zr_l (zr_l e_i9))))) (zm_b rfl rfl)) ?_
        refine zj_mem (N := (zub (zui (zui (zui (zui (zul (zul M 6 w0_2_0) 7 w0_2_1) 5 r0_2) 8 r0_2_2) 9 r0_2_3) 15 r0_4) 130 174 g130)) (zself_i (zr_b rfl (zr_n rfl (zr_n rfl (zr_n rfl (zr_l (zr_l e_i15)))))) (zm_b rfl rfl)) ?_
        refine zj_mem (N := (zub (zui (zui (zui (zui (zui (zul (zul M 6 w0_2_0) 7 w0_2_1) 5 r0_2) 8 r0_2_2) 9 r0_2_3) 15 r0_4) 16 r0_4_0) 130 174 g130)) (zself_i (zr_b rfl (zr_n rfl (zr_n rfl (zr_n rfl (zr_n rfl (zr_l (zr_l e_i16))))))) (zm_b rfl rfl)) ?_
        refine zj_mem (N := (zub (zui (zui (zui (zui (zui (zui (zul (zul M 6 w0_2_0) 7 w0_2_1) 5 r0_2) 8 r0_2_2) 9 r0_2_3) 15 r0_4) 16 r0_4_0) 17 r0_4_1) 130 174 g130)) (zself_i (zr_b rfl (zr_n rfl (zr_n rfl (zr_n rfl (zr_n rfl (zr_n rfl (zr_l (zr_l e_i17)))))))) (zm_b rfl rfl)) ?_
        refine zj_mem (N := (zub (zui (zui (zui (zui (zui (zui (zui (zul (zul M 6 w0_2_0) 7 w0_2_1) 5 r0_2) 8 r0_2_2) 9 r0_2_3) 15 r0_4) 16 r0_4_0) 17 r0_4_1) 18 r0_4_2) 130 174 g130)) (zself_i (zr_b rfl (zr_n rfl (zr_n rfl (zr_n rfl (zr_n rfl (zr_n rfl (zr_n rfl (zr_l (zr_l e_i18))))))))) (zm_b rfl rfl)) ?_
        refine zj_mem (N := (zub (zui (zui (zui (zui (zui (zui (zui (zui (zul (zul M 6 w0_2_0) 7 w0_2_1) 5 r0_2) 8 r0_2_2) 9 r0_2_3) 15 r0_4) 16 r0_4_0) 17 r0_4_1) 18 r0_4_2) 19 r0_4_3) 130 174 g130)) (zself_i (zr_b rfl (zr_n rfl (zr_n rfl (zr_n rfl (zr_n rfl (zr_n rfl (zr_n rfl (zr_n rfl (zr_l (zr_l e_i19)))))))))) (zm_b rfl rfl)) ?_
        refine zj_mem (N := (zub (zui (zui (zui (zui (zui (zui (zui (zui (zui (zul (zul M 6 w0_2_0) 7 w0_2_1) 5 r0_2) 8 r0_2_2) 9 r0_2_3) 15 r0_4) 16 r0_4_0) 17 r0_4_1) 18 r0_4_2) 19 r0_4_3) 20 r0_4_4) 130 174 g130)) (zself_i (zr_b rfl (zr_n rfl (zr_n rfl (zr_n rfl (zr_n rfl (zr_n rfl (zr_n rfl (zr_n rfl (zr_n rfl (zr_l (zr_l e_i20))))))))))) (zm_b rfl rfl)) ?_
        refine zj_mem (N := (zub (zui (zui (zui (zui (zui (zui (zui (zui (zui (zui (zul (zul M 6 w0_2_0) 7 w0_2_1) 5 r0_2) 8 r0_2_2) 9 r0_2_3) 15 r0_4) 16 r0_4_0) 17 r0_4_1) 18 r0_4_2) 19 r0_4_3) 20 r0_4_4) 21 r0_4_5) 130 174 g130)) (zself_i (zr_b rfl (zr_n rfl (zr_n rfl (zr_n rfl (zr_n rfl (zr_n rfl (zr_n rfl (zr_n rfl (zr_n rfl (zr_n rfl (zr_l (zr_l e_i21)))))))))))) (zm_b rfl rfl)) ?_
        refine zj_mem (N := (zub (zui (zui (zui (zui (zui (zui (zui (zui (zui (zui (zui (zul (zul M 6 w0_2_0) 7 w0_2_1) 5 r0_2) 8 r0_2_2) 9 r0_2_3) 15 r0_4) 16 r0_4_0) 17 r0_4_1) 18 r0_4_2) 19 r0_4_3) 20 r0_4_4) 21 r0_4_5) 22 r0_4_6) 130 174 g130)) (zself_i (zr_b rfl (zr_n rfl (zr_n rfl (zr_n rfl (zr_n rfl (zr_n rfl (zr_n rfl (zr_n rfl (zr_n rfl (zr_n rfl (zr_n rfl (zr_l (zr_l e_i22))))))))))))) (zm_b rfl rfl)) ?_
        refine zj_mem (N := (zub (zui (zui (zui (zui (zui (zui (zui (zui (zui (zui (zui (zui (zul (zul M 6 w0_2_0) 7 w0_2_1) 5 r0_2) 8 r0_2_2) 9 r0_2_3) 15 r0_4) 16 r0_4_0) 17 r0_4_1) 18 r0_4_2) 19 r0_4_3) 20 r0_4_4) 21 r0_4_5) 22 r0_4_6) 23 r0_4_7) 130 174 g130)) (zself_i (zr_b rfl (zr_n rfl (zr_n rfl (zr_n rfl (zr_n rfl (zr_n rfl (zr_n rfl (zr_n rfl (zr_n rfl (zr_n rfl (zr_n rfl (zr_n rfl (zr_l (zr_l e_i23)))))))))))))) (zm_b rfl rfl)) ?_
        refine zj_mem (N := (zub (zui (zui (zui (zui (zui (zui (zui (zui (zui (zui (zui (zui (zui (zul (zul M 6 w0_2_0) 7 w0_2_1) 5 r0_2) 8 r0_2_2) 9 r0_2_3) 15 r0_4) 16 r0_4_0) 17 r0_4_1) 18 r0_4_2) 19 r0_4_3) 20 r0_4_4) 21 r0_4_5) 22 r0_4_6) 23 r0_4_7) 35 r0_6) 130 174 g130)) (zself_i (zr_b rfl (zr_n rfl (zr_n rfl (zr_n rfl (zr_n rfl (zr_n rfl (zr_n rfl (zr_n rfl (zr_n rfl (zr_n rfl (zr_n rfl (zr_n rfl (zr_n rfl (zr_l (zr_l e_i35))))))))))))))) (zm_b rfl rfl)) ?_
        refine zj_mem (N := (zub (zui (zui (zui (zui (zui (zui (zui (zui (zui (zui (zui (zui (zui (zui (zul (zul M 6 w0_2_0) 7 w0_2_1) 5 r0_2) 8 r0_2_2) 9 r0_2_3) 15 r0_4) 16 r0_4_0) 17 r0_4_1) 18 r0_4_2) 19 r0_4_3) 20 r0_4_4) 21 r0_4_5) 22 r0_4_6) 23 r0_4_7) 35 r0_6) 36 r0_6_0) 130 174 g130)) (zself_i (zr_b rfl (zr_n rfl (zr_n rfl (zr_n rfl (zr_n rfl (zr_n rfl (zr_n rfl (zr_n rfl (zr_n rfl (zr_n rfl (zr_n rfl (zr_n rfl (zr_n rfl (zr_n rfl (zr_l (zr_l e_i36)))))))))))))))) (zm_b rfl rfl)) ?_
        refine zj_mem (N := (zub (zui (zui (zui (zui (zui (zui (zui (zui (zui (zui (zui (zui (zui (zui (zui (zul (zul M 6 w0_2_0) 7 w0_2_1) 5 r0_2) 8 r0_2_2) 9 r0_2_3) 15 r0_4) 16 r0_4_0) 17 r0_4_1) 18 r0_4_2) 19 r0_4_3) 20 r0_4_4) 21 r0_4_5) 22 r0_4_6) 23 r0_4_7) 35 r0_6) 36 r0_6_0) 37 r0_6_1) 130 174 g130)) (zself_i (zr_b rfl (zr_n rfl (zr_n rfl (zr_n rfl (zr_n rfl (zr_n rfl (zr_n rfl (zr_n rfl (zr_n rfl (zr_n rfl (zr_n rfl (zr_n rfl (zr_n rfl (zr_n rfl (zr_n rfl (zr_l (zr_l e_i37))))))))))))))))) (zm_b rfl rfl)) ?_
        refine zj_mem (N := (zub (zui (zui (zui (zui (zui (zui (zui (zui (zui (zui (zui (zui (zui (zui (zui (zui (zul (zul M 6 w0_2_0) 7 w0_2_1) 5 r0_2) 8 r0_2_2) 9 r0_2_3) 15 r0_4) 16 r0_4_0) 17 r0_4_1) 18 r0_4_2) 19 r0_4_3) 20 r0_4_4) 21 r0_4_5) 22 r0_4_6) 23 r0_4_7) 35 r0_6) 36 r0_6_0) 37 r0_6_1) 38 r0_6_2) 130 174 g130)) (zself_i (zr_b rfl (zr_n rfl (zr_n rfl (zr_n rfl (zr_n rfl (zr_n rfl (zr_n rfl (zr_n rfl (zr_n rfl (zr_n rfl (zr_n rfl (zr_n rfl (zr_n rfl (zr_n rfl (zr_n rfl (zr_n rfl (zr_l (zr_l e_i38)))))))))))))))))) (zm_b rfl rfl)) ?_
        refine zj_mem (N := (zub (zui (zui (zui (zui (zui (zui (zui (zui (zui (zui (zui (zui (zui (zui (zui (zui (zui (zul (zul M 6 w0_2_0) 7 w0_2_1) 5 r0_2) 8 r0_2_2) 9 r0_2_3) 15 r0_4) 16 r0_4_0) 17 r0_4_1) 18 r0_4_2) 19 r0_4_3) 20 r0_4_4) 21 r0_4_5) 22 r0_4_6) 23 r0_4_7) 35 r0_6) 36 r0_6_0) 37 r0_6_1) 38 r0_6_2) 47 r0_8) 130 174 g130)) (zself_i (zr_b rfl (zr_n rfl (zr_n rfl (zr_n rfl (zr_n rfl (zr_n rfl (zr_n rfl (zr_n rfl (zr_n rfl (zr_n rfl (zr_n rfl (zr_n rfl (zr_n rfl (zr_n rfl (zr_n rfl (zr_n rfl (zr_n rfl (zr_l (zr_l e_i47))))))))))))))))))) (zm_b rfl rfl)) ?_
        exact zj_bret (b := false) dX11_restore_18 rfl hq
    · have hy := zt_f hy c6
      refine zj_V1 (pc' := 5) (z := YX11_imageIn) (As := [.int a1]) (N := (zub M 130 174 g130)) dX11_restore_2 rfl mlX11_379 lkX11_imageIn sh0 ⟨_, _, rfl⟩ rfl rfl (Nat.le_of_ble_eq_true rfl) (Nat.le_of_ble_eq_true rfl) (LDX11_imageIn_n Γ _ a1 c1 c6) rfl ?_
      refine zj_astore_nN (pc' := 6) (L' := [(2, .null), (0, .ref (zad Γ 0)), (1, .int a1)]) dX11_restore_5 rfl rfl (by decide) rfl ?_
      refine zj_aload_nN (pc' := 7) 0 dX11_restore_6 rfl rfl rfl ?_
      refine zj_ifnullN (tgt := 17) dX11_restore_7 (by decide) ?_
      refine zj_iconst (pc' := 18) dX11_restore_17 rfl kiconst_0 ?_
      have e9 := Option.some.inj hy
      subst e9
      refine zj_mem (N := (zub (zul M 6 w0_2_0) 130 174 g130)) (zself_l (zq_b rfl e_l6) (zn_b rfl rfl)) ?_
      refine zj_mem (N := (zub (zul (zul M 6 w0_2_0) 7 w0_2_1) 130 174 g130)) (zself_l (zq_b rfl (zq_n rfl e_l7)) (zn_b rfl rfl)) ?_
      refine zj_mem (N := (zub (zui (zul (zul M 6 w0_2_0) 7 w0_2_1) 5 r0_2) 130 174 g130)) (zself_i (zr_b rfl (zr_l (zr_l e_i5))) (zm_b rfl rfl)) ?_
      refine zj_mem (N := (zub (zui (zui (zul (zul M 6 w0_2_0) 7 w0_2_1) 5 r0_2) 8 r0_2_2) 130 174 g130)) (zself_i (zr_b rfl (zr_n rfl (zr_l (zr_l e_i8)))) (zm_b rfl rfl)) ?_
      refine zj_mem (N := (zub (zui (zui (zui (zul (zul M 6 w0_2_0) 7 w0_2_1) 5 r0_2) 8 r0_2_2) 9 r0_2_3) 130 174 g130)) (zself_i (zr_b rfl (zr_n rfl (zr_n rfl (zr_l (zr_l e_i9))))) (zm_b rfl rfl)) ?_
      refine zj_mem (N := (zub (zui (zui (zui (zui (zul (zul M 6 w0_2_0) 7 w0_2_1) 5 r0_2) 8 r0_2_2) 9 r0_2_3) 15 r0_4) 130 174 g130)) (zself_i (zr_b rfl (zr_n rfl (zr_n rfl (zr_n rfl (zr_l (zr_l e_i15)))))) (zm_b rfl rfl)) ?_
      refine zj_mem (N := (zub (zui (zui (zui (zui (zui (zul (zul M 6 w0_2_0) 7 w0_2_1) 5 r0_2) 8 r0_2_2) 9 r0_2_3) 15 r0_4) 16 r0_4_0) 130 174 g130)) (zself_i (zr_b rfl (zr_n rfl (zr_n rfl (zr_n rfl (zr_n rfl (zr_l (zr_l e_i16))))))) (zm_b rfl rfl)) ?_
      refine zj_mem (N := (zub (zui (zui (zui (zui (zui (zui (zul (zul M 6 w0_2_0) 7 w0_2_1) 5 r0_2) 8 r0_2_2) 9 r0_2_3) 15 r0_4) 16 r0_4_0) 17 r0_4_1) 130 174 g130)) (zself_i (zr_b rfl (zr_n rfl (zr_n rfl (zr_n rfl (zr_n rfl (zr_n rfl (zr_l (zr_l e_i17)))))))) (zm_b rfl rfl)) ?_
      refine zj_mem (N := (zub (zui (zui (zui (zui (zui (zui (zui (zul (zul M 6 w0_2_0) 7 w0_2_1) 5 r0_2) 8 r0_2_2) 9 r0_2_3) 15 r0_4) 16 r0_4_0) 17 r0_4_1) 18 r0_4_2) 130 174 g130)) (zself_i (zr_b rfl (zr_n rfl (zr_n rfl (zr_n rfl (zr_n rfl (zr_n rfl (zr_n rfl (zr_l (zr_l e_i18))))))))) (zm_b rfl rfl)) ?_
      refine zj_mem (N := (zub (zui (zui (zui (zui (zui (zui (zui (zui (zul (zul M 6 w0_2_0) 7 w0_2_1) 5 r0_2) 8 r0_2_2) 9 r0_2_3) 15 r0_4) 16 r0_4_0) 17 r0_4_1) 18 r0_4_2) 19 r0_4_3) 130 174 g130)) (zself_i (zr_b rfl (zr_n rfl (zr_n rfl (zr_n rfl (zr_n rfl (zr_n rfl (zr_n rfl (zr_n rfl (zr_l (zr_l e_i19)))))))))) (zm_b rfl rfl)) ?_
      refine zj_mem (N := (zub (zui (zui (zui (zui (zui (zui (zui (zui (zui (zul (zul M 6 w0_2_0) 7 w0_2_1) 5 r0_2) 8 r0_2_2) 9 r0_2_3) 15 r0_4) 16 r0_4_0) 17 r0_4_1) 18 r0_4_2) 19 r0_4_3) 20 r0_4_4) 130 174 g130)) (zself_i (zr_b rfl (zr_n rfl (zr_n rfl (zr_n rfl (zr_n rfl (zr_n rfl (zr_n rfl (zr_n rfl (zr_n rfl (zr_l (zr_l e_i20))))))))))) (zm_b rfl rfl)) ?_
      refine zj_mem (N := (zub (zui (zui (zui (zui (zui (zui (zui (zui (zui (zui (zul (zul M 6 w0_2_0) 7 w0_2_1) 5 r0_2) 8 r0_2_2) 9 r0_2_3) 15 r0_4) 16 r0_4_0) 17 r0_4_1) 18 r0_4_2) 19 r0_4_3) 20 r0_4_4) 21 r0_4_5) 130 174 g130)) (zself_i (zr_b rfl (zr_n rfl (zr_n rfl (zr_n rfl (zr_n rfl (zr_n rfl (zr_n rfl (zr_n rfl (zr_n rfl (zr_n rfl (zr_l (zr_l e_i21)))))))))))) (zm_b rfl rfl)) ?_
      refine zj_mem (N := (zub (zui (zui (zui (zui (zui (zui (zui (zui (zui (zui (zui (zul (zul M 6 w0_2_0) 7 w0_2_1) 5 r0_2) 8 r0_2_2) 9 r0_2_3) 15 r0_4) 16 r0_4_0) 17 r0_4_1) 18 r0_4_2) 19 r0_4_3) 20 r0_4_4) 21 r0_4_5) 22 r0_4_6) 130 174 g130)) (zself_i (zr_b rfl (zr_n rfl (zr_n rfl (zr_n rfl (zr_n rfl (zr_n rfl (zr_n rfl (zr_n rfl (zr_n rfl (zr_n rfl (zr_n rfl (zr_l (zr_l e_i22))))))))))))) (zm_b rfl rfl)) ?_
      refine zj_mem (N := (zub (zui (zui (zui (zui (zui (zui (zui (zui (zui (zui (zui (zui (zul (zul M 6 w0_2_0) 7 w0_2_1) 5 r0_2) 8 r0_2_2) 9 r0_2_3) 15 r0_4) 16 r0_4_0) 17 r0_4_1) 18 r0_4_2) 19 r0_4_3) 20 r0_4_4) 21 r0_4_5) 22 r0_4_6) 23 r0_4_7) 130 174 g130)) (zself_i (zr_b rfl (zr_n rfl (zr_n rfl (zr_n rfl (zr_n rfl (zr_n rfl (zr_n rfl (zr_n rfl (zr_n rfl (zr_n rfl (zr_n rfl (zr_n rfl (zr_l (zr_l e_i23)))))))))))))) (zm_b rfl rfl)) ?_
      refine zj_mem (N := (zub (zui (zui (zui (zui (zui (zui (zui (zui (zui (zui (zui (zui (zui (zul (zul M 6 w0_2_0) 7 w0_2_1) 5 r0_2) 8 r0_2_2) 9 r0_2_3) 15 r0_4) 16 r0_4_0) 17 r0_4_1) 18 r0_4_2) 19 r0_4_3) 20 r0_4_4) 21 r0_4_5) 22 r0_4_6) 23 r0_4_7) 35 r0_6) 130 174 g130)) (zself_i (zr_b rfl (zr_n rfl (zr_n rfl (zr_n rfl (zr_n rfl (zr_n rfl (zr_n rfl (zr_n rfl (zr_n rfl (zr_n rfl (zr_n rfl (zr_n rfl (zr_n rfl (zr_l (zr_l e_i35))))))))))))))) (zm_b rfl rfl)) ?_
      refine zj_mem (N := (zub (zui (zui (zui (zui (zui (zui (zui (zui (zui (zui (zui (zui (zui (zui (zul (zul M 6 w0_2_0) 7 w0_2_1) 5 r0_2) 8 r0_2_2) 9 r0_2_3) 15 r0_4) 16 r0_4_0) 17 r0_4_1) 18 r0_4_2) 19 r0_4_3) 20 r0_4_4) 21 r0_4_5) 22 r0_4_6) 23 r0_4_7) 35 r0_6) 36 r0_6_0) 130 174 g130)) (zself_i (zr_b rfl (zr_n rfl (zr_n rfl (zr_n rfl (zr_n rfl (zr_n rfl (zr_n rfl (zr_n rfl (zr_n rfl (zr_n rfl (zr_n rfl (zr_n rfl (zr_n rfl (zr_n rfl (zr_l (zr_l e_i36)))))))))))))))) (zm_b rfl rfl)) ?_
      refine zj_mem (N := (zub (zui (zui (zui (zui (zui (zui (zui (zui (zui (zui (zui (zui (zui (zui (zui (zul (zul M 6 w0_2_0) 7 w0_2_1) 5 r0_2) 8 r0_2_2) 9 r0_2_3) 15 r0_4) 16 r0_4_0) 17 r0_4_1) 18 r0_4_2) 19 r0_4_3) 20 r0_4_4) 21 r0_4_5) 22 r0_4_6) 23 r0_4_7) 35 r0_6) 36 r0_6_0) 37 r0_6_1) 130 174 g130)) (zself_i (zr_b rfl (zr_n rfl (zr_n rfl (zr_n rfl (zr_n rfl (zr_n rfl (zr_n rfl (zr_n rfl (zr_n rfl (zr_n rfl (zr_n rfl (zr_n rfl (zr_n rfl (zr_n rfl (zr_n rfl (zr_l (zr_l e_i37))))))))))))))))) (zm_b rfl rfl)) ?_
      refine zj_mem (N := (zub (zui (zui (zui (zui (zui (zui (zui (zui (zui (zui (zui (zui (zui (zui (zui (zui (zul (zul M 6 w0_2_0) 7 w0_2_1) 5 r0_2) 8 r0_2_2) 9 r0_2_3) 15 r0_4) 16 r0_4_0) 17 r0_4_1) 18 r0_4_2) 19 r0_4_3) 20 r0_4_4) 21 r0_4_5) 22 r0_4_6) 23 r0_4_7) 35 r0_6) 36 r0_6_0) 37 r0_6_1) 38 r0_6_2) 130 174 g130)) (zself_i (zr_b rfl (zr_n rfl (zr_n rfl (zr_n rfl (zr_n rfl (zr_n rfl (zr_n rfl (zr_n rfl (zr_n rfl (zr_n rfl (zr_n rfl (zr_n rfl (zr_n rfl (zr_n rfl (zr_n rfl (zr_n rfl (zr_l (zr_l e_i38)))))))))))))))))) (zm_b rfl rfl)) ?_
      refine zj_mem (N := (zub (zui (zui (zui (zui (zui (zui (zui (zui (zui (zui (zui (zui (zui (zui (zui (zui (zui (zul (zul M 6 w0_2_0) 7 w0_2_1) 5 r0_2) 8 r0_2_2) 9 r0_2_3) 15 r0_4) 16 r0_4_0) 17 r0_4_1) 18 r0_4_2) 19 r0_4_3) 20 r0_4_4) 21 r0_4_5) 22 r0_4_6) 23 r0_4_7) 35 r0_6) 36 r0_6_0) 37 r0_6_1) 38 r0_6_2) 47 r0_8) 130 174 g130)) (zself_i (zr_b rfl (zr_n rfl (zr_n rfl (zr_n rfl (zr_n rfl (zr_n rfl (zr_n rfl (zr_n rfl (zr_n rfl (zr_n rfl (zr_n rfl (zr_n rfl (zr_n rfl (zr_n rfl (zr_n rfl (zr_n rfl (zr_n rfl (zr_l (zr_l e_i47))))))))))))))))))) (zm_b rfl rfl)) ?_
      exact zj_bret (b := false) dX11_restore_18 rfl hq
set_option maxRecDepth 20000 in
theorem LX11_restore_0 (Γ : zG) (M : zM) (r0_2 : Nat → Int32) (w0_2_0 : Nat → Int64) (w0_2_1 : Nat → Int64) (r0_2_2 : Nat → Int32) (r0_2_3 : Nat → Int32) (r0_4 : Nat → Int32) (r0_4_0 : Nat → Int32) (r0_4_1 : Nat → Int32) (r0_4_2 : Nat → Int32) (r0_4_3 : Nat → Int32) (r0_4_4 : Nat → Int32) (r0_4_5 : Nat → Int32) (r0_4_6 : Nat → Int32) (r0_4_7 : Nat → Int32) (r0_6 : Nat → Int32) (r0_6_0 : Nat → Int32) (r0_6_1 : Nat → Int32) (r0_6_2 : Nat → Int32) (r0_8 : Nat → Int32) (g130 : zM) (e_i5 : M.1 5 = r0_2) (e_l6 : M.2 6 = w0_2_0) (e_l7 : M.2 7 = w0_2_1) (e_i8 : M.1 8 = r0_2_2) (e_i9 : M.1 9 = r0_2_3) (e_i15 : M.1 15 = r0_4) (e_i16 : M.1 16 = r0_4_0) (e_i17 : M.1 17 = r0_4_1) (e_i18 : M.1 18 = r0_4_2) (e_i19 : M.1 19 = r0_4_3) (e_i20 : M.1 20 = r0_4_4) (e_i21 : M.1 21 = r0_4_5) (e_i22 : M.1 22 = r0_4_6) (e_i23 : M.1 23 = r0_4_7) (e_i35 : M.1 35 = r0_6) (e_i36 : M.1 36 = r0_6_0) (e_i37 : M.1 37 = r0_6_1) (e_i38 : M.1 38 = r0_6_2) (e_i47 : M.1 47 = r0_8) (e_h130 : zeq M 130 174 g130) (a1 : Int32) {res : Bool × (Nat → Int32) × (Nat → Int64) × (Nat → Int64) × (Nat → Int32) × (Nat → Int32) × (Nat → Int32) × (Nat → Int32) × (Nat → Int32) × (Nat → Int32) × (Nat → Int32) × (Nat → Int32) × (Nat → Int32) × (Nat → Int32) × (Nat → Int32) × (Nat → Int32) × (Nat → Int32) × (Nat → Int32) × (Nat → Int32) × (Nat → Int32) × zM} (hy : (fX_restore r0_2 w0_2_0 w0_2_1 r0_2_2 r0_2_3 r0_4 r0_4_0 r0_4_1 r0_4_2 r0_4_3 r0_4_4 r0_4_5 r0_4_6 r0_4_7 r0_6 r0_6_0 r0_6_1 r0_6_2 r0_8 g130 a1) = some res) : zK Γ 4 YX11_restore [.ref (zad Γ 0), .int a1] M (fun v N => v = some (.int (zb res.1)) ∧ N = (zub (zui (zui (zui (zui (zui (zui (zui (zui (zui (zui (zui (zui (zui (zui (zui (zui (zui (zul (zul M 6 res.2.2.1) 7 res.2.2.2.1) 5 res.2.1) 8 res.2.2.2.2.1) 9 res.2.2.2.2.2.1) 15 res.2.2.2.2.2.2.1) 16 res.2.2.2.2.2.2.2.1) 17 res.2.2.2.2.2.2.2.2.1) 18 res.2.2.2.2.2.2.2.2.2.1) 19 res.2.2.2.2.2.2.2.2.2.2.1) 20 res.2.2.2.2.2.2.2.2.2.2.2.1) 21 res.2.2.2.2.2.2.2.2.2.2.2.2.1) 22 res.2.2.2.2.2.2.2.2.2.2.2.2.2.1) 23 res.2.2.2.2.2.2.2.2.2.2.2.2.2.2.1) 35 res.2.2.2.2.2.2.2.2.2.2.2.2.2.2.2.1) 36 res.2.2.2.2.2.2.2.2.2.2.2.2.2.2.2.2.1) 37 res.2.2.2.2.2.2.2.2.2.2.2.2.2.2.2.2.2.1) 38 res.2.2.2.2.2.2.2.2.2.2.2.2.2.2.2.2.2.2.1) 47 res.2.2.2.2.2.2.2.2.2.2.2.2.2.2.2.2.2.2.2.1) 130 174 res.2.2.2.2.2.2.2.2.2.2.2.2.2.2.2.2.2.2.2.2)) :=
  zK_of (by decide) (Nat.le_of_ble_eq_true rfl) (TX11_restore_0 Γ M r0_2 w0_2_0 w0_2_1 r0_2_2 r0_2_3 r0_4 r0_4_0 r0_4_1 r0_4_2 r0_4_3 r0_4_4 r0_4_5 r0_4_6 r0_4_7 r0_6 r0_6_0 r0_6_1 r0_6_2 r0_8 g130 e_i5 e_l6 e_l7 e_i8 e_i9 e_i15 e_i16 e_i17 e_i18 e_i19 e_i20 e_i21 e_i22 e_i23 e_i35 e_i36 e_i37 e_i38 e_i47 e_h130 a1 hy ⟨rfl, rfl⟩)

