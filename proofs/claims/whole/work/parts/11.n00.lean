
set_option maxRecDepth 20000 in
theorem TX1_copyFrom_119_15 (Γ : zG) {Q : Option Value → zM → Prop} (M : zM) (r0 : Nat → Int32) (r0_0 : Nat → Int32) (r0_1 : Nat → Int32) (r0_2 : Nat → Int32) (r0_3 : Nat → Int32) (r0_4 : Nat → Int32) (r0_5 : Nat → Int32) (r0_6 : Nat → Int32) (r0_7 : Nat → Int32) (r1 : Nat → Int32) (r1_0 : Nat → Int32) (r1_1 : Nat → Int32) (r1_2 : Nat → Int32) (r1_3 : Nat → Int32) (r1_4 : Nat → Int32) (r1_5 : Nat → Int32) (r1_6 : Nat → Int32) (r1_7 : Nat → Int32) (e_i119 : M.1 119 = r0) (e_i120 : M.1 120 = r0_0) (e_i121 : M.1 121 = r0_1) (e_i122 : M.1 122 = r0_2) (e_i123 : M.1 123 = r0_3) (e_i124 : M.1 124 = r0_4) (e_i125 : M.1 125 = r0_5) (e_i126 : M.1 126 = r0_6) (e_i127 : M.1 127 = r0_7) (e_i15 : M.1 15 = r1) (e_i16 : M.1 16 = r1_0) (e_i17 : M.1 17 = r1_1) (e_i18 : M.1 18 = r1_2) (e_i19 : M.1 19 = r1_3) (e_i20 : M.1 20 = r1_4) (e_i21 : M.1 21 = r1_5) (e_i22 : M.1 22 = r1_6) (e_i23 : M.1 23 = r1_7)  {res : (Nat → Int32) × (Nat → Int32) × (Nat → Int32) × (Nat → Int32) × (Nat → Int32) × (Nat → Int32) × (Nat → Int32) × (Nat → Int32) × (Nat → Int32)} (hy : (fDy_copyFrom r0 r0_0 r0_1 r0_2 r0_3 r0_4 r0_5 r0_6 r0_7 r1 r1_0 r1_1 r1_2 r1_3 r1_4 r1_5 r1_6 r1_7) = some res) (hq : Q none (zui (zui (zui (zui (zui (zui (zui (zui (zui M 119 res.1) 120 res.2.1) 121 res.2.2.1) 122 res.2.2.2.1) 123 res.2.2.2.2.1) 124 res.2.2.2.2.2.1) 125 res.2.2.2.2.2.2.1) 126 res.2.2.2.2.2.2.2.1) 127 res.2.2.2.2.2.2.2.2)) : zR Γ 2 YX1_copyFrom 0 [(0, .ref (zad Γ 119)), (1, .ref (zad Γ 15))] [] M Q := by
  unfold fDy_copyFrom at hy
  refine zj_aload_n (pc' := 1) 1 dX1_copyFrom_0 rfl rfl rfl ?_
  refine zj_getR (pc' := 4) (j := 16) dX1_copyFrom_1 rfl flX1_9 sh15 rfl ?_
  refine zj_iconst (pc' := 5) dX1_copyFrom_4 rfl kiconst_0 ?_
  refine zj_aload_n (pc' := 6) 0 dX1_copyFrom_5 rfl rfl rfl ?_
  refine zj_getR (pc' := 9) (j := 120) dX1_copyFrom_6 rfl flX1_9 sh119 rfl ?_
  refine zj_iconst (pc' := 10) dX1_copyFrom_9 rfl kiconst_0 ?_
  refine zj_bipush (pc' := 12) dX1_copyFrom_10 rfl kbipush_36 ?_
  obtain ⟨r0_0v1, er0_0v1⟩ : ∃ z, z = (va_cpy r1_0 r0_0 0 0 36) := ⟨_, rfl⟩
  have hy := zlet_at er0_0v1 hy
  refine zj_cpI (pc' := 15) (N := (zui M 120 r0_0v1)) dX1_copyFrom_12 rfl mlX1_52 zcpw sh16 sh120 tn0 tn0 tn36 (by decide) (by decide) (Nat.le_of_ble_eq_true rfl) (Nat.le_of_ble_eq_true rfl) e_i16 e_i120 er0_0v1 rfl (Nat.le_of_ble_eq_true rfl) (Nat.le_of_ble_eq_true rfl) ?_
  refine zj_aload_n (pc' := 16) 1 dX1_copyFrom_15 rfl rfl rfl ?_
  refine zj_getR (pc' := 19) (j := 17) dX1_copyFrom_16 rfl flX1_15 sh15 rfl ?_
  refine zj_iconst (pc' := 20) dX1_copyFrom_19 rfl kiconst_0 ?_
  refine zj_aload_n (pc' := 21) 0 dX1_copyFrom_20 rfl rfl rfl ?_
  refine zj_getR (pc' := 24) (j := 121) dX1_copyFrom_21 rfl flX1_15 sh119 rfl ?_
  refine zj_iconst (pc' := 25) dX1_copyFrom_24 rfl kiconst_0 ?_
  refine zj_bipush (pc' := 27) dX1_copyFrom_25 rfl kbipush_6 ?_
  obtain ⟨r0_1v2, er0_1v2⟩ : ∃ z, z = (va_cpy r1_1 r0_1 0 0 6) := ⟨_, rfl⟩
  have hy := zlet_at er0_1v2 hy
  refine zj_cpI (pc' := 30) (N := (zui (zui M 120 r0_0v1) 121 r0_1v2)) dX1_copyFrom_27 rfl mlX1_52 zcpw sh17 sh121 tn0 tn0 tn6 (by decide) (by decide) (Nat.le_of_ble_eq_true rfl) (Nat.le_of_ble_eq_true rfl) (zr_n rfl e_i17) (zr_n rfl e_i121) er0_1v2 rfl (Nat.le_of_ble_eq_true rfl) (Nat.le_of_ble_eq_true rfl) ?_
  refine zj_aload_n (pc' := 31) 1 dX1_copyFrom_30 rfl rfl rfl ?_
  refine zj_getR (pc' := 34) (j := 18) dX1_copyFrom_31 rfl flX1_18 sh15 rfl ?_
  refine zj_iconst (pc' := 35) dX1_copyFrom_34 rfl kiconst_0 ?_
  refine zj_aload_n (pc' := 36) 0 dX1_copyFrom_35 rfl rfl rfl ?_
  refine zj_getR (pc' := 39) (j := 122) dX1_copyFrom_36 rfl flX1_18 sh119 rfl ?_
  refine zj_iconst (pc' := 40) dX1_copyFrom_39 rfl kiconst_0 ?_
  refine zj_bipush (pc' := 42) dX1_copyFrom_40 rfl kbipush_6 ?_
  obtain ⟨r0_2v3, er0_2v3⟩ : ∃ z, z = (va_cpy r1_2 r0_2 0 0 6) := ⟨_, rfl⟩
  have hy := zlet_at er0_2v3 hy
  refine zj_cpI (pc' := 45) (N := (zui (zui (zui M 120 r0_0v1) 121 r0_1v2) 122 r0_2v3)) dX1_copyFrom_42 rfl mlX1_52 zcpw sh18 sh122 tn0 tn0 tn6 (by decide) (by decide) (Nat.le_of_ble_eq_true rfl) (Nat.le_of_ble_eq_true rfl) (zr_n rfl (zr_n rfl e_i18)) (zr_n rfl (zr_n rfl e_i122)) er0_2v3 rfl (Nat.le_of_ble_eq_true rfl) (Nat.le_of_ble_eq_true rfl) ?_
  refine zj_aload_n (pc' := 46) 1 dX1_copyFrom_45 rfl rfl rfl ?_
  refine zj_getR (pc' := 49) (j := 19) dX1_copyFrom_46 rfl flX1_21 sh15 rfl ?_
  refine zj_iconst (pc' := 50) dX1_copyFrom_49 rfl kiconst_0 ?_
  refine zj_aload_n (pc' := 51) 0 dX1_copyFrom_50 rfl rfl rfl ?_
  refine zj_getR (pc' := 54) (j := 123) dX1_copyFrom_51 rfl flX1_21 sh119 rfl ?_
  refine zj_iconst (pc' := 55) dX1_copyFrom_54 rfl kiconst_0 ?_
  refine zj_bipush (pc' := 57) dX1_copyFrom_55 rfl kbipush_6 ?_
  obtain ⟨r0_3v4, er0_3v4⟩ : ∃ z, z = (va_cpy r1_3 r0_3 0 0 6) := ⟨_, rfl⟩
  have hy := zlet_at er0_3v4 hy
  refine zj_cpI (pc' := 60) (N := (zui (zui (zui (zui M 120 r0_0v1) 121 r0_1v2) 122 r0_2v3) 123 r0_3v4)) dX1_copyFrom_57 rfl mlX1_52 zcpw sh19 sh123 tn0 tn0 tn6 (by decide) (by decide) (Nat.le_of_ble_eq_true rfl) (Nat.le_of_ble_eq_true rfl) (zr_n rfl (zr_n rfl (zr_n rfl e_i19))) (zr_n rfl (zr_n rfl (zr_n rfl e_i123))) er0_3v4 rfl (Nat.le_of_ble_eq_true rfl) (Nat.le_of_ble_eq_true rfl) ?_
  refine zj_aload_n (pc' := 61) 1 dX1_copyFrom_60 rfl rfl rfl ?_
  refine zj_getR (pc' := 64) (j := 20) dX1_copyFrom_61 rfl flX1_24 sh15 rfl ?_
  refine zj_iconst (pc' := 65) dX1_copyFrom_64 rfl kiconst_0 ?_
  refine zj_aload_n (pc' := 66) 0 dX1_copyFrom_65 rfl rfl rfl ?_
  refine zj_getR (pc' := 69) (j := 124) dX1_copyFrom_66 rfl flX1_24 sh119 rfl ?_
  refine zj_iconst (pc' := 70) dX1_copyFrom_69 rfl kiconst_0 ?_
  refine zj_bipush (pc' := 72) dX1_copyFrom_70 rfl kbipush_48 ?_
  obtain ⟨r0_4v5, er0_4v5⟩ : ∃ z, z = (va_cpy r1_4 r0_4 0 0 48) := ⟨_, rfl⟩
  have hy := zlet_at er0_4v5 hy
  refine zj_cpI (pc' := 75) (N := (zui (zui (zui (zui (zui M 120 r0_0v1) 121 r0_1v2) 122 r0_2v3) 123 r0_3v4) 124 r0_4v5)) dX1_copyFrom_72 rfl mlX1_52 zcpw sh20 sh124 tn0 tn0 tn48 (by decide) (by decide) (Nat.le_of_ble_eq_true rfl) (Nat.le_of_ble_eq_true rfl) (zr_n rfl (zr_n rfl (zr_n rfl (zr_n rfl e_i20)))) (zr_n rfl (zr_n rfl (zr_n rfl (zr_n rfl e_i124)))) er0_4v5 rfl (Nat.le_of_ble_eq_true rfl) (Nat.le_of_ble_eq_true rfl) ?_
  refine zj_aload_n (pc' := 76) 1 dX1_copyFrom_75 rfl rfl rfl ?_
  refine zj_getR (pc' := 79) (j := 21) dX1_copyFrom_76 rfl flX1_27 sh15 rfl ?_
  refine zj_iconst (pc' := 80) dX1_copyFrom_79 rfl kiconst_0 ?_
  refine zj_aload_n (pc' := 81) 0 dX1_copyFrom_80 rfl rfl rfl ?_
  refine zj_getR (pc' := 84) (j := 125) dX1_copyFrom_81 rfl flX1_27 sh119 rfl ?_
  refine zj_iconst (pc' := 85) dX1_copyFrom_84 rfl kiconst_0 ?_
  refine zj_bipush (pc' := 87) dX1_copyFrom_85 rfl kbipush_6 ?_
  obtain ⟨r0_5v6, er0_5v6⟩ : ∃ z, z = (va_cpy r1_5 r0_5 0 0 6) := ⟨_, rfl⟩
  have hy := zlet_at er0_5v6 hy
  refine zj_cpI (pc' := 90) (N := (zui (zui (zui (zui (zui (zui M 120 r0_0v1) 121 r0_1v2) 122 r0_2v3) 123 r0_3v4) 124 r0_4v5) 125 r0_5v6)) dX1_copyFrom_87 rfl mlX1_52 zcpw sh21 sh125 tn0 tn0 tn6 (by decide) (by decide) (Nat.le_of_ble_eq_true rfl) (Nat.le_of_ble_eq_true rfl) (zr_n rfl (zr_n rfl (zr_n rfl (zr_n rfl (zr_n rfl e_i21))))) (zr_n rfl (zr_n rfl (zr_n rfl (zr_n rfl (zr_n rfl e_i125))))) er0_5v6 rfl (Nat.le_of_ble_eq_true rfl) (Nat.le_of_ble_eq_true rfl) ?_
  refine zj_aload_n (pc' := 91) 1 dX1_copyFrom_90 rfl rfl rfl ?_
  refine zj_getR (pc' := 94) (j := 22) dX1_copyFrom_91 rfl flX1_30 sh15 rfl ?_
  refine zj_iconst (pc' := 95) dX1_copyFrom_94 rfl kiconst_0 ?_
  refine zj_aload_n (pc' := 96) 0 dX1_copyFrom_95 rfl rfl rfl ?_
  refine zj_getR (pc' := 99) (j := 126) dX1_copyFrom_96 rfl flX1_30 sh119 rfl ?_
  refine zj_iconst (pc' := 100) dX1_copyFrom_99 rfl kiconst_0 ?_
  refine zj_bipush (pc' := 102) dX1_copyFrom_100 rfl kbipush_8 ?_
  obtain ⟨r0_6v7, er0_6v7⟩ : ∃ z, z = (va_cpy r1_6 r0_6 0 0 8) := ⟨_, rfl⟩
  have hy := zlet_at er0_6v7 hy
  refine zj_cpI (pc' := 105) (N := (zui (zui (zui (zui (zui (zui (zui M 120 r0_0v1) 121 r0_1v2) 122 r0_2v3) 123 r0_3v4) 124 r0_4v5) 125 r0_5v6) 126 r0_6v7)) dX1_copyFrom_102 rfl mlX1_52 zcpw sh22 sh126 tn0 tn0 tn8 (by decide) (by decide) (Nat.le_of_ble_eq_true rfl) (Nat.le_of_ble_eq_true rfl) (zr_n rfl (zr_n rfl (zr_n rfl (zr_n rfl (zr_n rfl (zr_n rfl e_i22)))))) (zr_n rfl (zr_n rfl (zr_n rfl (zr_n rfl (zr_n rfl (zr_n rfl e_i126)))))) er0_6v7 rfl (Nat.le_of_ble_eq_true rfl) (Nat.le_of_ble_eq_true rfl) ?_
  refine zj_aload_n (pc' := 106) 1 dX1_copyFrom_105 rfl rfl rfl ?_
  refine zj_getR (pc' := 109) (j := 23) dX1_copyFrom_106 rfl flX1_33 sh15 rfl ?_
  refine zj_iconst (pc' := 110) dX1_copyFrom_109 rfl kiconst_0 ?_
  refine zj_aload_n (pc' := 111) 0 dX1_copyFrom_110 rfl rfl rfl ?_
  refine zj_getR (pc' := 114) (j := 127) dX1_copyFrom_111 rfl flX1_33 sh119 rfl ?_
  refine zj_iconst (pc' := 115) dX1_copyFrom_114 rfl kiconst_0 ?_
  refine zj_bipush (pc' := 117) dX1_copyFrom_115 rfl kbipush_8 ?_
  obtain ⟨r0_7v8, er0_7v8⟩ : ∃ z, z = (va_cpy r1_7 r0_7 0 0 8) := ⟨_, rfl⟩
  have hy := zlet_at er0_7v8 hy
  refine zj_cpI (pc' := 120) (N := (zui (zui (zui (zui (zui (zui (zui (zui M 120 r0_0v1) 121 r0_1v2) 122 r0_2v3) 123 r0_3v4) 124 r0_4v5) 125 r0_5v6) 126 r0_6v7) 127 r0_7v8)) dX1_copyFrom_117 rfl mlX1_52 zcpw sh23 sh127 tn0 tn0 tn8 (by decide) (by decide) (Nat.le_of_ble_eq_true rfl) (Nat.le_of_ble_eq_true rfl) (zr_n rfl (zr_n rfl (zr_n rfl (zr_n rfl (zr_n rfl (zr_n rfl (zr_n rfl e_i23))))))) (zr_n rfl (zr_n rfl (zr_n rfl (zr_n rfl (zr_n rfl (zr_n rfl (zr_n rfl e_i127))))))) er0_7v8 rfl (Nat.le_of_ble_eq_true rfl) (Nat.le_of_ble_eq_true rfl) ?_
  refine zj_aload_n (pc' := 121) 0 dX1_copyFrom_120 rfl rfl rfl ?_
  refine zj_aload_n (pc' := 122) 1 dX1_copyFrom_121 rfl rfl rfl ?_
  refine zj_fI (pc' := 125) dX1_copyFrom_122 rfl flX1_45 sh15 rfl (zr_n rfl (zr_n rfl (zr_n rfl (zr_n rfl (zr_n rfl (zr_n rfl (zr_n rfl (zr_n rfl e_i15)))))))) rfl ?_
  obtain ⟨r0v9, er0v9⟩ : ∃ z, z = (zup r0 9 (r1 9)) := ⟨_, rfl⟩
  have hy := zlet_at er0v9 hy
  refine zj_pI (pc' := 128) (N := (zui (zui (zui (zui (zui (zui (zui (zui (zui M 119 r0v9) 120 r0_0v1) 121 r0_1v2) 122 r0_2v3) 123 r0_3v4) 124 r0_4v5) 125 r0_5v6) 126 r0_6v7) 127 r0_7v8)) dX1_copyFrom_125 rfl fpX1_45 sh119 rfl (zr_n rfl (zr_n rfl (zr_n rfl (zr_n rfl (zr_n rfl (zr_n rfl (zr_n rfl (zr_n rfl e_i119)))))))) er0v9 (zm_n rfl (zm_n rfl (zm_n rfl (zm_n rfl (zm_n rfl (zm_n rfl (zm_n rfl (zm_n rfl rfl)))))))) ?_
  refine zj_aload_n (pc' := 129) 0 dX1_copyFrom_128 rfl rfl rfl ?_
  refine zj_aload_n (pc' := 130) 1 dX1_copyFrom_129 rfl rfl rfl ?_
  refine zj_fI (pc' := 133) dX1_copyFrom_130 rfl flX1_49 sh15 rfl (zr_n rfl (zr_n rfl (zr_n rfl (zr_n rfl (zr_n rfl (zr_n rfl (zr_n rfl (zr_n rfl (zr_n rfl e_i15))))))))) rfl ?_
  obtain ⟨r0v10, er0v10⟩ : ∃ z, z = (zup r0v9 10 (r1 10)) := ⟨_, rfl⟩
  have hy := zlet_at er0v10 hy
  refine zj_pI (pc' := 136) (N := (zui (zui (zui (zui (zui (zui (zui (zui (zui M 119 r0v10) 120 r0_0v1) 121 r0_1v2) 122 r0_2v3) 123 r0_3v4) 124 r0_4v5) 125 r0_5v6) 126 r0_6v7) 127 r0_7v8)) dX1_copyFrom_133 rfl fpX1_49 sh119 rfl (zr_n rfl (zr_n rfl (zr_n rfl (zr_n rfl (zr_n rfl (zr_n rfl (zr_n rfl (zr_n rfl zr_s)))))))) er0v10 (zm_n rfl (zm_n rfl (zm_n rfl (zm_n rfl (zm_n rfl (zm_n rfl (zm_n rfl (zm_n rfl zm_s)))))))) ?_
  have e9 := Option.some.inj hy
  subst e9
  exact zj_vret dX1_copyFrom_136 rfl hq
set_option maxRecDepth 20000 in
theorem LX1_copyFrom_119_15 (Γ : zG) (M : zM) (r0 : Nat → Int32) (r0_0 : Nat → Int32) (r0_1 : Nat → Int32) (r0_2 : Nat → Int32) (r0_3 : Nat → Int32) (r0_4 : Nat → Int32) (r0_5 : Nat → Int32) (r0_6 : Nat → Int32) (r0_7 : Nat → Int32) (r1 : Nat → Int32) (r1_0 : Nat → Int32) (r1_1 : Nat → Int32) (r1_2 : Nat → Int32) (r1_3 : Nat → Int32) (r1_4 : Nat → Int32) (r1_5 : Nat → Int32) (r1_6 : Nat → Int32) (r1_7 : Nat → Int32) (e_i119 : M.1 119 = r0) (e_i120 : M.1 120 = r0_0) (e_i121 : M.1 121 = r0_1) (e_i122 : M.1 122 = r0_2) (e_i123 : M.1 123 = r0_3) (e_i124 : M.1 124 = r0_4) (e_i125 : M.1 125 = r0_5) (e_i126 : M.1 126 = r0_6) (e_i127 : M.1 127 = r0_7) (e_i15 : M.1 15 = r1) (e_i16 : M.1 16 = r1_0) (e_i17 : M.1 17 = r1_1) (e_i18 : M.1 18 = r1_2) (e_i19 : M.1 19 = r1_3) (e_i20 : M.1 20 = r1_4) (e_i21 : M.1 21 = r1_5) (e_i22 : M.1 22 = r1_6) (e_i23 : M.1 23 = r1_7)  {res : (Nat → Int32) × (Nat → Int32) × (Nat → Int32) × (Nat → Int32) × (Nat → Int32) × (Nat → Int32) × (Nat → Int32) × (Nat → Int32) × (Nat → Int32)} (hy : (fDy_copyFrom r0 r0_0 r0_1 r0_2 r0_3 r0_4 r0_5 r0_6 r0_7 r1 r1_0 r1_1 r1_2 r1_3 r1_4 r1_5 r1_6 r1_7) = some res) : zK Γ 2 YX1_copyFrom [.ref (zad Γ 119), .ref (zad Γ 15)] M (fun v N => v = none ∧ N = (zui (zui (zui (zui (zui (zui (zui (zui (zui M 119 res.1) 120 res.2.1) 121 res.2.2.1) 122 res.2.2.2.1) 123 res.2.2.2.2.1) 124 res.2.2.2.2.2.1) 125 res.2.2.2.2.2.2.1) 126 res.2.2.2.2.2.2.2.1) 127 res.2.2.2.2.2.2.2.2)) :=
  zK_of (by decide) (Nat.le_of_ble_eq_true rfl) (TX1_copyFrom_119_15 Γ M r0 r0_0 r0_1 r0_2 r0_3 r0_4 r0_5 r0_6 r0_7 r1 r1_0 r1_1 r1_2 r1_3 r1_4 r1_5 r1_6 r1_7 e_i119 e_i120 e_i121 e_i122 e_i123 e_i124 e_i125 e_i126 e_i127 e_i15 e_i16 e_i17 e_i18 e_i19 e_i20 e_i21 e_i22 e_i23 hy ⟨rfl, rfl⟩)


set_option maxRecDepth 20000 in
theorem TX1_copyFrom_109_15 (Γ : zG) {Q : Option Value → zM → Prop} (M : zM) (r0 : Nat → Int32) (r0_0 : Nat → Int32) (r0_1 : Nat → Int32) (r0_2 : Nat → Int32) (r0_3 : Nat → Int32) (r0_4 : Nat → Int32) (r0_5 : Nat → Int32) (r0_6 : Nat → Int32) (r0_7 : Nat → Int32) (r1 : Nat → Int32) (r1_0 : Nat → Int32) (r1_1 : Nat → Int32) (r1_2 : Nat → Int32) (r1_3 : Nat → Int32) (r1_4 : Nat → Int32) (r1_5 : Nat → Int32) (r1_6 : Nat → Int32) (r1_7 : Nat → Int32) (e_i109 : M.1 109 = r0) (e_i110 : M.1 110 = r0_0) (e_i111 : M.1 111 = r0_1) (e_i112 : M.1 112 = r0_2) (e_i113 : M.1 113 = r0_3) (e_i114 : M.1 114 = r0_4) (e_i115 : M.1 115 = r0_5) (e_i116 : M.1 116 = r0_6) (e_i117 : M.1 117 = r0_7) (e_i15 : M.1 15 = r1) (e_i16 : M.1 16 = r1_0) (e_i17 : M.1 17 = r1_1) (e_i18 : M.1 18 = r1_2) (e_i19 : M.1 19 = r1_3) (e_i20 : M.1 20 = r1_4) (e_i21 : M.1 21 = r1_5) (e_i22 : M.1 22 = r1_6) (e_i23 : M.1 23 = r1_7)  {res : (Nat → Int32) × (Nat → Int32) × (Nat → Int32) × (Nat → Int32) × (Nat → Int32) × (Nat → Int32) × (Nat → Int32) × (Nat → Int32) × (Nat → Int32)} (hy : (fDy_copyFrom r0 r0_0 r0_1 r0_2 r0_3 r0_4 r0_5 r0_6 r0_7 r1 r1_0 r1_1 r1_2 r1_3 r1_4 r1_5 r1_6 r1_7) = some res) (hq : Q none (zui (zui (zui (zui (zui (zui (zui (zui (zui M 109 res.1) 110 res.2.1) 111 res.2.2.1) 112 res.2.2.2.1) 113 res.2.2.2.2.1) 114 res.2.2.2.2.2.1) 115 res.2.2.2.2.2.2.1) 116 res.2.2.2.2.2.2.2.1) 117 res.2.2.2.2.2.2.2.2)) : zR Γ 2 YX1_copyFrom 0 [(0, .ref (zad Γ 109)), (1, .ref (zad Γ 15))] [] M Q := by
  unfold fDy_copyFrom at hy
  refine zj_aload_n (pc' := 1) 1 dX1_copyFrom_0 rfl rfl rfl ?_
  refine zj_getR (pc' := 4) (j := 16) dX1_copyFrom_1 rfl flX1_9 sh15 rfl ?_
  refine zj_iconst (pc' := 5) dX1_copyFrom_4 rfl kiconst_0 ?_
  refine zj_aload_n (pc' := 6) 0 dX1_copyFrom_5 rfl rfl rfl ?_
  refine zj_getR (pc' := 9) (j := 110) dX1_copyFrom_6 rfl flX1_9 sh109 rfl ?_
  refine zj_iconst (pc' := 10) dX1_copyFrom_9 rfl kiconst_0 ?_
  refine zj_bipush (pc' := 12) dX1_copyFrom_10 rfl kbipush_36 ?_
  obtain ⟨r0_0v1, er0_0v1⟩ : ∃ z, z = (va_cpy r1_0 r0_0 0 0 36) := ⟨_, rfl⟩
  have hy := zlet_at er0_0v1 hy
  refine zj_cpI (pc' := 15) (N := (zui M 110 r0_0v1)) dX1_copyFrom_12 rfl mlX1_52 zcpw sh16 sh110 tn0 tn0 tn36 (by decide) (by decide) (Nat.le_of_ble_eq_true rfl) (Nat.le_of_ble_eq_true rfl) e_i16 e_i110 er0_0v1 rfl (Nat.le_of_ble_eq_true rfl) (Nat.le_of_ble_eq_true rfl) ?_
  refine zj_aload_n (pc' := 16) 1 dX1_copyFrom_15 rfl rfl rfl ?_
  refine zj_getR (pc' := 19) (j := 17) dX1_copyFrom_16 rfl flX1_15 sh15 rfl ?_
  refine zj_iconst (pc' := 20) dX1_copyFrom_19 rfl kiconst_0 ?_
  refine zj_aload_n (pc' := 21) 0 dX1_copyFrom_20 rfl rfl rfl ?_
  refine zj_getR (pc' := 24) (j := 111) dX1_copyFrom_21 rfl flX1_15 sh109 rfl ?_
  refine zj_iconst (pc' := 25) dX1_copyFrom_24 rfl kiconst_0 ?_
  refine zj_bipush (pc' := 27) dX1_copyFrom_25 rfl kbipush_6 ?_
  obtain ⟨r0_1v2, er0_1v2⟩ : ∃ z, z = (va_cpy r1_1 r0_1 0 0 6) := ⟨_, rfl⟩
  have hy := zlet_at er0_1v2 hy
  refine zj_cpI (pc' := 30) (N := (zui (zui M 110 r0_0v1) 111 r0_1v2)) dX1_copyFrom_27 rfl mlX1_52 zcpw sh17 sh111 tn0 tn0 tn6 (by decide) (by decide) (Nat.le_of_ble_eq_true rfl) (Nat.le_of_ble_eq_true rfl) (zr_n rfl e_i17) (zr_n rfl e_i111) er0_1v2 rfl (Nat.le_of_ble_eq_true rfl) (Nat.le_of_ble_eq_true rfl) ?_
  refine zj_aload_n (pc' := 31) 1 dX1_copyFrom_30 rfl rfl rfl ?_
  refine zj_getR (pc' := 34) (j := 18) dX1_copyFrom_31 rfl flX1_18 sh15 rfl ?_
  refine zj_iconst (pc' := 35) dX1_copyFrom_34 rfl kiconst_0 ?_
  refine zj_aload_n (pc' := 36) 0 dX1_copyFrom_35 rfl rfl rfl ?_
  refine zj_getR (pc' := 39) (j := 112) dX1_copyFrom_36 rfl flX1_18 sh109 rfl ?_
  refine zj_iconst (pc' := 40) dX1_copyFrom_39 rfl kiconst_0 ?_
  refine zj_bipush (pc' := 42) dX1_copyFrom_40 rfl kbipush_6 ?_
  obtain ⟨r0_2v3, er0_2v3⟩ : ∃ z, z = (va_cpy r1_2 r0_2 0 0 6) := ⟨_, rfl⟩
  have hy := zlet_at er0_2v3 hy
  refine zj_cpI (pc' := 45) (N := (zui (zui (zui M 110 r0_0v1) 111 r0_1v2) 112 r0_2v3)) dX1_copyFrom_42 rfl mlX1_52 zcpw sh18 sh112 tn0 tn0 tn6 (by decide) (by decide) (Nat.le_of_ble_eq_true rfl) (Nat.le_of_ble_eq_true rfl) (zr_n rfl (zr_n rfl e_i18)) (zr_n rfl (zr_n rfl e_i112)) er0_2v3 rfl (Nat.le_of_ble_eq_true rfl) (Nat.le_of_ble_eq_true rfl) ?_
  refine zj_aload_n (pc' := 46) 1 dX1_copyFrom_45 rfl rfl rfl ?_
  refine zj_getR (pc' := 49) (j := 19) dX1_copyFrom_46 rfl flX1_21 sh15 rfl ?_
  refine zj_iconst (pc' := 50) dX1_copyFrom_49 rfl kiconst_0 ?_
  refine zj_aload_n (pc' := 51) 0 dX1_copyFrom_50 rfl rfl rfl ?_
  refine zj_getR (pc' := 54) (j := 113) dX1_copyFrom_51 rfl flX1_21 sh109 rfl ?_
  refine zj_iconst (pc' := 55) dX1_copyFrom_54 rfl kiconst_0 ?_
  refine zj_bipush (pc' := 57) dX1_copyFrom_55 rfl kbipush_6 ?_
  obtain ⟨r0_3v4, er0_3v4⟩ : ∃ z, z = (va_cpy r1_3 r0_3 0 0 6) := ⟨_, rfl⟩
  have hy := zlet_at er0_3v4 hy
  refine zj_cpI (pc' := 60) (N := (zui (zui (zui (zui M 110 r0_0v1) 111 r0_1v2) 112 r0_2v3) 113 r0_3v4)) dX1_copyFrom_57 rfl mlX1_52 zcpw sh19 sh113 tn0 tn0 tn6 (by decide) (by decide) (Nat.le_of_ble_eq_true rfl) (Nat.le_of_ble_eq_true rfl) (zr_n rfl (zr_n rfl (zr_n rfl e_i19))) (zr_n rfl (zr_n rfl (zr_n rfl e_i113))) er0_3v4 rfl (Nat.le_of_ble_eq_true rfl) (Nat.le_of_ble_eq_true rfl) ?_
  refine zj_aload_n (pc' := 61) 1 dX1_copyFrom_60 rfl rfl rfl ?_
  refine zj_getR (pc' := 64) (j := 20) dX1_copyFrom_61 rfl flX1_24 sh15 rfl ?_
  refine zj_iconst (pc' := 65) dX1_copyFrom_64 rfl kiconst_0 ?_
  refine zj_aload_n (pc' := 66) 0 dX1_copyFrom_65 rfl rfl rfl ?_
  refine zj_getR (pc' := 69) (j := 114) dX1_copyFrom_66 rfl flX1_24 sh109 rfl ?_
  refine zj_iconst (pc' := 70) dX1_copyFrom_69 rfl kiconst_0 ?_
  refine zj_bipush (pc' := 72) dX1_copyFrom_70 rfl kbipush_48 ?_
  obtain ⟨r0_4v5, er0_4v5⟩ : ∃ z, z = (va_cpy r1_4 r0_4 0 0 48) := ⟨_, rfl⟩
  have hy := zlet_at er0_4v5 hy
  refine zj_cpI (pc' := 75) (N := (zui (zui (zui (zui (zui M 110 r0_0v1) 111 r0_1v2) 112 r0_2v3) 113 r0_3v4) 114 r0_4v5)) dX1_copyFrom_72 rfl mlX1_52 zcpw sh20 sh114 tn0 tn0 tn48 (by decide) (by decide) (Nat.le_of_ble_eq_true rfl) (Nat.le_of_ble_eq_true rfl) (zr_n rfl (zr_n rfl (zr_n rfl (zr_n rfl e_i20)))) (zr_n rfl (zr_n rfl (zr_n rfl (zr_n rfl e_i114)))) er0_4v5 rfl (Nat.le_of_ble_eq_true rfl) (Nat.le_of_ble_eq_true rfl) ?_
  refine zj_aload_n (pc' := 76) 1 dX1_copyFrom_75 rfl rfl rfl ?_
  refine zj_getR (pc' := 79) (j := 21) dX1_copyFrom_76 rfl flX1_27 sh15 rfl ?_
  refine zj_iconst (pc' := 80) dX1_copyFrom_79 rfl kiconst_0 ?_
  refine zj_aload_n (pc' := 81) 0 dX1_copyFrom_80 rfl rfl rfl ?_
  refine zj_getR (pc' := 84) (j := 115) dX1_copyFrom_81 rfl flX1_27 sh109 rfl ?_
  refine zj_iconst (pc' := 85) dX1_copyFrom_84 rfl kiconst_0 ?_
  refine zj_bipush (pc' := 87) dX1_copyFrom_85 rfl kbipush_6 ?_
  obtain ⟨r0_5v6, er0_5v6⟩ : ∃ z, z = (va_cpy r1_5 r0_5 0 0 6) := ⟨_, rfl⟩
  have hy := zlet_at er0_5v6 hy
  refine zj_cpI (pc' := 90) (N := (zui (zui (zui (zui (zui (zui M 110 r0_0v1) 111 r0_1v2) 112 r0_2v3) 113 r0_3v4) 114 r0_4v5) 115 r0_5v6)) dX1_copyFrom_87 rfl mlX1_52 zcpw sh21 sh115 tn0 tn0 tn6 (by decide) (by decide) (Nat.le_of_ble_eq_true rfl) (Nat.le_of_ble_eq_true rfl) (zr_n rfl (zr_n rfl (zr_n rfl (zr_n rfl (zr_n rfl e_i21))))) (zr_n rfl (zr_n rfl (zr_n rfl (zr_n rfl (zr_n rfl e_i115))))) er0_5v6 rfl (Nat.le_of_ble_eq_true rfl) (Nat.le_of_ble_eq_true rfl) ?_
  refine zj_aload_n (pc' := 91) 1 dX1_copyFrom_90 rfl rfl rfl ?_
  refine zj_getR (pc' := 94) (j := 22) dX1_copyFrom_91 rfl flX1_30 sh15 rfl ?_
  refine zj_iconst (pc' := 95) dX1_copyFrom_94 rfl kiconst_0 ?_
  refine zj_aload_n (pc' := 96) 0 dX1_copyFrom_95 rfl rfl rfl ?_
  refine zj_getR (pc' := 99) (j := 116) dX1_copyFrom_96 rfl flX1_30 sh109 rfl ?_
  refine zj_iconst (pc' := 100) dX1_copyFrom_99 rfl kiconst_0 ?_
  refine zj_bipush (pc' := 102) dX1_copyFrom_100 rfl kbipush_8 ?_
  obtain ⟨r0_6v7, er0_6v7⟩ : ∃ z, z = (va_cpy r1_6 r0_6 0 0 8) := ⟨_, rfl⟩
  have hy := zlet_at er0_6v7 hy
  refine zj_cpI (pc' := 105) (N := (zui (zui (zui (zui (zui (zui (zui M 110 r0_0v1) 111 r0_1v2) 112 r0_2v3) 113 r0_3v4) 114 r0_4v5) 115 r0_5v6) 116 r0_6v7)) dX1_copyFrom_102 rfl mlX1_52 zcpw sh22 sh116 tn0 tn0 tn8 (by decide) (by decide) (Nat.le_of_ble_eq_true rfl) (Nat.le_of_ble_eq_true rfl) (zr_n rfl (zr_n rfl (zr_n rfl (zr_n rfl (zr_n rfl (zr_n rfl e_i22)))))) (zr_n rfl (zr_n rfl (zr_n rfl (zr_n rfl (zr_n rfl (zr_n rfl e_i116)))))) er0_6v7 rfl (Nat.le_of_ble_eq_true rfl) (Nat.le_of_ble_eq_true rfl) ?_
  refine zj_aload_n (pc' := 106) 1 dX1_copyFrom_105 rfl rfl rfl ?_
  refine zj_getR (pc' := 109) (j := 23) dX1_copyFrom_106 rfl flX1_33 sh15 rfl ?_
  refine zj_iconst (pc' := 110) dX1_copyFrom_109 rfl kiconst_0 ?_
  refine zj_aload_n (pc' := 111) 0 dX1_copyFrom_110 rfl rfl rfl ?_
  refine zj_getR (pc' := 114) (j := 117) dX1_copyFrom_111 rfl flX1_33 sh109 rfl ?_
  refine zj_iconst (pc' := 115) dX1_copyFrom_114 rfl kiconst_0 ?_
  refine zj_bipush (pc' := 117) dX1_copyFrom_115 rfl kbipush_8 ?_
  obtain ⟨r0_7v8, er0_7v8⟩ : ∃ z, z = (va_cpy r1_7 r0_7 0 0 8) := ⟨_, rfl⟩
  have hy := zlet_at er0_7v8 hy
  refine zj_cpI (pc' := 120) (N := (zui (zui (zui (zui (zui (zui (zui (zui M 110 r0_0v1) 111 r0_1v2) 112 r0_2v3) 113 r0_3v4) 114 r0_4v5) 115 r0_5v6) 116 r0_6v7) 117 r0_7v8)) dX1_copyFrom_117 rfl mlX1_52 zcpw sh23 sh117 tn0 tn0 tn8 (by decide) (by decide) (Nat.le_of_ble_eq_true rfl) (Nat.le_of_ble_eq_true rfl) (zr_n rfl (zr_n rfl (zr_n rfl (zr_n rfl (zr_n rfl (zr_n rfl (zr_n rfl e_i23))))))) (zr_n rfl (zr_n rfl (zr_n rfl (zr_n rfl (zr_n rfl (zr_n rfl (zr_n rfl e_i117))))))) er0_7v8 rfl (Nat.le_of_ble_eq_true rfl) (Nat.le_of_ble_eq_true rfl) ?_
  refine zj_aload_n (pc' := 121) 0 dX1_copyFrom_120 rfl rfl rfl ?_
  refine zj_aload_n (pc' := 122) 1 dX1_copyFrom_121 rfl rfl rfl ?_
  refine zj_fI (pc' := 125) dX1_copyFrom_122 rfl flX1_45 sh15 rfl (zr_n rfl (zr_n rfl (zr_n rfl (zr_n rfl (zr_n rfl (zr_n rfl (zr_n rfl (zr_n rfl e_i15)))))))) rfl ?_
  obtain ⟨r0v9, er0v9⟩ : ∃ z, z = (zup r0 9 (r1 9)) := ⟨_, rfl⟩
  have hy := zlet_at er0v9 hy
  refine zj_pI (pc' := 128) (N := (zui (zui (zui (zui (zui (zui (zui (zui (zui M 109 r0v9) 110 r0_0v1) 111 r0_1v2) 112 r0_2v3) 113 r0_3v4) 114 r0_4v5) 115 r0_5v6) 116 r0_6v7) 117 r0_7v8)) dX1_copyFrom_125 rfl fpX1_45 sh109 rfl (zr_n rfl (zr_n rfl (zr_n rfl (zr_n rfl (zr_n rfl (zr_n rfl (zr_n rfl (zr_n rfl e_i109)))))))) er0v9 (zm_n rfl (zm_n rfl (zm_n rfl (zm_n rfl (zm_n rfl (zm_n rfl (zm_n rfl (zm_n rfl rfl)))))))) ?_
  refine zj_aload_n (pc' := 129) 0 dX1_copyFrom_128 rfl rfl rfl ?_
  refine zj_aload_n (pc' := 130) 1 dX1_copyFrom_129 rfl rfl rfl ?_
  refine zj_fI (pc' := 133) dX1_copyFrom_130 rfl flX1_49 sh15 rfl (zr_n rfl (zr_n rfl (zr_n rfl (zr_n rfl (zr_n rfl (zr_n rfl (zr_n rfl (zr_n rfl (zr_n rfl e_i15))))))))) rfl ?_
  obtain ⟨r0v10, er0v10⟩ : ∃ z, z = (zup r0v9 10 (r1 10)) := ⟨_, rfl⟩
  have hy := zlet_at er0v10 hy
  refine zj_pI (pc' := 136) (N := (zui (zui (zui (zui (zui (zui (zui (zui (zui M 109 r0v10) 110 r0_0v1) 111 r0_1v2) 112 r0_2v3) 113 r0_3v4) 114 r0_4v5) 115 r0_5v6) 116 r0_6v7) 117 r0_7v8)) dX1_copyFrom_133 rfl fpX1_49 sh109 rfl (zr_n rfl (zr_n rfl (zr_n rfl (zr_n rfl (zr_n rfl (zr_n rfl (zr_n rfl (zr_n rfl zr_s)))))))) er0v10 (zm_n rfl (zm_n rfl (zm_n rfl (zm_n rfl (zm_n rfl (zm_n rfl (zm_n rfl (zm_n rfl zm_s)))))))) ?_
  have e9 := Option.some.inj hy
  subst e9
  exact zj_vret dX1_copyFrom_136 rfl hq
set_option maxRecDepth 20000 in
theorem LX1_copyFrom_109_15 (Γ : zG) (M : zM) (r0 : Nat → Int32) (r0_0 : Nat → Int32) (r0_1 : Nat → Int32) (r0_2 : Nat → Int32) (r0_3 : Nat → Int32) (r0_4 : Nat → Int32) (r0_5 : Nat → Int32) (r0_6 : Nat → Int32) (r0_7 : Nat → Int32) (r1 : Nat → Int32) (r1_0 : Nat → Int32) (r1_1 : Nat → Int32) (r1_2 : Nat → Int32) (r1_3 : Nat → Int32) (r1_4 : Nat → Int32) (r1_5 : Nat → Int32) (r1_6 : Nat → Int32) (r1_7 : Nat → Int32) (e_i109 : M.1 109 = r0) (e_i110 : M.1 110 = r0_0) (e_i111 : M.1 111 = r0_1) (e_i112 : M.1 112 = r0_2) (e_i113 : M.1 113 = r0_3) (e_i114 : M.1 114 = r0_4) (e_i115 : M.1 115 = r0_5) (e_i116 : M.1 116 = r0_6) (e_i117 : M.1 117 = r0_7) (e_i15 : M.1 15 = r1) (e_i16 : M.1 16 = r1_0) (e_i17 : M.1 17 = r1_1) (e_i18 : M.1 18 = r1_2) (e_i19 : M.1 19 = r1_3) (e_i20 : M.1 20 = r1_4) (e_i21 : M.1 21 = r1_5) (e_i22 : M.1 22 = r1_6) (e_i23 : M.1 23 = r1_7)  {res : (Nat → Int32) × (Nat → Int32) × (Nat → Int32) × (Nat → Int32) × (Nat → Int32) × (Nat → Int32) × (Nat → Int32) × (Nat → Int32) × (Nat → Int32)} (hy : (fDy_copyFrom r0 r0_0 r0_1 r0_2 r0_3 r0_4 r0_5 r0_6 r0_7 r1 r1_0 r1_1 r1_2 r1_3 r1_4 r1_5 r1_6 r1_7) = some res) : zK Γ 2 YX1_copyFrom [.ref (zad Γ 109), .ref (zad Γ 15)] M (fun v N => v = none ∧ N = (zui (zui (zui (zui (zui (zui (zui (zui (zui M 109 res.1) 110 res.2.1) 111 res.2.2.1) 112 res.2.2.2.1) 113 res.2.2.2.2.1) 114 res.2.2.2.2.2.1) 115 res.2.2.2.2.2.2.1) 116 res.2.2.2.2.2.2.2.1) 117 res.2.2.2.2.2.2.2.2)) :=
  zK_of (by decide) (Nat.le_of_ble_eq_true rfl) (TX1_copyFrom_109_15 Γ M r0 r0_0 r0_1 r0_2 r0_3 r0_4 r0_5 r0_6 r0_7 r1 r1_0 r1_1 r1_2 r1_3 r1_4 r1_5 r1_6 r1_7 e_i109 e_i110 e_i111 e_i112 e_i113 e_i114 e_i115 e_i116 e_i117 e_i15 e_i16 e_i17 e_i18 e_i19 e_i20 e_i21 e_i22 e_i23 hy ⟨rfl, rfl⟩)


set_option maxRecDepth 20000 in
theorem TX1_copyFrom_99_15 (Γ : zG) {Q : Option Value → zM → Prop} (M : zM) (r0 : Nat → Int32) (r0_0 : Nat → Int32) (r0_1 : Nat → Int32) (r0_2 : Nat → Int32) (r0_3 : Nat → Int32) (r0_4 : Nat → Int32) (r0_5 : Nat → Int32) (r0_6 : Nat → Int32) (r0_7 : Nat → Int32) (r1 : Nat → Int32) (r1_0 : Nat → Int32) (r1_1 : Nat → Int32) (r1_2 : Nat → Int32) (r1_3 : Nat → Int32) (r1_4 : Nat → Int32) (r1_5 : Nat → Int32) (r1_6 : Nat → Int32) (r1_7 : Nat → Int32) (e_i99 : M.1 99 = r0) (e_i100 : M.1 100 = r0_0) (e_i101 : M.1 101 = r0_1) (e_i102 : M.1 102 = r0_2) (e_i103 : M.1 103 = r0_3) (e_i104 : M.1 104 = r0_4) (e_i105 : M.1 105 = r0_5) (e_i106 : M.1 106 = r0_6) (e_i107 : M.1 107 = r0_7) (e_i15 : M.1 15 = r1) (e_i16 : M.1 16 = r1_0) (e_i17 : M.1 17 = r1_1) (e_i18 : M.1 18 = r1_2) (e_i19 : M.1 19 = r1_3) (e_i20 : M.1 20 = r1_4) (e_i21 : M.1 21 = r1_5) (e_i22 : M.1 22 = r1_6) (e_i23 : M.1 23 = r1_7)  {res : (Nat → Int32) × (Nat → Int32) × (Nat → Int32) × (Nat → Int32) × (Nat → Int32) × (Nat → Int32) × (Nat → Int32) × (Nat → Int32) × (Nat → Int32)} (hy : (fDy_copyFrom r0 r0_0 r0_1 r0_2 r0_3 r0_4 r0_5 r0_6 r0_7 r1 r1_0 r1_1 r1_2 r1_3 r1_4 r1_5 r1_6 r1_7) = some res) (hq : Q none (zui (zui (zui (zui (zui (zui (zui (zui (zui M 99 res.1) 100 res.2.1) 101 res.2.2.1) 102 res.2.2.2.1) 103 res.2.2.2.2.1) 104 res.2.2.2.2.2.1) 105 res.2.2.2.2.2.2.1) 106 res.2.2.2.2.2.2.2.1) 107 res.2.2.2.2.2.2.2.2)) : zR Γ 2 YX1_copyFrom 0 [(0, .ref (zad Γ 99)), (1, .ref (zad Γ 15))] [] M Q := by
  unfold fDy_copyFrom at hy
  refine zj_aload_n (pc' := 1) 1 dX1_copyFrom_0 rfl rfl rfl ?_
  refine zj_getR (pc' := 4) (j := 16) dX1_copyFrom_1 rfl flX1_9 sh15 rfl ?_
  refine zj_iconst (pc' := 5) dX1_copyFrom_4 rfl kiconst_0 ?_
  refine zj_aload_n (pc' := 6) 0 dX1_copyFrom_5 rfl rfl rfl ?_
  refine zj_getR (pc' := 9) (j := 100) dX1_copyFrom_6 rfl flX1_9 sh99 rfl ?_
  refine zj_iconst (pc' := 10) dX1_copyFrom_9 rfl kiconst_0 ?_
  refine zj_bipush (pc' := 12) dX1_copyFrom_10 rfl kbipush_36 ?_
  obtain ⟨r0_0v1, er0_0v1⟩ : ∃ z, z = (va_cpy r1_0 r0_0 0 0 36) := ⟨_, rfl⟩
  have hy := zlet_at er0_0v1 hy
  refine zj_cpI (pc' := 15) (N := (zui M 100 r0_0v1)) dX1_copyFrom_12 rfl mlX1_52 zcpw sh16 sh100 tn0 tn0 tn36 (by decide) (by decide) (Nat.le_of_ble_eq_true rfl) (Nat.le_of_ble_eq_true rfl) e_i16 e_i100 er0_0v1 rfl (Nat.le_of_ble_eq_true rfl) (Nat.le_of_ble_eq_true rfl) ?_
  refine zj_aload_n (pc' := 16) 1 dX1_copyFrom_15 rfl rfl rfl ?_
  refine zj_getR (pc' := 19) (j := 17) dX1_copyFrom_16 rfl flX1_15 sh15 rfl ?_
  refine zj_iconst (pc' := 20) dX1_copyFrom_19 rfl kiconst_0 ?_
  refine zj_aload_n (pc' := 21) 0 dX1_copyFrom_20 rfl rfl rfl ?_
  refine zj_getR (pc' := 24) (j := 101) dX1_copyFrom_21 rfl flX1_15 sh99 rfl ?_
  refine zj_iconst (pc' := 25) dX1_copyFrom_24 rfl kiconst_0 ?_
  refine zj_bipush (pc' := 27) dX1_copyFrom_25 rfl kbipush_6 ?_
  obtain ⟨r0_1v2, er0_1v2⟩ : ∃ z, z = (va_cpy r1_1 r0_1 0 0 6) := ⟨_, rfl⟩
  have hy := zlet_at er0_1v2 hy
  refine zj_cpI (pc' := 30) (N := (zui (zui M 100 r0_0v1) 101 r0_1v2)) dX1_copyFrom_27 rfl mlX1_52 zcpw sh17 sh101 tn0 tn0 tn6 (by decide) (by decide) (Nat.le_of_ble_eq_true rfl) (Nat.le_of_ble_eq_true rfl) (zr_n rfl e_i17) (zr_n rfl e_i101) er0_1v2 rfl (Nat.le_of_ble_eq_true rfl) (Nat.le_of_ble_eq_true rfl) ?_
  refine zj_aload_n (pc' := 31) 1 dX1_copyFrom_30 rfl rfl rfl ?_
  refine zj_getR (pc' := 34) (j := 18) dX1_copyFrom_31 rfl flX1_18 sh15 rfl ?_
  refine zj_iconst (pc' := 35) dX1_copyFrom_34 rfl kiconst_0 ?_
  refine zj_aload_n (pc' := 36) 0 dX1_copyFrom_35 rfl rfl rfl ?_
  refine zj_getR (pc' := 39) (j := 102) dX1_copyFrom_36 rfl flX1_18 sh99 rfl ?_
  refine zj_iconst (pc' := 40) dX1_copyFrom_39 rfl kiconst_0 ?_
  refine zj_bipush (pc' := 42) dX1_copyFrom_40 rfl kbipush_6 ?_
  obtain ⟨r0_2v3, er0_2v3⟩ : ∃ z, z = (va_cpy r1_2 r0_2 0 0 6) := ⟨_, rfl⟩
  have hy := zlet_at er0_2v3 hy
  refine zj_cpI (pc' := 45) (N := (zui (zui (zui M 100 r0_0v1) 101 r0_1v2) 102 r0_2v3)) dX1_copyFrom_42 rfl mlX1_52 zcpw sh18 sh102 tn0 tn0 tn6 (by decide) (by decide) (Nat.le_of_ble_eq_true rfl) (Nat.le_of_ble_eq_true rfl) (zr_n rfl (zr_n rfl e_i18)) (zr_n rfl (zr_n rfl e_i102)) er0_2v3 rfl (Nat.le_of_ble_eq_true rfl) (Nat.le_of_ble_eq_true rfl) ?_
  refine zj_aload_n (pc' := 46) 1 dX1_copyFrom_45 rfl rfl rfl ?_
  refine zj_getR (pc' := 49) (j := 19) dX1_copyFrom_46 rfl flX1_21 sh15 rfl ?_
  refine zj_iconst (pc' := 50) dX1_copyFrom_49 rfl kiconst_0 ?_
  refine zj_aload_n (pc' := 51) 0 dX1_copyFrom_50 rfl rfl rfl ?_
  refine zj_getR (pc' := 54) (j := 103) dX1_copyFrom_51 rfl flX1_21 sh99 rfl ?_
  refine zj_iconst (pc' := 55) dX1_copyFrom_54 rfl kiconst_0 ?_
  refine zj_bipush (pc' := 57) dX1_copyFrom_55 rfl kbipush_6 ?_
  obtain ⟨r0_3v4, er0_3v4⟩ : ∃ z, z = (va_cpy r1_3 r0_3 0 0 6) := ⟨_, rfl⟩
  have hy := zlet_at er0_3v4 hy
  refine zj_cpI (pc' := 60) (N := (zui (zui (zui (zui M 100 r0_0v1) 101 r0_1v2) 102 r0_2v3) 103 r0_3v4)) dX1_copyFrom_57 rfl mlX1_52 zcpw sh19 sh103 tn0 tn0 tn6 (by decide) (by decide) (Nat.le_of_ble_eq_true rfl) (Nat.le_of_ble_eq_true rfl) (zr_n rfl (zr_n rfl (zr_n rfl e_i19))) (zr_n rfl (zr_n rfl (zr_n rfl e_i103))) er0_3v4 rfl (Nat.le_of_ble_eq_true rfl) (Nat.le_of_ble_eq_true rfl) ?_
  refine zj_aload_n (pc' := 61) 1 dX1_copyFrom_60 rfl rfl rfl ?_
  refine zj_getR (pc' := 64) (j := 20) dX1_copyFrom_61 rfl flX1_24 sh15 rfl ?_
  refine zj_iconst (pc' := 65) dX1_copyFrom_64 rfl kiconst_0 ?_
  refine zj_aload_n (pc' := 66) 0 dX1_copyFrom_65 rfl rfl rfl ?_
  refine zj_getR (pc' := 69) (j := 104) dX1_copyFrom_66 rfl flX1_24 sh99 rfl ?_
  refine zj_iconst (pc' := 70) dX1_copyFrom_69 rfl kiconst_0 ?_
  refine zj_bipush (pc' := 72) dX1_copyFrom_70 rfl kbipush_48 ?_
  obtain ⟨r0_4v5, er0_4v5⟩ : ∃ z, z = (va_cpy r1_4 r0_4 0 0 48) := ⟨_, rfl⟩
  have hy := zlet_at er0_4v5 hy
  refine zj_cpI (pc' := 75) (N := (zui (zui (zui (zui (zui M 100 r0_0v1) 101 r0_1v2) 102 r0_2v3) 103 r0_3v4) 104 r0_4v5)) dX1_copyFrom_72 rfl mlX1_52 zcpw sh20 sh104 tn0 tn0 tn48 (by decide) (by decide) (Nat.le_of_ble_eq_true rfl) (Nat.le_of_ble_eq_true rfl) (zr_n rfl (zr_n rfl (zr_n rfl (zr_n rfl e_i20)))) (zr_n rfl (zr_n rfl (zr_n rfl (zr_n rfl e_i104)))) er0_4v5 rfl (Nat.le_of_ble_eq_true rfl) (Nat.le_of_ble_eq_true rfl) ?_
  refine zj_aload_n (pc' := 76) 1 dX1_copyFrom_75 rfl rfl rfl ?_
  refine zj_getR (pc' := 79) (j := 21) dX1_copyFrom_76 rfl flX1_27 sh15 rfl ?_
  refine zj_iconst (pc' := 80) dX1_copyFrom_79 rfl kiconst_0 ?_
  refine zj_aload_n (pc' := 81) 0 dX1_copyFrom_80 rfl rfl rfl ?_
  refine zj_getR (pc' := 84) (j := 105) dX1_copyFrom_81 rfl flX1_27 sh99 rfl ?_
  refine zj_iconst (pc' := 85) dX1_copyFrom_84 rfl kiconst_0 ?_
  refine zj_bipush (pc' := 87) dX1_copyFrom_85 rfl kbipush_6 ?_
  obtain ⟨r0_5v6, er0_5v6⟩ : ∃ z, z = (va_cpy r1_5 r0_5 0 0 6) := ⟨_, rfl⟩
  have hy := zlet_at er0_5v6 hy
  refine zj_cpI (pc' := 90) (N := (zui (zui (zui (zui (zui (zui M 100 r0_0v1) 101 r0_1v2) 102 r0_2v3) 103 r0_3v4) 104 r0_4v5) 105 r0_5v6)) dX1_copyFrom_87 rfl mlX1_52 zcpw sh21 sh105 tn0 tn0 tn6 (by decide) (by decide) (Nat.le_of_ble_eq_true rfl) (Nat.le_of_ble_eq_true rfl) (zr_n rfl (zr_n rfl (zr_n rfl (zr_n rfl (zr_n rfl e_i21))))) (zr_n rfl (zr_n rfl (zr_n rfl (zr_n rfl (zr_n rfl e_i105))))) er0_5v6 rfl (Nat.le_of_ble_eq_true rfl) (Nat.le_of_ble_eq_true rfl) ?_
  refine zj_aload_n (pc' := 91) 1 dX1_copyFrom_90 rfl rfl rfl ?_
  refine zj_getR (pc' := 94) (j := 22) dX1_copyFrom_91 rfl flX1_30 sh15 rfl ?_
  refine zj_iconst (pc' := 95) dX1_copyFrom_94 rfl kiconst_0 ?_
  refine zj_aload_n (pc' := 96) 0 dX1_copyFrom_95 rfl rfl rfl ?_
  refine zj_getR (pc' := 99) (j := 106) dX1_copyFrom_96 rfl flX1_30 sh99 rfl ?_
  refine zj_iconst (pc' := 100) dX1_copyFrom_99 rfl kiconst_0 ?_
  refine zj_bipush (pc' := 102) dX1_copyFrom_100 rfl kbipush_8 ?_
  obtain ⟨r0_6v7, er0_6v7⟩ : ∃ z, z = (va_cpy r1_6 r0_6 0 0 8) := ⟨_, rfl⟩
  have hy := zlet_at er0_6v7 hy
  refine zj_cpI (pc' := 105) (N := (zui (zui (zui (zui (zui (zui (zui M 100 r0_0v1) 101 r0_1v2) 102 r0_2v3) 103 r0_3v4) 104 r0_4v5) 105 r0_5v6) 106 r0_6v7)) dX1_copyFrom_102 rfl mlX1_52 zcpw sh22 sh106 tn0 tn0 tn8 (by decide) (by decide) (Nat.le_of_ble_eq_true rfl) (Nat.le_of_ble_eq_true rfl) (zr_n rfl (zr_n rfl (zr_n rfl (zr_n rfl (zr_n rfl (zr_n rfl e_i22)))))) (zr_n rfl (zr_n rfl (zr_n rfl (zr_n rfl (zr_n rfl (zr_n rfl e_i106)))))) er0_6v7 rfl (Nat.le_of_ble_eq_true rfl) (Nat.le_of_ble_eq_true rfl) ?_
  refine zj_aload_n (pc' := 106) 1 dX1_copyFrom_105 rfl rfl rfl ?_
  refine zj_getR (pc' := 109) (j := 23) dX1_copyFrom_106 rfl flX1_33 sh15 rfl ?_
  refine zj_iconst (pc' := 110) dX1_copyFrom_109 rfl kiconst_0 ?_
  refine zj_aload_n (pc' := 111) 0 dX1_copyFrom_110 rfl rfl rfl ?_
  refine zj_getR (pc' := 114) (j := 107) dX1_copyFrom_111 rfl flX1_33 sh99 rfl ?_
  refine zj_iconst (pc' := 115) dX1_copyFrom_114 rfl kiconst_0 ?_
  refine zj_bipush (pc' := 117) dX1_copyFrom_115 rfl kbipush_8 ?_
  obtain ⟨r0_7v8, er0_7v8⟩ : ∃ z, z = (va_cpy r1_7 r0_7 0 0 8) := ⟨_, rfl⟩
  have hy := zlet_at er0_7v8 hy
  refine zj_cpI (pc' := 120) (N := (zui (zui (zui (zui (zui (zui (zui (zui M 100 r0_0v1) 101 r0_1v2) 102 r0_2v3) 103 r0_3v4) 104 r0_4v5) 105 r0_5v6) 106 r0_6v7) 107 r0_7v8)) dX1_copyFrom_117 rfl mlX1_52 zcpw sh23 sh107 tn0 tn0 tn8 (by decide) (by decide) (Nat.le_of_ble_eq_true rfl) (Nat.le_of_ble_eq_true rfl) (zr_n rfl (zr_n rfl (zr_n rfl (zr_n rfl (zr_n rfl (zr_n rfl (zr_n rfl e_i23))))))) (zr_n rfl (zr_n rfl (zr_n rfl (zr_n rfl (zr_n rfl (zr_n rfl (zr_n rfl e_i107))))))) er0_7v8 rfl (Nat.le_of_ble_eq_true rfl) (Nat.le_of_ble_eq_true rfl) ?_
  refine zj_aload_n (pc' := 121) 0 dX1_copyFrom_120 rfl rfl rfl ?_
  refine zj_aload_n (pc' := 122) 1 dX1_copyFrom_121 rfl rfl rfl ?_
  refine zj_fI (pc' := 125) dX1_copyFrom_122 rfl flX1_45 sh15 rfl (zr_n rfl (zr_n rfl (zr_n rfl (zr_n rfl (zr_n rfl (zr_n rfl (zr_n rfl (zr_n rfl e_i15)))))))) rfl ?_
  obtain ⟨r0v9, er0v9⟩ : ∃ z, z = (zup r0 9 (r1 9)) := ⟨_, rfl⟩
  have hy := zlet_at er0v9 hy
  refine zj_pI (pc' := 128) (N := (zui (zui (zui (zui (zui (zui (zui (zui (zui M 99 r0v9) 100 r0_0v1) 101 r0_1v2) 102 r0_2v3) 103 r0_3v4) 104 r0_4v5) 105 r0_5v6) 106 r0_6v7) 107 r0_7v8)) dX1_copyFrom_125 rfl fpX1_45 sh99 rfl (zr_n rfl (zr_n rfl (zr_n rfl (zr_n rfl (zr_n rfl (zr_n rfl (zr_n rfl (zr_n rfl e_i99)))))))) er0v9 (zm_n rfl (zm_n rfl (zm_n rfl (zm_n rfl (zm_n rfl (zm_n rfl (zm_n rfl (zm_n rfl rfl)))))))) ?_
  refine zj_aload_n (pc' := 129) 0 dX1_copyFrom_128 rfl rfl rfl ?_
  refine zj_aload_n (pc' := 130) 1 dX1_copyFrom_129 rfl rfl rfl ?_
  refine zj_fI (pc' := 133) dX1_copyFrom_130 rfl flX1_49 sh15 rfl (zr_n rfl (zr_n rfl (zr_n rfl (zr_n rfl (zr_n rfl (zr_n rfl (zr_n rfl (zr_n rfl (zr_n rfl e_i15))))))))) rfl ?_
  obtain ⟨r0v10, er0v10⟩ : ∃ z, z = (zup r0v9 10 (r1 10)) := ⟨_, rfl⟩
  have hy := zlet_at er0v10 hy
  refine zj_pI (pc' := 136) (N := (zui (zui (zui (zui (zui (zui (zui (zui (zui M 99 r0v10) 100 r0_0v1) 101 r0_1v2) 102 r0_2v3) 103 r0_3v4) 104 r0_4v5) 105 r0_5v6) 106 r0_6v7) 107 r0_7v8)) dX1_copyFrom_133 rfl fpX1_49 sh99 rfl (zr_n rfl (zr_n rfl (zr_n rfl (zr_n rfl (zr_n rfl (zr_n rfl (zr_n rfl (zr_n rfl zr_s)))))))) er0v10 (zm_n rfl (zm_n rfl (zm_n rfl (zm_n rfl (zm_n rfl (zm_n rfl (zm_n rfl (zm_n rfl zm_s)))))))) ?_
  have e9 := Option.some.inj hy
  subst e9
  exact zj_vret dX1_copyFrom_136 rfl hq
set_option maxRecDepth 20000 in
theorem LX1_copyFrom_99_15 (Γ : zG) (M : zM) (r0 : Nat → Int32) (r0_0 : Nat → Int32) (r0_1 : Nat → Int32) (r0_2 : Nat → Int32) (r0_3 : Nat → Int32) (r0_4 : Nat → Int32) (r0_5 : Nat → Int32) (r0_6 : Nat → Int32) (r0_7 : Nat → Int32) (r1 : Nat → Int32) (r1_0 : Nat → Int32) (r1_1 : Nat → Int32) (r1_2 : Nat → Int32) (r1_3 : Nat → Int32) (r1_4 : Nat → Int32) (r1_5 : Nat → Int32) (r1_6 : Nat → Int32) (r1_7 : Nat → Int32) (e_i99 : M.1 99 = r0) (e_i100 : M.1 100 = r0_0) (e_i101 : M.1 101 = r0_1) (e_i102 : M.1 102 = r0_2) (e_i103 : M.1 103 = r0_3) (e_i104 : M.1 104 = r0_4) (e_i105 : M.1 105 = r0_5) (e_i106 : M.1 106 = r0_6) (e_i107 : M.1 107 = r0_7) (e_i15 : M.1 15 = r1) (e_i16 : M.1 16 = r1_0) (e_i17 : M.1 17 = r1_1) (e_i18 : M.1 18 = r1_2) (e_i19 : M.1 19 = r1_3) (e_i20 : M.1 20 = r1_4) (e_i21 : M.1 21 = r1_5) (e_i22 : M.1 22 = r1_6) (e_i23 : M.1 23 = r1_7)  {res : (Nat → Int32) × (Nat → Int32) × (Nat → Int32) × (Nat → Int32) × (Nat → Int32) × (Nat → Int32) × (Nat → Int32) × (Nat → Int32) × (Nat → Int32)} (hy : (fDy_copyFrom r0 r0_0 r0_1 r0_2 r0_3 r0_4 r0_5 r0_6 r0_7 r1 r1_0 r1_1 r1_2 r1_3 r1_4 r1_5 r1_6 r1_7) = some res) : zK Γ 2 YX1_copyFrom [.ref (zad Γ 99), .ref (zad Γ 15)] M (fun v N => v = none ∧ N = (zui (zui (zui (zui (zui (zui (zui (zui (zui M 99 res.1) 100 res.2.1) 101 res.2.2.1) 102 res.2.2.2.1) 103 res.2.2.2.2.1) 104 res.2.2.2.2.2.1) 105 res.2.2.2.2.2.2.1) 106 res.2.2.2.2.2.2.2.1) 107 res.2.2.2.2.2.2.2.2)) :=
  zK_of (by decide) (Nat.le_of_ble_eq_true rfl) (TX1_copyFrom_99_15 Γ M r0 r0_0 r0_1 r0_2 r0_3 r0_4 r0_5 r0_6 r0_7 r1 r1_0 r1_1 r1_2 r1_3 r1_4 r1_5 r1_6 r1_7 e_i99 e_i100 e_i101 e_i102 e_i103 e_i104 e_i105 e_i106 e_i107 e_i15 e_i16 e_i17 e_i18 e_i19 e_i20 e_i21 e_i22 e_i23 hy ⟨rfl, rfl⟩)


set_option maxRecDepth 20000 in
theorem TX1_copyFrom_89_15 (Γ : zG) {Q : Option Value → zM → Prop} (M : zM) (r0 : Nat → Int32) (r0_0 : Nat → Int32) (r0_1 : Nat → Int32) (r0_2 : Nat → Int32) (r0_3 : Nat → Int32) (r0_4 : Nat → Int32) (r0_5 : Nat → Int32) (r0_6 : Nat → Int32) (r0_7 : Nat → Int32) (r1 : Nat → Int32) (r1_0 : Nat → Int32) (r1_1 : Nat → Int32) (r1_2 : Nat → Int32) (r1_3 : Nat → Int32) (r1_4 : Nat → Int32) (r1_5 : Nat → Int32) (r1_6 : Nat → Int32) (r1_7 : Nat → Int32) (e_i89 : M.1 89 = r0) (e_i90 : M.1 90 = r0_0) (e_i91 : M.1 91 = r0_1) (e_i92 : M.1 92 = r0_2) (e_i93 : M.1 93 = r0_3) (e_i94 : M.1 94 = r0_4) (e_i95 : M.1 95 = r0_5) (e_i96 : M.1 96 = r0_6) (e_i97 : M.1 97 = r0_7) (e_i15 : M.1 15 = r1) (e_i16 : M.1 16 = r1_0) (e_i17 : M.1 17 = r1_1) (e_i18 : M.1 18 = r1_2) (e_i19 : M.1 19 = r1_3) (e_i20 : M.1 20 = r1_4) (e_i21 : M.1 21 = r1_5) (e_i22 : M.1 22 = r1_6) (e_i23 : M.1 23 = r1_7)  {res : (Nat → Int32) × (Nat → Int32) × (Nat → Int32) × (Nat → Int32) × (Nat → Int32) × (Nat → Int32) × (Nat → Int32) × (Nat → Int32) × (Nat → Int32)} (hy : (fDy_copyFrom r0 r0_0 r0_1 r0_2 r0_3 r0_4 r0_5 r0_6 r0_7 r1 r1_0 r1_1 r1_2 r1_3 r1_4 r1_5 r1_6 r1_7) = some res) (hq : Q none (zui (zui (zui (zui (zui (zui (zui (zui (zui M 89 res.1) 90 res.2.1) 91 res.2.2.1) 92 res.2.2.2.1) 93 res.2.2.2.2.1) 94 res.2.2.2.2.2.1) 95 res.2.2.2.2.2.2.1) 96 res.2.2.2.2.2.2.2.1) 97 res.2.2.2.2.2.2.2.2)) : zR Γ 2 YX1_copyFrom 0 [(0, .ref (zad Γ 89)), (1, .ref (zad Γ 15))] [] M Q := by
  unfold fDy_copyFrom at hy
  refine zj_aload_n (pc' := 1) 1 dX1_copyFrom_0 rfl rfl rfl ?_
  refine zj_getR (pc' := 4) (j := 16) dX1_copyFrom_1 rfl flX1_9 sh15 rfl ?_
  refine zj_iconst (pc' := 5) dX1_copyFrom_4 rfl kiconst_0 ?_
  refine zj_aload_n (pc' := 6) 0 dX1_copyFrom_5 rfl rfl rfl ?_
  refine zj_getR (pc' := 9) (j := 90) dX1_copyFrom_6 rfl flX1_9 sh89 rfl ?_
  refine zj_iconst (pc' := 10) dX1_copyFrom_9 rfl kiconst_0 ?_
  refine zj_bipush (pc' := 12) dX1_copyFrom_10 rfl kbipush_36 ?_
  obtain ⟨r0_0v1, er0_0v1⟩ : ∃ z, z = (va_cpy r1_0 r0_0 0 0 36) := ⟨_, rfl⟩
  have hy := zlet_at er0_0v1 hy
  refine zj_cpI (pc' := 15) (N := (zui M 90 r0_0v1)) dX1_copyFrom_12 rfl mlX1_52 zcpw sh16 sh90 tn0 tn0 tn36 (by decide) (by decide) (Nat.le_of_ble_eq_true rfl) (Nat.le_of_ble_eq_true rfl) e_i16 e_i90 er0_0v1 rfl (Nat.le_of_ble_eq_true rfl) (Nat.le_of_ble_eq_true rfl) ?_
  refine zj_aload_n (pc' := 16) 1 dX1_copyFrom_15 rfl rfl rfl ?_
  refine zj_getR (pc' := 19) (j := 17) dX1_copyFrom_16 rfl flX1_15 sh15 rfl ?_
  refine zj_iconst (pc' := 20) dX1_copyFrom_19 rfl kiconst_0 ?_
  refine zj_aload_n (pc' := 21) 0 dX1_copyFrom_20 rfl rfl rfl ?_
  refine zj_getR (pc' := 24) (j := 91) dX1_copyFrom_21 rfl flX1_15 sh89 rfl ?_
  refine zj_iconst (pc' := 25) dX1_copyFrom_24 rfl kiconst_0 ?_
  refine zj_bipush (pc' := 27) dX1_copyFrom_25 rfl kbipush_6 ?_
  obtain ⟨r0_1v2, er0_1v2⟩ : ∃ z, z = (va_cpy r1_1 r0_1 0 0 6) := ⟨_, rfl⟩
  have hy := zlet_at er0_1v2 hy
  refine zj_cpI (pc' := 30) (N := (zui (zui M 90 r0_0v1) 91 r0_1v2)) dX1_copyFrom_27 rfl mlX1_52 zcpw sh17 sh91 tn0 tn0 tn6 (by decide) (by decide) (Nat.le_of_ble_eq_true rfl) (Nat.le_of_ble_eq_true rfl) (zr_n rfl e_i17) (zr_n rfl e_i91) er0_1v2 rfl (Nat.le_of_ble_eq_true rfl) (Nat.le_of_ble_eq_true rfl) ?_
  refine zj_aload_n (pc' := 31) 1 dX1_copyFrom_30 rfl rfl rfl ?_
  refine zj_getR (pc' := 34) (j := 18) dX1_copyFrom_31 rfl flX1_18 sh15 rfl ?_
  refine zj_iconst (pc' := 35) dX1_copyFrom_34 rfl kiconst_0 ?_
  refine zj_aload_n (pc' := 36) 0 dX1_copyFrom_35 rfl rfl rfl ?_
  refine zj_getR (pc' := 39) (j := 92) dX1_copyFrom_36 rfl flX1_18 sh89 rfl ?_
  refine zj_iconst (pc' := 40) dX1_copyFrom_39 rfl kiconst_0 ?_
  refine zj_bipush (pc' := 42) dX1_copyFrom_40 rfl kbipush_6 ?_
  obtain ⟨r0_2v3, er0_2v3⟩ : ∃ z, z = (va_cpy r1_2 r0_2 0 0 6) := ⟨_, rfl⟩
  have hy := zlet_at er0_2v3 hy
  refine zj_cpI (pc' := 45) (N := (zui (zui (zui M 90 r0_0v1) 91 r0_1v2) 92 r0_2v3)) dX1_copyFrom_42 rfl mlX1_52 zcpw sh18 sh92 tn0 tn0 tn6 (by decide) (by decide) (Nat.le_of_ble_eq_true rfl) (Nat.le_of_ble_eq_true rfl) (zr_n rfl (zr_n rfl e_i18)) (zr_n rfl (zr_n rfl e_i92)) er0_2v3 rfl (Nat.le_of_ble_eq_true rfl) (Nat.le_of_ble_eq_true rfl) ?_
  refine zj_aload_n (pc' := 46) 1 dX1_copyFrom_45 rfl rfl rfl ?_
  refine zj_getR (pc' := 49) (j := 19) dX1_copyFrom_46 rfl flX1_21 sh15 rfl ?_
  refine zj_iconst (pc' := 50) dX1_copyFrom_49 rfl kiconst_0 ?_
  refine zj_aload_n (pc' := 51) 0 dX1_copyFrom_50 rfl rfl rfl ?_
  refine zj_getR (pc' := 54) (j := 93) dX1_copyFrom_51 rfl flX1_21 sh89 rfl ?_
  refine zj_iconst (pc' := 55) dX1_copyFrom_54 rfl kiconst_0 ?_
  refine zj_bipush (pc' := 57) dX1_copyFrom_55 rfl kbipush_6 ?_
  obtain ⟨r0_3v4, er0_3v4⟩ : ∃ z, z = (va_cpy r1_3 r0_3 0 0 6) := ⟨_, rfl⟩
  have hy := zlet_at er0_3v4 hy
  refine zj_cpI (pc' := 60) (N := (zui (zui (zui (zui M 90 r0_0v1) 91 r0_1v2) 92 r0_2v3) 93 r0_3v4)) dX1_copyFrom_57 rfl mlX1_52 zcpw sh19 sh93 tn0 tn0 tn6 (by decide) (by decide) (Nat.le_of_ble_eq_true rfl) (Nat.le_of_ble_eq_true rfl) (zr_n rfl (zr_n rfl (zr_n rfl e_i19))) (zr_n rfl (zr_n rfl (zr_n rfl e_i93))) er0_3v4 rfl (Nat.le_of_ble_eq_true rfl) (Nat.le_of_ble_eq_true rfl) ?_
  refine zj_aload_n (pc' := 61) 1 dX1_copyFrom_60 rfl rfl rfl ?_
  refine zj_getR (pc' := 64) (j := 20) dX1_copyFrom_61 rfl flX1_24 sh15 rfl ?_
  refine zj_iconst (pc' := 65) dX1_copyFrom_64 rfl kiconst_0 ?_
  refine zj_aload_n (pc' := 66) 0 dX1_copyFrom_65 rfl rfl rfl ?_
  refine zj_getR (pc' := 69) (j := 94) dX1_copyFrom_66 rfl flX1_24 sh89 rfl ?_
  refine zj_iconst (pc' := 70) dX1_copyFrom_69 rfl kiconst_0 ?_
  refine zj_bipush (pc' := 72) dX1_copyFrom_70 rfl kbipush_48 ?_
  obtain ⟨r0_4v5, er0_4v5⟩ : ∃ z, z = (va_cpy r1_4 r0_4 0 0 48) := ⟨_, rfl⟩
  have hy := zlet_at er0_4v5 hy
  refine zj_cpI (pc' := 75) (N := (zui (zui (zui (zui (zui M 90 r0_0v1) 91 r0_1v2) 92 r0_2v3) 93 r0_3v4) 94 r0_4v5)) dX1_copyFrom_72 rfl mlX1_52 zcpw sh20 sh94 tn0 tn0 tn48 (by decide) (by decide) (Nat.le_of_ble_eq_true rfl) (Nat.le_of_ble_eq_true rfl) (zr_n rfl (zr_n rfl (zr_n rfl (zr_n rfl e_i20)))) (zr_n rfl (zr_n rfl (zr_n rfl (zr_n rfl e_i94)))) er0_4v5 rfl (Nat.le_of_ble_eq_true rfl) (Nat.le_of_ble_eq_true rfl) ?_
  refine zj_aload_n (pc' := 76) 1 dX1_copyFrom_75 rfl rfl rfl ?_
  refine zj_getR (pc' := 79) (j := 21) dX1_copyFrom_76 rfl flX1_27 sh15 rfl ?_
  refine zj_iconst (pc' := 80) dX1_copyFrom_79 rfl kiconst_0 ?_
  refine zj_aload_n (pc' := 81) 0 dX1_copyFrom_80 rfl rfl rfl ?_
  refine zj_getR (pc' := 84) (j := 95) dX1_copyFrom_81 rfl flX1_27 sh89 rfl ?_
  refine zj_iconst (pc' := 85) dX1_copyFrom_84 rfl kiconst_0 ?_
  refine zj_bipush (pc' := 87) dX1_copyFrom_85 rfl kbipush_6 ?_
  obtain ⟨r0_5v6, er0_5v6⟩ : ∃ z, z = (va_cpy r1_5 r0_5 0 0 6) := ⟨_, rfl⟩
  have hy := zlet_at er0_5v6 hy
  refine zj_cpI (pc' := 90) (N := (zui (zui (zui (zui (zui (zui M 90 r0_0v1) 91 r0_1v2) 92 r0_2v3) 93 r0_3v4) 94 r0_4v5) 95 r0_5v6)) dX1_copyFrom_87 rfl mlX1_52 zcpw sh21 sh95 tn0 tn0 tn6 (by decide) (by decide) (Nat.le_of_ble_eq_true rfl) (Nat.le_of_ble_eq_true rfl) (zr_n rfl (zr_n rfl (zr_n rfl (zr_n rfl (zr_n rfl e_i21))))) (zr_n rfl (zr_n rfl (zr_n rfl (zr_n rfl (zr_n rfl e_i95))))) er0_5v6 rfl (Nat.le_of_ble_eq_true rfl) (Nat.le_of_ble_eq_true rfl) ?_
  refine zj_aload_n (pc' := 91) 1 dX1_copyFrom_90 rfl rfl rfl ?_
  refine zj_getR (pc' := 94) (j := 22) dX1_copyFrom_91 rfl flX1_30 sh15 rfl ?_
  refine zj_iconst (pc' := 95) dX1_copyFrom_94 rfl kiconst_0 ?_
  refine zj_aload_n (pc' := 96) 0 dX1_copyFrom_95 rfl rfl rfl ?_
  refine zj_getR (pc' := 99) (j := 96) dX1_copyFrom_96 rfl flX1_30 sh89 rfl ?_
  refine zj_iconst (pc' := 100) dX1_copyFrom_99 rfl kiconst_0 ?_
  refine zj_bipush (pc' := 102) dX1_copyFrom_100 rfl kbipush_8 ?_
  obtain ⟨r0_6v7, er0_6v7⟩ : ∃ z, z = (va_cpy r1_6 r0_6 0 0 8) := ⟨_, rfl⟩
  have hy := zlet_at er0_6v7 hy
  refine zj_cpI (pc' := 105) (N := (zui (zui (zui (zui (zui (zui (zui M 90 r0_0v1) 91 r0_1v2) 92 r0_2v3) 93 r0_3v4) 94 r0_4v5) 95 r0_5v6) 96 r0_6v7)) dX1_copyFrom_102 rfl mlX1_52 zcpw sh22 sh96 tn0 tn0 tn8 (by decide) (by decide) (Nat.le_of_ble_eq_true rfl) (Nat.le_of_ble_eq_true rfl) (zr_n rfl (zr_n rfl (zr_n rfl (zr_n rfl (zr_n rfl (zr_n rfl e_i22)))))) (zr_n rfl (zr_n rfl (zr_n rfl (zr_n rfl (zr_n rfl (zr_n rfl e_i96)))))) er0_6v7 rfl (Nat.le_of_ble_eq_true rfl) (Nat.le_of_ble_eq_true rfl) ?_
  refine zj_aload_n (pc' := 106) 1 dX1_copyFrom_105 rfl rfl rfl ?_
  refine zj_getR (pc' := 109) (j := 23) dX1_copyFrom_106 rfl flX1_33 sh15 rfl ?_
  refine zj_iconst (pc' := 110) dX1_copyFrom_109 rfl kiconst_0 ?_
  refine zj_aload_n (pc' := 111) 0 dX1_copyFrom_110 rfl rfl rfl ?_
  refine zj_getR (pc' := 114) (j := 97) dX1_copyFrom_111 rfl flX1_33 sh89 rfl ?_
  refine zj_iconst (pc' := 115) dX1_copyFrom_114 rfl kiconst_0 ?_
  refine zj_bipush (pc' := 117) dX1_copyFrom_115 rfl kbipush_8 ?_
  obtain ⟨r0_7v8, er0_7v8⟩ : ∃ z, z = (va_cpy r1_7 r0_7 0 0 8) := ⟨_, rfl⟩
  have hy := zlet_at er0_7v8 hy
  refine zj_cpI (pc' := 120) (N := (zui (zui (zui (zui (zui (zui (zui (zui M 90 r0_0v1) 91 r0_1v2) 92 r0_2v3) 93 r0_3v4) 94 r0_4v5) 95 r0_5v6) 96 r0_6v7) 97 r0_7v8)) dX1_copyFrom_117 rfl mlX1_52 zcpw sh23 sh97 tn0 tn0 tn8 (by decide) (by decide) (Nat.le_of_ble_eq_true rfl) (Nat.le_of_ble_eq_true rfl) (zr_n rfl (zr_n rfl (zr_n rfl (zr_n rfl (zr_n rfl (zr_n rfl (zr_n rfl e_i23))))))) (zr_n rfl (zr_n rfl (zr_n rfl (zr_n rfl (zr_n rfl (zr_n rfl (zr_n rfl e_i97))))))) er0_7v8 rfl (Nat.le_of_ble_eq_true rfl) (Nat.le_of_ble_eq_true rfl) ?_
  refine zj_aload_n (pc' := 121) 0 dX1_copyFrom_120 rfl rfl rfl ?_
  refine zj_aload_n (pc' := 122) 1 dX1_copyFrom_121 rfl rfl rfl ?_
  refine zj_fI (pc' := 125) dX1_copyFrom_122 rfl flX1_45 sh15 rfl (zr_n rfl (zr_n rfl (zr_n rfl (zr_n rfl (zr_n rfl (zr_n rfl (zr_n rfl (zr_n rfl e_i15)))))))) rfl ?_
  obtain ⟨r0v9, er0v9⟩ : ∃ z, z = (zup r0 9 (r1 9)) := ⟨_, rfl⟩
  have hy := zlet_at er0v9 hy
  refine zj_pI (pc' := 128) (N := (zui (zui (zui (zui (zui (zui (zui (zui (zui M 89 r0v9) 90 r0_0v1) 91 r0_1v2) 92 r0_2v3) 93 r0_3v4) 94 r0_4v5) 95 r0_5v6) 96 r0_6v7) 97 r0_7v8)) dX1_copyFrom_125 rfl fpX1_45 sh89 rfl (zr_n rfl (zr_n rfl (zr_n rfl (zr_n rfl (zr_n rfl (zr_n rfl (zr_n rfl (zr_n rfl e_i89)))))))) er0v9 (zm_n rfl (zm_n rfl (zm_n rfl (zm_n rfl (zm_n rfl (zm_n rfl (zm_n rfl (zm_n rfl rfl)))))))) ?_
  refine zj_aload_n (pc' := 129) 0 dX1_copyFrom_128 rfl rfl rfl ?_
  refine zj_aload_n (pc' := 130) 1 dX1_copyFrom_129 rfl rfl rfl ?_
  refine zj_fI (pc' := 133) dX1_copyFrom_130 rfl flX1_49 sh15 rfl (zr_n rfl (zr_n rfl (zr_n rfl (zr_n rfl (zr_n rfl (zr_n rfl (zr_n rfl (zr_n rfl (zr_n rfl e_i15))))))))) rfl ?_
  obtain ⟨r0v10, er0v10⟩ : ∃ z, z = (zup r0v9 10 (r1 10)) := ⟨_, rfl⟩
  have hy := zlet_at er0v10 hy
  refine zj_pI (pc' := 136) (N := (zui (zui (zui (zui (zui (zui (zui (zui (zui M 89 r0v10) 90 r0_0v1) 91 r0_1v2) 92 r0_2v3) 93 r0_3v4) 94 r0_4v5) 95 r0_5v6) 96 r0_6v7) 97 r0_7v8)) dX1_copyFrom_133 rfl fpX1_49 sh89 rfl (zr_n rfl (zr_n rfl (zr_n rfl (zr_n rfl (zr_n rfl (zr_n rfl (zr_n rfl (zr_n rfl zr_s)))))))) er0v10 (zm_n rfl (zm_n rfl (zm_n rfl (zm_n rfl (zm_n rfl (zm_n rfl (zm_n rfl (zm_n rfl zm_s)))))))) ?_
  have e9 := Option.some.inj hy
  subst e9
  exact zj_vret dX1_copyFrom_136 rfl hq
set_option maxRecDepth 20000 in
theorem LX1_copyFrom_89_15 (Γ : zG) (M : zM) (r0 : Nat → Int32) (r0_0 : Nat → Int32) (r0_1 : Nat → Int32) (r0_2 : Nat → Int32) (r0_3 : Nat → Int32) (r0_4 : Nat → Int32) (r0_5 : Nat → Int32) (r0_6 : Nat → Int32) (r0_7 : Nat → Int32) (r1 : Nat → Int32) (r1_0 : Nat → Int32) (r1_1 : Nat → Int32) (r1_2 : Nat → Int32) (r1_3 : Nat → Int32) (r1_4 : Nat → Int32) (r1_5 : Nat → Int32) (r1_6 : Nat → Int32) (r1_7 : Nat → Int32) (e_i89 : M.1 89 = r0) (e_i90 : M.1 90 = r0_0) (e_i91 : M.1 91 = r0_1) (e_i92 : M.1 92 = r0_2) (e_i93 : M.1 93 = r0_3) (e_i94 : M.1 94 = r0_4) (e_i95 : M.1 95 = r0_5) (e_i96 : M.1 96 = r0_6) (e_i97 : M.1 97 = r0_7) (e_i15 : M.1 15 = r1) (e_i16 : M.1 16 = r1_0) (e_i17 : M.1 17 = r1_1) (e_i18 : M.1 18 = r1_2) (e_i19 : M.1 19 = r1_3) (e_i20 : M.1 20 = r1_4) (e_i21 : M.1 21 = r1_5) (e_i22 : M.1 22 = r1_6) (e_i23 : M.1 23 = r1_7)  {res : (Nat → Int32) × (Nat → Int32) × (Nat → Int32) × (Nat → Int32) × (Nat → Int32) × (Nat → Int32) × (Nat → Int32) × (Nat → Int32) × (Nat → Int32)} (hy : (fDy_copyFrom r0 r0_0 r0_1 r0_2 r0_3 r0_4 r0_5 r0_6 r0_7 r1 r1_0 r1_1 r1_2 r1_3 r1_4 r1_5 r1_6 r1_7) = some res) : zK Γ 2 YX1_copyFrom [.ref (zad Γ 89), .ref (zad Γ 15)] M (fun v N => v = none ∧ N = (zui (zui (zui (zui (zui (zui (zui (zui (zui M 89 res.1) 90 res.2.1) 91 res.2.2.1) 92 res.2.2.2.1) 93 res.2.2.2.2.1) 94 res.2.2.2.2.2.1) 95 res.2.2.2.2.2.2.1) 96 res.2.2.2.2.2.2.2.1) 97 res.2.2.2.2.2.2.2.2)) :=
  zK_of (by decide) (Nat.le_of_ble_eq_true rfl) (TX1_copyFrom_89_15 Γ M r0 r0_0 r0_1 r0_2 r0_3 r0_4 r0_5 r0_6 r0_7 r1 r1_0 r1_1 r1_2 r1_3 r1_4 r1_5 r1_6 r1_7 e_i89 e_i90 e_i91 e_i92 e_i93 e_i94 e_i95 e_i96 e_i97 e_i15 e_i16 e_i17 e_i18 e_i19 e_i20 e_i21 e_i22 e_i23 hy ⟨rfl, rfl⟩)


set_option maxRecDepth 20000 in
theorem TX1_copyFrom_79_15 (Γ : zG) {Q : Option Value → zM → Prop} (M : zM) (r0 : Nat → Int32) (r0_0 : Nat → Int32) (r0_1 : Nat → Int32) (r0_2 : Nat → Int32) (r0_3 : Nat → Int32) (r0_4 : Nat → Int32) (r0_5 : Nat → Int32) (r0_6 : Nat → Int32) (r0_7 : Nat → Int32) (r1 : Nat → Int32) (r1_0 : Nat → Int32) (r1_1 : Nat → Int32) (r1_2 : Nat → Int32) (r1_3 : Nat → Int32) (r1_4 : Nat → Int32) (r1_5 : Nat → Int32) (r1_6 : Nat → Int32) (r1_7 : Nat → Int32) (e_i79 : M.1 79 = r0) (e_i80 : M.1 80 = r0_0) (e_i81 : M.1 81 = r0_1) (e_i82 : M.1 82 = r0_2) (e_i83 : M.1 83 = r0_3) (e_i84 : M.1 84 = r0_4) (e_i85 : M.1 85 = r0_5) (e_i86 : M.1 86 = r0_6) (e_i87 : M.1 87 = r0_7) (e_i15 : M.1 15 = r1) (e_i16 : M.1 16 = r1_0) (e_i17 : M.1 17 = r1_1) (e_i18 : M.1 18 = r1_2) (e_i19 : M.1 19 = r1_3) (e_i20 : M.1 20 = r1_4) (e_i21 : M.1 21 = r1_5) (e_i22 : M.1 22 = r1_6) (e_i23 : M.1 23 = r1_7)  {res : (Nat → Int32) × (Nat → Int32) × (Nat → Int32) × (Nat → Int32) × (Nat → Int32) × (Nat → Int32) × (Nat → Int32) × (Nat → Int32) × (Nat → Int32)} (hy : (fDy_copyFrom r0 r0_0 r0_1 r0_2 r0_3 r0_4 r0_5 r0_6 r0_7 r1 r1_0 r1_1 r1_2 r1_3 r1_4 r1_5 r1_6 r1_7) = some res) (hq : Q none (zui (zui (zui (zui (zui (zui (zui (zui (zui M 79 res.1) 80 res.2.1) 81 res.2.2.1) 82 res.2.2.2.1) 83 res.2.2.2.2.1) 84 res.2.2.2.2.2.1) 85 res.2.2.2.2.2.2.1) 86 res.2.2.2.2.2.2.2.1) 87 res.2.2.2.2.2.2.2.2)) : zR Γ 2 YX1_copyFrom 0 [(0, .ref (zad Γ 79)), (1, .ref (zad Γ 15))] [] M Q := by
  unfold fDy_copyFrom at hy
  refine zj_aload_n (pc' := 1) 1 dX1_copyFrom_0 rfl rfl rfl ?_
  refine zj_getR (pc' := 4) (j := 16) dX1_copyFrom_1 rfl flX1_9 sh15 rfl ?_
  refine zj_iconst (pc' := 5) dX1_copyFrom_4 rfl kiconst_0 ?_
  refine zj_aload_n (pc' := 6) 0 dX1_copyFrom_5 rfl rfl rfl ?_
  refine zj_getR (pc' := 9) (j := 80) dX1_copyFrom_6 rfl flX1_9 sh79 rfl ?_
  refine zj_iconst (pc' := 10) dX1_copyFrom_9 rfl kiconst_0 ?_
  refine zj_bipush (pc' := 12) dX1_copyFrom_10 rfl kbipush_36 ?_
  obtain ⟨r0_0v1, er0_0v1⟩ : ∃ z, z = (va_cpy r1_0 r0_0 0 0 36) := ⟨_, rfl⟩
  have hy := zlet_at er0_0v1 hy
  refine zj_cpI (pc' := 15) (N := (zui M 80 r0_0v1)) dX1_copyFrom_12 rfl mlX1_52 zcpw sh16 sh80 tn0 tn0 tn36 (by decide) (by decide) (Nat.le_of_ble_eq_true rfl) (Nat.le_of_ble_eq_true rfl) e_i16 e_i80 er0_0v1 rfl (Nat.le_of_ble_eq_true rfl) (Nat.le_of_ble_eq_true rfl) ?_
  refine zj_aload_n (pc' := 16) 1 dX1_copyFrom_15 rfl rfl rfl ?_
  refine zj_getR (pc' := 19) (j := 17) dX1_copyFrom_16 rfl flX1_15 sh15 rfl ?_
  refine zj_iconst (pc' := 20) dX1_copyFrom_19 rfl kiconst_0 ?_
  refine zj_aload_n (pc' := 21) 0 dX1_copyFrom_20 rfl rfl rfl ?_
  refine zj_getR (pc' := 24) (j := 81) dX1_copyFrom_21 rfl flX1_15 sh79 rfl ?_
  refine zj_iconst (pc' := 25) dX1_copyFrom_24 rfl kiconst_0 ?_
  refine zj_bipush (pc' := 27) dX1_copyFrom_25 rfl kbipush_6 ?_
  obtain ⟨r0_1v2, er0_1v2⟩ : ∃ z, z = (va_cpy r1_1 r0_1 0 0 6) := ⟨_, rfl⟩
  have hy := zlet_at er0_1v2 hy
  refine zj_cpI (pc' := 30) (N := (zui (zui M 80 r0_0v1) 81 r0_1v2)) dX1_copyFrom_27 rfl mlX1_52 zcpw sh17 sh81 tn0 tn0 tn6 (by decide) (by decide) (Nat.le_of_ble_eq_true rfl) (Nat.le_of_ble_eq_true rfl) (zr_n rfl e_i17) (zr_n rfl e_i81) er0_1v2 rfl (Nat.le_of_ble_eq_true rfl) (Nat.le_of_ble_eq_true rfl) ?_
  refine zj_aload_n (pc' := 31) 1 dX1_copyFrom_30 rfl rfl rfl ?_
  refine zj_getR (pc' := 34) (j := 18) dX1_copyFrom_31 rfl flX1_18 sh15 rfl ?_
  refine zj_iconst (pc' := 35) dX1_copyFrom_34 rfl kiconst_0 ?_
  refine zj_aload_n (pc' := 36) 0 dX1_copyFrom_35 rfl rfl rfl ?_
  refine zj_getR (pc' := 39) (j := 82) dX1_copyFrom_36 rfl flX1_18 sh79 rfl ?_
  refine zj_iconst (pc' := 40) dX1_copyFrom_39 rfl kiconst_0 ?_
  refine zj_bipush (pc' := 42) dX1_copyFrom_40 rfl kbipush_6 ?_
  obtain ⟨r0_2v3, er0_2v3⟩ : ∃ z, z = (va_cpy r1_2 r0_2 0 0 6) := ⟨_, rfl⟩
  have hy := zlet_at er0_2v3 hy
  refine zj_cpI (pc' := 45) (N := (zui (zui (zui M 80 r0_0v1) 81 r0_1v2) 82 r0_2v3)) dX1_copyFrom_42 rfl mlX1_52 zcpw sh18 sh82 tn0 tn0 tn6 (by decide) (by decide) (Nat.le_of_ble_eq_true rfl) (Nat.le_of_ble_eq_true rfl) (zr_n rfl (zr_n rfl e_i18)) (zr_n rfl (zr_n rfl e_i82)) er0_2v3 rfl (Nat.le_of_ble_eq_true rfl) (Nat.le_of_ble_eq_true rfl) ?_
  refine zj_aload_n (pc' := 46) 1 dX1_copyFrom_45 rfl rfl rfl ?_
  refine zj_getR (pc' := 49) (j := 19) dX1_copyFrom_46 rfl flX1_21 sh15 rfl ?_
  refine zj_iconst (pc' := 50) dX1_copyFrom_49 rfl kiconst_0 ?_
  refine zj_aload_n (pc' := 51) 0 dX1_copyFrom_50 rfl rfl rfl ?_
  refine zj_getR (pc' := 54) (j := 83) dX1_copyFrom_51 rfl flX1_21 sh79 rfl ?_
  refine zj_iconst (pc' := 55) dX1_copyFrom_54 rfl kiconst_0 ?_
  refine zj_bipush (pc' := 57) dX1_copyFrom_55 rfl kbipush_6 ?_
  obtain ⟨r0_3v4, er0_3v4⟩ : ∃ z, z = (va_cpy r1_3 r0_3 0 0 6) := ⟨_, rfl⟩
  have hy := zlet_at er0_3v4 hy
  refine zj_cpI (pc' := 60) (N := (zui (zui (zui (zui M 80 r0_0v1) 81 r0_1v2) 82 r0_2v3) 83 r0_3v4)) dX1_copyFrom_57 rfl mlX1_52 zcpw sh19 sh83 tn0 tn0 tn6 (by decide) (by decide) (Nat.le_of_ble_eq_true rfl) (Nat.le_of_ble_eq_true rfl) (zr_n rfl (zr_n rfl (zr_n rfl e_i19))) (zr_n rfl (zr_n rfl (zr_n rfl e_i83))) er0_3v4 rfl (Nat.le_of_ble_eq_true rfl) (Nat.le_of_ble_eq_true rfl) ?_
  refine zj_aload_n (pc' := 61) 1 dX1_copyFrom_60 rfl rfl rfl ?_
  refine zj_getR (pc' := 64) (j := 20) dX1_copyFrom_61 rfl flX1_24 sh15 rfl ?_
  refine zj_iconst (pc' := 65) dX1_copyFrom_64 rfl kiconst_0 ?_
  refine zj_aload_n (pc' := 66) 0 dX1_copyFrom_65 rfl rfl rfl ?_
  refine zj_getR (pc' := 69) (j := 84) dX1_copyFrom_66 rfl flX1_24 sh79 rfl ?_
  refine zj_iconst (pc' := 70) dX1_copyFrom_69 rfl kiconst_0 ?_
  refine zj_bipush (pc' := 72) dX1_copyFrom_70 rfl kbipush_48 ?_
  obtain ⟨r0_4v5, er0_4v5⟩ : ∃ z, z = (va_cpy r1_4 r0_4 0 0 48) := ⟨_, rfl⟩
  have hy := zlet_at er0_4v5 hy
  refine zj_cpI (pc' := 75) (N := (zui (zui (zui (zui (zui M 80 r0_0v1) 81 r0_1v2) 82 r0_2v3) 83 r0_3v4) 84 r0_4v5)) dX1_copyFrom_72 rfl mlX1_52 zcpw sh20 sh84 tn0 tn0 tn48 (by decide) (by decide) (Nat.le_of_ble_eq_true rfl) (Nat.le_of_ble_eq_true rfl) (zr_n rfl (zr_n rfl (zr_n rfl (zr_n rfl e_i20)))) (zr_n rfl (zr_n rfl (zr_n rfl (zr_n rfl e_i84)))) er0_4v5 rfl (Nat.le_of_ble_eq_true rfl) (Nat.le_of_ble_eq_true rfl) ?_
  refine zj_aload_n (pc' := 76) 1 dX1_copyFrom_75 rfl rfl rfl ?_
  refine zj_getR (pc' := 79) (j := 21) dX1_copyFrom_76 rfl flX1_27 sh15 rfl ?_
  refine zj_iconst (pc' := 80) dX1_copyFrom_79 rfl kiconst_0 ?_
  refine zj_aload_n (pc' := 81) 0 dX1_copyFrom_80 rfl rfl rfl ?_
  refine zj_getR (pc' := 84) (j := 85) dX1_copyFrom_81 rfl flX1_27 sh79 rfl ?_
  refine zj_iconst (pc' := 85) dX1_copyFrom_84 rfl kiconst_0 ?_
  refine zj_bipush (pc' := 87) dX1_copyFrom_85 rfl kbipush_6 ?_
  obtain ⟨r0_5v6, er0_5v6⟩ : ∃ z, z = (va_cpy r1_5 r0_5 0 0 6) := ⟨_, rfl⟩
  have hy := zlet_at er0_5v6 hy
  refine zj_cpI (pc' := 90) (N := (zui (zui (zui (zui (zui (zui M 80 r0_0v1) 81 r0_1v2) 82 r0_2v3) 83 r0_3v4) 84 r0_4v5) 85 r0_5v6)) dX1_copyFrom_87 rfl mlX1_52 zcpw sh21 sh85 tn0 tn0 tn6 (by decide) (by decide) (Nat.le_of_ble_eq_true rfl) (Nat.le_of_ble_eq_true rfl) (zr_n rfl (zr_n rfl (zr_n rfl (zr_n rfl (zr_n rfl e_i21))))) (zr_n rfl (zr_n rfl (zr_n rfl (zr_n rfl (zr_n rfl e_i85))))) er0_5v6 rfl (Nat.le_of_ble_eq_true rfl) (Nat.le_of_ble_eq_true rfl) ?_
  refine zj_aload_n (pc' := 91) 1 dX1_copyFrom_90 rfl rfl rfl ?_
  refine zj_getR (pc' := 94) (j := 22) dX1_copyFrom_91 rfl flX1_30 sh15 rfl ?_
  refine zj_iconst (pc' := 95) dX1_copyFrom_94 rfl kiconst_0 ?_
  refine zj_aload_n (pc' := 96) 0 dX1_copyFrom_95 rfl rfl rfl ?_
  refine zj_getR (pc' := 99) (j := 86) dX1_copyFrom_96 rfl flX1_30 sh79 rfl ?_
  refine zj_iconst (pc' := 100) dX1_copyFrom_99 rfl kiconst_0 ?_
  refine zj_bipush (pc' := 102) dX1_copyFrom_100 rfl kbipush_8 ?_
  obtain ⟨r0_6v7, er0_6v7⟩ : ∃ z, z = (va_cpy r1_6 r0_6 0 0 8) := ⟨_, rfl⟩
  have hy := zlet_at er0_6v7 hy
  refine zj_cpI (pc' := 105) (N := (zui (zui (zui (zui (zui (zui (zui M 80 r0_0v1) 81 r0_1v2) 82 r0_2v3) 83 r0_3v4) 84 r0_4v5) 85 r0_5v6) 86 r0_6v7)) dX1_copyFrom_102 rfl mlX1_52 zcpw sh22 sh86 tn0 tn0 tn8 (by decide) (by decide) (Nat.le_of_ble_eq_true rfl) (Nat.le_of_ble_eq_true rfl) (zr_n rfl (zr_n rfl (zr_n rfl (zr_n rfl (zr_n rfl (zr_n rfl e_i22)))))) (zr_n rfl (zr_n rfl (zr_n rfl (zr_n rfl (zr_n rfl (zr_n rfl e_i86)))))) er0_6v7 rfl (Nat.le_of_ble_eq_true rfl) (Nat.le_of_ble_eq_true rfl) ?_
  refine zj_aload_n (pc' := 106) 1 dX1_copyFrom_105 rfl rfl rfl ?_
  refine zj_getR (pc' := 109) (j := 23) dX1_copyFrom_106 rfl flX1_33 sh15 rfl ?_
  refine zj_iconst (pc' := 110) dX1_copyFrom_109 rfl kiconst_0 ?_
  refine zj_aload_n (pc' := 111) 0 dX1_copyFrom_110 rfl rfl rfl ?_
  refine zj_getR (pc' := 114) (j := 87) dX1_copyFrom_111 rfl flX1_33 sh79 rfl ?_
  refine zj_iconst (pc' := 115) dX1_copyFrom_114 rfl kiconst_0 ?_
  refine zj_bipush (pc' := 117) dX1_copyFrom_115 rfl kbipush_8 ?_
  obtain ⟨r0_7v8, er0_7v8⟩ : ∃ z, z = (va_cpy r1_7 r0_7 0 0 8) := ⟨_, rfl⟩
  have hy := zlet_at er0_7v8 hy
  refine zj_cpI (pc' := 120) (N := (zui (zui (zui (zui (zui (zui (zui (zui M 80 r0_0v1) 81 r0_1v2) 82 r0_2v3) 83 r0_3v4) 84 r0_4v5) 85 r0_5v6) 86 r0_6v7) 87 r0_7v8)) dX1_copyFrom_117 rfl mlX1_52 zcpw sh23 sh87 tn0 tn0 tn8 (by decide) (by decide) (Nat.le_of_ble_eq_true rfl) (Nat.le_of_ble_eq_true rfl) (zr_n rfl (zr_n rfl (zr_n rfl (zr_n rfl (zr_n rfl (zr_n rfl (zr_n rfl e_i23))))))) (zr_n rfl (zr_n rfl (zr_n rfl (zr_n rfl (zr_n rfl (zr_n rfl (zr_n rfl e_i87))))))) er0_7v8 rfl (Nat.le_of_ble_eq_true rfl) (Nat.le_of_ble_eq_true rfl) ?_
  refine zj_aload_n (pc' := 121) 0 dX1_copyFrom_120 rfl rfl rfl ?_
  refine zj_aload_n (pc' := 122) 1 dX1_copyFrom_121 rfl rfl rfl ?_
  refine zj_fI (pc' := 125) dX1_copyFrom_122 rfl flX1_45 sh15 rfl (zr_n rfl (zr_n rfl (zr_n rfl (zr_n rfl (zr_n rfl (zr_n rfl (zr_n rfl (zr_n rfl e_i15)))))))) rfl ?_
  obtain ⟨r0v9, er0v9⟩ : ∃ z, z = (zup r0 9 (r1 9)) := ⟨_, rfl⟩
  have hy := zlet_at er0v9 hy
  refine zj_pI (pc' := 128) (N := (zui (zui (zui (zui (zui (zui (zui (zui (zui M 79 r0v9) 80 r0_0v1) 81 r0_1v2) 82 r0_2v3) 83 r0_3v4) 84 r0_4v5) 85 r0_5v6) 86 r0_6v7) 87 r0_7v8)) dX1_copyFrom_125 rfl fpX1_45 sh79 rfl (zr_n rfl (zr_n rfl (zr_n rfl (zr_n rfl (zr_n rfl (zr_n rfl (zr_n rfl (zr_n rfl e_i79)))))))) er0v9 (zm_n rfl (zm_n rfl (zm_n rfl (zm_n rfl (zm_n rfl (zm_n rfl (zm_n rfl (zm_n rfl rfl)))))))) ?_
  refine zj_aload_n (pc' := 129) 0 dX1_copyFrom_128 rfl rfl rfl ?_
  refine zj_aload_n (pc' := 130) 1 dX1_copyFrom_129 rfl rfl rfl ?_
  refine zj_fI (pc' := 133) dX1_copyFrom_130 rfl flX1_49 sh15 rfl (zr_n rfl (zr_n rfl (zr_n rfl (zr_n rfl (zr_n rfl (zr_n rfl (zr_n rfl (zr_n rfl (zr_n rfl e_i15))))))))) rfl ?_
  obtain ⟨r0v10, er0v10⟩ : ∃ z, z = (zup r0v9 10 (r1 10)) := ⟨_, rfl⟩
  have hy := zlet_at er0v10 hy
  refine zj_pI (pc' := 136) (N := (zui (zui (zui (zui (zui (zui (zui (zui (zui M 79 r0v10) 80 r0_0v1) 81 r0_1v2) 82 r0_2v3) 83 r0_3v4) 84 r0_4v5) 85 r0_5v6) 86 r0_6v7) 87 r0_7v8)) dX1_copyFrom_133 rfl fpX1_49 sh79 rfl (zr_n rfl (zr_n rfl (zr_n rfl (zr_n rfl (zr_n rfl (zr_n rfl (zr_n rfl (zr_n rfl zr_s)))))))) er0v10 (zm_n rfl (zm_n rfl (zm_n rfl (zm_n rfl (zm_n rfl (zm_n rfl (zm_n rfl (zm_n rfl zm_s)))))))) ?_
  have e9 := Option.some.inj hy
  subst e9
  exact zj_vret dX1_copyFrom_136 rfl hq
set_option maxRecDepth 20000 in
theorem LX1_copyFrom_79_15 (Γ : zG) (M : zM) (r0 : Nat → Int32) (r0_0 : Nat → Int32) (r0_1 : Nat → Int32) (r0_2 : Nat → Int32) (r0_3 : Nat → Int32) (r0_4 : Nat → Int32) (r0_5 : Nat → Int32) (r0_6 : Nat → Int32) (r0_7 : Nat → Int32) (r1 : Nat → Int32) (r1_0 : Nat → Int32) (r1_1 : Nat → Int32) (r1_2 : Nat → Int32) (r1_3 : Nat → Int32) (r1_4 : Nat → Int32) (r1_5 : Nat → Int32) (r1_6 : Nat → Int32) (r1_7 : Nat → Int32) (e_i79 : M.1 79 = r0) (e_i80 : M.1 80 = r0_0) (e_i81 : M.1 81 = r0_1) (e_i82 : M.1 82 = r0_2) (e_i83 : M.1 83 = r0_3) (e_i84 : M.1 84 = r0_4) (e_i85 : M.1 85 = r0_5) (e_i86 : M.1 86 = r0_6) (e_i87 : M.1 87 = r0_7) (e_i15 : M.1 15 = r1) (e_i16 : M.1 16 = r1_0) (e_i17 : M.1 17 = r1_1) (e_i18 : M.1 18 = r1_2) (e_i19 : M.1 19 = r1_3) (e_i20 : M.1 20 = r1_4) (e_i21 : M.1 21 = r1_5) (e_i22 : M.1 22 = r1_6) (e_i23 : M.1 23 = r1_7)  {res : (Nat → Int32) × (Nat → Int32) × (Nat → Int32) × (Nat → Int32) × (Nat → Int32) × (Nat → Int32) × (Nat → Int32) × (Nat → Int32) × (Nat → Int32)} (hy : (fDy_copyFrom r0 r0_0 r0_1 r0_2 r0_3 r0_4 r0_5 r0_6 r0_7 r1 r1_0 r1_1 r1_2 r1_3 r1_4 r1_5 r1_6 r1_7) = some res) : zK Γ 2 YX1_copyFrom [.ref (zad Γ 79), .ref (zad Γ 15)] M (fun v N => v = none ∧ N = (zui (zui (zui (zui (zui (zui (zui (zui (zui M 79 res.1) 80 res.2.1) 81 res.2.2.1) 82 res.2.2.2.1) 83 res.2.2.2.2.1) 84 res.2.2.2.2.2.1) 85 res.2.2.2.2.2.2.1) 86 res.2.2.2.2.2.2.2.1) 87 res.2.2.2.2.2.2.2.2)) :=
  zK_of (by decide) (Nat.le_of_ble_eq_true rfl) (TX1_copyFrom_79_15 Γ M r0 r0_0 r0_1 r0_2 r0_3 r0_4 r0_5 r0_6 r0_7 r1 r1_0 r1_1 r1_2 r1_3 r1_4 r1_5 r1_6 r1_7 e_i79 e_i80 e_i81 e_i82 e_i83 e_i84 e_i85 e_i86 e_i87 e_i15 e_i16 e_i17 e_i18 e_i19 e_i20 e_i21 e_i22 e_i23 hy ⟨rfl, rfl⟩)


set_option maxRecDepth 20000 in
theorem TX1_copyFrom_69_15 (Γ : zG) {Q : Option Value → zM → Prop} (M : zM) (r0 : Nat → Int32) (r0_0 : Nat → Int32) (r0_1 : Nat → Int32) (r0_2 : Nat → Int32) (r0_3 : Nat → Int32) (r0_4 : Nat → Int32) (r0_5 : Nat → Int32) (r0_6 : Nat → Int32) (r0_7 : Nat → Int32) (r1 : Nat → Int32) (r1_0 : Nat → Int32) (r1_1 : Nat → Int32) (r1_2 : Nat → Int32) (r1_3 : Nat → Int32) (r1_4 : Nat → Int32) (r1_5 : Nat → Int32) (r1_6 : Nat → Int32) (r1_7 : Nat → Int32) (e_i69 : M.1 69 = r0) (e_i70 : M.1 70 = r0_0) (e_i71 : M.1 71 = r0_1) (e_i72 : M.1 72 = r0_2) (e_i73 : M.1 73 = r0_3) (e_i74 : M.1 74 = r0_4) (e_i75 : M.1 75 = r0_5) (e_i76 : M.1 76 = r0_6) (e_i77 : M.1 77 = r0_7) (e_i15 : M.1 15 = r1) (e_i16 : M.1 16 = r1_0) (e_i17 : M.1 17 = r1_1) (e_i18 : M.1 18 = r1_2) (e_i19 : M.1 19 = r1_3) (e_i20 : M.1 20 = r1_4) (e_i21 : M.1 21 = r1_5) (e_i22 : M.1 22 = r1_6) (e_i23 : M.1 23 = r1_7)  {res : (Nat → Int32) × (Nat → Int32) × (Nat → Int32) × (Nat → Int32) × (Nat → Int32) × (Nat → Int32) × (Nat → Int32) × (Nat → Int32) × (Nat → Int32)} (hy : (fDy_copyFrom r0 r0_0 r0_1 r0_2 r0_3 r0_4 r0_5 r0_6 r0_7 r1 r1_0 r1_1 r1_2 r1_3 r1_4 r1_5 r1_6 r1_7) = some res) (hq : Q none (zui (zui (zui (zui (zui (zui (zui (zui (zui M 69 res.1) 70 res.2.1) 71 res.2.2.1) 72 res.2.2.2.1) 73 res.2.2.2.2.1) 74 res.2.2.2.2.2.1) 75 res.2.2.2.2.2.2.1) 76 res.2.2.2.2.2.2.2.1) 77 res.2.2.2.2.2.2.2.2)) : zR Γ 2 YX1_copyFrom 0 [(0, .ref (zad Γ 69)), (1, .ref (zad Γ 15))] [] M Q := by
  unfold fDy_copyFrom at hy
  refine zj_aload_n (pc' := 1) 1 dX1_copyFrom_0 rfl rfl rfl ?_
  refine zj_getR (pc' := 4) (j := 16) dX1_copyFrom_1 rfl flX1_9 sh15 rfl ?_
  refine zj_iconst (pc' := 5) dX1_copyFrom_4 rfl kiconst_0 ?_
  refine zj_aload_n (pc' := 6) 0 dX1_copyFrom_5 rfl rfl rfl ?_
  refine zj_getR (pc' := 9) (j := 70) dX1_copyFrom_6 rfl flX1_9 sh69 rfl ?_
  refine zj_iconst (pc' := 10) dX1_copyFrom_9 rfl kiconst_0 ?_
  refine zj_bipush (pc' := 12) dX1_copyFrom_10 rfl kbipush_36 ?_
  obtain ⟨r0_0v1, er0_0v1⟩ : ∃ z, z = (va_cpy r1_0 r0_0 0 0 36) := ⟨_, rfl⟩
  have hy := zlet_at er0_0v1 hy
  refine zj_cpI (pc' := 15) (N := (zui M 70 r0_0v1)) dX1_copyFrom_12 rfl mlX1_52 zcpw sh16 sh70 tn0 tn0 tn36 (by decide) (by decide) (Nat.le_of_ble_eq_true rfl) (Nat.le_of_ble_eq_true rfl) e_i16 e_i70 er0_0v1 rfl (Nat.le_of_ble_eq_true rfl) (Nat.le_of_ble_eq_true rfl) ?_
  refine zj_aload_n (pc' := 16) 1 dX1_copyFrom_15 rfl rfl rfl ?_
  refine zj_getR (pc' := 19) (j := 17) dX1_copyFrom_16 rfl flX1_15 sh15 rfl ?_
  refine zj_iconst (pc' := 20) dX1_copyFrom_19 rfl kiconst_0 ?_
  refine zj_aload_n (pc' := 21) 0 dX1_copyFrom_20 rfl rfl rfl ?_
  refine zj_getR (pc' := 24) (j := 71) dX1_copyFrom_21 rfl flX1_15 sh69 rfl ?_
  refine zj_iconst (pc' := 25) dX1_copyFrom_24 rfl kiconst_0 ?_
  refine zj_bipush (pc' := 27) dX1_copyFrom_25 rfl kbipush_6 ?_
  obtain ⟨r0_1v2, er0_1v2⟩ : ∃ z, z = (va_cpy r1_1 r0_1 0 0 6) := ⟨_, rfl⟩
  have hy := zlet_at er0_1v2 hy
  refine zj_cpI (pc' := 30) (N := (zui (zui M 70 r0_0v1) 71 r0_1v2)) dX1_copyFrom_27 rfl mlX1_52 zcpw sh17 sh71 tn0 tn0 tn6 (by decide) (by decide) (Nat.le_of_ble_eq_true rfl) (Nat.le_of_ble_eq_true rfl) (zr_n rfl e_i17) (zr_n rfl e_i71) er0_1v2 rfl (Nat.le_of_ble_eq_true rfl) (Nat.le_of_ble_eq_true rfl) ?_
  refine zj_aload_n (pc' := 31) 1 dX1_copyFrom_30 rfl rfl rfl ?_
  refine zj_getR (pc' := 34) (j := 18) dX1_copyFrom_31 rfl flX1_18 sh15 rfl ?_
  refine zj_iconst (pc' := 35) dX1_copyFrom_34 rfl kiconst_0 ?_
  refine zj_aload_n (pc' := 36) 0 dX1_copyFrom_35 rfl rfl rfl ?_
  refine zj_getR (pc' := 39) (j := 72) dX1_copyFrom_36 rfl flX1_18 sh69 rfl ?_
  refine zj_iconst (pc' := 40) dX1_copyFrom_39 rfl kiconst_0 ?_
  refine zj_bipush (pc' := 42) dX1_copyFrom_40 rfl kbipush_6 ?_
  obtain ⟨r0_2v3, er0_2v3⟩ : ∃ z, z = (va_cpy r1_2 r0_2 0 0 6) := ⟨_, rfl⟩
  have hy := zlet_at er0_2v3 hy
  refine zj_cpI (pc' := 45) (N := (zui (zui (zui M 70 r0_0v1) 71 r0_1v2) 72 r0_2v3)) dX1_copyFrom_42 rfl mlX1_52 zcpw sh18 sh72 tn0 tn0 tn6 (by decide) (by decide) (Nat.le_of_ble_eq_true rfl) (Nat.le_of_ble_eq_true rfl) (zr_n rfl (zr_n rfl e_i18)) (zr_n rfl (zr_n rfl e_i72)) er0_2v3 rfl (Nat.le_of_ble_eq_true rfl) (Nat.le_of_ble_eq_true rfl) ?_
  refine zj_aload_n (pc' := 46) 1 dX1_copyFrom_45 rfl rfl rfl ?_
  refine zj_getR (pc' := 49) (j := 19) dX1_copyFrom_46 rfl flX1_21 sh15 rfl ?_
  refine zj_iconst (pc' := 50) dX1_copyFrom_49 rfl kiconst_0 ?_
  refine zj_aload_n (pc' := 51) 0 dX1_copyFrom_50 rfl rfl rfl ?_
  refine zj_getR (pc' := 54) (j := 73) dX1_copyFrom_51 rfl flX1_21 sh69 rfl ?_
  refine zj_iconst (pc' := 55) dX1_copyFrom_54 rfl kiconst_0 ?_
  refine zj_bipush (pc' := 57) dX1_copyFrom_55 rfl kbipush_6 ?_
  obtain ⟨r0_3v4, er0_3v4⟩ : ∃ z, z = (va_cpy r1_3 r0_3 0 0 6) := ⟨_, rfl⟩
  have hy := zlet_at er0_3v4 hy
  refine zj_cpI (pc' := 60) (N := (zui (zui (zui (zui M 70 r0_0v1) 71 r0_1v2) 72 r0_2v3) 73 r0_3v4)) dX1_copyFrom_57 rfl mlX1_52 zcpw sh19 sh73 tn0 tn0 tn6 (by decide) (by decide) (Nat.le_of_ble_eq_true rfl) (Nat.le_of_ble_eq_true rfl) (zr_n rfl (zr_n rfl (zr_n rfl e_i19))) (zr_n rfl (zr_n rfl (zr_n rfl e_i73))) er0_3v4 rfl (Nat.le_of_ble_eq_true rfl) (Nat.le_of_ble_eq_true rfl) ?_
  refine zj_aload_n (pc' := 61) 1 dX1_copyFrom_60 rfl rfl rfl ?_
  refine zj_getR (pc' := 64) (j := 20) dX1_copyFrom_61 rfl flX1_24 sh15 rfl ?_
  refine zj_iconst (pc' := 65) dX1_copyFrom_64 rfl kiconst_0 ?_
  refine zj_aload_n (pc' := 66) 0 dX1_copyFrom_65 rfl rfl rfl ?_
  refine zj_getR (pc' := 69) (j := 74) dX1_copyFrom_66 rfl flX1_24 sh69 rfl ?_
  refine zj_iconst (pc' := 70) dX1_copyFrom_69 rfl kiconst_0 ?_
  refine zj_bipush (pc' := 72) dX1_copyFrom_70 rfl kbipush_48 ?_
  obtain ⟨r0_4v5, er0_4v5⟩ : ∃ z, z = (va_cpy r1_4 r0_4 0 0 48) := ⟨_, rfl⟩
  have hy := zlet_at er0_4v5 hy
  refine zj_cpI (pc' := 75) (N := (zui (zui (zui (zui (zui M 70 r0_0v1) 71 r0_1v2) 72 r0_2v3) 73 r0_3v4) 74 r0_4v5)) dX1_copyFrom_72 rfl mlX1_52 zcpw sh20 sh74 tn0 tn0 tn48 (by decide) (by decide) (Nat.le_of_ble_eq_true rfl) (Nat.le_of_ble_eq_true rfl) (zr_n rfl (zr_n rfl (zr_n rfl (zr_n rfl e_i20)))) (zr_n rfl (zr_n rfl (zr_n rfl (zr_n rfl e_i74)))) er0_4v5 rfl (Nat.le_of_ble_eq_true rfl) (Nat.le_of_ble_eq_true rfl) ?_
  refine zj_aload_n (pc' := 76) 1 dX1_copyFrom_75 rfl rfl rfl ?_
  refine zj_getR (pc' := 79) (j := 21) dX1_copyFrom_76 rfl flX1_27 sh15 rfl ?_
  refine zj_iconst (pc' := 80) dX1_copyFrom_79 rfl kiconst_0 ?_
  refine zj_aload_n (pc' := 81) 0 dX1_copyFrom_80 rfl rfl rfl ?_
  refine zj_getR (pc' := 84) (j := 75) dX1_copyFrom_81 rfl flX1_27 sh69 rfl ?_
  refine zj_iconst (pc' := 85) dX1_copyFrom_84 rfl kiconst_0 ?_
  refine zj_bipush (pc' := 87) dX1_copyFrom_85 rfl kbipush_6 ?_
  obtain ⟨r0_5v6, er0_5v6⟩ : ∃ z, z = (va_cpy r1_5 r0_5 0 0 6) := ⟨_, rfl⟩
  have hy := zlet_at er0_5v6 hy
  refine zj_cpI (pc' := 90) (N := (zui (zui (zui (zui (zui (zui M 70 r0_0v1) 71 r0_1v2) 72 r0_2v3) 73 r0_3v4) 74 r0_4v5) 75 r0_5v6)) dX1_copyFrom_87 rfl mlX1_52 zcpw sh21 sh75 tn0 tn0 tn6 (by decide) (by decide) (Nat.le_of_ble_eq_true rfl) (Nat.le_of_ble_eq_true rfl) (zr_n rfl (zr_n rfl (zr_n rfl (zr_n rfl (zr_n rfl e_i21))))) (zr_n rfl (zr_n rfl (zr_n rfl (zr_n rfl (zr_n rfl e_i75))))) er0_5v6 rfl (Nat.le_of_ble_eq_true rfl) (Nat.le_of_ble_eq_true rfl) ?_
  refine zj_aload_n (pc' := 91) 1 dX1_copyFrom_90 rfl rfl rfl ?_
  refine zj_getR (pc' := 94) (j := 22) dX1_copyFrom_91 rfl flX1_30 sh15 rfl ?_
  refine zj_iconst (pc' := 95) dX1_copyFrom_94 rfl kiconst_0 ?_
  refine zj_aload_n (pc' := 96) 0 dX1_copyFrom_95 rfl rfl rfl ?_
  refine zj_getR (pc' := 99) (j := 76) dX1_copyFrom_96 rfl flX1_30 sh69 rfl ?_
  refine zj_iconst (pc' := 100) dX1_copyFrom_99 rfl kiconst_0 ?_
  refine zj_bipush (pc' := 102) dX1_copyFrom_100 rfl kbipush_8 ?_
  obtain ⟨r0_6v7, er0_6v7⟩ : ∃ z, z = (va_cpy r1_6 r0_6 0 0 8) := ⟨_, rfl⟩
  have hy := zlet_at er0_6v7 hy
  refine zj_cpI (pc' := 105) (N := (zui (zui (zui (zui (zui (zui (zui M 70 r0_0v1) 71 r0_1v2) 72 r0_2v3) 73 r0_3v4) 74 r0_4v5) 75 r0_5v6) 76 r0_6v7)) dX1_copyFrom_102 rfl mlX1_52 zcpw sh22 sh76 tn0 tn0 tn8 (by decide) (by decide) (Nat.le_of_ble_eq_true rfl) (Nat.le_of_ble_eq_true rfl) (zr_n rfl (zr_n rfl (zr_n rfl (zr_n rfl (zr_n rfl (zr_n rfl e_i22)))))) (zr_n rfl (zr_n rfl (zr_n rfl (zr_n rfl (zr_n rfl (zr_n rfl e_i76)))))) er0_6v7 rfl (Nat.le_of_ble_eq_true rfl) (Nat.le_of_ble_eq_true rfl) ?_
  refine zj_aload_n (pc' := 106) 1 dX1_copyFrom_105 rfl rfl rfl ?_
  refine zj_getR (pc' := 109) (j := 23) dX1_copyFrom_106 rfl flX1_33 sh15 rfl ?_
  refine zj_iconst (pc' := 110) dX1_copyFrom_109 rfl kiconst_0 ?_
  refine zj_aload_n (pc' := 111) 0 dX1_copyFrom_110 rfl rfl rfl ?_
  refine zj_getR (pc' := 114) (j := 77) dX1_copyFrom_111 rfl flX1_33 sh69 rfl ?_
  refine zj_iconst (pc' := 115) dX1_copyFrom_114 rfl kiconst_0 ?_
  refine zj_bipush (pc' := 117) dX1_copyFrom_115 rfl kbipush_8 ?_
  obtain ⟨r0_7v8, er0_7v8⟩ : ∃ z, z = (va_cpy r1_7 r0_7 0 0 8) := ⟨_, rfl⟩
  have hy := zlet_at er0_7v8 hy
  refine zj_cpI (pc' := 120) (N := (zui (zui (zui (zui (zui (zui (zui (zui M 70 r0_0v1) 71 r0_1v2) 72 r0_2v3) 73 r0_3v4) 74 r0_4v5) 75 r0_5v6) 76 r0_6v7) 77 r0_7v8)) dX1_copyFrom_117 rfl mlX1_52 zcpw sh23 sh77 tn0 tn0 tn8 (by decide) (by decide) (Nat.le_of_ble_eq_true rfl) (Nat.le_of_ble_eq_true rfl) (zr_n rfl (zr_n rfl (zr_n rfl (zr_n rfl (zr_n rfl (zr_n rfl (zr_n rfl e_i23))))))) (zr_n rfl (zr_n rfl (zr_n rfl (zr_n rfl (zr_n rfl (zr_n rfl (zr_n rfl e_i77))))))) er0_7v8 rfl (Nat.le_of_ble_eq_true rfl) (Nat.le_of_ble_eq_true rfl) ?_
  refine zj_aload_n (pc' := 121) 0 dX1_copyFrom_120 rfl rfl rfl ?_
  refine zj_aload_n (pc' := 122) 1 dX1_copyFrom_121 rfl rfl rfl ?_
  refine zj_fI (pc' := 125) dX1_copyFrom_122 rfl flX1_45 sh15 rfl (zr_n rfl (zr_n rfl (zr_n rfl (zr_n rfl (zr_n rfl (zr_n rfl (zr_n rfl (zr_n rfl e_i15)))))))) rfl ?_
  obtain ⟨r0v9, er0v9⟩ : ∃ z, z = (zup r0 9 (r1 9)) := ⟨_, rfl⟩
  have hy := zlet_at er0v9 hy
  refine zj_pI (pc' := 128) (N := (zui (zui (zui (zui (zui (zui (zui (zui (zui M 69 r0v9) 70 r0_0v1) 71 r0_1v2) 72 r0_2v3) 73 r0_3v4) 74 r0_4v5) 75 r0_5v6) 76 r0_6v7) 77 r0_7v8)) dX1_copyFrom_125 rfl fpX1_45 sh69 rfl (zr_n rfl (zr_n rfl (zr_n rfl (zr_n rfl (zr_n rfl (zr_n rfl (zr_n rfl (zr_n rfl e_i69)))))))) er0v9 (zm_n rfl (zm_n rfl (zm_n rfl (zm_n rfl (zm_n rfl (zm_n rfl (zm_n rfl (zm_n rfl rfl)))))))) ?_
  refine zj_aload_n (pc' := 129) 0 dX1_copyFrom_128 rfl rfl rfl ?_
  refine zj_aload_n (pc' := 130) 1 dX1_copyFrom_129 rfl rfl rfl ?_
  refine zj_fI (pc' := 133) dX1_copyFrom_130 rfl flX1_49 sh15 rfl (zr_n rfl (zr_n rfl (zr_n rfl (zr_n rfl (zr_n rfl (zr_n rfl (zr_n rfl (zr_n rfl (zr_n rfl e_i15))))))))) rfl ?_
  obtain ⟨r0v10, er0v10⟩ : ∃ z, z = (zup r0v9 10 (r1 10)) := ⟨_, rfl⟩
  have hy := zlet_at er0v10 hy
  refine zj_pI (pc' := 136) (N := (zui (zui (zui (zui (zui (zui (zui (zui (zui M 69 r0v10) 70 r0_0v1) 71 r0_1v2) 72 r0_2v3) 73 r0_3v4) 74 r0_4v5) 75 r0_5v6) 76 r0_6v7) 77 r0_7v8)) dX1_copyFrom_133 rfl fpX1_49 sh69 rfl (zr_n rfl (zr_n rfl (zr_n rfl (zr_n rfl (zr_n rfl (zr_n rfl (zr_n rfl (zr_n rfl zr_s)))))))) er0v10 (zm_n rfl (zm_n rfl (zm_n rfl (zm_n rfl (zm_n rfl (zm_n rfl (zm_n rfl (zm_n rfl zm_s)))))))) ?_
  have e9 := Option.some.inj hy
  subst e9
  exact zj_vret dX1_copyFrom_136 rfl hq
set_option maxRecDepth 20000 in
theorem LX1_copyFrom_69_15 (Γ : zG) (M : zM) (r0 : Nat → Int32) (r0_0 : Nat → Int32) (r0_1 : Nat → Int32) (r0_2 : Nat → Int32) (r0_3 : Nat → Int32) (r0_4 : Nat → Int32) (r0_5 : Nat → Int32) (r0_6 : Nat → Int32) (r0_7 : Nat → Int32) (r1 : Nat → Int32) (r1_0 : Nat → Int32) (r1_1 : Nat → Int32) (r1_2 : Nat → Int32) (r1_3 : Nat → Int32) (r1_4 : Nat → Int32) (r1_5 : Nat → Int32) (r1_6 : Nat → Int32) (r1_7 : Nat → Int32) (e_i69 : M.1 69 = r0) (e_i70 : M.1 70 = r0_0) (e_i71 : M.1 71 = r0_1) (e_i72 : M.1 72 = r0_2) (e_i73 : M.1 73 = r0_3) (e_i74 : M.1 74 = r0_4) (e_i75 : M.1 75 = r0_5) (e_i76 : M.1 76 = r0_6) (e_i77 : M.1 77 = r0_7) (e_i15 : M.1 15 = r1) (e_i16 : M.1 16 = r1_0) (e_i17 : M.1 17 = r1_1) (e_i18 : M.1 18 = r1_2) (e_i19 : M.1 19 = r1_3) (e_i20 : M.1 20 = r1_4) (e_i21 : M.1 21 = r1_5) (e_i22 : M.1 22 = r1_6) (e_i23 : M.1 23 = r1_7)  {res : (Nat → Int32) × (Nat → Int32) × (Nat → Int32) × (Nat → Int32) × (Nat → Int32) × (Nat → Int32) × (Nat → Int32) × (Nat → Int32) × (Nat → Int32)} (hy : (fDy_copyFrom r0 r0_0 r0_1 r0_2 r0_3 r0_4 r0_5 r0_6 r0_7 r1 r1_0 r1_1 r1_2 r1_3 r1_4 r1_5 r1_6 r1_7) = some res) : zK Γ 2 YX1_copyFrom [.ref (zad Γ 69), .ref (zad Γ 15)] M (fun v N => v = none ∧ N = (zui (zui (zui (zui (zui (zui (zui (zui (zui M 69 res.1) 70 res.2.1) 71 res.2.2.1) 72 res.2.2.2.1) 73 res.2.2.2.2.1) 74 res.2.2.2.2.2.1) 75 res.2.2.2.2.2.2.1) 76 res.2.2.2.2.2.2.2.1) 77 res.2.2.2.2.2.2.2.2)) :=
  zK_of (by decide) (Nat.le_of_ble_eq_true rfl) (TX1_copyFrom_69_15 Γ M r0 r0_0 r0_1 r0_2 r0_3 r0_4 r0_5 r0_6 r0_7 r1 r1_0 r1_1 r1_2 r1_3 r1_4 r1_5 r1_6 r1_7 e_i69 e_i70 e_i71 e_i72 e_i73 e_i74 e_i75 e_i76 e_i77 e_i15 e_i16 e_i17 e_i18 e_i19 e_i20 e_i21 e_i22 e_i23 hy ⟨rfl, rfl⟩)


set_option maxRecDepth 20000 in
theorem TX1_copyFrom_59_15 (Γ : zG) {Q : Option Value → zM → Prop} (M : zM) (r0 : Nat → Int32) (r0_0 : Nat → Int32) (r0_1 : Nat → Int32) (r0_2 : Nat → Int32) (r0_3 : Nat → Int32) (r0_4 : Nat → Int32) (r0_5 : Nat → Int32) (r0_6 : Nat → Int32) (r0_7 : Nat → Int32) (r1 : Nat → Int32) (r1_0 : Nat → Int32) (r1_1 : Nat → Int32) (r1_2 : Nat → Int32) (r1_3 : Nat → Int32) (r1_4 : Nat → Int32) (r1_5 : Nat → Int32) (r1_6 : Nat → Int32) (r1_7 : Nat → Int32) (e_i59 : M.1 59 = r0) (e_i60 : M.1 60 = r0_0) (e_i61 : M.1 61 = r0_1) (e_i62 : M.1 62 = r0_2) (e_i63 : M.1 63 = r0_3) (e_i64 : M.1 64 = r0_4) (e_i65 : M.1 65 = r0_5) (e_i66 : M.1 66 = r0_6) (e_i67 : M.1 67 = r0_7) (e_i15 : M.1 15 = r1) (e_i16 : M.1 16 = r1_0) (e_i17 : M.1 17 = r1_1) (e_i18 : M.1 18 = r1_2) (e_i19 : M.1 19 = r1_3) (e_i20 : M.1 20 = r1_4) (e_i21 : M.1 21 = r1_5) (e_i22 : M.1 22 = r1_6) (e_i23 : M.1 23 = r1_7)  {res : (Nat → Int32) × (Nat → Int32) × (Nat → Int32) × (Nat → Int32) × (Nat → Int32) × (Nat → Int32) × (Nat → Int32) × (Nat → Int32) × (Nat → Int32)} (hy : (fDy_copyFrom r0 r0_0 r0_1 r0_2 r0_3 r0_4 r0_5 r0_6 r0_7 r1 r1_0 r1_1 r1_2 r1_3 r1_4 r1_5 r1_6 r1_7) = some res) (hq : Q none (zui (zui (zui (zui (zui (zui (zui (zui (zui M 59 res.1) 60 res.2.1) 61 res.2.2.1) 62 res.2.2.2.1) 63 res.2.2.2.2.1) 64 res.2.2.2.2.2.1) 65 res.2.2.2.2.2.2.1) 66 res.2.2.2.2.2.2.2.1) 67 res.2.2.2.2.2.2.2.2)) : zR Γ 2 YX1_copyFrom 0 [(0, .ref (zad Γ 59)), (1, .ref (zad Γ 15))] [] M Q := by
  unfold fDy_copyFrom at hy
  refine zj_aload_n (pc' := 1) 1 dX1_copyFrom_0 rfl rfl rfl ?_
  refine zj_getR (pc' := 4) (j := 16) dX1_copyFrom_1 rfl flX1_9 sh15 rfl ?_
  refine zj_iconst (pc' := 5) dX1_copyFrom_4 rfl kiconst_0 ?_
  refine zj_aload_n (pc' := 6) 0 dX1_copyFrom_5 rfl rfl rfl ?_
  refine zj_getR (pc' := 9) (j := 60) dX1_copyFrom_6 rfl flX1_9 sh59 rfl ?_
  refine zj_iconst (pc' := 10) dX1_copyFrom_9 rfl kiconst_0 ?_
  refine zj_bipush (pc' := 12) dX1_copyFrom_10 rfl kbipush_36 ?_
  obtain ⟨r0_0v1, er0_0v1⟩ : ∃ z, z = (va_cpy r1_0 r0_0 0 0 36) := ⟨_, rfl⟩
  have hy := zlet_at er0_0v1 hy
  refine zj_cpI (pc' := 15) (N := (zui M 60 r0_0v1)) dX1_copyFrom_12 rfl mlX1_52 zcpw sh16 sh60 tn0 tn0 tn36 (by decide) (by decide) (Nat.le_of_ble_eq_true rfl) (Nat.le_of_ble_eq_true rfl) e_i16 e_i60 er0_0v1 rfl (Nat.le_of_ble_eq_true rfl) (Nat.le_of_ble_eq_true rfl) ?_
  refine zj_aload_n (pc' := 16) 1 dX1_copyFrom_15 rfl rfl rfl ?_
  refine zj_getR (pc' := 19) (j := 17) dX1_copyFrom_16 rfl flX1_15 sh15 rfl ?_
  refine zj_iconst (pc' := 20) dX1_copyFrom_19 rfl kiconst_0 ?_
  refine zj_aload_n (pc' := 21) 0 dX1_copyFrom_20 rfl rfl rfl ?_
  refine zj_getR (pc' := 24) (j := 61) dX1_copyFrom_21 rfl flX1_15 sh59 rfl ?_
  refine zj_iconst (pc' := 25) dX1_copyFrom_24 rfl kiconst_0 ?_
  refine zj_bipush (pc' := 27) dX1_copyFrom_25 rfl kbipush_6 ?_
  obtain ⟨r0_1v2, er0_1v2⟩ : ∃ z, z = (va_cpy r1_1 r0_1 0 0 6) := ⟨_, rfl⟩
  have hy := zlet_at er0_1v2 hy
  refine zj_cpI (pc' := 30) (N := (zui (zui M 60 r0_0v1) 61 r0_1v2)) dX1_copyFrom_27 rfl mlX1_52 zcpw sh17 sh61 tn0 tn0 tn6 (by decide) (by decide) (Nat.le_of_ble_eq_true rfl) (Nat.le_of_ble_eq_true rfl) (zr_n rfl e_i17) (zr_n rfl e_i61) er0_1v2 rfl (Nat.le_of_ble_eq_true rfl) (Nat.le_of_ble_eq_true rfl) ?_
  refine zj_aload_n (pc' := 31) 1 dX1_copyFrom_30 rfl rfl rfl ?_
  refine zj_getR (pc' := 34) (j := 18) dX1_copyFrom_31 rfl flX1_18 sh15 rfl ?_
  refine zj_iconst (pc' := 35) dX1_copyFrom_34 rfl kiconst_0 ?_
  refine zj_aload_n (pc' := 36) 0 dX1_copyFrom_35 rfl rfl rfl ?_
  refine zj_getR (pc' := 39) (j := 62) dX1_copyFrom_36 rfl flX1_18 sh59 rfl ?_
  refine zj_iconst (pc' := 40) dX1_copyFrom_39 rfl kiconst_0 ?_
  refine zj_bipush (pc' := 42) dX1_copyFrom_40 rfl kbipush_6 ?_
  obtain ⟨r0_2v3, er0_2v3⟩ : ∃ z, z = (va_cpy r1_2 r0_2 0 0 6) := ⟨_, rfl⟩
  have hy := zlet_at er0_2v3 hy
  refine zj_cpI (pc' := 45) (N := (zui (zui (zui M 60 r0_0v1) 61 r0_1v2) 62 r0_2v3)) dX1_copyFrom_42 rfl mlX1_52 zcpw sh18 sh62 tn0 tn0 tn6 (by decide) (by decide) (Nat.le_of_ble_eq_true rfl) (Nat.le_of_ble_eq_true rfl) (zr_n rfl (zr_n rfl e_i18)) (zr_n rfl (zr_n rfl e_i62)) er0_2v3 rfl (Nat.le_of_ble_eq_true rfl) (Nat.le_of_ble_eq_true rfl) ?_
  refine zj_aload_n (pc' := 46) 1 dX1_copyFrom_45 rfl rfl rfl ?_
  refine zj_getR (pc' := 49) (j := 19) dX1_copyFrom_46 rfl flX1_21 sh15 rfl ?_
  refine zj_iconst (pc' := 50) dX1_copyFrom_49 rfl kiconst_0 ?_
  refine zj_aload_n (pc' := 51) 0 dX1_copyFrom_50 rfl rfl rfl ?_
  refine zj_getR (pc' := 54) (j := 63) dX1_copyFrom_51 rfl flX1_21 sh59 rfl ?_
  refine zj_iconst (pc' := 55) dX1_copyFrom_54 rfl kiconst_0 ?_
  refine zj_bipush (pc' := 57) dX1_copyFrom_55 rfl kbipush_6 ?_
  obtain ⟨r0_3v4, er0_3v4⟩ : ∃ z, z = (va_cpy r1_3 r0_3 0 0 6) := ⟨_, rfl⟩
  have hy := zlet_at er0_3v4 hy
  refine zj_cpI (pc' := 60) (N := (zui (zui (zui (zui M 60 r0_0v1) 61 r0_1v2) 62 r0_2v3) 63 r0_3v4)) dX1_copyFrom_57 rfl mlX1_52 zcpw sh19 sh63 tn0 tn0 tn6 (by decide) (by decide) (Nat.le_of_ble_eq_true rfl) (Nat.le_of_ble_eq_true rfl) (zr_n rfl (zr_n rfl (zr_n rfl e_i19))) (zr_n rfl (zr_n rfl (zr_n rfl e_i63))) er0_3v4 rfl (Nat.le_of_ble_eq_true rfl) (Nat.le_of_ble_eq_true rfl) ?_
  refine zj_aload_n (pc' := 61) 1 dX1_copyFrom_60 rfl rfl rfl ?_
  refine zj_getR (pc' := 64) (j := 20) dX1_copyFrom_61 rfl flX1_24 sh15 rfl ?_
  refine zj_iconst (pc' := 65) dX1_copyFrom_64 rfl kiconst_0 ?_
  refine zj_aload_n (pc' := 66) 0 dX1_copyFrom_65 rfl rfl rfl ?_
  refine zj_getR (pc' := 69) (j := 64) dX1_copyFrom_66 rfl flX1_24 sh59 rfl ?_
  refine zj_iconst (pc' := 70) dX1_copyFrom_69 rfl kiconst_0 ?_
  refine zj_bipush (pc' := 72) dX1_copyFrom_70 rfl kbipush_48 ?_
  obtain ⟨r0_4v5, er0_4v5⟩ : ∃ z, z = (va_cpy r1_4 r0_4 0 0 48) := ⟨_, rfl⟩
  have hy := zlet_at er0_4v5 hy
  refine zj_cpI (pc' := 75) (N := (zui (zui (zui (zui (zui M 60 r0_0v1) 61 r0_1v2) 62 r0_2v3) 63 r0_3v4) 64 r0_4v5)) dX1_copyFrom_72 rfl mlX1_52 zcpw sh20 sh64 tn0 tn0 tn48 (by decide) (by decide) (Nat.le_of_ble_eq_true rfl) (Nat.le_of_ble_eq_true rfl) (zr_n rfl (zr_n rfl (zr_n rfl (zr_n rfl e_i20)))) (zr_n rfl (zr_n rfl (zr_n rfl (zr_n rfl e_i64)))) er0_4v5 rfl (Nat.le_of_ble_eq_true rfl) (Nat.le_of_ble_eq_true rfl) ?_
  refine zj_aload_n (pc' := 76) 1 dX1_copyFrom_75 rfl rfl rfl ?_
  refine zj_getR (pc' := 79) (j := 21) dX1_copyFrom_76 rfl flX1_27 sh15 rfl ?_
  refine zj_iconst (pc' := 80) dX1_copyFrom_79 rfl kiconst_0 ?_
  refine zj_aload_n (pc' := 81) 0 dX1_copyFrom_80 rfl rfl rfl ?_
  refine zj_getR (pc' := 84) (j := 65) dX1_copyFrom_81 rfl flX1_27 sh59 rfl ?_
  refine zj_iconst (pc' := 85) dX1_copyFrom_84 rfl kiconst_0 ?_
  refine zj_bipush (pc' := 87) dX1_copyFrom_85 rfl kbipush_6 ?_
  obtain ⟨r0_5v6, er0_5v6⟩ : ∃ z, z = (va_cpy r1_5 r0_5 0 0 6) := ⟨_, rfl⟩
  have hy := zlet_at er0_5v6 hy
  refine zj_cpI (pc' := 90) (N := (zui (zui (zui (zui (zui (zui M 60 r0_0v1) 61 r0_1v2) 62 r0_2v3) 63 r0_3v4) 64 r0_4v5) 65 r0_5v6)) dX1_copyFrom_87 rfl mlX1_52 zcpw sh21 sh65 tn0 tn0 tn6 (by decide) (by decide) (Nat.le_of_ble_eq_true rfl) (Nat.le_of_ble_eq_true rfl) (zr_n rfl (zr_n rfl (zr_n rfl (zr_n rfl (zr_n rfl e_i21))))) (zr_n rfl (zr_n rfl (zr_n rfl (zr_n rfl (zr_n rfl e_i65))))) er0_5v6 rfl (Nat.le_of_ble_eq_true rfl) (Nat.le_of_ble_eq_true rfl) ?_
  refine zj_aload_n (pc' := 91) 1 dX1_copyFrom_90 rfl rfl rfl ?_
  refine zj_getR (pc' := 94) (j := 22) dX1_copyFrom_91 rfl flX1_30 sh15 rfl ?_
  refine zj_iconst (pc' := 95) dX1_copyFrom_94 rfl kiconst_0 ?_
  refine zj_aload_n (pc' := 96) 0 dX1_copyFrom_95 rfl rfl rfl ?_
  refine zj_getR (pc' := 99) (j := 66) dX1_copyFrom_96 rfl flX1_30 sh59 rfl ?_
  refine zj_iconst (pc' := 100) dX1_copyFrom_99 rfl kiconst_0 ?_
  refine zj_bipush (pc' := 102) dX1_copyFrom_100 rfl kbipush_8 ?_
  obtain ⟨r0_6v7, er0_6v7⟩ : ∃ z, z = (va_cpy r1_6 r0_6 0 0 8) := ⟨_, rfl⟩
  have hy := zlet_at er0_6v7 hy
  refine zj_cpI (pc' := 105) (N := (zui (zui (zui (zui (zui (zui (zui M 60 r0_0v1) 61 r0_1v2) 62 r0_2v3) 63 r0_3v4) 64 r0_4v5) 65 r0_5v6) 66 r0_6v7)) dX1_copyFrom_102 rfl mlX1_52 zcpw sh22 sh66 tn0 tn0 tn8 (by decide) (by decide) (Nat.le_of_ble_eq_true rfl) (Nat.le_of_ble_eq_true rfl) (zr_n rfl (zr_n rfl (zr_n rfl (zr_n rfl (zr_n rfl (zr_n rfl e_i22)))))) (zr_n rfl (zr_n rfl (zr_n rfl (zr_n rfl (zr_n rfl (zr_n rfl e_i66)))))) er0_6v7 rfl (Nat.le_of_ble_eq_true rfl) (Nat.le_of_ble_eq_true rfl) ?_
  refine zj_aload_n (pc' := 106) 1 dX1_copyFrom_105 rfl rfl rfl ?_
  refine zj_getR (pc' := 109) (j := 23) dX1_copyFrom_106 rfl flX1_33 sh15 rfl ?_
  refine zj_iconst (pc' := 110) dX1_copyFrom_109 rfl kiconst_0 ?_
  refine zj_aload_n (pc' := 111) 0 dX1_copyFrom_110 rfl rfl rfl ?_
  refine zj_getR (pc' := 114) (j := 67) dX1_copyFrom_111 rfl flX1_33 sh59 rfl ?_
  refine zj_iconst (pc' := 115) dX1_copyFrom_114 rfl kiconst_0 ?_
  refine zj_bipush (pc' := 117) dX1_copyFrom_115 rfl kbipush_8 ?_
  obtain ⟨r0_7v8, er0_7v8⟩ : ∃ z, z = (va_cpy r1_7 r0_7 0 0 8) := ⟨_, rfl⟩
  have hy := zlet_at er0_7v8 hy
  refine zj_cpI (pc' := 120) (N := (zui (zui (zui (zui (zui (zui (zui (zui M 60 r0_0v1) 61 r0_1v2) 62 r0_2v3) 63 r0_3v4) 64 r0_4v5) 65 r0_5v6) 66 r0_6v7) 67 r0_7v8)) dX1_copyFrom_117 rfl mlX1_52 zcpw sh23 sh67 tn0 tn0 tn8 (by decide) (by decide) (Nat.le_of_ble_eq_true rfl) (Nat.le_of_ble_eq_true rfl) (zr_n rfl (zr_n rfl (zr_n rfl (zr_n rfl (zr_n rfl (zr_n rfl (zr_n rfl e_i23))))))) (zr_n rfl (zr_n rfl (zr_n rfl (zr_n rfl (zr_n rfl (zr_n rfl (zr_n rfl e_i67))))))) er0_7v8 rfl (Nat.le_of_ble_eq_true rfl) (Nat.le_of_ble_eq_true rfl) ?_
  refine zj_aload_n (pc' := 121) 0 dX1_copyFrom_120 rfl rfl rfl ?_
  refine zj_aload_n (pc' := 122) 1 dX1_copyFrom_121 rfl rfl rfl ?_
  refine zj_fI (pc' := 125) dX1_copyFrom_122 rfl flX1_45 sh15 rfl (zr_n rfl (zr_n rfl (zr_n rfl (zr_n rfl (zr_n rfl (zr_n rfl (zr_n rfl (zr_n rfl e_i15)))))))) rfl ?_
  obtain ⟨r0v9, er0v9⟩ : ∃ z, z = (zup r0 9 (r1 9)) := ⟨_, rfl⟩
  have hy := zlet_at er0v9 hy
  refine zj_pI (pc' := 128) (N := (zui (zui (zui (zui (zui (zui (zui (zui (zui M 59 r0v9) 60 r0_0v1) 61 r0_1v2) 62 r0_2v3) 63 r0_3v4) 64 r0_4v5) 65 r0_5v6) 66 r0_6v7) 67 r0_7v8)) dX1_copyFrom_125 rfl fpX1_45 sh59 rfl (zr_n rfl (zr_n rfl (zr_n rfl (zr_n rfl (zr_n rfl (zr_n rfl (zr_n rfl (zr_n rfl e_i59)))))))) er0v9 (zm_n rfl (zm_n rfl (zm_n rfl (zm_n rfl (zm_n rfl (zm_n rfl (zm_n rfl (zm_n rfl rfl)))))))) ?_
  refine zj_aload_n (pc' := 129) 0 dX1_copyFrom_128 rfl rfl rfl ?_
  refine zj_aload_n (pc' := 130) 1 dX1_copyFrom_129 rfl rfl rfl ?_
  refine zj_fI (pc' := 133) dX1_copyFrom_130 rfl flX1_49 sh15 rfl (zr_n rfl (zr_n rfl (zr_n rfl (zr_n rfl (zr_n rfl (zr_n rfl (zr_n rfl (zr_n rfl (zr_n rfl e_i15))))))))) rfl ?_
  obtain ⟨r0v10, er0v10⟩ : ∃ z, z = (zup r0v9 10 (r1 10)) := ⟨_, rfl⟩
  have hy := zlet_at er0v10 hy
  refine zj_pI (pc' := 136) (N := (zui (zui (zui (zui (zui (zui (zui (zui (zui M 59 r0v10) 60 r0_0v1) 61 r0_1v2) 62 r0_2v3) 63 r0_3v4) 64 r0_4v5) 65 r0_5v6) 66 r0_6v7) 67 r0_7v8)) dX1_copyFrom_133 rfl fpX1_49 sh59 rfl (zr_n rfl (zr_n rfl (zr_n rfl (zr_n rfl (zr_n rfl (zr_n rfl (zr_n rfl (zr_n rfl zr_s)))))))) er0v10 (zm_n rfl (zm_n rfl (zm_n rfl (zm_n rfl (zm_n rfl (zm_n rfl (zm_n rfl (zm_n rfl zm_s)))))))) ?_
  have e9 := Option.some.inj hy
  subst e9
  exact zj_vret dX1_copyFrom_136 rfl hq
set_option maxRecDepth 20000 in
theorem LX1_copyFrom_59_15 (Γ : zG) (M : zM) (r0 : Nat → Int32) (r0_0 : Nat → Int32) (r0_1 : Nat → Int32) (r0_2 : Nat → Int32) (r0_3 : Nat → Int32) (r0_4 : Nat → Int32) (r0_5 : Nat → Int32) (r0_6 : Nat → Int32) (r0_7 : Nat → Int32) (r1 : Nat → Int32) (r1_0 : Nat → Int32) (r1_1 : Nat → Int32) (r1_2 : Nat → Int32) (r1_3 : Nat → Int32) (r1_4 : Nat → Int32) (r1_5 : Nat → Int32) (r1_6 : Nat → Int32) (r1_7 : Nat → Int32) (e_i59 : M.1 59 = r0) (e_i60 : M.1 60 = r0_0) (e_i61 : M.1 61 = r0_1) (e_i62 : M.1 62 = r0_2) (e_i63 : M.1 63 = r0_3) (e_i64 : M.1 64 = r0_4) (e_i65 : M.1 65 = r0_5) (e_i66 : M.1 66 = r0_6) (e_i67 : M.1 67 = r0_7) (e_i15 : M.1 15 = r1) (e_i16 : M.1 16 = r1_0) (e_i17 : M.1 17 = r1_1) (e_i18 : M.1 18 = r1_2) (e_i19 : M.1 19 = r1_3) (e_i20 : M.1 20 = r1_4) (e_i21 : M.1 21 = r1_5) (e_i22 : M.1 22 = r1_6) (e_i23 : M.1 23 = r1_7)  {res : (Nat → Int32) × (Nat → Int32) × (Nat → Int32) × (Nat → Int32) × (Nat → Int32) × (Nat → Int32) × (Nat → Int32) × (Nat → Int32) × (Nat → Int32)} (hy : (fDy_copyFrom r0 r0_0 r0_1 r0_2 r0_3 r0_4 r0_5 r0_6 r0_7 r1 r1_0 r1_1 r1_2 r1_3 r1_4 r1_5 r1_6 r1_7) = some res) : zK Γ 2 YX1_copyFrom [.ref (zad Γ 59), .ref (zad Γ 15)] M (fun v N => v = none ∧ N = (zui (zui (zui (zui (zui (zui (zui (zui (zui M 59 res.1) 60 res.2.1) 61 res.2.2.1) 62 res.2.2.2.1) 63 res.2.2.2.2.1) 64 res.2.2.2.2.2.1) 65 res.2.2.2.2.2.2.1) 66 res.2.2.2.2.2.2.2.1) 67 res.2.2.2.2.2.2.2.2)) :=
  zK_of (by decide) (Nat.le_of_ble_eq_true rfl) (TX1_copyFrom_59_15 Γ M r0 r0_0 r0_1 r0_2 r0_3 r0_4 r0_5 r0_6 r0_7 r1 r1_0 r1_1 r1_2 r1_3 r1_4 r1_5 r1_6 r1_7 e_i59 e_i60 e_i61 e_i62 e_i63 e_i64 e_i65 e_i66 e_i67 e_i15 e_i16 e_i17 e_i18 e_i19 e_i20 e_i21 e_i22 e_i23 hy ⟨rfl, rfl⟩)


set_option maxRecDepth 20000 in
theorem TX1_copyFrom_49_15 (Γ : zG) {Q : Option Value → zM → Prop} (M : zM) (r0 : Nat → Int32) (r0_0 : Nat → Int32) (r0_1 : Nat → Int32) (r0_2 : Nat → Int32) (r0_3 : Nat → Int32) (r0_4 : Nat → Int32) (r0_5 : Nat → Int32) (r0_6 : Nat → Int32) (r0_7 : Nat → Int32) (r1 : Nat → Int32) (r1_0 : Nat → Int32) (r1_1 : Nat → Int32) (r1_2 : Nat → Int32) (r1_3 : Nat → Int32) (r1_4 : Nat → Int32) (r1_5 : Nat → Int32) (r1_6 : Nat → Int32) (r1_7 : Nat → Int32) (e_i49 : M.1 49 = r0) (e_i50 : M.1 50 = r0_0) (e_i51 : M.1 51 = r0_1) (e_i52 : M.1 52 = r0_2) (e_i53 : M.1 53 = r0_3) (e_i54 : M.1 54 = r0_4) (e_i55 : M.1 55 = r0_5) (e_i56 : M.1 56 = r0_6) (e_i57 : M.1 57 = r0_7) (e_i15 : M.1 15 = r1) (e_i16 : M.1 16 = r1_0) (e_i17 : M.1 17 = r1_1) (e_i18 : M.1 18 = r1_2) (e_i19 : M.1 19 = r1_3) (e_i20 : M.1 20 = r1_4) (e_i21 : M.1 21 = r1_5) (e_i22 : M.1 22 = r1_6) (e_i23 : M.1 23 = r1_7)  {res : (Nat → Int32) × (Nat → Int32) × (Nat → Int32) × (Nat → Int32) × (Nat → Int32) × (Nat → Int32) × (Nat → Int32) × (Nat → Int32) × (Nat → Int32)} (hy : (fDy_copyFrom r0 r0_0 r0_1 r0_2 r0_3 r0_4 r0_5 r0_6 r0_7 r1 r1_0 r1_1 r1_2 r1_3 r1_4 r1_5 r1_6 r1_7) = some res) (hq : Q none (zui (zui (zui (zui (zui (zui (zui (zui (zui M 49 res.1) 50 res.2.1) 51 res.2.2.1) 52 res.2.2.2.1) 53 res.2.2.2.2.1) 54 res.2.2.2.2.2.1) 55 res.2.2.2.2.2.2.1) 56 res.2.2.2.2.2.2.2.1) 57 res.2.2.2.2.2.2.2.2)) : zR Γ 2 YX1_copyFrom 0 [(0, .ref (zad Γ 49)), (1, .ref (zad Γ 15))] [] M Q := by
  unfold fDy_copyFrom at hy
  refine zj_aload_n (pc' := 1) 1 dX1_copyFrom_0 rfl rfl rfl ?_
  refine zj_getR (pc' := 4) (j := 16) dX1_copyFrom_1 rfl flX1_9 sh15 rfl ?_
  refine zj_iconst (pc' := 5) dX1_copyFrom_4 rfl kiconst_0 ?_
  refine zj_aload_n (pc' := 6) 0 dX1_copyFrom_5 rfl rfl rfl ?_
  refine zj_getR (pc' := 9) (j := 50) dX1_copyFrom_6 rfl flX1_9 sh49 rfl ?_
  refine zj_iconst (pc' := 10) dX1_copyFrom_9 rfl kiconst_0 ?_
  refine zj_bipush (pc' := 12) dX1_copyFrom_10 rfl kbipush_36 ?_
  obtain ⟨r0_0v1, er0_0v1⟩ : ∃ z, z = (va_cpy r1_0 r0_0 0 0 36) := ⟨_, rfl⟩
  have hy := zlet_at er0_0v1 hy
  refine zj_cpI (pc' := 15) (N := (zui M 50 r0_0v1)) dX1_copyFrom_12 rfl mlX1_52 zcpw sh16 sh50 tn0 tn0 tn36 (by decide) (by decide) (Nat.le_of_ble_eq_true rfl) (Nat.le_of_ble_eq_true rfl) e_i16 e_i50 er0_0v1 rfl (Nat.le_of_ble_eq_true rfl) (Nat.le_of_ble_eq_true rfl) ?_
  refine zj_aload_n (pc' := 16) 1 dX1_copyFrom_15 rfl rfl rfl ?_
  refine zj_getR (pc' := 19) (j := 17) dX1_copyFrom_16 rfl flX1_15 sh15 rfl ?_
  refine zj_iconst (pc' := 20) dX1_copyFrom_19 rfl kiconst_0 ?_
  refine zj_aload_n (pc' := 21) 0 dX1_copyFrom_20 rfl rfl rfl ?_
  refine zj_getR (pc' := 24) (j := 51) dX1_copyFrom_21 rfl flX1_15 sh49 rfl ?_
  refine zj_iconst (pc' := 25) dX1_copyFrom_24 rfl kiconst_0 ?_
  refine zj_bipush (pc' := 27) dX1_copyFrom_25 rfl kbipush_6 ?_
  obtain ⟨r0_1v2, er0_1v2⟩ : ∃ z, z = (va_cpy r1_1 r0_1 0 0 6) := ⟨_, rfl⟩
  have hy := zlet_at er0_1v2 hy
  refine zj_cpI (pc' := 30) (N := (zui (zui M 50 r0_0v1) 51 r0_1v2)) dX1_copyFrom_27 rfl mlX1_52 zcpw sh17 sh51 tn0 tn0 tn6 (by decide) (by decide) (Nat.le_of_ble_eq_true rfl) (Nat.le_of_ble_eq_true rfl) (zr_n rfl e_i17) (zr_n rfl e_i51) er0_1v2 rfl (Nat.le_of_ble_eq_true rfl) (Nat.le_of_ble_eq_true rfl) ?_
  refine zj_aload_n (pc' := 31) 1 dX1_copyFrom_30 rfl rfl rfl ?_
  refine zj_getR (pc' := 34) (j := 18) dX1_copyFrom_31 rfl flX1_18 sh15 rfl ?_
  refine zj_iconst (pc' := 35) dX1_copyFrom_34 rfl kiconst_0 ?_
  refine zj_aload_n (pc' := 36) 0 dX1_copyFrom_35 rfl rfl rfl ?_
  refine zj_getR (pc' := 39) (j := 52) dX1_copyFrom_36 rfl flX1_18 sh49 rfl ?_
  refine zj_iconst (pc' := 40) dX1_copyFrom_39 rfl kiconst_0 ?_
  refine zj_bipush (pc' := 42) dX1_copyFrom_40 rfl kbipush_6 ?_
  obtain ⟨r0_2v3, er0_2v3⟩ : ∃ z, z = (va_cpy r1_2 r0_2 0 0 6) := ⟨_, rfl⟩
  have hy := zlet_at er0_2v3 hy
  refine zj_cpI (pc' := 45) (N := (zui (zui (zui M 50 r0_0v1) 51 r0_1v2) 52 r0_2v3)) dX1_copyFrom_42 rfl mlX1_52 zcpw sh18 sh52 tn0 tn0 tn6 (by decide) (by decide) (Nat.le_of_ble_eq_true rfl) (Nat.le_of_ble_eq_true rfl) (zr_n rfl (zr_n rfl e_i18)) (zr_n rfl (zr_n rfl e_i52)) er0_2v3 rfl (Nat.le_of_ble_eq_true rfl) (Nat.le_of_ble_eq_true rfl) ?_
  refine zj_aload_n (pc' := 46) 1 dX1_copyFrom_45 rfl rfl rfl ?_
  refine zj_getR (pc' := 49) (j := 19) dX1_copyFrom_46 rfl flX1_21 sh15 rfl ?_
  refine zj_iconst (pc' := 50) dX1_copyFrom_49 rfl kiconst_0 ?_
  refine zj_aload_n (pc' := 51) 0 dX1_copyFrom_50 rfl rfl rfl ?_
  refine zj_getR (pc' := 54) (j := 53) dX1_copyFrom_51 rfl flX1_21 sh49 rfl ?_
  refine zj_iconst (pc' := 55) dX1_copyFrom_54 rfl kiconst_0 ?_
  refine zj_bipush (pc' := 57) dX1_copyFrom_55 rfl kbipush_6 ?_
  obtain ⟨r0_3v4, er0_3v4⟩ : ∃ z, z = (va_cpy r1_3 r0_3 0 0 6) := ⟨_, rfl⟩
  have hy := zlet_at er0_3v4 hy
  refine zj_cpI (pc' := 60) (N := (zui (zui (zui (zui M 50 r0_0v1) 51 r0_1v2) 52 r0_2v3) 53 r0_3v4)) dX1_copyFrom_57 rfl mlX1_52 zcpw sh19 sh53 tn0 tn0 tn6 (by decide) (by decide) (Nat.le_of_ble_eq_true rfl) (Nat.le_of_ble_eq_true rfl) (zr_n rfl (zr_n rfl (zr_n rfl e_i19))) (zr_n rfl (zr_n rfl (zr_n rfl e_i53))) er0_3v4 rfl (Nat.le_of_ble_eq_true rfl) (Nat.le_of_ble_eq_true rfl) ?_
  refine zj_aload_n (pc' := 61) 1 dX1_copyFrom_60 rfl rfl rfl ?_
  refine zj_getR (pc' := 64) (j := 20) dX1_copyFrom_61 rfl flX1_24 sh15 rfl ?_
  refine zj_iconst (pc' := 65) dX1_copyFrom_64 rfl kiconst_0 ?_
  refine zj_aload_n (pc' := 66) 0 dX1_copyFrom_65 rfl rfl rfl ?_
  refine zj_getR (pc' := 69) (j := 54) dX1_copyFrom_66 rfl flX1_24 sh49 rfl ?_
  refine zj_iconst (pc' := 70) dX1_copyFrom_69 rfl kiconst_0 ?_
  refine zj_bipush (pc' := 72) dX1_copyFrom_70 rfl kbipush_48 ?_
  obtain ⟨r0_4v5, er0_4v5⟩ : ∃ z, z = (va_cpy r1_4 r0_4 0 0 48) := ⟨_, rfl⟩
  have hy := zlet_at er0_4v5 hy
  refine zj_cpI (pc' := 75) (N := (zui (zui (zui (zui (zui M 50 r0_0v1) 51 r0_1v2) 52 r0_2v3) 53 r0_3v4) 54 r0_4v5)) dX1_copyFrom_72 rfl mlX1_52 zcpw sh20 sh54 tn0 tn0 tn48 (by decide) (by decide) (Nat.le_of_ble_eq_true rfl) (Nat.le_of_ble_eq_true rfl) (zr_n rfl (zr_n rfl (zr_n rfl (zr_n rfl e_i20)))) (zr_n rfl (zr_n rfl (zr_n rfl (zr_n rfl e_i54)))) er0_4v5 rfl (Nat.le_of_ble_eq_true rfl) (Nat.le_of_ble_eq_true rfl) ?_
  refine zj_aload_n (pc' := 76) 1 dX1_copyFrom_75 rfl rfl rfl ?_
  refine zj_getR (pc' := 79) (j := 21) dX1_copyFrom_76 rfl flX1_27 sh15 rfl ?_
  refine zj_iconst (pc' := 80) dX1_copyFrom_79 rfl kiconst_0 ?_
  refine zj_aload_n (pc' := 81) 0 dX1_copyFrom_80 rfl rfl rfl ?_
  refine zj_getR (pc' := 84) (j := 55) dX1_copyFrom_81 rfl flX1_27 sh49 rfl ?_
  refine zj_iconst (pc' := 85) dX1_copyFrom_84 rfl kiconst_0 ?_
  refine zj_bipush (pc' := 87) dX1_copyFrom_85 rfl kbipush_6 ?_
  obtain ⟨r0_5v6, er0_5v6⟩ : ∃ z, z = (va_cpy r1_5 r0_5 0 0 6) := ⟨_, rfl⟩
  have hy := zlet_at er0_5v6 hy
  refine zj_cpI (pc' := 90) (N := (zui (zui (zui (zui (zui (zui M 50 r0_0v1) 51 r0_1v2) 52 r0_2v3) 53 r0_3v4) 54 r0_4v5) 55 r0_5v6)) dX1_copyFrom_87 rfl mlX1_52 zcpw sh21 sh55 tn0 tn0 tn6 (by decide) (by decide) (Nat.le_of_ble_eq_true rfl) (Nat.le_of_ble_eq_true rfl) (zr_n rfl (zr_n rfl (zr_n rfl (zr_n rfl (zr_n rfl e_i21))))) (zr_n rfl (zr_n rfl (zr_n rfl (zr_n rfl (zr_n rfl e_i55))))) er0_5v6 rfl (Nat.le_of_ble_eq_true rfl) (Nat.le_of_ble_eq_true rfl) ?_
  refine zj_aload_n (pc' := 91) 1 dX1_copyFrom_90 rfl rfl rfl ?_
  refine zj_getR (pc' := 94) (j := 22) dX1_copyFrom_91 rfl flX1_30 sh15 rfl ?_
  refine zj_iconst (pc' := 95) dX1_copyFrom_94 rfl kiconst_0 ?_
  refine zj_aload_n (pc' := 96) 0 dX1_copyFrom_95 rfl rfl rfl ?_
  refine zj_getR (pc' := 99) (j := 56) dX1_copyFrom_96 rfl flX1_30 sh49 rfl ?_
  refine zj_iconst (pc' := 100) dX1_copyFrom_99 rfl kiconst_0 ?_
  refine zj_bipush (pc' := 102) dX1_copyFrom_100 rfl kbipush_8 ?_
  obtain ⟨r0_6v7, er0_6v7⟩ : ∃ z, z = (va_cpy r1_6 r0_6 0 0 8) := ⟨_, rfl⟩
  have hy := zlet_at er0_6v7 hy
  refine zj_cpI (pc' := 105) (N := (zui (zui (zui (zui (zui (zui (zui M 50 r0_0v1) 51 r0_1v2) 52 r0_2v3) 53 r0_3v4) 54 r0_4v5) 55 r0_5v6) 56 r0_6v7)) dX1_copyFrom_102 rfl mlX1_52 zcpw sh22 sh56 tn0 tn0 tn8 (by decide) (by decide) (Nat.le_of_ble_eq_true rfl) (Nat.le_of_ble_eq_true rfl) (zr_n rfl (zr_n rfl (zr_n rfl (zr_n rfl (zr_n rfl (zr_n rfl e_i22)))))) (zr_n rfl (zr_n rfl (zr_n rfl (zr_n rfl (zr_n rfl (zr_n rfl e_i56)))))) er0_6v7 rfl (Nat.le_of_ble_eq_true rfl) (Nat.le_of_ble_eq_true rfl) ?_
  refine zj_aload_n (pc' := 106) 1 dX1_copyFrom_105 rfl rfl rfl ?_
  refine zj_getR (pc' := 109) (j := 23) dX1_copyFrom_106 rfl flX1_33 sh15 rfl ?_
  refine zj_iconst (pc' := 110) dX1_copyFrom_109 rfl kiconst_0 ?_
  refine zj_aload_n (pc' := 111) 0 dX1_copyFrom_110 rfl rfl rfl ?_
  refine zj_getR (pc' := 114) (j := 57) dX1_copyFrom_111 rfl flX1_33 sh49 rfl ?_
  refine zj_iconst (pc' := 115) dX1_copyFrom_114 rfl kiconst_0 ?_
  refine zj_bipush (pc' := 117) dX1_copyFrom_115 rfl kbipush_8 ?_
  obtain ⟨r0_7v8, er0_7v8⟩ : ∃ z, z = (va_cpy r1_7 r0_7 0 0 8) := ⟨_, rfl⟩
  have hy := zlet_at er0_7v8 hy
  refine zj_cpI (pc' := 120) (N := (zui (zui (zui (zui (zui (zui (zui (zui M 50 r0_0v1) 51 r0_1v2) 52 r0_2v3) 53 r0_3v4) 54 r0_4v5) 55 r0_5v6) 56 r0_6v7) 57 r0_7v8)) dX1_copyFrom_117 rfl mlX1_52 zcpw sh23 sh57 tn0 tn0 tn8 (by decide) (by decide) (Nat.le_of_ble_eq_true rfl) (Nat.le_of_ble_eq_true rfl) (zr_n rfl (zr_n rfl (zr_n rfl (zr_n rfl (zr_n rfl (zr_n rfl (zr_n rfl e_i23))))))) (zr_n rfl (zr_n rfl (zr_n rfl (zr_n rfl (zr_n rfl (zr_n rfl (zr_n rfl e_i57))))))) er0_7v8 rfl (Nat.le_of_ble_eq_true rfl) (Nat.le_of_ble_eq_true rfl) ?_
  refine zj_aload_n (pc' := 121) 0 dX1_copyFrom_120 rfl rfl rfl ?_
  refine zj_aload_n (pc' := 122) 1 dX1_copyFrom_121 rfl rfl rfl ?_
  refine zj_fI (pc' := 125) dX1_copyFrom_122 rfl flX1_45 sh15 rfl (zr_n rfl (zr_n rfl (zr_n rfl (zr_n rfl (zr_n rfl (zr_n rfl (zr_n rfl (zr_n rfl e_i15)))))))) rfl ?_
  obtain ⟨r0v9, er0v9⟩ : ∃ z, z = (zup r0 9 (r1 9)) := ⟨_, rfl⟩
  have hy := zlet_at er0v9 hy
  refine zj_pI (pc' := 128) (N := (zui (zui (zui (zui (zui (zui (zui (zui (zui M 49 r0v9) 50 r0_0v1) 51 r0_1v2) 52 r0_2v3) 53 r0_3v4) 54 r0_4v5) 55 r0_5v6) 56 r0_6v7) 57 r0_7v8)) dX1_copyFrom_125 rfl fpX1_45 sh49 rfl (zr_n rfl (zr_n rfl (zr_n rfl (zr_n rfl (zr_n rfl (zr_n rfl (zr_n rfl (zr_n rfl e_i49)))))))) er0v9 (zm_n rfl (zm_n rfl (zm_n rfl (zm_n rfl (zm_n rfl (zm_n rfl (zm_n rfl (zm_n rfl rfl)))))))) ?_
  refine zj_aload_n (pc' := 129) 0 dX1_copyFrom_128 rfl rfl rfl ?_
  refine zj_aload_n (pc' := 130) 1 dX1_copyFrom_129 rfl rfl rfl ?_
  refine zj_fI (pc' := 133) dX1_copyFrom_130 rfl flX1_49 sh15 rfl (zr_n rfl (zr_n rfl (zr_n rfl (zr_n rfl (zr_n rfl (zr_n rfl (zr_n rfl (zr_n rfl (zr_n rfl e_i15))))))))) rfl ?_
  obtain ⟨r0v10, er0v10⟩ : ∃ z, z = (zup r0v9 10 (r1 10)) := ⟨_, rfl⟩
  have hy := zlet_at er0v10 hy
  refine zj_pI (pc' := 136) (N := (zui (zui (zui (zui (zui (zui (zui (zui (zui M 49 r0v10) 50 r0_0v1) 51 r0_1v2) 52 r0_2v3) 53 r0_3v4) 54 r0_4v5) 55 r0_5v6) 56 r0_6v7) 57 r0_7v8)) dX1_copyFrom_133 rfl fpX1_49 sh49 rfl (zr_n rfl (zr_n rfl (zr_n rfl (zr_n rfl (zr_n rfl (zr_n rfl (zr_n rfl (zr_n rfl zr_s)))))))) er0v10 (zm_n rfl (zm_n rfl (zm_n rfl (zm_n rfl (zm_n rfl (zm_n rfl (zm_n rfl (zm_n rfl zm_s)))))))) ?_
  have e9 := Option.some.inj hy
  subst e9
  exact zj_vret dX1_copyFrom_136 rfl hq
set_option maxRecDepth 20000 in
theorem LX1_copyFrom_49_15 (Γ : zG) (M : zM) (r0 : Nat → Int32) (r0_0 : Nat → Int32) (r0_1 : Nat → Int32) (r0_2 : Nat → Int32) (r0_3 : Nat → Int32) (r0_4 : Nat → Int32) (r0_5 : Nat → Int32) (r0_6 : Nat → Int32) (r0_7 : Nat → Int32) (r1 : Nat → Int32) (r1_0 : Nat → Int32) (r1_1 : Nat → Int32) (r1_2 : Nat → Int32) (r1_3 : Nat → Int32) (r1_4 : Nat → Int32) (r1_5 : Nat → Int32) (r1_6 : Nat → Int32) (r1_7 : Nat → Int32) (e_i49 : M.1 49 = r0) (e_i50 : M.1 50 = r0_0) (e_i51 : M.1 51 = r0_1) (e_i52 : M.1 52 = r0_2) (e_i53 : M.1 53 = r0_3) (e_i54 : M.1 54 = r0_4) (e_i55 : M.1 55 = r0_5) (e_i56 : M.1 56 = r0_6) (e_i57 : M.1 57 = r0_7) (e_i15 : M.1 15 = r1) (e_i16 : M.1 16 = r1_0) (e_i17 : M.1 17 = r1_1) (e_i18 : M.1 18 = r1_2) (e_i19 : M.1 19 = r1_3) (e_i20 : M.1 20 = r1_4) (e_i21 : M.1 21 = r1_5) (e_i22 : M.1 22 = r1_6) (e_i23 : M.1 23 = r1_7)  {res : (Nat → Int32) × (Nat → Int32) × (Nat → Int32) × (Nat → Int32) × (Nat → Int32) × (Nat → Int32) × (Nat → Int32) × (Nat → Int32) × (Nat → Int32)} (hy : (fDy_copyFrom r0 r0_0 r0_1 r0_2 r0_3 r0_4 r0_5 r0_6 r0_7 r1 r1_0 r1_1 r1_2 r1_3 r1_4 r1_5 r1_6 r1_7) = some res) : zK Γ 2 YX1_copyFrom [.ref (zad Γ 49), .ref (zad Γ 15)] M (fun v N => v = none ∧ N = (zui (zui (zui (zui (zui (zui (zui (zui (zui M 49 res.1) 50 res.2.1) 51 res.2.2.1) 52 res.2.2.2.1) 53 res.2.2.2.2.1) 54 res.2.2.2.2.2.1) 55 res.2.2.2.2.2.2.1) 56 res.2.2.2.2.2.2.2.1) 57 res.2.2.2.2.2.2.2.2)) :=
  zK_of (by decide) (Nat.le_of_ble_eq_true rfl) (TX1_copyFrom_49_15 Γ M r0 r0_0 r0_1 r0_2 r0_3 r0_4 r0_5 r0_6 r0_7 r1 r1_0 r1_1 r1_2 r1_3 r1_4 r1_5 r1_6 r1_7 e_i49 e_i50 e_i51 e_i52 e_i53 e_i54 e_i55 e_i56 e_i57 e_i15 e_i16 e_i17 e_i18 e_i19 e_i20 e_i21 e_i22 e_i23 hy ⟨rfl, rfl⟩)

noncomputable def fHi_add (r0 : Nat → Int32) (r1 : Nat → Int32) (r1_0 : Nat → Int32) (r1_1 : Nat → Int32) (r1_2 : Nat → Int32) (r1_3 : Nat → Int32) (r1_4 : Nat → Int32) (r1_5 : Nat → Int32) (r1_6 : Nat → Int32) (r1_7 : Nat → Int32) (g49 : zM) : Option ((Nat → Int32) × zM) :=
  (if (r0 1) = 0 then
  (fDy_copyFrom (g49.1 49) (g49.1 50) (g49.1 51) (g49.1 52) (g49.1 53) (g49.1 54) (g49.1 55) (g49.1 56) (g49.1 57) r1 r1_0 r1_1 r1_2 r1_3 r1_4 r1_5 r1_6 r1_7).bind (fun (y2 : (Nat → Int32) × (Nat → Int32) × (Nat → Int32) × (Nat → Int32) × (Nat → Int32) × (Nat → Int32) × (Nat → Int32) × (Nat → Int32) × (Nat → Int32)) =>
  zlet (zup r0 1 (((r0 1) + 1) - ((r0 1) + 1) / 8 * 8)) (fun (r0v3 : Nat → Int32) =>
  zlet (zup r0v3 2 (if ((r0v3 2) + 1) < (8 : Int32) then ((r0v3 2) + 1) else (8 : Int32))) (fun (r0v4 : Nat → Int32) =>
  some (r0v4, (zui (zui (zui (zui (zui (zui (zui (zui (zui g49 49 y2.1) 50 y2.2.1) 51 y2.2.2.1) 52 y2.2.2.2.1) 53 y2.2.2.2.2.1) 54 y2.2.2.2.2.2.1) 55 y2.2.2.2.2.2.2.1) 56 y2.2.2.2.2.2.2.2.1) 57 y2.2.2.2.2.2.2.2.2)))))
  else
  (if (r0 1) = 1 then
  (fDy_copyFrom (g49.1 59) (g49.1 60) (g49.1 61) (g49.1 62) (g49.1 63) (g49.1 64) (g49.1 65) (g49.1 66) (g49.1 67) r1 r1_0 r1_1 r1_2 r1_3 r1_4 r1_5 r1_6 r1_7).bind (fun (y6 : (Nat → Int32) × (Nat → Int32) × (Nat → Int32) × (Nat → Int32) × (Nat → Int32) × (Nat → Int32) × (Nat → Int32) × (Nat → Int32) × (Nat → Int32)) =>
  zlet (zup r0 1 (((r0 1) + 1) - ((r0 1) + 1) / 8 * 8)) (fun (r0v7 : Nat → Int32) =>
  zlet (zup r0v7 2 (if ((r0v7 2) + 1) < (8 : Int32) then ((r0v7 2) + 1) else (8 : Int32))) (fun (r0v8 : Nat → Int32) =>
  some (r0v8, (zui (zui (zui (zui (zui (zui (zui (zui (zui g49 59 y6.1) 60 y6.2.1) 61 y6.2.2.1) 62 y6.2.2.2.1) 63 y6.2.2.2.2.1) 64 y6.2.2.2.2.2.1) 65 y6.2.2.2.2.2.2.1) 66 y6.2.2.2.2.2.2.2.1) 67 y6.2.2.2.2.2.2.2.2)))))
  else
  (if (r0 1) = 2 then
  (fDy_copyFrom (g49.1 69) (g49.1 70) (g49.1 71) (g49.1 72) (g49.1 73) (g49.1 74) (g49.1 75) (g49.1 76) (g49.1 77) r1 r1_0 r1_1 r1_2 r1_3 r1_4 r1_5 r1_6 r1_7).bind (fun (y10 : (Nat → Int32) × (Nat → Int32) × (Nat → Int32) × (Nat → Int32) × (Nat → Int32) × (Nat → Int32) × (Nat → Int32) × (Nat → Int32) × (Nat → Int32)) =>
  zlet (zup r0 1 (((r0 1) + 1) - ((r0 1) + 1) / 8 * 8)) (fun (r0v11 : Nat → Int32) =>
  zlet (zup r0v11 2 (if ((r0v11 2) + 1) < (8 : Int32) then ((r0v11 2) + 1) else (8 : Int32))) (fun (r0v12 : Nat → Int32) =>
  some (r0v12, (zui (zui (zui (zui (zui (zui (zui (zui (zui g49 69 y10.1) 70 y10.2.1) 71 y10.2.2.1) 72 y10.2.2.2.1) 73 y10.2.2.2.2.1) 74 y10.2.2.2.2.2.1) 75 y10.2.2.2.2.2.2.1) 76 y10.2.2.2.2.2.2.2.1) 77 y10.2.2.2.2.2.2.2.2)))))
  else
  (if (r0 1) = 3 then
  (fDy_copyFrom (g49.1 79) (g49.1 80) (g49.1 81) (g49.1 82) (g49.1 83) (g49.1 84) (g49.1 85) (g49.1 86) (g49.1 87) r1 r1_0 r1_1 r1_2 r1_3 r1_4 r1_5 r1_6 r1_7).bind (fun (y14 : (Nat → Int32) × (Nat → Int32) × (Nat → Int32) × (Nat → Int32) × (Nat → Int32) × (Nat → Int32) × (Nat → Int32) × (Nat → Int32) × (Nat → Int32)) =>
  zlet (zup r0 1 (((r0 1) + 1) - ((r0 1) + 1) / 8 * 8)) (fun (r0v15 : Nat → Int32) =>
  zlet (zup r0v15 2 (if ((r0v15 2) + 1) < (8 : Int32) then ((r0v15 2) + 1) else (8 : Int32))) (fun (r0v16 : Nat → Int32) =>
  some (r0v16, (zui (zui (zui (zui (zui (zui (zui (zui (zui g49 79 y14.1) 80 y14.2.1) 81 y14.2.2.1) 82 y14.2.2.2.1) 83 y14.2.2.2.2.1) 84 y14.2.2.2.2.2.1) 85 y14.2.2.2.2.2.2.1) 86 y14.2.2.2.2.2.2.2.1) 87 y14.2.2.2.2.2.2.2.2)))))
  else
  (if (r0 1) = 4 then
  (fDy_copyFrom (g49.1 89) (g49.1 90) (g49.1 91) (g49.1 92) (g49.1 93) (g49.1 94) (g49.1 95) (g49.1 96) (g49.1 97) r1 r1_0 r1_1 r1_2 r1_3 r1_4 r1_5 r1_6 r1_7).bind (fun (y18 : (Nat → Int32) × (Nat → Int32) × (Nat → Int32) × (Nat → Int32) × (Nat → Int32) × (Nat → Int32) × (Nat → Int32) × (Nat → Int32) × (Nat → Int32)) =>
  zlet (zup r0 1 (((r0 1) + 1) - ((r0 1) + 1) / 8 * 8)) (fun (r0v19 : Nat → Int32) =>
  zlet (zup r0v19 2 (if ((r0v19 2) + 1) < (8 : Int32) then ((r0v19 2) + 1) else (8 : Int32))) (fun (r0v20 : Nat → Int32) =>
  some (r0v20, (zui (zui (zui (zui (zui (zui (zui (zui (zui g49 89 y18.1) 90 y18.2.1) 91 y18.2.2.1) 92 y18.2.2.2.1) 93 y18.2.2.2.2.1) 94 y18.2.2.2.2.2.1) 95 y18.2.2.2.2.2.2.1) 96 y18.2.2.2.2.2.2.2.1) 97 y18.2.2.2.2.2.2.2.2)))))
  else
  (if (r0 1) = 5 then
  (fDy_copyFrom (g49.1 99) (g49.1 100) (g49.1 101) (g49.1 102) (g49.1 103) (g49.1 104) (g49.1 105) (g49.1 106) (g49.1 107) r1 r1_0 r1_1 r1_2 r1_3 r1_4 r1_5 r1_6 r1_7).bind (fun (y22 : (Nat → Int32) × (Nat → Int32) × (Nat → Int32) × (Nat → Int32) × (Nat → Int32) × (Nat → Int32) × (Nat → Int32) × (Nat → Int32) × (Nat → Int32)) =>
  zlet (zup r0 1 (((r0 1) + 1) - ((r0 1) + 1) / 8 * 8)) (fun (r0v23 : Nat → Int32) =>
  zlet (zup r0v23 2 (if ((r0v23 2) + 1) < (8 : Int32) then ((r0v23 2) + 1) else (8 : Int32))) (fun (r0v24 : Nat → Int32) =>
  some (r0v24, (zui (zui (zui (zui (zui (zui (zui (zui (zui g49 99 y22.1) 100 y22.2.1) 101 y22.2.2.1) 102 y22.2.2.2.1) 103 y22.2.2.2.2.1) 104 y22.2.2.2.2.2.1) 105 y22.2.2.2.2.2.2.1) 106 y22.2.2.2.2.2.2.2.1) 107 y22.2.2.2.2.2.2.2.2)))))
  else
  (if (r0 1) = 6 then
  (fDy_copyFrom (g49.1 109) (g49.1 110) (g49.1 111) (g49.1 112) (g49.1 113) (g49.1 114) (g49.1 115) (g49.1 116) (g49.1 117) r1 r1_0 r1_1 r1_2 r1_3 r1_4 r1_5 r1_6 r1_7).bind (fun (y26 : (Nat → Int32) × (Nat → Int32) × (Nat → Int32) × (Nat → Int32) × (Nat → Int32) × (Nat → Int32) × (Nat → Int32) × (Nat → Int32) × (Nat → Int32)) =>
  zlet (zup r0 1 (((r0 1) + 1) - ((r0 1) + 1) / 8 * 8)) (fun (r0v27 : Nat → Int32) =>
  zlet (zup r0v27 2 (if ((r0v27 2) + 1) < (8 : Int32) then ((r0v27 2) + 1) else (8 : Int32))) (fun (r0v28 : Nat → Int32) =>
  some (r0v28, (zui (zui (zui (zui (zui (zui (zui (zui (zui g49 109 y26.1) 110 y26.2.1) 111 y26.2.2.1) 112 y26.2.2.2.1) 113 y26.2.2.2.2.1) 114 y26.2.2.2.2.2.1) 115 y26.2.2.2.2.2.2.1) 116 y26.2.2.2.2.2.2.2.1) 117 y26.2.2.2.2.2.2.2.2)))))
  else
  (if (r0 1) = 7 then
  (fDy_copyFrom (g49.1 119) (g49.1 120) (g49.1 121) (g49.1 122) (g49.1 123) (g49.1 124) (g49.1 125) (g49.1 126) (g49.1 127) r1 r1_0 r1_1 r1_2 r1_3 r1_4 r1_5 r1_6 r1_7).bind (fun (y30 : (Nat → Int32) × (Nat → Int32) × (Nat → Int32) × (Nat → Int32) × (Nat → Int32) × (Nat → Int32) × (Nat → Int32) × (Nat → Int32) × (Nat → Int32)) =>
  zlet (zup r0 1 (((r0 1) + 1) - ((r0 1) + 1) / 8 * 8)) (fun (r0v31 : Nat → Int32) =>
  zlet (zup r0v31 2 (if ((r0v31 2) + 1) < (8 : Int32) then ((r0v31 2) + 1) else (8 : Int32))) (fun (r0v32 : Nat → Int32) =>
  some (r0v32, (zui (zui (zui (zui (zui (zui (zui (zui (zui g49 119 y30.1) 120 y30.2.1) 121 y30.2.2.1) 122 y30.2.2.2.1) 123 y30.2.2.2.2.1) 124 y30.2.2.2.2.2.1) 125 y30.2.2.2.2.2.2.1) 126 y30.2.2.2.2.2.2.2.1) 127 y30.2.2.2.2.2.2.2.2)))))
  else
  some (r0, g49)))))))))

set_option maxRecDepth 20000 in
theorem TX3_add_47_15 (Γ : zG) {Q : Option Value → zM → Prop} (M : zM) (r0 : Nat → Int32) (r1 : Nat → Int32) (r1_0 : Nat → Int32) (r1_1 : Nat → Int32) (r1_2 : Nat → Int32) (r1_3 : Nat → Int32) (r1_4 : Nat → Int32) (r1_5 : Nat → Int32) (r1_6 : Nat → Int32) (r1_7 : Nat → Int32) (g49 : zM) (e_i47 : M.1 47 = r0) (e_i15 : M.1 15 = r1) (e_i16 : M.1 16 = r1_0) (e_i17 : M.1 17 = r1_1) (e_i18 : M.1 18 = r1_2) (e_i19 : M.1 19 = r1_3) (e_i20 : M.1 20 = r1_4) (e_i21 : M.1 21 = r1_5) (e_i22 : M.1 22 = r1_6) (e_i23 : M.1 23 = r1_7) (e_h49 : zeq M 49 129 g49)  {res : (Nat → Int32) × zM} (hy : (fHi_add r0 r1 r1_0 r1_1 r1_2 r1_3 r1_4 r1_5 r1_6 r1_7 g49) = some res) (hq : Q none (zub (zui M 47 res.1) 49 129 res.2)) : zR Γ 3 YX3_add 0 [(0, .ref (zad Γ 47)), (1, .ref (zad Γ 15))] [] M Q := by
  unfold fHi_add at hy
  refine zj_mem (N := (zub M 49 129 g49)) (zself_h e_h49 rfl) ?_
  refine zj_aload_n (pc' := 1) 0 dX3_add_0 rfl rfl rfl ?_
  refine zj_aload_n (pc' := 2) 0 dX3_add_1 rfl rfl rfl ?_
  refine zj_fI (pc' := 5) dX3_add_2 rfl flX3_20 sh47 rfl (zr_b rfl e_i47) rfl ?_
  rcases Decidable.em ((r0 1) = 0) with c1 | c1
  · have hy := zt_t hy c1
    refine zj_V1 (pc' := 8) (z := YX3_dayIn) (As := [.int (r0 1)]) (N := (zub M 49 129 g49)) dX3_add_5 rfl mlX3_23 lkX3_dayIn sh47 ⟨_, _, rfl⟩ rfl rfl (Nat.le_of_ble_eq_true rfl) (Nat.le_of_ble_eq_true rfl) (LDX3_dayIn_0 Γ _ (r0 1) c1) rfl ?_
    refine zj_astore_n (pc' := 9) (L' := [(2, .ref (zad Γ 49)), (0, .ref (zad Γ 47)), (1, .ref (zad Γ 15))]) dX3_add_8 rfl rfl (by decide) rfl ?_
    refine zj_aload_n (pc' := 10) 0 dX3_add_9 rfl rfl rfl ?_
    refine zj_ifnull (pc' := 13) dX3_add_10 rfl ?_
    refine zj_aload_n (pc' := 14) 0 dX3_add_13 rfl rfl rfl ?_
    refine zj_aload_n (pc' := 15) 2 dX3_add_14 rfl rfl rfl ?_
    obtain ⟨y2, hy2, hy⟩ := zt_b hy
    refine zj_V0 (pc' := 18) (z := YX1_copyFrom) (As := [.ref (zad Γ 15)]) (N := (zub M 49 129 (zui (zui (zui (zui (zui (zui (zui (zui (zui g49 49 y2.1) 50 y2.2.1) 51 y2.2.2.1) 52 y2.2.2.2.1) 53 y2.2.2.2.2.1) 54 y2.2.2.2.2.2.1) 55 y2.2.2.2.2.2.2.1) 56 y2.2.2.2.2.2.2.2.1) 57 y2.2.2.2.2.2.2.2.2))) dX3_add_15 rfl mlX3_27 lkX1_copyFrom sh49 ⟨_, _, rfl⟩ rfl rfl (Nat.le_of_ble_eq_true rfl) (Nat.le_of_ble_eq_true rfl) (LX1_copyFrom_49_15 Γ _ (g49.1 49) (g49.1 50) (g49.1 51) (g49.1 52) (g49.1 53) (g49.1 54) (g49.1 55) (g49.1 56) (g49.1 57) r1 r1_0 r1_1 r1_2 r1_3 r1_4 r1_5 r1_6 r1_7 (zr_in rfl rfl) (zr_in rfl rfl) (zr_in rfl rfl) (zr_in rfl rfl) (zr_in rfl rfl) (zr_in rfl rfl) (zr_in rfl rfl) (zr_in rfl rfl) (zr_in rfl rfl) (zr_b rfl e_i15) (zr_b rfl e_i16) (zr_b rfl e_i17) (zr_b rfl e_i18) (zr_b rfl e_i19) (zr_b rfl e_i20) (zr_b rfl e_i21) (zr_b rfl e_i22) (zr_b rfl e_i23) hy2) ((zch_i (zch_i (zch_i (zch_i (zch_i (zch_i (zch_i (zch_i (zm_in rfl rfl) (zm_in rfl rfl)) (zm_in rfl rfl)) (zm_in rfl rfl)) (zm_in rfl rfl)) (zm_in rfl rfl)) (zm_in rfl rfl)) (zm_in rfl rfl)) (zm_in rfl rfl))).symm ?_
    refine zj_aload_n (pc' := 19) 1 dX3_add_18 rfl rfl rfl ?_
    refine zj_aload_n (pc' := 20) 1 dX3_add_19 rfl rfl rfl ?_
    refine zj_fI (pc' := 23) dX3_add_20 rfl flX3_20 sh47 rfl (zr_b rfl e_i47) rfl ?_
    refine zj_iconst (pc' := 24) dX3_add_23 rfl kiconst_1 ?_
    refine zj_iadd (pc' := 25) dX3_add_24 rfl ?_
    refine zj_bipush (pc' := 27) dX3_add_25 rfl kbipush_8 ?_
    refine zj_irem (pc' := 28) dX3_add_27 rfl (by decide) ?_
    obtain ⟨r0v3, er0v3⟩ : ∃ z, z = (zup r0 1 (((r0 1) + 1) - ((r0 1) + 1) / 8 * 8)) := ⟨_, rfl⟩
    have hy := zlet_at er0v3 hy
    refine zj_pI (pc' := 31) (N := (zub (zui M 47 r0v3) 49 129 (zui (zui (zui (zui (zui (zui (zui (zui (zui g49 49 y2.1) 50 y2.2.1) 51 y2.2.2.1) 52 y2.2.2.2.1) 53 y2.2.2.2.2.1) 54 y2.2.2.2.2.2.1) 55 y2.2.2.2.2.2.2.1) 56 y2.2.2.2.2.2.2.2.1) 57 y2.2.2.2.2.2.2.2.2))) dX3_add_28 rfl fpX3_20 sh47 rfl (zr_b rfl e_i47) er0v3 (zm_b rfl rfl) ?_
    refine zj_aload_n (pc' := 32) 1 dX3_add_31 rfl rfl rfl ?_
    refine zj_bipush (pc' := 34) dX3_add_32 rfl kbipush_8 ?_
    refine zj_aload_n (pc' := 35) 1 dX3_add_34 rfl rfl rfl ?_
    refine zj_fI (pc' := 38) dX3_add_35 rfl flX3_16 sh47 rfl (zr_b rfl zr_s) rfl ?_
    refine zj_iconst (pc' := 39) dX3_add_38 rfl kiconst_1 ?_
    refine zj_iadd (pc' := 40) dX3_add_39 rfl ?_
    refine zj_mmin (pc' := 43) dX3_add_40 rfl mlX3_31 zmminw (Nat.le_of_ble_eq_true rfl) (Nat.le_of_ble_eq_true rfl) ?_
    obtain ⟨r0v4, er0v4⟩ : ∃ z, z = (zup r0v3 2 (if ((r0v3 2) + 1) < (8 : Int32) then ((r0v3 2) + 1) else (8 : Int32))) := ⟨_, rfl⟩
    have hy := zlet_at er0v4 hy
    refine zj_pI (pc' := 46) (N := (zub (zui M 47 r0v4) 49 129 (zui (zui (zui (zui (zui (zui (zui (zui (zui g49 49 y2.1) 50 y2.2.1) 51 y2.2.2.1) 52 y2.2.2.2.1) 53 y2.2.2.2.2.1) 54 y2.2.2.2.2.2.1) 55 y2.2.2.2.2.2.2.1) 56 y2.2.2.2.2.2.2.2.1) 57 y2.2.2.2.2.2.2.2.2))) dX3_add_43 rfl fpX3_16 sh47 rfl (zr_b rfl zr_s) er0v4 (zm_b rfl zm_s) ?_
    have e9 := Option.some.inj hy
    subst e9
    exact zj_vret dX3_add_46 rfl hq
  · have hy := zt_f hy c1
    rcases Decidable.em ((r0 1) = 1) with c5 | c5
    · have hy := zt_t hy c5
      refine zj_V1 (pc' := 8) (z := YX3_dayIn) (As := [.int (r0 1)]) (N := (zub M 49 129 g49)) dX3_add_5 rfl mlX3_23 lkX3_dayIn sh47 ⟨_, _, rfl⟩ rfl rfl (Nat.le_of_ble_eq_true rfl) (Nat.le_of_ble_eq_true rfl) (LDX3_dayIn_1 Γ _ (r0 1) c5) rfl ?_
      refine zj_astore_n (pc' := 9) (L' := [(2, .ref (zad Γ 59)), (0, .ref (zad Γ 47)), (1, .ref (zad Γ 15))]) dX3_add_8 rfl rfl (by decide) rfl ?_
      refine zj_aload_n (pc' := 10) 0 dX3_add_9 rfl rfl rfl ?_
      refine zj_ifnull (pc' := 13) dX3_add_10 rfl ?_
      refine zj_aload_n (pc' := 14) 0 dX3_add_13 rfl rfl rfl ?_
      refine zj_aload_n (pc' := 15) 2 dX3_add_14 rfl rfl rfl ?_
      obtain ⟨y6, hy6, hy⟩ := zt_b hy
      refine zj_V0 (pc' := 18) (z := YX1_copyFrom) (As := [.ref (zad Γ 15)]) (N := (zub M 49 129 (zui (zui (zui (zui (zui (zui (zui (zui (zui g49 59 y6.1) 60 y6.2.1) 61 y6.2.2.1) 62 y6.2.2.2.1) 63 y6.2.2.2.2.1) 64 y6.2.2.2.2.2.1) 65 y6.2.2.2.2.2.2.1) 66 y6.2.2.2.2.2.2.2.1) 67 y6.2.2.2.2.2.2.2.2))) dX3_add_15 rfl mlX3_27 lkX1_copyFrom sh59 ⟨_, _, rfl⟩ rfl rfl (Nat.le_of_ble_eq_true rfl) (Nat.le_of_ble_eq_true rfl) (LX1_copyFrom_59_15 Γ _ (g49.1 59) (g49.1 60) (g49.1 61) (g49.1 62) (g49.1 63) (g49.1 64) (g49.1 65) (g49.1 66) (g49.1 67) r1 r1_0 r1_1 r1_2 r1_3 r1_4 r1_5 r1_6 r1_7 (zr_in rfl rfl) (zr_in rfl rfl) (zr_in rfl rfl) (zr_in rfl rfl) (zr_in rfl rfl) (zr_in rfl rfl) (zr_in rfl rfl) (zr_in rfl rfl) (zr_in rfl rfl) (zr_b rfl e_i15) (zr_b rfl e_i16) (zr_b rfl e_i17) (zr_b rfl e_i18) (zr_b rfl e_i19) (zr_b rfl e_i20) (zr_b rfl e_i21) (zr_b rfl e_i22) (zr_b rfl e_i23) hy6) ((zch_i (zch_i (zch_i (zch_i (zch_i (zch_i (zch_i (zch_i (zm_in rfl rfl) (zm_in rfl rfl)) (zm_in rfl rfl)) (zm_in rfl rfl)) (zm_in rfl rfl)) (zm_in rfl rfl)) (zm_in rfl rfl)) (zm_in rfl rfl)) (zm_in rfl rfl))).symm ?_
      refine zj_aload_n (pc' := 19) 1 dX3_add_18 rfl rfl rfl ?_
      refine zj_aload_n (pc' := 20) 1 dX3_add_19 rfl rfl rfl ?_
      refine zj_fI (pc' := 23) dX3_add_20 rfl flX3_20 sh47 rfl (zr_b rfl e_i47) rfl ?_
      refine zj_iconst (pc' := 24) dX3_add_23 rfl kiconst_1 ?_
      refine zj_iadd (pc' := 25) dX3_add_24 rfl ?_
      refine zj_bipush (pc' := 27) dX3_add_25 rfl kbipush_8 ?_
      refine zj_irem (pc' := 28) dX3_add_27 rfl (by decide) ?_
      obtain ⟨r0v7, er0v7⟩ : ∃ z, z = (zup r0 1 (((r0 1) + 1) - ((r0 1) + 1) / 8 * 8)) := ⟨_, rfl⟩
      have hy := zlet_at er0v7 hy
      refine zj_pI (pc' := 31) (N := (zub (zui M 47 r0v7) 49 129 (zui (zui (zui (zui (zui (zui (zui (zui (zui g49 59 y6.1) 60 y6.2.1) 61 y6.2.2.1) 62 y6.2.2.2.1) 63 y6.2.2.2.2.1) 64 y6.2.2.2.2.2.1) 65 y6.2.2.2.2.2.2.1) 66 y6.2.2.2.2.2.2.2.1) 67 y6.2.2.2.2.2.2.2.2))) dX3_add_28 rfl fpX3_20 sh47 rfl (zr_b rfl e_i47) er0v7 (zm_b rfl rfl) ?_
      refine zj_aload_n (pc' := 32) 1 dX3_add_31 rfl rfl rfl ?_
      refine zj_bipush (pc' := 34) dX3_add_32 rfl kbipush_8 ?_
      refine zj_aload_n (pc' := 35) 1 dX3_add_34 rfl rfl rfl ?_
      refine zj_fI (pc' := 38) dX3_add_35 rfl flX3_16 sh47 rfl (zr_b rfl zr_s) rfl ?_
      refine zj_iconst (pc' := 39) dX3_add_38 rfl kiconst_1 ?_
      refine zj_iadd (pc' := 40) dX3_add_39 rfl ?_
      refine zj_mmin (pc' := 43) dX3_add_40 rfl mlX3_31 zmminw (Nat.le_of_ble_eq_true rfl) (Nat.le_of_ble_eq_true rfl) ?_
      obtain ⟨r0v8, er0v8⟩ : ∃ z, z = (zup r0v7 2 (if ((r0v7 2) + 1) < (8 : Int32) then ((r0v7 2) + 1) else (8 : Int32))) := ⟨_, rfl⟩
      have hy := zlet_at er0v8 hy
      refine zj_pI (pc' := 46) (N := (zub (zui M 47 r0v8) 49 129 (zui (zui (zui (zui (zui (zui (zui (zui (zui g49 59 y6.1) 60 y6.2.1) 61 y6.2.2.1) 62 y6.2.2.2.1) 63 y6.2.2.2.2.1) 64 y6.2.2.2.2.2.1) 65 y6.2.2.2.2.2.2.1) 66 y6.2.2.2.2.2.2.2.1) 67 y6.2.2.2.2.2.2.2.2))) dX3_add_43 rfl fpX3_16 sh47 rfl (zr_b rfl zr_s) er0v8 (zm_b rfl zm_s) ?_
      have e9 := Option.some.inj hy
      subst e9
      exact zj_vret dX3_add_46 rfl hq
    · have hy := zt_f hy c5
      rcases Decidable.em ((r0 1) = 2) with c9 | c9
      · have hy := zt_t hy c9
        refine zj_V1 (pc' := 8) (z := YX3_dayIn) (As := [.int (r0 1)]) (N := (zub M 49 129 g49)) dX3_add_5 rfl mlX3_23 lkX3_dayIn sh47 ⟨_, _, rfl⟩ rfl rfl (Nat.le_of_ble_eq_true rfl) (Nat.le_of_ble_eq_true rfl) (LDX3_dayIn_2 Γ _ (r0 1) c9) rfl ?_
        refine zj_astore_n (pc' := 9) (L' := [(2, .ref (zad Γ 69)), (0, .ref (zad Γ 47)), (1, .ref (zad Γ 15))]) dX3_add_8 rfl rfl (by decide) rfl ?_
        refine zj_aload_n (pc' := 10) 0 dX3_add_9 rfl rfl rfl ?_
        refine zj_ifnull (pc' := 13) dX3_add_10 rfl ?_
        refine zj_aload_n (pc' := 14) 0 dX3_add_13 rfl rfl rfl ?_
        refine zj_aload_n (pc' := 15) 2 dX3_add_14 rfl rfl rfl ?_
        obtain ⟨y10, hy10, hy⟩ := zt_b hy
        refine zj_V0 (pc' := 18) (z := YX1_copyFrom) (As := [.ref (zad Γ 15)]) (N := (zub M 49 129 (zui (zui (zui (zui (zui (zui (zui (zui (zui g49 69 y10.1) 70 y10.2.1) 71 y10.2.2.1) 72 y10.2.2.2.1) 73 y10.2.2.2.2.1) 74 y10.2.2.2.2.2.1) 75 y10.2.2.2.2.2.2.1) 76 y10.2.2.2.2.2.2.2.1) 77 y10.2.2.2.2.2.2.2.2))) dX3_add_15 rfl mlX3_27 lkX1_copyFrom sh69 ⟨_, _, rfl⟩ rfl rfl (Nat.le_of_ble_eq_true rfl) (Nat.le_of_ble_eq_true rfl) (LX1_copyFrom_69_15 Γ _ (g49.1 69) (g49.1 70) (g49.1 71) (g49.1 72) (g49.1 73) (g49.1 74) (g49.1 75) (g49.1 76) (g49.1 77) r1 r1_0 r1_1 r1_2 r1_3 r1_4 r1_5 r1_6 r1_7 (zr_in rfl rfl) (zr_in rfl rfl) (zr_in rfl rfl) (zr_in rfl rfl) (zr_in rfl rfl) (zr_in rfl rfl) (zr_in rfl rfl) (zr_in rfl rfl) (zr_in rfl rfl) (zr_b rfl e_i15) (zr_b rfl e_i16) (zr_b rfl e_i17) (zr_b rfl e_i18) (zr_b rfl e_i19) (zr_b rfl e_i20) (zr_b rfl e_i21) (zr_b rfl e_i22) (zr_b rfl e_i23) hy10) ((zch_i (zch_i (zch_i (zch_i (zch_i (zch_i (zch_i (zch_i (zm_in rfl rfl) (zm_in rfl rfl)) (zm_in rfl rfl)) (zm_in rfl rfl)) (zm_in rfl rfl)) (zm_in rfl rfl)) (zm_in rfl rfl)) (zm_in rfl rfl)) (zm_in rfl rfl))).symm ?_
        refine zj_aload_n (pc' := 19) 1 dX3_add_18 rfl rfl rfl ?_
        refine zj_aload_n (pc' := 20) 1 dX3_add_19 rfl rfl rfl ?_
        refine zj_fI (pc' := 23) dX3_add_20 rfl flX3_20 sh47 rfl (zr_b rfl e_i47) rfl ?_
        refine zj_iconst (pc' := 24) dX3_add_23 rfl kiconst_1 ?_
        refine zj_iadd (pc' := 25) dX3_add_24 rfl ?_
        refine zj_bipush (pc' := 27) dX3_add_25 rfl kbipush_8 ?_
        refine zj_irem (pc' := 28) dX3_add_27 rfl (by decide) ?_
        obtain ⟨r0v11, er0v11⟩ : ∃ z, z = (zup r0 1 (((r0 1) + 1) - ((r0 1) + 1) / 8 * 8)) := ⟨_, rfl⟩
        have hy := zlet_at er0v11 hy
        refine zj_pI (pc' := 31) (N := (zub (zui M 47 r0v11) 49 129 (zui (zui (zui (zui (zui (zui (zui (zui (zui g49 69 y10.1) 70 y10.2.1) 71 y10.2.2.1) 72 y10.2.2.2.1) 73 y10.2.2.2.2.1) 74 y10.2.2.2.2.2.1) 75 y10.2.2.2.2.2.2.1) 76 y10.2.2.2.2.2.2.2.1) 77 y10.2.2.2.2.2.2.2.2))) dX3_add_28 rfl fpX3_20 sh47 rfl (zr_b rfl e_i47) er0v11 (zm_b rfl rfl) ?_
        refine zj_aload_n (pc' := 32) 1 dX3_add_31 rfl rfl rfl ?_
        refine zj_bipush (pc' := 34) dX3_add_32 rfl kbipush_8 ?_
        refine zj_aload_n (pc' := 35) 1 dX3_add_34 rfl rfl rfl ?_
        refine zj_fI (pc' := 38) dX3_add_35 rfl flX3_16 sh47 rfl (zr_b rfl zr_s) rfl ?_
        refine zj_iconst (pc' := 39) dX3_add_38 rfl kiconst_1 ?_
        refine zj_iadd (pc' := 40) dX3_add_39 rfl ?_
        refine zj_mmin (pc' := 43) dX3_add_40 rfl mlX3_31 zmminw (Nat.le_of_ble_eq_true rfl) (Nat.le_of_ble_eq_true rfl) ?_
        obtain ⟨r0v12, er0v12⟩ : ∃ z, z = (zup r0v11 2 (if ((r0v11 2) + 1) < (8 : Int32) then ((r0v11 2) + 1) else (8 : Int32))) := ⟨_, rfl⟩
        have hy := zlet_at er0v12 hy
        refine zj_pI (pc' := 46) (N := (zub (zui M 47 r0v12) 49 129 (zui (zui (zui (zui (zui (zui (zui (zui (zui g49 69 y10.1) 70 y10.2.1) 71 y10.2.2.1) 72 y10.2.2.2.1) 73 y10.2.2.2.2.1) 74 y10.2.2.2.2.2.1) 75 y10.2.2.2.2.2.2.1) 76 y10.2.2.2.2.2.2.2.1) 77 y10.2.2.2.2.2.2.2.2))) dX3_add_43 rfl fpX3_16 sh47 rfl (zr_b rfl zr_s) er0v12 (zm_b rfl zm_s) ?_
        have e9 := Option.some.inj hy
        subst e9
        exact zj_vret dX3_add_46 rfl hq
      · have hy := zt_f hy c9
        rcases Decidable.em ((r0 1) = 3) with c13 | c13
        · have hy := zt_t hy c13
          refine zj_V1 (pc' := 8) (z := YX3_dayIn) (As := [.int (r0 1)]) (N := (zub M 49 129 g49)) dX3_add_5 rfl mlX3_23 lkX3_dayIn sh47 ⟨_, _, rfl⟩ rfl rfl (Nat.le_of_ble_eq_true rfl) (Nat.le_of_ble_eq_true rfl) (LDX3_dayIn_3 Γ _ (r0 1) c13) rfl ?_
          refine zj_astore_n (pc' := 9) (L' := [(2, .ref (zad Γ 79)), (0, .ref (zad Γ 47)), (1, .ref (zad Γ 15))]) dX3_add_8 rfl rfl (by decide) rfl ?_
          refine zj_aload_n (pc' := 10) 0 dX3_add_9 rfl rfl rfl ?_
          refine zj_ifnull (pc' := 13) dX3_add_10 rfl ?_
          refine zj_aload_n (pc' := 14) 0 dX3_add_13 rfl rfl rfl ?_
          refine zj_aload_n (pc' := 15) 2 dX3_add_14 rfl rfl rfl ?_
          obtain ⟨y14, hy14, hy⟩ := zt_b hy
          refine zj_V0 (pc' := 18) (z := YX1_copyFrom) (As := [.ref (zad Γ 15)]) (N := (zub M 49 129 (zui (zui (zui (zui (zui (zui (zui (zui (zui g49 79 y14.1) 80 y14.2.1) 81 y14.2.2.1) 82 y14.2.2.2.1) 83 y14.2.2.2.2.1) 84 y14.2.2.2.2.2.1) 85 y14.2.2.2.2.2.2.1) 86 y14.2.2.2.2.2.2.2.1) 87 y14.2.2.2.2.2.2.2.2))) dX3_add_15 rfl mlX3_27 lkX1_copyFrom sh79 ⟨_, _, rfl⟩ rfl rfl (Nat.le_of_ble_eq_true rfl) (Nat.le_of_ble_eq_true rfl) (LX1_copyFrom_79_15 Γ _ (g49.1 79) (g49.1 80) (g49.1 81) (g49.1 82) (g49.1 83) (g49.1 84) (g49.1 85) (g49.1 86) (g49.1 87) r1 r1_0 r1_1 r1_2 r1_3 r1_4 r1_5 r1_6 r1_7 (zr_in rfl rfl) (zr_in rfl rfl) (zr_in rfl rfl) (zr_in rfl rfl) (zr_in rfl rfl) (zr_in rfl rfl) (zr_in rfl rfl) (zr_in rfl rfl) (zr_in rfl rfl) (zr_b rfl e_i15) (zr_b rfl e_i16) (zr_b rfl e_i17) (zr_b rfl e_i18) (zr_b rfl e_i19) (zr_b rfl e_i20) (zr_b rfl e_i21) (zr_b rfl e_i22) (zr_b rfl e_i23) hy14) ((zch_i (zch_i (zch_i (zch_i (zch_i (zch_i (zch_i (zch_i (zm_in rfl rfl) (zm_in rfl rfl)) (zm_in rfl rfl)) (zm_in rfl rfl)) (zm_in rfl rfl)) (zm_in rfl rfl)) (zm_in rfl rfl)) (zm_in rfl rfl)) (zm_in rfl rfl))).symm ?_
          refine zj_aload_n (pc' := 19) 1 dX3_add_18 rfl rfl rfl ?_
          refine zj_aload_n (pc' := 20) 1 dX3_add_19 rfl rfl rfl ?_
          refine zj_fI (pc' := 23) dX3_add_20 rfl flX3_20 sh47 rfl (zr_b rfl e_i47) rfl ?_
          refine zj_iconst (pc' := 24) dX3_add_23 rfl kiconst_1 ?_
          refine zj_iadd (pc' := 25) dX3_add_24 rfl ?_
          refine zj_bipush (pc' := 27) dX3_add_25 rfl kbipush_8 ?_
          refine zj_irem (pc' := 28) dX3_add_27 rfl (by decide) ?_
          obtain ⟨r0v15, er0v15⟩ : ∃ z, z = (zup r0 1 (((r0 1) + 1) - ((r0 1) + 1) / 8 * 8)) := ⟨_, rfl⟩
          have hy := zlet_at er0v15 hy
          refine zj_pI (pc' := 31) (N := (zub (zui M 47 r0v15) 49 129 (zui (zui (zui (zui (zui (zui (zui (zui (zui g49 79 y14.1) 80 y14.2.1) 81 y14.2.2.1) 82 y14.2.2.2.1) 83 y14.2.2.2.2.1) 84 y14.2.2.2.2.2.1) 85 y14.2.2.2.2.2.2.1) 86 y14.2.2.2.2.2.2.2.1) 87 y14.2.2.2.2.2.2.2.2))) dX3_add_28 rfl fpX3_20 sh47 rfl (zr_b rfl e_i47) er0v15 (zm_b rfl rfl) ?_
          refine zj_aload_n (pc' := 32) 1 dX3_add_31 rfl rfl rfl ?_
          refine zj_bipush (pc' := 34) dX3_add_32 rfl kbipush_8 ?_
          refine zj_aload_n (pc' := 35) 1 dX3_add_34 rfl rfl rfl ?_
          refine zj_fI (pc' := 38) dX3_add_35 rfl flX3_16 sh47 rfl (zr_b rfl zr_s) rfl ?_
          refine zj_iconst (pc' := 39) dX3_add_38 rfl kiconst_1 ?_
          refine zj_iadd (pc' := 40) dX3_add_39 rfl ?_
          refine zj_mmin (pc' := 43) dX3_add_40 rfl mlX3_31 zmminw (Nat.le_of_ble_eq_true rfl) (Nat.le_of_ble_eq_true rfl) ?_
          obtain ⟨r0v16, er0v16⟩ : ∃ z, z = (zup r0v15 2 (if ((r0v15 2) + 1) < (8 : Int32) then ((r0v15 2) + 1) else (8 : Int32))) := ⟨_, rfl⟩
          have hy := zlet_at er0v16 hy
          refine zj_pI (pc' := 46) (N := (zub (zui M 47 r0v16) 49 129 (zui (zui (zui (zui (zui (zui (zui (zui (zui g49 79 y14.1) 80 y14.2.1) 81 y14.2.2.1) 82 y14.2.2.2.1) 83 y14.2.2.2.2.1) 84 y14.2.2.2.2.2.1) 85 y14.2.2.2.2.2.2.1) 86 y14.2.2.2.2.2.2.2.1) 87 y14.2.2.2.2.2.2.2.2))) dX3_add_43 rfl fpX3_16 sh47 rfl (zr_b rfl zr_s) er0v16 (zm_b rfl zm_s) ?_
          have e9 := Option.some.inj hy
          subst e9
          exact zj_vret dX3_add_46 rfl hq
        · have hy := zt_f hy c13
          rcases Decidable.em ((r0 1) = 4) with c17 | c17
          · have hy := zt_t hy c17
            refine zj_V1 (pc' := 8) (z := YX3_dayIn) (As := [.int (r0 1)]) (N := (zub M 49 129 g49)) dX3_add_5 rfl mlX3_23 lkX3_dayIn sh47 ⟨_, _, rfl⟩ rfl rfl (Nat.le_of_ble_eq_true rfl) (Nat.le_of_ble_eq_true rfl) (LDX3_dayIn_4 Γ _ (r0 1) c17) rfl ?_
            refine zj_astore_n (pc' := 9) (L' := [(2, .ref (zad Γ 89)), (0, .ref (zad Γ 47)), (1, .ref (zad Γ 15))]) dX3_add_8 rfl rfl (by decide) rfl ?_
            refine zj_aload_n (pc' := 10) 0 dX3_add_9 rfl rfl rfl ?_
            refine zj_ifnull (pc' := 13) dX3_add_10 rfl ?_
            refine zj_aload_n (pc' := 14) 0 dX3_add_13 rfl rfl rfl ?_
            refine zj_aload_n (pc' := 15) 2 dX3_add_14 rfl rfl rfl ?_
            obtain ⟨y18, hy18, hy⟩ := zt_b hy
            refine zj_V0 (pc' := 18) (z := YX1_copyFrom) (As := [.ref (zad Γ 15)]) (N := (zub M 49 129 (zui (zui (zui (zui (zui (zui (zui (zui (zui g49 89 y18.1) 90 y18.2.1) 91 y18.2.2.1) 92 y18.2.2.2.1) 93 y18.2.2.2.2.1) 94 y18.2.2.2.2.2.1) 95 y18.2.2.2.2.2.2.1) 96 y18.2.2.2.2.2.2.2.1) 97 y18.2.2.2.2.2.2.2.2))) dX3_add_15 rfl mlX3_27 lkX1_copyFrom sh89 ⟨_, _, rfl⟩ rfl rfl (Nat.le_of_ble_eq_true rfl) (Nat.le_of_ble_eq_true rfl) (LX1_copyFrom_89_15 Γ _ (g49.1 89) (g49.1 90) (g49.1 91) (g49.1 92) (g49.1 93) (g49.1 94) (g49.1 95) (g49.1 96) (g49.1 97) r1 r1_0 r1_1 r1_2 r1_3 r1_4 r1_5 r1_6 r1_7 (zr_in rfl rfl) (zr_in rfl rfl) (zr_in rfl rfl) (zr_in rfl rfl) (zr_in rfl rfl) (zr_in rfl rfl) (zr_in rfl rfl) (zr_in rfl rfl) (zr_in rfl rfl) (zr_b rfl e_i15) (zr_b rfl e_i16) (zr_b rfl e_i17) (zr_b rfl e_i18) (zr_b rfl e_i19) (zr_b rfl e_i20) (zr_b rfl e_i21) (zr_b rfl e_i22) (zr_b rfl e_i23) hy18) ((zch_i (zch_i (zch_i (zch_i (zch_i (zch_i (zch_i (zch_i (zm_in rfl rfl) (zm_in rfl rfl)) (zm_in rfl rfl)) (zm_in rfl rfl)) (zm_in rfl rfl)) (zm_in rfl rfl)) (zm_in rfl rfl)) (zm_in rfl rfl)) (zm_in rfl rfl))).symm ?_
            refine zj_aload_n (pc' := 19) 1 dX3_add_18 rfl rfl rfl ?_
            refine zj_aload_n (pc' := 20) 1 dX3_add_19 rfl rfl rfl ?_
            refine zj_fI (pc' := 23) dX3_add_20 rfl flX3_20 sh47 rfl (zr_b rfl e_i47) rfl ?_
            refine zj_iconst (pc' := 24) dX3_add_23 rfl kiconst_1 ?_
            refine zj_iadd (pc' := 25) dX3_add_24 rfl ?_
            refine zj_bipush (pc' := 27) dX3_add_25 rfl kbipush_8 ?_
            refine zj_irem (pc' := 28) dX3_add_27 rfl (by decide) ?_
            obtain ⟨r0v19, er0v19⟩ : ∃ z, z = (zup r0 1 (((r0 1) + 1) - ((r0 1) + 1) / 8 * 8)) := ⟨_, rfl⟩
            have hy := zlet_at er0v19 hy
            refine zj_pI (pc' := 31) (N := (zub (zui M 47 r0v19) 49 129 (zui (zui (zui (zui (zui (zui (zui (zui (zui g49 89 y18.1) 90 y18.2.1) 91 y18.2.2.1) 92 y18.2.2.2.1) 93 y18.2.2.2.2.1) 94 y18.2.2.2.2.2.1) 95 y18.2.2.2.2.2.2.1) 96 y18.2.2.2.2.2.2.2.1) 97 y18.2.2.2.2.2.2.2.2))) dX3_add_28 rfl fpX3_20 sh47 rfl (zr_b rfl e_i47) er0v19 (zm_b rfl rfl) ?_
            refine zj_aload_n (pc' := 32) 1 dX3_add_31 rfl rfl rfl ?_
            refine zj_bipush (pc' := 34) dX3_add_32 rfl kbipush_8 ?_
            refine zj_aload_n (pc' := 35) 1 dX3_add_34 rfl rfl rfl ?_
            refine zj_fI (pc' := 38) dX3_add_35 rfl flX3_16 sh47 rfl (zr_b rfl zr_s) rfl ?_
            refine zj_iconst (pc' := 39) dX3_add_38 rfl kiconst_1 ?_
            refine zj_iadd (pc' := 40) dX3_add_39 rfl ?_
            refine zj_mmin (pc' := 43) dX3_add_40 rfl mlX3_31 zmminw (Nat.le_of_ble_eq_true rfl) (Nat.le_of_ble_eq_true rfl) ?_
            obtain ⟨r0v20, er0v20⟩ : ∃ z, z = (zup r0v19 2 (if ((r0v19 2) + 1) < (8 : Int32) then ((r0v19 2) + 1) else (8 : Int32))) := ⟨_, rfl⟩
            have hy := zlet_at er0v20 hy
            refine zj_pI (pc' := 46) (N := (zub (zui M 47 r0v20) 49 129 (zui (zui (zui (zui (zui (zui (zui (zui (zui g49 89 y18.1) 90 y18.2.1) 91 y18.2.2.1) 92 y18.2.2.2.1) 93 y18.2.2.2.2.1) 94 y18.2.2.2.2.2.1) 95 y18.2.2.2.2.2.2.1) 96 y18.2.2.2.2.2.2.2.1) 97 y18.2.2.2.2.2.2.2.2))) dX3_add_43 rfl fpX3_16 sh47 rfl (zr_b rfl zr_s) er0v20 (zm_b rfl zm_s) ?_
            have e9 := Option.some.inj hy
            subst e9
            exact zj_vret dX3_add_46 rfl hq
          · have hy := zt_f hy c17
            rcases Decidable.em ((r0 1) = 5) with c21 | c21
            · have hy := zt_t hy c21
              refine zj_V1 (pc' := 8) (z := YX3_dayIn) (As := [.int (r0 1)]) (N := (zub M 49 129 g49)) dX3_add_5 rfl mlX3_23 lkX3_dayIn sh47 ⟨_, _, rfl⟩ rfl rfl (Nat.le_of_ble_eq_true rfl) (Nat.le_of_ble_eq_true rfl) (LDX3_dayIn_5 Γ _ (r0 1) c21) rfl ?_
              refine zj_astore_n (pc' := 9) (L' := [(2, .ref (zad Γ 99)), (0, .ref (zad Γ 47)), (1, .ref (zad Γ 15))]) dX3_add_8 rfl rfl (by decide) rfl ?_
              refine zj_aload_n (pc' := 10) 0 dX3_add_9 rfl rfl rfl ?_
              refine zj_ifnull (pc' := 13) dX3_add_10 rfl ?_
              refine zj_aload_n (pc' := 14) 0 dX3_add_13 rfl rfl rfl ?_
              refine zj_aload_n (pc' := 15) 2 dX3_add_14 rfl rfl rfl ?_
              obtain ⟨y22, hy22, hy⟩ := zt_b hy
              refine zj_V0 (pc' := 18) (z := YX1_copyFrom) (As := [.ref (zad Γ 15)]) (N := (zub M 49 129 (zui (zui (zui (zui (zui (zui (zui (zui (zui g49 99 y22.1) 100 y22.2.1) 101 y22.2.2.1) 102 y22.2.2.2.1) 103 y22.2.2.2.2.1) 104 y22.2.2.2.2.2.1) 105 y22.2.2.2.2.2.2.1) 106 y22.2.2.2.2.2.2.2.1) 107 y22.2.2.2.2.2.2.2.2))) dX3_add_15 rfl mlX3_27 lkX1_copyFrom sh99 ⟨_, _, rfl⟩ rfl rfl (Nat.le_of_ble_eq_true rfl) (Nat.le_of_ble_eq_true rfl) (LX1_copyFrom_99_15 Γ _ (g49.1 99) (g49.1 100) (g49.1 101) (g49.1 102) (g49.1 103) (g49.1 104) (g49.1 105) (g49.1 106) (g49.1 107) r1 r1_0 r1_1 r1_2 r1_3 r1_4 r1_5 r1_6 r1_7 (zr_in rfl rfl) (zr_in rfl rfl) (zr_in rfl rfl) (zr_in rfl rfl) (zr_in rfl rfl) (zr_in rfl rfl) (zr_in rfl rfl) (zr_in rfl rfl) (zr_in rfl rfl) (zr_b rfl e_i15) (zr_b rfl e_i16) (zr_b rfl e_i17) (zr_b rfl e_i18) (zr_b rfl e_i19) (zr_b rfl e_i20) (zr_b rfl e_i21) (zr_b rfl e_i22) (zr_b rfl e_i23) hy22) ((zch_i (zch_i (zch_i (zch_i (zch_i (zch_i (zch_i (zch_i (zm_in rfl rfl) (zm_in rfl rfl)) (zm_in rfl rfl)) (zm_in rfl rfl)) (zm_in rfl rfl)) (zm_in rfl rfl)) (zm_in rfl rfl)) (zm_in rfl rfl)) (zm_in rfl rfl))).symm ?_
              refine zj_aload_n (pc' := 19) 1 dX3_add_18 rfl rfl rfl ?_
              refine zj_aload_n (pc' := 20) 1 dX3_add_19 rfl rfl rfl ?_
              refine zj_fI (pc' := 23) dX3_add_20 rfl flX3_20 sh47 rfl (zr_b rfl e_i47) rfl ?_
              refine zj_iconst (pc' := 24) dX3_add_23 rfl kiconst_1 ?_
              refine zj_iadd (pc' := 25) dX3_add_24 rfl ?_
              refine zj_bipush (pc' := 27) dX3_add_25 rfl kbipush_8 ?_
              refine zj_irem (pc' := 28) dX3_add_27 rfl (by decide) ?_
              obtain ⟨r0v23, er0v23⟩ : ∃ z, z = (zup r0 1 (((r0 1) + 1) - ((r0 1) + 1) / 8 * 8)) := ⟨_, rfl⟩
              have hy := zlet_at er0v23 hy
              refine zj_pI (pc' := 31) (N := (zub (zui M 47 r0v23) 49 129 (zui (zui (zui (zui (zui (zui (zui (zui (zui g49 99 y22.1) 100 y22.2.1) 101 y22.2.2.1) 102 y22.2.2.2.1) 103 y22.2.2.2.2.1) 104 y22.2.2.2.2.2.1) 105 y22.2.2.2.2.2.2.1) 106 y22.2.2.2.2.2.2.2.1) 107 y22.2.2.2.2.2.2.2.2))) dX3_add_28 rfl fpX3_20 sh47 rfl (zr_b rfl e_i47) er0v23 (zm_b rfl rfl) ?_
              refine zj_aload_n (pc' := 32) 1 dX3_add_31 rfl rfl rfl ?_
              refine zj_bipush (pc' := 34) dX3_add_32 rfl kbipush_8 ?_
              refine zj_aload_n (pc' := 35) 1 dX3_add_34 rfl rfl rfl ?_
              refine zj_fI (pc' := 38) dX3_add_35 rfl flX3_16 sh47 rfl (zr_b rfl zr_s) rfl ?_
              refine zj_iconst (pc' := 39) dX3_add_38 rfl kiconst_1 ?_
              refine zj_iadd (pc' := 40) dX3_add_39 rfl ?_
              refine zj_mmin (pc' := 43) dX3_add_40 rfl mlX3_31 zmminw (Nat.le_of_ble_eq_true rfl) (Nat.le_of_ble_eq_true rfl) ?_
              obtain ⟨r0v24, er0v24⟩ : ∃ z, z = (zup r0v23 2 (if ((r0v23 2) + 1) < (8 : Int32) then ((r0v23 2) + 1) else (8 : Int32))) := ⟨_, rfl⟩
              have hy := zlet_at er0v24 hy
              refine zj_pI (pc' := 46) (N := (zub (zui M 47 r0v24) 49 129 (zui (zui (zui (zui (zui (zui (zui (zui (zui g49 99 y22.1) 100 y22.2.1) 101 y22.2.2.1) 102 y22.2.2.2.1) 103 y22.2.2.2.2.1) 104 y22.2.2.2.2.2.1) 105 y22.2.2.2.2.2.2.1) 106 y22.2.2.2.2.2.2.2.1) 107 y22.2.2.2.2.2.2.2.2))) dX3_add_43 rfl fpX3_16 sh47 rfl (zr_b rfl zr_s) er0v24 (zm_b rfl zm_s) ?_
              have e9 := Option.some.inj hy
              subst e9
              exact zj_vret dX3_add_46 rfl hq
            · have hy := zt_f hy c21
              rcases Decidable.em ((r0 1) = 6) with c25 | c25
              · have hy := zt_t hy c25
                refine zj_V1 (pc' := 8) (z := YX3_dayIn) (As := [.int (r0 1)]) (N := (zub M 49 129 g49)) dX3_add_5 rfl mlX3_23 lkX3_dayIn sh47 ⟨_, _, rfl⟩ rfl rfl (Nat.le_of_ble_eq_true rfl) (Nat.le_of_ble_eq_true rfl) (LDX3_dayIn_6 Γ _ (r0 1) c25) rfl ?_
                refine zj_astore_n (pc' := 9) (L' := [(2, .ref (zad Γ 109)), (0, .ref (zad Γ 47)), (1, .ref (zad Γ 15))]) dX3_add_8 rfl rfl (by decide) rfl ?_
                refine zj_aload_n (pc' := 10) 0 dX3_add_9 rfl rfl rfl ?_
                refine zj_ifnull (pc' := 13) dX3_add_10 rfl ?_
                refine zj_aload_n (pc' := 14) 0 dX3_add_13 rfl rfl rfl ?_
                refine zj_aload_n (pc' := 15) 2 dX3_add_14 rfl rfl rfl ?_
                obtain ⟨y26, hy26, hy⟩ := zt_b hy
                refine zj_V0 (pc' := 18) (z := YX1_copyFrom) (As := [.ref (zad Γ 15)]) (N := (zub M 49 129 (zui (zui (zui (zui (zui (zui (zui (zui (zui g49 109 y26.1) 110 y26.2.1) 111 y26.2.2.1) 112 y26.2.2.2.1) 113 y26.2.2.2.2.1) 114 y26.2.2.2.2.2.1) 115 y26.2.2.2.2.2.2.1) 116 y26.2.2.2.2.2.2.2.1) 117 y26.2.2.2.2.2.2.2.2))) dX3_add_15 rfl mlX3_27 lkX1_copyFrom sh109 ⟨_, _, rfl⟩ rfl rfl (Nat.le_of_ble_eq_true rfl) (Nat.le_of_ble_eq_true rfl) (LX1_copyFrom_109_15 Γ _ (g49.1 109) (g49.1 110) (g49.1 111) (g49.1 112) (g49.1 113) (g49.1 114) (g49.1 115) (g49.1 116) (g49.1 117) r1 r1_0 r1_1 r1_2 r1_3 r1_4 r1_5 r1_6 r1_7 (zr_in rfl rfl) (zr_in rfl rfl) (zr_in rfl rfl) (zr_in rfl rfl) (zr_in rfl rfl) (zr_in rfl rfl) (zr_in rfl rfl) (zr_in rfl rfl) (zr_in rfl rfl) (zr_b rfl e_i15) (zr_b rfl e_i16) (zr_b rfl e_i17) (zr_b rfl e_i18) (zr_b rfl e_i19) (zr_b rfl e_i20) (zr_b rfl e_i21) (zr_b rfl e_i22) (zr_b rfl e_i23) hy26) ((zch_i (zch_i (zch_i (zch_i (zch_i (zch_i (zch_i (zch_i (zm_in rfl rfl) (zm_in rfl rfl)) (zm_in rfl rfl)) (zm_in rfl rfl)) (zm_in rfl rfl)) (zm_in rfl rfl)) (zm_in rfl rfl)) (zm_in rfl rfl)) (zm_in rfl rfl))).symm ?_
                refine zj_aload_n (pc' := 19) 1 dX3_add_18 rfl rfl rfl ?_
                refine zj_aload_n (pc' := 20) 1 dX3_add_19 rfl rfl rfl ?_
                refine zj_fI (pc' := 23) dX3_add_20 rfl flX3_20 sh47 rfl (zr_b rfl e_i47) rfl ?_
                refine zj_iconst (pc' := 24) dX3_add_23 rfl kiconst_1 ?_
                refine zj_iadd (pc' := 25) dX3_add_24 rfl ?_
                refine zj_bipush (pc' := 27) dX3_add_25 rfl kbipush_8 ?_
                refine zj_irem (pc' := 28) dX3_add_27 rfl (by decide) ?_
                obtain ⟨r0v27, er0v27⟩ : ∃ z, z = (zup r0 1 (((r0 1) + 1) - ((r0 1) + 1) / 8 * 8)) := ⟨_, rfl⟩
                have hy := zlet_at er0v27 hy
                refine zj_pI (pc' := 31) (N := (zub (zui M 47 r0v27) 49 129 (zui (zui (zui (zui (zui (zui (zui (zui (zui g49 109 y26.1) 110 y26.2.1) 111 y26.2.2.1) 112 y26.2.2.2.1) 113 y26.2.2.2.2.1) 114 y26.2.2.2.2.2.1) 115 y26.2.2.2.2.2.2.1) 116 y26.2.2.2.2.2.2.2.1) 117 y26.2.2.2.2.2.2.2.2))) dX3_add_28 rfl fpX3_20 sh47 rfl (zr_b rfl e_i47) er0v27 (zm_b rfl rfl) ?_
                refine zj_aload_n (pc' := 32) 1 dX3_add_31 rfl rfl rfl ?_
                refine zj_bipush (pc' := 34) dX3_add_32 rfl kbipush_8 ?_
                refine zj_aload_n (pc' := 35) 1 dX3_add_34 rfl rfl rfl ?_
                refine zj_fI (pc' := 38) dX3_add_35 rfl flX3_16 sh47 rfl (zr_b rfl zr_s) rfl ?_
                refine zj_iconst (pc' := 39) dX3_add_38 rfl kiconst_1 ?_
                refine zj_iadd (pc' := 40) dX3_add_39 rfl ?_
                refine zj_mmin (pc' := 43) dX3_add_40 rfl mlX3_31 zmminw (Nat.le_of_ble_eq_true rfl) (Nat.le_of_ble_eq_true rfl) ?_
                obtain ⟨r0v28, er0v28⟩ : ∃ z, z = (zup r0v27 2 (if ((r0v27 2) + 1) < (8 : Int32) then ((r0v27 2) + 1) else (8 : Int32))) := ⟨_, rfl⟩
                have hy := zlet_at er0v28 hy
                refine zj_pI (pc' := 46) (N := (zub (zui M 47 r0v28) 49 129 (zui (zui (zui (zui (zui (zui (zui (zui (zui g49 109 y26.1) 110 y26.2.1) 111 y26.2.2.1) 112 y26.2.2.2.1) 113 y26.2.2.2.2.1) 114 y26.2.2.2.2.2.1) 115 y26.2.2.2.2.2.2.1) 116 y26.2.2.2.2.2.2.2.1) 117 y26.2.2.2.2.2.2.2.2))) dX3_add_43 rfl fpX3_16 sh47 rfl (zr_b rfl zr_s) er0v28 (zm_b rfl zm_s) ?_
                have e9 := Option.some.inj hy
                subst e9
                exact zj_vret dX3_add_46 rfl hq
              · have hy := zt_f hy c25
                rcases Decidable.em ((r0 1) = 7) with c29 | c29
                · have hy := zt_t hy c29
                  refine zj_V1 (pc' := 8) (z := YX3_dayIn) (As := [.int (r0 1)]) (N := (zub M 49 129 g49)) dX3_add_5 rfl mlX3_23 lkX3_dayIn sh47 ⟨_, _, rfl⟩ rfl rfl (Nat.le_of_ble_eq_true rfl) (Nat.le_of_ble_eq_true rfl) (LDX3_dayIn_7 Γ _ (r0 1) c29) rfl ?_
                  refine zj_astore_n (pc' := 9) (L' := [(2, .ref (zad Γ 119)), (0, .ref (zad Γ 47)), (1, .ref (zad Γ 15))]) dX3_add_8 rfl rfl (by decide) rfl ?_
                  refine zj_aload_n (pc' := 10) 0 dX3_add_9 rfl rfl rfl ?_
                  refine zj_ifnull (pc' := 13) dX3_add_10 rfl ?_
                  refine zj_aload_n (pc' := 14) 0 dX3_add_13 rfl rfl rfl ?_
                  refine zj_aload_n (pc' := 15) 2 dX3_add_14 rfl rfl rfl ?_
                  obtain ⟨y30, hy30, hy⟩ := zt_b hy
                  refine zj_V0 (pc' := 18) (z := YX1_copyFrom) (As := [.ref (zad Γ 15)]) (N := (zub M 49 129 (zui (zui (zui (zui (zui (zui (zui (zui (zui g49 119 y30.1) 120 y30.2.1) 121 y30.2.2.1) 122 y30.2.2.2.1) 123 y30.2.2.2.2.1) 124 y30.2.2.2.2.2.1) 125 y30.2.2.2.2.2.2.1) 126 y30.2.2.2.2.2.2.2.1) 127 y30.2.2.2.2.2.2.2.2))) dX3_add_15 rfl mlX3_27 lkX1_copyFrom sh119 ⟨_, _, rfl⟩ rfl rfl (Nat.le_of_ble_eq_true rfl) (Nat.le_of_ble_eq_true rfl) (LX1_copyFrom_119_15 Γ _ (g49.1 119) (g49.1 120) (g49.1 121) (g49.1 122) (g49.1 123) (g49.1 124) (g49.1 125) (g49.1 126) (g49.1 127) r1 r1_0 r1_1 r1_2 r1_3 r1_4 r1_5 r1_6 r1_7 (zr_in rfl rfl) (zr_in rfl rfl) (zr_in rfl rfl) (zr_in rfl rfl) (zr_in rfl rfl) (zr_in rfl rfl) (zr_in rfl rfl) (zr_in rfl rfl) (zr_in rfl rfl) (zr_b rfl e_i15) (zr_b rfl e_i16) (zr_b rfl e_i17) (zr_b rfl e_i18) (zr_b rfl e_i19) (zr_b rfl e_i20) (zr_b rfl e_i21) (zr_b rfl e_i22) (zr_b rfl e_i23) hy30) ((zch_i (zch_i (zch_i (zch_i (zch_i (zch_i (zch_i (zch_i (zm_in rfl rfl) (zm_in rfl rfl)) (zm_in rfl rfl)) (zm_in rfl rfl)) (zm_in rfl rfl)) (zm_in rfl rfl)) (zm_in rfl rfl)) (zm_in rfl rfl)) (zm_in rfl rfl))).symm ?_
                  refine zj_aload_n (pc' := 19) 1 dX3_add_18 rfl rfl rfl ?_
                  refine zj_aload_n (pc' := 20) 1 dX3_add_19 rfl rfl rfl ?_
                  refine zj_fI (pc' := 23) dX3_add_20 rfl flX3_20 sh47 rfl (zr_b rfl e_i47) rfl ?_
                  refine zj_iconst (pc' := 24) dX3_add_23 rfl kiconst_1 ?_
                  refine zj_iadd (pc' := 25) dX3_add_24 rfl ?_
                  refine zj_bipush (pc' := 27) dX3_add_25 rfl kbipush_8 ?_
                  refine zj_irem (pc' := 28) dX3_add_27 rfl (by decide) ?_
                  obtain ⟨r0v31, er0v31⟩ : ∃ z, z = (zup r0 1 (((r0 1) + 1) - ((r0 1) + 1) / 8 * 8)) := ⟨_, rfl⟩
                  have hy := zlet_at er0v31 hy
                  refine zj_pI (pc' := 31) (N := (zub (zui M 47 r0v31) 49 129 (zui (zui (zui (zui (zui (zui (zui (zui (zui g49 119 y30.1) 120 y30.2.1) 121 y30.2.2.1) 122 y30.2.2.2.1) 123 y30.2.2.2.2.1) 124 y30.2.2.2.2.2.1) 125 y30.2.2.2.2.2.2.1) 126 y30.2.2.2.2.2.2.2.1) 127 y30.2.2.2.2.2.2.2.2))) dX3_add_28 rfl fpX3_20 sh47 rfl (zr_b rfl e_i47) er0v31 (zm_b rfl rfl) ?_
                  refine zj_aload_n (pc' := 32) 1 dX3_add_31 rfl rfl rfl ?_
                  refine zj_bipush (pc' := 34) dX3_add_32 rfl kbipush_8 ?_
                  refine zj_aload_n (pc' := 35) 1 dX3_add_34 rfl rfl rfl ?_
                  refine zj_fI (pc' := 38) dX3_add_35 rfl flX3_16 sh47 rfl (zr_b rfl zr_s) rfl ?_
                  refine zj_iconst (pc' := 39) dX3_add_38 rfl kiconst_1 ?_
                  refine zj_iadd (pc' := 40) dX3_add_39 rfl ?_
                  refine zj_mmin (pc' := 43) dX3_add_40 rfl mlX3_31 zmminw (Nat.le_of_ble_eq_true rfl) (Nat.le_of_ble_eq_true rfl) ?_
                  obtain ⟨r0v32, er0v32⟩ : ∃ z, z = (zup r0v31 2 (if ((r0v31 2) + 1) < (8 : Int32) then ((r0v31 2) + 1) else (8 : Int32))) := ⟨_, rfl⟩
                  have hy := zlet_at er0v32 hy
                  refine zj_pI (pc' := 46) (N := (zub (zui M 47 r0v32) 49 129 (zui (zui (zui (zui (zui (zui (zui (zui (zui g49 119 y30.1) 120 y30.2.1) 121 y30.2.2.1) 122 y30.2.2.2.1) 123 y30.2.2.2.2.1) 124 y30.2.2.2.2.2.1) 125 y30.2.2.2.2.2.2.1) 126 y30.2.2.2.2.2.2.2.1) 127 y30.2.2.2.2.2.2.2.2))) dX3_add_43 rfl fpX3_16 sh47 rfl (zr_b rfl zr_s) er0v32 (zm_b rfl zm_s) ?_
                  have e9 := Option.some.inj hy
                  subst e9
                  exact zj_vret dX3_add_46 rfl hq
                · have hy := zt_f hy c29
                  refine zj_V1 (pc' := 8) (z := YX3_dayIn) (As := [.int (r0 1)]) (N := (zub M 49 129 g49)) dX3_add_5 rfl mlX3_23 lkX3_dayIn sh47 ⟨_, _, rfl⟩ rfl rfl (Nat.le_of_ble_eq_true rfl) (Nat.le_of_ble_eq_true rfl) (LDX3_dayIn_n Γ _ (r0 1) c1 c5 c9 c13 c17 c21 c25 c29) rfl ?_
                  refine zj_astore_nN (pc' := 9) (L' := [(2, .null), (0, .ref (zad Γ 47)), (1, .ref (zad Γ 15))]) dX3_add_8 rfl rfl (by decide) rfl ?_
                  refine zj_aload_nN (pc' := 10) 0 dX3_add_9 rfl rfl rfl ?_
                  refine zj_ifnullN (tgt := 46) dX3_add_10 (by decide) ?_
                  have e9 := Option.some.inj hy
                  subst e9
                  refine zj_mem (N := (zub (zui M 47 r0) 49 129 g49)) (zself_i (zr_b rfl e_i47) (zm_b rfl rfl)) ?_
                  exact zj_vret dX3_add_46 rfl hq
set_option maxRecDepth 20000 in
theorem LX3_add_47_15 (Γ : zG) (M : zM) (r0 : Nat → Int32) (r1 : Nat → Int32) (r1_0 : Nat → Int32) (r1_1 : Nat → Int32) (r1_2 : Nat → Int32) (r1_3 : Nat → Int32) (r1_4 : Nat → Int32) (r1_5 : Nat → Int32) (r1_6 : Nat → Int32) (r1_7 : Nat → Int32) (g49 : zM) (e_i47 : M.1 47 = r0) (e_i15 : M.1 15 = r1) (e_i16 : M.1 16 = r1_0) (e_i17 : M.1 17 = r1_1) (e_i18 : M.1 18 = r1_2) (e_i19 : M.1 19 = r1_3) (e_i20 : M.1 20 = r1_4) (e_i21 : M.1 21 = r1_5) (e_i22 : M.1 22 = r1_6) (e_i23 : M.1 23 = r1_7) (e_h49 : zeq M 49 129 g49)  {res : (Nat → Int32) × zM} (hy : (fHi_add r0 r1 r1_0 r1_1 r1_2 r1_3 r1_4 r1_5 r1_6 r1_7 g49) = some res) : zK Γ 3 YX3_add [.ref (zad Γ 47), .ref (zad Γ 15)] M (fun v N => v = none ∧ N = (zub (zui M 47 res.1) 49 129 res.2)) :=
  zK_of (by decide) (Nat.le_of_ble_eq_true rfl) (TX3_add_47_15 Γ M r0 r1 r1_0 r1_1 r1_2 r1_3 r1_4 r1_5 r1_6 r1_7 g49 e_i47 e_i15 e_i16 e_i17 e_i18 e_i19 e_i20 e_i21 e_i22 e_i23 e_h49 hy ⟨rfl, rfl⟩)

noncomputable def fX_settle (r0_4 : Nat → Int32) (r0_4_0 : Nat → Int32) (r0_4_1 : Nat → Int32) (r0_4_2 : Nat → Int32) (r0_4_3 : Nat → Int32) (r0_4_4 : Nat → Int32) (r0_4_5 : Nat → Int32) (r0_4_6 : Nat → Int32) (r0_4_7 : Nat → Int32) (r0_5 : Nat → Int32) (r0_5_0 : Nat → Int32) (r0_5_1 : Nat → Int32) (r0_5_2 : Nat → Int32) (r0_5_3 : Nat → Int32) (r0_5_4 : Nat → Int32) (r0_5_5 : Nat → Int32) (r0_5_6 : Nat → Int32) (r0_5_7 : Nat → Int32) (r0_8 : Nat → Int32) (g49 : zM) (a1 : Int32) : Option ((Nat → Int32) × (Nat → Int32) × (Nat → Int32) × (Nat → Int32) × (Nat → Int32) × (Nat → Int32) × (Nat → Int32) × (Nat → Int32) × (Nat → Int32) × (Nat → Int32) × zM) :=
  (if a1 ≤ 0 then
  some (r0_4, r0_4_0, r0_4_1, r0_4_2, r0_4_3, r0_4_4, r0_4_5, r0_4_6, r0_4_7, r0_8, g49)
  else
  (fHi_add r0_8 r0_4 r0_4_0 r0_4_1 r0_4_2 r0_4_3 r0_4_4 r0_4_5 r0_4_6 r0_4_7 g49).bind (fun (y2 : (Nat → Int32) × zM) =>
  (fDy_copyFrom r0_4 r0_4_0 r0_4_1 r0_4_2 r0_4_3 r0_4_4 r0_4_5 r0_4_6 r0_4_7 r0_5 r0_5_0 r0_5_1 r0_5_2 r0_5_3 r0_5_4 r0_5_5 r0_5_6 r0_5_7).bind (fun (y3 : (Nat → Int32) × (Nat → Int32) × (Nat → Int32) × (Nat → Int32) × (Nat → Int32) × (Nat → Int32) × (Nat → Int32) × (Nat → Int32) × (Nat → Int32)) =>
  some (y3.1, y3.2.1, y3.2.2.1, y3.2.2.2.1, y3.2.2.2.2.1, y3.2.2.2.2.2.1, y3.2.2.2.2.2.2.1, y3.2.2.2.2.2.2.2.1, y3.2.2.2.2.2.2.2.2, y2.1, y2.2))))

set_option maxRecDepth 20000 in
theorem TX11_settle_0 (Γ : zG) {Q : Option Value → zM → Prop} (M : zM) (r0_4 : Nat → Int32) (r0_4_0 : Nat → Int32) (r0_4_1 : Nat → Int32) (r0_4_2 : Nat → Int32) (r0_4_3 : Nat → Int32) (r0_4_4 : Nat → Int32) (r0_4_5 : Nat → Int32) (r0_4_6 : Nat → Int32) (r0_4_7 : Nat → Int32) (r0_5 : Nat → Int32) (r0_5_0 : Nat → Int32) (r0_5_1 : Nat → Int32) (r0_5_2 : Nat → Int32) (r0_5_3 : Nat → Int32) (r0_5_4 : Nat → Int32) (r0_5_5 : Nat → Int32) (r0_5_6 : Nat → Int32) (r0_5_7 : Nat → Int32) (r0_8 : Nat → Int32) (g49 : zM) (e_i15 : M.1 15 = r0_4) (e_i16 : M.1 16 = r0_4_0) (e_i17 : M.1 17 = r0_4_1) (e_i18 : M.1 18 = r0_4_2) (e_i19 : M.1 19 = r0_4_3) (e_i20 : M.1 20 = r0_4_4) (e_i21 : M.1 21 = r0_4_5) (e_i22 : M.1 22 = r0_4_6) (e_i23 : M.1 23 = r0_4_7) (e_i25 : M.1 25 = r0_5) (e_i26 : M.1 26 = r0_5_0) (e_i27 : M.1 27 = r0_5_1) (e_i28 : M.1 28 = r0_5_2) (e_i29 : M.1 29 = r0_5_3) (e_i30 : M.1 30 = r0_5_4) (e_i31 : M.1 31 = r0_5_5) (e_i32 : M.1 32 = r0_5_6) (e_i33 : M.1 33 = r0_5_7) (e_i47 : M.1 47 = r0_8) (e_h49 : zeq M 49 129 g49) (a1 : Int32) {res : (Nat → Int32) × (Nat → Int32) × (Nat → Int32) × (Nat → Int32) × (Nat → Int32) × (Nat → Int32) × (Nat → Int32) × (Nat → Int32) × (Nat → Int32) × (Nat → Int32) × zM} (hy : (fX_settle r0_4 r0_4_0 r0_4_1 r0_4_2 r0_4_3 r0_4_4 r0_4_5 r0_4_6 r0_4_7 r0_5 r0_5_0 r0_5_1 r0_5_2 r0_5_3 r0_5_4 r0_5_5 r0_5_6 r0_5_7 r0_8 g49 a1) = some res) (hq : Q none (zub (zui (zui (zui (zui (zui (zui (zui (zui (zui (zui M 15 res.1) 16 res.2.1) 17 res.2.2.1) 18 res.2.2.2.1) 19 res.2.2.2.2.1) 20 res.2.2.2.2.2.1) 21 res.2.2.2.2.2.2.1) 22 res.2.2.2.2.2.2.2.1) 23 res.2.2.2.2.2.2.2.2.1) 47 res.2.2.2.2.2.2.2.2.2.1) 49 129 res.2.2.2.2.2.2.2.2.2.2)) : zR Γ 4 YX11_settle 0 [(0, .ref (zad Γ 0)), (1, .int a1)] [] M Q := by
  unfold fX_settle at hy
  refine zj_iload_n (pc' := 1) 1 dX11_settle_0 rfl rfl rfl ?_
  refine zj_if_le (tgt := 26) (pc' := 4) dX11_settle_1 rfl (by decide) (fun c1 => ?_) (fun c1 => ?_)
  · have hy := zt_t hy c1
    have e9 := Option.some.inj hy
    subst e9
    refine zj_mem (N := (zui M 15 r0_4)) (zself_i e_i15 rfl) ?_
    refine zj_mem (N := (zui (zui M 15 r0_4) 16 r0_4_0)) (zself_i (zr_n rfl e_i16) rfl) ?_
    refine zj_mem (N := (zui (zui (zui M 15 r0_4) 16 r0_4_0) 17 r0_4_1)) (zself_i (zr_n rfl (zr_n rfl e_i17)) rfl) ?_
    refine zj_mem (N := (zui (zui (zui (zui M 15 r0_4) 16 r0_4_0) 17 r0_4_1) 18 r0_4_2)) (zself_i (zr_n rfl (zr_n rfl (zr_n rfl e_i18))) rfl) ?_
    refine zj_mem (N := (zui (zui (zui (zui (zui M 15 r0_4) 16 r0_4_0) 17 r0_4_1) 18 r0_4_2) 19 r0_4_3)) (zself_i (zr_n rfl (zr_n rfl (zr_n rfl (zr_n rfl e_i19)))) rfl) ?_
    refine zj_mem (N := (zui (zui (zui (zui (zui (zui M 15 r0_4) 16 r0_4_0) 17 r0_4_1) 18 r0_4_2) 19 r0_4_3) 20 r0_4_4)) (zself_i (zr_n rfl (zr_n rfl (zr_n rfl (zr_n rfl (zr_n rfl e_i20))))) rfl) ?_
    refine zj_mem (N := (zui (zui (zui (zui (zui (zui (zui M 15 r0_4) 16 r0_4_0) 17 r0_4_1) 18 r0_4_2) 19 r0_4_3) 20 r0_4_4) 21 r0_4_5)) (zself_i (zr_n rfl (zr_n rfl (zr_n rfl (zr_n rfl (zr_n rfl (zr_n rfl e_i21)))))) rfl) ?_
    refine zj_mem (N := (zui (zui (zui (zui (zui (zui (zui (zui M 15 r0_4) 16 r0_4_0) 17 r0_4_1) 18 r0_4_2) 19 r0_4_3) 20 r0_4_4) 21 r0_4_5) 22 r0_4_6)) (zself_i (zr_n rfl (zr_n rfl (zr_n rfl (zr_n rfl (zr_n rfl (zr_n rfl (zr_n rfl e_i22))))))) rfl) ?_
    refine zj_mem (N := (zui (zui (zui (zui (zui (zui (zui (zui (zui M 15 r0_4) 16 r0_4_0) 17 r0_4_1) 18 r0_4_2) 19 r0_4_3) 20 r0_4_4) 21 r0_4_5) 22 r0_4_6) 23 r0_4_7)) (zself_i (zr_n rfl (zr_n rfl (zr_n rfl (zr_n rfl (zr_n rfl (zr_n rfl (zr_n rfl (zr_n rfl e_i23)))))))) rfl) ?_
    refine zj_mem (N := (zui (zui (zui (zui (zui (zui (zui (zui (zui (zui M 15 r0_4) 16 r0_4_0) 17 r0_4_1) 18 r0_4_2) 19 r0_4_3) 20 r0_4_4) 21 r0_4_5) 22 r0_4_6) 23 r0_4_7) 47 r0_8)) (zself_i (zr_n rfl (zr_n rfl (zr_n rfl (zr_n rfl (zr_n rfl (zr_n rfl (zr_n rfl (zr_n rfl (zr_n rfl e_i47))))))))) rfl) ?_
    refine zj_mem (N := (zub (zui (zui (zui (zui (zui (zui (zui (zui (zui (zui M 15 r0_4) 16 r0_4_0) 17 r0_4_1) 18 r0_4_2) 19 r0_4_3) 20 r0_4_4) 21 r0_4_5) 22 r0_4_6) 23 r0_4_7) 47 r0_8) 49 129 g49)) (zself_h (zeq_i rfl (zeq_i rfl (zeq_i rfl (zeq_i rfl (zeq_i rfl (zeq_i rfl (zeq_i rfl (zeq_i rfl (zeq_i rfl (zeq_i rfl e_h49)))))))))) rfl) ?_
    exact zj_vret dX11_settle_26 rfl hq
  · have hy := zt_f hy c1
    refine zj_aload_n (pc' := 5) 0 dX11_settle_4 rfl rfl rfl ?_
    refine zj_getR (pc' := 8) (j := 47) dX11_settle_5 rfl flX11_58 sh0 rfl ?_
    refine zj_aload_n (pc' := 9) 0 dX11_settle_8 rfl rfl rfl ?_
    refine zj_getR (pc' := 12) (j := 15) dX11_settle_9 rfl flX11_38 sh0 rfl ?_
    obtain ⟨y2, hy2, hy⟩ := zt_b hy
    refine zj_V0 (pc' := 15) (z := YX3_add) (As := [.ref (zad Γ 15)]) (N := (zub (zui M 47 y2.1) 49 129 y2.2)) dX11_settle_12 rfl mlX11_399 lkX3_add sh47 ⟨_, _, rfl⟩ rfl rfl (Nat.le_of_ble_eq_true rfl) (Nat.le_of_ble_eq_true rfl) (LX3_add_47_15 Γ _ r0_8 r0_4 r0_4_0 r0_4_1 r0_4_2 r0_4_3 r0_4_4 r0_4_5 r0_4_6 r0_4_7 g49 e_i47 e_i15 e_i16 e_i17 e_i18 e_i19 e_i20 e_i21 e_i22 e_i23 e_h49 hy2) ((zch_h rfl rfl)).symm ?_
    refine zj_aload_n (pc' := 16) 0 dX11_settle_15 rfl rfl rfl ?_
    refine zj_getR (pc' := 19) (j := 15) dX11_settle_16 rfl flX11_38 sh0 rfl ?_
    refine zj_aload_n (pc' := 20) 0 dX11_settle_19 rfl rfl rfl ?_
    refine zj_getR (pc' := 23) (j := 25) dX11_settle_20 rfl flX11_42 sh0 rfl ?_
    obtain ⟨y3, hy3, hy⟩ := zt_b hy
    refine zj_V0 (pc' := 26) (z := YX1_copyFrom) (As := [.ref (zad Γ 25)]) (N := (zub (zui (zui (zui (zui (zui (zui (zui (zui (zui (zui M 15 y3.1) 16 y3.2.1) 17 y3.2.2.1) 18 y3.2.2.2.1) 19 y3.2.2.2.2.1) 20 y3.2.2.2.2.2.1) 21 y3.2.2.2.2.2.2.1) 22 y3.2.2.2.2.2.2.2.1) 23 y3.2.2.2.2.2.2.2.2) 47 y2.1) 49 129 y2.2)) dX11_settle_23 rfl mlX11_151 lkX1_copyFrom sh15 ⟨_, _, rfl⟩ rfl rfl (Nat.le_of_ble_eq_true rfl) (Nat.le_of_ble_eq_true rfl) (LX1_copyFrom_15_25 Γ _ r0_4 r0_4_0 r0_4_1 r0_4_2 r0_4_3 r0_4_4 r0_4_5 r0_4_6 r0_4_7 r0_5 r0_5_0 r0_5_1 r0_5_2 r0_5_3 r0_5_4 r0_5_5 r0_5_6 r0_5_7 (zr_b rfl (zr_n rfl e_i15)) (zr_b rfl (zr_n rfl e_i16)) (zr_b rfl (zr_n rfl e_i17)) (zr_b rfl (zr_n rfl e_i18)) (zr_b rfl (zr_n rfl e_i19)) (zr_b rfl (zr_n rfl e_i20)) (zr_b rfl (zr_n rfl e_i21)) (zr_b rfl (zr_n rfl e_i22)) (zr_b rfl (zr_n rfl e_i23)) (zr_b rfl (zr_n rfl e_i25)) (zr_b rfl (zr_n rfl e_i26)) (zr_b rfl (zr_n rfl e_i27)) (zr_b rfl (zr_n rfl e_i28)) (zr_b rfl (zr_n rfl e_i29)) (zr_b rfl (zr_n rfl e_i30)) (zr_b rfl (zr_n rfl e_i31)) (zr_b rfl (zr_n rfl e_i32)) (zr_b rfl (zr_n rfl e_i33)) hy3) ((zch_i (zch_i (zch_i (zch_i (zch_i (zch_i (zch_i (zch_i (zm_b rfl (zm_n rfl rfl)) (zm_b rfl (zm_n rfl rfl))) (zm_b rfl (zm_n rfl rfl))) (zm_b rfl (zm_n rfl rfl))) (zm_b rfl (zm_n rfl rfl))) (zm_b rfl (zm_n rfl rfl))) (zm_b rfl (zm_n rfl rfl))) (zm_b rfl (zm_n rfl rfl))) (zm_b rfl (zm_n rfl rfl)))).symm ?_
    have e9 := Option.some.inj hy
    subst e9
    exact zj_vret dX11_settle_26 rfl hq
set_option maxRecDepth 20000 in
theorem LX11_settle_0 (Γ : zG) (M : zM) (r0_4 : Nat → Int32) (r0_4_0 : Nat → Int32) (r0_4_1 : Nat → Int32) (r0_4_2 : Nat → Int32) (r0_4_3 : Nat → Int32) (r0_4_4 : Nat → Int32) (r0_4_5 : Nat → Int32) (r0_4_6 : Nat → Int32) (r0_4_7 : Nat → Int32) (r0_5 : Nat → Int32) (r0_5_0 : Nat → Int32) (r0_5_1 : Nat → Int32) (r0_5_2 : Nat → Int32) (r0_5_3 : Nat → Int32) (r0_5_4 : Nat → Int32) (r0_5_5 : Nat → Int32) (r0_5_6 : Nat → Int32) (r0_5_7 : Nat → Int32) (r0_8 : Nat → Int32) (g49 : zM) (e_i15 : M.1 15 = r0_4) (e_i16 : M.1 16 = r0_4_0) (e_i17 : M.1 17 = r0_4_1) (e_i18 : M.1 18 = r0_4_2) (e_i19 : M.1 19 = r0_4_3) (e_i20 : M.1 20 = r0_4_4) (e_i21 : M.1 21 = r0_4_5) (e_i22 : M.1 22 = r0_4_6) (e_i23 : M.1 23 = r0_4_7) (e_i25 : M.1 25 = r0_5) (e_i26 : M.1 26 = r0_5_0) (e_i27 : M.1 27 = r0_5_1) (e_i28 : M.1 28 = r0_5_2) (e_i29 : M.1 29 = r0_5_3) (e_i30 : M.1 30 = r0_5_4) (e_i31 : M.1 31 = r0_5_5) (e_i32 : M.1 32 = r0_5_6) (e_i33 : M.1 33 = r0_5_7) (e_i47 : M.1 47 = r0_8) (e_h49 : zeq M 49 129 g49) (a1 : Int32) {res : (Nat → Int32) × (Nat → Int32) × (Nat → Int32) × (Nat → Int32) × (Nat → Int32) × (Nat → Int32) × (Nat → Int32) × (Nat → Int32) × (Nat → Int32) × (Nat → Int32) × zM} (hy : (fX_settle r0_4 r0_4_0 r0_4_1 r0_4_2 r0_4_3 r0_4_4 r0_4_5 r0_4_6 r0_4_7 r0_5 r0_5_0 r0_5_1 r0_5_2 r0_5_3 r0_5_4 r0_5_5 r0_5_6 r0_5_7 r0_8 g49 a1) = some res) : zK Γ 4 YX11_settle [.ref (zad Γ 0), .int a1] M (fun v N => v = none ∧ N = (zub (zui (zui (zui (zui (zui (zui (zui (zui (zui (zui M 15 res.1) 16 res.2.1) 17 res.2.2.1) 18 res.2.2.2.1) 19 res.2.2.2.2.1) 20 res.2.2.2.2.2.1) 21 res.2.2.2.2.2.2.1) 22 res.2.2.2.2.2.2.2.1) 23 res.2.2.2.2.2.2.2.2.1) 47 res.2.2.2.2.2.2.2.2.2.1) 49 129 res.2.2.2.2.2.2.2.2.2.2)) :=
  zK_of (by decide) (Nat.le_of_ble_eq_true rfl) (TX11_settle_0 Γ M r0_4 r0_4_0 r0_4_1 r0_4_2 r0_4_3 r0_4_4 r0_4_5 r0_4_6 r0_4_7 r0_5 r0_5_0 r0_5_1 r0_5_2 r0_5_3 r0_5_4 r0_5_5 r0_5_6 r0_5_7 r0_8 g49 e_i15 e_i16 e_i17 e_i18 e_i19 e_i20 e_i21 e_i22 e_i23 e_i25 e_i26 e_i27 e_i28 e_i29 e_i30 e_i31 e_i32 e_i33 e_i47 e_h49 a1 hy ⟨rfl, rfl⟩)

noncomputable def fX_settleIfDone (r0_4 : Nat → Int32) (r0_4_0 : Nat → Int32) (r0_4_1 : Nat → Int32) (r0_4_2 : Nat → Int32) (r0_4_3 : Nat → Int32) (r0_4_4 : Nat → Int32) (r0_4_5 : Nat → Int32) (r0_4_6 : Nat → Int32) (r0_4_7 : Nat → Int32) (r0_5 : Nat → Int32) (r0_5_0 : Nat → Int32) (r0_5_1 : Nat → Int32) (r0_5_2 : Nat → Int32) (r0_5_3 : Nat → Int32) (r0_5_4 : Nat → Int32) (r0_5_5 : Nat → Int32) (r0_5_6 : Nat → Int32) (r0_5_7 : Nat → Int32) (r0_8 : Nat → Int32) (g49 : zM) (a1 : Int32) : Option (Int32 × (Nat → Int32) × (Nat → Int32) × (Nat → Int32) × (Nat → Int32) × (Nat → Int32) × (Nat → Int32) × (Nat → Int32) × (Nat → Int32) × (Nat → Int32) × (Nat → Int32) × zM) :=
  (fX_settle r0_4 r0_4_0 r0_4_1 r0_4_2 r0_4_3 r0_4_4 r0_4_5 r0_4_6 r0_4_7 r0_5 r0_5_0 r0_5_1 r0_5_2 r0_5_3 r0_5_4 r0_5_5 r0_5_6 r0_5_7 r0_8 g49 (zb (if a1 = 0 then true else false))).bind (fun (y3 : (Nat → Int32) × (Nat → Int32) × (Nat → Int32) × (Nat → Int32) × (Nat → Int32) × (Nat → Int32) × (Nat → Int32) × (Nat → Int32) × (Nat → Int32) × (Nat → Int32) × zM) =>
  some (a1, y3.1, y3.2.1, y3.2.2.1, y3.2.2.2.1, y3.2.2.2.2.1, y3.2.2.2.2.2.1, y3.2.2.2.2.2.2.1, y3.2.2.2.2.2.2.2.1, y3.2.2.2.2.2.2.2.2.1, y3.2.2.2.2.2.2.2.2.2.1, y3.2.2.2.2.2.2.2.2.2.2))

set_option maxRecDepth 20000 in
theorem TX11_settleIfDone_0 (Γ : zG) {Q : Option Value → zM → Prop} (M : zM) (r0_4 : Nat → Int32) (r0_4_0 : Nat → Int32) (r0_4_1 : Nat → Int32) (r0_4_2 : Nat → Int32) (r0_4_3 : Nat → Int32) (r0_4_4 : Nat → Int32) (r0_4_5 : Nat → Int32) (r0_4_6 : Nat → Int32) (r0_4_7 : Nat → Int32) (r0_5 : Nat → Int32) (r0_5_0 : Nat → Int32) (r0_5_1 : Nat → Int32) (r0_5_2 : Nat → Int32) (r0_5_3 : Nat → Int32) (r0_5_4 : Nat → Int32) (r0_5_5 : Nat → Int32) (r0_5_6 : Nat → Int32) (r0_5_7 : Nat → Int32) (r0_8 : Nat → Int32) (g49 : zM) (e_i15 : M.1 15 = r0_4) (e_i16 : M.1 16 = r0_4_0) (e_i17 : M.1 17 = r0_4_1) (e_i18 : M.1 18 = r0_4_2) (e_i19 : M.1 19 = r0_4_3) (e_i20 : M.1 20 = r0_4_4) (e_i21 : M.1 21 = r0_4_5) (e_i22 : M.1 22 = r0_4_6) (e_i23 : M.1 23 = r0_4_7) (e_i25 : M.1 25 = r0_5) (e_i26 : M.1 26 = r0_5_0) (e_i27 : M.1 27 = r0_5_1) (e_i28 : M.1 28 = r0_5_2) (e_i29 : M.1 29 = r0_5_3) (e_i30 : M.1 30 = r0_5_4) (e_i31 : M.1 31 = r0_5_5) (e_i32 : M.1 32 = r0_5_6) (e_i33 : M.1 33 = r0_5_7) (e_i47 : M.1 47 = r0_8) (e_h49 : zeq M 49 129 g49) (a1 : Int32) {res : Int32 × (Nat → Int32) × (Nat → Int32) × (Nat → Int32) × (Nat → Int32) × (Nat → Int32) × (Nat → Int32) × (Nat → Int32) × (Nat → Int32) × (Nat → Int32) × (Nat → Int32) × zM} (hy : (fX_settleIfDone r0_4 r0_4_0 r0_4_1 r0_4_2 r0_4_3 r0_4_4 r0_4_5 r0_4_6 r0_4_7 r0_5 r0_5_0 r0_5_1 r0_5_2 r0_5_3 r0_5_4 r0_5_5 r0_5_6 r0_5_7 r0_8 g49 a1) = some res) (hq : Q (some (.int res.1)) (zub (zui (zui (zui (zui (zui (zui (zui (zui (zui (zui M 15 res.2.1) 16 res.2.2.1) 17 res.2.2.2.1) 18 res.2.2.2.2.1) 19 res.2.2.2.2.2.1) 20 res.2.2.2.2.2.2.1) 21 res.2.2.2.2.2.2.2.1) 22 res.2.2.2.2.2.2.2.2.1) 23 res.2.2.2.2.2.2.2.2.2.1) 47 res.2.2.2.2.2.2.2.2.2.2.1) 49 129 res.2.2.2.2.2.2.2.2.2.2.2)) : zR Γ 5 YX11_settleIfDone 0 [(0, .ref (zad Γ 0)), (1, .int a1)] [] M Q := by
  unfold fX_settleIfDone at hy
  refine zj_aload_n (pc' := 1) 0 dX11_settleIfDone_0 rfl rfl rfl ?_
  refine zj_iload_n (pc' := 2) 1 dX11_settleIfDone_1 rfl rfl rfl ?_
  have HJ1 : zR Γ 5 YX11_settleIfDone 10 [(0, .ref (zad Γ 0)), (1, .int a1)] [.int (zb (if a1 = 0 then true else false)), .ref (zad Γ 0)] M Q := by
    obtain ⟨y3, hy3, hy⟩ := zt_b hy
    refine zj_V0 (pc' := 13) (z := YX11_settle) (As := [.int (zb (if a1 = 0 then true else false))]) (N := (zub (zui (zui (zui (zui (zui (zui (zui (zui (zui (zui M 15 y3.1) 16 y3.2.1) 17 y3.2.2.1) 18 y3.2.2.2.1) 19 y3.2.2.2.2.1) 20 y3.2.2.2.2.2.1) 21 y3.2.2.2.2.2.2.1) 22 y3.2.2.2.2.2.2.2.1) 23 y3.2.2.2.2.2.2.2.2.1) 47 y3.2.2.2.2.2.2.2.2.2.1) 49 129 y3.2.2.2.2.2.2.2.2.2.2)) dX11_settleIfDone_10 rfl mlX11_262 lkX11_settle sh0 ⟨_, _, rfl⟩ rfl rfl (Nat.le_of_ble_eq_true rfl) (Nat.le_of_ble_eq_true rfl) (LX11_settle_0 Γ _ r0_4 r0_4_0 r0_4_1 r0_4_2 r0_4_3 r0_4_4 r0_4_5 r0_4_6 r0_4_7 r0_5 r0_5_0 r0_5_1 r0_5_2 r0_5_3 r0_5_4 r0_5_5 r0_5_6 r0_5_7 r0_8 g49 e_i15 e_i16 e_i17 e_i18 e_i19 e_i20 e_i21 e_i22 e_i23 e_i25 e_i26 e_i27 e_i28 e_i29 e_i30 e_i31 e_i32 e_i33 e_i47 e_h49 (zb (if a1 = 0 then true else false)) hy3) ((zch_h (zch_i (zch_i (zch_i (zch_i (zch_i (zch_i (zch_i (zch_i (zch_i rfl rfl) rfl) rfl) rfl) rfl) rfl) rfl) rfl) rfl) rfl)).symm ?_
    refine zj_iload_n (pc' := 14) 1 dX11_settleIfDone_13 rfl rfl rfl ?_
    have e9 := Option.some.inj hy
    subst e9
    exact zj_iret dX11_settleIfDone_14 rfl hq
  refine zj_if_ne (tgt := 9) (pc' := 5) dX11_settleIfDone_2 rfl (by decide) (fun c2 => ?_) (fun c2 => ?_)
  · refine zj_iconst (pc' := 10) dX11_settleIfDone_9 rfl kiconst_0 ?_
    exact zj_eqb (b := false) (if_neg c2) HJ1
  · refine zj_iconst (pc' := 6) dX11_settleIfDone_5 rfl kiconst_1 ?_
    refine zj_goto (tgt := 10) dX11_settleIfDone_6 (by decide) ?_
    exact zj_eqb (b := true) (if_pos c2) HJ1
set_option maxRecDepth 20000 in
theorem LX11_settleIfDone_0 (Γ : zG) (M : zM) (r0_4 : Nat → Int32) (r0_4_0 : Nat → Int32) (r0_4_1 : Nat → Int32) (r0_4_2 : Nat → Int32) (r0_4_3 : Nat → Int32) (r0_4_4 : Nat → Int32) (r0_4_5 : Nat → Int32) (r0_4_6 : Nat → Int32) (r0_4_7 : Nat → Int32) (r0_5 : Nat → Int32) (r0_5_0 : Nat → Int32) (r0_5_1 : Nat → Int32) (r0_5_2 : Nat → Int32) (r0_5_3 : Nat → Int32) (r0_5_4 : Nat → Int32) (r0_5_5 : Nat → Int32) (r0_5_6 : Nat → Int32) (r0_5_7 : Nat → Int32) (r0_8 : Nat → Int32) (g49 : zM) (e_i15 : M.1 15 = r0_4) (e_i16 : M.1 16 = r0_4_0) (e_i17 : M.1 17 = r0_4_1) (e_i18 : M.1 18 = r0_4_2) (e_i19 : M.1 19 = r0_4_3) (e_i20 : M.1 20 = r0_4_4) (e_i21 : M.1 21 = r0_4_5) (e_i22 : M.1 22 = r0_4_6) (e_i23 : M.1 23 = r0_4_7) (e_i25 : M.1 25 = r0_5) (e_i26 : M.1 26 = r0_5_0) (e_i27 : M.1 27 = r0_5_1) (e_i28 : M.1 28 = r0_5_2) (e_i29 : M.1 29 = r0_5_3) (e_i30 : M.1 30 = r0_5_4) (e_i31 : M.1 31 = r0_5_5) (e_i32 : M.1 32 = r0_5_6) (e_i33 : M.1 33 = r0_5_7) (e_i47 : M.1 47 = r0_8) (e_h49 : zeq M 49 129 g49) (a1 : Int32) {res : Int32 × (Nat → Int32) × (Nat → Int32) × (Nat → Int32) × (Nat → Int32) × (Nat → Int32) × (Nat → Int32) × (Nat → Int32) × (Nat → Int32) × (Nat → Int32) × (Nat → Int32) × zM} (hy : (fX_settleIfDone r0_4 r0_4_0 r0_4_1 r0_4_2 r0_4_3 r0_4_4 r0_4_5 r0_4_6 r0_4_7 r0_5 r0_5_0 r0_5_1 r0_5_2 r0_5_3 r0_5_4 r0_5_5 r0_5_6 r0_5_7 r0_8 g49 a1) = some res) : zK Γ 5 YX11_settleIfDone [.ref (zad Γ 0), .int a1] M (fun v N => v = some (.int res.1) ∧ N = (zub (zui (zui (zui (zui (zui (zui (zui (zui (zui (zui M 15 res.2.1) 16 res.2.2.1) 17 res.2.2.2.1) 18 res.2.2.2.2.1) 19 res.2.2.2.2.2.1) 20 res.2.2.2.2.2.2.1) 21 res.2.2.2.2.2.2.2.1) 22 res.2.2.2.2.2.2.2.2.1) 23 res.2.2.2.2.2.2.2.2.2.1) 47 res.2.2.2.2.2.2.2.2.2.2.1) 49 129 res.2.2.2.2.2.2.2.2.2.2.2)) :=
  zK_of (by decide) (Nat.le_of_ble_eq_true rfl) (TX11_settleIfDone_0 Γ M r0_4 r0_4_0 r0_4_1 r0_4_2 r0_4_3 r0_4_4 r0_4_5 r0_4_6 r0_4_7 r0_5 r0_5_0 r0_5_1 r0_5_2 r0_5_3 r0_5_4 r0_5_5 r0_5_6 r0_5_7 r0_8 g49 e_i15 e_i16 e_i17 e_i18 e_i19 e_i20 e_i21 e_i22 e_i23 e_i25 e_i26 e_i27 e_i28 e_i29 e_i30 e_i31 e_i32 e_i33 e_i47 e_h49 a1 hy ⟨rfl, rfl⟩)

noncomputable def fX_send (r0_2 : Nat → Int32) (r0_2_2 : Nat → Int32) (r0_4 : Nat → Int32) (r0_4_0 : Nat → Int32) (r0_4_1 : Nat → Int32) (r0_4_2 : Nat → Int32) (r0_4_3 : Nat → Int32) (r0_4_4 : Nat → Int32) (r0_4_5 : Nat → Int32) (r0_4_6 : Nat → Int32) (r0_4_7 : Nat → Int32) (r0_5 : Nat → Int32) (r0_5_0 : Nat → Int32) (r0_5_1 : Nat → Int32) (r0_5_2 : Nat → Int32) (r0_5_3 : Nat → Int32) (r0_5_4 : Nat → Int32) (r0_5_5 : Nat → Int32) (r0_5_6 : Nat → Int32) (r0_5_7 : Nat → Int32) (r0_8 : Nat → Int32) (g49 : zM) (a1 : Int32) (a2 : Int32) : Option (Int32 × (Nat → Int32) × (Nat → Int32) × (Nat → Int32) × (Nat → Int32) × (Nat → Int32) × (Nat → Int32) × (Nat → Int32) × (Nat → Int32) × (Nat → Int32) × (Nat → Int32) × (Nat → Int32) × (Nat → Int32) × (Nat → Int32) × (Nat → Int32) × (Nat → Int32) × (Nat → Int32) × (Nat → Int32) × (Nat → Int32) × (Nat → Int32) × zM) :=
  (if (fPl_hasPerson r0_2 a1) = true then
  (if (fPl_hasCorner r0_2 a2) = true then
  (fDy_copyFrom r0_5 r0_5_0 r0_5_1 r0_5_2 r0_5_3 r0_5_4 r0_5_5 r0_5_6 r0_5_7 r0_4 r0_4_0 r0_4_1 r0_4_2 r0_4_3 r0_4_4 r0_4_5 r0_4_6 r0_4_7).bind (fun (y3 : (Nat → Int32) × (Nat → Int32) × (Nat → Int32) × (Nat → Int32) × (Nat → Int32) × (Nat → Int32) × (Nat → Int32) × (Nat → Int32) × (Nat → Int32)) =>
  (fDy_goesTo y3.2.1 y3.2.2.2.1 y3.2.2.2.2.2.1 y3.2.2.2.2.2.2.1 r0_2 r0_2_2 a1 a2).bind (fun (y4 : Int32 × (Nat → Int32) × (Nat → Int32)) =>
  (fX_settleIfDone r0_4 r0_4_0 r0_4_1 r0_4_2 r0_4_3 r0_4_4 r0_4_5 r0_4_6 r0_4_7 y3.1 y3.2.1 y3.2.2.1 y3.2.2.2.1 y3.2.2.2.2.1 y4.2.1 y4.2.2 y3.2.2.2.2.2.2.2.1 y3.2.2.2.2.2.2.2.2 r0_8 g49 y4.1).bind (fun (y5 : Int32 × (Nat → Int32) × (Nat → Int32) × (Nat → Int32) × (Nat → Int32) × (Nat → Int32) × (Nat → Int32) × (Nat → Int32) × (Nat → Int32) × (Nat → Int32) × (Nat → Int32) × zM) =>
  some (y5.1, y5.2.1, y5.2.2.1, y5.2.2.2.1, y5.2.2.2.2.1, y5.2.2.2.2.2.1, y5.2.2.2.2.2.2.1, y5.2.2.2.2.2.2.2.1, y5.2.2.2.2.2.2.2.2.1, y5.2.2.2.2.2.2.2.2.2.1, y3.1, y3.2.1, y3.2.2.1, y3.2.2.2.1, y3.2.2.2.2.1, y4.2.1, y4.2.2, y3.2.2.2.2.2.2.2.1, y3.2.2.2.2.2.2.2.2, y5.2.2.2.2.2.2.2.2.2.2.1, y5.2.2.2.2.2.2.2.2.2.2.2))))
  else
  some ((-1), r0_4, r0_4_0, r0_4_1, r0_4_2, r0_4_3, r0_4_4, r0_4_5, r0_4_6, r0_4_7, r0_5, r0_5_0, r0_5_1, r0_5_2, r0_5_3, r0_5_4, r0_5_5, r0_5_6, r0_5_7, r0_8, g49))
  else
  some ((-1), r0_4, r0_4_0, r0_4_1, r0_4_2, r0_4_3, r0_4_4, r0_4_5, r0_4_6, r0_4_7, r0_5, r0_5_0, r0_5_1, r0_5_2, r0_5_3, r0_5_4, r0_5_5, r0_5_6, r0_5_7, r0_8, g49))

set_option maxRecDepth 20000 in
theorem TX11_send_0 (Γ : zG) {Q : Option Value → zM → Prop} (M : zM) (r0_2 : Nat → Int32) (r0_2_2 : Nat → Int32) (r0_4 : Nat → Int32) (r0_4_0 : Nat → Int32) (r0_4_1 : Nat → Int32) (r0_4_2 : Nat → Int32) (r0_4_3 : Nat → Int32) (r0_4_4 : Nat → Int32) (r0_4_5 : Nat → Int32) (r0_4_6 : Nat → Int32) (r0_4_7 : Nat → Int32) (r0_5 : Nat → Int32) (r0_5_0 : Nat → Int32) (r0_5_1 : Nat → Int32) (r0_5_2 : Nat → Int32) (r0_5_3 : Nat → Int32) (r0_5_4 : Nat → Int32) (r0_5_5 : Nat → Int32) (r0_5_6 : Nat → Int32) (r0_5_7 : Nat → Int32) (r0_8 : Nat → Int32) (g49 : zM) (e_i5 : M.1 5 = r0_2) (e_i8 : M.1 8 = r0_2_2) (e_i15 : M.1 15 = r0_4) (e_i16 : M.1 16 = r0_4_0) (e_i17 : M.1 17 = r0_4_1) (e_i18 : M.1 18 = r0_4_2) (e_i19 : M.1 19 = r0_4_3) (e_i20 : M.1 20 = r0_4_4) (e_i21 : M.1 21 = r0_4_5) (e_i22 : M.1 22 = r0_4_6) (e_i23 : M.1 23 = r0_4_7) (e_i25 : M.1 25 = r0_5) (e_i26 : M.1 26 = r0_5_0) (e_i27 : M.1 27 = r0_5_1) (e_i28 : M.1 28 = r0_5_2) (e_i29 : M.1 29 = r0_5_3) (e_i30 : M.1 30 = r0_5_4) (e_i31 : M.1 31 = r0_5_5) (e_i32 : M.1 32 = r0_5_6) (e_i33 : M.1 33 = r0_5_7) (e_i47 : M.1 47 = r0_8) (e_h49 : zeq M 49 129 g49) (a1 : Int32) (a2 : Int32) {res : Int32 × (Nat → Int32) × (Nat → Int32) × (Nat → Int32) × (Nat → Int32) × (Nat → Int32) × (Nat → Int32) × (Nat → Int32) × (Nat → Int32) × (Nat → Int32) × (Nat → Int32) × (Nat → Int32) × (Nat → Int32) × (Nat → Int32) × (Nat → Int32) × (Nat → Int32) × (Nat → Int32) × (Nat → Int32) × (Nat → Int32) × (Nat → Int32) × zM} (hy : (fX_send r0_2 r0_2_2 r0_4 r0_4_0 r0_4_1 r0_4_2 r0_4_3 r0_4_4 r0_4_5 r0_4_6 r0_4_7 r0_5 r0_5_0 r0_5_1 r0_5_2 r0_5_3 r0_5_4 r0_5_5 r0_5_6 r0_5_7 r0_8 g49 a1 a2) = some res) (hq : Q (some (.int res.1)) (zub (zui (zui (zui (zui (zui (zui (zui (zui (zui (zui (zui (zui (zui (zui (zui (zui (zui (zui (zui M 15 res.2.1) 16 res.2.2.1) 17 res.2.2.2.1) 18 res.2.2.2.2.1) 19 res.2.2.2.2.2.1) 20 res.2.2.2.2.2.2.1) 21 res.2.2.2.2.2.2.2.1) 22 res.2.2.2.2.2.2.2.2.1) 23 res.2.2.2.2.2.2.2.2.2.1) 25 res.2.2.2.2.2.2.2.2.2.2.1) 26 res.2.2.2.2.2.2.2.2.2.2.2.1) 27 res.2.2.2.2.2.2.2.2.2.2.2.2.1) 28 res.2.2.2.2.2.2.2.2.2.2.2.2.2.1) 29 res.2.2.2.2.2.2.2.2.2.2.2.2.2.2.1) 30 res.2.2.2.2.2.2.2.2.2.2.2.2.2.2.2.1) 31 res.2.2.2.2.2.2.2.2.2.2.2.2.2.2.2.2.1) 32 res.2.2.2.2.2.2.2.2.2.2.2.2.2.2.2.2.2.1) 33 res.2.2.2.2.2.2.2.2.2.2.2.2.2.2.2.2.2.2.1) 47 res.2.2.2.2.2.2.2.2.2.2.2.2.2.2.2.2.2.2.2.1) 49 129 res.2.2.2.2.2.2.2.2.2.2.2.2.2.2.2.2.2.2.2.2)) : zR Γ 6 YX11_send 0 [(0, .ref (zad Γ 0)), (1, .int a1), (2, .int a2)] [] M Q := by
  unfold fX_send at hy
  refine zj_aload_n (pc' := 1) 0 dX11_send_0 rfl rfl rfl ?_
  refine zj_getR (pc' := 4) (j := 5) dX11_send_1 rfl flX11_28 sh0 rfl ?_
  refine zj_iload_n (pc' := 5) 1 dX11_send_4 rfl rfl rfl ?_
  refine zj_V1 (pc' := 8) (z := YX7_hasPerson) (As := [.int a1]) (N := M) dX11_send_5 rfl mlX11_156 lkX7_hasPerson sh5 ⟨_, _, rfl⟩ rfl rfl (Nat.le_of_ble_eq_true rfl) (Nat.le_of_ble_eq_true rfl) (LX7_hasPerson_5 Γ _ r0_2 e_i5 a1 rfl) rfl ?_
  refine zj_bif_eq (tgt := 22) (pc' := 11) dX11_send_8 rfl (by decide) (fun c1 => ?_) (fun c1 => ?_)
  · have hy := zt_f hy c1
    refine zj_iconst (pc' := 23) dX11_send_22 rfl kiconst_m1 ?_
    have e9 := Option.some.inj hy
    subst e9
    refine zj_mem (N := (zui M 15 r0_4)) (zself_i e_i15 rfl) ?_
    refine zj_mem (N := (zui (zui M 15 r0_4) 16 r0_4_0)) (zself_i (zr_n rfl e_i16) rfl) ?_
    refine zj_mem (N := (zui (zui (zui M 15 r0_4) 16 r0_4_0) 17 r0_4_1)) (zself_i (zr_n rfl (zr_n rfl e_i17)) rfl) ?_
    refine zj_mem (N := (zui (zui (zui (zui M 15 r0_4) 16 r0_4_0) 17 r0_4_1) 18 r0_4_2)) (zself_i (zr_n rfl (zr_n rfl (zr_n rfl e_i18))) rfl) ?_
    refine zj_mem (N := (zui (zui (zui (zui (zui M 15 r0_4) 16 r0_4_0) 17 r0_4_1) 18 r0_4_2) 19 r0_4_3)) (zself_i (zr_n rfl (zr_n rfl (zr_n rfl (zr_n rfl e_i19)))) rfl) ?_
    refine zj_mem (N := (zui (zui (zui (zui (zui (zui M 15 r0_4) 16 r0_4_0) 17 r0_4_1) 18 r0_4_2) 19 r0_4_3) 20 r0_4_4)) (zself_i (zr_n rfl (zr_n rfl (zr_n rfl (zr_n rfl (zr_n rfl e_i20))))) rfl) ?_
    refine zj_mem (N := (zui (zui (zui (zui (zui (zui (zui M 15 r0_4) 16 r0_4_0) 17 r0_4_1) 18 r0_4_2) 19 r0_4_3) 20 r0_4_4) 21 r0_4_5)) (zself_i (zr_n rfl (zr_n rfl (zr_n rfl (zr_n rfl (zr_n rfl (zr_n rfl e_i21)))))) rfl) ?_
    refine zj_mem (N := (zui (zui (zui (zui (zui (zui (zui (zui M 15 r0_4) 16 r0_4_0) 17 r0_4_1) 18 r0_4_2) 19 r0_4_3) 20 r0_4_4) 21 r0_4_5) 22 r0_4_6)) (zself_i (zr_n rfl (zr_n rfl (zr_n rfl (zr_n rfl (zr_n rfl (zr_n rfl (zr_n rfl e_i22))))))) rfl) ?_
    refine zj_mem (N := (zui (zui (zui (zui (zui (zui (zui (zui (zui M 15 r0_4) 16 r0_4_0) 17 r0_4_1) 18 r0_4_2) 19 r0_4_3) 20 r0_4_4) 21 r0_4_5) 22 r0_4_6) 23 r0_4_7)) (zself_i (zr_n rfl (zr_n rfl (zr_n rfl (zr_n rfl (zr_n rfl (zr_n rfl (zr_n rfl (zr_n rfl e_i23)))))))) rfl) ?_
    refine zj_mem (N := (zui (zui (zui (zui (zui (zui (zui (zui (zui (zui M 15 r0_4) 16 r0_4_0) 17 r0_4_1) 18 r0_4_2) 19 r0_4_3) 20 r0_4_4) 21 r0_4_5) 22 r0_4_6) 23 r0_4_7) 25 r0_5)) (zself_i (zr_n rfl (zr_n rfl (zr_n rfl (zr_n rfl (zr_n rfl (zr_n rfl (zr_n rfl (zr_n rfl (zr_n rfl e_i25))))))))) rfl) ?_
    refine zj_mem (N := (zui (zui (zui (zui (zui (zui (zui (zui (zui (zui (zui M 15 r0_4) 16 r0_4_0) 17 r0_4_1) 18 r0_4_2) 19 r0_4_3) 20 r0_4_4) 21 r0_4_5) 22 r0_4_6) 23 r0_4_7) 25 r0_5) 26 r0_5_0)) (zself_i (zr_n rfl (zr_n rfl (zr_n rfl (zr_n rfl (zr_n rfl (zr_n rfl (zr_n rfl (zr_n rfl (zr_n rfl (zr_n rfl e_i26)))))))))) rfl) ?_
    refine zj_mem (N := (zui (zui (zui (zui (zui (zui (zui (zui (zui (zui (zui (zui M 15 r0_4) 16 r0_4_0) 17 r0_4_1) 18 r0_4_2) 19 r0_4_3) 20 r0_4_4) 21 r0_4_5) 22 r0_4_6) 23 r0_4_7) 25 r0_5) 26 r0_5_0) 27 r0_5_1)) (zself_i (zr_n rfl (zr_n rfl (zr_n rfl (zr_n rfl (zr_n rfl (zr_n rfl (zr_n rfl (zr_n rfl (zr_n rfl (zr_n rfl (zr_n rfl e_i27))))))))))) rfl) ?_
    refine zj_mem (N := (zui (zui (zui (zui (zui (zui (zui (zui (zui (zui (zui (zui (zui M 15 r0_4) 16 r0_4_0) 17 r0_4_1) 18 r0_4_2) 19 r0_4_3) 20 r0_4_4) 21 r0_4_5) 22 r0_4_6) 23 r0_4_7) 25 r0_5) 26 r0_5_0) 27 r0_5_1) 28 r0_5_2)) (zself_i (zr_n rfl (zr_n rfl (zr_n rfl (zr_n rfl (zr_n rfl (zr_n rfl (zr_n rfl (zr_n rfl (zr_n rfl (zr_n rfl (zr_n rfl (zr_n rfl e_i28)))))))))))) rfl) ?_
    refine zj_mem (N := (zui (zui (zui (zui (zui (zui (zui (zui (zui (zui (zui (zui (zui (zui M 15 r0_4) 16 r0_4_0) 17 r0_4_1) 18 r0_4_2) 19 r0_4_3) 20 r0_4_4) 21 r0_4_5) 22 r0_4_6) 23 r0_4_7) 25 r0_5) 26 r0_5_0) 27 r0_5_1) 28 r0_5_2) 29 r0_5_3)) (zself_i (zr_n rfl (zr_n rfl (zr_n rfl (zr_n rfl (zr_n rfl (zr_n rfl (zr_n rfl (zr_n rfl (zr_n rfl (zr_n rfl (zr_n rfl (zr_n rfl (zr_n rfl e_i29))))))))))))) rfl) ?_
    refine zj_mem (N := (zui (zui (zui (zui (zui (zui (zui (zui (zui (zui (zui (zui (zui (zui (zui M 15 r0_4) 16 r0_4_0) 17 r0_4_1) 18 r0_4_2) 19 r0_4_3) 20 r0_4_4) 21 r0_4_5) 22 r0_4_6) 23 r0_4_7) 25 r0_5) 26 r0_5_0) 27 r0_5_1) 28 r0_5_2) 29 r0_5_3) 30 r0_5_4)) (zself_i (zr_n rfl (zr_n rfl (zr_n rfl (zr_n rfl (zr_n rfl (zr_n rfl (zr_n rfl (zr_n rfl (zr_n rfl (zr_n rfl (zr_n rfl (zr_n rfl (zr_n rfl (zr_n rfl e_i30)))))))))))))) rfl) ?_
    refine zj_mem (N := (zui (zui (zui (zui (zui (zui (zui (zui (zui (zui (zui (zui (zui (zui (zui (zui M 15 r0_4) 16 r0_4_0) 17 r0_4_1) 18 r0_4_2) 19 r0_4_3) 20 r0_4_4) 21 r0_4_5) 22 r0_4_6) 23 r0_4_7) 25 r0_5) 26 r0_5_0) 27 r0_5_1) 28 r0_5_2) 29 r0_5_3) 30 r0_5_4) 31 r0_5_5)) (zself_i (zr_n rfl (zr_n rfl (zr_n rfl (zr_n rfl (zr_n rfl (zr_n rfl (zr_n rfl (zr_n rfl (zr_n rfl (zr_n rfl (zr_n rfl (zr_n rfl (zr_n rfl (zr_n rfl (zr_n rfl e_i31))))))))))))))) rfl) ?_
    refine zj_mem (N := (zui (zui (zui (zui (zui (zui (zui (zui (zui (zui (zui (zui (zui (zui (zui (zui (zui M 15 r0_4) 16 r0_4_0) 17 r0_4_1) 18 r0_4_2) 19 r0_4_3) 20 r0_4_4) 21 r0_4_5) 22 r0_4_6) 23 r0_4_7) 25 r0_5) 26 r0_5_0) 27 r0_5_1) 28 r0_5_2) 29 r0_5_3) 30 r0_5_4) 31 r0_5_5) 32 r0_5_6)) (zself_i (zr_n rfl (zr_n rfl (zr_n rfl (zr_n rfl (zr_n rfl (zr_n rfl (zr_n rfl (zr_n rfl (zr_n rfl (zr_n rfl (zr_n rfl (zr_n rfl (zr_n rfl (zr_n rfl (zr_n rfl (zr_n rfl e_i32)))))))))))))))) rfl) ?_
    refine zj_mem (N := (zui (zui (zui (zui (zui (zui (zui (zui (zui (zui (zui (zui (zui (zui (zui (zui (zui (zui M 15 r0_4) 16 r0_4_0) 17 r0_4_1) 18 r0_4_2) 19 r0_4_3) 20 r0_4_4) 21 r0_4_5) 22 r0_4_6) 23 r0_4_7) 25 r0_5) 26 r0_5_0) 27 r0_5_1) 28 r0_5_2) 29 r0_5_3) 30 r0_5_4) 31 r0_5_5) 32 r0_5_6) 33 r0_5_7)) (zself_i (zr_n rfl (zr_n rfl (zr_n rfl (zr_n rfl (zr_n rfl (zr_n rfl (zr_n rfl (zr_n rfl (zr_n rfl (zr_n rfl (zr_n rfl (zr_n rfl (zr_n rfl (zr_n rfl (zr_n rfl (zr_n rfl (zr_n rfl e_i33))))))))))))))))) rfl) ?_
    refine zj_mem (N := (zui (zui (zui (zui (zui (zui (zui (zui (zui (zui (zui (zui (zui (zui (zui (zui (zui (zui (zui M 15 r0_4) 16 r0_4_0) 17 r0_4_1) 18 r0_4_2) 19 r0_4_3) 20 r0_4_4) 21 r0_4_5) 22 r0_4_6) 23 r0_4_7) 25 r0_5) 26 r0_5_0) 27 r0_5_1) 28 r0_5_2) 29 r0_5_3) 30 r0_5_4) 31 r0_5_5) 32 r0_5_6) 33 r0_5_7) 47 r0_8)) (zself_i (zr_n rfl (zr_n rfl (zr_n rfl (zr_n rfl (zr_n rfl (zr_n rfl (zr_n rfl (zr_n rfl (zr_n rfl (zr_n rfl (zr_n rfl (zr_n rfl (zr_n rfl (zr_n rfl (zr_n rfl (zr_n rfl (zr_n rfl (zr_n rfl e_i47)))))))))))))))))) rfl) ?_
    refine zj_mem (N := (zub (zui (zui (zui (zui (zui (zui (zui (zui (zui (zui (zui (zui (zui (zui (zui (zui (zui (zui (zui M 15 r0_4) 16 r0_4_0) 17 r0_4_1) 18 r0_4_2) 19 r0_4_3) 20 r0_4_4) 21 r0_4_5) 22 r0_4_6) 23 r0_4_7) 25 r0_5) 26 r0_5_0) 27 r0_5_1) 28 r0_5_2) 29 r0_5_3) 30 r0_5_4) 31 r0_5_5) 32 r0_5_6) 33 r0_5_7) 47 r0_8) 49 129 g49)) (zself_h (zeq_i rfl (zeq_i rfl (zeq_i rfl (zeq_i rfl (zeq_i rfl (zeq_i rfl (zeq_i rfl (zeq_i rfl (zeq_i rfl (zeq_i rfl (zeq_i rfl (zeq_i rfl (zeq_i rfl (zeq_i rfl (zeq_i rfl (zeq_i rfl (zeq_i rfl (zeq_i rfl (zeq_i rfl e_h49))))))))))))))))))) rfl) ?_
    exact zj_iret dX11_send_23 rfl hq
  · have hy := zt_t hy c1
    refine zj_aload_n (pc' := 12) 0 dX11_send_11 rfl rfl rfl ?_
    refine zj_getR (pc' := 15) (j := 5) dX11_send_12 rfl flX11_28 sh0 rfl ?_
    refine zj_iload_n (pc' := 16) 2 dX11_send_15 rfl rfl rfl ?_
    refine zj_V1 (pc' := 19) (z := YX7_hasCorner) (As := [.int a2]) (N := M) dX11_send_16 rfl mlX11_192 lkX7_hasCorner sh5 ⟨_, _, rfl⟩ rfl rfl (Nat.le_of_ble_eq_true rfl) (Nat.le_of_ble_eq_true rfl) (LX7_hasCorner_5 Γ _ r0_2 e_i5 a2 rfl) rfl ?_
    refine zj_bif_ne (tgt := 24) (pc' := 22) dX11_send_19 rfl (by decide) (fun c2 => ?_) (fun c2 => ?_)
    · have hy := zt_t hy c2
      refine zj_aload_n (pc' := 25) 0 dX11_send_24 rfl rfl rfl ?_
      refine zj_getR (pc' := 28) (j := 25) dX11_send_25 rfl flX11_42 sh0 rfl ?_
      refine zj_aload_n (pc' := 29) 0 dX11_send_28 rfl rfl rfl ?_
      refine zj_getR (pc' := 32) (j := 15) dX11_send_29 rfl flX11_38 sh0 rfl ?_
      obtain ⟨y3, hy3, hy⟩ := zt_b hy
      refine zj_V0 (pc' := 35) (z := YX1_copyFrom) (As := [.ref (zad Γ 15)]) (N := (zui (zui (zui (zui (zui (zui (zui (zui (zui M 25 y3.1) 26 y3.2.1) 27 y3.2.2.1) 28 y3.2.2.2.1) 29 y3.2.2.2.2.1) 30 y3.2.2.2.2.2.1) 31 y3.2.2.2.2.2.2.1) 32 y3.2.2.2.2.2.2.2.1) 33 y3.2.2.2.2.2.2.2.2)) dX11_send_32 rfl mlX11_151 lkX1_copyFrom sh25 ⟨_, _, rfl⟩ rfl rfl (Nat.le_of_ble_eq_true rfl) (Nat.le_of_ble_eq_true rfl) (LX1_copyFrom_25_15 Γ _ r0_5 r0_5_0 r0_5_1 r0_5_2 r0_5_3 r0_5_4 r0_5_5 r0_5_6 r0_5_7 r0_4 r0_4_0 r0_4_1 r0_4_2 r0_4_3 r0_4_4 r0_4_5 r0_4_6 r0_4_7 e_i25 e_i26 e_i27 e_i28 e_i29 e_i30 e_i31 e_i32 e_i33 e_i15 e_i16 e_i17 e_i18 e_i19 e_i20 e_i21 e_i22 e_i23 hy3) ((zch_i (zch_i (zch_i (zch_i (zch_i (zch_i (zch_i (zch_i rfl rfl) rfl) rfl) rfl) rfl) rfl) rfl) rfl)).symm ?_
      refine zj_aload_n (pc' := 36) 0 dX11_send_35 rfl rfl rfl ?_
      refine zj_aload_n (pc' := 37) 0 dX11_send_36 rfl rfl rfl ?_
      refine zj_getR (pc' := 40) (j := 25) dX11_send_37 rfl flX11_42 sh0 rfl ?_
      refine zj_aload_n (pc' := 41) 0 dX11_send_40 rfl rfl rfl ?_
      refine zj_getR (pc' := 44) (j := 5) dX11_send_41 rfl flX11_28 sh0 rfl ?_
      refine zj_iload_n (pc' := 45) 1 dX11_send_44 rfl rfl rfl ?_
      refine zj_iload_n (pc' := 46) 2 dX11_send_45 rfl rfl rfl ?_
      obtain ⟨y4, hy4, hy⟩ := zt_b hy
      refine zj_V1 (pc' := 49) (z := YX1_goesTo) (As := [.ref (zad Γ 5), .int a1, .int a2]) (N := (zui (zui (zui (zui (zui (zui (zui (zui (zui M 25 y3.1) 26 y3.2.1) 27 y3.2.2.1) 28 y3.2.2.2.1) 29 y3.2.2.2.2.1) 30 y4.2.1) 31 y4.2.2) 32 y3.2.2.2.2.2.2.2.1) 33 y3.2.2.2.2.2.2.2.2)) dX11_send_46 rfl mlX11_233 lkX1_goesTo sh25 ⟨_, _, rfl⟩ rfl rfl (Nat.le_of_ble_eq_true rfl) (Nat.le_of_ble_eq_true rfl) (LX1_goesTo_25_5 Γ _ y3.2.1 y3.2.2.2.1 y3.2.2.2.2.2.1 y3.2.2.2.2.2.2.1 r0_2 r0_2_2 (zr_n rfl (zr_n rfl (zr_n rfl (zr_n rfl (zr_n rfl (zr_n rfl (zr_n rfl zr_s))))))) (zr_n rfl (zr_n rfl (zr_n rfl (zr_n rfl (zr_n rfl zr_s))))) (zr_n rfl (zr_n rfl (zr_n rfl zr_s))) (zr_n rfl (zr_n rfl zr_s)) (zr_n rfl (zr_n rfl (zr_n rfl (zr_n rfl (zr_n rfl (zr_n rfl (zr_n rfl (zr_n rfl (zr_n rfl e_i5))))))))) (zr_n rfl (zr_n rfl (zr_n rfl (zr_n rfl (zr_n rfl (zr_n rfl (zr_n rfl (zr_n rfl (zr_n rfl e_i8))))))))) a1 a2 hy4) ((zch_i (zm_n rfl (zm_n rfl (zm_n rfl zm_s))) (zm_n rfl (zm_n rfl zm_s)))).symm ?_
      obtain ⟨y5, hy5, hy⟩ := zt_b hy
      refine zj_V1 (pc' := 52) (z := YX11_settleIfDone) (As := [.int y4.1]) (N := (zub (zui (zui (zui (zui (zui (zui (zui (zui (zui (zui (zui (zui (zui (zui (zui (zui (zui (zui (zui M 15 y5.2.1) 16 y5.2.2.1) 17 y5.2.2.2.1) 18 y5.2.2.2.2.1) 19 y5.2.2.2.2.2.1) 20 y5.2.2.2.2.2.2.1) 21 y5.2.2.2.2.2.2.2.1) 22 y5.2.2.2.2.2.2.2.2.1) 23 y5.2.2.2.2.2.2.2.2.2.1) 25 y3.1) 26 y3.2.1) 27 y3.2.2.1) 28 y3.2.2.2.1) 29 y3.2.2.2.2.1) 30 y4.2.1) 31 y4.2.2) 32 y3.2.2.2.2.2.2.2.1) 33 y3.2.2.2.2.2.2.2.2) 47 y5.2.2.2.2.2.2.2.2.2.2.1) 49 129 y5.2.2.2.2.2.2.2.2.2.2.2)) dX11_send_49 rfl mlX11_237 lkX11_settleIfDone sh0 ⟨_, _, rfl⟩ rfl rfl (Nat.le_of_ble_eq_true rfl) (Nat.le_of_ble_eq_true rfl) (LX11_settleIfDone_0 Γ _ r0_4 r0_4_0 r0_4_1 r0_4_2 r0_4_3 r0_4_4 r0_4_5 r0_4_6 r0_4_7 y3.1 y3.2.1 y3.2.2.1 y3.2.2.2.1 y3.2.2.2.2.1 y4.2.1 y4.2.2 y3.2.2.2.2.2.2.2.1 y3.2.2.2.2.2.2.2.2 r0_8 g49 (zr_n rfl (zr_n rfl (zr_n rfl (zr_n rfl (zr_n rfl (zr_n rfl (zr_n rfl (zr_n rfl (zr_n rfl e_i15))))))))) (zr_n rfl (zr_n rfl (zr_n rfl (zr_n rfl (zr_n rfl (zr_n rfl (zr_n rfl (zr_n rfl (zr_n rfl e_i16))))))))) (zr_n rfl (zr_n rfl (zr_n rfl (zr_n rfl (zr_n rfl (zr_n rfl (zr_n rfl (zr_n rfl (zr_n rfl e_i17))))))))) (zr_n rfl (zr_n rfl (zr_n rfl (zr_n rfl (zr_n rfl (zr_n rfl (zr_n rfl (zr_n rfl (zr_n rfl e_i18))))))))) (zr_n rfl (zr_n rfl (zr_n rfl (zr_n rfl (zr_n rfl (zr_n rfl (zr_n rfl (zr_n rfl (zr_n rfl e_i19))))))))) (zr_n rfl (zr_n rfl (zr_n rfl (zr_n rfl (zr_n rfl (zr_n rfl (zr_n rfl (zr_n rfl (zr_n rfl e_i20))))))))) (zr_n rfl (zr_n rfl (zr_n rfl (zr_n rfl (zr_n rfl (zr_n rfl (zr_n rfl (zr_n rfl (zr_n rfl e_i21))))))))) (zr_n rfl (zr_n rfl (zr_n rfl (zr_n rfl (zr_n rfl (zr_n rfl (zr_n rfl (zr_n rfl (zr_n rfl e_i22))))))))) (zr_n rfl (zr_n rfl (zr_n rfl (zr_n rfl (zr_n rfl (zr_n rfl (zr_n rfl (zr_n rfl (zr_n rfl e_i23))))))))) (zr_n rfl (zr_n rfl (zr_n rfl (zr_n rfl (zr_n rfl (zr_n rfl (zr_n rfl (zr_n rfl zr_s)))))))) (zr_n rfl (zr_n rfl (zr_n rfl (zr_n rfl (zr_n rfl (zr_n rfl (zr_n rfl zr_s))))))) (zr_n rfl (zr_n rfl (zr_n rfl (zr_n rfl (zr_n rfl (zr_n rfl zr_s)))))) (zr_n rfl (zr_n rfl (zr_n rfl (zr_n rfl (zr_n rfl zr_s))))) (zr_n rfl (zr_n rfl (zr_n rfl (zr_n rfl zr_s)))) (zr_n rfl (zr_n rfl (zr_n rfl zr_s))) (zr_n rfl (zr_n rfl zr_s)) (zr_n rfl zr_s) zr_s (zr_n rfl (zr_n rfl (zr_n rfl (zr_n rfl (zr_n rfl (zr_n rfl (zr_n rfl (zr_n rfl (zr_n rfl e_i47))))))))) (zeq_i rfl (zeq_i rfl (zeq_i rfl (zeq_i rfl (zeq_i rfl (zeq_i rfl (zeq_i rfl (zeq_i rfl (zeq_i rfl e_h49))))))))) y4.1 hy5) ((zch_h (zch_i (zch_i (zch_i (zch_i (zch_i (zch_i (zch_i (zch_i (zch_i (zm_n rfl (zm_n rfl (zm_n rfl (zm_n rfl (zm_n rfl (zm_n rfl (zm_n rfl (zm_n rfl (zm_n rfl rfl))))))))) (zm_n rfl (zm_n rfl (zm_n rfl (zm_n rfl (zm_n rfl (zm_n rfl (zm_n rfl (zm_n rfl (zm_n rfl rfl)))))))))) (zm_n rfl (zm_n rfl (zm_n rfl (zm_n rfl (zm_n rfl (zm_n rfl (zm_n rfl (zm_n rfl (zm_n rfl rfl)))))))))) (zm_n rfl (zm_n rfl (zm_n rfl (zm_n rfl (zm_n rfl (zm_n rfl (zm_n rfl (zm_n rfl (zm_n rfl rfl)))))))))) (zm_n rfl (zm_n rfl (zm_n rfl (zm_n rfl (zm_n rfl (zm_n rfl (zm_n rfl (zm_n rfl (zm_n rfl rfl)))))))))) (zm_n rfl (zm_n rfl (zm_n rfl (zm_n rfl (zm_n rfl (zm_n rfl (zm_n rfl (zm_n rfl (zm_n rfl rfl)))))))))) (zm_n rfl (zm_n rfl (zm_n rfl (zm_n rfl (zm_n rfl (zm_n rfl (zm_n rfl (zm_n rfl (zm_n rfl rfl)))))))))) (zm_n rfl (zm_n rfl (zm_n rfl (zm_n rfl (zm_n rfl (zm_n rfl (zm_n rfl (zm_n rfl (zm_n rfl rfl)))))))))) (zm_n rfl (zm_n rfl (zm_n rfl (zm_n rfl (zm_n rfl (zm_n rfl (zm_n rfl (zm_n rfl (zm_n rfl rfl)))))))))) rfl) rfl)).symm ?_
      have e9 := Option.some.inj hy
      subst e9
      exact zj_iret dX11_send_52 rfl hq
    · have hy := zt_f hy c2
      refine zj_iconst (pc' := 23) dX11_send_22 rfl kiconst_m1 ?_
      have e9 := Option.some.inj hy
      subst e9
      refine zj_mem (N := (zui M 15 r0_4)) (zself_i e_i15 rfl) ?_
      refine zj_mem (N := (zui (zui M 15 r0_4) 16 r0_4_0)) (zself_i (zr_n rfl e_i16) rfl) ?_
      refine zj_mem (N := (zui (zui (zui M 15 r0_4) 16 r0_4_0) 17 r0_4_1)) (zself_i (zr_n rfl (zr_n rfl e_i17)) rfl) ?_
      refine zj_mem (N := (zui (zui (zui (zui M 15 r0_4) 16 r0_4_0) 17 r0_4_1) 18 r0_4_2)) (zself_i (zr_n rfl (zr_n rfl (zr_n rfl e_i18))) rfl) ?_
      refine zj_mem (N := (zui (zui (zui (zui (zui M 15 r0_4) 16 r0_4_0) 17 r0_4_1) 18 r0_4_2) 19 r0_4_3)) (zself_i (zr_n rfl (zr_n rfl (zr_n rfl (zr_n rfl e_i19)))) rfl) ?_
      refine zj_mem (N := (zui (zui (zui (zui (zui (zui M 15 r0_4) 16 r0_4_0) 17 r0_4_1) 18 r0_4_2) 19 r0_4_3) 20 r0_4_4)) (zself_i (zr_n rfl (zr_n rfl (zr_n rfl (zr_n rfl (zr_n rfl e_i20))))) rfl) ?_
      refine zj_mem (N := (zui (zui (zui (zui (zui (zui (zui M 15 r0_4) 16 r0_4_0) 17 r0_4_1) 18 r0_4_2) 19 r0_4_3) 20 r0_4_4) 21 r0_4_5)) (zself_i (zr_n rfl (zr_n rfl (zr_n rfl (zr_n rfl (zr_n rfl (zr_n rfl e_i21)))))) rfl) ?_
      refine zj_mem (N := (zui (zui (zui (zui (zui (zui (zui (zui M 15 r0_4) 16 r0_4_0) 17 r0_4_1) 18 r0_4_2) 19 r0_4_3) 20 r0_4_4) 21 r0_4_5) 22 r0_4_6)) (zself_i (zr_n rfl (zr_n rfl (zr_n rfl (zr_n rfl (zr_n rfl (zr_n rfl (zr_n rfl e_i22))))))) rfl) ?_
      refine zj_mem (N := (zui (zui (zui (zui (zui (zui (zui (zui (zui M 15 r0_4) 16 r0_4_0) 17 r0_4_1) 18 r0_4_2) 19 r0_4_3) 20 r0_4_4) 21 r0_4_5) 22 r0_4_6) 23 r0_4_7)) (zself_i (zr_n rfl (zr_n rfl (zr_n rfl (zr_n rfl (zr_n rfl (zr_n rfl (zr_n rfl (zr_n rfl e_i23)))))))) rfl) ?_
      refine zj_mem (N := (zui (zui (zui (zui (zui (zui (zui (zui (zui (zui M 15 r0_4) 16 r0_4_0) 17 r0_4_1) 18 r0_4_2) 19 r0_4_3) 20 r0_4_4) 21 r0_4_5) 22 r0_4_6) 23 r0_4_7) 25 r0_5)) (zself_i (zr_n rfl (zr_n rfl (zr_n rfl (zr_n rfl (zr_n rfl (zr_n rfl (zr_n rfl (zr_n rfl (zr_n rfl e_i25))))))))) rfl) ?_
      refine zj_mem (N := (zui (zui (zui (zui (zui (zui (zui (zui (zui (zui (zui M 15 r0_4) 16 r0_4_0) 17 r0_4_1) 18 r0_4_2) 19 r0_4_3) 20 r0_4_4) 21 r0_4_5) 22 r0_4_6) 23 r0_4_7) 25 r0_5) 26 r0_5_0)) (zself_i (zr_n rfl (zr_n rfl (zr_n rfl (zr_n rfl (zr_n rfl (zr_n rfl (zr_n rfl (zr_n rfl (zr_n rfl (zr_n rfl e_i26)))))))))) rfl) ?_
      refine zj_mem (N := (zui (zui (zui (zui (zui (zui (zui (zui (zui (zui (zui (zui M 15 r0_4) 16 r0_4_0) 17 r0_4_1) 18 r0_4_2) 19 r0_4_3) 20 r0_4_4) 21 r0_4_5) 22 r0_4_6) 23 r0_4_7) 25 r0_5) 26 r0_5_0) 27 r0_5_1)) (zself_i (zr_n rfl (zr_n rfl (zr_n rfl (zr_n rfl (zr_n rfl (zr_n rfl (zr_n rfl (zr_n rfl (zr_n rfl (zr_n rfl (zr_n rfl e_i27))))))))))) rfl) ?_
      refine zj_mem (N := (zui (zui (zui (zui (zui (zui (zui (zui (zui (zui (zui (zui (zui M 15 r0_4) 16 r0_4_0) 17 r0_4_1) 18 r0_4_2) 19 r0_4_3) 20 r0_4_4) 21 r0_4_5) 22 r0_4_6) 23 r0_4_7) 25 r0_5) 26 r0_5_0) 27 r0_5_1) 28 r0_5_2)) (zself_i (zr_n rfl (zr_n rfl (zr_n rfl (zr_n rfl (zr_n rfl (zr_n rfl (zr_n rfl (zr_n rfl (zr_n rfl (zr_n rfl (zr_n rfl (zr_n rfl e_i28)))))))))))) rfl) ?_
      refine zj_mem (N := (zui (zui (zui (zui (zui (zui (zui (zui (zui (zui (zui (zui (zui (zui M 15 r0_4) 16 r0_4_0) 17 r0_4_1) 18 r0_4_2) 19 r0_4_3) 20 r0_4_4) 21 r0_4_5) 22 r0_4_6) 23 r0_4_7) 25 r0_5) 26 r0_5_0) 27 r0_5_1) 28 r0_5_2) 29 r0_5_3)) (zself_i (zr_n rfl (zr_n rfl (zr_n rfl (zr_n rfl (zr_n rfl (zr_n rfl (zr_n rfl (zr_n rfl (zr_n rfl (zr_n rfl (zr_n rfl (zr_n rfl (zr_n rfl e_i29))))))))))))) rfl) ?_
      refine zj_mem (N := (zui (zui (zui (zui (zui (zui (zui (zui (zui (zui (zui (zui (zui (zui (zui M 15 r0_4) 16 r0_4_0) 17 r0_4_1) 18 r0_4_2) 19 r0_4_3) 20 r0_4_4) 21 r0_4_5) 22 r0_4_6) 23 r0_4_7) 25 r0_5) 26 r0_5_0) 27 r0_5_1) 28 r0_5_2) 29 r0_5_3) 30 r0_5_4)) (zself_i (zr_n rfl (zr_n rfl (zr_n rfl (zr_n rfl (zr_n rfl (zr_n rfl (zr_n rfl (zr_n rfl (zr_n rfl (zr_n rfl (zr_n rfl (zr_n rfl (zr_n rfl (zr_n rfl e_i30)))))))))))))) rfl) ?_
      refine zj_mem (N := (zui (zui (zui (zui (zui (zui (zui (zui (zui (zui (zui (zui (zui (zui (zui (zui M 15 r0_4) 16 r0_4_0) 17 r0_4_1) 18 r0_4_2) 19 r0_4_3) 20 r0_4_4) 21 r0_4_5) 22 r0_4_6) 23 r0_4_7) 25 r0_5) 26 r0_5_0) 27 r0_5_1) 28 r0_5_2) 29 r0_5_3) 30 r0_5_4) 31 r0_5_5)) (zself_i (zr_n rfl (zr_n rfl (zr_n rfl (zr_n rfl (zr_n rfl (zr_n rfl (zr_n rfl (zr_n rfl (zr_n rfl (zr_n rfl (zr_n rfl (zr_n rfl (zr_n rfl (zr_n rfl (zr_n rfl e_i31))))))))))))))) rfl) ?_
      refine zj_mem (N := (zui (zui (zui (zui (zui (zui (zui (zui (zui (zui (zui (zui (zui (zui (zui (zui (zui M 15 r0_4) 16 r0_4_0) 17 r0_4_1) 18 r0_4_2) 19 r0_4_3) 20 r0_4_4) 21 r0_4_5) 22 r0_4_6) 23 r0_4_7) 25 r0_5) 26 r0_5_0) 27 r0_5_1) 28 r0_5_2) 29 r0_5_3) 30 r0_5_4) 31 r0_5_5) 32 r0_5_6)) (zself_i (zr_n rfl (zr_n rfl (zr_n rfl (zr_n rfl (zr_n rfl (zr_n rfl (zr_n rfl (zr_n rfl (zr_n rfl (zr_n rfl (zr_n rfl (zr_n rfl (zr_n rfl (zr_n rfl (zr_n rfl (zr_n rfl e_i32)))))))))))))))) rfl) ?_
      refine zj_mem (N := (zui (zui (zui (zui (zui (zui (zui (zui (zui (zui (zui (zui (zui (zui (zui (zui (zui (zui M 15 r0_4) 16 r0_4_0) 17 r0_4_1) 18 r0_4_2) 19 r0_4_3) 20 r0_4_4) 21 r0_4_5) 22 r0_4_6) 23 r0_4_7) 25 r0_5) 26 r0_5_0) 27 r0_5_1) 28 r0_5_2) 29 r0_5_3) 30 r0_5_4) 31 r0_5_5) 32 r0_5_6) 33 r0_5_7)) (zself_i (zr_n rfl (zr_n rfl (zr_n rfl (zr_n rfl (zr_n rfl (zr_n rfl (zr_n rfl (zr_n rfl (zr_n rfl (zr_n rfl (zr_n rfl (zr_n rfl (zr_n rfl (zr_n rfl (zr_n rfl (zr_n rfl (zr_n rfl e_i33))))))))))))))))) rfl) ?_
      refine zj_mem (N := (zui (zui (zui (zui (zui (zui (zui (zui (zui (zui (zui (zui (zui (zui (zui (zui (zui (zui (zui M 15 r0_4) 16 r0_4_0) 17 r0_4_1) 18 r0_4_2) 19 r0_4_3) 20 r0_4_4) 21 r0_4_5) 22 r0_4_6) 23 r0_4_7) 25 r0_5) 26 r0_5_0) 27 r0_5_1) 28 r0_5_2) 29 r0_5_3) 30 r0_5_4) 31 r0_5_5) 32 r0_5_6) 33 r0_5_7) 47 r0_8)) (zself_i (zr_n rfl (zr_n rfl (zr_n rfl (zr_n rfl (zr_n rfl (zr_n rfl (zr_n rfl (zr_n rfl (zr_n rfl (zr_n rfl (zr_n rfl (zr_n rfl (zr_n rfl (zr_n rfl (zr_n rfl (zr_n rfl (zr_n rfl (zr_n rfl e_i47)))))))))))))))))) rfl) ?_
      refine zj_mem (N := (zub (zui (zui (zui (zui (zui (zui (zui (zui (zui (zui (zui (zui (zui (zui (zui (zui (zui (zui (zui M 15 r0_4) 16 r0_4_0) 17 r0_4_1) 18 r0_4_2) 19 r0_4_3) 20 r0_4_4) 21 r0_4_5) 22 r0_4_6) 23 r0_4_7) 25 r0_5) 26 r0_5_0) 27 r0_5_1) 28 r0_5_2) 29 r0_5_3) 30 r0_5_4) 31 r0_5_5) 32 r0_5_6) 33 r0_5_7) 47 r0_8) 49 129 g49)) (zself_h (zeq_i rfl (zeq_i rfl (zeq_i rfl (zeq_i rfl (zeq_i rfl (zeq_i rfl (zeq_i rfl (zeq_i rfl (zeq_i rfl (zeq_i rfl (zeq_i rfl (zeq_i rfl (zeq_i rfl (zeq_i rfl (zeq_i rfl (zeq_i rfl (zeq_i rfl (zeq_i rfl (zeq_i rfl e_h49))))))))))))))))))) rfl) ?_
      exact zj_iret dX11_send_23 rfl hq
set_option maxRecDepth 20000 in
theorem LX11_send_0 (Γ : zG) (M : zM) (r0_2 : Nat → Int32) (r0_2_2 : Nat → Int32) (r0_4 : Nat → Int32) (r0_4_0 : Nat → Int32) (r0_4_1 : Nat → Int32) (r0_4_2 : Nat → Int32) (r0_4_3 : Nat → Int32) (r0_4_4 : Nat → Int32) (r0_4_5 : Nat → Int32) (r0_4_6 : Nat → Int32) (r0_4_7 : Nat → Int32) (r0_5 : Nat → Int32) (r0_5_0 : Nat → Int32) (r0_5_1 : Nat → Int32) (r0_5_2 : Nat → Int32) (r0_5_3 : Nat → Int32) (r0_5_4 : Nat → Int32) (r0_5_5 : Nat → Int32) (r0_5_6 : Nat → Int32) (r0_5_7 : Nat → Int32) (r0_8 : Nat → Int32) (g49 : zM) (e_i5 : M.1 5 = r0_2) (e_i8 : M.1 8 = r0_2_2) (e_i15 : M.1 15 = r0_4) (e_i16 : M.1 16 = r0_4_0) (e_i17 : M.1 17 = r0_4_1) (e_i18 : M.1 18 = r0_4_2) (e_i19 : M.1 19 = r0_4_3) (e_i20 : M.1 20 = r0_4_4) (e_i21 : M.1 21 = r0_4_5) (e_i22 : M.1 22 = r0_4_6) (e_i23 : M.1 23 = r0_4_7) (e_i25 : M.1 25 = r0_5) (e_i26 : M.1 26 = r0_5_0) (e_i27 : M.1 27 = r0_5_1) (e_i28 : M.1 28 = r0_5_2) (e_i29 : M.1 29 = r0_5_3) (e_i30 : M.1 30 = r0_5_4) (e_i31 : M.1 31 = r0_5_5) (e_i32 : M.1 32 = r0_5_6) (e_i33 : M.1 33 = r0_5_7) (e_i47 : M.1 47 = r0_8) (e_h49 : zeq M 49 129 g49) (a1 : Int32) (a2 : Int32) {res : Int32 × (Nat → Int32) × (Nat → Int32) × (Nat → Int32) × (Nat → Int32) × (Nat → Int32) × (Nat → Int32) × (Nat → Int32) × (Nat → Int32) × (Nat → Int32) × (Nat → Int32) × (Nat → Int32) × (Nat → Int32) × (Nat → Int32) × (Nat → Int32) × (Nat → Int32) × (Nat → Int32) × (Nat → Int32) × (Nat → Int32) × (Nat → Int32) × zM} (hy : (fX_send r0_2 r0_2_2 r0_4 r0_4_0 r0_4_1 r0_4_2 r0_4_3 r0_4_4 r0_4_5 r0_4_6 r0_4_7 r0_5 r0_5_0 r0_5_1 r0_5_2 r0_5_3 r0_5_4 r0_5_5 r0_5_6 r0_5_7 r0_8 g49 a1 a2) = some res) : zK Γ 6 YX11_send [.ref (zad Γ 0), .int a1, .int a2] M (fun v N => v = some (.int res.1) ∧ N = (zub (zui (zui (zui (zui (zui (zui (zui (zui (zui (zui (zui (zui (zui (zui (zui (zui (zui (zui (zui M 15 res.2.1) 16 res.2.2.1) 17 res.2.2.2.1) 18 res.2.2.2.2.1) 19 res.2.2.2.2.2.1) 20 res.2.2.2.2.2.2.1) 21 res.2.2.2.2.2.2.2.1) 22 res.2.2.2.2.2.2.2.2.1) 23 res.2.2.2.2.2.2.2.2.2.1) 25 res.2.2.2.2.2.2.2.2.2.2.1) 26 res.2.2.2.2.2.2.2.2.2.2.2.1) 27 res.2.2.2.2.2.2.2.2.2.2.2.2.1) 28 res.2.2.2.2.2.2.2.2.2.2.2.2.2.1) 29 res.2.2.2.2.2.2.2.2.2.2.2.2.2.2.1) 30 res.2.2.2.2.2.2.2.2.2.2.2.2.2.2.2.1) 31 res.2.2.2.2.2.2.2.2.2.2.2.2.2.2.2.2.1) 32 res.2.2.2.2.2.2.2.2.2.2.2.2.2.2.2.2.2.1) 33 res.2.2.2.2.2.2.2.2.2.2.2.2.2.2.2.2.2.2.1) 47 res.2.2.2.2.2.2.2.2.2.2.2.2.2.2.2.2.2.2.2.1) 49 129 res.2.2.2.2.2.2.2.2.2.2.2.2.2.2.2.2.2.2.2.2)) :=
  zK_of (by decide) (Nat.le_of_ble_eq_true rfl) (TX11_send_0 Γ M r0_2 r0_2_2 r0_4 r0_4_0 r0_4_1 r0_4_2 r0_4_3 r0_4_4 r0_4_5 r0_4_6 r0_4_7 r0_5 r0_5_0 r0_5_1 r0_5_2 r0_5_3 r0_5_4 r0_5_5 r0_5_6 r0_5_7 r0_8 g49 e_i5 e_i8 e_i15 e_i16 e_i17 e_i18 e_i19 e_i20 e_i21 e_i22 e_i23 e_i25 e_i26 e_i27 e_i28 e_i29 e_i30 e_i31 e_i32 e_i33 e_i47 e_h49 a1 a2 hy ⟨rfl, rfl⟩)

noncomputable def fX_drop (r0_2 : Nat → Int32) (r0_4 : Nat → Int32) (r0_4_0 : Nat → Int32) (r0_4_1 : Nat → Int32) (r0_4_2 : Nat → Int32) (r0_4_3 : Nat → Int32) (r0_4_4 : Nat → Int32) (r0_4_5 : Nat → Int32) (r0_4_6 : Nat → Int32) (r0_4_7 : Nat → Int32) (r0_5 : Nat → Int32) (r0_5_0 : Nat → Int32) (r0_5_1 : Nat → Int32) (r0_5_2 : Nat → Int32) (r0_5_3 : Nat → Int32) (r0_5_4 : Nat → Int32) (r0_5_5 : Nat → Int32) (r0_5_6 : Nat → Int32) (r0_5_7 : Nat → Int32) (r0_8 : Nat → Int32) (g49 : zM) (a1 : Int32) : Option (Int32 × (Nat → Int32) × (Nat → Int32) × (Nat → Int32) × (Nat → Int32) × (Nat → Int32) × (Nat → Int32) × (Nat → Int32) × (Nat → Int32) × (Nat → Int32) × (Nat → Int32) × (Nat → Int32) × (Nat → Int32) × (Nat → Int32) × (Nat → Int32) × (Nat → Int32) × (Nat → Int32) × (Nat → Int32) × (Nat → Int32) × (Nat → Int32) × zM) :=
  (if (fPl_hasPerson r0_2 a1) = true then
  (fDy_copyFrom r0_5 r0_5_0 r0_5_1 r0_5_2 r0_5_3 r0_5_4 r0_5_5 r0_5_6 r0_5_7 r0_4 r0_4_0 r0_4_1 r0_4_2 r0_4_3 r0_4_4 r0_4_5 r0_4_6 r0_4_7).bind (fun (y2 : (Nat → Int32) × (Nat → Int32) × (Nat → Int32) × (Nat → Int32) × (Nat → Int32) × (Nat → Int32) × (Nat → Int32) × (Nat → Int32) × (Nat → Int32)) =>
  (fDy_dropsBun y2.2.1 y2.2.2.1 y2.2.2.2.2.2.2.2.1 a1).bind (fun (y3 : Int32 × (Nat → Int32) × (Nat → Int32)) =>
  (fX_settleIfDone r0_4 r0_4_0 r0_4_1 r0_4_2 r0_4_3 r0_4_4 r0_4_5 r0_4_6 r0_4_7 y2.1 y2.2.1 y3.2.1 y2.2.2.2.1 y2.2.2.2.2.1 y2.2.2.2.2.2.1 y2.2.2.2.2.2.2.1 y3.2.2 y2.2.2.2.2.2.2.2.2 r0_8 g49 y3.1).bind (fun (y4 : Int32 × (Nat → Int32) × (Nat → Int32) × (Nat → Int32) × (Nat → Int32) × (Nat → Int32) × (Nat → Int32) × (Nat → Int32) × (Nat → Int32) × (Nat → Int32) × (Nat → Int32) × zM) =>
  some (y4.1, y4.2.1, y4.2.2.1, y4.2.2.2.1, y4.2.2.2.2.1, y4.2.2.2.2.2.1, y4.2.2.2.2.2.2.1, y4.2.2.2.2.2.2.2.1, y4.2.2.2.2.2.2.2.2.1, y4.2.2.2.2.2.2.2.2.2.1, y2.1, y2.2.1, y3.2.1, y2.2.2.2.1, y2.2.2.2.2.1, y2.2.2.2.2.2.1, y2.2.2.2.2.2.2.1, y3.2.2, y2.2.2.2.2.2.2.2.2, y4.2.2.2.2.2.2.2.2.2.2.1, y4.2.2.2.2.2.2.2.2.2.2.2))))
  else
  some ((-1), r0_4, r0_4_0, r0_4_1, r0_4_2, r0_4_3, r0_4_4, r0_4_5, r0_4_6, r0_4_7, r0_5, r0_5_0, r0_5_1, r0_5_2, r0_5_3, r0_5_4, r0_5_5, r0_5_6, r0_5_7, r0_8, g49))

set_option maxRecDepth 20000 in
theorem TX11_drop_0 (Γ : zG) {Q : Option Value → zM → Prop} (M : zM) (r0_2 : Nat → Int32) (r0_4 : Nat → Int32) (r0_4_0 : Nat → Int32) (r0_4_1 : Nat → Int32) (r0_4_2 : Nat → Int32) (r0_4_3 : Nat → Int32) (r0_4_4 : Nat → Int32) (r0_4_5 : Nat → Int32) (r0_4_6 : Nat → Int32) (r0_4_7 : Nat → Int32) (r0_5 : Nat → Int32) (r0_5_0 : Nat → Int32) (r0_5_1 : Nat → Int32) (r0_5_2 : Nat → Int32) (r0_5_3 : Nat → Int32) (r0_5_4 : Nat → Int32) (r0_5_5 : Nat → Int32) (r0_5_6 : Nat → Int32) (r0_5_7 : Nat → Int32) (r0_8 : Nat → Int32) (g49 : zM) (e_i5 : M.1 5 = r0_2) (e_i15 : M.1 15 = r0_4) (e_i16 : M.1 16 = r0_4_0) (e_i17 : M.1 17 = r0_4_1) (e_i18 : M.1 18 = r0_4_2) (e_i19 : M.1 19 = r0_4_3) (e_i20 : M.1 20 = r0_4_4) (e_i21 : M.1 21 = r0_4_5) (e_i22 : M.1 22 = r0_4_6) (e_i23 : M.1 23 = r0_4_7) (e_i25 : M.1 25 = r0_5) (e_i26 : M.1 26 = r0_5_0) (e_i27 : M.1 27 = r0_5_1) (e_i28 : M.1 28 = r0_5_2) (e_i29 : M.1 29 = r0_5_3) (e_i30 : M.1 30 = r0_5_4) (e_i31 : M.1 31 = r0_5_5) (e_i32 : M.1 32 = r0_5_6) (e_i33 : M.1 33 = r0_5_7) (e_i47 : M.1 47 = r0_8) (e_h49 : zeq M 49 129 g49) (a1 : Int32) {res : Int32 × (Nat → Int32) × (Nat → Int32) × (Nat → Int32) × (Nat → Int32) × (Nat → Int32) × (Nat → Int32) × (Nat → Int32) × (Nat → Int32) × (Nat → Int32) × (Nat → Int32) × (Nat → Int32) × (Nat → Int32) × (Nat → Int32) × (Nat → Int32) × (Nat → Int32) × (Nat → Int32) × (Nat → Int32) × (Nat → Int32) × (Nat → Int32) × zM} (hy : (fX_drop r0_2 r0_4 r0_4_0 r0_4_1 r0_4_2 r0_4_3 r0_4_4 r0_4_5 r0_4_6 r0_4_7 r0_5 r0_5_0 r0_5_1 r0_5_2 r0_5_3 r0_5_4 r0_5_5 r0_5_6 r0_5_7 r0_8 g49 a1) = some res) (hq : Q (some (.int res.1)) (zub (zui (zui (zui (zui (zui (zui (zui (zui (zui (zui (zui (zui (zui (zui (zui (zui (zui (zui (zui M 15 res.2.1) 16 res.2.2.1) 17 res.2.2.2.1) 18 res.2.2.2.2.1) 19 res.2.2.2.2.2.1) 20 res.2.2.2.2.2.2.1) 21 res.2.2.2.2.2.2.2.1) 22 res.2.2.2.2.2.2.2.2.1) 23 res.2.2.2.2.2.2.2.2.2.1) 25 res.2.2.2.2.2.2.2.2.2.2.1) 26 res.2.2.2.2.2.2.2.2.2.2.2.1) 27 res.2.2.2.2.2.2.2.2.2.2.2.2.1) 28 res.2.2.2.2.2.2.2.2.2.2.2.2.2.1) 29 res.2.2.2.2.2.2.2.2.2.2.2.2.2.2.1) 30 res.2.2.2.2.2.2.2.2.2.2.2.2.2.2.2.1) 31 res.2.2.2.2.2.2.2.2.2.2.2.2.2.2.2.2.1) 32 res.2.2.2.2.2.2.2.2.2.2.2.2.2.2.2.2.2.1) 33 res.2.2.2.2.2.2.2.2.2.2.2.2.2.2.2.2.2.2.1) 47 res.2.2.2.2.2.2.2.2.2.2.2.2.2.2.2.2.2.2.2.1) 49 129 res.2.2.2.2.2.2.2.2.2.2.2.2.2.2.2.2.2.2.2.2)) : zR Γ 6 YX11_drop 0 [(0, .ref (zad Γ 0)), (1, .int a1)] [] M Q := by
  unfold fX_drop at hy
  refine zj_aload_n (pc' := 1) 0 dX11_drop_0 rfl rfl rfl ?_
  refine zj_getR (pc' := 4) (j := 5) dX11_drop_1 rfl flX11_28 sh0 rfl ?_
  refine zj_iload_n (pc' := 5) 1 dX11_drop_4 rfl rfl rfl ?_
  refine zj_V1 (pc' := 8) (z := YX7_hasPerson) (As := [.int a1]) (N := M) dX11_drop_5 rfl mlX11_156 lkX7_hasPerson sh5 ⟨_, _, rfl⟩ rfl rfl (Nat.le_of_ble_eq_true rfl) (Nat.le_of_ble_eq_true rfl) (LX7_hasPerson_5 Γ _ r0_2 e_i5 a1 rfl) rfl ?_
  refine zj_bif_ne (tgt := 13) (pc' := 11) dX11_drop_8 rfl (by decide) (fun c1 => ?_) (fun c1 => ?_)
  · have hy := zt_t hy c1
    refine zj_aload_n (pc' := 14) 0 dX11_drop_13 rfl rfl rfl ?_
    refine zj_getR (pc' := 17) (j := 25) dX11_drop_14 rfl flX11_42 sh0 rfl ?_
    refine zj_aload_n (pc' := 18) 0 dX11_drop_17 rfl rfl rfl ?_
    refine zj_getR (pc' := 21) (j := 15) dX11_drop_18 rfl flX11_38 sh0 rfl ?_
    obtain ⟨y2, hy2, hy⟩ := zt_b hy
    refine zj_V0 (pc' := 24) (z := YX1_copyFrom) (As := [.ref (zad Γ 15)]) (N := (zui (zui (zui (zui (zui (zui (zui (zui (zui M 25 y2.1) 26 y2.2.1) 27 y2.2.2.1) 28 y2.2.2.2.1) 29 y2.2.2.2.2.1) 30 y2.2.2.2.2.2.1) 31 y2.2.2.2.2.2.2.1) 32 y2.2.2.2.2.2.2.2.1) 33 y2.2.2.2.2.2.2.2.2)) dX11_drop_21 rfl mlX11_151 lkX1_copyFrom sh25 ⟨_, _, rfl⟩ rfl rfl (Nat.le_of_ble_eq_true rfl) (Nat.le_of_ble_eq_true rfl) (LX1_copyFrom_25_15 Γ _ r0_5 r0_5_0 r0_5_1 r0_5_2 r0_5_3 r0_5_4 r0_5_5 r0_5_6 r0_5_7 r0_4 r0_4_0 r0_4_1 r0_4_2 r0_4_3 r0_4_4 r0_4_5 r0_4_6 r0_4_7 e_i25 e_i26 e_i27 e_i28 e_i29 e_i30 e_i31 e_i32 e_i33 e_i15 e_i16 e_i17 e_i18 e_i19 e_i20 e_i21 e_i22 e_i23 hy2) ((zch_i (zch_i (zch_i (zch_i (zch_i (zch_i (zch_i (zch_i rfl rfl) rfl) rfl) rfl) rfl) rfl) rfl) rfl)).symm ?_
    refine zj_aload_n (pc' := 25) 0 dX11_drop_24 rfl rfl rfl ?_
    refine zj_aload_n (pc' := 26) 0 dX11_drop_25 rfl rfl rfl ?_
    refine zj_getR (pc' := 29) (j := 25) dX11_drop_26 rfl flX11_42 sh0 rfl ?_
    refine zj_iload_n (pc' := 30) 1 dX11_drop_29 rfl rfl rfl ?_
    obtain ⟨y3, hy3, hy⟩ := zt_b hy
    refine zj_V1 (pc' := 33) (z := YX1_dropsBun) (As := [.int a1]) (N := (zui (zui (zui (zui (zui (zui (zui (zui (zui M 25 y2.1) 26 y2.2.1) 27 y3.2.1) 28 y2.2.2.2.1) 29 y2.2.2.2.2.1) 30 y2.2.2.2.2.2.1) 31 y2.2.2.2.2.2.2.1) 32 y3.2.2) 33 y2.2.2.2.2.2.2.2.2)) dX11_drop_30 rfl mlX11_240 lkX1_dropsBun sh25 ⟨_, _, rfl⟩ rfl rfl (Nat.le_of_ble_eq_true rfl) (Nat.le_of_ble_eq_true rfl) (LX1_dropsBun_25 Γ _ y2.2.1 y2.2.2.1 y2.2.2.2.2.2.2.2.1 (zr_n rfl (zr_n rfl (zr_n rfl (zr_n rfl (zr_n rfl (zr_n rfl (zr_n rfl zr_s))))))) (zr_n rfl (zr_n rfl (zr_n rfl (zr_n rfl (zr_n rfl (zr_n rfl zr_s)))))) (zr_n rfl zr_s) a1 hy3) ((zch_i (zm_n rfl (zm_n rfl (zm_n rfl (zm_n rfl (zm_n rfl (zm_n rfl zm_s)))))) (zm_n rfl zm_s))).symm ?_
    obtain ⟨y4, hy4, hy⟩ := zt_b hy
    refine zj_V1 (pc' := 36) (z := YX11_settleIfDone) (As := [.int y3.1]) (N := (zub (zui (zui (zui (zui (zui (zui (zui (zui (zui (zui (zui (zui (zui (zui (zui (zui (zui (zui (zui M 15 y4.2.1) 16 y4.2.2.1) 17 y4.2.2.2.1) 18 y4.2.2.2.2.1) 19 y4.2.2.2.2.2.1) 20 y4.2.2.2.2.2.2.1) 21 y4.2.2.2.2.2.2.2.1) 22 y4.2.2.2.2.2.2.2.2.1) 23 y4.2.2.2.2.2.2.2.2.2.1) 25 y2.1) 26 y2.2.1) 27 y3.2.1) 28 y2.2.2.2.1) 29 y2.2.2.2.2.1) 30 y2.2.2.2.2.2.1) 31 y2.2.2.2.2.2.2.1) 32 y3.2.2) 33 y2.2.2.2.2.2.2.2.2) 47 y4.2.2.2.2.2.2.2.2.2.2.1) 49 129 y4.2.2.2.2.2.2.2.2.2.2.2)) dX11_drop_33 rfl mlX11_237 lkX11_settleIfDone sh0 ⟨_, _, rfl⟩ rfl rfl (Nat.le_of_ble_eq_true rfl) (Nat.le_of_ble_eq_true rfl) (LX11_settleIfDone_0 Γ _ r0_4 r0_4_0 r0_4_1 r0_4_2 r0_4_3 r0_4_4 r0_4_5 r0_4_6 r0_4_7 y2.1 y2.2.1 y3.2.1 y2.2.2.2.1 y2.2.2.2.2.1 y2.2.2.2.2.2.1 y2.2.2.2.2.2.2.1 y3.2.2 y2.2.2.2.2.2.2.2.2 r0_8 g49 (zr_n rfl (zr_n rfl (zr_n rfl (zr_n rfl (zr_n rfl (zr_n rfl (zr_n rfl (zr_n rfl (zr_n rfl e_i15))))))))) (zr_n rfl (zr_n rfl (zr_n rfl (zr_n rfl (zr_n rfl (zr_n rfl (zr_n rfl (zr_n rfl (zr_n rfl e_i16))))))))) (zr_n rfl (zr_n rfl (zr_n rfl (zr_n rfl (zr_n rfl (zr_n rfl (zr_n rfl (zr_n rfl (zr_n rfl e_i17))))))))) (zr_n rfl (zr_n rfl (zr_n rfl (zr_n rfl (zr_n rfl (zr_n rfl (zr_n rfl (zr_n rfl (zr_n rfl e_i18))))))))) (zr_n rfl (zr_n rfl (zr_n rfl (zr_n rfl (zr_n rfl (zr_n rfl (zr_n rfl (zr_n rfl (zr_n rfl e_i19))))))))) (zr_n rfl (zr_n rfl (zr_n rfl (zr_n rfl (zr_n rfl (zr_n rfl (zr_n rfl (zr_n rfl (zr_n rfl e_i20))))))))) (zr_n rfl (zr_n rfl (zr_n rfl (zr_n rfl (zr_n rfl (zr_n rfl (zr_n rfl (zr_n rfl (zr_n rfl e_i21))))))))) (zr_n rfl (zr_n rfl (zr_n rfl (zr_n rfl (zr_n rfl (zr_n rfl (zr_n rfl (zr_n rfl (zr_n rfl e_i22))))))))) (zr_n rfl (zr_n rfl (zr_n rfl (zr_n rfl (zr_n rfl (zr_n rfl (zr_n rfl (zr_n rfl (zr_n rfl e_i23))))))))) (zr_n rfl (zr_n rfl (zr_n rfl (zr_n rfl (zr_n rfl (zr_n rfl (zr_n rfl (zr_n rfl zr_s)))))))) (zr_n rfl (zr_n rfl (zr_n rfl (zr_n rfl (zr_n rfl (zr_n rfl (zr_n rfl zr_s))))))) (zr_n rfl (zr_n rfl (zr_n rfl (zr_n rfl (zr_n rfl (zr_n rfl zr_s)))))) (zr_n rfl (zr_n rfl (zr_n rfl (zr_n rfl (zr_n rfl zr_s))))) (zr_n rfl (zr_n rfl (zr_n rfl (zr_n rfl zr_s)))) (zr_n rfl (zr_n rfl (zr_n rfl zr_s))) (zr_n rfl (zr_n rfl zr_s)) (zr_n rfl zr_s) zr_s (zr_n rfl (zr_n rfl (zr_n rfl (zr_n rfl (zr_n rfl (zr_n rfl (zr_n rfl (zr_n rfl (zr_n rfl e_i47))))))))) (zeq_i rfl (zeq_i rfl (zeq_i rfl (zeq_i rfl (zeq_i rfl (zeq_i rfl (zeq_i rfl (zeq_i rfl (zeq_i rfl e_h49))))))))) y3.1 hy4) ((zch_h (zch_i (zch_i (zch_i (zch_i (zch_i (zch_i (zch_i (zch_i (zch_i (zm_n rfl (zm_n rfl (zm_n rfl (zm_n rfl (zm_n rfl (zm_n rfl (zm_n rfl (zm_n rfl (zm_n rfl rfl))))))))) (zm_n rfl (zm_n rfl (zm_n rfl (zm_n rfl (zm_n rfl (zm_n rfl (zm_n rfl (zm_n rfl (zm_n rfl rfl)))))))))) (zm_n rfl (zm_n rfl (zm_n rfl (zm_n rfl (zm_n rfl (zm_n rfl (zm_n rfl (zm_n rfl (zm_n rfl rfl)))))))))) (zm_n rfl (zm_n rfl (zm_n rfl (zm_n rfl (zm_n rfl (zm_n rfl (zm_n rfl (zm_n rfl (zm_n rfl rfl)))))))))) (zm_n rfl (zm_n rfl (zm_n rfl (zm_n rfl (zm_n rfl (zm_n rfl (zm_n rfl (zm_n rfl (zm_n rfl rfl)))))))))) (zm_n rfl (zm_n rfl (zm_n rfl (zm_n rfl (zm_n rfl (zm_n rfl (zm_n rfl (zm_n rfl (zm_n rfl rfl)))))))))) (zm_n rfl (zm_n rfl (zm_n rfl (zm_n rfl (zm_n rfl (zm_n rfl (zm_n rfl (zm_n rfl (zm_n rfl rfl)))))))))) (zm_n rfl (zm_n rfl (zm_n rfl (zm_n rfl (zm_n rfl (zm_n rfl (zm_n rfl (zm_n rfl (zm_n rfl rfl)))))))))) (zm_n rfl (zm_n rfl (zm_n rfl (zm_n rfl (zm_n rfl (zm_n rfl (zm_n rfl (zm_n rfl (zm_n rfl rfl)))))))))) rfl) rfl)).symm ?_
    have e9 := Option.some.inj hy
    subst e9
    exact zj_iret dX11_drop_36 rfl hq
  · have hy := zt_f hy c1
    refine zj_iconst (pc' := 12) dX11_drop_11 rfl kiconst_m1 ?_
    have e9 := Option.some.inj hy
    subst e9
    refine zj_mem (N := (zui M 15 r0_4)) (zself_i e_i15 rfl) ?_
    refine zj_mem (N := (zui (zui M 15 r0_4) 16 r0_4_0)) (zself_i (zr_n rfl e_i16) rfl) ?_
    refine zj_mem (N := (zui (zui (zui M 15 r0_4) 16 r0_4_0) 17 r0_4_1)) (zself_i (zr_n rfl (zr_n rfl e_i17)) rfl) ?_
    refine zj_mem (N := (zui (zui (zui (zui M 15 r0_4) 16 r0_4_0) 17 r0_4_1) 18 r0_4_2)) (zself_i (zr_n rfl (zr_n rfl (zr_n rfl e_i18))) rfl) ?_
    refine zj_mem (N := (zui (zui (zui (zui (zui M 15 r0_4) 16 r0_4_0) 17 r0_4_1) 18 r0_4_2) 19 r0_4_3)) (zself_i (zr_n rfl (zr_n rfl (zr_n rfl (zr_n rfl e_i19)))) rfl) ?_
    refine zj_mem (N := (zui (zui (zui (zui (zui (zui M 15 r0_4) 16 r0_4_0) 17 r0_4_1) 18 r0_4_2) 19 r0_4_3) 20 r0_4_4)) (zself_i (zr_n rfl (zr_n rfl (zr_n rfl (zr_n rfl (zr_n rfl e_i20))))) rfl) ?_
    refine zj_mem (N := (zui (zui (zui (zui (zui (zui (zui M 15 r0_4) 16 r0_4_0) 17 r0_4_1) 18 r0_4_2) 19 r0_4_3) 20 r0_4_4) 21 r0_4_5)) (zself_i (zr_n rfl (zr_n rfl (zr_n rfl (zr_n rfl (zr_n rfl (zr_n rfl e_i21)))))) rfl) ?_
    refine zj_mem (N := (zui (zui (zui (zui (zui (zui (zui (zui M 15 r0_4) 16 r0_4_0) 17 r0_4_1) 18 r0_4_2) 19 r0_4_3) 20 r0_4_4) 21 r0_4_5) 22 r0_4_6)) (zself_i (zr_n rfl (zr_n rfl (zr_n rfl (zr_n rfl (zr_n rfl (zr_n rfl (zr_n rfl e_i22))))))) rfl) ?_
    refine zj_mem (N := (zui (zui (zui (zui (zui (zui (zui (zui (zui M 15 r0_4) 16 r0_4_0) 17 r0_4_1) 18 r0_4_2) 19 r0_4_3) 20 r0_4_4) 21 r0_4_5) 22 r0_4_6) 23 r0_4_7)) (zself_i (zr_n rfl (zr_n rfl (zr_n rfl (zr_n rfl (zr_n rfl (zr_n rfl (zr_n rfl (zr_n rfl e_i23)))))))) rfl) ?_
    refine zj_mem (N := (zui (zui (zui (zui (zui (zui (zui (zui (zui (zui M 15 r0_4) 16 r0_4_0) 17 r0_4_1) 18 r0_4_2) 19 r0_4_3) 20 r0_4_4) 21 r0_4_5) 22 r0_4_6) 23 r0_4_7) 25 r0_5)) (zself_i (zr_n rfl (zr_n rfl (zr_n rfl (zr_n rfl (zr_n rfl (zr_n rfl (zr_n rfl (zr_n rfl (zr_n rfl e_i25))))))))) rfl) ?_
    refine zj_mem (N := (zui (zui (zui (zui (zui (zui (zui (zui (zui (zui (zui M 15 r0_4) 16 r0_4_0) 17 r0_4_1) 18 r0_4_2) 19 r0_4_3) 20 r0_4_4) 21 r0_4_5) 22 r0_4_6) 23 r0_4_7) 25 r0_5) 26 r0_5_0)) (zself_i (zr_n rfl (zr_n rfl (zr_n rfl (zr_n rfl (zr_n rfl (zr_n rfl (zr_n rfl (zr_n rfl (zr_n rfl (zr_n rfl e_i26)))))))))) rfl) ?_
    refine zj_mem (N := (zui (zui (zui (zui (zui (zui (zui (zui (zui (zui (zui (zui M 15 r0_4) 16 r0_4_0) 17 r0_4_1) 18 r0_4_2) 19 r0_4_3) 20 r0_4_4) 21 r0_4_5) 22 r0_4_6) 23 r0_4_7) 25 r0_5) 26 r0_5_0) 27 r0_5_1)) (zself_i (zr_n rfl (zr_n rfl (zr_n rfl (zr_n rfl (zr_n rfl (zr_n rfl (zr_n rfl (zr_n rfl (zr_n rfl (zr_n rfl (zr_n rfl e_i27))))))))))) rfl) ?_
    refine zj_mem (N := (zui (zui (zui (zui (zui (zui (zui (zui (zui (zui (zui (zui (zui M 15 r0_4) 16 r0_4_0) 17 r0_4_1) 18 r0_4_2) 19 r0_4_3) 20 r0_4_4) 21 r0_4_5) 22 r0_4_6) 23 r0_4_7) 25 r0_5) 26 r0_5_0) 27 r0_5_1) 28 r0_5_2)) (zself_i (zr_n rfl (zr_n rfl (zr_n rfl (zr_n rfl (zr_n rfl (zr_n rfl (zr_n rfl (zr_n rfl (zr_n rfl (zr_n rfl (zr_n rfl (zr_n rfl e_i28)))))))))))) rfl) ?_
    refine zj_mem (N := (zui (zui (zui (zui (zui (zui (zui (zui (zui (zui (zui (zui (zui (zui M 15 r0_4) 16 r0_4_0) 17 r0_4_1) 18 r0_4_2) 19 r0_4_3) 20 r0_4_4) 21 r0_4_5) 22 r0_4_6) 23 r0_4_7) 25 r0_5) 26 r0_5_0) 27 r0_5_1) 28 r0_5_2) 29 r0_5_3)) (zself_i (zr_n rfl (zr_n rfl (zr_n rfl (zr_n rfl (zr_n rfl (zr_n rfl (zr_n rfl (zr_n rfl (zr_n rfl (zr_n rfl (zr_n rfl (zr_n rfl (zr_n rfl e_i29))))))))))))) rfl) ?_
    refine zj_mem (N := (zui (zui (zui (zui (zui (zui (zui (zui (zui (zui (zui (zui (zui (zui (zui M 15 r0_4) 16 r0_4_0) 17 r0_4_1) 18 r0_4_2) 19 r0_4_3) 20 r0_4_4) 21 r0_4_5) 22 r0_4_6) 23 r0_4_7) 25 r0_5) 26 r0_5_0) 27 r0_5_1) 28 r0_5_2) 29 r0_5_3) 30 r0_5_4)) (zself_i (zr_n rfl (zr_n rfl (zr_n rfl (zr_n rfl (zr_n rfl (zr_n rfl (zr_n rfl (zr_n rfl (zr_n rfl (zr_n rfl (zr_n rfl (zr_n rfl (zr_n rfl (zr_n rfl e_i30)))))))))))))) rfl) ?_
    refine zj_mem (N := (zui (zui (zui (zui (zui (zui (zui (zui (zui (zui (zui (zui (zui (zui (zui (zui M 15 r0_4) 16 r0_4_0) 17 r0_4_1) 18 r0_4_2) 19 r0_4_3) 20 r0_4_4) 21 r0_4_5) 22 r0_4_6) 23 r0_4_7) 25 r0_5) 26 r0_5_0) 27 r0_5_1) 28 r0_5_2) 29 r0_5_3) 30 r0_5_4) 31 r0_5_5)) (zself_i (zr_n rfl (zr_n rfl (zr_n rfl (zr_n rfl (zr_n rfl (zr_n rfl (zr_n rfl (zr_n rfl (zr_n rfl (zr_n rfl (zr_n rfl (zr_n rfl (zr_n rfl (zr_n rfl (zr_n rfl e_i31))))))))))))))) rfl) ?_
    refine zj_mem (N := (zui (zui (zui (zui (zui (zui (zui (zui (zui (zui (zui (zui (zui (zui (zui (zui (zui M 15 r0_4) 16 r0_4_0) 17 r0_4_1) 18 r0_4_2) 19 r0_4_3) 20 r0_4_4) 21 r0_4_5) 22 r0_4_6) 23 r0_4_7) 25 r0_5) 26 r0_5_0) 27 r0_5_1) 28 r0_5_2) 29 r0_5_3) 30 r0_5_4) 31 r0_5_5) 32 r0_5_6)) (zself_i (zr_n rfl (zr_n rfl (zr_n rfl (zr_n rfl (zr_n rfl (zr_n rfl (zr_n rfl (zr_n rfl (zr_n rfl (zr_n rfl (zr_n rfl (zr_n rfl (zr_n rfl (zr_n rfl (zr_n rfl (zr_n rfl e_i32)))))))))))))))) rfl) ?_
    refine zj_mem (N := (zui (zui (zui (zui (zui (zui (zui (zui (zui (zui (zui (zui (zui (zui (zui (zui (zui (zui M 15 r0_4) 16 r0_4_0) 17 r0_4_1) 18 r0_4_2) 19 r0_4_3) 20 r0_4_4) 21 r0_4_5) 22 r0_4_6) 23 r0_4_7) 25 r0_5) 26 r0_5_0) 27 r0_5_1) 28 r0_5_2) 29 r0_5_3) 30 r0_5_4) 31 r0_5_5) 32 r0_5_6) 33 r0_5_7)) (zself_i (zr_n rfl (zr_n rfl (zr_n rfl (zr_n rfl (zr_n rfl (zr_n rfl (zr_n rfl (zr_n rfl (zr_n rfl (zr_n rfl (zr_n rfl (zr_n rfl (zr_n rfl (zr_n rfl (zr_n rfl (zr_n rfl (zr_n rfl e_i33))))))))))))))))) rfl) ?_
    refine zj_mem (N := (zui (zui (zui (zui (zui (zui (zui (zui (zui (zui (zui (zui (zui (zui (zui (zui (zui (zui (zui M 15 r0_4) 16 r0_4_0) 17 r0_4_1) 18 r0_4_2) 19 r0_4_3) 20 r0_4_4) 21 r0_4_5) 22 r0_4_6) 23 r0_4_7) 25 r0_5) 26 r0_5_0) 27 r0_5_1) 28 r0_5_2) 29 r0_5_3) 30 r0_5_4) 31 r0_5_5) 32 r0_5_6) 33 r0_5_7) 47 r0_8)) (zself_i (zr_n rfl (zr_n rfl (zr_n rfl (zr_n rfl (zr_n rfl (zr_n rfl (zr_n rfl (zr_n rfl (zr_n rfl (zr_n rfl (zr_n rfl (zr_n rfl (zr_n rfl (zr_n rfl (zr_n rfl (zr_n rfl (zr_n rfl (zr_n rfl e_i47)))))))))))))))))) rfl) ?_
    refine zj_mem (N := (zub (zui (zui (zui (zui (zui (zui (zui (zui (zui (zui (zui (zui (zui (zui (zui (zui (zui (zui (zui M 15 r0_4) 16 r0_4_0) 17 r0_4_1) 18 r0_4_2) 19 r0_4_3) 20 r0_4_4) 21 r0_4_5) 22 r0_4_6) 23 r0_4_7) 25 r0_5) 26 r0_5_0) 27 r0_5_1) 28 r0_5_2) 29 r0_5_3) 30 r0_5_4) 31 r0_5_5) 32 r0_5_6) 33 r0_5_7) 47 r0_8) 49 129 g49)) (zself_h (zeq_i rfl (zeq_i rfl (zeq_i rfl (zeq_i rfl (zeq_i rfl (zeq_i rfl (zeq_i rfl (zeq_i rfl (zeq_i rfl (zeq_i rfl (zeq_i rfl (zeq_i rfl (zeq_i rfl (zeq_i rfl (zeq_i rfl (zeq_i rfl (zeq_i rfl (zeq_i rfl (zeq_i rfl e_h49))))))))))))))))))) rfl) ?_
    exact zj_iret dX11_drop_12 rfl hq
set_option maxRecDepth 20000 in
theorem LX11_drop_0 (Γ : zG) (M : zM) (r0_2 : Nat → Int32) (r0_4 : Nat → Int32) (r0_4_0 : Nat → Int32) (r0_4_1 : Nat → Int32) (r0_4_2 : Nat → Int32) (r0_4_3 : Nat → Int32) (r0_4_4 : Nat → Int32) (r0_4_5 : Nat → Int32) (r0_4_6 : Nat → Int32) (r0_4_7 : Nat → Int32) (r0_5 : Nat → Int32) (r0_5_0 : Nat → Int32) (r0_5_1 : Nat → Int32) (r0_5_2 : Nat → Int32) (r0_5_3 : Nat → Int32) (r0_5_4 : Nat → Int32) (r0_5_5 : Nat → Int32) (r0_5_6 : Nat → Int32) (r0_5_7 : Nat → Int32) (r0_8 : Nat → Int32) (g49 : zM) (e_i5 : M.1 5 = r0_2) (e_i15 : M.1 15 = r0_4) (e_i16 : M.1 16 = r0_4_0) (e_i17 : M.1 17 = r0_4_1) (e_i18 : M.1 18 = r0_4_2) (e_i19 : M.1 19 = r0_4_3) (e_i20 : M.1 20 = r0_4_4) (e_i21 : M.1 21 = r0_4_5) (e_i22 : M.1 22 = r0_4_6) (e_i23 : M.1 23 = r0_4_7) (e_i25 : M.1 25 = r0_5) (e_i26 : M.1 26 = r0_5_0) (e_i27 : M.1 27 = r0_5_1) (e_i28 : M.1 28 = r0_5_2) (e_i29 : M.1 29 = r0_5_3) (e_i30 : M.1 30 = r0_5_4) (e_i31 : M.1 31 = r0_5_5) (e_i32 : M.1 32 = r0_5_6) (e_i33 : M.1 33 = r0_5_7) (e_i47 : M.1 47 = r0_8) (e_h49 : zeq M 49 129 g49) (a1 : Int32) {res : Int32 × (Nat → Int32) × (Nat → Int32) × (Nat → Int32) × (Nat → Int32) × (Nat → Int32) × (Nat → Int32) × (Nat → Int32) × (Nat → Int32) × (Nat → Int32) × (Nat → Int32) × (Nat → Int32) × (Nat → Int32) × (Nat → Int32) × (Nat → Int32) × (Nat → Int32) × (Nat → Int32) × (Nat → Int32) × (Nat → Int32) × (Nat → Int32) × zM} (hy : (fX_drop r0_2 r0_4 r0_4_0 r0_4_1 r0_4_2 r0_4_3 r0_4_4 r0_4_5 r0_4_6 r0_4_7 r0_5 r0_5_0 r0_5_1 r0_5_2 r0_5_3 r0_5_4 r0_5_5 r0_5_6 r0_5_7 r0_8 g49 a1) = some res) : zK Γ 6 YX11_drop [.ref (zad Γ 0), .int a1] M (fun v N => v = some (.int res.1) ∧ N = (zub (zui (zui (zui (zui (zui (zui (zui (zui (zui (zui (zui (zui (zui (zui (zui (zui (zui (zui (zui M 15 res.2.1) 16 res.2.2.1) 17 res.2.2.2.1) 18 res.2.2.2.2.1) 19 res.2.2.2.2.2.1) 20 res.2.2.2.2.2.2.1) 21 res.2.2.2.2.2.2.2.1) 22 res.2.2.2.2.2.2.2.2.1) 23 res.2.2.2.2.2.2.2.2.2.1) 25 res.2.2.2.2.2.2.2.2.2.2.1) 26 res.2.2.2.2.2.2.2.2.2.2.2.1) 27 res.2.2.2.2.2.2.2.2.2.2.2.2.1) 28 res.2.2.2.2.2.2.2.2.2.2.2.2.2.1) 29 res.2.2.2.2.2.2.2.2.2.2.2.2.2.2.1) 30 res.2.2.2.2.2.2.2.2.2.2.2.2.2.2.2.1) 31 res.2.2.2.2.2.2.2.2.2.2.2.2.2.2.2.2.1) 32 res.2.2.2.2.2.2.2.2.2.2.2.2.2.2.2.2.2.1) 33 res.2.2.2.2.2.2.2.2.2.2.2.2.2.2.2.2.2.2.1) 47 res.2.2.2.2.2.2.2.2.2.2.2.2.2.2.2.2.2.2.2.1) 49 129 res.2.2.2.2.2.2.2.2.2.2.2.2.2.2.2.2.2.2.2.2)) :=
  zK_of (by decide) (Nat.le_of_ble_eq_true rfl) (TX11_drop_0 Γ M r0_2 r0_4 r0_4_0 r0_4_1 r0_4_2 r0_4_3 r0_4_4 r0_4_5 r0_4_6 r0_4_7 r0_5 r0_5_0 r0_5_1 r0_5_2 r0_5_3 r0_5_4 r0_5_5 r0_5_6 r0_5_7 r0_8 g49 e_i5 e_i15 e_i16 e_i17 e_i18 e_i19 e_i20 e_i21 e_i22 e_i23 e_i25 e_i26 e_i27 e_i28 e_i29 e_i30 e_i31 e_i32 e_i33 e_i47 e_h49 a1 hy ⟨rfl, rfl⟩)

noncomputable def fX_leave (r0_2 : Nat → Int32) (r0_4 : Nat → Int32) (r0_4_0 : Nat → Int32) (r0_4_1 : Nat → Int32) (r0_4_2 : Nat → Int32) (r0_4_3 : Nat → Int32) (r0_4_4 : Nat → Int32) (r0_4_5 : Nat → Int32) (r0_4_6 : Nat → Int32) (r0_4_7 : Nat → Int32) (r0_5 : Nat → Int32) (r0_5_0 : Nat → Int32) (r0_5_1 : Nat → Int32) (r0_5_2 : Nat → Int32) (r0_5_3 : Nat → Int32) (r0_5_4 : Nat → Int32) (r0_5_5 : Nat → Int32) (r0_5_6 : Nat → Int32) (r0_5_7 : Nat → Int32) (r0_8 : Nat → Int32) (g49 : zM) (a1 : Int32) : Option (Int32 × (Nat → Int32) × (Nat → Int32) × (Nat → Int32) × (Nat → Int32) × (Nat → Int32) × (Nat → Int32) × (Nat → Int32) × (Nat → Int32) × (Nat → Int32) × (Nat → Int32) × (Nat → Int32) × (Nat → Int32) × (Nat → Int32) × (Nat → Int32) × (Nat → Int32) × (Nat → Int32) × (Nat → Int32) × (Nat → Int32) × (Nat → Int32) × zM) :=
  (if (fPl_hasPerson r0_2 a1) = true then
  (fDy_copyFrom r0_5 r0_5_0 r0_5_1 r0_5_2 r0_5_3 r0_5_4 r0_5_5 r0_5_6 r0_5_7 r0_4 r0_4_0 r0_4_1 r0_4_2 r0_4_3 r0_4_4 r0_4_5 r0_4_6 r0_4_7).bind (fun (y2 : (Nat → Int32) × (Nat → Int32) × (Nat → Int32) × (Nat → Int32) × (Nat → Int32) × (Nat → Int32) × (Nat → Int32) × (Nat → Int32) × (Nat → Int32)) =>
  (fDy_leavesOff y2.2.2.2.1 y2.2.2.2.2.1 a1).bind (fun (y3 : Int32 × (Nat → Int32) × (Nat → Int32)) =>
  (fX_settleIfDone r0_4 r0_4_0 r0_4_1 r0_4_2 r0_4_3 r0_4_4 r0_4_5 r0_4_6 r0_4_7 y2.1 y2.2.1 y2.2.2.1 y3.2.1 y3.2.2 y2.2.2.2.2.2.1 y2.2.2.2.2.2.2.1 y2.2.2.2.2.2.2.2.1 y2.2.2.2.2.2.2.2.2 r0_8 g49 y3.1).bind (fun (y4 : Int32 × (Nat → Int32) × (Nat → Int32) × (Nat → Int32) × (Nat → Int32) × (Nat → Int32) × (Nat → Int32) × (Nat → Int32) × (Nat → Int32) × (Nat → Int32) × (Nat → Int32) × zM) =>
  some (y4.1, y4.2.1, y4.2.2.1, y4.2.2.2.1, y4.2.2.2.2.1, y4.2.2.2.2.2.1, y4.2.2.2.2.2.2.1, y4.2.2.2.2.2.2.2.1, y4.2.2.2.2.2.2.2.2.1, y4.2.2.2.2.2.2.2.2.2.1, y2.1, y2.2.1, y2.2.2.1, y3.2.1, y3.2.2, y2.2.2.2.2.2.1, y2.2.2.2.2.2.2.1, y2.2.2.2.2.2.2.2.1, y2.2.2.2.2.2.2.2.2, y4.2.2.2.2.2.2.2.2.2.2.1, y4.2.2.2.2.2.2.2.2.2.2.2))))
  else
  some ((-1), r0_4, r0_4_0, r0_4_1, r0_4_2, r0_4_3, r0_4_4, r0_4_5, r0_4_6, r0_4_7, r0_5, r0_5_0, r0_5_1, r0_5_2, r0_5_3, r0_5_4, r0_5_5, r0_5_6, r0_5_7, r0_8, g49))

set_option maxRecDepth 20000 in
theorem TX11_leave_0 (Γ : zG) {Q : Option Value → zM → Prop} (M : zM) (r0_2 : Nat → Int32) (r0_4 : Nat → Int32) (r0_4_0 : Nat → Int32) (r0_4_1 : Nat → Int32) (r0_4_2 : Nat → Int32) (r0_4_3 : Nat → Int32) (r0_4_4 : Nat → Int32) (r0_4_5 : Nat → Int32) (r0_4_6 : Nat → Int32) (r0_4_7 : Nat → Int32) (r0_5 : Nat → Int32) (r0_5_0 : Nat → Int32) (r0_5_1 : Nat → Int32) (r0_5_2 : Nat → Int32) (r0_5_3 : Nat → Int32) (r0_5_4 : Nat → Int32) (r0_5_5 : Nat → Int32) (r0_5_6 : Nat → Int32) (r0_5_7 : Nat → Int32) (r0_8 : Nat → Int32) (g49 : zM) (e_i5 : M.1 5 = r0_2) (e_i15 : M.1 15 = r0_4) (e_i16 : M.1 16 = r0_4_0) (e_i17 : M.1 17 = r0_4_1) (e_i18 : M.1 18 = r0_4_2) (e_i19 : M.1 19 = r0_4_3) (e_i20 : M.1 20 = r0_4_4) (e_i21 : M.1 21 = r0_4_5) (e_i22 : M.1 22 = r0_4_6) (e_i23 : M.1 23 = r0_4_7) (e_i25 : M.1 25 = r0_5) (e_i26 : M.1 26 = r0_5_0) (e_i27 : M.1 27 = r0_5_1) (e_i28 : M.1 28 = r0_5_2) (e_i29 : M.1 29 = r0_5_3) (e_i30 : M.1 30 = r0_5_4) (e_i31 : M.1 31 = r0_5_5) (e_i32 : M.1 32 = r0_5_6) (e_i33 : M.1 33 = r0_5_7) (e_i47 : M.1 47 = r0_8) (e_h49 : zeq M 49 129 g49) (a1 : Int32) {res : Int32 × (Nat → Int32) × (Nat → Int32) × (Nat → Int32) × (Nat → Int32) × (Nat → Int32) × (Nat → Int32) × (Nat → Int32) × (Nat → Int32) × (Nat → Int32) × (Nat → Int32) × (Nat → Int32) × (Nat → Int32) × (Nat → Int32) × (Nat → Int32) × (Nat → Int32) × (Nat → Int32) × (Nat → Int32) × (Nat → Int32) × (Nat → Int32) × zM} (hy : (fX_leave r0_2 r0_4 r0_4_0 r0_4_1 r0_4_2 r0_4_3 r0_4_4 r0_4_5 r0_4_6 r0_4_7 r0_5 r0_5_0 r0_5_1 r0_5_2 r0_5_3 r0_5_4 r0_5_5 r0_5_6 r0_5_7 r0_8 g49 a1) = some res) (hq : Q (some (.int res.1)) (zub (zui (zui (zui (zui (zui (zui (zui (zui (zui (zui (zui (zui (zui (zui (zui (zui (zui (zui (zui M 15 res.2.1) 16 res.2.2.1) 17 res.2.2.2.1) 18 res.2.2.2.2.1) 19 res.2.2.2.2.2.1) 20 res.2.2.2.2.2.2.1) 21 res.2.2.2.2.2.2.2.1) 22 res.2.2.2.2.2.2.2.2.1) 23 res.2.2.2.2.2.2.2.2.2.1) 25 res.2.2.2.2.2.2.2.2.2.2.1) 26 res.2.2.2.2.2.2.2.2.2.2.2.1) 27 res.2.2.2.2.2.2.2.2.2.2.2.2.1) 28 res.2.2.2.2.2.2.2.2.2.2.2.2.2.1) 29 res.2.2.2.2.2.2.2.2.2.2.2.2.2.2.1) 30 res.2.2.2.2.2.2.2.2.2.2.2.2.2.2.2.1) 31 res.2.2.2.2.2.2.2.2.2.2.2.2.2.2.2.2.1) 32 res.2.2.2.2.2.2.2.2.2.2.2.2.2.2.2.2.2.1) 33 res.2.2.2.2.2.2.2.2.2.2.2.2.2.2.2.2.2.2.1) 47 res.2.2.2.2.2.2.2.2.2.2.2.2.2.2.2.2.2.2.2.1) 49 129 res.2.2.2.2.2.2.2.2.2.2.2.2.2.2.2.2.2.2.2.2)) : zR Γ 6 YX11_leave 0 [(0, .ref (zad Γ 0)), (1, .int a1)] [] M Q := by
  unfold fX_leave at hy
  refine zj_aload_n (pc' := 1) 0 dX11_leave_0 rfl rfl rfl ?_
  refine zj_getR (pc' := 4) (j := 5) dX11_leave_1 rfl flX11_28 sh0 rfl ?_
  refine zj_iload_n (pc' := 5) 1 dX11_leave_4 rfl rfl rfl ?_
  refine zj_V1 (pc' := 8) (z := YX7_hasPerson) (As := [.int a1]) (N := M) dX11_leave_5 rfl mlX11_156 lkX7_hasPerson sh5 ⟨_, _, rfl⟩ rfl rfl (Nat.le_of_ble_eq_true rfl) (Nat.le_of_ble_eq_true rfl) (LX7_hasPerson_5 Γ _ r0_2 e_i5 a1 rfl) rfl ?_
  refine zj_bif_ne (tgt := 13) (pc' := 11) dX11_leave_8 rfl (by decide) (fun c1 => ?_) (fun c1 => ?_)
  · have hy := zt_t hy c1
    refine zj_aload_n (pc' := 14) 0 dX11_leave_13 rfl rfl rfl ?_
    refine zj_getR (pc' := 17) (j := 25) dX11_leave_14 rfl flX11_42 sh0 rfl ?_
    refine zj_aload_n (pc' := 18) 0 dX11_leave_17 rfl rfl rfl ?_
    refine zj_getR (pc' := 21) (j := 15) dX11_leave_18 rfl flX11_38 sh0 rfl ?_
    obtain ⟨y2, hy2, hy⟩ := zt_b hy
    refine zj_V0 (pc' := 24) (z := YX1_copyFrom) (As := [.ref (zad Γ 15)]) (N := (zui (zui (zui (zui (zui (zui (zui (zui (zui M 25 y2.1) 26 y2.2.1) 27 y2.2.2.1) 28 y2.2.2.2.1) 29 y2.2.2.2.2.1) 30 y2.2.2.2.2.2.1) 31 y2.2.2.2.2.2.2.1) 32 y2.2.2.2.2.2.2.2.1) 33 y2.2.2.2.2.2.2.2.2)) dX11_leave_21 rfl mlX11_151 lkX1_copyFrom sh25 ⟨_, _, rfl⟩ rfl rfl (Nat.le_of_ble_eq_true rfl) (Nat.le_of_ble_eq_true rfl) (LX1_copyFrom_25_15 Γ _ r0_5 r0_5_0 r0_5_1 r0_5_2 r0_5_3 r0_5_4 r0_5_5 r0_5_6 r0_5_7 r0_4 r0_4_0 r0_4_1 r0_4_2 r0_4_3 r0_4_4 r0_4_5 r0_4_6 r0_4_7 e_i25 e_i26 e_i27 e_i28 e_i29 e_i30 e_i31 e_i32 e_i33 e_i15 e_i16 e_i17 e_i18 e_i19 e_i20 e_i21 e_i22 e_i23 hy2) ((zch_i (zch_i (zch_i (zch_i (zch_i (zch_i (zch_i (zch_i rfl rfl) rfl) rfl) rfl) rfl) rfl) rfl) rfl)).symm ?_
    refine zj_aload_n (pc' := 25) 0 dX11_leave_24 rfl rfl rfl ?_
    refine zj_aload_n (pc' := 26) 0 dX11_leave_25 rfl rfl rfl ?_
    refine zj_getR (pc' := 29) (j := 25) dX11_leave_26 rfl flX11_42 sh0 rfl ?_
    refine zj_iload_n (pc' := 30) 1 dX11_leave_29 rfl rfl rfl ?_
    obtain ⟨y3, hy3, hy⟩ := zt_b hy
    refine zj_V1 (pc' := 33) (z := YX1_leavesOff) (As := [.int a1]) (N := (zui (zui (zui (zui (zui (zui (zui (zui (zui M 25 y2.1) 26 y2.2.1) 27 y2.2.2.1) 28 y3.2.1) 29 y3.2.2) 30 y2.2.2.2.2.2.1) 31 y2.2.2.2.2.2.2.1) 32 y2.2.2.2.2.2.2.2.1) 33 y2.2.2.2.2.2.2.2.2)) dX11_leave_30 rfl mlX11_243 lkX1_leavesOff sh25 ⟨_, _, rfl⟩ rfl rfl (Nat.le_of_ble_eq_true rfl) (Nat.le_of_ble_eq_true rfl) (LX1_leavesOff_25 Γ _ y2.2.2.2.1 y2.2.2.2.2.1 (zr_n rfl (zr_n rfl (zr_n rfl (zr_n rfl (zr_n rfl zr_s))))) (zr_n rfl (zr_n rfl (zr_n rfl (zr_n rfl zr_s)))) a1 hy3) ((zch_i (zm_n rfl (zm_n rfl (zm_n rfl (zm_n rfl (zm_n rfl zm_s))))) (zm_n rfl (zm_n rfl (zm_n rfl (zm_n rfl zm_s)))))).symm ?_
    obtain ⟨y4, hy4, hy⟩ := zt_b hy
    refine zj_V1 (pc' := 36) (z := YX11_settleIfDone) (As := [.int y3.1]) (N := (zub (zui (zui (zui (zui (zui (zui (zui (zui (zui (zui (zui (zui (zui (zui (zui (zui (zui (zui (zui M 15 y4.2.1) 16 y4.2.2.1) 17 y4.2.2.2.1) 18 y4.2.2.2.2.1) 19 y4.2.2.2.2.2.1) 20 y4.2.2.2.2.2.2.1) 21 y4.2.2.2.2.2.2.2.1) 22 y4.2.2.2.2.2.2.2.2.1) 23 y4.2.2.2.2.2.2.2.2.2.1) 25 y2.1) 26 y2.2.1) 27 y2.2.2.1) 28 y3.2.1) 29 y3.2.2) 30 y2.2.2.2.2.2.1) 31 y2.2.2.2.2.2.2.1) 32 y2.2.2.2.2.2.2.2.1) 33 y2.2.2.2.2.2.2.2.2) 47 y4.2.2.2.2.2.2.2.2.2.2.1) 49 129 y4.2.2.2.2.2.2.2.2.2.2.2)) dX11_leave_33 rfl mlX11_237 lkX11_settleIfDone sh0 ⟨_, _, rfl⟩ rfl rfl (Nat.le_of_ble_eq_true rfl) (Nat.le_of_ble_eq_true rfl) (LX11_settleIfDone_0 Γ _ r0_4 r0_4_0 r0_4_1 r0_4_2 r0_4_3 r0_4_4 r0_4_5 r0_4_6 r0_4_7 y2.1 y2.2.1 y2.2.2.1 y3.2.1 y3.2.2 y2.2.2.2.2.2.1 y2.2.2.2.2.2.2.1 y2.2.2.2.2.2.2.2.1 y2.2.2.2.2.2.2.2.2 r0_8 g49 (zr_n rfl (zr_n rfl (zr_n rfl (zr_n rfl (zr_n rfl (zr_n rfl (zr_n rfl (zr_n rfl (zr_n rfl e_i15))))))))) (zr_n rfl (zr_n rfl (zr_n rfl (zr_n rfl (zr_n rfl (zr_n rfl (zr_n rfl (zr_n rfl (zr_n rfl e_i16))))))))) (zr_n rfl (zr_n rfl (zr_n rfl (zr_n rfl (zr_n rfl (zr_n rfl (zr_n rfl (zr_n rfl (zr_n rfl e_i17))))))))) (zr_n rfl (zr_n rfl (zr_n rfl (zr_n rfl (zr_n rfl (zr_n rfl (zr_n rfl (zr_n rfl (zr_n rfl e_i18))))))))) (zr_n rfl (zr_n rfl (zr_n rfl (zr_n rfl (zr_n rfl (zr_n rfl (zr_n rfl (zr_n rfl (zr_n rfl e_i19))))))))) (zr_n rfl (zr_n rfl (zr_n rfl (zr_n rfl (zr_n rfl (zr_n rfl (zr_n rfl (zr_n rfl (zr_n rfl e_i20))))))))) (zr_n rfl (zr_n rfl (zr_n rfl (zr_n rfl (zr_n rfl (zr_n rfl (zr_n rfl (zr_n rfl (zr_n rfl e_i21))))))))) (zr_n rfl (zr_n rfl (zr_n rfl (zr_n rfl (zr_n rfl (zr_n rfl (zr_n rfl (zr_n rfl (zr_n rfl e_i22))))))))) (zr_n rfl (zr_n rfl (zr_n rfl (zr_n rfl (zr_n rfl (zr_n rfl (zr_n rfl (zr_n rfl (zr_n rfl e_i23))))))))) (zr_n rfl (zr_n rfl (zr_n rfl (zr_n rfl (zr_n rfl (zr_n rfl (zr_n rfl (zr_n rfl zr_s)))))))) (zr_n rfl (zr_n rfl (zr_n rfl (zr_n rfl (zr_n rfl (zr_n rfl (zr_n rfl zr_s))))))) (zr_n rfl (zr_n rfl (zr_n rfl (zr_n rfl (zr_n rfl (zr_n rfl zr_s)))))) (zr_n rfl (zr_n rfl (zr_n rfl (zr_n rfl (zr_n rfl zr_s))))) (zr_n rfl (zr_n rfl (zr_n rfl (zr_n rfl zr_s)))) (zr_n rfl (zr_n rfl (zr_n rfl zr_s))) (zr_n rfl (zr_n rfl zr_s)) (zr_n rfl zr_s) zr_s (zr_n rfl (zr_n rfl (zr_n rfl (zr_n rfl (zr_n rfl (zr_n rfl (zr_n rfl (zr_n rfl (zr_n rfl e_i47))))))))) (zeq_i rfl (zeq_i rfl (zeq_i rfl (zeq_i rfl (zeq_i rfl (zeq_i rfl (zeq_i rfl (zeq_i rfl (zeq_i rfl e_h49))))))))) y3.1 hy4) ((zch_h (zch_i (zch_i (zch_i (zch_i (zch_i (zch_i (zch_i (zch_i (zch_i (zm_n rfl (zm_n rfl (zm_n rfl (zm_n rfl (zm_n rfl (zm_n rfl (zm_n rfl (zm_n rfl (zm_n rfl rfl))))))))) (zm_n rfl (zm_n rfl (zm_n rfl (zm_n rfl (zm_n rfl (zm_n rfl (zm_n rfl (zm_n rfl (zm_n rfl rfl)))))))))) (zm_n rfl (zm_n rfl (zm_n rfl (zm_n rfl (zm_n rfl (zm_n rfl (zm_n rfl (zm_n rfl (zm_n rfl rfl)))))))))) (zm_n rfl (zm_n rfl (zm_n rfl (zm_n rfl (zm_n rfl (zm_n rfl (zm_n rfl (zm_n rfl (zm_n rfl rfl)))))))))) (zm_n rfl (zm_n rfl (zm_n rfl (zm_n rfl (zm_n rfl (zm_n rfl (zm_n rfl (zm_n rfl (zm_n rfl rfl)))))))))) (zm_n rfl (zm_n rfl (zm_n rfl (zm_n rfl (zm_n rfl (zm_n rfl (zm_n rfl (zm_n rfl (zm_n rfl rfl)))))))))) (zm_n rfl (zm_n rfl (zm_n rfl (zm_n rfl (zm_n rfl (zm_n rfl (zm_n rfl (zm_n rfl (zm_n rfl rfl)))))))))) (zm_n rfl (zm_n rfl (zm_n rfl (zm_n rfl (zm_n rfl (zm_n rfl (zm_n rfl (zm_n rfl (zm_n rfl rfl)))))))))) (zm_n rfl (zm_n rfl (zm_n rfl (zm_n rfl (zm_n rfl (zm_n rfl (zm_n rfl (zm_n rfl (zm_n rfl rfl)))))))))) rfl) rfl)).symm ?_
    have e9 := Option.some.inj hy
    subst e9
    exact zj_iret dX11_leave_36 rfl hq
  · have hy := zt_f hy c1
    refine zj_iconst (pc' := 12) dX11_leave_11 rfl kiconst_m1 ?_
    have e9 := Option.some.inj hy
    subst e9
    refine zj_mem (N := (zui M 15 r0_4)) (zself_i e_i15 rfl) ?_
    refine zj_mem (N := (zui (zui M 15 r0_4) 16 r0_4_0)) (zself_i (zr_n rfl e_i16) rfl) ?_
    refine zj_mem (N := (zui (zui (zui M 15 r0_4) 16 r0_4_0) 17 r0_4_1)) (zself_i (zr_n rfl (zr_n rfl e_i17)) rfl) ?_
    refine zj_mem (N := (zui (zui (zui (zui M 15 r0_4) 16 r0_4_0) 17 r0_4_1) 18 r0_4_2)) (zself_i (zr_n rfl (zr_n rfl (zr_n rfl e_i18))) rfl) ?_
    refine zj_mem (N := (zui (zui (zui (zui (zui M 15 r0_4) 16 r0_4_0) 17 r0_4_1) 18 r0_4_2) 19 r0_4_3)) (zself_i (zr_n rfl (zr_n rfl (zr_n rfl (zr_n rfl e_i19)))) rfl) ?_
    refine zj_mem (N := (zui (zui (zui (zui (zui (zui M 15 r0_4) 16 r0_4_0) 17 r0_4_1) 18 r0_4_2) 19 r0_4_3) 20 r0_4_4)) (zself_i (zr_n rfl (zr_n rfl (zr_n rfl (zr_n rfl (zr_n rfl e_i20))))) rfl) ?_
    refine zj_mem (N := (zui (zui (zui (zui (zui (zui (zui M 15 r0_4) 16 r0_4_0) 17 r0_4_1) 18 r0_4_2) 19 r0_4_3) 20 r0_4_4) 21 r0_4_5)) (zself_i (zr_n rfl (zr_n rfl (zr_n rfl (zr_n rfl (zr_n rfl (zr_n rfl e_i21)))))) rfl) ?_
    refine zj_mem (N := (zui (zui (zui (zui (zui (zui (zui (zui M 15 r0_4) 16 r0_4_0) 17 r0_4_1) 18 r0_4_2) 19 r0_4_3) 20 r0_4_4) 21 r0_4_5) 22 r0_4_6)) (zself_i (zr_n rfl (zr_n rfl (zr_n rfl (zr_n rfl (zr_n rfl (zr_n rfl (zr_n rfl e_i22))))))) rfl) ?_
    refine zj_mem (N := (zui (zui (zui (zui (zui (zui (zui (zui (zui M 15 r0_4) 16 r0_4_0) 17 r0_4_1) 18 r0_4_2) 19 r0_4_3) 20 r0_4_4) 21 r0_4_5) 22 r0_4_6) 23 r0_4_7)) (zself_i (zr_n rfl (zr_n rfl (zr_n rfl (zr_n rfl (zr_n rfl (zr_n rfl (zr_n rfl (zr_n rfl e_i23)))))))) rfl) ?_
    refine zj_mem (N := (zui (zui (zui (zui (zui (zui (zui (zui (zui (zui M 15 r0_4) 16 r0_4_0) 17 r0_4_1) 18 r0_4_2) 19 r0_4_3) 20 r0_4_4) 21 r0_4_5) 22 r0_4_6) 23 r0_4_7) 25 r0_5)) (zself_i (zr_n rfl (zr_n rfl (zr_n rfl (zr_n rfl (zr_n rfl (zr_n rfl (zr_n rfl (zr_n rfl (zr_n rfl e_i25))))))))) rfl) ?_
    refine zj_mem (N := (zui (zui (zui (zui (zui (zui (zui (zui (zui (zui (zui M 15 r0_4) 16 r0_4_0) 17 r0_4_1) 18 r0_4_2) 19 r0_4_3) 20 r0_4_4) 21 r0_4_5) 22 r0_4_6) 23 r0_4_7) 25 r0_5) 26 r0_5_0)) (zself_i (zr_n rfl (zr_n rfl (zr_n rfl (zr_n rfl (zr_n rfl (zr_n rfl (zr_n rfl (zr_n rfl (zr_n rfl (zr_n rfl e_i26)))))))))) rfl) ?_
    refine zj_mem (N := (zui (zui (zui (zui (zui (zui (zui (zui (zui (zui (zui (zui M 15 r0_4) 16 r0_4_0) 17 r0_4_1) 18 r0_4_2) 19 r0_4_3) 20 r0_4_4) 21 r0_4_5) 22 r0_4_6) 23 r0_4_7) 25 r0_5) 26 r0_5_0) 27 r0_5_1)) (zself_i (zr_n rfl (zr_n rfl (zr_n rfl (zr_n rfl (zr_n rfl (zr_n rfl (zr_n rfl (zr_n rfl (zr_n rfl (zr_n rfl (zr_n rfl e_i27))))))))))) rfl) ?_
    refine zj_mem (N := (zui (zui (zui (zui (zui (zui (zui (zui (zui (zui (zui (zui (zui M 15 r0_4) 16 r0_4_0) 17 r0_4_1) 18 r0_4_2) 19 r0_4_3) 20 r0_4_4) 21 r0_4_5) 22 r0_4_6) 23 r0_4_7) 25 r0_5) 26 r0_5_0) 27 r0_5_1) 28 r0_5_2)) (zself_i (zr_n rfl (zr_n rfl (zr_n rfl (zr_n rfl (zr_n rfl (zr_n rfl (zr_n rfl (zr_n rfl (zr_n rfl (zr_n rfl (zr_n rfl (zr_n rfl e_i28)))))))))))) rfl) ?_
    refine zj_mem (N := (zui (zui (zui (zui (zui (zui (zui (zui (zui (zui (zui (zui (zui (zui M 15 r0_4) 16 r0_4_0) 17 r0_4_1) 18 r0_4_2) 19 r0_4_3) 20 r0_4_4) 21 r0_4_5) 22 r0_4_6) 23 r0_4_7) 25 r0_5) 26 r0_5_0) 27 r0_5_1) 28 r0_5_2) 29 r0_5_3)) (zself_i (zr_n rfl (zr_n rfl (zr_n rfl (zr_n rfl (zr_n rfl (zr_n rfl (zr_n rfl (zr_n rfl (zr_n rfl (zr_n rfl (zr_n rfl (zr_n rfl (zr_n rfl e_i29))))))))))))) rfl) ?_
    refine zj_mem (N := (zui (zui (zui (zui (zui (zui (zui (zui (zui (zui (zui (zui (zui (zui (zui M 15 r0_4) 16 r0_4_0) 17 r0_4_1) 18 r0_4_2) 19 r0_4_3) 20 r0_4_4) 21 r0_4_5) 22 r0_4_6) 23 r0_4_7) 25 r0_5) 26 r0_5_0) 27 r0_5_1) 28 r0_5_2) 29 r0_5_3) 30 r0_5_4)) (zself_i (zr_n rfl (zr_n rfl (zr_n rfl (zr_n rfl (zr_n rfl (zr_n rfl (zr_n rfl (zr_n rfl (zr_n rfl (zr_n rfl (zr_n rfl (zr_n rfl (zr_n rfl (zr_n rfl e_i30)))))))))))))) rfl) ?_
    refine zj_mem (N := (zui (zui (zui (zui (zui (zui (zui (zui (zui (zui (zui (zui (zui (zui (zui (zui M 15 r0_4) 16 r0_4_0) 17 r0_4_1) 18 r0_4_2) 19 r0_4_3) 20 r0_4_4) 21 r0_4_5) 22 r0_4_6) 23 r0_4_7) 25 r0_5) 26 r0_5_0) 27 r0_5_1) 28 r0_5_2) 29 r0_5_3) 30 r0_5_4) 31 r0_5_5)) (zself_i (zr_n rfl (zr_n rfl (zr_n rfl (zr_n rfl (zr_n rfl (zr_n rfl (zr_n rfl (zr_n rfl (zr_n rfl (zr_n rfl (zr_n rfl (zr_n rfl (zr_n rfl (zr_n rfl (zr_n rfl e_i31))))))))))))))) rfl) ?_
    refine zj_mem (N := (zui (zui (zui (zui (zui (zui (zui (zui (zui (zui (zui (zui (zui (zui (zui (zui (zui M 15 r0_4) 16 r0_4_0) 17 r0_4_1) 18 r0_4_2) 19 r0_4_3) 20 r0_4_4) 21 r0_4_5) 22 r0_4_6) 23 r0_4_7) 25 r0_5) 26 r0_5_0) 27 r0_5_1) 28 r0_5_2) 29 r0_5_3) 30 r0_5_4) 31 r0_5_5) 32 r0_5_6)) (zself_i (zr_n rfl (zr_n rfl (zr_n rfl (zr_n rfl (zr_n rfl (zr_n rfl (zr_n rfl (zr_n rfl (zr_n rfl (zr_n rfl (zr_n rfl (zr_n rfl (zr_n rfl (zr_n rfl (zr_n rfl (zr_n rfl e_i32)))))))))))))))) rfl) ?_
    refine zj_mem (N := (zui (zui (zui (zui (zui (zui (zui (zui (zui (zui (zui (zui (zui (zui (zui (zui (zui (zui M 15 r0_4) 16 r0_4_0) 17 r0_4_1) 18 r0_4_2) 19 r0_4_3) 20 r0_4_4) 21 r0_4_5) 22 r0_4_6) 23 r0_4_7) 25 r0_5) 26 r0_5_0) 27 r0_5_1) 28 r0_5_2) 29 r0_5_3) 30 r0_5_4) 31 r0_5_5) 32 r0_5_6) 33 r0_5_7)) (zself_i (zr_n rfl (zr_n rfl (zr_n rfl (zr_n rfl (zr_n rfl (zr_n rfl (zr_n rfl (zr_n rfl (zr_n rfl (zr_n rfl (zr_n rfl (zr_n rfl (zr_n rfl (zr_n rfl (zr_n rfl (zr_n rfl (zr_n rfl e_i33))))))))))))))))) rfl) ?_
    refine zj_mem (N := (zui (zui (zui (zui (zui (zui (zui (zui (zui (zui (zui (zui (zui (zui (zui (zui (zui (zui (zui M 15 r0_4) 16 r0_4_0) 17 r0_4_1) 18 r0_4_2) 19 r0_4_3) 20 r0_4_4) 21 r0_4_5) 22 r0_4_6) 23 r0_4_7) 25 r0_5) 26 r0_5_0) 27 r0_5_1) 28 r0_5_2) 29 r0_5_3) 30 r0_5_4) 31 r0_5_5) 32 r0_5_6) 33 r0_5_7) 47 r0_8)) (zself_i (zr_n rfl (zr_n rfl (zr_n rfl (zr_n rfl (zr_n rfl (zr_n rfl (zr_n rfl (zr_n rfl (zr_n rfl (zr_n rfl (zr_n rfl (zr_n rfl (zr_n rfl (zr_n rfl (zr_n rfl (zr_n rfl (zr_n rfl (zr_n rfl e_i47)))))))))))))))))) rfl) ?_
    refine zj_mem (N := (zub (zui (zui (zui (zui (zui (zui (zui (zui (zui (zui (zui (zui (zui (zui (zui (zui (zui (zui (zui M 15 r0_4) 16 r0_4_0) 17 r0_4_1) 18 r0_4_2) 19 r0_4_3) 20 r0_4_4) 21 r0_4_5) 22 r0_4_6) 23 r0_4_7) 25 r0_5) 26 r0_5_0) 27 r0_5_1) 28 r0_5_2) 29 r0_5_3) 30 r0_5_4) 31 r0_5_5) 32 r0_5_6) 33 r0_5_7) 47 r0_8) 49 129 g49)) (zself_h (zeq_i rfl (zeq_i rfl (zeq_i rfl (zeq_i rfl (zeq_i rfl (zeq_i rfl (zeq_i rfl (zeq_i rfl (zeq_i rfl (zeq_i rfl (zeq_i rfl (zeq_i rfl (zeq_i rfl (zeq_i rfl (zeq_i rfl (zeq_i rfl (zeq_i rfl (zeq_i rfl (zeq_i rfl e_h49))))))))))))))))))) rfl) ?_
    exact zj_iret dX11_leave_12 rfl hq
set_option maxRecDepth 20000 in
theorem LX11_leave_0 (Γ : zG) (M : zM) (r0_2 : Nat → Int32) (r0_4 : Nat → Int32) (r0_4_0 : Nat → Int32) (r0_4_1 : Nat → Int32) (r0_4_2 : Nat → Int32) (r0_4_3 : Nat → Int32) (r0_4_4 : Nat → Int32) (r0_4_5 : Nat → Int32) (r0_4_6 : Nat → Int32) (r0_4_7 : Nat → Int32) (r0_5 : Nat → Int32) (r0_5_0 : Nat → Int32) (r0_5_1 : Nat → Int32) (r0_5_2 : Nat → Int32) (r0_5_3 : Nat → Int32) (r0_5_4 : Nat → Int32) (r0_5_5 : Nat → Int32) (r0_5_6 : Nat → Int32) (r0_5_7 : Nat → Int32) (r0_8 : Nat → Int32) (g49 : zM) (e_i5 : M.1 5 = r0_2) (e_i15 : M.1 15 = r0_4) (e_i16 : M.1 16 = r0_4_0) (e_i17 : M.1 17 = r0_4_1) (e_i18 : M.1 18 = r0_4_2) (e_i19 : M.1 19 = r0_4_3) (e_i20 : M.1 20 = r0_4_4) (e_i21 : M.1 21 = r0_4_5) (e_i22 : M.1 22 = r0_4_6) (e_i23 : M.1 23 = r0_4_7) (e_i25 : M.1 25 = r0_5) (e_i26 : M.1 26 = r0_5_0) (e_i27 : M.1 27 = r0_5_1) (e_i28 : M.1 28 = r0_5_2) (e_i29 : M.1 29 = r0_5_3) (e_i30 : M.1 30 = r0_5_4) (e_i31 : M.1 31 = r0_5_5) (e_i32 : M.1 32 = r0_5_6) (e_i33 : M.1 33 = r0_5_7) (e_i47 : M.1 47 = r0_8) (e_h49 : zeq M 49 129 g49) (a1 : Int32) {res : Int32 × (Nat → Int32) × (Nat → Int32) × (Nat → Int32) × (Nat → Int32) × (Nat → Int32) × (Nat → Int32) × (Nat → Int32) × (Nat → Int32) × (Nat → Int32) × (Nat → Int32) × (Nat → Int32) × (Nat → Int32) × (Nat → Int32) × (Nat → Int32) × (Nat → Int32) × (Nat → Int32) × (Nat → Int32) × (Nat → Int32) × (Nat → Int32) × zM} (hy : (fX_leave r0_2 r0_4 r0_4_0 r0_4_1 r0_4_2 r0_4_3 r0_4_4 r0_4_5 r0_4_6 r0_4_7 r0_5 r0_5_0 r0_5_1 r0_5_2 r0_5_3 r0_5_4 r0_5_5 r0_5_6 r0_5_7 r0_8 g49 a1) = some res) : zK Γ 6 YX11_leave [.ref (zad Γ 0), .int a1] M (fun v N => v = some (.int res.1) ∧ N = (zub (zui (zui (zui (zui (zui (zui (zui (zui (zui (zui (zui (zui (zui (zui (zui (zui (zui (zui (zui M 15 res.2.1) 16 res.2.2.1) 17 res.2.2.2.1) 18 res.2.2.2.2.1) 19 res.2.2.2.2.2.1) 20 res.2.2.2.2.2.2.1) 21 res.2.2.2.2.2.2.2.1) 22 res.2.2.2.2.2.2.2.2.1) 23 res.2.2.2.2.2.2.2.2.2.1) 25 res.2.2.2.2.2.2.2.2.2.2.1) 26 res.2.2.2.2.2.2.2.2.2.2.2.1) 27 res.2.2.2.2.2.2.2.2.2.2.2.2.1) 28 res.2.2.2.2.2.2.2.2.2.2.2.2.2.1) 29 res.2.2.2.2.2.2.2.2.2.2.2.2.2.2.1) 30 res.2.2.2.2.2.2.2.2.2.2.2.2.2.2.2.1) 31 res.2.2.2.2.2.2.2.2.2.2.2.2.2.2.2.2.1) 32 res.2.2.2.2.2.2.2.2.2.2.2.2.2.2.2.2.2.1) 33 res.2.2.2.2.2.2.2.2.2.2.2.2.2.2.2.2.2.2.1) 47 res.2.2.2.2.2.2.2.2.2.2.2.2.2.2.2.2.2.2.2.1) 49 129 res.2.2.2.2.2.2.2.2.2.2.2.2.2.2.2.2.2.2.2.2)) :=
  zK_of (by decide) (Nat.le_of_ble_eq_true rfl) (TX11_leave_0 Γ M r0_2 r0_4 r0_4_0 r0_4_1 r0_4_2 r0_4_3 r0_4_4 r0_4_5 r0_4_6 r0_4_7 r0_5 r0_5_0 r0_5_1 r0_5_2 r0_5_3 r0_5_4 r0_5_5 r0_5_6 r0_5_7 r0_8 g49 e_i5 e_i15 e_i16 e_i17 e_i18 e_i19 e_i20 e_i21 e_i22 e_i23 e_i25 e_i26 e_i27 e_i28 e_i29 e_i30 e_i31 e_i32 e_i33 e_i47 e_h49 a1 hy ⟨rfl, rfl⟩)

noncomputable def fX_hire (r0_2 : Nat → Int32) (r0_4 : Nat → Int32) (r0_4_0 : Nat → Int32) (r0_4_1 : Nat → Int32) (r0_4_2 : Nat → Int32) (r0_4_3 : Nat → Int32) (r0_4_4 : Nat → Int32) (r0_4_5 : Nat → Int32) (r0_4_6 : Nat → Int32) (r0_4_7 : Nat → Int32) (r0_5 : Nat → Int32) (r0_5_0 : Nat → Int32) (r0_5_1 : Nat → Int32) (r0_5_2 : Nat → Int32) (r0_5_3 : Nat → Int32) (r0_5_4 : Nat → Int32) (r0_5_5 : Nat → Int32) (r0_5_6 : Nat → Int32) (r0_5_7 : Nat → Int32) (r0_8 : Nat → Int32) (g49 : zM) (a1 : Int32) (a2 : Int32) (a3 : Int32) : Option (Int32 × (Nat → Int32) × (Nat → Int32) × (Nat → Int32) × (Nat → Int32) × (Nat → Int32) × (Nat → Int32) × (Nat → Int32) × (Nat → Int32) × (Nat → Int32) × (Nat → Int32) × (Nat → Int32) × (Nat → Int32) × (Nat → Int32) × (Nat → Int32) × (Nat → Int32) × (Nat → Int32) × (Nat → Int32) × (Nat → Int32) × (Nat → Int32) × zM) :=
  (if (fPl_hasPerson r0_2 a1) = true then
  (if (fPl_hasPerson r0_2 a2) = true then
  (if a1 = a2 then
  some ((-1), r0_4, r0_4_0, r0_4_1, r0_4_2, r0_4_3, r0_4_4, r0_4_5, r0_4_6, r0_4_7, r0_5, r0_5_0, r0_5_1, r0_5_2, r0_5_3, r0_5_4, r0_5_5, r0_5_6, r0_5_7, r0_8, g49)
  else
  (if a3 < 1 then
  some ((-1), r0_4, r0_4_0, r0_4_1, r0_4_2, r0_4_3, r0_4_4, r0_4_5, r0_4_6, r0_4_7, r0_5, r0_5_0, r0_5_1, r0_5_2, r0_5_3, r0_5_4, r0_5_5, r0_5_6, r0_5_7, r0_8, g49)
  else
  (if a3 ≤ 5 then
  (fDy_copyFrom r0_5 r0_5_0 r0_5_1 r0_5_2 r0_5_3 r0_5_4 r0_5_5 r0_5_6 r0_5_7 r0_4 r0_4_0 r0_4_1 r0_4_2 r0_4_3 r0_4_4 r0_4_5 r0_4_6 r0_4_7).bind (fun (y6 : (Nat → Int32) × (Nat → Int32) × (Nat → Int32) × (Nat → Int32) × (Nat → Int32) × (Nat → Int32) × (Nat → Int32) × (Nat → Int32) × (Nat → Int32)) =>
  (fDy_takesOn y6.2.2.2.1 y6.2.2.2.2.1 y6.2.2.2.2.2.2.1 a1 a2 a3).bind (fun (y7 : Int32 × (Nat → Int32) × (Nat → Int32) × (Nat → Int32)) =>
  (fX_settleIfDone r0_4 r0_4_0 r0_4_1 r0_4_2 r0_4_3 r0_4_4 r0_4_5 r0_4_6 r0_4_7 y6.1 y6.2.1 y6.2.2.1 y7.2.1 y7.2.2.1 y6.2.2.2.2.2.1 y7.2.2.2 y6.2.2.2.2.2.2.2.1 y6.2.2.2.2.2.2.2.2 r0_8 g49 y7.1).bind (fun (y8 : Int32 × (Nat → Int32) × (Nat → Int32) × (Nat → Int32) × (Nat → Int32) × (Nat → Int32) × (Nat → Int32) × (Nat → Int32) × (Nat → Int32) × (Nat → Int32) × (Nat → Int32) × zM) =>
  some (y8.1, y8.2.1, y8.2.2.1, y8.2.2.2.1, y8.2.2.2.2.1, y8.2.2.2.2.2.1, y8.2.2.2.2.2.2.1, y8.2.2.2.2.2.2.2.1, y8.2.2.2.2.2.2.2.2.1, y8.2.2.2.2.2.2.2.2.2.1, y6.1, y6.2.1, y6.2.2.1, y7.2.1, y7.2.2.1, y6.2.2.2.2.2.1, y7.2.2.2, y6.2.2.2.2.2.2.2.1, y6.2.2.2.2.2.2.2.2, y8.2.2.2.2.2.2.2.2.2.2.1, y8.2.2.2.2.2.2.2.2.2.2.2))))
  else
  some ((-1), r0_4, r0_4_0, r0_4_1, r0_4_2, r0_4_3, r0_4_4, r0_4_5, r0_4_6, r0_4_7, r0_5, r0_5_0, r0_5_1, r0_5_2, r0_5_3, r0_5_4, r0_5_5, r0_5_6, r0_5_7, r0_8, g49))))
  else
  some ((-1), r0_4, r0_4_0, r0_4_1, r0_4_2, r0_4_3, r0_4_4, r0_4_5, r0_4_6, r0_4_7, r0_5, r0_5_0, r0_5_1, r0_5_2, r0_5_3, r0_5_4, r0_5_5, r0_5_6, r0_5_7, r0_8, g49))
  else
  some ((-1), r0_4, r0_4_0, r0_4_1, r0_4_2, r0_4_3, r0_4_4, r0_4_5, r0_4_6, r0_4_7, r0_5, r0_5_0, r0_5_1, r0_5_2, r0_5_3, r0_5_4, r0_5_5, r0_5_6, r0_5_7, r0_8, g49))

set_option maxRecDepth 20000 in
theorem TX11_hire_0 (Γ : zG) {Q : Option Value → zM → Prop} (M : zM) (r0_2 : Nat → Int32) (r0_4 : Nat → Int32) (r0_4_0 : Nat → Int32) (r0_4_1 : Nat → Int32) (r0_4_2 : Nat → Int32) (r0_4_3 : Nat → Int32) (r0_4_4 : Nat → Int32) (r0_4_5 : Nat → Int32) (r0_4_6 : Nat → Int32) (r0_4_7 : Nat → Int32) (r0_5 : Nat → Int32) (r0_5_0 : Nat → Int32) (r0_5_1 : Nat → Int32) (r0_5_2 : Nat → Int32) (r0_5_3 : Nat → Int32) (r0_5_4 : Nat → Int32) (r0_5_5 : Nat → Int32) (r0_5_6 : Nat → Int32) (r0_5_7 : Nat → Int32) (r0_8 : Nat → Int32) (g49 : zM) (e_i5 : M.1 5 = r0_2) (e_i15 : M.1 15 = r0_4) (e_i16 : M.1 16 = r0_4_0) (e_i17 : M.1 17 = r0_4_1) (e_i18 : M.1 18 = r0_4_2) (e_i19 : M.1 19 = r0_4_3) (e_i20 : M.1 20 = r0_4_4) (e_i21 : M.1 21 = r0_4_5) (e_i22 : M.1 22 = r0_4_6) (e_i23 : M.1 23 = r0_4_7) (e_i25 : M.1 25 = r0_5) (e_i26 : M.1 26 = r0_5_0) (e_i27 : M.1 27 = r0_5_1) (e_i28 : M.1 28 = r0_5_2) (e_i29 : M.1 29 = r0_5_3) (e_i30 : M.1 30 = r0_5_4) (e_i31 : M.1 31 = r0_5_5) (e_i32 : M.1 32 = r0_5_6) (e_i33 : M.1 33 = r0_5_7) (e_i47 : M.1 47 = r0_8) (e_h49 : zeq M 49 129 g49) (a1 : Int32) (a2 : Int32) (a3 : Int32) {res : Int32 × (Nat → Int32) × (Nat → Int32) × (Nat → Int32) × (Nat → Int32) × (Nat → Int32) × (Nat → Int32) × (Nat → Int32) × (Nat → Int32) × (Nat → Int32) × (Nat → Int32) × (Nat → Int32) × (Nat → Int32) × (Nat → Int32) × (Nat → Int32) × (Nat → Int32) × (Nat → Int32) × (Nat → Int32) × (Nat → Int32) × (Nat → Int32) × zM} (hy : (fX_hire r0_2 r0_4 r0_4_0 r0_4_1 r0_4_2 r0_4_3 r0_4_4 r0_4_5 r0_4_6 r0_4_7 r0_5 r0_5_0 r0_5_1 r0_5_2 r0_5_3 r0_5_4 r0_5_5 r0_5_6 r0_5_7 r0_8 g49 a1 a2 a3) = some res) (hq : Q (some (.int res.1)) (zub (zui (zui (zui (zui (zui (zui (zui (zui (zui (zui (zui (zui (zui (zui (zui (zui (zui (zui (zui M 15 res.2.1) 16 res.2.2.1) 17 res.2.2.2.1) 18 res.2.2.2.2.1) 19 res.2.2.2.2.2.1) 20 res.2.2.2.2.2.2.1) 21 res.2.2.2.2.2.2.2.1) 22 res.2.2.2.2.2.2.2.2.1) 23 res.2.2.2.2.2.2.2.2.2.1) 25 res.2.2.2.2.2.2.2.2.2.2.1) 26 res.2.2.2.2.2.2.2.2.2.2.2.1) 27 res.2.2.2.2.2.2.2.2.2.2.2.2.1) 28 res.2.2.2.2.2.2.2.2.2.2.2.2.2.1) 29 res.2.2.2.2.2.2.2.2.2.2.2.2.2.2.1) 30 res.2.2.2.2.2.2.2.2.2.2.2.2.2.2.2.1) 31 res.2.2.2.2.2.2.2.2.2.2.2.2.2.2.2.2.1) 32 res.2.2.2.2.2.2.2.2.2.2.2.2.2.2.2.2.2.1) 33 res.2.2.2.2.2.2.2.2.2.2.2.2.2.2.2.2.2.2.1) 47 res.2.2.2.2.2.2.2.2.2.2.2.2.2.2.2.2.2.2.2.1) 49 129 res.2.2.2.2.2.2.2.2.2.2.2.2.2.2.2.2.2.2.2.2)) : zR Γ 6 YX11_hire 0 [(0, .ref (zad Γ 0)), (1, .int a1), (2, .int a2), (3, .int a3)] [] M Q := by
  unfold fX_hire at hy
  refine zj_aload_n (pc' := 1) 0 dX11_hire_0 rfl rfl rfl ?_
  refine zj_getR (pc' := 4) (j := 5) dX11_hire_1 rfl flX11_28 sh0 rfl ?_
  refine zj_iload_n (pc' := 5) 1 dX11_hire_4 rfl rfl rfl ?_
  refine zj_V1 (pc' := 8) (z := YX7_hasPerson) (As := [.int a1]) (N := M) dX11_hire_5 rfl mlX11_156 lkX7_hasPerson sh5 ⟨_, _, rfl⟩ rfl rfl (Nat.le_of_ble_eq_true rfl) (Nat.le_of_ble_eq_true rfl) (LX7_hasPerson_5 Γ _ r0_2 e_i5 a1 rfl) rfl ?_
  refine zj_bif_eq (tgt := 37) (pc' := 11) dX11_hire_8 rfl (by decide) (fun c1 => ?_) (fun c1 => ?_)
  · have hy := zt_f hy c1
    refine zj_iconst (pc' := 38) dX11_hire_37 rfl kiconst_m1 ?_
    have e9 := Option.some.inj hy
    subst e9
    refine zj_mem (N := (zui M 15 r0_4)) (zself_i e_i15 rfl) ?_
    refine zj_mem (N := (zui (zui M 15 r0_4) 16 r0_4_0)) (zself_i (zr_n rfl e_i16) rfl) ?_
    refine zj_mem (N := (zui (zui (zui M 15 r0_4) 16 r0_4_0) 17 r0_4_1)) (zself_i (zr_n rfl (zr_n rfl e_i17)) rfl) ?_
    refine zj_mem (N := (zui (zui (zui (zui M 15 r0_4) 16 r0_4_0) 17 r0_4_1) 18 r0_4_2)) (zself_i (zr_n rfl (zr_n rfl (zr_n rfl e_i18))) rfl) ?_
    refine zj_mem (N := (zui (zui (zui (zui (zui M 15 r0_4) 16 r0_4_0) 17 r0_4_1) 18 r0_4_2) 19 r0_4_3)) (zself_i (zr_n rfl (zr_n rfl (zr_n rfl (zr_n rfl e_i19)))) rfl) ?_
    refine zj_mem (N := (zui (zui (zui (zui (zui (zui M 15 r0_4) 16 r0_4_0) 17 r0_4_1) 18 r0_4_2) 19 r0_4_3) 20 r0_4_4)) (zself_i (zr_n rfl (zr_n rfl (zr_n rfl (zr_n rfl (zr_n rfl e_i20))))) rfl) ?_
    refine zj_mem (N := (zui (zui (zui (zui (zui (zui (zui M 15 r0_4) 16 r0_4_0) 17 r0_4_1) 18 r0_4_2) 19 r0_4_3) 20 r0_4_4) 21 r0_4_5)) (zself_i (zr_n rfl (zr_n rfl (zr_n rfl (zr_n rfl (zr_n rfl (zr_n rfl e_i21)))))) rfl) ?_
    refine zj_mem (N := (zui (zui (zui (zui (zui (zui (zui (zui M 15 r0_4) 16 r0_4_0) 17 r0_4_1) 18 r0_4_2) 19 r0_4_3) 20 r0_4_4) 21 r0_4_5) 22 r0_4_6)) (zself_i (zr_n rfl (zr_n rfl (zr_n rfl (zr_n rfl (zr_n rfl (zr_n rfl (zr_n rfl e_i22))))))) rfl) ?_
    refine zj_mem (N := (zui (zui (zui (zui (zui (zui (zui (zui (zui M 15 r0_4) 16 r0_4_0) 17 r0_4_1) 18 r0_4_2) 19 r0_4_3) 20 r0_4_4) 21 r0_4_5) 22 r0_4_6) 23 r0_4_7)) (zself_i (zr_n rfl (zr_n rfl (zr_n rfl (zr_n rfl (zr_n rfl (zr_n rfl (zr_n rfl (zr_n rfl e_i23)))))))) rfl) ?_
    refine zj_mem (N := (zui (zui (zui (zui (zui (zui (zui (zui (zui (zui M 15 r0_4) 16 r0_4_0) 17 r0_4_1) 18 r0_4_2) 19 r0_4_3) 20 r0_4_4) 21 r0_4_5) 22 r0_4_6) 23 r0_4_7) 25 r0_5)) (zself_i (zr_n rfl (zr_n rfl (zr_n rfl (zr_n rfl (zr_n rfl (zr_n rfl (zr_n rfl (zr_n rfl (zr_n rfl e_i25))))))))) rfl) ?_
    refine zj_mem (N := (zui (zui (zui (zui (zui (zui (zui (zui (zui (zui (zui M 15 r0_4) 16 r0_4_0) 17 r0_4_1) 18 r0_4_2) 19 r0_4_3) 20 r0_4_4) 21 r0_4_5) 22 r0_4_6) 23 r0_4_7) 25 r0_5) 26 r0_5_0)) (zself_i (zr_n rfl (zr_n rfl (zr_n rfl (zr_n rfl (zr_n rfl (zr_n rfl (zr_n rfl (zr_n rfl (zr_n rfl (zr_n rfl e_i26)))))))))) rfl) ?_
    refine zj_mem (N := (zui (zui (zui (zui (zui (zui (zui (zui (zui (zui (zui (zui M 15 r0_4) 16 r0_4_0) 17 r0_4_1) 18 r0_4_2) 19 r0_4_3) 20 r0_4_4) 21 r0_4_5) 22 r0_4_6) 23 r0_4_7) 25 r0_5) 26 r0_5_0) 27 r0_5_1)) (zself_i (zr_n rfl (zr_n rfl (zr_n rfl (zr_n rfl (zr_n rfl (zr_n rfl (zr_n rfl (zr_n rfl (zr_n rfl (zr_n rfl (zr_n rfl e_i27))))))))))) rfl) ?_
    refine zj_mem (N := (zui (zui (zui (zui (zui (zui (zui (zui (zui (zui (zui (zui (zui M 15 r0_4) 16 r0_4_0) 17 r0_4_1) 18 r0_4_2) 19 r0_4_3) 20 r0_4_4) 21 r0_4_5) 22 r0_4_6) 23 r0_4_7) 25 r0_5) 26 r0_5_0) 27 r0_5_1) 28 r0_5_2)) (zself_i (zr_n rfl (zr_n rfl (zr_n rfl (zr_n rfl (zr_n rfl (zr_n rfl (zr_n rfl (zr_n rfl (zr_n rfl (zr_n rfl (zr_n rfl (zr_n rfl e_i28)))))))))))) rfl) ?_
    refine zj_mem (N := (zui (zui (zui (zui (zui (zui (zui (zui (zui (zui (zui (zui (zui (zui M 15 r0_4) 16 r0_4_0) 17 r0_4_1) 18 r0_4_2) 19 r0_4_3) 20 r0_4_4) 21 r0_4_5) 22 r0_4_6) 23 r0_4_7) 25 r0_5) 26 r0_5_0) 27 r0_5_1) 28 r0_5_2) 29 r0_5_3)) (zself_i (zr_n rfl (zr_n rfl (zr_n rfl (zr_n rfl (zr_n rfl (zr_n rfl (zr_n rfl (zr_n rfl (zr_n rfl (zr_n rfl (zr_n rfl (zr_n rfl (zr_n rfl e_i29))))))))))))) rfl) ?_
    refine zj_mem (N := (zui (zui (zui (zui (zui (zui (zui (zui (zui (zui (zui (zui (zui (zui (zui M 15 r0_4) 16 r0_4_0) 17 r0_4_1) 18 r0_4_2) 19 r0_4_3) 20 r0_4_4) 21 r0_4_5) 22 r0_4_6) 23 r0_4_7) 25 r0_5) 26 r0_5_0) 27 r0_5_1) 28 r0_5_2) 29 r0_5_3) 30 r0_5_4)) (zself_i (zr_n rfl (zr_n rfl (zr_n rfl (zr_n rfl (zr_n rfl (zr_n rfl (zr_n rfl (zr_n rfl (zr_n rfl (zr_n rfl (zr_n rfl (zr_n rfl (zr_n rfl (zr_n rfl e_i30)))))))))))))) rfl) ?_
    refine zj_mem (N := (zui (zui (zui (zui (zui (zui (zui (zui (zui (zui (zui (zui (zui (zui (zui (zui M 15 r0_4) 16 r0_4_0) 17 r0_4_1) 18 r0_4_2) 19 r0_4_3) 20 r0_4_4) 21 r0_4_5) 22 r0_4_6) 23 r0_4_7) 25 r0_5) 26 r0_5_0) 27 r0_5_1) 28 r0_5_2) 29 r0_5_3) 30 r0_5_4) 31 r0_5_5)) (zself_i (zr_n rfl (zr_n rfl (zr_n rfl (zr_n rfl (zr_n rfl (zr_n rfl (zr_n rfl (zr_n rfl (zr_n rfl (zr_n rfl (zr_n rfl (zr_n rfl (zr_n rfl (zr_n rfl (zr_n rfl e_i31))))))))))))))) rfl) ?_
    refine zj_mem (N := (zui (zui (zui (zui (zui (zui (zui (zui (zui (zui (zui (zui (zui (zui (zui (zui (zui M 15 r0_4) 16 r0_4_0) 17 r0_4_1) 18 r0_4_2) 19 r0_4_3) 20 r0_4_4) 21 r0_4_5) 22 r0_4_6) 23 r0_4_7) 25 r0_5) 26 r0_5_0) 27 r0_5_1) 28 r0_5_2) 29 r0_5_3) 30 r0_5_4) 31 r0_5_5) 32 r0_5_6)) (zself_i (zr_n rfl (zr_n rfl (zr_n rfl (zr_n rfl (zr_n rfl (zr_n rfl (zr_n rfl (zr_n rfl (zr_n rfl (zr_n rfl (zr_n rfl (zr_n rfl (zr_n rfl (zr_n rfl (zr_n rfl (zr_n rfl e_i32)))))))))))))))) rfl) ?_
    refine zj_mem (N := (zui (zui (zui (zui (zui (zui (zui (zui (zui (zui (zui (zui (zui (zui (zui (zui (zui (zui M 15 r0_4) 16 r0_4_0) 17 r0_4_1) 18 r0_4_2) 19 r0_4_3) 20 r0_4_4) 21 r0_4_5) 22 r0_4_6) 23 r0_4_7) 25 r0_5) 26 r0_5_0) 27 r0_5_1) 28 r0_5_2) 29 r0_5_3) 30 r0_5_4) 31 r0_5_5) 32 r0_5_6) 33 r0_5_7)) (zself_i (zr_n rfl (zr_n rfl (zr_n rfl (zr_n rfl (zr_n rfl (zr_n rfl (zr_n rfl (zr_n rfl (zr_n rfl (zr_n rfl (zr_n rfl (zr_n rfl (zr_n rfl (zr_n rfl (zr_n rfl (zr_n rfl (zr_n rfl e_i33))))))))))))))))) rfl) ?_
    refine zj_mem (N := (zui (zui (zui (zui (zui (zui (zui (zui (zui (zui (zui (zui (zui (zui (zui (zui (zui (zui (zui M 15 r0_4) 16 r0_4_0) 17 r0_4_1) 18 r0_4_2) 19 r0_4_3) 20 r0_4_4) 21 r0_4_5) 22 r0_4_6) 23 r0_4_7) 25 r0_5) 26 r0_5_0) 27 r0_5_1) 28 r0_5_2) 29 r0_5_3) 30 r0_5_4) 31 r0_5_5) 32 r0_5_6) 33 r0_5_7) 47 r0_8)) (zself_i (zr_n rfl (zr_n rfl (zr_n rfl (zr_n rfl (zr_n rfl (zr_n rfl (zr_n rfl (zr_n rfl (zr_n rfl (zr_n rfl (zr_n rfl (zr_n rfl (zr_n rfl (zr_n rfl (zr_n rfl (zr_n rfl (zr_n rfl (zr_n rfl e_i47)))))))))))))))))) rfl) ?_
    refine zj_mem (N := (zub (zui (zui (zui (zui (zui (zui (zui (zui (zui (zui (zui (zui (zui (zui (zui (zui (zui (zui (zui M 15 r0_4) 16 r0_4_0) 17 r0_4_1) 18 r0_4_2) 19 r0_4_3) 20 r0_4_4) 21 r0_4_5) 22 r0_4_6) 23 r0_4_7) 25 r0_5) 26 r0_5_0) 27 r0_5_1) 28 r0_5_2) 29 r0_5_3) 30 r0_5_4) 31 r0_5_5) 32 r0_5_6) 33 r0_5_7) 47 r0_8) 49 129 g49)) (zself_h (zeq_i rfl (zeq_i rfl (zeq_i rfl (zeq_i rfl (zeq_i rfl (zeq_i rfl (zeq_i rfl (zeq_i rfl (zeq_i rfl (zeq_i rfl (zeq_i rfl (zeq_i rfl (zeq_i rfl (zeq_i rfl (zeq_i rfl (zeq_i rfl (zeq_i rfl (zeq_i rfl (zeq_i rfl e_h49))))))))))))))))))) rfl) ?_
    exact zj_iret dX11_hire_38 rfl hq
  · have hy := zt_t hy c1
    refine zj_aload_n (pc' := 12) 0 dX11_hire_11 rfl rfl rfl ?_
    refine zj_getR (pc' := 15) (j := 5) dX11_hire_12 rfl flX11_28 sh0 rfl ?_
    refine zj_iload_n (pc' := 16) 2 dX11_hire_15 rfl rfl rfl ?_
    refine zj_V1 (pc' := 19) (z := YX7_hasPerson) (As := [.int a2]) (N := M) dX11_hire_16 rfl mlX11_156 lkX7_hasPerson sh5 ⟨_, _, rfl⟩ rfl rfl (Nat.le_of_ble_eq_true rfl) (Nat.le_of_ble_eq_true rfl) (LX7_hasPerson_5 Γ _ r0_2 e_i5 a2 rfl) rfl ?_
    refine zj_bif_eq (tgt := 37) (pc' := 22) dX11_hire_19 rfl (by decide) (fun c2 => ?_) (fun c2 => ?_)
    · have hy := zt_f hy c2
      refine zj_iconst (pc' := 38) dX11_hire_37 rfl kiconst_m1 ?_
      have e9 := Option.some.inj hy
      subst e9
      refine zj_mem (N := (zui M 15 r0_4)) (zself_i e_i15 rfl) ?_
      refine zj_mem (N := (zui (zui M 15 r0_4) 16 r0_4_0)) (zself_i (zr_n rfl e_i16) rfl) ?_
      refine zj_mem (N := (zui (zui (zui M 15 r0_4) 16 r0_4_0) 17 r0_4_1)) (zself_i (zr_n rfl (zr_n rfl e_i17)) rfl) ?_
      refine zj_mem (N := (zui (zui (zui (zui M 15 r0_4) 16 r0_4_0) 17 r0_4_1) 18 r0_4_2)) (zself_i (zr_n rfl (zr_n rfl (zr_n rfl e_i18))) rfl) ?_
      refine zj_mem (N := (zui (zui (zui (zui (zui M 15 r0_4) 16 r0_4_0) 17 r0_4_1) 18 r0_4_2) 19 r0_4_3)) (zself_i (zr_n rfl (zr_n rfl (zr_n rfl (zr_n rfl e_i19)))) rfl) ?_
      refine zj_mem (N := (zui (zui (zui (zui (zui (zui M 15 r0_4) 16 r0_4_0) 17 r0_4_1) 18 r0_4_2) 19 r0_4_3) 20 r0_4_4)) (zself_i (zr_n rfl (zr_n rfl (zr_n rfl (zr_n rfl (zr_n rfl e_i20))))) rfl) ?_
      refine zj_mem (N := (zui (zui (zui (zui (zui (zui (zui M 15 r0_4) 16 r0_4_0) 17 r0_4_1) 18 r0_4_2) 19 r0_4_3) 20 r0_4_4) 21 r0_4_5)) (zself_i (zr_n rfl (zr_n rfl (zr_n rfl (zr_n rfl (zr_n rfl (zr_n rfl e_i21)))))) rfl) ?_
      refine zj_mem (N := (zui (zui (zui (zui (zui (zui (zui (zui M 15 r0_4) 16 r0_4_0) 17 r0_4_1) 18 r0_4_2) 19 r0_4_3) 20 r0_4_4) 21 r0_4_5) 22 r0_4_6)) (zself_i (zr_n rfl (zr_n rfl (zr_n rfl (zr_n rfl (zr_n rfl (zr_n rfl (zr_n rfl e_i22))))))) rfl) ?_
      refine zj_mem (N := (zui (zui (zui (zui (zui (zui (zui (zui (zui M 15 r0_4) 16 r0_4_0) 17 r0_4_1) 18 r0_4_2) 19 r0_4_3) 20 r0_4_4) 21 r0_4_5) 22 r0_4_6) 23 r0_4_7)) (zself_i (zr_n rfl (zr_n rfl (zr_n rfl (zr_n rfl (zr_n rfl (zr_n rfl (zr_n rfl (zr_n rfl e_i23)))))))) rfl) ?_
      refine zj_mem (N := (zui (zui (zui (zui (zui (zui (zui (zui (zui (zui M 15 r0_4) 16 r0_4_0) 17 r0_4_1) 18 r0_4_2) 19 r0_4_3) 20 r0_4_4) 21 r0_4_5) 22 r0_4_6) 23 r0_4_7) 25 r0_5)) (zself_i (zr_n rfl (zr_n rfl (zr_n rfl (zr_n rfl (zr_n rfl (zr_n rfl (zr_n rfl (zr_n rfl (zr_n rfl e_i25))))))))) rfl) ?_
      refine zj_mem (N := (zui (zui (zui (zui (zui (zui (zui (zui (zui (zui (zui M 15 r0_4) 16 r0_4_0) 17 r0_4_1) 18 r0_4_2) 19 r0_4_3) 20 r0_4_4) 21 r0_4_5) 22 r0_4_6) 23 r0_4_7) 25 r0_5) 26 r0_5_0)) (zself_i (zr_n rfl (zr_n rfl (zr_n rfl (zr_n rfl (zr_n rfl (zr_n rfl (zr_n rfl (zr_n rfl (zr_n rfl (zr_n rfl e_i26)))))))))) rfl) ?_
      refine zj_mem (N := (zui (zui (zui (zui (zui (zui (zui (zui (zui (zui (zui (zui M 15 r0_4) 16 r0_4_0) 17 r0_4_1) 18 r0_4_2) 19 r0_4_3) 20 r0_4_4) 21 r0_4_5) 22 r0_4_6) 23 r0_4_7) 25 r0_5) 26 r0_5_0) 27 r0_5_1)) (zself_i (zr_n rfl (zr_n rfl (zr_n rfl (zr_n rfl (zr_n rfl (zr_n rfl (zr_n rfl (zr_n rfl (zr_n rfl (zr_n rfl (zr_n rfl e_i27))))))))))) rfl) ?_
      refine zj_mem (N := (zui (zui (zui (zui (zui (zui (zui (zui (zui (zui (zui (zui (zui M 15 r0_4) 16 r0_4_0) 17 r0_4_1) 18 r0_4_2) 19 r0_4_3) 20 r0_4_4) 21 r0_4_5) 22 r0_4_6) 23 r0_4_7) 25 r0_5) 26 r0_5_0) 27 r0_5_1) 28 r0_5_2)) (zself_i (zr_n rfl (zr_n rfl (zr_n rfl (zr_n rfl (zr_n rfl (zr_n rfl (zr_n rfl (zr_n rfl (zr_n rfl (zr_n rfl (zr_n rfl (zr_n rfl e_i28)))))))))))) rfl) ?_
      refine zj_mem (N := (zui (zui (zui (zui (zui (zui (zui (zui (zui (zui (zui (zui (zui (zui M 15 r0_4) 16 r0_4_0) 17 r0_4_1) 18 r0_4_2) 19 r0_4_3) 20 r0_4_4) 21 r0_4_5) 22 r0_4_6) 23 r0_4_7) 25 r0_5) 26 r0_5_0) 27 r0_5_1) 28 r0_5_2) 29 r0_5_3)) (zself_i (zr_n rfl (zr_n rfl (zr_n rfl (zr_n rfl (zr_n rfl (zr_n rfl (zr_n rfl (zr_n rfl (zr_n rfl (zr_n rfl (zr_n rfl (zr_n rfl (zr_n rfl e_i29))))))))))))) rfl) ?_
      refine zj_mem (N := (zui (zui (zui (zui (zui (zui (zui (zui (zui (zui (zui (zui (zui (zui (zui M 15 r0_4) 16 r0_4_0) 17 r0_4_1) 18 r0_4_2) 19 r0_4_3) 20 r0_4_4) 21 r0_4_5) 22 r0_4_6) 23 r0_4_7) 25 r0_5) 26 r0_5_0) 27 r0_5_1) 28 r0_5_2) 29 r0_5_3) 30 r0_5_4)) (zself_i (zr_n rfl (zr_n rfl (zr_n rfl (zr_n rfl (zr_n rfl (zr_n rfl (zr_n rfl (zr_n rfl (zr_n rfl (zr_n rfl (zr_n rfl (zr_n rfl (zr_n rfl (zr_n rfl e_i30)))))))))))))) rfl) ?_
      refine zj_mem (N := (zui (zui (zui (zui (zui (zui (zui (zui (zui (zui (zui (zui (zui (zui (zui (zui M 15 r0_4) 16 r0_4_0) 17 r0_4_1) 18 r0_4_2) 19 r0_4_3) 20 r0_4_4) 21 r0_4_5) 22 r0_4_6) 23 r0_4_7) 25 r0_5) 26 r0_5_0) 27 r0_5_1) 28 r0_5_2) 29 r0_5_3) 30 r0_5_4) 31 r0_5_5)) (zself_i (zr_n rfl (zr_n rfl (zr_n rfl (zr_n rfl (zr_n rfl (zr_n rfl (zr_n rfl (zr_n rfl (zr_n rfl (zr_n rfl (zr_n rfl (zr_n rfl (zr_n rfl (zr_n rfl (zr_n rfl e_i31))))))))))))))) rfl) ?_
      refine zj_mem (N := (zui (zui (zui (zui (zui (zui (zui (zui (zui (zui (zui (zui (zui (zui (zui (zui (zui M 15 r0_4) 16 r0_4_0) 17 r0_4_1) 18 r0_4_2) 19 r0_4_3) 20 r0_4_4) 21 r0_4_5) 22 r0_4_6) 23 r0_4_7) 25 r0_5) 26 r0_5_0) 27 r0_5_1) 28 r0_5_2) 29 r0_5_3) 30 r0_5_4) 31 r0_5_5) 32 r0_5_6)) (zself_i (zr_n rfl (zr_n rfl (zr_n rfl (zr_n rfl (zr_n rfl (zr_n rfl (zr_n rfl (zr_n rfl (zr_n rfl (zr_n rfl (zr_n rfl (zr_n rfl (zr_n rfl (zr_n rfl (zr_n rfl (zr_n rfl e_i32)))))))))))))))) rfl) ?_
      refine zj_mem (N := (zui (zui (zui (zui (zui (zui (zui (zui (zui (zui (zui (zui (zui (zui (zui (zui (zui (zui M 15 r0_4) 16 r0_4_0) 17 r0_4_1) 18 r0_4_2) 19 r0_4_3) 20 r0_4_4) 21 r0_4_5) 22 r0_4_6) 23 r0_4_7) 25 r0_5) 26 r0_5_0) 27 r0_5_1) 28 r0_5_2) 29 r0_5_3) 30 r0_5_4) 31 r0_5_5) 32 r0_5_6) 33 r0_5_7)) (zself_i (zr_n rfl (zr_n rfl (zr_n rfl (zr_n rfl (zr_n rfl (zr_n rfl (zr_n rfl (zr_n rfl (zr_n rfl (zr_n rfl (zr_n rfl (zr_n rfl (zr_n rfl (zr_n rfl (zr_n rfl (zr_n rfl (zr_n rfl e_i33))))))))))))))))) rfl) ?_
      refine zj_mem (N := (zui (zui (zui (zui (zui (zui (zui (zui (zui (zui (zui (zui (zui (zui (zui (zui (zui (zui (zui M 15 r0_4) 16 r0_4_0) 17 r0_4_1) 18 r0_4_2) 19 r0_4_3) 20 r0_4_4) 21 r0_4_5) 22 r0_4_6) 23 r0_4_7) 25 r0_5) 26 r0_5_0) 27 r0_5_1) 28 r0_5_2) 29 r0_5_3) 30 r0_5_4) 31 r0_5_5) 32 r0_5_6) 33 r0_5_7) 47 r0_8)) (zself_i (zr_n rfl (zr_n rfl (zr_n rfl (zr_n rfl (zr_n rfl (zr_n rfl (zr_n rfl (zr_n rfl (zr_n rfl (zr_n rfl (zr_n rfl (zr_n rfl (zr_n rfl (zr_n rfl (zr_n rfl (zr_n rfl (zr_n rfl (zr_n rfl e_i47)))))))))))))))))) rfl) ?_
      refine zj_mem (N := (zub (zui (zui (zui (zui (zui (zui (zui (zui (zui (zui (zui (zui (zui (zui (zui (zui (zui (zui (zui M 15 r0_4) 16 r0_4_0) 17 r0_4_1) 18 r0_4_2) 19 r0_4_3) 20 r0_4_4) 21 r0_4_5) 22 r0_4_6) 23 r0_4_7) 25 r0_5) 26 r0_5_0) 27 r0_5_1) 28 r0_5_2) 29 r0_5_3) 30 r0_5_4) 31 r0_5_5) 32 r0_5_6) 33 r0_5_7) 47 r0_8) 49 129 g49)) (zself_h (zeq_i rfl (zeq_i rfl (zeq_i rfl (zeq_i rfl (zeq_i rfl (zeq_i rfl (zeq_i rfl (zeq_i rfl (zeq_i rfl (zeq_i rfl (zeq_i rfl (zeq_i rfl (zeq_i rfl (zeq_i rfl (zeq_i rfl (zeq_i rfl (zeq_i rfl (zeq_i rfl (zeq_i rfl e_h49))))))))))))))))))) rfl) ?_
      exact zj_iret dX11_hire_38 rfl hq
    · have hy := zt_t hy c2
      refine zj_iload_n (pc' := 23) 1 dX11_hire_22 rfl rfl rfl ?_
      refine zj_iload_n (pc' := 24) 2 dX11_hire_23 rfl rfl rfl ?_
      refine zj_icmp_eq (tgt := 37) (pc' := 27) dX11_hire_24 rfl (by decide) (fun c3 => ?_) (fun c3 => ?_)
      · have hy := zt_t hy c3
        refine zj_iconst (pc' := 38) dX11_hire_37 rfl kiconst_m1 ?_
        have e9 := Option.some.inj hy
        subst e9
        refine zj_mem (N := (zui M 15 r0_4)) (zself_i e_i15 rfl) ?_
        refine zj_mem (N := (zui (zui M 15 r0_4) 16 r0_4_0)) (zself_i (zr_n rfl e_i16) rfl) ?_
        refine zj_mem (N := (zui (zui (zui M 15 r0_4) 16 r0_4_0) 17 r0_4_1)) (zself_i (zr_n rfl (zr_n rfl e_i17)) rfl) ?_
        refine zj_mem (N := (zui (zui (zui (zui M 15 r0_4) 16 r0_4_0) 17 r0_4_1) 18 r0_4_2)) (zself_i (zr_n rfl (zr_n rfl (zr_n rfl e_i18))) rfl) ?_
        refine zj_mem (N := (zui (zui (zui (zui (zui M 15 r0_4) 16 r0_4_0) 17 r0_4_1) 18 r0_4_2) 19 r0_4_3)) (zself_i (zr_n rfl (zr_n rfl (zr_n rfl (zr_n rfl e_i19)))) rfl) ?_
        refine zj_mem (N := (zui (zui (zui (zui (zui (zui M 15 r0_4) 16 r0_4_0) 17 r0_4_1) 18 r0_4_2) 19 r0_4_3) 20 r0_4_4)) (zself_i (zr_n rfl (zr_n rfl (zr_n rfl (zr_n rfl (zr_n rfl e_i20))))) rfl) ?_
        refine zj_mem (N := (zui (zui (zui (zui (zui (zui (zui M 15 r0_4) 16 r0_4_0) 17 r0_4_1) 18 r0_4_2) 19 r0_4_3) 20 r0_4_4) 21 r0_4_5)) (zself_i (zr_n rfl (zr_n rfl (zr_n rfl (zr_n rfl (zr_n rfl (zr_n rfl e_i21)))))) rfl) ?_
        refine zj_mem (N := (zui (zui (zui (zui (zui (zui (zui (zui M 15 r0_4) 16 r0_4_0) 17 r0_4_1) 18 r0_4_2) 19 r0_4_3) 20 r0_4_4) 21 r0_4_5) 22 r0_4_6)) (zself_i (zr_n rfl (zr_n rfl (zr_n rfl (zr_n rfl (zr_n rfl (zr_n rfl (zr_n rfl e_i22))))))) rfl) ?_
        refine zj_mem (N := (zui (zui (zui (zui (zui (zui (zui (zui (zui M 15 r0_4) 16 r0_4_0) 17 r0_4_1) 18 r0_4_2) 19 r0_4_3) 20 r0_4_4) 21 r0_4_5) 22 r0_4_6) 23 r0_4_7)) (zself_i (zr_n rfl (zr_n rfl (zr_n rfl (zr_n rfl (zr_n rfl (zr_n rfl (zr_n rfl (zr_n rfl e_i23)))))))) rfl) ?_
        refine zj_mem (N := (zui (zui (zui (zui (zui (zui (zui (zui (zui (zui M 15 r0_4) 16 r0_4_0) 17 r0_4_1) 18 r0_4_2) 19 r0_4_3) 20 r0_4_4) 21 r0_4_5) 22 r0_4_6) 23 r0_4_7) 25 r0_5)) (zself_i (zr_n rfl (zr_n rfl (zr_n rfl (zr_n rfl (zr_n rfl (zr_n rfl (zr_n rfl (zr_n rfl (zr_n rfl e_i25))))))))) rfl) ?_
        refine zj_mem (N := (zui (zui (zui (zui (zui (zui (zui (zui (zui (zui (zui M 15 r0_4) 16 r0_4_0) 17 r0_4_1) 18 r0_4_2) 19 r0_4_3) 20 r0_4_4) 21 r0_4_5) 22 r0_4_6) 23 r0_4_7) 25 r0_5) 26 r0_5_0)) (zself_i (zr_n rfl (zr_n rfl (zr_n rfl (zr_n rfl (zr_n rfl (zr_n rfl (zr_n rfl (zr_n rfl (zr_n rfl (zr_n rfl e_i26)))))))))) rfl) ?_
        refine zj_mem (N := (zui (zui (zui (zui (zui (zui (zui (zui (zui (zui (zui (zui M 15 r0_4) 16 r0_4_0) 17 r0_4_1) 18 r0_4_2) 19 r0_4_3) 20 r0_4_4) 21 r0_4_5) 22 r0_4_6) 23 r0_4_7) 25 r0_5) 26 r0_5_0) 27 r0_5_1)) (zself_i (zr_n rfl (zr_n rfl (zr_n rfl (zr_n rfl (zr_n rfl (zr_n rfl (zr_n rfl (zr_n rfl (zr_n rfl (zr_n rfl (zr_n rfl e_i27))))))))))) rfl) ?_
        refine zj_mem (N := (zui (zui (zui (zui (zui (zui (zui (zui (zui (zui (zui (zui (zui M 15 r0_4) 16 r0_4_0) 17 r0_4_1) 18 r0_4_2) 19 r0_4_3) 20 r0_4_4) 21 r0_4_5) 22 r0_4_6) 23 r0_4_7) 25 r0_5) 26 r0_5_0) 27 r0_5_1) 28 r0_5_2)) (zself_i (zr_n rfl (zr_n rfl (zr_n rfl (zr_n rfl (zr_n rfl (zr_n rfl (zr_n rfl (zr_n rfl (zr_n rfl (zr_n rfl (zr_n rfl (zr_n rfl e_i28)))))))))))) rfl) ?_
        refine zj_mem (N := (zui (zui (zui (zui (zui (zui (zui (zui (zui (zui (zui (zui (zui (zui M 15 r0_4) 16 r0_4_0) 17 r0_4_1) 18 r0_4_2) 19 r0_4_3) 20 r0_4_4) 21 r0_4_5) 22 r0_4_6) 23 r0_4_7) 25 r0_5) 26 r0_5_0) 27 r0_5_1) 28 r0_5_2) 29 r0_5_3)) (zself_i (zr_n rfl (zr_n rfl (zr_n rfl (zr_n rfl (zr_n rfl (zr_n rfl (zr_n rfl (zr_n rfl (zr_n rfl (zr_n rfl (zr_n rfl (zr_n rfl (zr_n rfl e_i29))))))))))))) rfl) ?_
        refine zj_mem (N := (zui (zui (zui (zui (zui (zui (zui (zui (zui (zui (zui (zui (zui (zui (zui M 15 r0_4) 16 r0_4_0) 17 r0_4_1) 18 r0_4_2) 19 r0_4_3) 20 r0_4_4) 21 r0_4_5) 22 r0_4_6) 23 r0_4_7) 25 r0_5) 26 r0_5_0) 27 r0_5_1) 28 r0_5_2) 29 r0_5_3) 30 r0_5_4)) (zself_i (zr_n rfl (zr_n rfl (zr_n rfl (zr_n rfl (zr_n rfl (zr_n rfl (zr_n rfl (zr_n rfl (zr_n rfl (zr_n rfl (zr_n rfl (zr_n rfl (zr_n rfl (zr_n rfl e_i30)))))))))))))) rfl) ?_
        refine zj_mem (N := (zui (zui (zui (zui (zui (zui (zui (zui (zui (zui (zui (zui (zui (zui (zui (zui M 15 r0_4) 16 r0_4_0) 17 r0_4_1) 18 r0_4_2) 19 r0_4_3) 20 r0_4_4) 21 r0_4_5) 22 r0_4_6) 23 r0_4_7) 25 r0_5) 26 r0_5_0) 27 r0_5_1) 28 r0_5_2) 29 r0_5_3) 30 r0_5_4) 31 r0_5_5)) (zself_i (zr_n rfl (zr_n rfl (zr_n rfl (zr_n rfl (zr_n rfl (zr_n rfl (zr_n rfl (zr_n rfl (zr_n rfl (zr_n rfl (zr_n rfl (zr_n rfl (zr_n rfl (zr_n rfl (zr_n rfl e_i31))))))))))))))) rfl) ?_
        refine zj_mem (N := (zui (zui (zui (zui (zui (zui (zui (zui (zui (zui (zui (zui (zui (zui (zui (zui (zui M 15 r0_4) 16 r0_4_0) 17 r0_4_1) 18 r0_4_2) 19 r0_4_3) 20 r0_4_4) 21 r0_4_5) 22 r0_4_6) 23 r0_4_7) 25 r0_5) 26 r0_5_0) 27 r0_5_1) 28 r0_5_2) 29 r0_5_3) 30 r0_5_4) 31 r0_5_5) 32 r0_5_6)) (zself_i (zr_n rfl (zr_n rfl (zr_n rfl (zr_n rfl (zr_n rfl (zr_n rfl (zr_n rfl (zr_n rfl (zr_n rfl (zr_n rfl (zr_n rfl (zr_n rfl (zr_n rfl (zr_n rfl (zr_n rfl (zr_n rfl e_i32)))))))))))))))) rfl) ?_
        refine zj_mem (N := (zui (zui (zui (zui (zui (zui (zui (zui (zui (zui (zui (zui (zui (zui (zui (zui (zui (zui M 15 r0_4) 16 r0_4_0) 17 r0_4_1) 18 r0_4_2) 19 r0_4_3) 20 r0_4_4) 21 r0_4_5) 22 r0_4_6) 23 r0_4_7) 25 r0_5) 26 r0_5_0) 27 r0_5_1) 28 r0_5_2) 29 r0_5_3) 30 r0_5_4) 31 r0_5_5) 32 r0_5_6) 33 r0_5_7)) (zself_i (zr_n rfl (zr_n rfl (zr_n rfl (zr_n rfl (zr_n rfl (zr_n rfl (zr_n rfl (zr_n rfl (zr_n rfl (zr_n rfl (zr_n rfl (zr_n rfl (zr_n rfl (zr_n rfl (zr_n rfl (zr_n rfl (zr_n rfl e_i33))))))))))))))))) rfl) ?_
        refine zj_mem (N := (zui (zui (zui (zui (zui (zui (zui (zui (zui (zui (zui (zui (zui (zui (zui (zui (zui (zui (zui M 15 r0_4) 16 r0_4_0) 17 r0_4_1) 18 r0_4_2) 19 r0_4_3) 20 r0_4_4) 21 r0_4_5) 22 r0_4_6) 23 r0_4_7) 25 r0_5) 26 r0_5_0) 27 r0_5_1) 28 r0_5_2) 29 r0_5_3) 30 r0_5_4) 31 r0_5_5) 32 r0_5_6) 33 r0_5_7) 47 r0_8)) (zself_i (zr_n rfl (zr_n rfl (zr_n rfl (zr_n rfl (zr_n rfl (zr_n rfl (zr_n rfl (zr_n rfl (zr_n rfl (zr_n rfl (zr_n rfl (zr_n rfl (zr_n rfl (zr_n rfl (zr_n rfl (zr_n rfl (zr_n rfl (zr_n rfl e_i47)))))))))))))))))) rfl) ?_
        refine zj_mem (N := (zub (zui (zui (zui (zui (zui (zui (zui (zui (zui (zui (zui (zui (zui (zui (zui (zui (zui (zui (zui M 15 r0_4) 16 r0_4_0) 17 r0_4_1) 18 r0_4_2) 19 r0_4_3) 20 r0_4_4) 21 r0_4_5) 22 r0_4_6) 23 r0_4_7) 25 r0_5) 26 r0_5_0) 27 r0_5_1) 28 r0_5_2) 29 r0_5_3) 30 r0_5_4) 31 r0_5_5) 32 r0_5_6) 33 r0_5_7) 47 r0_8) 49 129 g49)) (zself_h (zeq_i rfl (zeq_i rfl (zeq_i rfl (zeq_i rfl (zeq_i rfl (zeq_i rfl (zeq_i rfl (zeq_i rfl (zeq_i rfl (zeq_i rfl (zeq_i rfl (zeq_i rfl (zeq_i rfl (zeq_i rfl (zeq_i rfl (zeq_i rfl (zeq_i rfl (zeq_i rfl (zeq_i rfl e_h49))))))))))))))))))) rfl) ?_
        exact zj_iret dX11_hire_38 rfl hq
      · have hy := zt_f hy c3
        refine zj_iload_n (pc' := 28) 3 dX11_hire_27 rfl rfl rfl ?_
        refine zj_iconst (pc' := 29) dX11_hire_28 rfl kiconst_1 ?_
        refine zj_icmp_lt (tgt := 37) (pc' := 32) dX11_hire_29 rfl (by decide) (fun c4 => ?_) (fun c4 => ?_)
        · have hy := zt_t hy c4
          refine zj_iconst (pc' := 38) dX11_hire_37 rfl kiconst_m1 ?_
          have e9 := Option.some.inj hy
          subst e9
          refine zj_mem (N := (zui M 15 r0_4)) (zself_i e_i15 rfl) ?_
          refine zj_mem (N := (zui (zui M 15 r0_4) 16 r0_4_0)) (zself_i (zr_n rfl e_i16) rfl) ?_
          refine zj_mem (N := (zui (zui (zui M 15 r0_4) 16 r0_4_0) 17 r0_4_1)) (zself_i (zr_n rfl (zr_n rfl e_i17)) rfl) ?_
          refine zj_mem (N := (zui (zui (zui (zui M 15 r0_4) 16 r0_4_0) 17 r0_4_1) 18 r0_4_2)) (zself_i (zr_n rfl (zr_n rfl (zr_n rfl e_i18))) rfl) ?_
          refine zj_mem (N := (zui (zui (zui (zui (zui M 15 r0_4) 16 r0_4_0) 17 r0_4_1) 18 r0_4_2) 19 r0_4_3)) (zself_i (zr_n rfl (zr_n rfl (zr_n rfl (zr_n rfl e_i19)))) rfl) ?_
          refine zj_mem (N := (zui (zui (zui (zui (zui (zui M 15 r0_4) 16 r0_4_0) 17 r0_4_1) 18 r0_4_2) 19 r0_4_3) 20 r0_4_4)) (zself_i (zr_n rfl (zr_n rfl (zr_n rfl (zr_n rfl (zr_n rfl e_i20))))) rfl) ?_
          refine zj_mem (N := (zui (zui (zui (zui (zui (zui (zui M 15 r0_4) 16 r0_4_0) 17 r0_4_1) 18 r0_4_2) 19 r0_4_3) 20 r0_4_4) 21 r0_4_5)) (zself_i (zr_n rfl (zr_n rfl (zr_n rfl (zr_n rfl (zr_n rfl (zr_n rfl e_i21)))))) rfl) ?_
          refine zj_mem (N := (zui (zui (zui (zui (zui (zui (zui (zui M 15 r0_4) 16 r0_4_0) 17 r0_4_1) 18 r0_4_2) 19 r0_4_3) 20 r0_4_4) 21 r0_4_5) 22 r0_4_6)) (zself_i (zr_n rfl (zr_n rfl (zr_n rfl (zr_n rfl (zr_n rfl (zr_n rfl (zr_n rfl e_i22))))))) rfl) ?_
          refine zj_mem (N := (zui (zui (zui (zui (zui (zui (zui (zui (zui M 15 r0_4) 16 r0_4_0) 17 r0_4_1) 18 r0_4_2) 19 r0_4_3) 20 r0_4_4) 21 r0_4_5) 22 r0_4_6) 23 r0_4_7)) (zself_i (zr_n rfl (zr_n rfl (zr_n rfl (zr_n rfl (zr_n rfl (zr_n rfl (zr_n rfl (zr_n rfl e_i23)))))))) rfl) ?_
          refine zj_mem (N := (zui (zui (zui (zui (zui (zui (zui (zui (zui (zui M 15 r0_4) 16 r0_4_0) 17 r0_4_1) 18 r0_4_2) 19 r0_4_3) 20 r0_4_4) 21 r0_4_5) 22 r0_4_6) 23 r0_4_7) 25 r0_5)) (zself_i (zr_n rfl (zr_n rfl (zr_n rfl (zr_n rfl (zr_n rfl (zr_n rfl (zr_n rfl (zr_n rfl (zr_n rfl e_i25))))))))) rfl) ?_
          refine zj_mem (N := (zui (zui (zui (zui (zui (zui (zui (zui (zui (zui (zui M 15 r0_4) 16 r0_4_0) 17 r0_4_1) 18 r0_4_2) 19 r0_4_3) 20 r0_4_4) 21 r0_4_5) 22 r0_4_6) 23 r0_4_7) 25 r0_5) 26 r0_5_0)) (zself_i (zr_n rfl (zr_n rfl (zr_n rfl (zr_n rfl (zr_n rfl (zr_n rfl (zr_n rfl (zr_n rfl (zr_n rfl (zr_n rfl e_i26)))))))))) rfl) ?_
          refine zj_mem (N := (zui (zui (zui (zui (zui (zui (zui (zui (zui (zui (zui (zui M 15 r0_4) 16 r0_4_0) 17 r0_4_1) 18 r0_4_2) 19 r0_4_3) 20 r0_4_4) 21 r0_4_5) 22 r0_4_6) 23 r0_4_7) 25 r0_5) 26 r0_5_0) 27 r0_5_1)) (zself_i (zr_n rfl (zr_n rfl (zr_n rfl (zr_n rfl (zr_n rfl (zr_n rfl (zr_n rfl (zr_n rfl (zr_n rfl (zr_n rfl (zr_n rfl e_i27))))))))))) rfl) ?_
          refine zj_mem (N := (zui (zui (zui (zui (zui (zui (zui (zui (zui (zui (zui (zui (zui M 15 r0_4) 16 r0_4_0) 17 r0_4_1) 18 r0_4_2) 19 r0_4_3) 20 r0_4_4) 21 r0_4_5) 22 r0_4_6) 23 r0_4_7) 25 r0_5) 26 r0_5_0) 27 r0_5_1) 28 r0_5_2)) (zself_i (zr_n rfl (zr_n rfl (zr_n rfl (zr_n rfl (zr_n rfl (zr_n rfl (zr_n rfl (zr_n rfl (zr_n rfl (zr_n rfl (zr_n rfl (zr_n rfl e_i28)))))))))))) rfl) ?_
          refine zj_mem (N := (zui (zui (zui (zui (zui (zui (zui (zui (zui (zui (zui (zui (zui (zui M 15 r0_4) 16 r0_4_0) 17 r0_4_1) 18 r0_4_2) 19 r0_4_3) 20 r0_4_4) 21 r0_4_5) 22 r0_4_6) 23 r0_4_7) 25 r0_5) 26 r0_5_0) 27 r0_5_1) 28 r0_5_2) 29 r0_5_3)) (zself_i (zr_n rfl (zr_n rfl (zr_n rfl (zr_n rfl (zr_n rfl (zr_n rfl (zr_n rfl (zr_n rfl (zr_n rfl (zr_n rfl (zr_n rfl (zr_n rfl (zr_n rfl e_i29))))))))))))) rfl) ?_
          refine zj_mem (N := (zui (zui (zui (zui (zui (zui (zui (zui (zui (zui (zui (zui (zui (zui (zui M 15 r0_4) 16 r0_4_0) 17 r0_4_1) 18 r0_4_2) 19 r0_4_3) 20 r0_4_4) 21 r0_4_5) 22 r0_4_6) 23 r0_4_7) 25 r0_5) 26 r0_5_0) 27 r0_5_1) 28 r0_5_2) 29 r0_5_3) 30 r0_5_4)) (zself_i (zr_n rfl (zr_n rfl (zr_n rfl (zr_n rfl (zr_n rfl (zr_n rfl (zr_n rfl (zr_n rfl (zr_n rfl (zr_n rfl (zr_n rfl (zr_n rfl (zr_n rfl (zr_n rfl e_i30)))))))))))))) rfl) ?_
          refine zj_mem (N := (zui (zui (zui (zui (zui (zui (zui (zui (zui (zui (zui (zui (zui (zui (zui (zui M 15 r0_4) 16 r0_4_0) 17 r0_4_1) 18 r0_4_2) 19 r0_4_3) 20 r0_4_4) 21 r0_4_5) 22 r0_4_6) 23 r0_4_7) 25 r0_5) 26 r0_5_0) 27 r0_5_1) 28 r0_5_2) 29 r0_5_3) 30 r0_5_4) 31 r0_5_5)) (zself_i (zr_n rfl (zr_n rfl (zr_n rfl (zr_n rfl (zr_n rfl (zr_n rfl (zr_n rfl (zr_n rfl (zr_n rfl (zr_n rfl (zr_n rfl (zr_n rfl (zr_n rfl (zr_n rfl (zr_n rfl e_i31))))))))))))))) rfl) ?_
          refine zj_mem (N := (zui (zui (zui (zui (zui (zui (zui (zui (zui (zui (zui (zui (zui (zui (zui (zui (zui M 15 r0_4) 16 r0_4_0) 17 r0_4_1) 18 r0_4_2) 19 r0_4_3) 20 r0_4_4) 21 r0_4_5) 22 r0_4_6) 23 r0_4_7) 25 r0_5) 26 r0_5_0) 27 r0_5_1) 28 r0_5_2) 29 r0_5_3) 30 r0_5_4) 31 r0_5_5) 32 r0_5_6)) (zself_i (zr_n rfl (zr_n rfl (zr_n rfl (zr_n rfl (zr_n rfl (zr_n rfl (zr_n rfl (zr_n rfl (zr_n rfl (zr_n rfl (zr_n rfl (zr_n rfl (zr_n rfl (zr_n rfl (zr_n rfl (zr_n rfl e_i32)))))))))))))))) rfl) ?_
          refine zj_mem (N := (zui (zui (zui (zui (zui (zui (zui (zui (zui (zui (zui (zui (zui (zui (zui (zui (zui (zui M 15 r0_4) 16 r0_4_0) 17 r0_4_1) 18 r0_4_2) 19 r0_4_3) 20 r0_4_4) 21 r0_4_5) 22 r0_4_6) 23 r0_4_7) 25 r0_5) 26 r0_5_0) 27 r0_5_1) 28 r0_5_2) 29 r0_5_3) 30 r0_5_4) 31 r0_5_5) 32 r0_5_6) 33 r0_5_7)) (zself_i (zr_n rfl (zr_n rfl (zr_n rfl (zr_n rfl (zr_n rfl (zr_n rfl (zr_n rfl (zr_n rfl (zr_n rfl (zr_n rfl (zr_n rfl (zr_n rfl (zr_n rfl (zr_n rfl (zr_n rfl (zr_n rfl (zr_n rfl e_i33))))))))))))))))) rfl) ?_
          refine zj_mem (N := (zui (zui (zui (zui (zui (zui (zui (zui (zui (zui (zui (zui (zui (zui (zui (zui (zui (zui (zui M 15 r0_4) 16 r0_4_0) 17 r0_4_1) 18 r0_4_2) 19 r0_4_3) 20 r0_4_4) 21 r0_4_5) 22 r0_4_6) 23 r0_4_7) 25 r0_5) 26 r0_5_0) 27 r0_5_1) 28 r0_5_2) 29 r0_5_3) 30 r0_5_4) 31 r0_5_5) 32 r0_5_6) 33 r0_5_7) 47 r0_8)) (zself_i (zr_n rfl (zr_n rfl (zr_n rfl (zr_n rfl (zr_n rfl (zr_n rfl (zr_n rfl (zr_n rfl (zr_n rfl (zr_n rfl (zr_n rfl (zr_n rfl (zr_n rfl (zr_n rfl (zr_n rfl (zr_n rfl (zr_n rfl (zr_n rfl e_i47)))))))))))))))))) rfl) ?_
          refine zj_mem (N := (zub (zui (zui (zui (zui (zui (zui (zui (zui (zui (zui (zui (zui (zui (zui (zui (zui (zui (zui (zui M 15 r0_4) 16 r0_4_0) 17 r0_4_1) 18 r0_4_2) 19 r0_4_3) 20 r0_4_4) 21 r0_4_5) 22 r0_4_6) 23 r0_4_7) 25 r0_5) 26 r0_5_0) 27 r0_5_1) 28 r0_5_2) 29 r0_5_3) 30 r0_5_4) 31 r0_5_5) 32 r0_5_6) 33 r0_5_7) 47 r0_8) 49 129 g49)) (zself_h (zeq_i rfl (zeq_i rfl (zeq_i rfl (zeq_i rfl (zeq_i rfl (zeq_i rfl (zeq_i rfl (zeq_i rfl (zeq_i rfl (zeq_i rfl (zeq_i rfl (zeq_i rfl (zeq_i rfl (zeq_i rfl (zeq_i rfl (zeq_i rfl (zeq_i rfl (zeq_i rfl (zeq_i rfl e_h49))))))))))))))))))) rfl) ?_
          exact zj_iret dX11_hire_38 rfl hq
        · have hy := zt_f hy c4
          refine zj_iload_n (pc' := 33) 3 dX11_hire_32 rfl rfl rfl ?_
          refine zj_iconst (pc' := 34) dX11_hire_33 rfl kiconst_5 ?_
          refine zj_icmp_le (tgt := 39) (pc' := 37) dX11_hire_34 rfl (by decide) (fun c5 => ?_) (fun c5 => ?_)
          · have hy := zt_t hy c5
            refine zj_aload_n (pc' := 40) 0 dX11_hire_39 rfl rfl rfl ?_
            refine zj_getR (pc' := 43) (j := 25) dX11_hire_40 rfl flX11_42 sh0 rfl ?_
            refine zj_aload_n (pc' := 44) 0 dX11_hire_43 rfl rfl rfl ?_
            refine zj_getR (pc' := 47) (j := 15) dX11_hire_44 rfl flX11_38 sh0 rfl ?_
            obtain ⟨y6, hy6, hy⟩ := zt_b hy
            refine zj_V0 (pc' := 50) (z := YX1_copyFrom) (As := [.ref (zad Γ 15)]) (N := (zui (zui (zui (zui (zui (zui (zui (zui (zui M 25 y6.1) 26 y6.2.1) 27 y6.2.2.1) 28 y6.2.2.2.1) 29 y6.2.2.2.2.1) 30 y6.2.2.2.2.2.1) 31 y6.2.2.2.2.2.2.1) 32 y6.2.2.2.2.2.2.2.1) 33 y6.2.2.2.2.2.2.2.2)) dX11_hire_47 rfl mlX11_151 lkX1_copyFrom sh25 ⟨_, _, rfl⟩ rfl rfl (Nat.le_of_ble_eq_true rfl) (Nat.le_of_ble_eq_true rfl) (LX1_copyFrom_25_15 Γ _ r0_5 r0_5_0 r0_5_1 r0_5_2 r0_5_3 r0_5_4 r0_5_5 r0_5_6 r0_5_7 r0_4 r0_4_0 r0_4_1 r0_4_2 r0_4_3 r0_4_4 r0_4_5 r0_4_6 r0_4_7 e_i25 e_i26 e_i27 e_i28 e_i29 e_i30 e_i31 e_i32 e_i33 e_i15 e_i16 e_i17 e_i18 e_i19 e_i20 e_i21 e_i22 e_i23 hy6) ((zch_i (zch_i (zch_i (zch_i (zch_i (zch_i (zch_i (zch_i rfl rfl) rfl) rfl) rfl) rfl) rfl) rfl) rfl)).symm ?_
            refine zj_aload_n (pc' := 51) 0 dX11_hire_50 rfl rfl rfl ?_
            refine zj_aload_n (pc' := 52) 0 dX11_hire_51 rfl rfl rfl ?_
            refine zj_getR (pc' := 55) (j := 25) dX11_hire_52 rfl flX11_42 sh0 rfl ?_
            refine zj_iload_n (pc' := 56) 1 dX11_hire_55 rfl rfl rfl ?_
            refine zj_iload_n (pc' := 57) 2 dX11_hire_56 rfl rfl rfl ?_
            refine zj_iload_n (pc' := 58) 3 dX11_hire_57 rfl rfl rfl ?_
            obtain ⟨y7, hy7, hy⟩ := zt_b hy
            refine zj_V1 (pc' := 61) (z := YX1_takesOn) (As := [.int a1, .int a2, .int a3]) (N := (zui (zui (zui (zui (zui (zui (zui (zui (zui M 25 y6.1) 26 y6.2.1) 27 y6.2.2.1) 28 y7.2.1) 29 y7.2.2.1) 30 y6.2.2.2.2.2.1) 31 y7.2.2.2) 32 y6.2.2.2.2.2.2.2.1) 33 y6.2.2.2.2.2.2.2.2)) dX11_hire_58 rfl mlX11_246 lkX1_takesOn sh25 ⟨_, _, rfl⟩ rfl rfl (Nat.le_of_ble_eq_true rfl) (Nat.le_of_ble_eq_true rfl) (LX1_takesOn_25 Γ _ y6.2.2.2.1 y6.2.2.2.2.1 y6.2.2.2.2.2.2.1 (zr_n rfl (zr_n rfl (zr_n rfl (zr_n rfl (zr_n rfl zr_s))))) (zr_n rfl (zr_n rfl (zr_n rfl (zr_n rfl zr_s)))) (zr_n rfl (zr_n rfl zr_s)) a1 a2 a3 hy7) ((zch_i (zch_i (zm_n rfl (zm_n rfl (zm_n rfl (zm_n rfl (zm_n rfl zm_s))))) (zm_n rfl (zm_n rfl (zm_n rfl (zm_n rfl zm_s))))) (zm_n rfl (zm_n rfl zm_s)))).symm ?_
            obtain ⟨y8, hy8, hy⟩ := zt_b hy
            refine zj_V1 (pc' := 64) (z := YX11_settleIfDone) (As := [.int y7.1]) (N := (zub (zui (zui (zui (zui (zui (zui (zui (zui (zui (zui (zui (zui (zui (zui (zui (zui (zui (zui (zui M 15 y8.2.1) 16 y8.2.2.1) 17 y8.2.2.2.1) 18 y8.2.2.2.2.1) 19 y8.2.2.2.2.2.1) 20 y8.2.2.2.2.2.2.1) 21 y8.2.2.2.2.2.2.2.1) 22 y8.2.2.2.2.2.2.2.2.1) 23 y8.2.2.2.2.2.2.2.2.2.1) 25 y6.1) 26 y6.2.1) 27 y6.2.2.1) 28 y7.2.1) 29 y7.2.2.1) 30 y6.2.2.2.2.2.1) 31 y7.2.2.2) 32 y6.2.2.2.2.2.2.2.1) 33 y6.2.2.2.2.2.2.2.2) 47 y8.2.2.2.2.2.2.2.2.2.2.1) 49 129 y8.2.2.2.2.2.2.2.2.2.2.2)) dX11_hire_61 rfl mlX11_237 lkX11_settleIfDone sh0 ⟨_, _, rfl⟩ rfl rfl (Nat.le_of_ble_eq_true rfl) (Nat.le_of_ble_eq_true rfl) (LX11_settleIfDone_0 Γ _ r0_4 r0_4_0 r0_4_1 r0_4_2 r0_4_3 r0_4_4 r0_4_5 r0_4_6 r0_4_7 y6.1 y6.2.1 y6.2.2.1 y7.2.1 y7.2.2.1 y6.2.2.2.2.2.1 y7.2.2.2 y6.2.2.2.2.2.2.2.1 y6.2.2.2.2.2.2.2.2 r0_8 g49 (zr_n rfl (zr_n rfl (zr_n rfl (zr_n rfl (zr_n rfl (zr_n rfl (zr_n rfl (zr_n rfl (zr_n rfl e_i15))))))))) (zr_n rfl (zr_n rfl (zr_n rfl (zr_n rfl (zr_n rfl (zr_n rfl (zr_n rfl (zr_n rfl (zr_n rfl e_i16))))))))) (zr_n rfl (zr_n rfl (zr_n rfl (zr_n rfl (zr_n rfl (zr_n rfl (zr_n rfl (zr_n rfl (zr_n rfl e_i17))))))))) (zr_n rfl (zr_n rfl (zr_n rfl (zr_n rfl (zr_n rfl (zr_n rfl (zr_n rfl (zr_n rfl (zr_n rfl e_i18))))))))) (zr_n rfl (zr_n rfl (zr_n rfl (zr_n rfl (zr_n rfl (zr_n rfl (zr_n rfl (zr_n rfl (zr_n rfl e_i19))))))))) (zr_n rfl (zr_n rfl (zr_n rfl (zr_n rfl (zr_n rfl (zr_n rfl (zr_n rfl (zr_n rfl (zr_n rfl e_i20))))))))) (zr_n rfl (zr_n rfl (zr_n rfl (zr_n rfl (zr_n rfl (zr_n rfl (zr_n rfl (zr_n rfl (zr_n rfl e_i21))))))))) (zr_n rfl (zr_n rfl (zr_n rfl (zr_n rfl (zr_n rfl (zr_n rfl (zr_n rfl (zr_n rfl (zr_n rfl e_i22))))))))) (zr_n rfl (zr_n rfl (zr_n rfl (zr_n rfl (zr_n rfl (zr_n rfl (zr_n rfl (zr_n rfl (zr_n rfl e_i23))))))))) (zr_n rfl (zr_n rfl (zr_n rfl (zr_n rfl (zr_n rfl (zr_n rfl (zr_n rfl (zr_n rfl zr_s)))))))) (zr_n rfl (zr_n rfl (zr_n rfl (zr_n rfl (zr_n rfl (zr_n rfl (zr_n rfl zr_s))))))) (zr_n rfl (zr_n rfl (zr_n rfl (zr_n rfl (zr_n rfl (zr_n rfl zr_s)))))) (zr_n rfl (zr_n rfl (zr_n rfl (zr_n rfl (zr_n rfl zr_s))))) (zr_n rfl (zr_n rfl (zr_n rfl (zr_n rfl zr_s)))) (zr_n rfl (zr_n rfl (zr_n rfl zr_s))) (zr_n rfl (zr_n rfl zr_s)) (zr_n rfl zr_s) zr_s (zr_n rfl (zr_n rfl (zr_n rfl (zr_n rfl (zr_n rfl (zr_n rfl (zr_n rfl (zr_n rfl (zr_n rfl e_i47))))))))) (zeq_i rfl (zeq_i rfl (zeq_i rfl (zeq_i rfl (zeq_i rfl (zeq_i rfl (zeq_i rfl (zeq_i rfl (zeq_i rfl e_h49))))))))) y7.1 hy8) ((zch_h (zch_i (zch_i (zch_i (zch_i (zch_i (zch_i (zch_i (zch_i (zch_i (zm_n rfl (zm_n rfl (zm_n rfl (zm_n rfl (zm_n rfl (zm_n rfl (zm_n rfl (zm_n rfl (zm_n rfl rfl))))))))) (zm_n rfl (zm_n rfl (zm_n rfl (zm_n rfl (zm_n rfl (zm_n rfl (zm_n rfl (zm_n rfl (zm_n rfl rfl)))))))))) (zm_n rfl (zm_n rfl (zm_n rfl (zm_n rfl (zm_n rfl (zm_n rfl (zm_n rfl (zm_n rfl (zm_n rfl rfl)))))))))) (zm_n rfl (zm_n rfl (zm_n rfl (zm_n rfl (zm_n rfl (zm_n rfl (zm_n rfl (zm_n rfl (zm_n rfl rfl)))))))))) (zm_n rfl (zm_n rfl (zm_n rfl (zm_n rfl (zm_n rfl (zm_n rfl (zm_n rfl (zm_n rfl (zm_n rfl rfl)))))))))) (zm_n rfl (zm_n rfl (zm_n rfl (zm_n rfl (zm_n rfl (zm_n rfl (zm_n rfl (zm_n rfl (zm_n rfl rfl)))))))))) (zm_n rfl (zm_n rfl (zm_n rfl (zm_n rfl (zm_n rfl (zm_n rfl (zm_n rfl (zm_n rfl (zm_n rfl rfl)))))))))) (zm_n rfl (zm_n rfl (zm_n rfl (zm_n rfl (zm_n rfl (zm_n rfl (zm_n rfl (zm_n rfl (zm_n rfl rfl)))))))))) (zm_n rfl (zm_n rfl (zm_n rfl (zm_n rfl (zm_n rfl (zm_n rfl (zm_n rfl (zm_n rfl (zm_n rfl rfl)))))))))) rfl) rfl)).symm ?_
            have e9 := Option.some.inj hy
            subst e9
            exact zj_iret dX11_hire_64 rfl hq
          · have hy := zt_f hy c5
            refine zj_iconst (pc' := 38) dX11_hire_37 rfl kiconst_m1 ?_
            have e9 := Option.some.inj hy
            subst e9
            refine zj_mem (N := (zui M 15 r0_4)) (zself_i e_i15 rfl) ?_
            refine zj_mem (N := (zui (zui M 15 r0_4) 16 r0_4_0)) (zself_i (zr_n rfl e_i16) rfl) ?_
            refine zj_mem (N := (zui (zui (zui M 15 r0_4) 16 r0_4_0) 17 r0_4_1)) (zself_i (zr_n rfl (zr_n rfl e_i17)) rfl) ?_
            refine zj_mem (N := (zui (zui (zui (zui M 15 r0_4) 16 r0_4_0) 17 r0_4_1) 18 r0_4_2)) (zself_i (zr_n rfl (zr_n rfl (zr_n rfl e_i18))) rfl) ?_
            refine zj_mem (N := (zui (zui (zui (zui (zui M 15 r0_4) 16 r0_4_0) 17 r0_4_1) 18 r0_4_2) 19 r0_4_3)) (zself_i (zr_n rfl (zr_n rfl (zr_n rfl (zr_n rfl e_i19)))) rfl) ?_
            refine zj_mem (N := (zui (zui (zui (zui (zui (zui M 15 r0_4) 16 r0_4_0) 17 r0_4_1) 18 r0_4_2) 19 r0_4_3) 20 r0_4_4)) (zself_i (zr_n rfl (zr_n rfl (zr_n rfl (zr_n rfl (zr_n rfl e_i20))))) rfl) ?_
            refine zj_mem (N := (zui (zui (zui (zui (zui (zui (zui M 15 r0_4) 16 r0_4_0) 17 r0_4_1) 18 r0_4_2) 19 r0_4_3) 20 r0_4_4) 21 r0_4_5)) (zself_i (zr_n rfl (zr_n rfl (zr_n rfl (zr_n rfl (zr_n rfl (zr_n rfl e_i21)))))) rfl) ?_
            refine zj_mem (N := (zui (zui (zui (zui (zui (zui (zui (zui M 15 r0_4) 16 r0_4_0) 17 r0_4_1) 18 r0_4_2) 19 r0_4_3) 20 r0_4_4) 21 r0_4_5) 22 r0_4_6)) (zself_i (zr_n rfl (zr_n rfl (zr_n rfl (zr_n rfl (zr_n rfl (zr_n rfl (zr_n rfl e_i22))))))) rfl) ?_
            refine zj_mem (N := (zui (zui (zui (zui (zui (zui (zui (zui (zui M 15 r0_4) 16 r0_4_0) 17 r0_4_1) 18 r0_4_2) 19 r0_4_3) 20 r0_4_4) 21 r0_4_5) 22 r0_4_6) 23 r0_4_7)) (zself_i (zr_n rfl (zr_n rfl (zr_n rfl (zr_n rfl (zr_n rfl (zr_n rfl (zr_n rfl (zr_n rfl e_i23)))))))) rfl) ?_
            refine zj_mem (N := (zui (zui (zui (zui (zui (zui (zui (zui (zui (zui M 15 r0_4) 16 r0_4_0) 17 r0_4_1) 18 r0_4_2) 19 r0_4_3) 20 r0_4_4) 21 r0_4_5) 22 r0_4_6) 23 r0_4_7) 25 r0_5)) (zself_i (zr_n rfl (zr_n rfl (zr_n rfl (zr_n rfl (zr_n rfl (zr_n rfl (zr_n rfl (zr_n rfl (zr_n rfl e_i25))))))))) rfl) ?_
            refine zj_mem (N := (zui (zui (zui (zui (zui (zui (zui (zui (zui (zui (zui M 15 r0_4) 16 r0_4_0) 17 r0_4_1) 18 r0_4_2) 19 r0_4_3) 20 r0_4_4) 21 r0_4_5) 22 r0_4_6) 23 r0_4_7) 25 r0_5) 26 r0_5_0)) (zself_i (zr_n rfl (zr_n rfl (zr_n rfl (zr_n rfl (zr_n rfl (zr_n rfl (zr_n rfl (zr_n rfl (zr_n rfl (zr_n rfl e_i26)))))))))) rfl) ?_
            refine zj_mem (N := (zui (zui (zui (zui (zui (zui (zui (zui (zui (zui (zui (zui M 15 r0_4) 16 r0_4_0) 17 r0_4_1) 18 r0_4_2) 19 r0_4_3) 20 r0_4_4) 21 r0_4_5) 22 r0_4_6) 23 r0_4_7) 25 r0_5) 26 r0_5_0) 27 r0_5_1)) (zself_i (zr_n rfl (zr_n rfl (zr_n rfl (zr_n rfl (zr_n rfl (zr_n rfl (zr_n rfl (zr_n rfl (zr_n rfl (zr_n rfl (zr_n rfl e_i27))))))))))) rfl) ?_
            refine zj_mem (N := (zui (zui (zui (zui (zui (zui (zui (zui (zui (zui (zui (zui (zui M 15 r0_4) 16 r0_4_0) 17 r0_4_1) 18 r0_4_2) 19 r0_4_3) 20 r0_4_4) 21 r0_4_5) 22 r0_4_6) 23 r0_4_7) 25 r0_5) 26 r0_5_0) 27 r0_5_1) 28 r0_5_2)) (zself_i (zr_n rfl (zr_n rfl (zr_n rfl (zr_n rfl (zr_n rfl (zr_n rfl (zr_n rfl (zr_n rfl (zr_n rfl (zr_n rfl (zr_n rfl (zr_n rfl e_i28)))))))))))) rfl) ?_
            refine zj_mem (N := (zui (zui (zui (zui (zui (zui (zui (zui (zui (zui (zui (zui (zui (zui M 15 r0_4) 16 r0_4_0) 17 r0_4_1) 18 r0_4_2) 19 r0_4_3) 20 r0_4_4) 21 r0_4_5) 22 r0_4_6) 23 r0_4_7) 25 r0_5) 26 r0_5_0) 27 r0_5_1) 28 r0_5_2) 29 r0_5_3)) (zself_i (zr_n rfl (zr_n rfl (zr_n rfl (zr_n rfl (zr_n rfl (zr_n rfl (zr_n rfl (zr_n rfl (zr_n rfl (zr_n rfl (zr_n rfl (zr_n rfl (zr_n rfl e_i29))))))))))))) rfl) ?_
            refine zj_mem (N := (zui (zui (zui (zui (zui (zui (zui (zui (zui (zui (zui (zui (zui (zui (zui M 15 r0_4) 16 r0_4_0) 17 r0_4_1) 18 r0_4_2) 19 r0_4_3) 20 r0_4_4) 21 r0_4_5) 22 r0_4_6) 23 r0_4_7) 25 r0_5) 26 r0_5_0) 27 r0_5_1) 28 r0_5_2) 29 r0_5_3) 30 r0_5_4)) (zself_i (zr_n rfl (zr_n rfl (zr_n rfl (zr_n rfl (zr_n rfl (zr_n rfl (zr_n rfl (zr_n rfl (zr_n rfl (zr_n rfl (zr_n rfl (zr_n rfl (zr_n rfl (zr_n rfl e_i30)))))))))))))) rfl) ?_
            refine zj_mem (N := (zui (zui (zui (zui (zui (zui (zui (zui (zui (zui (zui (zui (zui (zui (zui (zui M 15 r0_4) 16 r0_4_0) 17 r0_4_1) 18 r0_4_2) 19 r0_4_3) 20 r0_4_4) 21 r0_4_5) 22 r0_4_6) 23 r0_4_7) 25 r0_5) 26 r0_5_0) 27 r0_5_1) 28 r0_5_2) 29 r0_5_3) 30 r0_5_4) 31 r0_5_5)) (zself_i (zr_n rfl (zr_n rfl (zr_n rfl (zr_n rfl (zr_n rfl (zr_n rfl (zr_n rfl (zr_n rfl (zr_n rfl (zr_n rfl (zr_n rfl (zr_n rfl (zr_n rfl (zr_n rfl (zr_n rfl e_i31))))))))))))))) rfl) ?_
            refine zj_mem (N := (zui (zui (zui (zui (zui (zui (zui (zui (zui (zui (zui (zui (zui (zui (zui (zui (zui M 15 r0_4) 16 r0_4_0) 17 r0_4_1) 18 r0_4_2) 19 r0_4_3) 20 r0_4_4) 21 r0_4_5) 22 r0_4_6) 23 r0_4_7) 25 r0_5) 26 r0_5_0) 27 r0_5_1) 28 r0_5_2) 29 r0_5_3) 30 r0_5_4) 31 r0_5_5) 32 r0_5_6)) (zself_i (zr_n rfl (zr_n rfl (zr_n rfl (zr_n rfl (zr_n rfl (zr_n rfl (zr_n rfl (zr_n rfl (zr_n rfl (zr_n rfl (zr_n rfl (zr_n rfl (zr_n rfl (zr_n rfl (zr_n rfl (zr_n rfl e_i32)))))))))))))))) rfl) ?_
            refine zj_mem (N := (zui (zui (zui (zui (zui (zui (zui (zui (zui (zui (zui (zui (zui (zui (zui (zui (zui (zui M 15 r0_4) 16 r0_4_0) 17 r0_4_1) 18 r0_4_2) 19 r0_4_3) 20 r0_4_4) 21 r0_4_5) 22 r0_4_6) 23 r0_4_7) 25 r0_5) 26 r0_5_0) 27 r0_5_1) 28 r0_5_2) 29 r0_5_3) 30 r0_5_4) 31 r0_5_5) 32 r0_5_6) 33 r0_5_7)) (zself_i (zr_n rfl (zr_n rfl (zr_n rfl (zr_n rfl (zr_n rfl (zr_n rfl (zr_n rfl (zr_n rfl (zr_n rfl (zr_n rfl (zr_n rfl (zr_n rfl (zr_n rfl (zr_n rfl (zr_n rfl (zr_n rfl (zr_n rfl e_i33))))))))))))))))) rfl) ?_
            refine zj_mem (N := (zui (zui (zui (zui (zui (zui (zui (zui (zui (zui (zui (zui (zui (zui (zui (zui (zui (zui (zui M 15 r0_4) 16 r0_4_0) 17 r0_4_1) 18 r0_4_2) 19 r0_4_3) 20 r0_4_4) 21 r0_4_5) 22 r0_4_6) 23 r0_4_7) 25 r0_5) 26 r0_5_0) 27 r0_5_1) 28 r0_5_2) 29 r0_5_3) 30 r0_5_4) 31 r0_5_5) 32 r0_5_6) 33 r0_5_7) 47 r0_8)) (zself_i (zr_n rfl (zr_n rfl (zr_n rfl (zr_n rfl (zr_n rfl (zr_n rfl (zr_n rfl (zr_n rfl (zr_n rfl (zr_n rfl (zr_n rfl (zr_n rfl (zr_n rfl (zr_n rfl (zr_n rfl (zr_n rfl (zr_n rfl (zr_n rfl e_i47)))))))))))))))))) rfl) ?_
            refine zj_mem (N := (zub (zui (zui (zui (zui (zui (zui (zui (zui (zui (zui (zui (zui (zui (zui (zui (zui (zui (zui (zui M 15 r0_4) 16 r0_4_0) 17 r0_4_1) 18 r0_4_2) 19 r0_4_3) 20 r0_4_4) 21 r0_4_5) 22 r0_4_6) 23 r0_4_7) 25 r0_5) 26 r0_5_0) 27 r0_5_1) 28 r0_5_2) 29 r0_5_3) 30 r0_5_4) 31 r0_5_5) 32 r0_5_6) 33 r0_5_7) 47 r0_8) 49 129 g49)) (zself_h (zeq_i rfl (zeq_i rfl (zeq_i rfl (zeq_i rfl (zeq_i rfl (zeq_i rfl (zeq_i rfl (zeq_i rfl (zeq_i rfl (zeq_i rfl (zeq_i rfl (zeq_i rfl (zeq_i rfl (zeq_i rfl (zeq_i rfl (zeq_i rfl (zeq_i rfl (zeq_i rfl (zeq_i rfl e_h49))))))))))))))))))) rfl) ?_
            exact zj_iret dX11_hire_38 rfl hq
set_option maxRecDepth 20000 in
theorem LX11_hire_0 (Γ : zG) (M : zM) (r0_2 : Nat → Int32) (r0_4 : Nat → Int32) (r0_4_0 : Nat → Int32) (r0_4_1 : Nat → Int32) (r0_4_2 : Nat → Int32) (r0_4_3 : Nat → Int32) (r0_4_4 : Nat → Int32) (r0_4_5 : Nat → Int32) (r0_4_6 : Nat → Int32) (r0_4_7 : Nat → Int32) (r0_5 : Nat → Int32) (r0_5_0 : Nat → Int32) (r0_5_1 : Nat → Int32) (r0_5_2 : Nat → Int32) (r0_5_3 : Nat → Int32) (r0_5_4 : Nat → Int32) (r0_5_5 : Nat → Int32) (r0_5_6 : Nat → Int32) (r0_5_7 : Nat → Int32) (r0_8 : Nat → Int32) (g49 : zM) (e_i5 : M.1 5 = r0_2) (e_i15 : M.1 15 = r0_4) (e_i16 : M.1 16 = r0_4_0) (e_i17 : M.1 17 = r0_4_1) (e_i18 : M.1 18 = r0_4_2) (e_i19 : M.1 19 = r0_4_3) (e_i20 : M.1 20 = r0_4_4) (e_i21 : M.1 21 = r0_4_5) (e_i22 : M.1 22 = r0_4_6) (e_i23 : M.1 23 = r0_4_7) (e_i25 : M.1 25 = r0_5) (e_i26 : M.1 26 = r0_5_0) (e_i27 : M.1 27 = r0_5_1) (e_i28 : M.1 28 = r0_5_2) (e_i29 : M.1 29 = r0_5_3) (e_i30 : M.1 30 = r0_5_4) (e_i31 : M.1 31 = r0_5_5) (e_i32 : M.1 32 = r0_5_6) (e_i33 : M.1 33 = r0_5_7) (e_i47 : M.1 47 = r0_8) (e_h49 : zeq M 49 129 g49) (a1 : Int32) (a2 : Int32) (a3 : Int32) {res : Int32 × (Nat → Int32) × (Nat → Int32) × (Nat → Int32) × (Nat → Int32) × (Nat → Int32) × (Nat → Int32) × (Nat → Int32) × (Nat → Int32) × (Nat → Int32) × (Nat → Int32) × (Nat → Int32) × (Nat → Int32) × (Nat → Int32) × (Nat → Int32) × (Nat → Int32) × (Nat → Int32) × (Nat → Int32) × (Nat → Int32) × (Nat → Int32) × zM} (hy : (fX_hire r0_2 r0_4 r0_4_0 r0_4_1 r0_4_2 r0_4_3 r0_4_4 r0_4_5 r0_4_6 r0_4_7 r0_5 r0_5_0 r0_5_1 r0_5_2 r0_5_3 r0_5_4 r0_5_5 r0_5_6 r0_5_7 r0_8 g49 a1 a2 a3) = some res) : zK Γ 6 YX11_hire [.ref (zad Γ 0), .int a1, .int a2, .int a3] M (fun v N => v = some (.int res.1) ∧ N = (zub (zui (zui (zui (zui (zui (zui (zui (zui (zui (zui (zui (zui (zui (zui (zui (zui (zui (zui (zui M 15 res.2.1) 16 res.2.2.1) 17 res.2.2.2.1) 18 res.2.2.2.2.1) 19 res.2.2.2.2.2.1) 20 res.2.2.2.2.2.2.1) 21 res.2.2.2.2.2.2.2.1) 22 res.2.2.2.2.2.2.2.2.1) 23 res.2.2.2.2.2.2.2.2.2.1) 25 res.2.2.2.2.2.2.2.2.2.2.1) 26 res.2.2.2.2.2.2.2.2.2.2.2.1) 27 res.2.2.2.2.2.2.2.2.2.2.2.2.1) 28 res.2.2.2.2.2.2.2.2.2.2.2.2.2.1) 29 res.2.2.2.2.2.2.2.2.2.2.2.2.2.2.1) 30 res.2.2.2.2.2.2.2.2.2.2.2.2.2.2.2.1) 31 res.2.2.2.2.2.2.2.2.2.2.2.2.2.2.2.2.1) 32 res.2.2.2.2.2.2.2.2.2.2.2.2.2.2.2.2.2.1) 33 res.2.2.2.2.2.2.2.2.2.2.2.2.2.2.2.2.2.2.1) 47 res.2.2.2.2.2.2.2.2.2.2.2.2.2.2.2.2.2.2.2.1) 49 129 res.2.2.2.2.2.2.2.2.2.2.2.2.2.2.2.2.2.2.2.2)) :=
  zK_of (by decide) (Nat.le_of_ble_eq_true rfl) (TX11_hire_0 Γ M r0_2 r0_4 r0_4_0 r0_4_1 r0_4_2 r0_4_3 r0_4_4 r0_4_5 r0_4_6 r0_4_7 r0_5 r0_5_0 r0_5_1 r0_5_2 r0_5_3 r0_5_4 r0_5_5 r0_5_6 r0_5_7 r0_8 g49 e_i5 e_i15 e_i16 e_i17 e_i18 e_i19 e_i20 e_i21 e_i22 e_i23 e_i25 e_i26 e_i27 e_i28 e_i29 e_i30 e_i31 e_i32 e_i33 e_i47 e_h49 a1 a2 a3 hy ⟨rfl, rfl⟩)

