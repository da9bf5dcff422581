noncomputable def fM_draw (r0 : Nat → Int32) (a1 : Int32) : Option (Int32 × (Nat → Int32)) :=
  zlet (zup r0 39 (((r0 39) * 1103515245) + 12345)) (fun (r0v1 : Nat → Int32) =>
  (if a1 = 0 then none else
  some ((((Int32.toUInt32 (r0v1 39) >>> (Int32.toUInt32 (8 : Int32) &&& Int32.toUInt32 31)).toInt32) - ((Int32.toUInt32 (r0v1 39) >>> (Int32.toUInt32 (8 : Int32) &&& Int32.toUInt32 31)).toInt32) / a1 * a1), r0v1)))

set_option maxRecDepth 20000 in
theorem TX12_draw_186 (Γ : zG) {Q : Option Value → zM → Prop} (M : zM) (r0 : Nat → Int32) (e_i186 : M.1 186 = r0) (a1 : Int32) {res : Int32 × (Nat → Int32)} (hy : (fM_draw r0 a1) = some res) (hq : Q (some (.int res.1)) (zui M 186 res.2)) : zR Γ 1 YX12_draw 0 [(0, .ref (zad Γ 186)), (1, .int a1)] [] M Q := by
  unfold fM_draw at hy
  refine zj_aload_n (pc' := 1) 0 dX12_draw_0 rfl rfl rfl ?_
  refine zj_aload_n (pc' := 2) 0 dX12_draw_1 rfl rfl rfl ?_
  refine zj_fI (pc' := 5) dX12_draw_2 rfl flX12_403 sh186 rfl e_i186 rfl ?_
  refine zj_ldcw (pc' := 8) dX12_draw_5 rfl cI1949 ?_
  refine zj_imul (pc' := 9) dX12_draw_8 rfl ?_
  refine zj_sipush (pc' := 12) dX12_draw_9 rfl ksipush_12345 ?_
  refine zj_iadd (pc' := 13) dX12_draw_12 rfl ?_
  obtain ⟨r0v1, er0v1⟩ : ∃ z, z = (zup r0 39 (((r0 39) * 1103515245) + 12345)) := ⟨_, rfl⟩
  have hy := zlet_at er0v1 hy
  refine zj_pI (pc' := 16) (N := (zui M 186 r0v1)) dX12_draw_13 rfl fpX12_403 sh186 rfl e_i186 er0v1 rfl ?_
  refine zj_aload_n (pc' := 17) 0 dX12_draw_16 rfl rfl rfl ?_
  refine zj_fI (pc' := 20) dX12_draw_17 rfl flX12_403 sh186 rfl zr_s rfl ?_
  refine zj_bipush (pc' := 22) dX12_draw_20 rfl kbipush_8 ?_
  refine zj_iushr (pc' := 23) dX12_draw_22 rfl ?_
  refine zj_iload_n (pc' := 24) 1 dX12_draw_23 rfl rfl rfl ?_
  obtain ⟨c2, hy⟩ := zck' hy
  refine zj_irem (pc' := 25) dX12_draw_24 rfl c2 ?_
  have e9 := Option.some.inj hy
  subst e9
  exact zj_iret dX12_draw_25 rfl hq
set_option maxRecDepth 20000 in
theorem LX12_draw_186 (Γ : zG) (M : zM) (r0 : Nat → Int32) (e_i186 : M.1 186 = r0) (a1 : Int32) {res : Int32 × (Nat → Int32)} (hy : (fM_draw r0 a1) = some res) : zK Γ 1 YX12_draw [.ref (zad Γ 186), .int a1] M (fun v N => v = some (.int res.1) ∧ N = (zui M 186 res.2)) :=
  zK_of (by decide) (Nat.le_of_ble_eq_true rfl) (TX12_draw_186 Γ M r0 e_i186 a1 hy ⟨rfl, rfl⟩)

noncomputable def fM_drawPerson (r0 : Nat → Int32) (r0_6 : Nat → Int32) (a1 : Int32) : Option ((Nat → Int32) × (Nat → Int32)) :=
  (fM_draw r0 8).bind (fun (y1 : Int32 × (Nat → Int32)) =>
  zlet y1.1 (fun (x2 : Int32) =>
  (if x2 = 0 then
  (fM_draw y1.2 (r0_6 2)).bind (fun (y4 : Int32 × (Nat → Int32)) =>
  zlet y4.1 (fun (x5 : Int32) =>
  (fM_draw y4.2 5).bind (fun (y6 : Int32 × (Nat → Int32)) =>
  zlet (y6.1 + 1) (fun (x7 : Int32) =>
  (if x5 = a1 then
  some (y6.2, r0_6)
  else
  (fM_whyHire r0_6 x5).bind (fun (y9 : Int32) =>
  (if y9 = 0 then
  (fM_binds r0_6 a1 x5 x7).bind (fun (y11 : (Nat → Int32)) =>
  some (y6.2, y11))
  else
  some (y6.2, r0_6))))))))
  else
  (if x2 = 1 then
  (zrd r0_6 397 (133 + a1)).bind (fun (v13 : Int32) =>
  (if v13 ≤ 0 then
  some (y1.2, r0_6)
  else
  (fM_parts r0_6 a1).bind (fun (y15 : (Nat → Int32)) =>
  some (y1.2, y15))))
  else
  (if 5 ≤ x2 then
  (if x2 = 5 then
  (zrd r0_6 397 (127 + a1)).bind (fun (v18 : Int32) =>
  (if v18 ≤ 0 then
  some (y1.2, r0_6)
  else
  (fM_lets r0_6 a1).bind (fun (y20 : (Nat → Int32)) =>
  some (y1.2, y20))))
  else
  some (y1.2, r0_6))
  else
  (fM_draw y1.2 (r0_6 0)).bind (fun (y21 : Int32 × (Nat → Int32)) =>
  zlet y21.1 (fun (x22 : Int32) =>
  (fM_whySend r0_6 a1 x22).bind (fun (y23 : Int32) =>
  (if y23 = 0 then
  (fM_sends r0_6 a1 x22).bind (fun (y25 : (Nat → Int32)) =>
  some (y21.2, y25))
  else
  some (y21.2, r0_6))))))))))

set_option maxRecDepth 20000 in
theorem TX12_drawPerson_186 (Γ : zG) {Q : Option Value → zM → Prop} (M : zM) (r0 : Nat → Int32) (r0_6 : Nat → Int32) (e_i186 : M.1 186 = r0) (e_i188 : M.1 188 = r0_6) (a1 : Int32) {res : (Nat → Int32) × (Nat → Int32)} (hy : (fM_drawPerson r0 r0_6 a1) = some res) (hq : Q none (zui (zui M 186 res.1) 188 res.2)) : zR Γ 4 YX12_drawPerson 0 [(0, .ref (zad Γ 186)), (1, .int a1)] [] M Q := by
  unfold fM_drawPerson at hy
  refine zj_aload_n (pc' := 1) 0 dX12_drawPerson_0 rfl rfl rfl ?_
  refine zj_bipush (pc' := 3) dX12_drawPerson_1 rfl kbipush_8 ?_
  obtain ⟨y1, hy1, hy⟩ := zt_b hy
  refine zj_V1 (pc' := 6) (z := YX12_draw) (As := [.int 8]) (N := (zui M 186 y1.2)) dX12_drawPerson_3 rfl mlX12_407 lkX12_draw sh186 ⟨_, _, rfl⟩ rfl rfl (Nat.le_of_ble_eq_true rfl) (Nat.le_of_ble_eq_true rfl) (LX12_draw_186 Γ _ r0 e_i186 8 hy1) (rfl).symm ?_
  refine zj_topi (fun x2 ex2 => ?_)
  have hy := zlet_at ex2 hy
  refine zj_istore_n (pc' := 7) (L' := [(2, .int x2), (0, .ref (zad Γ 186)), (1, .int a1)]) dX12_drawPerson_6 rfl rfl (by decide) rfl ?_
  refine zj_iload_n (pc' := 8) 0 dX12_drawPerson_7 rfl rfl rfl ?_
  refine zj_if_ne (tgt := 55) (pc' := 11) dX12_drawPerson_8 rfl (by decide) (fun c3 => ?_) (fun c3 => ?_)
  · have hy := zt_f hy c3
    refine zj_iload_n (pc' := 56) 0 dX12_drawPerson_55 rfl rfl rfl ?_
    refine zj_iconst (pc' := 57) dX12_drawPerson_56 rfl kiconst_1 ?_
    refine zj_icmp_ne (tgt := 81) (pc' := 60) dX12_drawPerson_57 rfl (by decide) (fun c12 => ?_) (fun c12 => ?_)
    · have hy := zt_f hy c12
      refine zj_iload_n (pc' := 82) 0 dX12_drawPerson_81 rfl rfl rfl ?_
      refine zj_iconst (pc' := 83) dX12_drawPerson_82 rfl kiconst_5 ?_
      refine zj_icmp_ge (tgt := 115) (pc' := 86) dX12_drawPerson_83 rfl (by decide) (fun c16 => ?_) (fun c16 => ?_)
      · have hy := zt_t hy c16
        refine zj_iload_n (pc' := 116) 0 dX12_drawPerson_115 rfl rfl rfl ?_
        refine zj_iconst (pc' := 117) dX12_drawPerson_116 rfl kiconst_5 ?_
        refine zj_icmp_ne (tgt := 137) (pc' := 120) dX12_drawPerson_117 rfl (by decide) (fun c17 => ?_) (fun c17 => ?_)
        · have hy := zt_f hy c17
          have e9 := Option.some.inj hy
          subst e9
          refine zj_mem (N := (zui (zui M 186 y1.2) 188 r0_6)) (zself_i (zr_n rfl e_i188) rfl) ?_
          exact zj_vret dX12_drawPerson_137 rfl hq
        · have hy := zt_t hy c17
          refine zj_aload_n (pc' := 121) 1 dX12_drawPerson_120 rfl rfl rfl ?_
          refine zj_getR (pc' := 124) (j := 188) dX12_drawPerson_121 rfl flX12_33 sh186 rfl ?_
          refine zj_bipush (pc' := 126) dX12_drawPerson_124 rfl kbipush_127 ?_
          refine zj_iload_n (pc' := 127) 2 dX12_drawPerson_126 rfl rfl rfl ?_
          refine zj_iadd (pc' := 128) dX12_drawPerson_127 rfl ?_
          obtain ⟨v18, hv18, hy⟩ := zt_b hy
          refine zj_rdi (pc' := 129) dX12_drawPerson_128 rfl sh188 (zr_n rfl e_i188) hv18 ?_
          refine zj_if_le (tgt := 137) (pc' := 132) dX12_drawPerson_129 rfl (by decide) (fun c19 => ?_) (fun c19 => ?_)
          · have hy := zt_t hy c19
            have e9 := Option.some.inj hy
            subst e9
            refine zj_mem (N := (zui (zui M 186 y1.2) 188 r0_6)) (zself_i (zr_n rfl e_i188) rfl) ?_
            exact zj_vret dX12_drawPerson_137 rfl hq
          · have hy := zt_f hy c19
            refine zj_aload_n (pc' := 133) 1 dX12_drawPerson_132 rfl rfl rfl ?_
            refine zj_iload_n (pc' := 134) 2 dX12_drawPerson_133 rfl rfl rfl ?_
            obtain ⟨y20, hy20, hy⟩ := zt_b hy
            refine zj_V0 (pc' := 137) (z := YX12_lets) (As := [.int a1]) (N := (zui (zui M 186 y1.2) 188 y20)) dX12_drawPerson_134 rfl mlX12_311 lkX12_lets sh186 ⟨_, _, rfl⟩ rfl rfl (Nat.le_of_ble_eq_true rfl) (Nat.le_of_ble_eq_true rfl) (LX12_lets_186 Γ _ r0_6 (zr_n rfl e_i188) a1 hy20) (rfl).symm ?_
            have e9 := Option.some.inj hy
            subst e9
            exact zj_vret dX12_drawPerson_137 rfl hq
      · have hy := zt_f hy c16
        refine zj_aload_n (pc' := 87) 1 dX12_drawPerson_86 rfl rfl rfl ?_
        refine zj_aload_n (pc' := 88) 1 dX12_drawPerson_87 rfl rfl rfl ?_
        refine zj_getR (pc' := 91) (j := 188) dX12_drawPerson_88 rfl flX12_33 sh186 rfl ?_
        refine zj_iconst (pc' := 92) dX12_drawPerson_91 rfl kiconst_0 ?_
        refine zj_rdi (pc' := 93) dX12_drawPerson_92 rfl sh188 (zr_n rfl e_i188) (zrdK zi0_397 tn0) ?_
        obtain ⟨y21, hy21, hy⟩ := zt_b hy
        refine zj_V1 (pc' := 96) (z := YX12_draw) (As := [.int (r0_6 0)]) (N := (zui M 186 y21.2)) dX12_drawPerson_93 rfl mlX12_407 lkX12_draw sh186 ⟨_, _, rfl⟩ rfl rfl (Nat.le_of_ble_eq_true rfl) (Nat.le_of_ble_eq_true rfl) (LX12_draw_186 Γ _ y1.2 zr_s (r0_6 0) hy21) (zm_s).symm ?_
        refine zj_topi (fun x22 ex22 => ?_)
        have hy := zlet_at ex22 hy
        refine zj_istore_n (pc' := 97) (L' := [(3, .int x22), (2, .int x2), (0, .ref (zad Γ 186)), (1, .int a1)]) dX12_drawPerson_96 rfl rfl (by decide) rfl ?_
        refine zj_aload_n (pc' := 98) 2 dX12_drawPerson_97 rfl rfl rfl ?_
        refine zj_iload_n (pc' := 99) 3 dX12_drawPerson_98 rfl rfl rfl ?_
        refine zj_iload_n (pc' := 100) 0 dX12_drawPerson_99 rfl rfl rfl ?_
        obtain ⟨y23, hy23, hy⟩ := zt_b hy
        refine zj_V1 (pc' := 103) (z := YX12_whySend) (As := [.int a1, .int x22]) (N := (zui M 186 y21.2)) dX12_drawPerson_100 rfl mlX12_301 lkX12_whySend sh186 ⟨_, _, rfl⟩ rfl rfl (Nat.le_of_ble_eq_true rfl) (Nat.le_of_ble_eq_true rfl) (LX12_whySend_186 Γ _ r0_6 (zr_n rfl e_i188) a1 x22 hy23) rfl ?_
        refine zj_if_ne (tgt := 112) (pc' := 106) dX12_drawPerson_103 rfl (by decide) (fun c24 => ?_) (fun c24 => ?_)
        · have hy := zt_f hy c24
          refine zj_goto (tgt := 137) dX12_drawPerson_112 (by decide) ?_
          have e9 := Option.some.inj hy
          subst e9
          refine zj_mem (N := (zui (zui M 186 y21.2) 188 r0_6)) (zself_i (zr_n rfl e_i188) rfl) ?_
          exact zj_vret dX12_drawPerson_137 rfl hq
        · have hy := zt_t hy c24
          refine zj_aload_n (pc' := 107) 2 dX12_drawPerson_106 rfl rfl rfl ?_
          refine zj_iload_n (pc' := 108) 3 dX12_drawPerson_107 rfl rfl rfl ?_
          refine zj_iload_n (pc' := 109) 0 dX12_drawPerson_108 rfl rfl rfl ?_
          obtain ⟨y25, hy25, hy⟩ := zt_b hy
          refine zj_V0 (pc' := 112) (z := YX12_sends) (As := [.int a1, .int x22]) (N := (zui (zui M 186 y21.2) 188 y25)) dX12_drawPerson_109 rfl mlX12_307 lkX12_sends sh186 ⟨_, _, rfl⟩ rfl rfl (Nat.le_of_ble_eq_true rfl) (Nat.le_of_ble_eq_true rfl) (LX12_sends_186 Γ _ r0_6 (zr_n rfl e_i188) a1 x22 hy25) (rfl).symm ?_
          refine zj_goto (tgt := 137) dX12_drawPerson_112 (by decide) ?_
          have e9 := Option.some.inj hy
          subst e9
          exact zj_vret dX12_drawPerson_137 rfl hq
    · have hy := zt_t hy c12
      refine zj_aload_n (pc' := 61) 1 dX12_drawPerson_60 rfl rfl rfl ?_
      refine zj_getR (pc' := 64) (j := 188) dX12_drawPerson_61 rfl flX12_33 sh186 rfl ?_
      refine zj_sipush (pc' := 67) dX12_drawPerson_64 rfl ksipush_133 ?_
      refine zj_iload_n (pc' := 68) 2 dX12_drawPerson_67 rfl rfl rfl ?_
      refine zj_iadd (pc' := 69) dX12_drawPerson_68 rfl ?_
      obtain ⟨v13, hv13, hy⟩ := zt_b hy
      refine zj_rdi (pc' := 70) dX12_drawPerson_69 rfl sh188 (zr_n rfl e_i188) hv13 ?_
      refine zj_if_le (tgt := 137) (pc' := 73) dX12_drawPerson_70 rfl (by decide) (fun c14 => ?_) (fun c14 => ?_)
      · have hy := zt_t hy c14
        have e9 := Option.some.inj hy
        subst e9
        refine zj_mem (N := (zui (zui M 186 y1.2) 188 r0_6)) (zself_i (zr_n rfl e_i188) rfl) ?_
        exact zj_vret dX12_drawPerson_137 rfl hq
      · have hy := zt_f hy c14
        refine zj_aload_n (pc' := 74) 1 dX12_drawPerson_73 rfl rfl rfl ?_
        refine zj_iload_n (pc' := 75) 2 dX12_drawPerson_74 rfl rfl rfl ?_
        obtain ⟨y15, hy15, hy⟩ := zt_b hy
        refine zj_V0 (pc' := 78) (z := YX12_parts) (As := [.int a1]) (N := (zui (zui M 186 y1.2) 188 y15)) dX12_drawPerson_75 rfl mlX12_314 lkX12_parts sh186 ⟨_, _, rfl⟩ rfl rfl (Nat.le_of_ble_eq_true rfl) (Nat.le_of_ble_eq_true rfl) (LX12_parts_186 Γ _ r0_6 (zr_n rfl e_i188) a1 hy15) (rfl).symm ?_
        refine zj_goto (tgt := 137) dX12_drawPerson_78 (by decide) ?_
        have e9 := Option.some.inj hy
        subst e9
        exact zj_vret dX12_drawPerson_137 rfl hq
  · have hy := zt_t hy c3
    refine zj_aload_n (pc' := 12) 1 dX12_drawPerson_11 rfl rfl rfl ?_
    refine zj_aload_n (pc' := 13) 1 dX12_drawPerson_12 rfl rfl rfl ?_
    refine zj_getR (pc' := 16) (j := 188) dX12_drawPerson_13 rfl flX12_33 sh186 rfl ?_
    refine zj_iconst (pc' := 17) dX12_drawPerson_16 rfl kiconst_2 ?_
    refine zj_rdi (pc' := 18) dX12_drawPerson_17 rfl sh188 (zr_n rfl e_i188) (zrdK zi2_397 tn2) ?_
    obtain ⟨y4, hy4, hy⟩ := zt_b hy
    refine zj_V1 (pc' := 21) (z := YX12_draw) (As := [.int (r0_6 2)]) (N := (zui M 186 y4.2)) dX12_drawPerson_18 rfl mlX12_407 lkX12_draw sh186 ⟨_, _, rfl⟩ rfl rfl (Nat.le_of_ble_eq_true rfl) (Nat.le_of_ble_eq_true rfl) (LX12_draw_186 Γ _ y1.2 zr_s (r0_6 2) hy4) (zm_s).symm ?_
    refine zj_topi (fun x5 ex5 => ?_)
    have hy := zlet_at ex5 hy
    refine zj_istore_n (pc' := 22) (L' := [(3, .int x5), (2, .int x2), (0, .ref (zad Γ 186)), (1, .int a1)]) dX12_drawPerson_21 rfl rfl (by decide) rfl ?_
    refine zj_aload_n (pc' := 23) 2 dX12_drawPerson_22 rfl rfl rfl ?_
    refine zj_iconst (pc' := 24) dX12_drawPerson_23 rfl kiconst_5 ?_
    obtain ⟨y6, hy6, hy⟩ := zt_b hy
    refine zj_V1 (pc' := 27) (z := YX12_draw) (As := [.int 5]) (N := (zui M 186 y6.2)) dX12_drawPerson_24 rfl mlX12_407 lkX12_draw sh186 ⟨_, _, rfl⟩ rfl rfl (Nat.le_of_ble_eq_true rfl) (Nat.le_of_ble_eq_true rfl) (LX12_draw_186 Γ _ y4.2 zr_s 5 hy6) (zm_s).symm ?_
    refine zj_iconst (pc' := 28) dX12_drawPerson_27 rfl kiconst_1 ?_
    refine zj_iadd (pc' := 29) dX12_drawPerson_28 rfl ?_
    refine zj_topi (fun x7 ex7 => ?_)
    have hy := zlet_at ex7 hy
    refine zj_istore (pc' := 31) (L' := [(4, .int x7), (3, .int x5), (2, .int x2), (0, .ref (zad Γ 186)), (1, .int a1)]) dX12_drawPerson_29 rfl (by decide) rfl ?_
    refine zj_iload_n (pc' := 32) 1 dX12_drawPerson_31 rfl rfl rfl ?_
    refine zj_iload_n (pc' := 33) 4 dX12_drawPerson_32 rfl rfl rfl ?_
    refine zj_icmp_eq (tgt := 52) (pc' := 36) dX12_drawPerson_33 rfl (by decide) (fun c8 => ?_) (fun c8 => ?_)
    · have hy := zt_t hy c8
      refine zj_goto (tgt := 137) dX12_drawPerson_52 (by decide) ?_
      have e9 := Option.some.inj hy
      subst e9
      refine zj_mem (N := (zui (zui M 186 y6.2) 188 r0_6)) (zself_i (zr_n rfl e_i188) rfl) ?_
      exact zj_vret dX12_drawPerson_137 rfl hq
    · have hy := zt_f hy c8
      refine zj_aload_n (pc' := 37) 3 dX12_drawPerson_36 rfl rfl rfl ?_
      refine zj_iload_n (pc' := 38) 1 dX12_drawPerson_37 rfl rfl rfl ?_
      obtain ⟨y9, hy9, hy⟩ := zt_b hy
      refine zj_V1 (pc' := 41) (z := YX12_whyHire) (As := [.int x5]) (N := (zui M 186 y6.2)) dX12_drawPerson_38 rfl mlX12_317 lkX12_whyHire sh186 ⟨_, _, rfl⟩ rfl rfl (Nat.le_of_ble_eq_true rfl) (Nat.le_of_ble_eq_true rfl) (LX12_whyHire_186 Γ _ r0_6 (zr_n rfl e_i188) x5 hy9) rfl ?_
      refine zj_if_ne (tgt := 52) (pc' := 44) dX12_drawPerson_41 rfl (by decide) (fun c10 => ?_) (fun c10 => ?_)
      · have hy := zt_f hy c10
        refine zj_goto (tgt := 137) dX12_drawPerson_52 (by decide) ?_
        have e9 := Option.some.inj hy
        subst e9
        refine zj_mem (N := (zui (zui M 186 y6.2) 188 r0_6)) (zself_i (zr_n rfl e_i188) rfl) ?_
        exact zj_vret dX12_drawPerson_137 rfl hq
      · have hy := zt_t hy c10
        refine zj_aload_n (pc' := 45) 3 dX12_drawPerson_44 rfl rfl rfl ?_
        refine zj_iload_n (pc' := 46) 4 dX12_drawPerson_45 rfl rfl rfl ?_
        refine zj_iload_n (pc' := 47) 1 dX12_drawPerson_46 rfl rfl rfl ?_
        refine zj_iload (pc' := 49) 0 dX12_drawPerson_47 rfl rfl ?_
        obtain ⟨y11, hy11, hy⟩ := zt_b hy
        refine zj_V0 (pc' := 52) (z := YX12_binds) (As := [.int a1, .int x5, .int x7]) (N := (zui (zui M 186 y6.2) 188 y11)) dX12_drawPerson_49 rfl mlX12_320 lkX12_binds sh186 ⟨_, _, rfl⟩ rfl rfl (Nat.le_of_ble_eq_true rfl) (Nat.le_of_ble_eq_true rfl) (LX12_binds_186 Γ _ r0_6 (zr_n rfl e_i188) a1 x5 x7 hy11) (rfl).symm ?_
        refine zj_goto (tgt := 137) dX12_drawPerson_52 (by decide) ?_
        have e9 := Option.some.inj hy
        subst e9
        exact zj_vret dX12_drawPerson_137 rfl hq
set_option maxRecDepth 20000 in
theorem LX12_drawPerson_186 (Γ : zG) (M : zM) (r0 : Nat → Int32) (r0_6 : Nat → Int32) (e_i186 : M.1 186 = r0) (e_i188 : M.1 188 = r0_6) (a1 : Int32) {res : (Nat → Int32) × (Nat → Int32)} (hy : (fM_drawPerson r0 r0_6 a1) = some res) : zK Γ 4 YX12_drawPerson [.ref (zad Γ 186), .int a1] M (fun v N => v = none ∧ N = (zui (zui M 186 res.1) 188 res.2)) :=
  zK_of (by decide) (Nat.le_of_ble_eq_true rfl) (TX12_drawPerson_186 Γ M r0 r0_6 e_i186 e_i188 a1 hy ⟨rfl, rfl⟩)

noncomputable def fM_draws_L28 (r0v15 : Nat → Int32) (r0_6v16 : Nat → Int32) (x17 : Int32) : Option (((Nat → Int32) × (Nat → Int32) × Int32) ⊕ ((Nat → Int32) × (Nat → Int32))) :=
  (if (r0_6v16 2) ≤ x17 then
  some (.inr (r0v15, r0_6v16))
  else
  (fM_drawPerson r0v15 r0_6v16 x17).bind (fun (y26 : (Nat → Int32) × (Nat → Int32)) =>
  zlet (x17 + 1) (fun (x27 : Int32) =>
  some (.inl (y26.1, y26.2, x27)))))
noncomputable def fM_draws_L7 (r0_20 : Nat → Int32) (a1 : Int32) (r0v2 : Nat → Int32) (r0_6v3 : Nat → Int32) (r0_21v4 : Nat → Int32) (x5 : Int32) : Option (((Nat → Int32) × (Nat → Int32) × (Nat → Int32) × Int32) ⊕ ((Nat → Int32) × (Nat → Int32) × (Nat → Int32) × Int32)) :=
  (if a1 ≤ x5 then
  some (.inr (r0v2, r0_6v3, r0_21v4, x5))
  else
  (if 400 ≤ (r0_6v3 89) then
  some (.inr (r0v2, r0_6v3, r0_21v4, x5))
  else
  (zLP (fun s => fM_draws_L28 s.1 s.2.1 s.2.2) (r0v2, r0_6v3, 0)).bind (fun r20 =>
  (fM_minute r20.2 r0_20 r0_21v4).bind (fun (y30 : (Nat → Int32) × (Nat → Int32)) =>
  zlet (x5 + 1) (fun (x31 : Int32) =>
  some (.inl (r20.1, y30.1, y30.2, x31)))))))
noncomputable def fM_draws (r0 : Nat → Int32) (r0_6 : Nat → Int32) (r0_20 : Nat → Int32) (r0_21 : Nat → Int32) (a1 : Int32) (a2 : Int32) : Option (Int32 × (Nat → Int32) × (Nat → Int32) × (Nat → Int32)) :=
  zlet (zup r0 39 a2) (fun (r0v1 : Nat → Int32) =>
  (zLP (fun s => fM_draws_L7 r0_20 a1 s.1 s.2.1 s.2.2.1 s.2.2.2) (r0v1, r0_6, r0_21, 0)).bind (fun r8 =>
  some (r8.2.2.2, r8.1, r8.2.1, r8.2.2.1)))

set_option maxRecDepth 20000 in
theorem TX12_draws_186 (Γ : zG) {Q : Option Value → zM → Prop} (M : zM) (r0 : Nat → Int32) (r0_6 : Nat → Int32) (r0_20 : Nat → Int32) (r0_21 : Nat → Int32) (e_i186 : M.1 186 = r0) (e_i188 : M.1 188 = r0_6) (e_i193 : M.1 193 = r0_20) (e_i194 : M.1 194 = r0_21) (a1 : Int32) (a2 : Int32) {res : Int32 × (Nat → Int32) × (Nat → Int32) × (Nat → Int32)} (hy : (fM_draws r0 r0_6 r0_20 r0_21 a1 a2) = some res) (hq : Q (some (.int res.1)) (zui (zui (zui M 186 res.2.1) 188 res.2.2.1) 194 res.2.2.2)) : zR Γ 6 YX12_draws 0 [(0, .ref (zad Γ 186)), (1, .int a1), (2, .int a2)] [] M Q := by
  unfold fM_draws at hy
  refine zj_aload_n (pc' := 1) 0 dX12_draws_0 rfl rfl rfl ?_
  refine zj_iload_n (pc' := 2) 2 dX12_draws_1 rfl rfl rfl ?_
  obtain ⟨r0v1, er0v1⟩ : ∃ z, z = (zup r0 39 a2) := ⟨_, rfl⟩
  have hy := zlet_at er0v1 hy
  refine zj_pI (pc' := 5) (N := (zui M 186 r0v1)) dX12_draws_2 rfl fpX12_403 sh186 rfl e_i186 er0v1 rfl ?_
  refine zj_iconst (pc' := 6) dX12_draws_5 rfl kiconst_0 ?_
  refine zj_istore_n (pc' := 7) (L' := [(3, .int 0), (0, .ref (zad Γ 186)), (1, .int a1), (2, .int a2)]) dX12_draws_6 rfl rfl (by decide) rfl ?_
  refine zj_loc [1, 2, 0] rfl ?_
  refine zj_mem (N := (zui (zui M 186 r0v1) 188 r0_6)) (zself_i (zr_n rfl e_i188) rfl) ?_
  refine zj_mem (N := (zui (zui (zui M 186 r0v1) 188 r0_6) 194 r0_21)) (zself_i (zr_n rfl (zr_n rfl e_i194)) rfl) ?_
  obtain ⟨r8, hr9, hyo9⟩ := zt_b hy
  obtain ⟨n9, hn9⟩ := zLP_some hr9
  have HE6 : ∀ (r0v32 : Nat → Int32) (r0_6v33 : Nat → Int32) (r0_21v34 : Nat → Int32) (x35 : Int32), r8 = (r0v32, r0_6v33, r0_21v34, x35) → zR Γ 6 YX12_draws 61 [(3, .int x35)] [] (zui (zui (zui M 186 r0v32) 188 r0_6v33) 194 r0_21v34) Q := by
    intro r0v32 r0_6v33 r0_21v34 x35 e9
    have hy := hyo9
    try rw [e9] at hy
    try dsimp only at hy
    refine zj_iload_n (pc' := 62) 0 dX12_draws_61 rfl rfl rfl ?_
    have e9 := Option.some.inj hy
    subst e9
    exact zj_iret dX12_draws_62 rfl hq
  have HL7 : ∀ (n : Nat) (r0v2 : Nat → Int32) (r0_6v3 : Nat → Int32) (r0_21v4 : Nat → Int32) (x5 : Int32), zlp (fun s => fM_draws_L7 r0_20 a1 s.1 s.2.1 s.2.2.1 s.2.2.2) n (r0v2, r0_6v3, r0_21v4, x5) = some r8 → zR Γ 6 YX12_draws 7 [(0, .ref (zad Γ 186)), (1, .int a1), (3, .int x5)] [] (zui (zui (zui M 186 r0v2) 188 r0_6v3) 194 r0_21v4) Q := by
    intro n
    induction n with
    | zero => intro r0v2 r0_6v3 r0_21v4 x5 hn9; cases hn9
    | succ n ih10 =>
      intro r0v2 r0_6v3 r0_21v4 x5 hn9
      obtain ⟨o9, hb9, h11, h12⟩ := zlp_step hn9
      have hy : fM_draws_L7 r0_20 a1 r0v2 r0_6v3 r0_21v4 x5 = some o9 := hb9
      unfold fM_draws_L7 at hy
      refine zj_iload_n (pc' := 8) 2 dX12_draws_7 rfl rfl rfl ?_
      refine zj_iload_n (pc' := 9) 1 dX12_draws_8 rfl rfl rfl ?_
      refine zj_icmp_ge (tgt := 61) (pc' := 12) dX12_draws_9 rfl (by decide) (fun c13 => ?_) (fun c13 => ?_)
      · have hy := zt_t hy c13
        have e9 := h12 _ (Option.some.inj hy).symm
        refine zj_loc [2] rfl ?_
        exact HE6 _ _ _ _ e9.symm
      · have hy := zt_f hy c13
        refine zj_aload_n (pc' := 13) 0 dX12_draws_12 rfl rfl rfl ?_
        refine zj_getR (pc' := 16) (j := 188) dX12_draws_13 rfl flX12_33 sh186 rfl ?_
        refine zj_bipush (pc' := 18) dX12_draws_16 rfl kbipush_89 ?_
        refine zj_rdi (pc' := 19) dX12_draws_18 rfl sh188 (zr_n rfl zr_s) (zrdK zi89_397 tn89) ?_
        refine zj_sipush (pc' := 22) dX12_draws_19 rfl ksipush_400 ?_
        refine zj_icmp_ge (tgt := 61) (pc' := 25) dX12_draws_22 rfl (by decide) (fun c14 => ?_) (fun c14 => ?_)
        · have hy := zt_t hy c14
          have e9 := h12 _ (Option.some.inj hy).symm
          refine zj_loc [2] rfl ?_
          exact HE6 _ _ _ _ e9.symm
        · have hy := zt_f hy c14
          refine zj_iconst (pc' := 26) dX12_draws_25 rfl kiconst_0 ?_
          refine zj_istore (pc' := 28) (L' := [(4, .int 0), (0, .ref (zad Γ 186)), (1, .int a1), (3, .int x5)]) dX12_draws_26 rfl (by decide) rfl ?_
          refine zj_loc [1, 2, 3, 0] rfl ?_
          obtain ⟨r20, hr9, hyo21⟩ := zt_b hy
          obtain ⟨n9, hn9⟩ := zLP_some hr9
          have HE18 : ∀ (r0v28 : Nat → Int32) (r0_6v29 : Nat → Int32), r20 = (r0v28, r0_6v29) → zR Γ 6 YX12_draws 51 [(0, .ref (zad Γ 186)), (1, .int a1), (3, .int x5)] [] (zui (zui (zui M 186 r0v28) 188 r0_6v29) 194 r0_21v4) Q := by
            intro r0v28 r0_6v29 e9
            have hy := hyo21
            try rw [e9] at hy
            try dsimp only at hy
            refine zj_aload_n (pc' := 52) 0 dX12_draws_51 rfl rfl rfl ?_
            obtain ⟨y30, hy30, hy⟩ := zt_b hy
            refine zj_V0 (pc' := 55) (z := YX12_minute) (As := []) (N := (zui (zui (zui M 186 r0v28) 188 y30.1) 194 y30.2)) dX12_draws_52 rfl mlX12_298 lkX12_minute sh186 ⟨_, _, rfl⟩ rfl rfl (Nat.le_of_ble_eq_true rfl) (Nat.le_of_ble_eq_true rfl) (LX12_minute_186 Γ _ r0_6v29 r0_20 r0_21v4 (zr_n rfl zr_s) (zr_n rfl (zr_n rfl (zr_n rfl e_i193))) zr_s hy30) ((zch_i (zm_n rfl zm_s) zm_s)).symm ?_
            obtain ⟨x31, ex31⟩ : ∃ z : Int32, z = (x5 + 1) := ⟨_, rfl⟩
            have hy := zlet_at ex31 hy
            refine zj_iinc (pc' := 58) 2 (L' := [(3, .int x31), (0, .ref (zad Γ 186)), (1, .int a1)]) dX12_draws_55 rfl rfl (by decide) (by rw [ci1, ← ex31]; rfl) ?_
            refine zj_goto (tgt := 7) dX12_draws_58 (by decide) ?_
            have hn9 := h11 _ (Option.some.inj hy).symm
            refine zj_loc [1, 2, 0] rfl ?_
            exact ih10 _ _ _ _ hn9
          have HL19 : ∀ (n : Nat) (r0v15 : Nat → Int32) (r0_6v16 : Nat → Int32) (x17 : Int32), zlp (fun s => fM_draws_L28 s.1 s.2.1 s.2.2) n (r0v15, r0_6v16, x17) = some r20 → zR Γ 6 YX12_draws 28 [(0, .ref (zad Γ 186)), (1, .int a1), (3, .int x5), (4, .int x17)] [] (zui (zui (zui M 186 r0v15) 188 r0_6v16) 194 r0_21v4) Q := by
            intro n
            induction n with
            | zero => intro r0v15 r0_6v16 x17 hn9; cases hn9
            | succ n ih22 =>
              intro r0v15 r0_6v16 x17 hn9
              obtain ⟨o9, hb9, h23, h24⟩ := zlp_step hn9
              have hy : fM_draws_L28 r0v15 r0_6v16 x17 = some o9 := hb9
              unfold fM_draws_L28 at hy
              refine zj_iload (pc' := 30) 3 dX12_draws_28 rfl rfl ?_
              refine zj_aload_n (pc' := 31) 0 dX12_draws_30 rfl rfl rfl ?_
              refine zj_getR (pc' := 34) (j := 188) dX12_draws_31 rfl flX12_33 sh186 rfl ?_
              refine zj_iconst (pc' := 35) dX12_draws_34 rfl kiconst_2 ?_
              refine zj_rdi (pc' := 36) dX12_draws_35 rfl sh188 (zr_n rfl zr_s) (zrdK zi2_397 tn2) ?_
              refine zj_icmp_ge (tgt := 51) (pc' := 39) dX12_draws_36 rfl (by decide) (fun c25 => ?_) (fun c25 => ?_)
              · have hy := zt_t hy c25
                have e9 := h24 _ (Option.some.inj hy).symm
                refine zj_loc [0, 1, 2] rfl ?_
                exact HE18 _ _ e9.symm
              · have hy := zt_f hy c25
                refine zj_aload_n (pc' := 40) 0 dX12_draws_39 rfl rfl rfl ?_
                refine zj_iload (pc' := 42) 3 dX12_draws_40 rfl rfl ?_
                obtain ⟨y26, hy26, hy⟩ := zt_b hy
                refine zj_V0 (pc' := 45) (z := YX12_drawPerson) (As := [.int x17]) (N := (zui (zui (zui M 186 y26.1) 188 y26.2) 194 r0_21v4)) dX12_draws_42 rfl mlX12_410 lkX12_drawPerson sh186 ⟨_, _, rfl⟩ rfl rfl (Nat.le_of_ble_eq_true rfl) (Nat.le_of_ble_eq_true rfl) (LX12_drawPerson_186 Γ _ r0v15 r0_6v16 (zr_n rfl (zr_n rfl zr_s)) (zr_n rfl zr_s) x17 hy26) ((zch_i (zm_n rfl (zm_n rfl zm_s)) (zm_n rfl zm_s))).symm ?_
                obtain ⟨x27, ex27⟩ : ∃ z : Int32, z = (x17 + 1) := ⟨_, rfl⟩
                have hy := zlet_at ex27 hy
                refine zj_iinc (pc' := 48) 3 (L' := [(4, .int x27), (0, .ref (zad Γ 186)), (1, .int a1), (3, .int x5)]) dX12_draws_45 rfl rfl (by decide) (by rw [ci1, ← ex27]; rfl) ?_
                refine zj_goto (tgt := 28) dX12_draws_48 (by decide) ?_
                have hn9 := h23 _ (Option.some.inj hy).symm
                refine zj_loc [1, 2, 3, 0] rfl ?_
                exact ih22 _ _ _ hn9
          exact HL19 n9 _ _ _ hn9
  exact HL7 n9 _ _ _ _ hn9
set_option maxRecDepth 20000 in
theorem LX12_draws_186 (Γ : zG) (M : zM) (r0 : Nat → Int32) (r0_6 : Nat → Int32) (r0_20 : Nat → Int32) (r0_21 : Nat → Int32) (e_i186 : M.1 186 = r0) (e_i188 : M.1 188 = r0_6) (e_i193 : M.1 193 = r0_20) (e_i194 : M.1 194 = r0_21) (a1 : Int32) (a2 : Int32) {res : Int32 × (Nat → Int32) × (Nat → Int32) × (Nat → Int32)} (hy : (fM_draws r0 r0_6 r0_20 r0_21 a1 a2) = some res) : zK Γ 6 YX12_draws [.ref (zad Γ 186), .int a1, .int a2] M (fun v N => v = some (.int res.1) ∧ N = (zui (zui (zui M 186 res.2.1) 188 res.2.2.1) 194 res.2.2.2)) :=
  zK_of (by decide) (Nat.le_of_ble_eq_true rfl) (TX12_draws_186 Γ M r0 r0_6 r0_20 r0_21 e_i186 e_i188 e_i193 e_i194 a1 a2 hy ⟨rfl, rfl⟩)

noncomputable def fM_drawn (r0 : Nat → Int32) (r0_6 : Nat → Int32) (r0_20 : Nat → Int32) (r0_21 : Nat → Int32) (r0_22 : Nat → Int32) (a1 : Int32) (a2 : Int32) : Option (Int32 × (Nat → Int32) × (Nat → Int32) × (Nat → Int32) × (Nat → Int32)) :=
  zlet (zup r0 0 0) (fun (r0v1 : Nat → Int32) =>
  (if (fM_isIn a1 1 60) = true then
  (if 400 ≤ (r0_6 89) then
  (fM_draws r0v1 r0_6 r0_20 r0_21 a1 a2).bind (fun (y4 : Int32 × (Nat → Int32) × (Nat → Int32) × (Nat → Int32)) =>
  some (y4.1, y4.2.1, y4.2.2.1, y4.2.2.2, r0_22))
  else
  (fM_keep r0v1 r0_6 r0_22).bind (fun (y5 : (Nat → Int32) × (Nat → Int32)) =>
  (fM_draws y5.1 r0_6 r0_20 r0_21 a1 a2).bind (fun (y6 : Int32 × (Nat → Int32) × (Nat → Int32) × (Nat → Int32)) =>
  some (y6.1, y6.2.1, y6.2.2.1, y6.2.2.2, y5.2))))
  else
  some ((-1), r0v1, r0_6, r0_21, r0_22)))

set_option maxRecDepth 20000 in
theorem TX12_drawn_186 (Γ : zG) {Q : Option Value → zM → Prop} (M : zM) (r0 : Nat → Int32) (r0_6 : Nat → Int32) (r0_20 : Nat → Int32) (r0_21 : Nat → Int32) (r0_22 : Nat → Int32) (e_i186 : M.1 186 = r0) (e_i188 : M.1 188 = r0_6) (e_i193 : M.1 193 = r0_20) (e_i194 : M.1 194 = r0_21) (e_i195 : M.1 195 = r0_22) (a1 : Int32) (a2 : Int32) {res : Int32 × (Nat → Int32) × (Nat → Int32) × (Nat → Int32) × (Nat → Int32)} (hy : (fM_drawn r0 r0_6 r0_20 r0_21 r0_22 a1 a2) = some res) (hq : Q (some (.int res.1)) (zui (zui (zui (zui M 186 res.2.1) 188 res.2.2.1) 194 res.2.2.2.1) 195 res.2.2.2.2)) : zR Γ 7 YX12_drawn 0 [(0, .ref (zad Γ 186)), (1, .int a1), (2, .int a2)] [] M Q := by
  unfold fM_drawn at hy
  refine zj_aload_n (pc' := 1) 0 dX12_drawn_0 rfl rfl rfl ?_
  refine zj_iconst (pc' := 2) dX12_drawn_1 rfl kiconst_0 ?_
  obtain ⟨r0v1, er0v1⟩ : ∃ z, z = (zup r0 0 0) := ⟨_, rfl⟩
  have hy := zlet_at er0v1 hy
  refine zj_pI (pc' := 5) (N := (zui M 186 r0v1)) dX12_drawn_2 rfl fpX12_1 sh186 rfl e_i186 er0v1 rfl ?_
  refine zj_iload_n (pc' := 6) 1 dX12_drawn_5 rfl rfl rfl ?_
  refine zj_iconst (pc' := 7) dX12_drawn_6 rfl kiconst_1 ?_
  refine zj_bipush (pc' := 9) dX12_drawn_7 rfl kbipush_60 ?_
  refine zj_S1 (pc' := 12) (z := YX12_isIn) (As := [.int a1, .int 1, .int 60]) (N := (zui M 186 r0v1)) dX12_drawn_9 rfl mlX12_188 lkX12_isIn rfl rfl (Nat.le_of_ble_eq_true rfl) (Nat.le_of_ble_eq_true rfl) (LX12_isIn Γ _ a1 1 60 rfl) rfl ?_
  refine zj_bif_ne (tgt := 17) (pc' := 15) dX12_drawn_12 rfl (by decide) (fun c2 => ?_) (fun c2 => ?_)
  · have hy := zt_t hy c2
    refine zj_aload_n (pc' := 18) 0 dX12_drawn_17 rfl rfl rfl ?_
    refine zj_getR (pc' := 21) (j := 188) dX12_drawn_18 rfl flX12_33 sh186 rfl ?_
    refine zj_bipush (pc' := 23) dX12_drawn_21 rfl kbipush_89 ?_
    refine zj_rdi (pc' := 24) dX12_drawn_23 rfl sh188 (zr_n rfl e_i188) (zrdK zi89_397 tn89) ?_
    refine zj_sipush (pc' := 27) dX12_drawn_24 rfl ksipush_400 ?_
    refine zj_icmp_ge (tgt := 34) (pc' := 30) dX12_drawn_27 rfl (by decide) (fun c3 => ?_) (fun c3 => ?_)
    · have hy := zt_t hy c3
      refine zj_aload_n (pc' := 35) 0 dX12_drawn_34 rfl rfl rfl ?_
      refine zj_iload_n (pc' := 36) 1 dX12_drawn_35 rfl rfl rfl ?_
      refine zj_iload_n (pc' := 37) 2 dX12_drawn_36 rfl rfl rfl ?_
      obtain ⟨y4, hy4, hy⟩ := zt_b hy
      refine zj_V1 (pc' := 40) (z := YX12_draws) (As := [.int a1, .int a2]) (N := (zui (zui (zui M 186 y4.2.1) 188 y4.2.2.1) 194 y4.2.2.2)) dX12_drawn_37 rfl mlX12_413 lkX12_draws sh186 ⟨_, _, rfl⟩ rfl rfl (Nat.le_of_ble_eq_true rfl) (Nat.le_of_ble_eq_true rfl) (LX12_draws_186 Γ _ r0v1 r0_6 r0_20 r0_21 zr_s (zr_n rfl e_i188) (zr_n rfl e_i193) (zr_n rfl e_i194) a1 a2 hy4) ((zch_i (zch_i zm_s rfl) rfl)).symm ?_
      have e9 := Option.some.inj hy
      subst e9
      refine zj_mem (N := (zui (zui (zui (zui M 186 y4.2.1) 188 y4.2.2.1) 194 y4.2.2.2) 195 r0_22)) (zself_i (zr_n rfl (zr_n rfl (zr_n rfl e_i195))) rfl) ?_
      exact zj_iret dX12_drawn_40 rfl hq
    · have hy := zt_f hy c3
      refine zj_aload_n (pc' := 31) 0 dX12_drawn_30 rfl rfl rfl ?_
      obtain ⟨y5, hy5, hy⟩ := zt_b hy
      refine zj_V0 (pc' := 34) (z := YX12_keep) (As := []) (N := (zui (zui M 186 y5.1) 195 y5.2)) dX12_drawn_31 rfl mlX12_304 lkX12_keep sh186 ⟨_, _, rfl⟩ rfl rfl (Nat.le_of_ble_eq_true rfl) (Nat.le_of_ble_eq_true rfl) (LX12_keep_186 Γ _ r0v1 r0_6 r0_22 zr_s (zr_n rfl e_i188) (zr_n rfl e_i195) hy5) ((zch_i zm_s rfl)).symm ?_
      refine zj_aload_n (pc' := 35) 0 dX12_drawn_34 rfl rfl rfl ?_
      refine zj_iload_n (pc' := 36) 1 dX12_drawn_35 rfl rfl rfl ?_
      refine zj_iload_n (pc' := 37) 2 dX12_drawn_36 rfl rfl rfl ?_
      obtain ⟨y6, hy6, hy⟩ := zt_b hy
      refine zj_V1 (pc' := 40) (z := YX12_draws) (As := [.int a1, .int a2]) (N := (zui (zui (zui (zui M 186 y6.2.1) 188 y6.2.2.1) 194 y6.2.2.2) 195 y5.2)) dX12_drawn_37 rfl mlX12_413 lkX12_draws sh186 ⟨_, _, rfl⟩ rfl rfl (Nat.le_of_ble_eq_true rfl) (Nat.le_of_ble_eq_true rfl) (LX12_draws_186 Γ _ y5.1 r0_6 r0_20 r0_21 (zr_n rfl zr_s) (zr_n rfl (zr_n rfl e_i188)) (zr_n rfl (zr_n rfl e_i193)) (zr_n rfl (zr_n rfl e_i194)) a1 a2 hy6) ((zch_i (zch_i (zm_n rfl zm_s) (zm_n rfl rfl)) (zm_n rfl rfl))).symm ?_
      have e9 := Option.some.inj hy
      subst e9
      exact zj_iret dX12_drawn_40 rfl hq
  · have hy := zt_f hy c2
    refine zj_iconst (pc' := 16) dX12_drawn_15 rfl kiconst_m1 ?_
    have e9 := Option.some.inj hy
    subst e9
    refine zj_mem (N := (zui (zui M 186 r0v1) 188 r0_6)) (zself_i (zr_n rfl e_i188) rfl) ?_
    refine zj_mem (N := (zui (zui (zui M 186 r0v1) 188 r0_6) 194 r0_21)) (zself_i (zr_n rfl (zr_n rfl e_i194)) rfl) ?_
    refine zj_mem (N := (zui (zui (zui (zui M 186 r0v1) 188 r0_6) 194 r0_21) 195 r0_22)) (zself_i (zr_n rfl (zr_n rfl (zr_n rfl e_i195))) rfl) ?_
    exact zj_iret dX12_drawn_16 rfl hq
set_option maxRecDepth 20000 in
theorem LX12_drawn_186 (Γ : zG) (M : zM) (r0 : Nat → Int32) (r0_6 : Nat → Int32) (r0_20 : Nat → Int32) (r0_21 : Nat → Int32) (r0_22 : Nat → Int32) (e_i186 : M.1 186 = r0) (e_i188 : M.1 188 = r0_6) (e_i193 : M.1 193 = r0_20) (e_i194 : M.1 194 = r0_21) (e_i195 : M.1 195 = r0_22) (a1 : Int32) (a2 : Int32) {res : Int32 × (Nat → Int32) × (Nat → Int32) × (Nat → Int32) × (Nat → Int32)} (hy : (fM_drawn r0 r0_6 r0_20 r0_21 r0_22 a1 a2) = some res) : zK Γ 7 YX12_drawn [.ref (zad Γ 186), .int a1, .int a2] M (fun v N => v = some (.int res.1) ∧ N = (zui (zui (zui (zui M 186 res.2.1) 188 res.2.2.1) 194 res.2.2.2.1) 195 res.2.2.2.2)) :=
  zK_of (by decide) (Nat.le_of_ble_eq_true rfl) (TX12_drawn_186 Γ M r0 r0_6 r0_20 r0_21 r0_22 e_i186 e_i188 e_i193 e_i194 e_i195 a1 a2 hy ⟨rfl, rfl⟩)


set_option maxRecDepth 20000 in
theorem TX1_followersOf_25 (Γ : zG) {Q : Option Value → zM → Prop} (M : zM) (r0_2 : Nat → Int32) (e_i28 : M.1 28 = r0_2) (a1 : Int32) {res : Int32} (hy : (fDy_followersOf r0_2 a1) = some res) (hq : Q (some (.int res)) M) : zR Γ 1 YX1_followersOf 0 [(0, .ref (zad Γ 25)), (1, .int a1)] [] M Q := by
  unfold fDy_followersOf at hy
  refine zj_iconst (pc' := 1) dX1_followersOf_0 rfl kiconst_0 ?_
  refine zj_istore_n (pc' := 2) (L' := [(2, .int 0), (0, .ref (zad Γ 25)), (1, .int a1)]) dX1_followersOf_1 rfl rfl (by decide) rfl ?_
  refine zj_iconst (pc' := 3) dX1_followersOf_2 rfl kiconst_0 ?_
  refine zj_istore_n (pc' := 4) (L' := [(3, .int 0), (2, .int 0), (0, .ref (zad Γ 25)), (1, .int a1)]) dX1_followersOf_3 rfl rfl (by decide) rfl ?_
  refine zj_loc [2, 3, 1, 0] rfl ?_
  obtain ⟨r5, hr9, hyo6⟩ := zt_b hy
  obtain ⟨n9, hn9⟩ := zLP_some hr9
  have HE3 : ∀ (x16 : Int32), r5 = x16 → zR Γ 1 YX1_followersOf 32 [(2, .int x16)] [] M Q := by
    intro x16 e9
    have hy := hyo6
    try rw [e9] at hy
    try dsimp only at hy
    refine zj_iload_n (pc' := 33) 0 dX1_followersOf_32 rfl rfl rfl ?_
    have e9 := Option.some.inj hy
    subst e9
    exact zj_iret dX1_followersOf_33 rfl hq
  have HL4 : ∀ (n : Nat) (x1 : Int32) (x2 : Int32), zlp (fun s => fDy_followersOf_L4 r0_2 a1 s.1 s.2) n (x1, x2) = some r5 → zR Γ 1 YX1_followersOf 4 [(0, .ref (zad Γ 25)), (1, .int a1), (2, .int x1), (3, .int x2)] [] M Q := by
    intro n
    induction n with
    | zero => intro x1 x2 hn9; cases hn9
    | succ n ih7 =>
      intro x1 x2 hn9
      obtain ⟨o9, hb9, h8, h9⟩ := zlp_step hn9
      have hy : fDy_followersOf_L4 r0_2 a1 x1 x2 = some o9 := hb9
      unfold fDy_followersOf_L4 at hy
      refine zj_iload_n (pc' := 5) 3 dX1_followersOf_4 rfl rfl rfl ?_
      refine zj_bipush (pc' := 7) dX1_followersOf_5 rfl kbipush_6 ?_
      refine zj_icmp_ge (tgt := 32) (pc' := 10) dX1_followersOf_7 rfl (by decide) (fun c10 => ?_) (fun c10 => ?_)
      · have hy := zt_t hy c10
        have e9 := h9 _ (Option.some.inj hy).symm
        refine zj_loc [2] rfl ?_
        exact HE3 _ e9.symm
      · have hy := zt_f hy c10
        refine zj_aload_n (pc' := 11) 0 dX1_followersOf_10 rfl rfl rfl ?_
        refine zj_getR (pc' := 14) (j := 28) dX1_followersOf_11 rfl flX1_18 sh25 rfl ?_
        refine zj_iload_n (pc' := 15) 3 dX1_followersOf_14 rfl rfl rfl ?_
        obtain ⟨v11, hv11, hy⟩ := zt_b hy
        refine zj_rdi (pc' := 16) dX1_followersOf_15 rfl sh28 e_i28 hv11 ?_
        refine zj_iload_n (pc' := 17) 1 dX1_followersOf_16 rfl rfl rfl ?_
        refine zj_icmp_ne (tgt := 26) (pc' := 20) dX1_followersOf_17 rfl (by decide) (fun c12 => ?_) (fun c12 => ?_)
        · have hy := zt_f hy c12
          obtain ⟨x15, ex15⟩ : ∃ z : Int32, z = (x2 + 1) := ⟨_, rfl⟩
          have hy := zlet_at ex15 hy
          refine zj_iinc (pc' := 29) 3 (L' := [(3, .int x15), (0, .ref (zad Γ 25)), (1, .int a1), (2, .int x1)]) dX1_followersOf_26 rfl rfl (by decide) (by rw [ci1, ← ex15]; rfl) ?_
          refine zj_goto (tgt := 4) dX1_followersOf_29 (by decide) ?_
          have hn9 := h8 _ (Option.some.inj hy).symm
          refine zj_loc [1, 2, 3, 0] rfl ?_
          exact ih7 _ _ hn9
        · have hy := zt_t hy c12
          refine zj_iload_n (pc' := 21) 2 dX1_followersOf_20 rfl rfl rfl ?_
          refine zj_iconst (pc' := 22) dX1_followersOf_21 rfl kiconst_1 ?_
          refine zj_iload_n (pc' := 23) 3 dX1_followersOf_22 rfl rfl rfl ?_
          refine zj_ishl (pc' := 24) dX1_followersOf_23 rfl ?_
          refine zj_ior (pc' := 25) dX1_followersOf_24 rfl ?_
          refine zj_topi (fun x13 ex13 => ?_)
          have hy := zlet_at ex13 hy
          refine zj_istore_n (pc' := 26) (L' := [(2, .int x13), (0, .ref (zad Γ 25)), (1, .int a1), (3, .int x2)]) dX1_followersOf_25 rfl rfl (by decide) rfl ?_
          obtain ⟨x14, ex14⟩ : ∃ z : Int32, z = (x2 + 1) := ⟨_, rfl⟩
          have hy := zlet_at ex14 hy
          refine zj_iinc (pc' := 29) 3 (L' := [(3, .int x14), (2, .int x13), (0, .ref (zad Γ 25)), (1, .int a1)]) dX1_followersOf_26 rfl rfl (by decide) (by rw [ci1, ← ex14]; rfl) ?_
          refine zj_goto (tgt := 4) dX1_followersOf_29 (by decide) ?_
          have hn9 := h8 _ (Option.some.inj hy).symm
          refine zj_loc [2, 3, 1, 0] rfl ?_
          exact ih7 _ _ hn9
  exact HL4 n9 _ _ hn9
set_option maxRecDepth 20000 in
theorem LX1_followersOf_25 (Γ : zG) (M : zM) (r0_2 : Nat → Int32) (e_i28 : M.1 28 = r0_2) (a1 : Int32) {res : Int32} (hy : (fDy_followersOf r0_2 a1) = some res) : zK Γ 1 YX1_followersOf [.ref (zad Γ 25), .int a1] M (fun v N => v = some (.int res) ∧ N = M) :=
  zK_of (by decide) (Nat.le_of_ble_eq_true rfl) (TX1_followersOf_25 Γ M r0_2 e_i28 a1 hy ⟨rfl, rfl⟩)

noncomputable def fX_odds_L30 (r0_2 : Nat → Int32) (r0_2_2 : Nat → Int32) (r0_2_3 : Nat → Int32) (r0_4 : Nat → Int32) (r0_4_0 : Nat → Int32) (r0_4_1 : Nat → Int32) (r0_4_2 : Nat → Int32) (r0_4_3 : Nat → Int32) (r0_4_4 : Nat → Int32) (r0_4_5 : Nat → Int32) (r0_4_6 : Nat → Int32) (r0_4_7 : Nat → Int32) (a1 : Int32) (a2 : Int32) (a3 : Int32) (r0_5v4 : Nat → Int32) (r0_5_0v5 : Nat → Int32) (r0_5_1v6 : Nat → Int32) (r0_5_2v7 : Nat → Int32) (r0_5_3v8 : Nat → Int32) (r0_5_4v9 : Nat → Int32) (r0_5_5v10 : Nat → Int32) (r0_5_6v11 : Nat → Int32) (r0_5_7v12 : Nat → Int32) (r0_5_8v13 : Nat → Int32) (r0_12v14 : Nat → Int32) (x15 : Int32) (x16 : Int32) : Option (((Nat → Int32) × (Nat → Int32) × (Nat → Int32) × (Nat → Int32) × (Nat → Int32) × (Nat → Int32) × (Nat → Int32) × (Nat → Int32) × (Nat → Int32) × (Nat → Int32) × (Nat → Int32) × Int32 × Int32) ⊕ ((Nat → Int32) × (Nat → Int32) × (Nat → Int32) × (Nat → Int32) × (Nat → Int32) × (Nat → Int32) × (Nat → Int32) × (Nat → Int32) × (Nat → Int32) × (Nat → Int32) × (Nat → Int32) × Int32)) :=
  (if a2 ≤ x16 then
  some (.inr (r0_5v4, r0_5_0v5, r0_5_1v6, r0_5_2v7, r0_5_3v8, r0_5_4v9, r0_5_5v10, r0_5_6v11, r0_5_7v12, r0_5_8v13, r0_12v14, x15))
  else
  (fDy_copyFrom r0_5v4 r0_5_0v5 r0_5_1v6 r0_5_2v7 r0_5_3v8 r0_5_4v9 r0_5_5v10 r0_5_6v11 r0_5_7v12 r0_4 r0_4_0 r0_4_1 r0_4_2 r0_4_3 r0_4_4 r0_4_5 r0_4_6 r0_4_7).bind (fun (y25 : (Nat → Int32) × (Nat → Int32) × (Nat → Int32) × (Nat → Int32) × (Nat → Int32) × (Nat → Int32) × (Nat → Int32) × (Nat → Int32) × (Nat → Int32)) =>
  (fDr_passMinutes r0_12v14 r0_2 r0_2_2 r0_2_3 y25.1 y25.2.1 y25.2.2.1 y25.2.2.2.1 y25.2.2.2.2.1 y25.2.2.2.2.2.1 y25.2.2.2.2.2.2.1 y25.2.2.2.2.2.2.2.1 y25.2.2.2.2.2.2.2.2 r0_5_8v13 10 (a3 + x16)).bind (fun (y26 : Int32 × (Nat → Int32) × (Nat → Int32) × (Nat → Int32) × (Nat → Int32) × (Nat → Int32) × (Nat → Int32) × (Nat → Int32) × (Nat → Int32) × (Nat → Int32) × (Nat → Int32) × (Nat → Int32)) =>
  (fDy_followersOf y26.2.2.2.2.2.1 a1).bind (fun (y27 : Int32) =>
  (if y27 = 0 then
  zlet (x16 + 1) (fun (x29 : Int32) =>
  some (.inl (y26.2.2.1, y26.2.2.2.1, y26.2.2.2.2.1, y26.2.2.2.2.2.1, y26.2.2.2.2.2.2.1, y26.2.2.2.2.2.2.2.1, y26.2.2.2.2.2.2.2.2.1, y26.2.2.2.2.2.2.2.2.2.1, y26.2.2.2.2.2.2.2.2.2.2.1, y26.2.2.2.2.2.2.2.2.2.2.2, y26.2.1, x15, x29)))
  else
  zlet (x15 + 1) (fun (x30 : Int32) =>
  zlet (x16 + 1) (fun (x31 : Int32) =>
  some (.inl (y26.2.2.1, y26.2.2.2.1, y26.2.2.2.2.1, y26.2.2.2.2.2.1, y26.2.2.2.2.2.2.1, y26.2.2.2.2.2.2.2.1, y26.2.2.2.2.2.2.2.2.1, y26.2.2.2.2.2.2.2.2.2.1, y26.2.2.2.2.2.2.2.2.2.2.1, y26.2.2.2.2.2.2.2.2.2.2.2, y26.2.1, x30, x31)))))))))
noncomputable def fX_odds (r0_2 : Nat → Int32) (r0_2_2 : Nat → Int32) (r0_2_3 : Nat → Int32) (r0_4 : Nat → Int32) (r0_4_0 : Nat → Int32) (r0_4_1 : Nat → Int32) (r0_4_2 : Nat → Int32) (r0_4_3 : Nat → Int32) (r0_4_4 : Nat → Int32) (r0_4_5 : Nat → Int32) (r0_4_6 : Nat → Int32) (r0_4_7 : Nat → Int32) (r0_5 : Nat → Int32) (r0_5_0 : Nat → Int32) (r0_5_1 : Nat → Int32) (r0_5_2 : Nat → Int32) (r0_5_3 : Nat → Int32) (r0_5_4 : Nat → Int32) (r0_5_5 : Nat → Int32) (r0_5_6 : Nat → Int32) (r0_5_7 : Nat → Int32) (r0_5_8 : Nat → Int32) (r0_12 : Nat → Int32) (a1 : Int32) (a2 : Int32) (a3 : Int32) : Option (Int32 × (Nat → Int32) × (Nat → Int32) × (Nat → Int32) × (Nat → Int32) × (Nat → Int32) × (Nat → Int32) × (Nat → Int32) × (Nat → Int32) × (Nat → Int32) × (Nat → Int32) × (Nat → Int32)) :=
  (if (fPl_hasPerson r0_2 a1) = true then
  (if a2 < 1 then
  some ((-1), r0_5, r0_5_0, r0_5_1, r0_5_2, r0_5_3, r0_5_4, r0_5_5, r0_5_6, r0_5_7, r0_5_8, r0_12)
  else
  (if a2 ≤ 30 then
  (zLP (fun s => fX_odds_L30 r0_2 r0_2_2 r0_2_3 r0_4 r0_4_0 r0_4_1 r0_4_2 r0_4_3 r0_4_4 r0_4_5 r0_4_6 r0_4_7 a1 a2 a3 s.1 s.2.1 s.2.2.1 s.2.2.2.1 s.2.2.2.2.1 s.2.2.2.2.2.1 s.2.2.2.2.2.2.1 s.2.2.2.2.2.2.2.1 s.2.2.2.2.2.2.2.2.1 s.2.2.2.2.2.2.2.2.2.1 s.2.2.2.2.2.2.2.2.2.2.1 s.2.2.2.2.2.2.2.2.2.2.2.1 s.2.2.2.2.2.2.2.2.2.2.2.2) (r0_5, r0_5_0, r0_5_1, r0_5_2, r0_5_3, r0_5_4, r0_5_5, r0_5_6, r0_5_7, r0_5_8, r0_12, 0, 0)).bind (fun r19 =>
  some (r19.2.2.2.2.2.2.2.2.2.2.2, r19.1, r19.2.1, r19.2.2.1, r19.2.2.2.1, r19.2.2.2.2.1, r19.2.2.2.2.2.1, r19.2.2.2.2.2.2.1, r19.2.2.2.2.2.2.2.1, r19.2.2.2.2.2.2.2.2.1, r19.2.2.2.2.2.2.2.2.2.1, r19.2.2.2.2.2.2.2.2.2.2.1))
  else
  some ((-1), r0_5, r0_5_0, r0_5_1, r0_5_2, r0_5_3, r0_5_4, r0_5_5, r0_5_6, r0_5_7, r0_5_8, r0_12)))
  else
  some ((-1), r0_5, r0_5_0, r0_5_1, r0_5_2, r0_5_3, r0_5_4, r0_5_5, r0_5_6, r0_5_7, r0_5_8, r0_12))

set_option maxRecDepth 20000 in
theorem TX11_odds_0 (Γ : zG) {Q : Option Value → zM → Prop} (M : zM) (r0_2 : Nat → Int32) (r0_2_2 : Nat → Int32) (r0_2_3 : Nat → Int32) (r0_4 : Nat → Int32) (r0_4_0 : Nat → Int32) (r0_4_1 : Nat → Int32) (r0_4_2 : Nat → Int32) (r0_4_3 : Nat → Int32) (r0_4_4 : Nat → Int32) (r0_4_5 : Nat → Int32) (r0_4_6 : Nat → Int32) (r0_4_7 : Nat → Int32) (r0_5 : Nat → Int32) (r0_5_0 : Nat → Int32) (r0_5_1 : Nat → Int32) (r0_5_2 : Nat → Int32) (r0_5_3 : Nat → Int32) (r0_5_4 : Nat → Int32) (r0_5_5 : Nat → Int32) (r0_5_6 : Nat → Int32) (r0_5_7 : Nat → Int32) (r0_5_8 : Nat → Int32) (r0_12 : Nat → Int32) (e_i5 : M.1 5 = r0_2) (e_i8 : M.1 8 = r0_2_2) (e_i9 : M.1 9 = r0_2_3) (e_i15 : M.1 15 = r0_4) (e_i16 : M.1 16 = r0_4_0) (e_i17 : M.1 17 = r0_4_1) (e_i18 : M.1 18 = r0_4_2) (e_i19 : M.1 19 = r0_4_3) (e_i20 : M.1 20 = r0_4_4) (e_i21 : M.1 21 = r0_4_5) (e_i22 : M.1 22 = r0_4_6) (e_i23 : M.1 23 = r0_4_7) (e_i25 : M.1 25 = r0_5) (e_i26 : M.1 26 = r0_5_0) (e_i27 : M.1 27 = r0_5_1) (e_i28 : M.1 28 = r0_5_2) (e_i29 : M.1 29 = r0_5_3) (e_i30 : M.1 30 = r0_5_4) (e_i31 : M.1 31 = r0_5_5) (e_i32 : M.1 32 = r0_5_6) (e_i33 : M.1 33 = r0_5_7) (e_i34 : M.1 34 = r0_5_8) (e_i182 : M.1 182 = r0_12) (a1 : Int32) (a2 : Int32) (a3 : Int32) {res : Int32 × (Nat → Int32) × (Nat → Int32) × (Nat → Int32) × (Nat → Int32) × (Nat → Int32) × (Nat → Int32) × (Nat → Int32) × (Nat → Int32) × (Nat → Int32) × (Nat → Int32) × (Nat → Int32)} (hy : (fX_odds r0_2 r0_2_2 r0_2_3 r0_4 r0_4_0 r0_4_1 r0_4_2 r0_4_3 r0_4_4 r0_4_5 r0_4_6 r0_4_7 r0_5 r0_5_0 r0_5_1 r0_5_2 r0_5_3 r0_5_4 r0_5_5 r0_5_6 r0_5_7 r0_5_8 r0_12 a1 a2 a3) = some res) (hq : Q (some (.int res.1)) (zui (zui (zui (zui (zui (zui (zui (zui (zui (zui (zui M 25 res.2.1) 26 res.2.2.1) 27 res.2.2.2.1) 28 res.2.2.2.2.1) 29 res.2.2.2.2.2.1) 30 res.2.2.2.2.2.2.1) 31 res.2.2.2.2.2.2.2.1) 32 res.2.2.2.2.2.2.2.2.1) 33 res.2.2.2.2.2.2.2.2.2.1) 34 res.2.2.2.2.2.2.2.2.2.2.1) 182 res.2.2.2.2.2.2.2.2.2.2.2)) : zR Γ 7 YX11_odds 0 [(0, .ref (zad Γ 0)), (1, .int a1), (2, .int a2), (3, .int a3)] [] M Q := by
  unfold fX_odds at hy
  refine zj_aload_n (pc' := 1) 0 dX11_odds_0 rfl rfl rfl ?_
  refine zj_getR (pc' := 4) (j := 5) dX11_odds_1 rfl flX11_28 sh0 rfl ?_
  refine zj_iload_n (pc' := 5) 1 dX11_odds_4 rfl rfl rfl ?_
  refine zj_V1 (pc' := 8) (z := YX7_hasPerson) (As := [.int a1]) (N := M) dX11_odds_5 rfl mlX11_156 lkX7_hasPerson sh5 ⟨_, _, rfl⟩ rfl rfl (Nat.le_of_ble_eq_true rfl) (Nat.le_of_ble_eq_true rfl) (LX7_hasPerson_5 Γ _ r0_2 e_i5 a1 rfl) rfl ?_
  refine zj_bif_eq (tgt := 22) (pc' := 11) dX11_odds_8 rfl (by decide) (fun c1 => ?_) (fun c1 => ?_)
  · have hy := zt_f hy c1
    refine zj_iconst (pc' := 23) dX11_odds_22 rfl kiconst_m1 ?_
    have e9 := Option.some.inj hy
    subst e9
    refine zj_mem (N := (zui M 25 r0_5)) (zself_i e_i25 rfl) ?_
    refine zj_mem (N := (zui (zui M 25 r0_5) 26 r0_5_0)) (zself_i (zr_n rfl e_i26) rfl) ?_
    refine zj_mem (N := (zui (zui (zui M 25 r0_5) 26 r0_5_0) 27 r0_5_1)) (zself_i (zr_n rfl (zr_n rfl e_i27)) rfl) ?_
    refine zj_mem (N := (zui (zui (zui (zui M 25 r0_5) 26 r0_5_0) 27 r0_5_1) 28 r0_5_2)) (zself_i (zr_n rfl (zr_n rfl (zr_n rfl e_i28))) rfl) ?_
    refine zj_mem (N := (zui (zui (zui (zui (zui M 25 r0_5) 26 r0_5_0) 27 r0_5_1) 28 r0_5_2) 29 r0_5_3)) (zself_i (zr_n rfl (zr_n rfl (zr_n rfl (zr_n rfl e_i29)))) rfl) ?_
    refine zj_mem (N := (zui (zui (zui (zui (zui (zui M 25 r0_5) 26 r0_5_0) 27 r0_5_1) 28 r0_5_2) 29 r0_5_3) 30 r0_5_4)) (zself_i (zr_n rfl (zr_n rfl (zr_n rfl (zr_n rfl (zr_n rfl e_i30))))) rfl) ?_
    refine zj_mem (N := (zui (zui (zui (zui (zui (zui (zui M 25 r0_5) 26 r0_5_0) 27 r0_5_1) 28 r0_5_2) 29 r0_5_3) 30 r0_5_4) 31 r0_5_5)) (zself_i (zr_n rfl (zr_n rfl (zr_n rfl (zr_n rfl (zr_n rfl (zr_n rfl e_i31)))))) rfl) ?_
    refine zj_mem (N := (zui (zui (zui (zui (zui (zui (zui (zui M 25 r0_5) 26 r0_5_0) 27 r0_5_1) 28 r0_5_2) 29 r0_5_3) 30 r0_5_4) 31 r0_5_5) 32 r0_5_6)) (zself_i (zr_n rfl (zr_n rfl (zr_n rfl (zr_n rfl (zr_n rfl (zr_n rfl (zr_n rfl e_i32))))))) rfl) ?_
    refine zj_mem (N := (zui (zui (zui (zui (zui (zui (zui (zui (zui M 25 r0_5) 26 r0_5_0) 27 r0_5_1) 28 r0_5_2) 29 r0_5_3) 30 r0_5_4) 31 r0_5_5) 32 r0_5_6) 33 r0_5_7)) (zself_i (zr_n rfl (zr_n rfl (zr_n rfl (zr_n rfl (zr_n rfl (zr_n rfl (zr_n rfl (zr_n rfl e_i33)))))))) rfl) ?_
    refine zj_mem (N := (zui (zui (zui (zui (zui (zui (zui (zui (zui (zui M 25 r0_5) 26 r0_5_0) 27 r0_5_1) 28 r0_5_2) 29 r0_5_3) 30 r0_5_4) 31 r0_5_5) 32 r0_5_6) 33 r0_5_7) 34 r0_5_8)) (zself_i (zr_n rfl (zr_n rfl (zr_n rfl (zr_n rfl (zr_n rfl (zr_n rfl (zr_n rfl (zr_n rfl (zr_n rfl e_i34))))))))) rfl) ?_
    refine zj_mem (N := (zui (zui (zui (zui (zui (zui (zui (zui (zui (zui (zui M 25 r0_5) 26 r0_5_0) 27 r0_5_1) 28 r0_5_2) 29 r0_5_3) 30 r0_5_4) 31 r0_5_5) 32 r0_5_6) 33 r0_5_7) 34 r0_5_8) 182 r0_12)) (zself_i (zr_n rfl (zr_n rfl (zr_n rfl (zr_n rfl (zr_n rfl (zr_n rfl (zr_n rfl (zr_n rfl (zr_n rfl (zr_n rfl e_i182)))))))))) rfl) ?_
    exact zj_iret dX11_odds_23 rfl hq
  · have hy := zt_t hy c1
    refine zj_iload_n (pc' := 12) 2 dX11_odds_11 rfl rfl rfl ?_
    refine zj_iconst (pc' := 13) dX11_odds_12 rfl kiconst_1 ?_
    refine zj_icmp_lt (tgt := 22) (pc' := 16) dX11_odds_13 rfl (by decide) (fun c2 => ?_) (fun c2 => ?_)
    · have hy := zt_t hy c2
      refine zj_iconst (pc' := 23) dX11_odds_22 rfl kiconst_m1 ?_
      have e9 := Option.some.inj hy
      subst e9
      refine zj_mem (N := (zui M 25 r0_5)) (zself_i e_i25 rfl) ?_
      refine zj_mem (N := (zui (zui M 25 r0_5) 26 r0_5_0)) (zself_i (zr_n rfl e_i26) rfl) ?_
      refine zj_mem (N := (zui (zui (zui M 25 r0_5) 26 r0_5_0) 27 r0_5_1)) (zself_i (zr_n rfl (zr_n rfl e_i27)) rfl) ?_
      refine zj_mem (N := (zui (zui (zui (zui M 25 r0_5) 26 r0_5_0) 27 r0_5_1) 28 r0_5_2)) (zself_i (zr_n rfl (zr_n rfl (zr_n rfl e_i28))) rfl) ?_
      refine zj_mem (N := (zui (zui (zui (zui (zui M 25 r0_5) 26 r0_5_0) 27 r0_5_1) 28 r0_5_2) 29 r0_5_3)) (zself_i (zr_n rfl (zr_n rfl (zr_n rfl (zr_n rfl e_i29)))) rfl) ?_
      refine zj_mem (N := (zui (zui (zui (zui (zui (zui M 25 r0_5) 26 r0_5_0) 27 r0_5_1) 28 r0_5_2) 29 r0_5_3) 30 r0_5_4)) (zself_i (zr_n rfl (zr_n rfl (zr_n rfl (zr_n rfl (zr_n rfl e_i30))))) rfl) ?_
      refine zj_mem (N := (zui (zui (zui (zui (zui (zui (zui M 25 r0_5) 26 r0_5_0) 27 r0_5_1) 28 r0_5_2) 29 r0_5_3) 30 r0_5_4) 31 r0_5_5)) (zself_i (zr_n rfl (zr_n rfl (zr_n rfl (zr_n rfl (zr_n rfl (zr_n rfl e_i31)))))) rfl) ?_
      refine zj_mem (N := (zui (zui (zui (zui (zui (zui (zui (zui M 25 r0_5) 26 r0_5_0) 27 r0_5_1) 28 r0_5_2) 29 r0_5_3) 30 r0_5_4) 31 r0_5_5) 32 r0_5_6)) (zself_i (zr_n rfl (zr_n rfl (zr_n rfl (zr_n rfl (zr_n rfl (zr_n rfl (zr_n rfl e_i32))))))) rfl) ?_
      refine zj_mem (N := (zui (zui (zui (zui (zui (zui (zui (zui (zui M 25 r0_5) 26 r0_5_0) 27 r0_5_1) 28 r0_5_2) 29 r0_5_3) 30 r0_5_4) 31 r0_5_5) 32 r0_5_6) 33 r0_5_7)) (zself_i (zr_n rfl (zr_n rfl (zr_n rfl (zr_n rfl (zr_n rfl (zr_n rfl (zr_n rfl (zr_n rfl e_i33)))))))) rfl) ?_
      refine zj_mem (N := (zui (zui (zui (zui (zui (zui (zui (zui (zui (zui M 25 r0_5) 26 r0_5_0) 27 r0_5_1) 28 r0_5_2) 29 r0_5_3) 30 r0_5_4) 31 r0_5_5) 32 r0_5_6) 33 r0_5_7) 34 r0_5_8)) (zself_i (zr_n rfl (zr_n rfl (zr_n rfl (zr_n rfl (zr_n rfl (zr_n rfl (zr_n rfl (zr_n rfl (zr_n rfl e_i34))))))))) rfl) ?_
      refine zj_mem (N := (zui (zui (zui (zui (zui (zui (zui (zui (zui (zui (zui M 25 r0_5) 26 r0_5_0) 27 r0_5_1) 28 r0_5_2) 29 r0_5_3) 30 r0_5_4) 31 r0_5_5) 32 r0_5_6) 33 r0_5_7) 34 r0_5_8) 182 r0_12)) (zself_i (zr_n rfl (zr_n rfl (zr_n rfl (zr_n rfl (zr_n rfl (zr_n rfl (zr_n rfl (zr_n rfl (zr_n rfl (zr_n rfl e_i182)))))))))) rfl) ?_
      exact zj_iret dX11_odds_23 rfl hq
    · have hy := zt_f hy c2
      refine zj_iload_n (pc' := 17) 2 dX11_odds_16 rfl rfl rfl ?_
      refine zj_bipush (pc' := 19) dX11_odds_17 rfl kbipush_30 ?_
      refine zj_icmp_le (tgt := 24) (pc' := 22) dX11_odds_19 rfl (by decide) (fun c3 => ?_) (fun c3 => ?_)
      · have hy := zt_t hy c3
        refine zj_iconst (pc' := 25) dX11_odds_24 rfl kiconst_0 ?_
        refine zj_istore (pc' := 27) (L' := [(4, .int 0), (0, .ref (zad Γ 0)), (1, .int a1), (2, .int a2), (3, .int a3)]) dX11_odds_25 rfl (by decide) rfl ?_
        refine zj_iconst (pc' := 28) dX11_odds_27 rfl kiconst_0 ?_
        refine zj_istore (pc' := 30) (L' := [(5, .int 0), (4, .int 0), (0, .ref (zad Γ 0)), (1, .int a1), (2, .int a2), (3, .int a3)]) dX11_odds_28 rfl (by decide) rfl ?_
        refine zj_loc [2, 3, 4, 5, 1, 0] rfl ?_
        refine zj_mem (N := (zui M 25 r0_5)) (zself_i e_i25 rfl) ?_
        refine zj_mem (N := (zui (zui M 25 r0_5) 26 r0_5_0)) (zself_i (zr_n rfl e_i26) rfl) ?_
        refine zj_mem (N := (zui (zui (zui M 25 r0_5) 26 r0_5_0) 27 r0_5_1)) (zself_i (zr_n rfl (zr_n rfl e_i27)) rfl) ?_
        refine zj_mem (N := (zui (zui (zui (zui M 25 r0_5) 26 r0_5_0) 27 r0_5_1) 28 r0_5_2)) (zself_i (zr_n rfl (zr_n rfl (zr_n rfl e_i28))) rfl) ?_
        refine zj_mem (N := (zui (zui (zui (zui (zui M 25 r0_5) 26 r0_5_0) 27 r0_5_1) 28 r0_5_2) 29 r0_5_3)) (zself_i (zr_n rfl (zr_n rfl (zr_n rfl (zr_n rfl e_i29)))) rfl) ?_
        refine zj_mem (N := (zui (zui (zui (zui (zui (zui M 25 r0_5) 26 r0_5_0) 27 r0_5_1) 28 r0_5_2) 29 r0_5_3) 30 r0_5_4)) (zself_i (zr_n rfl (zr_n rfl (zr_n rfl (zr_n rfl (zr_n rfl e_i30))))) rfl) ?_
        refine zj_mem (N := (zui (zui (zui (zui (zui (zui (zui M 25 r0_5) 26 r0_5_0) 27 r0_5_1) 28 r0_5_2) 29 r0_5_3) 30 r0_5_4) 31 r0_5_5)) (zself_i (zr_n rfl (zr_n rfl (zr_n rfl (zr_n rfl (zr_n rfl (zr_n rfl e_i31)))))) rfl) ?_
        refine zj_mem (N := (zui (zui (zui (zui (zui (zui (zui (zui M 25 r0_5) 26 r0_5_0) 27 r0_5_1) 28 r0_5_2) 29 r0_5_3) 30 r0_5_4) 31 r0_5_5) 32 r0_5_6)) (zself_i (zr_n rfl (zr_n rfl (zr_n rfl (zr_n rfl (zr_n rfl (zr_n rfl (zr_n rfl e_i32))))))) rfl) ?_
        refine zj_mem (N := (zui (zui (zui (zui (zui (zui (zui (zui (zui M 25 r0_5) 26 r0_5_0) 27 r0_5_1) 28 r0_5_2) 29 r0_5_3) 30 r0_5_4) 31 r0_5_5) 32 r0_5_6) 33 r0_5_7)) (zself_i (zr_n rfl (zr_n rfl (zr_n rfl (zr_n rfl (zr_n rfl (zr_n rfl (zr_n rfl (zr_n rfl e_i33)))))))) rfl) ?_
        refine zj_mem (N := (zui (zui (zui (zui (zui (zui (zui (zui (zui (zui M 25 r0_5) 26 r0_5_0) 27 r0_5_1) 28 r0_5_2) 29 r0_5_3) 30 r0_5_4) 31 r0_5_5) 32 r0_5_6) 33 r0_5_7) 34 r0_5_8)) (zself_i (zr_n rfl (zr_n rfl (zr_n rfl (zr_n rfl (zr_n rfl (zr_n rfl (zr_n rfl (zr_n rfl (zr_n rfl e_i34))))))))) rfl) ?_
        refine zj_mem (N := (zui (zui (zui (zui (zui (zui (zui (zui (zui (zui (zui M 25 r0_5) 26 r0_5_0) 27 r0_5_1) 28 r0_5_2) 29 r0_5_3) 30 r0_5_4) 31 r0_5_5) 32 r0_5_6) 33 r0_5_7) 34 r0_5_8) 182 r0_12)) (zself_i (zr_n rfl (zr_n rfl (zr_n rfl (zr_n rfl (zr_n rfl (zr_n rfl (zr_n rfl (zr_n rfl (zr_n rfl (zr_n rfl e_i182)))))))))) rfl) ?_
        obtain ⟨r19, hr9, hyo20⟩ := zt_b hy
        obtain ⟨n9, hn9⟩ := zLP_some hr9
        have HE17 : ∀ (r0_5v32 : Nat → Int32) (r0_5_0v33 : Nat → Int32) (r0_5_1v34 : Nat → Int32) (r0_5_2v35 : Nat → Int32) (r0_5_3v36 : Nat → Int32) (r0_5_4v37 : Nat → Int32) (r0_5_5v38 : Nat → Int32) (r0_5_6v39 : Nat → Int32) (r0_5_7v40 : Nat → Int32) (r0_5_8v41 : Nat → Int32) (r0_12v42 : Nat → Int32) (x43 : Int32), r19 = (r0_5v32, r0_5_0v33, r0_5_1v34, r0_5_2v35, r0_5_3v36, r0_5_4v37, r0_5_5v38, r0_5_6v39, r0_5_7v40, r0_5_8v41, r0_12v42, x43) → zR Γ 7 YX11_odds 89 [(4, .int x43)] [] (zui (zui (zui (zui (zui (zui (zui (zui (zui (zui (zui M 25 r0_5v32) 26 r0_5_0v33) 27 r0_5_1v34) 28 r0_5_2v35) 29 r0_5_3v36) 30 r0_5_4v37) 31 r0_5_5v38) 32 r0_5_6v39) 33 r0_5_7v40) 34 r0_5_8v41) 182 r0_12v42) Q := by
          intro r0_5v32 r0_5_0v33 r0_5_1v34 r0_5_2v35 r0_5_3v36 r0_5_4v37 r0_5_5v38 r0_5_6v39 r0_5_7v40 r0_5_8v41 r0_12v42 x43 e9
          have hy := hyo20
          try rw [e9] at hy
          try dsimp only at hy
          refine zj_iload (pc' := 91) 0 dX11_odds_89 rfl rfl ?_
          have e9 := Option.some.inj hy
          subst e9
          exact zj_iret dX11_odds_91 rfl hq
        have HL18 : ∀ (n : Nat) (r0_5v4 : Nat → Int32) (r0_5_0v5 : Nat → Int32) (r0_5_1v6 : Nat → Int32) (r0_5_2v7 : Nat → Int32) (r0_5_3v8 : Nat → Int32) (r0_5_4v9 : Nat → Int32) (r0_5_5v10 : Nat → Int32) (r0_5_6v11 : Nat → Int32) (r0_5_7v12 : Nat → Int32) (r0_5_8v13 : Nat → Int32) (r0_12v14 : Nat → Int32) (x15 : Int32) (x16 : Int32), zlp (fun s => fX_odds_L30 r0_2 r0_2_2 r0_2_3 r0_4 r0_4_0 r0_4_1 r0_4_2 r0_4_3 r0_4_4 r0_4_5 r0_4_6 r0_4_7 a1 a2 a3 s.1 s.2.1 s.2.2.1 s.2.2.2.1 s.2.2.2.2.1 s.2.2.2.2.2.1 s.2.2.2.2.2.2.1 s.2.2.2.2.2.2.2.1 s.2.2.2.2.2.2.2.2.1 s.2.2.2.2.2.2.2.2.2.1 s.2.2.2.2.2.2.2.2.2.2.1 s.2.2.2.2.2.2.2.2.2.2.2.1 s.2.2.2.2.2.2.2.2.2.2.2.2) n (r0_5v4, r0_5_0v5, r0_5_1v6, r0_5_2v7, r0_5_3v8, r0_5_4v9, r0_5_5v10, r0_5_6v11, r0_5_7v12, r0_5_8v13, r0_12v14, x15, x16) = some r19 → zR Γ 7 YX11_odds 30 [(0, .ref (zad Γ 0)), (1, .int a1), (2, .int a2), (3, .int a3), (4, .int x15), (5, .int x16)] [] (zui (zui (zui (zui (zui (zui (zui (zui (zui (zui (zui M 25 r0_5v4) 26 r0_5_0v5) 27 r0_5_1v6) 28 r0_5_2v7) 29 r0_5_3v8) 30 r0_5_4v9) 31 r0_5_5v10) 32 r0_5_6v11) 33 r0_5_7v12) 34 r0_5_8v13) 182 r0_12v14) Q := by
          intro n
          induction n with
          | zero => intro r0_5v4 r0_5_0v5 r0_5_1v6 r0_5_2v7 r0_5_3v8 r0_5_4v9 r0_5_5v10 r0_5_6v11 r0_5_7v12 r0_5_8v13 r0_12v14 x15 x16 hn9; cases hn9
          | succ n ih21 =>
            intro r0_5v4 r0_5_0v5 r0_5_1v6 r0_5_2v7 r0_5_3v8 r0_5_4v9 r0_5_5v10 r0_5_6v11 r0_5_7v12 r0_5_8v13 r0_12v14 x15 x16 hn9
            obtain ⟨o9, hb9, h22, h23⟩ := zlp_step hn9
            have hy : fX_odds_L30 r0_2 r0_2_2 r0_2_3 r0_4 r0_4_0 r0_4_1 r0_4_2 r0_4_3 r0_4_4 r0_4_5 r0_4_6 r0_4_7 a1 a2 a3 r0_5v4 r0_5_0v5 r0_5_1v6 r0_5_2v7 r0_5_3v8 r0_5_4v9 r0_5_5v10 r0_5_6v11 r0_5_7v12 r0_5_8v13 r0_12v14 x15 x16 = some o9 := hb9
            unfold fX_odds_L30 at hy
            refine zj_iload (pc' := 32) 5 dX11_odds_30 rfl rfl ?_
            refine zj_iload_n (pc' := 33) 2 dX11_odds_32 rfl rfl rfl ?_
            refine zj_icmp_ge (tgt := 89) (pc' := 36) dX11_odds_33 rfl (by decide) (fun c24 => ?_) (fun c24 => ?_)
            · have hy := zt_t hy c24
              have e9 := h23 _ (Option.some.inj hy).symm
              refine zj_loc [4] rfl ?_
              exact HE17 _ _ _ _ _ _ _ _ _ _ _ _ e9.symm
            · have hy := zt_f hy c24
              refine zj_aload_n (pc' := 37) 0 dX11_odds_36 rfl rfl rfl ?_
              refine zj_getR (pc' := 40) (j := 25) dX11_odds_37 rfl flX11_42 sh0 rfl ?_
              refine zj_aload_n (pc' := 41) 0 dX11_odds_40 rfl rfl rfl ?_
              refine zj_getR (pc' := 44) (j := 15) dX11_odds_41 rfl flX11_38 sh0 rfl ?_
              obtain ⟨y25, hy25, hy⟩ := zt_b hy
              refine zj_V0 (pc' := 47) (z := YX1_copyFrom) (As := [.ref (zad Γ 15)]) (N := (zui (zui (zui (zui (zui (zui (zui (zui (zui (zui (zui M 25 y25.1) 26 y25.2.1) 27 y25.2.2.1) 28 y25.2.2.2.1) 29 y25.2.2.2.2.1) 30 y25.2.2.2.2.2.1) 31 y25.2.2.2.2.2.2.1) 32 y25.2.2.2.2.2.2.2.1) 33 y25.2.2.2.2.2.2.2.2) 34 r0_5_8v13) 182 r0_12v14)) dX11_odds_44 rfl mlX11_151 lkX1_copyFrom sh25 ⟨_, _, rfl⟩ rfl rfl (Nat.le_of_ble_eq_true rfl) (Nat.le_of_ble_eq_true rfl) (LX1_copyFrom_25_15 Γ _ r0_5v4 r0_5_0v5 r0_5_1v6 r0_5_2v7 r0_5_3v8 r0_5_4v9 r0_5_5v10 r0_5_6v11 r0_5_7v12 r0_4 r0_4_0 r0_4_1 r0_4_2 r0_4_3 r0_4_4 r0_4_5 r0_4_6 r0_4_7 (zr_n rfl (zr_n rfl (zr_n rfl (zr_n rfl (zr_n rfl (zr_n rfl (zr_n rfl (zr_n rfl (zr_n rfl (zr_n rfl zr_s)))))))))) (zr_n rfl (zr_n rfl (zr_n rfl (zr_n rfl (zr_n rfl (zr_n rfl (zr_n rfl (zr_n rfl (zr_n rfl zr_s))))))))) (zr_n rfl (zr_n rfl (zr_n rfl (zr_n rfl (zr_n rfl (zr_n rfl (zr_n rfl (zr_n rfl zr_s)))))))) (zr_n rfl (zr_n rfl (zr_n rfl (zr_n rfl (zr_n rfl (zr_n rfl (zr_n rfl zr_s))))))) (zr_n rfl (zr_n rfl (zr_n rfl (zr_n rfl (zr_n rfl (zr_n rfl zr_s)))))) (zr_n rfl (zr_n rfl (zr_n rfl (zr_n rfl (zr_n rfl zr_s))))) (zr_n rfl (zr_n rfl (zr_n rfl (zr_n rfl zr_s)))) (zr_n rfl (zr_n rfl (zr_n rfl zr_s))) (zr_n rfl (zr_n rfl zr_s)) (zr_n rfl (zr_n rfl (zr_n rfl (zr_n rfl (zr_n rfl (zr_n rfl (zr_n rfl (zr_n rfl (zr_n rfl (zr_n rfl (zr_n rfl e_i15))))))))))) (zr_n rfl (zr_n rfl (zr_n rfl (zr_n rfl (zr_n rfl (zr_n rfl (zr_n rfl (zr_n rfl (zr_n rfl (zr_n rfl (zr_n rfl e_i16))))))))))) (zr_n rfl (zr_n rfl (zr_n rfl (zr_n rfl (zr_n rfl (zr_n rfl (zr_n rfl (zr_n rfl (zr_n rfl (zr_n rfl (zr_n rfl e_i17))))))))))) (zr_n rfl (zr_n rfl (zr_n rfl (zr_n rfl (zr_n rfl (zr_n rfl (zr_n rfl (zr_n rfl (zr_n rfl (zr_n rfl (zr_n rfl e_i18))))))))))) (zr_n rfl (zr_n rfl (zr_n rfl (zr_n rfl (zr_n rfl (zr_n rfl (zr_n rfl (zr_n rfl (zr_n rfl (zr_n rfl (zr_n rfl e_i19))))))))))) (zr_n rfl (zr_n rfl (zr_n rfl (zr_n rfl (zr_n rfl (zr_n rfl (zr_n rfl (zr_n rfl (zr_n rfl (zr_n rfl (zr_n rfl e_i20))))))))))) (zr_n rfl (zr_n rfl (zr_n rfl (zr_n rfl (zr_n rfl (zr_n rfl (zr_n rfl (zr_n rfl (zr_n rfl (zr_n rfl (zr_n rfl e_i21))))))))))) (zr_n rfl (zr_n rfl (zr_n rfl (zr_n rfl (zr_n rfl (zr_n rfl (zr_n rfl (zr_n rfl (zr_n rfl (zr_n rfl (zr_n rfl e_i22))))))))))) (zr_n rfl (zr_n rfl (zr_n rfl (zr_n rfl (zr_n rfl (zr_n rfl (zr_n rfl (zr_n rfl (zr_n rfl (zr_n rfl (zr_n rfl e_i23))))))))))) hy25) ((zch_i (zch_i (zch_i (zch_i (zch_i (zch_i (zch_i (zch_i (zm_n rfl (zm_n rfl (zm_n rfl (zm_n rfl (zm_n rfl (zm_n rfl (zm_n rfl (zm_n rfl (zm_n rfl (zm_n rfl zm_s)))))))))) (zm_n rfl (zm_n rfl (zm_n rfl (zm_n rfl (zm_n rfl (zm_n rfl (zm_n rfl (zm_n rfl (zm_n rfl zm_s)))))))))) (zm_n rfl (zm_n rfl (zm_n rfl (zm_n rfl (zm_n rfl (zm_n rfl (zm_n rfl (zm_n rfl zm_s))))))))) (zm_n rfl (zm_n rfl (zm_n rfl (zm_n rfl (zm_n rfl (zm_n rfl (zm_n rfl zm_s)))))))) (zm_n rfl (zm_n rfl (zm_n rfl (zm_n rfl (zm_n rfl (zm_n rfl zm_s))))))) (zm_n rfl (zm_n rfl (zm_n rfl (zm_n rfl (zm_n rfl zm_s)))))) (zm_n rfl (zm_n rfl (zm_n rfl (zm_n rfl zm_s))))) (zm_n rfl (zm_n rfl (zm_n rfl zm_s)))) (zm_n rfl (zm_n rfl zm_s)))).symm ?_
              refine zj_aload_n (pc' := 48) 0 dX11_odds_47 rfl rfl rfl ?_
              refine zj_getR (pc' := 51) (j := 182) dX11_odds_48 rfl flX11_85 sh0 rfl ?_
              refine zj_aload_n (pc' := 52) 0 dX11_odds_51 rfl rfl rfl ?_
              refine zj_getR (pc' := 55) (j := 5) dX11_odds_52 rfl flX11_28 sh0 rfl ?_
              refine zj_aload_n (pc' := 56) 0 dX11_odds_55 rfl rfl rfl ?_
              refine zj_getR (pc' := 59) (j := 25) dX11_odds_56 rfl flX11_42 sh0 rfl ?_
              refine zj_bipush (pc' := 61) dX11_odds_59 rfl kbipush_10 ?_
              refine zj_iload_n (pc' := 62) 3 dX11_odds_61 rfl rfl rfl ?_
              refine zj_iload (pc' := 64) 5 dX11_odds_62 rfl rfl ?_
              refine zj_iadd (pc' := 65) dX11_odds_64 rfl ?_
              obtain ⟨y26, hy26, hy⟩ := zt_b hy
              refine zj_V1 (pc' := 68) (z := YX2_passMinutes) (As := [.ref (zad Γ 5), .ref (zad Γ 25), .int 10, .int (a3 + x16)]) (N := (zui (zui (zui (zui (zui (zui (zui (zui (zui (zui (zui M 25 y26.2.2.1) 26 y26.2.2.2.1) 27 y26.2.2.2.2.1) 28 y26.2.2.2.2.2.1) 29 y26.2.2.2.2.2.2.1) 30 y26.2.2.2.2.2.2.2.1) 31 y26.2.2.2.2.2.2.2.2.1) 32 y26.2.2.2.2.2.2.2.2.2.1) 33 y26.2.2.2.2.2.2.2.2.2.2.1) 34 y26.2.2.2.2.2.2.2.2.2.2.2) 182 y26.2.1)) dX11_odds_65 rfl mlX11_346 lkX2_passMinutes sh182 ⟨_, _, rfl⟩ rfl rfl (Nat.le_of_ble_eq_true rfl) (Nat.le_of_ble_eq_true rfl) (LX2_passMinutes_182_5_25 Γ _ r0_12v14 r0_2 r0_2_2 r0_2_3 y25.1 y25.2.1 y25.2.2.1 y25.2.2.2.1 y25.2.2.2.2.1 y25.2.2.2.2.2.1 y25.2.2.2.2.2.2.1 y25.2.2.2.2.2.2.2.1 y25.2.2.2.2.2.2.2.2 r0_5_8v13 zr_s (zr_n rfl (zr_n rfl (zr_n rfl (zr_n rfl (zr_n rfl (zr_n rfl (zr_n rfl (zr_n rfl (zr_n rfl (zr_n rfl (zr_n rfl e_i5))))))))))) (zr_n rfl (zr_n rfl (zr_n rfl (zr_n rfl (zr_n rfl (zr_n rfl (zr_n rfl (zr_n rfl (zr_n rfl (zr_n rfl (zr_n rfl e_i8))))))))))) (zr_n rfl (zr_n rfl (zr_n rfl (zr_n rfl (zr_n rfl (zr_n rfl (zr_n rfl (zr_n rfl (zr_n rfl (zr_n rfl (zr_n rfl e_i9))))))))))) (zr_n rfl (zr_n rfl (zr_n rfl (zr_n rfl (zr_n rfl (zr_n rfl (zr_n rfl (zr_n rfl (zr_n rfl (zr_n rfl zr_s)))))))))) (zr_n rfl (zr_n rfl (zr_n rfl (zr_n rfl (zr_n rfl (zr_n rfl (zr_n rfl (zr_n rfl (zr_n rfl zr_s))))))))) (zr_n rfl (zr_n rfl (zr_n rfl (zr_n rfl (zr_n rfl (zr_n rfl (zr_n rfl (zr_n rfl zr_s)))))))) (zr_n rfl (zr_n rfl (zr_n rfl (zr_n rfl (zr_n rfl (zr_n rfl (zr_n rfl zr_s))))))) (zr_n rfl (zr_n rfl (zr_n rfl (zr_n rfl (zr_n rfl (zr_n rfl zr_s)))))) (zr_n rfl (zr_n rfl (zr_n rfl (zr_n rfl (zr_n rfl zr_s))))) (zr_n rfl (zr_n rfl (zr_n rfl (zr_n rfl zr_s)))) (zr_n rfl (zr_n rfl (zr_n rfl zr_s))) (zr_n rfl (zr_n rfl zr_s)) (zr_n rfl zr_s) 10 (a3 + x16) hy26) ((zch_i (zch_i (zch_i (zch_i (zch_i (zch_i (zch_i (zch_i (zch_i (zch_i (zm_n rfl (zm_n rfl (zm_n rfl (zm_n rfl (zm_n rfl (zm_n rfl (zm_n rfl (zm_n rfl (zm_n rfl (zm_n rfl zm_s)))))))))) (zm_n rfl (zm_n rfl (zm_n rfl (zm_n rfl (zm_n rfl (zm_n rfl (zm_n rfl (zm_n rfl (zm_n rfl zm_s)))))))))) (zm_n rfl (zm_n rfl (zm_n rfl (zm_n rfl (zm_n rfl (zm_n rfl (zm_n rfl (zm_n rfl zm_s))))))))) (zm_n rfl (zm_n rfl (zm_n rfl (zm_n rfl (zm_n rfl (zm_n rfl (zm_n rfl zm_s)))))))) (zm_n rfl (zm_n rfl (zm_n rfl (zm_n rfl (zm_n rfl (zm_n rfl zm_s))))))) (zm_n rfl (zm_n rfl (zm_n rfl (zm_n rfl (zm_n rfl zm_s)))))) (zm_n rfl (zm_n rfl (zm_n rfl (zm_n rfl zm_s))))) (zm_n rfl (zm_n rfl (zm_n rfl zm_s)))) (zm_n rfl (zm_n rfl zm_s))) (zm_n rfl zm_s)) zm_s)).symm ?_
              refine zj_pop (pc' := 69) dX11_odds_68 rfl rfl ?_
              refine zj_aload_n (pc' := 70) 0 dX11_odds_69 rfl rfl rfl ?_
              refine zj_getR (pc' := 73) (j := 25) dX11_odds_70 rfl flX11_42 sh0 rfl ?_
              refine zj_iload_n (pc' := 74) 1 dX11_odds_73 rfl rfl rfl ?_
              obtain ⟨y27, hy27, hy⟩ := zt_b hy
              refine zj_V1 (pc' := 77) (z := YX1_followersOf) (As := [.int a1]) (N := (zui (zui (zui (zui (zui (zui (zui (zui (zui (zui (zui M 25 y26.2.2.1) 26 y26.2.2.2.1) 27 y26.2.2.2.2.1) 28 y26.2.2.2.2.2.1) 29 y26.2.2.2.2.2.2.1) 30 y26.2.2.2.2.2.2.2.1) 31 y26.2.2.2.2.2.2.2.2.1) 32 y26.2.2.2.2.2.2.2.2.2.1) 33 y26.2.2.2.2.2.2.2.2.2.2.1) 34 y26.2.2.2.2.2.2.2.2.2.2.2) 182 y26.2.1)) dX11_odds_74 rfl mlX11_182 lkX1_followersOf sh25 ⟨_, _, rfl⟩ rfl rfl (Nat.le_of_ble_eq_true rfl) (Nat.le_of_ble_eq_true rfl) (LX1_followersOf_25 Γ _ y26.2.2.2.2.2.1 (zr_n rfl (zr_n rfl (zr_n rfl (zr_n rfl (zr_n rfl (zr_n rfl (zr_n rfl zr_s))))))) a1 hy27) rfl ?_
              refine zj_if_eq (tgt := 83) (pc' := 80) dX11_odds_77 rfl (by decide) (fun c28 => ?_) (fun c28 => ?_)
              · have hy := zt_t hy c28
                obtain ⟨x29, ex29⟩ : ∃ z : Int32, z = (x16 + 1) := ⟨_, rfl⟩
                have hy := zlet_at ex29 hy
                refine zj_iinc (pc' := 86) 5 (L' := [(5, .int x29), (0, .ref (zad Γ 0)), (1, .int a1), (2, .int a2), (3, .int a3), (4, .int x15)]) dX11_odds_83 rfl rfl (by decide) (by rw [ci1, ← ex29]; rfl) ?_
                refine zj_goto (tgt := 30) dX11_odds_86 (by decide) ?_
                have hn9 := h22 _ (Option.some.inj hy).symm
                refine zj_loc [1, 2, 3, 4, 5, 0] rfl ?_
                exact ih21 _ _ _ _ _ _ _ _ _ _ _ _ _ hn9
              · have hy := zt_f hy c28
                obtain ⟨x30, ex30⟩ : ∃ z : Int32, z = (x15 + 1) := ⟨_, rfl⟩
                have hy := zlet_at ex30 hy
                refine zj_iinc (pc' := 83) 4 (L' := [(4, .int x30), (0, .ref (zad Γ 0)), (1, .int a1), (2, .int a2), (3, .int a3), (5, .int x16)]) dX11_odds_80 rfl rfl (by decide) (by rw [ci1, ← ex30]; rfl) ?_
                obtain ⟨x31, ex31⟩ : ∃ z : Int32, z = (x16 + 1) := ⟨_, rfl⟩
                have hy := zlet_at ex31 hy
                refine zj_iinc (pc' := 86) 5 (L' := [(5, .int x31), (4, .int x30), (0, .ref (zad Γ 0)), (1, .int a1), (2, .int a2), (3, .int a3)]) dX11_odds_83 rfl rfl (by decide) (by rw [ci1, ← ex31]; rfl) ?_
                refine zj_goto (tgt := 30) dX11_odds_86 (by decide) ?_
                have hn9 := h22 _ (Option.some.inj hy).symm
                refine zj_loc [2, 3, 4, 5, 1, 0] rfl ?_
                exact ih21 _ _ _ _ _ _ _ _ _ _ _ _ _ hn9
        exact HL18 n9 _ _ _ _ _ _ _ _ _ _ _ _ _ hn9
      · have hy := zt_f hy c3
        refine zj_iconst (pc' := 23) dX11_odds_22 rfl kiconst_m1 ?_
        have e9 := Option.some.inj hy
        subst e9
        refine zj_mem (N := (zui M 25 r0_5)) (zself_i e_i25 rfl) ?_
        refine zj_mem (N := (zui (zui M 25 r0_5) 26 r0_5_0)) (zself_i (zr_n rfl e_i26) rfl) ?_
        refine zj_mem (N := (zui (zui (zui M 25 r0_5) 26 r0_5_0) 27 r0_5_1)) (zself_i (zr_n rfl (zr_n rfl e_i27)) rfl) ?_
        refine zj_mem (N := (zui (zui (zui (zui M 25 r0_5) 26 r0_5_0) 27 r0_5_1) 28 r0_5_2)) (zself_i (zr_n rfl (zr_n rfl (zr_n rfl e_i28))) rfl) ?_
        refine zj_mem (N := (zui (zui (zui (zui (zui M 25 r0_5) 26 r0_5_0) 27 r0_5_1) 28 r0_5_2) 29 r0_5_3)) (zself_i (zr_n rfl (zr_n rfl (zr_n rfl (zr_n rfl e_i29)))) rfl) ?_
        refine zj_mem (N := (zui (zui (zui (zui (zui (zui M 25 r0_5) 26 r0_5_0) 27 r0_5_1) 28 r0_5_2) 29 r0_5_3) 30 r0_5_4)) (zself_i (zr_n rfl (zr_n rfl (zr_n rfl (zr_n rfl (zr_n rfl e_i30))))) rfl) ?_
        refine zj_mem (N := (zui (zui (zui (zui (zui (zui (zui M 25 r0_5) 26 r0_5_0) 27 r0_5_1) 28 r0_5_2) 29 r0_5_3) 30 r0_5_4) 31 r0_5_5)) (zself_i (zr_n rfl (zr_n rfl (zr_n rfl (zr_n rfl (zr_n rfl (zr_n rfl e_i31)))))) rfl) ?_
        refine zj_mem (N := (zui (zui (zui (zui (zui (zui (zui (zui M 25 r0_5) 26 r0_5_0) 27 r0_5_1) 28 r0_5_2) 29 r0_5_3) 30 r0_5_4) 31 r0_5_5) 32 r0_5_6)) (zself_i (zr_n rfl (zr_n rfl (zr_n rfl (zr_n rfl (zr_n rfl (zr_n rfl (zr_n rfl e_i32))))))) rfl) ?_
        refine zj_mem (N := (zui (zui (zui (zui (zui (zui (zui (zui (zui M 25 r0_5) 26 r0_5_0) 27 r0_5_1) 28 r0_5_2) 29 r0_5_3) 30 r0_5_4) 31 r0_5_5) 32 r0_5_6) 33 r0_5_7)) (zself_i (zr_n rfl (zr_n rfl (zr_n rfl (zr_n rfl (zr_n rfl (zr_n rfl (zr_n rfl (zr_n rfl e_i33)))))))) rfl) ?_
        refine zj_mem (N := (zui (zui (zui (zui (zui (zui (zui (zui (zui (zui M 25 r0_5) 26 r0_5_0) 27 r0_5_1) 28 r0_5_2) 29 r0_5_3) 30 r0_5_4) 31 r0_5_5) 32 r0_5_6) 33 r0_5_7) 34 r0_5_8)) (zself_i (zr_n rfl (zr_n rfl (zr_n rfl (zr_n rfl (zr_n rfl (zr_n rfl (zr_n rfl (zr_n rfl (zr_n rfl e_i34))))))))) rfl) ?_
        refine zj_mem (N := (zui (zui (zui (zui (zui (zui (zui (zui (zui (zui (zui M 25 r0_5) 26 r0_5_0) 27 r0_5_1) 28 r0_5_2) 29 r0_5_3) 30 r0_5_4) 31 r0_5_5) 32 r0_5_6) 33 r0_5_7) 34 r0_5_8) 182 r0_12)) (zself_i (zr_n rfl (zr_n rfl (zr_n rfl (zr_n rfl (zr_n rfl (zr_n rfl (zr_n rfl (zr_n rfl (zr_n rfl (zr_n rfl e_i182)))))))))) rfl) ?_
        exact zj_iret dX11_odds_23 rfl hq
set_option maxRecDepth 20000 in
theorem LX11_odds_0 (Γ : zG) (M : zM) (r0_2 : Nat → Int32) (r0_2_2 : Nat → Int32) (r0_2_3 : Nat → Int32) (r0_4 : Nat → Int32) (r0_4_0 : Nat → Int32) (r0_4_1 : Nat → Int32) (r0_4_2 : Nat → Int32) (r0_4_3 : Nat → Int32) (r0_4_4 : Nat → Int32) (r0_4_5 : Nat → Int32) (r0_4_6 : Nat → Int32) (r0_4_7 : Nat → Int32) (r0_5 : Nat → Int32) (r0_5_0 : Nat → Int32) (r0_5_1 : Nat → Int32) (r0_5_2 : Nat → Int32) (r0_5_3 : Nat → Int32) (r0_5_4 : Nat → Int32) (r0_5_5 : Nat → Int32) (r0_5_6 : Nat → Int32) (r0_5_7 : Nat → Int32) (r0_5_8 : Nat → Int32) (r0_12 : Nat → Int32) (e_i5 : M.1 5 = r0_2) (e_i8 : M.1 8 = r0_2_2) (e_i9 : M.1 9 = r0_2_3) (e_i15 : M.1 15 = r0_4) (e_i16 : M.1 16 = r0_4_0) (e_i17 : M.1 17 = r0_4_1) (e_i18 : M.1 18 = r0_4_2) (e_i19 : M.1 19 = r0_4_3) (e_i20 : M.1 20 = r0_4_4) (e_i21 : M.1 21 = r0_4_5) (e_i22 : M.1 22 = r0_4_6) (e_i23 : M.1 23 = r0_4_7) (e_i25 : M.1 25 = r0_5) (e_i26 : M.1 26 = r0_5_0) (e_i27 : M.1 27 = r0_5_1) (e_i28 : M.1 28 = r0_5_2) (e_i29 : M.1 29 = r0_5_3) (e_i30 : M.1 30 = r0_5_4) (e_i31 : M.1 31 = r0_5_5) (e_i32 : M.1 32 = r0_5_6) (e_i33 : M.1 33 = r0_5_7) (e_i34 : M.1 34 = r0_5_8) (e_i182 : M.1 182 = r0_12) (a1 : Int32) (a2 : Int32) (a3 : Int32) {res : Int32 × (Nat → Int32) × (Nat → Int32) × (Nat → Int32) × (Nat → Int32) × (Nat → Int32) × (Nat → Int32) × (Nat → Int32) × (Nat → Int32) × (Nat → Int32) × (Nat → Int32) × (Nat → Int32)} (hy : (fX_odds r0_2 r0_2_2 r0_2_3 r0_4 r0_4_0 r0_4_1 r0_4_2 r0_4_3 r0_4_4 r0_4_5 r0_4_6 r0_4_7 r0_5 r0_5_0 r0_5_1 r0_5_2 r0_5_3 r0_5_4 r0_5_5 r0_5_6 r0_5_7 r0_5_8 r0_12 a1 a2 a3) = some res) : zK Γ 7 YX11_odds [.ref (zad Γ 0), .int a1, .int a2, .int a3] M (fun v N => v = some (.int res.1) ∧ N = (zui (zui (zui (zui (zui (zui (zui (zui (zui (zui (zui M 25 res.2.1) 26 res.2.2.1) 27 res.2.2.2.1) 28 res.2.2.2.2.1) 29 res.2.2.2.2.2.1) 30 res.2.2.2.2.2.2.1) 31 res.2.2.2.2.2.2.2.1) 32 res.2.2.2.2.2.2.2.2.1) 33 res.2.2.2.2.2.2.2.2.2.1) 34 res.2.2.2.2.2.2.2.2.2.2.1) 182 res.2.2.2.2.2.2.2.2.2.2.2)) :=
  zK_of (by decide) (Nat.le_of_ble_eq_true rfl) (TX11_odds_0 Γ M r0_2 r0_2_2 r0_2_3 r0_4 r0_4_0 r0_4_1 r0_4_2 r0_4_3 r0_4_4 r0_4_5 r0_4_6 r0_4_7 r0_5 r0_5_0 r0_5_1 r0_5_2 r0_5_3 r0_5_4 r0_5_5 r0_5_6 r0_5_7 r0_5_8 r0_12 e_i5 e_i8 e_i9 e_i15 e_i16 e_i17 e_i18 e_i19 e_i20 e_i21 e_i22 e_i23 e_i25 e_i26 e_i27 e_i28 e_i29 e_i30 e_i31 e_i32 e_i33 e_i34 e_i182 a1 a2 a3 hy ⟨rfl, rfl⟩)

noncomputable def fM_odds_L35 (r0_20 : Nat → Int32) (a1 : Int32) (a2 : Int32) (a3 : Int32) (y5 : (Nat → Int32)) (r0v6 : Nat → Int32) (r0_6v7 : Nat → Int32) (r0_21v8 : Nat → Int32) (x9 : Int32) (x10 : Int32) : Option (((Nat → Int32) × (Nat → Int32) × (Nat → Int32) × Int32 × Int32) ⊕ ((Nat → Int32) × (Nat → Int32) × (Nat → Int32) × Int32)) :=
  (if a2 ≤ x10 then
  some (.inr (r0v6, r0_6v7, r0_21v8, x9))
  else
  (fM_draws r0v6 r0_6v7 r0_20 r0_21v8 10 (a3 + x10)).bind (fun (y19 : Int32 × (Nat → Int32) × (Nat → Int32) × (Nat → Int32)) =>
  (fM_followersOf y19.2.2.1 a1).bind (fun (y20 : Int32) =>
  zlet (x9 + (zb (if y20 = 0 then false else true))) (fun (x23 : Int32) =>
  (fM_back y19.2.2.1 y5).bind (fun (y24 : (Nat → Int32)) =>
  zlet (x10 + 1) (fun (x25 : Int32) =>
  some (.inl (y19.2.1, y24, y19.2.2.2, x23, x25))))))))
noncomputable def fM_odds (r0 : Nat → Int32) (r0_6 : Nat → Int32) (r0_20 : Nat → Int32) (r0_21 : Nat → Int32) (r0_23 : Nat → Int32) (a1 : Int32) (a2 : Int32) (a3 : Int32) : Option (Int32 × (Nat → Int32) × (Nat → Int32) × (Nat → Int32) × (Nat → Int32)) :=
  zlet (zup r0 0 0) (fun (r0v1 : Nat → Int32) =>
  (fM_isPerson r0_6 a1).bind (fun (y2 : Bool) =>
  (if y2 = true then
  (if (fM_isIn a2 1 30) = true then
  (fM_tries r0_6 r0_23).bind (fun (y5 : (Nat → Int32)) =>
  (zLP (fun s => fM_odds_L35 r0_20 a1 a2 a3 y5 s.1 s.2.1 s.2.2.1 s.2.2.2.1 s.2.2.2.2) (r0v1, r0_6, r0_21, 0, 0)).bind (fun r13 =>
  some (r13.2.2.2, r13.1, r13.2.1, r13.2.2.1, y5)))
  else
  some ((-1), r0v1, r0_6, r0_21, r0_23))
  else
  some ((-1), r0v1, r0_6, r0_21, r0_23))))

set_option maxRecDepth 20000 in
theorem TX12_odds_186 (Γ : zG) {Q : Option Value → zM → Prop} (M : zM) (r0 : Nat → Int32) (r0_6 : Nat → Int32) (r0_20 : Nat → Int32) (r0_21 : Nat → Int32) (r0_23 : Nat → Int32) (e_i186 : M.1 186 = r0) (e_i188 : M.1 188 = r0_6) (e_i193 : M.1 193 = r0_20) (e_i194 : M.1 194 = r0_21) (e_i196 : M.1 196 = r0_23) (a1 : Int32) (a2 : Int32) (a3 : Int32) {res : Int32 × (Nat → Int32) × (Nat → Int32) × (Nat → Int32) × (Nat → Int32)} (hy : (fM_odds r0 r0_6 r0_20 r0_21 r0_23 a1 a2 a3) = some res) (hq : Q (some (.int res.1)) (zui (zui (zui (zui M 186 res.2.1) 188 res.2.2.1) 194 res.2.2.2.1) 196 res.2.2.2.2)) : zR Γ 7 YX12_odds 0 [(0, .ref (zad Γ 186)), (1, .int a1), (2, .int a2), (3, .int a3)] [] M Q := by
  unfold fM_odds at hy
  refine zj_aload_n (pc' := 1) 0 dX12_odds_0 rfl rfl rfl ?_
  refine zj_iconst (pc' := 2) dX12_odds_1 rfl kiconst_0 ?_
  obtain ⟨r0v1, er0v1⟩ : ∃ z, z = (zup r0 0 0) := ⟨_, rfl⟩
  have hy := zlet_at er0v1 hy
  refine zj_pI (pc' := 5) (N := (zui M 186 r0v1)) dX12_odds_2 rfl fpX12_1 sh186 rfl e_i186 er0v1 rfl ?_
  refine zj_aload_n (pc' := 6) 0 dX12_odds_5 rfl rfl rfl ?_
  refine zj_iload_n (pc' := 7) 1 dX12_odds_6 rfl rfl rfl ?_
  obtain ⟨y2, hy2, hy⟩ := zt_b hy
  refine zj_V1 (pc' := 10) (z := YX12_isPerson) (As := [.int a1]) (N := (zui M 186 r0v1)) dX12_odds_7 rfl mlX12_270 lkX12_isPerson sh186 ⟨_, _, rfl⟩ rfl rfl (Nat.le_of_ble_eq_true rfl) (Nat.le_of_ble_eq_true rfl) (LX12_isPerson_186 Γ _ r0_6 (zr_n rfl e_i188) a1 hy2) rfl ?_
  refine zj_bif_eq (tgt := 23) (pc' := 13) dX12_odds_10 rfl (by decide) (fun c3 => ?_) (fun c3 => ?_)
  · have hy := zt_f hy c3
    refine zj_iconst (pc' := 24) dX12_odds_23 rfl kiconst_m1 ?_
    have e9 := Option.some.inj hy
    subst e9
    refine zj_mem (N := (zui (zui M 186 r0v1) 188 r0_6)) (zself_i (zr_n rfl e_i188) rfl) ?_
    refine zj_mem (N := (zui (zui (zui M 186 r0v1) 188 r0_6) 194 r0_21)) (zself_i (zr_n rfl (zr_n rfl e_i194)) rfl) ?_
    refine zj_mem (N := (zui (zui (zui (zui M 186 r0v1) 188 r0_6) 194 r0_21) 196 r0_23)) (zself_i (zr_n rfl (zr_n rfl (zr_n rfl e_i196))) rfl) ?_
    exact zj_iret dX12_odds_24 rfl hq
  · have hy := zt_t hy c3
    refine zj_iload_n (pc' := 14) 2 dX12_odds_13 rfl rfl rfl ?_
    refine zj_iconst (pc' := 15) dX12_odds_14 rfl kiconst_1 ?_
    refine zj_bipush (pc' := 17) dX12_odds_15 rfl kbipush_30 ?_
    refine zj_S1 (pc' := 20) (z := YX12_isIn) (As := [.int a2, .int 1, .int 30]) (N := (zui M 186 r0v1)) dX12_odds_17 rfl mlX12_188 lkX12_isIn rfl rfl (Nat.le_of_ble_eq_true rfl) (Nat.le_of_ble_eq_true rfl) (LX12_isIn Γ _ a2 1 30 rfl) rfl ?_
    refine zj_bif_ne (tgt := 25) (pc' := 23) dX12_odds_20 rfl (by decide) (fun c4 => ?_) (fun c4 => ?_)
    · have hy := zt_t hy c4
      refine zj_aload_n (pc' := 26) 0 dX12_odds_25 rfl rfl rfl ?_
      obtain ⟨y5, hy5, hy⟩ := zt_b hy
      refine zj_V0 (pc' := 29) (z := YX12_tries) (As := []) (N := (zui (zui M 186 r0v1) 196 y5)) dX12_odds_26 rfl mlX12_337 lkX12_tries sh186 ⟨_, _, rfl⟩ rfl rfl (Nat.le_of_ble_eq_true rfl) (Nat.le_of_ble_eq_true rfl) (LX12_tries_186 Γ _ r0_6 r0_23 (zr_n rfl e_i188) (zr_n rfl e_i196) hy5) (rfl).symm ?_
      refine zj_iconst (pc' := 30) dX12_odds_29 rfl kiconst_0 ?_
      refine zj_istore (pc' := 32) (L' := [(4, .int 0), (0, .ref (zad Γ 186)), (1, .int a1), (2, .int a2), (3, .int a3)]) dX12_odds_30 rfl (by decide) rfl ?_
      refine zj_iconst (pc' := 33) dX12_odds_32 rfl kiconst_0 ?_
      refine zj_istore (pc' := 35) (L' := [(5, .int 0), (4, .int 0), (0, .ref (zad Γ 186)), (1, .int a1), (2, .int a2), (3, .int a3)]) dX12_odds_33 rfl (by decide) rfl ?_
      refine zj_loc [2, 3, 4, 5, 1, 0] rfl ?_
      refine zj_mem (N := (zui (zui (zui M 186 r0v1) 188 r0_6) 196 y5)) (zself_i (zr_n rfl (zr_n rfl e_i188)) (zm_n rfl rfl)) ?_
      refine zj_mem (N := (zui (zui (zui (zui M 186 r0v1) 188 r0_6) 194 r0_21) 196 y5)) (zself_i (zr_n rfl (zr_n rfl (zr_n rfl e_i194))) (zm_n rfl rfl)) ?_
      obtain ⟨r13, hr9, hyo14⟩ := zt_b hy
      obtain ⟨n9, hn9⟩ := zLP_some hr9
      have HE11 : ∀ (r0v26 : Nat → Int32) (r0_6v27 : Nat → Int32) (r0_21v28 : Nat → Int32) (x29 : Int32), r13 = (r0v26, r0_6v27, r0_21v28, x29) → zR Γ 7 YX12_odds 80 [(4, .int x29)] [] (zui (zui (zui (zui M 186 r0v26) 188 r0_6v27) 194 r0_21v28) 196 y5) Q := by
        intro r0v26 r0_6v27 r0_21v28 x29 e9
        have hy := hyo14
        try rw [e9] at hy
        try dsimp only at hy
        refine zj_iload (pc' := 82) 0 dX12_odds_80 rfl rfl ?_
        have e9 := Option.some.inj hy
        subst e9
        exact zj_iret dX12_odds_82 rfl hq
      have HL12 : ∀ (n : Nat) (r0v6 : Nat → Int32) (r0_6v7 : Nat → Int32) (r0_21v8 : Nat → Int32) (x9 : Int32) (x10 : Int32), zlp (fun s => fM_odds_L35 r0_20 a1 a2 a3 y5 s.1 s.2.1 s.2.2.1 s.2.2.2.1 s.2.2.2.2) n (r0v6, r0_6v7, r0_21v8, x9, x10) = some r13 → zR Γ 7 YX12_odds 35 [(0, .ref (zad Γ 186)), (1, .int a1), (2, .int a2), (3, .int a3), (4, .int x9), (5, .int x10)] [] (zui (zui (zui (zui M 186 r0v6) 188 r0_6v7) 194 r0_21v8) 196 y5) Q := by
        intro n
        induction n with
        | zero => intro r0v6 r0_6v7 r0_21v8 x9 x10 hn9; cases hn9
        | succ n ih15 =>
          intro r0v6 r0_6v7 r0_21v8 x9 x10 hn9
          obtain ⟨o9, hb9, h16, h17⟩ := zlp_step hn9
          have hy : fM_odds_L35 r0_20 a1 a2 a3 y5 r0v6 r0_6v7 r0_21v8 x9 x10 = some o9 := hb9
          unfold fM_odds_L35 at hy
          refine zj_iload (pc' := 37) 5 dX12_odds_35 rfl rfl ?_
          refine zj_iload_n (pc' := 38) 2 dX12_odds_37 rfl rfl rfl ?_
          refine zj_icmp_ge (tgt := 80) (pc' := 41) dX12_odds_38 rfl (by decide) (fun c18 => ?_) (fun c18 => ?_)
          · have hy := zt_t hy c18
            have e9 := h17 _ (Option.some.inj hy).symm
            refine zj_loc [4] rfl ?_
            exact HE11 _ _ _ _ e9.symm
          · have hy := zt_f hy c18
            refine zj_aload_n (pc' := 42) 0 dX12_odds_41 rfl rfl rfl ?_
            refine zj_bipush (pc' := 44) dX12_odds_42 rfl kbipush_10 ?_
            refine zj_iload_n (pc' := 45) 3 dX12_odds_44 rfl rfl rfl ?_
            refine zj_iload (pc' := 47) 5 dX12_odds_45 rfl rfl ?_
            refine zj_iadd (pc' := 48) dX12_odds_47 rfl ?_
            obtain ⟨y19, hy19, hy⟩ := zt_b hy
            refine zj_V1 (pc' := 51) (z := YX12_draws) (As := [.int 10, .int (a3 + x10)]) (N := (zui (zui (zui (zui M 186 y19.2.1) 188 y19.2.2.1) 194 y19.2.2.2) 196 y5)) dX12_odds_48 rfl mlX12_413 lkX12_draws sh186 ⟨_, _, rfl⟩ rfl rfl (Nat.le_of_ble_eq_true rfl) (Nat.le_of_ble_eq_true rfl) (LX12_draws_186 Γ _ r0v6 r0_6v7 r0_20 r0_21v8 (zr_n rfl (zr_n rfl (zr_n rfl zr_s))) (zr_n rfl (zr_n rfl zr_s)) (zr_n rfl (zr_n rfl (zr_n rfl (zr_n rfl e_i193)))) (zr_n rfl zr_s) 10 (a3 + x10) hy19) ((zch_i (zch_i (zm_n rfl (zm_n rfl (zm_n rfl zm_s))) (zm_n rfl (zm_n rfl zm_s))) (zm_n rfl zm_s))).symm ?_
            refine zj_pop (pc' := 52) dX12_odds_51 rfl rfl ?_
            refine zj_iload (pc' := 54) 4 dX12_odds_52 rfl rfl ?_
            refine zj_aload_n (pc' := 55) 0 dX12_odds_54 rfl rfl rfl ?_
            refine zj_iload_n (pc' := 56) 1 dX12_odds_55 rfl rfl rfl ?_
            obtain ⟨y20, hy20, hy⟩ := zt_b hy
            refine zj_V1 (pc' := 59) (z := YX12_followersOf) (As := [.int a1]) (N := (zui (zui (zui (zui M 186 y19.2.1) 188 y19.2.2.1) 194 y19.2.2.2) 196 y5)) dX12_odds_56 rfl mlX12_277 lkX12_followersOf sh186 ⟨_, _, rfl⟩ rfl rfl (Nat.le_of_ble_eq_true rfl) (Nat.le_of_ble_eq_true rfl) (LX12_followersOf_186 Γ _ y19.2.2.1 (zr_n rfl (zr_n rfl zr_s)) a1 hy20) rfl ?_
            have HJ21 : zR Γ 7 YX12_odds 67 [(0, .ref (zad Γ 186)), (1, .int a1), (2, .int a2), (3, .int a3), (4, .int x9), (5, .int x10)] [.int (zb (if y20 = 0 then false else true)), .int x9] (zui (zui (zui (zui M 186 y19.2.1) 188 y19.2.2.1) 194 y19.2.2.2) 196 y5) Q := by
              refine zj_iadd (pc' := 68) dX12_odds_67 rfl ?_
              refine zj_topi (fun x23 ex23 => ?_)
              have hy := zlet_at ex23 hy
              refine zj_istore (pc' := 70) (L' := [(4, .int x23), (0, .ref (zad Γ 186)), (1, .int a1), (2, .int a2), (3, .int a3), (5, .int x10)]) dX12_odds_68 rfl (by decide) rfl ?_
              refine zj_aload_n (pc' := 71) 1 dX12_odds_70 rfl rfl rfl ?_
              obtain ⟨y24, hy24, hy⟩ := zt_b hy
              refine zj_V0 (pc' := 74) (z := YX12_back) (As := []) (N := (zui (zui (zui (zui M 186 y19.2.1) 188 y24) 194 y19.2.2.2) 196 y5)) dX12_odds_71 rfl mlX12_340 lkX12_back sh186 ⟨_, _, rfl⟩ rfl rfl (Nat.le_of_ble_eq_true rfl) (Nat.le_of_ble_eq_true rfl) (LX12_back_186 Γ _ y19.2.2.1 y5 (zr_n rfl (zr_n rfl zr_s)) zr_s hy24) ((zm_n rfl (zm_n rfl zm_s))).symm ?_
              obtain ⟨x25, ex25⟩ : ∃ z : Int32, z = (x10 + 1) := ⟨_, rfl⟩
              have hy := zlet_at ex25 hy
              refine zj_iinc (pc' := 77) 5 (L' := [(5, .int x25), (4, .int x23), (0, .ref (zad Γ 186)), (1, .int a1), (2, .int a2), (3, .int a3)]) dX12_odds_74 rfl rfl (by decide) (by rw [ci1, ← ex25]; rfl) ?_
              refine zj_goto (tgt := 35) dX12_odds_77 (by decide) ?_
              have hn9 := h16 _ (Option.some.inj hy).symm
              refine zj_loc [2, 3, 4, 5, 1, 0] rfl ?_
              exact ih15 _ _ _ _ _ hn9
            refine zj_if_eq (tgt := 66) (pc' := 62) dX12_odds_59 rfl (by decide) (fun c22 => ?_) (fun c22 => ?_)
            · refine zj_iconst (pc' := 67) dX12_odds_66 rfl kiconst_0 ?_
              exact zj_eqb (b := false) (if_pos c22) HJ21
            · refine zj_iconst (pc' := 63) dX12_odds_62 rfl kiconst_1 ?_
              refine zj_goto (tgt := 67) dX12_odds_63 (by decide) ?_
              exact zj_eqb (b := true) (if_neg c22) HJ21
      exact HL12 n9 _ _ _ _ _ hn9
    · have hy := zt_f hy c4
      refine zj_iconst (pc' := 24) dX12_odds_23 rfl kiconst_m1 ?_
      have e9 := Option.some.inj hy
      subst e9
      refine zj_mem (N := (zui (zui M 186 r0v1) 188 r0_6)) (zself_i (zr_n rfl e_i188) rfl) ?_
      refine zj_mem (N := (zui (zui (zui M 186 r0v1) 188 r0_6) 194 r0_21)) (zself_i (zr_n rfl (zr_n rfl e_i194)) rfl) ?_
      refine zj_mem (N := (zui (zui (zui (zui M 186 r0v1) 188 r0_6) 194 r0_21) 196 r0_23)) (zself_i (zr_n rfl (zr_n rfl (zr_n rfl e_i196))) rfl) ?_
      exact zj_iret dX12_odds_24 rfl hq
set_option maxRecDepth 20000 in
theorem LX12_odds_186 (Γ : zG) (M : zM) (r0 : Nat → Int32) (r0_6 : Nat → Int32) (r0_20 : Nat → Int32) (r0_21 : Nat → Int32) (r0_23 : Nat → Int32) (e_i186 : M.1 186 = r0) (e_i188 : M.1 188 = r0_6) (e_i193 : M.1 193 = r0_20) (e_i194 : M.1 194 = r0_21) (e_i196 : M.1 196 = r0_23) (a1 : Int32) (a2 : Int32) (a3 : Int32) {res : Int32 × (Nat → Int32) × (Nat → Int32) × (Nat → Int32) × (Nat → Int32)} (hy : (fM_odds r0 r0_6 r0_20 r0_21 r0_23 a1 a2 a3) = some res) : zK Γ 7 YX12_odds [.ref (zad Γ 186), .int a1, .int a2, .int a3] M (fun v N => v = some (.int res.1) ∧ N = (zui (zui (zui (zui M 186 res.2.1) 188 res.2.2.1) 194 res.2.2.2.1) 196 res.2.2.2.2)) :=
  zK_of (by decide) (Nat.le_of_ble_eq_true rfl) (TX12_odds_186 Γ M r0 r0_6 r0_20 r0_21 r0_23 e_i186 e_i188 e_i193 e_i194 e_i196 a1 a2 a3 hy ⟨rfl, rfl⟩)


set_option maxRecDepth 20000 in
theorem TX7_personNamed_5 (Γ : zG) {Q : Option Value → zM → Prop} (M : zM) (r0 : Nat → Int32) (w0_1 : Nat → Int64) (e_i5 : M.1 5 = r0) (e_l7 : M.2 7 = w0_1) (a1 : Int64) {res : Int32} (hy : (fPl_personNamed r0 w0_1 a1) = some res) (hq : Q (some (.int res)) M) : zR Γ 1 YX7_personNamed 0 [(0, .ref (zad Γ 5)), (1, .long a1)] [] M Q := by
  unfold fPl_personNamed at hy
  refine zj_iconst (pc' := 1) dX7_personNamed_0 rfl kiconst_0 ?_
  refine zj_istore_n (pc' := 2) (L' := [(3, .int 0), (0, .ref (zad Γ 5)), (1, .long a1)]) dX7_personNamed_1 rfl rfl (by decide) rfl ?_
  refine zj_loc [1, 2, 0] rfl ?_
  obtain ⟨n9, hn9⟩ := zLP_some hy
  have HL3 : ∀ (n : Nat) (x1 : Int32), zlp (fun s => fPl_personNamed_L2 r0 w0_1 a1 s) n x1 = some res → zR Γ 1 YX7_personNamed 2 [(0, .ref (zad Γ 5)), (1, .long a1), (3, .int x1)] [] M Q := by
    intro n
    induction n with
    | zero => intro x1 hn9; cases hn9
    | succ n ih6 =>
      intro x1 hn9
      obtain ⟨o9, hb9, h7, h8⟩ := zlp_step hn9
      have hy : fPl_personNamed_L2 r0 w0_1 a1 x1 = some o9 := hb9
      unfold fPl_personNamed_L2 at hy
      refine zj_iload_n (pc' := 3) 2 dX7_personNamed_2 rfl rfl rfl ?_
      refine zj_aload_n (pc' := 4) 0 dX7_personNamed_3 rfl rfl rfl ?_
      refine zj_fI (pc' := 7) dX7_personNamed_4 rfl flX7_32 sh5 rfl e_i5 rfl ?_
      refine zj_icmp_ge (tgt := 35) (pc' := 10) dX7_personNamed_7 rfl (by decide) (fun c9 => ?_) (fun c9 => ?_)
      · have hy := zt_t hy c9
        refine zj_iconst (pc' := 36) dX7_personNamed_35 rfl kiconst_m1 ?_
        have e9 := h8 _ (Option.some.inj hy).symm
        subst e9
        exact zj_iret dX7_personNamed_36 rfl hq
      · have hy := zt_f hy c9
        refine zj_iload_n (pc' := 11) 2 dX7_personNamed_10 rfl rfl rfl ?_
        refine zj_bipush (pc' := 13) dX7_personNamed_11 rfl kbipush_6 ?_
        refine zj_icmp_ge (tgt := 35) (pc' := 16) dX7_personNamed_13 rfl (by decide) (fun c10 => ?_) (fun c10 => ?_)
        · have hy := zt_t hy c10
          refine zj_iconst (pc' := 36) dX7_personNamed_35 rfl kiconst_m1 ?_
          have e9 := h8 _ (Option.some.inj hy).symm
          subst e9
          exact zj_iret dX7_personNamed_36 rfl hq
        · have hy := zt_f hy c10
          refine zj_aload_n (pc' := 17) 0 dX7_personNamed_16 rfl rfl rfl ?_
          refine zj_getR (pc' := 20) (j := 7) dX7_personNamed_17 rfl flX7_15 sh5 rfl ?_
          refine zj_iload_n (pc' := 21) 2 dX7_personNamed_20 rfl rfl rfl ?_
          obtain ⟨v11, hv11, hy⟩ := zt_b hy
          refine zj_rdl (pc' := 22) dX7_personNamed_21 rfl sh7 e_l7 hv11 ?_
          refine zj_lload_n (pc' := 23) 1 dX7_personNamed_22 rfl rfl rfl ?_
          refine zj_lcmp (pc' := 24) dX7_personNamed_23 rfl ?_
          refine zj_if_ne (tgt := 29) (pc' := 27) dX7_personNamed_24 rfl (by decide) (fun c12 => ?_) (fun c12 => ?_)
          · have hy := zt_f hy c12
            obtain ⟨x13, ex13⟩ : ∃ z : Int32, z = (x1 + 1) := ⟨_, rfl⟩
            have hy := zlet_at ex13 hy
            refine zj_iinc (pc' := 32) 2 (L' := [(3, .int x13), (0, .ref (zad Γ 5)), (1, .long a1)]) dX7_personNamed_29 rfl rfl (by decide) (by rw [ci1, ← ex13]; rfl) ?_
            refine zj_goto (tgt := 2) dX7_personNamed_32 (by decide) ?_
            have hn9 := h7 _ (Option.some.inj hy).symm
            refine zj_loc [1, 2, 0] rfl ?_
            exact ih6 _ hn9
          · have hy := zt_t hy c12
            refine zj_iload_n (pc' := 28) 2 dX7_personNamed_27 rfl rfl rfl ?_
            have e9 := h8 _ (Option.some.inj hy).symm
            subst e9
            exact zj_iret dX7_personNamed_28 rfl hq
  exact HL3 n9 _ hn9
set_option maxRecDepth 20000 in
theorem LX7_personNamed_5 (Γ : zG) (M : zM) (r0 : Nat → Int32) (w0_1 : Nat → Int64) (e_i5 : M.1 5 = r0) (e_l7 : M.2 7 = w0_1) (a1 : Int64) {res : Int32} (hy : (fPl_personNamed r0 w0_1 a1) = some res) : zK Γ 1 YX7_personNamed [.ref (zad Γ 5), .long a1] M (fun v N => v = some (.int res) ∧ N = M) :=
  zK_of (by decide) (Nat.le_of_ble_eq_true rfl) (TX7_personNamed_5 Γ M r0 w0_1 e_i5 e_l7 a1 hy ⟨rfl, rfl⟩)


set_option maxRecDepth 20000 in
theorem TX8_needPerson_3_5 (Γ : zG) {Q : Option Value → zM → Prop} (M : zM) (r0 : Nat → Int32) (w0 : Nat → Int64) (w0_1 : Nat → Int64) (r1 : Nat → Int32) (w1_1 : Nat → Int64) (e_i3 : M.1 3 = r0) (e_l3 : M.2 3 = w0) (e_l4 : M.2 4 = w0_1) (e_i5 : M.1 5 = r1) (e_l7 : M.2 7 = w1_1)  {res : Int32 × (Nat → Int32)} (hy : (fRd_needPerson r0 w0 w0_1 r1 w1_1) = some res) (hq : Q (some (.int res.1)) (zui M 3 res.2)) : zR Γ 3 YX8_needPerson 0 [(0, .ref (zad Γ 3)), (1, .ref (zad Γ 5))] [] M Q := by
  unfold fRd_needPerson at hy
  refine zj_aload_n (pc' := 1) 0 dX8_needPerson_0 rfl rfl rfl ?_
  obtain ⟨y1, hy1, hy⟩ := zt_b hy
  refine zj_V1 (pc' := 4) (z := YX8_needName) (As := []) (N := (zui M 3 y1.2)) dX8_needPerson_1 rfl mlX8_101 lkX8_needName sh3 ⟨_, _, rfl⟩ rfl rfl (Nat.le_of_ble_eq_true rfl) (Nat.le_of_ble_eq_true rfl) (LX8_needName_3 Γ _ r0 w0 w0_1 e_i3 e_l3 e_l4 hy1) (rfl).symm ?_
  refine zj_bif_eq (tgt := 18) (pc' := 7) dX8_needPerson_4 rfl (by decide) (fun c2 => ?_) (fun c2 => ?_)
  · have hy := zt_f hy c2
    refine zj_iconst (pc' := 19) dX8_needPerson_18 rfl kiconst_m1 ?_
    refine zj_istore_n (pc' := 20) (L' := [(2, .int (-1)), (0, .ref (zad Γ 3)), (1, .ref (zad Γ 5))]) dX8_needPerson_19 rfl rfl (by decide) rfl ?_
    refine zj_iload_n (pc' := 21) 0 dX8_needPerson_20 rfl rfl rfl ?_
    refine zj_iconst (pc' := 22) dX8_needPerson_21 rfl kiconst_m1 ?_
    refine zj_icmp_ne (tgt := 30) (pc' := 25) dX8_needPerson_22 rfl (by decide) (fun c6 => ?_) (fun c6 => ?_)
    · have hy := zt_f hy c6
      refine zj_iload_n (pc' := 31) 0 dX8_needPerson_30 rfl rfl rfl ?_
      have e9 := Option.some.inj hy
      subst e9
      exact zj_iret dX8_needPerson_31 rfl hq
    · have hy := zt_t hy c6
      refine zj_aload_n (pc' := 26) 1 dX8_needPerson_25 rfl rfl rfl ?_
      refine zj_iconst (pc' := 27) dX8_needPerson_26 rfl kiconst_3 ?_
      obtain ⟨y7, hy7, hy⟩ := zt_b hy
      refine zj_V0 (pc' := 30) (z := YX8_fail) (As := [.int 3]) (N := (zui M 3 y7)) dX8_needPerson_27 rfl mlX8_93 lkX8_fail sh3 ⟨_, _, rfl⟩ rfl rfl (Nat.le_of_ble_eq_true rfl) (Nat.le_of_ble_eq_true rfl) (LX8_fail_3 Γ _ y1.2 zr_s 3 hy7) (zm_s).symm ?_
      refine zj_iload_n (pc' := 31) 0 dX8_needPerson_30 rfl rfl rfl ?_
      have e9 := Option.some.inj hy
      subst e9
      exact zj_iret dX8_needPerson_31 rfl hq
  · have hy := zt_t hy c2
    refine zj_aload_n (pc' := 8) 1 dX8_needPerson_7 rfl rfl rfl ?_
    refine zj_aload_n (pc' := 9) 0 dX8_needPerson_8 rfl rfl rfl ?_
    refine zj_fL (pc' := 12) dX8_needPerson_9 rfl flX8_60 sh3 rfl (zq_i e_l3) rfl ?_
    obtain ⟨y3, hy3, hy⟩ := zt_b hy
    refine zj_V1 (pc' := 15) (z := YX7_personNamed) (As := [.long (w0 6)]) (N := (zui M 3 y1.2)) dX8_needPerson_12 rfl mlX8_110 lkX7_personNamed sh5 ⟨_, _, rfl⟩ rfl rfl (Nat.le_of_ble_eq_true rfl) (Nat.le_of_ble_eq_true rfl) (LX7_personNamed_5 Γ _ r1 w1_1 (zr_n rfl e_i5) (zq_i e_l7) (w0 6) hy3) rfl ?_
    refine zj_goto (tgt := 19) dX8_needPerson_15 (by decide) ?_
    refine zj_istore_n (pc' := 20) (L' := [(2, .int y3), (0, .ref (zad Γ 3)), (1, .ref (zad Γ 5))]) dX8_needPerson_19 rfl rfl (by decide) rfl ?_
    refine zj_iload_n (pc' := 21) 0 dX8_needPerson_20 rfl rfl rfl ?_
    refine zj_iconst (pc' := 22) dX8_needPerson_21 rfl kiconst_m1 ?_
    refine zj_icmp_ne (tgt := 30) (pc' := 25) dX8_needPerson_22 rfl (by decide) (fun c4 => ?_) (fun c4 => ?_)
    · have hy := zt_f hy c4
      refine zj_iload_n (pc' := 31) 0 dX8_needPerson_30 rfl rfl rfl ?_
      have e9 := Option.some.inj hy
      subst e9
      exact zj_iret dX8_needPerson_31 rfl hq
    · have hy := zt_t hy c4
      refine zj_aload_n (pc' := 26) 1 dX8_needPerson_25 rfl rfl rfl ?_
      refine zj_iconst (pc' := 27) dX8_needPerson_26 rfl kiconst_3 ?_
      obtain ⟨y5, hy5, hy⟩ := zt_b hy
      refine zj_V0 (pc' := 30) (z := YX8_fail) (As := [.int 3]) (N := (zui M 3 y5)) dX8_needPerson_27 rfl mlX8_93 lkX8_fail sh3 ⟨_, _, rfl⟩ rfl rfl (Nat.le_of_ble_eq_true rfl) (Nat.le_of_ble_eq_true rfl) (LX8_fail_3 Γ _ y1.2 zr_s 3 hy5) (zm_s).symm ?_
      refine zj_iload_n (pc' := 31) 0 dX8_needPerson_30 rfl rfl rfl ?_
      have e9 := Option.some.inj hy
      subst e9
      exact zj_iret dX8_needPerson_31 rfl hq
set_option maxRecDepth 20000 in
theorem LX8_needPerson_3_5 (Γ : zG) (M : zM) (r0 : Nat → Int32) (w0 : Nat → Int64) (w0_1 : Nat → Int64) (r1 : Nat → Int32) (w1_1 : Nat → Int64) (e_i3 : M.1 3 = r0) (e_l3 : M.2 3 = w0) (e_l4 : M.2 4 = w0_1) (e_i5 : M.1 5 = r1) (e_l7 : M.2 7 = w1_1)  {res : Int32 × (Nat → Int32)} (hy : (fRd_needPerson r0 w0 w0_1 r1 w1_1) = some res) : zK Γ 3 YX8_needPerson [.ref (zad Γ 3), .ref (zad Γ 5)] M (fun v N => v = some (.int res.1) ∧ N = (zui M 3 res.2)) :=
  zK_of (by decide) (Nat.le_of_ble_eq_true rfl) (TX8_needPerson_3_5 Γ M r0 w0 w0_1 r1 w1_1 e_i3 e_l3 e_l4 e_i5 e_l7 hy ⟨rfl, rfl⟩)


set_option maxRecDepth 20000 in
theorem TX7_cornerNamed_5 (Γ : zG) {Q : Option Value → zM → Prop} (M : zM) (r0 : Nat → Int32) (w0_0 : Nat → Int64) (e_i5 : M.1 5 = r0) (e_l6 : M.2 6 = w0_0) (a1 : Int64) {res : Int32} (hy : (fPl_cornerNamed r0 w0_0 a1) = some res) (hq : Q (some (.int res)) M) : zR Γ 1 YX7_cornerNamed 0 [(0, .ref (zad Γ 5)), (1, .long a1)] [] M Q := by
  unfold fPl_cornerNamed at hy
  refine zj_iconst (pc' := 1) dX7_cornerNamed_0 rfl kiconst_0 ?_
  refine zj_istore_n (pc' := 2) (L' := [(3, .int 0), (0, .ref (zad Γ 5)), (1, .long a1)]) dX7_cornerNamed_1 rfl rfl (by decide) rfl ?_
  refine zj_loc [1, 2, 0] rfl ?_
  obtain ⟨n9, hn9⟩ := zLP_some hy
  have HL3 : ∀ (n : Nat) (x1 : Int32), zlp (fun s => fPl_cornerNamed_L2 r0 w0_0 a1 s) n x1 = some res → zR Γ 1 YX7_cornerNamed 2 [(0, .ref (zad Γ 5)), (1, .long a1), (3, .int x1)] [] M Q := by
    intro n
    induction n with
    | zero => intro x1 hn9; cases hn9
    | succ n ih6 =>
      intro x1 hn9
      obtain ⟨o9, hb9, h7, h8⟩ := zlp_step hn9
      have hy : fPl_cornerNamed_L2 r0 w0_0 a1 x1 = some o9 := hb9
      unfold fPl_cornerNamed_L2 at hy
      refine zj_iload_n (pc' := 3) 2 dX7_cornerNamed_2 rfl rfl rfl ?_
      refine zj_aload_n (pc' := 4) 0 dX7_cornerNamed_3 rfl rfl rfl ?_
      refine zj_fI (pc' := 7) dX7_cornerNamed_4 rfl flX7_25 sh5 rfl e_i5 rfl ?_
      refine zj_icmp_ge (tgt := 35) (pc' := 10) dX7_cornerNamed_7 rfl (by decide) (fun c9 => ?_) (fun c9 => ?_)
      · have hy := zt_t hy c9
        refine zj_iconst (pc' := 36) dX7_cornerNamed_35 rfl kiconst_m1 ?_
        have e9 := h8 _ (Option.some.inj hy).symm
        subst e9
        exact zj_iret dX7_cornerNamed_36 rfl hq
      · have hy := zt_f hy c9
        refine zj_iload_n (pc' := 11) 2 dX7_cornerNamed_10 rfl rfl rfl ?_
        refine zj_bipush (pc' := 13) dX7_cornerNamed_11 rfl kbipush_8 ?_
        refine zj_icmp_ge (tgt := 35) (pc' := 16) dX7_cornerNamed_13 rfl (by decide) (fun c10 => ?_) (fun c10 => ?_)
        · have hy := zt_t hy c10
          refine zj_iconst (pc' := 36) dX7_cornerNamed_35 rfl kiconst_m1 ?_
          have e9 := h8 _ (Option.some.inj hy).symm
          subst e9
          exact zj_iret dX7_cornerNamed_36 rfl hq
        · have hy := zt_f hy c10
          refine zj_aload_n (pc' := 17) 0 dX7_cornerNamed_16 rfl rfl rfl ?_
          refine zj_getR (pc' := 20) (j := 6) dX7_cornerNamed_17 rfl flX7_9 sh5 rfl ?_
          refine zj_iload_n (pc' := 21) 2 dX7_cornerNamed_20 rfl rfl rfl ?_
          obtain ⟨v11, hv11, hy⟩ := zt_b hy
          refine zj_rdl (pc' := 22) dX7_cornerNamed_21 rfl sh6 e_l6 hv11 ?_
          refine zj_lload_n (pc' := 23) 1 dX7_cornerNamed_22 rfl rfl rfl ?_
          refine zj_lcmp (pc' := 24) dX7_cornerNamed_23 rfl ?_
          refine zj_if_ne (tgt := 29) (pc' := 27) dX7_cornerNamed_24 rfl (by decide) (fun c12 => ?_) (fun c12 => ?_)
          · have hy := zt_f hy c12
            obtain ⟨x13, ex13⟩ : ∃ z : Int32, z = (x1 + 1) := ⟨_, rfl⟩
            have hy := zlet_at ex13 hy
            refine zj_iinc (pc' := 32) 2 (L' := [(3, .int x13), (0, .ref (zad Γ 5)), (1, .long a1)]) dX7_cornerNamed_29 rfl rfl (by decide) (by rw [ci1, ← ex13]; rfl) ?_
            refine zj_goto (tgt := 2) dX7_cornerNamed_32 (by decide) ?_
            have hn9 := h7 _ (Option.some.inj hy).symm
            refine zj_loc [1, 2, 0] rfl ?_
            exact ih6 _ hn9
          · have hy := zt_t hy c12
            refine zj_iload_n (pc' := 28) 2 dX7_cornerNamed_27 rfl rfl rfl ?_
            have e9 := h8 _ (Option.some.inj hy).symm
            subst e9
            exact zj_iret dX7_cornerNamed_28 rfl hq
  exact HL3 n9 _ hn9
set_option maxRecDepth 20000 in
theorem LX7_cornerNamed_5 (Γ : zG) (M : zM) (r0 : Nat → Int32) (w0_0 : Nat → Int64) (e_i5 : M.1 5 = r0) (e_l6 : M.2 6 = w0_0) (a1 : Int64) {res : Int32} (hy : (fPl_cornerNamed r0 w0_0 a1) = some res) : zK Γ 1 YX7_cornerNamed [.ref (zad Γ 5), .long a1] M (fun v N => v = some (.int res) ∧ N = M) :=
  zK_of (by decide) (Nat.le_of_ble_eq_true rfl) (TX7_cornerNamed_5 Γ M r0 w0_0 e_i5 e_l6 a1 hy ⟨rfl, rfl⟩)


set_option maxRecDepth 20000 in
theorem TX8_needCorner_3_5 (Γ : zG) {Q : Option Value → zM → Prop} (M : zM) (r0 : Nat → Int32) (w0 : Nat → Int64) (w0_1 : Nat → Int64) (r1 : Nat → Int32) (w1_0 : Nat → Int64) (e_i3 : M.1 3 = r0) (e_l3 : M.2 3 = w0) (e_l4 : M.2 4 = w0_1) (e_i5 : M.1 5 = r1) (e_l6 : M.2 6 = w1_0)  {res : Int32 × (Nat → Int32)} (hy : (fRd_needCorner r0 w0 w0_1 r1 w1_0) = some res) (hq : Q (some (.int res.1)) (zui M 3 res.2)) : zR Γ 3 YX8_needCorner 0 [(0, .ref (zad Γ 3)), (1, .ref (zad Γ 5))] [] M Q := by
  unfold fRd_needCorner at hy
  refine zj_aload_n (pc' := 1) 0 dX8_needCorner_0 rfl rfl rfl ?_
  obtain ⟨y1, hy1, hy⟩ := zt_b hy
  refine zj_V1 (pc' := 4) (z := YX8_needName) (As := []) (N := (zui M 3 y1.2)) dX8_needCorner_1 rfl mlX8_101 lkX8_needName sh3 ⟨_, _, rfl⟩ rfl rfl (Nat.le_of_ble_eq_true rfl) (Nat.le_of_ble_eq_true rfl) (LX8_needName_3 Γ _ r0 w0 w0_1 e_i3 e_l3 e_l4 hy1) (rfl).symm ?_
  refine zj_bif_eq (tgt := 18) (pc' := 7) dX8_needCorner_4 rfl (by decide) (fun c2 => ?_) (fun c2 => ?_)
  · have hy := zt_f hy c2
    refine zj_iconst (pc' := 19) dX8_needCorner_18 rfl kiconst_m1 ?_
    refine zj_istore_n (pc' := 20) (L' := [(2, .int (-1)), (0, .ref (zad Γ 3)), (1, .ref (zad Γ 5))]) dX8_needCorner_19 rfl rfl (by decide) rfl ?_
    refine zj_iload_n (pc' := 21) 0 dX8_needCorner_20 rfl rfl rfl ?_
    refine zj_iconst (pc' := 22) dX8_needCorner_21 rfl kiconst_m1 ?_
    refine zj_icmp_ne (tgt := 30) (pc' := 25) dX8_needCorner_22 rfl (by decide) (fun c6 => ?_) (fun c6 => ?_)
    · have hy := zt_f hy c6
      refine zj_iload_n (pc' := 31) 0 dX8_needCorner_30 rfl rfl rfl ?_
      have e9 := Option.some.inj hy
      subst e9
      exact zj_iret dX8_needCorner_31 rfl hq
    · have hy := zt_t hy c6
      refine zj_aload_n (pc' := 26) 1 dX8_needCorner_25 rfl rfl rfl ?_
      refine zj_iconst (pc' := 27) dX8_needCorner_26 rfl kiconst_3 ?_
      obtain ⟨y7, hy7, hy⟩ := zt_b hy
      refine zj_V0 (pc' := 30) (z := YX8_fail) (As := [.int 3]) (N := (zui M 3 y7)) dX8_needCorner_27 rfl mlX8_93 lkX8_fail sh3 ⟨_, _, rfl⟩ rfl rfl (Nat.le_of_ble_eq_true rfl) (Nat.le_of_ble_eq_true rfl) (LX8_fail_3 Γ _ y1.2 zr_s 3 hy7) (zm_s).symm ?_
      refine zj_iload_n (pc' := 31) 0 dX8_needCorner_30 rfl rfl rfl ?_
      have e9 := Option.some.inj hy
      subst e9
      exact zj_iret dX8_needCorner_31 rfl hq
  · have hy := zt_t hy c2
    refine zj_aload_n (pc' := 8) 1 dX8_needCorner_7 rfl rfl rfl ?_
    refine zj_aload_n (pc' := 9) 0 dX8_needCorner_8 rfl rfl rfl ?_
    refine zj_fL (pc' := 12) dX8_needCorner_9 rfl flX8_60 sh3 rfl (zq_i e_l3) rfl ?_
    obtain ⟨y3, hy3, hy⟩ := zt_b hy
    refine zj_V1 (pc' := 15) (z := YX7_cornerNamed) (As := [.long (w0 6)]) (N := (zui M 3 y1.2)) dX8_needCorner_12 rfl mlX8_104 lkX7_cornerNamed sh5 ⟨_, _, rfl⟩ rfl rfl (Nat.le_of_ble_eq_true rfl) (Nat.le_of_ble_eq_true rfl) (LX7_cornerNamed_5 Γ _ r1 w1_0 (zr_n rfl e_i5) (zq_i e_l6) (w0 6) hy3) rfl ?_
    refine zj_goto (tgt := 19) dX8_needCorner_15 (by decide) ?_
    refine zj_istore_n (pc' := 20) (L' := [(2, .int y3), (0, .ref (zad Γ 3)), (1, .ref (zad Γ 5))]) dX8_needCorner_19 rfl rfl (by decide) rfl ?_
    refine zj_iload_n (pc' := 21) 0 dX8_needCorner_20 rfl rfl rfl ?_
    refine zj_iconst (pc' := 22) dX8_needCorner_21 rfl kiconst_m1 ?_
    refine zj_icmp_ne (tgt := 30) (pc' := 25) dX8_needCorner_22 rfl (by decide) (fun c4 => ?_) (fun c4 => ?_)
    · have hy := zt_f hy c4
      refine zj_iload_n (pc' := 31) 0 dX8_needCorner_30 rfl rfl rfl ?_
      have e9 := Option.some.inj hy
      subst e9
      exact zj_iret dX8_needCorner_31 rfl hq
    · have hy := zt_t hy c4
      refine zj_aload_n (pc' := 26) 1 dX8_needCorner_25 rfl rfl rfl ?_
      refine zj_iconst (pc' := 27) dX8_needCorner_26 rfl kiconst_3 ?_
      obtain ⟨y5, hy5, hy⟩ := zt_b hy
      refine zj_V0 (pc' := 30) (z := YX8_fail) (As := [.int 3]) (N := (zui M 3 y5)) dX8_needCorner_27 rfl mlX8_93 lkX8_fail sh3 ⟨_, _, rfl⟩ rfl rfl (Nat.le_of_ble_eq_true rfl) (Nat.le_of_ble_eq_true rfl) (LX8_fail_3 Γ _ y1.2 zr_s 3 hy5) (zm_s).symm ?_
      refine zj_iload_n (pc' := 31) 0 dX8_needCorner_30 rfl rfl rfl ?_
      have e9 := Option.some.inj hy
      subst e9
      exact zj_iret dX8_needCorner_31 rfl hq
set_option maxRecDepth 20000 in
theorem LX8_needCorner_3_5 (Γ : zG) (M : zM) (r0 : Nat → Int32) (w0 : Nat → Int64) (w0_1 : Nat → Int64) (r1 : Nat → Int32) (w1_0 : Nat → Int64) (e_i3 : M.1 3 = r0) (e_l3 : M.2 3 = w0) (e_l4 : M.2 4 = w0_1) (e_i5 : M.1 5 = r1) (e_l6 : M.2 6 = w1_0)  {res : Int32 × (Nat → Int32)} (hy : (fRd_needCorner r0 w0 w0_1 r1 w1_0) = some res) : zK Γ 3 YX8_needCorner [.ref (zad Γ 3), .ref (zad Γ 5)] M (fun v N => v = some (.int res.1) ∧ N = (zui M 3 res.2)) :=
  zK_of (by decide) (Nat.le_of_ble_eq_true rfl) (TX8_needCorner_3_5 Γ M r0 w0 w0_1 r1 w1_0 e_i3 e_l3 e_l4 e_i5 e_l6 hy ⟨rfl, rfl⟩)

noncomputable def fBk_readAct (r0 : Nat → Int32) (r0_2 : Nat → Int32) (r0_3 : Nat → Int32) (r1 : Nat → Int32) (w1 : Nat → Int64) (r1_0 : Nat → Int32) (r1_0_0 : Nat → Int32) (w1_1 : Nat → Int64) (r2 : Nat → Int32) (w2_0 : Nat → Int64) (w2_1 : Nat → Int64) (a3 : Int32) (a4 : Int32) : Option ((Nat → Int32) × (Nat → Int32) × (Nat → Int32) × (Nat → Int64)) :=
  (if a3 = 5 then
  (fRd_goOn r1 w1 r1_0 r1_0_0).bind (fun (y2 : (Nat → Int32) × (Nat → Int64)) =>
  (fRd_needCorner y2.1 y2.2 w1_1 r2 w2_0).bind (fun (y3 : Int32 × (Nat → Int32)) =>
  (zwr r0_2 40 (r0 4) y3.1).bind (fun (r0_2v4 : Nat → Int32) =>
  (fRd_goOn y3.2 y2.2 r1_0 r1_0_0).bind (fun (y5 : (Nat → Int32) × (Nat → Int64)) =>
  some (r0_2v4, r0_3, y5.1, y5.2)))))
  else
  (if a3 = 6 then
  (fRd_goOn r1 w1 r1_0 r1_0_0).bind (fun (y7 : (Nat → Int32) × (Nat → Int64)) =>
  some (r0_2, r0_3, y7.1, y7.2))
  else
  (if a3 = 7 then
  (fRd_goOn r1 w1 r1_0 r1_0_0).bind (fun (y9 : (Nat → Int32) × (Nat → Int64)) =>
  some (r0_2, r0_3, y9.1, y9.2))
  else
  (if a3 = 8 then
  (fRd_goOn r1 w1 r1_0 r1_0_0).bind (fun (y11 : (Nat → Int32) × (Nat → Int64)) =>
  (fRd_needPerson y11.1 y11.2 w1_1 r2 w2_1).bind (fun (y12 : Int32 × (Nat → Int32)) =>
  (zwr r0_2 40 (r0 4) y12.1).bind (fun (r0_2v13 : Nat → Int32) =>
  (zrd r0_2v13 40 (r0 4)).bind (fun (v14 : Int32) =>
  zlet (fun (r1v15 : Nat → Int32) =>
  (fRd_goOn r1v15 y11.2 r1_0 r1_0_0).bind (fun (y16 : (Nat → Int32) × (Nat → Int64)) =>
  (fRd_takeNumber y16.1 y16.2 r1_0 r1_0_0 1 5).bind (fun (y17 : Int32 × (Nat → Int32) × (Nat → Int64)) =>
  (zwr r0_3 40 (r0 4) y17.1).bind (fun (r0_3v18 : Nat → Int32) =>
  some (r0_2v13, r0_3v18, y17.2.1, y17.2.2))))) (fun J19 =>
  (if v14 = a4 then
  (fRd_fail y12.2 3).bind (fun (y21 : (Nat → Int32)) =>
  J19 y21)
  else
  J19 y12.2))))))
  else
  (if a3 = 9 then
  (fRd_takeNumber r1 w1 r1_0 r1_0_0 1 60).bind (fun (y23 : Int32 × (Nat → Int32) × (Nat → Int64)) =>
  (zwr r0_3 40 (r0 4) y23.1).bind (fun (r0_3v24 : Nat → Int32) =>
  some (r0_2, r0_3v24, y23.2.1, y23.2.2)))
  else
  (fRd_fail r1 1).bind (fun (y25 : (Nat → Int32)) =>
  some (r0_2, r0_3, y25, w1)))))))

set_option maxRecDepth 20000 in
theorem TX0_readAct_174_3_5 (Γ : zG) {Q : Option Value → zM → Prop} (M : zM) (r0 : Nat → Int32) (r0_2 : Nat → Int32) (r0_3 : Nat → Int32) (r1 : Nat → Int32) (w1 : Nat → Int64) (r1_0 : Nat → Int32) (r1_0_0 : Nat → Int32) (w1_1 : Nat → Int64) (r2 : Nat → Int32) (w2_0 : Nat → Int64) (w2_1 : Nat → Int64) (e_i174 : M.1 174 = r0) (e_i177 : M.1 177 = r0_2) (e_i178 : M.1 178 = r0_3) (e_i3 : M.1 3 = r1) (e_l3 : M.2 3 = w1) (e_i1 : M.1 1 = r1_0) (e_i2 : M.1 2 = r1_0_0) (e_l4 : M.2 4 = w1_1) (e_i5 : M.1 5 = r2) (e_l6 : M.2 6 = w2_0) (e_l7 : M.2 7 = w2_1) (a3 : Int32) (a4 : Int32) {res : (Nat → Int32) × (Nat → Int32) × (Nat → Int32) × (Nat → Int64)} (hy : (fBk_readAct r0 r0_2 r0_3 r1 w1 r1_0 r1_0_0 w1_1 r2 w2_0 w2_1 a3 a4) = some res) (hq : Q none (zui (zui (zui (zul M 3 res.2.2.2) 3 res.2.2.1) 177 res.1) 178 res.2.1)) : zR Γ 5 YX0_readAct 0 [(0, .ref (zad Γ 174)), (1, .ref (zad Γ 3)), (2, .ref (zad Γ 5)), (3, .int a3), (4, .int a4)] [] M Q := by
  unfold fBk_readAct at hy
  refine zj_iload_n (pc' := 1) 3 dX0_readAct_0 rfl rfl rfl ?_
  rcases Decidable.em (a3 = 5) with c1 | c1
  · have hy := zt_t hy c1
    refine zj_tsIn (tgt := 55) (v := 5) dX0_readAct_1 c1 (by decide) (by decide) (off := 54) (by decide) (by decide) ?_
    refine zj_aload_n (pc' := 56) 1 dX0_readAct_55 rfl rfl rfl ?_
    obtain ⟨y2, hy2, hy⟩ := zt_b hy
    refine zj_V0 (pc' := 59) (z := YX8_goOn) (As := []) (N := (zui (zul M 3 y2.2) 3 y2.1)) dX0_readAct_56 rfl mlX0_72 lkX8_goOn sh3 ⟨_, _, rfl⟩ rfl rfl (Nat.le_of_ble_eq_true rfl) (Nat.le_of_ble_eq_true rfl) (LX8_goOn_3 Γ _ r1 w1 r1_0 r1_0_0 e_i3 e_l3 e_i1 e_i2 hy2) ((zch_i rfl rfl)).symm ?_
    refine zj_aload_n (pc' := 60) 0 dX0_readAct_59 rfl rfl rfl ?_
    refine zj_getR (pc' := 63) (j := 177) dX0_readAct_60 rfl flX0_18 sh174 rfl ?_
    refine zj_aload_n (pc' := 64) 0 dX0_readAct_63 rfl rfl rfl ?_
    refine zj_fI (pc' := 67) dX0_readAct_64 rfl flX0_41 sh174 rfl (zr_n rfl (zr_l e_i174)) rfl ?_
    refine zj_aload_n (pc' := 68) 1 dX0_readAct_67 rfl rfl rfl ?_
    refine zj_aload_n (pc' := 69) 2 dX0_readAct_68 rfl rfl rfl ?_
    obtain ⟨y3, hy3, hy⟩ := zt_b hy
    refine zj_V1 (pc' := 72) (z := YX8_needCorner) (As := [.ref (zad Γ 5)]) (N := (zui (zul M 3 y2.2) 3 y3.2)) dX0_readAct_69 rfl mlX0_83 lkX8_needCorner sh3 ⟨_, _, rfl⟩ rfl rfl (Nat.le_of_ble_eq_true rfl) (Nat.le_of_ble_eq_true rfl) (LX8_needCorner_3_5 Γ _ y2.1 y2.2 w1_1 r2 w2_0 zr_s (zq_i zq_s) (zq_i (zq_n rfl e_l4)) (zr_n rfl (zr_l e_i5)) (zq_i (zq_n rfl e_l6)) hy3) (zm_s).symm ?_
    obtain ⟨r0_2v4, hr0_2v4, hy⟩ := zt_b hy
    refine zj_wri (pc' := 73) (N := (zui (zui (zul M 3 y2.2) 3 y3.2) 177 r0_2v4)) dX0_readAct_72 rfl sh177 (zr_n rfl (zr_l e_i177)) hr0_2v4 rfl ?_
    refine zj_aload_n (pc' := 74) 1 dX0_readAct_73 rfl rfl rfl ?_
    obtain ⟨y5, hy5, hy⟩ := zt_b hy
    refine zj_V0 (pc' := 77) (z := YX8_goOn) (As := []) (N := (zui (zui (zul M 3 y5.2) 3 y5.1) 177 r0_2v4)) dX0_readAct_74 rfl mlX0_72 lkX8_goOn sh3 ⟨_, _, rfl⟩ rfl rfl (Nat.le_of_ble_eq_true rfl) (Nat.le_of_ble_eq_true rfl) (LX8_goOn_3 Γ _ y3.2 y2.2 r1_0 r1_0_0 (zr_n rfl zr_s) (zq_i (zq_i zq_s)) (zr_n rfl (zr_n rfl (zr_l e_i1))) (zr_n rfl (zr_n rfl (zr_l e_i2))) hy5) ((zch_i (zm_li (zm_li zn_s)) (zm_n rfl zm_s))).symm ?_
    refine zj_goto (tgt := 151) dX0_readAct_77 (by decide) ?_
    have e9 := Option.some.inj hy
    subst e9
    refine zj_mem (N := (zui (zui (zui (zul M 3 y5.2) 3 y5.1) 177 r0_2v4) 178 r0_3)) (zself_i (zr_n rfl (zr_n rfl (zr_l e_i178))) rfl) ?_
    exact zj_vret dX0_readAct_151 rfl hq
  · have hy := zt_f hy c1
    rcases Decidable.em (a3 = 6) with c6 | c6
    · have hy := zt_t hy c6
      refine zj_tsIn (tgt := 80) (v := 6) dX0_readAct_1 c6 (by decide) (by decide) (off := 79) (by decide) (by decide) ?_
      refine zj_aload_n (pc' := 81) 1 dX0_readAct_80 rfl rfl rfl ?_
      obtain ⟨y7, hy7, hy⟩ := zt_b hy
      refine zj_V0 (pc' := 84) (z := YX8_goOn) (As := []) (N := (zui (zul M 3 y7.2) 3 y7.1)) dX0_readAct_81 rfl mlX0_72 lkX8_goOn sh3 ⟨_, _, rfl⟩ rfl rfl (Nat.le_of_ble_eq_true rfl) (Nat.le_of_ble_eq_true rfl) (LX8_goOn_3 Γ _ r1 w1 r1_0 r1_0_0 e_i3 e_l3 e_i1 e_i2 hy7) ((zch_i rfl rfl)).symm ?_
      refine zj_goto (tgt := 151) dX0_readAct_84 (by decide) ?_
      have e9 := Option.some.inj hy
      subst e9
      refine zj_mem (N := (zui (zui (zul M 3 y7.2) 3 y7.1) 177 r0_2)) (zself_i (zr_n rfl (zr_l e_i177)) rfl) ?_
      refine zj_mem (N := (zui (zui (zui (zul M 3 y7.2) 3 y7.1) 177 r0_2) 178 r0_3)) (zself_i (zr_n rfl (zr_n rfl (zr_l e_i178))) rfl) ?_
      exact zj_vret dX0_readAct_151 rfl hq
    · have hy := zt_f hy c6
      rcases Decidable.em (a3 = 7) with c8 | c8
      · have hy := zt_t hy c8
        refine zj_tsIn (tgt := 80) (v := 7) dX0_readAct_1 c8 (by decide) (by decide) (off := 79) (by decide) (by decide) ?_
        refine zj_aload_n (pc' := 81) 1 dX0_readAct_80 rfl rfl rfl ?_
        obtain ⟨y9, hy9, hy⟩ := zt_b hy
        refine zj_V0 (pc' := 84) (z := YX8_goOn) (As := []) (N := (zui (zul M 3 y9.2) 3 y9.1)) dX0_readAct_81 rfl mlX0_72 lkX8_goOn sh3 ⟨_, _, rfl⟩ rfl rfl (Nat.le_of_ble_eq_true rfl) (Nat.le_of_ble_eq_true rfl) (LX8_goOn_3 Γ _ r1 w1 r1_0 r1_0_0 e_i3 e_l3 e_i1 e_i2 hy9) ((zch_i rfl rfl)).symm ?_
        refine zj_goto (tgt := 151) dX0_readAct_84 (by decide) ?_
        have e9 := Option.some.inj hy
        subst e9
        refine zj_mem (N := (zui (zui (zul M 3 y9.2) 3 y9.1) 177 r0_2)) (zself_i (zr_n rfl (zr_l e_i177)) rfl) ?_
        refine zj_mem (N := (zui (zui (zui (zul M 3 y9.2) 3 y9.1) 177 r0_2) 178 r0_3)) (zself_i (zr_n rfl (zr_n rfl (zr_l e_i178))) rfl) ?_
        exact zj_vret dX0_readAct_151 rfl hq
      · have hy := zt_f hy c8
        rcases Decidable.em (a3 = 8) with c10 | c10
        · have hy := zt_t hy c10
          refine zj_tsIn (tgt := 87) (v := 8) dX0_readAct_1 c10 (by decide) (by decide) (off := 86) (by decide) (by decide) ?_
          refine zj_aload_n (pc' := 88) 1 dX0_readAct_87 rfl rfl rfl ?_
          obtain ⟨y11, hy11, hy⟩ := zt_b hy
          refine zj_V0 (pc' := 91) (z := YX8_goOn) (As := []) (N := (zui (zul M 3 y11.2) 3 y11.1)) dX0_readAct_88 rfl mlX0_72 lkX8_goOn sh3 ⟨_, _, rfl⟩ rfl rfl (Nat.le_of_ble_eq_true rfl) (Nat.le_of_ble_eq_true rfl) (LX8_goOn_3 Γ _ r1 w1 r1_0 r1_0_0 e_i3 e_l3 e_i1 e_i2 hy11) ((zch_i rfl rfl)).symm ?_
          refine zj_aload_n (pc' := 92) 0 dX0_readAct_91 rfl rfl rfl ?_
          refine zj_getR (pc' := 95) (j := 177) dX0_readAct_92 rfl flX0_18 sh174 rfl ?_
          refine zj_aload_n (pc' := 96) 0 dX0_readAct_95 rfl rfl rfl ?_
          refine zj_fI (pc' := 99) dX0_readAct_96 rfl flX0_41 sh174 rfl (zr_n rfl (zr_l e_i174)) rfl ?_
          refine zj_aload_n (pc' := 100) 1 dX0_readAct_99 rfl rfl rfl ?_
          refine zj_aload_n (pc' := 101) 2 dX0_readAct_100 rfl rfl rfl ?_
          obtain ⟨y12, hy12, hy⟩ := zt_b hy
          refine zj_V1 (pc' := 104) (z := YX8_needPerson) (As := [.ref (zad Γ 5)]) (N := (zui (zul M 3 y11.2) 3 y12.2)) dX0_readAct_101 rfl mlX0_65 lkX8_needPerson sh3 ⟨_, _, rfl⟩ rfl rfl (Nat.le_of_ble_eq_true rfl) (Nat.le_of_ble_eq_true rfl) (LX8_needPerson_3_5 Γ _ y11.1 y11.2 w1_1 r2 w2_1 zr_s (zq_i zq_s) (zq_i (zq_n rfl e_l4)) (zr_n rfl (zr_l e_i5)) (zq_i (zq_n rfl e_l7)) hy12) (zm_s).symm ?_
          obtain ⟨r0_2v13, hr0_2v13, hy⟩ := zt_b hy
          refine zj_wri (pc' := 105) (N := (zui (zui (zul M 3 y11.2) 3 y12.2) 177 r0_2v13)) dX0_readAct_104 rfl sh177 (zr_n rfl (zr_l e_i177)) hr0_2v13 rfl ?_
          refine zj_aload_n (pc' := 106) 0 dX0_readAct_105 rfl rfl rfl ?_
          refine zj_getR (pc' := 109) (j := 177) dX0_readAct_106 rfl flX0_18 sh174 rfl ?_
          refine zj_aload_n (pc' := 110) 0 dX0_readAct_109 rfl rfl rfl ?_
          refine zj_fI (pc' := 113) dX0_readAct_110 rfl flX0_41 sh174 rfl (zr_n rfl (zr_n rfl (zr_l e_i174))) rfl ?_
          obtain ⟨v14, hv14, hy⟩ := zt_b hy
          refine zj_rdi (pc' := 114) dX0_readAct_113 rfl sh177 zr_s hv14 ?_
          refine zj_iload (pc' := 116) 4 dX0_readAct_114 rfl rfl ?_
          obtain ⟨J19, eJ19, hy⟩ := zlet_ex hy
          have HJ19 : ∀ (r1v15 : Nat → Int32), J19 r1v15 = some res → zR Γ 5 YX0_readAct 124 [(0, .ref (zad Γ 174)), (1, .ref (zad Γ 3))] [] (zui (zui (zul M 3 y11.2) 3 r1v15) 177 r0_2v13) Q := by
            intro r1v15 hy
            have hy := zap1 eJ19 hy
            refine zj_aload_n (pc' := 125) 1 dX0_readAct_124 rfl rfl rfl ?_
            obtain ⟨y16, hy16, hy⟩ := zt_b hy
            refine zj_V0 (pc' := 128) (z := YX8_goOn) (As := []) (N := (zui (zui (zul M 3 y16.2) 3 y16.1) 177 r0_2v13)) dX0_readAct_125 rfl mlX0_72 lkX8_goOn sh3 ⟨_, _, rfl⟩ rfl rfl (Nat.le_of_ble_eq_true rfl) (Nat.le_of_ble_eq_true rfl) (LX8_goOn_3 Γ _ r1v15 y11.2 r1_0 r1_0_0 (zr_n rfl zr_s) (zq_i (zq_i zq_s)) (zr_n rfl (zr_n rfl (zr_l e_i1))) (zr_n rfl (zr_n rfl (zr_l e_i2))) hy16) ((zch_i (zm_li (zm_li zn_s)) (zm_n rfl zm_s))).symm ?_
            refine zj_aload_n (pc' := 129) 0 dX0_readAct_128 rfl rfl rfl ?_
            refine zj_getR (pc' := 132) (j := 178) dX0_readAct_129 rfl flX0_21 sh174 rfl ?_
            refine zj_aload_n (pc' := 133) 0 dX0_readAct_132 rfl rfl rfl ?_
            refine zj_fI (pc' := 136) dX0_readAct_133 rfl flX0_41 sh174 rfl (zr_n rfl (zr_n rfl (zr_l e_i174))) rfl ?_
            refine zj_aload_n (pc' := 137) 1 dX0_readAct_136 rfl rfl rfl ?_
            refine zj_iconst (pc' := 138) dX0_readAct_137 rfl kiconst_1 ?_
            refine zj_iconst (pc' := 139) dX0_readAct_138 rfl kiconst_5 ?_
            obtain ⟨y17, hy17, hy⟩ := zt_b hy
            refine zj_V1 (pc' := 142) (z := YX8_takeNumber) (As := [.int 1, .int 5]) (N := (zui (zui (zul M 3 y17.2.2) 3 y17.2.1) 177 r0_2v13)) dX0_readAct_139 rfl mlX0_79 lkX8_takeNumber sh3 ⟨_, _, rfl⟩ rfl rfl (Nat.le_of_ble_eq_true rfl) (Nat.le_of_ble_eq_true rfl) (LX8_takeNumber_3 Γ _ y16.1 y16.2 r1_0 r1_0_0 (zr_n rfl zr_s) (zq_i (zq_i zq_s)) (zr_n rfl (zr_n rfl (zr_l e_i1))) (zr_n rfl (zr_n rfl (zr_l e_i2))) 1 5 hy17) ((zch_i (zm_li (zm_li zn_s)) (zm_n rfl zm_s))).symm ?_
            obtain ⟨r0_3v18, hr0_3v18, hy⟩ := zt_b hy
            refine zj_wri (pc' := 143) (N := (zui (zui (zui (zul M 3 y17.2.2) 3 y17.2.1) 177 r0_2v13) 178 r0_3v18)) dX0_readAct_142 rfl sh178 (zr_n rfl (zr_n rfl (zr_l e_i178))) hr0_3v18 rfl ?_
            refine zj_goto (tgt := 151) dX0_readAct_143 (by decide) ?_
            have e9 := Option.some.inj hy
            subst e9
            exact zj_vret dX0_readAct_151 rfl hq
          refine zj_icmp_ne (tgt := 124) (pc' := 119) dX0_readAct_116 rfl (by decide) (fun c20 => ?_) (fun c20 => ?_)
          · have hy := zt_f hy c20
            refine zj_loc [0, 1] rfl ?_
            exact HJ19 y12.2 hy
          · have hy := zt_t hy c20
            refine zj_aload_n (pc' := 120) 1 dX0_readAct_119 rfl rfl rfl ?_
            refine zj_iconst (pc' := 121) dX0_readAct_120 rfl kiconst_3 ?_
            obtain ⟨y21, hy21, hy⟩ := zt_b hy
            refine zj_V0 (pc' := 124) (z := YX8_fail) (As := [.int 3]) (N := (zui (zui (zul M 3 y11.2) 3 y21) 177 r0_2v13)) dX0_readAct_121 rfl mlX0_69 lkX8_fail sh3 ⟨_, _, rfl⟩ rfl rfl (Nat.le_of_ble_eq_true rfl) (Nat.le_of_ble_eq_true rfl) (LX8_fail_3 Γ _ y12.2 (zr_n rfl zr_s) 3 hy21) ((zm_n rfl zm_s)).symm ?_
            refine zj_loc [0, 1] rfl ?_
            exact HJ19 y21 hy
        · have hy := zt_f hy c10
          rcases Decidable.em (a3 = 9) with c22 | c22
          · have hy := zt_t hy c22
            refine zj_tsIn (tgt := 36) (v := 9) dX0_readAct_1 c22 (by decide) (by decide) (off := 35) (by decide) (by decide) ?_
            refine zj_aload_n (pc' := 37) 0 dX0_readAct_36 rfl rfl rfl ?_
            refine zj_getR (pc' := 40) (j := 178) dX0_readAct_37 rfl flX0_21 sh174 rfl ?_
            refine zj_aload_n (pc' := 41) 0 dX0_readAct_40 rfl rfl rfl ?_
            refine zj_fI (pc' := 44) dX0_readAct_41 rfl flX0_41 sh174 rfl e_i174 rfl ?_
            refine zj_aload_n (pc' := 45) 1 dX0_readAct_44 rfl rfl rfl ?_
            refine zj_iconst (pc' := 46) dX0_readAct_45 rfl kiconst_1 ?_
            refine zj_bipush (pc' := 48) dX0_readAct_46 rfl kbipush_60 ?_
            obtain ⟨y23, hy23, hy⟩ := zt_b hy
            refine zj_V1 (pc' := 51) (z := YX8_takeNumber) (As := [.int 1, .int 60]) (N := (zui (zul M 3 y23.2.2) 3 y23.2.1)) dX0_readAct_48 rfl mlX0_79 lkX8_takeNumber sh3 ⟨_, _, rfl⟩ rfl rfl (Nat.le_of_ble_eq_true rfl) (Nat.le_of_ble_eq_true rfl) (LX8_takeNumber_3 Γ _ r1 w1 r1_0 r1_0_0 e_i3 e_l3 e_i1 e_i2 1 60 hy23) ((zch_i rfl rfl)).symm ?_
            obtain ⟨r0_3v24, hr0_3v24, hy⟩ := zt_b hy
            refine zj_wri (pc' := 52) (N := (zui (zui (zul M 3 y23.2.2) 3 y23.2.1) 178 r0_3v24)) dX0_readAct_51 rfl sh178 (zr_n rfl (zr_l e_i178)) hr0_3v24 rfl ?_
            refine zj_goto (tgt := 151) dX0_readAct_52 (by decide) ?_
            have e9 := Option.some.inj hy
            subst e9
            refine zj_mem (N := (zui (zui (zui (zul M 3 y23.2.2) 3 y23.2.1) 177 r0_2) 178 r0_3v24)) (zself_i (zr_n rfl (zr_n rfl (zr_l e_i177))) (zm_n rfl rfl)) ?_
            exact zj_vret dX0_readAct_151 rfl hq
          · have hy := zt_f hy c22
            refine zj_tsOut (tgt := 146) dX0_readAct_1 (by have q0 := zne (k := 5) c1 (by decide); have q1 := zne (k := 6) c6 (by decide); have q2 := zne (k := 7) c8 (by decide); have q3 := zne (k := 8) c10 (by decide); have q4 := zne (k := 9) c22 (by decide); omega) (by decide) ?_
            refine zj_aload_n (pc' := 147) 1 dX0_readAct_146 rfl rfl rfl ?_
            refine zj_iconst (pc' := 148) dX0_readAct_147 rfl kiconst_1 ?_
            obtain ⟨y25, hy25, hy⟩ := zt_b hy
            refine zj_V0 (pc' := 151) (z := YX8_fail) (As := [.int 1]) (N := (zui M 3 y25)) dX0_readAct_148 rfl mlX0_69 lkX8_fail sh3 ⟨_, _, rfl⟩ rfl rfl (Nat.le_of_ble_eq_true rfl) (Nat.le_of_ble_eq_true rfl) (LX8_fail_3 Γ _ r1 e_i3 1 hy25) (rfl).symm ?_
            have e9 := Option.some.inj hy
            subst e9
            refine zj_mem (N := (zui (zul M 3 w1) 3 y25)) (zself_l (zq_i e_l3) (zm_li rfl)) ?_
            refine zj_mem (N := (zui (zui (zul M 3 w1) 3 y25) 177 r0_2)) (zself_i (zr_n rfl (zr_l e_i177)) rfl) ?_
            refine zj_mem (N := (zui (zui (zui (zul M 3 w1) 3 y25) 177 r0_2) 178 r0_3)) (zself_i (zr_n rfl (zr_n rfl (zr_l e_i178))) rfl) ?_
            exact zj_vret dX0_readAct_151 rfl hq
set_option maxRecDepth 20000 in
theorem LX0_readAct_174_3_5 (Γ : zG) (M : zM) (r0 : Nat → Int32) (r0_2 : Nat → Int32) (r0_3 : Nat → Int32) (r1 : Nat → Int32) (w1 : Nat → Int64) (r1_0 : Nat → Int32) (r1_0_0 : Nat → Int32) (w1_1 : Nat → Int64) (r2 : Nat → Int32) (w2_0 : Nat → Int64) (w2_1 : Nat → Int64) (e_i174 : M.1 174 = r0) (e_i177 : M.1 177 = r0_2) (e_i178 : M.1 178 = r0_3) (e_i3 : M.1 3 = r1) (e_l3 : M.2 3 = w1) (e_i1 : M.1 1 = r1_0) (e_i2 : M.1 2 = r1_0_0) (e_l4 : M.2 4 = w1_1) (e_i5 : M.1 5 = r2) (e_l6 : M.2 6 = w2_0) (e_l7 : M.2 7 = w2_1) (a3 : Int32) (a4 : Int32) {res : (Nat → Int32) × (Nat → Int32) × (Nat → Int32) × (Nat → Int64)} (hy : (fBk_readAct r0 r0_2 r0_3 r1 w1 r1_0 r1_0_0 w1_1 r2 w2_0 w2_1 a3 a4) = some res) : zK Γ 5 YX0_readAct [.ref (zad Γ 174), .ref (zad Γ 3), .ref (zad Γ 5), .int a3, .int a4] M (fun v N => v = none ∧ N = (zui (zui (zui (zul M 3 res.2.2.2) 3 res.2.2.1) 177 res.1) 178 res.2.1)) :=
  zK_of (by decide) (Nat.le_of_ble_eq_true rfl) (TX0_readAct_174_3_5 Γ M r0 r0_2 r0_3 r1 w1 r1_0 r1_0_0 w1_1 r2 w2_0 w2_1 e_i174 e_i177 e_i178 e_i3 e_l3 e_i1 e_i2 e_l4 e_i5 e_l6 e_l7 a3 a4 hy ⟨rfl, rfl⟩)

noncomputable def fBk_readLine (r0 : Nat → Int32) (r0_0 : Nat → Int32) (r0_1 : Nat → Int32) (r0_2 : Nat → Int32) (r0_3 : Nat → Int32) (r1 : Nat → Int32) (w1 : Nat → Int64) (r1_0 : Nat → Int32) (r1_0_0 : Nat → Int32) (w1_1 : Nat → Int64) (r2 : Nat → Int32) (w2_0 : Nat → Int64) (w2_1 : Nat → Int64) : Option ((Nat → Int32) × (Nat → Int32) × (Nat → Int32) × (Nat → Int32) × (Nat → Int32) × (Nat → Int64)) :=
  (fRd_toldWord r1 w1 w1_1).bind (fun (y1 : Int32) =>
  zlet (fun (r1v2 : Nat → Int32) (x3 : Int32) =>
  (if (r0 4) < 40 then
  (fRd_goOn r1v2 w1 r1_0 r1_0_0).bind (fun (y5 : (Nat → Int32) × (Nat → Int64)) =>
  zlet (fun (x6 : Int32) =>
  (zwr r0_0 40 (r0 4) x6).bind (fun (r0_0v7 : Nat → Int32) =>
  (zwr r0_1 40 (r0 4) x3).bind (fun (r0_1v8 : Nat → Int32) =>
  (fBk_readAct r0 r0_2 r0_3 y5.1 y5.2 r1_0 r1_0_0 w1_1 r2 w2_0 w2_1 x6 x3).bind (fun (y9 : (Nat → Int32) × (Nat → Int32) × (Nat → Int32) × (Nat → Int64)) =>
  some (r0_0v7, r0_1v8, y9.1, y9.2.1, y9.2.2.1, y9.2.2.2))))) (fun J10 =>
  (if y1 = 9 then
  J10 y1
  else
  (fRd_toldWord y5.1 y5.2 w1_1).bind (fun (y12 : Int32) =>
  J10 y12))))
  else
  (fRd_fail r1v2 4).bind (fun (y13 : (Nat → Int32)) =>
  some (r0_0, r0_1, r0_2, r0_3, y13, w1)))) (fun J14 =>
  (if y1 = 9 then
  J14 r1 (-1)
  else
  (fRd_needPerson r1 w1 w1_1 r2 w2_1).bind (fun (y16 : Int32 × (Nat → Int32)) =>
  zlet y16.1 (fun (x17 : Int32) =>
  J14 y16.2 x17)))))

set_option maxRecDepth 20000 in
theorem TX0_readLine_174_3_5 (Γ : zG) {Q : Option Value → zM → Prop} (M : zM) (r0 : Nat → Int32) (r0_0 : Nat → Int32) (r0_1 : Nat → Int32) (r0_2 : Nat → Int32) (r0_3 : Nat → Int32) (r1 : Nat → Int32) (w1 : Nat → Int64) (r1_0 : Nat → Int32) (r1_0_0 : Nat → Int32) (w1_1 : Nat → Int64) (r2 : Nat → Int32) (w2_0 : Nat → Int64) (w2_1 : Nat → Int64) (e_i174 : M.1 174 = r0) (e_i175 : M.1 175 = r0_0) (e_i176 : M.1 176 = r0_1) (e_i177 : M.1 177 = r0_2) (e_i178 : M.1 178 = r0_3) (e_i3 : M.1 3 = r1) (e_l3 : M.2 3 = w1) (e_i1 : M.1 1 = r1_0) (e_i2 : M.1 2 = r1_0_0) (e_l4 : M.2 4 = w1_1) (e_i5 : M.1 5 = r2) (e_l6 : M.2 6 = w2_0) (e_l7 : M.2 7 = w2_1)  {res : (Nat → Int32) × (Nat → Int32) × (Nat → Int32) × (Nat → Int32) × (Nat → Int32) × (Nat → Int64)} (hy : (fBk_readLine r0 r0_0 r0_1 r0_2 r0_3 r1 w1 r1_0 r1_0_0 w1_1 r2 w2_0 w2_1) = some res) (hq : Q none (zui (zui (zui (zui (zui (zul M 3 res.2.2.2.2.2) 3 res.2.2.2.2.1) 175 res.1) 176 res.2.1) 177 res.2.2.1) 178 res.2.2.2.1)) : zR Γ 6 YX0_readLine 0 [(0, .ref (zad Γ 174)), (1, .ref (zad Γ 3)), (2, .ref (zad Γ 5))] [] M Q := by
  unfold fBk_readLine at hy
  refine zj_iconst (pc' := 1) dX0_readLine_0 rfl kiconst_m1 ?_
  refine zj_istore_n (pc' := 2) (L' := [(3, .int (-1)), (0, .ref (zad Γ 174)), (1, .ref (zad Γ 3)), (2, .ref (zad Γ 5))]) dX0_readLine_1 rfl rfl (by decide) rfl ?_
  refine zj_aload_n (pc' := 3) 2 dX0_readLine_2 rfl rfl rfl ?_
  obtain ⟨y1, hy1, hy⟩ := zt_b hy
  refine zj_V1 (pc' := 6) (z := YX8_toldWord) (As := []) (N := M) dX0_readLine_3 rfl mlX0_61 lkX8_toldWord sh3 ⟨_, _, rfl⟩ rfl rfl (Nat.le_of_ble_eq_true rfl) (Nat.le_of_ble_eq_true rfl) (LX8_toldWord_3 Γ _ r1 w1 w1_1 e_i3 e_l3 e_l4 hy1) rfl ?_
  refine zj_istore (pc' := 8) (L' := [(4, .int y1), (3, .int (-1)), (0, .ref (zad Γ 174)), (1, .ref (zad Γ 3)), (2, .ref (zad Γ 5))]) dX0_readLine_6 rfl (by decide) rfl ?_
  refine zj_iload (pc' := 10) 0 dX0_readLine_8 rfl rfl ?_
  refine zj_bipush (pc' := 12) dX0_readLine_10 rfl kbipush_9 ?_
  obtain ⟨J14, eJ14, hy⟩ := zlet_ex hy
  have HJ14 : ∀ (r1v2 : Nat → Int32) (x3 : Int32), J14 r1v2 x3 = some res → zR Γ 6 YX0_readLine 21 [(0, .ref (zad Γ 174)), (1, .ref (zad Γ 3)), (2, .ref (zad Γ 5)), (3, .int x3), (4, .int y1)] [] (zui M 3 r1v2) Q := by
    intro r1v2 x3 hy
    have hy := zap2 eJ14 hy
    refine zj_aload_n (pc' := 22) 0 dX0_readLine_21 rfl rfl rfl ?_
    refine zj_fI (pc' := 25) dX0_readLine_22 rfl flX0_41 sh174 rfl (zr_n rfl e_i174) rfl ?_
    refine zj_bipush (pc' := 27) dX0_readLine_25 rfl kbipush_40 ?_
    refine zj_icmp_lt (tgt := 36) (pc' := 30) dX0_readLine_27 rfl (by decide) (fun c4 => ?_) (fun c4 => ?_)
    · have hy := zt_t hy c4
      refine zj_aload_n (pc' := 37) 1 dX0_readLine_36 rfl rfl rfl ?_
      obtain ⟨y5, hy5, hy⟩ := zt_b hy
      refine zj_V0 (pc' := 40) (z := YX8_goOn) (As := []) (N := (zui (zul M 3 y5.2) 3 y5.1)) dX0_readLine_37 rfl mlX0_72 lkX8_goOn sh3 ⟨_, _, rfl⟩ rfl rfl (Nat.le_of_ble_eq_true rfl) (Nat.le_of_ble_eq_true rfl) (LX8_goOn_3 Γ _ r1v2 w1 r1_0 r1_0_0 zr_s (zq_i e_l3) (zr_n rfl e_i1) (zr_n rfl e_i2) hy5) ((zch_i (zm_li rfl) zm_s)).symm ?_
      refine zj_iload (pc' := 42) 4 dX0_readLine_40 rfl rfl ?_
      refine zj_bipush (pc' := 44) dX0_readLine_42 rfl kbipush_9 ?_
      obtain ⟨J10, eJ10, hy⟩ := zlet_ex hy
      have HJ10 : ∀ (x6 : Int32), J10 x6 = some res → zR Γ 6 YX0_readLine 53 [(0, .ref (zad Γ 174)), (1, .ref (zad Γ 3)), (2, .ref (zad Γ 5)), (3, .int x3), (4, .int x6)] [] (zui (zul M 3 y5.2) 3 y5.1) Q := by
        intro x6 hy
        have hy := zap1 eJ10 hy
        refine zj_aload_n (pc' := 54) 0 dX0_readLine_53 rfl rfl rfl ?_
        refine zj_getR (pc' := 57) (j := 175) dX0_readLine_54 rfl flX0_11 sh174 rfl ?_
        refine zj_aload_n (pc' := 58) 0 dX0_readLine_57 rfl rfl rfl ?_
        refine zj_fI (pc' := 61) dX0_readLine_58 rfl flX0_41 sh174 rfl (zr_n rfl (zr_l e_i174)) rfl ?_
        refine zj_iload (pc' := 63) 4 dX0_readLine_61 rfl rfl ?_
        obtain ⟨r0_0v7, hr0_0v7, hy⟩ := zt_b hy
        refine zj_wri (pc' := 64) (N := (zui (zui (zul M 3 y5.2) 3 y5.1) 175 r0_0v7)) dX0_readLine_63 rfl sh175 (zr_n rfl (zr_l e_i175)) hr0_0v7 rfl ?_
        refine zj_aload_n (pc' := 65) 0 dX0_readLine_64 rfl rfl rfl ?_
        refine zj_getR (pc' := 68) (j := 176) dX0_readLine_65 rfl flX0_15 sh174 rfl ?_
        refine zj_aload_n (pc' := 69) 0 dX0_readLine_68 rfl rfl rfl ?_
        refine zj_fI (pc' := 72) dX0_readLine_69 rfl flX0_41 sh174 rfl (zr_n rfl (zr_n rfl (zr_l e_i174))) rfl ?_
        refine zj_iload_n (pc' := 73) 3 dX0_readLine_72 rfl rfl rfl ?_
        obtain ⟨r0_1v8, hr0_1v8, hy⟩ := zt_b hy
        refine zj_wri (pc' := 74) (N := (zui (zui (zui (zul M 3 y5.2) 3 y5.1) 175 r0_0v7) 176 r0_1v8)) dX0_readLine_73 rfl sh176 (zr_n rfl (zr_n rfl (zr_l e_i176))) hr0_1v8 rfl ?_
        refine zj_aload_n (pc' := 75) 0 dX0_readLine_74 rfl rfl rfl ?_
        refine zj_aload_n (pc' := 76) 1 dX0_readLine_75 rfl rfl rfl ?_
        refine zj_aload_n (pc' := 77) 2 dX0_readLine_76 rfl rfl rfl ?_
        refine zj_iload (pc' := 79) 4 dX0_readLine_77 rfl rfl ?_
        refine zj_iload_n (pc' := 80) 3 dX0_readLine_79 rfl rfl rfl ?_
        obtain ⟨y9, hy9, hy⟩ := zt_b hy
        refine zj_V0 (pc' := 83) (z := YX0_readAct) (As := [.ref (zad Γ 3), .ref (zad Γ 5), .int x6, .int x3]) (N := (zui (zui (zui (zui (zui (zul M 3 y9.2.2.2) 3 y9.2.2.1) 175 r0_0v7) 176 r0_1v8) 177 y9.1) 178 y9.2.1)) dX0_readLine_80 rfl mlX0_75 lkX0_readAct sh174 ⟨_, _, rfl⟩ rfl rfl (Nat.le_of_ble_eq_true rfl) (Nat.le_of_ble_eq_true rfl) (LX0_readAct_174_3_5 Γ _ r0 r0_2 r0_3 y5.1 y5.2 r1_0 r1_0_0 w1_1 r2 w2_0 w2_1 (zr_n rfl (zr_n rfl (zr_n rfl (zr_l e_i174)))) (zr_n rfl (zr_n rfl (zr_n rfl (zr_l e_i177)))) (zr_n rfl (zr_n rfl (zr_n rfl (zr_l e_i178)))) (zr_n rfl (zr_n rfl zr_s)) (zq_i (zq_i (zq_i zq_s))) (zr_n rfl (zr_n rfl (zr_n rfl (zr_l e_i1)))) (zr_n rfl (zr_n rfl (zr_n rfl (zr_l e_i2)))) (zq_i (zq_i (zq_i (zq_n rfl e_l4)))) (zr_n rfl (zr_n rfl (zr_n rfl (zr_l e_i5)))) (zq_i (zq_i (zq_i (zq_n rfl e_l6)))) (zq_i (zq_i (zq_i (zq_n rfl e_l7)))) x6 x3 hy9) ((zch_i (zch_i (zch_i (zm_li (zm_li (zm_li zn_s))) (zm_n rfl (zm_n rfl zm_s))) rfl) rfl)).symm ?_
        have e9 := Option.some.inj hy
        subst e9
        exact zj_vret dX0_readLine_83 rfl hq
      refine zj_icmp_eq (tgt := 53) (pc' := 47) dX0_readLine_44 rfl (by decide) (fun c11 => ?_) (fun c11 => ?_)
      · have hy := zt_t hy c11
        exact HJ10 y1 hy
      · have hy := zt_f hy c11
        refine zj_aload_n (pc' := 48) 1 dX0_readLine_47 rfl rfl rfl ?_
        obtain ⟨y12, hy12, hy⟩ := zt_b hy
        refine zj_V1 (pc' := 51) (z := YX8_toldWord) (As := []) (N := (zui (zul M 3 y5.2) 3 y5.1)) dX0_readLine_48 rfl mlX0_61 lkX8_toldWord sh3 ⟨_, _, rfl⟩ rfl rfl (Nat.le_of_ble_eq_true rfl) (Nat.le_of_ble_eq_true rfl) (LX8_toldWord_3 Γ _ y5.1 y5.2 w1_1 zr_s (zq_i zq_s) (zq_i (zq_n rfl e_l4)) hy12) rfl ?_
        refine zj_istore (pc' := 53) (L' := [(4, .int y12), (0, .ref (zad Γ 174)), (1, .ref (zad Γ 3)), (2, .ref (zad Γ 5)), (3, .int x3)]) dX0_readLine_51 rfl (by decide) rfl ?_
        refine zj_loc [1, 2, 3, 4, 0] rfl ?_
        exact HJ10 y12 hy
    · have hy := zt_f hy c4
      refine zj_aload_n (pc' := 31) 1 dX0_readLine_30 rfl rfl rfl ?_
      refine zj_iconst (pc' := 32) dX0_readLine_31 rfl kiconst_4 ?_
      obtain ⟨y13, hy13, hy⟩ := zt_b hy
      refine zj_V0 (pc' := 35) (z := YX8_fail) (As := [.int 4]) (N := (zui M 3 y13)) dX0_readLine_32 rfl mlX0_69 lkX8_fail sh3 ⟨_, _, rfl⟩ rfl rfl (Nat.le_of_ble_eq_true rfl) (Nat.le_of_ble_eq_true rfl) (LX8_fail_3 Γ _ r1v2 zr_s 4 hy13) (zm_s).symm ?_
      have e9 := Option.some.inj hy
      subst e9
      refine zj_mem (N := (zui (zul M 3 w1) 3 y13)) (zself_l (zq_i e_l3) (zm_li rfl)) ?_
      refine zj_mem (N := (zui (zui (zul M 3 w1) 3 y13) 175 r0_0)) (zself_i (zr_n rfl (zr_l e_i175)) rfl) ?_
      refine zj_mem (N := (zui (zui (zui (zul M 3 w1) 3 y13) 175 r0_0) 176 r0_1)) (zself_i (zr_n rfl (zr_n rfl (zr_l e_i176))) rfl) ?_
      refine zj_mem (N := (zui (zui (zui (zui (zul M 3 w1) 3 y13) 175 r0_0) 176 r0_1) 177 r0_2)) (zself_i (zr_n rfl (zr_n rfl (zr_n rfl (zr_l e_i177)))) rfl) ?_
      refine zj_mem (N := (zui (zui (zui (zui (zui (zul M 3 w1) 3 y13) 175 r0_0) 176 r0_1) 177 r0_2) 178 r0_3)) (zself_i (zr_n rfl (zr_n rfl (zr_n rfl (zr_n rfl (zr_l e_i178))))) rfl) ?_
      exact zj_vret dX0_readLine_35 rfl hq
  refine zj_icmp_eq (tgt := 21) (pc' := 15) dX0_readLine_12 rfl (by decide) (fun c15 => ?_) (fun c15 => ?_)
  · have hy := zt_t hy c15
    refine zj_loc [2, 3, 4, 1, 0] rfl ?_
    refine zj_mem (N := (zui M 3 r1)) (zself_i e_i3 rfl) ?_
    exact HJ14 r1 (-1) hy
  · have hy := zt_f hy c15
    refine zj_aload_n (pc' := 16) 3 dX0_readLine_15 rfl rfl rfl ?_
    refine zj_aload_n (pc' := 17) 4 dX0_readLine_16 rfl rfl rfl ?_
    obtain ⟨y16, hy16, hy⟩ := zt_b hy
    refine zj_V1 (pc' := 20) (z := YX8_needPerson) (As := [.ref (zad Γ 5)]) (N := (zui M 3 y16.2)) dX0_readLine_17 rfl mlX0_65 lkX8_needPerson sh3 ⟨_, _, rfl⟩ rfl rfl (Nat.le_of_ble_eq_true rfl) (Nat.le_of_ble_eq_true rfl) (LX8_needPerson_3_5 Γ _ r1 w1 w1_1 r2 w2_1 e_i3 e_l3 e_l4 e_i5 e_l7 hy16) (rfl).symm ?_
    refine zj_topi (fun x17 ex17 => ?_)
    have hy := zlet_at ex17 hy
    refine zj_istore_n (pc' := 21) (L' := [(3, .int x17), (4, .int y1), (0, .ref (zad Γ 174)), (1, .ref (zad Γ 3)), (2, .ref (zad Γ 5))]) dX0_readLine_20 rfl rfl (by decide) rfl ?_
    refine zj_loc [2, 3, 4, 0, 1] rfl ?_
    exact HJ14 y16.2 x17 hy
set_option maxRecDepth 20000 in
theorem LX0_readLine_174_3_5 (Γ : zG) (M : zM) (r0 : Nat → Int32) (r0_0 : Nat → Int32) (r0_1 : Nat → Int32) (r0_2 : Nat → Int32) (r0_3 : Nat → Int32) (r1 : Nat → Int32) (w1 : Nat → Int64) (r1_0 : Nat → Int32) (r1_0_0 : Nat → Int32) (w1_1 : Nat → Int64) (r2 : Nat → Int32) (w2_0 : Nat → Int64) (w2_1 : Nat → Int64) (e_i174 : M.1 174 = r0) (e_i175 : M.1 175 = r0_0) (e_i176 : M.1 176 = r0_1) (e_i177 : M.1 177 = r0_2) (e_i178 : M.1 178 = r0_3) (e_i3 : M.1 3 = r1) (e_l3 : M.2 3 = w1) (e_i1 : M.1 1 = r1_0) (e_i2 : M.1 2 = r1_0_0) (e_l4 : M.2 4 = w1_1) (e_i5 : M.1 5 = r2) (e_l6 : M.2 6 = w2_0) (e_l7 : M.2 7 = w2_1)  {res : (Nat → Int32) × (Nat → Int32) × (Nat → Int32) × (Nat → Int32) × (Nat → Int32) × (Nat → Int64)} (hy : (fBk_readLine r0 r0_0 r0_1 r0_2 r0_3 r1 w1 r1_0 r1_0_0 w1_1 r2 w2_0 w2_1) = some res) : zK Γ 6 YX0_readLine [.ref (zad Γ 174), .ref (zad Γ 3), .ref (zad Γ 5)] M (fun v N => v = none ∧ N = (zui (zui (zui (zui (zui (zul M 3 res.2.2.2.2.2) 3 res.2.2.2.2.1) 175 res.1) 176 res.2.1) 177 res.2.2.1) 178 res.2.2.2.1)) :=
  zK_of (by decide) (Nat.le_of_ble_eq_true rfl) (TX0_readLine_174_3_5 Γ M r0 r0_0 r0_1 r0_2 r0_3 r1 w1 r1_0 r1_0_0 w1_1 r2 w2_0 w2_1 e_i174 e_i175 e_i176 e_i177 e_i178 e_i3 e_l3 e_i1 e_i2 e_l4 e_i5 e_l6 e_l7 hy ⟨rfl, rfl⟩)

noncomputable def fBk_readFrom_L7 (r1_0 : Nat → Int32) (r1_0_0 : Nat → Int32) (w1_1 : Nat → Int64) (r2 : Nat → Int32) (w2_0 : Nat → Int64) (w2_1 : Nat → Int64) (r0v2 : Nat → Int32) (r0_0v3 : Nat → Int32) (r0_1v4 : Nat → Int32) (r0_2v5 : Nat → Int32) (r0_3v6 : Nat → Int32) (r1v7 : Nat → Int32) (w1v8 : Nat → Int64) (x9 : Int32) : Option (((Nat → Int32) × (Nat → Int32) × (Nat → Int32) × (Nat → Int32) × (Nat → Int32) × (Nat → Int32) × (Nat → Int64) × Int32) ⊕ ((Nat → Int32) × (Nat → Int32) × (Nat → Int32) × (Nat → Int32) × (Nat → Int32) × (Nat → Int32) × (Nat → Int64))) :=
  (if 40 < x9 then
  some (.inr (r0v2, r0_0v3, r0_1v4, r0_2v5, r0_3v6, r1v7, w1v8))
  else
  (if (fRd_isGood r1v7) = true then
  (if (fRd_atEnd r1v7) = true then
  some (.inr (r0v2, r0_0v3, r0_1v4, r0_2v5, r0_3v6, r1v7, w1v8))
  else
  (fBk_readLine r0v2 r0_0v3 r0_1v4 r0_2v5 r0_3v6 r1v7 w1v8 r1_0 r1_0_0 w1_1 r2 w2_0 w2_1).bind (fun (y20 : (Nat → Int32) × (Nat → Int32) × (Nat → Int32) × (Nat → Int32) × (Nat → Int32) × (Nat → Int64)) =>
  (fRd_takeSign y20.2.2.2.2.1 y20.2.2.2.2.2 r1_0 r1_0_0 59).bind (fun (y21 : (Nat → Int32) × (Nat → Int64)) =>
  zlet (zup r0v2 4 ((r0v2 4) + 1)) (fun (r0v22 : Nat → Int32) =>
  zlet (x9 + 1) (fun (x23 : Int32) =>
  some (.inl (r0v22, y20.1, y20.2.1, y20.2.2.1, y20.2.2.2.1, y21.1, y21.2, x23)))))))
  else
  some (.inr (r0v2, r0_0v3, r0_1v4, r0_2v5, r0_3v6, r1v7, w1v8))))
noncomputable def fBk_readFrom (r0 : Nat → Int32) (r0_0 : Nat → Int32) (r0_1 : Nat → Int32) (r0_2 : Nat → Int32) (r0_3 : Nat → Int32) (r1 : Nat → Int32) (w1 : Nat → Int64) (r1_0 : Nat → Int32) (r1_0_0 : Nat → Int32) (w1_1 : Nat → Int64) (r2 : Nat → Int32) (w2_0 : Nat → Int64) (w2_1 : Nat → Int64) : Option ((Nat → Int32) × (Nat → Int32) × (Nat → Int32) × (Nat → Int32) × (Nat → Int32) × (Nat → Int32) × (Nat → Int64)) :=
  zlet (zup r0 4 0) (fun (r0v1 : Nat → Int32) =>
  (zLP (fun s => fBk_readFrom_L7 r1_0 r1_0_0 w1_1 r2 w2_0 w2_1 s.1 s.2.1 s.2.2.1 s.2.2.2.1 s.2.2.2.2.1 s.2.2.2.2.2.1 s.2.2.2.2.2.2.1 s.2.2.2.2.2.2.2) (r0v1, r0_0, r0_1, r0_2, r0_3, r1, w1, 0)).bind (fun r12 =>
  some (r12.1, r12.2.1, r12.2.2.1, r12.2.2.2.1, r12.2.2.2.2.1, r12.2.2.2.2.2.1, r12.2.2.2.2.2.2)))

set_option maxRecDepth 20000 in
theorem TX0_readFrom_174_3_5 (Γ : zG) {Q : Option Value → zM → Prop} (M : zM) (r0 : Nat → Int32) (r0_0 : Nat → Int32) (r0_1 : Nat → Int32) (r0_2 : Nat → Int32) (r0_3 : Nat → Int32) (r1 : Nat → Int32) (w1 : Nat → Int64) (r1_0 : Nat → Int32) (r1_0_0 : Nat → Int32) (w1_1 : Nat → Int64) (r2 : Nat → Int32) (w2_0 : Nat → Int64) (w2_1 : Nat → Int64) (e_i174 : M.1 174 = r0) (e_i175 : M.1 175 = r0_0) (e_i176 : M.1 176 = r0_1) (e_i177 : M.1 177 = r0_2) (e_i178 : M.1 178 = r0_3) (e_i3 : M.1 3 = r1) (e_l3 : M.2 3 = w1) (e_i1 : M.1 1 = r1_0) (e_i2 : M.1 2 = r1_0_0) (e_l4 : M.2 4 = w1_1) (e_i5 : M.1 5 = r2) (e_l6 : M.2 6 = w2_0) (e_l7 : M.2 7 = w2_1)  {res : (Nat → Int32) × (Nat → Int32) × (Nat → Int32) × (Nat → Int32) × (Nat → Int32) × (Nat → Int32) × (Nat → Int64)} (hy : (fBk_readFrom r0 r0_0 r0_1 r0_2 r0_3 r1 w1 r1_0 r1_0_0 w1_1 r2 w2_0 w2_1) = some res) (hq : Q none (zui (zui (zui (zui (zui (zui (zul M 3 res.2.2.2.2.2.2) 3 res.2.2.2.2.2.1) 174 res.1) 175 res.2.1) 176 res.2.2.1) 177 res.2.2.2.1) 178 res.2.2.2.2.1)) : zR Γ 7 YX0_readFrom 0 [(0, .ref (zad Γ 174)), (1, .ref (zad Γ 3)), (2, .ref (zad Γ 5))] [] M Q := by
  unfold fBk_readFrom at hy
  refine zj_aload_n (pc' := 1) 0 dX0_readFrom_0 rfl rfl rfl ?_
  refine zj_iconst (pc' := 2) dX0_readFrom_1 rfl kiconst_0 ?_
  obtain ⟨r0v1, er0v1⟩ : ∃ z, z = (zup r0 4 0) := ⟨_, rfl⟩
  have hy := zlet_at er0v1 hy
  refine zj_pI (pc' := 5) (N := (zui M 174 r0v1)) dX0_readFrom_2 rfl fpX0_41 sh174 rfl e_i174 er0v1 rfl ?_
  refine zj_iconst (pc' := 6) dX0_readFrom_5 rfl kiconst_0 ?_
  refine zj_istore_n (pc' := 7) (L' := [(3, .int 0), (0, .ref (zad Γ 174)), (1, .ref (zad Γ 3)), (2, .ref (zad Γ 5))]) dX0_readFrom_6 rfl rfl (by decide) rfl ?_
  refine zj_loc [1, 2, 3, 0] rfl ?_
  refine zj_mem (N := (zui (zul M 3 w1) 174 r0v1)) (zself_l (zq_i e_l3) (zm_li rfl)) ?_
  refine zj_mem (N := (zui (zui (zul M 3 w1) 3 r1) 174 r0v1)) (zself_i (zr_n rfl (zr_l e_i3)) (zm_n rfl rfl)) ?_
  refine zj_mem (N := (zui (zui (zui (zul M 3 w1) 3 r1) 174 r0v1) 175 r0_0)) (zself_i (zr_n rfl (zr_n rfl (zr_l e_i175))) rfl) ?_
  refine zj_mem (N := (zui (zui (zui (zui (zul M 3 w1) 3 r1) 174 r0v1) 175 r0_0) 176 r0_1)) (zself_i (zr_n rfl (zr_n rfl (zr_n rfl (zr_l e_i176)))) rfl) ?_
  refine zj_mem (N := (zui (zui (zui (zui (zui (zul M 3 w1) 3 r1) 174 r0v1) 175 r0_0) 176 r0_1) 177 r0_2)) (zself_i (zr_n rfl (zr_n rfl (zr_n rfl (zr_n rfl (zr_l e_i177))))) rfl) ?_
  refine zj_mem (N := (zui (zui (zui (zui (zui (zui (zul M 3 w1) 3 r1) 174 r0v1) 175 r0_0) 176 r0_1) 177 r0_2) 178 r0_3)) (zself_i (zr_n rfl (zr_n rfl (zr_n rfl (zr_n rfl (zr_n rfl (zr_l e_i178)))))) rfl) ?_
  obtain ⟨r12, hr9, hyo13⟩ := zt_b hy
  obtain ⟨n9, hn9⟩ := zLP_some hr9
  have HE10 : ∀ (r0v24 : Nat → Int32) (r0_0v25 : Nat → Int32) (r0_1v26 : Nat → Int32) (r0_2v27 : Nat → Int32) (r0_3v28 : Nat → Int32) (r1v29 : Nat → Int32) (w1v30 : Nat → Int64), r12 = (r0v24, r0_0v25, r0_1v26, r0_2v27, r0_3v28, r1v29, w1v30) → zR Γ 7 YX0_readFrom 58 [] [] (zui (zui (zui (zui (zui (zui (zul M 3 w1v30) 3 r1v29) 174 r0v24) 175 r0_0v25) 176 r0_1v26) 177 r0_2v27) 178 r0_3v28) Q := by
    intro r0v24 r0_0v25 r0_1v26 r0_2v27 r0_3v28 r1v29 w1v30 e9
    have hy := hyo13
    try rw [e9] at hy
    try dsimp only at hy
    have e9 := Option.some.inj hy
    subst e9
    exact zj_vret dX0_readFrom_58 rfl hq
  have HL11 : ∀ (n : Nat) (r0v2 : Nat → Int32) (r0_0v3 : Nat → Int32) (r0_1v4 : Nat → Int32) (r0_2v5 : Nat → Int32) (r0_3v6 : Nat → Int32) (r1v7 : Nat → Int32) (w1v8 : Nat → Int64) (x9 : Int32), zlp (fun s => fBk_readFrom_L7 r1_0 r1_0_0 w1_1 r2 w2_0 w2_1 s.1 s.2.1 s.2.2.1 s.2.2.2.1 s.2.2.2.2.1 s.2.2.2.2.2.1 s.2.2.2.2.2.2.1 s.2.2.2.2.2.2.2) n (r0v2, r0_0v3, r0_1v4, r0_2v5, r0_3v6, r1v7, w1v8, x9) = some r12 → zR Γ 7 YX0_readFrom 7 [(0, .ref (zad Γ 174)), (1, .ref (zad Γ 3)), (2, .ref (zad Γ 5)), (3, .int x9)] [] (zui (zui (zui (zui (zui (zui (zul M 3 w1v8) 3 r1v7) 174 r0v2) 175 r0_0v3) 176 r0_1v4) 177 r0_2v5) 178 r0_3v6) Q := by
    intro n
    induction n with
    | zero => intro r0v2 r0_0v3 r0_1v4 r0_2v5 r0_3v6 r1v7 w1v8 x9 hn9; cases hn9
    | succ n ih14 =>
      intro r0v2 r0_0v3 r0_1v4 r0_2v5 r0_3v6 r1v7 w1v8 x9 hn9
      obtain ⟨o9, hb9, h15, h16⟩ := zlp_step hn9
      have hy : fBk_readFrom_L7 r1_0 r1_0_0 w1_1 r2 w2_0 w2_1 r0v2 r0_0v3 r0_1v4 r0_2v5 r0_3v6 r1v7 w1v8 x9 = some o9 := hb9
      unfold fBk_readFrom_L7 at hy
      refine zj_iload_n (pc' := 8) 3 dX0_readFrom_7 rfl rfl rfl ?_
      refine zj_bipush (pc' := 10) dX0_readFrom_8 rfl kbipush_40 ?_
      refine zj_icmp_gt (tgt := 58) (pc' := 13) dX0_readFrom_10 rfl (by decide) (fun c17 => ?_) (fun c17 => ?_)
      · have hy := zt_t hy c17
        have e9 := h16 _ (Option.some.inj hy).symm
        refine zj_loc [] rfl ?_
        exact HE10 _ _ _ _ _ _ _ e9.symm
      · have hy := zt_f hy c17
        refine zj_aload_n (pc' := 14) 1 dX0_readFrom_13 rfl rfl rfl ?_
        refine zj_V1 (pc' := 17) (z := YX8_isGood) (As := []) (N := (zui (zui (zui (zui (zui (zui (zul M 3 w1v8) 3 r1v7) 174 r0v2) 175 r0_0v3) 176 r0_1v4) 177 r0_2v5) 178 r0_3v6)) dX0_readFrom_14 rfl mlX0_44 lkX8_isGood sh3 ⟨_, _, rfl⟩ rfl rfl (Nat.le_of_ble_eq_true rfl) (Nat.le_of_ble_eq_true rfl) (LX8_isGood_3 Γ _ r1v7 (zr_n rfl (zr_n rfl (zr_n rfl (zr_n rfl (zr_n rfl zr_s))))) rfl) rfl ?_
        refine zj_bif_eq (tgt := 58) (pc' := 20) dX0_readFrom_17 rfl (by decide) (fun c18 => ?_) (fun c18 => ?_)
        · have hy := zt_f hy c18
          have e9 := h16 _ (Option.some.inj hy).symm
          refine zj_loc [] rfl ?_
          exact HE10 _ _ _ _ _ _ _ e9.symm
        · have hy := zt_t hy c18
          refine zj_aload_n (pc' := 21) 1 dX0_readFrom_20 rfl rfl rfl ?_
          refine zj_V1 (pc' := 24) (z := YX8_atEnd) (As := []) (N := (zui (zui (zui (zui (zui (zui (zul M 3 w1v8) 3 r1v7) 174 r0v2) 175 r0_0v3) 176 r0_1v4) 177 r0_2v5) 178 r0_3v6)) dX0_readFrom_21 rfl mlX0_50 lkX8_atEnd sh3 ⟨_, _, rfl⟩ rfl rfl (Nat.le_of_ble_eq_true rfl) (Nat.le_of_ble_eq_true rfl) (LX8_atEnd_3 Γ _ r1v7 (zr_n rfl (zr_n rfl (zr_n rfl (zr_n rfl (zr_n rfl zr_s))))) rfl) rfl ?_
          refine zj_bif_eq (tgt := 30) (pc' := 27) dX0_readFrom_24 rfl (by decide) (fun c19 => ?_) (fun c19 => ?_)
          · have hy := zt_f hy c19
            refine zj_aload_n (pc' := 31) 0 dX0_readFrom_30 rfl rfl rfl ?_
            refine zj_aload_n (pc' := 32) 1 dX0_readFrom_31 rfl rfl rfl ?_
            refine zj_aload_n (pc' := 33) 2 dX0_readFrom_32 rfl rfl rfl ?_
            obtain ⟨y20, hy20, hy⟩ := zt_b hy
            refine zj_V0 (pc' := 36) (z := YX0_readLine) (As := [.ref (zad Γ 3), .ref (zad Γ 5)]) (N := (zui (zui (zui (zui (zui (zui (zul M 3 y20.2.2.2.2.2) 3 y20.2.2.2.2.1) 174 r0v2) 175 y20.1) 176 y20.2.1) 177 y20.2.2.1) 178 y20.2.2.2.1)) dX0_readFrom_33 rfl mlX0_53 lkX0_readLine sh174 ⟨_, _, rfl⟩ rfl rfl (Nat.le_of_ble_eq_true rfl) (Nat.le_of_ble_eq_true rfl) (LX0_readLine_174_3_5 Γ _ r0v2 r0_0v3 r0_1v4 r0_2v5 r0_3v6 r1v7 w1v8 r1_0 r1_0_0 w1_1 r2 w2_0 w2_1 (zr_n rfl (zr_n rfl (zr_n rfl (zr_n rfl zr_s)))) (zr_n rfl (zr_n rfl (zr_n rfl zr_s))) (zr_n rfl (zr_n rfl zr_s)) (zr_n rfl zr_s) zr_s (zr_n rfl (zr_n rfl (zr_n rfl (zr_n rfl (zr_n rfl zr_s))))) (zq_i (zq_i (zq_i (zq_i (zq_i (zq_i zq_s)))))) (zr_n rfl (zr_n rfl (zr_n rfl (zr_n rfl (zr_n rfl (zr_n rfl (zr_l e_i1))))))) (zr_n rfl (zr_n rfl (zr_n rfl (zr_n rfl (zr_n rfl (zr_n rfl (zr_l e_i2))))))) (zq_i (zq_i (zq_i (zq_i (zq_i (zq_i (zq_n rfl e_l4))))))) (zr_n rfl (zr_n rfl (zr_n rfl (zr_n rfl (zr_n rfl (zr_n rfl (zr_l e_i5))))))) (zq_i (zq_i (zq_i (zq_i (zq_i (zq_i (zq_n rfl e_l6))))))) (zq_i (zq_i (zq_i (zq_i (zq_i (zq_i (zq_n rfl e_l7))))))) hy20) ((zch_i (zch_i (zch_i (zch_i (zch_i (zm_li (zm_li (zm_li (zm_li (zm_li (zm_li zn_s)))))) (zm_n rfl (zm_n rfl (zm_n rfl (zm_n rfl (zm_n rfl zm_s)))))) (zm_n rfl (zm_n rfl (zm_n rfl zm_s)))) (zm_n rfl (zm_n rfl zm_s))) (zm_n rfl zm_s)) zm_s)).symm ?_
            refine zj_aload_n (pc' := 37) 1 dX0_readFrom_36 rfl rfl rfl ?_
            refine zj_bipush (pc' := 39) dX0_readFrom_37 rfl kbipush_59 ?_
            obtain ⟨y21, hy21, hy⟩ := zt_b hy
            refine zj_V0 (pc' := 42) (z := YX8_takeSign) (As := [.int 59]) (N := (zui (zui (zui (zui (zui (zui (zul M 3 y21.2) 3 y21.1) 174 r0v2) 175 y20.1) 176 y20.2.1) 177 y20.2.2.1) 178 y20.2.2.2.1)) dX0_readFrom_39 rfl mlX0_57 lkX8_takeSign sh3 ⟨_, _, rfl⟩ rfl rfl (Nat.le_of_ble_eq_true rfl) (Nat.le_of_ble_eq_true rfl) (LX8_takeSign_3 Γ _ y20.2.2.2.2.1 y20.2.2.2.2.2 r1_0 r1_0_0 (zr_n rfl (zr_n rfl (zr_n rfl (zr_n rfl (zr_n rfl zr_s))))) (zq_i (zq_i (zq_i (zq_i (zq_i (zq_i zq_s)))))) (zr_n rfl (zr_n rfl (zr_n rfl (zr_n rfl (zr_n rfl (zr_n rfl (zr_l e_i1))))))) (zr_n rfl (zr_n rfl (zr_n rfl (zr_n rfl (zr_n rfl (zr_n rfl (zr_l e_i2))))))) 59 hy21) ((zch_i (zm_li (zm_li (zm_li (zm_li (zm_li (zm_li zn_s)))))) (zm_n rfl (zm_n rfl (zm_n rfl (zm_n rfl (zm_n rfl zm_s))))))).symm ?_
            refine zj_aload_n (pc' := 43) 0 dX0_readFrom_42 rfl rfl rfl ?_
            refine zj_dup (pc' := 44) dX0_readFrom_43 rfl rfl ?_
            refine zj_fI (pc' := 47) dX0_readFrom_44 rfl flX0_41 sh174 rfl (zr_n rfl (zr_n rfl (zr_n rfl (zr_n rfl zr_s)))) rfl ?_
            refine zj_iconst (pc' := 48) dX0_readFrom_47 rfl kiconst_1 ?_
            refine zj_iadd (pc' := 49) dX0_readFrom_48 rfl ?_
            obtain ⟨r0v22, er0v22⟩ : ∃ z, z = (zup r0v2 4 ((r0v2 4) + 1)) := ⟨_, rfl⟩
            have hy := zlet_at er0v22 hy
            refine zj_pI (pc' := 52) (N := (zui (zui (zui (zui (zui (zui (zul M 3 y21.2) 3 y21.1) 174 r0v22) 175 y20.1) 176 y20.2.1) 177 y20.2.2.1) 178 y20.2.2.2.1)) dX0_readFrom_49 rfl fpX0_41 sh174 rfl (zr_n rfl (zr_n rfl (zr_n rfl (zr_n rfl zr_s)))) er0v22 (zm_n rfl (zm_n rfl (zm_n rfl (zm_n rfl zm_s)))) ?_
            obtain ⟨x23, ex23⟩ : ∃ z : Int32, z = (x9 + 1) := ⟨_, rfl⟩
            have hy := zlet_at ex23 hy
            refine zj_iinc (pc' := 55) 3 (L' := [(3, .int x23), (0, .ref (zad Γ 174)), (1, .ref (zad Γ 3)), (2, .ref (zad Γ 5))]) dX0_readFrom_52 rfl rfl (by decide) (by rw [ci1, ← ex23]; rfl) ?_
            refine zj_goto (tgt := 7) dX0_readFrom_55 (by decide) ?_
            have hn9 := h15 _ (Option.some.inj hy).symm
            refine zj_loc [1, 2, 3, 0] rfl ?_
            exact ih14 _ _ _ _ _ _ _ _ hn9
          · have hy := zt_t hy c19
            refine zj_goto (tgt := 58) dX0_readFrom_27 (by decide) ?_
            have e9 := h16 _ (Option.some.inj hy).symm
            refine zj_loc [] rfl ?_
            exact HE10 _ _ _ _ _ _ _ e9.symm
  exact HL11 n9 _ _ _ _ _ _ _ _ hn9
set_option maxRecDepth 20000 in
theorem LX0_readFrom_174_3_5 (Γ : zG) (M : zM) (r0 : Nat → Int32) (r0_0 : Nat → Int32) (r0_1 : Nat → Int32) (r0_2 : Nat → Int32) (r0_3 : Nat → Int32) (r1 : Nat → Int32) (w1 : Nat → Int64) (r1_0 : Nat → Int32) (r1_0_0 : Nat → Int32) (w1_1 : Nat → Int64) (r2 : Nat → Int32) (w2_0 : Nat → Int64) (w2_1 : Nat → Int64) (e_i174 : M.1 174 = r0) (e_i175 : M.1 175 = r0_0) (e_i176 : M.1 176 = r0_1) (e_i177 : M.1 177 = r0_2) (e_i178 : M.1 178 = r0_3) (e_i3 : M.1 3 = r1) (e_l3 : M.2 3 = w1) (e_i1 : M.1 1 = r1_0) (e_i2 : M.1 2 = r1_0_0) (e_l4 : M.2 4 = w1_1) (e_i5 : M.1 5 = r2) (e_l6 : M.2 6 = w2_0) (e_l7 : M.2 7 = w2_1)  {res : (Nat → Int32) × (Nat → Int32) × (Nat → Int32) × (Nat → Int32) × (Nat → Int32) × (Nat → Int32) × (Nat → Int64)} (hy : (fBk_readFrom r0 r0_0 r0_1 r0_2 r0_3 r1 w1 r1_0 r1_0_0 w1_1 r2 w2_0 w2_1) = some res) : zK Γ 7 YX0_readFrom [.ref (zad Γ 174), .ref (zad Γ 3), .ref (zad Γ 5)] M (fun v N => v = none ∧ N = (zui (zui (zui (zui (zui (zui (zul M 3 res.2.2.2.2.2.2) 3 res.2.2.2.2.2.1) 174 res.1) 175 res.2.1) 176 res.2.2.1) 177 res.2.2.2.1) 178 res.2.2.2.2.1)) :=
  zK_of (by decide) (Nat.le_of_ble_eq_true rfl) (TX0_readFrom_174_3_5 Γ M r0 r0_0 r0_1 r0_2 r0_3 r1 w1 r1_0 r1_0_0 w1_1 r2 w2_0 w2_1 e_i174 e_i175 e_i176 e_i177 e_i178 e_i3 e_l3 e_i1 e_i2 e_l4 e_i5 e_l6 e_l7 hy ⟨rfl, rfl⟩)

noncomputable def fBk_shifted (a1 : Int32) (a2 : Int32) : Int32 :=
  (if a1 = 0 then (0 : Int32) else (a1 + a2))

set_option maxRecDepth 20000 in
theorem TX0_shifted (Γ : zG) {Q : Option Value → zM → Prop} (M : zM)   (a1 : Int32) (a2 : Int32) {res : Int32} (hy : (fBk_shifted a1 a2) = res) (hq : Q (some (.int res)) M) : zR Γ 1 YX0_shifted 0 [(0, .int a1), (1, .int a2)] [] M Q := by
  unfold fBk_shifted at hy
  refine zj_iload_n (pc' := 1) 0 dX0_shifted_0 rfl rfl rfl ?_
  have HJ1 : zR Γ 1 YX0_shifted 11 [(0, .int a1), (1, .int a2)] [.int (if a1 = 0 then (0 : Int32) else (a1 + a2))] M Q := by
    subst hy
    exact zj_iret dX0_shifted_11 rfl hq
  refine zj_if_ne (tgt := 8) (pc' := 4) dX0_shifted_1 rfl (by decide) (fun c2 => ?_) (fun c2 => ?_)
  · refine zj_iload_n (pc' := 9) 0 dX0_shifted_8 rfl rfl rfl ?_
    refine zj_iload_n (pc' := 10) 1 dX0_shifted_9 rfl rfl rfl ?_
    refine zj_iadd (pc' := 11) dX0_shifted_10 rfl ?_
    exact zj_eqi (if_neg c2) HJ1
  · refine zj_iconst (pc' := 5) dX0_shifted_4 rfl kiconst_0 ?_
    refine zj_goto (tgt := 11) dX0_shifted_5 (by decide) ?_
    exact zj_eqi (if_pos c2) HJ1
set_option maxRecDepth 20000 in
theorem LX0_shifted (Γ : zG) (M : zM)   (a1 : Int32) (a2 : Int32) {res : Int32} (hy : (fBk_shifted a1 a2) = res) : zK Γ 1 YX0_shifted [.int a1, .int a2] M (fun v N => v = some (.int res) ∧ N = M) :=
  zK_of (by decide) (Nat.le_of_ble_eq_true rfl) (TX0_shifted Γ M a1 a2 hy ⟨rfl, rfl⟩)

noncomputable def fBk_doLine (r0_0 : Nat → Int32) (r0_1 : Nat → Int32) (r0_2 : Nat → Int32) (r0_3 : Nat → Int32) (r1 : Nat → Int32) (r1_2 : Nat → Int32) (r1_3 : Nat → Int32) (r2 : Nat → Int32) (r2_0 : Nat → Int32) (r2_1 : Nat → Int32) (r2_2 : Nat → Int32) (r2_3 : Nat → Int32) (r2_4 : Nat → Int32) (r2_5 : Nat → Int32) (r2_6 : Nat → Int32) (r2_7 : Nat → Int32) (r2_8 : Nat → Int32) (a3 : Int32) : Option (Int32 × (Nat → Int32) × (Nat → Int32) × (Nat → Int32) × (Nat → Int32) × (Nat → Int32) × (Nat → Int32) × (Nat → Int32) × (Nat → Int32) × (Nat → Int32) × (Nat → Int32)) :=
  (zrd r0_0 40 a3).bind (fun (v1 : Int32) =>
  (if v1 = 5 then
  (zrd r0_1 40 a3).bind (fun (v3 : Int32) =>
  (zrd r0_2 40 a3).bind (fun (v4 : Int32) =>
  (fDy_goesTo r2_0 r2_2 r2_4 r2_5 r1 r1_2 v3 v4).bind (fun (y5 : Int32 × (Nat → Int32) × (Nat → Int32)) =>
  some (y5.1, r2, r2_0, r2_1, r2_2, r2_3, y5.2.1, y5.2.2, r2_6, r2_7, r2_8))))
  else
  (if v1 = 6 then
  (zrd r0_1 40 a3).bind (fun (v7 : Int32) =>
  (fDy_dropsBun r2_0 r2_1 r2_6 v7).bind (fun (y8 : Int32 × (Nat → Int32) × (Nat → Int32)) =>
  some ((fBk_shifted y8.1 10), r2, r2_0, y8.2.1, r2_2, r2_3, r2_4, r2_5, y8.2.2, r2_7, r2_8)))
  else
  (if v1 = 7 then
  (zrd r0_1 40 a3).bind (fun (v10 : Int32) =>
  (fDy_leavesOff r2_2 r2_3 v10).bind (fun (y11 : Int32 × (Nat → Int32) × (Nat → Int32)) =>
  some ((fBk_shifted y11.1 20), r2, r2_0, r2_1, y11.2.1, y11.2.2, r2_4, r2_5, r2_6, r2_7, r2_8)))
  else
  (if v1 = 8 then
  (zrd r0_1 40 a3).bind (fun (v13 : Int32) =>
  (zrd r0_2 40 a3).bind (fun (v14 : Int32) =>
  (zrd r0_3 40 a3).bind (fun (v15 : Int32) =>
  (fDy_takesOn r2_2 r2_3 r2_5 v13 v14 v15).bind (fun (y16 : Int32 × (Nat → Int32) × (Nat → Int32) × (Nat → Int32)) =>
  some ((fBk_shifted y16.1 30), r2, r2_0, r2_1, y16.2.1, y16.2.2.1, r2_4, y16.2.2.2, r2_6, r2_7, r2_8)))))
  else
  (zrd r0_3 40 a3).bind (fun (v17 : Int32) =>
  (if v17 ≤ (fDy_minutesLeft r2) then
  (zrd r0_3 40 a3).bind (fun (v19 : Int32) =>
  (fDy_passMinutes r2 r2_0 r2_1 r2_2 r2_3 r2_4 r2_5 r2_6 r2_7 r2_8 r1 r1_2 r1_3 v19).bind (fun (y20 : (Nat → Int32) × (Nat → Int32) × (Nat → Int32) × (Nat → Int32) × (Nat → Int32) × (Nat → Int32) × (Nat → Int32) × (Nat → Int32)) =>
  some (0, y20.1, y20.2.1, y20.2.2.1, r2_2, r2_3, y20.2.2.2.1, y20.2.2.2.2.1, y20.2.2.2.2.2.1, y20.2.2.2.2.2.2.1, y20.2.2.2.2.2.2.2)))
  else
  some (41, r2, r2_0, r2_1, r2_2, r2_3, r2_4, r2_5, r2_6, r2_7, r2_8))))))))

set_option maxRecDepth 20000 in
theorem TX0_doLine_174_5_25 (Γ : zG) {Q : Option Value → zM → Prop} (M : zM) (r0_0 : Nat → Int32) (r0_1 : Nat → Int32) (r0_2 : Nat → Int32) (r0_3 : Nat → Int32) (r1 : Nat → Int32) (r1_2 : Nat → Int32) (r1_3 : Nat → Int32) (r2 : Nat → Int32) (r2_0 : Nat → Int32) (r2_1 : Nat → Int32) (r2_2 : Nat → Int32) (r2_3 : Nat → Int32) (r2_4 : Nat → Int32) (r2_5 : Nat → Int32) (r2_6 : Nat → Int32) (r2_7 : Nat → Int32) (r2_8 : Nat → Int32) (e_i175 : M.1 175 = r0_0) (e_i176 : M.1 176 = r0_1) (e_i177 : M.1 177 = r0_2) (e_i178 : M.1 178 = r0_3) (e_i5 : M.1 5 = r1) (e_i8 : M.1 8 = r1_2) (e_i9 : M.1 9 = r1_3) (e_i25 : M.1 25 = r2) (e_i26 : M.1 26 = r2_0) (e_i27 : M.1 27 = r2_1) (e_i28 : M.1 28 = r2_2) (e_i29 : M.1 29 = r2_3) (e_i30 : M.1 30 = r2_4) (e_i31 : M.1 31 = r2_5) (e_i32 : M.1 32 = r2_6) (e_i33 : M.1 33 = r2_7) (e_i34 : M.1 34 = r2_8) (a3 : Int32) {res : Int32 × (Nat → Int32) × (Nat → Int32) × (Nat → Int32) × (Nat → Int32) × (Nat → Int32) × (Nat → Int32) × (Nat → Int32) × (Nat → Int32) × (Nat → Int32) × (Nat → Int32)} (hy : (fBk_doLine r0_0 r0_1 r0_2 r0_3 r1 r1_2 r1_3 r2 r2_0 r2_1 r2_2 r2_3 r2_4 r2_5 r2_6 r2_7 r2_8 a3) = some res) (hq : Q (some (.int res.1)) (zui (zui (zui (zui (zui (zui (zui (zui (zui (zui M 25 res.2.1) 26 res.2.2.1) 27 res.2.2.2.1) 28 res.2.2.2.2.1) 29 res.2.2.2.2.2.1) 30 res.2.2.2.2.2.2.1) 31 res.2.2.2.2.2.2.2.1) 32 res.2.2.2.2.2.2.2.2.1) 33 res.2.2.2.2.2.2.2.2.2.1) 34 res.2.2.2.2.2.2.2.2.2.2)) : zR Γ 6 YX0_doLine 0 [(0, .ref (zad Γ 174)), (1, .ref (zad Γ 5)), (2, .ref (zad Γ 25)), (3, .int a3)] [] M Q := by
  unfold fBk_doLine at hy
  refine zj_aload_n (pc' := 1) 0 dX0_doLine_0 rfl rfl rfl ?_
  refine zj_getR (pc' := 4) (j := 175) dX0_doLine_1 rfl flX0_11 sh174 rfl ?_
  refine zj_iload_n (pc' := 5) 3 dX0_doLine_4 rfl rfl rfl ?_
  obtain ⟨v1, hv1, hy⟩ := zt_b hy
  refine zj_rdi (pc' := 6) dX0_doLine_5 rfl sh175 e_i175 hv1 ?_
  rcases Decidable.em (v1 = 5) with c2 | c2
  · have hy := zt_t hy c2
    refine zj_tsIn (tgt := 36) (v := 5) dX0_doLine_6 c2 (by decide) (by decide) (off := 30) (by decide) (by decide) ?_
    refine zj_aload_n (pc' := 37) 2 dX0_doLine_36 rfl rfl rfl ?_
    refine zj_aload_n (pc' := 38) 1 dX0_doLine_37 rfl rfl rfl ?_
    refine zj_aload_n (pc' := 39) 0 dX0_doLine_38 rfl rfl rfl ?_
    refine zj_getR (pc' := 42) (j := 176) dX0_doLine_39 rfl flX0_15 sh174 rfl ?_
    refine zj_iload_n (pc' := 43) 3 dX0_doLine_42 rfl rfl rfl ?_
    obtain ⟨v3, hv3, hy⟩ := zt_b hy
    refine zj_rdi (pc' := 44) dX0_doLine_43 rfl sh176 e_i176 hv3 ?_
    refine zj_aload_n (pc' := 45) 0 dX0_doLine_44 rfl rfl rfl ?_
    refine zj_getR (pc' := 48) (j := 177) dX0_doLine_45 rfl flX0_18 sh174 rfl ?_
    refine zj_iload_n (pc' := 49) 3 dX0_doLine_48 rfl rfl rfl ?_
    obtain ⟨v4, hv4, hy⟩ := zt_b hy
    refine zj_rdi (pc' := 50) dX0_doLine_49 rfl sh177 e_i177 hv4 ?_
    obtain ⟨y5, hy5, hy⟩ := zt_b hy
    refine zj_V1 (pc' := 53) (z := YX1_goesTo) (As := [.ref (zad Γ 5), .int v3, .int v4]) (N := (zui (zui M 30 y5.2.1) 31 y5.2.2)) dX0_doLine_50 rfl mlX0_98 lkX1_goesTo sh25 ⟨_, _, rfl⟩ rfl rfl (Nat.le_of_ble_eq_true rfl) (Nat.le_of_ble_eq_true rfl) (LX1_goesTo_25_5 Γ _ r2_0 r2_2 r2_4 r2_5 r1 r1_2 e_i26 e_i28 e_i30 e_i31 e_i5 e_i8 v3 v4 hy5) ((zch_i rfl rfl)).symm ?_
    have e9 := Option.some.inj hy
    subst e9
    refine zj_mem (N := (zui (zui (zui M 25 r2) 30 y5.2.1) 31 y5.2.2)) (zself_i (zr_n rfl (zr_n rfl e_i25)) (zm_n rfl (zm_n rfl rfl))) ?_
    refine zj_mem (N := (zui (zui (zui (zui M 25 r2) 26 r2_0) 30 y5.2.1) 31 y5.2.2)) (zself_i (zr_n rfl (zr_n rfl (zr_n rfl e_i26))) (zm_n rfl (zm_n rfl rfl))) ?_
    refine zj_mem (N := (zui (zui (zui (zui (zui M 25 r2) 26 r2_0) 27 r2_1) 30 y5.2.1) 31 y5.2.2)) (zself_i (zr_n rfl (zr_n rfl (zr_n rfl (zr_n rfl e_i27)))) (zm_n rfl (zm_n rfl rfl))) ?_
    refine zj_mem (N := (zui (zui (zui (zui (zui (zui M 25 r2) 26 r2_0) 27 r2_1) 28 r2_2) 30 y5.2.1) 31 y5.2.2)) (zself_i (zr_n rfl (zr_n rfl (zr_n rfl (zr_n rfl (zr_n rfl e_i28))))) (zm_n rfl (zm_n rfl rfl))) ?_
    refine zj_mem (N := (zui (zui (zui (zui (zui (zui (zui M 25 r2) 26 r2_0) 27 r2_1) 28 r2_2) 29 r2_3) 30 y5.2.1) 31 y5.2.2)) (zself_i (zr_n rfl (zr_n rfl (zr_n rfl (zr_n rfl (zr_n rfl (zr_n rfl e_i29)))))) (zm_n rfl (zm_n rfl rfl))) ?_
    refine zj_mem (N := (zui (zui (zui (zui (zui (zui (zui (zui M 25 r2) 26 r2_0) 27 r2_1) 28 r2_2) 29 r2_3) 30 y5.2.1) 31 y5.2.2) 32 r2_6)) (zself_i (zr_n rfl (zr_n rfl (zr_n rfl (zr_n rfl (zr_n rfl (zr_n rfl (zr_n rfl e_i32))))))) rfl) ?_
    refine zj_mem (N := (zui (zui (zui (zui (zui (zui (zui (zui (zui M 25 r2) 26 r2_0) 27 r2_1) 28 r2_2) 29 r2_3) 30 y5.2.1) 31 y5.2.2) 32 r2_6) 33 r2_7)) (zself_i (zr_n rfl (zr_n rfl (zr_n rfl (zr_n rfl (zr_n rfl (zr_n rfl (zr_n rfl (zr_n rfl e_i33)))))))) rfl) ?_
    refine zj_mem (N := (zui (zui (zui (zui (zui (zui (zui (zui (zui (zui M 25 r2) 26 r2_0) 27 r2_1) 28 r2_2) 29 r2_3) 30 y5.2.1) 31 y5.2.2) 32 r2_6) 33 r2_7) 34 r2_8)) (zself_i (zr_n rfl (zr_n rfl (zr_n rfl (zr_n rfl (zr_n rfl (zr_n rfl (zr_n rfl (zr_n rfl (zr_n rfl e_i34))))))))) rfl) ?_
    exact zj_iret dX0_doLine_53 rfl hq
  · have hy := zt_f hy c2
    rcases Decidable.em (v1 = 6) with c6 | c6
    · have hy := zt_t hy c6
      refine zj_tsIn (tgt := 54) (v := 6) dX0_doLine_6 c6 (by decide) (by decide) (off := 48) (by decide) (by decide) ?_
      refine zj_aload_n (pc' := 55) 2 dX0_doLine_54 rfl rfl rfl ?_
      refine zj_aload_n (pc' := 56) 0 dX0_doLine_55 rfl rfl rfl ?_
      refine zj_getR (pc' := 59) (j := 176) dX0_doLine_56 rfl flX0_15 sh174 rfl ?_
      refine zj_iload_n (pc' := 60) 3 dX0_doLine_59 rfl rfl rfl ?_
      obtain ⟨v7, hv7, hy⟩ := zt_b hy
      refine zj_rdi (pc' := 61) dX0_doLine_60 rfl sh176 e_i176 hv7 ?_
      obtain ⟨y8, hy8, hy⟩ := zt_b hy
      refine zj_V1 (pc' := 64) (z := YX1_dropsBun) (As := [.int v7]) (N := (zui (zui M 27 y8.2.1) 32 y8.2.2)) dX0_doLine_61 rfl mlX0_102 lkX1_dropsBun sh25 ⟨_, _, rfl⟩ rfl rfl (Nat.le_of_ble_eq_true rfl) (Nat.le_of_ble_eq_true rfl) (LX1_dropsBun_25 Γ _ r2_0 r2_1 r2_6 e_i26 e_i27 e_i32 v7 hy8) ((zch_i rfl rfl)).symm ?_
      refine zj_bipush (pc' := 66) dX0_doLine_64 rfl kbipush_10 ?_
      refine zj_S1 (pc' := 69) (z := YX0_shifted) (As := [.int y8.1, .int 10]) (N := (zui (zui M 27 y8.2.1) 32 y8.2.2)) dX0_doLine_66 rfl mlX0_106 lkX0_shifted rfl rfl (Nat.le_of_ble_eq_true rfl) (Nat.le_of_ble_eq_true rfl) (LX0_shifted Γ _ y8.1 10 rfl) rfl ?_
      have e9 := Option.some.inj hy
      subst e9
      refine zj_mem (N := (zui (zui (zui M 25 r2) 27 y8.2.1) 32 y8.2.2)) (zself_i (zr_n rfl (zr_n rfl e_i25)) (zm_n rfl (zm_n rfl rfl))) ?_
      refine zj_mem (N := (zui (zui (zui (zui M 25 r2) 26 r2_0) 27 y8.2.1) 32 y8.2.2)) (zself_i (zr_n rfl (zr_n rfl (zr_n rfl e_i26))) (zm_n rfl (zm_n rfl rfl))) ?_
      refine zj_mem (N := (zui (zui (zui (zui (zui M 25 r2) 26 r2_0) 27 y8.2.1) 28 r2_2) 32 y8.2.2)) (zself_i (zr_n rfl (zr_n rfl (zr_n rfl (zr_n rfl e_i28)))) (zm_n rfl rfl)) ?_
      refine zj_mem (N := (zui (zui (zui (zui (zui (zui M 25 r2) 26 r2_0) 27 y8.2.1) 28 r2_2) 29 r2_3) 32 y8.2.2)) (zself_i (zr_n rfl (zr_n rfl (zr_n rfl (zr_n rfl (zr_n rfl e_i29))))) (zm_n rfl rfl)) ?_
      refine zj_mem (N := (zui (zui (zui (zui (zui (zui (zui M 25 r2) 26 r2_0) 27 y8.2.1) 28 r2_2) 29 r2_3) 30 r2_4) 32 y8.2.2)) (zself_i (zr_n rfl (zr_n rfl (zr_n rfl (zr_n rfl (zr_n rfl (zr_n rfl e_i30)))))) (zm_n rfl rfl)) ?_
      refine zj_mem (N := (zui (zui (zui (zui (zui (zui (zui (zui M 25 r2) 26 r2_0) 27 y8.2.1) 28 r2_2) 29 r2_3) 30 r2_4) 31 r2_5) 32 y8.2.2)) (zself_i (zr_n rfl (zr_n rfl (zr_n rfl (zr_n rfl (zr_n rfl (zr_n rfl (zr_n rfl e_i31))))))) (zm_n rfl rfl)) ?_
      refine zj_mem (N := (zui (zui (zui (zui (zui (zui (zui (zui (zui M 25 r2) 26 r2_0) 27 y8.2.1) 28 r2_2) 29 r2_3) 30 r2_4) 31 r2_5) 32 y8.2.2) 33 r2_7)) (zself_i (zr_n rfl (zr_n rfl (zr_n rfl (zr_n rfl (zr_n rfl (zr_n rfl (zr_n rfl (zr_n rfl e_i33)))))))) rfl) ?_
      refine zj_mem (N := (zui (zui (zui (zui (zui (zui (zui (zui (zui (zui M 25 r2) 26 r2_0) 27 y8.2.1) 28 r2_2) 29 r2_3) 30 r2_4) 31 r2_5) 32 y8.2.2) 33 r2_7) 34 r2_8)) (zself_i (zr_n rfl (zr_n rfl (zr_n rfl (zr_n rfl (zr_n rfl (zr_n rfl (zr_n rfl (zr_n rfl (zr_n rfl e_i34))))))))) rfl) ?_
      exact zj_iret dX0_doLine_69 rfl hq
    · have hy := zt_f hy c6
      rcases Decidable.em (v1 = 7) with c9 | c9
      · have hy := zt_t hy c9
        refine zj_tsIn (tgt := 70) (v := 7) dX0_doLine_6 c9 (by decide) (by decide) (off := 64) (by decide) (by decide) ?_
        refine zj_aload_n (pc' := 71) 2 dX0_doLine_70 rfl rfl rfl ?_
        refine zj_aload_n (pc' := 72) 0 dX0_doLine_71 rfl rfl rfl ?_
        refine zj_getR (pc' := 75) (j := 176) dX0_doLine_72 rfl flX0_15 sh174 rfl ?_
        refine zj_iload_n (pc' := 76) 3 dX0_doLine_75 rfl rfl rfl ?_
        obtain ⟨v10, hv10, hy⟩ := zt_b hy
        refine zj_rdi (pc' := 77) dX0_doLine_76 rfl sh176 e_i176 hv10 ?_
        obtain ⟨y11, hy11, hy⟩ := zt_b hy
        refine zj_V1 (pc' := 80) (z := YX1_leavesOff) (As := [.int v10]) (N := (zui (zui M 28 y11.2.1) 29 y11.2.2)) dX0_doLine_77 rfl mlX0_109 lkX1_leavesOff sh25 ⟨_, _, rfl⟩ rfl rfl (Nat.le_of_ble_eq_true rfl) (Nat.le_of_ble_eq_true rfl) (LX1_leavesOff_25 Γ _ r2_2 r2_3 e_i28 e_i29 v10 hy11) ((zch_i rfl rfl)).symm ?_
        refine zj_bipush (pc' := 82) dX0_doLine_80 rfl kbipush_20 ?_
        refine zj_S1 (pc' := 85) (z := YX0_shifted) (As := [.int y11.1, .int 20]) (N := (zui (zui M 28 y11.2.1) 29 y11.2.2)) dX0_doLine_82 rfl mlX0_106 lkX0_shifted rfl rfl (Nat.le_of_ble_eq_true rfl) (Nat.le_of_ble_eq_true rfl) (LX0_shifted Γ _ y11.1 20 rfl) rfl ?_
        have e9 := Option.some.inj hy
        subst e9
        refine zj_mem (N := (zui (zui (zui M 25 r2) 28 y11.2.1) 29 y11.2.2)) (zself_i (zr_n rfl (zr_n rfl e_i25)) (zm_n rfl (zm_n rfl rfl))) ?_
        refine zj_mem (N := (zui (zui (zui (zui M 25 r2) 26 r2_0) 28 y11.2.1) 29 y11.2.2)) (zself_i (zr_n rfl (zr_n rfl (zr_n rfl e_i26))) (zm_n rfl (zm_n rfl rfl))) ?_
        refine zj_mem (N := (zui (zui (zui (zui (zui M 25 r2) 26 r2_0) 27 r2_1) 28 y11.2.1) 29 y11.2.2)) (zself_i (zr_n rfl (zr_n rfl (zr_n rfl (zr_n rfl e_i27)))) (zm_n rfl (zm_n rfl rfl))) ?_
        refine zj_mem (N := (zui (zui (zui (zui (zui (zui M 25 r2) 26 r2_0) 27 r2_1) 28 y11.2.1) 29 y11.2.2) 30 r2_4)) (zself_i (zr_n rfl (zr_n rfl (zr_n rfl (zr_n rfl (zr_n rfl e_i30))))) rfl) ?_
        refine zj_mem (N := (zui (zui (zui (zui (zui (zui (zui M 25 r2) 26 r2_0) 27 r2_1) 28 y11.2.1) 29 y11.2.2) 30 r2_4) 31 r2_5)) (zself_i (zr_n rfl (zr_n rfl (zr_n rfl (zr_n rfl (zr_n rfl (zr_n rfl e_i31)))))) rfl) ?_
        refine zj_mem (N := (zui (zui (zui (zui (zui (zui (zui (zui M 25 r2) 26 r2_0) 27 r2_1) 28 y11.2.1) 29 y11.2.2) 30 r2_4) 31 r2_5) 32 r2_6)) (zself_i (zr_n rfl (zr_n rfl (zr_n rfl (zr_n rfl (zr_n rfl (zr_n rfl (zr_n rfl e_i32))))))) rfl) ?_
        refine zj_mem (N := (zui (zui (zui (zui (zui (zui (zui (zui (zui M 25 r2) 26 r2_0) 27 r2_1) 28 y11.2.1) 29 y11.2.2) 30 r2_4) 31 r2_5) 32 r2_6) 33 r2_7)) (zself_i (zr_n rfl (zr_n rfl (zr_n rfl (zr_n rfl (zr_n rfl (zr_n rfl (zr_n rfl (zr_n rfl e_i33)))))))) rfl) ?_
        refine zj_mem (N := (zui (zui (zui (zui (zui (zui (zui (zui (zui (zui M 25 r2) 26 r2_0) 27 r2_1) 28 y11.2.1) 29 y11.2.2) 30 r2_4) 31 r2_5) 32 r2_6) 33 r2_7) 34 r2_8)) (zself_i (zr_n rfl (zr_n rfl (zr_n rfl (zr_n rfl (zr_n rfl (zr_n rfl (zr_n rfl (zr_n rfl (zr_n rfl e_i34))))))))) rfl) ?_
        exact zj_iret dX0_doLine_85 rfl hq
      · have hy := zt_f hy c9
        rcases Decidable.em (v1 = 8) with c12 | c12
        · have hy := zt_t hy c12
          refine zj_tsIn (tgt := 86) (v := 8) dX0_doLine_6 c12 (by decide) (by decide) (off := 80) (by decide) (by decide) ?_
          refine zj_aload_n (pc' := 87) 2 dX0_doLine_86 rfl rfl rfl ?_
          refine zj_aload_n (pc' := 88) 0 dX0_doLine_87 rfl rfl rfl ?_
          refine zj_getR (pc' := 91) (j := 176) dX0_doLine_88 rfl flX0_15 sh174 rfl ?_
          refine zj_iload_n (pc' := 92) 3 dX0_doLine_91 rfl rfl rfl ?_
          obtain ⟨v13, hv13, hy⟩ := zt_b hy
          refine zj_rdi (pc' := 93) dX0_doLine_92 rfl sh176 e_i176 hv13 ?_
          refine zj_aload_n (pc' := 94) 0 dX0_doLine_93 rfl rfl rfl ?_
          refine zj_getR (pc' := 97) (j := 177) dX0_doLine_94 rfl flX0_18 sh174 rfl ?_
          refine zj_iload_n (pc' := 98) 3 dX0_doLine_97 rfl rfl rfl ?_
          obtain ⟨v14, hv14, hy⟩ := zt_b hy
          refine zj_rdi (pc' := 99) dX0_doLine_98 rfl sh177 e_i177 hv14 ?_
          refine zj_aload_n (pc' := 100) 0 dX0_doLine_99 rfl rfl rfl ?_
          refine zj_getR (pc' := 103) (j := 178) dX0_doLine_100 rfl flX0_21 sh174 rfl ?_
          refine zj_iload_n (pc' := 104) 3 dX0_doLine_103 rfl rfl rfl ?_
          obtain ⟨v15, hv15, hy⟩ := zt_b hy
          refine zj_rdi (pc' := 105) dX0_doLine_104 rfl sh178 e_i178 hv15 ?_
          obtain ⟨y16, hy16, hy⟩ := zt_b hy
          refine zj_V1 (pc' := 108) (z := YX1_takesOn) (As := [.int v13, .int v14, .int v15]) (N := (zui (zui (zui M 28 y16.2.1) 29 y16.2.2.1) 31 y16.2.2.2)) dX0_doLine_105 rfl mlX0_112 lkX1_takesOn sh25 ⟨_, _, rfl⟩ rfl rfl (Nat.le_of_ble_eq_true rfl) (Nat.le_of_ble_eq_true rfl) (LX1_takesOn_25 Γ _ r2_2 r2_3 r2_5 e_i28 e_i29 e_i31 v13 v14 v15 hy16) ((zch_i (zch_i rfl rfl) rfl)).symm ?_
          refine zj_bipush (pc' := 110) dX0_doLine_108 rfl kbipush_30 ?_
          refine zj_S1 (pc' := 113) (z := YX0_shifted) (As := [.int y16.1, .int 30]) (N := (zui (zui (zui M 28 y16.2.1) 29 y16.2.2.1) 31 y16.2.2.2)) dX0_doLine_110 rfl mlX0_106 lkX0_shifted rfl rfl (Nat.le_of_ble_eq_true rfl) (Nat.le_of_ble_eq_true rfl) (LX0_shifted Γ _ y16.1 30 rfl) rfl ?_
          have e9 := Option.some.inj hy
          subst e9
          refine zj_mem (N := (zui (zui (zui (zui M 25 r2) 28 y16.2.1) 29 y16.2.2.1) 31 y16.2.2.2)) (zself_i (zr_n rfl (zr_n rfl (zr_n rfl e_i25))) (zm_n rfl (zm_n rfl (zm_n rfl rfl)))) ?_
          refine zj_mem (N := (zui (zui (zui (zui (zui M 25 r2) 26 r2_0) 28 y16.2.1) 29 y16.2.2.1) 31 y16.2.2.2)) (zself_i (zr_n rfl (zr_n rfl (zr_n rfl (zr_n rfl e_i26)))) (zm_n rfl (zm_n rfl (zm_n rfl rfl)))) ?_
          refine zj_mem (N := (zui (zui (zui (zui (zui (zui M 25 r2) 26 r2_0) 27 r2_1) 28 y16.2.1) 29 y16.2.2.1) 31 y16.2.2.2)) (zself_i (zr_n rfl (zr_n rfl (zr_n rfl (zr_n rfl (zr_n rfl e_i27))))) (zm_n rfl (zm_n rfl (zm_n rfl rfl)))) ?_
          refine zj_mem (N := (zui (zui (zui (zui (zui (zui (zui M 25 r2) 26 r2_0) 27 r2_1) 28 y16.2.1) 29 y16.2.2.1) 30 r2_4) 31 y16.2.2.2)) (zself_i (zr_n rfl (zr_n rfl (zr_n rfl (zr_n rfl (zr_n rfl (zr_n rfl e_i30)))))) (zm_n rfl rfl)) ?_
          refine zj_mem (N := (zui (zui (zui (zui (zui (zui (zui (zui M 25 r2) 26 r2_0) 27 r2_1) 28 y16.2.1) 29 y16.2.2.1) 30 r2_4) 31 y16.2.2.2) 32 r2_6)) (zself_i (zr_n rfl (zr_n rfl (zr_n rfl (zr_n rfl (zr_n rfl (zr_n rfl (zr_n rfl e_i32))))))) rfl) ?_
          refine zj_mem (N := (zui (zui (zui (zui (zui (zui (zui (zui (zui M 25 r2) 26 r2_0) 27 r2_1) 28 y16.2.1) 29 y16.2.2.1) 30 r2_4) 31 y16.2.2.2) 32 r2_6) 33 r2_7)) (zself_i (zr_n rfl (zr_n rfl (zr_n rfl (zr_n rfl (zr_n rfl (zr_n rfl (zr_n rfl (zr_n rfl e_i33)))))))) rfl) ?_
          refine zj_mem (N := (zui (zui (zui (zui (zui (zui (zui (zui (zui (zui M 25 r2) 26 r2_0) 27 r2_1) 28 y16.2.1) 29 y16.2.2.1) 30 r2_4) 31 y16.2.2.2) 32 r2_6) 33 r2_7) 34 r2_8)) (zself_i (zr_n rfl (zr_n rfl (zr_n rfl (zr_n rfl (zr_n rfl (zr_n rfl (zr_n rfl (zr_n rfl (zr_n rfl e_i34))))))))) rfl) ?_
          exact zj_iret dX0_doLine_113 rfl hq
        · have hy := zt_f hy c12
          refine zj_tsOut (tgt := 114) dX0_doLine_6 (by have q0 := zne (k := 5) c2 (by decide); have q1 := zne (k := 6) c6 (by decide); have q2 := zne (k := 7) c9 (by decide); have q3 := zne (k := 8) c12 (by decide); omega) (by decide) ?_
          refine zj_aload_n (pc' := 115) 0 dX0_doLine_114 rfl rfl rfl ?_
          refine zj_getR (pc' := 118) (j := 178) dX0_doLine_115 rfl flX0_21 sh174 rfl ?_
          refine zj_iload_n (pc' := 119) 3 dX0_doLine_118 rfl rfl rfl ?_
          obtain ⟨v17, hv17, hy⟩ := zt_b hy
          refine zj_rdi (pc' := 120) dX0_doLine_119 rfl sh178 e_i178 hv17 ?_
          refine zj_aload_n (pc' := 121) 2 dX0_doLine_120 rfl rfl rfl ?_
          refine zj_V1 (pc' := 124) (z := YX1_minutesLeft) (As := []) (N := M) dX0_doLine_121 rfl mlX0_116 lkX1_minutesLeft sh25 ⟨_, _, rfl⟩ rfl rfl (Nat.le_of_ble_eq_true rfl) (Nat.le_of_ble_eq_true rfl) (LX1_minutesLeft_25 Γ _ r2 e_i25 rfl) rfl ?_
          refine zj_icmp_le (tgt := 130) (pc' := 127) dX0_doLine_124 rfl (by decide) (fun c18 => ?_) (fun c18 => ?_)
          · have hy := zt_t hy c18
            refine zj_aload_n (pc' := 131) 2 dX0_doLine_130 rfl rfl rfl ?_
            refine zj_aload_n (pc' := 132) 1 dX0_doLine_131 rfl rfl rfl ?_
            refine zj_aload_n (pc' := 133) 0 dX0_doLine_132 rfl rfl rfl ?_
            refine zj_getR (pc' := 136) (j := 178) dX0_doLine_133 rfl flX0_21 sh174 rfl ?_
            refine zj_iload_n (pc' := 137) 3 dX0_doLine_136 rfl rfl rfl ?_
            obtain ⟨v19, hv19, hy⟩ := zt_b hy
            refine zj_rdi (pc' := 138) dX0_doLine_137 rfl sh178 e_i178 hv19 ?_
            obtain ⟨y20, hy20, hy⟩ := zt_b hy
            refine zj_V0 (pc' := 141) (z := YX1_passMinutes) (As := [.ref (zad Γ 5), .int v19]) (N := (zui (zui (zui (zui (zui (zui (zui (zui M 25 y20.1) 26 y20.2.1) 27 y20.2.2.1) 30 y20.2.2.2.1) 31 y20.2.2.2.2.1) 32 y20.2.2.2.2.2.1) 33 y20.2.2.2.2.2.2.1) 34 y20.2.2.2.2.2.2.2)) dX0_doLine_138 rfl mlX0_119 lkX1_passMinutes sh25 ⟨_, _, rfl⟩ rfl rfl (Nat.le_of_ble_eq_true rfl) (Nat.le_of_ble_eq_true rfl) (LX1_passMinutes_25_5 Γ _ r2 r2_0 r2_1 r2_2 r2_3 r2_4 r2_5 r2_6 r2_7 r2_8 r1 r1_2 r1_3 e_i25 e_i26 e_i27 e_i28 e_i29 e_i30 e_i31 e_i32 e_i33 e_i34 e_i5 e_i8 e_i9 v19 hy20) ((zch_i (zch_i (zch_i (zch_i (zch_i (zch_i (zch_i rfl rfl) rfl) rfl) rfl) rfl) rfl) rfl)).symm ?_
            refine zj_iconst (pc' := 142) dX0_doLine_141 rfl kiconst_0 ?_
            have e9 := Option.some.inj hy
            subst e9
            refine zj_mem (N := (zui (zui (zui (zui (zui (zui (zui (zui (zui M 25 y20.1) 26 y20.2.1) 27 y20.2.2.1) 28 r2_2) 30 y20.2.2.2.1) 31 y20.2.2.2.2.1) 32 y20.2.2.2.2.2.1) 33 y20.2.2.2.2.2.2.1) 34 y20.2.2.2.2.2.2.2)) (zself_i (zr_n rfl (zr_n rfl (zr_n rfl (zr_n rfl (zr_n rfl (zr_n rfl (zr_n rfl (zr_n rfl e_i28)))))))) (zm_n rfl (zm_n rfl (zm_n rfl (zm_n rfl (zm_n rfl rfl)))))) ?_
            refine zj_mem (N := (zui (zui (zui (zui (zui (zui (zui (zui (zui (zui M 25 y20.1) 26 y20.2.1) 27 y20.2.2.1) 28 r2_2) 29 r2_3) 30 y20.2.2.2.1) 31 y20.2.2.2.2.1) 32 y20.2.2.2.2.2.1) 33 y20.2.2.2.2.2.2.1) 34 y20.2.2.2.2.2.2.2)) (zself_i (zr_n rfl (zr_n rfl (zr_n rfl (zr_n rfl (zr_n rfl (zr_n rfl (zr_n rfl (zr_n rfl (zr_n rfl e_i29))))))))) (zm_n rfl (zm_n rfl (zm_n rfl (zm_n rfl (zm_n rfl rfl)))))) ?_
            exact zj_iret dX0_doLine_142 rfl hq
          · have hy := zt_f hy c18
            refine zj_bipush (pc' := 129) dX0_doLine_127 rfl kbipush_41 ?_
            have e9 := Option.some.inj hy
            subst e9
            refine zj_mem (N := (zui M 25 r2)) (zself_i e_i25 rfl) ?_
            refine zj_mem (N := (zui (zui M 25 r2) 26 r2_0)) (zself_i (zr_n rfl e_i26) rfl) ?_
            refine zj_mem (N := (zui (zui (zui M 25 r2) 26 r2_0) 27 r2_1)) (zself_i (zr_n rfl (zr_n rfl e_i27)) rfl) ?_
            refine zj_mem (N := (zui (zui (zui (zui M 25 r2) 26 r2_0) 27 r2_1) 28 r2_2)) (zself_i (zr_n rfl (zr_n rfl (zr_n rfl e_i28))) rfl) ?_
            refine zj_mem (N := (zui (zui (zui (zui (zui M 25 r2) 26 r2_0) 27 r2_1) 28 r2_2) 29 r2_3)) (zself_i (zr_n rfl (zr_n rfl (zr_n rfl (zr_n rfl e_i29)))) rfl) ?_
            refine zj_mem (N := (zui (zui (zui (zui (zui (zui M 25 r2) 26 r2_0) 27 r2_1) 28 r2_2) 29 r2_3) 30 r2_4)) (zself_i (zr_n rfl (zr_n rfl (zr_n rfl (zr_n rfl (zr_n rfl e_i30))))) rfl) ?_
            refine zj_mem (N := (zui (zui (zui (zui (zui (zui (zui M 25 r2) 26 r2_0) 27 r2_1) 28 r2_2) 29 r2_3) 30 r2_4) 31 r2_5)) (zself_i (zr_n rfl (zr_n rfl (zr_n rfl (zr_n rfl (zr_n rfl (zr_n rfl e_i31)))))) rfl) ?_
            refine zj_mem (N := (zui (zui (zui (zui (zui (zui (zui (zui M 25 r2) 26 r2_0) 27 r2_1) 28 r2_2) 29 r2_3) 30 r2_4) 31 r2_5) 32 r2_6)) (zself_i (zr_n rfl (zr_n rfl (zr_n rfl (zr_n rfl (zr_n rfl (zr_n rfl (zr_n rfl e_i32))))))) rfl) ?_
            refine zj_mem (N := (zui (zui (zui (zui (zui (zui (zui (zui (zui M 25 r2) 26 r2_0) 27 r2_1) 28 r2_2) 29 r2_3) 30 r2_4) 31 r2_5) 32 r2_6) 33 r2_7)) (zself_i (zr_n rfl (zr_n rfl (zr_n rfl (zr_n rfl (zr_n rfl (zr_n rfl (zr_n rfl (zr_n rfl e_i33)))))))) rfl) ?_
            refine zj_mem (N := (zui (zui (zui (zui (zui (zui (zui (zui (zui (zui M 25 r2) 26 r2_0) 27 r2_1) 28 r2_2) 29 r2_3) 30 r2_4) 31 r2_5) 32 r2_6) 33 r2_7) 34 r2_8)) (zself_i (zr_n rfl (zr_n rfl (zr_n rfl (zr_n rfl (zr_n rfl (zr_n rfl (zr_n rfl (zr_n rfl (zr_n rfl e_i34))))))))) rfl) ?_
            exact zj_iret dX0_doLine_129 rfl hq
set_option maxRecDepth 20000 in
theorem LX0_doLine_174_5_25 (Γ : zG) (M : zM) (r0_0 : Nat → Int32) (r0_1 : Nat → Int32) (r0_2 : Nat → Int32) (r0_3 : Nat → Int32) (r1 : Nat → Int32) (r1_2 : Nat → Int32) (r1_3 : Nat → Int32) (r2 : Nat → Int32) (r2_0 : Nat → Int32) (r2_1 : Nat → Int32) (r2_2 : Nat → Int32) (r2_3 : Nat → Int32) (r2_4 : Nat → Int32) (r2_5 : Nat → Int32) (r2_6 : Nat → Int32) (r2_7 : Nat → Int32) (r2_8 : Nat → Int32) (e_i175 : M.1 175 = r0_0) (e_i176 : M.1 176 = r0_1) (e_i177 : M.1 177 = r0_2) (e_i178 : M.1 178 = r0_3) (e_i5 : M.1 5 = r1) (e_i8 : M.1 8 = r1_2) (e_i9 : M.1 9 = r1_3) (e_i25 : M.1 25 = r2) (e_i26 : M.1 26 = r2_0) (e_i27 : M.1 27 = r2_1) (e_i28 : M.1 28 = r2_2) (e_i29 : M.1 29 = r2_3) (e_i30 : M.1 30 = r2_4) (e_i31 : M.1 31 = r2_5) (e_i32 : M.1 32 = r2_6) (e_i33 : M.1 33 = r2_7) (e_i34 : M.1 34 = r2_8) (a3 : Int32) {res : Int32 × (Nat → Int32) × (Nat → Int32) × (Nat → Int32) × (Nat → Int32) × (Nat → Int32) × (Nat → Int32) × (Nat → Int32) × (Nat → Int32) × (Nat → Int32) × (Nat → Int32)} (hy : (fBk_doLine r0_0 r0_1 r0_2 r0_3 r1 r1_2 r1_3 r2 r2_0 r2_1 r2_2 r2_3 r2_4 r2_5 r2_6 r2_7 r2_8 a3) = some res) : zK Γ 6 YX0_doLine [.ref (zad Γ 174), .ref (zad Γ 5), .ref (zad Γ 25), .int a3] M (fun v N => v = some (.int res.1) ∧ N = (zui (zui (zui (zui (zui (zui (zui (zui (zui (zui M 25 res.2.1) 26 res.2.2.1) 27 res.2.2.2.1) 28 res.2.2.2.2.1) 29 res.2.2.2.2.2.1) 30 res.2.2.2.2.2.2.1) 31 res.2.2.2.2.2.2.2.1) 32 res.2.2.2.2.2.2.2.2.1) 33 res.2.2.2.2.2.2.2.2.2.1) 34 res.2.2.2.2.2.2.2.2.2.2)) :=
  zK_of (by decide) (Nat.le_of_ble_eq_true rfl) (TX0_doLine_174_5_25 Γ M r0_0 r0_1 r0_2 r0_3 r1 r1_2 r1_3 r2 r2_0 r2_1 r2_2 r2_3 r2_4 r2_5 r2_6 r2_7 r2_8 e_i175 e_i176 e_i177 e_i178 e_i5 e_i8 e_i9 e_i25 e_i26 e_i27 e_i28 e_i29 e_i30 e_i31 e_i32 e_i33 e_i34 a3 hy ⟨rfl, rfl⟩)


set_option maxRecDepth 20000 in
theorem TX1_minuteNow_25 (Γ : zG) {Q : Option Value → zM → Prop} (M : zM) (r0 : Nat → Int32) (e_i25 : M.1 25 = r0)  {res : Int32} (hy : (fDy_minuteNow r0) = res) (hq : Q (some (.int res)) M) : zR Γ 1 YX1_minuteNow 0 [(0, .ref (zad Γ 25))] [] M Q := by
  unfold fDy_minuteNow at hy
  refine zj_aload_n (pc' := 1) 0 dX1_minuteNow_0 rfl rfl rfl ?_
  refine zj_fI (pc' := 4) dX1_minuteNow_1 rfl flX1_45 sh25 rfl e_i25 rfl ?_
  subst hy
  exact zj_iret dX1_minuteNow_4 rfl hq
set_option maxRecDepth 20000 in
theorem LX1_minuteNow_25 (Γ : zG) (M : zM) (r0 : Nat → Int32) (e_i25 : M.1 25 = r0)  {res : Int32} (hy : (fDy_minuteNow r0) = res) : zK Γ 1 YX1_minuteNow [.ref (zad Γ 25)] M (fun v N => v = some (.int res) ∧ N = M) :=
  zK_of (by decide) (Nat.le_of_ble_eq_true rfl) (TX1_minuteNow_25 Γ M r0 e_i25 hy ⟨rfl, rfl⟩)


set_option maxRecDepth 20000 in
theorem TX1_allPrints_25 (Γ : zG) {Q : Option Value → zM → Prop} (M : zM) (r0_7 : Nat → Int32) (e_i33 : M.1 33 = r0_7)  {res : Int32} (hy : (fDy_allPrints r0_7) = some res) (hq : Q (some (.int res)) M) : zR Γ 1 YX1_allPrints 0 [(0, .ref (zad Γ 25))] [] M Q := by
  unfold fDy_allPrints at hy
  refine zj_iconst (pc' := 1) dX1_allPrints_0 rfl kiconst_0 ?_
  refine zj_istore_n (pc' := 2) (L' := [(1, .int 0), (0, .ref (zad Γ 25))]) dX1_allPrints_1 rfl rfl (by decide) rfl ?_
  refine zj_iconst (pc' := 3) dX1_allPrints_2 rfl kiconst_0 ?_
  refine zj_istore_n (pc' := 4) (L' := [(2, .int 0), (1, .int 0), (0, .ref (zad Γ 25))]) dX1_allPrints_3 rfl rfl (by decide) rfl ?_
  refine zj_loc [2, 1, 0] rfl ?_
  obtain ⟨r5, hr9, hyo6⟩ := zt_b hy
  obtain ⟨n9, hn9⟩ := zLP_some hr9
  have HE3 : ∀ (x14 : Int32), r5 = x14 → zR Γ 1 YX1_allPrints 25 [(1, .int x14)] [] M Q := by
    intro x14 e9
    have hy := hyo6
    try rw [e9] at hy
    try dsimp only at hy
    refine zj_iload_n (pc' := 26) 0 dX1_allPrints_25 rfl rfl rfl ?_
    have e9 := Option.some.inj hy
    subst e9
    exact zj_iret dX1_allPrints_26 rfl hq
  have HL4 : ∀ (n : Nat) (x1 : Int32) (x2 : Int32), zlp (fun s => fDy_allPrints_L4 r0_7 s.1 s.2) n (x1, x2) = some r5 → zR Γ 1 YX1_allPrints 4 [(0, .ref (zad Γ 25)), (1, .int x1), (2, .int x2)] [] M Q := by
    intro n
    induction n with
    | zero => intro x1 x2 hn9; cases hn9
    | succ n ih7 =>
      intro x1 x2 hn9
      obtain ⟨o9, hb9, h8, h9⟩ := zlp_step hn9
      have hy : fDy_allPrints_L4 r0_7 x1 x2 = some o9 := hb9
      unfold fDy_allPrints_L4 at hy
      refine zj_iload_n (pc' := 5) 2 dX1_allPrints_4 rfl rfl rfl ?_
      refine zj_bipush (pc' := 7) dX1_allPrints_5 rfl kbipush_8 ?_
      refine zj_icmp_ge (tgt := 25) (pc' := 10) dX1_allPrints_7 rfl (by decide) (fun c10 => ?_) (fun c10 => ?_)
      · have hy := zt_t hy c10
        have e9 := h9 _ (Option.some.inj hy).symm
        refine zj_loc [1] rfl ?_
        exact HE3 _ e9.symm
      · have hy := zt_f hy c10
        refine zj_iload_n (pc' := 11) 1 dX1_allPrints_10 rfl rfl rfl ?_
        refine zj_aload_n (pc' := 12) 0 dX1_allPrints_11 rfl rfl rfl ?_
        refine zj_getR (pc' := 15) (j := 33) dX1_allPrints_12 rfl flX1_33 sh25 rfl ?_
        refine zj_iload_n (pc' := 16) 2 dX1_allPrints_15 rfl rfl rfl ?_
        obtain ⟨v11, hv11, hy⟩ := zt_b hy
        refine zj_rdi (pc' := 17) dX1_allPrints_16 rfl sh33 e_i33 hv11 ?_
        refine zj_iadd (pc' := 18) dX1_allPrints_17 rfl ?_
        refine zj_topi (fun x12 ex12 => ?_)
        have hy := zlet_at ex12 hy
        refine zj_istore_n (pc' := 19) (L' := [(1, .int x12), (0, .ref (zad Γ 25)), (2, .int x2)]) dX1_allPrints_18 rfl rfl (by decide) rfl ?_
        obtain ⟨x13, ex13⟩ : ∃ z : Int32, z = (x2 + 1) := ⟨_, rfl⟩
        have hy := zlet_at ex13 hy
        refine zj_iinc (pc' := 22) 2 (L' := [(2, .int x13), (1, .int x12), (0, .ref (zad Γ 25))]) dX1_allPrints_19 rfl rfl (by decide) (by rw [ci1, ← ex13]; rfl) ?_
        refine zj_goto (tgt := 4) dX1_allPrints_22 (by decide) ?_
        have hn9 := h8 _ (Option.some.inj hy).symm
        refine zj_loc [2, 1, 0] rfl ?_
        exact ih7 _ _ hn9
  exact HL4 n9 _ _ hn9
set_option maxRecDepth 20000 in
theorem LX1_allPrints_25 (Γ : zG) (M : zM) (r0_7 : Nat → Int32) (e_i33 : M.1 33 = r0_7)  {res : Int32} (hy : (fDy_allPrints r0_7) = some res) : zK Γ 1 YX1_allPrints [.ref (zad Γ 25)] M (fun v N => v = some (.int res) ∧ N = M) :=
  zK_of (by decide) (Nat.le_of_ble_eq_true rfl) (TX1_allPrints_25 Γ M r0_7 e_i33 hy ⟨rfl, rfl⟩)

noncomputable def fBk_judge_L15 (r0_0 : Nat → Int32) (r0_1 : Nat → Int32) (r0_2 : Nat → Int32) (r0_3 : Nat → Int32) (r1 : Nat → Int32) (r1_2 : Nat → Int32) (r1_3 : Nat → Int32) (r0v3 : Nat → Int32) (r2v4 : Nat → Int32) (r2_0v5 : Nat → Int32) (r2_1v6 : Nat → Int32) (r2_2v7 : Nat → Int32) (r2_3v8 : Nat → Int32) (r2_4v9 : Nat → Int32) (r2_5v10 : Nat → Int32) (r2_6v11 : Nat → Int32) (r2_7v12 : Nat → Int32) (r2_8v13 : Nat → Int32) (x14 : Int32) : Option (((Nat → Int32) × (Nat → Int32) × (Nat → Int32) × (Nat → Int32) × (Nat → Int32) × (Nat → Int32) × (Nat → Int32) × (Nat → Int32) × (Nat → Int32) × (Nat → Int32) × (Nat → Int32) × Int32) ⊕ ((Nat → Int32) × (Nat → Int32) × (Nat → Int32) × (Nat → Int32) × (Nat → Int32) × (Nat → Int32) × (Nat → Int32) × (Nat → Int32) × (Nat → Int32) × (Nat → Int32) × (Nat → Int32) × Int32)) :=
  (if (r0v3 4) ≤ x14 then
  some (.inr (r0v3, r2v4, r2_0v5, r2_1v6, r2_2v7, r2_3v8, r2_4v9, r2_5v10, r2_6v11, r2_7v12, r2_8v13, (-1)))
  else
  (if 40 ≤ x14 then
  some (.inr (r0v3, r2v4, r2_0v5, r2_1v6, r2_2v7, r2_3v8, r2_4v9, r2_5v10, r2_6v11, r2_7v12, r2_8v13, (-1)))
  else
  (fBk_doLine r0_0 r0_1 r0_2 r0_3 r1 r1_2 r1_3 r2v4 r2_0v5 r2_1v6 r2_2v7 r2_3v8 r2_4v9 r2_5v10 r2_6v11 r2_7v12 r2_8v13 x14).bind (fun (y24 : Int32 × (Nat → Int32) × (Nat → Int32) × (Nat → Int32) × (Nat → Int32) × (Nat → Int32) × (Nat → Int32) × (Nat → Int32) × (Nat → Int32) × (Nat → Int32) × (Nat → Int32)) =>
  zlet (zup r0v3 6 y24.1) (fun (r0v25 : Nat → Int32) =>
  (if (r0v25 6) = 0 then
  zlet (zup r0v25 7 ((r0v25 7) + 1)) (fun (r0v27 : Nat → Int32) =>
  zlet (x14 + 1) (fun (x28 : Int32) =>
  some (.inl (r0v27, y24.2.1, y24.2.2.1, y24.2.2.2.1, y24.2.2.2.2.1, y24.2.2.2.2.2.1, y24.2.2.2.2.2.2.1, y24.2.2.2.2.2.2.2.1, y24.2.2.2.2.2.2.2.2.1, y24.2.2.2.2.2.2.2.2.2.1, y24.2.2.2.2.2.2.2.2.2.2, x28))))
  else
  some (.inr (r0v25, y24.2.1, y24.2.2.1, y24.2.2.2.1, y24.2.2.2.2.1, y24.2.2.2.2.2.1, y24.2.2.2.2.2.2.1, y24.2.2.2.2.2.2.2.1, y24.2.2.2.2.2.2.2.2.1, y24.2.2.2.2.2.2.2.2.2.1, y24.2.2.2.2.2.2.2.2.2.2, x14)))))))
noncomputable def fBk_judge (r0 : Nat → Int32) (r0_0 : Nat → Int32) (r0_1 : Nat → Int32) (r0_2 : Nat → Int32) (r0_3 : Nat → Int32) (r1 : Nat → Int32) (r1_2 : Nat → Int32) (r1_3 : Nat → Int32) (r2 : Nat → Int32) (r2_0 : Nat → Int32) (r2_1 : Nat → Int32) (r2_2 : Nat → Int32) (r2_3 : Nat → Int32) (r2_4 : Nat → Int32) (r2_5 : Nat → Int32) (r2_6 : Nat → Int32) (r2_7 : Nat → Int32) (r2_8 : Nat → Int32) : Option (Int32 × (Nat → Int32) × (Nat → Int32) × (Nat → Int32) × (Nat → Int32) × (Nat → Int32) × (Nat → Int32) × (Nat → Int32) × (Nat → Int32) × (Nat → Int32) × (Nat → Int32) × (Nat → Int32)) :=
  zlet (zup r0 6 0) (fun (r0v1 : Nat → Int32) =>
  zlet (zup r0v1 7 0) (fun (r0v2 : Nat → Int32) =>
  (zLP (fun s => fBk_judge_L15 r0_0 r0_1 r0_2 r0_3 r1 r1_2 r1_3 s.1 s.2.1 s.2.2.1 s.2.2.2.1 s.2.2.2.2.1 s.2.2.2.2.2.1 s.2.2.2.2.2.2.1 s.2.2.2.2.2.2.2.1 s.2.2.2.2.2.2.2.2.1 s.2.2.2.2.2.2.2.2.2.1 s.2.2.2.2.2.2.2.2.2.2.1 s.2.2.2.2.2.2.2.2.2.2.2) (r0v2, r2, r2_0, r2_1, r2_2, r2_3, r2_4, r2_5, r2_6, r2_7, r2_8, 0)).bind (fun r17 =>
  zlet (zup r17.1 5 1) (fun (r0v41 : Nat → Int32) =>
  zlet (zup r0v41 8 (fDy_minuteNow r17.2.1)) (fun (r0v42 : Nat → Int32) =>
  (fDy_allPrints r17.2.2.2.2.2.2.2.2.2.1).bind (fun (y43 : Int32) =>
  zlet (zup r0v42 9 y43) (fun (r0v44 : Nat → Int32) =>
  some (r17.2.2.2.2.2.2.2.2.2.2.2, r0v44, r17.2.1, r17.2.2.1, r17.2.2.2.1, r17.2.2.2.2.1, r17.2.2.2.2.2.1, r17.2.2.2.2.2.2.1, r17.2.2.2.2.2.2.2.1, r17.2.2.2.2.2.2.2.2.1, r17.2.2.2.2.2.2.2.2.2.1, r17.2.2.2.2.2.2.2.2.2.2.1))))))))

set_option maxRecDepth 20000 in
theorem TX0_judge_174_5_25 (Γ : zG) {Q : Option Value → zM → Prop} (M : zM) (r0 : Nat → Int32) (r0_0 : Nat → Int32) (r0_1 : Nat → Int32) (r0_2 : Nat → Int32) (r0_3 : Nat → Int32) (r1 : Nat → Int32) (r1_2 : Nat → Int32) (r1_3 : Nat → Int32) (r2 : Nat → Int32) (r2_0 : Nat → Int32) (r2_1 : Nat → Int32) (r2_2 : Nat → Int32) (r2_3 : Nat → Int32) (r2_4 : Nat → Int32) (r2_5 : Nat → Int32) (r2_6 : Nat → Int32) (r2_7 : Nat → Int32) (r2_8 : Nat → Int32) (e_i174 : M.1 174 = r0) (e_i175 : M.1 175 = r0_0) (e_i176 : M.1 176 = r0_1) (e_i177 : M.1 177 = r0_2) (e_i178 : M.1 178 = r0_3) (e_i5 : M.1 5 = r1) (e_i8 : M.1 8 = r1_2) (e_i9 : M.1 9 = r1_3) (e_i25 : M.1 25 = r2) (e_i26 : M.1 26 = r2_0) (e_i27 : M.1 27 = r2_1) (e_i28 : M.1 28 = r2_2) (e_i29 : M.1 29 = r2_3) (e_i30 : M.1 30 = r2_4) (e_i31 : M.1 31 = r2_5) (e_i32 : M.1 32 = r2_6) (e_i33 : M.1 33 = r2_7) (e_i34 : M.1 34 = r2_8)  {res : Int32 × (Nat → Int32) × (Nat → Int32) × (Nat → Int32) × (Nat → Int32) × (Nat → Int32) × (Nat → Int32) × (Nat → Int32) × (Nat → Int32) × (Nat → Int32) × (Nat → Int32) × (Nat → Int32)} (hy : (fBk_judge r0 r0_0 r0_1 r0_2 r0_3 r1 r1_2 r1_3 r2 r2_0 r2_1 r2_2 r2_3 r2_4 r2_5 r2_6 r2_7 r2_8) = some res) (hq : Q (some (.int res.1)) (zui (zui (zui (zui (zui (zui (zui (zui (zui (zui (zui M 25 res.2.2.1) 26 res.2.2.2.1) 27 res.2.2.2.2.1) 28 res.2.2.2.2.2.1) 29 res.2.2.2.2.2.2.1) 30 res.2.2.2.2.2.2.2.1) 31 res.2.2.2.2.2.2.2.2.1) 32 res.2.2.2.2.2.2.2.2.2.1) 33 res.2.2.2.2.2.2.2.2.2.2.1) 34 res.2.2.2.2.2.2.2.2.2.2.2) 174 res.2.1)) : zR Γ 7 YX0_judge 0 [(0, .ref (zad Γ 174)), (1, .ref (zad Γ 5)), (2, .ref (zad Γ 25))] [] M Q := by
  unfold fBk_judge at hy
  refine zj_iconst (pc' := 1) dX0_judge_0 rfl kiconst_m1 ?_
  refine zj_istore_n (pc' := 2) (L' := [(3, .int (-1)), (0, .ref (zad Γ 174)), (1, .ref (zad Γ 5)), (2, .ref (zad Γ 25))]) dX0_judge_1 rfl rfl (by decide) rfl ?_
  refine zj_aload_n (pc' := 3) 1 dX0_judge_2 rfl rfl rfl ?_
  refine zj_iconst (pc' := 4) dX0_judge_3 rfl kiconst_0 ?_
  obtain ⟨r0v1, er0v1⟩ : ∃ z, z = (zup r0 6 0) := ⟨_, rfl⟩
  have hy := zlet_at er0v1 hy
  refine zj_pI (pc' := 7) (N := (zui M 174 r0v1)) dX0_judge_4 rfl fpX0_32 sh174 rfl e_i174 er0v1 rfl ?_
  refine zj_aload_n (pc' := 8) 1 dX0_judge_7 rfl rfl rfl ?_
  refine zj_iconst (pc' := 9) dX0_judge_8 rfl kiconst_0 ?_
  obtain ⟨r0v2, er0v2⟩ : ∃ z, z = (zup r0v1 7 0) := ⟨_, rfl⟩
  have hy := zlet_at er0v2 hy
  refine zj_pI (pc' := 12) (N := (zui M 174 r0v2)) dX0_judge_9 rfl fpX0_24 sh174 rfl zr_s er0v2 zm_s ?_
  refine zj_iconst (pc' := 13) dX0_judge_12 rfl kiconst_0 ?_
  refine zj_istore (pc' := 15) (L' := [(4, .int 0), (3, .int (-1)), (0, .ref (zad Γ 174)), (1, .ref (zad Γ 5)), (2, .ref (zad Γ 25))]) dX0_judge_13 rfl (by decide) rfl ?_
  refine zj_loc [2, 3, 4, 1, 0] rfl ?_
  refine zj_mem (N := (zui (zui M 25 r2) 174 r0v2)) (zself_i (zr_n rfl e_i25) (zm_n rfl rfl)) ?_
  refine zj_mem (N := (zui (zui (zui M 25 r2) 26 r2_0) 174 r0v2)) (zself_i (zr_n rfl (zr_n rfl e_i26)) (zm_n rfl rfl)) ?_
  refine zj_mem (N := (zui (zui (zui (zui M 25 r2) 26 r2_0) 27 r2_1) 174 r0v2)) (zself_i (zr_n rfl (zr_n rfl (zr_n rfl e_i27))) (zm_n rfl rfl)) ?_
  refine zj_mem (N := (zui (zui (zui (zui (zui M 25 r2) 26 r2_0) 27 r2_1) 28 r2_2) 174 r0v2)) (zself_i (zr_n rfl (zr_n rfl (zr_n rfl (zr_n rfl e_i28)))) (zm_n rfl rfl)) ?_
  refine zj_mem (N := (zui (zui (zui (zui (zui (zui M 25 r2) 26 r2_0) 27 r2_1) 28 r2_2) 29 r2_3) 174 r0v2)) (zself_i (zr_n rfl (zr_n rfl (zr_n rfl (zr_n rfl (zr_n rfl e_i29))))) (zm_n rfl rfl)) ?_
  refine zj_mem (N := (zui (zui (zui (zui (zui (zui (zui M 25 r2) 26 r2_0) 27 r2_1) 28 r2_2) 29 r2_3) 30 r2_4) 174 r0v2)) (zself_i (zr_n rfl (zr_n rfl (zr_n rfl (zr_n rfl (zr_n rfl (zr_n rfl e_i30)))))) (zm_n rfl rfl)) ?_
  refine zj_mem (N := (zui (zui (zui (zui (zui (zui (zui (zui M 25 r2) 26 r2_0) 27 r2_1) 28 r2_2) 29 r2_3) 30 r2_4) 31 r2_5) 174 r0v2)) (zself_i (zr_n rfl (zr_n rfl (zr_n rfl (zr_n rfl (zr_n rfl (zr_n rfl (zr_n rfl e_i31))))))) (zm_n rfl rfl)) ?_
  refine zj_mem (N := (zui (zui (zui (zui (zui (zui (zui (zui (zui M 25 r2) 26 r2_0) 27 r2_1) 28 r2_2) 29 r2_3) 30 r2_4) 31 r2_5) 32 r2_6) 174 r0v2)) (zself_i (zr_n rfl (zr_n rfl (zr_n rfl (zr_n rfl (zr_n rfl (zr_n rfl (zr_n rfl (zr_n rfl e_i32)))))))) (zm_n rfl rfl)) ?_
  refine zj_mem (N := (zui (zui (zui (zui (zui (zui (zui (zui (zui (zui M 25 r2) 26 r2_0) 27 r2_1) 28 r2_2) 29 r2_3) 30 r2_4) 31 r2_5) 32 r2_6) 33 r2_7) 174 r0v2)) (zself_i (zr_n rfl (zr_n rfl (zr_n rfl (zr_n rfl (zr_n rfl (zr_n rfl (zr_n rfl (zr_n rfl (zr_n rfl e_i33))))))))) (zm_n rfl rfl)) ?_
  refine zj_mem (N := (zui (zui (zui (zui (zui (zui (zui (zui (zui (zui (zui M 25 r2) 26 r2_0) 27 r2_1) 28 r2_2) 29 r2_3) 30 r2_4) 31 r2_5) 32 r2_6) 33 r2_7) 34 r2_8) 174 r0v2)) (zself_i (zr_n rfl (zr_n rfl (zr_n rfl (zr_n rfl (zr_n rfl (zr_n rfl (zr_n rfl (zr_n rfl (zr_n rfl (zr_n rfl e_i34)))))))))) (zm_n rfl rfl)) ?_
  obtain ⟨r17, hr9, hyo18⟩ := zt_b hy
  obtain ⟨n9, hn9⟩ := zLP_some hr9
  have HE15 : ∀ (r0v29 : Nat → Int32) (r2v30 : Nat → Int32) (r2_0v31 : Nat → Int32) (r2_1v32 : Nat → Int32) (r2_2v33 : Nat → Int32) (r2_3v34 : Nat → Int32) (r2_4v35 : Nat → Int32) (r2_5v36 : Nat → Int32) (r2_6v37 : Nat → Int32) (r2_7v38 : Nat → Int32) (r2_8v39 : Nat → Int32) (x40 : Int32), r17 = (r0v29, r2v30, r2_0v31, r2_1v32, r2_2v33, r2_3v34, r2_4v35, r2_5v36, r2_6v37, r2_7v38, r2_8v39, x40) → zR Γ 7 YX0_judge 72 [(0, .ref (zad Γ 174)), (2, .ref (zad Γ 25)), (3, .int x40)] [] (zui (zui (zui (zui (zui (zui (zui (zui (zui (zui (zui M 25 r2v30) 26 r2_0v31) 27 r2_1v32) 28 r2_2v33) 29 r2_3v34) 30 r2_4v35) 31 r2_5v36) 32 r2_6v37) 33 r2_7v38) 34 r2_8v39) 174 r0v29) Q := by
    intro r0v29 r2v30 r2_0v31 r2_1v32 r2_2v33 r2_3v34 r2_4v35 r2_5v36 r2_6v37 r2_7v38 r2_8v39 x40 e9
    have hy := hyo18
    try rw [e9] at hy
    try dsimp only at hy
    refine zj_aload_n (pc' := 73) 0 dX0_judge_72 rfl rfl rfl ?_
    refine zj_iconst (pc' := 74) dX0_judge_73 rfl kiconst_1 ?_
    obtain ⟨r0v41, er0v41⟩ : ∃ z, z = (zup r0v29 5 1) := ⟨_, rfl⟩
    have hy := zlet_at er0v41 hy
    refine zj_pZ (pc' := 77) (N := (zui (zui (zui (zui (zui (zui (zui (zui (zui (zui (zui M 25 r2v30) 26 r2_0v31) 27 r2_1v32) 28 r2_2v33) 29 r2_3v34) 30 r2_4v35) 31 r2_5v36) 32 r2_6v37) 33 r2_7v38) 34 r2_8v39) 174 r0v41)) dX0_judge_74 rfl fpX0_28 sh174 rfl (Or.inr rfl) zr_s er0v41 zm_s ?_
    refine zj_aload_n (pc' := 78) 0 dX0_judge_77 rfl rfl rfl ?_
    refine zj_aload_n (pc' := 79) 1 dX0_judge_78 rfl rfl rfl ?_
    refine zj_V1 (pc' := 82) (z := YX1_minuteNow) (As := []) (N := (zui (zui (zui (zui (zui (zui (zui (zui (zui (zui (zui M 25 r2v30) 26 r2_0v31) 27 r2_1v32) 28 r2_2v33) 29 r2_3v34) 30 r2_4v35) 31 r2_5v36) 32 r2_6v37) 33 r2_7v38) 34 r2_8v39) 174 r0v41)) dX0_judge_79 rfl mlX0_90 lkX1_minuteNow sh25 ⟨_, _, rfl⟩ rfl rfl (Nat.le_of_ble_eq_true rfl) (Nat.le_of_ble_eq_true rfl) (LX1_minuteNow_25 Γ _ r2v30 (zr_n rfl (zr_n rfl (zr_n rfl (zr_n rfl (zr_n rfl (zr_n rfl (zr_n rfl (zr_n rfl (zr_n rfl (zr_n rfl zr_s)))))))))) rfl) rfl ?_
    obtain ⟨r0v42, er0v42⟩ : ∃ z, z = (zup r0v41 8 (fDy_minuteNow r2v30)) := ⟨_, rfl⟩
    have hy := zlet_at er0v42 hy
    refine zj_pI (pc' := 85) (N := (zui (zui (zui (zui (zui (zui (zui (zui (zui (zui (zui M 25 r2v30) 26 r2_0v31) 27 r2_1v32) 28 r2_2v33) 29 r2_3v34) 30 r2_4v35) 31 r2_5v36) 32 r2_6v37) 33 r2_7v38) 34 r2_8v39) 174 r0v42)) dX0_judge_82 rfl fpX0_35 sh174 rfl zr_s er0v42 zm_s ?_
    refine zj_aload_n (pc' := 86) 0 dX0_judge_85 rfl rfl rfl ?_
    refine zj_aload_n (pc' := 87) 1 dX0_judge_86 rfl rfl rfl ?_
    obtain ⟨y43, hy43, hy⟩ := zt_b hy
    refine zj_V1 (pc' := 90) (z := YX1_allPrints) (As := []) (N := (zui (zui (zui (zui (zui (zui (zui (zui (zui (zui (zui M 25 r2v30) 26 r2_0v31) 27 r2_1v32) 28 r2_2v33) 29 r2_3v34) 30 r2_4v35) 31 r2_5v36) 32 r2_6v37) 33 r2_7v38) 34 r2_8v39) 174 r0v42)) dX0_judge_87 rfl mlX0_95 lkX1_allPrints sh25 ⟨_, _, rfl⟩ rfl rfl (Nat.le_of_ble_eq_true rfl) (Nat.le_of_ble_eq_true rfl) (LX1_allPrints_25 Γ _ r2_7v38 (zr_n rfl (zr_n rfl zr_s)) hy43) rfl ?_
    obtain ⟨r0v44, er0v44⟩ : ∃ z, z = (zup r0v42 9 y43) := ⟨_, rfl⟩
    have hy := zlet_at er0v44 hy
    refine zj_pI (pc' := 93) (N := (zui (zui (zui (zui (zui (zui (zui (zui (zui (zui (zui M 25 r2v30) 26 r2_0v31) 27 r2_1v32) 28 r2_2v33) 29 r2_3v34) 30 r2_4v35) 31 r2_5v36) 32 r2_6v37) 33 r2_7v38) 34 r2_8v39) 174 r0v44)) dX0_judge_90 rfl fpX0_38 sh174 rfl zr_s er0v44 zm_s ?_
    refine zj_iload_n (pc' := 94) 2 dX0_judge_93 rfl rfl rfl ?_
    have e9 := Option.some.inj hy
    subst e9
    exact zj_iret dX0_judge_94 rfl hq
  have HL16 : ∀ (n : Nat) (r0v3 : Nat → Int32) (r2v4 : Nat → Int32) (r2_0v5 : Nat → Int32) (r2_1v6 : Nat → Int32) (r2_2v7 : Nat → Int32) (r2_3v8 : Nat → Int32) (r2_4v9 : Nat → Int32) (r2_5v10 : Nat → Int32) (r2_6v11 : Nat → Int32) (r2_7v12 : Nat → Int32) (r2_8v13 : Nat → Int32) (x14 : Int32), zlp (fun s => fBk_judge_L15 r0_0 r0_1 r0_2 r0_3 r1 r1_2 r1_3 s.1 s.2.1 s.2.2.1 s.2.2.2.1 s.2.2.2.2.1 s.2.2.2.2.2.1 s.2.2.2.2.2.2.1 s.2.2.2.2.2.2.2.1 s.2.2.2.2.2.2.2.2.1 s.2.2.2.2.2.2.2.2.2.1 s.2.2.2.2.2.2.2.2.2.2.1 s.2.2.2.2.2.2.2.2.2.2.2) n (r0v3, r2v4, r2_0v5, r2_1v6, r2_2v7, r2_3v8, r2_4v9, r2_5v10, r2_6v11, r2_7v12, r2_8v13, x14) = some r17 → zR Γ 7 YX0_judge 15 [(0, .ref (zad Γ 174)), (1, .ref (zad Γ 5)), (2, .ref (zad Γ 25)), (3, .int (-1)), (4, .int x14)] [] (zui (zui (zui (zui (zui (zui (zui (zui (zui (zui (zui M 25 r2v4) 26 r2_0v5) 27 r2_1v6) 28 r2_2v7) 29 r2_3v8) 30 r2_4v9) 31 r2_5v10) 32 r2_6v11) 33 r2_7v12) 34 r2_8v13) 174 r0v3) Q := by
    intro n
    induction n with
    | zero => intro r0v3 r2v4 r2_0v5 r2_1v6 r2_2v7 r2_3v8 r2_4v9 r2_5v10 r2_6v11 r2_7v12 r2_8v13 x14 hn9; cases hn9
    | succ n ih19 =>
      intro r0v3 r2v4 r2_0v5 r2_1v6 r2_2v7 r2_3v8 r2_4v9 r2_5v10 r2_6v11 r2_7v12 r2_8v13 x14 hn9
      obtain ⟨o9, hb9, h20, h21⟩ := zlp_step hn9
      have hy : fBk_judge_L15 r0_0 r0_1 r0_2 r0_3 r1 r1_2 r1_3 r0v3 r2v4 r2_0v5 r2_1v6 r2_2v7 r2_3v8 r2_4v9 r2_5v10 r2_6v11 r2_7v12 r2_8v13 x14 = some o9 := hb9
      unfold fBk_judge_L15 at hy
      refine zj_iload (pc' := 17) 4 dX0_judge_15 rfl rfl ?_
      refine zj_aload_n (pc' := 18) 0 dX0_judge_17 rfl rfl rfl ?_
      refine zj_fI (pc' := 21) dX0_judge_18 rfl flX0_41 sh174 rfl zr_s rfl ?_
      refine zj_icmp_ge (tgt := 72) (pc' := 24) dX0_judge_21 rfl (by decide) (fun c22 => ?_) (fun c22 => ?_)
      · have hy := zt_t hy c22
        have e9 := h21 _ (Option.some.inj hy).symm
        refine zj_loc [0, 2, 3] rfl ?_
        exact HE15 _ _ _ _ _ _ _ _ _ _ _ _ e9.symm
      · have hy := zt_f hy c22
        refine zj_iload (pc' := 26) 4 dX0_judge_24 rfl rfl ?_
        refine zj_bipush (pc' := 28) dX0_judge_26 rfl kbipush_40 ?_
        refine zj_icmp_ge (tgt := 72) (pc' := 31) dX0_judge_28 rfl (by decide) (fun c23 => ?_) (fun c23 => ?_)
        · have hy := zt_t hy c23
          have e9 := h21 _ (Option.some.inj hy).symm
          refine zj_loc [0, 2, 3] rfl ?_
          exact HE15 _ _ _ _ _ _ _ _ _ _ _ _ e9.symm
        · have hy := zt_f hy c23
          refine zj_aload_n (pc' := 32) 0 dX0_judge_31 rfl rfl rfl ?_
          refine zj_aload_n (pc' := 33) 0 dX0_judge_32 rfl rfl rfl ?_
          refine zj_aload_n (pc' := 34) 1 dX0_judge_33 rfl rfl rfl ?_
          refine zj_aload_n (pc' := 35) 2 dX0_judge_34 rfl rfl rfl ?_
          refine zj_iload (pc' := 37) 4 dX0_judge_35 rfl rfl ?_
          obtain ⟨y24, hy24, hy⟩ := zt_b hy
          refine zj_V1 (pc' := 40) (z := YX0_doLine) (As := [.ref (zad Γ 5), .ref (zad Γ 25), .int x14]) (N := (zui (zui (zui (zui (zui (zui (zui (zui (zui (zui (zui M 25 y24.2.1) 26 y24.2.2.1) 27 y24.2.2.2.1) 28 y24.2.2.2.2.1) 29 y24.2.2.2.2.2.1) 30 y24.2.2.2.2.2.2.1) 31 y24.2.2.2.2.2.2.2.1) 32 y24.2.2.2.2.2.2.2.2.1) 33 y24.2.2.2.2.2.2.2.2.2.1) 34 y24.2.2.2.2.2.2.2.2.2.2) 174 r0v3)) dX0_judge_37 rfl mlX0_86 lkX0_doLine sh174 ⟨_, _, rfl⟩ rfl rfl (Nat.le_of_ble_eq_true rfl) (Nat.le_of_ble_eq_true rfl) (LX0_doLine_174_5_25 Γ _ r0_0 r0_1 r0_2 r0_3 r1 r1_2 r1_3 r2v4 r2_0v5 r2_1v6 r2_2v7 r2_3v8 r2_4v9 r2_5v10 r2_6v11 r2_7v12 r2_8v13 (zr_n rfl (zr_n rfl (zr_n rfl (zr_n rfl (zr_n rfl (zr_n rfl (zr_n rfl (zr_n rfl (zr_n rfl (zr_n rfl (zr_n rfl e_i175))))))))))) (zr_n rfl (zr_n rfl (zr_n rfl (zr_n rfl (zr_n rfl (zr_n rfl (zr_n rfl (zr_n rfl (zr_n rfl (zr_n rfl (zr_n rfl e_i176))))))))))) (zr_n rfl (zr_n rfl (zr_n rfl (zr_n rfl (zr_n rfl (zr_n rfl (zr_n rfl (zr_n rfl (zr_n rfl (zr_n rfl (zr_n rfl e_i177))))))))))) (zr_n rfl (zr_n rfl (zr_n rfl (zr_n rfl (zr_n rfl (zr_n rfl (zr_n rfl (zr_n rfl (zr_n rfl (zr_n rfl (zr_n rfl e_i178))))))))))) (zr_n rfl (zr_n rfl (zr_n rfl (zr_n rfl (zr_n rfl (zr_n rfl (zr_n rfl (zr_n rfl (zr_n rfl (zr_n rfl (zr_n rfl e_i5))))))))))) (zr_n rfl (zr_n rfl (zr_n rfl (zr_n rfl (zr_n rfl (zr_n rfl (zr_n rfl (zr_n rfl (zr_n rfl (zr_n rfl (zr_n rfl e_i8))))))))))) (zr_n rfl (zr_n rfl (zr_n rfl (zr_n rfl (zr_n rfl (zr_n rfl (zr_n rfl (zr_n rfl (zr_n rfl (zr_n rfl (zr_n rfl e_i9))))))))))) (zr_n rfl (zr_n rfl (zr_n rfl (zr_n rfl (zr_n rfl (zr_n rfl (zr_n rfl (zr_n rfl (zr_n rfl (zr_n rfl zr_s)))))))))) (zr_n rfl (zr_n rfl (zr_n rfl (zr_n rfl (zr_n rfl (zr_n rfl (zr_n rfl (zr_n rfl (zr_n rfl zr_s))))))))) (zr_n rfl (zr_n rfl (zr_n rfl (zr_n rfl (zr_n rfl (zr_n rfl (zr_n rfl (zr_n rfl zr_s)))))))) (zr_n rfl (zr_n rfl (zr_n rfl (zr_n rfl (zr_n rfl (zr_n rfl (zr_n rfl zr_s))))))) (zr_n rfl (zr_n rfl (zr_n rfl (zr_n rfl (zr_n rfl (zr_n rfl zr_s)))))) (zr_n rfl (zr_n rfl (zr_n rfl (zr_n rfl (zr_n rfl zr_s))))) (zr_n rfl (zr_n rfl (zr_n rfl (zr_n rfl zr_s)))) (zr_n rfl (zr_n rfl (zr_n rfl zr_s))) (zr_n rfl (zr_n rfl zr_s)) (zr_n rfl zr_s) x14 hy24) ((zch_i (zch_i (zch_i (zch_i (zch_i (zch_i (zch_i (zch_i (zch_i (zm_n rfl (zm_n rfl (zm_n rfl (zm_n rfl (zm_n rfl (zm_n rfl (zm_n rfl (zm_n rfl (zm_n rfl (zm_n rfl zm_s)))))))))) (zm_n rfl (zm_n rfl (zm_n rfl (zm_n rfl (zm_n rfl (zm_n rfl (zm_n rfl (zm_n rfl (zm_n rfl zm_s)))))))))) (zm_n rfl (zm_n rfl (zm_n rfl (zm_n rfl (zm_n rfl (zm_n rfl (zm_n rfl (zm_n rfl zm_s))))))))) (zm_n rfl (zm_n rfl (zm_n rfl (zm_n rfl (zm_n rfl (zm_n rfl (zm_n rfl zm_s)))))))) (zm_n rfl (zm_n rfl (zm_n rfl (zm_n rfl (zm_n rfl (zm_n rfl zm_s))))))) (zm_n rfl (zm_n rfl (zm_n rfl (zm_n rfl (zm_n rfl zm_s)))))) (zm_n rfl (zm_n rfl (zm_n rfl (zm_n rfl zm_s))))) (zm_n rfl (zm_n rfl (zm_n rfl zm_s)))) (zm_n rfl (zm_n rfl zm_s))) (zm_n rfl zm_s))).symm ?_
          obtain ⟨r0v25, er0v25⟩ : ∃ z, z = (zup r0v3 6 y24.1) := ⟨_, rfl⟩
          have hy := zlet_at er0v25 hy
          refine zj_pI (pc' := 43) (N := (zui (zui (zui (zui (zui (zui (zui (zui (zui (zui (zui M 25 y24.2.1) 26 y24.2.2.1) 27 y24.2.2.2.1) 28 y24.2.2.2.2.1) 29 y24.2.2.2.2.2.1) 30 y24.2.2.2.2.2.2.1) 31 y24.2.2.2.2.2.2.2.1) 32 y24.2.2.2.2.2.2.2.2.1) 33 y24.2.2.2.2.2.2.2.2.2.1) 34 y24.2.2.2.2.2.2.2.2.2.2) 174 r0v25)) dX0_judge_40 rfl fpX0_32 sh174 rfl zr_s er0v25 zm_s ?_
          refine zj_aload_n (pc' := 44) 0 dX0_judge_43 rfl rfl rfl ?_
          refine zj_fI (pc' := 47) dX0_judge_44 rfl flX0_32 sh174 rfl zr_s rfl ?_
          refine zj_if_eq (tgt := 56) (pc' := 50) dX0_judge_47 rfl (by decide) (fun c26 => ?_) (fun c26 => ?_)
          · have hy := zt_t hy c26
            refine zj_aload_n (pc' := 57) 0 dX0_judge_56 rfl rfl rfl ?_
            refine zj_dup (pc' := 58) dX0_judge_57 rfl rfl ?_
            refine zj_fI (pc' := 61) dX0_judge_58 rfl flX0_24 sh174 rfl zr_s rfl ?_
            refine zj_iconst (pc' := 62) dX0_judge_61 rfl kiconst_1 ?_
            refine zj_iadd (pc' := 63) dX0_judge_62 rfl ?_
            obtain ⟨r0v27, er0v27⟩ : ∃ z, z = (zup r0v25 7 ((r0v25 7) + 1)) := ⟨_, rfl⟩
            have hy := zlet_at er0v27 hy
            refine zj_pI (pc' := 66) (N := (zui (zui (zui (zui (zui (zui (zui (zui (zui (zui (zui M 25 y24.2.1) 26 y24.2.2.1) 27 y24.2.2.2.1) 28 y24.2.2.2.2.1) 29 y24.2.2.2.2.2.1) 30 y24.2.2.2.2.2.2.1) 31 y24.2.2.2.2.2.2.2.1) 32 y24.2.2.2.2.2.2.2.2.1) 33 y24.2.2.2.2.2.2.2.2.2.1) 34 y24.2.2.2.2.2.2.2.2.2.2) 174 r0v27)) dX0_judge_63 rfl fpX0_24 sh174 rfl zr_s er0v27 zm_s ?_
            obtain ⟨x28, ex28⟩ : ∃ z : Int32, z = (x14 + 1) := ⟨_, rfl⟩
            have hy := zlet_at ex28 hy
            refine zj_iinc (pc' := 69) 4 (L' := [(4, .int x28), (0, .ref (zad Γ 174)), (1, .ref (zad Γ 5)), (2, .ref (zad Γ 25)), (3, .int (-1))]) dX0_judge_66 rfl rfl (by decide) (by rw [ci1, ← ex28]; rfl) ?_
            refine zj_goto (tgt := 15) dX0_judge_69 (by decide) ?_
            have hn9 := h20 _ (Option.some.inj hy).symm
            refine zj_loc [1, 2, 3, 4, 0] rfl ?_
            exact ih19 _ _ _ _ _ _ _ _ _ _ _ _ hn9
          · have hy := zt_f hy c26
            refine zj_iload (pc' := 52) 4 dX0_judge_50 rfl rfl ?_
            refine zj_istore_n (pc' := 53) (L' := [(3, .int x14), (0, .ref (zad Γ 174)), (1, .ref (zad Γ 5)), (2, .ref (zad Γ 25)), (4, .int x14)]) dX0_judge_52 rfl rfl (by decide) rfl ?_
            refine zj_goto (tgt := 72) dX0_judge_53 (by decide) ?_
            have e9 := h21 _ (Option.some.inj hy).symm
            refine zj_loc [1, 3, 0] rfl ?_
            exact HE15 _ _ _ _ _ _ _ _ _ _ _ _ e9.symm
  exact HL16 n9 _ _ _ _ _ _ _ _ _ _ _ _ hn9
set_option maxRecDepth 20000 in
theorem LX0_judge_174_5_25 (Γ : zG) (M : zM) (r0 : Nat → Int32) (r0_0 : Nat → Int32) (r0_1 : Nat → Int32) (r0_2 : Nat → Int32) (r0_3 : Nat → Int32) (r1 : Nat → Int32) (r1_2 : Nat → Int32) (r1_3 : Nat → Int32) (r2 : Nat → Int32) (r2_0 : Nat → Int32) (r2_1 : Nat → Int32) (r2_2 : Nat → Int32) (r2_3 : Nat → Int32) (r2_4 : Nat → Int32) (r2_5 : Nat → Int32) (r2_6 : Nat → Int32) (r2_7 : Nat → Int32) (r2_8 : Nat → Int32) (e_i174 : M.1 174 = r0) (e_i175 : M.1 175 = r0_0) (e_i176 : M.1 176 = r0_1) (e_i177 : M.1 177 = r0_2) (e_i178 : M.1 178 = r0_3) (e_i5 : M.1 5 = r1) (e_i8 : M.1 8 = r1_2) (e_i9 : M.1 9 = r1_3) (e_i25 : M.1 25 = r2) (e_i26 : M.1 26 = r2_0) (e_i27 : M.1 27 = r2_1) (e_i28 : M.1 28 = r2_2) (e_i29 : M.1 29 = r2_3) (e_i30 : M.1 30 = r2_4) (e_i31 : M.1 31 = r2_5) (e_i32 : M.1 32 = r2_6) (e_i33 : M.1 33 = r2_7) (e_i34 : M.1 34 = r2_8)  {res : Int32 × (Nat → Int32) × (Nat → Int32) × (Nat → Int32) × (Nat → Int32) × (Nat → Int32) × (Nat → Int32) × (Nat → Int32) × (Nat → Int32) × (Nat → Int32) × (Nat → Int32) × (Nat → Int32)} (hy : (fBk_judge r0 r0_0 r0_1 r0_2 r0_3 r1 r1_2 r1_3 r2 r2_0 r2_1 r2_2 r2_3 r2_4 r2_5 r2_6 r2_7 r2_8) = some res) : zK Γ 7 YX0_judge [.ref (zad Γ 174), .ref (zad Γ 5), .ref (zad Γ 25)] M (fun v N => v = some (.int res.1) ∧ N = (zui (zui (zui (zui (zui (zui (zui (zui (zui (zui (zui M 25 res.2.2.1) 26 res.2.2.2.1) 27 res.2.2.2.2.1) 28 res.2.2.2.2.2.1) 29 res.2.2.2.2.2.2.1) 30 res.2.2.2.2.2.2.2.1) 31 res.2.2.2.2.2.2.2.2.1) 32 res.2.2.2.2.2.2.2.2.2.1) 33 res.2.2.2.2.2.2.2.2.2.2.1) 34 res.2.2.2.2.2.2.2.2.2.2.2) 174 res.2.1)) :=
  zK_of (by decide) (Nat.le_of_ble_eq_true rfl) (TX0_judge_174_5_25 Γ M r0 r0_0 r0_1 r0_2 r0_3 r1 r1_2 r1_3 r2 r2_0 r2_1 r2_2 r2_3 r2_4 r2_5 r2_6 r2_7 r2_8 e_i174 e_i175 e_i176 e_i177 e_i178 e_i5 e_i8 e_i9 e_i25 e_i26 e_i27 e_i28 e_i29 e_i30 e_i31 e_i32 e_i33 e_i34 hy ⟨rfl, rfl⟩)

noncomputable def fBk_goodLines (r0 : Nat → Int32) : Int32 :=
  (r0 7)

set_option maxRecDepth 20000 in
theorem TX0_goodLines_174 (Γ : zG) {Q : Option Value → zM → Prop} (M : zM) (r0 : Nat → Int32) (e_i174 : M.1 174 = r0)  {res : Int32} (hy : (fBk_goodLines r0) = res) (hq : Q (some (.int res)) M) : zR Γ 1 YX0_goodLines 0 [(0, .ref (zad Γ 174))] [] M Q := by
  unfold fBk_goodLines at hy
  refine zj_aload_n (pc' := 1) 0 dX0_goodLines_0 rfl rfl rfl ?_
  refine zj_fI (pc' := 4) dX0_goodLines_1 rfl flX0_24 sh174 rfl e_i174 rfl ?_
  subst hy
  exact zj_iret dX0_goodLines_4 rfl hq
set_option maxRecDepth 20000 in
theorem LX0_goodLines_174 (Γ : zG) (M : zM) (r0 : Nat → Int32) (e_i174 : M.1 174 = r0)  {res : Int32} (hy : (fBk_goodLines r0) = res) : zK Γ 1 YX0_goodLines [.ref (zad Γ 174)] M (fun v N => v = some (.int res) ∧ N = M) :=
  zK_of (by decide) (Nat.le_of_ble_eq_true rfl) (TX0_goodLines_174 Γ M r0 e_i174 hy ⟨rfl, rfl⟩)

noncomputable def fM_bookLine (r0 : Nat → Int32) (w0 : Nat → Int64) (r0_1 : Nat → Int32) (r0_6 : Nat → Int32) (r0_8 : Nat → Int32) (w0_9 : Nat → Int64) (w0_10 : Nat → Int64) : Option (Bool × (Nat → Int32) × (Nat → Int64) × (Nat → Int32)) :=
  zlet (4 * (r0 40)) (fun (x1 : Int32) =>
  zlet (fun (r0v2 : Nat → Int32) =>
  (if (r0v2 40) = 40 then
  (fM_bad r0v2 4).bind (fun (y4 : Bool × (Nat → Int32)) =>
  some (y4.1, y4.2, w0, r0_8))
  else
  zlet (r0v2 18) (fun (x5 : Int32) =>
  (fM_next r0v2 w0 r0_1).bind (fun (y6 : (Nat → Int32) × (Nat → Int64)) =>
  (if (fM_isWord r0 w0 (120299592184933 : Int64)) = true then
  (zwr r0_8 160 x1 4).bind (fun (r0_8v8 : Nat → Int32) =>
  (fM_takes y6.1 y6.2 r0_1 1 60).bind (fun (y9 : Bool × (Nat → Int32) × (Nat → Int64)) =>
  (if y9.1 = true then
  (zwr r0_8v8 160 (x1 + 1) (y9.2.1 18)).bind (fun (r0_8v11 : Nat → Int32) =>
  some (true, y9.2.1, y9.2.2, r0_8v11))
  else
  some (false, y9.2.1, y9.2.2, r0_8v8))))
  else
  zlet (if (fM_isWord y6.1 y6.2 (1735353715 : Int64)) = true then (0 : Int32) else (if (fM_isWord y6.1 y6.2 (431416635507 : Int64)) = true then (1 : Int32) else (if (fM_isWord y6.1 y6.2 (119182682645875 : Int64)) = true then (2 : Int32) else (if (fM_isWord y6.1 y6.2 (448445703539 : Int64)) = true then (3 : Int32) else ((-1) : Int32))))) (fun (x17 : Int32) =>
  (if 0 ≤ x17 then
  (fM_next y6.1 y6.2 r0_1).bind (fun (y19 : (Nat → Int32) × (Nat → Int64)) =>
  (zwr r0_8 160 x1 x17).bind (fun (r0_8v20 : Nat → Int32) =>
  (zwr r0_8v20 160 (x1 + 1) x5).bind (fun (r0_8v21 : Nat → Int32) =>
  (if x17 = 1 then
  some (true, y19.1, y19.2, r0_8v21)
  else
  (if x17 = 2 then
  some (true, y19.1, y19.2, r0_8v21)
  else
  (if x17 = 0 then
  (fM_takesName y19.1 y19.2 r0_1 w0_9 w0_10 0 (r0_6 0)).bind (fun (y25 : Bool × (Nat → Int32) × (Nat → Int64)) =>
  (if y25.1 = true then
  (zwr r0_8v21 160 (x1 + 2) (y25.2.1 18)).bind (fun (r0_8v27 : Nat → Int32) =>
  some (true, y25.2.1, y25.2.2, r0_8v27))
  else
  some (false, y25.2.1, y25.2.2, r0_8v21)))
  else
  (fM_looksAt y19.1 y19.2 w0_9 w0_10 8 (r0_6 2)).bind (fun (y28 : Bool × (Nat → Int32)) =>
  (if y28.1 = true then
  (if (y28.2 18) = x5 then
  (fM_bad y28.2 3).bind (fun (y31 : Bool × (Nat → Int32)) =>
  some (y31.1, y31.2, y19.2, r0_8v21))
  else
  (zwr r0_8v21 160 (x1 + 2) (y28.2 18)).bind (fun (r0_8v32 : Nat → Int32) =>
  (fM_next y28.2 y19.2 r0_1).bind (fun (y33 : (Nat → Int32) × (Nat → Int64)) =>
  (fM_takes y33.1 y33.2 r0_1 1 5).bind (fun (y34 : Bool × (Nat → Int32) × (Nat → Int64)) =>
  (if y34.1 = true then
  (zwr r0_8v32 160 (x1 + 3) (y34.2.1 18)).bind (fun (r0_8v36 : Nat → Int32) =>
  some (true, y34.2.1, y34.2.2, r0_8v36))
  else
  some (false, y34.2.1, y34.2.2, r0_8v32))))))
  else
  some (false, y28.2, y19.2, r0_8v21)))))))))
  else
  (fM_bad y6.1 1).bind (fun (y37 : Bool × (Nat → Int32)) =>
  some (y37.1, y37.2, y6.2, r0_8))))))))) (fun J38 =>
  (if (fM_isWord r0 w0 (120299592184933 : Int64)) = true then
  J38 r0
  else
  (fM_looksAt r0 w0 w0_9 w0_10 8 (r0_6 2)).bind (fun (y40 : Bool × (Nat → Int32)) =>
  (if y40.1 = true then
  J38 y40.2
  else
  some (false, y40.2, w0, r0_8))))))

set_option maxRecDepth 20000 in
theorem TX12_bookLine_186 (Γ : zG) {Q : Option Value → zM → Prop} (M : zM) (r0 : Nat → Int32) (w0 : Nat → Int64) (r0_1 : Nat → Int32) (r0_6 : Nat → Int32) (r0_8 : Nat → Int32) (w0_9 : Nat → Int64) (w0_10 : Nat → Int64) (e_i186 : M.1 186 = r0) (e_l186 : M.2 186 = w0) (e_i187 : M.1 187 = r0_1) (e_i188 : M.1 188 = r0_6) (e_i190 : M.1 190 = r0_8) (e_l191 : M.2 191 = w0_9) (e_l192 : M.2 192 = w0_10)  {res : Bool × (Nat → Int32) × (Nat → Int64) × (Nat → Int32)} (hy : (fM_bookLine r0 w0 r0_1 r0_6 r0_8 w0_9 w0_10) = some res) (hq : Q (some (.int (zb res.1))) (zui (zui (zul M 186 res.2.2.1) 186 res.2.1) 190 res.2.2.2)) : zR Γ 4 YX12_bookLine 0 [(0, .ref (zad Γ 186))] [] M Q := by
  unfold fM_bookLine at hy
  refine zj_iconst (pc' := 1) dX12_bookLine_0 rfl kiconst_4 ?_
  refine zj_aload_n (pc' := 2) 0 dX12_bookLine_1 rfl rfl rfl ?_
  refine zj_fI (pc' := 5) dX12_bookLine_2 rfl flX12_416 sh186 rfl e_i186 rfl ?_
  refine zj_imul (pc' := 6) dX12_bookLine_5 rfl ?_
  refine zj_topi (fun x1 ex1 => ?_)
  have hy := zlet_at ex1 hy
  refine zj_istore_n (pc' := 7) (L' := [(1, .int x1), (0, .ref (zad Γ 186))]) dX12_bookLine_6 rfl rfl (by decide) rfl ?_
  refine zj_aload_n (pc' := 8) 1 dX12_bookLine_7 rfl rfl rfl ?_
  refine zj_ldc2 (pc' := 11) dX12_bookLine_8 rfl cL1399 ?_
  refine zj_V1 (pc' := 14) (z := YX12_isWord) (As := [.long (120299592184933 : Int64)]) (N := M) dX12_bookLine_11 rfl mlX12_210 lkX12_isWord sh186 ⟨_, _, rfl⟩ rfl rfl (Nat.le_of_ble_eq_true rfl) (Nat.le_of_ble_eq_true rfl) (LX12_isWord_186 Γ _ r0 w0 e_i186 e_l186 (120299592184933 : Int64) rfl) rfl ?_
  refine zj_istore_n (pc' := 15) (L' := [(2, .int (zb (fM_isWord r0 w0 (120299592184933 : Int64)))), (1, .int x1), (0, .ref (zad Γ 186))]) dX12_bookLine_14 rfl rfl (by decide) rfl ?_
  refine zj_iload_n (pc' := 16) 0 dX12_bookLine_15 rfl rfl rfl ?_
  obtain ⟨J38, eJ38, hy⟩ := zlet_ex hy
  have HJ38 : ∀ (r0v2 : Nat → Int32), J38 r0v2 = some res → zR Γ 4 YX12_bookLine 36 [(0, .ref (zad Γ 186)), (1, .int x1), (2, .int (zb (fM_isWord r0 w0 (120299592184933 : Int64))))] [] (zui M 186 r0v2) Q := by
    intro r0v2 hy
    have hy := zap1 eJ38 hy
    refine zj_aload_n (pc' := 37) 0 dX12_bookLine_36 rfl rfl rfl ?_
    refine zj_fI (pc' := 40) dX12_bookLine_37 rfl flX12_416 sh186 rfl zr_s rfl ?_
    refine zj_bipush (pc' := 42) dX12_bookLine_40 rfl kbipush_40 ?_
    refine zj_icmp_ne (tgt := 51) (pc' := 45) dX12_bookLine_42 rfl (by decide) (fun c3 => ?_) (fun c3 => ?_)
    · have hy := zt_f hy c3
      refine zj_aload_n (pc' := 52) 0 dX12_bookLine_51 rfl rfl rfl ?_
      refine zj_fI (pc' := 55) dX12_bookLine_52 rfl flX12_192 sh186 rfl zr_s rfl ?_
      refine zj_topi (fun x5 ex5 => ?_)
      have hy := zlet_at ex5 hy
      refine zj_istore_n (pc' := 56) (L' := [(3, .int x5), (0, .ref (zad Γ 186)), (1, .int x1), (2, .int (zb (fM_isWord r0 w0 (120299592184933 : Int64))))]) dX12_bookLine_55 rfl rfl (by decide) rfl ?_
      refine zj_aload_n (pc' := 57) 1 dX12_bookLine_56 rfl rfl rfl ?_
      obtain ⟨y6, hy6, hy⟩ := zt_b hy
      refine zj_V0 (pc' := 60) (z := YX12_next) (As := []) (N := (zui (zul M 186 y6.2) 186 y6.1)) dX12_bookLine_57 rfl mlX12_185 lkX12_next sh186 ⟨_, _, rfl⟩ rfl rfl (Nat.le_of_ble_eq_true rfl) (Nat.le_of_ble_eq_true rfl) (LX12_next_186 Γ _ r0v2 w0 r0_1 zr_s (zq_i e_l186) (zr_n rfl e_i187) hy6) ((zch_i (zm_li rfl) zm_s)).symm ?_
      refine zj_iload_n (pc' := 61) 3 dX12_bookLine_60 rfl rfl rfl ?_
      refine zj_bif_eq (tgt := 97) (pc' := 64) dX12_bookLine_61 rfl (by decide) (fun c7 => ?_) (fun c7 => ?_)
      · have hy := zt_f hy c7
        refine zj_aload_n (pc' := 98) 1 dX12_bookLine_97 rfl rfl rfl ?_
        refine zj_ldc2 (pc' := 101) dX12_bookLine_98 rfl cL1395 ?_
        refine zj_V1 (pc' := 104) (z := YX12_isWord) (As := [.long (1735353715 : Int64)]) (N := (zui (zul M 186 y6.2) 186 y6.1)) dX12_bookLine_101 rfl mlX12_210 lkX12_isWord sh186 ⟨_, _, rfl⟩ rfl rfl (Nat.le_of_ble_eq_true rfl) (Nat.le_of_ble_eq_true rfl) (LX12_isWord_186 Γ _ y6.1 y6.2 zr_s (zq_i zq_s) (1735353715 : Int64) rfl) rfl ?_
        have HJ12 : zR Γ 4 YX12_bookLine 154 [(3, .int x5), (0, .ref (zad Γ 186)), (1, .int x1), (2, .int (zb (fM_isWord r0 w0 (120299592184933 : Int64))))] [.int (if (fM_isWord y6.1 y6.2 (1735353715 : Int64)) = true then (0 : Int32) else (if (fM_isWord y6.1 y6.2 (431416635507 : Int64)) = true then (1 : Int32) else (if (fM_isWord y6.1 y6.2 (119182682645875 : Int64)) = true then (2 : Int32) else (if (fM_isWord y6.1 y6.2 (448445703539 : Int64)) = true then (3 : Int32) else ((-1) : Int32)))))] (zui (zul M 186 y6.2) 186 y6.1) Q := by
          refine zj_topi (fun x17 ex17 => ?_)
          have hy := zlet_at ex17 hy
          refine zj_istore (pc' := 156) (L' := [(4, .int x17), (3, .int x5), (0, .ref (zad Γ 186)), (1, .int x1), (2, .int (zb (fM_isWord r0 w0 (120299592184933 : Int64))))]) dX12_bookLine_154 rfl (by decide) rfl ?_
          refine zj_iload (pc' := 158) 0 dX12_bookLine_156 rfl rfl ?_
          refine zj_if_ge (tgt := 167) (pc' := 161) dX12_bookLine_158 rfl (by decide) (fun c18 => ?_) (fun c18 => ?_)
          · have hy := zt_t hy c18
            refine zj_aload_n (pc' := 168) 2 dX12_bookLine_167 rfl rfl rfl ?_
            obtain ⟨y19, hy19, hy⟩ := zt_b hy
            refine zj_V0 (pc' := 171) (z := YX12_next) (As := []) (N := (zui (zul M 186 y19.2) 186 y19.1)) dX12_bookLine_168 rfl mlX12_185 lkX12_next sh186 ⟨_, _, rfl⟩ rfl rfl (Nat.le_of_ble_eq_true rfl) (Nat.le_of_ble_eq_true rfl) (LX12_next_186 Γ _ y6.1 y6.2 r0_1 zr_s (zq_i zq_s) (zr_n rfl (zr_l e_i187)) hy19) ((zch_i (zm_li zn_s) zm_s)).symm ?_
            refine zj_aload_n (pc' := 172) 2 dX12_bookLine_171 rfl rfl rfl ?_
            refine zj_getR (pc' := 175) (j := 190) dX12_bookLine_172 rfl flX12_40 sh186 rfl ?_
            refine zj_iload_n (pc' := 176) 3 dX12_bookLine_175 rfl rfl rfl ?_
            refine zj_iload (pc' := 178) 0 dX12_bookLine_176 rfl rfl ?_
            obtain ⟨r0_8v20, hr0_8v20, hy⟩ := zt_b hy
            refine zj_wri (pc' := 179) (N := (zui (zui (zul M 186 y19.2) 186 y19.1) 190 r0_8v20)) dX12_bookLine_178 rfl sh190 (zr_n rfl (zr_l e_i190)) hr0_8v20 rfl ?_
            refine zj_aload_n (pc' := 180) 2 dX12_bookLine_179 rfl rfl rfl ?_
            refine zj_getR (pc' := 183) (j := 190) dX12_bookLine_180 rfl flX12_40 sh186 rfl ?_
            refine zj_iload_n (pc' := 184) 3 dX12_bookLine_183 rfl rfl rfl ?_
            refine zj_iconst (pc' := 185) dX12_bookLine_184 rfl kiconst_1 ?_
            refine zj_iadd (pc' := 186) dX12_bookLine_185 rfl ?_
            refine zj_iload_n (pc' := 187) 1 dX12_bookLine_186 rfl rfl rfl ?_
            obtain ⟨r0_8v21, hr0_8v21, hy⟩ := zt_b hy
            refine zj_wri (pc' := 188) (N := (zui (zui (zul M 186 y19.2) 186 y19.1) 190 r0_8v21)) dX12_bookLine_187 rfl sh190 zr_s hr0_8v21 zm_s ?_
            refine zj_iload (pc' := 190) 0 dX12_bookLine_188 rfl rfl ?_
            refine zj_iconst (pc' := 191) dX12_bookLine_190 rfl kiconst_1 ?_
            refine zj_icmp_eq (tgt := 200) (pc' := 194) dX12_bookLine_191 rfl (by decide) (fun c22 => ?_) (fun c22 => ?_)
            · have hy := zt_t hy c22
              refine zj_iconst (pc' := 201) dX12_bookLine_200 rfl kiconst_1 ?_
              have e9 := Option.some.inj hy
              subst e9
              exact zj_bret (b := true) dX12_bookLine_201 rfl hq
            · have hy := zt_f hy c22
              refine zj_iload (pc' := 196) 0 dX12_bookLine_194 rfl rfl ?_
              refine zj_iconst (pc' := 197) dX12_bookLine_196 rfl kiconst_2 ?_
              refine zj_icmp_ne (tgt := 202) (pc' := 200) dX12_bookLine_197 rfl (by decide) (fun c23 => ?_) (fun c23 => ?_)
              · have hy := zt_f hy c23
                refine zj_iload (pc' := 204) 0 dX12_bookLine_202 rfl rfl ?_
                refine zj_if_ne (tgt := 237) (pc' := 207) dX12_bookLine_204 rfl (by decide) (fun c24 => ?_) (fun c24 => ?_)
                · have hy := zt_f hy c24
                  refine zj_aload_n (pc' := 238) 2 dX12_bookLine_237 rfl rfl rfl ?_
                  refine zj_bipush (pc' := 240) dX12_bookLine_238 rfl kbipush_8 ?_
                  refine zj_aload_n (pc' := 241) 2 dX12_bookLine_240 rfl rfl rfl ?_
                  refine zj_getR (pc' := 244) (j := 188) dX12_bookLine_241 rfl flX12_33 sh186 rfl ?_
                  refine zj_iconst (pc' := 245) dX12_bookLine_244 rfl kiconst_2 ?_
                  refine zj_rdi (pc' := 246) dX12_bookLine_245 rfl sh188 (zr_n rfl (zr_n rfl (zr_l e_i188))) (zrdK zi2_397 tn2) ?_
                  obtain ⟨y28, hy28, hy⟩ := zt_b hy
                  refine zj_V1 (pc' := 249) (z := YX12_looksAt) (As := [.int 8, .int (r0_6 2)]) (N := (zui (zui (zul M 186 y19.2) 186 y28.2) 190 r0_8v21)) dX12_bookLine_246 rfl mlX12_207 lkX12_looksAt sh186 ⟨_, _, rfl⟩ rfl rfl (Nat.le_of_ble_eq_true rfl) (Nat.le_of_ble_eq_true rfl) (LX12_looksAt_186 Γ _ y19.1 y19.2 w0_9 w0_10 (zr_n rfl zr_s) (zq_i (zq_i zq_s)) (zq_i (zq_i (zq_n rfl e_l191))) (zq_i (zq_i (zq_n rfl e_l192))) 8 (r0_6 2) hy28) ((zm_n rfl zm_s)).symm ?_
                  refine zj_bif_ne (tgt := 254) (pc' := 252) dX12_bookLine_249 rfl (by decide) (fun c29 => ?_) (fun c29 => ?_)
                  · have hy := zt_t hy c29
                    refine zj_aload_n (pc' := 255) 2 dX12_bookLine_254 rfl rfl rfl ?_
                    refine zj_fI (pc' := 258) dX12_bookLine_255 rfl flX12_192 sh186 rfl (zr_n rfl zr_s) rfl ?_
                    refine zj_iload_n (pc' := 259) 1 dX12_bookLine_258 rfl rfl rfl ?_
                    refine zj_icmp_ne (tgt := 268) (pc' := 262) dX12_bookLine_259 rfl (by decide) (fun c30 => ?_) (fun c30 => ?_)
                    · have hy := zt_f hy c30
                      refine zj_aload_n (pc' := 269) 2 dX12_bookLine_268 rfl rfl rfl ?_
                      refine zj_getR (pc' := 272) (j := 190) dX12_bookLine_269 rfl flX12_40 sh186 rfl ?_
                      refine zj_iload_n (pc' := 273) 3 dX12_bookLine_272 rfl rfl rfl ?_
                      refine zj_iconst (pc' := 274) dX12_bookLine_273 rfl kiconst_2 ?_
                      refine zj_iadd (pc' := 275) dX12_bookLine_274 rfl ?_
                      refine zj_aload_n (pc' := 276) 2 dX12_bookLine_275 rfl rfl rfl ?_
                      refine zj_fI (pc' := 279) dX12_bookLine_276 rfl flX12_192 sh186 rfl (zr_n rfl zr_s) rfl ?_
                      obtain ⟨r0_8v32, hr0_8v32, hy⟩ := zt_b hy
                      refine zj_wri (pc' := 280) (N := (zui (zui (zul M 186 y19.2) 186 y28.2) 190 r0_8v32)) dX12_bookLine_279 rfl sh190 zr_s hr0_8v32 zm_s ?_
                      refine zj_aload_n (pc' := 281) 2 dX12_bookLine_280 rfl rfl rfl ?_
                      obtain ⟨y33, hy33, hy⟩ := zt_b hy
                      refine zj_V0 (pc' := 284) (z := YX12_next) (As := []) (N := (zui (zui (zul M 186 y33.2) 186 y33.1) 190 r0_8v32)) dX12_bookLine_281 rfl mlX12_185 lkX12_next sh186 ⟨_, _, rfl⟩ rfl rfl (Nat.le_of_ble_eq_true rfl) (Nat.le_of_ble_eq_true rfl) (LX12_next_186 Γ _ y28.2 y19.2 r0_1 (zr_n rfl zr_s) (zq_i (zq_i zq_s)) (zr_n rfl (zr_n rfl (zr_l e_i187))) hy33) ((zch_i (zm_li (zm_li zn_s)) (zm_n rfl zm_s))).symm ?_
                      refine zj_aload_n (pc' := 285) 2 dX12_bookLine_284 rfl rfl rfl ?_
                      refine zj_iconst (pc' := 286) dX12_bookLine_285 rfl kiconst_1 ?_
                      refine zj_iconst (pc' := 287) dX12_bookLine_286 rfl kiconst_5 ?_
                      obtain ⟨y34, hy34, hy⟩ := zt_b hy
                      refine zj_V1 (pc' := 290) (z := YX12_takes) (As := [.int 1, .int 5]) (N := (zui (zui (zul M 186 y34.2.2) 186 y34.2.1) 190 r0_8v32)) dX12_bookLine_287 rfl mlX12_195 lkX12_takes sh186 ⟨_, _, rfl⟩ rfl rfl (Nat.le_of_ble_eq_true rfl) (Nat.le_of_ble_eq_true rfl) (LX12_takes_186 Γ _ y33.1 y33.2 r0_1 (zr_n rfl zr_s) (zq_i (zq_i zq_s)) (zr_n rfl (zr_n rfl (zr_l e_i187))) 1 5 hy34) ((zch_i (zm_li (zm_li zn_s)) (zm_n rfl zm_s))).symm ?_
                      refine zj_bif_ne (tgt := 295) (pc' := 293) dX12_bookLine_290 rfl (by decide) (fun c35 => ?_) (fun c35 => ?_)
                      · have hy := zt_t hy c35
                        refine zj_aload_n (pc' := 296) 2 dX12_bookLine_295 rfl rfl rfl ?_
                        refine zj_getR (pc' := 299) (j := 190) dX12_bookLine_296 rfl flX12_40 sh186 rfl ?_
                        refine zj_iload_n (pc' := 300) 3 dX12_bookLine_299 rfl rfl rfl ?_
                        refine zj_iconst (pc' := 301) dX12_bookLine_300 rfl kiconst_3 ?_
                        refine zj_iadd (pc' := 302) dX12_bookLine_301 rfl ?_
                        refine zj_aload_n (pc' := 303) 2 dX12_bookLine_302 rfl rfl rfl ?_
                        refine zj_fI (pc' := 306) dX12_bookLine_303 rfl flX12_192 sh186 rfl (zr_n rfl zr_s) rfl ?_
                        obtain ⟨r0_8v36, hr0_8v36, hy⟩ := zt_b hy
                        refine zj_wri (pc' := 307) (N := (zui (zui (zul M 186 y34.2.2) 186 y34.2.1) 190 r0_8v36)) dX12_bookLine_306 rfl sh190 zr_s hr0_8v36 zm_s ?_
                        refine zj_iconst (pc' := 308) dX12_bookLine_307 rfl kiconst_1 ?_
                        have e9 := Option.some.inj hy
                        subst e9
                        exact zj_bret (b := true) dX12_bookLine_308 rfl hq
                      · have hy := zt_f hy c35
                        refine zj_iconst (pc' := 294) dX12_bookLine_293 rfl kiconst_0 ?_
                        have e9 := Option.some.inj hy
                        subst e9
                        exact zj_bret (b := false) dX12_bookLine_294 rfl hq
                    · have hy := zt_t hy c30
                      refine zj_aload_n (pc' := 263) 2 dX12_bookLine_262 rfl rfl rfl ?_
                      refine zj_iconst (pc' := 264) dX12_bookLine_263 rfl kiconst_3 ?_
                      obtain ⟨y31, hy31, hy⟩ := zt_b hy
                      refine zj_V1 (pc' := 267) (z := YX12_bad) (As := [.int 3]) (N := (zui (zui (zul M 186 y19.2) 186 y31.2) 190 r0_8v21)) dX12_bookLine_264 rfl mlX12_182 lkX12_bad sh186 ⟨_, _, rfl⟩ rfl rfl (Nat.le_of_ble_eq_true rfl) (Nat.le_of_ble_eq_true rfl) (LX12_bad_186 Γ _ y28.2 (zr_n rfl zr_s) 3 hy31) ((zm_n rfl zm_s)).symm ?_
                      have e9 := Option.some.inj hy
                      subst e9
                      exact zj_bret (b := y31.1) dX12_bookLine_267 rfl hq
                  · have hy := zt_f hy c29
                    refine zj_iconst (pc' := 253) dX12_bookLine_252 rfl kiconst_0 ?_
                    have e9 := Option.some.inj hy
                    subst e9
                    exact zj_bret (b := false) dX12_bookLine_253 rfl hq
                · have hy := zt_t hy c24
                  refine zj_aload_n (pc' := 208) 2 dX12_bookLine_207 rfl rfl rfl ?_
                  refine zj_iconst (pc' := 209) dX12_bookLine_208 rfl kiconst_0 ?_
                  refine zj_aload_n (pc' := 210) 2 dX12_bookLine_209 rfl rfl rfl ?_
                  refine zj_getR (pc' := 213) (j := 188) dX12_bookLine_210 rfl flX12_33 sh186 rfl ?_
                  refine zj_iconst (pc' := 214) dX12_bookLine_213 rfl kiconst_0 ?_
                  refine zj_rdi (pc' := 215) dX12_bookLine_214 rfl sh188 (zr_n rfl (zr_n rfl (zr_l e_i188))) (zrdK zi0_397 tn0) ?_
                  obtain ⟨y25, hy25, hy⟩ := zt_b hy
                  refine zj_V1 (pc' := 218) (z := YX12_takesName) (As := [.int 0, .int (r0_6 0)]) (N := (zui (zui (zul M 186 y25.2.2) 186 y25.2.1) 190 r0_8v21)) dX12_bookLine_215 rfl mlX12_232 lkX12_takesName sh186 ⟨_, _, rfl⟩ rfl rfl (Nat.le_of_ble_eq_true rfl) (Nat.le_of_ble_eq_true rfl) (LX12_takesName_186 Γ _ y19.1 y19.2 r0_1 w0_9 w0_10 (zr_n rfl zr_s) (zq_i (zq_i zq_s)) (zr_n rfl (zr_n rfl (zr_l e_i187))) (zq_i (zq_i (zq_n rfl e_l191))) (zq_i (zq_i (zq_n rfl e_l192))) 0 (r0_6 0) hy25) ((zch_i (zm_li (zm_li zn_s)) (zm_n rfl zm_s))).symm ?_
                  refine zj_bif_ne (tgt := 223) (pc' := 221) dX12_bookLine_218 rfl (by decide) (fun c26 => ?_) (fun c26 => ?_)
                  · have hy := zt_t hy c26
                    refine zj_aload_n (pc' := 224) 2 dX12_bookLine_223 rfl rfl rfl ?_
                    refine zj_getR (pc' := 227) (j := 190) dX12_bookLine_224 rfl flX12_40 sh186 rfl ?_
                    refine zj_iload_n (pc' := 228) 3 dX12_bookLine_227 rfl rfl rfl ?_
                    refine zj_iconst (pc' := 229) dX12_bookLine_228 rfl kiconst_2 ?_
                    refine zj_iadd (pc' := 230) dX12_bookLine_229 rfl ?_
                    refine zj_aload_n (pc' := 231) 2 dX12_bookLine_230 rfl rfl rfl ?_
                    refine zj_fI (pc' := 234) dX12_bookLine_231 rfl flX12_192 sh186 rfl (zr_n rfl zr_s) rfl ?_
                    obtain ⟨r0_8v27, hr0_8v27, hy⟩ := zt_b hy
                    refine zj_wri (pc' := 235) (N := (zui (zui (zul M 186 y25.2.2) 186 y25.2.1) 190 r0_8v27)) dX12_bookLine_234 rfl sh190 zr_s hr0_8v27 zm_s ?_
                    refine zj_iconst (pc' := 236) dX12_bookLine_235 rfl kiconst_1 ?_
                    have e9 := Option.some.inj hy
                    subst e9
                    exact zj_bret (b := true) dX12_bookLine_236 rfl hq
                  · have hy := zt_f hy c26
                    refine zj_iconst (pc' := 222) dX12_bookLine_221 rfl kiconst_0 ?_
                    have e9 := Option.some.inj hy
                    subst e9
                    exact zj_bret (b := false) dX12_bookLine_222 rfl hq
              · have hy := zt_t hy c23
                refine zj_iconst (pc' := 201) dX12_bookLine_200 rfl kiconst_1 ?_
                have e9 := Option.some.inj hy
                subst e9
                exact zj_bret (b := true) dX12_bookLine_201 rfl hq
          · have hy := zt_f hy c18
            refine zj_aload_n (pc' := 162) 2 dX12_bookLine_161 rfl rfl rfl ?_
            refine zj_iconst (pc' := 163) dX12_bookLine_162 rfl kiconst_1 ?_
            obtain ⟨y37, hy37, hy⟩ := zt_b hy
            refine zj_V1 (pc' := 166) (z := YX12_bad) (As := [.int 1]) (N := (zui (zul M 186 y6.2) 186 y37.2)) dX12_bookLine_163 rfl mlX12_182 lkX12_bad sh186 ⟨_, _, rfl⟩ rfl rfl (Nat.le_of_ble_eq_true rfl) (Nat.le_of_ble_eq_true rfl) (LX12_bad_186 Γ _ y6.1 zr_s 1 hy37) (zm_s).symm ?_
            have e9 := Option.some.inj hy
            subst e9
            refine zj_mem (N := (zui (zui (zul M 186 y6.2) 186 y37.2) 190 r0_8)) (zself_i (zr_n rfl (zr_l e_i190)) rfl) ?_
            exact zj_bret (b := y37.1) dX12_bookLine_166 rfl hq
        refine zj_bif_eq (tgt := 111) (pc' := 107) dX12_bookLine_104 rfl (by decide) (fun c13 => ?_) (fun c13 => ?_)
        · refine zj_aload_n (pc' := 112) 1 dX12_bookLine_111 rfl rfl rfl ?_
          refine zj_ldc2 (pc' := 115) dX12_bookLine_112 rfl cL1396 ?_
          refine zj_V1 (pc' := 118) (z := YX12_isWord) (As := [.long (431416635507 : Int64)]) (N := (zui (zul M 186 y6.2) 186 y6.1)) dX12_bookLine_115 rfl mlX12_210 lkX12_isWord sh186 ⟨_, _, rfl⟩ rfl rfl (Nat.le_of_ble_eq_true rfl) (Nat.le_of_ble_eq_true rfl) (LX12_isWord_186 Γ _ y6.1 y6.2 zr_s (zq_i zq_s) (431416635507 : Int64) rfl) rfl ?_
          refine zj_bif_eq (tgt := 125) (pc' := 121) dX12_bookLine_118 rfl (by decide) (fun c14 => ?_) (fun c14 => ?_)
          · refine zj_aload_n (pc' := 126) 1 dX12_bookLine_125 rfl rfl rfl ?_
            refine zj_ldc2 (pc' := 129) dX12_bookLine_126 rfl cL1397 ?_
            refine zj_V1 (pc' := 132) (z := YX12_isWord) (As := [.long (119182682645875 : Int64)]) (N := (zui (zul M 186 y6.2) 186 y6.1)) dX12_bookLine_129 rfl mlX12_210 lkX12_isWord sh186 ⟨_, _, rfl⟩ rfl rfl (Nat.le_of_ble_eq_true rfl) (Nat.le_of_ble_eq_true rfl) (LX12_isWord_186 Γ _ y6.1 y6.2 zr_s (zq_i zq_s) (119182682645875 : Int64) rfl) rfl ?_
            refine zj_bif_eq (tgt := 139) (pc' := 135) dX12_bookLine_132 rfl (by decide) (fun c15 => ?_) (fun c15 => ?_)
            · refine zj_aload_n (pc' := 140) 1 dX12_bookLine_139 rfl rfl rfl ?_
              refine zj_ldc2 (pc' := 143) dX12_bookLine_140 rfl cL1398 ?_
              refine zj_V1 (pc' := 146) (z := YX12_isWord) (As := [.long (448445703539 : Int64)]) (N := (zui (zul M 186 y6.2) 186 y6.1)) dX12_bookLine_143 rfl mlX12_210 lkX12_isWord sh186 ⟨_, _, rfl⟩ rfl rfl (Nat.le_of_ble_eq_true rfl) (Nat.le_of_ble_eq_true rfl) (LX12_isWord_186 Γ _ y6.1 y6.2 zr_s (zq_i zq_s) (448445703539 : Int64) rfl) rfl ?_
              refine zj_bif_eq (tgt := 153) (pc' := 149) dX12_bookLine_146 rfl (by decide) (fun c16 => ?_) (fun c16 => ?_)
              · refine zj_iconst (pc' := 154) dX12_bookLine_153 rfl kiconst_m1 ?_
                exact zj_eqi ((((if_neg c13).trans (if_neg c14)).trans (if_neg c15)).trans (if_neg c16)) HJ12
              · refine zj_iconst (pc' := 150) dX12_bookLine_149 rfl kiconst_3 ?_
                refine zj_goto (tgt := 154) dX12_bookLine_150 (by decide) ?_
                exact zj_eqi ((((if_neg c13).trans (if_neg c14)).trans (if_neg c15)).trans (if_pos c16)) HJ12
            · refine zj_iconst (pc' := 136) dX12_bookLine_135 rfl kiconst_2 ?_
              refine zj_goto (tgt := 154) dX12_bookLine_136 (by decide) ?_
              exact zj_eqi (((if_neg c13).trans (if_neg c14)).trans (if_pos c15)) HJ12
          · refine zj_iconst (pc' := 122) dX12_bookLine_121 rfl kiconst_1 ?_
            refine zj_goto (tgt := 154) dX12_bookLine_122 (by decide) ?_
            exact zj_eqi ((if_neg c13).trans (if_pos c14)) HJ12
        · refine zj_iconst (pc' := 108) dX12_bookLine_107 rfl kiconst_0 ?_
          refine zj_goto (tgt := 154) dX12_bookLine_108 (by decide) ?_
          exact zj_eqi (if_pos c13) HJ12
      · have hy := zt_t hy c7
        refine zj_aload_n (pc' := 65) 1 dX12_bookLine_64 rfl rfl rfl ?_
        refine zj_getR (pc' := 68) (j := 190) dX12_bookLine_65 rfl flX12_40 sh186 rfl ?_
        refine zj_iload_n (pc' := 69) 2 dX12_bookLine_68 rfl rfl rfl ?_
        refine zj_iconst (pc' := 70) dX12_bookLine_69 rfl kiconst_4 ?_
        obtain ⟨r0_8v8, hr0_8v8, hy⟩ := zt_b hy
        refine zj_wri (pc' := 71) (N := (zui (zui (zul M 186 y6.2) 186 y6.1) 190 r0_8v8)) dX12_bookLine_70 rfl sh190 (zr_n rfl (zr_l e_i190)) hr0_8v8 rfl ?_
        refine zj_aload_n (pc' := 72) 1 dX12_bookLine_71 rfl rfl rfl ?_
        refine zj_iconst (pc' := 73) dX12_bookLine_72 rfl kiconst_1 ?_
        refine zj_bipush (pc' := 75) dX12_bookLine_73 rfl kbipush_60 ?_
        obtain ⟨y9, hy9, hy⟩ := zt_b hy
        refine zj_V1 (pc' := 78) (z := YX12_takes) (As := [.int 1, .int 60]) (N := (zui (zui (zul M 186 y9.2.2) 186 y9.2.1) 190 r0_8v8)) dX12_bookLine_75 rfl mlX12_195 lkX12_takes sh186 ⟨_, _, rfl⟩ rfl rfl (Nat.le_of_ble_eq_true rfl) (Nat.le_of_ble_eq_true rfl) (LX12_takes_186 Γ _ y6.1 y6.2 r0_1 (zr_n rfl zr_s) (zq_i (zq_i zq_s)) (zr_n rfl (zr_n rfl (zr_l e_i187))) 1 60 hy9) ((zch_i (zm_li (zm_li zn_s)) (zm_n rfl zm_s))).symm ?_
        refine zj_bif_ne (tgt := 83) (pc' := 81) dX12_bookLine_78 rfl (by decide) (fun c10 => ?_) (fun c10 => ?_)
        · have hy := zt_t hy c10
          refine zj_aload_n (pc' := 84) 1 dX12_bookLine_83 rfl rfl rfl ?_
          refine zj_getR (pc' := 87) (j := 190) dX12_bookLine_84 rfl flX12_40 sh186 rfl ?_
          refine zj_iload_n (pc' := 88) 2 dX12_bookLine_87 rfl rfl rfl ?_
          refine zj_iconst (pc' := 89) dX12_bookLine_88 rfl kiconst_1 ?_
          refine zj_iadd (pc' := 90) dX12_bookLine_89 rfl ?_
          refine zj_aload_n (pc' := 91) 1 dX12_bookLine_90 rfl rfl rfl ?_
          refine zj_fI (pc' := 94) dX12_bookLine_91 rfl flX12_192 sh186 rfl (zr_n rfl zr_s) rfl ?_
          obtain ⟨r0_8v11, hr0_8v11, hy⟩ := zt_b hy
          refine zj_wri (pc' := 95) (N := (zui (zui (zul M 186 y9.2.2) 186 y9.2.1) 190 r0_8v11)) dX12_bookLine_94 rfl sh190 zr_s hr0_8v11 zm_s ?_
          refine zj_iconst (pc' := 96) dX12_bookLine_95 rfl kiconst_1 ?_
          have e9 := Option.some.inj hy
          subst e9
          exact zj_bret (b := true) dX12_bookLine_96 rfl hq
        · have hy := zt_f hy c10
          refine zj_iconst (pc' := 82) dX12_bookLine_81 rfl kiconst_0 ?_
          have e9 := Option.some.inj hy
          subst e9
          exact zj_bret (b := false) dX12_bookLine_82 rfl hq
    · have hy := zt_t hy c3
      refine zj_aload_n (pc' := 46) 0 dX12_bookLine_45 rfl rfl rfl ?_
      refine zj_iconst (pc' := 47) dX12_bookLine_46 rfl kiconst_4 ?_
      obtain ⟨y4, hy4, hy⟩ := zt_b hy
      refine zj_V1 (pc' := 50) (z := YX12_bad) (As := [.int 4]) (N := (zui M 186 y4.2)) dX12_bookLine_47 rfl mlX12_182 lkX12_bad sh186 ⟨_, _, rfl⟩ rfl rfl (Nat.le_of_ble_eq_true rfl) (Nat.le_of_ble_eq_true rfl) (LX12_bad_186 Γ _ r0v2 zr_s 4 hy4) (zm_s).symm ?_
      have e9 := Option.some.inj hy
      subst e9
      refine zj_mem (N := (zui (zul M 186 w0) 186 y4.2)) (zself_l (zq_i e_l186) (zm_li rfl)) ?_
      refine zj_mem (N := (zui (zui (zul M 186 w0) 186 y4.2) 190 r0_8)) (zself_i (zr_n rfl (zr_l e_i190)) rfl) ?_
      exact zj_bret (b := y4.1) dX12_bookLine_50 rfl hq
  refine zj_bif_ne (tgt := 36) (pc' := 19) dX12_bookLine_16 rfl (by decide) (fun c39 => ?_) (fun c39 => ?_)
  · have hy := zt_t hy c39
    refine zj_loc [2, 1, 0] rfl ?_
    refine zj_mem (N := (zui M 186 r0)) (zself_i e_i186 rfl) ?_
    exact HJ38 r0 hy
  · have hy := zt_f hy c39
    refine zj_aload_n (pc' := 20) 2 dX12_bookLine_19 rfl rfl rfl ?_
    refine zj_bipush (pc' := 22) dX12_bookLine_20 rfl kbipush_8 ?_
    refine zj_aload_n (pc' := 23) 2 dX12_bookLine_22 rfl rfl rfl ?_
    refine zj_getR (pc' := 26) (j := 188) dX12_bookLine_23 rfl flX12_33 sh186 rfl ?_
    refine zj_iconst (pc' := 27) dX12_bookLine_26 rfl kiconst_2 ?_
    refine zj_rdi (pc' := 28) dX12_bookLine_27 rfl sh188 e_i188 (zrdK zi2_397 tn2) ?_
    obtain ⟨y40, hy40, hy⟩ := zt_b hy
    refine zj_V1 (pc' := 31) (z := YX12_looksAt) (As := [.int 8, .int (r0_6 2)]) (N := (zui M 186 y40.2)) dX12_bookLine_28 rfl mlX12_207 lkX12_looksAt sh186 ⟨_, _, rfl⟩ rfl rfl (Nat.le_of_ble_eq_true rfl) (Nat.le_of_ble_eq_true rfl) (LX12_looksAt_186 Γ _ r0 w0 w0_9 w0_10 e_i186 e_l186 e_l191 e_l192 8 (r0_6 2) hy40) (rfl).symm ?_
    refine zj_bif_ne (tgt := 36) (pc' := 34) dX12_bookLine_31 rfl (by decide) (fun c41 => ?_) (fun c41 => ?_)
    · have hy := zt_t hy c41
      refine zj_loc [2, 1, 0] rfl ?_
      exact HJ38 y40.2 hy
    · have hy := zt_f hy c41
      refine zj_iconst (pc' := 35) dX12_bookLine_34 rfl kiconst_0 ?_
      have e9 := Option.some.inj hy
      subst e9
      refine zj_mem (N := (zui (zul M 186 w0) 186 y40.2)) (zself_l (zq_i e_l186) (zm_li rfl)) ?_
      refine zj_mem (N := (zui (zui (zul M 186 w0) 186 y40.2) 190 r0_8)) (zself_i (zr_n rfl (zr_l e_i190)) rfl) ?_
      exact zj_bret (b := false) dX12_bookLine_35 rfl hq
set_option maxRecDepth 20000 in
theorem LX12_bookLine_186 (Γ : zG) (M : zM) (r0 : Nat → Int32) (w0 : Nat → Int64) (r0_1 : Nat → Int32) (r0_6 : Nat → Int32) (r0_8 : Nat → Int32) (w0_9 : Nat → Int64) (w0_10 : Nat → Int64) (e_i186 : M.1 186 = r0) (e_l186 : M.2 186 = w0) (e_i187 : M.1 187 = r0_1) (e_i188 : M.1 188 = r0_6) (e_i190 : M.1 190 = r0_8) (e_l191 : M.2 191 = w0_9) (e_l192 : M.2 192 = w0_10)  {res : Bool × (Nat → Int32) × (Nat → Int64) × (Nat → Int32)} (hy : (fM_bookLine r0 w0 r0_1 r0_6 r0_8 w0_9 w0_10) = some res) : zK Γ 4 YX12_bookLine [.ref (zad Γ 186)] M (fun v N => v = some (.int (zb res.1)) ∧ N = (zui (zui (zul M 186 res.2.2.1) 186 res.2.1) 190 res.2.2.2)) :=
  zK_of (by decide) (Nat.le_of_ble_eq_true rfl) (TX12_bookLine_186 Γ M r0 w0 r0_1 r0_6 r0_8 w0_9 w0_10 e_i186 e_l186 e_i187 e_i188 e_i190 e_l191 e_l192 hy ⟨rfl, rfl⟩)

noncomputable def fM_does (r0_6 : Nat → Int32) (r0_20 : Nat → Int32) (r0_21 : Nat → Int32) (a1 : Int32) (a2 : Int32) (a3 : Int32) (a4 : Int32) : Option (Int32 × (Nat → Int32) × (Nat → Int32)) :=
  (if a1 = 0 then
  (fM_whySend r0_6 a2 a3).bind (fun (y2 : Int32) =>
  (if y2 = 0 then
  (fM_sends r0_6 a2 a3).bind (fun (y4 : (Nat → Int32)) =>
  some ((if y2 ≤ 0 then (0 : Int32) else ((10 * a1) + y2)), y4, r0_21))
  else
  some ((if y2 ≤ 0 then (0 : Int32) else ((10 * a1) + y2)), r0_6, r0_21)))
  else
  (if a1 = 1 then
  (zrd r0_6 397 (127 + a2)).bind (fun (v10 : Int32) =>
  (if (if v10 = 0 then true else false) = true then
  some ((if (zb (if v10 = 0 then true else false)) ≤ 0 then (0 : Int32) else ((10 * a1) + (zb (if v10 = 0 then true else false)))), r0_6, r0_21)
  else
  (fM_lets r0_6 a2).bind (fun (y16 : (Nat → Int32)) =>
  some ((if (zb (if v10 = 0 then true else false)) ≤ 0 then (0 : Int32) else ((10 * a1) + (zb (if v10 = 0 then true else false)))), y16, r0_21))))
  else
  (if a1 = 2 then
  (zrd r0_6 397 (133 + a2)).bind (fun (v20 : Int32) =>
  (fM_parts r0_6 a2).bind (fun (y23 : (Nat → Int32)) =>
  some ((if (zb (if v20 = 0 then true else false)) ≤ 0 then (0 : Int32) else ((10 * a1) + (zb (if v20 = 0 then true else false)))), y23, r0_21)))
  else
  (if a1 = 3 then
  (fM_whyHire r0_6 a3).bind (fun (y27 : Int32) =>
  (if y27 = 0 then
  (fM_binds r0_6 a2 a3 a4).bind (fun (y29 : (Nat → Int32)) =>
  some ((if y27 ≤ 0 then (0 : Int32) else ((10 * a1) + y27)), y29, r0_21))
  else
  some ((if y27 ≤ 0 then (0 : Int32) else ((10 * a1) + y27)), r0_6, r0_21)))
  else
  (if (if ((r0_6 89) + a2) ≤ 400 then false else true) = true then
  some ((if (zb (if ((r0_6 89) + a2) ≤ 400 then false else true)) ≤ 0 then (0 : Int32) else ((10 * a1) + (zb (if ((r0_6 89) + a2) ≤ 400 then false else true)))), r0_6, r0_21)
  else
  (fM_goesOn r0_6 r0_20 r0_21 a2).bind (fun (y39 : Int32 × (Nat → Int32) × (Nat → Int32)) =>
  some ((if (zb (if ((r0_6 89) + a2) ≤ 400 then false else true)) ≤ 0 then (0 : Int32) else ((10 * a1) + (zb (if ((r0_6 89) + a2) ≤ 400 then false else true)))), y39.2.1, y39.2.2)))))))

set_option maxRecDepth 20000 in
theorem TX12_does_186 (Γ : zG) {Q : Option Value → zM → Prop} (M : zM) (r0_6 : Nat → Int32) (r0_20 : Nat → Int32) (r0_21 : Nat → Int32) (e_i188 : M.1 188 = r0_6) (e_i193 : M.1 193 = r0_20) (e_i194 : M.1 194 = r0_21) (a1 : Int32) (a2 : Int32) (a3 : Int32) (a4 : Int32) {res : Int32 × (Nat → Int32) × (Nat → Int32)} (hy : (fM_does r0_6 r0_20 r0_21 a1 a2 a3 a4) = some res) (hq : Q (some (.int res.1)) (zui (zui M 188 res.2.1) 194 res.2.2)) : zR Γ 7 YX12_does 0 [(0, .ref (zad Γ 186)), (1, .int a1), (2, .int a2), (3, .int a3), (4, .int a4)] [] M Q := by
  unfold fM_does at hy
  refine zj_iconst (pc' := 1) dX12_does_0 rfl kiconst_0 ?_
  refine zj_istore (pc' := 3) (L' := [(5, .int 0), (0, .ref (zad Γ 186)), (1, .int a1), (2, .int a2), (3, .int a3), (4, .int a4)]) dX12_does_1 rfl (by decide) rfl ?_
  refine zj_iload_n (pc' := 4) 2 dX12_does_3 rfl rfl rfl ?_
  rcases Decidable.em (a1 = 0) with c1 | c1
  · have hy := zt_t hy c1
    refine zj_tsIn (tgt := 36) (v := 0) dX12_does_4 c1 (by decide) (by decide) (off := 32) (by decide) (by decide) ?_
    refine zj_aload_n (pc' := 37) 1 dX12_does_36 rfl rfl rfl ?_
    refine zj_iload_n (pc' := 38) 3 dX12_does_37 rfl rfl rfl ?_
    refine zj_iload_n (pc' := 39) 4 dX12_does_38 rfl rfl rfl ?_
    obtain ⟨y2, hy2, hy⟩ := zt_b hy
    refine zj_V1 (pc' := 42) (z := YX12_whySend) (As := [.int a2, .int a3]) (N := M) dX12_does_39 rfl mlX12_301 lkX12_whySend sh186 ⟨_, _, rfl⟩ rfl rfl (Nat.le_of_ble_eq_true rfl) (Nat.le_of_ble_eq_true rfl) (LX12_whySend_186 Γ _ r0_6 e_i188 a2 a3 hy2) rfl ?_
    refine zj_istore (pc' := 44) (L' := [(5, .int y2), (0, .ref (zad Γ 186)), (1, .int a1), (2, .int a2), (3, .int a3), (4, .int a4)]) dX12_does_42 rfl (by decide) rfl ?_
    refine zj_iload (pc' := 46) 0 dX12_does_44 rfl rfl ?_
    refine zj_if_ne (tgt := 174) (pc' := 49) dX12_does_46 rfl (by decide) (fun c3 => ?_) (fun c3 => ?_)
    · have hy := zt_f hy c3
      refine zj_iload (pc' := 176) 0 dX12_does_174 rfl rfl ?_
      have HJ7 : zR Γ 7 YX12_does 190 [(5, .int y2), (0, .ref (zad Γ 186)), (1, .int a1), (2, .int a2), (3, .int a3), (4, .int a4)] [.int (if y2 ≤ 0 then (0 : Int32) else ((10 * a1) + y2))] M Q := by
        have e9 := Option.some.inj hy
        subst e9
        refine zj_mem (N := (zui M 188 r0_6)) (zself_i e_i188 rfl) ?_
        refine zj_mem (N := (zui (zui M 188 r0_6) 194 r0_21)) (zself_i (zr_n rfl e_i194) rfl) ?_
        exact zj_iret dX12_does_190 rfl hq
      refine zj_if_le (tgt := 189) (pc' := 179) dX12_does_176 rfl (by decide) (fun c8 => ?_) (fun c8 => ?_)
      · refine zj_iconst (pc' := 190) dX12_does_189 rfl kiconst_0 ?_
        exact zj_eqi (if_pos c8) HJ7
      · refine zj_bipush (pc' := 181) dX12_does_179 rfl kbipush_10 ?_
        refine zj_iload_n (pc' := 182) 2 dX12_does_181 rfl rfl rfl ?_
        refine zj_imul (pc' := 183) dX12_does_182 rfl ?_
        refine zj_iload (pc' := 185) 0 dX12_does_183 rfl rfl ?_
        refine zj_iadd (pc' := 186) dX12_does_185 rfl ?_
        refine zj_goto (tgt := 190) dX12_does_186 (by decide) ?_
        exact zj_eqi (if_neg c8) HJ7
    · have hy := zt_t hy c3
      refine zj_aload_n (pc' := 50) 1 dX12_does_49 rfl rfl rfl ?_
      refine zj_iload_n (pc' := 51) 3 dX12_does_50 rfl rfl rfl ?_
      refine zj_iload_n (pc' := 52) 4 dX12_does_51 rfl rfl rfl ?_
      obtain ⟨y4, hy4, hy⟩ := zt_b hy
      refine zj_V0 (pc' := 55) (z := YX12_sends) (As := [.int a2, .int a3]) (N := (zui M 188 y4)) dX12_does_52 rfl mlX12_307 lkX12_sends sh186 ⟨_, _, rfl⟩ rfl rfl (Nat.le_of_ble_eq_true rfl) (Nat.le_of_ble_eq_true rfl) (LX12_sends_186 Γ _ r0_6 e_i188 a2 a3 hy4) (rfl).symm ?_
      refine zj_goto (tgt := 174) dX12_does_55 (by decide) ?_
      refine zj_iload (pc' := 176) 0 dX12_does_174 rfl rfl ?_
      have HJ5 : zR Γ 7 YX12_does 190 [(5, .int y2), (0, .ref (zad Γ 186)), (1, .int a1), (2, .int a2), (3, .int a3), (4, .int a4)] [.int (if y2 ≤ 0 then (0 : Int32) else ((10 * a1) + y2))] (zui M 188 y4) Q := by
        have e9 := Option.some.inj hy
        subst e9
        refine zj_mem (N := (zui (zui M 188 y4) 194 r0_21)) (zself_i (zr_n rfl e_i194) rfl) ?_
        exact zj_iret dX12_does_190 rfl hq
      refine zj_if_le (tgt := 189) (pc' := 179) dX12_does_176 rfl (by decide) (fun c6 => ?_) (fun c6 => ?_)
      · refine zj_iconst (pc' := 190) dX12_does_189 rfl kiconst_0 ?_
        exact zj_eqi (if_pos c6) HJ5
      · refine zj_bipush (pc' := 181) dX12_does_179 rfl kbipush_10 ?_
        refine zj_iload_n (pc' := 182) 2 dX12_does_181 rfl rfl rfl ?_
        refine zj_imul (pc' := 183) dX12_does_182 rfl ?_
        refine zj_iload (pc' := 185) 0 dX12_does_183 rfl rfl ?_
        refine zj_iadd (pc' := 186) dX12_does_185 rfl ?_
        refine zj_goto (tgt := 190) dX12_does_186 (by decide) ?_
        exact zj_eqi (if_neg c6) HJ5
  · have hy := zt_f hy c1
    rcases Decidable.em (a1 = 1) with c9 | c9
    · have hy := zt_t hy c9
      refine zj_tsIn (tgt := 58) (v := 1) dX12_does_4 c9 (by decide) (by decide) (off := 54) (by decide) (by decide) ?_
      refine zj_aload_n (pc' := 59) 1 dX12_does_58 rfl rfl rfl ?_
      refine zj_getR (pc' := 62) (j := 188) dX12_does_59 rfl flX12_33 sh186 rfl ?_
      refine zj_bipush (pc' := 64) dX12_does_62 rfl kbipush_127 ?_
      refine zj_iload_n (pc' := 65) 3 dX12_does_64 rfl rfl rfl ?_
      refine zj_iadd (pc' := 66) dX12_does_65 rfl ?_
      obtain ⟨v10, hv10, hy⟩ := zt_b hy
      refine zj_rdi (pc' := 67) dX12_does_66 rfl sh188 e_i188 hv10 ?_
      have HJ11 : zR Γ 7 YX12_does 75 [(5, .int 0), (0, .ref (zad Γ 186)), (1, .int a1), (2, .int a2), (3, .int a3), (4, .int a4)] [.int (zb (if v10 = 0 then true else false))] M Q := by
        refine zj_istore (pc' := 77) (L' := [(5, .int (zb (if v10 = 0 then true else false))), (0, .ref (zad Γ 186)), (1, .int a1), (2, .int a2), (3, .int a3), (4, .int a4)]) dX12_does_75 rfl (by decide) rfl ?_
        refine zj_iload (pc' := 79) 0 dX12_does_77 rfl rfl ?_
        refine zj_bif_ne (tgt := 174) (pc' := 82) dX12_does_79 rfl (by decide) (fun c13 => ?_) (fun c13 => ?_)
        · have hy := zt_t hy c13
          refine zj_iload (pc' := 176) 0 dX12_does_174 rfl rfl ?_
          have HJ14 : zR Γ 7 YX12_does 190 [(5, .int (zb (if v10 = 0 then true else false))), (0, .ref (zad Γ 186)), (1, .int a1), (2, .int a2), (3, .int a3), (4, .int a4)] [.int (if (zb (if v10 = 0 then true else false)) ≤ 0 then (0 : Int32) else ((10 * a1) + (zb (if v10 = 0 then true else false))))] M Q := by
            have e9 := Option.some.inj hy
            subst e9
            refine zj_mem (N := (zui M 188 r0_6)) (zself_i e_i188 rfl) ?_
            refine zj_mem (N := (zui (zui M 188 r0_6) 194 r0_21)) (zself_i (zr_n rfl e_i194) rfl) ?_
            exact zj_iret dX12_does_190 rfl hq
          refine zj_if_le (tgt := 189) (pc' := 179) dX12_does_176 rfl (by decide) (fun c15 => ?_) (fun c15 => ?_)
          · refine zj_iconst (pc' := 190) dX12_does_189 rfl kiconst_0 ?_
            exact zj_eqi (if_pos c15) HJ14
          · refine zj_bipush (pc' := 181) dX12_does_179 rfl kbipush_10 ?_
            refine zj_iload_n (pc' := 182) 2 dX12_does_181 rfl rfl rfl ?_
            refine zj_imul (pc' := 183) dX12_does_182 rfl ?_
            refine zj_iload (pc' := 185) 0 dX12_does_183 rfl rfl ?_
            refine zj_iadd (pc' := 186) dX12_does_185 rfl ?_
            refine zj_goto (tgt := 190) dX12_does_186 (by decide) ?_
            exact zj_eqi (if_neg c15) HJ14
        · have hy := zt_f hy c13
          refine zj_aload_n (pc' := 83) 1 dX12_does_82 rfl rfl rfl ?_
          refine zj_iload_n (pc' := 84) 3 dX12_does_83 rfl rfl rfl ?_
          obtain ⟨y16, hy16, hy⟩ := zt_b hy
          refine zj_V0 (pc' := 87) (z := YX12_lets) (As := [.int a2]) (N := (zui M 188 y16)) dX12_does_84 rfl mlX12_311 lkX12_lets sh186 ⟨_, _, rfl⟩ rfl rfl (Nat.le_of_ble_eq_true rfl) (Nat.le_of_ble_eq_true rfl) (LX12_lets_186 Γ _ r0_6 e_i188 a2 hy16) (rfl).symm ?_
          refine zj_goto (tgt := 174) dX12_does_87 (by decide) ?_
          refine zj_iload (pc' := 176) 0 dX12_does_174 rfl rfl ?_
          have HJ17 : zR Γ 7 YX12_does 190 [(5, .int (zb (if v10 = 0 then true else false))), (0, .ref (zad Γ 186)), (1, .int a1), (2, .int a2), (3, .int a3), (4, .int a4)] [.int (if (zb (if v10 = 0 then true else false)) ≤ 0 then (0 : Int32) else ((10 * a1) + (zb (if v10 = 0 then true else false))))] (zui M 188 y16) Q := by
            have e9 := Option.some.inj hy
            subst e9
            refine zj_mem (N := (zui (zui M 188 y16) 194 r0_21)) (zself_i (zr_n rfl e_i194) rfl) ?_
            exact zj_iret dX12_does_190 rfl hq
          refine zj_if_le (tgt := 189) (pc' := 179) dX12_does_176 rfl (by decide) (fun c18 => ?_) (fun c18 => ?_)
          · refine zj_iconst (pc' := 190) dX12_does_189 rfl kiconst_0 ?_
            exact zj_eqi (if_pos c18) HJ17
          · refine zj_bipush (pc' := 181) dX12_does_179 rfl kbipush_10 ?_
            refine zj_iload_n (pc' := 182) 2 dX12_does_181 rfl rfl rfl ?_
            refine zj_imul (pc' := 183) dX12_does_182 rfl ?_
            refine zj_iload (pc' := 185) 0 dX12_does_183 rfl rfl ?_
            refine zj_iadd (pc' := 186) dX12_does_185 rfl ?_
            refine zj_goto (tgt := 190) dX12_does_186 (by decide) ?_
            exact zj_eqi (if_neg c18) HJ17
      refine zj_if_ne (tgt := 74) (pc' := 70) dX12_does_67 rfl (by decide) (fun c12 => ?_) (fun c12 => ?_)
      · refine zj_iconst (pc' := 75) dX12_does_74 rfl kiconst_0 ?_
        exact zj_eqb (b := false) (if_neg c12) HJ11
      · refine zj_iconst (pc' := 71) dX12_does_70 rfl kiconst_1 ?_
        refine zj_goto (tgt := 75) dX12_does_71 (by decide) ?_
        exact zj_eqb (b := true) (if_pos c12) HJ11
    · have hy := zt_f hy c9
      rcases Decidable.em (a1 = 2) with c19 | c19
      · have hy := zt_t hy c19
        refine zj_tsIn (tgt := 90) (v := 2) dX12_does_4 c19 (by decide) (by decide) (off := 86) (by decide) (by decide) ?_
        refine zj_aload_n (pc' := 91) 1 dX12_does_90 rfl rfl rfl ?_
        refine zj_getR (pc' := 94) (j := 188) dX12_does_91 rfl flX12_33 sh186 rfl ?_
        refine zj_sipush (pc' := 97) dX12_does_94 rfl ksipush_133 ?_
        refine zj_iload_n (pc' := 98) 3 dX12_does_97 rfl rfl rfl ?_
        refine zj_iadd (pc' := 99) dX12_does_98 rfl ?_
        obtain ⟨v20, hv20, hy⟩ := zt_b hy
        refine zj_rdi (pc' := 100) dX12_does_99 rfl sh188 e_i188 hv20 ?_
        have HJ21 : zR Γ 7 YX12_does 108 [(5, .int 0), (0, .ref (zad Γ 186)), (1, .int a1), (2, .int a2), (3, .int a3), (4, .int a4)] [.int (zb (if v20 = 0 then true else false))] M Q := by
          refine zj_istore (pc' := 110) (L' := [(5, .int (zb (if v20 = 0 then true else false))), (0, .ref (zad Γ 186)), (1, .int a1), (2, .int a2), (3, .int a3), (4, .int a4)]) dX12_does_108 rfl (by decide) rfl ?_
          refine zj_aload_n (pc' := 111) 1 dX12_does_110 rfl rfl rfl ?_
          refine zj_iload_n (pc' := 112) 3 dX12_does_111 rfl rfl rfl ?_
          obtain ⟨y23, hy23, hy⟩ := zt_b hy
          refine zj_V0 (pc' := 115) (z := YX12_parts) (As := [.int a2]) (N := (zui M 188 y23)) dX12_does_112 rfl mlX12_314 lkX12_parts sh186 ⟨_, _, rfl⟩ rfl rfl (Nat.le_of_ble_eq_true rfl) (Nat.le_of_ble_eq_true rfl) (LX12_parts_186 Γ _ r0_6 e_i188 a2 hy23) (rfl).symm ?_
          refine zj_goto (tgt := 174) dX12_does_115 (by decide) ?_
          refine zj_iload (pc' := 176) 0 dX12_does_174 rfl rfl ?_
          have HJ24 : zR Γ 7 YX12_does 190 [(5, .int (zb (if v20 = 0 then true else false))), (0, .ref (zad Γ 186)), (1, .int a1), (2, .int a2), (3, .int a3), (4, .int a4)] [.int (if (zb (if v20 = 0 then true else false)) ≤ 0 then (0 : Int32) else ((10 * a1) + (zb (if v20 = 0 then true else false))))] (zui M 188 y23) Q := by
            have e9 := Option.some.inj hy
            subst e9
            refine zj_mem (N := (zui (zui M 188 y23) 194 r0_21)) (zself_i (zr_n rfl e_i194) rfl) ?_
            exact zj_iret dX12_does_190 rfl hq
          refine zj_if_le (tgt := 189) (pc' := 179) dX12_does_176 rfl (by decide) (fun c25 => ?_) (fun c25 => ?_)
          · refine zj_iconst (pc' := 190) dX12_does_189 rfl kiconst_0 ?_
            exact zj_eqi (if_pos c25) HJ24
          · refine zj_bipush (pc' := 181) dX12_does_179 rfl kbipush_10 ?_
            refine zj_iload_n (pc' := 182) 2 dX12_does_181 rfl rfl rfl ?_
            refine zj_imul (pc' := 183) dX12_does_182 rfl ?_
            refine zj_iload (pc' := 185) 0 dX12_does_183 rfl rfl ?_
            refine zj_iadd (pc' := 186) dX12_does_185 rfl ?_
            refine zj_goto (tgt := 190) dX12_does_186 (by decide) ?_
            exact zj_eqi (if_neg c25) HJ24
        refine zj_if_ne (tgt := 107) (pc' := 103) dX12_does_100 rfl (by decide) (fun c22 => ?_) (fun c22 => ?_)
        · refine zj_iconst (pc' := 108) dX12_does_107 rfl kiconst_0 ?_
          exact zj_eqb (b := false) (if_neg c22) HJ21
        · refine zj_iconst (pc' := 104) dX12_does_103 rfl kiconst_1 ?_
          refine zj_goto (tgt := 108) dX12_does_104 (by decide) ?_
          exact zj_eqb (b := true) (if_pos c22) HJ21
      · have hy := zt_f hy c19
        rcases Decidable.em (a1 = 3) with c26 | c26
        · have hy := zt_t hy c26
          refine zj_tsIn (tgt := 118) (v := 3) dX12_does_4 c26 (by decide) (by decide) (off := 114) (by decide) (by decide) ?_
          refine zj_aload_n (pc' := 119) 1 dX12_does_118 rfl rfl rfl ?_
          refine zj_iload_n (pc' := 120) 4 dX12_does_119 rfl rfl rfl ?_
          obtain ⟨y27, hy27, hy⟩ := zt_b hy
          refine zj_V1 (pc' := 123) (z := YX12_whyHire) (As := [.int a3]) (N := M) dX12_does_120 rfl mlX12_317 lkX12_whyHire sh186 ⟨_, _, rfl⟩ rfl rfl (Nat.le_of_ble_eq_true rfl) (Nat.le_of_ble_eq_true rfl) (LX12_whyHire_186 Γ _ r0_6 e_i188 a3 hy27) rfl ?_
          refine zj_istore (pc' := 125) (L' := [(5, .int y27), (0, .ref (zad Γ 186)), (1, .int a1), (2, .int a2), (3, .int a3), (4, .int a4)]) dX12_does_123 rfl (by decide) rfl ?_
          refine zj_iload (pc' := 127) 0 dX12_does_125 rfl rfl ?_
          refine zj_if_ne (tgt := 174) (pc' := 130) dX12_does_127 rfl (by decide) (fun c28 => ?_) (fun c28 => ?_)
          · have hy := zt_f hy c28
            refine zj_iload (pc' := 176) 0 dX12_does_174 rfl rfl ?_
            have HJ32 : zR Γ 7 YX12_does 190 [(5, .int y27), (0, .ref (zad Γ 186)), (1, .int a1), (2, .int a2), (3, .int a3), (4, .int a4)] [.int (if y27 ≤ 0 then (0 : Int32) else ((10 * a1) + y27))] M Q := by
              have e9 := Option.some.inj hy
              subst e9
              refine zj_mem (N := (zui M 188 r0_6)) (zself_i e_i188 rfl) ?_
              refine zj_mem (N := (zui (zui M 188 r0_6) 194 r0_21)) (zself_i (zr_n rfl e_i194) rfl) ?_
              exact zj_iret dX12_does_190 rfl hq
            refine zj_if_le (tgt := 189) (pc' := 179) dX12_does_176 rfl (by decide) (fun c33 => ?_) (fun c33 => ?_)
            · refine zj_iconst (pc' := 190) dX12_does_189 rfl kiconst_0 ?_
              exact zj_eqi (if_pos c33) HJ32
            · refine zj_bipush (pc' := 181) dX12_does_179 rfl kbipush_10 ?_
              refine zj_iload_n (pc' := 182) 2 dX12_does_181 rfl rfl rfl ?_
              refine zj_imul (pc' := 183) dX12_does_182 rfl ?_
              refine zj_iload (pc' := 185) 0 dX12_does_183 rfl rfl ?_
              refine zj_iadd (pc' := 186) dX12_does_185 rfl ?_
              refine zj_goto (tgt := 190) dX12_does_186 (by decide) ?_
              exact zj_eqi (if_neg c33) HJ32
          · have hy := zt_t hy c28
            refine zj_aload_n (pc' := 131) 1 dX12_does_130 rfl rfl rfl ?_
            refine zj_iload_n (pc' := 132) 3 dX12_does_131 rfl rfl rfl ?_
            refine zj_iload_n (pc' := 133) 4 dX12_does_132 rfl rfl rfl ?_
            refine zj_iload (pc' := 135) 5 dX12_does_133 rfl rfl ?_
            obtain ⟨y29, hy29, hy⟩ := zt_b hy
            refine zj_V0 (pc' := 138) (z := YX12_binds) (As := [.int a2, .int a3, .int a4]) (N := (zui M 188 y29)) dX12_does_135 rfl mlX12_320 lkX12_binds sh186 ⟨_, _, rfl⟩ rfl rfl (Nat.le_of_ble_eq_true rfl) (Nat.le_of_ble_eq_true rfl) (LX12_binds_186 Γ _ r0_6 e_i188 a2 a3 a4 hy29) (rfl).symm ?_
            refine zj_goto (tgt := 174) dX12_does_138 (by decide) ?_
            refine zj_iload (pc' := 176) 0 dX12_does_174 rfl rfl ?_
            have HJ30 : zR Γ 7 YX12_does 190 [(5, .int y27), (0, .ref (zad Γ 186)), (1, .int a1), (2, .int a2), (3, .int a3), (4, .int a4)] [.int (if y27 ≤ 0 then (0 : Int32) else ((10 * a1) + y27))] (zui M 188 y29) Q := by
              have e9 := Option.some.inj hy
              subst e9
              refine zj_mem (N := (zui (zui M 188 y29) 194 r0_21)) (zself_i (zr_n rfl e_i194) rfl) ?_
              exact zj_iret dX12_does_190 rfl hq
            refine zj_if_le (tgt := 189) (pc' := 179) dX12_does_176 rfl (by decide) (fun c31 => ?_) (fun c31 => ?_)
            · refine zj_iconst (pc' := 190) dX12_does_189 rfl kiconst_0 ?_
              exact zj_eqi (if_pos c31) HJ30
            · refine zj_bipush (pc' := 181) dX12_does_179 rfl kbipush_10 ?_
              refine zj_iload_n (pc' := 182) 2 dX12_does_181 rfl rfl rfl ?_
              refine zj_imul (pc' := 183) dX12_does_182 rfl ?_
              refine zj_iload (pc' := 185) 0 dX12_does_183 rfl rfl ?_
              refine zj_iadd (pc' := 186) dX12_does_185 rfl ?_
              refine zj_goto (tgt := 190) dX12_does_186 (by decide) ?_
              exact zj_eqi (if_neg c31) HJ30
        · have hy := zt_f hy c26
          refine zj_tsOut (tgt := 141) dX12_does_4 (by have q0 := zne (k := 0) c1 (by decide); have q1 := zne (k := 1) c9 (by decide); have q2 := zne (k := 2) c19 (by decide); have q3 := zne (k := 3) c26 (by decide); omega) (by decide) ?_
          refine zj_aload_n (pc' := 142) 1 dX12_does_141 rfl rfl rfl ?_
          refine zj_getR (pc' := 145) (j := 188) dX12_does_142 rfl flX12_33 sh186 rfl ?_
          refine zj_bipush (pc' := 147) dX12_does_145 rfl kbipush_89 ?_
          refine zj_rdi (pc' := 148) dX12_does_147 rfl sh188 e_i188 (zrdK zi89_397 tn89) ?_
          refine zj_iload_n (pc' := 149) 3 dX12_does_148 rfl rfl rfl ?_
          refine zj_iadd (pc' := 150) dX12_does_149 rfl ?_
          refine zj_sipush (pc' := 153) dX12_does_150 rfl ksipush_400 ?_
          have HJ34 : zR Γ 7 YX12_does 161 [(5, .int 0), (0, .ref (zad Γ 186)), (1, .int a1), (2, .int a2), (3, .int a3), (4, .int a4)] [.int (zb (if ((r0_6 89) + a2) ≤ 400 then false else true))] M Q := by
            refine zj_istore (pc' := 163) (L' := [(5, .int (zb (if ((r0_6 89) + a2) ≤ 400 then false else true))), (0, .ref (zad Γ 186)), (1, .int a1), (2, .int a2), (3, .int a3), (4, .int a4)]) dX12_does_161 rfl (by decide) rfl ?_
            refine zj_iload (pc' := 165) 0 dX12_does_163 rfl rfl ?_
            refine zj_bif_ne (tgt := 174) (pc' := 168) dX12_does_165 rfl (by decide) (fun c36 => ?_) (fun c36 => ?_)
            · have hy := zt_t hy c36
              refine zj_iload (pc' := 176) 0 dX12_does_174 rfl rfl ?_
              have HJ37 : zR Γ 7 YX12_does 190 [(5, .int (zb (if ((r0_6 89) + a2) ≤ 400 then false else true))), (0, .ref (zad Γ 186)), (1, .int a1), (2, .int a2), (3, .int a3), (4, .int a4)] [.int (if (zb (if ((r0_6 89) + a2) ≤ 400 then false else true)) ≤ 0 then (0 : Int32) else ((10 * a1) + (zb (if ((r0_6 89) + a2) ≤ 400 then false else true))))] M Q := by
                have e9 := Option.some.inj hy
                subst e9
                refine zj_mem (N := (zui M 188 r0_6)) (zself_i e_i188 rfl) ?_
                refine zj_mem (N := (zui (zui M 188 r0_6) 194 r0_21)) (zself_i (zr_n rfl e_i194) rfl) ?_
                exact zj_iret dX12_does_190 rfl hq
              refine zj_if_le (tgt := 189) (pc' := 179) dX12_does_176 rfl (by decide) (fun c38 => ?_) (fun c38 => ?_)
              · refine zj_iconst (pc' := 190) dX12_does_189 rfl kiconst_0 ?_
                exact zj_eqi (if_pos c38) HJ37
              · refine zj_bipush (pc' := 181) dX12_does_179 rfl kbipush_10 ?_
                refine zj_iload_n (pc' := 182) 2 dX12_does_181 rfl rfl rfl ?_
                refine zj_imul (pc' := 183) dX12_does_182 rfl ?_
                refine zj_iload (pc' := 185) 0 dX12_does_183 rfl rfl ?_
                refine zj_iadd (pc' := 186) dX12_does_185 rfl ?_
                refine zj_goto (tgt := 190) dX12_does_186 (by decide) ?_
                exact zj_eqi (if_neg c38) HJ37
            · have hy := zt_f hy c36
              refine zj_aload_n (pc' := 169) 1 dX12_does_168 rfl rfl rfl ?_
              refine zj_iload_n (pc' := 170) 3 dX12_does_169 rfl rfl rfl ?_
              obtain ⟨y39, hy39, hy⟩ := zt_b hy
              refine zj_V1 (pc' := 173) (z := YX12_goesOn) (As := [.int a2]) (N := (zui (zui M 188 y39.2.1) 194 y39.2.2)) dX12_does_170 rfl mlX12_324 lkX12_goesOn sh186 ⟨_, _, rfl⟩ rfl rfl (Nat.le_of_ble_eq_true rfl) (Nat.le_of_ble_eq_true rfl) (LX12_goesOn_186 Γ _ r0_6 r0_20 r0_21 e_i188 e_i193 e_i194 a2 hy39) ((zch_i rfl rfl)).symm ?_
              refine zj_pop (pc' := 174) dX12_does_173 rfl rfl ?_
              refine zj_iload (pc' := 176) 0 dX12_does_174 rfl rfl ?_
              have HJ40 : zR Γ 7 YX12_does 190 [(5, .int (zb (if ((r0_6 89) + a2) ≤ 400 then false else true))), (0, .ref (zad Γ 186)), (1, .int a1), (2, .int a2), (3, .int a3), (4, .int a4)] [.int (if (zb (if ((r0_6 89) + a2) ≤ 400 then false else true)) ≤ 0 then (0 : Int32) else ((10 * a1) + (zb (if ((r0_6 89) + a2) ≤ 400 then false else true))))] (zui (zui M 188 y39.2.1) 194 y39.2.2) Q := by
                have e9 := Option.some.inj hy
                subst e9
                exact zj_iret dX12_does_190 rfl hq
              refine zj_if_le (tgt := 189) (pc' := 179) dX12_does_176 rfl (by decide) (fun c41 => ?_) (fun c41 => ?_)
              · refine zj_iconst (pc' := 190) dX12_does_189 rfl kiconst_0 ?_
                exact zj_eqi (if_pos c41) HJ40
              · refine zj_bipush (pc' := 181) dX12_does_179 rfl kbipush_10 ?_
                refine zj_iload_n (pc' := 182) 2 dX12_does_181 rfl rfl rfl ?_
                refine zj_imul (pc' := 183) dX12_does_182 rfl ?_
                refine zj_iload (pc' := 185) 0 dX12_does_183 rfl rfl ?_
                refine zj_iadd (pc' := 186) dX12_does_185 rfl ?_
                refine zj_goto (tgt := 190) dX12_does_186 (by decide) ?_
                exact zj_eqi (if_neg c41) HJ40
          refine zj_icmp_le (tgt := 160) (pc' := 156) dX12_does_153 rfl (by decide) (fun c35 => ?_) (fun c35 => ?_)
          · refine zj_iconst (pc' := 161) dX12_does_160 rfl kiconst_0 ?_
            exact zj_eqb (b := false) (if_pos c35) HJ34
          · refine zj_iconst (pc' := 157) dX12_does_156 rfl kiconst_1 ?_
            refine zj_goto (tgt := 161) dX12_does_157 (by decide) ?_
            exact zj_eqb (b := true) (if_neg c35) HJ34
set_option maxRecDepth 20000 in
theorem LX12_does_186 (Γ : zG) (M : zM) (r0_6 : Nat → Int32) (r0_20 : Nat → Int32) (r0_21 : Nat → Int32) (e_i188 : M.1 188 = r0_6) (e_i193 : M.1 193 = r0_20) (e_i194 : M.1 194 = r0_21) (a1 : Int32) (a2 : Int32) (a3 : Int32) (a4 : Int32) {res : Int32 × (Nat → Int32) × (Nat → Int32)} (hy : (fM_does r0_6 r0_20 r0_21 a1 a2 a3 a4) = some res) : zK Γ 7 YX12_does [.ref (zad Γ 186), .int a1, .int a2, .int a3, .int a4] M (fun v N => v = some (.int res.1) ∧ N = (zui (zui M 188 res.2.1) 194 res.2.2)) :=
  zK_of (by decide) (Nat.le_of_ble_eq_true rfl) (TX12_does_186 Γ M r0_6 r0_20 r0_21 e_i188 e_i193 e_i194 a1 a2 a3 a4 hy ⟨rfl, rfl⟩)

