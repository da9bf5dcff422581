noncomputable def fDy_lastOfRow_L9 (r0_2 : Nat → Int32) (x2 : Int32) (x3 : Int32) (x4 : Int32) : Option ((Int32 × Int32 × Int32) ⊕ (Int32)) :=
  (if 6 ≤ x4 then
  some (.inr x3)
  else
  (fDy_followedBy r0_2 x3).bind (fun (y13 : Int32) =>
  (if y13 = (-1) then
  some (.inr x3)
  else
  (if (fX_hasBit x2 y13) = true then
  some (.inr x3)
  else
  zlet (x2 ||| ((1 : Int32) <<< (y13 &&& 31))) (fun (x16 : Int32) =>
  zlet (x4 + 1) (fun (x17 : Int32) =>
  some (.inl (x16, y13, x17))))))))
noncomputable def fDy_lastOfRow (r0_2 : Nat → Int32) (a1 : Int32) : Option (Int32) :=
  zlet ((1 : Int32) <<< (a1 &&& 31)) (fun (x1 : Int32) =>
  (zLP (fun s => fDy_lastOfRow_L9 r0_2 s.1 s.2.1 s.2.2) (x1, a1, 0)).bind (fun r7 =>
  some r7))

set_option maxRecDepth 20000 in
theorem TX1_lastOfRow_15 (Γ : zG) {Q : Option Value → zM → Prop} (M : zM) (r0_2 : Nat → Int32) (e_i18 : M.1 18 = r0_2) (a1 : Int32) {res : Int32} (hy : (fDy_lastOfRow r0_2 a1) = some res) (hq : Q (some (.int res)) M) : zR Γ 3 YX1_lastOfRow 0 [(0, .ref (zad Γ 15)), (1, .int a1)] [] M Q := by
  unfold fDy_lastOfRow at hy
  refine zj_iconst (pc' := 1) dX1_lastOfRow_0 rfl kiconst_1 ?_
  refine zj_iload_n (pc' := 2) 1 dX1_lastOfRow_1 rfl rfl rfl ?_
  refine zj_ishl (pc' := 3) dX1_lastOfRow_2 rfl ?_
  refine zj_topi (fun x1 ex1 => ?_)
  have hy := zlet_at ex1 hy
  refine zj_istore_n (pc' := 4) (L' := [(2, .int x1), (0, .ref (zad Γ 15)), (1, .int a1)]) dX1_lastOfRow_3 rfl rfl (by decide) rfl ?_
  refine zj_iload_n (pc' := 5) 2 dX1_lastOfRow_4 rfl rfl rfl ?_
  refine zj_istore_n (pc' := 6) (L' := [(3, .int a1), (2, .int x1), (0, .ref (zad Γ 15)), (1, .int a1)]) dX1_lastOfRow_5 rfl rfl (by decide) rfl ?_
  refine zj_iconst (pc' := 7) dX1_lastOfRow_6 rfl kiconst_0 ?_
  refine zj_istore (pc' := 9) (L' := [(4, .int 0), (3, .int a1), (2, .int x1), (0, .ref (zad Γ 15)), (1, .int a1)]) dX1_lastOfRow_7 rfl (by decide) rfl ?_
  refine zj_loc [3, 2, 1, 0] rfl ?_
  obtain ⟨r7, hr9, hyo8⟩ := zt_b hy
  obtain ⟨n9, hn9⟩ := zLP_some hr9
  have HE5 : ∀ (x18 : Int32), r7 = x18 → zR Γ 3 YX1_lastOfRow 57 [(3, .int x18)] [] M Q := by
    intro x18 e9
    have hy := hyo8
    try rw [e9] at hy
    try dsimp only at hy
    refine zj_iload_n (pc' := 58) 0 dX1_lastOfRow_57 rfl rfl rfl ?_
    have e9 := Option.some.inj hy
    subst e9
    exact zj_iret dX1_lastOfRow_58 rfl hq
  have HL6 : ∀ (n : Nat) (x2 : Int32) (x3 : Int32) (x4 : Int32), zlp (fun s => fDy_lastOfRow_L9 r0_2 s.1 s.2.1 s.2.2) n (x2, x3, x4) = some r7 → zR Γ 3 YX1_lastOfRow 9 [(0, .ref (zad Γ 15)), (2, .int x2), (3, .int x3), (4, .int x4)] [] M Q := by
    intro n
    induction n with
    | zero => intro x2 x3 x4 hn9; cases hn9
    | succ n ih9 =>
      intro x2 x3 x4 hn9
      obtain ⟨o9, hb9, h10, h11⟩ := zlp_step hn9
      have hy : fDy_lastOfRow_L9 r0_2 x2 x3 x4 = some o9 := hb9
      unfold fDy_lastOfRow_L9 at hy
      refine zj_iload (pc' := 11) 3 dX1_lastOfRow_9 rfl rfl ?_
      refine zj_bipush (pc' := 13) dX1_lastOfRow_11 rfl kbipush_6 ?_
      refine zj_icmp_ge (tgt := 57) (pc' := 16) dX1_lastOfRow_13 rfl (by decide) (fun c12 => ?_) (fun c12 => ?_)
      · have hy := zt_t hy c12
        have e9 := h11 _ (Option.some.inj hy).symm
        refine zj_loc [2] rfl ?_
        exact HE5 _ e9.symm
      · have hy := zt_f hy c12
        refine zj_aload_n (pc' := 17) 0 dX1_lastOfRow_16 rfl rfl rfl ?_
        refine zj_iload_n (pc' := 18) 2 dX1_lastOfRow_17 rfl rfl rfl ?_
        obtain ⟨y13, hy13, hy⟩ := zt_b hy
        refine zj_V1 (pc' := 21) (z := YX1_followedBy) (As := [.int x3]) (N := M) dX1_lastOfRow_18 rfl mlX1_69 lkX1_followedBy sh15 ⟨_, _, rfl⟩ rfl rfl (Nat.le_of_ble_eq_true rfl) (Nat.le_of_ble_eq_true rfl) (LX1_followedBy_15 Γ _ r0_2 e_i18 x3 hy13) rfl ?_
        refine zj_istore (pc' := 23) (L' := [(5, .int y13), (0, .ref (zad Γ 15)), (2, .int x2), (3, .int x3), (4, .int x4)]) dX1_lastOfRow_21 rfl (by decide) rfl ?_
        refine zj_iload (pc' := 25) 0 dX1_lastOfRow_23 rfl rfl ?_
        refine zj_iconst (pc' := 26) dX1_lastOfRow_25 rfl kiconst_m1 ?_
        refine zj_icmp_eq (tgt := 57) (pc' := 29) dX1_lastOfRow_26 rfl (by decide) (fun c14 => ?_) (fun c14 => ?_)
        · have hy := zt_t hy c14
          have e9 := h11 _ (Option.some.inj hy).symm
          refine zj_loc [3] rfl ?_
          exact HE5 _ e9.symm
        · have hy := zt_f hy c14
          refine zj_iload_n (pc' := 30) 2 dX1_lastOfRow_29 rfl rfl rfl ?_
          refine zj_iload (pc' := 32) 0 dX1_lastOfRow_30 rfl rfl ?_
          refine zj_N1 (pc' := 35) (z := YX11_hasBit) (As := [.int x2, .int y13]) (N := M) dX1_lastOfRow_32 rfl nlX1_84 lkX11_hasBit rfl rfl (Nat.le_of_ble_eq_true rfl) (Nat.le_of_ble_eq_true rfl) (LX11_hasBit Γ _ x2 y13 rfl) rfl ?_
          refine zj_bif_eq (tgt := 41) (pc' := 38) dX1_lastOfRow_35 rfl (by decide) (fun c15 => ?_) (fun c15 => ?_)
          · have hy := zt_f hy c15
            refine zj_iload_n (pc' := 42) 2 dX1_lastOfRow_41 rfl rfl rfl ?_
            refine zj_iconst (pc' := 43) dX1_lastOfRow_42 rfl kiconst_1 ?_
            refine zj_iload (pc' := 45) 0 dX1_lastOfRow_43 rfl rfl ?_
            refine zj_ishl (pc' := 46) dX1_lastOfRow_45 rfl ?_
            refine zj_ior (pc' := 47) dX1_lastOfRow_46 rfl ?_
            refine zj_topi (fun x16 ex16 => ?_)
            have hy := zlet_at ex16 hy
            refine zj_istore_n (pc' := 48) (L' := [(2, .int x16), (5, .int y13), (0, .ref (zad Γ 15)), (3, .int x3), (4, .int x4)]) dX1_lastOfRow_47 rfl rfl (by decide) rfl ?_
            refine zj_iload (pc' := 50) 1 dX1_lastOfRow_48 rfl rfl ?_
            refine zj_istore_n (pc' := 51) (L' := [(3, .int y13), (2, .int x16), (5, .int y13), (0, .ref (zad Γ 15)), (4, .int x4)]) dX1_lastOfRow_50 rfl rfl (by decide) rfl ?_
            obtain ⟨x17, ex17⟩ : ∃ z : Int32, z = (x4 + 1) := ⟨_, rfl⟩
            have hy := zlet_at ex17 hy
            refine zj_iinc (pc' := 54) 4 (L' := [(4, .int x17), (3, .int y13), (2, .int x16), (5, .int y13), (0, .ref (zad Γ 15))]) dX1_lastOfRow_51 rfl rfl (by decide) (by rw [ci1, ← ex17]; rfl) ?_
            refine zj_goto (tgt := 9) dX1_lastOfRow_54 (by decide) ?_
            have hn9 := h10 _ (Option.some.inj hy).symm
            refine zj_loc [4, 2, 1, 0] rfl ?_
            exact ih9 _ _ _ hn9
          · have hy := zt_t hy c15
            refine zj_goto (tgt := 57) dX1_lastOfRow_38 (by decide) ?_
            have e9 := h11 _ (Option.some.inj hy).symm
            refine zj_loc [3] rfl ?_
            exact HE5 _ e9.symm
  exact HL6 n9 _ _ _ hn9
set_option maxRecDepth 20000 in
theorem LX1_lastOfRow_15 (Γ : zG) (M : zM) (r0_2 : Nat → Int32) (e_i18 : M.1 18 = r0_2) (a1 : Int32) {res : Int32} (hy : (fDy_lastOfRow r0_2 a1) = some res) : zK Γ 3 YX1_lastOfRow [.ref (zad Γ 15), .int a1] M (fun v N => v = some (.int res) ∧ N = M) :=
  zK_of (by decide) (Nat.le_of_ble_eq_true rfl) (TX1_lastOfRow_15 Γ M r0_2 e_i18 a1 hy ⟨rfl, rfl⟩)

noncomputable def fDy_minutesBehind (r0_3 : Nat → Int32) (a1 : Int32) : Option (Int32) :=
  (if (fDy_mayBe a1) = true then
  (zrd r0_3 6 a1).bind (fun (v2 : Int32) =>
  some v2)
  else
  some (-1))

set_option maxRecDepth 20000 in
theorem TX1_minutesBehind_15 (Γ : zG) {Q : Option Value → zM → Prop} (M : zM) (r0_3 : Nat → Int32) (e_i19 : M.1 19 = r0_3) (a1 : Int32) {res : Int32} (hy : (fDy_minutesBehind r0_3 a1) = some res) (hq : Q (some (.int res)) M) : zR Γ 2 YX1_minutesBehind 0 [(0, .ref (zad Γ 15)), (1, .int a1)] [] M Q := by
  unfold fDy_minutesBehind at hy
  refine zj_iload_n (pc' := 1) 1 dX1_minutesBehind_0 rfl rfl rfl ?_
  refine zj_S1 (pc' := 4) (z := YX1_mayBe) (As := [.int a1]) (N := M) dX1_minutesBehind_1 rfl mlX1_58 lkX1_mayBe rfl rfl (Nat.le_of_ble_eq_true rfl) (Nat.le_of_ble_eq_true rfl) (LX1_mayBe Γ _ a1 rfl) rfl ?_
  refine zj_bif_eq (tgt := 16) (pc' := 7) dX1_minutesBehind_4 rfl (by decide) (fun c1 => ?_) (fun c1 => ?_)
  · have hy := zt_f hy c1
    refine zj_iconst (pc' := 17) dX1_minutesBehind_16 rfl kiconst_m1 ?_
    have e9 := Option.some.inj hy
    subst e9
    exact zj_iret dX1_minutesBehind_17 rfl hq
  · have hy := zt_t hy c1
    refine zj_aload_n (pc' := 8) 0 dX1_minutesBehind_7 rfl rfl rfl ?_
    refine zj_getR (pc' := 11) (j := 19) dX1_minutesBehind_8 rfl flX1_21 sh15 rfl ?_
    refine zj_iload_n (pc' := 12) 1 dX1_minutesBehind_11 rfl rfl rfl ?_
    obtain ⟨v2, hv2, hy⟩ := zt_b hy
    refine zj_rdi (pc' := 13) dX1_minutesBehind_12 rfl sh19 e_i19 hv2 ?_
    refine zj_goto (tgt := 17) dX1_minutesBehind_13 (by decide) ?_
    have e9 := Option.some.inj hy
    subst e9
    exact zj_iret dX1_minutesBehind_17 rfl hq
set_option maxRecDepth 20000 in
theorem LX1_minutesBehind_15 (Γ : zG) (M : zM) (r0_3 : Nat → Int32) (e_i19 : M.1 19 = r0_3) (a1 : Int32) {res : Int32} (hy : (fDy_minutesBehind r0_3 a1) = some res) : zK Γ 2 YX1_minutesBehind [.ref (zad Γ 15), .int a1] M (fun v N => v = some (.int res) ∧ N = M) :=
  zK_of (by decide) (Nat.le_of_ble_eq_true rfl) (TX1_minutesBehind_15 Γ M r0_3 e_i19 a1 hy ⟨rfl, rfl⟩)

noncomputable def fX_person (r0_2 : Nat → Int32) (r0_4_0 : Nat → Int32) (r0_4_1 : Nat → Int32) (r0_4_2 : Nat → Int32) (r0_4_3 : Nat → Int32) (r0_4_5 : Nat → Int32) (a1 : Int32) (a2 : Int32) : Option (Int32) :=
  (if (fPl_hasPerson r0_2 a1) = true then
  (if a2 < 0 then
  none
  else
  (if a2 ≤ 6 then
  (if a2 = 0 then
  (fDy_whereIs r0_4_0 a1).bind (fun (y5 : Int32) =>
  some y5)
  else
  (if a2 = 1 then
  (fDy_bunsOf r0_4_1 a1).bind (fun (y7 : Int32) =>
  some y7)
  else
  (if a2 = 2 then
  (fDy_followedBy r0_4_2 a1).bind (fun (y9 : Int32) =>
  some y9)
  else
  (if a2 = 3 then
  (fDy_minutesBehind r0_4_3 a1).bind (fun (y11 : Int32) =>
  some y11)
  else
  (if a2 = 4 then
  (fDy_wayLeft r0_4_5 a1).bind (fun (y13 : Int32) =>
  some y13)
  else
  (if a2 = 5 then
  (fDy_followersOf r0_4_2 a1).bind (fun (y15 : Int32) =>
  some y15)
  else
  (fDy_lastOfRow r0_4_2 a1).bind (fun (y16 : Int32) =>
  some y16)))))))
  else
  none))
  else
  none)

set_option maxRecDepth 20000 in
theorem TX11_person_0 (Γ : zG) {Q : Option Value → zM → Prop} (M : zM) (r0_2 : Nat → Int32) (r0_4_0 : Nat → Int32) (r0_4_1 : Nat → Int32) (r0_4_2 : Nat → Int32) (r0_4_3 : Nat → Int32) (r0_4_5 : Nat → Int32) (e_i5 : M.1 5 = r0_2) (e_i16 : M.1 16 = r0_4_0) (e_i17 : M.1 17 = r0_4_1) (e_i18 : M.1 18 = r0_4_2) (e_i19 : M.1 19 = r0_4_3) (e_i21 : M.1 21 = r0_4_5) (a1 : Int32) (a2 : Int32) {res : Int32} (hy : (fX_person r0_2 r0_4_0 r0_4_1 r0_4_2 r0_4_3 r0_4_5 a1 a2) = some res) (hq : Q (some (.int res)) M) : zR Γ 4 YX11_person 0 [(0, .ref (zad Γ 0)), (1, .int a1), (2, .int a2)] [] M Q := by
  unfold fX_person at hy
  refine zj_aload_n (pc' := 1) 0 dX11_person_0 rfl rfl rfl ?_
  refine zj_getR (pc' := 4) (j := 5) dX11_person_1 rfl flX11_28 sh0 rfl ?_
  refine zj_iload_n (pc' := 5) 1 dX11_person_4 rfl rfl rfl ?_
  refine zj_V1 (pc' := 8) (z := YX7_hasPerson) (As := [.int a1]) (N := M) dX11_person_5 rfl mlX11_156 lkX7_hasPerson sh5 ⟨_, _, rfl⟩ rfl rfl (Nat.le_of_ble_eq_true rfl) (Nat.le_of_ble_eq_true rfl) (LX7_hasPerson_5 Γ _ r0_2 e_i5 a1 rfl) rfl ?_
  refine zj_bif_eq (tgt := 21) (pc' := 11) dX11_person_8 rfl (by decide) (fun c1 => ?_) (fun c1 => ?_)
  · have hy := zt_f hy c1
    cases hy
  · have hy := zt_t hy c1
    refine zj_iload_n (pc' := 12) 2 dX11_person_11 rfl rfl rfl ?_
    refine zj_if_lt (tgt := 21) (pc' := 15) dX11_person_12 rfl (by decide) (fun c2 => ?_) (fun c2 => ?_)
    · have hy := zt_t hy c2
      cases hy
    · have hy := zt_f hy c2
      refine zj_iload_n (pc' := 16) 2 dX11_person_15 rfl rfl rfl ?_
      refine zj_bipush (pc' := 18) dX11_person_16 rfl kbipush_6 ?_
      refine zj_icmp_le (tgt := 31) (pc' := 21) dX11_person_18 rfl (by decide) (fun c3 => ?_) (fun c3 => ?_)
      · have hy := zt_t hy c3
        refine zj_iload_n (pc' := 32) 2 dX11_person_31 rfl rfl rfl ?_
        rcases Decidable.em (a2 = 0) with c4 | c4
        · have hy := zt_t hy c4
          refine zj_tsIn (tgt := 72) (v := 0) dX11_person_32 c4 (by decide) (by decide) (off := 40) (by decide) (by decide) ?_
          refine zj_aload_n (pc' := 73) 0 dX11_person_72 rfl rfl rfl ?_
          refine zj_getR (pc' := 76) (j := 15) dX11_person_73 rfl flX11_38 sh0 rfl ?_
          refine zj_iload_n (pc' := 77) 1 dX11_person_76 rfl rfl rfl ?_
          obtain ⟨y5, hy5, hy⟩ := zt_b hy
          refine zj_V1 (pc' := 80) (z := YX1_whereIs) (As := [.int a1]) (N := M) dX11_person_77 rfl mlX11_166 lkX1_whereIs sh15 ⟨_, _, rfl⟩ rfl rfl (Nat.le_of_ble_eq_true rfl) (Nat.le_of_ble_eq_true rfl) (LX1_whereIs_15 Γ _ r0_4_0 e_i16 a1 hy5) rfl ?_
          have e9 := Option.some.inj hy
          subst e9
          exact zj_iret dX11_person_80 rfl hq
        · have hy := zt_f hy c4
          rcases Decidable.em (a2 = 1) with c6 | c6
          · have hy := zt_t hy c6
            refine zj_tsIn (tgt := 81) (v := 1) dX11_person_32 c6 (by decide) (by decide) (off := 49) (by decide) (by decide) ?_
            refine zj_aload_n (pc' := 82) 0 dX11_person_81 rfl rfl rfl ?_
            refine zj_getR (pc' := 85) (j := 15) dX11_person_82 rfl flX11_38 sh0 rfl ?_
            refine zj_iload_n (pc' := 86) 1 dX11_person_85 rfl rfl rfl ?_
            obtain ⟨y7, hy7, hy⟩ := zt_b hy
            refine zj_V1 (pc' := 89) (z := YX1_bunsOf) (As := [.int a1]) (N := M) dX11_person_86 rfl mlX11_170 lkX1_bunsOf sh15 ⟨_, _, rfl⟩ rfl rfl (Nat.le_of_ble_eq_true rfl) (Nat.le_of_ble_eq_true rfl) (LX1_bunsOf_15 Γ _ r0_4_1 e_i17 a1 hy7) rfl ?_
            have e9 := Option.some.inj hy
            subst e9
            exact zj_iret dX11_person_89 rfl hq
          · have hy := zt_f hy c6
            rcases Decidable.em (a2 = 2) with c8 | c8
            · have hy := zt_t hy c8
              refine zj_tsIn (tgt := 90) (v := 2) dX11_person_32 c8 (by decide) (by decide) (off := 58) (by decide) (by decide) ?_
              refine zj_aload_n (pc' := 91) 0 dX11_person_90 rfl rfl rfl ?_
              refine zj_getR (pc' := 94) (j := 15) dX11_person_91 rfl flX11_38 sh0 rfl ?_
              refine zj_iload_n (pc' := 95) 1 dX11_person_94 rfl rfl rfl ?_
              obtain ⟨y9, hy9, hy⟩ := zt_b hy
              refine zj_V1 (pc' := 98) (z := YX1_followedBy) (As := [.int a1]) (N := M) dX11_person_95 rfl mlX11_173 lkX1_followedBy sh15 ⟨_, _, rfl⟩ rfl rfl (Nat.le_of_ble_eq_true rfl) (Nat.le_of_ble_eq_true rfl) (LX1_followedBy_15 Γ _ r0_4_2 e_i18 a1 hy9) rfl ?_
              have e9 := Option.some.inj hy
              subst e9
              exact zj_iret dX11_person_98 rfl hq
            · have hy := zt_f hy c8
              rcases Decidable.em (a2 = 3) with c10 | c10
              · have hy := zt_t hy c10
                refine zj_tsIn (tgt := 99) (v := 3) dX11_person_32 c10 (by decide) (by decide) (off := 67) (by decide) (by decide) ?_
                refine zj_aload_n (pc' := 100) 0 dX11_person_99 rfl rfl rfl ?_
                refine zj_getR (pc' := 103) (j := 15) dX11_person_100 rfl flX11_38 sh0 rfl ?_
                refine zj_iload_n (pc' := 104) 1 dX11_person_103 rfl rfl rfl ?_
                obtain ⟨y11, hy11, hy⟩ := zt_b hy
                refine zj_V1 (pc' := 107) (z := YX1_minutesBehind) (As := [.int a1]) (N := M) dX11_person_104 rfl mlX11_176 lkX1_minutesBehind sh15 ⟨_, _, rfl⟩ rfl rfl (Nat.le_of_ble_eq_true rfl) (Nat.le_of_ble_eq_true rfl) (LX1_minutesBehind_15 Γ _ r0_4_3 e_i19 a1 hy11) rfl ?_
                have e9 := Option.some.inj hy
                subst e9
                exact zj_iret dX11_person_107 rfl hq
              · have hy := zt_f hy c10
                rcases Decidable.em (a2 = 4) with c12 | c12
                · have hy := zt_t hy c12
                  refine zj_tsIn (tgt := 108) (v := 4) dX11_person_32 c12 (by decide) (by decide) (off := 76) (by decide) (by decide) ?_
                  refine zj_aload_n (pc' := 109) 0 dX11_person_108 rfl rfl rfl ?_
                  refine zj_getR (pc' := 112) (j := 15) dX11_person_109 rfl flX11_38 sh0 rfl ?_
                  refine zj_iload_n (pc' := 113) 1 dX11_person_112 rfl rfl rfl ?_
                  obtain ⟨y13, hy13, hy⟩ := zt_b hy
                  refine zj_V1 (pc' := 116) (z := YX1_wayLeft) (As := [.int a1]) (N := M) dX11_person_113 rfl mlX11_179 lkX1_wayLeft sh15 ⟨_, _, rfl⟩ rfl rfl (Nat.le_of_ble_eq_true rfl) (Nat.le_of_ble_eq_true rfl) (LX1_wayLeft_15 Γ _ r0_4_5 e_i21 a1 hy13) rfl ?_
                  have e9 := Option.some.inj hy
                  subst e9
                  exact zj_iret dX11_person_116 rfl hq
                · have hy := zt_f hy c12
                  rcases Decidable.em (a2 = 5) with c14 | c14
                  · have hy := zt_t hy c14
                    refine zj_tsIn (tgt := 117) (v := 5) dX11_person_32 c14 (by decide) (by decide) (off := 85) (by decide) (by decide) ?_
                    refine zj_aload_n (pc' := 118) 0 dX11_person_117 rfl rfl rfl ?_
                    refine zj_getR (pc' := 121) (j := 15) dX11_person_118 rfl flX11_38 sh0 rfl ?_
                    refine zj_iload_n (pc' := 122) 1 dX11_person_121 rfl rfl rfl ?_
                    obtain ⟨y15, hy15, hy⟩ := zt_b hy
                    refine zj_V1 (pc' := 125) (z := YX1_followersOf) (As := [.int a1]) (N := M) dX11_person_122 rfl mlX11_182 lkX1_followersOf sh15 ⟨_, _, rfl⟩ rfl rfl (Nat.le_of_ble_eq_true rfl) (Nat.le_of_ble_eq_true rfl) (LX1_followersOf_15 Γ _ r0_4_2 e_i18 a1 hy15) rfl ?_
                    have e9 := Option.some.inj hy
                    subst e9
                    exact zj_iret dX11_person_125 rfl hq
                  · have hy := zt_f hy c14
                    refine zj_tsOut (tgt := 126) dX11_person_32 (by have q0 := zne (k := 0) c4 (by decide); have q1 := zne (k := 1) c6 (by decide); have q2 := zne (k := 2) c8 (by decide); have q3 := zne (k := 3) c10 (by decide); have q4 := zne (k := 4) c12 (by decide); have q5 := zne (k := 5) c14 (by decide); omega) (by decide) ?_
                    refine zj_aload_n (pc' := 127) 0 dX11_person_126 rfl rfl rfl ?_
                    refine zj_getR (pc' := 130) (j := 15) dX11_person_127 rfl flX11_38 sh0 rfl ?_
                    refine zj_iload_n (pc' := 131) 1 dX11_person_130 rfl rfl rfl ?_
                    obtain ⟨y16, hy16, hy⟩ := zt_b hy
                    refine zj_V1 (pc' := 134) (z := YX1_lastOfRow) (As := [.int a1]) (N := M) dX11_person_131 rfl mlX11_185 lkX1_lastOfRow sh15 ⟨_, _, rfl⟩ rfl rfl (Nat.le_of_ble_eq_true rfl) (Nat.le_of_ble_eq_true rfl) (LX1_lastOfRow_15 Γ _ r0_4_2 e_i18 a1 hy16) rfl ?_
                    have e9 := Option.some.inj hy
                    subst e9
                    exact zj_iret dX11_person_134 rfl hq
      · have hy := zt_f hy c3
        cases hy
set_option maxRecDepth 20000 in
theorem LX11_person_0 (Γ : zG) (M : zM) (r0_2 : Nat → Int32) (r0_4_0 : Nat → Int32) (r0_4_1 : Nat → Int32) (r0_4_2 : Nat → Int32) (r0_4_3 : Nat → Int32) (r0_4_5 : Nat → Int32) (e_i5 : M.1 5 = r0_2) (e_i16 : M.1 16 = r0_4_0) (e_i17 : M.1 17 = r0_4_1) (e_i18 : M.1 18 = r0_4_2) (e_i19 : M.1 19 = r0_4_3) (e_i21 : M.1 21 = r0_4_5) (a1 : Int32) (a2 : Int32) {res : Int32} (hy : (fX_person r0_2 r0_4_0 r0_4_1 r0_4_2 r0_4_3 r0_4_5 a1 a2) = some res) : zK Γ 4 YX11_person [.ref (zad Γ 0), .int a1, .int a2] M (fun v N => v = some (.int res) ∧ N = M) :=
  zK_of (by decide) (Nat.le_of_ble_eq_true rfl) (TX11_person_0 Γ M r0_2 r0_4_0 r0_4_1 r0_4_2 r0_4_3 r0_4_5 e_i5 e_i16 e_i17 e_i18 e_i19 e_i21 a1 a2 hy ⟨rfl, rfl⟩)

noncomputable def fX_commonDivisor_L3 (a1 : Int32) (a2 : Int32) (x1 : Int32) : Option ((Int32) ⊕ (Int32)) :=
  (if x1 ≤ 1 then
  some (.inr 1)
  else
  (if x1 = 0 then none else
  (if (a1 - a1 / x1 * x1) = 0 then
  (if x1 = 0 then none else
  (if (a2 - a2 / x1 * x1) = 0 then
  some (.inr x1)
  else
  zlet (x1 + (-1)) (fun (x14 : Int32) =>
  some (.inl x14))))
  else
  zlet (x1 + (-1)) (fun (x15 : Int32) =>
  some (.inl x15)))))
noncomputable def fX_commonDivisor (a1 : Int32) (a2 : Int32) : Option (Int32) :=
  zLP (fun s => fX_commonDivisor_L3 a1 a2 s) 6

set_option maxRecDepth 20000 in
theorem TX11_commonDivisor (Γ : zG) {Q : Option Value → zM → Prop} (M : zM)   (a1 : Int32) (a2 : Int32) {res : Int32} (hy : (fX_commonDivisor a1 a2) = some res) (hq : Q (some (.int res)) M) : zR Γ 1 YX11_commonDivisor 0 [(0, .int a1), (1, .int a2)] [] M Q := by
  unfold fX_commonDivisor at hy
  refine zj_bipush (pc' := 2) dX11_commonDivisor_0 rfl kbipush_6 ?_
  refine zj_istore_n (pc' := 3) (L' := [(2, .int 6), (0, .int a1), (1, .int a2)]) dX11_commonDivisor_2 rfl rfl (by decide) rfl ?_
  refine zj_loc [1, 2, 0] rfl ?_
  obtain ⟨n9, hn9⟩ := zLP_some hy
  have HL3 : ∀ (n : Nat) (x1 : Int32), zlp (fun s => fX_commonDivisor_L3 a1 a2 s) n x1 = some res → zR Γ 1 YX11_commonDivisor 3 [(0, .int a1), (1, .int a2), (2, .int x1)] [] M Q := by
    intro n
    induction n with
    | zero => intro x1 hn9; cases hn9
    | succ n ih6 =>
      intro x1 hn9
      obtain ⟨o9, hb9, h7, h8⟩ := zlp_step hn9
      have hy : fX_commonDivisor_L3 a1 a2 x1 = some o9 := hb9
      unfold fX_commonDivisor_L3 at hy
      refine zj_iload_n (pc' := 4) 2 dX11_commonDivisor_3 rfl rfl rfl ?_
      refine zj_iconst (pc' := 5) dX11_commonDivisor_4 rfl kiconst_1 ?_
      refine zj_icmp_le (tgt := 28) (pc' := 8) dX11_commonDivisor_5 rfl (by decide) (fun c9 => ?_) (fun c9 => ?_)
      · have hy := zt_t hy c9
        refine zj_iconst (pc' := 29) dX11_commonDivisor_28 rfl kiconst_1 ?_
        have e9 := h8 _ (Option.some.inj hy).symm
        subst e9
        exact zj_iret dX11_commonDivisor_29 rfl hq
      · have hy := zt_f hy c9
        refine zj_iload_n (pc' := 9) 0 dX11_commonDivisor_8 rfl rfl rfl ?_
        refine zj_iload_n (pc' := 10) 2 dX11_commonDivisor_9 rfl rfl rfl ?_
        obtain ⟨c10, hy⟩ := zck' hy
        refine zj_irem (pc' := 11) dX11_commonDivisor_10 rfl c10 ?_
        refine zj_if_ne (tgt := 22) (pc' := 14) dX11_commonDivisor_11 rfl (by decide) (fun c11 => ?_) (fun c11 => ?_)
        · have hy := zt_f hy c11
          obtain ⟨x15, ex15⟩ : ∃ z : Int32, z = (x1 + (-1)) := ⟨_, rfl⟩
          have hy := zlet_at ex15 hy
          refine zj_iinc (pc' := 25) 2 (L' := [(2, .int x15), (0, .int a1), (1, .int a2)]) dX11_commonDivisor_22 rfl rfl (by decide) (by rw [cim1, ← ex15]; rfl) ?_
          refine zj_goto (tgt := 3) dX11_commonDivisor_25 (by decide) ?_
          have hn9 := h7 _ (Option.some.inj hy).symm
          refine zj_loc [1, 2, 0] rfl ?_
          exact ih6 _ hn9
        · have hy := zt_t hy c11
          refine zj_iload_n (pc' := 15) 1 dX11_commonDivisor_14 rfl rfl rfl ?_
          refine zj_iload_n (pc' := 16) 2 dX11_commonDivisor_15 rfl rfl rfl ?_
          obtain ⟨c12, hy⟩ := zck' hy
          refine zj_irem (pc' := 17) dX11_commonDivisor_16 rfl c12 ?_
          refine zj_if_ne (tgt := 22) (pc' := 20) dX11_commonDivisor_17 rfl (by decide) (fun c13 => ?_) (fun c13 => ?_)
          · have hy := zt_f hy c13
            obtain ⟨x14, ex14⟩ : ∃ z : Int32, z = (x1 + (-1)) := ⟨_, rfl⟩
            have hy := zlet_at ex14 hy
            refine zj_iinc (pc' := 25) 2 (L' := [(2, .int x14), (0, .int a1), (1, .int a2)]) dX11_commonDivisor_22 rfl rfl (by decide) (by rw [cim1, ← ex14]; rfl) ?_
            refine zj_goto (tgt := 3) dX11_commonDivisor_25 (by decide) ?_
            have hn9 := h7 _ (Option.some.inj hy).symm
            refine zj_loc [1, 2, 0] rfl ?_
            exact ih6 _ hn9
          · have hy := zt_t hy c13
            refine zj_iload_n (pc' := 21) 2 dX11_commonDivisor_20 rfl rfl rfl ?_
            have e9 := h8 _ (Option.some.inj hy).symm
            subst e9
            exact zj_iret dX11_commonDivisor_21 rfl hq
  exact HL3 n9 _ hn9
set_option maxRecDepth 20000 in
theorem LX11_commonDivisor (Γ : zG) (M : zM)   (a1 : Int32) (a2 : Int32) {res : Int32} (hy : (fX_commonDivisor a1 a2) = some res) : zK Γ 1 YX11_commonDivisor [.int a1, .int a2] M (fun v N => v = some (.int res) ∧ N = M) :=
  zK_of (by decide) (Nat.le_of_ble_eq_true rfl) (TX11_commonDivisor Γ M a1 a2 hy ⟨rfl, rfl⟩)

noncomputable def fX_mean (r0_2 : Nat → Int32) (r0_4_7 : Nat → Int32) (a1 : Int32) : Option (Int32) :=
  zlet (fPl_persons r0_2) (fun (x1 : Int32) =>
  (if x1 < 1 then
  none
  else
  (if a1 < 0 then
  none
  else
  (if a1 ≤ 1 then
  (fDy_allPrints r0_4_7).bind (fun (y5 : Int32) =>
  (fX_commonDivisor y5 x1).bind (fun (y6 : Int32) =>
  (if 1 ≤ y6 then
  (if a1 = 0 then
  (if y6 = 0 then none else
  some (y5 / y6))
  else
  (if y6 = 0 then none else
  some (x1 / y6)))
  else
  some (-1))))
  else
  none))))

set_option maxRecDepth 20000 in
theorem TX11_mean_0 (Γ : zG) {Q : Option Value → zM → Prop} (M : zM) (r0_2 : Nat → Int32) (r0_4_7 : Nat → Int32) (e_i5 : M.1 5 = r0_2) (e_i23 : M.1 23 = r0_4_7) (a1 : Int32) {res : Int32} (hy : (fX_mean r0_2 r0_4_7 a1) = some res) (hq : Q (some (.int res)) M) : zR Γ 2 YX11_mean 0 [(0, .ref (zad Γ 0)), (1, .int a1)] [] M Q := by
  unfold fX_mean at hy
  refine zj_aload_n (pc' := 1) 0 dX11_mean_0 rfl rfl rfl ?_
  refine zj_getR (pc' := 4) (j := 5) dX11_mean_1 rfl flX11_28 sh0 rfl ?_
  refine zj_V1 (pc' := 7) (z := YX7_persons) (As := []) (N := M) dX11_mean_4 rfl mlX11_308 lkX7_persons sh5 ⟨_, _, rfl⟩ rfl rfl (Nat.le_of_ble_eq_true rfl) (Nat.le_of_ble_eq_true rfl) (LX7_persons_5 Γ _ r0_2 e_i5 rfl) rfl ?_
  refine zj_topi (fun x1 ex1 => ?_)
  have hy := zlet_at ex1 hy
  refine zj_istore_n (pc' := 8) (L' := [(2, .int x1), (0, .ref (zad Γ 0)), (1, .int a1)]) dX11_mean_7 rfl rfl (by decide) rfl ?_
  refine zj_iload_n (pc' := 9) 0 dX11_mean_8 rfl rfl rfl ?_
  refine zj_iconst (pc' := 10) dX11_mean_9 rfl kiconst_1 ?_
  refine zj_icmp_lt (tgt := 22) (pc' := 13) dX11_mean_10 rfl (by decide) (fun c2 => ?_) (fun c2 => ?_)
  · have hy := zt_t hy c2
    cases hy
  · have hy := zt_f hy c2
    refine zj_iload_n (pc' := 14) 2 dX11_mean_13 rfl rfl rfl ?_
    refine zj_if_lt (tgt := 22) (pc' := 17) dX11_mean_14 rfl (by decide) (fun c3 => ?_) (fun c3 => ?_)
    · have hy := zt_t hy c3
      cases hy
    · have hy := zt_f hy c3
      refine zj_iload_n (pc' := 18) 2 dX11_mean_17 rfl rfl rfl ?_
      refine zj_iconst (pc' := 19) dX11_mean_18 rfl kiconst_1 ?_
      refine zj_icmp_le (tgt := 33) (pc' := 22) dX11_mean_19 rfl (by decide) (fun c4 => ?_) (fun c4 => ?_)
      · have hy := zt_t hy c4
        refine zj_aload_n (pc' := 34) 1 dX11_mean_33 rfl rfl rfl ?_
        refine zj_getR (pc' := 37) (j := 15) dX11_mean_34 rfl flX11_38 sh0 rfl ?_
        obtain ⟨y5, hy5, hy⟩ := zt_b hy
        refine zj_V1 (pc' := 40) (z := YX1_allPrints) (As := []) (N := M) dX11_mean_37 rfl mlX11_227 lkX1_allPrints sh15 ⟨_, _, rfl⟩ rfl rfl (Nat.le_of_ble_eq_true rfl) (Nat.le_of_ble_eq_true rfl) (LX1_allPrints_15 Γ _ r0_4_7 e_i23 hy5) rfl ?_
        refine zj_istore_n (pc' := 41) (L' := [(3, .int y5), (2, .int x1), (0, .ref (zad Γ 0)), (1, .int a1)]) dX11_mean_40 rfl rfl (by decide) rfl ?_
        refine zj_iload_n (pc' := 42) 0 dX11_mean_41 rfl rfl rfl ?_
        refine zj_iload_n (pc' := 43) 1 dX11_mean_42 rfl rfl rfl ?_
        obtain ⟨y6, hy6, hy⟩ := zt_b hy
        refine zj_S1 (pc' := 46) (z := YX11_commonDivisor) (As := [.int y5, .int x1]) (N := M) dX11_mean_43 rfl mlX11_313 lkX11_commonDivisor rfl rfl (Nat.le_of_ble_eq_true rfl) (Nat.le_of_ble_eq_true rfl) (LX11_commonDivisor Γ _ y5 x1 hy6) rfl ?_
        refine zj_istore (pc' := 48) (L' := [(4, .int y6), (3, .int y5), (2, .int x1), (0, .ref (zad Γ 0)), (1, .int a1)]) dX11_mean_46 rfl (by decide) rfl ?_
        refine zj_iload (pc' := 50) 0 dX11_mean_48 rfl rfl ?_
        refine zj_iconst (pc' := 51) dX11_mean_50 rfl kiconst_1 ?_
        refine zj_icmp_ge (tgt := 56) (pc' := 54) dX11_mean_51 rfl (by decide) (fun c7 => ?_) (fun c7 => ?_)
        · have hy := zt_t hy c7
          refine zj_iload_n (pc' := 57) 4 dX11_mean_56 rfl rfl rfl ?_
          refine zj_if_ne (tgt := 67) (pc' := 60) dX11_mean_57 rfl (by decide) (fun c8 => ?_) (fun c8 => ?_)
          · have hy := zt_f hy c8
            refine zj_iload_n (pc' := 68) 2 dX11_mean_67 rfl rfl rfl ?_
            refine zj_iload (pc' := 70) 0 dX11_mean_68 rfl rfl ?_
            obtain ⟨c10, hy⟩ := zck' hy
            refine zj_idiv (pc' := 71) dX11_mean_70 rfl c10 ?_
            have e9 := Option.some.inj hy
            subst e9
            exact zj_iret dX11_mean_71 rfl hq
          · have hy := zt_t hy c8
            refine zj_iload_n (pc' := 61) 1 dX11_mean_60 rfl rfl rfl ?_
            refine zj_iload (pc' := 63) 0 dX11_mean_61 rfl rfl ?_
            obtain ⟨c9, hy⟩ := zck' hy
            refine zj_idiv (pc' := 64) dX11_mean_63 rfl c9 ?_
            refine zj_goto (tgt := 71) dX11_mean_64 (by decide) ?_
            have e9 := Option.some.inj hy
            subst e9
            exact zj_iret dX11_mean_71 rfl hq
        · have hy := zt_f hy c7
          refine zj_iconst (pc' := 55) dX11_mean_54 rfl kiconst_m1 ?_
          have e9 := Option.some.inj hy
          subst e9
          exact zj_iret dX11_mean_55 rfl hq
      · have hy := zt_f hy c4
        cases hy
set_option maxRecDepth 20000 in
theorem LX11_mean_0 (Γ : zG) (M : zM) (r0_2 : Nat → Int32) (r0_4_7 : Nat → Int32) (e_i5 : M.1 5 = r0_2) (e_i23 : M.1 23 = r0_4_7) (a1 : Int32) {res : Int32} (hy : (fX_mean r0_2 r0_4_7 a1) = some res) : zK Γ 2 YX11_mean [.ref (zad Γ 0), .int a1] M (fun v N => v = some (.int res) ∧ N = M) :=
  zK_of (by decide) (Nat.le_of_ble_eq_true rfl) (TX11_mean_0 Γ M r0_2 r0_4_7 e_i5 e_i23 a1 hy ⟨rfl, rfl⟩)

