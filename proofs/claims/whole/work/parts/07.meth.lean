noncomputable def fDy_mayBe (a1 : Int32) : Bool :=
  (if a1 < 0 then false else (if 6 ≤ a1 then false else true))

set_option maxRecDepth 20000 in
theorem TX1_mayBe (Γ : zG) {Q : Option Value → zM → Prop} (M : zM)   (a1 : Int32) {res : Bool} (hy : (fDy_mayBe a1) = res) (hq : Q (some (.int (zb res))) M) : zR Γ 1 YX1_mayBe 0 [(0, .int a1)] [] M Q := by
  unfold fDy_mayBe at hy
  refine zj_iload_n (pc' := 1) 0 dX1_mayBe_0 rfl rfl rfl ?_
  have HJ1 : zR Γ 1 YX1_mayBe 15 [(0, .int a1)] [.int (zb (if a1 < 0 then false else (if 6 ≤ a1 then false else true)))] M Q := by
    subst hy
    exact zj_bret (b := (if a1 < 0 then false else (if 6 ≤ a1 then false else true))) dX1_mayBe_15 rfl hq
  refine zj_if_lt (tgt := 14) (pc' := 4) dX1_mayBe_1 rfl (by decide) (fun c2 => ?_) (fun c2 => ?_)
  · refine zj_iconst (pc' := 15) dX1_mayBe_14 rfl kiconst_0 ?_
    exact zj_eqb (b := false) (if_pos c2) HJ1
  · refine zj_iload_n (pc' := 5) 0 dX1_mayBe_4 rfl rfl rfl ?_
    refine zj_bipush (pc' := 7) dX1_mayBe_5 rfl kbipush_6 ?_
    refine zj_icmp_ge (tgt := 14) (pc' := 10) dX1_mayBe_7 rfl (by decide) (fun c3 => ?_) (fun c3 => ?_)
    · refine zj_iconst (pc' := 15) dX1_mayBe_14 rfl kiconst_0 ?_
      exact zj_eqb (b := false) ((if_neg c2).trans (if_pos c3)) HJ1
    · refine zj_iconst (pc' := 11) dX1_mayBe_10 rfl kiconst_1 ?_
      refine zj_goto (tgt := 15) dX1_mayBe_11 (by decide) ?_
      exact zj_eqb (b := true) ((if_neg c2).trans (if_neg c3)) HJ1
set_option maxRecDepth 20000 in
theorem LX1_mayBe (Γ : zG) (M : zM)   (a1 : Int32) {res : Bool} (hy : (fDy_mayBe a1) = res) : zK Γ 1 YX1_mayBe [.int a1] M (fun v N => v = some (.int (zb res)) ∧ N = M) :=
  zK_of (by decide) (Nat.le_of_ble_eq_true rfl) (TX1_mayBe Γ M a1 hy ⟨rfl, rfl⟩)

noncomputable def fDy_wasAt (r0_0 : Nat → Int32) (a1 : Int32) (a2 : Int32) : Option (Int32) :=
  (if (fDy_mayBe a1) = true then
  (if a2 < 0 then
  some (-1)
  else
  (if 6 ≤ a2 then
  some (-1)
  else
  (zrd r0_0 36 ((a1 * 6) + a2)).bind (fun (v4 : Int32) =>
  some v4)))
  else
  some (-1))

set_option maxRecDepth 20000 in
theorem TX1_wasAt_15 (Γ : zG) {Q : Option Value → zM → Prop} (M : zM) (r0_0 : Nat → Int32) (e_i16 : M.1 16 = r0_0) (a1 : Int32) (a2 : Int32) {res : Int32} (hy : (fDy_wasAt r0_0 a1 a2) = some res) (hq : Q (some (.int res)) M) : zR Γ 2 YX1_wasAt 0 [(0, .ref (zad Γ 15)), (1, .int a1), (2, .int a2)] [] M Q := by
  unfold fDy_wasAt at hy
  refine zj_iload_n (pc' := 1) 1 dX1_wasAt_0 rfl rfl rfl ?_
  refine zj_S1 (pc' := 4) (z := YX1_mayBe) (As := [.int a1]) (N := M) dX1_wasAt_1 rfl mlX1_58 lkX1_mayBe rfl rfl (Nat.le_of_ble_eq_true rfl) (Nat.le_of_ble_eq_true rfl) (LX1_mayBe Γ _ a1 rfl) rfl ?_
  refine zj_bif_eq (tgt := 31) (pc' := 7) dX1_wasAt_4 rfl (by decide) (fun c1 => ?_) (fun c1 => ?_)
  · have hy := zt_f hy c1
    refine zj_iconst (pc' := 32) dX1_wasAt_31 rfl kiconst_m1 ?_
    have e9 := Option.some.inj hy
    subst e9
    exact zj_iret dX1_wasAt_32 rfl hq
  · have hy := zt_t hy c1
    refine zj_iload_n (pc' := 8) 2 dX1_wasAt_7 rfl rfl rfl ?_
    refine zj_if_lt (tgt := 31) (pc' := 11) dX1_wasAt_8 rfl (by decide) (fun c2 => ?_) (fun c2 => ?_)
    · have hy := zt_t hy c2
      refine zj_iconst (pc' := 32) dX1_wasAt_31 rfl kiconst_m1 ?_
      have e9 := Option.some.inj hy
      subst e9
      exact zj_iret dX1_wasAt_32 rfl hq
    · have hy := zt_f hy c2
      refine zj_iload_n (pc' := 12) 2 dX1_wasAt_11 rfl rfl rfl ?_
      refine zj_bipush (pc' := 14) dX1_wasAt_12 rfl kbipush_6 ?_
      refine zj_icmp_ge (tgt := 31) (pc' := 17) dX1_wasAt_14 rfl (by decide) (fun c3 => ?_) (fun c3 => ?_)
      · have hy := zt_t hy c3
        refine zj_iconst (pc' := 32) dX1_wasAt_31 rfl kiconst_m1 ?_
        have e9 := Option.some.inj hy
        subst e9
        exact zj_iret dX1_wasAt_32 rfl hq
      · have hy := zt_f hy c3
        refine zj_aload_n (pc' := 18) 0 dX1_wasAt_17 rfl rfl rfl ?_
        refine zj_getR (pc' := 21) (j := 16) dX1_wasAt_18 rfl flX1_9 sh15 rfl ?_
        refine zj_iload_n (pc' := 22) 1 dX1_wasAt_21 rfl rfl rfl ?_
        refine zj_bipush (pc' := 24) dX1_wasAt_22 rfl kbipush_6 ?_
        refine zj_imul (pc' := 25) dX1_wasAt_24 rfl ?_
        refine zj_iload_n (pc' := 26) 2 dX1_wasAt_25 rfl rfl rfl ?_
        refine zj_iadd (pc' := 27) dX1_wasAt_26 rfl ?_
        obtain ⟨v4, hv4, hy⟩ := zt_b hy
        refine zj_rdi (pc' := 28) dX1_wasAt_27 rfl sh16 e_i16 hv4 ?_
        refine zj_goto (tgt := 32) dX1_wasAt_28 (by decide) ?_
        have e9 := Option.some.inj hy
        subst e9
        exact zj_iret dX1_wasAt_32 rfl hq
set_option maxRecDepth 20000 in
theorem LX1_wasAt_15 (Γ : zG) (M : zM) (r0_0 : Nat → Int32) (e_i16 : M.1 16 = r0_0) (a1 : Int32) (a2 : Int32) {res : Int32} (hy : (fDy_wasAt r0_0 a1 a2) = some res) : zK Γ 2 YX1_wasAt [.ref (zad Γ 15), .int a1, .int a2] M (fun v N => v = some (.int res) ∧ N = M) :=
  zK_of (by decide) (Nat.le_of_ble_eq_true rfl) (TX1_wasAt_15 Γ M r0_0 e_i16 a1 a2 hy ⟨rfl, rfl⟩)

noncomputable def fDy_followedBy (r0_2 : Nat → Int32) (a1 : Int32) : Option (Int32) :=
  (if (fDy_mayBe a1) = true then
  (zrd r0_2 6 a1).bind (fun (v2 : Int32) =>
  some v2)
  else
  some (-1))

set_option maxRecDepth 20000 in
theorem TX1_followedBy_15 (Γ : zG) {Q : Option Value → zM → Prop} (M : zM) (r0_2 : Nat → Int32) (e_i18 : M.1 18 = r0_2) (a1 : Int32) {res : Int32} (hy : (fDy_followedBy r0_2 a1) = some res) (hq : Q (some (.int res)) M) : zR Γ 2 YX1_followedBy 0 [(0, .ref (zad Γ 15)), (1, .int a1)] [] M Q := by
  unfold fDy_followedBy at hy
  refine zj_iload_n (pc' := 1) 1 dX1_followedBy_0 rfl rfl rfl ?_
  refine zj_S1 (pc' := 4) (z := YX1_mayBe) (As := [.int a1]) (N := M) dX1_followedBy_1 rfl mlX1_58 lkX1_mayBe rfl rfl (Nat.le_of_ble_eq_true rfl) (Nat.le_of_ble_eq_true rfl) (LX1_mayBe Γ _ a1 rfl) rfl ?_
  refine zj_bif_eq (tgt := 16) (pc' := 7) dX1_followedBy_4 rfl (by decide) (fun c1 => ?_) (fun c1 => ?_)
  · have hy := zt_f hy c1
    refine zj_iconst (pc' := 17) dX1_followedBy_16 rfl kiconst_m1 ?_
    have e9 := Option.some.inj hy
    subst e9
    exact zj_iret dX1_followedBy_17 rfl hq
  · have hy := zt_t hy c1
    refine zj_aload_n (pc' := 8) 0 dX1_followedBy_7 rfl rfl rfl ?_
    refine zj_getR (pc' := 11) (j := 18) dX1_followedBy_8 rfl flX1_18 sh15 rfl ?_
    refine zj_iload_n (pc' := 12) 1 dX1_followedBy_11 rfl rfl rfl ?_
    obtain ⟨v2, hv2, hy⟩ := zt_b hy
    refine zj_rdi (pc' := 13) dX1_followedBy_12 rfl sh18 e_i18 hv2 ?_
    refine zj_goto (tgt := 17) dX1_followedBy_13 (by decide) ?_
    have e9 := Option.some.inj hy
    subst e9
    exact zj_iret dX1_followedBy_17 rfl hq
set_option maxRecDepth 20000 in
theorem LX1_followedBy_15 (Γ : zG) (M : zM) (r0_2 : Nat → Int32) (e_i18 : M.1 18 = r0_2) (a1 : Int32) {res : Int32} (hy : (fDy_followedBy r0_2 a1) = some res) : zK Γ 2 YX1_followedBy [.ref (zad Γ 15), .int a1] M (fun v N => v = some (.int res) ∧ N = M) :=
  zK_of (by decide) (Nat.le_of_ble_eq_true rfl) (TX1_followedBy_15 Γ M r0_2 e_i18 a1 hy ⟨rfl, rfl⟩)

noncomputable def fDy_ringOf_L7 (r0_2 : Nat → Int32) (a1 : Int32) (x1 : Int32) (x2 : Int32) (x3 : Int32) : Option ((Int32 × Int32 × Int32) ⊕ (Int32)) :=
  (if 6 ≤ x3 then
  some (.inr 0)
  else
  (fDy_followedBy r0_2 x2).bind (fun (y12 : Int32) =>
  (if y12 = (-1) then
  some (.inr 0)
  else
  zlet (x1 ||| ((1 : Int32) <<< (y12 &&& 31))) (fun (x14 : Int32) =>
  (if y12 = a1 then
  some (.inr x14)
  else
  zlet (x3 + 1) (fun (x16 : Int32) =>
  some (.inl (x14, y12, x16))))))))
noncomputable def fDy_ringOf (r0_2 : Nat → Int32) (a1 : Int32) : Option (Int32) :=
  zLP (fun s => fDy_ringOf_L7 r0_2 a1 s.1 s.2.1 s.2.2) (0, a1, 0)

set_option maxRecDepth 20000 in
theorem TX1_ringOf_15 (Γ : zG) {Q : Option Value → zM → Prop} (M : zM) (r0_2 : Nat → Int32) (e_i18 : M.1 18 = r0_2) (a1 : Int32) {res : Int32} (hy : (fDy_ringOf r0_2 a1) = some res) (hq : Q (some (.int res)) M) : zR Γ 3 YX1_ringOf 0 [(0, .ref (zad Γ 15)), (1, .int a1)] [] M Q := by
  unfold fDy_ringOf at hy
  refine zj_iconst (pc' := 1) dX1_ringOf_0 rfl kiconst_0 ?_
  refine zj_istore_n (pc' := 2) (L' := [(2, .int 0), (0, .ref (zad Γ 15)), (1, .int a1)]) dX1_ringOf_1 rfl rfl (by decide) rfl ?_
  refine zj_iload_n (pc' := 3) 2 dX1_ringOf_2 rfl rfl rfl ?_
  refine zj_istore_n (pc' := 4) (L' := [(3, .int a1), (2, .int 0), (0, .ref (zad Γ 15)), (1, .int a1)]) dX1_ringOf_3 rfl rfl (by decide) rfl ?_
  refine zj_iconst (pc' := 5) dX1_ringOf_4 rfl kiconst_0 ?_
  refine zj_istore (pc' := 7) (L' := [(4, .int 0), (3, .int a1), (2, .int 0), (0, .ref (zad Γ 15)), (1, .int a1)]) dX1_ringOf_5 rfl (by decide) rfl ?_
  refine zj_loc [3, 4, 2, 1, 0] rfl ?_
  obtain ⟨n9, hn9⟩ := zLP_some hy
  have HL5 : ∀ (n : Nat) (x1 : Int32) (x2 : Int32) (x3 : Int32), zlp (fun s => fDy_ringOf_L7 r0_2 a1 s.1 s.2.1 s.2.2) n (x1, x2, x3) = some res → zR Γ 3 YX1_ringOf 7 [(0, .ref (zad Γ 15)), (1, .int a1), (2, .int x1), (3, .int x2), (4, .int x3)] [] M Q := by
    intro n
    induction n with
    | zero => intro x1 x2 x3 hn9; cases hn9
    | succ n ih8 =>
      intro x1 x2 x3 hn9
      obtain ⟨o9, hb9, h9, h10⟩ := zlp_step hn9
      have hy : fDy_ringOf_L7 r0_2 a1 x1 x2 x3 = some o9 := hb9
      unfold fDy_ringOf_L7 at hy
      refine zj_iload (pc' := 9) 4 dX1_ringOf_7 rfl rfl ?_
      refine zj_bipush (pc' := 11) dX1_ringOf_9 rfl kbipush_6 ?_
      refine zj_icmp_ge (tgt := 46) (pc' := 14) dX1_ringOf_11 rfl (by decide) (fun c11 => ?_) (fun c11 => ?_)
      · have hy := zt_t hy c11
        refine zj_iconst (pc' := 47) dX1_ringOf_46 rfl kiconst_0 ?_
        have e9 := h10 _ (Option.some.inj hy).symm
        subst e9
        exact zj_iret dX1_ringOf_47 rfl hq
      · have hy := zt_f hy c11
        refine zj_aload_n (pc' := 15) 0 dX1_ringOf_14 rfl rfl rfl ?_
        refine zj_iload_n (pc' := 16) 3 dX1_ringOf_15 rfl rfl rfl ?_
        obtain ⟨y12, hy12, hy⟩ := zt_b hy
        refine zj_V1 (pc' := 19) (z := YX1_followedBy) (As := [.int x2]) (N := M) dX1_ringOf_16 rfl mlX1_69 lkX1_followedBy sh15 ⟨_, _, rfl⟩ rfl rfl (Nat.le_of_ble_eq_true rfl) (Nat.le_of_ble_eq_true rfl) (LX1_followedBy_15 Γ _ r0_2 e_i18 x2 hy12) rfl ?_
        refine zj_istore_n (pc' := 20) (L' := [(3, .int y12), (0, .ref (zad Γ 15)), (1, .int a1), (2, .int x1), (4, .int x3)]) dX1_ringOf_19 rfl rfl (by decide) rfl ?_
        refine zj_iload_n (pc' := 21) 0 dX1_ringOf_20 rfl rfl rfl ?_
        refine zj_iconst (pc' := 22) dX1_ringOf_21 rfl kiconst_m1 ?_
        refine zj_icmp_ne (tgt := 27) (pc' := 25) dX1_ringOf_22 rfl (by decide) (fun c13 => ?_) (fun c13 => ?_)
        · have hy := zt_f hy c13
          refine zj_iload_n (pc' := 28) 3 dX1_ringOf_27 rfl rfl rfl ?_
          refine zj_iconst (pc' := 29) dX1_ringOf_28 rfl kiconst_1 ?_
          refine zj_iload_n (pc' := 30) 0 dX1_ringOf_29 rfl rfl rfl ?_
          refine zj_ishl (pc' := 31) dX1_ringOf_30 rfl ?_
          refine zj_ior (pc' := 32) dX1_ringOf_31 rfl ?_
          refine zj_topi (fun x14 ex14 => ?_)
          have hy := zlet_at ex14 hy
          refine zj_istore_n (pc' := 33) (L' := [(2, .int x14), (3, .int y12), (0, .ref (zad Γ 15)), (1, .int a1), (4, .int x3)]) dX1_ringOf_32 rfl rfl (by decide) rfl ?_
          refine zj_iload_n (pc' := 34) 1 dX1_ringOf_33 rfl rfl rfl ?_
          refine zj_iload_n (pc' := 35) 3 dX1_ringOf_34 rfl rfl rfl ?_
          refine zj_icmp_ne (tgt := 40) (pc' := 38) dX1_ringOf_35 rfl (by decide) (fun c15 => ?_) (fun c15 => ?_)
          · have hy := zt_f hy c15
            obtain ⟨x16, ex16⟩ : ∃ z : Int32, z = (x3 + 1) := ⟨_, rfl⟩
            have hy := zlet_at ex16 hy
            refine zj_iinc (pc' := 43) 4 (L' := [(4, .int x16), (2, .int x14), (3, .int y12), (0, .ref (zad Γ 15)), (1, .int a1)]) dX1_ringOf_40 rfl rfl (by decide) (by rw [ci1, ← ex16]; rfl) ?_
            refine zj_goto (tgt := 7) dX1_ringOf_43 (by decide) ?_
            have hn9 := h9 _ (Option.some.inj hy).symm
            refine zj_loc [3, 4, 1, 2, 0] rfl ?_
            exact ih8 _ _ _ hn9
          · have hy := zt_t hy c15
            refine zj_iload_n (pc' := 39) 0 dX1_ringOf_38 rfl rfl rfl ?_
            have e9 := h10 _ (Option.some.inj hy).symm
            subst e9
            exact zj_iret dX1_ringOf_39 rfl hq
        · have hy := zt_t hy c13
          refine zj_iconst (pc' := 26) dX1_ringOf_25 rfl kiconst_0 ?_
          have e9 := h10 _ (Option.some.inj hy).symm
          subst e9
          exact zj_iret dX1_ringOf_26 rfl hq
  exact HL5 n9 _ _ _ hn9
set_option maxRecDepth 20000 in
theorem LX1_ringOf_15 (Γ : zG) (M : zM) (r0_2 : Nat → Int32) (e_i18 : M.1 18 = r0_2) (a1 : Int32) {res : Int32} (hy : (fDy_ringOf r0_2 a1) = some res) : zK Γ 3 YX1_ringOf [.ref (zad Γ 15), .int a1] M (fun v N => v = some (.int res) ∧ N = M) :=
  zK_of (by decide) (Nat.le_of_ble_eq_true rfl) (TX1_ringOf_15 Γ M r0_2 e_i18 a1 hy ⟨rfl, rfl⟩)

noncomputable def fX_hasBit (a1 : Int32) (a2 : Int32) : Bool :=
  (if ((a1 >>> (a2 &&& 31)) &&& 1) = 0 then false else true)

set_option maxRecDepth 20000 in
theorem TX11_hasBit (Γ : zG) {Q : Option Value → zM → Prop} (M : zM)   (a1 : Int32) (a2 : Int32) {res : Bool} (hy : (fX_hasBit a1 a2) = res) (hq : Q (some (.int (zb res))) M) : zR Γ 1 YX11_hasBit 0 [(0, .int a1), (1, .int a2)] [] M Q := by
  unfold fX_hasBit at hy
  refine zj_iload_n (pc' := 1) 0 dX11_hasBit_0 rfl rfl rfl ?_
  refine zj_iload_n (pc' := 2) 1 dX11_hasBit_1 rfl rfl rfl ?_
  refine zj_ishr (pc' := 3) dX11_hasBit_2 rfl ?_
  refine zj_iconst (pc' := 4) dX11_hasBit_3 rfl kiconst_1 ?_
  refine zj_iand (pc' := 5) dX11_hasBit_4 rfl ?_
  have HJ1 : zR Γ 1 YX11_hasBit 13 [(0, .int a1), (1, .int a2)] [.int (zb (if ((a1 >>> (a2 &&& 31)) &&& 1) = 0 then false else true))] M Q := by
    subst hy
    exact zj_bret (b := (if ((a1 >>> (a2 &&& 31)) &&& 1) = 0 then false else true)) dX11_hasBit_13 rfl hq
  refine zj_if_eq (tgt := 12) (pc' := 8) dX11_hasBit_5 rfl (by decide) (fun c2 => ?_) (fun c2 => ?_)
  · refine zj_iconst (pc' := 13) dX11_hasBit_12 rfl kiconst_0 ?_
    exact zj_eqb (b := false) (if_pos c2) HJ1
  · refine zj_iconst (pc' := 9) dX11_hasBit_8 rfl kiconst_1 ?_
    refine zj_goto (tgt := 13) dX11_hasBit_9 (by decide) ?_
    exact zj_eqb (b := true) (if_neg c2) HJ1
set_option maxRecDepth 20000 in
theorem LX11_hasBit (Γ : zG) (M : zM)   (a1 : Int32) (a2 : Int32) {res : Bool} (hy : (fX_hasBit a1 a2) = res) : zK Γ 1 YX11_hasBit [.int a1, .int a2] M (fun v N => v = some (.int (zb res)) ∧ N = M) :=
  zK_of (by decide) (Nat.le_of_ble_eq_true rfl) (TX11_hasBit Γ M a1 a2 hy ⟨rfl, rfl⟩)

noncomputable def fDy_lastOfRow_L9 (r0_2 : Nat → Int32) (x2 : Int32) (x3 : Int32) (x4 : Int32) : Option ((Int32 × Int32 × Int32) ⊕ (Int32)) :=
  (if 6 ≤ x4 then
  some (.inr x3)
  else
  (fDy_followedBy r0_2 x3).bind (fun (y13 : Int32) =>
  (if y13 = (-1) then
  some (.inr x3)
  else
  (if (fX_hasBit x2 y13) = true then
  some (.inr x3)
  else
  zlet (x2 ||| ((1 : Int32) <<< (y13 &&& 31))) (fun (x16 : Int32) =>
  zlet (x4 + 1) (fun (x17 : Int32) =>
  some (.inl (x16, y13, x17))))))))
noncomputable def fDy_lastOfRow (r0_2 : Nat → Int32) (a1 : Int32) : Option (Int32) :=
  zlet ((1 : Int32) <<< (a1 &&& 31)) (fun (x1 : Int32) =>
  (zLP (fun s => fDy_lastOfRow_L9 r0_2 s.1 s.2.1 s.2.2) (x1, a1, 0)).bind (fun r7 =>
  some r7))

set_option maxRecDepth 20000 in
theorem TX1_lastOfRow_15 (Γ : zG) {Q : Option Value → zM → Prop} (M : zM) (r0_2 : Nat → Int32) (e_i18 : M.1 18 = r0_2) (a1 : Int32) {res : Int32} (hy : (fDy_lastOfRow r0_2 a1) = some res) (hq : Q (some (.int res)) M) : zR Γ 3 YX1_lastOfRow 0 [(0, .ref (zad Γ 15)), (1, .int a1)] [] M Q := by
  unfold fDy_lastOfRow at hy
  refine zj_iconst (pc' := 1) dX1_lastOfRow_0 rfl kiconst_1 ?_
  refine zj_iload_n (pc' := 2) 1 dX1_lastOfRow_1 rfl rfl rfl ?_
  refine zj_ishl (pc' := 3) dX1_lastOfRow_2 rfl ?_
  refine zj_topi (fun x1 ex1 => ?_)
  have hy := zlet_at ex1 hy
  refine zj_istore_n (pc' := 4) (L' := [(2, .int x1), (0, .ref (zad Γ 15)), (1, .int a1)]) dX1_lastOfRow_3 rfl rfl (by decide) rfl ?_
  refine zj_iload_n (pc' := 5) 2 dX1_lastOfRow_4 rfl rfl rfl ?_
  refine zj_istore_n (pc' := 6) (L' := [(3, .int a1), (2, .int x1), (0, .ref (zad Γ 15)), (1, .int a1)]) dX1_lastOfRow_5 rfl rfl (by decide) rfl ?_
  refine zj_iconst (pc' := 7) dX1_lastOfRow_6 rfl kiconst_0 ?_
  refine zj_istore (pc' := 9) (L' := [(4, .int 0), (3, .int a1), (2, .int x1), (0, .ref (zad Γ 15)), (1, .int a1)]) dX1_lastOfRow_7 rfl (by decide) rfl ?_
  refine zj_loc [3, 2, 1, 0] rfl ?_
  obtain ⟨r7, hr9, hyo8⟩ := zt_b hy
  obtain ⟨n9, hn9⟩ := zLP_some hr9
  have HE5 : ∀ (x18 : Int32), r7 = x18 → zR Γ 3 YX1_lastOfRow 57 [(3, .int x18)] [] M Q := by
    intro x18 e9
    have hy := hyo8
    try rw [e9] at hy
    try dsimp only at hy
    refine zj_iload_n (pc' := 58) 0 dX1_lastOfRow_57 rfl rfl rfl ?_
    have e9 := Option.some.inj hy
    subst e9
    exact zj_iret dX1_lastOfRow_58 rfl hq
  have HL6 : ∀ (n : Nat) (x2 : Int32) (x3 : Int32) (x4 : Int32), zlp (fun s => fDy_lastOfRow_L9 r0_2 s.1 s.2.1 s.2.2) n (x2, x3, x4) = some r7 → zR Γ 3 YX1_lastOfRow 9 [(0, .ref (zad Γ 15)), (2, .int x2), (3, .int x3), (4, .int x4)] [] M Q := by
    intro n
    induction n with
    | zero => intro x2 x3 x4 hn9; cases hn9
    | succ n ih9 =>
      intro x2 x3 x4 hn9
      obtain ⟨o9, hb9, h10, h11⟩ := zlp_step hn9
      have hy : fDy_lastOfRow_L9 r0_2 x2 x3 x4 = some o9 := hb9
      unfold fDy_lastOfRow_L9 at hy
      refine zj_iload (pc' := 11) 3 dX1_lastOfRow_9 rfl rfl ?_
      refine zj_bipush (pc' := 13) dX1_lastOfRow_11 rfl kbipush_6 ?_
      refine zj_icmp_ge (tgt := 57) (pc' := 16) dX1_lastOfRow_13 rfl (by decide) (fun c12 => ?_) (fun c12 => ?_)
      · have hy := zt_t hy c12
        have e9 := h11 _ (Option.some.inj hy).symm
        refine zj_loc [2] rfl ?_
        exact HE5 _ e9.symm
      · have hy := zt_f hy c12
        refine zj_aload_n (pc' := 17) 0 dX1_lastOfRow_16 rfl rfl rfl ?_
        refine zj_iload_n (pc' := 18) 2 dX1_lastOfRow_17 rfl rfl rfl ?_
        obtain ⟨y13, hy13, hy⟩ := zt_b hy
        refine zj_V1 (pc' := 21) (z := YX1_followedBy) (As := [.int x3]) (N := M) dX1_lastOfRow_18 rfl mlX1_69 lkX1_followedBy sh15 ⟨_, _, rfl⟩ rfl rfl (Nat.le_of_ble_eq_true rfl) (Nat.le_of_ble_eq_true rfl) (LX1_followedBy_15 Γ _ r0_2 e_i18 x3 hy13) rfl ?_
        refine zj_istore (pc' := 23) (L' := [(5, .int y13), (0, .ref (zad Γ 15)), (2, .int x2), (3, .int x3), (4, .int x4)]) dX1_lastOfRow_21 rfl (by decide) rfl ?_
        refine zj_iload (pc' := 25) 0 dX1_lastOfRow_23 rfl rfl ?_
        refine zj_iconst (pc' := 26) dX1_lastOfRow_25 rfl kiconst_m1 ?_
        refine zj_icmp_eq (tgt := 57) (pc' := 29) dX1_lastOfRow_26 rfl (by decide) (fun c14 => ?_) (fun c14 => ?_)
        · have hy := zt_t hy c14
          have e9 := h11 _ (Option.some.inj hy).symm
          refine zj_loc [3] rfl ?_
          exact HE5 _ e9.symm
        · have hy := zt_f hy c14
          refine zj_iload_n (pc' := 30) 2 dX1_lastOfRow_29 rfl rfl rfl ?_
          refine zj_iload (pc' := 32) 0 dX1_lastOfRow_30 rfl rfl ?_
          refine zj_N1 (pc' := 35) (z := YX11_hasBit) (As := [.int x2, .int y13]) (N := M) dX1_lastOfRow_32 rfl nlX1_84 lkX11_hasBit rfl rfl (Nat.le_of_ble_eq_true rfl) (Nat.le_of_ble_eq_true rfl) (LX11_hasBit Γ _ x2 y13 rfl) rfl ?_
          refine zj_bif_eq (tgt := 41) (pc' := 38) dX1_lastOfRow_35 rfl (by decide) (fun c15 => ?_) (fun c15 => ?_)
          · have hy := zt_f hy c15
            refine zj_iload_n (pc' := 42) 2 dX1_lastOfRow_41 rfl rfl rfl ?_
            refine zj_iconst (pc' := 43) dX1_lastOfRow_42 rfl kiconst_1 ?_
            refine zj_iload (pc' := 45) 0 dX1_lastOfRow_43 rfl rfl ?_
            refine zj_ishl (pc' := 46) dX1_lastOfRow_45 rfl ?_
            refine zj_ior (pc' := 47) dX1_lastOfRow_46 rfl ?_
            refine zj_topi (fun x16 ex16 => ?_)
            have hy := zlet_at ex16 hy
            refine zj_istore_n (pc' := 48) (L' := [(2, .int x16), (5, .int y13), (0, .ref (zad Γ 15)), (3, .int x3), (4, .int x4)]) dX1_lastOfRow_47 rfl rfl (by decide) rfl ?_
            refine zj_iload (pc' := 50) 1 dX1_lastOfRow_48 rfl rfl ?_
            refine zj_istore_n (pc' := 51) (L' := [(3, .int y13), (2, .int x16), (5, .int y13), (0, .ref (zad Γ 15)), (4, .int x4)]) dX1_lastOfRow_50 rfl rfl (by decide) rfl ?_
            obtain ⟨x17, ex17⟩ : ∃ z : Int32, z = (x4 + 1) := ⟨_, rfl⟩
            have hy := zlet_at ex17 hy
            refine zj_iinc (pc' := 54) 4 (L' := [(4, .int x17), (3, .int y13), (2, .int x16), (5, .int y13), (0, .ref (zad Γ 15))]) dX1_lastOfRow_51 rfl rfl (by decide) (by rw [ci1, ← ex17]; rfl) ?_
            refine zj_goto (tgt := 9) dX1_lastOfRow_54 (by decide) ?_
            have hn9 := h10 _ (Option.some.inj hy).symm
            refine zj_loc [4, 2, 1, 0] rfl ?_
            exact ih9 _ _ _ hn9
          · have hy := zt_t hy c15
            refine zj_goto (tgt := 57) dX1_lastOfRow_38 (by decide) ?_
            have e9 := h11 _ (Option.some.inj hy).symm
            refine zj_loc [3] rfl ?_
            exact HE5 _ e9.symm
  exact HL6 n9 _ _ _ hn9
set_option maxRecDepth 20000 in
theorem LX1_lastOfRow_15 (Γ : zG) (M : zM) (r0_2 : Nat → Int32) (e_i18 : M.1 18 = r0_2) (a1 : Int32) {res : Int32} (hy : (fDy_lastOfRow r0_2 a1) = some res) : zK Γ 3 YX1_lastOfRow [.ref (zad Γ 15), .int a1] M (fun v N => v = some (.int res) ∧ N = M) :=
  zK_of (by decide) (Nat.le_of_ble_eq_true rfl) (TX1_lastOfRow_15 Γ M r0_2 e_i18 a1 hy ⟨rfl, rfl⟩)

noncomputable def fDy_copyFrom (r0 : Nat → Int32) (r0_0 : Nat → Int32) (r0_1 : Nat → Int32) (r0_2 : Nat → Int32) (r0_3 : Nat → Int32) (r0_4 : Nat → Int32) (r0_5 : Nat → Int32) (r0_6 : Nat → Int32) (r0_7 : Nat → Int32) (r1 : Nat → Int32) (r1_0 : Nat → Int32) (r1_1 : Nat → Int32) (r1_2 : Nat → Int32) (r1_3 : Nat → Int32) (r1_4 : Nat → Int32) (r1_5 : Nat → Int32) (r1_6 : Nat → Int32) (r1_7 : Nat → Int32) : Option ((Nat → Int32) × (Nat → Int32) × (Nat → Int32) × (Nat → Int32) × (Nat → Int32) × (Nat → Int32) × (Nat → Int32) × (Nat → Int32) × (Nat → Int32)) :=
  zlet (va_cpy r1_0 r0_0 0 0 36) (fun (r0_0_1 : Nat → Int32) =>
  zlet (va_cpy r1_1 r0_1 0 0 6) (fun (r0_1_2 : Nat → Int32) =>
  zlet (va_cpy r1_2 r0_2 0 0 6) (fun (r0_2_3 : Nat → Int32) =>
  zlet (va_cpy r1_3 r0_3 0 0 6) (fun (r0_3_4 : Nat → Int32) =>
  zlet (va_cpy r1_4 r0_4 0 0 48) (fun (r0_4_5 : Nat → Int32) =>
  zlet (va_cpy r1_5 r0_5 0 0 6) (fun (r0_5_6 : Nat → Int32) =>
  zlet (va_cpy r1_6 r0_6 0 0 8) (fun (r0_6_7 : Nat → Int32) =>
  zlet (va_cpy r1_7 r0_7 0 0 8) (fun (r0_7_8 : Nat → Int32) =>
  zlet (zup r0 9 (r1 9)) (fun (r0_9 : Nat → Int32) =>
  zlet (zup r0_9 10 (r1 10)) (fun (r0_10 : Nat → Int32) =>
  some (r0_10, r0_0_1, r0_1_2, r0_2_3, r0_3_4, r0_4_5, r0_5_6, r0_6_7, r0_7_8)))))))))))

set_option maxRecDepth 20000 in
theorem TX1_copyFrom_25_15 (Γ : zG) {Q : Option Value → zM → Prop} (M : zM) (r0 : Nat → Int32) (r0_0 : Nat → Int32) (r0_1 : Nat → Int32) (r0_2 : Nat → Int32) (r0_3 : Nat → Int32) (r0_4 : Nat → Int32) (r0_5 : Nat → Int32) (r0_6 : Nat → Int32) (r0_7 : Nat → Int32) (r1 : Nat → Int32) (r1_0 : Nat → Int32) (r1_1 : Nat → Int32) (r1_2 : Nat → Int32) (r1_3 : Nat → Int32) (r1_4 : Nat → Int32) (r1_5 : Nat → Int32) (r1_6 : Nat → Int32) (r1_7 : Nat → Int32) (e_i25 : M.1 25 = r0) (e_i26 : M.1 26 = r0_0) (e_i27 : M.1 27 = r0_1) (e_i28 : M.1 28 = r0_2) (e_i29 : M.1 29 = r0_3) (e_i30 : M.1 30 = r0_4) (e_i31 : M.1 31 = r0_5) (e_i32 : M.1 32 = r0_6) (e_i33 : M.1 33 = r0_7) (e_i15 : M.1 15 = r1) (e_i16 : M.1 16 = r1_0) (e_i17 : M.1 17 = r1_1) (e_i18 : M.1 18 = r1_2) (e_i19 : M.1 19 = r1_3) (e_i20 : M.1 20 = r1_4) (e_i21 : M.1 21 = r1_5) (e_i22 : M.1 22 = r1_6) (e_i23 : M.1 23 = r1_7)  {res : (Nat → Int32) × (Nat → Int32) × (Nat → Int32) × (Nat → Int32) × (Nat → Int32) × (Nat → Int32) × (Nat → Int32) × (Nat → Int32) × (Nat → Int32)} (hy : (fDy_copyFrom r0 r0_0 r0_1 r0_2 r0_3 r0_4 r0_5 r0_6 r0_7 r1 r1_0 r1_1 r1_2 r1_3 r1_4 r1_5 r1_6 r1_7) = some res) (hq : Q none (zui (zui (zui (zui (zui (zui (zui (zui (zui M 25 res.1) 26 res.2.1) 27 res.2.2.1) 28 res.2.2.2.1) 29 res.2.2.2.2.1) 30 res.2.2.2.2.2.1) 31 res.2.2.2.2.2.2.1) 32 res.2.2.2.2.2.2.2.1) 33 res.2.2.2.2.2.2.2.2)) : zR Γ 2 YX1_copyFrom 0 [(0, .ref (zad Γ 25)), (1, .ref (zad Γ 15))] [] M Q := by
  unfold fDy_copyFrom at hy
  refine zj_aload_n (pc' := 1) 1 dX1_copyFrom_0 rfl rfl rfl ?_
  refine zj_getR (pc' := 4) (j := 16) dX1_copyFrom_1 rfl flX1_9 sh15 rfl ?_
  refine zj_iconst (pc' := 5) dX1_copyFrom_4 rfl kiconst_0 ?_
  refine zj_aload_n (pc' := 6) 0 dX1_copyFrom_5 rfl rfl rfl ?_
  refine zj_getR (pc' := 9) (j := 26) dX1_copyFrom_6 rfl flX1_9 sh25 rfl ?_
  refine zj_iconst (pc' := 10) dX1_copyFrom_9 rfl kiconst_0 ?_
  refine zj_bipush (pc' := 12) dX1_copyFrom_10 rfl kbipush_36 ?_
  obtain ⟨r0_0_1, er0_0_1⟩ : ∃ z, z = (va_cpy r1_0 r0_0 0 0 36) := ⟨_, rfl⟩
  have hy := zlet_at er0_0_1 hy
  refine zj_cpI (pc' := 15) (N := (zui M 26 r0_0_1)) dX1_copyFrom_12 rfl mlX1_52 zcpw sh16 sh26 tn0 tn0 tn36 (by decide) (by decide) (Nat.le_of_ble_eq_true rfl) (Nat.le_of_ble_eq_true rfl) e_i16 e_i26 er0_0_1 rfl (Nat.le_of_ble_eq_true rfl) (Nat.le_of_ble_eq_true rfl) ?_
  refine zj_aload_n (pc' := 16) 1 dX1_copyFrom_15 rfl rfl rfl ?_
  refine zj_getR (pc' := 19) (j := 17) dX1_copyFrom_16 rfl flX1_15 sh15 rfl ?_
  refine zj_iconst (pc' := 20) dX1_copyFrom_19 rfl kiconst_0 ?_
  refine zj_aload_n (pc' := 21) 0 dX1_copyFrom_20 rfl rfl rfl ?_
  refine zj_getR (pc' := 24) (j := 27) dX1_copyFrom_21 rfl flX1_15 sh25 rfl ?_
  refine zj_iconst (pc' := 25) dX1_copyFrom_24 rfl kiconst_0 ?_
  refine zj_bipush (pc' := 27) dX1_copyFrom_25 rfl kbipush_6 ?_
  obtain ⟨r0_1_2, er0_1_2⟩ : ∃ z, z = (va_cpy r1_1 r0_1 0 0 6) := ⟨_, rfl⟩
  have hy := zlet_at er0_1_2 hy
  refine zj_cpI (pc' := 30) (N := (zui (zui M 26 r0_0_1) 27 r0_1_2)) dX1_copyFrom_27 rfl mlX1_52 zcpw sh17 sh27 tn0 tn0 tn6 (by decide) (by decide) (Nat.le_of_ble_eq_true rfl) (Nat.le_of_ble_eq_true rfl) (zr_n rfl e_i17) (zr_n rfl e_i27) er0_1_2 rfl (Nat.le_of_ble_eq_true rfl) (Nat.le_of_ble_eq_true rfl) ?_
  refine zj_aload_n (pc' := 31) 1 dX1_copyFrom_30 rfl rfl rfl ?_
  refine zj_getR (pc' := 34) (j := 18) dX1_copyFrom_31 rfl flX1_18 sh15 rfl ?_
  refine zj_iconst (pc' := 35) dX1_copyFrom_34 rfl kiconst_0 ?_
  refine zj_aload_n (pc' := 36) 0 dX1_copyFrom_35 rfl rfl rfl ?_
  refine zj_getR (pc' := 39) (j := 28) dX1_copyFrom_36 rfl flX1_18 sh25 rfl ?_
  refine zj_iconst (pc' := 40) dX1_copyFrom_39 rfl kiconst_0 ?_
  refine zj_bipush (pc' := 42) dX1_copyFrom_40 rfl kbipush_6 ?_
  obtain ⟨r0_2_3, er0_2_3⟩ : ∃ z, z = (va_cpy r1_2 r0_2 0 0 6) := ⟨_, rfl⟩
  have hy := zlet_at er0_2_3 hy
  refine zj_cpI (pc' := 45) (N := (zui (zui (zui M 26 r0_0_1) 27 r0_1_2) 28 r0_2_3)) dX1_copyFrom_42 rfl mlX1_52 zcpw sh18 sh28 tn0 tn0 tn6 (by decide) (by decide) (Nat.le_of_ble_eq_true rfl) (Nat.le_of_ble_eq_true rfl) (zr_n rfl (zr_n rfl e_i18)) (zr_n rfl (zr_n rfl e_i28)) er0_2_3 rfl (Nat.le_of_ble_eq_true rfl) (Nat.le_of_ble_eq_true rfl) ?_
  refine zj_aload_n (pc' := 46) 1 dX1_copyFrom_45 rfl rfl rfl ?_
  refine zj_getR (pc' := 49) (j := 19) dX1_copyFrom_46 rfl flX1_21 sh15 rfl ?_
  refine zj_iconst (pc' := 50) dX1_copyFrom_49 rfl kiconst_0 ?_
  refine zj_aload_n (pc' := 51) 0 dX1_copyFrom_50 rfl rfl rfl ?_
  refine zj_getR (pc' := 54) (j := 29) dX1_copyFrom_51 rfl flX1_21 sh25 rfl ?_
  refine zj_iconst (pc' := 55) dX1_copyFrom_54 rfl kiconst_0 ?_
  refine zj_bipush (pc' := 57) dX1_copyFrom_55 rfl kbipush_6 ?_
  obtain ⟨r0_3_4, er0_3_4⟩ : ∃ z, z = (va_cpy r1_3 r0_3 0 0 6) := ⟨_, rfl⟩
  have hy := zlet_at er0_3_4 hy
  refine zj_cpI (pc' := 60) (N := (zui (zui (zui (zui M 26 r0_0_1) 27 r0_1_2) 28 r0_2_3) 29 r0_3_4)) dX1_copyFrom_57 rfl mlX1_52 zcpw sh19 sh29 tn0 tn0 tn6 (by decide) (by decide) (Nat.le_of_ble_eq_true rfl) (Nat.le_of_ble_eq_true rfl) (zr_n rfl (zr_n rfl (zr_n rfl e_i19))) (zr_n rfl (zr_n rfl (zr_n rfl e_i29))) er0_3_4 rfl (Nat.le_of_ble_eq_true rfl) (Nat.le_of_ble_eq_true rfl) ?_
  refine zj_aload_n (pc' := 61) 1 dX1_copyFrom_60 rfl rfl rfl ?_
  refine zj_getR (pc' := 64) (j := 20) dX1_copyFrom_61 rfl flX1_24 sh15 rfl ?_
  refine zj_iconst (pc' := 65) dX1_copyFrom_64 rfl kiconst_0 ?_
  refine zj_aload_n (pc' := 66) 0 dX1_copyFrom_65 rfl rfl rfl ?_
  refine zj_getR (pc' := 69) (j := 30) dX1_copyFrom_66 rfl flX1_24 sh25 rfl ?_
  refine zj_iconst (pc' := 70) dX1_copyFrom_69 rfl kiconst_0 ?_
  refine zj_bipush (pc' := 72) dX1_copyFrom_70 rfl kbipush_48 ?_
  obtain ⟨r0_4_5, er0_4_5⟩ : ∃ z, z = (va_cpy r1_4 r0_4 0 0 48) := ⟨_, rfl⟩
  have hy := zlet_at er0_4_5 hy
  refine zj_cpI (pc' := 75) (N := (zui (zui (zui (zui (zui M 26 r0_0_1) 27 r0_1_2) 28 r0_2_3) 29 r0_3_4) 30 r0_4_5)) dX1_copyFrom_72 rfl mlX1_52 zcpw sh20 sh30 tn0 tn0 tn48 (by decide) (by decide) (Nat.le_of_ble_eq_true rfl) (Nat.le_of_ble_eq_true rfl) (zr_n rfl (zr_n rfl (zr_n rfl (zr_n rfl e_i20)))) (zr_n rfl (zr_n rfl (zr_n rfl (zr_n rfl e_i30)))) er0_4_5 rfl (Nat.le_of_ble_eq_true rfl) (Nat.le_of_ble_eq_true rfl) ?_
  refine zj_aload_n (pc' := 76) 1 dX1_copyFrom_75 rfl rfl rfl ?_
  refine zj_getR (pc' := 79) (j := 21) dX1_copyFrom_76 rfl flX1_27 sh15 rfl ?_
  refine zj_iconst (pc' := 80) dX1_copyFrom_79 rfl kiconst_0 ?_
  refine zj_aload_n (pc' := 81) 0 dX1_copyFrom_80 rfl rfl rfl ?_
  refine zj_getR (pc' := 84) (j := 31) dX1_copyFrom_81 rfl flX1_27 sh25 rfl ?_
  refine zj_iconst (pc' := 85) dX1_copyFrom_84 rfl kiconst_0 ?_
  refine zj_bipush (pc' := 87) dX1_copyFrom_85 rfl kbipush_6 ?_
  obtain ⟨r0_5_6, er0_5_6⟩ : ∃ z, z = (va_cpy r1_5 r0_5 0 0 6) := ⟨_, rfl⟩
  have hy := zlet_at er0_5_6 hy
  refine zj_cpI (pc' := 90) (N := (zui (zui (zui (zui (zui (zui M 26 r0_0_1) 27 r0_1_2) 28 r0_2_3) 29 r0_3_4) 30 r0_4_5) 31 r0_5_6)) dX1_copyFrom_87 rfl mlX1_52 zcpw sh21 sh31 tn0 tn0 tn6 (by decide) (by decide) (Nat.le_of_ble_eq_true rfl) (Nat.le_of_ble_eq_true rfl) (zr_n rfl (zr_n rfl (zr_n rfl (zr_n rfl (zr_n rfl e_i21))))) (zr_n rfl (zr_n rfl (zr_n rfl (zr_n rfl (zr_n rfl e_i31))))) er0_5_6 rfl (Nat.le_of_ble_eq_true rfl) (Nat.le_of_ble_eq_true rfl) ?_
  refine zj_aload_n (pc' := 91) 1 dX1_copyFrom_90 rfl rfl rfl ?_
  refine zj_getR (pc' := 94) (j := 22) dX1_copyFrom_91 rfl flX1_30 sh15 rfl ?_
  refine zj_iconst (pc' := 95) dX1_copyFrom_94 rfl kiconst_0 ?_
  refine zj_aload_n (pc' := 96) 0 dX1_copyFrom_95 rfl rfl rfl ?_
  refine zj_getR (pc' := 99) (j := 32) dX1_copyFrom_96 rfl flX1_30 sh25 rfl ?_
  refine zj_iconst (pc' := 100) dX1_copyFrom_99 rfl kiconst_0 ?_
  refine zj_bipush (pc' := 102) dX1_copyFrom_100 rfl kbipush_8 ?_
  obtain ⟨r0_6_7, er0_6_7⟩ : ∃ z, z = (va_cpy r1_6 r0_6 0 0 8) := ⟨_, rfl⟩
  have hy := zlet_at er0_6_7 hy
  refine zj_cpI (pc' := 105) (N := (zui (zui (zui (zui (zui (zui (zui M 26 r0_0_1) 27 r0_1_2) 28 r0_2_3) 29 r0_3_4) 30 r0_4_5) 31 r0_5_6) 32 r0_6_7)) dX1_copyFrom_102 rfl mlX1_52 zcpw sh22 sh32 tn0 tn0 tn8 (by decide) (by decide) (Nat.le_of_ble_eq_true rfl) (Nat.le_of_ble_eq_true rfl) (zr_n rfl (zr_n rfl (zr_n rfl (zr_n rfl (zr_n rfl (zr_n rfl e_i22)))))) (zr_n rfl (zr_n rfl (zr_n rfl (zr_n rfl (zr_n rfl (zr_n rfl e_i32)))))) er0_6_7 rfl (Nat.le_of_ble_eq_true rfl) (Nat.le_of_ble_eq_true rfl) ?_
  refine zj_aload_n (pc' := 106) 1 dX1_copyFrom_105 rfl rfl rfl ?_
  refine zj_getR (pc' := 109) (j := 23) dX1_copyFrom_106 rfl flX1_33 sh15 rfl ?_
  refine zj_iconst (pc' := 110) dX1_copyFrom_109 rfl kiconst_0 ?_
  refine zj_aload_n (pc' := 111) 0 dX1_copyFrom_110 rfl rfl rfl ?_
  refine zj_getR (pc' := 114) (j := 33) dX1_copyFrom_111 rfl flX1_33 sh25 rfl ?_
  refine zj_iconst (pc' := 115) dX1_copyFrom_114 rfl kiconst_0 ?_
  refine zj_bipush (pc' := 117) dX1_copyFrom_115 rfl kbipush_8 ?_
  obtain ⟨r0_7_8, er0_7_8⟩ : ∃ z, z = (va_cpy r1_7 r0_7 0 0 8) := ⟨_, rfl⟩
  have hy := zlet_at er0_7_8 hy
  refine zj_cpI (pc' := 120) (N := (zui (zui (zui (zui (zui (zui (zui (zui M 26 r0_0_1) 27 r0_1_2) 28 r0_2_3) 29 r0_3_4) 30 r0_4_5) 31 r0_5_6) 32 r0_6_7) 33 r0_7_8)) dX1_copyFrom_117 rfl mlX1_52 zcpw sh23 sh33 tn0 tn0 tn8 (by decide) (by decide) (Nat.le_of_ble_eq_true rfl) (Nat.le_of_ble_eq_true rfl) (zr_n rfl (zr_n rfl (zr_n rfl (zr_n rfl (zr_n rfl (zr_n rfl (zr_n rfl e_i23))))))) (zr_n rfl (zr_n rfl (zr_n rfl (zr_n rfl (zr_n rfl (zr_n rfl (zr_n rfl e_i33))))))) er0_7_8 rfl (Nat.le_of_ble_eq_true rfl) (Nat.le_of_ble_eq_true rfl) ?_
  refine zj_aload_n (pc' := 121) 0 dX1_copyFrom_120 rfl rfl rfl ?_
  refine zj_aload_n (pc' := 122) 1 dX1_copyFrom_121 rfl rfl rfl ?_
  refine zj_fI (pc' := 125) dX1_copyFrom_122 rfl flX1_45 sh15 rfl (zr_n rfl (zr_n rfl (zr_n rfl (zr_n rfl (zr_n rfl (zr_n rfl (zr_n rfl (zr_n rfl e_i15)))))))) rfl ?_
  obtain ⟨r0_9, er0_9⟩ : ∃ z, z = (zup r0 9 (r1 9)) := ⟨_, rfl⟩
  have hy := zlet_at er0_9 hy
  refine zj_pI (pc' := 128) (N := (zui (zui (zui (zui (zui (zui (zui (zui (zui M 25 r0_9) 26 r0_0_1) 27 r0_1_2) 28 r0_2_3) 29 r0_3_4) 30 r0_4_5) 31 r0_5_6) 32 r0_6_7) 33 r0_7_8)) dX1_copyFrom_125 rfl fpX1_45 sh25 rfl (zr_n rfl (zr_n rfl (zr_n rfl (zr_n rfl (zr_n rfl (zr_n rfl (zr_n rfl (zr_n rfl e_i25)))))))) er0_9 (zm_n rfl (zm_n rfl (zm_n rfl (zm_n rfl (zm_n rfl (zm_n rfl (zm_n rfl (zm_n rfl rfl)))))))) ?_
  refine zj_aload_n (pc' := 129) 0 dX1_copyFrom_128 rfl rfl rfl ?_
  refine zj_aload_n (pc' := 130) 1 dX1_copyFrom_129 rfl rfl rfl ?_
  refine zj_fI (pc' := 133) dX1_copyFrom_130 rfl flX1_49 sh15 rfl (zr_n rfl (zr_n rfl (zr_n rfl (zr_n rfl (zr_n rfl (zr_n rfl (zr_n rfl (zr_n rfl (zr_n rfl e_i15))))))))) rfl ?_
  obtain ⟨r0_10, er0_10⟩ : ∃ z, z = (zup r0_9 10 (r1 10)) := ⟨_, rfl⟩
  have hy := zlet_at er0_10 hy
  refine zj_pI (pc' := 136) (N := (zui (zui (zui (zui (zui (zui (zui (zui (zui M 25 r0_10) 26 r0_0_1) 27 r0_1_2) 28 r0_2_3) 29 r0_3_4) 30 r0_4_5) 31 r0_5_6) 32 r0_6_7) 33 r0_7_8)) dX1_copyFrom_133 rfl fpX1_49 sh25 rfl (zr_n rfl (zr_n rfl (zr_n rfl (zr_n rfl (zr_n rfl (zr_n rfl (zr_n rfl (zr_n rfl zr_s)))))))) er0_10 (zm_n rfl (zm_n rfl (zm_n rfl (zm_n rfl (zm_n rfl (zm_n rfl (zm_n rfl (zm_n rfl zm_s)))))))) ?_
  have e9 := Option.some.inj hy
  subst e9
  exact zj_vret dX1_copyFrom_136 rfl hq
set_option maxRecDepth 20000 in
theorem LX1_copyFrom_25_15 (Γ : zG) (M : zM) (r0 : Nat → Int32) (r0_0 : Nat → Int32) (r0_1 : Nat → Int32) (r0_2 : Nat → Int32) (r0_3 : Nat → Int32) (r0_4 : Nat → Int32) (r0_5 : Nat → Int32) (r0_6 : Nat → Int32) (r0_7 : Nat → Int32) (r1 : Nat → Int32) (r1_0 : Nat → Int32) (r1_1 : Nat → Int32) (r1_2 : Nat → Int32) (r1_3 : Nat → Int32) (r1_4 : Nat → Int32) (r1_5 : Nat → Int32) (r1_6 : Nat → Int32) (r1_7 : Nat → Int32) (e_i25 : M.1 25 = r0) (e_i26 : M.1 26 = r0_0) (e_i27 : M.1 27 = r0_1) (e_i28 : M.1 28 = r0_2) (e_i29 : M.1 29 = r0_3) (e_i30 : M.1 30 = r0_4) (e_i31 : M.1 31 = r0_5) (e_i32 : M.1 32 = r0_6) (e_i33 : M.1 33 = r0_7) (e_i15 : M.1 15 = r1) (e_i16 : M.1 16 = r1_0) (e_i17 : M.1 17 = r1_1) (e_i18 : M.1 18 = r1_2) (e_i19 : M.1 19 = r1_3) (e_i20 : M.1 20 = r1_4) (e_i21 : M.1 21 = r1_5) (e_i22 : M.1 22 = r1_6) (e_i23 : M.1 23 = r1_7)  {res : (Nat → Int32) × (Nat → Int32) × (Nat → Int32) × (Nat → Int32) × (Nat → Int32) × (Nat → Int32) × (Nat → Int32) × (Nat → Int32) × (Nat → Int32)} (hy : (fDy_copyFrom r0 r0_0 r0_1 r0_2 r0_3 r0_4 r0_5 r0_6 r0_7 r1 r1_0 r1_1 r1_2 r1_3 r1_4 r1_5 r1_6 r1_7) = some res) : zK Γ 2 YX1_copyFrom [.ref (zad Γ 25), .ref (zad Γ 15)] M (fun v N => v = none ∧ N = (zui (zui (zui (zui (zui (zui (zui (zui (zui M 25 res.1) 26 res.2.1) 27 res.2.2.1) 28 res.2.2.2.1) 29 res.2.2.2.2.1) 30 res.2.2.2.2.2.1) 31 res.2.2.2.2.2.2.1) 32 res.2.2.2.2.2.2.2.1) 33 res.2.2.2.2.2.2.2.2)) :=
  zK_of (by decide) (Nat.le_of_ble_eq_true rfl) (TX1_copyFrom_25_15 Γ M r0 r0_0 r0_1 r0_2 r0_3 r0_4 r0_5 r0_6 r0_7 r1 r1_0 r1_1 r1_2 r1_3 r1_4 r1_5 r1_6 r1_7 e_i25 e_i26 e_i27 e_i28 e_i29 e_i30 e_i31 e_i32 e_i33 e_i15 e_i16 e_i17 e_i18 e_i19 e_i20 e_i21 e_i22 e_i23 hy ⟨rfl, rfl⟩)


set_option maxRecDepth 20000 in
theorem TX1_wasAt_25 (Γ : zG) {Q : Option Value → zM → Prop} (M : zM) (r0_0 : Nat → Int32) (e_i26 : M.1 26 = r0_0) (a1 : Int32) (a2 : Int32) {res : Int32} (hy : (fDy_wasAt r0_0 a1 a2) = some res) (hq : Q (some (.int res)) M) : zR Γ 2 YX1_wasAt 0 [(0, .ref (zad Γ 25)), (1, .int a1), (2, .int a2)] [] M Q := by
  unfold fDy_wasAt at hy
  refine zj_iload_n (pc' := 1) 1 dX1_wasAt_0 rfl rfl rfl ?_
  refine zj_S1 (pc' := 4) (z := YX1_mayBe) (As := [.int a1]) (N := M) dX1_wasAt_1 rfl mlX1_58 lkX1_mayBe rfl rfl (Nat.le_of_ble_eq_true rfl) (Nat.le_of_ble_eq_true rfl) (LX1_mayBe Γ _ a1 rfl) rfl ?_
  refine zj_bif_eq (tgt := 31) (pc' := 7) dX1_wasAt_4 rfl (by decide) (fun c1 => ?_) (fun c1 => ?_)
  · have hy := zt_f hy c1
    refine zj_iconst (pc' := 32) dX1_wasAt_31 rfl kiconst_m1 ?_
    have e9 := Option.some.inj hy
    subst e9
    exact zj_iret dX1_wasAt_32 rfl hq
  · have hy := zt_t hy c1
    refine zj_iload_n (pc' := 8) 2 dX1_wasAt_7 rfl rfl rfl ?_
    refine zj_if_lt (tgt := 31) (pc' := 11) dX1_wasAt_8 rfl (by decide) (fun c2 => ?_) (fun c2 => ?_)
    · have hy := zt_t hy c2
      refine zj_iconst (pc' := 32) dX1_wasAt_31 rfl kiconst_m1 ?_
      have e9 := Option.some.inj hy
      subst e9
      exact zj_iret dX1_wasAt_32 rfl hq
    · have hy := zt_f hy c2
      refine zj_iload_n (pc' := 12) 2 dX1_wasAt_11 rfl rfl rfl ?_
      refine zj_bipush (pc' := 14) dX1_wasAt_12 rfl kbipush_6 ?_
      refine zj_icmp_ge (tgt := 31) (pc' := 17) dX1_wasAt_14 rfl (by decide) (fun c3 => ?_) (fun c3 => ?_)
      · have hy := zt_t hy c3
        refine zj_iconst (pc' := 32) dX1_wasAt_31 rfl kiconst_m1 ?_
        have e9 := Option.some.inj hy
        subst e9
        exact zj_iret dX1_wasAt_32 rfl hq
      · have hy := zt_f hy c3
        refine zj_aload_n (pc' := 18) 0 dX1_wasAt_17 rfl rfl rfl ?_
        refine zj_getR (pc' := 21) (j := 26) dX1_wasAt_18 rfl flX1_9 sh25 rfl ?_
        refine zj_iload_n (pc' := 22) 1 dX1_wasAt_21 rfl rfl rfl ?_
        refine zj_bipush (pc' := 24) dX1_wasAt_22 rfl kbipush_6 ?_
        refine zj_imul (pc' := 25) dX1_wasAt_24 rfl ?_
        refine zj_iload_n (pc' := 26) 2 dX1_wasAt_25 rfl rfl rfl ?_
        refine zj_iadd (pc' := 27) dX1_wasAt_26 rfl ?_
        obtain ⟨v4, hv4, hy⟩ := zt_b hy
        refine zj_rdi (pc' := 28) dX1_wasAt_27 rfl sh26 e_i26 hv4 ?_
        refine zj_goto (tgt := 32) dX1_wasAt_28 (by decide) ?_
        have e9 := Option.some.inj hy
        subst e9
        exact zj_iret dX1_wasAt_32 rfl hq
set_option maxRecDepth 20000 in
theorem LX1_wasAt_25 (Γ : zG) (M : zM) (r0_0 : Nat → Int32) (e_i26 : M.1 26 = r0_0) (a1 : Int32) (a2 : Int32) {res : Int32} (hy : (fDy_wasAt r0_0 a1 a2) = some res) : zK Γ 2 YX1_wasAt [.ref (zad Γ 25), .int a1, .int a2] M (fun v N => v = some (.int res) ∧ N = M) :=
  zK_of (by decide) (Nat.le_of_ble_eq_true rfl) (TX1_wasAt_25 Γ M r0_0 e_i26 a1 a2 hy ⟨rfl, rfl⟩)

noncomputable def fDy_whereIs (r0_0 : Nat → Int32) (a1 : Int32) : Option (Int32) :=
  (fDy_wasAt r0_0 a1 0).bind (fun (y1 : Int32) =>
  some y1)

set_option maxRecDepth 20000 in
theorem TX1_whereIs_25 (Γ : zG) {Q : Option Value → zM → Prop} (M : zM) (r0_0 : Nat → Int32) (e_i26 : M.1 26 = r0_0) (a1 : Int32) {res : Int32} (hy : (fDy_whereIs r0_0 a1) = some res) (hq : Q (some (.int res)) M) : zR Γ 3 YX1_whereIs 0 [(0, .ref (zad Γ 25)), (1, .int a1)] [] M Q := by
  unfold fDy_whereIs at hy
  refine zj_aload_n (pc' := 1) 0 dX1_whereIs_0 rfl rfl rfl ?_
  refine zj_iload_n (pc' := 2) 1 dX1_whereIs_1 rfl rfl rfl ?_
  refine zj_iconst (pc' := 3) dX1_whereIs_2 rfl kiconst_0 ?_
  obtain ⟨y1, hy1, hy⟩ := zt_b hy
  refine zj_V1 (pc' := 6) (z := YX1_wasAt) (As := [.int a1, .int 0]) (N := M) dX1_whereIs_3 rfl mlX1_62 lkX1_wasAt sh25 ⟨_, _, rfl⟩ rfl rfl (Nat.le_of_ble_eq_true rfl) (Nat.le_of_ble_eq_true rfl) (LX1_wasAt_25 Γ _ r0_0 e_i26 a1 0 hy1) rfl ?_
  have e9 := Option.some.inj hy
  subst e9
  exact zj_iret dX1_whereIs_6 rfl hq
set_option maxRecDepth 20000 in
theorem LX1_whereIs_25 (Γ : zG) (M : zM) (r0_0 : Nat → Int32) (e_i26 : M.1 26 = r0_0) (a1 : Int32) {res : Int32} (hy : (fDy_whereIs r0_0 a1) = some res) : zK Γ 3 YX1_whereIs [.ref (zad Γ 25), .int a1] M (fun v N => v = some (.int res) ∧ N = M) :=
  zK_of (by decide) (Nat.le_of_ble_eq_true rfl) (TX1_whereIs_25 Γ M r0_0 e_i26 a1 hy ⟨rfl, rfl⟩)

noncomputable def fPl_hasCorner (r0 : Nat → Int32) (a1 : Int32) : Bool :=
  (if a1 < 0 then false else (if (r0 4) ≤ a1 then false else (if 8 ≤ a1 then false else true)))

set_option maxRecDepth 20000 in
theorem TX7_hasCorner_5 (Γ : zG) {Q : Option Value → zM → Prop} (M : zM) (r0 : Nat → Int32) (e_i5 : M.1 5 = r0) (a1 : Int32) {res : Bool} (hy : (fPl_hasCorner r0 a1) = res) (hq : Q (some (.int (zb res))) M) : zR Γ 1 YX7_hasCorner 0 [(0, .ref (zad Γ 5)), (1, .int a1)] [] M Q := by
  unfold fPl_hasCorner at hy
  refine zj_iload_n (pc' := 1) 1 dX7_hasCorner_0 rfl rfl rfl ?_
  have HJ1 : zR Γ 1 YX7_hasCorner 23 [(0, .ref (zad Γ 5)), (1, .int a1)] [.int (zb (if a1 < 0 then false else (if (r0 4) ≤ a1 then false else (if 8 ≤ a1 then false else true))))] M Q := by
    subst hy
    exact zj_bret (b := (if a1 < 0 then false else (if (r0 4) ≤ a1 then false else (if 8 ≤ a1 then false else true)))) dX7_hasCorner_23 rfl hq
  refine zj_if_lt (tgt := 22) (pc' := 4) dX7_hasCorner_1 rfl (by decide) (fun c2 => ?_) (fun c2 => ?_)
  · refine zj_iconst (pc' := 23) dX7_hasCorner_22 rfl kiconst_0 ?_
    exact zj_eqb (b := false) (if_pos c2) HJ1
  · refine zj_iload_n (pc' := 5) 1 dX7_hasCorner_4 rfl rfl rfl ?_
    refine zj_aload_n (pc' := 6) 0 dX7_hasCorner_5 rfl rfl rfl ?_
    refine zj_fI (pc' := 9) dX7_hasCorner_6 rfl flX7_25 sh5 rfl e_i5 rfl ?_
    refine zj_icmp_ge (tgt := 22) (pc' := 12) dX7_hasCorner_9 rfl (by decide) (fun c3 => ?_) (fun c3 => ?_)
    · refine zj_iconst (pc' := 23) dX7_hasCorner_22 rfl kiconst_0 ?_
      exact zj_eqb (b := false) ((if_neg c2).trans (if_pos c3)) HJ1
    · refine zj_iload_n (pc' := 13) 1 dX7_hasCorner_12 rfl rfl rfl ?_
      refine zj_bipush (pc' := 15) dX7_hasCorner_13 rfl kbipush_8 ?_
      refine zj_icmp_ge (tgt := 22) (pc' := 18) dX7_hasCorner_15 rfl (by decide) (fun c4 => ?_) (fun c4 => ?_)
      · refine zj_iconst (pc' := 23) dX7_hasCorner_22 rfl kiconst_0 ?_
        exact zj_eqb (b := false) (((if_neg c2).trans (if_neg c3)).trans (if_pos c4)) HJ1
      · refine zj_iconst (pc' := 19) dX7_hasCorner_18 rfl kiconst_1 ?_
        refine zj_goto (tgt := 23) dX7_hasCorner_19 (by decide) ?_
        exact zj_eqb (b := true) (((if_neg c2).trans (if_neg c3)).trans (if_neg c4)) HJ1
set_option maxRecDepth 20000 in
theorem LX7_hasCorner_5 (Γ : zG) (M : zM) (r0 : Nat → Int32) (e_i5 : M.1 5 = r0) (a1 : Int32) {res : Bool} (hy : (fPl_hasCorner r0 a1) = res) : zK Γ 1 YX7_hasCorner [.ref (zad Γ 5), .int a1] M (fun v N => v = some (.int (zb res)) ∧ N = M) :=
  zK_of (by decide) (Nat.le_of_ble_eq_true rfl) (TX7_hasCorner_5 Γ M r0 e_i5 a1 hy ⟨rfl, rfl⟩)

noncomputable def fPl_farFrom (r0 : Nat → Int32) (r0_3 : Nat → Int32) (a1 : Int32) (a2 : Int32) : Option (Int32) :=
  (if (fPl_hasCorner r0 a1) = true then
  (if (fPl_hasCorner r0 a2) = true then
  (zrd r0_3 64 ((a1 * 8) + a2)).bind (fun (v3 : Int32) =>
  some v3)
  else
  some (-1))
  else
  some (-1))

set_option maxRecDepth 20000 in
theorem TX7_farFrom_5 (Γ : zG) {Q : Option Value → zM → Prop} (M : zM) (r0 : Nat → Int32) (r0_3 : Nat → Int32) (e_i5 : M.1 5 = r0) (e_i9 : M.1 9 = r0_3) (a1 : Int32) (a2 : Int32) {res : Int32} (hy : (fPl_farFrom r0 r0_3 a1 a2) = some res) (hq : Q (some (.int res)) M) : zR Γ 2 YX7_farFrom 0 [(0, .ref (zad Γ 5)), (1, .int a1), (2, .int a2)] [] M Q := by
  unfold fPl_farFrom at hy
  refine zj_aload_n (pc' := 1) 0 dX7_farFrom_0 rfl rfl rfl ?_
  refine zj_iload_n (pc' := 2) 1 dX7_farFrom_1 rfl rfl rfl ?_
  refine zj_V1 (pc' := 5) (z := YX7_hasCorner) (As := [.int a1]) (N := M) dX7_farFrom_2 rfl mlX7_35 lkX7_hasCorner sh5 ⟨_, _, rfl⟩ rfl rfl (Nat.le_of_ble_eq_true rfl) (Nat.le_of_ble_eq_true rfl) (LX7_hasCorner_5 Γ _ r0 e_i5 a1 rfl) rfl ?_
  refine zj_bif_eq (tgt := 30) (pc' := 8) dX7_farFrom_5 rfl (by decide) (fun c1 => ?_) (fun c1 => ?_)
  · have hy := zt_f hy c1
    refine zj_iconst (pc' := 31) dX7_farFrom_30 rfl kiconst_m1 ?_
    have e9 := Option.some.inj hy
    subst e9
    exact zj_iret dX7_farFrom_31 rfl hq
  · have hy := zt_t hy c1
    refine zj_aload_n (pc' := 9) 0 dX7_farFrom_8 rfl rfl rfl ?_
    refine zj_iload_n (pc' := 10) 2 dX7_farFrom_9 rfl rfl rfl ?_
    refine zj_V1 (pc' := 13) (z := YX7_hasCorner) (As := [.int a2]) (N := M) dX7_farFrom_10 rfl mlX7_35 lkX7_hasCorner sh5 ⟨_, _, rfl⟩ rfl rfl (Nat.le_of_ble_eq_true rfl) (Nat.le_of_ble_eq_true rfl) (LX7_hasCorner_5 Γ _ r0 e_i5 a2 rfl) rfl ?_
    refine zj_bif_eq (tgt := 30) (pc' := 16) dX7_farFrom_13 rfl (by decide) (fun c2 => ?_) (fun c2 => ?_)
    · have hy := zt_f hy c2
      refine zj_iconst (pc' := 31) dX7_farFrom_30 rfl kiconst_m1 ?_
      have e9 := Option.some.inj hy
      subst e9
      exact zj_iret dX7_farFrom_31 rfl hq
    · have hy := zt_t hy c2
      refine zj_aload_n (pc' := 17) 0 dX7_farFrom_16 rfl rfl rfl ?_
      refine zj_getR (pc' := 20) (j := 9) dX7_farFrom_17 rfl flX7_22 sh5 rfl ?_
      refine zj_iload_n (pc' := 21) 1 dX7_farFrom_20 rfl rfl rfl ?_
      refine zj_bipush (pc' := 23) dX7_farFrom_21 rfl kbipush_8 ?_
      refine zj_imul (pc' := 24) dX7_farFrom_23 rfl ?_
      refine zj_iload_n (pc' := 25) 2 dX7_farFrom_24 rfl rfl rfl ?_
      refine zj_iadd (pc' := 26) dX7_farFrom_25 rfl ?_
      obtain ⟨v3, hv3, hy⟩ := zt_b hy
      refine zj_rdi (pc' := 27) dX7_farFrom_26 rfl sh9 e_i9 hv3 ?_
      refine zj_goto (tgt := 31) dX7_farFrom_27 (by decide) ?_
      have e9 := Option.some.inj hy
      subst e9
      exact zj_iret dX7_farFrom_31 rfl hq
set_option maxRecDepth 20000 in
theorem LX7_farFrom_5 (Γ : zG) (M : zM) (r0 : Nat → Int32) (r0_3 : Nat → Int32) (e_i5 : M.1 5 = r0) (e_i9 : M.1 9 = r0_3) (a1 : Int32) (a2 : Int32) {res : Int32} (hy : (fPl_farFrom r0 r0_3 a1 a2) = some res) : zK Γ 2 YX7_farFrom [.ref (zad Γ 5), .int a1, .int a2] M (fun v N => v = some (.int res) ∧ N = M) :=
  zK_of (by decide) (Nat.le_of_ble_eq_true rfl) (TX7_farFrom_5 Γ M r0 r0_3 e_i5 e_i9 a1 a2 hy ⟨rfl, rfl⟩)

noncomputable def fPl_besideOf (r0 : Nat → Int32) (r0_2 : Nat → Int32) (a1 : Int32) : Option (Int32) :=
  (if (fPl_hasCorner r0 a1) = true then
  (zrd r0_2 8 a1).bind (fun (v2 : Int32) =>
  some v2)
  else
  some 0)

set_option maxRecDepth 20000 in
theorem TX7_besideOf_5 (Γ : zG) {Q : Option Value → zM → Prop} (M : zM) (r0 : Nat → Int32) (r0_2 : Nat → Int32) (e_i5 : M.1 5 = r0) (e_i8 : M.1 8 = r0_2) (a1 : Int32) {res : Int32} (hy : (fPl_besideOf r0 r0_2 a1) = some res) (hq : Q (some (.int res)) M) : zR Γ 2 YX7_besideOf 0 [(0, .ref (zad Γ 5)), (1, .int a1)] [] M Q := by
  unfold fPl_besideOf at hy
  refine zj_aload_n (pc' := 1) 0 dX7_besideOf_0 rfl rfl rfl ?_
  refine zj_iload_n (pc' := 2) 1 dX7_besideOf_1 rfl rfl rfl ?_
  refine zj_V1 (pc' := 5) (z := YX7_hasCorner) (As := [.int a1]) (N := M) dX7_besideOf_2 rfl mlX7_35 lkX7_hasCorner sh5 ⟨_, _, rfl⟩ rfl rfl (Nat.le_of_ble_eq_true rfl) (Nat.le_of_ble_eq_true rfl) (LX7_hasCorner_5 Γ _ r0 e_i5 a1 rfl) rfl ?_
  refine zj_bif_eq (tgt := 17) (pc' := 8) dX7_besideOf_5 rfl (by decide) (fun c1 => ?_) (fun c1 => ?_)
  · have hy := zt_f hy c1
    refine zj_iconst (pc' := 18) dX7_besideOf_17 rfl kiconst_0 ?_
    have e9 := Option.some.inj hy
    subst e9
    exact zj_iret dX7_besideOf_18 rfl hq
  · have hy := zt_t hy c1
    refine zj_aload_n (pc' := 9) 0 dX7_besideOf_8 rfl rfl rfl ?_
    refine zj_getR (pc' := 12) (j := 8) dX7_besideOf_9 rfl flX7_18 sh5 rfl ?_
    refine zj_iload_n (pc' := 13) 1 dX7_besideOf_12 rfl rfl rfl ?_
    obtain ⟨v2, hv2, hy⟩ := zt_b hy
    refine zj_rdi (pc' := 14) dX7_besideOf_13 rfl sh8 e_i8 hv2 ?_
    refine zj_goto (tgt := 18) dX7_besideOf_14 (by decide) ?_
    have e9 := Option.some.inj hy
    subst e9
    exact zj_iret dX7_besideOf_18 rfl hq
set_option maxRecDepth 20000 in
theorem LX7_besideOf_5 (Γ : zG) (M : zM) (r0 : Nat → Int32) (r0_2 : Nat → Int32) (e_i5 : M.1 5 = r0) (e_i8 : M.1 8 = r0_2) (a1 : Int32) {res : Int32} (hy : (fPl_besideOf r0 r0_2 a1) = some res) : zK Γ 2 YX7_besideOf [.ref (zad Γ 5), .int a1] M (fun v N => v = some (.int res) ∧ N = M) :=
  zK_of (by decide) (Nat.le_of_ble_eq_true rfl) (TX7_besideOf_5 Γ M r0 r0_2 e_i5 e_i8 a1 hy ⟨rfl, rfl⟩)

noncomputable def fPl_stepTowards_L14 (r0 : Nat → Int32) (r0_2 : Nat → Int32) (r0_3 : Nat → Int32) (a1 : Int32) (a2 : Int32) (y1 : Int32) (x3 : Int32) : Option ((Int32) ⊕ (Int32)) :=
  (if 8 ≤ x3 then
  some (.inr a1)
  else
  (fPl_besideOf r0 r0_2 a1).bind (fun (y12 : Int32) =>
  (if (fX_hasBit y12 x3) = true then
  (fPl_farFrom r0 r0_3 x3 a2).bind (fun (y14 : Int32) =>
  (if y14 = (y1 - 1) then
  some (.inr x3)
  else
  zlet (x3 + 1) (fun (x16 : Int32) =>
  some (.inl x16))))
  else
  zlet (x3 + 1) (fun (x17 : Int32) =>
  some (.inl x17)))))
noncomputable def fPl_stepTowards (r0 : Nat → Int32) (r0_2 : Nat → Int32) (r0_3 : Nat → Int32) (a1 : Int32) (a2 : Int32) : Option (Int32) :=
  (fPl_farFrom r0 r0_3 a1 a2).bind (fun (y1 : Int32) =>
  (if y1 ≤ 0 then
  some a1
  else
  zLP (fun s => fPl_stepTowards_L14 r0 r0_2 r0_3 a1 a2 y1 s) 0))

set_option maxRecDepth 20000 in
theorem TX7_stepTowards_5 (Γ : zG) {Q : Option Value → zM → Prop} (M : zM) (r0 : Nat → Int32) (r0_2 : Nat → Int32) (r0_3 : Nat → Int32) (e_i5 : M.1 5 = r0) (e_i8 : M.1 8 = r0_2) (e_i9 : M.1 9 = r0_3) (a1 : Int32) (a2 : Int32) {res : Int32} (hy : (fPl_stepTowards r0 r0_2 r0_3 a1 a2) = some res) (hq : Q (some (.int res)) M) : zR Γ 3 YX7_stepTowards 0 [(0, .ref (zad Γ 5)), (1, .int a1), (2, .int a2)] [] M Q := by
  unfold fPl_stepTowards at hy
  refine zj_aload_n (pc' := 1) 0 dX7_stepTowards_0 rfl rfl rfl ?_
  refine zj_iload_n (pc' := 2) 1 dX7_stepTowards_1 rfl rfl rfl ?_
  refine zj_iload_n (pc' := 3) 2 dX7_stepTowards_2 rfl rfl rfl ?_
  obtain ⟨y1, hy1, hy⟩ := zt_b hy
  refine zj_V1 (pc' := 6) (z := YX7_farFrom) (As := [.int a1, .int a2]) (N := M) dX7_stepTowards_3 rfl mlX7_50 lkX7_farFrom sh5 ⟨_, _, rfl⟩ rfl rfl (Nat.le_of_ble_eq_true rfl) (Nat.le_of_ble_eq_true rfl) (LX7_farFrom_5 Γ _ r0 r0_3 e_i5 e_i9 a1 a2 hy1) rfl ?_
  refine zj_istore_n (pc' := 7) (L' := [(3, .int y1), (0, .ref (zad Γ 5)), (1, .int a1), (2, .int a2)]) dX7_stepTowards_6 rfl rfl (by decide) rfl ?_
  refine zj_iload_n (pc' := 8) 0 dX7_stepTowards_7 rfl rfl rfl ?_
  refine zj_if_le (tgt := 56) (pc' := 11) dX7_stepTowards_8 rfl (by decide) (fun c2 => ?_) (fun c2 => ?_)
  · have hy := zt_t hy c2
    refine zj_iload_n (pc' := 57) 2 dX7_stepTowards_56 rfl rfl rfl ?_
    have e9 := Option.some.inj hy
    subst e9
    exact zj_iret dX7_stepTowards_57 rfl hq
  · have hy := zt_f hy c2
    refine zj_iconst (pc' := 12) dX7_stepTowards_11 rfl kiconst_0 ?_
    refine zj_istore (pc' := 14) (L' := [(4, .int 0), (3, .int y1), (0, .ref (zad Γ 5)), (1, .int a1), (2, .int a2)]) dX7_stepTowards_12 rfl (by decide) rfl ?_
    refine zj_loc [2, 3, 4, 1, 0] rfl ?_
    obtain ⟨n9, hn9⟩ := zLP_some hy
    have HL5 : ∀ (n : Nat) (x3 : Int32), zlp (fun s => fPl_stepTowards_L14 r0 r0_2 r0_3 a1 a2 y1 s) n x3 = some res → zR Γ 3 YX7_stepTowards 14 [(0, .ref (zad Γ 5)), (1, .int a1), (2, .int a2), (3, .int y1), (4, .int x3)] [] M Q := by
      intro n
      induction n with
      | zero => intro x3 hn9; cases hn9
      | succ n ih8 =>
        intro x3 hn9
        obtain ⟨o9, hb9, h9, h10⟩ := zlp_step hn9
        have hy : fPl_stepTowards_L14 r0 r0_2 r0_3 a1 a2 y1 x3 = some o9 := hb9
        unfold fPl_stepTowards_L14 at hy
        refine zj_iload (pc' := 16) 4 dX7_stepTowards_14 rfl rfl ?_
        refine zj_bipush (pc' := 18) dX7_stepTowards_16 rfl kbipush_8 ?_
        refine zj_icmp_ge (tgt := 56) (pc' := 21) dX7_stepTowards_18 rfl (by decide) (fun c11 => ?_) (fun c11 => ?_)
        · have hy := zt_t hy c11
          refine zj_iload_n (pc' := 57) 1 dX7_stepTowards_56 rfl rfl rfl ?_
          have e9 := h10 _ (Option.some.inj hy).symm
          subst e9
          exact zj_iret dX7_stepTowards_57 rfl hq
        · have hy := zt_f hy c11
          refine zj_aload_n (pc' := 22) 0 dX7_stepTowards_21 rfl rfl rfl ?_
          refine zj_iload_n (pc' := 23) 1 dX7_stepTowards_22 rfl rfl rfl ?_
          obtain ⟨y12, hy12, hy⟩ := zt_b hy
          refine zj_V1 (pc' := 26) (z := YX7_besideOf) (As := [.int a1]) (N := M) dX7_stepTowards_23 rfl mlX7_42 lkX7_besideOf sh5 ⟨_, _, rfl⟩ rfl rfl (Nat.le_of_ble_eq_true rfl) (Nat.le_of_ble_eq_true rfl) (LX7_besideOf_5 Γ _ r0 r0_2 e_i5 e_i8 a1 hy12) rfl ?_
          refine zj_iload (pc' := 28) 4 dX7_stepTowards_26 rfl rfl ?_
          refine zj_N1 (pc' := 31) (z := YX11_hasBit) (As := [.int y12, .int x3]) (N := M) dX7_stepTowards_28 rfl nlX7_46 lkX11_hasBit rfl rfl (Nat.le_of_ble_eq_true rfl) (Nat.le_of_ble_eq_true rfl) (LX11_hasBit Γ _ y12 x3 rfl) rfl ?_
          refine zj_bif_eq (tgt := 50) (pc' := 34) dX7_stepTowards_31 rfl (by decide) (fun c13 => ?_) (fun c13 => ?_)
          · have hy := zt_f hy c13
            obtain ⟨x17, ex17⟩ : ∃ z : Int32, z = (x3 + 1) := ⟨_, rfl⟩
            have hy := zlet_at ex17 hy
            refine zj_iinc (pc' := 53) 4 (L' := [(4, .int x17), (0, .ref (zad Γ 5)), (1, .int a1), (2, .int a2), (3, .int y1)]) dX7_stepTowards_50 rfl rfl (by decide) (by rw [ci1, ← ex17]; rfl) ?_
            refine zj_goto (tgt := 14) dX7_stepTowards_53 (by decide) ?_
            have hn9 := h9 _ (Option.some.inj hy).symm
            refine zj_loc [1, 2, 3, 4, 0] rfl ?_
            exact ih8 _ hn9
          · have hy := zt_t hy c13
            refine zj_aload_n (pc' := 35) 0 dX7_stepTowards_34 rfl rfl rfl ?_
            refine zj_iload (pc' := 37) 4 dX7_stepTowards_35 rfl rfl ?_
            refine zj_iload_n (pc' := 38) 2 dX7_stepTowards_37 rfl rfl rfl ?_
            obtain ⟨y14, hy14, hy⟩ := zt_b hy
            refine zj_V1 (pc' := 41) (z := YX7_farFrom) (As := [.int x3, .int a2]) (N := M) dX7_stepTowards_38 rfl mlX7_50 lkX7_farFrom sh5 ⟨_, _, rfl⟩ rfl rfl (Nat.le_of_ble_eq_true rfl) (Nat.le_of_ble_eq_true rfl) (LX7_farFrom_5 Γ _ r0 r0_3 e_i5 e_i9 x3 a2 hy14) rfl ?_
            refine zj_iload_n (pc' := 42) 3 dX7_stepTowards_41 rfl rfl rfl ?_
            refine zj_iconst (pc' := 43) dX7_stepTowards_42 rfl kiconst_1 ?_
            refine zj_isub (pc' := 44) dX7_stepTowards_43 rfl ?_
            refine zj_icmp_ne (tgt := 50) (pc' := 47) dX7_stepTowards_44 rfl (by decide) (fun c15 => ?_) (fun c15 => ?_)
            · have hy := zt_f hy c15
              obtain ⟨x16, ex16⟩ : ∃ z : Int32, z = (x3 + 1) := ⟨_, rfl⟩
              have hy := zlet_at ex16 hy
              refine zj_iinc (pc' := 53) 4 (L' := [(4, .int x16), (0, .ref (zad Γ 5)), (1, .int a1), (2, .int a2), (3, .int y1)]) dX7_stepTowards_50 rfl rfl (by decide) (by rw [ci1, ← ex16]; rfl) ?_
              refine zj_goto (tgt := 14) dX7_stepTowards_53 (by decide) ?_
              have hn9 := h9 _ (Option.some.inj hy).symm
              refine zj_loc [1, 2, 3, 4, 0] rfl ?_
              exact ih8 _ hn9
            · have hy := zt_t hy c15
              refine zj_iload (pc' := 49) 4 dX7_stepTowards_47 rfl rfl ?_
              have e9 := h10 _ (Option.some.inj hy).symm
              subst e9
              exact zj_iret dX7_stepTowards_49 rfl hq
    exact HL5 n9 _ hn9
set_option maxRecDepth 20000 in
theorem LX7_stepTowards_5 (Γ : zG) (M : zM) (r0 : Nat → Int32) (r0_2 : Nat → Int32) (r0_3 : Nat → Int32) (e_i5 : M.1 5 = r0) (e_i8 : M.1 8 = r0_2) (e_i9 : M.1 9 = r0_3) (a1 : Int32) (a2 : Int32) {res : Int32} (hy : (fPl_stepTowards r0 r0_2 r0_3 a1 a2) = some res) : zK Γ 3 YX7_stepTowards [.ref (zad Γ 5), .int a1, .int a2] M (fun v N => v = some (.int res) ∧ N = M) :=
  zK_of (by decide) (Nat.le_of_ble_eq_true rfl) (TX7_stepTowards_5 Γ M r0 r0_2 r0_3 e_i5 e_i8 e_i9 a1 a2 hy ⟨rfl, rfl⟩)

noncomputable def fDy_nextPlace (r0_0 : Nat → Int32) (r0_2 : Nat → Int32) (r0_3 : Nat → Int32) (r0_4 : Nat → Int32) (r0_5 : Nat → Int32) (r1 : Nat → Int32) (r1_2 : Nat → Int32) (r1_3 : Nat → Int32) (a2 : Int32) : Option (Int32) :=
  (zrd r0_5 6 a2).bind (fun (v1 : Int32) =>
  (if v1 ≤ 0 then
  (fDy_whereIs r0_0 a2).bind (fun (y3 : Int32) =>
  (zrd r0_2 6 a2).bind (fun (v4 : Int32) =>
  (if v4 = (-1) then
  some y3
  else
  (zrd r0_3 6 a2).bind (fun (v6 : Int32) =>
  (fDy_wasAt r0_0 v4 (v6 - 1)).bind (fun (y7 : Int32) =>
  (fPl_stepTowards r1 r1_2 r1_3 y3 y7).bind (fun (y8 : Int32) =>
  some y8))))))
  else
  (zrd r0_4 48 (a2 * 8)).bind (fun (v9 : Int32) =>
  some v9)))

set_option maxRecDepth 20000 in
theorem TX1_nextPlace_25_5 (Γ : zG) {Q : Option Value → zM → Prop} (M : zM) (r0_0 : Nat → Int32) (r0_2 : Nat → Int32) (r0_3 : Nat → Int32) (r0_4 : Nat → Int32) (r0_5 : Nat → Int32) (r1 : Nat → Int32) (r1_2 : Nat → Int32) (r1_3 : Nat → Int32) (e_i26 : M.1 26 = r0_0) (e_i28 : M.1 28 = r0_2) (e_i29 : M.1 29 = r0_3) (e_i30 : M.1 30 = r0_4) (e_i31 : M.1 31 = r0_5) (e_i5 : M.1 5 = r1) (e_i8 : M.1 8 = r1_2) (e_i9 : M.1 9 = r1_3) (a2 : Int32) {res : Int32} (hy : (fDy_nextPlace r0_0 r0_2 r0_3 r0_4 r0_5 r1 r1_2 r1_3 a2) = some res) (hq : Q (some (.int res)) M) : zR Γ 4 YX1_nextPlace 0 [(0, .ref (zad Γ 25)), (1, .ref (zad Γ 5)), (2, .int a2)] [] M Q := by
  unfold fDy_nextPlace at hy
  refine zj_aload_n (pc' := 1) 0 dX1_nextPlace_0 rfl rfl rfl ?_
  refine zj_getR (pc' := 4) (j := 31) dX1_nextPlace_1 rfl flX1_27 sh25 rfl ?_
  refine zj_iload_n (pc' := 5) 2 dX1_nextPlace_4 rfl rfl rfl ?_
  obtain ⟨v1, hv1, hy⟩ := zt_b hy
  refine zj_rdi (pc' := 6) dX1_nextPlace_5 rfl sh31 e_i31 hv1 ?_
  refine zj_if_le (tgt := 19) (pc' := 9) dX1_nextPlace_6 rfl (by decide) (fun c2 => ?_) (fun c2 => ?_)
  · have hy := zt_t hy c2
    refine zj_aload_n (pc' := 20) 0 dX1_nextPlace_19 rfl rfl rfl ?_
    refine zj_iload_n (pc' := 21) 2 dX1_nextPlace_20 rfl rfl rfl ?_
    obtain ⟨y3, hy3, hy⟩ := zt_b hy
    refine zj_V1 (pc' := 24) (z := YX1_whereIs) (As := [.int a2]) (N := M) dX1_nextPlace_21 rfl mlX1_88 lkX1_whereIs sh25 ⟨_, _, rfl⟩ rfl rfl (Nat.le_of_ble_eq_true rfl) (Nat.le_of_ble_eq_true rfl) (LX1_whereIs_25 Γ _ r0_0 e_i26 a2 hy3) rfl ?_
    refine zj_istore_n (pc' := 25) (L' := [(3, .int y3), (0, .ref (zad Γ 25)), (1, .ref (zad Γ 5)), (2, .int a2)]) dX1_nextPlace_24 rfl rfl (by decide) rfl ?_
    refine zj_aload_n (pc' := 26) 1 dX1_nextPlace_25 rfl rfl rfl ?_
    refine zj_getR (pc' := 29) (j := 28) dX1_nextPlace_26 rfl flX1_18 sh25 rfl ?_
    refine zj_iload_n (pc' := 30) 3 dX1_nextPlace_29 rfl rfl rfl ?_
    obtain ⟨v4, hv4, hy⟩ := zt_b hy
    refine zj_rdi (pc' := 31) dX1_nextPlace_30 rfl sh28 e_i28 hv4 ?_
    refine zj_istore (pc' := 33) (L' := [(4, .int v4), (3, .int y3), (0, .ref (zad Γ 25)), (1, .ref (zad Γ 5)), (2, .int a2)]) dX1_nextPlace_31 rfl (by decide) rfl ?_
    refine zj_iload (pc' := 35) 0 dX1_nextPlace_33 rfl rfl ?_
    refine zj_iconst (pc' := 36) dX1_nextPlace_35 rfl kiconst_m1 ?_
    refine zj_icmp_ne (tgt := 43) (pc' := 39) dX1_nextPlace_36 rfl (by decide) (fun c5 => ?_) (fun c5 => ?_)
    · have hy := zt_f hy c5
      refine zj_aload_n (pc' := 44) 3 dX1_nextPlace_43 rfl rfl rfl ?_
      refine zj_iload_n (pc' := 45) 1 dX1_nextPlace_44 rfl rfl rfl ?_
      refine zj_aload_n (pc' := 46) 2 dX1_nextPlace_45 rfl rfl rfl ?_
      refine zj_iload (pc' := 48) 0 dX1_nextPlace_46 rfl rfl ?_
      refine zj_aload_n (pc' := 49) 2 dX1_nextPlace_48 rfl rfl rfl ?_
      refine zj_getR (pc' := 52) (j := 29) dX1_nextPlace_49 rfl flX1_21 sh25 rfl ?_
      refine zj_iload_n (pc' := 53) 4 dX1_nextPlace_52 rfl rfl rfl ?_
      obtain ⟨v6, hv6, hy⟩ := zt_b hy
      refine zj_rdi (pc' := 54) dX1_nextPlace_53 rfl sh29 e_i29 hv6 ?_
      refine zj_iconst (pc' := 55) dX1_nextPlace_54 rfl kiconst_1 ?_
      refine zj_isub (pc' := 56) dX1_nextPlace_55 rfl ?_
      obtain ⟨y7, hy7, hy⟩ := zt_b hy
      refine zj_V1 (pc' := 59) (z := YX1_wasAt) (As := [.int v4, .int (v6 - 1)]) (N := M) dX1_nextPlace_56 rfl mlX1_62 lkX1_wasAt sh25 ⟨_, _, rfl⟩ rfl rfl (Nat.le_of_ble_eq_true rfl) (Nat.le_of_ble_eq_true rfl) (LX1_wasAt_25 Γ _ r0_0 e_i26 v4 (v6 - 1) hy7) rfl ?_
      obtain ⟨y8, hy8, hy⟩ := zt_b hy
      refine zj_V1 (pc' := 62) (z := YX7_stepTowards) (As := [.int y3, .int y7]) (N := M) dX1_nextPlace_59 rfl mlX1_118 lkX7_stepTowards sh5 ⟨_, _, rfl⟩ rfl rfl (Nat.le_of_ble_eq_true rfl) (Nat.le_of_ble_eq_true rfl) (LX7_stepTowards_5 Γ _ r1 r1_2 r1_3 e_i5 e_i8 e_i9 y3 y7 hy8) rfl ?_
      have e9 := Option.some.inj hy
      subst e9
      exact zj_iret dX1_nextPlace_62 rfl hq
    · have hy := zt_t hy c5
      refine zj_iload_n (pc' := 40) 1 dX1_nextPlace_39 rfl rfl rfl ?_
      refine zj_goto (tgt := 62) dX1_nextPlace_40 (by decide) ?_
      have e9 := Option.some.inj hy
      subst e9
      exact zj_iret dX1_nextPlace_62 rfl hq
  · have hy := zt_f hy c2
    refine zj_aload_n (pc' := 10) 0 dX1_nextPlace_9 rfl rfl rfl ?_
    refine zj_getR (pc' := 13) (j := 30) dX1_nextPlace_10 rfl flX1_24 sh25 rfl ?_
    refine zj_iload_n (pc' := 14) 2 dX1_nextPlace_13 rfl rfl rfl ?_
    refine zj_bipush (pc' := 16) dX1_nextPlace_14 rfl kbipush_8 ?_
    refine zj_imul (pc' := 17) dX1_nextPlace_16 rfl ?_
    obtain ⟨v9, hv9, hy⟩ := zt_b hy
    refine zj_rdi (pc' := 18) dX1_nextPlace_17 rfl sh30 e_i30 hv9 ?_
    have e9 := Option.some.inj hy
    subst e9
    exact zj_iret dX1_nextPlace_18 rfl hq
set_option maxRecDepth 20000 in
theorem LX1_nextPlace_25_5 (Γ : zG) (M : zM) (r0_0 : Nat → Int32) (r0_2 : Nat → Int32) (r0_3 : Nat → Int32) (r0_4 : Nat → Int32) (r0_5 : Nat → Int32) (r1 : Nat → Int32) (r1_2 : Nat → Int32) (r1_3 : Nat → Int32) (e_i26 : M.1 26 = r0_0) (e_i28 : M.1 28 = r0_2) (e_i29 : M.1 29 = r0_3) (e_i30 : M.1 30 = r0_4) (e_i31 : M.1 31 = r0_5) (e_i5 : M.1 5 = r1) (e_i8 : M.1 8 = r1_2) (e_i9 : M.1 9 = r1_3) (a2 : Int32) {res : Int32} (hy : (fDy_nextPlace r0_0 r0_2 r0_3 r0_4 r0_5 r1 r1_2 r1_3 a2) = some res) : zK Γ 4 YX1_nextPlace [.ref (zad Γ 25), .ref (zad Γ 5), .int a2] M (fun v N => v = some (.int res) ∧ N = M) :=
  zK_of (by decide) (Nat.le_of_ble_eq_true rfl) (TX1_nextPlace_25_5 Γ M r0_0 r0_2 r0_3 r0_4 r0_5 r1 r1_2 r1_3 e_i26 e_i28 e_i29 e_i30 e_i31 e_i5 e_i8 e_i9 a2 hy ⟨rfl, rfl⟩)

noncomputable def fDy_shortenWay_L26 (a1 : Int32) (x3 : Int32) (r0_5_5 : Nat → Int32) (r0_4_6 : Nat → Int32) (x7 : Int32) : Option (((Nat → Int32) × Int32) ⊕ ((Nat → Int32))) :=
  (zrd r0_5_5 6 a1).bind (fun (v15 : Int32) =>
  (if v15 ≤ x7 then
  some (.inr r0_4_6)
  else
  (if 7 ≤ x7 then
  some (.inr r0_4_6)
  else
  (zrd r0_4_6 48 ((x3 + x7) + 1)).bind (fun (v18 : Int32) =>
  (zwr r0_4_6 48 (x3 + x7) v18).bind (fun (r0_4_19 : Nat → Int32) =>
  zlet (x7 + 1) (fun (x20 : Int32) =>
  some (.inl (r0_4_19, x20))))))))
noncomputable def fDy_shortenWay (r0_4 : Nat → Int32) (r0_5 : Nat → Int32) (a1 : Int32) : Option ((Nat → Int32) × (Nat → Int32)) :=
  (zrd r0_5 6 a1).bind (fun (v1 : Int32) =>
  (if v1 ≤ 0 then
  some (r0_4, r0_5)
  else
  zlet (a1 * 8) (fun (x3 : Int32) =>
  (zrd r0_5 6 a1).bind (fun (v4 : Int32) =>
  (zwr r0_5 6 a1 (v4 - 1)).bind (fun (r0_5_5 : Nat → Int32) =>
  (zLP (fun s => fDy_shortenWay_L26 a1 x3 r0_5_5 s.1 s.2) (r0_4, 0)).bind (fun r10 =>
  some (r10, r0_5_5)))))))

set_option maxRecDepth 20000 in
theorem TX1_shortenWay_25 (Γ : zG) {Q : Option Value → zM → Prop} (M : zM) (r0_4 : Nat → Int32) (r0_5 : Nat → Int32) (e_i30 : M.1 30 = r0_4) (e_i31 : M.1 31 = r0_5) (a1 : Int32) {res : (Nat → Int32) × (Nat → Int32)} (hy : (fDy_shortenWay r0_4 r0_5 a1) = some res) (hq : Q none (zui (zui M 30 res.1) 31 res.2)) : zR Γ 1 YX1_shortenWay 0 [(0, .ref (zad Γ 25)), (1, .int a1)] [] M Q := by
  unfold fDy_shortenWay at hy
  refine zj_aload_n (pc' := 1) 0 dX1_shortenWay_0 rfl rfl rfl ?_
  refine zj_getR (pc' := 4) (j := 31) dX1_shortenWay_1 rfl flX1_27 sh25 rfl ?_
  refine zj_iload_n (pc' := 5) 1 dX1_shortenWay_4 rfl rfl rfl ?_
  obtain ⟨v1, hv1, hy⟩ := zt_b hy
  refine zj_rdi (pc' := 6) dX1_shortenWay_5 rfl sh31 e_i31 hv1 ?_
  refine zj_if_le (tgt := 66) (pc' := 9) dX1_shortenWay_6 rfl (by decide) (fun c2 => ?_) (fun c2 => ?_)
  · have hy := zt_t hy c2
    have e9 := Option.some.inj hy
    subst e9
    refine zj_mem (N := (zui M 30 r0_4)) (zself_i e_i30 rfl) ?_
    refine zj_mem (N := (zui (zui M 30 r0_4) 31 r0_5)) (zself_i (zr_n rfl e_i31) rfl) ?_
    exact zj_vret dX1_shortenWay_66 rfl hq
  · have hy := zt_f hy c2
    refine zj_iload_n (pc' := 10) 1 dX1_shortenWay_9 rfl rfl rfl ?_
    refine zj_bipush (pc' := 12) dX1_shortenWay_10 rfl kbipush_8 ?_
    refine zj_imul (pc' := 13) dX1_shortenWay_12 rfl ?_
    refine zj_topi (fun x3 ex3 => ?_)
    have hy := zlet_at ex3 hy
    refine zj_istore_n (pc' := 14) (L' := [(2, .int x3), (0, .ref (zad Γ 25)), (1, .int a1)]) dX1_shortenWay_13 rfl rfl (by decide) rfl ?_
    refine zj_aload_n (pc' := 15) 1 dX1_shortenWay_14 rfl rfl rfl ?_
    refine zj_getR (pc' := 18) (j := 31) dX1_shortenWay_15 rfl flX1_27 sh25 rfl ?_
    refine zj_iload_n (pc' := 19) 2 dX1_shortenWay_18 rfl rfl rfl ?_
    refine zj_dup2 (pc' := 20) dX1_shortenWay_19 rfl rfl rfl ?_
    obtain ⟨v4, hv4, hy⟩ := zt_b hy
    refine zj_rdi (pc' := 21) dX1_shortenWay_20 rfl sh31 e_i31 hv4 ?_
    refine zj_iconst (pc' := 22) dX1_shortenWay_21 rfl kiconst_1 ?_
    refine zj_isub (pc' := 23) dX1_shortenWay_22 rfl ?_
    obtain ⟨r0_5_5, hr0_5_5, hy⟩ := zt_b hy
    refine zj_wri (pc' := 24) (N := (zui M 31 r0_5_5)) dX1_shortenWay_23 rfl sh31 e_i31 hr0_5_5 rfl ?_
    refine zj_iconst (pc' := 25) dX1_shortenWay_24 rfl kiconst_0 ?_
    refine zj_istore_n (pc' := 26) (L' := [(3, .int 0), (2, .int x3), (0, .ref (zad Γ 25)), (1, .int a1)]) dX1_shortenWay_25 rfl rfl (by decide) rfl ?_
    refine zj_loc [2, 3, 1, 0] rfl ?_
    refine zj_mem (N := (zui (zui M 30 r0_4) 31 r0_5_5)) (zself_i (zr_n rfl e_i30) (zm_n rfl rfl)) ?_
    obtain ⟨r10, hr9, hyo11⟩ := zt_b hy
    obtain ⟨n9, hn9⟩ := zLP_some hr9
    have HE8 : ∀ (r0_4_21 : Nat → Int32), r10 = r0_4_21 → zR Γ 1 YX1_shortenWay 66 [] [] (zui (zui M 30 r0_4_21) 31 r0_5_5) Q := by
      intro r0_4_21 e9
      have hy := hyo11
      try rw [e9] at hy
      try dsimp only at hy
      have e9 := Option.some.inj hy
      subst e9
      exact zj_vret dX1_shortenWay_66 rfl hq
    have HL9 : ∀ (n : Nat) (r0_4_6 : Nat → Int32) (x7 : Int32), zlp (fun s => fDy_shortenWay_L26 a1 x3 r0_5_5 s.1 s.2) n (r0_4_6, x7) = some r10 → zR Γ 1 YX1_shortenWay 26 [(0, .ref (zad Γ 25)), (1, .int a1), (2, .int x3), (3, .int x7)] [] (zui (zui M 30 r0_4_6) 31 r0_5_5) Q := by
      intro n
      induction n with
      | zero => intro r0_4_6 x7 hn9; cases hn9
      | succ n ih12 =>
        intro r0_4_6 x7 hn9
        obtain ⟨o9, hb9, h13, h14⟩ := zlp_step hn9
        have hy : fDy_shortenWay_L26 a1 x3 r0_5_5 r0_4_6 x7 = some o9 := hb9
        unfold fDy_shortenWay_L26 at hy
        refine zj_iload_n (pc' := 27) 3 dX1_shortenWay_26 rfl rfl rfl ?_
        refine zj_aload_n (pc' := 28) 0 dX1_shortenWay_27 rfl rfl rfl ?_
        refine zj_getR (pc' := 31) (j := 31) dX1_shortenWay_28 rfl flX1_27 sh25 rfl ?_
        refine zj_iload_n (pc' := 32) 1 dX1_shortenWay_31 rfl rfl rfl ?_
        obtain ⟨v15, hv15, hy⟩ := zt_b hy
        refine zj_rdi (pc' := 33) dX1_shortenWay_32 rfl sh31 zr_s hv15 ?_
        refine zj_icmp_ge (tgt := 66) (pc' := 36) dX1_shortenWay_33 rfl (by decide) (fun c16 => ?_) (fun c16 => ?_)
        · have hy := zt_t hy c16
          have e9 := h14 _ (Option.some.inj hy).symm
          refine zj_loc [] rfl ?_
          exact HE8 _ e9.symm
        · have hy := zt_f hy c16
          refine zj_iload_n (pc' := 37) 3 dX1_shortenWay_36 rfl rfl rfl ?_
          refine zj_bipush (pc' := 39) dX1_shortenWay_37 rfl kbipush_7 ?_
          refine zj_icmp_ge (tgt := 66) (pc' := 42) dX1_shortenWay_39 rfl (by decide) (fun c17 => ?_) (fun c17 => ?_)
          · have hy := zt_t hy c17
            have e9 := h14 _ (Option.some.inj hy).symm
            refine zj_loc [] rfl ?_
            exact HE8 _ e9.symm
          · have hy := zt_f hy c17
            refine zj_aload_n (pc' := 43) 0 dX1_shortenWay_42 rfl rfl rfl ?_
            refine zj_getR (pc' := 46) (j := 30) dX1_shortenWay_43 rfl flX1_24 sh25 rfl ?_
            refine zj_iload_n (pc' := 47) 2 dX1_shortenWay_46 rfl rfl rfl ?_
            refine zj_iload_n (pc' := 48) 3 dX1_shortenWay_47 rfl rfl rfl ?_
            refine zj_iadd (pc' := 49) dX1_shortenWay_48 rfl ?_
            refine zj_aload_n (pc' := 50) 0 dX1_shortenWay_49 rfl rfl rfl ?_
            refine zj_getR (pc' := 53) (j := 30) dX1_shortenWay_50 rfl flX1_24 sh25 rfl ?_
            refine zj_iload_n (pc' := 54) 2 dX1_shortenWay_53 rfl rfl rfl ?_
            refine zj_iload_n (pc' := 55) 3 dX1_shortenWay_54 rfl rfl rfl ?_
            refine zj_iadd (pc' := 56) dX1_shortenWay_55 rfl ?_
            refine zj_iconst (pc' := 57) dX1_shortenWay_56 rfl kiconst_1 ?_
            refine zj_iadd (pc' := 58) dX1_shortenWay_57 rfl ?_
            obtain ⟨v18, hv18, hy⟩ := zt_b hy
            refine zj_rdi (pc' := 59) dX1_shortenWay_58 rfl sh30 (zr_n rfl zr_s) hv18 ?_
            obtain ⟨r0_4_19, hr0_4_19, hy⟩ := zt_b hy
            refine zj_wri (pc' := 60) (N := (zui (zui M 30 r0_4_19) 31 r0_5_5)) dX1_shortenWay_59 rfl sh30 (zr_n rfl zr_s) hr0_4_19 (zm_n rfl zm_s) ?_
            obtain ⟨x20, ex20⟩ : ∃ z : Int32, z = (x7 + 1) := ⟨_, rfl⟩
            have hy := zlet_at ex20 hy
            refine zj_iinc (pc' := 63) 3 (L' := [(3, .int x20), (0, .ref (zad Γ 25)), (1, .int a1), (2, .int x3)]) dX1_shortenWay_60 rfl rfl (by decide) (by rw [ci1, ← ex20]; rfl) ?_
            refine zj_goto (tgt := 26) dX1_shortenWay_63 (by decide) ?_
            have hn9 := h13 _ (Option.some.inj hy).symm
            refine zj_loc [1, 2, 3, 0] rfl ?_
            exact ih12 _ _ hn9
    exact HL9 n9 _ _ hn9
set_option maxRecDepth 20000 in
theorem LX1_shortenWay_25 (Γ : zG) (M : zM) (r0_4 : Nat → Int32) (r0_5 : Nat → Int32) (e_i30 : M.1 30 = r0_4) (e_i31 : M.1 31 = r0_5) (a1 : Int32) {res : (Nat → Int32) × (Nat → Int32)} (hy : (fDy_shortenWay r0_4 r0_5 a1) = some res) : zK Γ 1 YX1_shortenWay [.ref (zad Γ 25), .int a1] M (fun v N => v = none ∧ N = (zui (zui M 30 res.1) 31 res.2)) :=
  zK_of (by decide) (Nat.le_of_ble_eq_true rfl) (TX1_shortenWay_25 Γ M r0_4 r0_5 e_i30 e_i31 a1 hy ⟨rfl, rfl⟩)

noncomputable def fDy_mayBeCorner (a1 : Int32) : Bool :=
  (if a1 < 0 then false else (if 8 ≤ a1 then false else true))

set_option maxRecDepth 20000 in
theorem TX1_mayBeCorner (Γ : zG) {Q : Option Value → zM → Prop} (M : zM)   (a1 : Int32) {res : Bool} (hy : (fDy_mayBeCorner a1) = res) (hq : Q (some (.int (zb res))) M) : zR Γ 1 YX1_mayBeCorner 0 [(0, .int a1)] [] M Q := by
  unfold fDy_mayBeCorner at hy
  refine zj_iload_n (pc' := 1) 0 dX1_mayBeCorner_0 rfl rfl rfl ?_
  have HJ1 : zR Γ 1 YX1_mayBeCorner 15 [(0, .int a1)] [.int (zb (if a1 < 0 then false else (if 8 ≤ a1 then false else true)))] M Q := by
    subst hy
    exact zj_bret (b := (if a1 < 0 then false else (if 8 ≤ a1 then false else true))) dX1_mayBeCorner_15 rfl hq
  refine zj_if_lt (tgt := 14) (pc' := 4) dX1_mayBeCorner_1 rfl (by decide) (fun c2 => ?_) (fun c2 => ?_)
  · refine zj_iconst (pc' := 15) dX1_mayBeCorner_14 rfl kiconst_0 ?_
    exact zj_eqb (b := false) (if_pos c2) HJ1
  · refine zj_iload_n (pc' := 5) 0 dX1_mayBeCorner_4 rfl rfl rfl ?_
    refine zj_bipush (pc' := 7) dX1_mayBeCorner_5 rfl kbipush_8 ?_
    refine zj_icmp_ge (tgt := 14) (pc' := 10) dX1_mayBeCorner_7 rfl (by decide) (fun c3 => ?_) (fun c3 => ?_)
    · refine zj_iconst (pc' := 15) dX1_mayBeCorner_14 rfl kiconst_0 ?_
      exact zj_eqb (b := false) ((if_neg c2).trans (if_pos c3)) HJ1
    · refine zj_iconst (pc' := 11) dX1_mayBeCorner_10 rfl kiconst_1 ?_
      refine zj_goto (tgt := 15) dX1_mayBeCorner_11 (by decide) ?_
      exact zj_eqb (b := true) ((if_neg c2).trans (if_neg c3)) HJ1
set_option maxRecDepth 20000 in
theorem LX1_mayBeCorner (Γ : zG) (M : zM)   (a1 : Int32) {res : Bool} (hy : (fDy_mayBeCorner a1) = res) : zK Γ 1 YX1_mayBeCorner [.int a1] M (fun v N => v = some (.int (zb res)) ∧ N = M) :=
  zK_of (by decide) (Nat.le_of_ble_eq_true rfl) (TX1_mayBeCorner Γ M a1 hy ⟨rfl, rfl⟩)

noncomputable def fDy_move_L25 (x1 : Int32) (r0_0_5 : Nat → Int32) (x6 : Int32) : Option (((Nat → Int32) × Int32) ⊕ ((Nat → Int32))) :=
  (if x6 ≤ 0 then
  some (.inr r0_0_5)
  else
  (zrd r0_0_5 36 ((x1 + x6) - 1)).bind (fun (v15 : Int32) =>
  (zwr r0_0_5 36 (x1 + x6) v15).bind (fun (r0_0_16 : Nat → Int32) =>
  zlet (x6 + (-1)) (fun (x17 : Int32) =>
  some (.inl (r0_0_16, x17))))))
noncomputable def fDy_move (r0_0 : Nat → Int32) (r0_7 : Nat → Int32) (a1 : Int32) (a2 : Int32) : Option ((Nat → Int32) × (Nat → Int32)) :=
  zlet (a1 * 6) (fun (x1 : Int32) =>
  (zrd r0_0 36 x1).bind (fun (v2 : Int32) =>
  (zLP (fun s => fDy_move_L25 x1 s.1 s.2) (r0_0, 5)).bind (fun r9 =>
  (zwr r9 36 x1 a2).bind (fun (r0_0_19 : Nat → Int32) =>
  (if (if v2 = a2 then false else true) = true then
  (if (fDy_mayBeCorner a2) = true then
  (zrd r0_7 8 a2).bind (fun (v22 : Int32) =>
  (zwr r0_7 8 a2 (if (v22 + 1) < (9999 : Int32) then (v22 + 1) else (9999 : Int32))).bind (fun (r0_7_23 : Nat → Int32) =>
  some (r0_0_19, r0_7_23)))
  else
  some (r0_0_19, r0_7))
  else
  some (r0_0_19, r0_7))))))

set_option maxRecDepth 20000 in
theorem TX1_move_25 (Γ : zG) {Q : Option Value → zM → Prop} (M : zM) (r0_0 : Nat → Int32) (r0_7 : Nat → Int32) (e_i26 : M.1 26 = r0_0) (e_i33 : M.1 33 = r0_7) (a1 : Int32) (a2 : Int32) {res : (Nat → Int32) × (Nat → Int32)} (hy : (fDy_move r0_0 r0_7 a1 a2) = some res) (hq : Q none (zui (zui M 26 res.1) 33 res.2)) : zR Γ 2 YX1_move 0 [(0, .ref (zad Γ 25)), (1, .int a1), (2, .int a2)] [] M Q := by
  unfold fDy_move at hy
  refine zj_iload_n (pc' := 1) 1 dX1_move_0 rfl rfl rfl ?_
  refine zj_bipush (pc' := 3) dX1_move_1 rfl kbipush_6 ?_
  refine zj_imul (pc' := 4) dX1_move_3 rfl ?_
  refine zj_topi (fun x1 ex1 => ?_)
  have hy := zlet_at ex1 hy
  refine zj_istore_n (pc' := 5) (L' := [(3, .int x1), (0, .ref (zad Γ 25)), (1, .int a1), (2, .int a2)]) dX1_move_4 rfl rfl (by decide) rfl ?_
  refine zj_aload_n (pc' := 6) 1 dX1_move_5 rfl rfl rfl ?_
  refine zj_getR (pc' := 9) (j := 26) dX1_move_6 rfl flX1_9 sh25 rfl ?_
  refine zj_iload_n (pc' := 10) 0 dX1_move_9 rfl rfl rfl ?_
  obtain ⟨v2, hv2, hy⟩ := zt_b hy
  refine zj_rdi (pc' := 11) dX1_move_10 rfl sh26 e_i26 hv2 ?_
  refine zj_iload_n (pc' := 12) 3 dX1_move_11 rfl rfl rfl ?_
  have HJ3 : zR Γ 2 YX1_move 20 [(3, .int x1), (0, .ref (zad Γ 25)), (1, .int a1), (2, .int a2)] [.int (zb (if v2 = a2 then false else true))] M Q := by
    refine zj_istore (pc' := 22) (L' := [(4, .int (zb (if v2 = a2 then false else true))), (3, .int x1), (0, .ref (zad Γ 25)), (1, .int a1), (2, .int a2)]) dX1_move_20 rfl (by decide) rfl ?_
    refine zj_iconst (pc' := 23) dX1_move_22 rfl kiconst_5 ?_
    refine zj_istore (pc' := 25) (L' := [(5, .int 5), (4, .int (zb (if v2 = a2 then false else true))), (3, .int x1), (0, .ref (zad Γ 25)), (1, .int a1), (2, .int a2)]) dX1_move_23 rfl (by decide) rfl ?_
    refine zj_loc [3, 5, 2, 1, 0] rfl ?_
    refine zj_mem (N := (zui M 26 r0_0)) (zself_i e_i26 rfl) ?_
    obtain ⟨r9, hr9, hyo10⟩ := zt_b hy
    obtain ⟨n9, hn9⟩ := zLP_some hr9
    have HE7 : ∀ (r0_0_18 : Nat → Int32), r9 = r0_0_18 → zR Γ 2 YX1_move 56 [(0, .ref (zad Γ 25)), (2, .int a2), (3, .int x1), (4, .int (zb (if v2 = a2 then false else true)))] [] (zui M 26 r0_0_18) Q := by
      intro r0_0_18 e9
      have hy := hyo10
      try rw [e9] at hy
      try dsimp only at hy
      refine zj_aload_n (pc' := 57) 0 dX1_move_56 rfl rfl rfl ?_
      refine zj_getR (pc' := 60) (j := 26) dX1_move_57 rfl flX1_9 sh25 rfl ?_
      refine zj_iload_n (pc' := 61) 2 dX1_move_60 rfl rfl rfl ?_
      refine zj_iload_n (pc' := 62) 1 dX1_move_61 rfl rfl rfl ?_
      obtain ⟨r0_0_19, hr0_0_19, hy⟩ := zt_b hy
      refine zj_wri (pc' := 63) (N := (zui M 26 r0_0_19)) dX1_move_62 rfl sh26 zr_s hr0_0_19 zm_s ?_
      refine zj_iload (pc' := 65) 3 dX1_move_63 rfl rfl ?_
      refine zj_bif_eq (tgt := 95) (pc' := 68) dX1_move_65 rfl (by decide) (fun c20 => ?_) (fun c20 => ?_)
      · have hy := zt_f hy c20
        have e9 := Option.some.inj hy
        subst e9
        refine zj_mem (N := (zui (zui M 26 r0_0_19) 33 r0_7)) (zself_i (zr_n rfl e_i33) rfl) ?_
        exact zj_vret dX1_move_95 rfl hq
      · have hy := zt_t hy c20
        refine zj_iload_n (pc' := 69) 1 dX1_move_68 rfl rfl rfl ?_
        refine zj_S1 (pc' := 72) (z := YX1_mayBeCorner) (As := [.int a2]) (N := (zui M 26 r0_0_19)) dX1_move_69 rfl mlX1_66 lkX1_mayBeCorner rfl rfl (Nat.le_of_ble_eq_true rfl) (Nat.le_of_ble_eq_true rfl) (LX1_mayBeCorner Γ _ a2 rfl) rfl ?_
        refine zj_bif_eq (tgt := 95) (pc' := 75) dX1_move_72 rfl (by decide) (fun c21 => ?_) (fun c21 => ?_)
        · have hy := zt_f hy c21
          have e9 := Option.some.inj hy
          subst e9
          refine zj_mem (N := (zui (zui M 26 r0_0_19) 33 r0_7)) (zself_i (zr_n rfl e_i33) rfl) ?_
          exact zj_vret dX1_move_95 rfl hq
        · have hy := zt_t hy c21
          refine zj_aload_n (pc' := 76) 0 dX1_move_75 rfl rfl rfl ?_
          refine zj_getR (pc' := 79) (j := 33) dX1_move_76 rfl flX1_33 sh25 rfl ?_
          refine zj_iload_n (pc' := 80) 1 dX1_move_79 rfl rfl rfl ?_
          refine zj_sipush (pc' := 83) dX1_move_80 rfl ksipush_9999 ?_
          refine zj_aload_n (pc' := 84) 0 dX1_move_83 rfl rfl rfl ?_
          refine zj_getR (pc' := 87) (j := 33) dX1_move_84 rfl flX1_33 sh25 rfl ?_
          refine zj_iload_n (pc' := 88) 1 dX1_move_87 rfl rfl rfl ?_
          obtain ⟨v22, hv22, hy⟩ := zt_b hy
          refine zj_rdi (pc' := 89) dX1_move_88 rfl sh33 (zr_n rfl e_i33) hv22 ?_
          refine zj_iconst (pc' := 90) dX1_move_89 rfl kiconst_1 ?_
          refine zj_iadd (pc' := 91) dX1_move_90 rfl ?_
          refine zj_mmin (pc' := 94) dX1_move_91 rfl mlX1_121 zmminw (Nat.le_of_ble_eq_true rfl) (Nat.le_of_ble_eq_true rfl) ?_
          obtain ⟨r0_7_23, hr0_7_23, hy⟩ := zt_b hy
          refine zj_wri (pc' := 95) (N := (zui (zui M 26 r0_0_19) 33 r0_7_23)) dX1_move_94 rfl sh33 (zr_n rfl e_i33) hr0_7_23 rfl ?_
          have e9 := Option.some.inj hy
          subst e9
          exact zj_vret dX1_move_95 rfl hq
    have HL8 : ∀ (n : Nat) (r0_0_5 : Nat → Int32) (x6 : Int32), zlp (fun s => fDy_move_L25 x1 s.1 s.2) n (r0_0_5, x6) = some r9 → zR Γ 2 YX1_move 25 [(0, .ref (zad Γ 25)), (2, .int a2), (3, .int x1), (4, .int (zb (if v2 = a2 then false else true))), (5, .int x6)] [] (zui M 26 r0_0_5) Q := by
      intro n
      induction n with
      | zero => intro r0_0_5 x6 hn9; cases hn9
      | succ n ih11 =>
        intro r0_0_5 x6 hn9
        obtain ⟨o9, hb9, h12, h13⟩ := zlp_step hn9
        have hy : fDy_move_L25 x1 r0_0_5 x6 = some o9 := hb9
        unfold fDy_move_L25 at hy
        refine zj_iload (pc' := 27) 4 dX1_move_25 rfl rfl ?_
        refine zj_if_le (tgt := 56) (pc' := 30) dX1_move_27 rfl (by decide) (fun c14 => ?_) (fun c14 => ?_)
        · have hy := zt_t hy c14
          have e9 := h13 _ (Option.some.inj hy).symm
          refine zj_loc [0, 1, 2, 3] rfl ?_
          exact HE7 _ e9.symm
        · have hy := zt_f hy c14
          refine zj_aload_n (pc' := 31) 0 dX1_move_30 rfl rfl rfl ?_
          refine zj_getR (pc' := 34) (j := 26) dX1_move_31 rfl flX1_9 sh25 rfl ?_
          refine zj_iload_n (pc' := 35) 2 dX1_move_34 rfl rfl rfl ?_
          refine zj_iload (pc' := 37) 4 dX1_move_35 rfl rfl ?_
          refine zj_iadd (pc' := 38) dX1_move_37 rfl ?_
          refine zj_aload_n (pc' := 39) 0 dX1_move_38 rfl rfl rfl ?_
          refine zj_getR (pc' := 42) (j := 26) dX1_move_39 rfl flX1_9 sh25 rfl ?_
          refine zj_iload_n (pc' := 43) 2 dX1_move_42 rfl rfl rfl ?_
          refine zj_iload (pc' := 45) 4 dX1_move_43 rfl rfl ?_
          refine zj_iadd (pc' := 46) dX1_move_45 rfl ?_
          refine zj_iconst (pc' := 47) dX1_move_46 rfl kiconst_1 ?_
          refine zj_isub (pc' := 48) dX1_move_47 rfl ?_
          obtain ⟨v15, hv15, hy⟩ := zt_b hy
          refine zj_rdi (pc' := 49) dX1_move_48 rfl sh26 zr_s hv15 ?_
          obtain ⟨r0_0_16, hr0_0_16, hy⟩ := zt_b hy
          refine zj_wri (pc' := 50) (N := (zui M 26 r0_0_16)) dX1_move_49 rfl sh26 zr_s hr0_0_16 zm_s ?_
          obtain ⟨x17, ex17⟩ : ∃ z : Int32, z = (x6 + (-1)) := ⟨_, rfl⟩
          have hy := zlet_at ex17 hy
          refine zj_iinc (pc' := 53) 4 (L' := [(5, .int x17), (0, .ref (zad Γ 25)), (2, .int a2), (3, .int x1), (4, .int (zb (if v2 = a2 then false else true)))]) dX1_move_50 rfl rfl (by decide) (by rw [cim1, ← ex17]; rfl) ?_
          refine zj_goto (tgt := 25) dX1_move_53 (by decide) ?_
          have hn9 := h12 _ (Option.some.inj hy).symm
          refine zj_loc [1, 2, 3, 4, 0] rfl ?_
          exact ih11 _ _ hn9
    exact HL8 n9 _ _ hn9
  refine zj_icmp_eq (tgt := 19) (pc' := 15) dX1_move_12 rfl (by decide) (fun c4 => ?_) (fun c4 => ?_)
  · refine zj_iconst (pc' := 20) dX1_move_19 rfl kiconst_0 ?_
    exact zj_eqb (b := false) (if_pos c4) HJ3
  · refine zj_iconst (pc' := 16) dX1_move_15 rfl kiconst_1 ?_
    refine zj_goto (tgt := 20) dX1_move_16 (by decide) ?_
    exact zj_eqb (b := true) (if_neg c4) HJ3
set_option maxRecDepth 20000 in
theorem LX1_move_25 (Γ : zG) (M : zM) (r0_0 : Nat → Int32) (r0_7 : Nat → Int32) (e_i26 : M.1 26 = r0_0) (e_i33 : M.1 33 = r0_7) (a1 : Int32) (a2 : Int32) {res : (Nat → Int32) × (Nat → Int32)} (hy : (fDy_move r0_0 r0_7 a1 a2) = some res) : zK Γ 2 YX1_move [.ref (zad Γ 25), .int a1, .int a2] M (fun v N => v = none ∧ N = (zui (zui M 26 res.1) 33 res.2)) :=
  zK_of (by decide) (Nat.le_of_ble_eq_true rfl) (TX1_move_25 Γ M r0_0 r0_7 e_i26 e_i33 a1 a2 hy ⟨rfl, rfl⟩)

noncomputable def fDy_bunsAt (r0_6 : Nat → Int32) (a1 : Int32) : Option (Int32) :=
  (if (fDy_mayBeCorner a1) = true then
  (zrd r0_6 8 a1).bind (fun (v2 : Int32) =>
  some v2)
  else
  some 0)

set_option maxRecDepth 20000 in
theorem TX1_bunsAt_25 (Γ : zG) {Q : Option Value → zM → Prop} (M : zM) (r0_6 : Nat → Int32) (e_i32 : M.1 32 = r0_6) (a1 : Int32) {res : Int32} (hy : (fDy_bunsAt r0_6 a1) = some res) (hq : Q (some (.int res)) M) : zR Γ 2 YX1_bunsAt 0 [(0, .ref (zad Γ 25)), (1, .int a1)] [] M Q := by
  unfold fDy_bunsAt at hy
  refine zj_iload_n (pc' := 1) 1 dX1_bunsAt_0 rfl rfl rfl ?_
  refine zj_S1 (pc' := 4) (z := YX1_mayBeCorner) (As := [.int a1]) (N := M) dX1_bunsAt_1 rfl mlX1_66 lkX1_mayBeCorner rfl rfl (Nat.le_of_ble_eq_true rfl) (Nat.le_of_ble_eq_true rfl) (LX1_mayBeCorner Γ _ a1 rfl) rfl ?_
  refine zj_bif_eq (tgt := 16) (pc' := 7) dX1_bunsAt_4 rfl (by decide) (fun c1 => ?_) (fun c1 => ?_)
  · have hy := zt_f hy c1
    refine zj_iconst (pc' := 17) dX1_bunsAt_16 rfl kiconst_0 ?_
    have e9 := Option.some.inj hy
    subst e9
    exact zj_iret dX1_bunsAt_17 rfl hq
  · have hy := zt_t hy c1
    refine zj_aload_n (pc' := 8) 0 dX1_bunsAt_7 rfl rfl rfl ?_
    refine zj_getR (pc' := 11) (j := 32) dX1_bunsAt_8 rfl flX1_30 sh25 rfl ?_
    refine zj_iload_n (pc' := 12) 1 dX1_bunsAt_11 rfl rfl rfl ?_
    obtain ⟨v2, hv2, hy⟩ := zt_b hy
    refine zj_rdi (pc' := 13) dX1_bunsAt_12 rfl sh32 e_i32 hv2 ?_
    refine zj_goto (tgt := 17) dX1_bunsAt_13 (by decide) ?_
    have e9 := Option.some.inj hy
    subst e9
    exact zj_iret dX1_bunsAt_17 rfl hq
set_option maxRecDepth 20000 in
theorem LX1_bunsAt_25 (Γ : zG) (M : zM) (r0_6 : Nat → Int32) (e_i32 : M.1 32 = r0_6) (a1 : Int32) {res : Int32} (hy : (fDy_bunsAt r0_6 a1) = some res) : zK Γ 2 YX1_bunsAt [.ref (zad Γ 25), .int a1] M (fun v N => v = some (.int res) ∧ N = M) :=
  zK_of (by decide) (Nat.le_of_ble_eq_true rfl) (TX1_bunsAt_25 Γ M r0_6 e_i32 a1 hy ⟨rfl, rfl⟩)

noncomputable def fDy_findBun (r0 : Nat → Int32) (r0_0 : Nat → Int32) (r0_1 : Nat → Int32) (r0_2 : Nat → Int32) (r0_6 : Nat → Int32) (a1 : Int32) : Option ((Nat → Int32) × (Nat → Int32) × (Nat → Int32)) :=
  (fDy_whereIs r0_0 a1).bind (fun (y1 : Int32) =>
  (zrd r0_2 6 a1).bind (fun (v2 : Int32) =>
  (if v2 = (-1) then
  some (r0, r0_1, r0_6)
  else
  (fDy_bunsAt r0_6 y1).bind (fun (y4 : Int32) =>
  (if y4 ≤ 0 then
  some (r0, r0_1, r0_6)
  else
  (if (fDy_mayBeCorner y1) = true then
  (zrd r0_6 8 y1).bind (fun (v7 : Int32) =>
  (zwr r0_6 8 y1 (v7 - 1)).bind (fun (r0_6_8 : Nat → Int32) =>
  (zrd r0_1 6 a1).bind (fun (v9 : Int32) =>
  (zwr r0_1 6 a1 (v9 + 1)).bind (fun (r0_1_10 : Nat → Int32) =>
  zlet (zup r0 10 ((r0 10) + 1)) (fun (r0_11 : Nat → Int32) =>
  some (r0_11, r0_1_10, r0_6_8))))))
  else
  some (r0, r0_1, r0_6)))))))

set_option maxRecDepth 20000 in
theorem TX1_findBun_25 (Γ : zG) {Q : Option Value → zM → Prop} (M : zM) (r0 : Nat → Int32) (r0_0 : Nat → Int32) (r0_1 : Nat → Int32) (r0_2 : Nat → Int32) (r0_6 : Nat → Int32) (e_i25 : M.1 25 = r0) (e_i26 : M.1 26 = r0_0) (e_i27 : M.1 27 = r0_1) (e_i28 : M.1 28 = r0_2) (e_i32 : M.1 32 = r0_6) (a1 : Int32) {res : (Nat → Int32) × (Nat → Int32) × (Nat → Int32)} (hy : (fDy_findBun r0 r0_0 r0_1 r0_2 r0_6 a1) = some res) (hq : Q none (zui (zui (zui M 25 res.1) 27 res.2.1) 32 res.2.2)) : zR Γ 4 YX1_findBun 0 [(0, .ref (zad Γ 25)), (1, .int a1)] [] M Q := by
  unfold fDy_findBun at hy
  refine zj_aload_n (pc' := 1) 0 dX1_findBun_0 rfl rfl rfl ?_
  refine zj_iload_n (pc' := 2) 1 dX1_findBun_1 rfl rfl rfl ?_
  obtain ⟨y1, hy1, hy⟩ := zt_b hy
  refine zj_V1 (pc' := 5) (z := YX1_whereIs) (As := [.int a1]) (N := M) dX1_findBun_2 rfl mlX1_88 lkX1_whereIs sh25 ⟨_, _, rfl⟩ rfl rfl (Nat.le_of_ble_eq_true rfl) (Nat.le_of_ble_eq_true rfl) (LX1_whereIs_25 Γ _ r0_0 e_i26 a1 hy1) rfl ?_
  refine zj_istore_n (pc' := 6) (L' := [(2, .int y1), (0, .ref (zad Γ 25)), (1, .int a1)]) dX1_findBun_5 rfl rfl (by decide) rfl ?_
  refine zj_aload_n (pc' := 7) 1 dX1_findBun_6 rfl rfl rfl ?_
  refine zj_getR (pc' := 10) (j := 28) dX1_findBun_7 rfl flX1_18 sh25 rfl ?_
  refine zj_iload_n (pc' := 11) 2 dX1_findBun_10 rfl rfl rfl ?_
  obtain ⟨v2, hv2, hy⟩ := zt_b hy
  refine zj_rdi (pc' := 12) dX1_findBun_11 rfl sh28 e_i28 hv2 ?_
  refine zj_iconst (pc' := 13) dX1_findBun_12 rfl kiconst_m1 ?_
  refine zj_icmp_eq (tgt := 61) (pc' := 16) dX1_findBun_13 rfl (by decide) (fun c3 => ?_) (fun c3 => ?_)
  · have hy := zt_t hy c3
    have e9 := Option.some.inj hy
    subst e9
    refine zj_mem (N := (zui M 25 r0)) (zself_i e_i25 rfl) ?_
    refine zj_mem (N := (zui (zui M 25 r0) 27 r0_1)) (zself_i (zr_n rfl e_i27) rfl) ?_
    refine zj_mem (N := (zui (zui (zui M 25 r0) 27 r0_1) 32 r0_6)) (zself_i (zr_n rfl (zr_n rfl e_i32)) rfl) ?_
    exact zj_vret dX1_findBun_61 rfl hq
  · have hy := zt_f hy c3
    refine zj_aload_n (pc' := 17) 1 dX1_findBun_16 rfl rfl rfl ?_
    refine zj_iload_n (pc' := 18) 0 dX1_findBun_17 rfl rfl rfl ?_
    obtain ⟨y4, hy4, hy⟩ := zt_b hy
    refine zj_V1 (pc' := 21) (z := YX1_bunsAt) (As := [.int y1]) (N := M) dX1_findBun_18 rfl mlX1_126 lkX1_bunsAt sh25 ⟨_, _, rfl⟩ rfl rfl (Nat.le_of_ble_eq_true rfl) (Nat.le_of_ble_eq_true rfl) (LX1_bunsAt_25 Γ _ r0_6 e_i32 y1 hy4) rfl ?_
    refine zj_if_le (tgt := 61) (pc' := 24) dX1_findBun_21 rfl (by decide) (fun c5 => ?_) (fun c5 => ?_)
    · have hy := zt_t hy c5
      have e9 := Option.some.inj hy
      subst e9
      refine zj_mem (N := (zui M 25 r0)) (zself_i e_i25 rfl) ?_
      refine zj_mem (N := (zui (zui M 25 r0) 27 r0_1)) (zself_i (zr_n rfl e_i27) rfl) ?_
      refine zj_mem (N := (zui (zui (zui M 25 r0) 27 r0_1) 32 r0_6)) (zself_i (zr_n rfl (zr_n rfl e_i32)) rfl) ?_
      exact zj_vret dX1_findBun_61 rfl hq
    · have hy := zt_f hy c5
      refine zj_iload_n (pc' := 25) 0 dX1_findBun_24 rfl rfl rfl ?_
      refine zj_S1 (pc' := 28) (z := YX1_mayBeCorner) (As := [.int y1]) (N := M) dX1_findBun_25 rfl mlX1_66 lkX1_mayBeCorner rfl rfl (Nat.le_of_ble_eq_true rfl) (Nat.le_of_ble_eq_true rfl) (LX1_mayBeCorner Γ _ y1 rfl) rfl ?_
      refine zj_bif_eq (tgt := 61) (pc' := 31) dX1_findBun_28 rfl (by decide) (fun c6 => ?_) (fun c6 => ?_)
      · have hy := zt_f hy c6
        have e9 := Option.some.inj hy
        subst e9
        refine zj_mem (N := (zui M 25 r0)) (zself_i e_i25 rfl) ?_
        refine zj_mem (N := (zui (zui M 25 r0) 27 r0_1)) (zself_i (zr_n rfl e_i27) rfl) ?_
        refine zj_mem (N := (zui (zui (zui M 25 r0) 27 r0_1) 32 r0_6)) (zself_i (zr_n rfl (zr_n rfl e_i32)) rfl) ?_
        exact zj_vret dX1_findBun_61 rfl hq
      · have hy := zt_t hy c6
        refine zj_aload_n (pc' := 32) 1 dX1_findBun_31 rfl rfl rfl ?_
        refine zj_getR (pc' := 35) (j := 32) dX1_findBun_32 rfl flX1_30 sh25 rfl ?_
        refine zj_iload_n (pc' := 36) 0 dX1_findBun_35 rfl rfl rfl ?_
        refine zj_dup2 (pc' := 37) dX1_findBun_36 rfl rfl rfl ?_
        obtain ⟨v7, hv7, hy⟩ := zt_b hy
        refine zj_rdi (pc' := 38) dX1_findBun_37 rfl sh32 e_i32 hv7 ?_
        refine zj_iconst (pc' := 39) dX1_findBun_38 rfl kiconst_1 ?_
        refine zj_isub (pc' := 40) dX1_findBun_39 rfl ?_
        obtain ⟨r0_6_8, hr0_6_8, hy⟩ := zt_b hy
        refine zj_wri (pc' := 41) (N := (zui M 32 r0_6_8)) dX1_findBun_40 rfl sh32 e_i32 hr0_6_8 rfl ?_
        refine zj_aload_n (pc' := 42) 1 dX1_findBun_41 rfl rfl rfl ?_
        refine zj_getR (pc' := 45) (j := 27) dX1_findBun_42 rfl flX1_15 sh25 rfl ?_
        refine zj_iload_n (pc' := 46) 2 dX1_findBun_45 rfl rfl rfl ?_
        refine zj_dup2 (pc' := 47) dX1_findBun_46 rfl rfl rfl ?_
        obtain ⟨v9, hv9, hy⟩ := zt_b hy
        refine zj_rdi (pc' := 48) dX1_findBun_47 rfl sh27 (zr_n rfl e_i27) hv9 ?_
        refine zj_iconst (pc' := 49) dX1_findBun_48 rfl kiconst_1 ?_
        refine zj_iadd (pc' := 50) dX1_findBun_49 rfl ?_
        obtain ⟨r0_1_10, hr0_1_10, hy⟩ := zt_b hy
        refine zj_wri (pc' := 51) (N := (zui (zui M 27 r0_1_10) 32 r0_6_8)) dX1_findBun_50 rfl sh27 (zr_n rfl e_i27) hr0_1_10 (zm_n rfl rfl) ?_
        refine zj_aload_n (pc' := 52) 1 dX1_findBun_51 rfl rfl rfl ?_
        refine zj_dup (pc' := 53) dX1_findBun_52 rfl rfl ?_
        refine zj_fI (pc' := 56) dX1_findBun_53 rfl flX1_49 sh25 rfl (zr_n rfl (zr_n rfl e_i25)) rfl ?_
        refine zj_iconst (pc' := 57) dX1_findBun_56 rfl kiconst_1 ?_
        refine zj_iadd (pc' := 58) dX1_findBun_57 rfl ?_
        obtain ⟨r0_11, er0_11⟩ : ∃ z, z = (zup r0 10 ((r0 10) + 1)) := ⟨_, rfl⟩
        have hy := zlet_at er0_11 hy
        refine zj_pI (pc' := 61) (N := (zui (zui (zui M 25 r0_11) 27 r0_1_10) 32 r0_6_8)) dX1_findBun_58 rfl fpX1_49 sh25 rfl (zr_n rfl (zr_n rfl e_i25)) er0_11 (zm_n rfl (zm_n rfl rfl)) ?_
        have e9 := Option.some.inj hy
        subst e9
        exact zj_vret dX1_findBun_61 rfl hq
set_option maxRecDepth 20000 in
theorem LX1_findBun_25 (Γ : zG) (M : zM) (r0 : Nat → Int32) (r0_0 : Nat → Int32) (r0_1 : Nat → Int32) (r0_2 : Nat → Int32) (r0_6 : Nat → Int32) (e_i25 : M.1 25 = r0) (e_i26 : M.1 26 = r0_0) (e_i27 : M.1 27 = r0_1) (e_i28 : M.1 28 = r0_2) (e_i32 : M.1 32 = r0_6) (a1 : Int32) {res : (Nat → Int32) × (Nat → Int32) × (Nat → Int32)} (hy : (fDy_findBun r0 r0_0 r0_1 r0_2 r0_6 a1) = some res) : zK Γ 4 YX1_findBun [.ref (zad Γ 25), .int a1] M (fun v N => v = none ∧ N = (zui (zui (zui M 25 res.1) 27 res.2.1) 32 res.2.2)) :=
  zK_of (by decide) (Nat.le_of_ble_eq_true rfl) (TX1_findBun_25 Γ M r0 r0_0 r0_1 r0_2 r0_6 e_i25 e_i26 e_i27 e_i28 e_i32 a1 hy ⟨rfl, rfl⟩)

noncomputable def fDy_passMinutes_L10 (r0_2 : Nat → Int32) (r0_3 : Nat → Int32) (r1 : Nat → Int32) (r1_2 : Nat → Int32) (r1_3 : Nat → Int32) (r0_0_2 : Nat → Int32) (r0_4_4 : Nat → Int32) (r0_5_5 : Nat → Int32) (r0_8_18 : Nat → Int32) (x19 : Int32) : Option (((Nat → Int32) × Int32) ⊕ ((Nat → Int32))) :=
  (if 6 ≤ x19 then
  some (.inr r0_8_18)
  else
  (fDy_nextPlace r0_0_2 r0_2 r0_3 r0_4_4 r0_5_5 r1 r1_2 r1_3 x19).bind (fun (y28 : Int32) =>
  (zwr r0_8_18 6 x19 y28).bind (fun (r0_8_29 : Nat → Int32) =>
  zlet (x19 + 1) (fun (x30 : Int32) =>
  some (.inl (r0_8_29, x30))))))
noncomputable def fDy_passMinutes_L40 (r0_8_31 : Nat → Int32) (r0_0_32 : Nat → Int32) (r0_4_33 : Nat → Int32) (r0_5_34 : Nat → Int32) (r0_7_35 : Nat → Int32) (x36 : Int32) : Option (((Nat → Int32) × (Nat → Int32) × (Nat → Int32) × (Nat → Int32) × Int32) ⊕ ((Nat → Int32) × (Nat → Int32) × (Nat → Int32) × (Nat → Int32))) :=
  (if 6 ≤ x36 then
  some (.inr (r0_0_32, r0_4_33, r0_5_34, r0_7_35))
  else
  (fDy_shortenWay r0_4_33 r0_5_34 x36).bind (fun (y45 : (Nat → Int32) × (Nat → Int32)) =>
  (zrd r0_8_31 6 x36).bind (fun (v46 : Int32) =>
  (fDy_move r0_0_32 r0_7_35 x36 v46).bind (fun (y47 : (Nat → Int32) × (Nat → Int32)) =>
  zlet (x36 + 1) (fun (x48 : Int32) =>
  some (.inl (y47.1, y45.1, y45.2, y47.2, x48)))))))
noncomputable def fDy_passMinutes_L75 (r0_2 : Nat → Int32) (r0_0_49 : Nat → Int32) (r0_53 : Nat → Int32) (r0_1_54 : Nat → Int32) (r0_6_55 : Nat → Int32) (x56 : Int32) : Option (((Nat → Int32) × (Nat → Int32) × (Nat → Int32) × Int32) ⊕ ((Nat → Int32) × (Nat → Int32) × (Nat → Int32))) :=
  (if 6 ≤ x56 then
  some (.inr (r0_53, r0_1_54, r0_6_55))
  else
  (fDy_findBun r0_53 r0_0_49 r0_1_54 r0_2 r0_6_55 x56).bind (fun (y65 : (Nat → Int32) × (Nat → Int32) × (Nat → Int32)) =>
  zlet (x56 + 1) (fun (x66 : Int32) =>
  some (.inl (y65.1, y65.2.1, y65.2.2, x66)))))
noncomputable def fDy_passMinutes_L2 (r0_2 : Nat → Int32) (r0_3 : Nat → Int32) (r1 : Nat → Int32) (r1_2 : Nat → Int32) (r1_3 : Nat → Int32) (a2 : Int32) (r0_1 : Nat → Int32) (r0_0_2 : Nat → Int32) (r0_1_3 : Nat → Int32) (r0_4_4 : Nat → Int32) (r0_5_5 : Nat → Int32) (r0_6_6 : Nat → Int32) (r0_7_7 : Nat → Int32) (r0_8_8 : Nat → Int32) (x9 : Int32) : Option (((Nat → Int32) × (Nat → Int32) × (Nat → Int32) × (Nat → Int32) × (Nat → Int32) × (Nat → Int32) × (Nat → Int32) × (Nat → Int32) × Int32) ⊕ ((Nat → Int32) × (Nat → Int32) × (Nat → Int32) × (Nat → Int32) × (Nat → Int32) × (Nat → Int32) × (Nat → Int32) × (Nat → Int32))) :=
  (if a2 ≤ x9 then
  some (.inr (r0_1, r0_0_2, r0_1_3, r0_4_4, r0_5_5, r0_6_6, r0_7_7, r0_8_8))
  else
  (zLP (fun s => fDy_passMinutes_L10 r0_2 r0_3 r1 r1_2 r1_3 r0_0_2 r0_4_4 r0_5_5 s.1 s.2) (r0_8_8, 0)).bind (fun r22 =>
  (zLP (fun s => fDy_passMinutes_L40 r22 s.1 s.2.1 s.2.2.1 s.2.2.2.1 s.2.2.2.2) (r0_0_2, r0_4_4, r0_5_5, r0_7_7, 0)).bind (fun r39 =>
  (zLP (fun s => fDy_passMinutes_L75 r0_2 r39.1 s.1 s.2.1 s.2.2.1 s.2.2.2) (r0_1, r0_1_3, r0_6_6, 0)).bind (fun r59 =>
  zlet (zup r59.1 9 ((r59.1 9) + 1)) (fun (r0_70 : Nat → Int32) =>
  zlet (x9 + 1) (fun (x71 : Int32) =>
  some (.inl (r0_70, r39.1, r59.2.1, r39.2.1, r39.2.2.1, r59.2.2, r39.2.2.2, r22, x71))))))))
noncomputable def fDy_passMinutes (r0 : Nat → Int32) (r0_0 : Nat → Int32) (r0_1 : Nat → Int32) (r0_2 : Nat → Int32) (r0_3 : Nat → Int32) (r0_4 : Nat → Int32) (r0_5 : Nat → Int32) (r0_6 : Nat → Int32) (r0_7 : Nat → Int32) (r0_8 : Nat → Int32) (r1 : Nat → Int32) (r1_2 : Nat → Int32) (r1_3 : Nat → Int32) (a2 : Int32) : Option ((Nat → Int32) × (Nat → Int32) × (Nat → Int32) × (Nat → Int32) × (Nat → Int32) × (Nat → Int32) × (Nat → Int32) × (Nat → Int32)) :=
  (zLP (fun s => fDy_passMinutes_L2 r0_2 r0_3 r1 r1_2 r1_3 a2 s.1 s.2.1 s.2.2.1 s.2.2.2.1 s.2.2.2.2.1 s.2.2.2.2.2.1 s.2.2.2.2.2.2.1 s.2.2.2.2.2.2.2.1 s.2.2.2.2.2.2.2.2) (r0, r0_0, r0_1, r0_4, r0_5, r0_6, r0_7, r0_8, 0)).bind (fun r12 =>
  some (r12.1, r12.2.1, r12.2.2.1, r12.2.2.2.1, r12.2.2.2.2.1, r12.2.2.2.2.2.1, r12.2.2.2.2.2.2.1, r12.2.2.2.2.2.2.2))

set_option maxRecDepth 20000 in
theorem TX1_passMinutes_25_5 (Γ : zG) {Q : Option Value → zM → Prop} (M : zM) (r0 : Nat → Int32) (r0_0 : Nat → Int32) (r0_1 : Nat → Int32) (r0_2 : Nat → Int32) (r0_3 : Nat → Int32) (r0_4 : Nat → Int32) (r0_5 : Nat → Int32) (r0_6 : Nat → Int32) (r0_7 : Nat → Int32) (r0_8 : Nat → Int32) (r1 : Nat → Int32) (r1_2 : Nat → Int32) (r1_3 : Nat → Int32) (e_i25 : M.1 25 = r0) (e_i26 : M.1 26 = r0_0) (e_i27 : M.1 27 = r0_1) (e_i28 : M.1 28 = r0_2) (e_i29 : M.1 29 = r0_3) (e_i30 : M.1 30 = r0_4) (e_i31 : M.1 31 = r0_5) (e_i32 : M.1 32 = r0_6) (e_i33 : M.1 33 = r0_7) (e_i34 : M.1 34 = r0_8) (e_i5 : M.1 5 = r1) (e_i8 : M.1 8 = r1_2) (e_i9 : M.1 9 = r1_3) (a2 : Int32) {res : (Nat → Int32) × (Nat → Int32) × (Nat → Int32) × (Nat → Int32) × (Nat → Int32) × (Nat → Int32) × (Nat → Int32) × (Nat → Int32)} (hy : (fDy_passMinutes r0 r0_0 r0_1 r0_2 r0_3 r0_4 r0_5 r0_6 r0_7 r0_8 r1 r1_2 r1_3 a2) = some res) (hq : Q none (zui (zui (zui (zui (zui (zui (zui (zui M 25 res.1) 26 res.2.1) 27 res.2.2.1) 30 res.2.2.2.1) 31 res.2.2.2.2.1) 32 res.2.2.2.2.2.1) 33 res.2.2.2.2.2.2.1) 34 res.2.2.2.2.2.2.2)) : zR Γ 5 YX1_passMinutes 0 [(0, .ref (zad Γ 25)), (1, .ref (zad Γ 5)), (2, .int a2)] [] M Q := by
  unfold fDy_passMinutes at hy
  refine zj_iconst (pc' := 1) dX1_passMinutes_0 rfl kiconst_0 ?_
  refine zj_istore_n (pc' := 2) (L' := [(3, .int 0), (0, .ref (zad Γ 25)), (1, .ref (zad Γ 5)), (2, .int a2)]) dX1_passMinutes_1 rfl rfl (by decide) rfl ?_
  refine zj_loc [1, 2, 3, 0] rfl ?_
  refine zj_mem (N := (zui M 25 r0)) (zself_i e_i25 rfl) ?_
  refine zj_mem (N := (zui (zui M 25 r0) 26 r0_0)) (zself_i (zr_n rfl e_i26) rfl) ?_
  refine zj_mem (N := (zui (zui (zui M 25 r0) 26 r0_0) 27 r0_1)) (zself_i (zr_n rfl (zr_n rfl e_i27)) rfl) ?_
  refine zj_mem (N := (zui (zui (zui (zui M 25 r0) 26 r0_0) 27 r0_1) 30 r0_4)) (zself_i (zr_n rfl (zr_n rfl (zr_n rfl e_i30))) rfl) ?_
  refine zj_mem (N := (zui (zui (zui (zui (zui M 25 r0) 26 r0_0) 27 r0_1) 30 r0_4) 31 r0_5)) (zself_i (zr_n rfl (zr_n rfl (zr_n rfl (zr_n rfl e_i31)))) rfl) ?_
  refine zj_mem (N := (zui (zui (zui (zui (zui (zui M 25 r0) 26 r0_0) 27 r0_1) 30 r0_4) 31 r0_5) 32 r0_6)) (zself_i (zr_n rfl (zr_n rfl (zr_n rfl (zr_n rfl (zr_n rfl e_i32))))) rfl) ?_
  refine zj_mem (N := (zui (zui (zui (zui (zui (zui (zui M 25 r0) 26 r0_0) 27 r0_1) 30 r0_4) 31 r0_5) 32 r0_6) 33 r0_7)) (zself_i (zr_n rfl (zr_n rfl (zr_n rfl (zr_n rfl (zr_n rfl (zr_n rfl e_i33)))))) rfl) ?_
  refine zj_mem (N := (zui (zui (zui (zui (zui (zui (zui (zui M 25 r0) 26 r0_0) 27 r0_1) 30 r0_4) 31 r0_5) 32 r0_6) 33 r0_7) 34 r0_8)) (zself_i (zr_n rfl (zr_n rfl (zr_n rfl (zr_n rfl (zr_n rfl (zr_n rfl (zr_n rfl e_i34))))))) rfl) ?_
  obtain ⟨r12, hr9, hyo13⟩ := zt_b hy
  obtain ⟨n9, hn9⟩ := zLP_some hr9
  have HE10 : ∀ (r0_72 : Nat → Int32) (r0_0_73 : Nat → Int32) (r0_1_74 : Nat → Int32) (r0_4_75 : Nat → Int32) (r0_5_76 : Nat → Int32) (r0_6_77 : Nat → Int32) (r0_7_78 : Nat → Int32) (r0_8_79 : Nat → Int32), r12 = (r0_72, r0_0_73, r0_1_74, r0_4_75, r0_5_76, r0_6_77, r0_7_78, r0_8_79) → zR Γ 5 YX1_passMinutes 110 [] [] (zui (zui (zui (zui (zui (zui (zui (zui M 25 r0_72) 26 r0_0_73) 27 r0_1_74) 30 r0_4_75) 31 r0_5_76) 32 r0_6_77) 33 r0_7_78) 34 r0_8_79) Q := by
    intro r0_72 r0_0_73 r0_1_74 r0_4_75 r0_5_76 r0_6_77 r0_7_78 r0_8_79 e9
    have hy := hyo13
    try rw [e9] at hy
    try dsimp only at hy
    have e9 := Option.some.inj hy
    subst e9
    exact zj_vret dX1_passMinutes_110 rfl hq
  have HL11 : ∀ (n : Nat) (r0_1 : Nat → Int32) (r0_0_2 : Nat → Int32) (r0_1_3 : Nat → Int32) (r0_4_4 : Nat → Int32) (r0_5_5 : Nat → Int32) (r0_6_6 : Nat → Int32) (r0_7_7 : Nat → Int32) (r0_8_8 : Nat → Int32) (x9 : Int32), zlp (fun s => fDy_passMinutes_L2 r0_2 r0_3 r1 r1_2 r1_3 a2 s.1 s.2.1 s.2.2.1 s.2.2.2.1 s.2.2.2.2.1 s.2.2.2.2.2.1 s.2.2.2.2.2.2.1 s.2.2.2.2.2.2.2.1 s.2.2.2.2.2.2.2.2) n (r0_1, r0_0_2, r0_1_3, r0_4_4, r0_5_5, r0_6_6, r0_7_7, r0_8_8, x9) = some r12 → zR Γ 5 YX1_passMinutes 2 [(0, .ref (zad Γ 25)), (1, .ref (zad Γ 5)), (2, .int a2), (3, .int x9)] [] (zui (zui (zui (zui (zui (zui (zui (zui M 25 r0_1) 26 r0_0_2) 27 r0_1_3) 30 r0_4_4) 31 r0_5_5) 32 r0_6_6) 33 r0_7_7) 34 r0_8_8) Q := by
    intro n
    induction n with
    | zero => intro r0_1 r0_0_2 r0_1_3 r0_4_4 r0_5_5 r0_6_6 r0_7_7 r0_8_8 x9 hn9; cases hn9
    | succ n ih14 =>
      intro r0_1 r0_0_2 r0_1_3 r0_4_4 r0_5_5 r0_6_6 r0_7_7 r0_8_8 x9 hn9
      obtain ⟨o9, hb9, h15, h16⟩ := zlp_step hn9
      have hy : fDy_passMinutes_L2 r0_2 r0_3 r1 r1_2 r1_3 a2 r0_1 r0_0_2 r0_1_3 r0_4_4 r0_5_5 r0_6_6 r0_7_7 r0_8_8 x9 = some o9 := hb9
      unfold fDy_passMinutes_L2 at hy
      refine zj_iload_n (pc' := 3) 3 dX1_passMinutes_2 rfl rfl rfl ?_
      refine zj_iload_n (pc' := 4) 2 dX1_passMinutes_3 rfl rfl rfl ?_
      refine zj_icmp_ge (tgt := 110) (pc' := 7) dX1_passMinutes_4 rfl (by decide) (fun c17 => ?_) (fun c17 => ?_)
      · have hy := zt_t hy c17
        have e9 := h16 _ (Option.some.inj hy).symm
        refine zj_loc [] rfl ?_
        exact HE10 _ _ _ _ _ _ _ _ e9.symm
      · have hy := zt_f hy c17
        refine zj_iconst (pc' := 8) dX1_passMinutes_7 rfl kiconst_0 ?_
        refine zj_istore (pc' := 10) (L' := [(4, .int 0), (0, .ref (zad Γ 25)), (1, .ref (zad Γ 5)), (2, .int a2), (3, .int x9)]) dX1_passMinutes_8 rfl (by decide) rfl ?_
        refine zj_loc [1, 2, 3, 4, 0] rfl ?_
        obtain ⟨r22, hr9, hyo23⟩ := zt_b hy
        obtain ⟨n9, hn9⟩ := zLP_some hr9
        have HE20 : ∀ (r0_8_31 : Nat → Int32), r22 = r0_8_31 → zR Γ 5 YX1_passMinutes 37 [(0, .ref (zad Γ 25)), (1, .ref (zad Γ 5)), (2, .int a2), (3, .int x9)] [] (zui (zui (zui (zui (zui (zui (zui (zui M 25 r0_1) 26 r0_0_2) 27 r0_1_3) 30 r0_4_4) 31 r0_5_5) 32 r0_6_6) 33 r0_7_7) 34 r0_8_31) Q := by
          intro r0_8_31 e9
          have hy := hyo23
          try rw [e9] at hy
          try dsimp only at hy
          refine zj_iconst (pc' := 38) dX1_passMinutes_37 rfl kiconst_0 ?_
          refine zj_istore (pc' := 40) (L' := [(4, .int 0), (0, .ref (zad Γ 25)), (1, .ref (zad Γ 5)), (2, .int a2), (3, .int x9)]) dX1_passMinutes_38 rfl (by decide) rfl ?_
          refine zj_loc [1, 2, 3, 4, 0] rfl ?_
          obtain ⟨r39, hr9, hyo40⟩ := zt_b hy
          obtain ⟨n9, hn9⟩ := zLP_some hr9
          have HE37 : ∀ (r0_0_49 : Nat → Int32) (r0_4_50 : Nat → Int32) (r0_5_51 : Nat → Int32) (r0_7_52 : Nat → Int32), r39 = (r0_0_49, r0_4_50, r0_5_51, r0_7_52) → zR Γ 5 YX1_passMinutes 72 [(0, .ref (zad Γ 25)), (1, .ref (zad Γ 5)), (2, .int a2), (3, .int x9)] [] (zui (zui (zui (zui (zui (zui (zui (zui M 25 r0_1) 26 r0_0_49) 27 r0_1_3) 30 r0_4_50) 31 r0_5_51) 32 r0_6_6) 33 r0_7_52) 34 r0_8_31) Q := by
            intro r0_0_49 r0_4_50 r0_5_51 r0_7_52 e9
            have hy := hyo40
            try rw [e9] at hy
            try dsimp only at hy
            refine zj_iconst (pc' := 73) dX1_passMinutes_72 rfl kiconst_0 ?_
            refine zj_istore (pc' := 75) (L' := [(4, .int 0), (0, .ref (zad Γ 25)), (1, .ref (zad Γ 5)), (2, .int a2), (3, .int x9)]) dX1_passMinutes_73 rfl (by decide) rfl ?_
            refine zj_loc [1, 2, 3, 4, 0] rfl ?_
            obtain ⟨r59, hr9, hyo60⟩ := zt_b hy
            obtain ⟨n9, hn9⟩ := zLP_some hr9
            have HE57 : ∀ (r0_67 : Nat → Int32) (r0_1_68 : Nat → Int32) (r0_6_69 : Nat → Int32), r59 = (r0_67, r0_1_68, r0_6_69) → zR Γ 5 YX1_passMinutes 94 [(0, .ref (zad Γ 25)), (1, .ref (zad Γ 5)), (2, .int a2), (3, .int x9)] [] (zui (zui (zui (zui (zui (zui (zui (zui M 25 r0_67) 26 r0_0_49) 27 r0_1_68) 30 r0_4_50) 31 r0_5_51) 32 r0_6_69) 33 r0_7_52) 34 r0_8_31) Q := by
              intro r0_67 r0_1_68 r0_6_69 e9
              have hy := hyo60
              try rw [e9] at hy
              try dsimp only at hy
              refine zj_aload_n (pc' := 95) 0 dX1_passMinutes_94 rfl rfl rfl ?_
              refine zj_dup (pc' := 96) dX1_passMinutes_95 rfl rfl ?_
              refine zj_fI (pc' := 99) dX1_passMinutes_96 rfl flX1_45 sh25 rfl (zr_n rfl (zr_n rfl (zr_n rfl (zr_n rfl (zr_n rfl (zr_n rfl (zr_n rfl zr_s))))))) rfl ?_
              refine zj_iconst (pc' := 100) dX1_passMinutes_99 rfl kiconst_1 ?_
              refine zj_iadd (pc' := 101) dX1_passMinutes_100 rfl ?_
              obtain ⟨r0_70, er0_70⟩ : ∃ z, z = (zup r0_67 9 ((r0_67 9) + 1)) := ⟨_, rfl⟩
              have hy := zlet_at er0_70 hy
              refine zj_pI (pc' := 104) (N := (zui (zui (zui (zui (zui (zui (zui (zui M 25 r0_70) 26 r0_0_49) 27 r0_1_68) 30 r0_4_50) 31 r0_5_51) 32 r0_6_69) 33 r0_7_52) 34 r0_8_31)) dX1_passMinutes_101 rfl fpX1_45 sh25 rfl (zr_n rfl (zr_n rfl (zr_n rfl (zr_n rfl (zr_n rfl (zr_n rfl (zr_n rfl zr_s))))))) er0_70 (zm_n rfl (zm_n rfl (zm_n rfl (zm_n rfl (zm_n rfl (zm_n rfl (zm_n rfl zm_s))))))) ?_
              obtain ⟨x71, ex71⟩ : ∃ z : Int32, z = (x9 + 1) := ⟨_, rfl⟩
              have hy := zlet_at ex71 hy
              refine zj_iinc (pc' := 107) 3 (L' := [(3, .int x71), (0, .ref (zad Γ 25)), (1, .ref (zad Γ 5)), (2, .int a2)]) dX1_passMinutes_104 rfl rfl (by decide) (by rw [ci1, ← ex71]; rfl) ?_
              refine zj_goto (tgt := 2) dX1_passMinutes_107 (by decide) ?_
              have hn9 := h15 _ (Option.some.inj hy).symm
              refine zj_loc [1, 2, 3, 0] rfl ?_
              exact ih14 _ _ _ _ _ _ _ _ _ hn9
            have HL58 : ∀ (n : Nat) (r0_53 : Nat → Int32) (r0_1_54 : Nat → Int32) (r0_6_55 : Nat → Int32) (x56 : Int32), zlp (fun s => fDy_passMinutes_L75 r0_2 r0_0_49 s.1 s.2.1 s.2.2.1 s.2.2.2) n (r0_53, r0_1_54, r0_6_55, x56) = some r59 → zR Γ 5 YX1_passMinutes 75 [(0, .ref (zad Γ 25)), (1, .ref (zad Γ 5)), (2, .int a2), (3, .int x9), (4, .int x56)] [] (zui (zui (zui (zui (zui (zui (zui (zui M 25 r0_53) 26 r0_0_49) 27 r0_1_54) 30 r0_4_50) 31 r0_5_51) 32 r0_6_55) 33 r0_7_52) 34 r0_8_31) Q := by
              intro n
              induction n with
              | zero => intro r0_53 r0_1_54 r0_6_55 x56 hn9; cases hn9
              | succ n ih61 =>
                intro r0_53 r0_1_54 r0_6_55 x56 hn9
                obtain ⟨o9, hb9, h62, h63⟩ := zlp_step hn9
                have hy : fDy_passMinutes_L75 r0_2 r0_0_49 r0_53 r0_1_54 r0_6_55 x56 = some o9 := hb9
                unfold fDy_passMinutes_L75 at hy
                refine zj_iload (pc' := 77) 4 dX1_passMinutes_75 rfl rfl ?_
                refine zj_bipush (pc' := 79) dX1_passMinutes_77 rfl kbipush_6 ?_
                refine zj_icmp_ge (tgt := 94) (pc' := 82) dX1_passMinutes_79 rfl (by decide) (fun c64 => ?_) (fun c64 => ?_)
                · have hy := zt_t hy c64
                  have e9 := h63 _ (Option.some.inj hy).symm
                  refine zj_loc [0, 1, 2, 3] rfl ?_
                  exact HE57 _ _ _ e9.symm
                · have hy := zt_f hy c64
                  refine zj_aload_n (pc' := 83) 0 dX1_passMinutes_82 rfl rfl rfl ?_
                  refine zj_iload (pc' := 85) 4 dX1_passMinutes_83 rfl rfl ?_
                  obtain ⟨y65, hy65, hy⟩ := zt_b hy
                  refine zj_V0 (pc' := 88) (z := YX1_findBun) (As := [.int x56]) (N := (zui (zui (zui (zui (zui (zui (zui (zui M 25 y65.1) 26 r0_0_49) 27 y65.2.1) 30 r0_4_50) 31 r0_5_51) 32 y65.2.2) 33 r0_7_52) 34 r0_8_31)) dX1_passMinutes_85 rfl mlX1_115 lkX1_findBun sh25 ⟨_, _, rfl⟩ rfl rfl (Nat.le_of_ble_eq_true rfl) (Nat.le_of_ble_eq_true rfl) (LX1_findBun_25 Γ _ r0_53 r0_0_49 r0_1_54 r0_2 r0_6_55 (zr_n rfl (zr_n rfl (zr_n rfl (zr_n rfl (zr_n rfl (zr_n rfl (zr_n rfl zr_s))))))) (zr_n rfl (zr_n rfl (zr_n rfl (zr_n rfl (zr_n rfl (zr_n rfl zr_s)))))) (zr_n rfl (zr_n rfl (zr_n rfl (zr_n rfl (zr_n rfl zr_s))))) (zr_n rfl (zr_n rfl (zr_n rfl (zr_n rfl (zr_n rfl (zr_n rfl (zr_n rfl (zr_n rfl e_i28)))))))) (zr_n rfl (zr_n rfl zr_s)) x56 hy65) ((zch_i (zch_i (zm_n rfl (zm_n rfl (zm_n rfl (zm_n rfl (zm_n rfl (zm_n rfl (zm_n rfl zm_s))))))) (zm_n rfl (zm_n rfl (zm_n rfl (zm_n rfl (zm_n rfl zm_s)))))) (zm_n rfl (zm_n rfl zm_s)))).symm ?_
                  obtain ⟨x66, ex66⟩ : ∃ z : Int32, z = (x56 + 1) := ⟨_, rfl⟩
                  have hy := zlet_at ex66 hy
                  refine zj_iinc (pc' := 91) 4 (L' := [(4, .int x66), (0, .ref (zad Γ 25)), (1, .ref (zad Γ 5)), (2, .int a2), (3, .int x9)]) dX1_passMinutes_88 rfl rfl (by decide) (by rw [ci1, ← ex66]; rfl) ?_
                  refine zj_goto (tgt := 75) dX1_passMinutes_91 (by decide) ?_
                  have hn9 := h62 _ (Option.some.inj hy).symm
                  refine zj_loc [1, 2, 3, 4, 0] rfl ?_
                  exact ih61 _ _ _ _ hn9
            exact HL58 n9 _ _ _ _ hn9
          have HL38 : ∀ (n : Nat) (r0_0_32 : Nat → Int32) (r0_4_33 : Nat → Int32) (r0_5_34 : Nat → Int32) (r0_7_35 : Nat → Int32) (x36 : Int32), zlp (fun s => fDy_passMinutes_L40 r0_8_31 s.1 s.2.1 s.2.2.1 s.2.2.2.1 s.2.2.2.2) n (r0_0_32, r0_4_33, r0_5_34, r0_7_35, x36) = some r39 → zR Γ 5 YX1_passMinutes 40 [(0, .ref (zad Γ 25)), (1, .ref (zad Γ 5)), (2, .int a2), (3, .int x9), (4, .int x36)] [] (zui (zui (zui (zui (zui (zui (zui (zui M 25 r0_1) 26 r0_0_32) 27 r0_1_3) 30 r0_4_33) 31 r0_5_34) 32 r0_6_6) 33 r0_7_35) 34 r0_8_31) Q := by
            intro n
            induction n with
            | zero => intro r0_0_32 r0_4_33 r0_5_34 r0_7_35 x36 hn9; cases hn9
            | succ n ih41 =>
              intro r0_0_32 r0_4_33 r0_5_34 r0_7_35 x36 hn9
              obtain ⟨o9, hb9, h42, h43⟩ := zlp_step hn9
              have hy : fDy_passMinutes_L40 r0_8_31 r0_0_32 r0_4_33 r0_5_34 r0_7_35 x36 = some o9 := hb9
              unfold fDy_passMinutes_L40 at hy
              refine zj_iload (pc' := 42) 4 dX1_passMinutes_40 rfl rfl ?_
              refine zj_bipush (pc' := 44) dX1_passMinutes_42 rfl kbipush_6 ?_
              refine zj_icmp_ge (tgt := 72) (pc' := 47) dX1_passMinutes_44 rfl (by decide) (fun c44 => ?_) (fun c44 => ?_)
              · have hy := zt_t hy c44
                have e9 := h43 _ (Option.some.inj hy).symm
                refine zj_loc [0, 1, 2, 3] rfl ?_
                exact HE37 _ _ _ _ e9.symm
              · have hy := zt_f hy c44
                refine zj_aload_n (pc' := 48) 0 dX1_passMinutes_47 rfl rfl rfl ?_
                refine zj_iload (pc' := 50) 4 dX1_passMinutes_48 rfl rfl ?_
                obtain ⟨y45, hy45, hy⟩ := zt_b hy
                refine zj_V0 (pc' := 53) (z := YX1_shortenWay) (As := [.int x36]) (N := (zui (zui (zui (zui (zui (zui (zui (zui M 25 r0_1) 26 r0_0_32) 27 r0_1_3) 30 y45.1) 31 y45.2) 32 r0_6_6) 33 r0_7_35) 34 r0_8_31)) dX1_passMinutes_50 rfl mlX1_107 lkX1_shortenWay sh25 ⟨_, _, rfl⟩ rfl rfl (Nat.le_of_ble_eq_true rfl) (Nat.le_of_ble_eq_true rfl) (LX1_shortenWay_25 Γ _ r0_4_33 r0_5_34 (zr_n rfl (zr_n rfl (zr_n rfl (zr_n rfl zr_s)))) (zr_n rfl (zr_n rfl (zr_n rfl zr_s))) x36 hy45) ((zch_i (zm_n rfl (zm_n rfl (zm_n rfl (zm_n rfl zm_s)))) (zm_n rfl (zm_n rfl (zm_n rfl zm_s))))).symm ?_
                refine zj_aload_n (pc' := 54) 0 dX1_passMinutes_53 rfl rfl rfl ?_
                refine zj_iload (pc' := 56) 4 dX1_passMinutes_54 rfl rfl ?_
                refine zj_aload_n (pc' := 57) 0 dX1_passMinutes_56 rfl rfl rfl ?_
                refine zj_getR (pc' := 60) (j := 34) dX1_passMinutes_57 rfl flX1_36 sh25 rfl ?_
                refine zj_iload (pc' := 62) 4 dX1_passMinutes_60 rfl rfl ?_
                obtain ⟨v46, hv46, hy⟩ := zt_b hy
                refine zj_rdi (pc' := 63) dX1_passMinutes_62 rfl sh34 zr_s hv46 ?_
                obtain ⟨y47, hy47, hy⟩ := zt_b hy
                refine zj_V0 (pc' := 66) (z := YX1_move) (As := [.int x36, .int v46]) (N := (zui (zui (zui (zui (zui (zui (zui (zui M 25 r0_1) 26 y47.1) 27 r0_1_3) 30 y45.1) 31 y45.2) 32 r0_6_6) 33 y47.2) 34 r0_8_31)) dX1_passMinutes_63 rfl mlX1_111 lkX1_move sh25 ⟨_, _, rfl⟩ rfl rfl (Nat.le_of_ble_eq_true rfl) (Nat.le_of_ble_eq_true rfl) (LX1_move_25 Γ _ r0_0_32 r0_7_35 (zr_n rfl (zr_n rfl (zr_n rfl (zr_n rfl (zr_n rfl (zr_n rfl zr_s)))))) (zr_n rfl zr_s) x36 v46 hy47) ((zch_i (zm_n rfl (zm_n rfl (zm_n rfl (zm_n rfl (zm_n rfl (zm_n rfl zm_s)))))) (zm_n rfl zm_s))).symm ?_
                obtain ⟨x48, ex48⟩ : ∃ z : Int32, z = (x36 + 1) := ⟨_, rfl⟩
                have hy := zlet_at ex48 hy
                refine zj_iinc (pc' := 69) 4 (L' := [(4, .int x48), (0, .ref (zad Γ 25)), (1, .ref (zad Γ 5)), (2, .int a2), (3, .int x9)]) dX1_passMinutes_66 rfl rfl (by decide) (by rw [ci1, ← ex48]; rfl) ?_
                refine zj_goto (tgt := 40) dX1_passMinutes_69 (by decide) ?_
                have hn9 := h42 _ (Option.some.inj hy).symm
                refine zj_loc [1, 2, 3, 4, 0] rfl ?_
                exact ih41 _ _ _ _ _ hn9
          exact HL38 n9 _ _ _ _ _ hn9
        have HL21 : ∀ (n : Nat) (r0_8_18 : Nat → Int32) (x19 : Int32), zlp (fun s => fDy_passMinutes_L10 r0_2 r0_3 r1 r1_2 r1_3 r0_0_2 r0_4_4 r0_5_5 s.1 s.2) n (r0_8_18, x19) = some r22 → zR Γ 5 YX1_passMinutes 10 [(0, .ref (zad Γ 25)), (1, .ref (zad Γ 5)), (2, .int a2), (3, .int x9), (4, .int x19)] [] (zui (zui (zui (zui (zui (zui (zui (zui M 25 r0_1) 26 r0_0_2) 27 r0_1_3) 30 r0_4_4) 31 r0_5_5) 32 r0_6_6) 33 r0_7_7) 34 r0_8_18) Q := by
          intro n
          induction n with
          | zero => intro r0_8_18 x19 hn9; cases hn9
          | succ n ih24 =>
            intro r0_8_18 x19 hn9
            obtain ⟨o9, hb9, h25, h26⟩ := zlp_step hn9
            have hy : fDy_passMinutes_L10 r0_2 r0_3 r1 r1_2 r1_3 r0_0_2 r0_4_4 r0_5_5 r0_8_18 x19 = some o9 := hb9
            unfold fDy_passMinutes_L10 at hy
            refine zj_iload (pc' := 12) 4 dX1_passMinutes_10 rfl rfl ?_
            refine zj_bipush (pc' := 14) dX1_passMinutes_12 rfl kbipush_6 ?_
            refine zj_icmp_ge (tgt := 37) (pc' := 17) dX1_passMinutes_14 rfl (by decide) (fun c27 => ?_) (fun c27 => ?_)
            · have hy := zt_t hy c27
              have e9 := h26 _ (Option.some.inj hy).symm
              refine zj_loc [0, 1, 2, 3] rfl ?_
              exact HE20 _ e9.symm
            · have hy := zt_f hy c27
              refine zj_aload_n (pc' := 18) 0 dX1_passMinutes_17 rfl rfl rfl ?_
              refine zj_getR (pc' := 21) (j := 34) dX1_passMinutes_18 rfl flX1_36 sh25 rfl ?_
              refine zj_iload (pc' := 23) 4 dX1_passMinutes_21 rfl rfl ?_
              refine zj_aload_n (pc' := 24) 0 dX1_passMinutes_23 rfl rfl rfl ?_
              refine zj_aload_n (pc' := 25) 1 dX1_passMinutes_24 rfl rfl rfl ?_
              refine zj_iload (pc' := 27) 4 dX1_passMinutes_25 rfl rfl ?_
              obtain ⟨y28, hy28, hy⟩ := zt_b hy
              refine zj_V1 (pc' := 30) (z := YX1_nextPlace) (As := [.ref (zad Γ 5), .int x19]) (N := (zui (zui (zui (zui (zui (zui (zui (zui M 25 r0_1) 26 r0_0_2) 27 r0_1_3) 30 r0_4_4) 31 r0_5_5) 32 r0_6_6) 33 r0_7_7) 34 r0_8_18)) dX1_passMinutes_27 rfl mlX1_103 lkX1_nextPlace sh25 ⟨_, _, rfl⟩ rfl rfl (Nat.le_of_ble_eq_true rfl) (Nat.le_of_ble_eq_true rfl) (LX1_nextPlace_25_5 Γ _ r0_0_2 r0_2 r0_3 r0_4_4 r0_5_5 r1 r1_2 r1_3 (zr_n rfl (zr_n rfl (zr_n rfl (zr_n rfl (zr_n rfl (zr_n rfl zr_s)))))) (zr_n rfl (zr_n rfl (zr_n rfl (zr_n rfl (zr_n rfl (zr_n rfl (zr_n rfl (zr_n rfl e_i28)))))))) (zr_n rfl (zr_n rfl (zr_n rfl (zr_n rfl (zr_n rfl (zr_n rfl (zr_n rfl (zr_n rfl e_i29)))))))) (zr_n rfl (zr_n rfl (zr_n rfl (zr_n rfl zr_s)))) (zr_n rfl (zr_n rfl (zr_n rfl zr_s))) (zr_n rfl (zr_n rfl (zr_n rfl (zr_n rfl (zr_n rfl (zr_n rfl (zr_n rfl (zr_n rfl e_i5)))))))) (zr_n rfl (zr_n rfl (zr_n rfl (zr_n rfl (zr_n rfl (zr_n rfl (zr_n rfl (zr_n rfl e_i8)))))))) (zr_n rfl (zr_n rfl (zr_n rfl (zr_n rfl (zr_n rfl (zr_n rfl (zr_n rfl (zr_n rfl e_i9)))))))) x19 hy28) rfl ?_
              obtain ⟨r0_8_29, hr0_8_29, hy⟩ := zt_b hy
              refine zj_wri (pc' := 31) (N := (zui (zui (zui (zui (zui (zui (zui (zui M 25 r0_1) 26 r0_0_2) 27 r0_1_3) 30 r0_4_4) 31 r0_5_5) 32 r0_6_6) 33 r0_7_7) 34 r0_8_29)) dX1_passMinutes_30 rfl sh34 zr_s hr0_8_29 zm_s ?_
              obtain ⟨x30, ex30⟩ : ∃ z : Int32, z = (x19 + 1) := ⟨_, rfl⟩
              have hy := zlet_at ex30 hy
              refine zj_iinc (pc' := 34) 4 (L' := [(4, .int x30), (0, .ref (zad Γ 25)), (1, .ref (zad Γ 5)), (2, .int a2), (3, .int x9)]) dX1_passMinutes_31 rfl rfl (by decide) (by rw [ci1, ← ex30]; rfl) ?_
              refine zj_goto (tgt := 10) dX1_passMinutes_34 (by decide) ?_
              have hn9 := h25 _ (Option.some.inj hy).symm
              refine zj_loc [1, 2, 3, 4, 0] rfl ?_
              exact ih24 _ _ hn9
        exact HL21 n9 _ _ hn9
  exact HL11 n9 _ _ _ _ _ _ _ _ _ hn9
set_option maxRecDepth 20000 in
theorem LX1_passMinutes_25_5 (Γ : zG) (M : zM) (r0 : Nat → Int32) (r0_0 : Nat → Int32) (r0_1 : Nat → Int32) (r0_2 : Nat → Int32) (r0_3 : Nat → Int32) (r0_4 : Nat → Int32) (r0_5 : Nat → Int32) (r0_6 : Nat → Int32) (r0_7 : Nat → Int32) (r0_8 : Nat → Int32) (r1 : Nat → Int32) (r1_2 : Nat → Int32) (r1_3 : Nat → Int32) (e_i25 : M.1 25 = r0) (e_i26 : M.1 26 = r0_0) (e_i27 : M.1 27 = r0_1) (e_i28 : M.1 28 = r0_2) (e_i29 : M.1 29 = r0_3) (e_i30 : M.1 30 = r0_4) (e_i31 : M.1 31 = r0_5) (e_i32 : M.1 32 = r0_6) (e_i33 : M.1 33 = r0_7) (e_i34 : M.1 34 = r0_8) (e_i5 : M.1 5 = r1) (e_i8 : M.1 8 = r1_2) (e_i9 : M.1 9 = r1_3) (a2 : Int32) {res : (Nat → Int32) × (Nat → Int32) × (Nat → Int32) × (Nat → Int32) × (Nat → Int32) × (Nat → Int32) × (Nat → Int32) × (Nat → Int32)} (hy : (fDy_passMinutes r0 r0_0 r0_1 r0_2 r0_3 r0_4 r0_5 r0_6 r0_7 r0_8 r1 r1_2 r1_3 a2) = some res) : zK Γ 5 YX1_passMinutes [.ref (zad Γ 25), .ref (zad Γ 5), .int a2] M (fun v N => v = none ∧ N = (zui (zui (zui (zui (zui (zui (zui (zui M 25 res.1) 26 res.2.1) 27 res.2.2.1) 30 res.2.2.2.1) 31 res.2.2.2.2.1) 32 res.2.2.2.2.2.1) 33 res.2.2.2.2.2.2.1) 34 res.2.2.2.2.2.2.2)) :=
  zK_of (by decide) (Nat.le_of_ble_eq_true rfl) (TX1_passMinutes_25_5 Γ M r0 r0_0 r0_1 r0_2 r0_3 r0_4 r0_5 r0_6 r0_7 r0_8 r1 r1_2 r1_3 e_i25 e_i26 e_i27 e_i28 e_i29 e_i30 e_i31 e_i32 e_i33 e_i34 e_i5 e_i8 e_i9 a2 hy ⟨rfl, rfl⟩)

