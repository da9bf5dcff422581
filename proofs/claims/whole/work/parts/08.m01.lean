noncomputable def fRd_wordHere (w0 : Nat → Int64) : Int64 :=
  (w0 6)

set_option maxRecDepth 20000 in
theorem TX8_wordHere_3 (Γ : zG) {Q : Option Value → zM → Prop} (M : zM) (w0 : Nat → Int64) (e_l3 : M.2 3 = w0)  {res : Int64} (hy : (fRd_wordHere w0) = res) (hq : Q (some (.long res)) M) : zR Γ 1 YX8_wordHere 0 [(0, .ref (zad Γ 3))] [] M Q := by
  unfold fRd_wordHere at hy
  refine zj_aload_n (pc' := 1) 0 dX8_wordHere_0 rfl rfl rfl ?_
  refine zj_fL (pc' := 4) dX8_wordHere_1 rfl flX8_60 sh3 rfl e_l3 rfl ?_
  subst hy
  exact zj_lret dX8_wordHere_4 rfl hq
set_option maxRecDepth 20000 in
theorem LX8_wordHere_3 (Γ : zG) (M : zM) (w0 : Nat → Int64) (e_l3 : M.2 3 = w0)  {res : Int64} (hy : (fRd_wordHere w0) = res) : zK Γ 1 YX8_wordHere [.ref (zad Γ 3)] M (fun v N => v = some (.long res) ∧ N = M) :=
  zK_of (by decide) (Nat.le_of_ble_eq_true rfl) (TX8_wordHere_3 Γ M w0 e_l3 hy ⟨rfl, rfl⟩)

noncomputable def fPl_needNewName (r0 : Nat → Int32) (w0_0 : Nat → Int64) (w0_1 : Nat → Int64) (r1 : Nat → Int32) (w1 : Nat → Int64) (w1_1 : Nat → Int64) : Option (Bool × (Nat → Int32)) :=
  (fRd_needName r1 w1 w1_1).bind (fun (y1 : Bool × (Nat → Int32)) =>
  (if y1.1 = true then
  zlet (fRd_wordHere w1) (fun (x3 : Int64) =>
  (fPl_cornerNamed r0 w0_0 x3).bind (fun (y4 : Int32) =>
  (if y4 = (-1) then
  (fPl_personNamed r0 w0_1 x3).bind (fun (y6 : Int32) =>
  (if y6 = (-1) then
  some ((fRd_isGood y1.2), y1.2)
  else
  (fRd_fail y1.2 3).bind (fun (y8 : (Nat → Int32)) =>
  some ((fRd_isGood y8), y8))))
  else
  (fRd_fail y1.2 3).bind (fun (y9 : (Nat → Int32)) =>
  some ((fRd_isGood y9), y9)))))
  else
  some ((fRd_isGood y1.2), y1.2)))

set_option maxRecDepth 20000 in
theorem TX7_needNewName_10_3 (Γ : zG) {Q : Option Value → zM → Prop} (M : zM) (r0 : Nat → Int32) (w0_0 : Nat → Int64) (w0_1 : Nat → Int64) (r1 : Nat → Int32) (w1 : Nat → Int64) (w1_1 : Nat → Int64) (e_i10 : M.1 10 = r0) (e_l11 : M.2 11 = w0_0) (e_l12 : M.2 12 = w0_1) (e_i3 : M.1 3 = r1) (e_l3 : M.2 3 = w1) (e_l4 : M.2 4 = w1_1)  {res : Bool × (Nat → Int32)} (hy : (fPl_needNewName r0 w0_0 w0_1 r1 w1 w1_1) = some res) (hq : Q (some (.int (zb res.1))) (zui M 3 res.2)) : zR Γ 3 YX7_needNewName 0 [(0, .ref (zad Γ 10)), (1, .ref (zad Γ 3))] [] M Q := by
  unfold fPl_needNewName at hy
  refine zj_aload_n (pc' := 1) 1 dX7_needNewName_0 rfl rfl rfl ?_
  obtain ⟨y1, hy1, hy⟩ := zt_b hy
  refine zj_V1 (pc' := 4) (z := YX8_needName) (As := []) (N := (zui M 3 y1.2)) dX7_needNewName_1 rfl mlX7_137 lkX8_needName sh3 ⟨_, _, rfl⟩ rfl rfl (Nat.le_of_ble_eq_true rfl) (Nat.le_of_ble_eq_true rfl) (LX8_needName_3 Γ _ r1 w1 w1_1 e_i3 e_l3 e_l4 hy1) (rfl).symm ?_
  refine zj_bif_eq (tgt := 35) (pc' := 7) dX7_needNewName_4 rfl (by decide) (fun c2 => ?_) (fun c2 => ?_)
  · have hy := zt_f hy c2
    refine zj_aload_n (pc' := 36) 1 dX7_needNewName_35 rfl rfl rfl ?_
    refine zj_V1 (pc' := 39) (z := YX8_isGood) (As := []) (N := (zui M 3 y1.2)) dX7_needNewName_36 rfl mlX7_83 lkX8_isGood sh3 ⟨_, _, rfl⟩ rfl rfl (Nat.le_of_ble_eq_true rfl) (Nat.le_of_ble_eq_true rfl) (LX8_isGood_3 Γ _ y1.2 zr_s rfl) rfl ?_
    have e9 := Option.some.inj hy
    subst e9
    exact zj_bret (b := (fRd_isGood y1.2)) dX7_needNewName_39 rfl hq
  · have hy := zt_t hy c2
    refine zj_aload_n (pc' := 8) 1 dX7_needNewName_7 rfl rfl rfl ?_
    refine zj_V1 (pc' := 11) (z := YX8_wordHere) (As := []) (N := (zui M 3 y1.2)) dX7_needNewName_8 rfl mlX7_133 lkX8_wordHere sh3 ⟨_, _, rfl⟩ rfl rfl (Nat.le_of_ble_eq_true rfl) (Nat.le_of_ble_eq_true rfl) (LX8_wordHere_3 Γ _ w1 (zq_i e_l3) rfl) rfl ?_
    refine zj_topl (fun x3 ex3 => ?_)
    have hy := zlet_at ex3 hy
    refine zj_lstore_n (pc' := 12) (L' := [(2, .long x3), (0, .ref (zad Γ 10)), (1, .ref (zad Γ 3))]) dX7_needNewName_11 rfl rfl (by decide) rfl ?_
    refine zj_aload_n (pc' := 13) 1 dX7_needNewName_12 rfl rfl rfl ?_
    refine zj_lload_n (pc' := 14) 0 dX7_needNewName_13 rfl rfl rfl ?_
    obtain ⟨y4, hy4, hy⟩ := zt_b hy
    refine zj_V1 (pc' := 17) (z := YX7_cornerNamed) (As := [.long x3]) (N := (zui M 3 y1.2)) dX7_needNewName_14 rfl mlX7_140 lkX7_cornerNamed sh10 ⟨_, _, rfl⟩ rfl rfl (Nat.le_of_ble_eq_true rfl) (Nat.le_of_ble_eq_true rfl) (LX7_cornerNamed_10 Γ _ r0 w0_0 (zr_n rfl e_i10) (zq_i e_l11) x3 hy4) rfl ?_
    refine zj_iconst (pc' := 18) dX7_needNewName_17 rfl kiconst_m1 ?_
    refine zj_icmp_ne (tgt := 30) (pc' := 21) dX7_needNewName_18 rfl (by decide) (fun c5 => ?_) (fun c5 => ?_)
    · have hy := zt_f hy c5
      refine zj_aload_n (pc' := 31) 2 dX7_needNewName_30 rfl rfl rfl ?_
      refine zj_iconst (pc' := 32) dX7_needNewName_31 rfl kiconst_3 ?_
      obtain ⟨y9, hy9, hy⟩ := zt_b hy
      refine zj_V0 (pc' := 35) (z := YX8_fail) (As := [.int 3]) (N := (zui M 3 y9)) dX7_needNewName_32 rfl mlX7_123 lkX8_fail sh3 ⟨_, _, rfl⟩ rfl rfl (Nat.le_of_ble_eq_true rfl) (Nat.le_of_ble_eq_true rfl) (LX8_fail_3 Γ _ y1.2 zr_s 3 hy9) (zm_s).symm ?_
      refine zj_aload_n (pc' := 36) 2 dX7_needNewName_35 rfl rfl rfl ?_
      refine zj_V1 (pc' := 39) (z := YX8_isGood) (As := []) (N := (zui M 3 y9)) dX7_needNewName_36 rfl mlX7_83 lkX8_isGood sh3 ⟨_, _, rfl⟩ rfl rfl (Nat.le_of_ble_eq_true rfl) (Nat.le_of_ble_eq_true rfl) (LX8_isGood_3 Γ _ y9 zr_s rfl) rfl ?_
      have e9 := Option.some.inj hy
      subst e9
      exact zj_bret (b := (fRd_isGood y9)) dX7_needNewName_39 rfl hq
    · have hy := zt_t hy c5
      refine zj_aload_n (pc' := 22) 1 dX7_needNewName_21 rfl rfl rfl ?_
      refine zj_lload_n (pc' := 23) 0 dX7_needNewName_22 rfl rfl rfl ?_
      obtain ⟨y6, hy6, hy⟩ := zt_b hy
      refine zj_V1 (pc' := 26) (z := YX7_personNamed) (As := [.long x3]) (N := (zui M 3 y1.2)) dX7_needNewName_23 rfl mlX7_144 lkX7_personNamed sh10 ⟨_, _, rfl⟩ rfl rfl (Nat.le_of_ble_eq_true rfl) (Nat.le_of_ble_eq_true rfl) (LX7_personNamed_10 Γ _ r0 w0_1 (zr_n rfl e_i10) (zq_i e_l12) x3 hy6) rfl ?_
      refine zj_iconst (pc' := 27) dX7_needNewName_26 rfl kiconst_m1 ?_
      refine zj_icmp_eq (tgt := 35) (pc' := 30) dX7_needNewName_27 rfl (by decide) (fun c7 => ?_) (fun c7 => ?_)
      · have hy := zt_t hy c7
        refine zj_aload_n (pc' := 36) 2 dX7_needNewName_35 rfl rfl rfl ?_
        refine zj_V1 (pc' := 39) (z := YX8_isGood) (As := []) (N := (zui M 3 y1.2)) dX7_needNewName_36 rfl mlX7_83 lkX8_isGood sh3 ⟨_, _, rfl⟩ rfl rfl (Nat.le_of_ble_eq_true rfl) (Nat.le_of_ble_eq_true rfl) (LX8_isGood_3 Γ _ y1.2 zr_s rfl) rfl ?_
        have e9 := Option.some.inj hy
        subst e9
        exact zj_bret (b := (fRd_isGood y1.2)) dX7_needNewName_39 rfl hq
      · have hy := zt_f hy c7
        refine zj_aload_n (pc' := 31) 2 dX7_needNewName_30 rfl rfl rfl ?_
        refine zj_iconst (pc' := 32) dX7_needNewName_31 rfl kiconst_3 ?_
        obtain ⟨y8, hy8, hy⟩ := zt_b hy
        refine zj_V0 (pc' := 35) (z := YX8_fail) (As := [.int 3]) (N := (zui M 3 y8)) dX7_needNewName_32 rfl mlX7_123 lkX8_fail sh3 ⟨_, _, rfl⟩ rfl rfl (Nat.le_of_ble_eq_true rfl) (Nat.le_of_ble_eq_true rfl) (LX8_fail_3 Γ _ y1.2 zr_s 3 hy8) (zm_s).symm ?_
        refine zj_aload_n (pc' := 36) 2 dX7_needNewName_35 rfl rfl rfl ?_
        refine zj_V1 (pc' := 39) (z := YX8_isGood) (As := []) (N := (zui M 3 y8)) dX7_needNewName_36 rfl mlX7_83 lkX8_isGood sh3 ⟨_, _, rfl⟩ rfl rfl (Nat.le_of_ble_eq_true rfl) (Nat.le_of_ble_eq_true rfl) (LX8_isGood_3 Γ _ y8 zr_s rfl) rfl ?_
        have e9 := Option.some.inj hy
        subst e9
        exact zj_bret (b := (fRd_isGood y8)) dX7_needNewName_39 rfl hq
set_option maxRecDepth 20000 in
theorem LX7_needNewName_10_3 (Γ : zG) (M : zM) (r0 : Nat → Int32) (w0_0 : Nat → Int64) (w0_1 : Nat → Int64) (r1 : Nat → Int32) (w1 : Nat → Int64) (w1_1 : Nat → Int64) (e_i10 : M.1 10 = r0) (e_l11 : M.2 11 = w0_0) (e_l12 : M.2 12 = w0_1) (e_i3 : M.1 3 = r1) (e_l3 : M.2 3 = w1) (e_l4 : M.2 4 = w1_1)  {res : Bool × (Nat → Int32)} (hy : (fPl_needNewName r0 w0_0 w0_1 r1 w1 w1_1) = some res) : zK Γ 3 YX7_needNewName [.ref (zad Γ 10), .ref (zad Γ 3)] M (fun v N => v = some (.int (zb res.1)) ∧ N = (zui M 3 res.2)) :=
  zK_of (by decide) (Nat.le_of_ble_eq_true rfl) (TX7_needNewName_10_3 Γ M r0 w0_0 w0_1 r1 w1 w1_1 e_i10 e_l11 e_l12 e_i3 e_l3 e_l4 hy ⟨rfl, rfl⟩)

noncomputable def fDy_begin_L10 (a1 : Int32) (a2 : Int32) (r0_0v2 : Nat → Int32) (x3 : Int32) : Option (((Nat → Int32) × Int32) ⊕ ((Nat → Int32))) :=
  (if 6 ≤ x3 then
  some (.inr r0_0v2)
  else
  (zwr r0_0v2 36 ((a1 * 6) + x3) a2).bind (fun (r0_0v12 : Nat → Int32) =>
  zlet (x3 + 1) (fun (x13 : Int32) =>
  some (.inl (r0_0v12, x13)))))
noncomputable def fDy_begin (r0_0 : Nat → Int32) (r0_1 : Nat → Int32) (a1 : Int32) (a2 : Int32) (a3 : Int32) : Option ((Nat → Int32) × (Nat → Int32)) :=
  (if (fDy_mayBe a1) = true then
  (zLP (fun s => fDy_begin_L10 a1 a2 s.1 s.2) (r0_0, 0)).bind (fun r6 =>
  (zwr r0_1 6 a1 a3).bind (fun (r0_1v15 : Nat → Int32) =>
  some (r6, r0_1v15)))
  else
  some (r0_0, r0_1))

set_option maxRecDepth 20000 in
theorem TX1_begin_25 (Γ : zG) {Q : Option Value → zM → Prop} (M : zM) (r0_0 : Nat → Int32) (r0_1 : Nat → Int32) (e_i26 : M.1 26 = r0_0) (e_i27 : M.1 27 = r0_1) (a1 : Int32) (a2 : Int32) (a3 : Int32) {res : (Nat → Int32) × (Nat → Int32)} (hy : (fDy_begin r0_0 r0_1 a1 a2 a3) = some res) (hq : Q none (zui (zui M 26 res.1) 27 res.2)) : zR Γ 2 YX1_begin 0 [(0, .ref (zad Γ 25)), (1, .int a1), (2, .int a2), (3, .int a3)] [] M Q := by
  unfold fDy_begin at hy
  refine zj_iload_n (pc' := 1) 1 dX1_begin_0 rfl rfl rfl ?_
  refine zj_S1 (pc' := 4) (z := YX1_mayBe) (As := [.int a1]) (N := M) dX1_begin_1 rfl mlX1_58 lkX1_mayBe rfl rfl (Nat.le_of_ble_eq_true rfl) (Nat.le_of_ble_eq_true rfl) (LX1_mayBe Γ _ a1 rfl) rfl ?_
  refine zj_bif_eq (tgt := 43) (pc' := 7) dX1_begin_4 rfl (by decide) (fun c1 => ?_) (fun c1 => ?_)
  · have hy := zt_f hy c1
    have e9 := Option.some.inj hy
    subst e9
    refine zj_mem (N := (zui M 26 r0_0)) (zself_i e_i26 rfl) ?_
    refine zj_mem (N := (zui (zui M 26 r0_0) 27 r0_1)) (zself_i (zr_n rfl e_i27) rfl) ?_
    exact zj_vret dX1_begin_43 rfl hq
  · have hy := zt_t hy c1
    refine zj_iconst (pc' := 8) dX1_begin_7 rfl kiconst_0 ?_
    refine zj_istore (pc' := 10) (L' := [(4, .int 0), (0, .ref (zad Γ 25)), (1, .int a1), (2, .int a2), (3, .int a3)]) dX1_begin_8 rfl (by decide) rfl ?_
    refine zj_loc [1, 2, 3, 4, 0] rfl ?_
    refine zj_mem (N := (zui M 26 r0_0)) (zself_i e_i26 rfl) ?_
    obtain ⟨r6, hr9, hyo7⟩ := zt_b hy
    obtain ⟨n9, hn9⟩ := zLP_some hr9
    have HE4 : ∀ (r0_0v14 : Nat → Int32), r6 = r0_0v14 → zR Γ 2 YX1_begin 36 [(0, .ref (zad Γ 25)), (1, .int a1), (3, .int a3)] [] (zui M 26 r0_0v14) Q := by
      intro r0_0v14 e9
      have hy := hyo7
      try rw [e9] at hy
      try dsimp only at hy
      refine zj_aload_n (pc' := 37) 0 dX1_begin_36 rfl rfl rfl ?_
      refine zj_getR (pc' := 40) (j := 27) dX1_begin_37 rfl flX1_15 sh25 rfl ?_
      refine zj_iload_n (pc' := 41) 1 dX1_begin_40 rfl rfl rfl ?_
      refine zj_iload_n (pc' := 42) 2 dX1_begin_41 rfl rfl rfl ?_
      obtain ⟨r0_1v15, hr0_1v15, hy⟩ := zt_b hy
      refine zj_wri (pc' := 43) (N := (zui (zui M 26 r0_0v14) 27 r0_1v15)) dX1_begin_42 rfl sh27 (zr_n rfl e_i27) hr0_1v15 rfl ?_
      have e9 := Option.some.inj hy
      subst e9
      exact zj_vret dX1_begin_43 rfl hq
    have HL5 : ∀ (n : Nat) (r0_0v2 : Nat → Int32) (x3 : Int32), zlp (fun s => fDy_begin_L10 a1 a2 s.1 s.2) n (r0_0v2, x3) = some r6 → zR Γ 2 YX1_begin 10 [(0, .ref (zad Γ 25)), (1, .int a1), (2, .int a2), (3, .int a3), (4, .int x3)] [] (zui M 26 r0_0v2) Q := by
      intro n
      induction n with
      | zero => intro r0_0v2 x3 hn9; cases hn9
      | succ n ih8 =>
        intro r0_0v2 x3 hn9
        obtain ⟨o9, hb9, h9, h10⟩ := zlp_step hn9
        have hy : fDy_begin_L10 a1 a2 r0_0v2 x3 = some o9 := hb9
        unfold fDy_begin_L10 at hy
        refine zj_iload (pc' := 12) 4 dX1_begin_10 rfl rfl ?_
        refine zj_bipush (pc' := 14) dX1_begin_12 rfl kbipush_6 ?_
        refine zj_icmp_ge (tgt := 36) (pc' := 17) dX1_begin_14 rfl (by decide) (fun c11 => ?_) (fun c11 => ?_)
        · have hy := zt_t hy c11
          have e9 := h10 _ (Option.some.inj hy).symm
          refine zj_loc [0, 1, 3] rfl ?_
          exact HE4 _ e9.symm
        · have hy := zt_f hy c11
          refine zj_aload_n (pc' := 18) 0 dX1_begin_17 rfl rfl rfl ?_
          refine zj_getR (pc' := 21) (j := 26) dX1_begin_18 rfl flX1_9 sh25 rfl ?_
          refine zj_iload_n (pc' := 22) 1 dX1_begin_21 rfl rfl rfl ?_
          refine zj_bipush (pc' := 24) dX1_begin_22 rfl kbipush_6 ?_
          refine zj_imul (pc' := 25) dX1_begin_24 rfl ?_
          refine zj_iload (pc' := 27) 4 dX1_begin_25 rfl rfl ?_
          refine zj_iadd (pc' := 28) dX1_begin_27 rfl ?_
          refine zj_iload_n (pc' := 29) 2 dX1_begin_28 rfl rfl rfl ?_
          obtain ⟨r0_0v12, hr0_0v12, hy⟩ := zt_b hy
          refine zj_wri (pc' := 30) (N := (zui M 26 r0_0v12)) dX1_begin_29 rfl sh26 zr_s hr0_0v12 zm_s ?_
          obtain ⟨x13, ex13⟩ : ∃ z : Int32, z = (x3 + 1) := ⟨_, rfl⟩
          have hy := zlet_at ex13 hy
          refine zj_iinc (pc' := 33) 4 (L' := [(4, .int x13), (0, .ref (zad Γ 25)), (1, .int a1), (2, .int a2), (3, .int a3)]) dX1_begin_30 rfl rfl (by decide) (by rw [ci1, ← ex13]; rfl) ?_
          refine zj_goto (tgt := 10) dX1_begin_33 (by decide) ?_
          have hn9 := h9 _ (Option.some.inj hy).symm
          refine zj_loc [1, 2, 3, 4, 0] rfl ?_
          exact ih8 _ _ hn9
    exact HL5 n9 _ _ hn9
set_option maxRecDepth 20000 in
theorem LX1_begin_25 (Γ : zG) (M : zM) (r0_0 : Nat → Int32) (r0_1 : Nat → Int32) (e_i26 : M.1 26 = r0_0) (e_i27 : M.1 27 = r0_1) (a1 : Int32) (a2 : Int32) (a3 : Int32) {res : (Nat → Int32) × (Nat → Int32)} (hy : (fDy_begin r0_0 r0_1 a1 a2 a3) = some res) : zK Γ 2 YX1_begin [.ref (zad Γ 25), .int a1, .int a2, .int a3] M (fun v N => v = none ∧ N = (zui (zui M 26 res.1) 27 res.2)) :=
  zK_of (by decide) (Nat.le_of_ble_eq_true rfl) (TX1_begin_25 Γ M r0_0 r0_1 e_i26 e_i27 a1 a2 a3 hy ⟨rfl, rfl⟩)

noncomputable def fPl_readPerson (r0 : Nat → Int32) (w0_0 : Nat → Int64) (w0_1 : Nat → Int64) (r1 : Nat → Int32) (w1 : Nat → Int64) (r1_0 : Nat → Int32) (r1_0_0 : Nat → Int32) (w1_1 : Nat → Int64) (r2_0 : Nat → Int32) (r2_1 : Nat → Int32) : Option ((Nat → Int32) × (Nat → Int64) × (Nat → Int32) × (Nat → Int64) × (Nat → Int32) × (Nat → Int32)) :=
  (if (r0 6) < 6 then
  (fRd_goOn r1 w1 r1_0 r1_0_0).bind (fun (y2 : (Nat → Int32) × (Nat → Int64)) =>
  (fPl_needNewName r0 w0_0 w0_1 y2.1 y2.2 w1_1).bind (fun (y3 : Bool × (Nat → Int32)) =>
  zlet (fRd_wordHere y2.2) (fun (x4 : Int64) =>
  (fRd_goOn y3.2 y2.2 r1_0 r1_0_0).bind (fun (y5 : (Nat → Int32) × (Nat → Int64)) =>
  (fRd_needCorner y5.1 y5.2 w1_1 r0 w0_0).bind (fun (y6 : Int32 × (Nat → Int32)) =>
  zlet y6.1 (fun (x7 : Int32) =>
  (fRd_goOn y6.2 y5.2 r1_0 r1_0_0).bind (fun (y8 : (Nat → Int32) × (Nat → Int64)) =>
  (fRd_takeNumber y8.1 y8.2 r1_0 r1_0_0 0 9).bind (fun (y9 : Int32 × (Nat → Int32) × (Nat → Int64)) =>
  zlet y9.1 (fun (x10 : Int32) =>
  (if (fRd_isGood y9.2.1) = true then
  (zwr w0_1 6 (r0 6) x4).bind (fun (w0_1v12 : Nat → Int64) =>
  (fDy_begin r2_0 r2_1 (r0 6) x7 x10).bind (fun (y13 : (Nat → Int32) × (Nat → Int32)) =>
  zlet (zup r0 6 ((r0 6) + 1)) (fun (r0v14 : Nat → Int32) =>
  some (r0v14, w0_1v12, y9.2.1, y9.2.2, y13.1, y13.2))))
  else
  some (r0, w0_1, y9.2.1, y9.2.2, r2_0, r2_1)))))))))))
  else
  (fRd_fail r1 4).bind (fun (y15 : (Nat → Int32)) =>
  some (r0, w0_1, y15, w1, r2_0, r2_1)))

set_option maxRecDepth 20000 in
theorem TX7_readPerson_10_3_25 (Γ : zG) {Q : Option Value → zM → Prop} (M : zM) (r0 : Nat → Int32) (w0_0 : Nat → Int64) (w0_1 : Nat → Int64) (r1 : Nat → Int32) (w1 : Nat → Int64) (r1_0 : Nat → Int32) (r1_0_0 : Nat → Int32) (w1_1 : Nat → Int64) (r2_0 : Nat → Int32) (r2_1 : Nat → Int32) (e_i10 : M.1 10 = r0) (e_l11 : M.2 11 = w0_0) (e_l12 : M.2 12 = w0_1) (e_i3 : M.1 3 = r1) (e_l3 : M.2 3 = w1) (e_i1 : M.1 1 = r1_0) (e_i2 : M.1 2 = r1_0_0) (e_l4 : M.2 4 = w1_1) (e_i26 : M.1 26 = r2_0) (e_i27 : M.1 27 = r2_1)  {res : (Nat → Int32) × (Nat → Int64) × (Nat → Int32) × (Nat → Int64) × (Nat → Int32) × (Nat → Int32)} (hy : (fPl_readPerson r0 w0_0 w0_1 r1 w1 r1_0 r1_0_0 w1_1 r2_0 r2_1) = some res) (hq : Q none (zui (zui (zui (zui (zul (zul M 3 res.2.2.2.1) 12 res.2.1) 3 res.2.2.1) 10 res.1) 26 res.2.2.2.2.1) 27 res.2.2.2.2.2)) : zR Γ 5 YX7_readPerson 0 [(0, .ref (zad Γ 10)), (1, .ref (zad Γ 3)), (2, .ref (zad Γ 25))] [] M Q := by
  unfold fPl_readPerson at hy
  refine zj_aload_n (pc' := 1) 0 dX7_readPerson_0 rfl rfl rfl ?_
  refine zj_fI (pc' := 4) dX7_readPerson_1 rfl flX7_32 sh10 rfl e_i10 rfl ?_
  refine zj_bipush (pc' := 6) dX7_readPerson_4 rfl kbipush_6 ?_
  refine zj_icmp_lt (tgt := 15) (pc' := 9) dX7_readPerson_6 rfl (by decide) (fun c1 => ?_) (fun c1 => ?_)
  · have hy := zt_t hy c1
    refine zj_aload_n (pc' := 16) 1 dX7_readPerson_15 rfl rfl rfl ?_
    obtain ⟨y2, hy2, hy⟩ := zt_b hy
    refine zj_V0 (pc' := 19) (z := YX8_goOn) (As := []) (N := (zui (zul M 3 y2.2) 3 y2.1)) dX7_readPerson_16 rfl mlX7_126 lkX8_goOn sh3 ⟨_, _, rfl⟩ rfl rfl (Nat.le_of_ble_eq_true rfl) (Nat.le_of_ble_eq_true rfl) (LX8_goOn_3 Γ _ r1 w1 r1_0 r1_0_0 e_i3 e_l3 e_i1 e_i2 hy2) ((zch_i rfl rfl)).symm ?_
    refine zj_aload_n (pc' := 20) 0 dX7_readPerson_19 rfl rfl rfl ?_
    refine zj_aload_n (pc' := 21) 1 dX7_readPerson_20 rfl rfl rfl ?_
    obtain ⟨y3, hy3, hy⟩ := zt_b hy
    refine zj_V1 (pc' := 24) (z := YX7_needNewName) (As := [.ref (zad Γ 3)]) (N := (zui (zul M 3 y2.2) 3 y3.2)) dX7_readPerson_21 rfl mlX7_129 lkX7_needNewName sh10 ⟨_, _, rfl⟩ rfl rfl (Nat.le_of_ble_eq_true rfl) (Nat.le_of_ble_eq_true rfl) (LX7_needNewName_10_3 Γ _ r0 w0_0 w0_1 y2.1 y2.2 w1_1 (zr_n rfl (zr_l e_i10)) (zq_i (zq_n rfl e_l11)) (zq_i (zq_n rfl e_l12)) zr_s (zq_i zq_s) (zq_i (zq_n rfl e_l4)) hy3) (zm_s).symm ?_
    refine zj_pop (pc' := 25) dX7_readPerson_24 rfl rfl ?_
    refine zj_aload_n (pc' := 26) 1 dX7_readPerson_25 rfl rfl rfl ?_
    refine zj_V1 (pc' := 29) (z := YX8_wordHere) (As := []) (N := (zui (zul M 3 y2.2) 3 y3.2)) dX7_readPerson_26 rfl mlX7_133 lkX8_wordHere sh3 ⟨_, _, rfl⟩ rfl rfl (Nat.le_of_ble_eq_true rfl) (Nat.le_of_ble_eq_true rfl) (LX8_wordHere_3 Γ _ y2.2 (zq_i zq_s) rfl) rfl ?_
    refine zj_topl (fun x4 ex4 => ?_)
    have hy := zlet_at ex4 hy
    refine zj_lstore_n (pc' := 30) (L' := [(3, .long x4), (0, .ref (zad Γ 10)), (1, .ref (zad Γ 3)), (2, .ref (zad Γ 25))]) dX7_readPerson_29 rfl rfl (by decide) rfl ?_
    refine zj_aload_n (pc' := 31) 2 dX7_readPerson_30 rfl rfl rfl ?_
    obtain ⟨y5, hy5, hy⟩ := zt_b hy
    refine zj_V0 (pc' := 34) (z := YX8_goOn) (As := []) (N := (zui (zul M 3 y5.2) 3 y5.1)) dX7_readPerson_31 rfl mlX7_126 lkX8_goOn sh3 ⟨_, _, rfl⟩ rfl rfl (Nat.le_of_ble_eq_true rfl) (Nat.le_of_ble_eq_true rfl) (LX8_goOn_3 Γ _ y3.2 y2.2 r1_0 r1_0_0 zr_s (zq_i zq_s) (zr_n rfl (zr_l e_i1)) (zr_n rfl (zr_l e_i2)) hy5) ((zch_i (zm_li zn_s) zm_s)).symm ?_
    refine zj_aload_n (pc' := 35) 2 dX7_readPerson_34 rfl rfl rfl ?_
    refine zj_aload_n (pc' := 36) 1 dX7_readPerson_35 rfl rfl rfl ?_
    obtain ⟨y6, hy6, hy⟩ := zt_b hy
    refine zj_V1 (pc' := 39) (z := YX8_needCorner) (As := [.ref (zad Γ 10)]) (N := (zui (zul M 3 y5.2) 3 y6.2)) dX7_readPerson_36 rfl mlX7_147 lkX8_needCorner sh3 ⟨_, _, rfl⟩ rfl rfl (Nat.le_of_ble_eq_true rfl) (Nat.le_of_ble_eq_true rfl) (LX8_needCorner_3_10 Γ _ y5.1 y5.2 w1_1 r0 w0_0 zr_s (zq_i zq_s) (zq_i (zq_n rfl e_l4)) (zr_n rfl (zr_l e_i10)) (zq_i (zq_n rfl e_l11)) hy6) (zm_s).symm ?_
    refine zj_topi (fun x7 ex7 => ?_)
    have hy := zlet_at ex7 hy
    refine zj_istore (pc' := 41) (L' := [(5, .int x7), (3, .long x4), (0, .ref (zad Γ 10)), (1, .ref (zad Γ 3)), (2, .ref (zad Γ 25))]) dX7_readPerson_39 rfl (by decide) rfl ?_
    refine zj_aload_n (pc' := 42) 3 dX7_readPerson_41 rfl rfl rfl ?_
    obtain ⟨y8, hy8, hy⟩ := zt_b hy
    refine zj_V0 (pc' := 45) (z := YX8_goOn) (As := []) (N := (zui (zul M 3 y8.2) 3 y8.1)) dX7_readPerson_42 rfl mlX7_126 lkX8_goOn sh3 ⟨_, _, rfl⟩ rfl rfl (Nat.le_of_ble_eq_true rfl) (Nat.le_of_ble_eq_true rfl) (LX8_goOn_3 Γ _ y6.2 y5.2 r1_0 r1_0_0 zr_s (zq_i zq_s) (zr_n rfl (zr_l e_i1)) (zr_n rfl (zr_l e_i2)) hy8) ((zch_i (zm_li zn_s) zm_s)).symm ?_
    refine zj_aload_n (pc' := 46) 3 dX7_readPerson_45 rfl rfl rfl ?_
    refine zj_iconst (pc' := 47) dX7_readPerson_46 rfl kiconst_0 ?_
    refine zj_bipush (pc' := 49) dX7_readPerson_47 rfl kbipush_9 ?_
    obtain ⟨y9, hy9, hy⟩ := zt_b hy
    refine zj_V1 (pc' := 52) (z := YX8_takeNumber) (As := [.int 0, .int 9]) (N := (zui (zul M 3 y9.2.2) 3 y9.2.1)) dX7_readPerson_49 rfl mlX7_154 lkX8_takeNumber sh3 ⟨_, _, rfl⟩ rfl rfl (Nat.le_of_ble_eq_true rfl) (Nat.le_of_ble_eq_true rfl) (LX8_takeNumber_3 Γ _ y8.1 y8.2 r1_0 r1_0_0 zr_s (zq_i zq_s) (zr_n rfl (zr_l e_i1)) (zr_n rfl (zr_l e_i2)) 0 9 hy9) ((zch_i (zm_li zn_s) zm_s)).symm ?_
    refine zj_topi (fun x10 ex10 => ?_)
    have hy := zlet_at ex10 hy
    refine zj_istore (pc' := 54) (L' := [(6, .int x10), (5, .int x7), (3, .long x4), (0, .ref (zad Γ 10)), (1, .ref (zad Γ 3)), (2, .ref (zad Γ 25))]) dX7_readPerson_52 rfl (by decide) rfl ?_
    refine zj_aload_n (pc' := 55) 4 dX7_readPerson_54 rfl rfl rfl ?_
    refine zj_V1 (pc' := 58) (z := YX8_isGood) (As := []) (N := (zui (zul M 3 y9.2.2) 3 y9.2.1)) dX7_readPerson_55 rfl mlX7_83 lkX8_isGood sh3 ⟨_, _, rfl⟩ rfl rfl (Nat.le_of_ble_eq_true rfl) (Nat.le_of_ble_eq_true rfl) (LX8_isGood_3 Γ _ y9.2.1 zr_s rfl) rfl ?_
    refine zj_bif_eq (tgt := 93) (pc' := 61) dX7_readPerson_58 rfl (by decide) (fun c11 => ?_) (fun c11 => ?_)
    · have hy := zt_f hy c11
      have e9 := Option.some.inj hy
      subst e9
      refine zj_mem (N := (zui (zul (zul M 3 y9.2.2) 12 w0_1) 3 y9.2.1)) (zself_l (zq_i (zq_n rfl e_l12)) (zm_li rfl)) ?_
      refine zj_mem (N := (zui (zui (zul (zul M 3 y9.2.2) 12 w0_1) 3 y9.2.1) 10 r0)) (zself_i (zr_n rfl (zr_l (zr_l e_i10))) rfl) ?_
      refine zj_mem (N := (zui (zui (zui (zul (zul M 3 y9.2.2) 12 w0_1) 3 y9.2.1) 10 r0) 26 r2_0)) (zself_i (zr_n rfl (zr_n rfl (zr_l (zr_l e_i26)))) rfl) ?_
      refine zj_mem (N := (zui (zui (zui (zui (zul (zul M 3 y9.2.2) 12 w0_1) 3 y9.2.1) 10 r0) 26 r2_0) 27 r2_1)) (zself_i (zr_n rfl (zr_n rfl (zr_n rfl (zr_l (zr_l e_i27))))) rfl) ?_
      exact zj_vret dX7_readPerson_93 rfl hq
    · have hy := zt_t hy c11
      refine zj_aload_n (pc' := 62) 3 dX7_readPerson_61 rfl rfl rfl ?_
      refine zj_getR (pc' := 65) (j := 12) dX7_readPerson_62 rfl flX7_15 sh10 rfl ?_
      refine zj_aload_n (pc' := 66) 3 dX7_readPerson_65 rfl rfl rfl ?_
      refine zj_fI (pc' := 69) dX7_readPerson_66 rfl flX7_32 sh10 rfl (zr_n rfl (zr_l e_i10)) rfl ?_
      refine zj_lload_n (pc' := 70) 2 dX7_readPerson_69 rfl rfl rfl ?_
      obtain ⟨w0_1v12, hw0_1v12, hy⟩ := zt_b hy
      refine zj_wrl (pc' := 71) (N := (zui (zul (zul M 3 y9.2.2) 12 w0_1v12) 3 y9.2.1)) dX7_readPerson_70 rfl sh12 (zq_i (zq_n rfl e_l12)) hw0_1v12 (zm_li rfl) ?_
      refine zj_aload_n (pc' := 72) 5 dX7_readPerson_71 rfl rfl rfl ?_
      refine zj_aload_n (pc' := 73) 3 dX7_readPerson_72 rfl rfl rfl ?_
      refine zj_fI (pc' := 76) dX7_readPerson_73 rfl flX7_32 sh10 rfl (zr_n rfl (zr_l (zr_l e_i10))) rfl ?_
      refine zj_iload (pc' := 78) 1 dX7_readPerson_76 rfl rfl ?_
      refine zj_iload (pc' := 80) 0 dX7_readPerson_78 rfl rfl ?_
      obtain ⟨y13, hy13, hy⟩ := zt_b hy
      refine zj_V0 (pc' := 83) (z := YX1_begin) (As := [.int (r0 6), .int x7, .int x10]) (N := (zui (zui (zui (zul (zul M 3 y9.2.2) 12 w0_1v12) 3 y9.2.1) 26 y13.1) 27 y13.2)) dX7_readPerson_80 rfl mlX7_157 lkX1_begin sh25 ⟨_, _, rfl⟩ rfl rfl (Nat.le_of_ble_eq_true rfl) (Nat.le_of_ble_eq_true rfl) (LX1_begin_25 Γ _ r2_0 r2_1 (zr_n rfl (zr_l (zr_l e_i26))) (zr_n rfl (zr_l (zr_l e_i27))) (r0 6) x7 x10 hy13) ((zch_i rfl rfl)).symm ?_
      refine zj_aload_n (pc' := 84) 3 dX7_readPerson_83 rfl rfl rfl ?_
      refine zj_dup (pc' := 85) dX7_readPerson_84 rfl rfl ?_
      refine zj_fI (pc' := 88) dX7_readPerson_85 rfl flX7_32 sh10 rfl (zr_n rfl (zr_n rfl (zr_n rfl (zr_l (zr_l e_i10))))) rfl ?_
      refine zj_iconst (pc' := 89) dX7_readPerson_88 rfl kiconst_1 ?_
      refine zj_iadd (pc' := 90) dX7_readPerson_89 rfl ?_
      obtain ⟨r0v14, er0v14⟩ : ∃ z, z = (zup r0 6 ((r0 6) + 1)) := ⟨_, rfl⟩
      have hy := zlet_at er0v14 hy
      refine zj_pI (pc' := 93) (N := (zui (zui (zui (zui (zul (zul M 3 y9.2.2) 12 w0_1v12) 3 y9.2.1) 10 r0v14) 26 y13.1) 27 y13.2)) dX7_readPerson_90 rfl fpX7_32 sh10 rfl (zr_n rfl (zr_n rfl (zr_n rfl (zr_l (zr_l e_i10))))) er0v14 (zm_n rfl (zm_n rfl rfl)) ?_
      have e9 := Option.some.inj hy
      subst e9
      exact zj_vret dX7_readPerson_93 rfl hq
  · have hy := zt_f hy c1
    refine zj_aload_n (pc' := 10) 1 dX7_readPerson_9 rfl rfl rfl ?_
    refine zj_iconst (pc' := 11) dX7_readPerson_10 rfl kiconst_4 ?_
    obtain ⟨y15, hy15, hy⟩ := zt_b hy
    refine zj_V0 (pc' := 14) (z := YX8_fail) (As := [.int 4]) (N := (zui M 3 y15)) dX7_readPerson_11 rfl mlX7_123 lkX8_fail sh3 ⟨_, _, rfl⟩ rfl rfl (Nat.le_of_ble_eq_true rfl) (Nat.le_of_ble_eq_true rfl) (LX8_fail_3 Γ _ r1 e_i3 4 hy15) (rfl).symm ?_
    have e9 := Option.some.inj hy
    subst e9
    refine zj_mem (N := (zui (zul M 3 w1) 3 y15)) (zself_l (zq_i e_l3) (zm_li rfl)) ?_
    refine zj_mem (N := (zui (zul (zul M 3 w1) 12 w0_1) 3 y15)) (zself_l (zq_i (zq_n rfl e_l12)) (zm_li rfl)) ?_
    refine zj_mem (N := (zui (zui (zul (zul M 3 w1) 12 w0_1) 3 y15) 10 r0)) (zself_i (zr_n rfl (zr_l (zr_l e_i10))) rfl) ?_
    refine zj_mem (N := (zui (zui (zui (zul (zul M 3 w1) 12 w0_1) 3 y15) 10 r0) 26 r2_0)) (zself_i (zr_n rfl (zr_n rfl (zr_l (zr_l e_i26)))) rfl) ?_
    refine zj_mem (N := (zui (zui (zui (zui (zul (zul M 3 w1) 12 w0_1) 3 y15) 10 r0) 26 r2_0) 27 r2_1)) (zself_i (zr_n rfl (zr_n rfl (zr_n rfl (zr_l (zr_l e_i27))))) rfl) ?_
    exact zj_vret dX7_readPerson_14 rfl hq
set_option maxRecDepth 20000 in
theorem LX7_readPerson_10_3_25 (Γ : zG) (M : zM) (r0 : Nat → Int32) (w0_0 : Nat → Int64) (w0_1 : Nat → Int64) (r1 : Nat → Int32) (w1 : Nat → Int64) (r1_0 : Nat → Int32) (r1_0_0 : Nat → Int32) (w1_1 : Nat → Int64) (r2_0 : Nat → Int32) (r2_1 : Nat → Int32) (e_i10 : M.1 10 = r0) (e_l11 : M.2 11 = w0_0) (e_l12 : M.2 12 = w0_1) (e_i3 : M.1 3 = r1) (e_l3 : M.2 3 = w1) (e_i1 : M.1 1 = r1_0) (e_i2 : M.1 2 = r1_0_0) (e_l4 : M.2 4 = w1_1) (e_i26 : M.1 26 = r2_0) (e_i27 : M.1 27 = r2_1)  {res : (Nat → Int32) × (Nat → Int64) × (Nat → Int32) × (Nat → Int64) × (Nat → Int32) × (Nat → Int32)} (hy : (fPl_readPerson r0 w0_0 w0_1 r1 w1 r1_0 r1_0_0 w1_1 r2_0 r2_1) = some res) : zK Γ 5 YX7_readPerson [.ref (zad Γ 10), .ref (zad Γ 3), .ref (zad Γ 25)] M (fun v N => v = none ∧ N = (zui (zui (zui (zui (zul (zul M 3 res.2.2.2.1) 12 res.2.1) 3 res.2.2.1) 10 res.1) 26 res.2.2.2.2.1) 27 res.2.2.2.2.2)) :=
  zK_of (by decide) (Nat.le_of_ble_eq_true rfl) (TX7_readPerson_10_3_25 Γ M r0 w0_0 w0_1 r1 w1 r1_0 r1_0_0 w1_1 r2_0 r2_1 e_i10 e_l11 e_l12 e_i3 e_l3 e_i1 e_i2 e_l4 e_i26 e_i27 hy ⟨rfl, rfl⟩)

noncomputable def fPl_readStreet (r0 : Nat → Int32) (w0_0 : Nat → Int64) (r0_2 : Nat → Int32) (r1 : Nat → Int32) (w1 : Nat → Int64) (r1_0 : Nat → Int32) (r1_0_0 : Nat → Int32) (w1_1 : Nat → Int64) : Option ((Nat → Int32) × (Nat → Int32) × (Nat → Int32) × (Nat → Int64)) :=
  (if (r0 5) < 14 then
  (fRd_goOn r1 w1 r1_0 r1_0_0).bind (fun (y2 : (Nat → Int32) × (Nat → Int64)) =>
  (fRd_needCorner y2.1 y2.2 w1_1 r0 w0_0).bind (fun (y3 : Int32 × (Nat → Int32)) =>
  zlet y3.1 (fun (x4 : Int32) =>
  (fRd_goOn y3.2 y2.2 r1_0 r1_0_0).bind (fun (y5 : (Nat → Int32) × (Nat → Int64)) =>
  (fRd_needCorner y5.1 y5.2 w1_1 r0 w0_0).bind (fun (y6 : Int32 × (Nat → Int32)) =>
  zlet y6.1 (fun (x7 : Int32) =>
  zlet (fun (r1v8 : Nat → Int32) =>
  (fRd_goOn r1v8 y5.2 r1_0 r1_0_0).bind (fun (y9 : (Nat → Int32) × (Nat → Int64)) =>
  (if (fRd_isGood y9.1) = true then
  (if (fPl_hasCorner r0 x4) = true then
  (if (fPl_hasCorner r0 x7) = true then
  (zrd r0_2 8 x4).bind (fun (v13 : Int32) =>
  (zwr r0_2 8 x4 (v13 ||| ((1 : Int32) <<< (x7 &&& 31)))).bind (fun (r0_2v14 : Nat → Int32) =>
  (zrd r0_2v14 8 x7).bind (fun (v15 : Int32) =>
  (zwr r0_2v14 8 x7 (v15 ||| ((1 : Int32) <<< (x4 &&& 31)))).bind (fun (r0_2v16 : Nat → Int32) =>
  zlet (zup r0 5 ((r0 5) + 1)) (fun (r0v17 : Nat → Int32) =>
  some (r0v17, r0_2v16, y9.1, y9.2))))))
  else
  some (r0, r0_2, y9.1, y9.2))
  else
  some (r0, r0_2, y9.1, y9.2))
  else
  some (r0, r0_2, y9.1, y9.2)))) (fun J18 =>
  zlet (fun (u9 : Unit) =>
  (fRd_fail y6.2 3).bind (fun (y19 : (Nat → Int32)) =>
  J18 y19)) (fun J20 =>
  (if x4 = x7 then
  J20 ()
  else
  (fPl_areBeside r0 r0_2 x4 x7).bind (fun (y22 : Bool) =>
  (if y22 = true then
  J20 ()
  else
  J18 y6.2)))))))))))
  else
  (fRd_fail r1 4).bind (fun (y24 : (Nat → Int32)) =>
  some (r0, r0_2, y24, w1)))

set_option maxRecDepth 20000 in
theorem TX7_readStreet_10_3 (Γ : zG) {Q : Option Value → zM → Prop} (M : zM) (r0 : Nat → Int32) (w0_0 : Nat → Int64) (r0_2 : Nat → Int32) (r1 : Nat → Int32) (w1 : Nat → Int64) (r1_0 : Nat → Int32) (r1_0_0 : Nat → Int32) (w1_1 : Nat → Int64) (e_i10 : M.1 10 = r0) (e_l11 : M.2 11 = w0_0) (e_i13 : M.1 13 = r0_2) (e_i3 : M.1 3 = r1) (e_l3 : M.2 3 = w1) (e_i1 : M.1 1 = r1_0) (e_i2 : M.1 2 = r1_0_0) (e_l4 : M.2 4 = w1_1)  {res : (Nat → Int32) × (Nat → Int32) × (Nat → Int32) × (Nat → Int64)} (hy : (fPl_readStreet r0 w0_0 r0_2 r1 w1 r1_0 r1_0_0 w1_1) = some res) (hq : Q none (zui (zui (zui (zul M 3 res.2.2.2) 3 res.2.2.1) 10 res.1) 13 res.2.1)) : zR Γ 4 YX7_readStreet 0 [(0, .ref (zad Γ 10)), (1, .ref (zad Γ 3))] [] M Q := by
  unfold fPl_readStreet at hy
  refine zj_aload_n (pc' := 1) 0 dX7_readStreet_0 rfl rfl rfl ?_
  refine zj_fI (pc' := 4) dX7_readStreet_1 rfl flX7_29 sh10 rfl e_i10 rfl ?_
  refine zj_bipush (pc' := 6) dX7_readStreet_4 rfl kbipush_14 ?_
  refine zj_icmp_lt (tgt := 15) (pc' := 9) dX7_readStreet_6 rfl (by decide) (fun c1 => ?_) (fun c1 => ?_)
  · have hy := zt_t hy c1
    refine zj_aload_n (pc' := 16) 1 dX7_readStreet_15 rfl rfl rfl ?_
    obtain ⟨y2, hy2, hy⟩ := zt_b hy
    refine zj_V0 (pc' := 19) (z := YX8_goOn) (As := []) (N := (zui (zul M 3 y2.2) 3 y2.1)) dX7_readStreet_16 rfl mlX7_126 lkX8_goOn sh3 ⟨_, _, rfl⟩ rfl rfl (Nat.le_of_ble_eq_true rfl) (Nat.le_of_ble_eq_true rfl) (LX8_goOn_3 Γ _ r1 w1 r1_0 r1_0_0 e_i3 e_l3 e_i1 e_i2 hy2) ((zch_i rfl rfl)).symm ?_
    refine zj_aload_n (pc' := 20) 1 dX7_readStreet_19 rfl rfl rfl ?_
    refine zj_aload_n (pc' := 21) 0 dX7_readStreet_20 rfl rfl rfl ?_
    obtain ⟨y3, hy3, hy⟩ := zt_b hy
    refine zj_V1 (pc' := 24) (z := YX8_needCorner) (As := [.ref (zad Γ 10)]) (N := (zui (zul M 3 y2.2) 3 y3.2)) dX7_readStreet_21 rfl mlX7_147 lkX8_needCorner sh3 ⟨_, _, rfl⟩ rfl rfl (Nat.le_of_ble_eq_true rfl) (Nat.le_of_ble_eq_true rfl) (LX8_needCorner_3_10 Γ _ y2.1 y2.2 w1_1 r0 w0_0 zr_s (zq_i zq_s) (zq_i (zq_n rfl e_l4)) (zr_n rfl (zr_l e_i10)) (zq_i (zq_n rfl e_l11)) hy3) (zm_s).symm ?_
    refine zj_topi (fun x4 ex4 => ?_)
    have hy := zlet_at ex4 hy
    refine zj_istore_n (pc' := 25) (L' := [(2, .int x4), (0, .ref (zad Γ 10)), (1, .ref (zad Γ 3))]) dX7_readStreet_24 rfl rfl (by decide) rfl ?_
    refine zj_aload_n (pc' := 26) 2 dX7_readStreet_25 rfl rfl rfl ?_
    obtain ⟨y5, hy5, hy⟩ := zt_b hy
    refine zj_V0 (pc' := 29) (z := YX8_goOn) (As := []) (N := (zui (zul M 3 y5.2) 3 y5.1)) dX7_readStreet_26 rfl mlX7_126 lkX8_goOn sh3 ⟨_, _, rfl⟩ rfl rfl (Nat.le_of_ble_eq_true rfl) (Nat.le_of_ble_eq_true rfl) (LX8_goOn_3 Γ _ y3.2 y2.2 r1_0 r1_0_0 zr_s (zq_i zq_s) (zr_n rfl (zr_l e_i1)) (zr_n rfl (zr_l e_i2)) hy5) ((zch_i (zm_li zn_s) zm_s)).symm ?_
    refine zj_aload_n (pc' := 30) 2 dX7_readStreet_29 rfl rfl rfl ?_
    refine zj_aload_n (pc' := 31) 1 dX7_readStreet_30 rfl rfl rfl ?_
    obtain ⟨y6, hy6, hy⟩ := zt_b hy
    refine zj_V1 (pc' := 34) (z := YX8_needCorner) (As := [.ref (zad Γ 10)]) (N := (zui (zul M 3 y5.2) 3 y6.2)) dX7_readStreet_31 rfl mlX7_147 lkX8_needCorner sh3 ⟨_, _, rfl⟩ rfl rfl (Nat.le_of_ble_eq_true rfl) (Nat.le_of_ble_eq_true rfl) (LX8_needCorner_3_10 Γ _ y5.1 y5.2 w1_1 r0 w0_0 zr_s (zq_i zq_s) (zq_i (zq_n rfl e_l4)) (zr_n rfl (zr_l e_i10)) (zq_i (zq_n rfl e_l11)) hy6) (zm_s).symm ?_
    refine zj_topi (fun x7 ex7 => ?_)
    have hy := zlet_at ex7 hy
    refine zj_istore_n (pc' := 35) (L' := [(3, .int x7), (2, .int x4), (0, .ref (zad Γ 10)), (1, .ref (zad Γ 3))]) dX7_readStreet_34 rfl rfl (by decide) rfl ?_
    refine zj_iload_n (pc' := 36) 1 dX7_readStreet_35 rfl rfl rfl ?_
    refine zj_iload_n (pc' := 37) 0 dX7_readStreet_36 rfl rfl rfl ?_
    obtain ⟨J18, eJ18, hy⟩ := zlet_ex hy
    have HJ18 : ∀ (r1v8 : Nat → Int32), J18 r1v8 = some res → zR Γ 4 YX7_readStreet 54 [(0, .ref (zad Γ 10)), (1, .ref (zad Γ 3)), (2, .int x4), (3, .int x7)] [] (zui (zul M 3 y5.2) 3 r1v8) Q := by
      intro r1v8 hy
      have hy := zap1 eJ18 hy
      refine zj_aload_n (pc' := 55) 1 dX7_readStreet_54 rfl rfl rfl ?_
      obtain ⟨y9, hy9, hy⟩ := zt_b hy
      refine zj_V0 (pc' := 58) (z := YX8_goOn) (As := []) (N := (zui (zul M 3 y9.2) 3 y9.1)) dX7_readStreet_55 rfl mlX7_126 lkX8_goOn sh3 ⟨_, _, rfl⟩ rfl rfl (Nat.le_of_ble_eq_true rfl) (Nat.le_of_ble_eq_true rfl) (LX8_goOn_3 Γ _ r1v8 y5.2 r1_0 r1_0_0 zr_s (zq_i zq_s) (zr_n rfl (zr_l e_i1)) (zr_n rfl (zr_l e_i2)) hy9) ((zch_i (zm_li zn_s) zm_s)).symm ?_
      refine zj_aload_n (pc' := 59) 1 dX7_readStreet_58 rfl rfl rfl ?_
      refine zj_V1 (pc' := 62) (z := YX8_isGood) (As := []) (N := (zui (zul M 3 y9.2) 3 y9.1)) dX7_readStreet_59 rfl mlX7_83 lkX8_isGood sh3 ⟨_, _, rfl⟩ rfl rfl (Nat.le_of_ble_eq_true rfl) (Nat.le_of_ble_eq_true rfl) (LX8_isGood_3 Γ _ y9.1 zr_s rfl) rfl ?_
      refine zj_bif_eq (tgt := 115) (pc' := 65) dX7_readStreet_62 rfl (by decide) (fun c10 => ?_) (fun c10 => ?_)
      · have hy := zt_f hy c10
        have e9 := Option.some.inj hy
        subst e9
        refine zj_mem (N := (zui (zui (zul M 3 y9.2) 3 y9.1) 10 r0)) (zself_i (zr_n rfl (zr_l e_i10)) rfl) ?_
        refine zj_mem (N := (zui (zui (zui (zul M 3 y9.2) 3 y9.1) 10 r0) 13 r0_2)) (zself_i (zr_n rfl (zr_n rfl (zr_l e_i13))) rfl) ?_
        exact zj_vret dX7_readStreet_115 rfl hq
      · have hy := zt_t hy c10
        refine zj_aload_n (pc' := 66) 0 dX7_readStreet_65 rfl rfl rfl ?_
        refine zj_iload_n (pc' := 67) 2 dX7_readStreet_66 rfl rfl rfl ?_
        refine zj_V1 (pc' := 70) (z := YX7_hasCorner) (As := [.int x4]) (N := (zui (zul M 3 y9.2) 3 y9.1)) dX7_readStreet_67 rfl mlX7_35 lkX7_hasCorner sh10 ⟨_, _, rfl⟩ rfl rfl (Nat.le_of_ble_eq_true rfl) (Nat.le_of_ble_eq_true rfl) (LX7_hasCorner_10 Γ _ r0 (zr_n rfl (zr_l e_i10)) x4 rfl) rfl ?_
        refine zj_bif_eq (tgt := 115) (pc' := 73) dX7_readStreet_70 rfl (by decide) (fun c11 => ?_) (fun c11 => ?_)
        · have hy := zt_f hy c11
          have e9 := Option.some.inj hy
          subst e9
          refine zj_mem (N := (zui (zui (zul M 3 y9.2) 3 y9.1) 10 r0)) (zself_i (zr_n rfl (zr_l e_i10)) rfl) ?_
          refine zj_mem (N := (zui (zui (zui (zul M 3 y9.2) 3 y9.1) 10 r0) 13 r0_2)) (zself_i (zr_n rfl (zr_n rfl (zr_l e_i13))) rfl) ?_
          exact zj_vret dX7_readStreet_115 rfl hq
        · have hy := zt_t hy c11
          refine zj_aload_n (pc' := 74) 0 dX7_readStreet_73 rfl rfl rfl ?_
          refine zj_iload_n (pc' := 75) 3 dX7_readStreet_74 rfl rfl rfl ?_
          refine zj_V1 (pc' := 78) (z := YX7_hasCorner) (As := [.int x7]) (N := (zui (zul M 3 y9.2) 3 y9.1)) dX7_readStreet_75 rfl mlX7_35 lkX7_hasCorner sh10 ⟨_, _, rfl⟩ rfl rfl (Nat.le_of_ble_eq_true rfl) (Nat.le_of_ble_eq_true rfl) (LX7_hasCorner_10 Γ _ r0 (zr_n rfl (zr_l e_i10)) x7 rfl) rfl ?_
          refine zj_bif_eq (tgt := 115) (pc' := 81) dX7_readStreet_78 rfl (by decide) (fun c12 => ?_) (fun c12 => ?_)
          · have hy := zt_f hy c12
            have e9 := Option.some.inj hy
            subst e9
            refine zj_mem (N := (zui (zui (zul M 3 y9.2) 3 y9.1) 10 r0)) (zself_i (zr_n rfl (zr_l e_i10)) rfl) ?_
            refine zj_mem (N := (zui (zui (zui (zul M 3 y9.2) 3 y9.1) 10 r0) 13 r0_2)) (zself_i (zr_n rfl (zr_n rfl (zr_l e_i13))) rfl) ?_
            exact zj_vret dX7_readStreet_115 rfl hq
          · have hy := zt_t hy c12
            refine zj_aload_n (pc' := 82) 0 dX7_readStreet_81 rfl rfl rfl ?_
            refine zj_getR (pc' := 85) (j := 13) dX7_readStreet_82 rfl flX7_18 sh10 rfl ?_
            refine zj_iload_n (pc' := 86) 2 dX7_readStreet_85 rfl rfl rfl ?_
            refine zj_dup2 (pc' := 87) dX7_readStreet_86 rfl rfl rfl ?_
            obtain ⟨v13, hv13, hy⟩ := zt_b hy
            refine zj_rdi (pc' := 88) dX7_readStreet_87 rfl sh13 (zr_n rfl (zr_l e_i13)) hv13 ?_
            refine zj_iconst (pc' := 89) dX7_readStreet_88 rfl kiconst_1 ?_
            refine zj_iload_n (pc' := 90) 3 dX7_readStreet_89 rfl rfl rfl ?_
            refine zj_ishl (pc' := 91) dX7_readStreet_90 rfl ?_
            refine zj_ior (pc' := 92) dX7_readStreet_91 rfl ?_
            obtain ⟨r0_2v14, hr0_2v14, hy⟩ := zt_b hy
            refine zj_wri (pc' := 93) (N := (zui (zui (zul M 3 y9.2) 3 y9.1) 13 r0_2v14)) dX7_readStreet_92 rfl sh13 (zr_n rfl (zr_l e_i13)) hr0_2v14 rfl ?_
            refine zj_aload_n (pc' := 94) 0 dX7_readStreet_93 rfl rfl rfl ?_
            refine zj_getR (pc' := 97) (j := 13) dX7_readStreet_94 rfl flX7_18 sh10 rfl ?_
            refine zj_iload_n (pc' := 98) 3 dX7_readStreet_97 rfl rfl rfl ?_
            refine zj_dup2 (pc' := 99) dX7_readStreet_98 rfl rfl rfl ?_
            obtain ⟨v15, hv15, hy⟩ := zt_b hy
            refine zj_rdi (pc' := 100) dX7_readStreet_99 rfl sh13 zr_s hv15 ?_
            refine zj_iconst (pc' := 101) dX7_readStreet_100 rfl kiconst_1 ?_
            refine zj_iload_n (pc' := 102) 2 dX7_readStreet_101 rfl rfl rfl ?_
            refine zj_ishl (pc' := 103) dX7_readStreet_102 rfl ?_
            refine zj_ior (pc' := 104) dX7_readStreet_103 rfl ?_
            obtain ⟨r0_2v16, hr0_2v16, hy⟩ := zt_b hy
            refine zj_wri (pc' := 105) (N := (zui (zui (zul M 3 y9.2) 3 y9.1) 13 r0_2v16)) dX7_readStreet_104 rfl sh13 zr_s hr0_2v16 zm_s ?_
            refine zj_aload_n (pc' := 106) 0 dX7_readStreet_105 rfl rfl rfl ?_
            refine zj_dup (pc' := 107) dX7_readStreet_106 rfl rfl ?_
            refine zj_fI (pc' := 110) dX7_readStreet_107 rfl flX7_29 sh10 rfl (zr_n rfl (zr_n rfl (zr_l e_i10))) rfl ?_
            refine zj_iconst (pc' := 111) dX7_readStreet_110 rfl kiconst_1 ?_
            refine zj_iadd (pc' := 112) dX7_readStreet_111 rfl ?_
            obtain ⟨r0v17, er0v17⟩ : ∃ z, z = (zup r0 5 ((r0 5) + 1)) := ⟨_, rfl⟩
            have hy := zlet_at er0v17 hy
            refine zj_pI (pc' := 115) (N := (zui (zui (zui (zul M 3 y9.2) 3 y9.1) 10 r0v17) 13 r0_2v16)) dX7_readStreet_112 rfl fpX7_29 sh10 rfl (zr_n rfl (zr_n rfl (zr_l e_i10))) er0v17 (zm_n rfl rfl) ?_
            have e9 := Option.some.inj hy
            subst e9
            exact zj_vret dX7_readStreet_115 rfl hq
    obtain ⟨J20, eJ20, hy⟩ := zlet_ex hy
    have HJ20 : ∀ (u9 : Unit), J20 u9 = some res → zR Γ 4 YX7_readStreet 49 [(0, .ref (zad Γ 10)), (1, .ref (zad Γ 3)), (2, .int x4), (3, .int x7)] [] (zui (zul M 3 y5.2) 3 y6.2) Q := by
      intro u9 hy
      have hy := zap1 eJ20 hy
      refine zj_aload_n (pc' := 50) 1 dX7_readStreet_49 rfl rfl rfl ?_
      refine zj_iconst (pc' := 51) dX7_readStreet_50 rfl kiconst_3 ?_
      obtain ⟨y19, hy19, hy⟩ := zt_b hy
      refine zj_V0 (pc' := 54) (z := YX8_fail) (As := [.int 3]) (N := (zui (zul M 3 y5.2) 3 y19)) dX7_readStreet_51 rfl mlX7_123 lkX8_fail sh3 ⟨_, _, rfl⟩ rfl rfl (Nat.le_of_ble_eq_true rfl) (Nat.le_of_ble_eq_true rfl) (LX8_fail_3 Γ _ y6.2 zr_s 3 hy19) (zm_s).symm ?_
      exact HJ18 y19 hy
    refine zj_icmp_eq (tgt := 49) (pc' := 40) dX7_readStreet_37 rfl (by decide) (fun c21 => ?_) (fun c21 => ?_)
    · have hy := zt_t hy c21
      refine zj_loc [2, 3, 1, 0] rfl ?_
      exact HJ20 () hy
    · have hy := zt_f hy c21
      refine zj_aload_n (pc' := 41) 2 dX7_readStreet_40 rfl rfl rfl ?_
      refine zj_iload_n (pc' := 42) 1 dX7_readStreet_41 rfl rfl rfl ?_
      refine zj_iload_n (pc' := 43) 0 dX7_readStreet_42 rfl rfl rfl ?_
      obtain ⟨y22, hy22, hy⟩ := zt_b hy
      refine zj_V1 (pc' := 46) (z := YX7_areBeside) (As := [.int x4, .int x7]) (N := (zui (zul M 3 y5.2) 3 y6.2)) dX7_readStreet_43 rfl mlX7_151 lkX7_areBeside sh10 ⟨_, _, rfl⟩ rfl rfl (Nat.le_of_ble_eq_true rfl) (Nat.le_of_ble_eq_true rfl) (LX7_areBeside_10 Γ _ r0 r0_2 (zr_n rfl (zr_l e_i10)) (zr_n rfl (zr_l e_i13)) x4 x7 hy22) rfl ?_
      refine zj_bif_eq (tgt := 54) (pc' := 49) dX7_readStreet_46 rfl (by decide) (fun c23 => ?_) (fun c23 => ?_)
      · have hy := zt_f hy c23
        refine zj_loc [2, 3, 1, 0] rfl ?_
        exact HJ18 y6.2 hy
      · have hy := zt_t hy c23
        refine zj_loc [2, 3, 1, 0] rfl ?_
        exact HJ20 () hy
  · have hy := zt_f hy c1
    refine zj_aload_n (pc' := 10) 1 dX7_readStreet_9 rfl rfl rfl ?_
    refine zj_iconst (pc' := 11) dX7_readStreet_10 rfl kiconst_4 ?_
    obtain ⟨y24, hy24, hy⟩ := zt_b hy
    refine zj_V0 (pc' := 14) (z := YX8_fail) (As := [.int 4]) (N := (zui M 3 y24)) dX7_readStreet_11 rfl mlX7_123 lkX8_fail sh3 ⟨_, _, rfl⟩ rfl rfl (Nat.le_of_ble_eq_true rfl) (Nat.le_of_ble_eq_true rfl) (LX8_fail_3 Γ _ r1 e_i3 4 hy24) (rfl).symm ?_
    have e9 := Option.some.inj hy
    subst e9
    refine zj_mem (N := (zui (zul M 3 w1) 3 y24)) (zself_l (zq_i e_l3) (zm_li rfl)) ?_
    refine zj_mem (N := (zui (zui (zul M 3 w1) 3 y24) 10 r0)) (zself_i (zr_n rfl (zr_l e_i10)) rfl) ?_
    refine zj_mem (N := (zui (zui (zui (zul M 3 w1) 3 y24) 10 r0) 13 r0_2)) (zself_i (zr_n rfl (zr_n rfl (zr_l e_i13))) rfl) ?_
    exact zj_vret dX7_readStreet_14 rfl hq
set_option maxRecDepth 20000 in
theorem LX7_readStreet_10_3 (Γ : zG) (M : zM) (r0 : Nat → Int32) (w0_0 : Nat → Int64) (r0_2 : Nat → Int32) (r1 : Nat → Int32) (w1 : Nat → Int64) (r1_0 : Nat → Int32) (r1_0_0 : Nat → Int32) (w1_1 : Nat → Int64) (e_i10 : M.1 10 = r0) (e_l11 : M.2 11 = w0_0) (e_i13 : M.1 13 = r0_2) (e_i3 : M.1 3 = r1) (e_l3 : M.2 3 = w1) (e_i1 : M.1 1 = r1_0) (e_i2 : M.1 2 = r1_0_0) (e_l4 : M.2 4 = w1_1)  {res : (Nat → Int32) × (Nat → Int32) × (Nat → Int32) × (Nat → Int64)} (hy : (fPl_readStreet r0 w0_0 r0_2 r1 w1 r1_0 r1_0_0 w1_1) = some res) : zK Γ 4 YX7_readStreet [.ref (zad Γ 10), .ref (zad Γ 3)] M (fun v N => v = none ∧ N = (zui (zui (zui (zul M 3 res.2.2.2) 3 res.2.2.1) 10 res.1) 13 res.2.1)) :=
  zK_of (by decide) (Nat.le_of_ble_eq_true rfl) (TX7_readStreet_10_3 Γ M r0 w0_0 r0_2 r1 w1 r1_0 r1_0_0 w1_1 e_i10 e_l11 e_i13 e_i3 e_l3 e_i1 e_i2 e_l4 hy ⟨rfl, rfl⟩)

noncomputable def fPl_readCorner (r0 : Nat → Int32) (w0_0 : Nat → Int64) (w0_1 : Nat → Int64) (r1 : Nat → Int32) (w1 : Nat → Int64) (r1_0 : Nat → Int32) (r1_0_0 : Nat → Int32) (w1_1 : Nat → Int64) : Option ((Nat → Int32) × (Nat → Int64) × (Nat → Int32) × (Nat → Int64)) :=
  (if (r0 4) < 8 then
  (fRd_goOn r1 w1 r1_0 r1_0_0).bind (fun (y2 : (Nat → Int32) × (Nat → Int64)) =>
  (fPl_needNewName r0 w0_0 w0_1 y2.1 y2.2 w1_1).bind (fun (y3 : Bool × (Nat → Int32)) =>
  (if y3.1 = true then
  (zwr w0_0 8 (r0 4) (fRd_wordHere y2.2)).bind (fun (w0_0v5 : Nat → Int64) =>
  zlet (zup r0 4 ((r0 4) + 1)) (fun (r0v6 : Nat → Int32) =>
  (fRd_goOn y3.2 y2.2 r1_0 r1_0_0).bind (fun (y7 : (Nat → Int32) × (Nat → Int64)) =>
  some (r0v6, w0_0v5, y7.1, y7.2))))
  else
  (fRd_goOn y3.2 y2.2 r1_0 r1_0_0).bind (fun (y8 : (Nat → Int32) × (Nat → Int64)) =>
  some (r0, w0_0, y8.1, y8.2)))))
  else
  (fRd_fail r1 4).bind (fun (y9 : (Nat → Int32)) =>
  some (r0, w0_0, y9, w1)))

set_option maxRecDepth 20000 in
theorem TX7_readCorner_10_3 (Γ : zG) {Q : Option Value → zM → Prop} (M : zM) (r0 : Nat → Int32) (w0_0 : Nat → Int64) (w0_1 : Nat → Int64) (r1 : Nat → Int32) (w1 : Nat → Int64) (r1_0 : Nat → Int32) (r1_0_0 : Nat → Int32) (w1_1 : Nat → Int64) (e_i10 : M.1 10 = r0) (e_l11 : M.2 11 = w0_0) (e_l12 : M.2 12 = w0_1) (e_i3 : M.1 3 = r1) (e_l3 : M.2 3 = w1) (e_i1 : M.1 1 = r1_0) (e_i2 : M.1 2 = r1_0_0) (e_l4 : M.2 4 = w1_1)  {res : (Nat → Int32) × (Nat → Int64) × (Nat → Int32) × (Nat → Int64)} (hy : (fPl_readCorner r0 w0_0 w0_1 r1 w1 r1_0 r1_0_0 w1_1) = some res) (hq : Q none (zui (zui (zul (zul M 3 res.2.2.2) 11 res.2.1) 3 res.2.2.1) 10 res.1)) : zR Γ 4 YX7_readCorner 0 [(0, .ref (zad Γ 10)), (1, .ref (zad Γ 3))] [] M Q := by
  unfold fPl_readCorner at hy
  refine zj_aload_n (pc' := 1) 0 dX7_readCorner_0 rfl rfl rfl ?_
  refine zj_fI (pc' := 4) dX7_readCorner_1 rfl flX7_25 sh10 rfl e_i10 rfl ?_
  refine zj_bipush (pc' := 6) dX7_readCorner_4 rfl kbipush_8 ?_
  refine zj_icmp_lt (tgt := 15) (pc' := 9) dX7_readCorner_6 rfl (by decide) (fun c1 => ?_) (fun c1 => ?_)
  · have hy := zt_t hy c1
    refine zj_aload_n (pc' := 16) 1 dX7_readCorner_15 rfl rfl rfl ?_
    obtain ⟨y2, hy2, hy⟩ := zt_b hy
    refine zj_V0 (pc' := 19) (z := YX8_goOn) (As := []) (N := (zui (zul M 3 y2.2) 3 y2.1)) dX7_readCorner_16 rfl mlX7_126 lkX8_goOn sh3 ⟨_, _, rfl⟩ rfl rfl (Nat.le_of_ble_eq_true rfl) (Nat.le_of_ble_eq_true rfl) (LX8_goOn_3 Γ _ r1 w1 r1_0 r1_0_0 e_i3 e_l3 e_i1 e_i2 hy2) ((zch_i rfl rfl)).symm ?_
    refine zj_aload_n (pc' := 20) 0 dX7_readCorner_19 rfl rfl rfl ?_
    refine zj_aload_n (pc' := 21) 1 dX7_readCorner_20 rfl rfl rfl ?_
    obtain ⟨y3, hy3, hy⟩ := zt_b hy
    refine zj_V1 (pc' := 24) (z := YX7_needNewName) (As := [.ref (zad Γ 3)]) (N := (zui (zul M 3 y2.2) 3 y3.2)) dX7_readCorner_21 rfl mlX7_129 lkX7_needNewName sh10 ⟨_, _, rfl⟩ rfl rfl (Nat.le_of_ble_eq_true rfl) (Nat.le_of_ble_eq_true rfl) (LX7_needNewName_10_3 Γ _ r0 w0_0 w0_1 y2.1 y2.2 w1_1 (zr_n rfl (zr_l e_i10)) (zq_i (zq_n rfl e_l11)) (zq_i (zq_n rfl e_l12)) zr_s (zq_i zq_s) (zq_i (zq_n rfl e_l4)) hy3) (zm_s).symm ?_
    refine zj_bif_eq (tgt := 50) (pc' := 27) dX7_readCorner_24 rfl (by decide) (fun c4 => ?_) (fun c4 => ?_)
    · have hy := zt_f hy c4
      refine zj_aload_n (pc' := 51) 1 dX7_readCorner_50 rfl rfl rfl ?_
      obtain ⟨y8, hy8, hy⟩ := zt_b hy
      refine zj_V0 (pc' := 54) (z := YX8_goOn) (As := []) (N := (zui (zul M 3 y8.2) 3 y8.1)) dX7_readCorner_51 rfl mlX7_126 lkX8_goOn sh3 ⟨_, _, rfl⟩ rfl rfl (Nat.le_of_ble_eq_true rfl) (Nat.le_of_ble_eq_true rfl) (LX8_goOn_3 Γ _ y3.2 y2.2 r1_0 r1_0_0 zr_s (zq_i zq_s) (zr_n rfl (zr_l e_i1)) (zr_n rfl (zr_l e_i2)) hy8) ((zch_i (zm_li zn_s) zm_s)).symm ?_
      have e9 := Option.some.inj hy
      subst e9
      refine zj_mem (N := (zui (zul (zul M 3 y8.2) 11 w0_0) 3 y8.1)) (zself_l (zq_i (zq_n rfl e_l11)) (zm_li rfl)) ?_
      refine zj_mem (N := (zui (zui (zul (zul M 3 y8.2) 11 w0_0) 3 y8.1) 10 r0)) (zself_i (zr_n rfl (zr_l (zr_l e_i10))) rfl) ?_
      exact zj_vret dX7_readCorner_54 rfl hq
    · have hy := zt_t hy c4
      refine zj_aload_n (pc' := 28) 0 dX7_readCorner_27 rfl rfl rfl ?_
      refine zj_getR (pc' := 31) (j := 11) dX7_readCorner_28 rfl flX7_9 sh10 rfl ?_
      refine zj_aload_n (pc' := 32) 0 dX7_readCorner_31 rfl rfl rfl ?_
      refine zj_fI (pc' := 35) dX7_readCorner_32 rfl flX7_25 sh10 rfl (zr_n rfl (zr_l e_i10)) rfl ?_
      refine zj_aload_n (pc' := 36) 1 dX7_readCorner_35 rfl rfl rfl ?_
      refine zj_V1 (pc' := 39) (z := YX8_wordHere) (As := []) (N := (zui (zul M 3 y2.2) 3 y3.2)) dX7_readCorner_36 rfl mlX7_133 lkX8_wordHere sh3 ⟨_, _, rfl⟩ rfl rfl (Nat.le_of_ble_eq_true rfl) (Nat.le_of_ble_eq_true rfl) (LX8_wordHere_3 Γ _ y2.2 (zq_i zq_s) rfl) rfl ?_
      obtain ⟨w0_0v5, hw0_0v5, hy⟩ := zt_b hy
      refine zj_wrl (pc' := 40) (N := (zui (zul (zul M 3 y2.2) 11 w0_0v5) 3 y3.2)) dX7_readCorner_39 rfl sh11 (zq_i (zq_n rfl e_l11)) hw0_0v5 (zm_li rfl) ?_
      refine zj_aload_n (pc' := 41) 0 dX7_readCorner_40 rfl rfl rfl ?_
      refine zj_dup (pc' := 42) dX7_readCorner_41 rfl rfl ?_
      refine zj_fI (pc' := 45) dX7_readCorner_42 rfl flX7_25 sh10 rfl (zr_n rfl (zr_l (zr_l e_i10))) rfl ?_
      refine zj_iconst (pc' := 46) dX7_readCorner_45 rfl kiconst_1 ?_
      refine zj_iadd (pc' := 47) dX7_readCorner_46 rfl ?_
      obtain ⟨r0v6, er0v6⟩ : ∃ z, z = (zup r0 4 ((r0 4) + 1)) := ⟨_, rfl⟩
      have hy := zlet_at er0v6 hy
      refine zj_pI (pc' := 50) (N := (zui (zui (zul (zul M 3 y2.2) 11 w0_0v5) 3 y3.2) 10 r0v6)) dX7_readCorner_47 rfl fpX7_25 sh10 rfl (zr_n rfl (zr_l (zr_l e_i10))) er0v6 rfl ?_
      refine zj_aload_n (pc' := 51) 1 dX7_readCorner_50 rfl rfl rfl ?_
      obtain ⟨y7, hy7, hy⟩ := zt_b hy
      refine zj_V0 (pc' := 54) (z := YX8_goOn) (As := []) (N := (zui (zui (zul (zul M 3 y7.2) 11 w0_0v5) 3 y7.1) 10 r0v6)) dX7_readCorner_51 rfl mlX7_126 lkX8_goOn sh3 ⟨_, _, rfl⟩ rfl rfl (Nat.le_of_ble_eq_true rfl) (Nat.le_of_ble_eq_true rfl) (LX8_goOn_3 Γ _ y3.2 y2.2 r1_0 r1_0_0 (zr_n rfl zr_s) (zq_i (zq_i (zq_n rfl zq_s))) (zr_n rfl (zr_n rfl (zr_l (zr_l e_i1)))) (zr_n rfl (zr_n rfl (zr_l (zr_l e_i2)))) hy7) ((zch_i (zm_li (zm_li (zn_n rfl zn_s))) (zm_n rfl zm_s))).symm ?_
      have e9 := Option.some.inj hy
      subst e9
      exact zj_vret dX7_readCorner_54 rfl hq
  · have hy := zt_f hy c1
    refine zj_aload_n (pc' := 10) 1 dX7_readCorner_9 rfl rfl rfl ?_
    refine zj_iconst (pc' := 11) dX7_readCorner_10 rfl kiconst_4 ?_
    obtain ⟨y9, hy9, hy⟩ := zt_b hy
    refine zj_V0 (pc' := 14) (z := YX8_fail) (As := [.int 4]) (N := (zui M 3 y9)) dX7_readCorner_11 rfl mlX7_123 lkX8_fail sh3 ⟨_, _, rfl⟩ rfl rfl (Nat.le_of_ble_eq_true rfl) (Nat.le_of_ble_eq_true rfl) (LX8_fail_3 Γ _ r1 e_i3 4 hy9) (rfl).symm ?_
    have e9 := Option.some.inj hy
    subst e9
    refine zj_mem (N := (zui (zul M 3 w1) 3 y9)) (zself_l (zq_i e_l3) (zm_li rfl)) ?_
    refine zj_mem (N := (zui (zul (zul M 3 w1) 11 w0_0) 3 y9)) (zself_l (zq_i (zq_n rfl e_l11)) (zm_li rfl)) ?_
    refine zj_mem (N := (zui (zui (zul (zul M 3 w1) 11 w0_0) 3 y9) 10 r0)) (zself_i (zr_n rfl (zr_l (zr_l e_i10))) rfl) ?_
    exact zj_vret dX7_readCorner_14 rfl hq
set_option maxRecDepth 20000 in
theorem LX7_readCorner_10_3 (Γ : zG) (M : zM) (r0 : Nat → Int32) (w0_0 : Nat → Int64) (w0_1 : Nat → Int64) (r1 : Nat → Int32) (w1 : Nat → Int64) (r1_0 : Nat → Int32) (r1_0_0 : Nat → Int32) (w1_1 : Nat → Int64) (e_i10 : M.1 10 = r0) (e_l11 : M.2 11 = w0_0) (e_l12 : M.2 12 = w0_1) (e_i3 : M.1 3 = r1) (e_l3 : M.2 3 = w1) (e_i1 : M.1 1 = r1_0) (e_i2 : M.1 2 = r1_0_0) (e_l4 : M.2 4 = w1_1)  {res : (Nat → Int32) × (Nat → Int64) × (Nat → Int32) × (Nat → Int64)} (hy : (fPl_readCorner r0 w0_0 w0_1 r1 w1 r1_0 r1_0_0 w1_1) = some res) : zK Γ 4 YX7_readCorner [.ref (zad Γ 10), .ref (zad Γ 3)] M (fun v N => v = none ∧ N = (zui (zui (zul (zul M 3 res.2.2.2) 11 res.2.1) 3 res.2.2.1) 10 res.1)) :=
  zK_of (by decide) (Nat.le_of_ble_eq_true rfl) (TX7_readCorner_10_3 Γ M r0 w0_0 w0_1 r1 w1 r1_0 r1_0_0 w1_1 e_i10 e_l11 e_l12 e_i3 e_l3 e_i1 e_i2 e_l4 hy ⟨rfl, rfl⟩)

noncomputable def fPl_readLine (r0 : Nat → Int32) (w0_0 : Nat → Int64) (w0_1 : Nat → Int64) (r0_2 : Nat → Int32) (r1 : Nat → Int32) (w1 : Nat → Int64) (r1_0 : Nat → Int32) (r1_0_0 : Nat → Int32) (w1_1 : Nat → Int64) (r2_0 : Nat → Int32) (r2_1 : Nat → Int32) (r2_2 : Nat → Int32) (r2_3 : Nat → Int32) (r2_4 : Nat → Int32) (r2_5 : Nat → Int32) : Option ((Nat → Int32) × (Nat → Int64) × (Nat → Int64) × (Nat → Int32) × (Nat → Int32) × (Nat → Int64) × (Nat → Int32) × (Nat → Int32) × (Nat → Int32) × (Nat → Int32) × (Nat → Int32) × (Nat → Int32)) :=
  (fRd_toldWord r1 w1 w1_1).bind (fun (y1 : Int32) =>
  (if y1 = 0 then
  (fPl_readCorner r0 w0_0 w0_1 r1 w1 r1_0 r1_0_0 w1_1).bind (fun (y3 : (Nat → Int32) × (Nat → Int64) × (Nat → Int32) × (Nat → Int64)) =>
  some (y3.1, y3.2.1, w0_1, r0_2, y3.2.2.1, y3.2.2.2, r2_0, r2_1, r2_2, r2_3, r2_4, r2_5))
  else
  (if y1 = 1 then
  (fPl_readStreet r0 w0_0 r0_2 r1 w1 r1_0 r1_0_0 w1_1).bind (fun (y5 : (Nat → Int32) × (Nat → Int32) × (Nat → Int32) × (Nat → Int64)) =>
  some (y5.1, w0_0, w0_1, y5.2.1, y5.2.2.1, y5.2.2.2, r2_0, r2_1, r2_2, r2_3, r2_4, r2_5))
  else
  (if y1 = 2 then
  (fPl_readPerson r0 w0_0 w0_1 r1 w1 r1_0 r1_0_0 w1_1 r2_0 r2_1).bind (fun (y7 : (Nat → Int32) × (Nat → Int64) × (Nat → Int32) × (Nat → Int64) × (Nat → Int32) × (Nat → Int32)) =>
  some (y7.1, w0_0, y7.2.1, r0_2, y7.2.2.1, y7.2.2.2.1, y7.2.2.2.2.1, y7.2.2.2.2.2, r2_2, r2_3, r2_4, r2_5))
  else
  (if y1 = 3 then
  (fPl_readNext r0 w0_0 w0_1 r0_2 r1 w1 r1_0 r1_0_0 w1_1 r2_0 r2_2 r2_4 r2_5).bind (fun (y9 : (Nat → Int32) × (Nat → Int64) × (Nat → Int32) × (Nat → Int32)) =>
  some (r0, w0_0, w0_1, r0_2, y9.1, y9.2.1, r2_0, r2_1, r2_2, r2_3, y9.2.2.1, y9.2.2.2))
  else
  (if y1 = 4 then
  (fPl_readFollows r0 w0_1 r1 w1 r1_0 r1_0_0 w1_1 r2_2 r2_3 r2_5).bind (fun (y11 : (Nat → Int32) × (Nat → Int64) × (Nat → Int32) × (Nat → Int32) × (Nat → Int32)) =>
  some (r0, w0_0, w0_1, r0_2, y11.1, y11.2.1, r2_0, r2_1, y11.2.2.1, y11.2.2.2.1, r2_4, y11.2.2.2.2))
  else
  (fRd_fail r1 1).bind (fun (y12 : (Nat → Int32)) =>
  some (r0, w0_0, w0_1, r0_2, y12, w1, r2_0, r2_1, r2_2, r2_3, r2_4, r2_5))))))))

set_option maxRecDepth 20000 in
theorem TX7_readLine_10_3_25 (Γ : zG) {Q : Option Value → zM → Prop} (M : zM) (r0 : Nat → Int32) (w0_0 : Nat → Int64) (w0_1 : Nat → Int64) (r0_2 : Nat → Int32) (r1 : Nat → Int32) (w1 : Nat → Int64) (r1_0 : Nat → Int32) (r1_0_0 : Nat → Int32) (w1_1 : Nat → Int64) (r2_0 : Nat → Int32) (r2_1 : Nat → Int32) (r2_2 : Nat → Int32) (r2_3 : Nat → Int32) (r2_4 : Nat → Int32) (r2_5 : Nat → Int32) (e_i10 : M.1 10 = r0) (e_l11 : M.2 11 = w0_0) (e_l12 : M.2 12 = w0_1) (e_i13 : M.1 13 = r0_2) (e_i3 : M.1 3 = r1) (e_l3 : M.2 3 = w1) (e_i1 : M.1 1 = r1_0) (e_i2 : M.1 2 = r1_0_0) (e_l4 : M.2 4 = w1_1) (e_i26 : M.1 26 = r2_0) (e_i27 : M.1 27 = r2_1) (e_i28 : M.1 28 = r2_2) (e_i29 : M.1 29 = r2_3) (e_i30 : M.1 30 = r2_4) (e_i31 : M.1 31 = r2_5)  {res : (Nat → Int32) × (Nat → Int64) × (Nat → Int64) × (Nat → Int32) × (Nat → Int32) × (Nat → Int64) × (Nat → Int32) × (Nat → Int32) × (Nat → Int32) × (Nat → Int32) × (Nat → Int32) × (Nat → Int32)} (hy : (fPl_readLine r0 w0_0 w0_1 r0_2 r1 w1 r1_0 r1_0_0 w1_1 r2_0 r2_1 r2_2 r2_3 r2_4 r2_5) = some res) (hq : Q none (zui (zui (zui (zui (zui (zui (zui (zui (zui (zul (zul (zul M 3 res.2.2.2.2.2.1) 11 res.2.1) 12 res.2.2.1) 3 res.2.2.2.2.1) 10 res.1) 13 res.2.2.2.1) 26 res.2.2.2.2.2.2.1) 27 res.2.2.2.2.2.2.2.1) 28 res.2.2.2.2.2.2.2.2.1) 29 res.2.2.2.2.2.2.2.2.2.1) 30 res.2.2.2.2.2.2.2.2.2.2.1) 31 res.2.2.2.2.2.2.2.2.2.2.2)) : zR Γ 6 YX7_readLine 0 [(0, .ref (zad Γ 10)), (1, .ref (zad Γ 3)), (2, .ref (zad Γ 25))] [] M Q := by
  unfold fPl_readLine at hy
  refine zj_aload_n (pc' := 1) 1 dX7_readLine_0 rfl rfl rfl ?_
  obtain ⟨y1, hy1, hy⟩ := zt_b hy
  refine zj_V1 (pc' := 4) (z := YX8_toldWord) (As := []) (N := M) dX7_readLine_1 rfl mlX7_103 lkX8_toldWord sh3 ⟨_, _, rfl⟩ rfl rfl (Nat.le_of_ble_eq_true rfl) (Nat.le_of_ble_eq_true rfl) (LX8_toldWord_3 Γ _ r1 w1 w1_1 e_i3 e_l3 e_l4 hy1) rfl ?_
  rcases Decidable.em (y1 = 0) with c2 | c2
  · have hy := zt_t hy c2
    refine zj_tsIn (tgt := 40) (v := 0) dX7_readLine_4 c2 (by decide) (by decide) (off := 36) (by decide) (by decide) ?_
    refine zj_aload_n (pc' := 41) 0 dX7_readLine_40 rfl rfl rfl ?_
    refine zj_aload_n (pc' := 42) 1 dX7_readLine_41 rfl rfl rfl ?_
    obtain ⟨y3, hy3, hy⟩ := zt_b hy
    refine zj_V0 (pc' := 45) (z := YX7_readCorner) (As := [.ref (zad Γ 3)]) (N := (zui (zui (zul (zul M 3 y3.2.2.2) 11 y3.2.1) 3 y3.2.2.1) 10 y3.1)) dX7_readLine_42 rfl mlX7_107 lkX7_readCorner sh10 ⟨_, _, rfl⟩ rfl rfl (Nat.le_of_ble_eq_true rfl) (Nat.le_of_ble_eq_true rfl) (LX7_readCorner_10_3 Γ _ r0 w0_0 w0_1 r1 w1 r1_0 r1_0_0 w1_1 e_i10 e_l11 e_l12 e_i3 e_l3 e_i1 e_i2 e_l4 hy3) ((zch_i (zch_i (zch_l rfl rfl) rfl) rfl)).symm ?_
    refine zj_goto (tgt := 88) dX7_readLine_45 (by decide) ?_
    have e9 := Option.some.inj hy
    subst e9
    refine zj_mem (N := (zui (zui (zul (zul (zul M 3 y3.2.2.2) 11 y3.2.1) 12 w0_1) 3 y3.2.2.1) 10 y3.1)) (zself_l (zq_i (zq_i (zq_n rfl (zq_n rfl e_l12)))) (zm_li (zm_li rfl))) ?_
    refine zj_mem (N := (zui (zui (zui (zul (zul (zul M 3 y3.2.2.2) 11 y3.2.1) 12 w0_1) 3 y3.2.2.1) 10 y3.1) 13 r0_2)) (zself_i (zr_n rfl (zr_n rfl (zr_l (zr_l (zr_l e_i13))))) rfl) ?_
    refine zj_mem (N := (zui (zui (zui (zui (zul (zul (zul M 3 y3.2.2.2) 11 y3.2.1) 12 w0_1) 3 y3.2.2.1) 10 y3.1) 13 r0_2) 26 r2_0)) (zself_i (zr_n rfl (zr_n rfl (zr_n rfl (zr_l (zr_l (zr_l e_i26)))))) rfl) ?_
    refine zj_mem (N := (zui (zui (zui (zui (zui (zul (zul (zul M 3 y3.2.2.2) 11 y3.2.1) 12 w0_1) 3 y3.2.2.1) 10 y3.1) 13 r0_2) 26 r2_0) 27 r2_1)) (zself_i (zr_n rfl (zr_n rfl (zr_n rfl (zr_n rfl (zr_l (zr_l (zr_l e_i27))))))) rfl) ?_
    refine zj_mem (N := (zui (zui (zui (zui (zui (zui (zul (zul (zul M 3 y3.2.2.2) 11 y3.2.1) 12 w0_1) 3 y3.2.2.1) 10 y3.1) 13 r0_2) 26 r2_0) 27 r2_1) 28 r2_2)) (zself_i (zr_n rfl (zr_n rfl (zr_n rfl (zr_n rfl (zr_n rfl (zr_l (zr_l (zr_l e_i28)))))))) rfl) ?_
    refine zj_mem (N := (zui (zui (zui (zui (zui (zui (zui (zul (zul (zul M 3 y3.2.2.2) 11 y3.2.1) 12 w0_1) 3 y3.2.2.1) 10 y3.1) 13 r0_2) 26 r2_0) 27 r2_1) 28 r2_2) 29 r2_3)) (zself_i (zr_n rfl (zr_n rfl (zr_n rfl (zr_n rfl (zr_n rfl (zr_n rfl (zr_l (zr_l (zr_l e_i29))))))))) rfl) ?_
    refine zj_mem (N := (zui (zui (zui (zui (zui (zui (zui (zui (zul (zul (zul M 3 y3.2.2.2) 11 y3.2.1) 12 w0_1) 3 y3.2.2.1) 10 y3.1) 13 r0_2) 26 r2_0) 27 r2_1) 28 r2_2) 29 r2_3) 30 r2_4)) (zself_i (zr_n rfl (zr_n rfl (zr_n rfl (zr_n rfl (zr_n rfl (zr_n rfl (zr_n rfl (zr_l (zr_l (zr_l e_i30)))))))))) rfl) ?_
    refine zj_mem (N := (zui (zui (zui (zui (zui (zui (zui (zui (zui (zul (zul (zul M 3 y3.2.2.2) 11 y3.2.1) 12 w0_1) 3 y3.2.2.1) 10 y3.1) 13 r0_2) 26 r2_0) 27 r2_1) 28 r2_2) 29 r2_3) 30 r2_4) 31 r2_5)) (zself_i (zr_n rfl (zr_n rfl (zr_n rfl (zr_n rfl (zr_n rfl (zr_n rfl (zr_n rfl (zr_n rfl (zr_l (zr_l (zr_l e_i31))))))))))) rfl) ?_
    exact zj_vret dX7_readLine_88 rfl hq
  · have hy := zt_f hy c2
    rcases Decidable.em (y1 = 1) with c4 | c4
    · have hy := zt_t hy c4
      refine zj_tsIn (tgt := 48) (v := 1) dX7_readLine_4 c4 (by decide) (by decide) (off := 44) (by decide) (by decide) ?_
      refine zj_aload_n (pc' := 49) 0 dX7_readLine_48 rfl rfl rfl ?_
      refine zj_aload_n (pc' := 50) 1 dX7_readLine_49 rfl rfl rfl ?_
      obtain ⟨y5, hy5, hy⟩ := zt_b hy
      refine zj_V0 (pc' := 53) (z := YX7_readStreet) (As := [.ref (zad Γ 3)]) (N := (zui (zui (zui (zul M 3 y5.2.2.2) 3 y5.2.2.1) 10 y5.1) 13 y5.2.1)) dX7_readLine_50 rfl mlX7_111 lkX7_readStreet sh10 ⟨_, _, rfl⟩ rfl rfl (Nat.le_of_ble_eq_true rfl) (Nat.le_of_ble_eq_true rfl) (LX7_readStreet_10_3 Γ _ r0 w0_0 r0_2 r1 w1 r1_0 r1_0_0 w1_1 e_i10 e_l11 e_i13 e_i3 e_l3 e_i1 e_i2 e_l4 hy5) ((zch_i (zch_i (zch_i rfl rfl) rfl) rfl)).symm ?_
      refine zj_goto (tgt := 88) dX7_readLine_53 (by decide) ?_
      have e9 := Option.some.inj hy
      subst e9
      refine zj_mem (N := (zui (zui (zui (zul (zul M 3 y5.2.2.2) 11 w0_0) 3 y5.2.2.1) 10 y5.1) 13 y5.2.1)) (zself_l (zq_i (zq_i (zq_i (zq_n rfl e_l11)))) (zm_li (zm_li (zm_li rfl)))) ?_
      refine zj_mem (N := (zui (zui (zui (zul (zul (zul M 3 y5.2.2.2) 11 w0_0) 12 w0_1) 3 y5.2.2.1) 10 y5.1) 13 y5.2.1)) (zself_l (zq_i (zq_i (zq_i (zq_n rfl (zq_n rfl e_l12))))) (zm_li (zm_li (zm_li rfl)))) ?_
      refine zj_mem (N := (zui (zui (zui (zui (zul (zul (zul M 3 y5.2.2.2) 11 w0_0) 12 w0_1) 3 y5.2.2.1) 10 y5.1) 13 y5.2.1) 26 r2_0)) (zself_i (zr_n rfl (zr_n rfl (zr_n rfl (zr_l (zr_l (zr_l e_i26)))))) rfl) ?_
      refine zj_mem (N := (zui (zui (zui (zui (zui (zul (zul (zul M 3 y5.2.2.2) 11 w0_0) 12 w0_1) 3 y5.2.2.1) 10 y5.1) 13 y5.2.1) 26 r2_0) 27 r2_1)) (zself_i (zr_n rfl (zr_n rfl (zr_n rfl (zr_n rfl (zr_l (zr_l (zr_l e_i27))))))) rfl) ?_
      refine zj_mem (N := (zui (zui (zui (zui (zui (zui (zul (zul (zul M 3 y5.2.2.2) 11 w0_0) 12 w0_1) 3 y5.2.2.1) 10 y5.1) 13 y5.2.1) 26 r2_0) 27 r2_1) 28 r2_2)) (zself_i (zr_n rfl (zr_n rfl (zr_n rfl (zr_n rfl (zr_n rfl (zr_l (zr_l (zr_l e_i28)))))))) rfl) ?_
      refine zj_mem (N := (zui (zui (zui (zui (zui (zui (zui (zul (zul (zul M 3 y5.2.2.2) 11 w0_0) 12 w0_1) 3 y5.2.2.1) 10 y5.1) 13 y5.2.1) 26 r2_0) 27 r2_1) 28 r2_2) 29 r2_3)) (zself_i (zr_n rfl (zr_n rfl (zr_n rfl (zr_n rfl (zr_n rfl (zr_n rfl (zr_l (zr_l (zr_l e_i29))))))))) rfl) ?_
      refine zj_mem (N := (zui (zui (zui (zui (zui (zui (zui (zui (zul (zul (zul M 3 y5.2.2.2) 11 w0_0) 12 w0_1) 3 y5.2.2.1) 10 y5.1) 13 y5.2.1) 26 r2_0) 27 r2_1) 28 r2_2) 29 r2_3) 30 r2_4)) (zself_i (zr_n rfl (zr_n rfl (zr_n rfl (zr_n rfl (zr_n rfl (zr_n rfl (zr_n rfl (zr_l (zr_l (zr_l e_i30)))))))))) rfl) ?_
      refine zj_mem (N := (zui (zui (zui (zui (zui (zui (zui (zui (zui (zul (zul (zul M 3 y5.2.2.2) 11 w0_0) 12 w0_1) 3 y5.2.2.1) 10 y5.1) 13 y5.2.1) 26 r2_0) 27 r2_1) 28 r2_2) 29 r2_3) 30 r2_4) 31 r2_5)) (zself_i (zr_n rfl (zr_n rfl (zr_n rfl (zr_n rfl (zr_n rfl (zr_n rfl (zr_n rfl (zr_n rfl (zr_l (zr_l (zr_l e_i31))))))))))) rfl) ?_
      exact zj_vret dX7_readLine_88 rfl hq
    · have hy := zt_f hy c4
      rcases Decidable.em (y1 = 2) with c6 | c6
      · have hy := zt_t hy c6
        refine zj_tsIn (tgt := 56) (v := 2) dX7_readLine_4 c6 (by decide) (by decide) (off := 52) (by decide) (by decide) ?_
        refine zj_aload_n (pc' := 57) 0 dX7_readLine_56 rfl rfl rfl ?_
        refine zj_aload_n (pc' := 58) 1 dX7_readLine_57 rfl rfl rfl ?_
        refine zj_aload_n (pc' := 59) 2 dX7_readLine_58 rfl rfl rfl ?_
        obtain ⟨y7, hy7, hy⟩ := zt_b hy
        refine zj_V0 (pc' := 62) (z := YX7_readPerson) (As := [.ref (zad Γ 3), .ref (zad Γ 25)]) (N := (zui (zui (zui (zui (zul (zul M 3 y7.2.2.2.1) 12 y7.2.1) 3 y7.2.2.1) 10 y7.1) 26 y7.2.2.2.2.1) 27 y7.2.2.2.2.2)) dX7_readLine_59 rfl mlX7_114 lkX7_readPerson sh10 ⟨_, _, rfl⟩ rfl rfl (Nat.le_of_ble_eq_true rfl) (Nat.le_of_ble_eq_true rfl) (LX7_readPerson_10_3_25 Γ _ r0 w0_0 w0_1 r1 w1 r1_0 r1_0_0 w1_1 r2_0 r2_1 e_i10 e_l11 e_l12 e_i3 e_l3 e_i1 e_i2 e_l4 e_i26 e_i27 hy7) ((zch_i (zch_i (zch_i (zch_i (zch_l rfl rfl) rfl) rfl) rfl) rfl)).symm ?_
        refine zj_goto (tgt := 88) dX7_readLine_62 (by decide) ?_
        have e9 := Option.some.inj hy
        subst e9
        refine zj_mem (N := (zui (zui (zui (zui (zul (zul (zul M 3 y7.2.2.2.1) 11 w0_0) 12 y7.2.1) 3 y7.2.2.1) 10 y7.1) 26 y7.2.2.2.2.1) 27 y7.2.2.2.2.2)) (zself_l (zq_i (zq_i (zq_i (zq_i (zq_n rfl (zq_n rfl e_l11)))))) (zm_li (zm_li (zm_li (zm_li (zn_n rfl rfl)))))) ?_
        refine zj_mem (N := (zui (zui (zui (zui (zui (zul (zul (zul M 3 y7.2.2.2.1) 11 w0_0) 12 y7.2.1) 3 y7.2.2.1) 10 y7.1) 13 r0_2) 26 y7.2.2.2.2.1) 27 y7.2.2.2.2.2)) (zself_i (zr_n rfl (zr_n rfl (zr_n rfl (zr_n rfl (zr_l (zr_l (zr_l e_i13))))))) (zm_n rfl (zm_n rfl rfl))) ?_
        refine zj_mem (N := (zui (zui (zui (zui (zui (zui (zul (zul (zul M 3 y7.2.2.2.1) 11 w0_0) 12 y7.2.1) 3 y7.2.2.1) 10 y7.1) 13 r0_2) 26 y7.2.2.2.2.1) 27 y7.2.2.2.2.2) 28 r2_2)) (zself_i (zr_n rfl (zr_n rfl (zr_n rfl (zr_n rfl (zr_n rfl (zr_l (zr_l (zr_l e_i28)))))))) rfl) ?_
        refine zj_mem (N := (zui (zui (zui (zui (zui (zui (zui (zul (zul (zul M 3 y7.2.2.2.1) 11 w0_0) 12 y7.2.1) 3 y7.2.2.1) 10 y7.1) 13 r0_2) 26 y7.2.2.2.2.1) 27 y7.2.2.2.2.2) 28 r2_2) 29 r2_3)) (zself_i (zr_n rfl (zr_n rfl (zr_n rfl (zr_n rfl (zr_n rfl (zr_n rfl (zr_l (zr_l (zr_l e_i29))))))))) rfl) ?_
        refine zj_mem (N := (zui (zui (zui (zui (zui (zui (zui (zui (zul (zul (zul M 3 y7.2.2.2.1) 11 w0_0) 12 y7.2.1) 3 y7.2.2.1) 10 y7.1) 13 r0_2) 26 y7.2.2.2.2.1) 27 y7.2.2.2.2.2) 28 r2_2) 29 r2_3) 30 r2_4)) (zself_i (zr_n rfl (zr_n rfl (zr_n rfl (zr_n rfl (zr_n rfl (zr_n rfl (zr_n rfl (zr_l (zr_l (zr_l e_i30)))))))))) rfl) ?_
        refine zj_mem (N := (zui (zui (zui (zui (zui (zui (zui (zui (zui (zul (zul (zul M 3 y7.2.2.2.1) 11 w0_0) 12 y7.2.1) 3 y7.2.2.1) 10 y7.1) 13 r0_2) 26 y7.2.2.2.2.1) 27 y7.2.2.2.2.2) 28 r2_2) 29 r2_3) 30 r2_4) 31 r2_5)) (zself_i (zr_n rfl (zr_n rfl (zr_n rfl (zr_n rfl (zr_n rfl (zr_n rfl (zr_n rfl (zr_n rfl (zr_l (zr_l (zr_l e_i31))))))))))) rfl) ?_
        exact zj_vret dX7_readLine_88 rfl hq
      · have hy := zt_f hy c6
        rcases Decidable.em (y1 = 3) with c8 | c8
        · have hy := zt_t hy c8
          refine zj_tsIn (tgt := 65) (v := 3) dX7_readLine_4 c8 (by decide) (by decide) (off := 61) (by decide) (by decide) ?_
          refine zj_aload_n (pc' := 66) 0 dX7_readLine_65 rfl rfl rfl ?_
          refine zj_aload_n (pc' := 67) 1 dX7_readLine_66 rfl rfl rfl ?_
          refine zj_aload_n (pc' := 68) 2 dX7_readLine_67 rfl rfl rfl ?_
          obtain ⟨y9, hy9, hy⟩ := zt_b hy
          refine zj_V0 (pc' := 71) (z := YX7_readNext) (As := [.ref (zad Γ 3), .ref (zad Γ 25)]) (N := (zui (zui (zui (zul M 3 y9.2.1) 3 y9.1) 30 y9.2.2.1) 31 y9.2.2.2)) dX7_readLine_68 rfl mlX7_117 lkX7_readNext sh10 ⟨_, _, rfl⟩ rfl rfl (Nat.le_of_ble_eq_true rfl) (Nat.le_of_ble_eq_true rfl) (LX7_readNext_10_3_25 Γ _ r0 w0_0 w0_1 r0_2 r1 w1 r1_0 r1_0_0 w1_1 r2_0 r2_2 r2_4 r2_5 e_i10 e_l11 e_l12 e_i13 e_i3 e_l3 e_i1 e_i2 e_l4 e_i26 e_i28 e_i30 e_i31 hy9) ((zch_i (zch_i (zch_i rfl rfl) rfl) rfl)).symm ?_
          refine zj_goto (tgt := 88) dX7_readLine_71 (by decide) ?_
          have e9 := Option.some.inj hy
          subst e9
          refine zj_mem (N := (zui (zui (zui (zul (zul M 3 y9.2.1) 11 w0_0) 3 y9.1) 30 y9.2.2.1) 31 y9.2.2.2)) (zself_l (zq_i (zq_i (zq_i (zq_n rfl e_l11)))) (zm_li (zm_li (zm_li rfl)))) ?_
          refine zj_mem (N := (zui (zui (zui (zul (zul (zul M 3 y9.2.1) 11 w0_0) 12 w0_1) 3 y9.1) 30 y9.2.2.1) 31 y9.2.2.2)) (zself_l (zq_i (zq_i (zq_i (zq_n rfl (zq_n rfl e_l12))))) (zm_li (zm_li (zm_li rfl)))) ?_
          refine zj_mem (N := (zui (zui (zui (zui (zul (zul (zul M 3 y9.2.1) 11 w0_0) 12 w0_1) 3 y9.1) 10 r0) 30 y9.2.2.1) 31 y9.2.2.2)) (zself_i (zr_n rfl (zr_n rfl (zr_n rfl (zr_l (zr_l (zr_l e_i10)))))) (zm_n rfl (zm_n rfl rfl))) ?_
          refine zj_mem (N := (zui (zui (zui (zui (zui (zul (zul (zul M 3 y9.2.1) 11 w0_0) 12 w0_1) 3 y9.1) 10 r0) 13 r0_2) 30 y9.2.2.1) 31 y9.2.2.2)) (zself_i (zr_n rfl (zr_n rfl (zr_n rfl (zr_n rfl (zr_l (zr_l (zr_l e_i13))))))) (zm_n rfl (zm_n rfl rfl))) ?_
          refine zj_mem (N := (zui (zui (zui (zui (zui (zui (zul (zul (zul M 3 y9.2.1) 11 w0_0) 12 w0_1) 3 y9.1) 10 r0) 13 r0_2) 26 r2_0) 30 y9.2.2.1) 31 y9.2.2.2)) (zself_i (zr_n rfl (zr_n rfl (zr_n rfl (zr_n rfl (zr_n rfl (zr_l (zr_l (zr_l e_i26)))))))) (zm_n rfl (zm_n rfl rfl))) ?_
          refine zj_mem (N := (zui (zui (zui (zui (zui (zui (zui (zul (zul (zul M 3 y9.2.1) 11 w0_0) 12 w0_1) 3 y9.1) 10 r0) 13 r0_2) 26 r2_0) 27 r2_1) 30 y9.2.2.1) 31 y9.2.2.2)) (zself_i (zr_n rfl (zr_n rfl (zr_n rfl (zr_n rfl (zr_n rfl (zr_n rfl (zr_l (zr_l (zr_l e_i27))))))))) (zm_n rfl (zm_n rfl rfl))) ?_
          refine zj_mem (N := (zui (zui (zui (zui (zui (zui (zui (zui (zul (zul (zul M 3 y9.2.1) 11 w0_0) 12 w0_1) 3 y9.1) 10 r0) 13 r0_2) 26 r2_0) 27 r2_1) 28 r2_2) 30 y9.2.2.1) 31 y9.2.2.2)) (zself_i (zr_n rfl (zr_n rfl (zr_n rfl (zr_n rfl (zr_n rfl (zr_n rfl (zr_n rfl (zr_l (zr_l (zr_l e_i28)))))))))) (zm_n rfl (zm_n rfl rfl))) ?_
          refine zj_mem (N := (zui (zui (zui (zui (zui (zui (zui (zui (zui (zul (zul (zul M 3 y9.2.1) 11 w0_0) 12 w0_1) 3 y9.1) 10 r0) 13 r0_2) 26 r2_0) 27 r2_1) 28 r2_2) 29 r2_3) 30 y9.2.2.1) 31 y9.2.2.2)) (zself_i (zr_n rfl (zr_n rfl (zr_n rfl (zr_n rfl (zr_n rfl (zr_n rfl (zr_n rfl (zr_n rfl (zr_l (zr_l (zr_l e_i29))))))))))) (zm_n rfl (zm_n rfl rfl))) ?_
          exact zj_vret dX7_readLine_88 rfl hq
        · have hy := zt_f hy c8
          rcases Decidable.em (y1 = 4) with c10 | c10
          · have hy := zt_t hy c10
            refine zj_tsIn (tgt := 74) (v := 4) dX7_readLine_4 c10 (by decide) (by decide) (off := 70) (by decide) (by decide) ?_
            refine zj_aload_n (pc' := 75) 0 dX7_readLine_74 rfl rfl rfl ?_
            refine zj_aload_n (pc' := 76) 1 dX7_readLine_75 rfl rfl rfl ?_
            refine zj_aload_n (pc' := 77) 2 dX7_readLine_76 rfl rfl rfl ?_
            obtain ⟨y11, hy11, hy⟩ := zt_b hy
            refine zj_V0 (pc' := 80) (z := YX7_readFollows) (As := [.ref (zad Γ 3), .ref (zad Γ 25)]) (N := (zui (zui (zui (zui (zul M 3 y11.2.1) 3 y11.1) 28 y11.2.2.1) 29 y11.2.2.2.1) 31 y11.2.2.2.2)) dX7_readLine_77 rfl mlX7_120 lkX7_readFollows sh10 ⟨_, _, rfl⟩ rfl rfl (Nat.le_of_ble_eq_true rfl) (Nat.le_of_ble_eq_true rfl) (LX7_readFollows_10_3_25 Γ _ r0 w0_1 r1 w1 r1_0 r1_0_0 w1_1 r2_2 r2_3 r2_5 e_i10 e_l12 e_i3 e_l3 e_i1 e_i2 e_l4 e_i28 e_i29 e_i31 hy11) ((zch_i (zch_i (zch_i (zch_i rfl rfl) rfl) rfl) rfl)).symm ?_
            refine zj_goto (tgt := 88) dX7_readLine_80 (by decide) ?_
            have e9 := Option.some.inj hy
            subst e9
            refine zj_mem (N := (zui (zui (zui (zui (zul (zul M 3 y11.2.1) 11 w0_0) 3 y11.1) 28 y11.2.2.1) 29 y11.2.2.2.1) 31 y11.2.2.2.2)) (zself_l (zq_i (zq_i (zq_i (zq_i (zq_n rfl e_l11))))) (zm_li (zm_li (zm_li (zm_li rfl))))) ?_
            refine zj_mem (N := (zui (zui (zui (zui (zul (zul (zul M 3 y11.2.1) 11 w0_0) 12 w0_1) 3 y11.1) 28 y11.2.2.1) 29 y11.2.2.2.1) 31 y11.2.2.2.2)) (zself_l (zq_i (zq_i (zq_i (zq_i (zq_n rfl (zq_n rfl e_l12)))))) (zm_li (zm_li (zm_li (zm_li rfl))))) ?_
            refine zj_mem (N := (zui (zui (zui (zui (zui (zul (zul (zul M 3 y11.2.1) 11 w0_0) 12 w0_1) 3 y11.1) 10 r0) 28 y11.2.2.1) 29 y11.2.2.2.1) 31 y11.2.2.2.2)) (zself_i (zr_n rfl (zr_n rfl (zr_n rfl (zr_n rfl (zr_l (zr_l (zr_l e_i10))))))) (zm_n rfl (zm_n rfl (zm_n rfl rfl)))) ?_
            refine zj_mem (N := (zui (zui (zui (zui (zui (zui (zul (zul (zul M 3 y11.2.1) 11 w0_0) 12 w0_1) 3 y11.1) 10 r0) 13 r0_2) 28 y11.2.2.1) 29 y11.2.2.2.1) 31 y11.2.2.2.2)) (zself_i (zr_n rfl (zr_n rfl (zr_n rfl (zr_n rfl (zr_n rfl (zr_l (zr_l (zr_l e_i13)))))))) (zm_n rfl (zm_n rfl (zm_n rfl rfl)))) ?_
            refine zj_mem (N := (zui (zui (zui (zui (zui (zui (zui (zul (zul (zul M 3 y11.2.1) 11 w0_0) 12 w0_1) 3 y11.1) 10 r0) 13 r0_2) 26 r2_0) 28 y11.2.2.1) 29 y11.2.2.2.1) 31 y11.2.2.2.2)) (zself_i (zr_n rfl (zr_n rfl (zr_n rfl (zr_n rfl (zr_n rfl (zr_n rfl (zr_l (zr_l (zr_l e_i26))))))))) (zm_n rfl (zm_n rfl (zm_n rfl rfl)))) ?_
            refine zj_mem (N := (zui (zui (zui (zui (zui (zui (zui (zui (zul (zul (zul M 3 y11.2.1) 11 w0_0) 12 w0_1) 3 y11.1) 10 r0) 13 r0_2) 26 r2_0) 27 r2_1) 28 y11.2.2.1) 29 y11.2.2.2.1) 31 y11.2.2.2.2)) (zself_i (zr_n rfl (zr_n rfl (zr_n rfl (zr_n rfl (zr_n rfl (zr_n rfl (zr_n rfl (zr_l (zr_l (zr_l e_i27)))))))))) (zm_n rfl (zm_n rfl (zm_n rfl rfl)))) ?_
            refine zj_mem (N := (zui (zui (zui (zui (zui (zui (zui (zui (zui (zul (zul (zul M 3 y11.2.1) 11 w0_0) 12 w0_1) 3 y11.1) 10 r0) 13 r0_2) 26 r2_0) 27 r2_1) 28 y11.2.2.1) 29 y11.2.2.2.1) 30 r2_4) 31 y11.2.2.2.2)) (zself_i (zr_n rfl (zr_n rfl (zr_n rfl (zr_n rfl (zr_n rfl (zr_n rfl (zr_n rfl (zr_n rfl (zr_l (zr_l (zr_l e_i30))))))))))) (zm_n rfl rfl)) ?_
            exact zj_vret dX7_readLine_88 rfl hq
          · have hy := zt_f hy c10
            refine zj_tsOut (tgt := 83) dX7_readLine_4 (by have q0 := zne (k := 0) c2 (by decide); have q1 := zne (k := 1) c4 (by decide); have q2 := zne (k := 2) c6 (by decide); have q3 := zne (k := 3) c8 (by decide); have q4 := zne (k := 4) c10 (by decide); omega) (by decide) ?_
            refine zj_aload_n (pc' := 84) 1 dX7_readLine_83 rfl rfl rfl ?_
            refine zj_iconst (pc' := 85) dX7_readLine_84 rfl kiconst_1 ?_
            obtain ⟨y12, hy12, hy⟩ := zt_b hy
            refine zj_V0 (pc' := 88) (z := YX8_fail) (As := [.int 1]) (N := (zui M 3 y12)) dX7_readLine_85 rfl mlX7_123 lkX8_fail sh3 ⟨_, _, rfl⟩ rfl rfl (Nat.le_of_ble_eq_true rfl) (Nat.le_of_ble_eq_true rfl) (LX8_fail_3 Γ _ r1 e_i3 1 hy12) (rfl).symm ?_
            have e9 := Option.some.inj hy
            subst e9
            refine zj_mem (N := (zui (zul M 3 w1) 3 y12)) (zself_l (zq_i e_l3) (zm_li rfl)) ?_
            refine zj_mem (N := (zui (zul (zul M 3 w1) 11 w0_0) 3 y12)) (zself_l (zq_i (zq_n rfl e_l11)) (zm_li rfl)) ?_
            refine zj_mem (N := (zui (zul (zul (zul M 3 w1) 11 w0_0) 12 w0_1) 3 y12)) (zself_l (zq_i (zq_n rfl (zq_n rfl e_l12))) (zm_li rfl)) ?_
            refine zj_mem (N := (zui (zui (zul (zul (zul M 3 w1) 11 w0_0) 12 w0_1) 3 y12) 10 r0)) (zself_i (zr_n rfl (zr_l (zr_l (zr_l e_i10)))) rfl) ?_
            refine zj_mem (N := (zui (zui (zui (zul (zul (zul M 3 w1) 11 w0_0) 12 w0_1) 3 y12) 10 r0) 13 r0_2)) (zself_i (zr_n rfl (zr_n rfl (zr_l (zr_l (zr_l e_i13))))) rfl) ?_
            refine zj_mem (N := (zui (zui (zui (zui (zul (zul (zul M 3 w1) 11 w0_0) 12 w0_1) 3 y12) 10 r0) 13 r0_2) 26 r2_0)) (zself_i (zr_n rfl (zr_n rfl (zr_n rfl (zr_l (zr_l (zr_l e_i26)))))) rfl) ?_
            refine zj_mem (N := (zui (zui (zui (zui (zui (zul (zul (zul M 3 w1) 11 w0_0) 12 w0_1) 3 y12) 10 r0) 13 r0_2) 26 r2_0) 27 r2_1)) (zself_i (zr_n rfl (zr_n rfl (zr_n rfl (zr_n rfl (zr_l (zr_l (zr_l e_i27))))))) rfl) ?_
            refine zj_mem (N := (zui (zui (zui (zui (zui (zui (zul (zul (zul M 3 w1) 11 w0_0) 12 w0_1) 3 y12) 10 r0) 13 r0_2) 26 r2_0) 27 r2_1) 28 r2_2)) (zself_i (zr_n rfl (zr_n rfl (zr_n rfl (zr_n rfl (zr_n rfl (zr_l (zr_l (zr_l e_i28)))))))) rfl) ?_
            refine zj_mem (N := (zui (zui (zui (zui (zui (zui (zui (zul (zul (zul M 3 w1) 11 w0_0) 12 w0_1) 3 y12) 10 r0) 13 r0_2) 26 r2_0) 27 r2_1) 28 r2_2) 29 r2_3)) (zself_i (zr_n rfl (zr_n rfl (zr_n rfl (zr_n rfl (zr_n rfl (zr_n rfl (zr_l (zr_l (zr_l e_i29))))))))) rfl) ?_
            refine zj_mem (N := (zui (zui (zui (zui (zui (zui (zui (zui (zul (zul (zul M 3 w1) 11 w0_0) 12 w0_1) 3 y12) 10 r0) 13 r0_2) 26 r2_0) 27 r2_1) 28 r2_2) 29 r2_3) 30 r2_4)) (zself_i (zr_n rfl (zr_n rfl (zr_n rfl (zr_n rfl (zr_n rfl (zr_n rfl (zr_n rfl (zr_l (zr_l (zr_l e_i30)))))))))) rfl) ?_
            refine zj_mem (N := (zui (zui (zui (zui (zui (zui (zui (zui (zui (zul (zul (zul M 3 w1) 11 w0_0) 12 w0_1) 3 y12) 10 r0) 13 r0_2) 26 r2_0) 27 r2_1) 28 r2_2) 29 r2_3) 30 r2_4) 31 r2_5)) (zself_i (zr_n rfl (zr_n rfl (zr_n rfl (zr_n rfl (zr_n rfl (zr_n rfl (zr_n rfl (zr_n rfl (zr_l (zr_l (zr_l e_i31))))))))))) rfl) ?_
            exact zj_vret dX7_readLine_88 rfl hq
set_option maxRecDepth 20000 in
theorem LX7_readLine_10_3_25 (Γ : zG) (M : zM) (r0 : Nat → Int32) (w0_0 : Nat → Int64) (w0_1 : Nat → Int64) (r0_2 : Nat → Int32) (r1 : Nat → Int32) (w1 : Nat → Int64) (r1_0 : Nat → Int32) (r1_0_0 : Nat → Int32) (w1_1 : Nat → Int64) (r2_0 : Nat → Int32) (r2_1 : Nat → Int32) (r2_2 : Nat → Int32) (r2_3 : Nat → Int32) (r2_4 : Nat → Int32) (r2_5 : Nat → Int32) (e_i10 : M.1 10 = r0) (e_l11 : M.2 11 = w0_0) (e_l12 : M.2 12 = w0_1) (e_i13 : M.1 13 = r0_2) (e_i3 : M.1 3 = r1) (e_l3 : M.2 3 = w1) (e_i1 : M.1 1 = r1_0) (e_i2 : M.1 2 = r1_0_0) (e_l4 : M.2 4 = w1_1) (e_i26 : M.1 26 = r2_0) (e_i27 : M.1 27 = r2_1) (e_i28 : M.1 28 = r2_2) (e_i29 : M.1 29 = r2_3) (e_i30 : M.1 30 = r2_4) (e_i31 : M.1 31 = r2_5)  {res : (Nat → Int32) × (Nat → Int64) × (Nat → Int64) × (Nat → Int32) × (Nat → Int32) × (Nat → Int64) × (Nat → Int32) × (Nat → Int32) × (Nat → Int32) × (Nat → Int32) × (Nat → Int32) × (Nat → Int32)} (hy : (fPl_readLine r0 w0_0 w0_1 r0_2 r1 w1 r1_0 r1_0_0 w1_1 r2_0 r2_1 r2_2 r2_3 r2_4 r2_5) = some res) : zK Γ 6 YX7_readLine [.ref (zad Γ 10), .ref (zad Γ 3), .ref (zad Γ 25)] M (fun v N => v = none ∧ N = (zui (zui (zui (zui (zui (zui (zui (zui (zui (zul (zul (zul M 3 res.2.2.2.2.2.1) 11 res.2.1) 12 res.2.2.1) 3 res.2.2.2.2.1) 10 res.1) 13 res.2.2.2.1) 26 res.2.2.2.2.2.2.1) 27 res.2.2.2.2.2.2.2.1) 28 res.2.2.2.2.2.2.2.2.1) 29 res.2.2.2.2.2.2.2.2.2.1) 30 res.2.2.2.2.2.2.2.2.2.2.1) 31 res.2.2.2.2.2.2.2.2.2.2.2)) :=
  zK_of (by decide) (Nat.le_of_ble_eq_true rfl) (TX7_readLine_10_3_25 Γ M r0 w0_0 w0_1 r0_2 r1 w1 r1_0 r1_0_0 w1_1 r2_0 r2_1 r2_2 r2_3 r2_4 r2_5 e_i10 e_l11 e_l12 e_i13 e_i3 e_l3 e_i1 e_i2 e_l4 e_i26 e_i27 e_i28 e_i29 e_i30 e_i31 hy ⟨rfl, rfl⟩)

noncomputable def fRd_takeSign (r0 : Nat → Int32) (w0 : Nat → Int64) (r0_0 : Nat → Int32) (r0_0_0 : Nat → Int32) (a1 : Int32) : Option ((Nat → Int32) × (Nat → Int64)) :=
  (if (r0 5) = a1 then
  (fRd_goOn r0 w0 r0_0 r0_0_0).bind (fun (y2 : (Nat → Int32) × (Nat → Int64)) =>
  some (y2.1, y2.2))
  else
  (fRd_fail r0 1).bind (fun (y3 : (Nat → Int32)) =>
  (fRd_goOn y3 w0 r0_0 r0_0_0).bind (fun (y4 : (Nat → Int32) × (Nat → Int64)) =>
  some (y4.1, y4.2))))

set_option maxRecDepth 20000 in
theorem TX8_takeSign_3 (Γ : zG) {Q : Option Value → zM → Prop} (M : zM) (r0 : Nat → Int32) (w0 : Nat → Int64) (r0_0 : Nat → Int32) (r0_0_0 : Nat → Int32) (e_i3 : M.1 3 = r0) (e_l3 : M.2 3 = w0) (e_i1 : M.1 1 = r0_0) (e_i2 : M.1 2 = r0_0_0) (a1 : Int32) {res : (Nat → Int32) × (Nat → Int64)} (hy : (fRd_takeSign r0 w0 r0_0 r0_0_0 a1) = some res) (hq : Q none (zui (zul M 3 res.2) 3 res.1)) : zR Γ 4 YX8_takeSign 0 [(0, .ref (zad Γ 3)), (1, .int a1)] [] M Q := by
  unfold fRd_takeSign at hy
  refine zj_aload_n (pc' := 1) 0 dX8_takeSign_0 rfl rfl rfl ?_
  refine zj_fI (pc' := 4) dX8_takeSign_1 rfl flX8_57 sh3 rfl e_i3 rfl ?_
  refine zj_iload_n (pc' := 5) 1 dX8_takeSign_4 rfl rfl rfl ?_
  refine zj_icmp_eq (tgt := 13) (pc' := 8) dX8_takeSign_5 rfl (by decide) (fun c1 => ?_) (fun c1 => ?_)
  · have hy := zt_t hy c1
    refine zj_aload_n (pc' := 14) 0 dX8_takeSign_13 rfl rfl rfl ?_
    obtain ⟨y2, hy2, hy⟩ := zt_b hy
    refine zj_V0 (pc' := 17) (z := YX8_goOn) (As := []) (N := (zui (zul M 3 y2.2) 3 y2.1)) dX8_takeSign_14 rfl mlX8_51 lkX8_goOn sh3 ⟨_, _, rfl⟩ rfl rfl (Nat.le_of_ble_eq_true rfl) (Nat.le_of_ble_eq_true rfl) (LX8_goOn_3 Γ _ r0 w0 r0_0 r0_0_0 e_i3 e_l3 e_i1 e_i2 hy2) ((zch_i rfl rfl)).symm ?_
    have e9 := Option.some.inj hy
    subst e9
    exact zj_vret dX8_takeSign_17 rfl hq
  · have hy := zt_f hy c1
    refine zj_aload_n (pc' := 9) 0 dX8_takeSign_8 rfl rfl rfl ?_
    refine zj_iconst (pc' := 10) dX8_takeSign_9 rfl kiconst_1 ?_
    obtain ⟨y3, hy3, hy⟩ := zt_b hy
    refine zj_V0 (pc' := 13) (z := YX8_fail) (As := [.int 1]) (N := (zui M 3 y3)) dX8_takeSign_10 rfl mlX8_93 lkX8_fail sh3 ⟨_, _, rfl⟩ rfl rfl (Nat.le_of_ble_eq_true rfl) (Nat.le_of_ble_eq_true rfl) (LX8_fail_3 Γ _ r0 e_i3 1 hy3) (rfl).symm ?_
    refine zj_aload_n (pc' := 14) 0 dX8_takeSign_13 rfl rfl rfl ?_
    obtain ⟨y4, hy4, hy⟩ := zt_b hy
    refine zj_V0 (pc' := 17) (z := YX8_goOn) (As := []) (N := (zui (zul M 3 y4.2) 3 y4.1)) dX8_takeSign_14 rfl mlX8_51 lkX8_goOn sh3 ⟨_, _, rfl⟩ rfl rfl (Nat.le_of_ble_eq_true rfl) (Nat.le_of_ble_eq_true rfl) (LX8_goOn_3 Γ _ y3 w0 r0_0 r0_0_0 zr_s (zq_i e_l3) (zr_n rfl e_i1) (zr_n rfl e_i2) hy4) ((zch_i (zm_li rfl) zm_s)).symm ?_
    have e9 := Option.some.inj hy
    subst e9
    exact zj_vret dX8_takeSign_17 rfl hq
set_option maxRecDepth 20000 in
theorem LX8_takeSign_3 (Γ : zG) (M : zM) (r0 : Nat → Int32) (w0 : Nat → Int64) (r0_0 : Nat → Int32) (r0_0_0 : Nat → Int32) (e_i3 : M.1 3 = r0) (e_l3 : M.2 3 = w0) (e_i1 : M.1 1 = r0_0) (e_i2 : M.1 2 = r0_0_0) (a1 : Int32) {res : (Nat → Int32) × (Nat → Int64)} (hy : (fRd_takeSign r0 w0 r0_0 r0_0_0 a1) = some res) : zK Γ 4 YX8_takeSign [.ref (zad Γ 3), .int a1] M (fun v N => v = none ∧ N = (zui (zul M 3 res.2) 3 res.1)) :=
  zK_of (by decide) (Nat.le_of_ble_eq_true rfl) (TX8_takeSign_3 Γ M r0 w0 r0_0 r0_0_0 e_i3 e_l3 e_i1 e_i2 a1 hy ⟨rfl, rfl⟩)

noncomputable def fPl_readFrom_L15 (r1_0 : Nat → Int32) (r1_0_0 : Nat → Int32) (w1_1 : Nat → Int64) (r0v3 : Nat → Int32) (w0_0v4 : Nat → Int64) (w0_1v5 : Nat → Int64) (r0_2v6 : Nat → Int32) (r1v7 : Nat → Int32) (w1v8 : Nat → Int64) (r2_0v9 : Nat → Int32) (r2_1v10 : Nat → Int32) (r2_2v11 : Nat → Int32) (r2_3v12 : Nat → Int32) (r2_4v13 : Nat → Int32) (r2_5v14 : Nat → Int32) (x15 : Int32) : Option (((Nat → Int32) × (Nat → Int64) × (Nat → Int64) × (Nat → Int32) × (Nat → Int32) × (Nat → Int64) × (Nat → Int32) × (Nat → Int32) × (Nat → Int32) × (Nat → Int32) × (Nat → Int32) × (Nat → Int32) × Int32) ⊕ ((Nat → Int32) × (Nat → Int64) × (Nat → Int64) × (Nat → Int32) × (Nat → Int32) × (Nat → Int64) × (Nat → Int32) × (Nat → Int32) × (Nat → Int32) × (Nat → Int32) × (Nat → Int32) × (Nat → Int32) × Int32)) :=
  (if 900 ≤ x15 then
  some (.inr (r0v3, w0_0v4, w0_1v5, r0_2v6, r1v7, w1v8, r2_0v9, r2_1v10, r2_2v11, r2_3v12, r2_4v13, r2_5v14, x15))
  else
  (if (fRd_isGood r1v7) = true then
  (if (fRd_atEnd r1v7) = true then
  some (.inr (r0v3, w0_0v4, w0_1v5, r0_2v6, r1v7, w1v8, r2_0v9, r2_1v10, r2_2v11, r2_3v12, r2_4v13, r2_5v14, x15))
  else
  (fPl_readLine r0v3 w0_0v4 w0_1v5 r0_2v6 r1v7 w1v8 r1_0 r1_0_0 w1_1 r2_0v9 r2_1v10 r2_2v11 r2_3v12 r2_4v13 r2_5v14).bind (fun (y26 : (Nat → Int32) × (Nat → Int64) × (Nat → Int64) × (Nat → Int32) × (Nat → Int32) × (Nat → Int64) × (Nat → Int32) × (Nat → Int32) × (Nat → Int32) × (Nat → Int32) × (Nat → Int32) × (Nat → Int32)) =>
  (fRd_takeSign y26.2.2.2.2.1 y26.2.2.2.2.2.1 r1_0 r1_0_0 59).bind (fun (y27 : (Nat → Int32) × (Nat → Int64)) =>
  zlet (x15 + 1) (fun (x28 : Int32) =>
  some (.inl (y26.1, y26.2.1, y26.2.2.1, y26.2.2.2.1, y27.1, y27.2, y26.2.2.2.2.2.2.1, y26.2.2.2.2.2.2.2.1, y26.2.2.2.2.2.2.2.2.1, y26.2.2.2.2.2.2.2.2.2.1, y26.2.2.2.2.2.2.2.2.2.2.1, y26.2.2.2.2.2.2.2.2.2.2.2, x28))))))
  else
  some (.inr (r0v3, w0_0v4, w0_1v5, r0_2v6, r1v7, w1v8, r2_0v9, r2_1v10, r2_2v11, r2_3v12, r2_4v13, r2_5v14, x15))))
noncomputable def fPl_readFrom (r0 : Nat → Int32) (w0_0 : Nat → Int64) (w0_1 : Nat → Int64) (r0_2 : Nat → Int32) (r0_3 : Nat → Int32) (r1 : Nat → Int32) (w1 : Nat → Int64) (r1_0 : Nat → Int32) (r1_0_0 : Nat → Int32) (w1_1 : Nat → Int64) (r2 : Nat → Int32) (r2_0 : Nat → Int32) (r2_1 : Nat → Int32) (r2_2 : Nat → Int32) (r2_3 : Nat → Int32) (r2_4 : Nat → Int32) (r2_5 : Nat → Int32) (r2_6 : Nat → Int32) (r2_7 : Nat → Int32) : Option (Int32 × (Nat → Int32) × (Nat → Int64) × (Nat → Int64) × (Nat → Int32) × (Nat → Int32) × (Nat → Int32) × (Nat → Int64) × (Nat → Int32) × (Nat → Int32) × (Nat → Int32) × (Nat → Int32) × (Nat → Int32) × (Nat → Int32) × (Nat → Int32) × (Nat → Int32) × (Nat → Int32)) :=
  (fPl_clear r0 r0_2).bind (fun (y1 : (Nat → Int32) × (Nat → Int32)) =>
  (fDy_clear r2 r2_0 r2_1 r2_2 r2_3 r2_5 r2_6 r2_7).bind (fun (y2 : (Nat → Int32) × (Nat → Int32) × (Nat → Int32) × (Nat → Int32) × (Nat → Int32) × (Nat → Int32) × (Nat → Int32) × (Nat → Int32)) =>
  (zLP (fun s => fPl_readFrom_L15 r1_0 r1_0_0 w1_1 s.1 s.2.1 s.2.2.1 s.2.2.2.1 s.2.2.2.2.1 s.2.2.2.2.2.1 s.2.2.2.2.2.2.1 s.2.2.2.2.2.2.2.1 s.2.2.2.2.2.2.2.2.1 s.2.2.2.2.2.2.2.2.2.1 s.2.2.2.2.2.2.2.2.2.2.1 s.2.2.2.2.2.2.2.2.2.2.2.1 s.2.2.2.2.2.2.2.2.2.2.2.2) (y1.1, w0_0, w0_1, y1.2, r1, w1, y2.2.1, y2.2.2.1, y2.2.2.2.1, y2.2.2.2.2.1, r2_4, y2.2.2.2.2.2.1, 0)).bind (fun r18 =>
  (fPl_measure r18.1 r18.2.2.2.1 r0_3).bind (fun (y42 : (Nat → Int32)) =>
  some (r18.2.2.2.2.2.2.2.2.2.2.2.2, r18.1, r18.2.1, r18.2.2.1, r18.2.2.2.1, y42, r18.2.2.2.2.1, r18.2.2.2.2.2.1, y2.1, r18.2.2.2.2.2.2.1, r18.2.2.2.2.2.2.2.1, r18.2.2.2.2.2.2.2.2.1, r18.2.2.2.2.2.2.2.2.2.1, r18.2.2.2.2.2.2.2.2.2.2.1, r18.2.2.2.2.2.2.2.2.2.2.2.1, y2.2.2.2.2.2.2.1, y2.2.2.2.2.2.2.2)))))

set_option maxRecDepth 20000 in
theorem TX7_readFrom_10_3_25 (Γ : zG) {Q : Option Value → zM → Prop} (M : zM) (r0 : Nat → Int32) (w0_0 : Nat → Int64) (w0_1 : Nat → Int64) (r0_2 : Nat → Int32) (r0_3 : Nat → Int32) (r1 : Nat → Int32) (w1 : Nat → Int64) (r1_0 : Nat → Int32) (r1_0_0 : Nat → Int32) (w1_1 : Nat → Int64) (r2 : Nat → Int32) (r2_0 : Nat → Int32) (r2_1 : Nat → Int32) (r2_2 : Nat → Int32) (r2_3 : Nat → Int32) (r2_4 : Nat → Int32) (r2_5 : Nat → Int32) (r2_6 : Nat → Int32) (r2_7 : Nat → Int32) (e_i10 : M.1 10 = r0) (e_l11 : M.2 11 = w0_0) (e_l12 : M.2 12 = w0_1) (e_i13 : M.1 13 = r0_2) (e_i14 : M.1 14 = r0_3) (e_i3 : M.1 3 = r1) (e_l3 : M.2 3 = w1) (e_i1 : M.1 1 = r1_0) (e_i2 : M.1 2 = r1_0_0) (e_l4 : M.2 4 = w1_1) (e_i25 : M.1 25 = r2) (e_i26 : M.1 26 = r2_0) (e_i27 : M.1 27 = r2_1) (e_i28 : M.1 28 = r2_2) (e_i29 : M.1 29 = r2_3) (e_i30 : M.1 30 = r2_4) (e_i31 : M.1 31 = r2_5) (e_i32 : M.1 32 = r2_6) (e_i33 : M.1 33 = r2_7)  {res : Int32 × (Nat → Int32) × (Nat → Int64) × (Nat → Int64) × (Nat → Int32) × (Nat → Int32) × (Nat → Int32) × (Nat → Int64) × (Nat → Int32) × (Nat → Int32) × (Nat → Int32) × (Nat → Int32) × (Nat → Int32) × (Nat → Int32) × (Nat → Int32) × (Nat → Int32) × (Nat → Int32)} (hy : (fPl_readFrom r0 w0_0 w0_1 r0_2 r0_3 r1 w1 r1_0 r1_0_0 w1_1 r2 r2_0 r2_1 r2_2 r2_3 r2_4 r2_5 r2_6 r2_7) = some res) (hq : Q (some (.int res.1)) (zui (zui (zui (zui (zui (zui (zui (zui (zui (zui (zui (zui (zui (zul (zul (zul M 3 res.2.2.2.2.2.2.2.1) 11 res.2.2.1) 12 res.2.2.2.1) 3 res.2.2.2.2.2.2.1) 10 res.2.1) 13 res.2.2.2.2.1) 14 res.2.2.2.2.2.1) 25 res.2.2.2.2.2.2.2.2.1) 26 res.2.2.2.2.2.2.2.2.2.1) 27 res.2.2.2.2.2.2.2.2.2.2.1) 28 res.2.2.2.2.2.2.2.2.2.2.2.1) 29 res.2.2.2.2.2.2.2.2.2.2.2.2.1) 30 res.2.2.2.2.2.2.2.2.2.2.2.2.2.1) 31 res.2.2.2.2.2.2.2.2.2.2.2.2.2.2.1) 32 res.2.2.2.2.2.2.2.2.2.2.2.2.2.2.2.1) 33 res.2.2.2.2.2.2.2.2.2.2.2.2.2.2.2.2)) : zR Γ 7 YX7_readFrom 0 [(0, .ref (zad Γ 10)), (1, .ref (zad Γ 3)), (2, .ref (zad Γ 25))] [] M Q := by
  unfold fPl_readFrom at hy
  refine zj_aload_n (pc' := 1) 0 dX7_readFrom_0 rfl rfl rfl ?_
  obtain ⟨y1, hy1, hy⟩ := zt_b hy
  refine zj_V0 (pc' := 4) (z := YX7_clear) (As := []) (N := (zui (zui M 10 y1.1) 13 y1.2)) dX7_readFrom_1 rfl mlX7_77 lkX7_clear sh10 ⟨_, _, rfl⟩ rfl rfl (Nat.le_of_ble_eq_true rfl) (Nat.le_of_ble_eq_true rfl) (LX7_clear_10 Γ _ r0 r0_2 e_i10 e_i13 hy1) ((zch_i rfl rfl)).symm ?_
  refine zj_aload_n (pc' := 5) 2 dX7_readFrom_4 rfl rfl rfl ?_
  obtain ⟨y2, hy2, hy⟩ := zt_b hy
  refine zj_V0 (pc' := 8) (z := YX1_clear) (As := []) (N := (zui (zui (zui (zui (zui (zui (zui (zui (zui (zui M 10 y1.1) 13 y1.2) 25 y2.1) 26 y2.2.1) 27 y2.2.2.1) 28 y2.2.2.2.1) 29 y2.2.2.2.2.1) 31 y2.2.2.2.2.2.1) 32 y2.2.2.2.2.2.2.1) 33 y2.2.2.2.2.2.2.2)) dX7_readFrom_5 rfl mlX7_80 lkX1_clear sh25 ⟨_, _, rfl⟩ rfl rfl (Nat.le_of_ble_eq_true rfl) (Nat.le_of_ble_eq_true rfl) (LX1_clear_25 Γ _ r2 r2_0 r2_1 r2_2 r2_3 r2_5 r2_6 r2_7 (zr_n rfl (zr_n rfl e_i25)) (zr_n rfl (zr_n rfl e_i26)) (zr_n rfl (zr_n rfl e_i27)) (zr_n rfl (zr_n rfl e_i28)) (zr_n rfl (zr_n rfl e_i29)) (zr_n rfl (zr_n rfl e_i31)) (zr_n rfl (zr_n rfl e_i32)) (zr_n rfl (zr_n rfl e_i33)) hy2) ((zch_i (zch_i (zch_i (zch_i (zch_i (zch_i (zch_i rfl rfl) rfl) rfl) rfl) rfl) rfl) rfl)).symm ?_
  refine zj_iconst (pc' := 9) dX7_readFrom_8 rfl kiconst_0 ?_
  refine zj_istore_n (pc' := 10) (L' := [(3, .int 0), (0, .ref (zad Γ 10)), (1, .ref (zad Γ 3)), (2, .ref (zad Γ 25))]) dX7_readFrom_9 rfl rfl (by decide) rfl ?_
  refine zj_sipush (pc' := 13) dX7_readFrom_10 rfl ksipush_900 ?_
  refine zj_istore (pc' := 15) (L' := [(4, .int 900), (3, .int 0), (0, .ref (zad Γ 10)), (1, .ref (zad Γ 3)), (2, .ref (zad Γ 25))]) dX7_readFrom_13 rfl (by decide) rfl ?_
  refine zj_loc [2, 3, 4, 1, 0] rfl ?_
  refine zj_mem (N := (zui (zui (zui (zui (zui (zui (zui (zui (zui (zui (zul M 3 w1) 10 y1.1) 13 y1.2) 25 y2.1) 26 y2.2.1) 27 y2.2.2.1) 28 y2.2.2.2.1) 29 y2.2.2.2.2.1) 31 y2.2.2.2.2.2.1) 32 y2.2.2.2.2.2.2.1) 33 y2.2.2.2.2.2.2.2)) (zself_l (zq_i (zq_i (zq_i (zq_i (zq_i (zq_i (zq_i (zq_i (zq_i (zq_i e_l3)))))))))) (zm_li (zm_li (zm_li (zm_li (zm_li (zm_li (zm_li (zm_li (zm_li (zm_li rfl))))))))))) ?_
  refine zj_mem (N := (zui (zui (zui (zui (zui (zui (zui (zui (zui (zui (zul (zul M 3 w1) 11 w0_0) 10 y1.1) 13 y1.2) 25 y2.1) 26 y2.2.1) 27 y2.2.2.1) 28 y2.2.2.2.1) 29 y2.2.2.2.2.1) 31 y2.2.2.2.2.2.1) 32 y2.2.2.2.2.2.2.1) 33 y2.2.2.2.2.2.2.2)) (zself_l (zq_i (zq_i (zq_i (zq_i (zq_i (zq_i (zq_i (zq_i (zq_i (zq_i (zq_n rfl e_l11))))))))))) (zm_li (zm_li (zm_li (zm_li (zm_li (zm_li (zm_li (zm_li (zm_li (zm_li rfl))))))))))) ?_
  refine zj_mem (N := (zui (zui (zui (zui (zui (zui (zui (zui (zui (zui (zul (zul (zul M 3 w1) 11 w0_0) 12 w0_1) 10 y1.1) 13 y1.2) 25 y2.1) 26 y2.2.1) 27 y2.2.2.1) 28 y2.2.2.2.1) 29 y2.2.2.2.2.1) 31 y2.2.2.2.2.2.1) 32 y2.2.2.2.2.2.2.1) 33 y2.2.2.2.2.2.2.2)) (zself_l (zq_i (zq_i (zq_i (zq_i (zq_i (zq_i (zq_i (zq_i (zq_i (zq_i (zq_n rfl (zq_n rfl e_l12)))))))))))) (zm_li (zm_li (zm_li (zm_li (zm_li (zm_li (zm_li (zm_li (zm_li (zm_li rfl))))))))))) ?_
  refine zj_mem (N := (zui (zui (zui (zui (zui (zui (zui (zui (zui (zui (zui (zul (zul (zul M 3 w1) 11 w0_0) 12 w0_1) 3 r1) 10 y1.1) 13 y1.2) 25 y2.1) 26 y2.2.1) 27 y2.2.2.1) 28 y2.2.2.2.1) 29 y2.2.2.2.2.1) 31 y2.2.2.2.2.2.1) 32 y2.2.2.2.2.2.2.1) 33 y2.2.2.2.2.2.2.2)) (zself_i (zr_n rfl (zr_n rfl (zr_n rfl (zr_n rfl (zr_n rfl (zr_n rfl (zr_n rfl (zr_n rfl (zr_n rfl (zr_n rfl (zr_l (zr_l (zr_l e_i3))))))))))))) (zm_n rfl (zm_n rfl (zm_n rfl (zm_n rfl (zm_n rfl (zm_n rfl (zm_n rfl (zm_n rfl (zm_n rfl (zm_n rfl rfl))))))))))) ?_
  refine zj_mem (N := (zui (zui (zui (zui (zui (zui (zui (zui (zui (zui (zui (zui (zul (zul (zul M 3 w1) 11 w0_0) 12 w0_1) 3 r1) 10 y1.1) 13 y1.2) 25 y2.1) 26 y2.2.1) 27 y2.2.2.1) 28 y2.2.2.2.1) 29 y2.2.2.2.2.1) 30 r2_4) 31 y2.2.2.2.2.2.1) 32 y2.2.2.2.2.2.2.1) 33 y2.2.2.2.2.2.2.2)) (zself_i (zr_n rfl (zr_n rfl (zr_n rfl (zr_n rfl (zr_n rfl (zr_n rfl (zr_n rfl (zr_n rfl (zr_n rfl (zr_n rfl (zr_n rfl (zr_l (zr_l (zr_l e_i30)))))))))))))) (zm_n rfl (zm_n rfl (zm_n rfl rfl)))) ?_
  obtain ⟨r18, hr9, hyo19⟩ := zt_b hy
  obtain ⟨n9, hn9⟩ := zLP_some hr9
  have HE16 : ∀ (r0v29 : Nat → Int32) (w0_0v30 : Nat → Int64) (w0_1v31 : Nat → Int64) (r0_2v32 : Nat → Int32) (r1v33 : Nat → Int32) (w1v34 : Nat → Int64) (r2_0v35 : Nat → Int32) (r2_1v36 : Nat → Int32) (r2_2v37 : Nat → Int32) (r2_3v38 : Nat → Int32) (r2_4v39 : Nat → Int32) (r2_5v40 : Nat → Int32) (x41 : Int32), r18 = (r0v29, w0_0v30, w0_1v31, r0_2v32, r1v33, w1v34, r2_0v35, r2_1v36, r2_2v37, r2_3v38, r2_4v39, r2_5v40, x41) → zR Γ 7 YX7_readFrom 56 [(0, .ref (zad Γ 10)), (3, .int x41)] [] (zui (zui (zui (zui (zui (zui (zui (zui (zui (zui (zui (zui (zul (zul (zul M 3 w1v34) 11 w0_0v30) 12 w0_1v31) 3 r1v33) 10 r0v29) 13 r0_2v32) 25 y2.1) 26 r2_0v35) 27 r2_1v36) 28 r2_2v37) 29 r2_3v38) 30 r2_4v39) 31 r2_5v40) 32 y2.2.2.2.2.2.2.1) 33 y2.2.2.2.2.2.2.2) Q := by
    intro r0v29 w0_0v30 w0_1v31 r0_2v32 r1v33 w1v34 r2_0v35 r2_1v36 r2_2v37 r2_3v38 r2_4v39 r2_5v40 x41 e9
    have hy := hyo19
    try rw [e9] at hy
    try dsimp only at hy
    refine zj_aload_n (pc' := 57) 0 dX7_readFrom_56 rfl rfl rfl ?_
    obtain ⟨y42, hy42, hy⟩ := zt_b hy
    refine zj_V0 (pc' := 60) (z := YX7_measure) (As := []) (N := (zui (zui (zui (zui (zui (zui (zui (zui (zui (zui (zui (zui (zui (zul (zul (zul M 3 w1v34) 11 w0_0v30) 12 w0_1v31) 3 r1v33) 10 r0v29) 13 r0_2v32) 14 y42) 25 y2.1) 26 r2_0v35) 27 r2_1v36) 28 r2_2v37) 29 r2_3v38) 30 r2_4v39) 31 r2_5v40) 32 y2.2.2.2.2.2.2.1) 33 y2.2.2.2.2.2.2.2)) dX7_readFrom_57 rfl mlX7_100 lkX7_measure sh10 ⟨_, _, rfl⟩ rfl rfl (Nat.le_of_ble_eq_true rfl) (Nat.le_of_ble_eq_true rfl) (LX7_measure_10 Γ _ r0v29 r0_2v32 r0_3 (zr_n rfl (zr_n rfl (zr_n rfl (zr_n rfl (zr_n rfl (zr_n rfl (zr_n rfl (zr_n rfl (zr_n rfl (zr_n rfl zr_s)))))))))) (zr_n rfl (zr_n rfl (zr_n rfl (zr_n rfl (zr_n rfl (zr_n rfl (zr_n rfl (zr_n rfl (zr_n rfl zr_s))))))))) (zr_n rfl (zr_n rfl (zr_n rfl (zr_n rfl (zr_n rfl (zr_n rfl (zr_n rfl (zr_n rfl (zr_n rfl (zr_n rfl (zr_n rfl (zr_n rfl (zr_l (zr_l (zr_l e_i14))))))))))))))) hy42) ((zm_n rfl (zm_n rfl (zm_n rfl (zm_n rfl (zm_n rfl (zm_n rfl (zm_n rfl (zm_n rfl (zm_n rfl rfl)))))))))).symm ?_
    refine zj_iload_n (pc' := 61) 1 dX7_readFrom_60 rfl rfl rfl ?_
    have e9 := Option.some.inj hy
    subst e9
    exact zj_iret dX7_readFrom_61 rfl hq
  have HL17 : ∀ (n : Nat) (r0v3 : Nat → Int32) (w0_0v4 : Nat → Int64) (w0_1v5 : Nat → Int64) (r0_2v6 : Nat → Int32) (r1v7 : Nat → Int32) (w1v8 : Nat → Int64) (r2_0v9 : Nat → Int32) (r2_1v10 : Nat → Int32) (r2_2v11 : Nat → Int32) (r2_3v12 : Nat → Int32) (r2_4v13 : Nat → Int32) (r2_5v14 : Nat → Int32) (x15 : Int32), zlp (fun s => fPl_readFrom_L15 r1_0 r1_0_0 w1_1 s.1 s.2.1 s.2.2.1 s.2.2.2.1 s.2.2.2.2.1 s.2.2.2.2.2.1 s.2.2.2.2.2.2.1 s.2.2.2.2.2.2.2.1 s.2.2.2.2.2.2.2.2.1 s.2.2.2.2.2.2.2.2.2.1 s.2.2.2.2.2.2.2.2.2.2.1 s.2.2.2.2.2.2.2.2.2.2.2.1 s.2.2.2.2.2.2.2.2.2.2.2.2) n (r0v3, w0_0v4, w0_1v5, r0_2v6, r1v7, w1v8, r2_0v9, r2_1v10, r2_2v11, r2_3v12, r2_4v13, r2_5v14, x15) = some r18 → zR Γ 7 YX7_readFrom 15 [(0, .ref (zad Γ 10)), (1, .ref (zad Γ 3)), (2, .ref (zad Γ 25)), (3, .int x15), (4, .int 900)] [] (zui (zui (zui (zui (zui (zui (zui (zui (zui (zui (zui (zui (zul (zul (zul M 3 w1v8) 11 w0_0v4) 12 w0_1v5) 3 r1v7) 10 r0v3) 13 r0_2v6) 25 y2.1) 26 r2_0v9) 27 r2_1v10) 28 r2_2v11) 29 r2_3v12) 30 r2_4v13) 31 r2_5v14) 32 y2.2.2.2.2.2.2.1) 33 y2.2.2.2.2.2.2.2) Q := by
    intro n
    induction n with
    | zero => intro r0v3 w0_0v4 w0_1v5 r0_2v6 r1v7 w1v8 r2_0v9 r2_1v10 r2_2v11 r2_3v12 r2_4v13 r2_5v14 x15 hn9; cases hn9
    | succ n ih20 =>
      intro r0v3 w0_0v4 w0_1v5 r0_2v6 r1v7 w1v8 r2_0v9 r2_1v10 r2_2v11 r2_3v12 r2_4v13 r2_5v14 x15 hn9
      obtain ⟨o9, hb9, h21, h22⟩ := zlp_step hn9
      have hy : fPl_readFrom_L15 r1_0 r1_0_0 w1_1 r0v3 w0_0v4 w0_1v5 r0_2v6 r1v7 w1v8 r2_0v9 r2_1v10 r2_2v11 r2_3v12 r2_4v13 r2_5v14 x15 = some o9 := hb9
      unfold fPl_readFrom_L15 at hy
      refine zj_iload_n (pc' := 16) 3 dX7_readFrom_15 rfl rfl rfl ?_
      refine zj_iload (pc' := 18) 4 dX7_readFrom_16 rfl rfl ?_
      refine zj_icmp_ge (tgt := 56) (pc' := 21) dX7_readFrom_18 rfl (by decide) (fun c23 => ?_) (fun c23 => ?_)
      · have hy := zt_t hy c23
        have e9 := h22 _ (Option.some.inj hy).symm
        refine zj_loc [0, 3] rfl ?_
        exact HE16 _ _ _ _ _ _ _ _ _ _ _ _ _ e9.symm
      · have hy := zt_f hy c23
        refine zj_aload_n (pc' := 22) 1 dX7_readFrom_21 rfl rfl rfl ?_
        refine zj_V1 (pc' := 25) (z := YX8_isGood) (As := []) (N := (zui (zui (zui (zui (zui (zui (zui (zui (zui (zui (zui (zui (zul (zul (zul M 3 w1v8) 11 w0_0v4) 12 w0_1v5) 3 r1v7) 10 r0v3) 13 r0_2v6) 25 y2.1) 26 r2_0v9) 27 r2_1v10) 28 r2_2v11) 29 r2_3v12) 30 r2_4v13) 31 r2_5v14) 32 y2.2.2.2.2.2.2.1) 33 y2.2.2.2.2.2.2.2)) dX7_readFrom_22 rfl mlX7_83 lkX8_isGood sh3 ⟨_, _, rfl⟩ rfl rfl (Nat.le_of_ble_eq_true rfl) (Nat.le_of_ble_eq_true rfl) (LX8_isGood_3 Γ _ r1v7 (zr_n rfl (zr_n rfl (zr_n rfl (zr_n rfl (zr_n rfl (zr_n rfl (zr_n rfl (zr_n rfl (zr_n rfl (zr_n rfl (zr_n rfl zr_s))))))))))) rfl) rfl ?_
        refine zj_bif_eq (tgt := 56) (pc' := 28) dX7_readFrom_25 rfl (by decide) (fun c24 => ?_) (fun c24 => ?_)
        · have hy := zt_f hy c24
          have e9 := h22 _ (Option.some.inj hy).symm
          refine zj_loc [0, 3] rfl ?_
          exact HE16 _ _ _ _ _ _ _ _ _ _ _ _ _ e9.symm
        · have hy := zt_t hy c24
          refine zj_aload_n (pc' := 29) 1 dX7_readFrom_28 rfl rfl rfl ?_
          refine zj_V1 (pc' := 32) (z := YX8_atEnd) (As := []) (N := (zui (zui (zui (zui (zui (zui (zui (zui (zui (zui (zui (zui (zul (zul (zul M 3 w1v8) 11 w0_0v4) 12 w0_1v5) 3 r1v7) 10 r0v3) 13 r0_2v6) 25 y2.1) 26 r2_0v9) 27 r2_1v10) 28 r2_2v11) 29 r2_3v12) 30 r2_4v13) 31 r2_5v14) 32 y2.2.2.2.2.2.2.1) 33 y2.2.2.2.2.2.2.2)) dX7_readFrom_29 rfl mlX7_89 lkX8_atEnd sh3 ⟨_, _, rfl⟩ rfl rfl (Nat.le_of_ble_eq_true rfl) (Nat.le_of_ble_eq_true rfl) (LX8_atEnd_3 Γ _ r1v7 (zr_n rfl (zr_n rfl (zr_n rfl (zr_n rfl (zr_n rfl (zr_n rfl (zr_n rfl (zr_n rfl (zr_n rfl (zr_n rfl (zr_n rfl zr_s))))))))))) rfl) rfl ?_
          refine zj_bif_eq (tgt := 38) (pc' := 35) dX7_readFrom_32 rfl (by decide) (fun c25 => ?_) (fun c25 => ?_)
          · have hy := zt_f hy c25
            refine zj_aload_n (pc' := 39) 0 dX7_readFrom_38 rfl rfl rfl ?_
            refine zj_aload_n (pc' := 40) 1 dX7_readFrom_39 rfl rfl rfl ?_
            refine zj_aload_n (pc' := 41) 2 dX7_readFrom_40 rfl rfl rfl ?_
            obtain ⟨y26, hy26, hy⟩ := zt_b hy
            refine zj_V0 (pc' := 44) (z := YX7_readLine) (As := [.ref (zad Γ 3), .ref (zad Γ 25)]) (N := (zui (zui (zui (zui (zui (zui (zui (zui (zui (zui (zui (zui (zul (zul (zul M 3 y26.2.2.2.2.2.1) 11 y26.2.1) 12 y26.2.2.1) 3 y26.2.2.2.2.1) 10 y26.1) 13 y26.2.2.2.1) 25 y2.1) 26 y26.2.2.2.2.2.2.1) 27 y26.2.2.2.2.2.2.2.1) 28 y26.2.2.2.2.2.2.2.2.1) 29 y26.2.2.2.2.2.2.2.2.2.1) 30 y26.2.2.2.2.2.2.2.2.2.2.1) 31 y26.2.2.2.2.2.2.2.2.2.2.2) 32 y2.2.2.2.2.2.2.1) 33 y2.2.2.2.2.2.2.2)) dX7_readFrom_41 rfl mlX7_92 lkX7_readLine sh10 ⟨_, _, rfl⟩ rfl rfl (Nat.le_of_ble_eq_true rfl) (Nat.le_of_ble_eq_true rfl) (LX7_readLine_10_3_25 Γ _ r0v3 w0_0v4 w0_1v5 r0_2v6 r1v7 w1v8 r1_0 r1_0_0 w1_1 r2_0v9 r2_1v10 r2_2v11 r2_3v12 r2_4v13 r2_5v14 (zr_n rfl (zr_n rfl (zr_n rfl (zr_n rfl (zr_n rfl (zr_n rfl (zr_n rfl (zr_n rfl (zr_n rfl (zr_n rfl zr_s)))))))))) (zq_i (zq_i (zq_i (zq_i (zq_i (zq_i (zq_i (zq_i (zq_i (zq_i (zq_i (zq_i (zq_n rfl zq_s))))))))))))) (zq_i (zq_i (zq_i (zq_i (zq_i (zq_i (zq_i (zq_i (zq_i (zq_i (zq_i (zq_i zq_s)))))))))))) (zr_n rfl (zr_n rfl (zr_n rfl (zr_n rfl (zr_n rfl (zr_n rfl (zr_n rfl (zr_n rfl (zr_n rfl zr_s))))))))) (zr_n rfl (zr_n rfl (zr_n rfl (zr_n rfl (zr_n rfl (zr_n rfl (zr_n rfl (zr_n rfl (zr_n rfl (zr_n rfl (zr_n rfl zr_s))))))))))) (zq_i (zq_i (zq_i (zq_i (zq_i (zq_i (zq_i (zq_i (zq_i (zq_i (zq_i (zq_i (zq_n rfl (zq_n rfl zq_s)))))))))))))) (zr_n rfl (zr_n rfl (zr_n rfl (zr_n rfl (zr_n rfl (zr_n rfl (zr_n rfl (zr_n rfl (zr_n rfl (zr_n rfl (zr_n rfl (zr_n rfl (zr_l (zr_l (zr_l e_i1))))))))))))))) (zr_n rfl (zr_n rfl (zr_n rfl (zr_n rfl (zr_n rfl (zr_n rfl (zr_n rfl (zr_n rfl (zr_n rfl (zr_n rfl (zr_n rfl (zr_n rfl (zr_l (zr_l (zr_l e_i2))))))))))))))) (zq_i (zq_i (zq_i (zq_i (zq_i (zq_i (zq_i (zq_i (zq_i (zq_i (zq_i (zq_i (zq_n rfl (zq_n rfl (zq_n rfl e_l4))))))))))))))) (zr_n rfl (zr_n rfl (zr_n rfl (zr_n rfl (zr_n rfl (zr_n rfl (zr_n rfl zr_s))))))) (zr_n rfl (zr_n rfl (zr_n rfl (zr_n rfl (zr_n rfl (zr_n rfl zr_s)))))) (zr_n rfl (zr_n rfl (zr_n rfl (zr_n rfl (zr_n rfl zr_s))))) (zr_n rfl (zr_n rfl (zr_n rfl (zr_n rfl zr_s)))) (zr_n rfl (zr_n rfl (zr_n rfl zr_s))) (zr_n rfl (zr_n rfl zr_s)) hy26) ((zch_i (zch_i (zch_i (zch_i (zch_i (zch_i (zch_i (zch_i (zch_i (zch_l (zch_l (zm_li (zm_li (zm_li (zm_li (zm_li (zm_li (zm_li (zm_li (zm_li (zm_li (zm_li (zm_li (zn_n rfl (zn_n rfl zn_s)))))))))))))) (zm_li (zm_li (zm_li (zm_li (zm_li (zm_li (zm_li (zm_li (zm_li (zm_li (zm_li (zm_li (zn_n rfl zn_s)))))))))))))) (zm_li (zm_li (zm_li (zm_li (zm_li (zm_li (zm_li (zm_li (zm_li (zm_li (zm_li (zm_li zn_s))))))))))))) (zm_n rfl (zm_n rfl (zm_n rfl (zm_n rfl (zm_n rfl (zm_n rfl (zm_n rfl (zm_n rfl (zm_n rfl (zm_n rfl (zm_n rfl zm_s)))))))))))) (zm_n rfl (zm_n rfl (zm_n rfl (zm_n rfl (zm_n rfl (zm_n rfl (zm_n rfl (zm_n rfl (zm_n rfl (zm_n rfl zm_s))))))))))) (zm_n rfl (zm_n rfl (zm_n rfl (zm_n rfl (zm_n rfl (zm_n rfl (zm_n rfl (zm_n rfl (zm_n rfl zm_s)))))))))) (zm_n rfl (zm_n rfl (zm_n rfl (zm_n rfl (zm_n rfl (zm_n rfl (zm_n rfl zm_s)))))))) (zm_n rfl (zm_n rfl (zm_n rfl (zm_n rfl (zm_n rfl (zm_n rfl zm_s))))))) (zm_n rfl (zm_n rfl (zm_n rfl (zm_n rfl (zm_n rfl zm_s)))))) (zm_n rfl (zm_n rfl (zm_n rfl (zm_n rfl zm_s))))) (zm_n rfl (zm_n rfl (zm_n rfl zm_s)))) (zm_n rfl (zm_n rfl zm_s)))).symm ?_
            refine zj_aload_n (pc' := 45) 1 dX7_readFrom_44 rfl rfl rfl ?_
            refine zj_bipush (pc' := 47) dX7_readFrom_45 rfl kbipush_59 ?_
            obtain ⟨y27, hy27, hy⟩ := zt_b hy
            refine zj_V0 (pc' := 50) (z := YX8_takeSign) (As := [.int 59]) (N := (zui (zui (zui (zui (zui (zui (zui (zui (zui (zui (zui (zui (zul (zul (zul M 3 y27.2) 11 y26.2.1) 12 y26.2.2.1) 3 y27.1) 10 y26.1) 13 y26.2.2.2.1) 25 y2.1) 26 y26.2.2.2.2.2.2.1) 27 y26.2.2.2.2.2.2.2.1) 28 y26.2.2.2.2.2.2.2.2.1) 29 y26.2.2.2.2.2.2.2.2.2.1) 30 y26.2.2.2.2.2.2.2.2.2.2.1) 31 y26.2.2.2.2.2.2.2.2.2.2.2) 32 y2.2.2.2.2.2.2.1) 33 y2.2.2.2.2.2.2.2)) dX7_readFrom_47 rfl mlX7_96 lkX8_takeSign sh3 ⟨_, _, rfl⟩ rfl rfl (Nat.le_of_ble_eq_true rfl) (Nat.le_of_ble_eq_true rfl) (LX8_takeSign_3 Γ _ y26.2.2.2.2.1 y26.2.2.2.2.2.1 r1_0 r1_0_0 (zr_n rfl (zr_n rfl (zr_n rfl (zr_n rfl (zr_n rfl (zr_n rfl (zr_n rfl (zr_n rfl (zr_n rfl (zr_n rfl (zr_n rfl zr_s))))))))))) (zq_i (zq_i (zq_i (zq_i (zq_i (zq_i (zq_i (zq_i (zq_i (zq_i (zq_i (zq_i (zq_n rfl (zq_n rfl zq_s)))))))))))))) (zr_n rfl (zr_n rfl (zr_n rfl (zr_n rfl (zr_n rfl (zr_n rfl (zr_n rfl (zr_n rfl (zr_n rfl (zr_n rfl (zr_n rfl (zr_n rfl (zr_l (zr_l (zr_l e_i1))))))))))))))) (zr_n rfl (zr_n rfl (zr_n rfl (zr_n rfl (zr_n rfl (zr_n rfl (zr_n rfl (zr_n rfl (zr_n rfl (zr_n rfl (zr_n rfl (zr_n rfl (zr_l (zr_l (zr_l e_i2))))))))))))))) 59 hy27) ((zch_i (zm_li (zm_li (zm_li (zm_li (zm_li (zm_li (zm_li (zm_li (zm_li (zm_li (zm_li (zm_li (zn_n rfl (zn_n rfl zn_s)))))))))))))) (zm_n rfl (zm_n rfl (zm_n rfl (zm_n rfl (zm_n rfl (zm_n rfl (zm_n rfl (zm_n rfl (zm_n rfl (zm_n rfl (zm_n rfl zm_s))))))))))))).symm ?_
            obtain ⟨x28, ex28⟩ : ∃ z : Int32, z = (x15 + 1) := ⟨_, rfl⟩
            have hy := zlet_at ex28 hy
            refine zj_iinc (pc' := 53) 3 (L' := [(3, .int x28), (0, .ref (zad Γ 10)), (1, .ref (zad Γ 3)), (2, .ref (zad Γ 25)), (4, .int 900)]) dX7_readFrom_50 rfl rfl (by decide) (by rw [ci1, ← ex28]; rfl) ?_
            refine zj_goto (tgt := 15) dX7_readFrom_53 (by decide) ?_
            have hn9 := h21 _ (Option.some.inj hy).symm
            refine zj_loc [1, 2, 3, 0, 4] rfl ?_
            exact ih20 _ _ _ _ _ _ _ _ _ _ _ _ _ hn9
          · have hy := zt_t hy c25
            refine zj_goto (tgt := 56) dX7_readFrom_35 (by decide) ?_
            have e9 := h22 _ (Option.some.inj hy).symm
            refine zj_loc [0, 3] rfl ?_
            exact HE16 _ _ _ _ _ _ _ _ _ _ _ _ _ e9.symm
  exact HL17 n9 _ _ _ _ _ _ _ _ _ _ _ _ _ hn9
set_option maxRecDepth 20000 in
theorem LX7_readFrom_10_3_25 (Γ : zG) (M : zM) (r0 : Nat → Int32) (w0_0 : Nat → Int64) (w0_1 : Nat → Int64) (r0_2 : Nat → Int32) (r0_3 : Nat → Int32) (r1 : Nat → Int32) (w1 : Nat → Int64) (r1_0 : Nat → Int32) (r1_0_0 : Nat → Int32) (w1_1 : Nat → Int64) (r2 : Nat → Int32) (r2_0 : Nat → Int32) (r2_1 : Nat → Int32) (r2_2 : Nat → Int32) (r2_3 : Nat → Int32) (r2_4 : Nat → Int32) (r2_5 : Nat → Int32) (r2_6 : Nat → Int32) (r2_7 : Nat → Int32) (e_i10 : M.1 10 = r0) (e_l11 : M.2 11 = w0_0) (e_l12 : M.2 12 = w0_1) (e_i13 : M.1 13 = r0_2) (e_i14 : M.1 14 = r0_3) (e_i3 : M.1 3 = r1) (e_l3 : M.2 3 = w1) (e_i1 : M.1 1 = r1_0) (e_i2 : M.1 2 = r1_0_0) (e_l4 : M.2 4 = w1_1) (e_i25 : M.1 25 = r2) (e_i26 : M.1 26 = r2_0) (e_i27 : M.1 27 = r2_1) (e_i28 : M.1 28 = r2_2) (e_i29 : M.1 29 = r2_3) (e_i30 : M.1 30 = r2_4) (e_i31 : M.1 31 = r2_5) (e_i32 : M.1 32 = r2_6) (e_i33 : M.1 33 = r2_7)  {res : Int32 × (Nat → Int32) × (Nat → Int64) × (Nat → Int64) × (Nat → Int32) × (Nat → Int32) × (Nat → Int32) × (Nat → Int64) × (Nat → Int32) × (Nat → Int32) × (Nat → Int32) × (Nat → Int32) × (Nat → Int32) × (Nat → Int32) × (Nat → Int32) × (Nat → Int32) × (Nat → Int32)} (hy : (fPl_readFrom r0 w0_0 w0_1 r0_2 r0_3 r1 w1 r1_0 r1_0_0 w1_1 r2 r2_0 r2_1 r2_2 r2_3 r2_4 r2_5 r2_6 r2_7) = some res) : zK Γ 7 YX7_readFrom [.ref (zad Γ 10), .ref (zad Γ 3), .ref (zad Γ 25)] M (fun v N => v = some (.int res.1) ∧ N = (zui (zui (zui (zui (zui (zui (zui (zui (zui (zui (zui (zui (zui (zul (zul (zul M 3 res.2.2.2.2.2.2.2.1) 11 res.2.2.1) 12 res.2.2.2.1) 3 res.2.2.2.2.2.2.1) 10 res.2.1) 13 res.2.2.2.2.1) 14 res.2.2.2.2.2.1) 25 res.2.2.2.2.2.2.2.2.1) 26 res.2.2.2.2.2.2.2.2.2.1) 27 res.2.2.2.2.2.2.2.2.2.2.1) 28 res.2.2.2.2.2.2.2.2.2.2.2.1) 29 res.2.2.2.2.2.2.2.2.2.2.2.2.1) 30 res.2.2.2.2.2.2.2.2.2.2.2.2.2.1) 31 res.2.2.2.2.2.2.2.2.2.2.2.2.2.2.1) 32 res.2.2.2.2.2.2.2.2.2.2.2.2.2.2.2.1) 33 res.2.2.2.2.2.2.2.2.2.2.2.2.2.2.2.2)) :=
  zK_of (by decide) (Nat.le_of_ble_eq_true rfl) (TX7_readFrom_10_3_25 Γ M r0 w0_0 w0_1 r0_2 r0_3 r1 w1 r1_0 r1_0_0 w1_1 r2 r2_0 r2_1 r2_2 r2_3 r2_4 r2_5 r2_6 r2_7 e_i10 e_l11 e_l12 e_i13 e_i14 e_i3 e_l3 e_i1 e_i2 e_l4 e_i25 e_i26 e_i27 e_i28 e_i29 e_i30 e_i31 e_i32 e_i33 hy ⟨rfl, rfl⟩)

noncomputable def fRd_faultKind (r0 : Nat → Int32) : Int32 :=
  (r0 8)

set_option maxRecDepth 20000 in
theorem TX8_faultKind_3 (Γ : zG) {Q : Option Value → zM → Prop} (M : zM) (r0 : Nat → Int32) (e_i3 : M.1 3 = r0)  {res : Int32} (hy : (fRd_faultKind r0) = res) (hq : Q (some (.int res)) M) : zR Γ 1 YX8_faultKind 0 [(0, .ref (zad Γ 3))] [] M Q := by
  unfold fRd_faultKind at hy
  refine zj_aload_n (pc' := 1) 0 dX8_faultKind_0 rfl rfl rfl ?_
  refine zj_fI (pc' := 4) dX8_faultKind_1 rfl flX8_48 sh3 rfl e_i3 rfl ?_
  subst hy
  exact zj_iret dX8_faultKind_4 rfl hq
set_option maxRecDepth 20000 in
theorem LX8_faultKind_3 (Γ : zG) (M : zM) (r0 : Nat → Int32) (e_i3 : M.1 3 = r0)  {res : Int32} (hy : (fRd_faultKind r0) = res) : zK Γ 1 YX8_faultKind [.ref (zad Γ 3)] M (fun v N => v = some (.int res) ∧ N = M) :=
  zK_of (by decide) (Nat.le_of_ble_eq_true rfl) (TX8_faultKind_3 Γ M r0 e_i3 hy ⟨rfl, rfl⟩)

noncomputable def fTp_clear (r0 : Nat → Int32) : Option ((Nat → Int32)) :=
  zlet (zup r0 1 0) (fun (r0v1 : Nat → Int32) =>
  some r0v1)

set_option maxRecDepth 20000 in
theorem TX10_clear_1 (Γ : zG) {Q : Option Value → zM → Prop} (M : zM) (r0 : Nat → Int32) (e_i1 : M.1 1 = r0)  {res : (Nat → Int32)} (hy : (fTp_clear r0) = some res) (hq : Q none (zui M 1 res)) : zR Γ 1 YX10_clear 0 [(0, .ref (zad Γ 1))] [] M Q := by
  unfold fTp_clear at hy
  refine zj_aload_n (pc' := 1) 0 dX10_clear_0 rfl rfl rfl ?_
  refine zj_iconst (pc' := 2) dX10_clear_1 rfl kiconst_0 ?_
  obtain ⟨r0v1, er0v1⟩ : ∃ z, z = (zup r0 1 0) := ⟨_, rfl⟩
  have hy := zlet_at er0v1 hy
  refine zj_pI (pc' := 5) (N := (zui M 1 r0v1)) dX10_clear_2 rfl fpX10_15 sh1 rfl e_i1 er0v1 rfl ?_
  have e9 := Option.some.inj hy
  subst e9
  exact zj_vret dX10_clear_5 rfl hq
set_option maxRecDepth 20000 in
theorem LX10_clear_1 (Γ : zG) (M : zM) (r0 : Nat → Int32) (e_i1 : M.1 1 = r0)  {res : (Nat → Int32)} (hy : (fTp_clear r0) = some res) : zK Γ 1 YX10_clear [.ref (zad Γ 1)] M (fun v N => v = none ∧ N = (zui M 1 res)) :=
  zK_of (by decide) (Nat.le_of_ble_eq_true rfl) (TX10_clear_1 Γ M r0 e_i1 hy ⟨rfl, rfl⟩)

noncomputable def fRd_place (r0 : Nat → Int32) : Int32 :=
  (r0 3)

set_option maxRecDepth 20000 in
theorem TX8_place_3 (Γ : zG) {Q : Option Value → zM → Prop} (M : zM) (r0 : Nat → Int32) (e_i3 : M.1 3 = r0)  {res : Int32} (hy : (fRd_place r0) = res) (hq : Q (some (.int res)) M) : zR Γ 1 YX8_place 0 [(0, .ref (zad Γ 3))] [] M Q := by
  unfold fRd_place at hy
  refine zj_aload_n (pc' := 1) 0 dX8_place_0 rfl rfl rfl ?_
  refine zj_fI (pc' := 4) dX8_place_1 rfl flX8_54 sh3 rfl e_i3 rfl ?_
  subst hy
  exact zj_iret dX8_place_4 rfl hq
set_option maxRecDepth 20000 in
theorem LX8_place_3 (Γ : zG) (M : zM) (r0 : Nat → Int32) (e_i3 : M.1 3 = r0)  {res : Int32} (hy : (fRd_place r0) = res) : zK Γ 1 YX8_place [.ref (zad Γ 3)] M (fun v N => v = some (.int res) ∧ N = M) :=
  zK_of (by decide) (Nat.le_of_ble_eq_true rfl) (TX8_place_3 Γ M r0 e_i3 hy ⟨rfl, rfl⟩)

noncomputable def fPl_copyFrom (r0 : Nat → Int32) (w0_0 : Nat → Int64) (w0_1 : Nat → Int64) (r0_2 : Nat → Int32) (r0_3 : Nat → Int32) (r1 : Nat → Int32) (w1_0 : Nat → Int64) (w1_1 : Nat → Int64) (r1_2 : Nat → Int32) (r1_3 : Nat → Int32) : Option ((Nat → Int32) × (Nat → Int64) × (Nat → Int64) × (Nat → Int32) × (Nat → Int32)) :=
  zlet (va_cpy w1_0 w0_0 0 0 8) (fun (w0_0v1 : Nat → Int64) =>
  zlet (va_cpy w1_1 w0_1 0 0 6) (fun (w0_1v2 : Nat → Int64) =>
  zlet (va_cpy r1_2 r0_2 0 0 8) (fun (r0_2v3 : Nat → Int32) =>
  zlet (va_cpy r1_3 r0_3 0 0 64) (fun (r0_3v4 : Nat → Int32) =>
  zlet (zup r0 4 (r1 4)) (fun (r0v5 : Nat → Int32) =>
  zlet (zup r0v5 5 (r1 5)) (fun (r0v6 : Nat → Int32) =>
  zlet (zup r0v6 6 (r1 6)) (fun (r0v7 : Nat → Int32) =>
  some (r0v7, w0_0v1, w0_1v2, r0_2v3, r0_3v4))))))))

set_option maxRecDepth 20000 in
theorem TX7_copyFrom_5_10 (Γ : zG) {Q : Option Value → zM → Prop} (M : zM) (r0 : Nat → Int32) (w0_0 : Nat → Int64) (w0_1 : Nat → Int64) (r0_2 : Nat → Int32) (r0_3 : Nat → Int32) (r1 : Nat → Int32) (w1_0 : Nat → Int64) (w1_1 : Nat → Int64) (r1_2 : Nat → Int32) (r1_3 : Nat → Int32) (e_i5 : M.1 5 = r0) (e_l6 : M.2 6 = w0_0) (e_l7 : M.2 7 = w0_1) (e_i8 : M.1 8 = r0_2) (e_i9 : M.1 9 = r0_3) (e_i10 : M.1 10 = r1) (e_l11 : M.2 11 = w1_0) (e_l12 : M.2 12 = w1_1) (e_i13 : M.1 13 = r1_2) (e_i14 : M.1 14 = r1_3)  {res : (Nat → Int32) × (Nat → Int64) × (Nat → Int64) × (Nat → Int32) × (Nat → Int32)} (hy : (fPl_copyFrom r0 w0_0 w0_1 r0_2 r0_3 r1 w1_0 w1_1 r1_2 r1_3) = some res) (hq : Q none (zui (zui (zui (zul (zul M 6 res.2.1) 7 res.2.2.1) 5 res.1) 8 res.2.2.2.1) 9 res.2.2.2.2)) : zR Γ 2 YX7_copyFrom 0 [(0, .ref (zad Γ 5)), (1, .ref (zad Γ 10))] [] M Q := by
  unfold fPl_copyFrom at hy
  refine zj_aload_n (pc' := 1) 1 dX7_copyFrom_0 rfl rfl rfl ?_
  refine zj_getR (pc' := 4) (j := 11) dX7_copyFrom_1 rfl flX7_9 sh10 rfl ?_
  refine zj_iconst (pc' := 5) dX7_copyFrom_4 rfl kiconst_0 ?_
  refine zj_aload_n (pc' := 6) 0 dX7_copyFrom_5 rfl rfl rfl ?_
  refine zj_getR (pc' := 9) (j := 6) dX7_copyFrom_6 rfl flX7_9 sh5 rfl ?_
  refine zj_iconst (pc' := 10) dX7_copyFrom_9 rfl kiconst_0 ?_
  refine zj_bipush (pc' := 12) dX7_copyFrom_10 rfl kbipush_8 ?_
  obtain ⟨w0_0v1, ew0_0v1⟩ : ∃ z, z = (va_cpy w1_0 w0_0 0 0 8) := ⟨_, rfl⟩
  have hy := zlet_at ew0_0v1 hy
  refine zj_cpL (pc' := 15) (N := (zul M 6 w0_0v1)) dX7_copyFrom_12 rfl mlX7_65 zcpw sh11 sh6 tn0 tn0 tn8 (by decide) (by decide) (Nat.le_of_ble_eq_true rfl) (Nat.le_of_ble_eq_true rfl) e_l11 e_l6 ew0_0v1 rfl (Nat.le_of_ble_eq_true rfl) (Nat.le_of_ble_eq_true rfl) ?_
  refine zj_aload_n (pc' := 16) 1 dX7_copyFrom_15 rfl rfl rfl ?_
  refine zj_getR (pc' := 19) (j := 12) dX7_copyFrom_16 rfl flX7_15 sh10 rfl ?_
  refine zj_iconst (pc' := 20) dX7_copyFrom_19 rfl kiconst_0 ?_
  refine zj_aload_n (pc' := 21) 0 dX7_copyFrom_20 rfl rfl rfl ?_
  refine zj_getR (pc' := 24) (j := 7) dX7_copyFrom_21 rfl flX7_15 sh5 rfl ?_
  refine zj_iconst (pc' := 25) dX7_copyFrom_24 rfl kiconst_0 ?_
  refine zj_bipush (pc' := 27) dX7_copyFrom_25 rfl kbipush_6 ?_
  obtain ⟨w0_1v2, ew0_1v2⟩ : ∃ z, z = (va_cpy w1_1 w0_1 0 0 6) := ⟨_, rfl⟩
  have hy := zlet_at ew0_1v2 hy
  refine zj_cpL (pc' := 30) (N := (zul (zul M 6 w0_0v1) 7 w0_1v2)) dX7_copyFrom_27 rfl mlX7_65 zcpw sh12 sh7 tn0 tn0 tn6 (by decide) (by decide) (Nat.le_of_ble_eq_true rfl) (Nat.le_of_ble_eq_true rfl) (zq_n rfl e_l12) (zq_n rfl e_l7) ew0_1v2 rfl (Nat.le_of_ble_eq_true rfl) (Nat.le_of_ble_eq_true rfl) ?_
  refine zj_aload_n (pc' := 31) 1 dX7_copyFrom_30 rfl rfl rfl ?_
  refine zj_getR (pc' := 34) (j := 13) dX7_copyFrom_31 rfl flX7_18 sh10 rfl ?_
  refine zj_iconst (pc' := 35) dX7_copyFrom_34 rfl kiconst_0 ?_
  refine zj_aload_n (pc' := 36) 0 dX7_copyFrom_35 rfl rfl rfl ?_
  refine zj_getR (pc' := 39) (j := 8) dX7_copyFrom_36 rfl flX7_18 sh5 rfl ?_
  refine zj_iconst (pc' := 40) dX7_copyFrom_39 rfl kiconst_0 ?_
  refine zj_bipush (pc' := 42) dX7_copyFrom_40 rfl kbipush_8 ?_
  obtain ⟨r0_2v3, er0_2v3⟩ : ∃ z, z = (va_cpy r1_2 r0_2 0 0 8) := ⟨_, rfl⟩
  have hy := zlet_at er0_2v3 hy
  refine zj_cpI (pc' := 45) (N := (zui (zul (zul M 6 w0_0v1) 7 w0_1v2) 8 r0_2v3)) dX7_copyFrom_42 rfl mlX7_65 zcpw sh13 sh8 tn0 tn0 tn8 (by decide) (by decide) (Nat.le_of_ble_eq_true rfl) (Nat.le_of_ble_eq_true rfl) (zr_l (zr_l e_i13)) (zr_l (zr_l e_i8)) er0_2v3 rfl (Nat.le_of_ble_eq_true rfl) (Nat.le_of_ble_eq_true rfl) ?_
  refine zj_aload_n (pc' := 46) 1 dX7_copyFrom_45 rfl rfl rfl ?_
  refine zj_getR (pc' := 49) (j := 14) dX7_copyFrom_46 rfl flX7_22 sh10 rfl ?_
  refine zj_iconst (pc' := 50) dX7_copyFrom_49 rfl kiconst_0 ?_
  refine zj_aload_n (pc' := 51) 0 dX7_copyFrom_50 rfl rfl rfl ?_
  refine zj_getR (pc' := 54) (j := 9) dX7_copyFrom_51 rfl flX7_22 sh5 rfl ?_
  refine zj_iconst (pc' := 55) dX7_copyFrom_54 rfl kiconst_0 ?_
  refine zj_bipush (pc' := 57) dX7_copyFrom_55 rfl kbipush_64 ?_
  obtain ⟨r0_3v4, er0_3v4⟩ : ∃ z, z = (va_cpy r1_3 r0_3 0 0 64) := ⟨_, rfl⟩
  have hy := zlet_at er0_3v4 hy
  refine zj_cpI (pc' := 60) (N := (zui (zui (zul (zul M 6 w0_0v1) 7 w0_1v2) 8 r0_2v3) 9 r0_3v4)) dX7_copyFrom_57 rfl mlX7_65 zcpw sh14 sh9 tn0 tn0 tn64 (by decide) (by decide) (Nat.le_of_ble_eq_true rfl) (Nat.le_of_ble_eq_true rfl) (zr_n rfl (zr_l (zr_l e_i14))) (zr_n rfl (zr_l (zr_l e_i9))) er0_3v4 rfl (Nat.le_of_ble_eq_true rfl) (Nat.le_of_ble_eq_true rfl) ?_
  refine zj_aload_n (pc' := 61) 0 dX7_copyFrom_60 rfl rfl rfl ?_
  refine zj_aload_n (pc' := 62) 1 dX7_copyFrom_61 rfl rfl rfl ?_
  refine zj_fI (pc' := 65) dX7_copyFrom_62 rfl flX7_25 sh10 rfl (zr_n rfl (zr_n rfl (zr_l (zr_l e_i10)))) rfl ?_
  obtain ⟨r0v5, er0v5⟩ : ∃ z, z = (zup r0 4 (r1 4)) := ⟨_, rfl⟩
  have hy := zlet_at er0v5 hy
  refine zj_pI (pc' := 68) (N := (zui (zui (zui (zul (zul M 6 w0_0v1) 7 w0_1v2) 5 r0v5) 8 r0_2v3) 9 r0_3v4)) dX7_copyFrom_65 rfl fpX7_25 sh5 rfl (zr_n rfl (zr_n rfl (zr_l (zr_l e_i5)))) er0v5 (zm_n rfl (zm_n rfl rfl)) ?_
  refine zj_aload_n (pc' := 69) 0 dX7_copyFrom_68 rfl rfl rfl ?_
  refine zj_aload_n (pc' := 70) 1 dX7_copyFrom_69 rfl rfl rfl ?_
  refine zj_fI (pc' := 73) dX7_copyFrom_70 rfl flX7_29 sh10 rfl (zr_n rfl (zr_n rfl (zr_n rfl (zr_l (zr_l e_i10))))) rfl ?_
  obtain ⟨r0v6, er0v6⟩ : ∃ z, z = (zup r0v5 5 (r1 5)) := ⟨_, rfl⟩
  have hy := zlet_at er0v6 hy
  refine zj_pI (pc' := 76) (N := (zui (zui (zui (zul (zul M 6 w0_0v1) 7 w0_1v2) 5 r0v6) 8 r0_2v3) 9 r0_3v4)) dX7_copyFrom_73 rfl fpX7_29 sh5 rfl (zr_n rfl (zr_n rfl zr_s)) er0v6 (zm_n rfl (zm_n rfl zm_s)) ?_
  refine zj_aload_n (pc' := 77) 0 dX7_copyFrom_76 rfl rfl rfl ?_
  refine zj_aload_n (pc' := 78) 1 dX7_copyFrom_77 rfl rfl rfl ?_
  refine zj_fI (pc' := 81) dX7_copyFrom_78 rfl flX7_32 sh10 rfl (zr_n rfl (zr_n rfl (zr_n rfl (zr_l (zr_l e_i10))))) rfl ?_
  obtain ⟨r0v7, er0v7⟩ : ∃ z, z = (zup r0v6 6 (r1 6)) := ⟨_, rfl⟩
  have hy := zlet_at er0v7 hy
  refine zj_pI (pc' := 84) (N := (zui (zui (zui (zul (zul M 6 w0_0v1) 7 w0_1v2) 5 r0v7) 8 r0_2v3) 9 r0_3v4)) dX7_copyFrom_81 rfl fpX7_32 sh5 rfl (zr_n rfl (zr_n rfl zr_s)) er0v7 (zm_n rfl (zm_n rfl zm_s)) ?_
  have e9 := Option.some.inj hy
  subst e9
  exact zj_vret dX7_copyFrom_84 rfl hq
set_option maxRecDepth 20000 in
theorem LX7_copyFrom_5_10 (Γ : zG) (M : zM) (r0 : Nat → Int32) (w0_0 : Nat → Int64) (w0_1 : Nat → Int64) (r0_2 : Nat → Int32) (r0_3 : Nat → Int32) (r1 : Nat → Int32) (w1_0 : Nat → Int64) (w1_1 : Nat → Int64) (r1_2 : Nat → Int32) (r1_3 : Nat → Int32) (e_i5 : M.1 5 = r0) (e_l6 : M.2 6 = w0_0) (e_l7 : M.2 7 = w0_1) (e_i8 : M.1 8 = r0_2) (e_i9 : M.1 9 = r0_3) (e_i10 : M.1 10 = r1) (e_l11 : M.2 11 = w1_0) (e_l12 : M.2 12 = w1_1) (e_i13 : M.1 13 = r1_2) (e_i14 : M.1 14 = r1_3)  {res : (Nat → Int32) × (Nat → Int64) × (Nat → Int64) × (Nat → Int32) × (Nat → Int32)} (hy : (fPl_copyFrom r0 w0_0 w0_1 r0_2 r0_3 r1 w1_0 w1_1 r1_2 r1_3) = some res) : zK Γ 2 YX7_copyFrom [.ref (zad Γ 5), .ref (zad Γ 10)] M (fun v N => v = none ∧ N = (zui (zui (zui (zul (zul M 6 res.2.1) 7 res.2.2.1) 5 res.1) 8 res.2.2.2.1) 9 res.2.2.2.2)) :=
  zK_of (by decide) (Nat.le_of_ble_eq_true rfl) (TX7_copyFrom_5_10 Γ M r0 w0_0 w0_1 r0_2 r0_3 r1 w1_0 w1_1 r1_2 r1_3 e_i5 e_l6 e_l7 e_i8 e_i9 e_i10 e_l11 e_l12 e_i13 e_i14 hy ⟨rfl, rfl⟩)

noncomputable def fDy_copyFrom (r0 : Nat → Int32) (r0_0 : Nat → Int32) (r0_1 : Nat → Int32) (r0_2 : Nat → Int32) (r0_3 : Nat → Int32) (r0_4 : Nat → Int32) (r0_5 : Nat → Int32) (r0_6 : Nat → Int32) (r0_7 : Nat → Int32) (r1 : Nat → Int32) (r1_0 : Nat → Int32) (r1_1 : Nat → Int32) (r1_2 : Nat → Int32) (r1_3 : Nat → Int32) (r1_4 : Nat → Int32) (r1_5 : Nat → Int32) (r1_6 : Nat → Int32) (r1_7 : Nat → Int32) : Option ((Nat → Int32) × (Nat → Int32) × (Nat → Int32) × (Nat → Int32) × (Nat → Int32) × (Nat → Int32) × (Nat → Int32) × (Nat → Int32) × (Nat → Int32)) :=
  zlet (va_cpy r1_0 r0_0 0 0 36) (fun (r0_0v1 : Nat → Int32) =>
  zlet (va_cpy r1_1 r0_1 0 0 6) (fun (r0_1v2 : Nat → Int32) =>
  zlet (va_cpy r1_2 r0_2 0 0 6) (fun (r0_2v3 : Nat → Int32) =>
  zlet (va_cpy r1_3 r0_3 0 0 6) (fun (r0_3v4 : Nat → Int32) =>
  zlet (va_cpy r1_4 r0_4 0 0 48) (fun (r0_4v5 : Nat → Int32) =>
  zlet (va_cpy r1_5 r0_5 0 0 6) (fun (r0_5v6 : Nat → Int32) =>
  zlet (va_cpy r1_6 r0_6 0 0 8) (fun (r0_6v7 : Nat → Int32) =>
  zlet (va_cpy r1_7 r0_7 0 0 8) (fun (r0_7v8 : Nat → Int32) =>
  zlet (zup r0 9 (r1 9)) (fun (r0v9 : Nat → Int32) =>
  zlet (zup r0v9 10 (r1 10)) (fun (r0v10 : Nat → Int32) =>
  some (r0v10, r0_0v1, r0_1v2, r0_2v3, r0_3v4, r0_4v5, r0_5v6, r0_6v7, r0_7v8)))))))))))

set_option maxRecDepth 20000 in
theorem TX1_copyFrom_15_25 (Γ : zG) {Q : Option Value → zM → Prop} (M : zM) (r0 : Nat → Int32) (r0_0 : Nat → Int32) (r0_1 : Nat → Int32) (r0_2 : Nat → Int32) (r0_3 : Nat → Int32) (r0_4 : Nat → Int32) (r0_5 : Nat → Int32) (r0_6 : Nat → Int32) (r0_7 : Nat → Int32) (r1 : Nat → Int32) (r1_0 : Nat → Int32) (r1_1 : Nat → Int32) (r1_2 : Nat → Int32) (r1_3 : Nat → Int32) (r1_4 : Nat → Int32) (r1_5 : Nat → Int32) (r1_6 : Nat → Int32) (r1_7 : Nat → Int32) (e_i15 : M.1 15 = r0) (e_i16 : M.1 16 = r0_0) (e_i17 : M.1 17 = r0_1) (e_i18 : M.1 18 = r0_2) (e_i19 : M.1 19 = r0_3) (e_i20 : M.1 20 = r0_4) (e_i21 : M.1 21 = r0_5) (e_i22 : M.1 22 = r0_6) (e_i23 : M.1 23 = r0_7) (e_i25 : M.1 25 = r1) (e_i26 : M.1 26 = r1_0) (e_i27 : M.1 27 = r1_1) (e_i28 : M.1 28 = r1_2) (e_i29 : M.1 29 = r1_3) (e_i30 : M.1 30 = r1_4) (e_i31 : M.1 31 = r1_5) (e_i32 : M.1 32 = r1_6) (e_i33 : M.1 33 = r1_7)  {res : (Nat → Int32) × (Nat → Int32) × (Nat → Int32) × (Nat → Int32) × (Nat → Int32) × (Nat → Int32) × (Nat → Int32) × (Nat → Int32) × (Nat → Int32)} (hy : (fDy_copyFrom r0 r0_0 r0_1 r0_2 r0_3 r0_4 r0_5 r0_6 r0_7 r1 r1_0 r1_1 r1_2 r1_3 r1_4 r1_5 r1_6 r1_7) = some res) (hq : Q none (zui (zui (zui (zui (zui (zui (zui (zui (zui M 15 res.1) 16 res.2.1) 17 res.2.2.1) 18 res.2.2.2.1) 19 res.2.2.2.2.1) 20 res.2.2.2.2.2.1) 21 res.2.2.2.2.2.2.1) 22 res.2.2.2.2.2.2.2.1) 23 res.2.2.2.2.2.2.2.2)) : zR Γ 2 YX1_copyFrom 0 [(0, .ref (zad Γ 15)), (1, .ref (zad Γ 25))] [] M Q := by
  unfold fDy_copyFrom at hy
  refine zj_aload_n (pc' := 1) 1 dX1_copyFrom_0 rfl rfl rfl ?_
  refine zj_getR (pc' := 4) (j := 26) dX1_copyFrom_1 rfl flX1_9 sh25 rfl ?_
  refine zj_iconst (pc' := 5) dX1_copyFrom_4 rfl kiconst_0 ?_
  refine zj_aload_n (pc' := 6) 0 dX1_copyFrom_5 rfl rfl rfl ?_
  refine zj_getR (pc' := 9) (j := 16) dX1_copyFrom_6 rfl flX1_9 sh15 rfl ?_
  refine zj_iconst (pc' := 10) dX1_copyFrom_9 rfl kiconst_0 ?_
  refine zj_bipush (pc' := 12) dX1_copyFrom_10 rfl kbipush_36 ?_
  obtain ⟨r0_0v1, er0_0v1⟩ : ∃ z, z = (va_cpy r1_0 r0_0 0 0 36) := ⟨_, rfl⟩
  have hy := zlet_at er0_0v1 hy
  refine zj_cpI (pc' := 15) (N := (zui M 16 r0_0v1)) dX1_copyFrom_12 rfl mlX1_52 zcpw sh26 sh16 tn0 tn0 tn36 (by decide) (by decide) (Nat.le_of_ble_eq_true rfl) (Nat.le_of_ble_eq_true rfl) e_i26 e_i16 er0_0v1 rfl (Nat.le_of_ble_eq_true rfl) (Nat.le_of_ble_eq_true rfl) ?_
  refine zj_aload_n (pc' := 16) 1 dX1_copyFrom_15 rfl rfl rfl ?_
  refine zj_getR (pc' := 19) (j := 27) dX1_copyFrom_16 rfl flX1_15 sh25 rfl ?_
  refine zj_iconst (pc' := 20) dX1_copyFrom_19 rfl kiconst_0 ?_
  refine zj_aload_n (pc' := 21) 0 dX1_copyFrom_20 rfl rfl rfl ?_
  refine zj_getR (pc' := 24) (j := 17) dX1_copyFrom_21 rfl flX1_15 sh15 rfl ?_
  refine zj_iconst (pc' := 25) dX1_copyFrom_24 rfl kiconst_0 ?_
  refine zj_bipush (pc' := 27) dX1_copyFrom_25 rfl kbipush_6 ?_
  obtain ⟨r0_1v2, er0_1v2⟩ : ∃ z, z = (va_cpy r1_1 r0_1 0 0 6) := ⟨_, rfl⟩
  have hy := zlet_at er0_1v2 hy
  refine zj_cpI (pc' := 30) (N := (zui (zui M 16 r0_0v1) 17 r0_1v2)) dX1_copyFrom_27 rfl mlX1_52 zcpw sh27 sh17 tn0 tn0 tn6 (by decide) (by decide) (Nat.le_of_ble_eq_true rfl) (Nat.le_of_ble_eq_true rfl) (zr_n rfl e_i27) (zr_n rfl e_i17) er0_1v2 rfl (Nat.le_of_ble_eq_true rfl) (Nat.le_of_ble_eq_true rfl) ?_
  refine zj_aload_n (pc' := 31) 1 dX1_copyFrom_30 rfl rfl rfl ?_
  refine zj_getR (pc' := 34) (j := 28) dX1_copyFrom_31 rfl flX1_18 sh25 rfl ?_
  refine zj_iconst (pc' := 35) dX1_copyFrom_34 rfl kiconst_0 ?_
  refine zj_aload_n (pc' := 36) 0 dX1_copyFrom_35 rfl rfl rfl ?_
  refine zj_getR (pc' := 39) (j := 18) dX1_copyFrom_36 rfl flX1_18 sh15 rfl ?_
  refine zj_iconst (pc' := 40) dX1_copyFrom_39 rfl kiconst_0 ?_
  refine zj_bipush (pc' := 42) dX1_copyFrom_40 rfl kbipush_6 ?_
  obtain ⟨r0_2v3, er0_2v3⟩ : ∃ z, z = (va_cpy r1_2 r0_2 0 0 6) := ⟨_, rfl⟩
  have hy := zlet_at er0_2v3 hy
  refine zj_cpI (pc' := 45) (N := (zui (zui (zui M 16 r0_0v1) 17 r0_1v2) 18 r0_2v3)) dX1_copyFrom_42 rfl mlX1_52 zcpw sh28 sh18 tn0 tn0 tn6 (by decide) (by decide) (Nat.le_of_ble_eq_true rfl) (Nat.le_of_ble_eq_true rfl) (zr_n rfl (zr_n rfl e_i28)) (zr_n rfl (zr_n rfl e_i18)) er0_2v3 rfl (Nat.le_of_ble_eq_true rfl) (Nat.le_of_ble_eq_true rfl) ?_
  refine zj_aload_n (pc' := 46) 1 dX1_copyFrom_45 rfl rfl rfl ?_
  refine zj_getR (pc' := 49) (j := 29) dX1_copyFrom_46 rfl flX1_21 sh25 rfl ?_
  refine zj_iconst (pc' := 50) dX1_copyFrom_49 rfl kiconst_0 ?_
  refine zj_aload_n (pc' := 51) 0 dX1_copyFrom_50 rfl rfl rfl ?_
  refine zj_getR (pc' := 54) (j := 19) dX1_copyFrom_51 rfl flX1_21 sh15 rfl ?_
  refine zj_iconst (pc' := 55) dX1_copyFrom_54 rfl kiconst_0 ?_
  refine zj_bipush (pc' := 57) dX1_copyFrom_55 rfl kbipush_6 ?_
  obtain ⟨r0_3v4, er0_3v4⟩ : ∃ z, z = (va_cpy r1_3 r0_3 0 0 6) := ⟨_, rfl⟩
  have hy := zlet_at er0_3v4 hy
  refine zj_cpI (pc' := 60) (N := (zui (zui (zui (zui M 16 r0_0v1) 17 r0_1v2) 18 r0_2v3) 19 r0_3v4)) dX1_copyFrom_57 rfl mlX1_52 zcpw sh29 sh19 tn0 tn0 tn6 (by decide) (by decide) (Nat.le_of_ble_eq_true rfl) (Nat.le_of_ble_eq_true rfl) (zr_n rfl (zr_n rfl (zr_n rfl e_i29))) (zr_n rfl (zr_n rfl (zr_n rfl e_i19))) er0_3v4 rfl (Nat.le_of_ble_eq_true rfl) (Nat.le_of_ble_eq_true rfl) ?_
  refine zj_aload_n (pc' := 61) 1 dX1_copyFrom_60 rfl rfl rfl ?_
  refine zj_getR (pc' := 64) (j := 30) dX1_copyFrom_61 rfl flX1_24 sh25 rfl ?_
  refine zj_iconst (pc' := 65) dX1_copyFrom_64 rfl kiconst_0 ?_
  refine zj_aload_n (pc' := 66) 0 dX1_copyFrom_65 rfl rfl rfl ?_
  refine zj_getR (pc' := 69) (j := 20) dX1_copyFrom_66 rfl flX1_24 sh15 rfl ?_
  refine zj_iconst (pc' := 70) dX1_copyFrom_69 rfl kiconst_0 ?_
  refine zj_bipush (pc' := 72) dX1_copyFrom_70 rfl kbipush_48 ?_
  obtain ⟨r0_4v5, er0_4v5⟩ : ∃ z, z = (va_cpy r1_4 r0_4 0 0 48) := ⟨_, rfl⟩
  have hy := zlet_at er0_4v5 hy
  refine zj_cpI (pc' := 75) (N := (zui (zui (zui (zui (zui M 16 r0_0v1) 17 r0_1v2) 18 r0_2v3) 19 r0_3v4) 20 r0_4v5)) dX1_copyFrom_72 rfl mlX1_52 zcpw sh30 sh20 tn0 tn0 tn48 (by decide) (by decide) (Nat.le_of_ble_eq_true rfl) (Nat.le_of_ble_eq_true rfl) (zr_n rfl (zr_n rfl (zr_n rfl (zr_n rfl e_i30)))) (zr_n rfl (zr_n rfl (zr_n rfl (zr_n rfl e_i20)))) er0_4v5 rfl (Nat.le_of_ble_eq_true rfl) (Nat.le_of_ble_eq_true rfl) ?_
  refine zj_aload_n (pc' := 76) 1 dX1_copyFrom_75 rfl rfl rfl ?_
  refine zj_getR (pc' := 79) (j := 31) dX1_copyFrom_76 rfl flX1_27 sh25 rfl ?_
  refine zj_iconst (pc' := 80) dX1_copyFrom_79 rfl kiconst_0 ?_
  refine zj_aload_n (pc' := 81) 0 dX1_copyFrom_80 rfl rfl rfl ?_
  refine zj_getR (pc' := 84) (j := 21) dX1_copyFrom_81 rfl flX1_27 sh15 rfl ?_
  refine zj_iconst (pc' := 85) dX1_copyFrom_84 rfl kiconst_0 ?_
  refine zj_bipush (pc' := 87) dX1_copyFrom_85 rfl kbipush_6 ?_
  obtain ⟨r0_5v6, er0_5v6⟩ : ∃ z, z = (va_cpy r1_5 r0_5 0 0 6) := ⟨_, rfl⟩
  have hy := zlet_at er0_5v6 hy
  refine zj_cpI (pc' := 90) (N := (zui (zui (zui (zui (zui (zui M 16 r0_0v1) 17 r0_1v2) 18 r0_2v3) 19 r0_3v4) 20 r0_4v5) 21 r0_5v6)) dX1_copyFrom_87 rfl mlX1_52 zcpw sh31 sh21 tn0 tn0 tn6 (by decide) (by decide) (Nat.le_of_ble_eq_true rfl) (Nat.le_of_ble_eq_true rfl) (zr_n rfl (zr_n rfl (zr_n rfl (zr_n rfl (zr_n rfl e_i31))))) (zr_n rfl (zr_n rfl (zr_n rfl (zr_n rfl (zr_n rfl e_i21))))) er0_5v6 rfl (Nat.le_of_ble_eq_true rfl) (Nat.le_of_ble_eq_true rfl) ?_
  refine zj_aload_n (pc' := 91) 1 dX1_copyFrom_90 rfl rfl rfl ?_
  refine zj_getR (pc' := 94) (j := 32) dX1_copyFrom_91 rfl flX1_30 sh25 rfl ?_
  refine zj_iconst (pc' := 95) dX1_copyFrom_94 rfl kiconst_0 ?_
  refine zj_aload_n (pc' := 96) 0 dX1_copyFrom_95 rfl rfl rfl ?_
  refine zj_getR (pc' := 99) (j := 22) dX1_copyFrom_96 rfl flX1_30 sh15 rfl ?_
  refine zj_iconst (pc' := 100) dX1_copyFrom_99 rfl kiconst_0 ?_
  refine zj_bipush (pc' := 102) dX1_copyFrom_100 rfl kbipush_8 ?_
  obtain ⟨r0_6v7, er0_6v7⟩ : ∃ z, z = (va_cpy r1_6 r0_6 0 0 8) := ⟨_, rfl⟩
  have hy := zlet_at er0_6v7 hy
  refine zj_cpI (pc' := 105) (N := (zui (zui (zui (zui (zui (zui (zui M 16 r0_0v1) 17 r0_1v2) 18 r0_2v3) 19 r0_3v4) 20 r0_4v5) 21 r0_5v6) 22 r0_6v7)) dX1_copyFrom_102 rfl mlX1_52 zcpw sh32 sh22 tn0 tn0 tn8 (by decide) (by decide) (Nat.le_of_ble_eq_true rfl) (Nat.le_of_ble_eq_true rfl) (zr_n rfl (zr_n rfl (zr_n rfl (zr_n rfl (zr_n rfl (zr_n rfl e_i32)))))) (zr_n rfl (zr_n rfl (zr_n rfl (zr_n rfl (zr_n rfl (zr_n rfl e_i22)))))) er0_6v7 rfl (Nat.le_of_ble_eq_true rfl) (Nat.le_of_ble_eq_true rfl) ?_
  refine zj_aload_n (pc' := 106) 1 dX1_copyFrom_105 rfl rfl rfl ?_
  refine zj_getR (pc' := 109) (j := 33) dX1_copyFrom_106 rfl flX1_33 sh25 rfl ?_
  refine zj_iconst (pc' := 110) dX1_copyFrom_109 rfl kiconst_0 ?_
  refine zj_aload_n (pc' := 111) 0 dX1_copyFrom_110 rfl rfl rfl ?_
  refine zj_getR (pc' := 114) (j := 23) dX1_copyFrom_111 rfl flX1_33 sh15 rfl ?_
  refine zj_iconst (pc' := 115) dX1_copyFrom_114 rfl kiconst_0 ?_
  refine zj_bipush (pc' := 117) dX1_copyFrom_115 rfl kbipush_8 ?_
  obtain ⟨r0_7v8, er0_7v8⟩ : ∃ z, z = (va_cpy r1_7 r0_7 0 0 8) := ⟨_, rfl⟩
  have hy := zlet_at er0_7v8 hy
  refine zj_cpI (pc' := 120) (N := (zui (zui (zui (zui (zui (zui (zui (zui M 16 r0_0v1) 17 r0_1v2) 18 r0_2v3) 19 r0_3v4) 20 r0_4v5) 21 r0_5v6) 22 r0_6v7) 23 r0_7v8)) dX1_copyFrom_117 rfl mlX1_52 zcpw sh33 sh23 tn0 tn0 tn8 (by decide) (by decide) (Nat.le_of_ble_eq_true rfl) (Nat.le_of_ble_eq_true rfl) (zr_n rfl (zr_n rfl (zr_n rfl (zr_n rfl (zr_n rfl (zr_n rfl (zr_n rfl e_i33))))))) (zr_n rfl (zr_n rfl (zr_n rfl (zr_n rfl (zr_n rfl (zr_n rfl (zr_n rfl e_i23))))))) er0_7v8 rfl (Nat.le_of_ble_eq_true rfl) (Nat.le_of_ble_eq_true rfl) ?_
  refine zj_aload_n (pc' := 121) 0 dX1_copyFrom_120 rfl rfl rfl ?_
  refine zj_aload_n (pc' := 122) 1 dX1_copyFrom_121 rfl rfl rfl ?_
  refine zj_fI (pc' := 125) dX1_copyFrom_122 rfl flX1_45 sh25 rfl (zr_n rfl (zr_n rfl (zr_n rfl (zr_n rfl (zr_n rfl (zr_n rfl (zr_n rfl (zr_n rfl e_i25)))))))) rfl ?_
  obtain ⟨r0v9, er0v9⟩ : ∃ z, z = (zup r0 9 (r1 9)) := ⟨_, rfl⟩
  have hy := zlet_at er0v9 hy
  refine zj_pI (pc' := 128) (N := (zui (zui (zui (zui (zui (zui (zui (zui (zui M 15 r0v9) 16 r0_0v1) 17 r0_1v2) 18 r0_2v3) 19 r0_3v4) 20 r0_4v5) 21 r0_5v6) 22 r0_6v7) 23 r0_7v8)) dX1_copyFrom_125 rfl fpX1_45 sh15 rfl (zr_n rfl (zr_n rfl (zr_n rfl (zr_n rfl (zr_n rfl (zr_n rfl (zr_n rfl (zr_n rfl e_i15)))))))) er0v9 (zm_n rfl (zm_n rfl (zm_n rfl (zm_n rfl (zm_n rfl (zm_n rfl (zm_n rfl (zm_n rfl rfl)))))))) ?_
  refine zj_aload_n (pc' := 129) 0 dX1_copyFrom_128 rfl rfl rfl ?_
  refine zj_aload_n (pc' := 130) 1 dX1_copyFrom_129 rfl rfl rfl ?_
  refine zj_fI (pc' := 133) dX1_copyFrom_130 rfl flX1_49 sh25 rfl (zr_n rfl (zr_n rfl (zr_n rfl (zr_n rfl (zr_n rfl (zr_n rfl (zr_n rfl (zr_n rfl (zr_n rfl e_i25))))))))) rfl ?_
  obtain ⟨r0v10, er0v10⟩ : ∃ z, z = (zup r0v9 10 (r1 10)) := ⟨_, rfl⟩
  have hy := zlet_at er0v10 hy
  refine zj_pI (pc' := 136) (N := (zui (zui (zui (zui (zui (zui (zui (zui (zui M 15 r0v10) 16 r0_0v1) 17 r0_1v2) 18 r0_2v3) 19 r0_3v4) 20 r0_4v5) 21 r0_5v6) 22 r0_6v7) 23 r0_7v8)) dX1_copyFrom_133 rfl fpX1_49 sh15 rfl (zr_n rfl (zr_n rfl (zr_n rfl (zr_n rfl (zr_n rfl (zr_n rfl (zr_n rfl (zr_n rfl zr_s)))))))) er0v10 (zm_n rfl (zm_n rfl (zm_n rfl (zm_n rfl (zm_n rfl (zm_n rfl (zm_n rfl (zm_n rfl zm_s)))))))) ?_
  have e9 := Option.some.inj hy
  subst e9
  exact zj_vret dX1_copyFrom_136 rfl hq
set_option maxRecDepth 20000 in
theorem LX1_copyFrom_15_25 (Γ : zG) (M : zM) (r0 : Nat → Int32) (r0_0 : Nat → Int32) (r0_1 : Nat → Int32) (r0_2 : Nat → Int32) (r0_3 : Nat → Int32) (r0_4 : Nat → Int32) (r0_5 : Nat → Int32) (r0_6 : Nat → Int32) (r0_7 : Nat → Int32) (r1 : Nat → Int32) (r1_0 : Nat → Int32) (r1_1 : Nat → Int32) (r1_2 : Nat → Int32) (r1_3 : Nat → Int32) (r1_4 : Nat → Int32) (r1_5 : Nat → Int32) (r1_6 : Nat → Int32) (r1_7 : Nat → Int32) (e_i15 : M.1 15 = r0) (e_i16 : M.1 16 = r0_0) (e_i17 : M.1 17 = r0_1) (e_i18 : M.1 18 = r0_2) (e_i19 : M.1 19 = r0_3) (e_i20 : M.1 20 = r0_4) (e_i21 : M.1 21 = r0_5) (e_i22 : M.1 22 = r0_6) (e_i23 : M.1 23 = r0_7) (e_i25 : M.1 25 = r1) (e_i26 : M.1 26 = r1_0) (e_i27 : M.1 27 = r1_1) (e_i28 : M.1 28 = r1_2) (e_i29 : M.1 29 = r1_3) (e_i30 : M.1 30 = r1_4) (e_i31 : M.1 31 = r1_5) (e_i32 : M.1 32 = r1_6) (e_i33 : M.1 33 = r1_7)  {res : (Nat → Int32) × (Nat → Int32) × (Nat → Int32) × (Nat → Int32) × (Nat → Int32) × (Nat → Int32) × (Nat → Int32) × (Nat → Int32) × (Nat → Int32)} (hy : (fDy_copyFrom r0 r0_0 r0_1 r0_2 r0_3 r0_4 r0_5 r0_6 r0_7 r1 r1_0 r1_1 r1_2 r1_3 r1_4 r1_5 r1_6 r1_7) = some res) : zK Γ 2 YX1_copyFrom [.ref (zad Γ 15), .ref (zad Γ 25)] M (fun v N => v = none ∧ N = (zui (zui (zui (zui (zui (zui (zui (zui (zui M 15 res.1) 16 res.2.1) 17 res.2.2.1) 18 res.2.2.2.1) 19 res.2.2.2.2.1) 20 res.2.2.2.2.2.1) 21 res.2.2.2.2.2.2.1) 22 res.2.2.2.2.2.2.2.1) 23 res.2.2.2.2.2.2.2.2)) :=
  zK_of (by decide) (Nat.le_of_ble_eq_true rfl) (TX1_copyFrom_15_25 Γ M r0 r0_0 r0_1 r0_2 r0_3 r0_4 r0_5 r0_6 r0_7 r1 r1_0 r1_1 r1_2 r1_3 r1_4 r1_5 r1_6 r1_7 e_i15 e_i16 e_i17 e_i18 e_i19 e_i20 e_i21 e_i22 e_i23 e_i25 e_i26 e_i27 e_i28 e_i29 e_i30 e_i31 e_i32 e_i33 hy ⟨rfl, rfl⟩)

noncomputable def fSn_clear (r0 : Nat → Int32) : Option ((Nat → Int32)) :=
  zlet (zup r0 5 0) (fun (r0v1 : Nat → Int32) =>
  zlet (zup r0v1 6 0) (fun (r0v2 : Nat → Int32) =>
  zlet (zup r0v2 7 0) (fun (r0v3 : Nat → Int32) =>
  zlet (zup r0v3 8 0) (fun (r0v4 : Nat → Int32) =>
  zlet (zup r0v4 10 0) (fun (r0v5 : Nat → Int32) =>
  some r0v5)))))

set_option maxRecDepth 20000 in
theorem TX9_clear_35 (Γ : zG) {Q : Option Value → zM → Prop} (M : zM) (r0 : Nat → Int32) (e_i35 : M.1 35 = r0)  {res : (Nat → Int32)} (hy : (fSn_clear r0) = some res) (hq : Q none (zui M 35 res)) : zR Γ 1 YX9_clear 0 [(0, .ref (zad Γ 35))] [] M Q := by
  unfold fSn_clear at hy
  refine zj_aload_n (pc' := 1) 0 dX9_clear_0 rfl rfl rfl ?_
  refine zj_iconst (pc' := 2) dX9_clear_1 rfl kiconst_0 ?_
  obtain ⟨r0v1, er0v1⟩ : ∃ z, z = (zup r0 5 0) := ⟨_, rfl⟩
  have hy := zlet_at er0v1 hy
  refine zj_pI (pc' := 5) (N := (zui M 35 r0v1)) dX9_clear_2 rfl fpX9_35 sh35 rfl e_i35 er0v1 rfl ?_
  refine zj_aload_n (pc' := 6) 0 dX9_clear_5 rfl rfl rfl ?_
  refine zj_iconst (pc' := 7) dX9_clear_6 rfl kiconst_0 ?_
  obtain ⟨r0v2, er0v2⟩ : ∃ z, z = (zup r0v1 6 0) := ⟨_, rfl⟩
  have hy := zlet_at er0v2 hy
  refine zj_pI (pc' := 10) (N := (zui M 35 r0v2)) dX9_clear_7 rfl fpX9_38 sh35 rfl zr_s er0v2 zm_s ?_
  refine zj_aload_n (pc' := 11) 0 dX9_clear_10 rfl rfl rfl ?_
  refine zj_iconst (pc' := 12) dX9_clear_11 rfl kiconst_0 ?_
  obtain ⟨r0v3, er0v3⟩ : ∃ z, z = (zup r0v2 7 0) := ⟨_, rfl⟩
  have hy := zlet_at er0v3 hy
  refine zj_pI (pc' := 15) (N := (zui M 35 r0v3)) dX9_clear_12 rfl fpX9_41 sh35 rfl zr_s er0v3 zm_s ?_
  refine zj_aload_n (pc' := 16) 0 dX9_clear_15 rfl rfl rfl ?_
  refine zj_iconst (pc' := 17) dX9_clear_16 rfl kiconst_0 ?_
  obtain ⟨r0v4, er0v4⟩ : ∃ z, z = (zup r0v3 8 0) := ⟨_, rfl⟩
  have hy := zlet_at er0v4 hy
  refine zj_pI (pc' := 20) (N := (zui M 35 r0v4)) dX9_clear_17 rfl fpX9_31 sh35 rfl zr_s er0v4 zm_s ?_
  refine zj_aload_n (pc' := 21) 0 dX9_clear_20 rfl rfl rfl ?_
  refine zj_iconst (pc' := 22) dX9_clear_21 rfl kiconst_0 ?_
  obtain ⟨r0v5, er0v5⟩ : ∃ z, z = (zup r0v4 10 0) := ⟨_, rfl⟩
  have hy := zlet_at er0v5 hy
  refine zj_pZ (pc' := 25) (N := (zui M 35 r0v5)) dX9_clear_22 rfl fpX9_27 sh35 rfl (Or.inl rfl) zr_s er0v5 zm_s ?_
  have e9 := Option.some.inj hy
  subst e9
  exact zj_vret dX9_clear_25 rfl hq
set_option maxRecDepth 20000 in
theorem LX9_clear_35 (Γ : zG) (M : zM) (r0 : Nat → Int32) (e_i35 : M.1 35 = r0)  {res : (Nat → Int32)} (hy : (fSn_clear r0) = some res) : zK Γ 1 YX9_clear [.ref (zad Γ 35)] M (fun v N => v = none ∧ N = (zui M 35 res)) :=
  zK_of (by decide) (Nat.le_of_ble_eq_true rfl) (TX9_clear_35 Γ M r0 e_i35 hy ⟨rfl, rfl⟩)

noncomputable def fHi_clear (r0 : Nat → Int32) : Option ((Nat → Int32)) :=
  zlet (zup r0 2 0) (fun (r0v1 : Nat → Int32) =>
  some r0v1)

set_option maxRecDepth 20000 in
theorem TX3_clear_47 (Γ : zG) {Q : Option Value → zM → Prop} (M : zM) (r0 : Nat → Int32) (e_i47 : M.1 47 = r0)  {res : (Nat → Int32)} (hy : (fHi_clear r0) = some res) (hq : Q none (zui M 47 res)) : zR Γ 1 YX3_clear 0 [(0, .ref (zad Γ 47))] [] M Q := by
  unfold fHi_clear at hy
  refine zj_aload_n (pc' := 1) 0 dX3_clear_0 rfl rfl rfl ?_
  refine zj_iconst (pc' := 2) dX3_clear_1 rfl kiconst_0 ?_
  obtain ⟨r0v1, er0v1⟩ : ∃ z, z = (zup r0 2 0) := ⟨_, rfl⟩
  have hy := zlet_at er0v1 hy
  refine zj_pI (pc' := 5) (N := (zui M 47 r0v1)) dX3_clear_2 rfl fpX3_16 sh47 rfl e_i47 er0v1 rfl ?_
  have e9 := Option.some.inj hy
  subst e9
  exact zj_vret dX3_clear_5 rfl hq
set_option maxRecDepth 20000 in
theorem LX3_clear_47 (Γ : zG) (M : zM) (r0 : Nat → Int32) (e_i47 : M.1 47 = r0)  {res : (Nat → Int32)} (hy : (fHi_clear r0) = some res) : zK Γ 1 YX3_clear [.ref (zad Γ 47)] M (fun v N => v = none ∧ N = (zui M 47 res)) :=
  zK_of (by decide) (Nat.le_of_ble_eq_true rfl) (TX3_clear_47 Γ M r0 e_i47 hy ⟨rfl, rfl⟩)

noncomputable def fX_town (r0 : Nat → Int32) (r0_0 : Nat → Int32) (r0_0_0 : Nat → Int32) (r0_1 : Nat → Int32) (w0_1 : Nat → Int64) (w0_1_1 : Nat → Int64) (r0_2 : Nat → Int32) (w0_2_0 : Nat → Int64) (w0_2_1 : Nat → Int64) (r0_2_2 : Nat → Int32) (r0_2_3 : Nat → Int32) (r0_3 : Nat → Int32) (w0_3_0 : Nat → Int64) (w0_3_1 : Nat → Int64) (r0_3_2 : Nat → Int32) (r0_3_3 : Nat → Int32) (r0_4 : Nat → Int32) (r0_4_0 : Nat → Int32) (r0_4_1 : Nat → Int32) (r0_4_2 : Nat → Int32) (r0_4_3 : Nat → Int32) (r0_4_4 : Nat → Int32) (r0_4_5 : Nat → Int32) (r0_4_6 : Nat → Int32) (r0_4_7 : Nat → Int32) (r0_5 : Nat → Int32) (r0_5_0 : Nat → Int32) (r0_5_1 : Nat → Int32) (r0_5_2 : Nat → Int32) (r0_5_3 : Nat → Int32) (r0_5_4 : Nat → Int32) (r0_5_5 : Nat → Int32) (r0_5_6 : Nat → Int32) (r0_5_7 : Nat → Int32) (r0_6 : Nat → Int32) (r0_8 : Nat → Int32) : Option (Int32 × (Nat → Int32) × (Nat → Int32) × (Nat → Int32) × (Nat → Int64) × (Nat → Int32) × (Nat → Int64) × (Nat → Int64) × (Nat → Int32) × (Nat → Int32) × (Nat → Int32) × (Nat → Int64) × (Nat → Int64) × (Nat → Int32) × (Nat → Int32) × (Nat → Int32) × (Nat → Int32) × (Nat → Int32) × (Nat → Int32) × (Nat → Int32) × (Nat → Int32) × (Nat → Int32) × (Nat → Int32) × (Nat → Int32) × (Nat → Int32) × (Nat → Int32) × (Nat → Int32) × (Nat → Int32) × (Nat → Int32) × (Nat → Int32) × (Nat → Int32) × (Nat → Int32) × (Nat → Int32) × (Nat → Int32) × (Nat → Int32)) :=
  (fRd_start r0_1 w0_1 r0_0 r0_0_0 900).bind (fun (y1 : (Nat → Int32) × (Nat → Int64)) =>
  (fPl_readFrom r0_3 w0_3_0 w0_3_1 r0_3_2 r0_3_3 y1.1 y1.2 r0_0 r0_0_0 w0_1_1 r0_5 r0_5_0 r0_5_1 r0_5_2 r0_5_3 r0_5_4 r0_5_5 r0_5_6 r0_5_7).bind (fun (y2 : Int32 × (Nat → Int32) × (Nat → Int64) × (Nat → Int64) × (Nat → Int32) × (Nat → Int32) × (Nat → Int32) × (Nat → Int64) × (Nat → Int32) × (Nat → Int32) × (Nat → Int32) × (Nat → Int32) × (Nat → Int32) × (Nat → Int32) × (Nat → Int32) × (Nat → Int32) × (Nat → Int32)) =>
  zlet y2.1 (fun (x3 : Int32) =>
  zlet (zup r0 16 (fRd_faultKind y2.2.2.2.2.2.2.1)) (fun (r0v4 : Nat → Int32) =>
  (fTp_clear r0_0).bind (fun (y5 : (Nat → Int32)) =>
  (if (r0v4 16) = 0 then
  (fPl_copyFrom r0_2 w0_2_0 w0_2_1 r0_2_2 r0_2_3 y2.2.1 y2.2.2.1 y2.2.2.2.1 y2.2.2.2.2.1 y2.2.2.2.2.2.1).bind (fun (y7 : (Nat → Int32) × (Nat → Int64) × (Nat → Int64) × (Nat → Int32) × (Nat → Int32)) =>
  (fDy_copyFrom r0_4 r0_4_0 r0_4_1 r0_4_2 r0_4_3 r0_4_4 r0_4_5 r0_4_6 r0_4_7 y2.2.2.2.2.2.2.2.2.1 y2.2.2.2.2.2.2.2.2.2.1 y2.2.2.2.2.2.2.2.2.2.2.1 y2.2.2.2.2.2.2.2.2.2.2.2.1 y2.2.2.2.2.2.2.2.2.2.2.2.2.1 y2.2.2.2.2.2.2.2.2.2.2.2.2.2.1 y2.2.2.2.2.2.2.2.2.2.2.2.2.2.2.1 y2.2.2.2.2.2.2.2.2.2.2.2.2.2.2.2.1 y2.2.2.2.2.2.2.2.2.2.2.2.2.2.2.2.2).bind (fun (y8 : (Nat → Int32) × (Nat → Int32) × (Nat → Int32) × (Nat → Int32) × (Nat → Int32) × (Nat → Int32) × (Nat → Int32) × (Nat → Int32) × (Nat → Int32)) =>
  (fSn_clear r0_6).bind (fun (y9 : (Nat → Int32)) =>
  (fHi_clear r0_8).bind (fun (y10 : (Nat → Int32)) =>
  some (x3, r0v4, y5, y2.2.2.2.2.2.2.1, y2.2.2.2.2.2.2.2.1, y7.1, y7.2.1, y7.2.2.1, y7.2.2.2.1, y7.2.2.2.2, y2.2.1, y2.2.2.1, y2.2.2.2.1, y2.2.2.2.2.1, y2.2.2.2.2.2.1, y8.1, y8.2.1, y8.2.2.1, y8.2.2.2.1, y8.2.2.2.2.1, y8.2.2.2.2.2.1, y8.2.2.2.2.2.2.1, y8.2.2.2.2.2.2.2.1, y8.2.2.2.2.2.2.2.2, y2.2.2.2.2.2.2.2.2.1, y2.2.2.2.2.2.2.2.2.2.1, y2.2.2.2.2.2.2.2.2.2.2.1, y2.2.2.2.2.2.2.2.2.2.2.2.1, y2.2.2.2.2.2.2.2.2.2.2.2.2.1, y2.2.2.2.2.2.2.2.2.2.2.2.2.2.1, y2.2.2.2.2.2.2.2.2.2.2.2.2.2.2.1, y2.2.2.2.2.2.2.2.2.2.2.2.2.2.2.2.1, y2.2.2.2.2.2.2.2.2.2.2.2.2.2.2.2.2, y9, y10)))))
  else
  some (((-1) - (fRd_place y2.2.2.2.2.2.2.1)), r0v4, y5, y2.2.2.2.2.2.2.1, y2.2.2.2.2.2.2.2.1, r0_2, w0_2_0, w0_2_1, r0_2_2, r0_2_3, y2.2.1, y2.2.2.1, y2.2.2.2.1, y2.2.2.2.2.1, y2.2.2.2.2.2.1, r0_4, r0_4_0, r0_4_1, r0_4_2, r0_4_3, r0_4_4, r0_4_5, r0_4_6, r0_4_7, y2.2.2.2.2.2.2.2.2.1, y2.2.2.2.2.2.2.2.2.2.1, y2.2.2.2.2.2.2.2.2.2.2.1, y2.2.2.2.2.2.2.2.2.2.2.2.1, y2.2.2.2.2.2.2.2.2.2.2.2.2.1, y2.2.2.2.2.2.2.2.2.2.2.2.2.2.1, y2.2.2.2.2.2.2.2.2.2.2.2.2.2.2.1, y2.2.2.2.2.2.2.2.2.2.2.2.2.2.2.2.1, y2.2.2.2.2.2.2.2.2.2.2.2.2.2.2.2.2, r0_6, r0_8)))))))

set_option maxRecDepth 20000 in
theorem TX11_town_0 (Γ : zG) {Q : Option Value → zM → Prop} (M : zM) (r0 : Nat → Int32) (r0_0 : Nat → Int32) (r0_0_0 : Nat → Int32) (r0_1 : Nat → Int32) (w0_1 : Nat → Int64) (w0_1_1 : Nat → Int64) (r0_2 : Nat → Int32) (w0_2_0 : Nat → Int64) (w0_2_1 : Nat → Int64) (r0_2_2 : Nat → Int32) (r0_2_3 : Nat → Int32) (r0_3 : Nat → Int32) (w0_3_0 : Nat → Int64) (w0_3_1 : Nat → Int64) (r0_3_2 : Nat → Int32) (r0_3_3 : Nat → Int32) (r0_4 : Nat → Int32) (r0_4_0 : Nat → Int32) (r0_4_1 : Nat → Int32) (r0_4_2 : Nat → Int32) (r0_4_3 : Nat → Int32) (r0_4_4 : Nat → Int32) (r0_4_5 : Nat → Int32) (r0_4_6 : Nat → Int32) (r0_4_7 : Nat → Int32) (r0_5 : Nat → Int32) (r0_5_0 : Nat → Int32) (r0_5_1 : Nat → Int32) (r0_5_2 : Nat → Int32) (r0_5_3 : Nat → Int32) (r0_5_4 : Nat → Int32) (r0_5_5 : Nat → Int32) (r0_5_6 : Nat → Int32) (r0_5_7 : Nat → Int32) (r0_6 : Nat → Int32) (r0_8 : Nat → Int32) (e_i0 : M.1 0 = r0) (e_i1 : M.1 1 = r0_0) (e_i2 : M.1 2 = r0_0_0) (e_i3 : M.1 3 = r0_1) (e_l3 : M.2 3 = w0_1) (e_l4 : M.2 4 = w0_1_1) (e_i5 : M.1 5 = r0_2) (e_l6 : M.2 6 = w0_2_0) (e_l7 : M.2 7 = w0_2_1) (e_i8 : M.1 8 = r0_2_2) (e_i9 : M.1 9 = r0_2_3) (e_i10 : M.1 10 = r0_3) (e_l11 : M.2 11 = w0_3_0) (e_l12 : M.2 12 = w0_3_1) (e_i13 : M.1 13 = r0_3_2) (e_i14 : M.1 14 = r0_3_3) (e_i15 : M.1 15 = r0_4) (e_i16 : M.1 16 = r0_4_0) (e_i17 : M.1 17 = r0_4_1) (e_i18 : M.1 18 = r0_4_2) (e_i19 : M.1 19 = r0_4_3) (e_i20 : M.1 20 = r0_4_4) (e_i21 : M.1 21 = r0_4_5) (e_i22 : M.1 22 = r0_4_6) (e_i23 : M.1 23 = r0_4_7) (e_i25 : M.1 25 = r0_5) (e_i26 : M.1 26 = r0_5_0) (e_i27 : M.1 27 = r0_5_1) (e_i28 : M.1 28 = r0_5_2) (e_i29 : M.1 29 = r0_5_3) (e_i30 : M.1 30 = r0_5_4) (e_i31 : M.1 31 = r0_5_5) (e_i32 : M.1 32 = r0_5_6) (e_i33 : M.1 33 = r0_5_7) (e_i35 : M.1 35 = r0_6) (e_i47 : M.1 47 = r0_8)  {res : Int32 × (Nat → Int32) × (Nat → Int32) × (Nat → Int32) × (Nat → Int64) × (Nat → Int32) × (Nat → Int64) × (Nat → Int64) × (Nat → Int32) × (Nat → Int32) × (Nat → Int32) × (Nat → Int64) × (Nat → Int64) × (Nat → Int32) × (Nat → Int32) × (Nat → Int32) × (Nat → Int32) × (Nat → Int32) × (Nat → Int32) × (Nat → Int32) × (Nat → Int32) × (Nat → Int32) × (Nat → Int32) × (Nat → Int32) × (Nat → Int32) × (Nat → Int32) × (Nat → Int32) × (Nat → Int32) × (Nat → Int32) × (Nat → Int32) × (Nat → Int32) × (Nat → Int32) × (Nat → Int32) × (Nat → Int32) × (Nat → Int32)} (hy : (fX_town r0 r0_0 r0_0_0 r0_1 w0_1 w0_1_1 r0_2 w0_2_0 w0_2_1 r0_2_2 r0_2_3 r0_3 w0_3_0 w0_3_1 r0_3_2 r0_3_3 r0_4 r0_4_0 r0_4_1 r0_4_2 r0_4_3 r0_4_4 r0_4_5 r0_4_6 r0_4_7 r0_5 r0_5_0 r0_5_1 r0_5_2 r0_5_3 r0_5_4 r0_5_5 r0_5_6 r0_5_7 r0_6 r0_8) = some res) (hq : Q (some (.int res.1)) (zui (zui (zui (zui (zui (zui (zui (zui (zui (zui (zui (zui (zui (zui (zui (zui (zui (zui (zui (zui (zui (zui (zui (zui (zui (zui (zui (zui (zui (zul (zul (zul (zul (zul M 3 res.2.2.2.2.1) 6 res.2.2.2.2.2.2.1) 7 res.2.2.2.2.2.2.2.1) 11 res.2.2.2.2.2.2.2.2.2.2.2.1) 12 res.2.2.2.2.2.2.2.2.2.2.2.2.1) 0 res.2.1) 1 res.2.2.1) 3 res.2.2.2.1) 5 res.2.2.2.2.2.1) 8 res.2.2.2.2.2.2.2.2.1) 9 res.2.2.2.2.2.2.2.2.2.1) 10 res.2.2.2.2.2.2.2.2.2.2.1) 13 res.2.2.2.2.2.2.2.2.2.2.2.2.2.1) 14 res.2.2.2.2.2.2.2.2.2.2.2.2.2.2.1) 15 res.2.2.2.2.2.2.2.2.2.2.2.2.2.2.2.1) 16 res.2.2.2.2.2.2.2.2.2.2.2.2.2.2.2.2.1) 17 res.2.2.2.2.2.2.2.2.2.2.2.2.2.2.2.2.2.1) 18 res.2.2.2.2.2.2.2.2.2.2.2.2.2.2.2.2.2.2.1) 19 res.2.2.2.2.2.2.2.2.2.2.2.2.2.2.2.2.2.2.2.1) 20 res.2.2.2.2.2.2.2.2.2.2.2.2.2.2.2.2.2.2.2.2.1) 21 res.2.2.2.2.2.2.2.2.2.2.2.2.2.2.2.2.2.2.2.2.2.1) 22 res.2.2.2.2.2.2.2.2.2.2.2.2.2.2.2.2.2.2.2.2.2.2.1) 23 res.2.2.2.2.2.2.2.2.2.2.2.2.2.2.2.2.2.2.2.2.2.2.2.1) 25 res.2.2.2.2.2.2.2.2.2.2.2.2.2.2.2.2.2.2.2.2.2.2.2.2.1) 26 res.2.2.2.2.2.2.2.2.2.2.2.2.2.2.2.2.2.2.2.2.2.2.2.2.2.1) 27 res.2.2.2.2.2.2.2.2.2.2.2.2.2.2.2.2.2.2.2.2.2.2.2.2.2.2.1) 28 res.2.2.2.2.2.2.2.2.2.2.2.2.2.2.2.2.2.2.2.2.2.2.2.2.2.2.2.1) 29 res.2.2.2.2.2.2.2.2.2.2.2.2.2.2.2.2.2.2.2.2.2.2.2.2.2.2.2.2.1) 30 res.2.2.2.2.2.2.2.2.2.2.2.2.2.2.2.2.2.2.2.2.2.2.2.2.2.2.2.2.2.1) 31 res.2.2.2.2.2.2.2.2.2.2.2.2.2.2.2.2.2.2.2.2.2.2.2.2.2.2.2.2.2.2.1) 32 res.2.2.2.2.2.2.2.2.2.2.2.2.2.2.2.2.2.2.2.2.2.2.2.2.2.2.2.2.2.2.2.1) 33 res.2.2.2.2.2.2.2.2.2.2.2.2.2.2.2.2.2.2.2.2.2.2.2.2.2.2.2.2.2.2.2.2.1) 35 res.2.2.2.2.2.2.2.2.2.2.2.2.2.2.2.2.2.2.2.2.2.2.2.2.2.2.2.2.2.2.2.2.2.1) 47 res.2.2.2.2.2.2.2.2.2.2.2.2.2.2.2.2.2.2.2.2.2.2.2.2.2.2.2.2.2.2.2.2.2.2)) : zR Γ 8 YX11_town 0 [(0, .ref (zad Γ 0))] [] M Q := by
  unfold fX_town at hy
  refine zj_aload_n (pc' := 1) 0 dX11_town_0 rfl rfl rfl ?_
  refine zj_getR (pc' := 4) (j := 3) dX11_town_1 rfl flX11_21 sh0 rfl ?_
  refine zj_sipush (pc' := 7) dX11_town_4 rfl ksipush_900 ?_
  obtain ⟨y1, hy1, hy⟩ := zt_b hy
  refine zj_V0 (pc' := 10) (z := YX8_start) (As := [.int 900]) (N := (zui (zul M 3 y1.2) 3 y1.1)) dX11_town_7 rfl mlX11_129 lkX8_start sh3 ⟨_, _, rfl⟩ rfl rfl (Nat.le_of_ble_eq_true rfl) (Nat.le_of_ble_eq_true rfl) (LX8_start_3 Γ _ r0_1 w0_1 r0_0 r0_0_0 e_i3 e_l3 e_i1 e_i2 900 hy1) ((zch_i rfl rfl)).symm ?_
  refine zj_aload_n (pc' := 11) 0 dX11_town_10 rfl rfl rfl ?_
  refine zj_getR (pc' := 14) (j := 10) dX11_town_11 rfl flX11_32 sh0 rfl ?_
  refine zj_aload_n (pc' := 15) 0 dX11_town_14 rfl rfl rfl ?_
  refine zj_getR (pc' := 18) (j := 3) dX11_town_15 rfl flX11_21 sh0 rfl ?_
  refine zj_aload_n (pc' := 19) 0 dX11_town_18 rfl rfl rfl ?_
  refine zj_getR (pc' := 22) (j := 25) dX11_town_19 rfl flX11_42 sh0 rfl ?_
  obtain ⟨y2, hy2, hy⟩ := zt_b hy
  refine zj_V1 (pc' := 25) (z := YX7_readFrom) (As := [.ref (zad Γ 3), .ref (zad Γ 25)]) (N := (zui (zui (zui (zui (zui (zui (zui (zui (zui (zui (zui (zui (zui (zul (zul (zul M 3 y2.2.2.2.2.2.2.2.1) 11 y2.2.2.1) 12 y2.2.2.2.1) 3 y2.2.2.2.2.2.2.1) 10 y2.2.1) 13 y2.2.2.2.2.1) 14 y2.2.2.2.2.2.1) 25 y2.2.2.2.2.2.2.2.2.1) 26 y2.2.2.2.2.2.2.2.2.2.1) 27 y2.2.2.2.2.2.2.2.2.2.2.1) 28 y2.2.2.2.2.2.2.2.2.2.2.2.1) 29 y2.2.2.2.2.2.2.2.2.2.2.2.2.1) 30 y2.2.2.2.2.2.2.2.2.2.2.2.2.2.1) 31 y2.2.2.2.2.2.2.2.2.2.2.2.2.2.2.1) 32 y2.2.2.2.2.2.2.2.2.2.2.2.2.2.2.2.1) 33 y2.2.2.2.2.2.2.2.2.2.2.2.2.2.2.2.2)) dX11_town_22 rfl mlX11_132 lkX7_readFrom sh10 ⟨_, _, rfl⟩ rfl rfl (Nat.le_of_ble_eq_true rfl) (Nat.le_of_ble_eq_true rfl) (LX7_readFrom_10_3_25 Γ _ r0_3 w0_3_0 w0_3_1 r0_3_2 r0_3_3 y1.1 y1.2 r0_0 r0_0_0 w0_1_1 r0_5 r0_5_0 r0_5_1 r0_5_2 r0_5_3 r0_5_4 r0_5_5 r0_5_6 r0_5_7 (zr_n rfl (zr_l e_i10)) (zq_i (zq_n rfl e_l11)) (zq_i (zq_n rfl e_l12)) (zr_n rfl (zr_l e_i13)) (zr_n rfl (zr_l e_i14)) zr_s (zq_i zq_s) (zr_n rfl (zr_l e_i1)) (zr_n rfl (zr_l e_i2)) (zq_i (zq_n rfl e_l4)) (zr_n rfl (zr_l e_i25)) (zr_n rfl (zr_l e_i26)) (zr_n rfl (zr_l e_i27)) (zr_n rfl (zr_l e_i28)) (zr_n rfl (zr_l e_i29)) (zr_n rfl (zr_l e_i30)) (zr_n rfl (zr_l e_i31)) (zr_n rfl (zr_l e_i32)) (zr_n rfl (zr_l e_i33)) hy2) ((zch_i (zch_i (zch_i (zch_i (zch_i (zch_i (zch_i (zch_i (zch_i (zch_i (zch_i (zch_i (zch_i (zch_l (zch_l (zm_li zn_s) (zm_li rfl)) (zm_li rfl)) zm_s) rfl) rfl) rfl) rfl) rfl) rfl) rfl) rfl) rfl) rfl) rfl) rfl)).symm ?_
  refine zj_topi (fun x3 ex3 => ?_)
  have hy := zlet_at ex3 hy
  refine zj_istore_n (pc' := 26) (L' := [(1, .int x3), (0, .ref (zad Γ 0))]) dX11_town_25 rfl rfl (by decide) rfl ?_
  refine zj_aload_n (pc' := 27) 1 dX11_town_26 rfl rfl rfl ?_
  refine zj_aload_n (pc' := 28) 1 dX11_town_27 rfl rfl rfl ?_
  refine zj_getR (pc' := 31) (j := 3) dX11_town_28 rfl flX11_21 sh0 rfl ?_
  refine zj_V1 (pc' := 34) (z := YX8_faultKind) (As := []) (N := (zui (zui (zui (zui (zui (zui (zui (zui (zui (zui (zui (zui (zui (zul (zul (zul M 3 y2.2.2.2.2.2.2.2.1) 11 y2.2.2.1) 12 y2.2.2.2.1) 3 y2.2.2.2.2.2.2.1) 10 y2.2.1) 13 y2.2.2.2.2.1) 14 y2.2.2.2.2.2.1) 25 y2.2.2.2.2.2.2.2.2.1) 26 y2.2.2.2.2.2.2.2.2.2.1) 27 y2.2.2.2.2.2.2.2.2.2.2.1) 28 y2.2.2.2.2.2.2.2.2.2.2.2.1) 29 y2.2.2.2.2.2.2.2.2.2.2.2.2.1) 30 y2.2.2.2.2.2.2.2.2.2.2.2.2.2.1) 31 y2.2.2.2.2.2.2.2.2.2.2.2.2.2.2.1) 32 y2.2.2.2.2.2.2.2.2.2.2.2.2.2.2.2.1) 33 y2.2.2.2.2.2.2.2.2.2.2.2.2.2.2.2.2)) dX11_town_31 rfl mlX11_136 lkX8_faultKind sh3 ⟨_, _, rfl⟩ rfl rfl (Nat.le_of_ble_eq_true rfl) (Nat.le_of_ble_eq_true rfl) (LX8_faultKind_3 Γ _ y2.2.2.2.2.2.2.1 (zr_n rfl (zr_n rfl (zr_n rfl (zr_n rfl (zr_n rfl (zr_n rfl (zr_n rfl (zr_n rfl (zr_n rfl (zr_n rfl (zr_n rfl (zr_n rfl zr_s)))))))))))) rfl) rfl ?_
  obtain ⟨r0v4, er0v4⟩ : ∃ z, z = (zup r0 16 (fRd_faultKind y2.2.2.2.2.2.2.1)) := ⟨_, rfl⟩
  have hy := zlet_at er0v4 hy
  refine zj_pI (pc' := 37) (N := (zui (zui (zui (zui (zui (zui (zui (zui (zui (zui (zui (zui (zui (zui (zul (zul (zul M 3 y2.2.2.2.2.2.2.2.1) 11 y2.2.2.1) 12 y2.2.2.2.1) 0 r0v4) 3 y2.2.2.2.2.2.2.1) 10 y2.2.1) 13 y2.2.2.2.2.1) 14 y2.2.2.2.2.2.1) 25 y2.2.2.2.2.2.2.2.2.1) 26 y2.2.2.2.2.2.2.2.2.2.1) 27 y2.2.2.2.2.2.2.2.2.2.2.1) 28 y2.2.2.2.2.2.2.2.2.2.2.2.1) 29 y2.2.2.2.2.2.2.2.2.2.2.2.2.1) 30 y2.2.2.2.2.2.2.2.2.2.2.2.2.2.1) 31 y2.2.2.2.2.2.2.2.2.2.2.2.2.2.2.1) 32 y2.2.2.2.2.2.2.2.2.2.2.2.2.2.2.2.1) 33 y2.2.2.2.2.2.2.2.2.2.2.2.2.2.2.2.2)) dX11_town_34 rfl fpX11_139 sh0 rfl (zr_n rfl (zr_n rfl (zr_n rfl (zr_n rfl (zr_n rfl (zr_n rfl (zr_n rfl (zr_n rfl (zr_n rfl (zr_n rfl (zr_n rfl (zr_n rfl (zr_n rfl (zr_l (zr_l (zr_l e_i0)))))))))))))))) er0v4 (zm_n rfl (zm_n rfl (zm_n rfl (zm_n rfl (zm_n rfl (zm_n rfl (zm_n rfl (zm_n rfl (zm_n rfl (zm_n rfl (zm_n rfl (zm_n rfl (zm_n rfl rfl))))))))))))) ?_
  refine zj_aload_n (pc' := 38) 1 dX11_town_37 rfl rfl rfl ?_
  refine zj_getR (pc' := 41) (j := 1) dX11_town_38 rfl flX11_10 sh0 rfl ?_
  obtain ⟨y5, hy5, hy⟩ := zt_b hy
  refine zj_V0 (pc' := 44) (z := YX10_clear) (As := []) (N := (zui (zui (zui (zui (zui (zui (zui (zui (zui (zui (zui (zui (zui (zui (zui (zul (zul (zul M 3 y2.2.2.2.2.2.2.2.1) 11 y2.2.2.1) 12 y2.2.2.2.1) 0 r0v4) 1 y5) 3 y2.2.2.2.2.2.2.1) 10 y2.2.1) 13 y2.2.2.2.2.1) 14 y2.2.2.2.2.2.1) 25 y2.2.2.2.2.2.2.2.2.1) 26 y2.2.2.2.2.2.2.2.2.2.1) 27 y2.2.2.2.2.2.2.2.2.2.2.1) 28 y2.2.2.2.2.2.2.2.2.2.2.2.1) 29 y2.2.2.2.2.2.2.2.2.2.2.2.2.1) 30 y2.2.2.2.2.2.2.2.2.2.2.2.2.2.1) 31 y2.2.2.2.2.2.2.2.2.2.2.2.2.2.2.1) 32 y2.2.2.2.2.2.2.2.2.2.2.2.2.2.2.2.1) 33 y2.2.2.2.2.2.2.2.2.2.2.2.2.2.2.2.2)) dX11_town_41 rfl mlX11_141 lkX10_clear sh1 ⟨_, _, rfl⟩ rfl rfl (Nat.le_of_ble_eq_true rfl) (Nat.le_of_ble_eq_true rfl) (LX10_clear_1 Γ _ r0_0 (zr_n rfl (zr_n rfl (zr_n rfl (zr_n rfl (zr_n rfl (zr_n rfl (zr_n rfl (zr_n rfl (zr_n rfl (zr_n rfl (zr_n rfl (zr_n rfl (zr_n rfl (zr_n rfl (zr_l (zr_l (zr_l e_i1))))))))))))))))) hy5) ((zm_n rfl (zm_n rfl (zm_n rfl (zm_n rfl (zm_n rfl (zm_n rfl (zm_n rfl (zm_n rfl (zm_n rfl (zm_n rfl (zm_n rfl (zm_n rfl (zm_n rfl rfl)))))))))))))).symm ?_
  refine zj_aload_n (pc' := 45) 1 dX11_town_44 rfl rfl rfl ?_
  refine zj_fI (pc' := 48) dX11_town_45 rfl flX11_139 sh0 rfl (zr_n rfl (zr_n rfl (zr_n rfl (zr_n rfl (zr_n rfl (zr_n rfl (zr_n rfl (zr_n rfl (zr_n rfl (zr_n rfl (zr_n rfl (zr_n rfl (zr_n rfl (zr_n rfl zr_s)))))))))))))) rfl ?_
  refine zj_if_eq (tgt := 61) (pc' := 51) dX11_town_48 rfl (by decide) (fun c6 => ?_) (fun c6 => ?_)
  · have hy := zt_t hy c6
    refine zj_aload_n (pc' := 62) 1 dX11_town_61 rfl rfl rfl ?_
    refine zj_getR (pc' := 65) (j := 5) dX11_town_62 rfl flX11_28 sh0 rfl ?_
    refine zj_aload_n (pc' := 66) 1 dX11_town_65 rfl rfl rfl ?_
    refine zj_getR (pc' := 69) (j := 10) dX11_town_66 rfl flX11_32 sh0 rfl ?_
    obtain ⟨y7, hy7, hy⟩ := zt_b hy
    refine zj_V0 (pc' := 72) (z := YX7_copyFrom) (As := [.ref (zad Γ 10)]) (N := (zui (zui (zui (zui (zui (zui (zui (zui (zui (zui (zui (zui (zui (zui (zui (zui (zui (zui (zul (zul (zul (zul (zul M 3 y2.2.2.2.2.2.2.2.1) 6 y7.2.1) 7 y7.2.2.1) 11 y2.2.2.1) 12 y2.2.2.2.1) 0 r0v4) 1 y5) 3 y2.2.2.2.2.2.2.1) 5 y7.1) 8 y7.2.2.2.1) 9 y7.2.2.2.2) 10 y2.2.1) 13 y2.2.2.2.2.1) 14 y2.2.2.2.2.2.1) 25 y2.2.2.2.2.2.2.2.2.1) 26 y2.2.2.2.2.2.2.2.2.2.1) 27 y2.2.2.2.2.2.2.2.2.2.2.1) 28 y2.2.2.2.2.2.2.2.2.2.2.2.1) 29 y2.2.2.2.2.2.2.2.2.2.2.2.2.1) 30 y2.2.2.2.2.2.2.2.2.2.2.2.2.2.1) 31 y2.2.2.2.2.2.2.2.2.2.2.2.2.2.2.1) 32 y2.2.2.2.2.2.2.2.2.2.2.2.2.2.2.2.1) 33 y2.2.2.2.2.2.2.2.2.2.2.2.2.2.2.2.2)) dX11_town_69 rfl mlX11_147 lkX7_copyFrom sh5 ⟨_, _, rfl⟩ rfl rfl (Nat.le_of_ble_eq_true rfl) (Nat.le_of_ble_eq_true rfl) (LX7_copyFrom_5_10 Γ _ r0_2 w0_2_0 w0_2_1 r0_2_2 r0_2_3 y2.2.1 y2.2.2.1 y2.2.2.2.1 y2.2.2.2.2.1 y2.2.2.2.2.2.1 (zr_n rfl (zr_n rfl (zr_n rfl (zr_n rfl (zr_n rfl (zr_n rfl (zr_n rfl (zr_n rfl (zr_n rfl (zr_n rfl (zr_n rfl (zr_n rfl (zr_n rfl (zr_n rfl (zr_n rfl (zr_l (zr_l (zr_l e_i5)))))))))))))))))) (zq_i (zq_i (zq_i (zq_i (zq_i (zq_i (zq_i (zq_i (zq_i (zq_i (zq_i (zq_i (zq_i (zq_i (zq_i (zq_n rfl (zq_n rfl (zq_n rfl e_l6)))))))))))))))))) (zq_i (zq_i (zq_i (zq_i (zq_i (zq_i (zq_i (zq_i (zq_i (zq_i (zq_i (zq_i (zq_i (zq_i (zq_i (zq_n rfl (zq_n rfl (zq_n rfl e_l7)))))))))))))))))) (zr_n rfl (zr_n rfl (zr_n rfl (zr_n rfl (zr_n rfl (zr_n rfl (zr_n rfl (zr_n rfl (zr_n rfl (zr_n rfl (zr_n rfl (zr_n rfl (zr_n rfl (zr_n rfl (zr_n rfl (zr_l (zr_l (zr_l e_i8)))))))))))))))))) (zr_n rfl (zr_n rfl (zr_n rfl (zr_n rfl (zr_n rfl (zr_n rfl (zr_n rfl (zr_n rfl (zr_n rfl (zr_n rfl (zr_n rfl (zr_n rfl (zr_n rfl (zr_n rfl (zr_n rfl (zr_l (zr_l (zr_l e_i9)))))))))))))))))) (zr_n rfl (zr_n rfl (zr_n rfl (zr_n rfl (zr_n rfl (zr_n rfl (zr_n rfl (zr_n rfl (zr_n rfl (zr_n rfl (zr_n rfl zr_s))))))))))) (zq_i (zq_i (zq_i (zq_i (zq_i (zq_i (zq_i (zq_i (zq_i (zq_i (zq_i (zq_i (zq_i (zq_i (zq_i (zq_n rfl zq_s)))))))))))))))) (zq_i (zq_i (zq_i (zq_i (zq_i (zq_i (zq_i (zq_i (zq_i (zq_i (zq_i (zq_i (zq_i (zq_i (zq_i zq_s))))))))))))))) (zr_n rfl (zr_n rfl (zr_n rfl (zr_n rfl (zr_n rfl (zr_n rfl (zr_n rfl (zr_n rfl (zr_n rfl (zr_n rfl zr_s)))))))))) (zr_n rfl (zr_n rfl (zr_n rfl (zr_n rfl (zr_n rfl (zr_n rfl (zr_n rfl (zr_n rfl (zr_n rfl zr_s))))))))) hy7) ((zch_i (zch_i (zch_i (zch_l (zm_li (zm_li (zm_li (zm_li (zm_li (zm_li (zm_li (zm_li (zm_li (zm_li (zm_li (zm_li (zm_li (zm_li (zm_li (zn_n rfl (zn_n rfl rfl))))))))))))))))) (zm_li (zm_li (zm_li (zm_li (zm_li (zm_li (zm_li (zm_li (zm_li (zm_li (zm_li (zm_li (zm_li (zm_li (zm_li (zn_n rfl (zn_n rfl rfl)))))))))))))))))) (zm_n rfl (zm_n rfl (zm_n rfl (zm_n rfl (zm_n rfl (zm_n rfl (zm_n rfl (zm_n rfl (zm_n rfl (zm_n rfl (zm_n rfl (zm_n rfl rfl))))))))))))) (zm_n rfl (zm_n rfl (zm_n rfl (zm_n rfl (zm_n rfl (zm_n rfl (zm_n rfl (zm_n rfl (zm_n rfl (zm_n rfl (zm_n rfl (zm_n rfl rfl))))))))))))) (zm_n rfl (zm_n rfl (zm_n rfl (zm_n rfl (zm_n rfl (zm_n rfl (zm_n rfl (zm_n rfl (zm_n rfl (zm_n rfl (zm_n rfl (zm_n rfl rfl)))))))))))))).symm ?_
    refine zj_aload_n (pc' := 73) 1 dX11_town_72 rfl rfl rfl ?_
    refine zj_getR (pc' := 76) (j := 15) dX11_town_73 rfl flX11_38 sh0 rfl ?_
    refine zj_aload_n (pc' := 77) 1 dX11_town_76 rfl rfl rfl ?_
    refine zj_getR (pc' := 80) (j := 25) dX11_town_77 rfl flX11_42 sh0 rfl ?_
    obtain ⟨y8, hy8, hy⟩ := zt_b hy
    refine zj_V0 (pc' := 83) (z := YX1_copyFrom) (As := [.ref (zad Γ 25)]) (N := (zui (zui (zui (zui (zui (zui (zui (zui (zui (zui (zui (zui (zui (zui (zui (zui (zui (zui (zui (zui (zui (zui (zui (zui (zui (zui (zui (zul (zul (zul (zul (zul M 3 y2.2.2.2.2.2.2.2.1) 6 y7.2.1) 7 y7.2.2.1) 11 y2.2.2.1) 12 y2.2.2.2.1) 0 r0v4) 1 y5) 3 y2.2.2.2.2.2.2.1) 5 y7.1) 8 y7.2.2.2.1) 9 y7.2.2.2.2) 10 y2.2.1) 13 y2.2.2.2.2.1) 14 y2.2.2.2.2.2.1) 15 y8.1) 16 y8.2.1) 17 y8.2.2.1) 18 y8.2.2.2.1) 19 y8.2.2.2.2.1) 20 y8.2.2.2.2.2.1) 21 y8.2.2.2.2.2.2.1) 22 y8.2.2.2.2.2.2.2.1) 23 y8.2.2.2.2.2.2.2.2) 25 y2.2.2.2.2.2.2.2.2.1) 26 y2.2.2.2.2.2.2.2.2.2.1) 27 y2.2.2.2.2.2.2.2.2.2.2.1) 28 y2.2.2.2.2.2.2.2.2.2.2.2.1) 29 y2.2.2.2.2.2.2.2.2.2.2.2.2.1) 30 y2.2.2.2.2.2.2.2.2.2.2.2.2.2.1) 31 y2.2.2.2.2.2.2.2.2.2.2.2.2.2.2.1) 32 y2.2.2.2.2.2.2.2.2.2.2.2.2.2.2.2.1) 33 y2.2.2.2.2.2.2.2.2.2.2.2.2.2.2.2.2)) dX11_town_80 rfl mlX11_151 lkX1_copyFrom sh15 ⟨_, _, rfl⟩ rfl rfl (Nat.le_of_ble_eq_true rfl) (Nat.le_of_ble_eq_true rfl) (LX1_copyFrom_15_25 Γ _ r0_4 r0_4_0 r0_4_1 r0_4_2 r0_4_3 r0_4_4 r0_4_5 r0_4_6 r0_4_7 y2.2.2.2.2.2.2.2.2.1 y2.2.2.2.2.2.2.2.2.2.1 y2.2.2.2.2.2.2.2.2.2.2.1 y2.2.2.2.2.2.2.2.2.2.2.2.1 y2.2.2.2.2.2.2.2.2.2.2.2.2.1 y2.2.2.2.2.2.2.2.2.2.2.2.2.2.1 y2.2.2.2.2.2.2.2.2.2.2.2.2.2.2.1 y2.2.2.2.2.2.2.2.2.2.2.2.2.2.2.2.1 y2.2.2.2.2.2.2.2.2.2.2.2.2.2.2.2.2 (zr_n rfl (zr_n rfl (zr_n rfl (zr_n rfl (zr_n rfl (zr_n rfl (zr_n rfl (zr_n rfl (zr_n rfl (zr_n rfl (zr_n rfl (zr_n rfl (zr_n rfl (zr_n rfl (zr_n rfl (zr_n rfl (zr_n rfl (zr_n rfl (zr_l (zr_l (zr_l (zr_l (zr_l e_i15))))))))))))))))))))))) (zr_n rfl (zr_n rfl (zr_n rfl (zr_n rfl (zr_n rfl (zr_n rfl (zr_n rfl (zr_n rfl (zr_n rfl (zr_n rfl (zr_n rfl (zr_n rfl (zr_n rfl (zr_n rfl (zr_n rfl (zr_n rfl (zr_n rfl (zr_n rfl (zr_l (zr_l (zr_l (zr_l (zr_l e_i16))))))))))))))))))))))) (zr_n rfl (zr_n rfl (zr_n rfl (zr_n rfl (zr_n rfl (zr_n rfl (zr_n rfl (zr_n rfl (zr_n rfl (zr_n rfl (zr_n rfl (zr_n rfl (zr_n rfl (zr_n rfl (zr_n rfl (zr_n rfl (zr_n rfl (zr_n rfl (zr_l (zr_l (zr_l (zr_l (zr_l e_i17))))))))))))))))))))))) (zr_n rfl (zr_n rfl (zr_n rfl (zr_n rfl (zr_n rfl (zr_n rfl (zr_n rfl (zr_n rfl (zr_n rfl (zr_n rfl (zr_n rfl (zr_n rfl (zr_n rfl (zr_n rfl (zr_n rfl (zr_n rfl (zr_n rfl (zr_n rfl (zr_l (zr_l (zr_l (zr_l (zr_l e_i18))))))))))))))))))))))) (zr_n rfl (zr_n rfl (zr_n rfl (zr_n rfl (zr_n rfl (zr_n rfl (zr_n rfl (zr_n rfl (zr_n rfl (zr_n rfl (zr_n rfl (zr_n rfl (zr_n rfl (zr_n rfl (zr_n rfl (zr_n rfl (zr_n rfl (zr_n rfl (zr_l (zr_l (zr_l (zr_l (zr_l e_i19))))))))))))))))))))))) (zr_n rfl (zr_n rfl (zr_n rfl (zr_n rfl (zr_n rfl (zr_n rfl (zr_n rfl (zr_n rfl (zr_n rfl (zr_n rfl (zr_n rfl (zr_n rfl (zr_n rfl (zr_n rfl (zr_n rfl (zr_n rfl (zr_n rfl (zr_n rfl (zr_l (zr_l (zr_l (zr_l (zr_l e_i20))))))))))))))))))))))) (zr_n rfl (zr_n rfl (zr_n rfl (zr_n rfl (zr_n rfl (zr_n rfl (zr_n rfl (zr_n rfl (zr_n rfl (zr_n rfl (zr_n rfl (zr_n rfl (zr_n rfl (zr_n rfl (zr_n rfl (zr_n rfl (zr_n rfl (zr_n rfl (zr_l (zr_l (zr_l (zr_l (zr_l e_i21))))))))))))))))))))))) (zr_n rfl (zr_n rfl (zr_n rfl (zr_n rfl (zr_n rfl (zr_n rfl (zr_n rfl (zr_n rfl (zr_n rfl (zr_n rfl (zr_n rfl (zr_n rfl (zr_n rfl (zr_n rfl (zr_n rfl (zr_n rfl (zr_n rfl (zr_n rfl (zr_l (zr_l (zr_l (zr_l (zr_l e_i22))))))))))))))))))))))) (zr_n rfl (zr_n rfl (zr_n rfl (zr_n rfl (zr_n rfl (zr_n rfl (zr_n rfl (zr_n rfl (zr_n rfl (zr_n rfl (zr_n rfl (zr_n rfl (zr_n rfl (zr_n rfl (zr_n rfl (zr_n rfl (zr_n rfl (zr_n rfl (zr_l (zr_l (zr_l (zr_l (zr_l e_i23))))))))))))))))))))))) (zr_n rfl (zr_n rfl (zr_n rfl (zr_n rfl (zr_n rfl (zr_n rfl (zr_n rfl (zr_n rfl zr_s)))))))) (zr_n rfl (zr_n rfl (zr_n rfl (zr_n rfl (zr_n rfl (zr_n rfl (zr_n rfl zr_s))))))) (zr_n rfl (zr_n rfl (zr_n rfl (zr_n rfl (zr_n rfl (zr_n rfl zr_s)))))) (zr_n rfl (zr_n rfl (zr_n rfl (zr_n rfl (zr_n rfl zr_s))))) (zr_n rfl (zr_n rfl (zr_n rfl (zr_n rfl zr_s)))) (zr_n rfl (zr_n rfl (zr_n rfl zr_s))) (zr_n rfl (zr_n rfl zr_s)) (zr_n rfl zr_s) zr_s hy8) ((zch_i (zch_i (zch_i (zch_i (zch_i (zch_i (zch_i (zch_i (zm_n rfl (zm_n rfl (zm_n rfl (zm_n rfl (zm_n rfl (zm_n rfl (zm_n rfl (zm_n rfl (zm_n rfl rfl))))))))) (zm_n rfl (zm_n rfl (zm_n rfl (zm_n rfl (zm_n rfl (zm_n rfl (zm_n rfl (zm_n rfl (zm_n rfl rfl)))))))))) (zm_n rfl (zm_n rfl (zm_n rfl (zm_n rfl (zm_n rfl (zm_n rfl (zm_n rfl (zm_n rfl (zm_n rfl rfl)))))))))) (zm_n rfl (zm_n rfl (zm_n rfl (zm_n rfl (zm_n rfl (zm_n rfl (zm_n rfl (zm_n rfl (zm_n rfl rfl)))))))))) (zm_n rfl (zm_n rfl (zm_n rfl (zm_n rfl (zm_n rfl (zm_n rfl (zm_n rfl (zm_n rfl (zm_n rfl rfl)))))))))) (zm_n rfl (zm_n rfl (zm_n rfl (zm_n rfl (zm_n rfl (zm_n rfl (zm_n rfl (zm_n rfl (zm_n rfl rfl)))))))))) (zm_n rfl (zm_n rfl (zm_n rfl (zm_n rfl (zm_n rfl (zm_n rfl (zm_n rfl (zm_n rfl (zm_n rfl rfl)))))))))) (zm_n rfl (zm_n rfl (zm_n rfl (zm_n rfl (zm_n rfl (zm_n rfl (zm_n rfl (zm_n rfl (zm_n rfl rfl)))))))))) (zm_n rfl (zm_n rfl (zm_n rfl (zm_n rfl (zm_n rfl (zm_n rfl (zm_n rfl (zm_n rfl (zm_n rfl rfl))))))))))).symm ?_
    refine zj_aload_n (pc' := 84) 1 dX11_town_83 rfl rfl rfl ?_
    refine zj_getR (pc' := 87) (j := 35) dX11_town_84 rfl flX11_48 sh0 rfl ?_
    obtain ⟨y9, hy9, hy⟩ := zt_b hy
    refine zj_V0 (pc' := 90) (z := YX9_clear) (As := []) (N := (zui (zui (zui (zui (zui (zui (zui (zui (zui (zui (zui (zui (zui (zui (zui (zui (zui (zui (zui (zui (zui (zui (zui (zui (zui (zui (zui (zui (zul (zul (zul (zul (zul M 3 y2.2.2.2.2.2.2.2.1) 6 y7.2.1) 7 y7.2.2.1) 11 y2.2.2.1) 12 y2.2.2.2.1) 0 r0v4) 1 y5) 3 y2.2.2.2.2.2.2.1) 5 y7.1) 8 y7.2.2.2.1) 9 y7.2.2.2.2) 10 y2.2.1) 13 y2.2.2.2.2.1) 14 y2.2.2.2.2.2.1) 15 y8.1) 16 y8.2.1) 17 y8.2.2.1) 18 y8.2.2.2.1) 19 y8.2.2.2.2.1) 20 y8.2.2.2.2.2.1) 21 y8.2.2.2.2.2.2.1) 22 y8.2.2.2.2.2.2.2.1) 23 y8.2.2.2.2.2.2.2.2) 25 y2.2.2.2.2.2.2.2.2.1) 26 y2.2.2.2.2.2.2.2.2.2.1) 27 y2.2.2.2.2.2.2.2.2.2.2.1) 28 y2.2.2.2.2.2.2.2.2.2.2.2.1) 29 y2.2.2.2.2.2.2.2.2.2.2.2.2.1) 30 y2.2.2.2.2.2.2.2.2.2.2.2.2.2.1) 31 y2.2.2.2.2.2.2.2.2.2.2.2.2.2.2.1) 32 y2.2.2.2.2.2.2.2.2.2.2.2.2.2.2.2.1) 33 y2.2.2.2.2.2.2.2.2.2.2.2.2.2.2.2.2) 35 y9)) dX11_town_87 rfl mlX11_154 lkX9_clear sh35 ⟨_, _, rfl⟩ rfl rfl (Nat.le_of_ble_eq_true rfl) (Nat.le_of_ble_eq_true rfl) (LX9_clear_35 Γ _ r0_6 (zr_n rfl (zr_n rfl (zr_n rfl (zr_n rfl (zr_n rfl (zr_n rfl (zr_n rfl (zr_n rfl (zr_n rfl (zr_n rfl (zr_n rfl (zr_n rfl (zr_n rfl (zr_n rfl (zr_n rfl (zr_n rfl (zr_n rfl (zr_n rfl (zr_n rfl (zr_n rfl (zr_n rfl (zr_n rfl (zr_n rfl (zr_n rfl (zr_n rfl (zr_n rfl (zr_n rfl (zr_l (zr_l (zr_l (zr_l (zr_l e_i35)))))))))))))))))))))))))))))))) hy9) (rfl).symm ?_
    refine zj_aload_n (pc' := 91) 1 dX11_town_90 rfl rfl rfl ?_
    refine zj_getR (pc' := 94) (j := 47) dX11_town_91 rfl flX11_58 sh0 rfl ?_
    obtain ⟨y10, hy10, hy⟩ := zt_b hy
    refine zj_V0 (pc' := 97) (z := YX3_clear) (As := []) (N := (zui (zui (zui (zui (zui (zui (zui (zui (zui (zui (zui (zui (zui (zui (zui (zui (zui (zui (zui (zui (zui (zui (zui (zui (zui (zui (zui (zui (zui (zul (zul (zul (zul (zul M 3 y2.2.2.2.2.2.2.2.1) 6 y7.2.1) 7 y7.2.2.1) 11 y2.2.2.1) 12 y2.2.2.2.1) 0 r0v4) 1 y5) 3 y2.2.2.2.2.2.2.1) 5 y7.1) 8 y7.2.2.2.1) 9 y7.2.2.2.2) 10 y2.2.1) 13 y2.2.2.2.2.1) 14 y2.2.2.2.2.2.1) 15 y8.1) 16 y8.2.1) 17 y8.2.2.1) 18 y8.2.2.2.1) 19 y8.2.2.2.2.1) 20 y8.2.2.2.2.2.1) 21 y8.2.2.2.2.2.2.1) 22 y8.2.2.2.2.2.2.2.1) 23 y8.2.2.2.2.2.2.2.2) 25 y2.2.2.2.2.2.2.2.2.1) 26 y2.2.2.2.2.2.2.2.2.2.1) 27 y2.2.2.2.2.2.2.2.2.2.2.1) 28 y2.2.2.2.2.2.2.2.2.2.2.2.1) 29 y2.2.2.2.2.2.2.2.2.2.2.2.2.1) 30 y2.2.2.2.2.2.2.2.2.2.2.2.2.2.1) 31 y2.2.2.2.2.2.2.2.2.2.2.2.2.2.2.1) 32 y2.2.2.2.2.2.2.2.2.2.2.2.2.2.2.2.1) 33 y2.2.2.2.2.2.2.2.2.2.2.2.2.2.2.2.2) 35 y9) 47 y10)) dX11_town_94 rfl mlX11_155 lkX3_clear sh47 ⟨_, _, rfl⟩ rfl rfl (Nat.le_of_ble_eq_true rfl) (Nat.le_of_ble_eq_true rfl) (LX3_clear_47 Γ _ r0_8 (zr_n rfl (zr_n rfl (zr_n rfl (zr_n rfl (zr_n rfl (zr_n rfl (zr_n rfl (zr_n rfl (zr_n rfl (zr_n rfl (zr_n rfl (zr_n rfl (zr_n rfl (zr_n rfl (zr_n rfl (zr_n rfl (zr_n rfl (zr_n rfl (zr_n rfl (zr_n rfl (zr_n rfl (zr_n rfl (zr_n rfl (zr_n rfl (zr_n rfl (zr_n rfl (zr_n rfl (zr_n rfl (zr_l (zr_l (zr_l (zr_l (zr_l e_i47))))))))))))))))))))))))))))))))) hy10) (rfl).symm ?_
    refine zj_iload_n (pc' := 98) 0 dX11_town_97 rfl rfl rfl ?_
    have e9 := Option.some.inj hy
    subst e9
    exact zj_iret dX11_town_98 rfl hq
  · have hy := zt_f hy c6
    refine zj_iconst (pc' := 52) dX11_town_51 rfl kiconst_m1 ?_
    refine zj_aload_n (pc' := 53) 1 dX11_town_52 rfl rfl rfl ?_
    refine zj_getR (pc' := 56) (j := 3) dX11_town_53 rfl flX11_21 sh0 rfl ?_
    refine zj_V1 (pc' := 59) (z := YX8_place) (As := []) (N := (zui (zui (zui (zui (zui (zui (zui (zui (zui (zui (zui (zui (zui (zui (zui (zul (zul (zul M 3 y2.2.2.2.2.2.2.2.1) 11 y2.2.2.1) 12 y2.2.2.2.1) 0 r0v4) 1 y5) 3 y2.2.2.2.2.2.2.1) 10 y2.2.1) 13 y2.2.2.2.2.1) 14 y2.2.2.2.2.2.1) 25 y2.2.2.2.2.2.2.2.2.1) 26 y2.2.2.2.2.2.2.2.2.2.1) 27 y2.2.2.2.2.2.2.2.2.2.2.1) 28 y2.2.2.2.2.2.2.2.2.2.2.2.1) 29 y2.2.2.2.2.2.2.2.2.2.2.2.2.1) 30 y2.2.2.2.2.2.2.2.2.2.2.2.2.2.1) 31 y2.2.2.2.2.2.2.2.2.2.2.2.2.2.2.1) 32 y2.2.2.2.2.2.2.2.2.2.2.2.2.2.2.2.1) 33 y2.2.2.2.2.2.2.2.2.2.2.2.2.2.2.2.2)) dX11_town_56 rfl mlX11_144 lkX8_place sh3 ⟨_, _, rfl⟩ rfl rfl (Nat.le_of_ble_eq_true rfl) (Nat.le_of_ble_eq_true rfl) (LX8_place_3 Γ _ y2.2.2.2.2.2.2.1 (zr_n rfl (zr_n rfl (zr_n rfl (zr_n rfl (zr_n rfl (zr_n rfl (zr_n rfl (zr_n rfl (zr_n rfl (zr_n rfl (zr_n rfl (zr_n rfl zr_s)))))))))))) rfl) rfl ?_
    refine zj_isub (pc' := 60) dX11_town_59 rfl ?_
    have e9 := Option.some.inj hy
    subst e9
    refine zj_mem (N := (zui (zui (zui (zui (zui (zui (zui (zui (zui (zui (zui (zui (zui (zui (zui (zul (zul (zul (zul M 3 y2.2.2.2.2.2.2.2.1) 6 w0_2_0) 11 y2.2.2.1) 12 y2.2.2.2.1) 0 r0v4) 1 y5) 3 y2.2.2.2.2.2.2.1) 10 y2.2.1) 13 y2.2.2.2.2.1) 14 y2.2.2.2.2.2.1) 25 y2.2.2.2.2.2.2.2.2.1) 26 y2.2.2.2.2.2.2.2.2.2.1) 27 y2.2.2.2.2.2.2.2.2.2.2.1) 28 y2.2.2.2.2.2.2.2.2.2.2.2.1) 29 y2.2.2.2.2.2.2.2.2.2.2.2.2.1) 30 y2.2.2.2.2.2.2.2.2.2.2.2.2.2.1) 31 y2.2.2.2.2.2.2.2.2.2.2.2.2.2.2.1) 32 y2.2.2.2.2.2.2.2.2.2.2.2.2.2.2.2.1) 33 y2.2.2.2.2.2.2.2.2.2.2.2.2.2.2.2.2)) (zself_l (zq_i (zq_i (zq_i (zq_i (zq_i (zq_i (zq_i (zq_i (zq_i (zq_i (zq_i (zq_i (zq_i (zq_i (zq_i (zq_n rfl (zq_n rfl (zq_n rfl e_l6)))))))))))))))))) (zm_li (zm_li (zm_li (zm_li (zm_li (zm_li (zm_li (zm_li (zm_li (zm_li (zm_li (zm_li (zm_li (zm_li (zm_li (zn_n rfl (zn_n rfl rfl)))))))))))))))))) ?_
    refine zj_mem (N := (zui (zui (zui (zui (zui (zui (zui (zui (zui (zui (zui (zui (zui (zui (zui (zul (zul (zul (zul (zul M 3 y2.2.2.2.2.2.2.2.1) 6 w0_2_0) 7 w0_2_1) 11 y2.2.2.1) 12 y2.2.2.2.1) 0 r0v4) 1 y5) 3 y2.2.2.2.2.2.2.1) 10 y2.2.1) 13 y2.2.2.2.2.1) 14 y2.2.2.2.2.2.1) 25 y2.2.2.2.2.2.2.2.2.1) 26 y2.2.2.2.2.2.2.2.2.2.1) 27 y2.2.2.2.2.2.2.2.2.2.2.1) 28 y2.2.2.2.2.2.2.2.2.2.2.2.1) 29 y2.2.2.2.2.2.2.2.2.2.2.2.2.1) 30 y2.2.2.2.2.2.2.2.2.2.2.2.2.2.1) 31 y2.2.2.2.2.2.2.2.2.2.2.2.2.2.2.1) 32 y2.2.2.2.2.2.2.2.2.2.2.2.2.2.2.2.1) 33 y2.2.2.2.2.2.2.2.2.2.2.2.2.2.2.2.2)) (zself_l (zq_i (zq_i (zq_i (zq_i (zq_i (zq_i (zq_i (zq_i (zq_i (zq_i (zq_i (zq_i (zq_i (zq_i (zq_i (zq_n rfl (zq_n rfl (zq_n rfl (zq_n rfl e_l7))))))))))))))))))) (zm_li (zm_li (zm_li (zm_li (zm_li (zm_li (zm_li (zm_li (zm_li (zm_li (zm_li (zm_li (zm_li (zm_li (zm_li (zn_n rfl (zn_n rfl rfl)))))))))))))))))) ?_
    refine zj_mem (N := (zui (zui (zui (zui (zui (zui (zui (zui (zui (zui (zui (zui (zui (zui (zui (zui (zul (zul (zul (zul (zul M 3 y2.2.2.2.2.2.2.2.1) 6 w0_2_0) 7 w0_2_1) 11 y2.2.2.1) 12 y2.2.2.2.1) 0 r0v4) 1 y5) 3 y2.2.2.2.2.2.2.1) 5 r0_2) 10 y2.2.1) 13 y2.2.2.2.2.1) 14 y2.2.2.2.2.2.1) 25 y2.2.2.2.2.2.2.2.2.1) 26 y2.2.2.2.2.2.2.2.2.2.1) 27 y2.2.2.2.2.2.2.2.2.2.2.1) 28 y2.2.2.2.2.2.2.2.2.2.2.2.1) 29 y2.2.2.2.2.2.2.2.2.2.2.2.2.1) 30 y2.2.2.2.2.2.2.2.2.2.2.2.2.2.1) 31 y2.2.2.2.2.2.2.2.2.2.2.2.2.2.2.1) 32 y2.2.2.2.2.2.2.2.2.2.2.2.2.2.2.2.1) 33 y2.2.2.2.2.2.2.2.2.2.2.2.2.2.2.2.2)) (zself_i (zr_n rfl (zr_n rfl (zr_n rfl (zr_n rfl (zr_n rfl (zr_n rfl (zr_n rfl (zr_n rfl (zr_n rfl (zr_n rfl (zr_n rfl (zr_n rfl (zr_n rfl (zr_n rfl (zr_n rfl (zr_l (zr_l (zr_l (zr_l (zr_l e_i5)))))))))))))))))))) (zm_n rfl (zm_n rfl (zm_n rfl (zm_n rfl (zm_n rfl (zm_n rfl (zm_n rfl (zm_n rfl (zm_n rfl (zm_n rfl (zm_n rfl (zm_n rfl rfl))))))))))))) ?_
    refine zj_mem (N := (zui (zui (zui (zui (zui (zui (zui (zui (zui (zui (zui (zui (zui (zui (zui (zui (zui (zul (zul (zul (zul (zul M 3 y2.2.2.2.2.2.2.2.1) 6 w0_2_0) 7 w0_2_1) 11 y2.2.2.1) 12 y2.2.2.2.1) 0 r0v4) 1 y5) 3 y2.2.2.2.2.2.2.1) 5 r0_2) 8 r0_2_2) 10 y2.2.1) 13 y2.2.2.2.2.1) 14 y2.2.2.2.2.2.1) 25 y2.2.2.2.2.2.2.2.2.1) 26 y2.2.2.2.2.2.2.2.2.2.1) 27 y2.2.2.2.2.2.2.2.2.2.2.1) 28 y2.2.2.2.2.2.2.2.2.2.2.2.1) 29 y2.2.2.2.2.2.2.2.2.2.2.2.2.1) 30 y2.2.2.2.2.2.2.2.2.2.2.2.2.2.1) 31 y2.2.2.2.2.2.2.2.2.2.2.2.2.2.2.1) 32 y2.2.2.2.2.2.2.2.2.2.2.2.2.2.2.2.1) 33 y2.2.2.2.2.2.2.2.2.2.2.2.2.2.2.2.2)) (zself_i (zr_n rfl (zr_n rfl (zr_n rfl (zr_n rfl (zr_n rfl (zr_n rfl (zr_n rfl (zr_n rfl (zr_n rfl (zr_n rfl (zr_n rfl (zr_n rfl (zr_n rfl (zr_n rfl (zr_n rfl (zr_n rfl (zr_l (zr_l (zr_l (zr_l (zr_l e_i8))))))))))))))))))))) (zm_n rfl (zm_n rfl (zm_n rfl (zm_n rfl (zm_n rfl (zm_n rfl (zm_n rfl (zm_n rfl (zm_n rfl (zm_n rfl (zm_n rfl (zm_n rfl rfl))))))))))))) ?_
    refine zj_mem (N := (zui (zui (zui (zui (zui (zui (zui (zui (zui (zui (zui (zui (zui (zui (zui (zui (zui (zui (zul (zul (zul (zul (zul M 3 y2.2.2.2.2.2.2.2.1) 6 w0_2_0) 7 w0_2_1) 11 y2.2.2.1) 12 y2.2.2.2.1) 0 r0v4) 1 y5) 3 y2.2.2.2.2.2.2.1) 5 r0_2) 8 r0_2_2) 9 r0_2_3) 10 y2.2.1) 13 y2.2.2.2.2.1) 14 y2.2.2.2.2.2.1) 25 y2.2.2.2.2.2.2.2.2.1) 26 y2.2.2.2.2.2.2.2.2.2.1) 27 y2.2.2.2.2.2.2.2.2.2.2.1) 28 y2.2.2.2.2.2.2.2.2.2.2.2.1) 29 y2.2.2.2.2.2.2.2.2.2.2.2.2.1) 30 y2.2.2.2.2.2.2.2.2.2.2.2.2.2.1) 31 y2.2.2.2.2.2.2.2.2.2.2.2.2.2.2.1) 32 y2.2.2.2.2.2.2.2.2.2.2.2.2.2.2.2.1) 33 y2.2.2.2.2.2.2.2.2.2.2.2.2.2.2.2.2)) (zself_i (zr_n rfl (zr_n rfl (zr_n rfl (zr_n rfl (zr_n rfl (zr_n rfl (zr_n rfl (zr_n rfl (zr_n rfl (zr_n rfl (zr_n rfl (zr_n rfl (zr_n rfl (zr_n rfl (zr_n rfl (zr_n rfl (zr_n rfl (zr_l (zr_l (zr_l (zr_l (zr_l e_i9)))))))))))))))))))))) (zm_n rfl (zm_n rfl (zm_n rfl (zm_n rfl (zm_n rfl (zm_n rfl (zm_n rfl (zm_n rfl (zm_n rfl (zm_n rfl (zm_n rfl (zm_n rfl rfl))))))))))))) ?_
    refine zj_mem (N := (zui (zui (zui (zui (zui (zui (zui (zui (zui (zui (zui (zui (zui (zui (zui (zui (zui (zui (zui (zul (zul (zul (zul (zul M 3 y2.2.2.2.2.2.2.2.1) 6 w0_2_0) 7 w0_2_1) 11 y2.2.2.1) 12 y2.2.2.2.1) 0 r0v4) 1 y5) 3 y2.2.2.2.2.2.2.1) 5 r0_2) 8 r0_2_2) 9 r0_2_3) 10 y2.2.1) 13 y2.2.2.2.2.1) 14 y2.2.2.2.2.2.1) 15 r0_4) 25 y2.2.2.2.2.2.2.2.2.1) 26 y2.2.2.2.2.2.2.2.2.2.1) 27 y2.2.2.2.2.2.2.2.2.2.2.1) 28 y2.2.2.2.2.2.2.2.2.2.2.2.1) 29 y2.2.2.2.2.2.2.2.2.2.2.2.2.1) 30 y2.2.2.2.2.2.2.2.2.2.2.2.2.2.1) 31 y2.2.2.2.2.2.2.2.2.2.2.2.2.2.2.1) 32 y2.2.2.2.2.2.2.2.2.2.2.2.2.2.2.2.1) 33 y2.2.2.2.2.2.2.2.2.2.2.2.2.2.2.2.2)) (zself_i (zr_n rfl (zr_n rfl (zr_n rfl (zr_n rfl (zr_n rfl (zr_n rfl (zr_n rfl (zr_n rfl (zr_n rfl (zr_n rfl (zr_n rfl (zr_n rfl (zr_n rfl (zr_n rfl (zr_n rfl (zr_n rfl (zr_n rfl (zr_n rfl (zr_l (zr_l (zr_l (zr_l (zr_l e_i15))))))))))))))))))))))) (zm_n rfl (zm_n rfl (zm_n rfl (zm_n rfl (zm_n rfl (zm_n rfl (zm_n rfl (zm_n rfl (zm_n rfl rfl)))))))))) ?_
    refine zj_mem (N := (zui (zui (zui (zui (zui (zui (zui (zui (zui (zui (zui (zui (zui (zui (zui (zui (zui (zui (zui (zui (zul (zul (zul (zul (zul M 3 y2.2.2.2.2.2.2.2.1) 6 w0_2_0) 7 w0_2_1) 11 y2.2.2.1) 12 y2.2.2.2.1) 0 r0v4) 1 y5) 3 y2.2.2.2.2.2.2.1) 5 r0_2) 8 r0_2_2) 9 r0_2_3) 10 y2.2.1) 13 y2.2.2.2.2.1) 14 y2.2.2.2.2.2.1) 15 r0_4) 16 r0_4_0) 25 y2.2.2.2.2.2.2.2.2.1) 26 y2.2.2.2.2.2.2.2.2.2.1) 27 y2.2.2.2.2.2.2.2.2.2.2.1) 28 y2.2.2.2.2.2.2.2.2.2.2.2.1) 29 y2.2.2.2.2.2.2.2.2.2.2.2.2.1) 30 y2.2.2.2.2.2.2.2.2.2.2.2.2.2.1) 31 y2.2.2.2.2.2.2.2.2.2.2.2.2.2.2.1) 32 y2.2.2.2.2.2.2.2.2.2.2.2.2.2.2.2.1) 33 y2.2.2.2.2.2.2.2.2.2.2.2.2.2.2.2.2)) (zself_i (zr_n rfl (zr_n rfl (zr_n rfl (zr_n rfl (zr_n rfl (zr_n rfl (zr_n rfl (zr_n rfl (zr_n rfl (zr_n rfl (zr_n rfl (zr_n rfl (zr_n rfl (zr_n rfl (zr_n rfl (zr_n rfl (zr_n rfl (zr_n rfl (zr_n rfl (zr_l (zr_l (zr_l (zr_l (zr_l e_i16)))))))))))))))))))))))) (zm_n rfl (zm_n rfl (zm_n rfl (zm_n rfl (zm_n rfl (zm_n rfl (zm_n rfl (zm_n rfl (zm_n rfl rfl)))))))))) ?_
    refine zj_mem (N := (zui (zui (zui (zui (zui (zui (zui (zui (zui (zui (zui (zui (zui (zui (zui (zui (zui (zui (zui (zui (zui (zul (zul (zul (zul (zul M 3 y2.2.2.2.2.2.2.2.1) 6 w0_2_0) 7 w0_2_1) 11 y2.2.2.1) 12 y2.2.2.2.1) 0 r0v4) 1 y5) 3 y2.2.2.2.2.2.2.1) 5 r0_2) 8 r0_2_2) 9 r0_2_3) 10 y2.2.1) 13 y2.2.2.2.2.1) 14 y2.2.2.2.2.2.1) 15 r0_4) 16 r0_4_0) 17 r0_4_1) 25 y2.2.2.2.2.2.2.2.2.1) 26 y2.2.2.2.2.2.2.2.2.2.1) 27 y2.2.2.2.2.2.2.2.2.2.2.1) 28 y2.2.2.2.2.2.2.2.2.2.2.2.1) 29 y2.2.2.2.2.2.2.2.2.2.2.2.2.1) 30 y2.2.2.2.2.2.2.2.2.2.2.2.2.2.1) 31 y2.2.2.2.2.2.2.2.2.2.2.2.2.2.2.1) 32 y2.2.2.2.2.2.2.2.2.2.2.2.2.2.2.2.1) 33 y2.2.2.2.2.2.2.2.2.2.2.2.2.2.2.2.2)) (zself_i (zr_n rfl (zr_n rfl (zr_n rfl (zr_n rfl (zr_n rfl (zr_n rfl (zr_n rfl (zr_n rfl (zr_n rfl (zr_n rfl (zr_n rfl (zr_n rfl (zr_n rfl (zr_n rfl (zr_n rfl (zr_n rfl (zr_n rfl (zr_n rfl (zr_n rfl (zr_n rfl (zr_l (zr_l (zr_l (zr_l (zr_l e_i17))))))))))))))))))))))))) (zm_n rfl (zm_n rfl (zm_n rfl (zm_n rfl (zm_n rfl (zm_n rfl (zm_n rfl (zm_n rfl (zm_n rfl rfl)))))))))) ?_
    refine zj_mem (N := (zui (zui (zui (zui (zui (zui (zui (zui (zui (zui (zui (zui (zui (zui (zui (zui (zui (zui (zui (zui (zui (zui (zul (zul (zul (zul (zul M 3 y2.2.2.2.2.2.2.2.1) 6 w0_2_0) 7 w0_2_1) 11 y2.2.2.1) 12 y2.2.2.2.1) 0 r0v4) 1 y5) 3 y2.2.2.2.2.2.2.1) 5 r0_2) 8 r0_2_2) 9 r0_2_3) 10 y2.2.1) 13 y2.2.2.2.2.1) 14 y2.2.2.2.2.2.1) 15 r0_4) 16 r0_4_0) 17 r0_4_1) 18 r0_4_2) 25 y2.2.2.2.2.2.2.2.2.1) 26 y2.2.2.2.2.2.2.2.2.2.1) 27 y2.2.2.2.2.2.2.2.2.2.2.1) 28 y2.2.2.2.2.2.2.2.2.2.2.2.1) 29 y2.2.2.2.2.2.2.2.2.2.2.2.2.1) 30 y2.2.2.2.2.2.2.2.2.2.2.2.2.2.1) 31 y2.2.2.2.2.2.2.2.2.2.2.2.2.2.2.1) 32 y2.2.2.2.2.2.2.2.2.2.2.2.2.2.2.2.1) 33 y2.2.2.2.2.2.2.2.2.2.2.2.2.2.2.2.2)) (zself_i (zr_n rfl (zr_n rfl (zr_n rfl (zr_n rfl (zr_n rfl (zr_n rfl (zr_n rfl (zr_n rfl (zr_n rfl (zr_n rfl (zr_n rfl (zr_n rfl (zr_n rfl (zr_n rfl (zr_n rfl (zr_n rfl (zr_n rfl (zr_n rfl (zr_n rfl (zr_n rfl (zr_n rfl (zr_l (zr_l (zr_l (zr_l (zr_l e_i18)))))))))))))))))))))))))) (zm_n rfl (zm_n rfl (zm_n rfl (zm_n rfl (zm_n rfl (zm_n rfl (zm_n rfl (zm_n rfl (zm_n rfl rfl)))))))))) ?_
    refine zj_mem (N := (zui (zui (zui (zui (zui (zui (zui (zui (zui (zui (zui (zui (zui (zui (zui (zui (zui (zui (zui (zui (zui (zui (zui (zul (zul (zul (zul (zul M 3 y2.2.2.2.2.2.2.2.1) 6 w0_2_0) 7 w0_2_1) 11 y2.2.2.1) 12 y2.2.2.2.1) 0 r0v4) 1 y5) 3 y2.2.2.2.2.2.2.1) 5 r0_2) 8 r0_2_2) 9 r0_2_3) 10 y2.2.1) 13 y2.2.2.2.2.1) 14 y2.2.2.2.2.2.1) 15 r0_4) 16 r0_4_0) 17 r0_4_1) 18 r0_4_2) 19 r0_4_3) 25 y2.2.2.2.2.2.2.2.2.1) 26 y2.2.2.2.2.2.2.2.2.2.1) 27 y2.2.2.2.2.2.2.2.2.2.2.1) 28 y2.2.2.2.2.2.2.2.2.2.2.2.1) 29 y2.2.2.2.2.2.2.2.2.2.2.2.2.1) 30 y2.2.2.2.2.2.2.2.2.2.2.2.2.2.1) 31 y2.2.2.2.2.2.2.2.2.2.2.2.2.2.2.1) 32 y2.2.2.2.2.2.2.2.2.2.2.2.2.2.2.2.1) 33 y2.2.2.2.2.2.2.2.2.2.2.2.2.2.2.2.2)) (zself_i (zr_n rfl (zr_n rfl (zr_n rfl (zr_n rfl (zr_n rfl (zr_n rfl (zr_n rfl (zr_n rfl (zr_n rfl (zr_n rfl (zr_n rfl (zr_n rfl (zr_n rfl (zr_n rfl (zr_n rfl (zr_n rfl (zr_n rfl (zr_n rfl (zr_n rfl (zr_n rfl (zr_n rfl (zr_n rfl (zr_l (zr_l (zr_l (zr_l (zr_l e_i19))))))))))))))))))))))))))) (zm_n rfl (zm_n rfl (zm_n rfl (zm_n rfl (zm_n rfl (zm_n rfl (zm_n rfl (zm_n rfl (zm_n rfl rfl)))))))))) ?_
    refine zj_mem (N := (zui (zui (zui (zui (zui (zui (zui (zui (zui (zui (zui (zui (zui (zui (zui (zui (zui (zui (zui (zui (zui (zui (zui (zui (zul (zul (zul (zul (zul M 3 y2.2.2.2.2.2.2.2.1) 6 w0_2_0) 7 w0_2_1) 11 y2.2.2.1) 12 y2.2.2.2.1) 0 r0v4) 1 y5) 3 y2.2.2.2.2.2.2.1) 5 r0_2) 8 r0_2_2) 9 r0_2_3) 10 y2.2.1) 13 y2.2.2.2.2.1) 14 y2.2.2.2.2.2.1) 15 r0_4) 16 r0_4_0) 17 r0_4_1) 18 r0_4_2) 19 r0_4_3) 20 r0_4_4) 25 y2.2.2.2.2.2.2.2.2.1) 26 y2.2.2.2.2.2.2.2.2.2.1) 27 y2.2.2.2.2.2.2.2.2.2.2.1) 28 y2.2.2.2.2.2.2.2.2.2.2.2.1) 29 y2.2.2.2.2.2.2.2.2.2.2.2.2.1) 30 y2.2.2.2.2.2.2.2.2.2.2.2.2.2.1) 31 y2.2.2.2.2.2.2.2.2.2.2.2.2.2.2.1) 32 y2.2.2.2.2.2.2.2.2.2.2.2.2.2.2.2.1) 33 y2.2.2.2.2.2.2.2.2.2.2.2.2.2.2.2.2)) (zself_i (zr_n rfl (zr_n rfl (zr_n rfl (zr_n rfl (zr_n rfl (zr_n rfl (zr_n rfl (zr_n rfl (zr_n rfl (zr_n rfl (zr_n rfl (zr_n rfl (zr_n rfl (zr_n rfl (zr_n rfl (zr_n rfl (zr_n rfl (zr_n rfl (zr_n rfl (zr_n rfl (zr_n rfl (zr_n rfl (zr_n rfl (zr_l (zr_l (zr_l (zr_l (zr_l e_i20)))))))))))))))))))))))))))) (zm_n rfl (zm_n rfl (zm_n rfl (zm_n rfl (zm_n rfl (zm_n rfl (zm_n rfl (zm_n rfl (zm_n rfl rfl)))))))))) ?_
    refine zj_mem (N := (zui (zui (zui (zui (zui (zui (zui (zui (zui (zui (zui (zui (zui (zui (zui (zui (zui (zui (zui (zui (zui (zui (zui (zui (zui (zul (zul (zul (zul (zul M 3 y2.2.2.2.2.2.2.2.1) 6 w0_2_0) 7 w0_2_1) 11 y2.2.2.1) 12 y2.2.2.2.1) 0 r0v4) 1 y5) 3 y2.2.2.2.2.2.2.1) 5 r0_2) 8 r0_2_2) 9 r0_2_3) 10 y2.2.1) 13 y2.2.2.2.2.1) 14 y2.2.2.2.2.2.1) 15 r0_4) 16 r0_4_0) 17 r0_4_1) 18 r0_4_2) 19 r0_4_3) 20 r0_4_4) 21 r0_4_5) 25 y2.2.2.2.2.2.2.2.2.1) 26 y2.2.2.2.2.2.2.2.2.2.1) 27 y2.2.2.2.2.2.2.2.2.2.2.1) 28 y2.2.2.2.2.2.2.2.2.2.2.2.1) 29 y2.2.2.2.2.2.2.2.2.2.2.2.2.1) 30 y2.2.2.2.2.2.2.2.2.2.2.2.2.2.1) 31 y2.2.2.2.2.2.2.2.2.2.2.2.2.2.2.1) 32 y2.2.2.2.2.2.2.2.2.2.2.2.2.2.2.2.1) 33 y2.2.2.2.2.2.2.2.2.2.2.2.2.2.2.2.2)) (zself_i (zr_n rfl (zr_n rfl (zr_n rfl (zr_n rfl (zr_n rfl (zr_n rfl (zr_n rfl (zr_n rfl (zr_n rfl (zr_n rfl (zr_n rfl (zr_n rfl (zr_n rfl (zr_n rfl (zr_n rfl (zr_n rfl (zr_n rfl (zr_n rfl (zr_n rfl (zr_n rfl (zr_n rfl (zr_n rfl (zr_n rfl (zr_n rfl (zr_l (zr_l (zr_l (zr_l (zr_l e_i21))))))))))))))))))))))))))))) (zm_n rfl (zm_n rfl (zm_n rfl (zm_n rfl (zm_n rfl (zm_n rfl (zm_n rfl (zm_n rfl (zm_n rfl rfl)))))))))) ?_
    refine zj_mem (N := (zui (zui (zui (zui (zui (zui (zui (zui (zui (zui (zui (zui (zui (zui (zui (zui (zui (zui (zui (zui (zui (zui (zui (zui (zui (zui (zul (zul (zul (zul (zul M 3 y2.2.2.2.2.2.2.2.1) 6 w0_2_0) 7 w0_2_1) 11 y2.2.2.1) 12 y2.2.2.2.1) 0 r0v4) 1 y5) 3 y2.2.2.2.2.2.2.1) 5 r0_2) 8 r0_2_2) 9 r0_2_3) 10 y2.2.1) 13 y2.2.2.2.2.1) 14 y2.2.2.2.2.2.1) 15 r0_4) 16 r0_4_0) 17 r0_4_1) 18 r0_4_2) 19 r0_4_3) 20 r0_4_4) 21 r0_4_5) 22 r0_4_6) 25 y2.2.2.2.2.2.2.2.2.1) 26 y2.2.2.2.2.2.2.2.2.2.1) 27 y2.2.2.2.2.2.2.2.2.2.2.1) 28 y2.2.2.2.2.2.2.2.2.2.2.2.1) 29 y2.2.2.2.2.2.2.2.2.2.2.2.2.1) 30 y2.2.2.2.2.2.2.2.2.2.2.2.2.2.1) 31 y2.2.2.2.2.2.2.2.2.2.2.2.2.2.2.1) 32 y2.2.2.2.2.2.2.2.2.2.2.2.2.2.2.2.1) 33 y2.2.2.2.2.2.2.2.2.2.2.2.2.2.2.2.2)) (zself_i (zr_n rfl (zr_n rfl (zr_n rfl (zr_n rfl (zr_n rfl (zr_n rfl (zr_n rfl (zr_n rfl (zr_n rfl (zr_n rfl (zr_n rfl (zr_n rfl (zr_n rfl (zr_n rfl (zr_n rfl (zr_n rfl (zr_n rfl (zr_n rfl (zr_n rfl (zr_n rfl (zr_n rfl (zr_n rfl (zr_n rfl (zr_n rfl (zr_n rfl (zr_l (zr_l (zr_l (zr_l (zr_l e_i22)))))))))))))))))))))))))))))) (zm_n rfl (zm_n rfl (zm_n rfl (zm_n rfl (zm_n rfl (zm_n rfl (zm_n rfl (zm_n rfl (zm_n rfl rfl)))))))))) ?_
    refine zj_mem (N := (zui (zui (zui (zui (zui (zui (zui (zui (zui (zui (zui (zui (zui (zui (zui (zui (zui (zui (zui (zui (zui (zui (zui (zui (zui (zui (zui (zul (zul (zul (zul (zul M 3 y2.2.2.2.2.2.2.2.1) 6 w0_2_0) 7 w0_2_1) 11 y2.2.2.1) 12 y2.2.2.2.1) 0 r0v4) 1 y5) 3 y2.2.2.2.2.2.2.1) 5 r0_2) 8 r0_2_2) 9 r0_2_3) 10 y2.2.1) 13 y2.2.2.2.2.1) 14 y2.2.2.2.2.2.1) 15 r0_4) 16 r0_4_0) 17 r0_4_1) 18 r0_4_2) 19 r0_4_3) 20 r0_4_4) 21 r0_4_5) 22 r0_4_6) 23 r0_4_7) 25 y2.2.2.2.2.2.2.2.2.1) 26 y2.2.2.2.2.2.2.2.2.2.1) 27 y2.2.2.2.2.2.2.2.2.2.2.1) 28 y2.2.2.2.2.2.2.2.2.2.2.2.1) 29 y2.2.2.2.2.2.2.2.2.2.2.2.2.1) 30 y2.2.2.2.2.2.2.2.2.2.2.2.2.2.1) 31 y2.2.2.2.2.2.2.2.2.2.2.2.2.2.2.1) 32 y2.2.2.2.2.2.2.2.2.2.2.2.2.2.2.2.1) 33 y2.2.2.2.2.2.2.2.2.2.2.2.2.2.2.2.2)) (zself_i (zr_n rfl (zr_n rfl (zr_n rfl (zr_n rfl (zr_n rfl (zr_n rfl (zr_n rfl (zr_n rfl (zr_n rfl (zr_n rfl (zr_n rfl (zr_n rfl (zr_n rfl (zr_n rfl (zr_n rfl (zr_n rfl (zr_n rfl (zr_n rfl (zr_n rfl (zr_n rfl (zr_n rfl (zr_n rfl (zr_n rfl (zr_n rfl (zr_n rfl (zr_n rfl (zr_l (zr_l (zr_l (zr_l (zr_l e_i23))))))))))))))))))))))))))))))) (zm_n rfl (zm_n rfl (zm_n rfl (zm_n rfl (zm_n rfl (zm_n rfl (zm_n rfl (zm_n rfl (zm_n rfl rfl)))))))))) ?_
    refine zj_mem (N := (zui (zui (zui (zui (zui (zui (zui (zui (zui (zui (zui (zui (zui (zui (zui (zui (zui (zui (zui (zui (zui (zui (zui (zui (zui (zui (zui (zui (zul (zul (zul (zul (zul M 3 y2.2.2.2.2.2.2.2.1) 6 w0_2_0) 7 w0_2_1) 11 y2.2.2.1) 12 y2.2.2.2.1) 0 r0v4) 1 y5) 3 y2.2.2.2.2.2.2.1) 5 r0_2) 8 r0_2_2) 9 r0_2_3) 10 y2.2.1) 13 y2.2.2.2.2.1) 14 y2.2.2.2.2.2.1) 15 r0_4) 16 r0_4_0) 17 r0_4_1) 18 r0_4_2) 19 r0_4_3) 20 r0_4_4) 21 r0_4_5) 22 r0_4_6) 23 r0_4_7) 25 y2.2.2.2.2.2.2.2.2.1) 26 y2.2.2.2.2.2.2.2.2.2.1) 27 y2.2.2.2.2.2.2.2.2.2.2.1) 28 y2.2.2.2.2.2.2.2.2.2.2.2.1) 29 y2.2.2.2.2.2.2.2.2.2.2.2.2.1) 30 y2.2.2.2.2.2.2.2.2.2.2.2.2.2.1) 31 y2.2.2.2.2.2.2.2.2.2.2.2.2.2.2.1) 32 y2.2.2.2.2.2.2.2.2.2.2.2.2.2.2.2.1) 33 y2.2.2.2.2.2.2.2.2.2.2.2.2.2.2.2.2) 35 r0_6)) (zself_i (zr_n rfl (zr_n rfl (zr_n rfl (zr_n rfl (zr_n rfl (zr_n rfl (zr_n rfl (zr_n rfl (zr_n rfl (zr_n rfl (zr_n rfl (zr_n rfl (zr_n rfl (zr_n rfl (zr_n rfl (zr_n rfl (zr_n rfl (zr_n rfl (zr_n rfl (zr_n rfl (zr_n rfl (zr_n rfl (zr_n rfl (zr_n rfl (zr_n rfl (zr_n rfl (zr_n rfl (zr_l (zr_l (zr_l (zr_l (zr_l e_i35)))))))))))))))))))))))))))))))) rfl) ?_
    refine zj_mem (N := (zui (zui (zui (zui (zui (zui (zui (zui (zui (zui (zui (zui (zui (zui (zui (zui (zui (zui (zui (zui (zui (zui (zui (zui (zui (zui (zui (zui (zui (zul (zul (zul (zul (zul M 3 y2.2.2.2.2.2.2.2.1) 6 w0_2_0) 7 w0_2_1) 11 y2.2.2.1) 12 y2.2.2.2.1) 0 r0v4) 1 y5) 3 y2.2.2.2.2.2.2.1) 5 r0_2) 8 r0_2_2) 9 r0_2_3) 10 y2.2.1) 13 y2.2.2.2.2.1) 14 y2.2.2.2.2.2.1) 15 r0_4) 16 r0_4_0) 17 r0_4_1) 18 r0_4_2) 19 r0_4_3) 20 r0_4_4) 21 r0_4_5) 22 r0_4_6) 23 r0_4_7) 25 y2.2.2.2.2.2.2.2.2.1) 26 y2.2.2.2.2.2.2.2.2.2.1) 27 y2.2.2.2.2.2.2.2.2.2.2.1) 28 y2.2.2.2.2.2.2.2.2.2.2.2.1) 29 y2.2.2.2.2.2.2.2.2.2.2.2.2.1) 30 y2.2.2.2.2.2.2.2.2.2.2.2.2.2.1) 31 y2.2.2.2.2.2.2.2.2.2.2.2.2.2.2.1) 32 y2.2.2.2.2.2.2.2.2.2.2.2.2.2.2.2.1) 33 y2.2.2.2.2.2.2.2.2.2.2.2.2.2.2.2.2) 35 r0_6) 47 r0_8)) (zself_i (zr_n rfl (zr_n rfl (zr_n rfl (zr_n rfl (zr_n rfl (zr_n rfl (zr_n rfl (zr_n rfl (zr_n rfl (zr_n rfl (zr_n rfl (zr_n rfl (zr_n rfl (zr_n rfl (zr_n rfl (zr_n rfl (zr_n rfl (zr_n rfl (zr_n rfl (zr_n rfl (zr_n rfl (zr_n rfl (zr_n rfl (zr_n rfl (zr_n rfl (zr_n rfl (zr_n rfl (zr_n rfl (zr_l (zr_l (zr_l (zr_l (zr_l e_i47))))))))))))))))))))))))))))))))) rfl) ?_
    exact zj_iret dX11_town_60 rfl hq
set_option maxRecDepth 20000 in
theorem LX11_town_0 (Γ : zG) (M : zM) (r0 : Nat → Int32) (r0_0 : Nat → Int32) (r0_0_0 : Nat → Int32) (r0_1 : Nat → Int32) (w0_1 : Nat → Int64) (w0_1_1 : Nat → Int64) (r0_2 : Nat → Int32) (w0_2_0 : Nat → Int64) (w0_2_1 : Nat → Int64) (r0_2_2 : Nat → Int32) (r0_2_3 : Nat → Int32) (r0_3 : Nat → Int32) (w0_3_0 : Nat → Int64) (w0_3_1 : Nat → Int64) (r0_3_2 : Nat → Int32) (r0_3_3 : Nat → Int32) (r0_4 : Nat → Int32) (r0_4_0 : Nat → Int32) (r0_4_1 : Nat → Int32) (r0_4_2 : Nat → Int32) (r0_4_3 : Nat → Int32) (r0_4_4 : Nat → Int32) (r0_4_5 : Nat → Int32) (r0_4_6 : Nat → Int32) (r0_4_7 : Nat → Int32) (r0_5 : Nat → Int32) (r0_5_0 : Nat → Int32) (r0_5_1 : Nat → Int32) (r0_5_2 : Nat → Int32) (r0_5_3 : Nat → Int32) (r0_5_4 : Nat → Int32) (r0_5_5 : Nat → Int32) (r0_5_6 : Nat → Int32) (r0_5_7 : Nat → Int32) (r0_6 : Nat → Int32) (r0_8 : Nat → Int32) (e_i0 : M.1 0 = r0) (e_i1 : M.1 1 = r0_0) (e_i2 : M.1 2 = r0_0_0) (e_i3 : M.1 3 = r0_1) (e_l3 : M.2 3 = w0_1) (e_l4 : M.2 4 = w0_1_1) (e_i5 : M.1 5 = r0_2) (e_l6 : M.2 6 = w0_2_0) (e_l7 : M.2 7 = w0_2_1) (e_i8 : M.1 8 = r0_2_2) (e_i9 : M.1 9 = r0_2_3) (e_i10 : M.1 10 = r0_3) (e_l11 : M.2 11 = w0_3_0) (e_l12 : M.2 12 = w0_3_1) (e_i13 : M.1 13 = r0_3_2) (e_i14 : M.1 14 = r0_3_3) (e_i15 : M.1 15 = r0_4) (e_i16 : M.1 16 = r0_4_0) (e_i17 : M.1 17 = r0_4_1) (e_i18 : M.1 18 = r0_4_2) (e_i19 : M.1 19 = r0_4_3) (e_i20 : M.1 20 = r0_4_4) (e_i21 : M.1 21 = r0_4_5) (e_i22 : M.1 22 = r0_4_6) (e_i23 : M.1 23 = r0_4_7) (e_i25 : M.1 25 = r0_5) (e_i26 : M.1 26 = r0_5_0) (e_i27 : M.1 27 = r0_5_1) (e_i28 : M.1 28 = r0_5_2) (e_i29 : M.1 29 = r0_5_3) (e_i30 : M.1 30 = r0_5_4) (e_i31 : M.1 31 = r0_5_5) (e_i32 : M.1 32 = r0_5_6) (e_i33 : M.1 33 = r0_5_7) (e_i35 : M.1 35 = r0_6) (e_i47 : M.1 47 = r0_8)  {res : Int32 × (Nat → Int32) × (Nat → Int32) × (Nat → Int32) × (Nat → Int64) × (Nat → Int32) × (Nat → Int64) × (Nat → Int64) × (Nat → Int32) × (Nat → Int32) × (Nat → Int32) × (Nat → Int64) × (Nat → Int64) × (Nat → Int32) × (Nat → Int32) × (Nat → Int32) × (Nat → Int32) × (Nat → Int32) × (Nat → Int32) × (Nat → Int32) × (Nat → Int32) × (Nat → Int32) × (Nat → Int32) × (Nat → Int32) × (Nat → Int32) × (Nat → Int32) × (Nat → Int32) × (Nat → Int32) × (Nat → Int32) × (Nat → Int32) × (Nat → Int32) × (Nat → Int32) × (Nat → Int32) × (Nat → Int32) × (Nat → Int32)} (hy : (fX_town r0 r0_0 r0_0_0 r0_1 w0_1 w0_1_1 r0_2 w0_2_0 w0_2_1 r0_2_2 r0_2_3 r0_3 w0_3_0 w0_3_1 r0_3_2 r0_3_3 r0_4 r0_4_0 r0_4_1 r0_4_2 r0_4_3 r0_4_4 r0_4_5 r0_4_6 r0_4_7 r0_5 r0_5_0 r0_5_1 r0_5_2 r0_5_3 r0_5_4 r0_5_5 r0_5_6 r0_5_7 r0_6 r0_8) = some res) : zK Γ 8 YX11_town [.ref (zad Γ 0)] M (fun v N => v = some (.int res.1) ∧ N = (zui (zui (zui (zui (zui (zui (zui (zui (zui (zui (zui (zui (zui (zui (zui (zui (zui (zui (zui (zui (zui (zui (zui (zui (zui (zui (zui (zui (zui (zul (zul (zul (zul (zul M 3 res.2.2.2.2.1) 6 res.2.2.2.2.2.2.1) 7 res.2.2.2.2.2.2.2.1) 11 res.2.2.2.2.2.2.2.2.2.2.2.1) 12 res.2.2.2.2.2.2.2.2.2.2.2.2.1) 0 res.2.1) 1 res.2.2.1) 3 res.2.2.2.1) 5 res.2.2.2.2.2.1) 8 res.2.2.2.2.2.2.2.2.1) 9 res.2.2.2.2.2.2.2.2.2.1) 10 res.2.2.2.2.2.2.2.2.2.2.1) 13 res.2.2.2.2.2.2.2.2.2.2.2.2.2.1) 14 res.2.2.2.2.2.2.2.2.2.2.2.2.2.2.1) 15 res.2.2.2.2.2.2.2.2.2.2.2.2.2.2.2.1) 16 res.2.2.2.2.2.2.2.2.2.2.2.2.2.2.2.2.1) 17 res.2.2.2.2.2.2.2.2.2.2.2.2.2.2.2.2.2.1) 18 res.2.2.2.2.2.2.2.2.2.2.2.2.2.2.2.2.2.2.1) 19 res.2.2.2.2.2.2.2.2.2.2.2.2.2.2.2.2.2.2.2.1) 20 res.2.2.2.2.2.2.2.2.2.2.2.2.2.2.2.2.2.2.2.2.1) 21 res.2.2.2.2.2.2.2.2.2.2.2.2.2.2.2.2.2.2.2.2.2.1) 22 res.2.2.2.2.2.2.2.2.2.2.2.2.2.2.2.2.2.2.2.2.2.2.1) 23 res.2.2.2.2.2.2.2.2.2.2.2.2.2.2.2.2.2.2.2.2.2.2.2.1) 25 res.2.2.2.2.2.2.2.2.2.2.2.2.2.2.2.2.2.2.2.2.2.2.2.2.1) 26 res.2.2.2.2.2.2.2.2.2.2.2.2.2.2.2.2.2.2.2.2.2.2.2.2.2.1) 27 res.2.2.2.2.2.2.2.2.2.2.2.2.2.2.2.2.2.2.2.2.2.2.2.2.2.2.1) 28 res.2.2.2.2.2.2.2.2.2.2.2.2.2.2.2.2.2.2.2.2.2.2.2.2.2.2.2.1) 29 res.2.2.2.2.2.2.2.2.2.2.2.2.2.2.2.2.2.2.2.2.2.2.2.2.2.2.2.2.1) 30 res.2.2.2.2.2.2.2.2.2.2.2.2.2.2.2.2.2.2.2.2.2.2.2.2.2.2.2.2.2.1) 31 res.2.2.2.2.2.2.2.2.2.2.2.2.2.2.2.2.2.2.2.2.2.2.2.2.2.2.2.2.2.2.1) 32 res.2.2.2.2.2.2.2.2.2.2.2.2.2.2.2.2.2.2.2.2.2.2.2.2.2.2.2.2.2.2.2.1) 33 res.2.2.2.2.2.2.2.2.2.2.2.2.2.2.2.2.2.2.2.2.2.2.2.2.2.2.2.2.2.2.2.2.1) 35 res.2.2.2.2.2.2.2.2.2.2.2.2.2.2.2.2.2.2.2.2.2.2.2.2.2.2.2.2.2.2.2.2.2.1) 47 res.2.2.2.2.2.2.2.2.2.2.2.2.2.2.2.2.2.2.2.2.2.2.2.2.2.2.2.2.2.2.2.2.2.2)) :=
  zK_of (by decide) (Nat.le_of_ble_eq_true rfl) (TX11_town_0 Γ M r0 r0_0 r0_0_0 r0_1 w0_1 w0_1_1 r0_2 w0_2_0 w0_2_1 r0_2_2 r0_2_3 r0_3 w0_3_0 w0_3_1 r0_3_2 r0_3_3 r0_4 r0_4_0 r0_4_1 r0_4_2 r0_4_3 r0_4_4 r0_4_5 r0_4_6 r0_4_7 r0_5 r0_5_0 r0_5_1 r0_5_2 r0_5_3 r0_5_4 r0_5_5 r0_5_6 r0_5_7 r0_6 r0_8 e_i0 e_i1 e_i2 e_i3 e_l3 e_l4 e_i5 e_l6 e_l7 e_i8 e_i9 e_i10 e_l11 e_l12 e_i13 e_i14 e_i15 e_i16 e_i17 e_i18 e_i19 e_i20 e_i21 e_i22 e_i23 e_i25 e_i26 e_i27 e_i28 e_i29 e_i30 e_i31 e_i32 e_i33 e_i35 e_i47 hy ⟨rfl, rfl⟩)

noncomputable def fM_taken (r0 : Nat → Int32) (a1 : Int32) : Option ((Nat → Int32)) :=
  zlet (zup r0 3 (r0 2)) (fun (r0v1 : Nat → Int32) =>
  zlet (zup r0v1 2 0) (fun (r0v2 : Nat → Int32) =>
  zlet (zup r0v2 4 0) (fun (r0v3 : Nat → Int32) =>
  zlet (zup r0v3 5 a1) (fun (r0v4 : Nat → Int32) =>
  some r0v4))))

set_option maxRecDepth 20000 in
theorem TX12_taken_186 (Γ : zG) {Q : Option Value → zM → Prop} (M : zM) (r0 : Nat → Int32) (e_i186 : M.1 186 = r0) (a1 : Int32) {res : (Nat → Int32)} (hy : (fM_taken r0 a1) = some res) (hq : Q none (zui M 186 res)) : zR Γ 1 YX12_taken 0 [(0, .ref (zad Γ 186)), (1, .int a1)] [] M Q := by
  unfold fM_taken at hy
  refine zj_aload_n (pc' := 1) 0 dX12_taken_0 rfl rfl rfl ?_
  refine zj_aload_n (pc' := 2) 0 dX12_taken_1 rfl rfl rfl ?_
  refine zj_fI (pc' := 5) dX12_taken_2 rfl flX12_7 sh186 rfl e_i186 rfl ?_
  obtain ⟨r0v1, er0v1⟩ : ∃ z, z = (zup r0 3 (r0 2)) := ⟨_, rfl⟩
  have hy := zlet_at er0v1 hy
  refine zj_pI (pc' := 8) (N := (zui M 186 r0v1)) dX12_taken_5 rfl fpX12_18 sh186 rfl e_i186 er0v1 rfl ?_
  refine zj_aload_n (pc' := 9) 0 dX12_taken_8 rfl rfl rfl ?_
  refine zj_iconst (pc' := 10) dX12_taken_9 rfl kiconst_0 ?_
  obtain ⟨r0v2, er0v2⟩ : ∃ z, z = (zup r0v1 2 0) := ⟨_, rfl⟩
  have hy := zlet_at er0v2 hy
  refine zj_pI (pc' := 13) (N := (zui M 186 r0v2)) dX12_taken_10 rfl fpX12_7 sh186 rfl zr_s er0v2 zm_s ?_
  refine zj_aload_n (pc' := 14) 0 dX12_taken_13 rfl rfl rfl ?_
  refine zj_iconst (pc' := 15) dX12_taken_14 rfl kiconst_0 ?_
  obtain ⟨r0v3, er0v3⟩ : ∃ z, z = (zup r0v2 4 0) := ⟨_, rfl⟩
  have hy := zlet_at er0v3 hy
  refine zj_pI (pc' := 18) (N := (zui M 186 r0v3)) dX12_taken_15 rfl fpX12_21 sh186 rfl zr_s er0v3 zm_s ?_
  refine zj_aload_n (pc' := 19) 0 dX12_taken_18 rfl rfl rfl ?_
  refine zj_iload_n (pc' := 20) 1 dX12_taken_19 rfl rfl rfl ?_
  obtain ⟨r0v4, er0v4⟩ : ∃ z, z = (zup r0v3 5 a1) := ⟨_, rfl⟩
  have hy := zlet_at er0v4 hy
  refine zj_pI (pc' := 23) (N := (zui M 186 r0v4)) dX12_taken_20 rfl fpX12_24 sh186 rfl zr_s er0v4 zm_s ?_
  have e9 := Option.some.inj hy
  subst e9
  exact zj_vret dX12_taken_23 rfl hq
set_option maxRecDepth 20000 in
theorem LX12_taken_186 (Γ : zG) (M : zM) (r0 : Nat → Int32) (e_i186 : M.1 186 = r0) (a1 : Int32) {res : (Nat → Int32)} (hy : (fM_taken r0 a1) = some res) : zK Γ 1 YX12_taken [.ref (zad Γ 186), .int a1] M (fun v N => v = none ∧ N = (zui M 186 res)) :=
  zK_of (by decide) (Nat.le_of_ble_eq_true rfl) (TX12_taken_186 Γ M r0 e_i186 a1 hy ⟨rfl, rfl⟩)

noncomputable def fM_clears_L2 (r0_7v1 : Nat → Int32) (x2 : Int32) : Option (((Nat → Int32) × Int32) ⊕ ((Nat → Int32))) :=
  (if 89 ≤ x2 then
  some (.inr r0_7v1)
  else
  (zwr r0_7v1 89 x2 0).bind (fun (r0_7v11 : Nat → Int32) =>
  zlet (x2 + 1) (fun (x12 : Int32) =>
  some (.inl (r0_7v11, x12)))))
noncomputable def fM_clears (r0_7 : Nat → Int32) : Option ((Nat → Int32)) :=
  (zLP (fun s => fM_clears_L2 s.1 s.2) (r0_7, 0)).bind (fun r5 =>
  some r5)

set_option maxRecDepth 20000 in
theorem TX12_clears_186 (Γ : zG) {Q : Option Value → zM → Prop} (M : zM) (r0_7 : Nat → Int32) (e_i189 : M.1 189 = r0_7)  {res : (Nat → Int32)} (hy : (fM_clears r0_7) = some res) (hq : Q none (zui M 189 res)) : zR Γ 1 YX12_clears 0 [(0, .ref (zad Γ 186))] [] M Q := by
  unfold fM_clears at hy
  refine zj_iconst (pc' := 1) dX12_clears_0 rfl kiconst_0 ?_
  refine zj_istore_n (pc' := 2) (L' := [(1, .int 0), (0, .ref (zad Γ 186))]) dX12_clears_1 rfl rfl (by decide) rfl ?_
  refine zj_loc [1, 0] rfl ?_
  refine zj_mem (N := (zui M 189 r0_7)) (zself_i e_i189 rfl) ?_
  obtain ⟨r5, hr9, hyo6⟩ := zt_b hy
  obtain ⟨n9, hn9⟩ := zLP_some hr9
  have HE3 : ∀ (r0_7v13 : Nat → Int32), r5 = r0_7v13 → zR Γ 1 YX12_clears 21 [] [] (zui M 189 r0_7v13) Q := by
    intro r0_7v13 e9
    have hy := hyo6
    try rw [e9] at hy
    try dsimp only at hy
    have e9 := Option.some.inj hy
    subst e9
    exact zj_vret dX12_clears_21 rfl hq
  have HL4 : ∀ (n : Nat) (r0_7v1 : Nat → Int32) (x2 : Int32), zlp (fun s => fM_clears_L2 s.1 s.2) n (r0_7v1, x2) = some r5 → zR Γ 1 YX12_clears 2 [(0, .ref (zad Γ 186)), (1, .int x2)] [] (zui M 189 r0_7v1) Q := by
    intro n
    induction n with
    | zero => intro r0_7v1 x2 hn9; cases hn9
    | succ n ih7 =>
      intro r0_7v1 x2 hn9
      obtain ⟨o9, hb9, h8, h9⟩ := zlp_step hn9
      have hy : fM_clears_L2 r0_7v1 x2 = some o9 := hb9
      unfold fM_clears_L2 at hy
      refine zj_iload_n (pc' := 3) 1 dX12_clears_2 rfl rfl rfl ?_
      refine zj_bipush (pc' := 5) dX12_clears_3 rfl kbipush_89 ?_
      refine zj_icmp_ge (tgt := 21) (pc' := 8) dX12_clears_5 rfl (by decide) (fun c10 => ?_) (fun c10 => ?_)
      · have hy := zt_t hy c10
        have e9 := h9 _ (Option.some.inj hy).symm
        refine zj_loc [] rfl ?_
        exact HE3 _ e9.symm
      · have hy := zt_f hy c10
        refine zj_aload_n (pc' := 9) 0 dX12_clears_8 rfl rfl rfl ?_
        refine zj_getR (pc' := 12) (j := 189) dX12_clears_9 rfl flX12_37 sh186 rfl ?_
        refine zj_iload_n (pc' := 13) 1 dX12_clears_12 rfl rfl rfl ?_
        refine zj_iconst (pc' := 14) dX12_clears_13 rfl kiconst_0 ?_
        obtain ⟨r0_7v11, hr0_7v11, hy⟩ := zt_b hy
        refine zj_wri (pc' := 15) (N := (zui M 189 r0_7v11)) dX12_clears_14 rfl sh189 zr_s hr0_7v11 zm_s ?_
        obtain ⟨x12, ex12⟩ : ∃ z : Int32, z = (x2 + 1) := ⟨_, rfl⟩
        have hy := zlet_at ex12 hy
        refine zj_iinc (pc' := 18) 1 (L' := [(1, .int x12), (0, .ref (zad Γ 186))]) dX12_clears_15 rfl rfl (by decide) (by rw [ci1, ← ex12]; rfl) ?_
        refine zj_goto (tgt := 2) dX12_clears_18 (by decide) ?_
        have hn9 := h8 _ (Option.some.inj hy).symm
        refine zj_loc [1, 0] rfl ?_
        exact ih7 _ _ hn9
  exact HL4 n9 _ _ hn9
set_option maxRecDepth 20000 in
theorem LX12_clears_186 (Γ : zG) (M : zM) (r0_7 : Nat → Int32) (e_i189 : M.1 189 = r0_7)  {res : (Nat → Int32)} (hy : (fM_clears r0_7) = some res) : zK Γ 1 YX12_clears [.ref (zad Γ 186)] M (fun v N => v = none ∧ N = (zui M 189 res)) :=
  zK_of (by decide) (Nat.le_of_ble_eq_true rfl) (TX12_clears_186 Γ M r0_7 e_i189 hy ⟨rfl, rfl⟩)

noncomputable def fM_peek (r0 : Nat → Int32) (r0_1 : Nat → Int32) : Option (Int32) :=
  (if (r0 3) ≤ (r0 4) then
  some (-1)
  else
  (zrd r0_1 940 (r0 4)).bind (fun (v2 : Int32) =>
  some (v2 &&& 255)))

set_option maxRecDepth 20000 in
theorem TX12_peek_186 (Γ : zG) {Q : Option Value → zM → Prop} (M : zM) (r0 : Nat → Int32) (r0_1 : Nat → Int32) (e_i186 : M.1 186 = r0) (e_i187 : M.1 187 = r0_1)  {res : Int32} (hy : (fM_peek r0 r0_1) = some res) (hq : Q (some (.int res)) M) : zR Γ 1 YX12_peek 0 [(0, .ref (zad Γ 186))] [] M Q := by
  unfold fM_peek at hy
  refine zj_aload_n (pc' := 1) 0 dX12_peek_0 rfl rfl rfl ?_
  refine zj_fI (pc' := 4) dX12_peek_1 rfl flX12_21 sh186 rfl e_i186 rfl ?_
  refine zj_aload_n (pc' := 5) 0 dX12_peek_4 rfl rfl rfl ?_
  refine zj_fI (pc' := 8) dX12_peek_5 rfl flX12_18 sh186 rfl e_i186 rfl ?_
  refine zj_icmp_ge (tgt := 27) (pc' := 11) dX12_peek_8 rfl (by decide) (fun c1 => ?_) (fun c1 => ?_)
  · have hy := zt_t hy c1
    refine zj_iconst (pc' := 28) dX12_peek_27 rfl kiconst_m1 ?_
    have e9 := Option.some.inj hy
    subst e9
    exact zj_iret dX12_peek_28 rfl hq
  · have hy := zt_f hy c1
    refine zj_aload_n (pc' := 12) 0 dX12_peek_11 rfl rfl rfl ?_
    refine zj_getR (pc' := 15) (j := 187) dX12_peek_12 rfl flX12_14 sh186 rfl ?_
    refine zj_aload_n (pc' := 16) 0 dX12_peek_15 rfl rfl rfl ?_
    refine zj_fI (pc' := 19) dX12_peek_16 rfl flX12_21 sh186 rfl e_i186 rfl ?_
    obtain ⟨v2, hv2, hy⟩ := zt_b hy
    refine zj_rdb (pc' := 20) dX12_peek_19 rfl sh187 e_i187 hv2 ?_
    refine zj_sipush (pc' := 23) dX12_peek_20 rfl ksipush_255 ?_
    refine zj_iand (pc' := 24) dX12_peek_23 rfl ?_
    refine zj_goto (tgt := 28) dX12_peek_24 (by decide) ?_
    have e9 := Option.some.inj hy
    subst e9
    exact zj_iret dX12_peek_28 rfl hq
set_option maxRecDepth 20000 in
theorem LX12_peek_186 (Γ : zG) (M : zM) (r0 : Nat → Int32) (r0_1 : Nat → Int32) (e_i186 : M.1 186 = r0) (e_i187 : M.1 187 = r0_1)  {res : Int32} (hy : (fM_peek r0 r0_1) = some res) : zK Γ 1 YX12_peek [.ref (zad Γ 186)] M (fun v N => v = some (.int res) ∧ N = M) :=
  zK_of (by decide) (Nat.le_of_ble_eq_true rfl) (TX12_peek_186 Γ M r0 r0_1 e_i186 e_i187 hy ⟨rfl, rfl⟩)

noncomputable def fM_isSmall (a1 : Int32) : Bool :=
  (if a1 < 97 then false else (if 122 < a1 then false else true))

set_option maxRecDepth 20000 in
theorem TX12_isSmall (Γ : zG) {Q : Option Value → zM → Prop} (M : zM)   (a1 : Int32) {res : Bool} (hy : (fM_isSmall a1) = res) (hq : Q (some (.int (zb res))) M) : zR Γ 1 YX12_isSmall 0 [(0, .int a1)] [] M Q := by
  unfold fM_isSmall at hy
  refine zj_iload_n (pc' := 1) 0 dX12_isSmall_0 rfl rfl rfl ?_
  refine zj_bipush (pc' := 3) dX12_isSmall_1 rfl kbipush_97 ?_
  have HJ1 : zR Γ 1 YX12_isSmall 17 [(0, .int a1)] [.int (zb (if a1 < 97 then false else (if 122 < a1 then false else true)))] M Q := by
    subst hy
    exact zj_bret (b := (if a1 < 97 then false else (if 122 < a1 then false else true))) dX12_isSmall_17 rfl hq
  refine zj_icmp_lt (tgt := 16) (pc' := 6) dX12_isSmall_3 rfl (by decide) (fun c2 => ?_) (fun c2 => ?_)
  · refine zj_iconst (pc' := 17) dX12_isSmall_16 rfl kiconst_0 ?_
    exact zj_eqb (b := false) (if_pos c2) HJ1
  · refine zj_iload_n (pc' := 7) 0 dX12_isSmall_6 rfl rfl rfl ?_
    refine zj_bipush (pc' := 9) dX12_isSmall_7 rfl kbipush_122 ?_
    refine zj_icmp_gt (tgt := 16) (pc' := 12) dX12_isSmall_9 rfl (by decide) (fun c3 => ?_) (fun c3 => ?_)
    · refine zj_iconst (pc' := 17) dX12_isSmall_16 rfl kiconst_0 ?_
      exact zj_eqb (b := false) ((if_neg c2).trans (if_pos c3)) HJ1
    · refine zj_iconst (pc' := 13) dX12_isSmall_12 rfl kiconst_1 ?_
      refine zj_goto (tgt := 17) dX12_isSmall_13 (by decide) ?_
      exact zj_eqb (b := true) ((if_neg c2).trans (if_neg c3)) HJ1
set_option maxRecDepth 20000 in
theorem LX12_isSmall (Γ : zG) (M : zM)   (a1 : Int32) {res : Bool} (hy : (fM_isSmall a1) = res) : zK Γ 1 YX12_isSmall [.int a1] M (fun v N => v = some (.int (zb res)) ∧ N = M) :=
  zK_of (by decide) (Nat.le_of_ble_eq_true rfl) (TX12_isSmall Γ M a1 hy ⟨rfl, rfl⟩)

noncomputable def fM_isDigit (a1 : Int32) : Bool :=
  (if a1 < 48 then false else (if 57 < a1 then false else true))

set_option maxRecDepth 20000 in
theorem TX12_isDigit (Γ : zG) {Q : Option Value → zM → Prop} (M : zM)   (a1 : Int32) {res : Bool} (hy : (fM_isDigit a1) = res) (hq : Q (some (.int (zb res))) M) : zR Γ 1 YX12_isDigit 0 [(0, .int a1)] [] M Q := by
  unfold fM_isDigit at hy
  refine zj_iload_n (pc' := 1) 0 dX12_isDigit_0 rfl rfl rfl ?_
  refine zj_bipush (pc' := 3) dX12_isDigit_1 rfl kbipush_48 ?_
  have HJ1 : zR Γ 1 YX12_isDigit 17 [(0, .int a1)] [.int (zb (if a1 < 48 then false else (if 57 < a1 then false else true)))] M Q := by
    subst hy
    exact zj_bret (b := (if a1 < 48 then false else (if 57 < a1 then false else true))) dX12_isDigit_17 rfl hq
  refine zj_icmp_lt (tgt := 16) (pc' := 6) dX12_isDigit_3 rfl (by decide) (fun c2 => ?_) (fun c2 => ?_)
  · refine zj_iconst (pc' := 17) dX12_isDigit_16 rfl kiconst_0 ?_
    exact zj_eqb (b := false) (if_pos c2) HJ1
  · refine zj_iload_n (pc' := 7) 0 dX12_isDigit_6 rfl rfl rfl ?_
    refine zj_bipush (pc' := 9) dX12_isDigit_7 rfl kbipush_57 ?_
    refine zj_icmp_gt (tgt := 16) (pc' := 12) dX12_isDigit_9 rfl (by decide) (fun c3 => ?_) (fun c3 => ?_)
    · refine zj_iconst (pc' := 17) dX12_isDigit_16 rfl kiconst_0 ?_
      exact zj_eqb (b := false) ((if_neg c2).trans (if_pos c3)) HJ1
    · refine zj_iconst (pc' := 13) dX12_isDigit_12 rfl kiconst_1 ?_
      refine zj_goto (tgt := 17) dX12_isDigit_13 (by decide) ?_
      exact zj_eqb (b := true) ((if_neg c2).trans (if_neg c3)) HJ1
set_option maxRecDepth 20000 in
theorem LX12_isDigit (Γ : zG) (M : zM)   (a1 : Int32) {res : Bool} (hy : (fM_isDigit a1) = res) : zK Γ 1 YX12_isDigit [.int a1] M (fun v N => v = some (.int (zb res)) ∧ N = M) :=
  zK_of (by decide) (Nat.le_of_ble_eq_true rfl) (TX12_isDigit Γ M a1 hy ⟨rfl, rfl⟩)

noncomputable def fM_next_L0 (r0_1 : Nat → Int32) (r0v1 : Nat → Int32) : Option (((Nat → Int32)) ⊕ ((Nat → Int32))) :=
  (fM_peek r0v1 r0_1).bind (fun (y9 : Int32) =>
  (if y9 = 32 then
  zlet (zup r0v1 4 ((r0v1 4) + 1)) (fun (r0v11 : Nat → Int32) =>
  some (.inl r0v11))
  else
  (fM_peek r0v1 r0_1).bind (fun (y12 : Int32) =>
  (if y12 = 10 then
  zlet (zup r0v1 4 ((r0v1 4) + 1)) (fun (r0v14 : Nat → Int32) =>
  some (.inl r0v14))
  else
  some (.inr r0v1)))))
noncomputable def fM_next_L181 (r0_1 : Nat → Int32) (y18 : Int32) (r0v22 : Nat → Int32) (w0v23 : Nat → Int64) (x24 : Int32) : Option (((Nat → Int32) × (Nat → Int64) × Int32) ⊕ ((Nat → Int32) × (Nat → Int64) × Int32)) :=
  (fM_peek r0v22 r0_1).bind (fun (y32 : Int32) =>
  zlet (fun (u9 : Unit) =>
  zlet (fun (x33 : Int32) =>
  zlet (fun (w0v34 : Nat → Int64) =>
  (if 3 ≤ (r0v22 13) then
  zlet (zup r0v22 13 ((r0v22 13) + 1)) (fun (r0v36 : Nat → Int32) =>
  zlet (zup r0v36 4 ((r0v36 4) + 1)) (fun (r0v37 : Nat → Int32) =>
  some (.inl (r0v37, w0v34, x33))))
  else
  (fM_peek r0v22 r0_1).bind (fun (y38 : Int32) =>
  zlet (zup r0v22 14 (((10 * (r0v22 14)) + y38) - 48)) (fun (r0v39 : Nat → Int32) =>
  zlet (zup r0v39 13 ((r0v39 13) + 1)) (fun (r0v40 : Nat → Int32) =>
  zlet (zup r0v40 4 ((r0v40 4) + 1)) (fun (r0v41 : Nat → Int32) =>
  some (.inl (r0v41, w0v34, x33)))))))) (fun J42 =>
  (if 7 ≤ (r0v22 13) then
  J42 w0v23
  else
  (fM_peek r0v22 r0_1).bind (fun (y44 : Int32) =>
  zlet (zup w0v23 17 (((w0v23 17) <<< (Int32.toInt64 (8 : Int32) &&& 63)) ||| (Int32.toInt64 y44))) (fun (w0v45 : Nat → Int64) =>
  J42 w0v45))))) (fun J46 =>
  zlet (fun (u9 : Unit) =>
  J46 0) (fun J47 =>
  (if x24 = 0 then
  J47 ()
  else
  (fM_peek r0v22 r0_1).bind (fun (y49 : Int32) =>
  (if (zb (fM_isSmall y49)) = (zb (fM_isSmall y18)) then
  J46 1
  else
  J47 ())))))) (fun J51 =>
  (if (fM_isSmall y32) = true then
  J51 ()
  else
  (fM_peek r0v22 r0_1).bind (fun (y53 : Int32) =>
  (if (fM_isDigit y53) = true then
  J51 ()
  else
  some (.inr (r0v22, w0v23, x24)))))))
noncomputable def fM_next (r0 : Nat → Int32) (w0 : Nat → Int64) (r0_1 : Nat → Int32) : Option ((Nat → Int32) × (Nat → Int64)) :=
  (zLP (fun s => fM_next_L0 r0_1 s) r0).bind (fun r4 =>
  zlet (zup r4 12 (r4 4)) (fun (r0v16 : Nat → Int32) =>
  zlet (zup r0v16 13 0) (fun (r0v17 : Nat → Int32) =>
  zlet (fun (u9 : Unit) =>
  (fM_peek r0v17 r0_1).bind (fun (y18 : Int32) =>
  (if 0 ≤ y18 then
  zlet (fun (u9 : Unit) =>
  zlet (zup w0 17 (0 : Int64)) (fun (w0v20 : Nat → Int64) =>
  zlet (zup r0v17 14 0) (fun (r0v21 : Nat → Int32) =>
  (zLP (fun s => fM_next_L181 r0_1 y18 s.1 s.2.1 s.2.2) (r0v21, w0v20, 1)).bind (fun r27 =>
  zlet (zup r27.1 11 (if r27.2.2 = 0 then (4 : Int32) else (if (fM_isSmall y18) = true then (if (r27.1 13) ≤ 7 then (if (fM_isSmall y18) = true then (1 : Int32) else (2 : Int32)) else (4 : Int32)) else (if (r27.1 13) ≤ 3 then (if (fM_isSmall y18) = true then (1 : Int32) else (2 : Int32)) else (4 : Int32))))) (fun (r0v65 : Nat → Int32) =>
  some (r0v65, r27.2.1)))))) (fun J66 =>
  (if (fM_isSmall y18) = true then
  J66 ()
  else
  (if (fM_isDigit y18) = true then
  J66 ()
  else
  zlet (zup r0v17 11 (if y18 = 59 then (3 : Int32) else (if y18 = 40 then (3 : Int32) else (if y18 = 41 then (3 : Int32) else (if y18 < 60 then (4 : Int32) else (if 62 < y18 then (4 : Int32) else (3 : Int32))))))) (fun (r0v75 : Nat → Int32) =>
  zlet (zup r0v75 14 y18) (fun (r0v76 : Nat → Int32) =>
  zlet (zup r0v76 4 ((r0v76 4) + 1)) (fun (r0v77 : Nat → Int32) =>
  some (r0v77, w0)))))))
  else
  zlet (zup r0v17 11 0) (fun (r0v78 : Nat → Int32) =>
  some (r0v78, w0))))) (fun J79 =>
  (if (r0v17 3) ≤ (r0v17 5) then
  J79 ()
  else
  (if (r0v17 4) < (r0v17 5) then
  J79 ()
  else
  zlet (zup r0v17 12 (r0v17 5)) (fun (r0v82 : Nat → Int32) =>
  zlet (zup r0v82 11 4) (fun (r0v83 : Nat → Int32) =>
  some (r0v83, w0)))))))))

set_option maxRecDepth 20000 in
theorem TX12_next_186 (Γ : zG) {Q : Option Value → zM → Prop} (M : zM) (r0 : Nat → Int32) (w0 : Nat → Int64) (r0_1 : Nat → Int32) (e_i186 : M.1 186 = r0) (e_l186 : M.2 186 = w0) (e_i187 : M.1 187 = r0_1)  {res : (Nat → Int32) × (Nat → Int64)} (hy : (fM_next r0 w0 r0_1) = some res) (hq : Q none (zui (zul M 186 res.2) 186 res.1)) : zR Γ 2 YX12_next 0 [(0, .ref (zad Γ 186))] [] M Q := by
  unfold fM_next at hy
  refine zj_mem (N := (zui M 186 r0)) (zself_i e_i186 rfl) ?_
  obtain ⟨r4, hr9, hyo5⟩ := zt_b hy
  obtain ⟨n9, hn9⟩ := zLP_some hr9
  have HE2 : ∀ (r0v15 : Nat → Int32), r4 = r0v15 → zR Γ 2 YX12_next 31 [(0, .ref (zad Γ 186))] [] (zui M 186 r0v15) Q := by
    intro r0v15 e9
    have hy := hyo5
    try rw [e9] at hy
    try dsimp only at hy
    refine zj_aload_n (pc' := 32) 0 dX12_next_31 rfl rfl rfl ?_
    refine zj_aload_n (pc' := 33) 0 dX12_next_32 rfl rfl rfl ?_
    refine zj_fI (pc' := 36) dX12_next_33 rfl flX12_21 sh186 rfl zr_s rfl ?_
    obtain ⟨r0v16, er0v16⟩ : ∃ z, z = (zup r0v15 12 (r0v15 4)) := ⟨_, rfl⟩
    have hy := zlet_at er0v16 hy
    refine zj_pI (pc' := 39) (N := (zui M 186 r0v16)) dX12_next_36 rfl fpX12_150 sh186 rfl zr_s er0v16 zm_s ?_
    refine zj_aload_n (pc' := 40) 0 dX12_next_39 rfl rfl rfl ?_
    refine zj_iconst (pc' := 41) dX12_next_40 rfl kiconst_0 ?_
    obtain ⟨r0v17, er0v17⟩ : ∃ z, z = (zup r0v16 13 0) := ⟨_, rfl⟩
    have hy := zlet_at er0v17 hy
    refine zj_pI (pc' := 44) (N := (zui M 186 r0v17)) dX12_next_41 rfl fpX12_153 sh186 rfl zr_s er0v17 zm_s ?_
    refine zj_aload_n (pc' := 45) 0 dX12_next_44 rfl rfl rfl ?_
    refine zj_fI (pc' := 48) dX12_next_45 rfl flX12_18 sh186 rfl zr_s rfl ?_
    refine zj_aload_n (pc' := 49) 0 dX12_next_48 rfl rfl rfl ?_
    refine zj_fI (pc' := 52) dX12_next_49 rfl flX12_24 sh186 rfl zr_s rfl ?_
    obtain ⟨J79, eJ79, hy⟩ := zlet_ex hy
    have HJ79 : ∀ (u9 : Unit), J79 u9 = some res → zR Γ 2 YX12_next 80 [(0, .ref (zad Γ 186))] [] (zui M 186 r0v17) Q := by
      intro u9 hy
      have hy := zap1 eJ79 hy
      refine zj_aload_n (pc' := 81) 0 dX12_next_80 rfl rfl rfl ?_
      obtain ⟨y18, hy18, hy⟩ := zt_b hy
      refine zj_V1 (pc' := 84) (z := YX12_peek) (As := []) (N := (zui M 186 r0v17)) dX12_next_81 rfl mlX12_146 lkX12_peek sh186 ⟨_, _, rfl⟩ rfl rfl (Nat.le_of_ble_eq_true rfl) (Nat.le_of_ble_eq_true rfl) (LX12_peek_186 Γ _ r0v17 r0_1 zr_s (zr_n rfl e_i187) hy18) rfl ?_
      refine zj_istore_n (pc' := 85) (L' := [(1, .int y18), (0, .ref (zad Γ 186))]) dX12_next_84 rfl rfl (by decide) rfl ?_
      refine zj_iload_n (pc' := 86) 0 dX12_next_85 rfl rfl rfl ?_
      refine zj_if_ge (tgt := 95) (pc' := 89) dX12_next_86 rfl (by decide) (fun c19 => ?_) (fun c19 => ?_)
      · have hy := zt_t hy c19
        refine zj_iload_n (pc' := 96) 0 dX12_next_95 rfl rfl rfl ?_
        refine zj_S1 (pc' := 99) (z := YX12_isSmall) (As := [.int y18]) (N := (zui M 186 r0v17)) dX12_next_96 rfl mlX12_159 lkX12_isSmall rfl rfl (Nat.le_of_ble_eq_true rfl) (Nat.le_of_ble_eq_true rfl) (LX12_isSmall Γ _ y18 rfl) rfl ?_
        obtain ⟨J66, eJ66, hy⟩ := zlet_ex hy
        have HJ66 : ∀ (u9 : Unit), J66 u9 = some res → zR Γ 2 YX12_next 164 [(0, .ref (zad Γ 186)), (1, .int y18)] [] (zui M 186 r0v17) Q := by
          intro u9 hy
          have hy := zap1 eJ66 hy
          refine zj_iload_n (pc' := 165) 1 dX12_next_164 rfl rfl rfl ?_
          refine zj_S1 (pc' := 168) (z := YX12_isSmall) (As := [.int y18]) (N := (zui M 186 r0v17)) dX12_next_165 rfl mlX12_159 lkX12_isSmall rfl rfl (Nat.le_of_ble_eq_true rfl) (Nat.le_of_ble_eq_true rfl) (LX12_isSmall Γ _ y18 rfl) rfl ?_
          refine zj_istore_n (pc' := 169) (L' := [(2, .int (zb (fM_isSmall y18))), (0, .ref (zad Γ 186)), (1, .int y18)]) dX12_next_168 rfl rfl (by decide) rfl ?_
          refine zj_iconst (pc' := 170) dX12_next_169 rfl kiconst_1 ?_
          refine zj_istore_n (pc' := 171) (L' := [(3, .int 1), (2, .int (zb (fM_isSmall y18))), (0, .ref (zad Γ 186)), (1, .int y18)]) dX12_next_170 rfl rfl (by decide) rfl ?_
          refine zj_aload_n (pc' := 172) 2 dX12_next_171 rfl rfl rfl ?_
          refine zj_lconst (pc' := 173) (v := 0) dX12_next_172 rfl (by decide) ?_
          obtain ⟨w0v20, ew0v20⟩ : ∃ z, z = (zup w0 17 (0 : Int64)) := ⟨_, rfl⟩
          have hy := zlet_at ew0v20 hy
          refine zj_pL (pc' := 176) (N := (zui (zul M 186 w0v20) 186 r0v17)) dX12_next_173 rfl fpX12_169 sh186 rfl (zq_i e_l186) ew0v20 (zm_li rfl) ?_
          refine zj_aload_n (pc' := 177) 2 dX12_next_176 rfl rfl rfl ?_
          refine zj_iconst (pc' := 178) dX12_next_177 rfl kiconst_0 ?_
          obtain ⟨r0v21, er0v21⟩ : ∃ z, z = (zup r0v17 14 0) := ⟨_, rfl⟩
          have hy := zlet_at er0v21 hy
          refine zj_pI (pc' := 181) (N := (zui (zul M 186 w0v20) 186 r0v21)) dX12_next_178 rfl fpX12_166 sh186 rfl zr_s er0v21 zm_s ?_
          refine zj_loc [2, 1, 0] rfl ?_
          obtain ⟨r27, hr9, hyo28⟩ := zt_b hy
          obtain ⟨n9, hn9⟩ := zLP_some hr9
          have HE25 : ∀ (r0v55 : Nat → Int32) (w0v56 : Nat → Int64) (x57 : Int32), r27 = (r0v55, w0v56, x57) → zR Γ 2 YX12_next 298 [(0, .ref (zad Γ 186)), (2, .int (zb (fM_isSmall y18))), (3, .int x57)] [] (zui (zul M 186 w0v56) 186 r0v55) Q := by
            intro r0v55 w0v56 x57 e9
            have hy := hyo28
            try rw [e9] at hy
            try dsimp only at hy
            refine zj_aload_n (pc' := 299) 0 dX12_next_298 rfl rfl rfl ?_
            refine zj_iload_n (pc' := 300) 2 dX12_next_299 rfl rfl rfl ?_
            have HJ58 : zR Γ 2 YX12_next 333 [(0, .ref (zad Γ 186)), (2, .int (zb (fM_isSmall y18))), (3, .int x57)] [.int (if x57 = 0 then (4 : Int32) else (if (fM_isSmall y18) = true then (if (r0v55 13) ≤ 7 then (if (fM_isSmall y18) = true then (1 : Int32) else (2 : Int32)) else (4 : Int32)) else (if (r0v55 13) ≤ 3 then (if (fM_isSmall y18) = true then (1 : Int32) else (2 : Int32)) else (4 : Int32)))), .ref (zad Γ 186)] (zui (zul M 186 w0v56) 186 r0v55) Q := by
              obtain ⟨r0v65, er0v65⟩ : ∃ z, z = (zup r0v55 11 (if x57 = 0 then (4 : Int32) else (if (fM_isSmall y18) = true then (if (r0v55 13) ≤ 7 then (if (fM_isSmall y18) = true then (1 : Int32) else (2 : Int32)) else (4 : Int32)) else (if (r0v55 13) ≤ 3 then (if (fM_isSmall y18) = true then (1 : Int32) else (2 : Int32)) else (4 : Int32))))) := ⟨_, rfl⟩
              have hy := zlet_at er0v65 hy
              refine zj_pI (pc' := 336) (N := (zui (zul M 186 w0v56) 186 r0v65)) dX12_next_333 rfl fpX12_156 sh186 rfl zr_s er0v65 zm_s ?_
              have e9 := Option.some.inj hy
              subst e9
              exact zj_vret dX12_next_336 rfl hq
            refine zj_if_eq (tgt := 320) (pc' := 303) dX12_next_300 rfl (by decide) (fun c59 => ?_) (fun c59 => ?_)
            · refine zj_iconst (pc' := 321) dX12_next_320 rfl kiconst_4 ?_
              refine zj_goto (tgt := 333) dX12_next_321 (by decide) ?_
              exact zj_eqi (if_pos c59) HJ58
            · refine zj_aload_n (pc' := 304) 0 dX12_next_303 rfl rfl rfl ?_
              refine zj_fI (pc' := 307) dX12_next_304 rfl flX12_153 sh186 rfl zr_s rfl ?_
              refine zj_iload_n (pc' := 308) 1 dX12_next_307 rfl rfl rfl ?_
              refine zj_bif_eq (tgt := 316) (pc' := 311) dX12_next_308 rfl (by decide) (fun c60 => ?_) (fun c60 => ?_)
              · refine zj_iconst (pc' := 317) dX12_next_316 rfl kiconst_3 ?_
                refine zj_icmp_le (tgt := 324) (pc' := 320) dX12_next_317 rfl (by decide) (fun c63 => ?_) (fun c63 => ?_)
                · refine zj_iload_n (pc' := 325) 1 dX12_next_324 rfl rfl rfl ?_
                  refine zj_bif_eq (tgt := 332) (pc' := 328) dX12_next_325 rfl (by decide) (fun c64 => ?_) (fun c64 => ?_)
                  · refine zj_iconst (pc' := 333) dX12_next_332 rfl kiconst_2 ?_
                    exact zj_eqi ((((if_neg c59).trans (if_neg c60)).trans (if_pos c63)).trans (if_neg c64)) HJ58
                  · refine zj_iconst (pc' := 329) dX12_next_328 rfl kiconst_1 ?_
                    refine zj_goto (tgt := 333) dX12_next_329 (by decide) ?_
                    exact zj_eqi ((((if_neg c59).trans (if_neg c60)).trans (if_pos c63)).trans (if_pos c64)) HJ58
                · refine zj_iconst (pc' := 321) dX12_next_320 rfl kiconst_4 ?_
                  refine zj_goto (tgt := 333) dX12_next_321 (by decide) ?_
                  exact zj_eqi (((if_neg c59).trans (if_neg c60)).trans (if_neg c63)) HJ58
              · refine zj_bipush (pc' := 313) dX12_next_311 rfl kbipush_7 ?_
                refine zj_goto (tgt := 317) dX12_next_313 (by decide) ?_
                refine zj_icmp_le (tgt := 324) (pc' := 320) dX12_next_317 rfl (by decide) (fun c61 => ?_) (fun c61 => ?_)
                · refine zj_iload_n (pc' := 325) 1 dX12_next_324 rfl rfl rfl ?_
                  refine zj_bif_eq (tgt := 332) (pc' := 328) dX12_next_325 rfl (by decide) (fun c62 => ?_) (fun c62 => ?_)
                  · refine zj_iconst (pc' := 333) dX12_next_332 rfl kiconst_2 ?_
                    exact zj_eqi ((((if_neg c59).trans (if_pos c60)).trans (if_pos c61)).trans (if_neg c62)) HJ58
                  · refine zj_iconst (pc' := 329) dX12_next_328 rfl kiconst_1 ?_
                    refine zj_goto (tgt := 333) dX12_next_329 (by decide) ?_
                    exact zj_eqi ((((if_neg c59).trans (if_pos c60)).trans (if_pos c61)).trans (if_pos c62)) HJ58
                · refine zj_iconst (pc' := 321) dX12_next_320 rfl kiconst_4 ?_
                  refine zj_goto (tgt := 333) dX12_next_321 (by decide) ?_
                  exact zj_eqi (((if_neg c59).trans (if_pos c60)).trans (if_neg c61)) HJ58
          have HL26 : ∀ (n : Nat) (r0v22 : Nat → Int32) (w0v23 : Nat → Int64) (x24 : Int32), zlp (fun s => fM_next_L181 r0_1 y18 s.1 s.2.1 s.2.2) n (r0v22, w0v23, x24) = some r27 → zR Γ 2 YX12_next 181 [(0, .ref (zad Γ 186)), (2, .int (zb (fM_isSmall y18))), (3, .int x24)] [] (zui (zul M 186 w0v23) 186 r0v22) Q := by
            intro n
            induction n with
            | zero => intro r0v22 w0v23 x24 hn9; cases hn9
            | succ n ih29 =>
              intro r0v22 w0v23 x24 hn9
              obtain ⟨o9, hb9, h30, h31⟩ := zlp_step hn9
              have hy : fM_next_L181 r0_1 y18 r0v22 w0v23 x24 = some o9 := hb9
              unfold fM_next_L181 at hy
              refine zj_aload_n (pc' := 182) 0 dX12_next_181 rfl rfl rfl ?_
              obtain ⟨y32, hy32, hy⟩ := zt_b hy
              refine zj_V1 (pc' := 185) (z := YX12_peek) (As := []) (N := (zui (zul M 186 w0v23) 186 r0v22)) dX12_next_182 rfl mlX12_146 lkX12_peek sh186 ⟨_, _, rfl⟩ rfl rfl (Nat.le_of_ble_eq_true rfl) (Nat.le_of_ble_eq_true rfl) (LX12_peek_186 Γ _ r0v22 r0_1 zr_s (zr_n rfl (zr_l e_i187)) hy32) rfl ?_
              refine zj_S1 (pc' := 188) (z := YX12_isSmall) (As := [.int y32]) (N := (zui (zul M 186 w0v23) 186 r0v22)) dX12_next_185 rfl mlX12_159 lkX12_isSmall rfl rfl (Nat.le_of_ble_eq_true rfl) (Nat.le_of_ble_eq_true rfl) (LX12_isSmall Γ _ y32 rfl) rfl ?_
              obtain ⟨J51, eJ51, hy⟩ := zlet_ex hy
              have HJ51 : ∀ (u9 : Unit), J51 u9 = some o9 → zR Γ 2 YX12_next 201 [(0, .ref (zad Γ 186)), (2, .int (zb (fM_isSmall y18))), (3, .int x24)] [] (zui (zul M 186 w0v23) 186 r0v22) Q := by
                intro u9 hy
                have hy := zap1 eJ51 hy
                refine zj_iload_n (pc' := 202) 2 dX12_next_201 rfl rfl rfl ?_
                obtain ⟨J46, eJ46, hy⟩ := zlet_ex hy
                have HJ46 : ∀ (x33 : Int32), J46 x33 = some o9 → zR Γ 2 YX12_next 221 [(0, .ref (zad Γ 186)), (2, .int (zb (fM_isSmall y18)))] [.int x33] (zui (zul M 186 w0v23) 186 r0v22) Q := by
                  intro x33 hy
                  have hy := zap1 eJ46 hy
                  refine zj_istore_n (pc' := 222) (L' := [(3, .int x33), (0, .ref (zad Γ 186)), (2, .int (zb (fM_isSmall y18)))]) dX12_next_221 rfl rfl (by decide) rfl ?_
                  refine zj_aload_n (pc' := 223) 1 dX12_next_222 rfl rfl rfl ?_
                  refine zj_fI (pc' := 226) dX12_next_223 rfl flX12_153 sh186 rfl zr_s rfl ?_
                  refine zj_bipush (pc' := 228) dX12_next_226 rfl kbipush_7 ?_
                  obtain ⟨J42, eJ42, hy⟩ := zlet_ex hy
                  have HJ42 : ∀ (w0v34 : Nat → Int64), J42 w0v34 = some o9 → zR Γ 2 YX12_next 248 [(0, .ref (zad Γ 186)), (2, .int (zb (fM_isSmall y18))), (3, .int x33)] [] (zui (zul M 186 w0v34) 186 r0v22) Q := by
                    intro w0v34 hy
                    have hy := zap1 eJ42 hy
                    refine zj_aload_n (pc' := 249) 0 dX12_next_248 rfl rfl rfl ?_
                    refine zj_fI (pc' := 252) dX12_next_249 rfl flX12_153 sh186 rfl zr_s rfl ?_
                    refine zj_iconst (pc' := 253) dX12_next_252 rfl kiconst_3 ?_
                    refine zj_icmp_ge (tgt := 275) (pc' := 256) dX12_next_253 rfl (by decide) (fun c35 => ?_) (fun c35 => ?_)
                    · have hy := zt_t hy c35
                      refine zj_aload_n (pc' := 276) 0 dX12_next_275 rfl rfl rfl ?_
                      refine zj_dup (pc' := 277) dX12_next_276 rfl rfl ?_
                      refine zj_fI (pc' := 280) dX12_next_277 rfl flX12_153 sh186 rfl zr_s rfl ?_
                      refine zj_iconst (pc' := 281) dX12_next_280 rfl kiconst_1 ?_
                      refine zj_iadd (pc' := 282) dX12_next_281 rfl ?_
                      obtain ⟨r0v36, er0v36⟩ : ∃ z, z = (zup r0v22 13 ((r0v22 13) + 1)) := ⟨_, rfl⟩
                      have hy := zlet_at er0v36 hy
                      refine zj_pI (pc' := 285) (N := (zui (zul M 186 w0v34) 186 r0v36)) dX12_next_282 rfl fpX12_153 sh186 rfl zr_s er0v36 zm_s ?_
                      refine zj_aload_n (pc' := 286) 0 dX12_next_285 rfl rfl rfl ?_
                      refine zj_dup (pc' := 287) dX12_next_286 rfl rfl ?_
                      refine zj_fI (pc' := 290) dX12_next_287 rfl flX12_21 sh186 rfl zr_s rfl ?_
                      refine zj_iconst (pc' := 291) dX12_next_290 rfl kiconst_1 ?_
                      refine zj_iadd (pc' := 292) dX12_next_291 rfl ?_
                      obtain ⟨r0v37, er0v37⟩ : ∃ z, z = (zup r0v36 4 ((r0v36 4) + 1)) := ⟨_, rfl⟩
                      have hy := zlet_at er0v37 hy
                      refine zj_pI (pc' := 295) (N := (zui (zul M 186 w0v34) 186 r0v37)) dX12_next_292 rfl fpX12_21 sh186 rfl zr_s er0v37 zm_s ?_
                      refine zj_goto (tgt := 181) dX12_next_295 (by decide) ?_
                      have hn9 := h30 _ (Option.some.inj hy).symm
                      exact ih29 _ _ _ hn9
                    · have hy := zt_f hy c35
                      refine zj_aload_n (pc' := 257) 0 dX12_next_256 rfl rfl rfl ?_
                      refine zj_bipush (pc' := 259) dX12_next_257 rfl kbipush_10 ?_
                      refine zj_aload_n (pc' := 260) 0 dX12_next_259 rfl rfl rfl ?_
                      refine zj_fI (pc' := 263) dX12_next_260 rfl flX12_166 sh186 rfl zr_s rfl ?_
                      refine zj_imul (pc' := 264) dX12_next_263 rfl ?_
                      refine zj_aload_n (pc' := 265) 0 dX12_next_264 rfl rfl rfl ?_
                      obtain ⟨y38, hy38, hy⟩ := zt_b hy
                      refine zj_V1 (pc' := 268) (z := YX12_peek) (As := []) (N := (zui (zul M 186 w0v34) 186 r0v22)) dX12_next_265 rfl mlX12_146 lkX12_peek sh186 ⟨_, _, rfl⟩ rfl rfl (Nat.le_of_ble_eq_true rfl) (Nat.le_of_ble_eq_true rfl) (LX12_peek_186 Γ _ r0v22 r0_1 zr_s (zr_n rfl (zr_l e_i187)) hy38) rfl ?_
                      refine zj_iadd (pc' := 269) dX12_next_268 rfl ?_
                      refine zj_bipush (pc' := 271) dX12_next_269 rfl kbipush_48 ?_
                      refine zj_isub (pc' := 272) dX12_next_271 rfl ?_
                      obtain ⟨r0v39, er0v39⟩ : ∃ z, z = (zup r0v22 14 (((10 * (r0v22 14)) + y38) - 48)) := ⟨_, rfl⟩
                      have hy := zlet_at er0v39 hy
                      refine zj_pI (pc' := 275) (N := (zui (zul M 186 w0v34) 186 r0v39)) dX12_next_272 rfl fpX12_166 sh186 rfl zr_s er0v39 zm_s ?_
                      refine zj_aload_n (pc' := 276) 0 dX12_next_275 rfl rfl rfl ?_
                      refine zj_dup (pc' := 277) dX12_next_276 rfl rfl ?_
                      refine zj_fI (pc' := 280) dX12_next_277 rfl flX12_153 sh186 rfl zr_s rfl ?_
                      refine zj_iconst (pc' := 281) dX12_next_280 rfl kiconst_1 ?_
                      refine zj_iadd (pc' := 282) dX12_next_281 rfl ?_
                      obtain ⟨r0v40, er0v40⟩ : ∃ z, z = (zup r0v39 13 ((r0v39 13) + 1)) := ⟨_, rfl⟩
                      have hy := zlet_at er0v40 hy
                      refine zj_pI (pc' := 285) (N := (zui (zul M 186 w0v34) 186 r0v40)) dX12_next_282 rfl fpX12_153 sh186 rfl zr_s er0v40 zm_s ?_
                      refine zj_aload_n (pc' := 286) 0 dX12_next_285 rfl rfl rfl ?_
                      refine zj_dup (pc' := 287) dX12_next_286 rfl rfl ?_
                      refine zj_fI (pc' := 290) dX12_next_287 rfl flX12_21 sh186 rfl zr_s rfl ?_
                      refine zj_iconst (pc' := 291) dX12_next_290 rfl kiconst_1 ?_
                      refine zj_iadd (pc' := 292) dX12_next_291 rfl ?_
                      obtain ⟨r0v41, er0v41⟩ : ∃ z, z = (zup r0v40 4 ((r0v40 4) + 1)) := ⟨_, rfl⟩
                      have hy := zlet_at er0v41 hy
                      refine zj_pI (pc' := 295) (N := (zui (zul M 186 w0v34) 186 r0v41)) dX12_next_292 rfl fpX12_21 sh186 rfl zr_s er0v41 zm_s ?_
                      refine zj_goto (tgt := 181) dX12_next_295 (by decide) ?_
                      have hn9 := h30 _ (Option.some.inj hy).symm
                      exact ih29 _ _ _ hn9
                  refine zj_icmp_ge (tgt := 248) (pc' := 231) dX12_next_228 rfl (by decide) (fun c43 => ?_) (fun c43 => ?_)
                  · have hy := zt_t hy c43
                    refine zj_loc [1, 2, 0] rfl ?_
                    exact HJ42 w0v23 hy
                  · have hy := zt_f hy c43
                    refine zj_aload_n (pc' := 232) 1 dX12_next_231 rfl rfl rfl ?_
                    refine zj_aload_n (pc' := 233) 1 dX12_next_232 rfl rfl rfl ?_
                    refine zj_fL (pc' := 236) dX12_next_233 rfl flX12_169 sh186 rfl (zq_i zq_s) rfl ?_
                    refine zj_bipush (pc' := 238) dX12_next_236 rfl kbipush_8 ?_
                    refine zj_lshl (pc' := 239) dX12_next_238 rfl ?_
                    refine zj_aload_n (pc' := 240) 1 dX12_next_239 rfl rfl rfl ?_
                    obtain ⟨y44, hy44, hy⟩ := zt_b hy
                    refine zj_V1 (pc' := 243) (z := YX12_peek) (As := []) (N := (zui (zul M 186 w0v23) 186 r0v22)) dX12_next_240 rfl mlX12_146 lkX12_peek sh186 ⟨_, _, rfl⟩ rfl rfl (Nat.le_of_ble_eq_true rfl) (Nat.le_of_ble_eq_true rfl) (LX12_peek_186 Γ _ r0v22 r0_1 zr_s (zr_n rfl (zr_l e_i187)) hy44) rfl ?_
                    refine zj_i2l (pc' := 244) dX12_next_243 rfl ?_
                    refine zj_lor (pc' := 245) dX12_next_244 rfl ?_
                    obtain ⟨w0v45, ew0v45⟩ : ∃ z, z = (zup w0v23 17 (((w0v23 17) <<< (Int32.toInt64 (8 : Int32) &&& 63)) ||| (Int32.toInt64 y44))) := ⟨_, rfl⟩
                    have hy := zlet_at ew0v45 hy
                    refine zj_pL (pc' := 248) (N := (zui (zul M 186 w0v45) 186 r0v22)) dX12_next_245 rfl fpX12_169 sh186 rfl (zq_i zq_s) ew0v45 (zm_li zn_s) ?_
                    refine zj_loc [1, 2, 0] rfl ?_
                    exact HJ42 w0v45 hy
                obtain ⟨J47, eJ47, hy⟩ := zlet_ex hy
                have HJ47 : ∀ (u9 : Unit), J47 u9 = some o9 → zR Γ 2 YX12_next 220 [(0, .ref (zad Γ 186)), (2, .int (zb (fM_isSmall y18)))] [] (zui (zul M 186 w0v23) 186 r0v22) Q := by
                  intro u9 hy
                  have hy := zap1 eJ47 hy
                  refine zj_iconst (pc' := 221) dX12_next_220 rfl kiconst_0 ?_
                  exact HJ46 0 hy
                refine zj_if_eq (tgt := 220) (pc' := 205) dX12_next_202 rfl (by decide) (fun c48 => ?_) (fun c48 => ?_)
                · have hy := zt_t hy c48
                  refine zj_loc [0, 1] rfl ?_
                  exact HJ47 () hy
                · have hy := zt_f hy c48
                  refine zj_aload_n (pc' := 206) 0 dX12_next_205 rfl rfl rfl ?_
                  obtain ⟨y49, hy49, hy⟩ := zt_b hy
                  refine zj_V1 (pc' := 209) (z := YX12_peek) (As := []) (N := (zui (zul M 186 w0v23) 186 r0v22)) dX12_next_206 rfl mlX12_146 lkX12_peek sh186 ⟨_, _, rfl⟩ rfl rfl (Nat.le_of_ble_eq_true rfl) (Nat.le_of_ble_eq_true rfl) (LX12_peek_186 Γ _ r0v22 r0_1 zr_s (zr_n rfl (zr_l e_i187)) hy49) rfl ?_
                  refine zj_S1 (pc' := 212) (z := YX12_isSmall) (As := [.int y49]) (N := (zui (zul M 186 w0v23) 186 r0v22)) dX12_next_209 rfl mlX12_159 lkX12_isSmall rfl rfl (Nat.le_of_ble_eq_true rfl) (Nat.le_of_ble_eq_true rfl) (LX12_isSmall Γ _ y49 rfl) rfl ?_
                  refine zj_iload_n (pc' := 213) 1 dX12_next_212 rfl rfl rfl ?_
                  refine zj_icmp_ne (tgt := 220) (pc' := 216) dX12_next_213 rfl (by decide) (fun c50 => ?_) (fun c50 => ?_)
                  · have hy := zt_f hy c50
                    refine zj_loc [0, 1] rfl ?_
                    exact HJ47 () hy
                  · have hy := zt_t hy c50
                    refine zj_iconst (pc' := 217) dX12_next_216 rfl kiconst_1 ?_
                    refine zj_goto (tgt := 221) dX12_next_217 (by decide) ?_
                    refine zj_loc [0, 1] rfl ?_
                    exact HJ46 1 hy
              refine zj_bif_ne (tgt := 201) (pc' := 191) dX12_next_188 rfl (by decide) (fun c52 => ?_) (fun c52 => ?_)
              · have hy := zt_t hy c52
                exact HJ51 () hy
              · have hy := zt_f hy c52
                refine zj_aload_n (pc' := 192) 0 dX12_next_191 rfl rfl rfl ?_
                obtain ⟨y53, hy53, hy⟩ := zt_b hy
                refine zj_V1 (pc' := 195) (z := YX12_peek) (As := []) (N := (zui (zul M 186 w0v23) 186 r0v22)) dX12_next_192 rfl mlX12_146 lkX12_peek sh186 ⟨_, _, rfl⟩ rfl rfl (Nat.le_of_ble_eq_true rfl) (Nat.le_of_ble_eq_true rfl) (LX12_peek_186 Γ _ r0v22 r0_1 zr_s (zr_n rfl (zr_l e_i187)) hy53) rfl ?_
                refine zj_S1 (pc' := 198) (z := YX12_isDigit) (As := [.int y53]) (N := (zui (zul M 186 w0v23) 186 r0v22)) dX12_next_195 rfl mlX12_163 lkX12_isDigit rfl rfl (Nat.le_of_ble_eq_true rfl) (Nat.le_of_ble_eq_true rfl) (LX12_isDigit Γ _ y53 rfl) rfl ?_
                refine zj_bif_eq (tgt := 298) (pc' := 201) dX12_next_198 rfl (by decide) (fun c54 => ?_) (fun c54 => ?_)
                · have hy := zt_f hy c54
                  have e9 := h31 _ (Option.some.inj hy).symm
                  exact HE25 _ _ _ e9.symm
                · have hy := zt_t hy c54
                  exact HJ51 () hy
          exact HL26 n9 _ _ _ hn9
        refine zj_bif_ne (tgt := 164) (pc' := 102) dX12_next_99 rfl (by decide) (fun c67 => ?_) (fun c67 => ?_)
        · have hy := zt_t hy c67
          refine zj_loc [1, 0] rfl ?_
          exact HJ66 () hy
        · have hy := zt_f hy c67
          refine zj_iload_n (pc' := 103) 0 dX12_next_102 rfl rfl rfl ?_
          refine zj_S1 (pc' := 106) (z := YX12_isDigit) (As := [.int y18]) (N := (zui M 186 r0v17)) dX12_next_103 rfl mlX12_163 lkX12_isDigit rfl rfl (Nat.le_of_ble_eq_true rfl) (Nat.le_of_ble_eq_true rfl) (LX12_isDigit Γ _ y18 rfl) rfl ?_
          refine zj_bif_ne (tgt := 164) (pc' := 109) dX12_next_106 rfl (by decide) (fun c68 => ?_) (fun c68 => ?_)
          · have hy := zt_t hy c68
            refine zj_loc [1, 0] rfl ?_
            exact HJ66 () hy
          · have hy := zt_f hy c68
            refine zj_aload_n (pc' := 110) 1 dX12_next_109 rfl rfl rfl ?_
            refine zj_iload_n (pc' := 111) 0 dX12_next_110 rfl rfl rfl ?_
            refine zj_bipush (pc' := 113) dX12_next_111 rfl kbipush_59 ?_
            have HJ69 : zR Γ 2 YX12_next 145 [(1, .int y18), (0, .ref (zad Γ 186))] [.int (if y18 = 59 then (3 : Int32) else (if y18 = 40 then (3 : Int32) else (if y18 = 41 then (3 : Int32) else (if y18 < 60 then (4 : Int32) else (if 62 < y18 then (4 : Int32) else (3 : Int32)))))), .ref (zad Γ 186)] (zui M 186 r0v17) Q := by
              obtain ⟨r0v75, er0v75⟩ : ∃ z, z = (zup r0v17 11 (if y18 = 59 then (3 : Int32) else (if y18 = 40 then (3 : Int32) else (if y18 = 41 then (3 : Int32) else (if y18 < 60 then (4 : Int32) else (if 62 < y18 then (4 : Int32) else (3 : Int32))))))) := ⟨_, rfl⟩
              have hy := zlet_at er0v75 hy
              refine zj_pI (pc' := 148) (N := (zui M 186 r0v75)) dX12_next_145 rfl fpX12_156 sh186 rfl zr_s er0v75 zm_s ?_
              refine zj_aload_n (pc' := 149) 1 dX12_next_148 rfl rfl rfl ?_
              refine zj_iload_n (pc' := 150) 0 dX12_next_149 rfl rfl rfl ?_
              obtain ⟨r0v76, er0v76⟩ : ∃ z, z = (zup r0v75 14 y18) := ⟨_, rfl⟩
              have hy := zlet_at er0v76 hy
              refine zj_pI (pc' := 153) (N := (zui M 186 r0v76)) dX12_next_150 rfl fpX12_166 sh186 rfl zr_s er0v76 zm_s ?_
              refine zj_aload_n (pc' := 154) 1 dX12_next_153 rfl rfl rfl ?_
              refine zj_dup (pc' := 155) dX12_next_154 rfl rfl ?_
              refine zj_fI (pc' := 158) dX12_next_155 rfl flX12_21 sh186 rfl zr_s rfl ?_
              refine zj_iconst (pc' := 159) dX12_next_158 rfl kiconst_1 ?_
              refine zj_iadd (pc' := 160) dX12_next_159 rfl ?_
              obtain ⟨r0v77, er0v77⟩ : ∃ z, z = (zup r0v76 4 ((r0v76 4) + 1)) := ⟨_, rfl⟩
              have hy := zlet_at er0v77 hy
              refine zj_pI (pc' := 163) (N := (zui M 186 r0v77)) dX12_next_160 rfl fpX12_21 sh186 rfl zr_s er0v77 zm_s ?_
              have e9 := Option.some.inj hy
              subst e9
              refine zj_mem (N := (zui (zul M 186 w0) 186 r0v77)) (zself_l (zq_i e_l186) (zm_li rfl)) ?_
              exact zj_vret dX12_next_163 rfl hq
            refine zj_icmp_eq (tgt := 140) (pc' := 116) dX12_next_113 rfl (by decide) (fun c70 => ?_) (fun c70 => ?_)
            · refine zj_iconst (pc' := 141) dX12_next_140 rfl kiconst_3 ?_
              refine zj_goto (tgt := 145) dX12_next_141 (by decide) ?_
              exact zj_eqi (if_pos c70) HJ69
            · refine zj_iload_n (pc' := 117) 0 dX12_next_116 rfl rfl rfl ?_
              refine zj_bipush (pc' := 119) dX12_next_117 rfl kbipush_40 ?_
              refine zj_icmp_eq (tgt := 140) (pc' := 122) dX12_next_119 rfl (by decide) (fun c71 => ?_) (fun c71 => ?_)
              · refine zj_iconst (pc' := 141) dX12_next_140 rfl kiconst_3 ?_
                refine zj_goto (tgt := 145) dX12_next_141 (by decide) ?_
                exact zj_eqi ((if_neg c70).trans (if_pos c71)) HJ69
              · refine zj_iload_n (pc' := 123) 0 dX12_next_122 rfl rfl rfl ?_
                refine zj_bipush (pc' := 125) dX12_next_123 rfl kbipush_41 ?_
                refine zj_icmp_eq (tgt := 140) (pc' := 128) dX12_next_125 rfl (by decide) (fun c72 => ?_) (fun c72 => ?_)
                · refine zj_iconst (pc' := 141) dX12_next_140 rfl kiconst_3 ?_
                  refine zj_goto (tgt := 145) dX12_next_141 (by decide) ?_
                  exact zj_eqi (((if_neg c70).trans (if_neg c71)).trans (if_pos c72)) HJ69
                · refine zj_iload_n (pc' := 129) 0 dX12_next_128 rfl rfl rfl ?_
                  refine zj_bipush (pc' := 131) dX12_next_129 rfl kbipush_60 ?_
                  refine zj_icmp_lt (tgt := 144) (pc' := 134) dX12_next_131 rfl (by decide) (fun c73 => ?_) (fun c73 => ?_)
                  · refine zj_iconst (pc' := 145) dX12_next_144 rfl kiconst_4 ?_
                    exact zj_eqi ((((if_neg c70).trans (if_neg c71)).trans (if_neg c72)).trans (if_pos c73)) HJ69
                  · refine zj_iload_n (pc' := 135) 0 dX12_next_134 rfl rfl rfl ?_
                    refine zj_bipush (pc' := 137) dX12_next_135 rfl kbipush_62 ?_
                    refine zj_icmp_gt (tgt := 144) (pc' := 140) dX12_next_137 rfl (by decide) (fun c74 => ?_) (fun c74 => ?_)
                    · refine zj_iconst (pc' := 145) dX12_next_144 rfl kiconst_4 ?_
                      exact zj_eqi (((((if_neg c70).trans (if_neg c71)).trans (if_neg c72)).trans (if_neg c73)).trans (if_pos c74)) HJ69
                    · refine zj_iconst (pc' := 141) dX12_next_140 rfl kiconst_3 ?_
                      refine zj_goto (tgt := 145) dX12_next_141 (by decide) ?_
                      exact zj_eqi (((((if_neg c70).trans (if_neg c71)).trans (if_neg c72)).trans (if_neg c73)).trans (if_neg c74)) HJ69
      · have hy := zt_f hy c19
        refine zj_aload_n (pc' := 90) 1 dX12_next_89 rfl rfl rfl ?_
        refine zj_iconst (pc' := 91) dX12_next_90 rfl kiconst_0 ?_
        obtain ⟨r0v78, er0v78⟩ : ∃ z, z = (zup r0v17 11 0) := ⟨_, rfl⟩
        have hy := zlet_at er0v78 hy
        refine zj_pI (pc' := 94) (N := (zui M 186 r0v78)) dX12_next_91 rfl fpX12_156 sh186 rfl zr_s er0v78 zm_s ?_
        have e9 := Option.some.inj hy
        subst e9
        refine zj_mem (N := (zui (zul M 186 w0) 186 r0v78)) (zself_l (zq_i e_l186) (zm_li rfl)) ?_
        exact zj_vret dX12_next_94 rfl hq
    refine zj_icmp_le (tgt := 80) (pc' := 55) dX12_next_52 rfl (by decide) (fun c80 => ?_) (fun c80 => ?_)
    · have hy := zt_t hy c80
      exact HJ79 () hy
    · have hy := zt_f hy c80
      refine zj_aload_n (pc' := 56) 0 dX12_next_55 rfl rfl rfl ?_
      refine zj_fI (pc' := 59) dX12_next_56 rfl flX12_21 sh186 rfl zr_s rfl ?_
      refine zj_aload_n (pc' := 60) 0 dX12_next_59 rfl rfl rfl ?_
      refine zj_fI (pc' := 63) dX12_next_60 rfl flX12_24 sh186 rfl zr_s rfl ?_
      refine zj_icmp_lt (tgt := 80) (pc' := 66) dX12_next_63 rfl (by decide) (fun c81 => ?_) (fun c81 => ?_)
      · have hy := zt_t hy c81
        exact HJ79 () hy
      · have hy := zt_f hy c81
        refine zj_aload_n (pc' := 67) 0 dX12_next_66 rfl rfl rfl ?_
        refine zj_aload_n (pc' := 68) 0 dX12_next_67 rfl rfl rfl ?_
        refine zj_fI (pc' := 71) dX12_next_68 rfl flX12_24 sh186 rfl zr_s rfl ?_
        obtain ⟨r0v82, er0v82⟩ : ∃ z, z = (zup r0v17 12 (r0v17 5)) := ⟨_, rfl⟩
        have hy := zlet_at er0v82 hy
        refine zj_pI (pc' := 74) (N := (zui M 186 r0v82)) dX12_next_71 rfl fpX12_150 sh186 rfl zr_s er0v82 zm_s ?_
        refine zj_aload_n (pc' := 75) 0 dX12_next_74 rfl rfl rfl ?_
        refine zj_iconst (pc' := 76) dX12_next_75 rfl kiconst_4 ?_
        obtain ⟨r0v83, er0v83⟩ : ∃ z, z = (zup r0v82 11 4) := ⟨_, rfl⟩
        have hy := zlet_at er0v83 hy
        refine zj_pI (pc' := 79) (N := (zui M 186 r0v83)) dX12_next_76 rfl fpX12_156 sh186 rfl zr_s er0v83 zm_s ?_
        have e9 := Option.some.inj hy
        subst e9
        refine zj_mem (N := (zui (zul M 186 w0) 186 r0v83)) (zself_l (zq_i e_l186) (zm_li rfl)) ?_
        exact zj_vret dX12_next_79 rfl hq
  have HL3 : ∀ (n : Nat) (r0v1 : Nat → Int32), zlp (fun s => fM_next_L0 r0_1 s) n r0v1 = some r4 → zR Γ 2 YX12_next 0 [(0, .ref (zad Γ 186))] [] (zui M 186 r0v1) Q := by
    intro n
    induction n with
    | zero => intro r0v1 hn9; cases hn9
    | succ n ih6 =>
      intro r0v1 hn9
      obtain ⟨o9, hb9, h7, h8⟩ := zlp_step hn9
      have hy : fM_next_L0 r0_1 r0v1 = some o9 := hb9
      unfold fM_next_L0 at hy
      refine zj_aload_n (pc' := 1) 0 dX12_next_0 rfl rfl rfl ?_
      obtain ⟨y9, hy9, hy⟩ := zt_b hy
      refine zj_V1 (pc' := 4) (z := YX12_peek) (As := []) (N := (zui M 186 r0v1)) dX12_next_1 rfl mlX12_146 lkX12_peek sh186 ⟨_, _, rfl⟩ rfl rfl (Nat.le_of_ble_eq_true rfl) (Nat.le_of_ble_eq_true rfl) (LX12_peek_186 Γ _ r0v1 r0_1 zr_s (zr_n rfl e_i187) hy9) rfl ?_
      refine zj_bipush (pc' := 6) dX12_next_4 rfl kbipush_32 ?_
      refine zj_icmp_eq (tgt := 18) (pc' := 9) dX12_next_6 rfl (by decide) (fun c10 => ?_) (fun c10 => ?_)
      · have hy := zt_t hy c10
        refine zj_aload_n (pc' := 19) 0 dX12_next_18 rfl rfl rfl ?_
        refine zj_dup (pc' := 20) dX12_next_19 rfl rfl ?_
        refine zj_fI (pc' := 23) dX12_next_20 rfl flX12_21 sh186 rfl zr_s rfl ?_
        refine zj_iconst (pc' := 24) dX12_next_23 rfl kiconst_1 ?_
        refine zj_iadd (pc' := 25) dX12_next_24 rfl ?_
        obtain ⟨r0v11, er0v11⟩ : ∃ z, z = (zup r0v1 4 ((r0v1 4) + 1)) := ⟨_, rfl⟩
        have hy := zlet_at er0v11 hy
        refine zj_pI (pc' := 28) (N := (zui M 186 r0v11)) dX12_next_25 rfl fpX12_21 sh186 rfl zr_s er0v11 zm_s ?_
        refine zj_goto (tgt := 0) dX12_next_28 (by decide) ?_
        have hn9 := h7 _ (Option.some.inj hy).symm
        exact ih6 _ hn9
      · have hy := zt_f hy c10
        refine zj_aload_n (pc' := 10) 0 dX12_next_9 rfl rfl rfl ?_
        obtain ⟨y12, hy12, hy⟩ := zt_b hy
        refine zj_V1 (pc' := 13) (z := YX12_peek) (As := []) (N := (zui M 186 r0v1)) dX12_next_10 rfl mlX12_146 lkX12_peek sh186 ⟨_, _, rfl⟩ rfl rfl (Nat.le_of_ble_eq_true rfl) (Nat.le_of_ble_eq_true rfl) (LX12_peek_186 Γ _ r0v1 r0_1 zr_s (zr_n rfl e_i187) hy12) rfl ?_
        refine zj_bipush (pc' := 15) dX12_next_13 rfl kbipush_10 ?_
        refine zj_icmp_ne (tgt := 31) (pc' := 18) dX12_next_15 rfl (by decide) (fun c13 => ?_) (fun c13 => ?_)
        · have hy := zt_f hy c13
          have e9 := h8 _ (Option.some.inj hy).symm
          exact HE2 _ e9.symm
        · have hy := zt_t hy c13
          refine zj_aload_n (pc' := 19) 0 dX12_next_18 rfl rfl rfl ?_
          refine zj_dup (pc' := 20) dX12_next_19 rfl rfl ?_
          refine zj_fI (pc' := 23) dX12_next_20 rfl flX12_21 sh186 rfl zr_s rfl ?_
          refine zj_iconst (pc' := 24) dX12_next_23 rfl kiconst_1 ?_
          refine zj_iadd (pc' := 25) dX12_next_24 rfl ?_
          obtain ⟨r0v14, er0v14⟩ : ∃ z, z = (zup r0v1 4 ((r0v1 4) + 1)) := ⟨_, rfl⟩
          have hy := zlet_at er0v14 hy
          refine zj_pI (pc' := 28) (N := (zui M 186 r0v14)) dX12_next_25 rfl fpX12_21 sh186 rfl zr_s er0v14 zm_s ?_
          refine zj_goto (tgt := 0) dX12_next_28 (by decide) ?_
          have hn9 := h7 _ (Option.some.inj hy).symm
          exact ih6 _ hn9
  exact HL3 n9 _ hn9
set_option maxRecDepth 20000 in
theorem LX12_next_186 (Γ : zG) (M : zM) (r0 : Nat → Int32) (w0 : Nat → Int64) (r0_1 : Nat → Int32) (e_i186 : M.1 186 = r0) (e_l186 : M.2 186 = w0) (e_i187 : M.1 187 = r0_1)  {res : (Nat → Int32) × (Nat → Int64)} (hy : (fM_next r0 w0 r0_1) = some res) : zK Γ 2 YX12_next [.ref (zad Γ 186)] M (fun v N => v = none ∧ N = (zui (zul M 186 res.2) 186 res.1)) :=
  zK_of (by decide) (Nat.le_of_ble_eq_true rfl) (TX12_next_186 Γ M r0 w0 r0_1 e_i186 e_l186 e_i187 hy ⟨rfl, rfl⟩)

noncomputable def fM_isWord (r0 : Nat → Int32) (w0 : Nat → Int64) (a1 : Int64) : Bool :=
  (if (r0 11) = 1 then (if (lg_cmp (w0 17) a1) = 0 then true else false) else false)

set_option maxRecDepth 20000 in
theorem TX12_isWord_186 (Γ : zG) {Q : Option Value → zM → Prop} (M : zM) (r0 : Nat → Int32) (w0 : Nat → Int64) (e_i186 : M.1 186 = r0) (e_l186 : M.2 186 = w0) (a1 : Int64) {res : Bool} (hy : (fM_isWord r0 w0 a1) = res) (hq : Q (some (.int (zb res))) M) : zR Γ 1 YX12_isWord 0 [(0, .ref (zad Γ 186)), (1, .long a1)] [] M Q := by
  unfold fM_isWord at hy
  refine zj_aload_n (pc' := 1) 0 dX12_isWord_0 rfl rfl rfl ?_
  refine zj_fI (pc' := 4) dX12_isWord_1 rfl flX12_156 sh186 rfl e_i186 rfl ?_
  refine zj_iconst (pc' := 5) dX12_isWord_4 rfl kiconst_1 ?_
  have HJ1 : zR Γ 1 YX12_isWord 22 [(0, .ref (zad Γ 186)), (1, .long a1)] [.int (zb (if (r0 11) = 1 then (if (lg_cmp (w0 17) a1) = 0 then true else false) else false))] M Q := by
    subst hy
    exact zj_bret (b := (if (r0 11) = 1 then (if (lg_cmp (w0 17) a1) = 0 then true else false) else false)) dX12_isWord_22 rfl hq
  refine zj_icmp_ne (tgt := 21) (pc' := 8) dX12_isWord_5 rfl (by decide) (fun c2 => ?_) (fun c2 => ?_)
  · refine zj_iconst (pc' := 22) dX12_isWord_21 rfl kiconst_0 ?_
    exact zj_eqb (b := false) (if_neg c2) HJ1
  · refine zj_aload_n (pc' := 9) 0 dX12_isWord_8 rfl rfl rfl ?_
    refine zj_fL (pc' := 12) dX12_isWord_9 rfl flX12_169 sh186 rfl e_l186 rfl ?_
    refine zj_lload_n (pc' := 13) 1 dX12_isWord_12 rfl rfl rfl ?_
    refine zj_lcmp (pc' := 14) dX12_isWord_13 rfl ?_
    refine zj_if_ne (tgt := 21) (pc' := 17) dX12_isWord_14 rfl (by decide) (fun c3 => ?_) (fun c3 => ?_)
    · refine zj_iconst (pc' := 22) dX12_isWord_21 rfl kiconst_0 ?_
      exact zj_eqb (b := false) ((if_pos c2).trans (if_neg c3)) HJ1
    · refine zj_iconst (pc' := 18) dX12_isWord_17 rfl kiconst_1 ?_
      refine zj_goto (tgt := 22) dX12_isWord_18 (by decide) ?_
      exact zj_eqb (b := true) ((if_pos c2).trans (if_pos c3)) HJ1
set_option maxRecDepth 20000 in
theorem LX12_isWord_186 (Γ : zG) (M : zM) (r0 : Nat → Int32) (w0 : Nat → Int64) (e_i186 : M.1 186 = r0) (e_l186 : M.2 186 = w0) (a1 : Int64) {res : Bool} (hy : (fM_isWord r0 w0 a1) = res) : zK Γ 1 YX12_isWord [.ref (zad Γ 186), .long a1] M (fun v N => v = some (.int (zb res)) ∧ N = M) :=
  zK_of (by decide) (Nat.le_of_ble_eq_true rfl) (TX12_isWord_186 Γ M r0 w0 e_i186 e_l186 a1 hy ⟨rfl, rfl⟩)

noncomputable def fM_bad (r0 : Nat → Int32) (a1 : Int32) : Option (Bool × (Nat → Int32)) :=
  zlet (zup r0 15 a1) (fun (r0v1 : Nat → Int32) =>
  zlet (zup r0v1 16 (r0v1 12)) (fun (r0v2 : Nat → Int32) =>
  some (false, r0v2)))

set_option maxRecDepth 20000 in
theorem TX12_bad_186 (Γ : zG) {Q : Option Value → zM → Prop} (M : zM) (r0 : Nat → Int32) (e_i186 : M.1 186 = r0) (a1 : Int32) {res : Bool × (Nat → Int32)} (hy : (fM_bad r0 a1) = some res) (hq : Q (some (.int (zb res.1))) (zui M 186 res.2)) : zR Γ 1 YX12_bad 0 [(0, .ref (zad Γ 186)), (1, .int a1)] [] M Q := by
  unfold fM_bad at hy
  refine zj_aload_n (pc' := 1) 0 dX12_bad_0 rfl rfl rfl ?_
  refine zj_iload_n (pc' := 2) 1 dX12_bad_1 rfl rfl rfl ?_
  obtain ⟨r0v1, er0v1⟩ : ∃ z, z = (zup r0 15 a1) := ⟨_, rfl⟩
  have hy := zlet_at er0v1 hy
  refine zj_pI (pc' := 5) (N := (zui M 186 r0v1)) dX12_bad_2 rfl fpX12_173 sh186 rfl e_i186 er0v1 rfl ?_
  refine zj_aload_n (pc' := 6) 0 dX12_bad_5 rfl rfl rfl ?_
  refine zj_aload_n (pc' := 7) 0 dX12_bad_6 rfl rfl rfl ?_
  refine zj_fI (pc' := 10) dX12_bad_7 rfl flX12_150 sh186 rfl zr_s rfl ?_
  obtain ⟨r0v2, er0v2⟩ : ∃ z, z = (zup r0v1 16 (r0v1 12)) := ⟨_, rfl⟩
  have hy := zlet_at er0v2 hy
  refine zj_pI (pc' := 13) (N := (zui M 186 r0v2)) dX12_bad_10 rfl fpX12_176 sh186 rfl zr_s er0v2 zm_s ?_
  refine zj_iconst (pc' := 14) dX12_bad_13 rfl kiconst_0 ?_
  have e9 := Option.some.inj hy
  subst e9
  exact zj_bret (b := false) dX12_bad_14 rfl hq
set_option maxRecDepth 20000 in
theorem LX12_bad_186 (Γ : zG) (M : zM) (r0 : Nat → Int32) (e_i186 : M.1 186 = r0) (a1 : Int32) {res : Bool × (Nat → Int32)} (hy : (fM_bad r0 a1) = some res) : zK Γ 1 YX12_bad [.ref (zad Γ 186), .int a1] M (fun v N => v = some (.int (zb res.1)) ∧ N = (zui M 186 res.2)) :=
  zK_of (by decide) (Nat.le_of_ble_eq_true rfl) (TX12_bad_186 Γ M r0 e_i186 a1 hy ⟨rfl, rfl⟩)

noncomputable def fM_isName_L16 (w0 : Nat → Int64) (w0_10 : Nat → Int64) (x3 : Int32) (x4 : Int32) : Option ((Int32 × Int32) ⊕ (Int32)) :=
  (if 22 ≤ x4 then
  some (.inr x3)
  else
  (if x3 = 0 then
  zlet (x4 + 1) (fun (x14 : Int32) =>
  some (.inl (0, x14)))
  else
  (zrd w0_10 22 x4).bind (fun (v15 : Int64) =>
  zlet (x4 + 1) (fun (x18 : Int32) =>
  some (.inl ((zb (if (lg_cmp (w0 17) v15) = 0 then false else true)), x18))))))
noncomputable def fM_isName (r0 : Nat → Int32) (w0 : Nat → Int64) (w0_10 : Nat → Int64) : Option (Bool) :=
  (zLP (fun s => fM_isName_L16 w0 w0_10 s.1 s.2) ((zb (if (r0 11) = 1 then true else false)), 0)).bind (fun r7 =>
  (if r7 = 0 ∨ r7 = 1 then some (decide (r7 = 1)) else none))

set_option maxRecDepth 20000 in
theorem TX12_isName_186 (Γ : zG) {Q : Option Value → zM → Prop} (M : zM) (r0 : Nat → Int32) (w0 : Nat → Int64) (w0_10 : Nat → Int64) (e_i186 : M.1 186 = r0) (e_l186 : M.2 186 = w0) (e_l192 : M.2 192 = w0_10)  {res : Bool} (hy : (fM_isName r0 w0 w0_10) = some res) (hq : Q (some (.int (zb res))) M) : zR Γ 1 YX12_isName 0 [(0, .ref (zad Γ 186))] [] M Q := by
  unfold fM_isName at hy
  refine zj_aload_n (pc' := 1) 0 dX12_isName_0 rfl rfl rfl ?_
  refine zj_fI (pc' := 4) dX12_isName_1 rfl flX12_156 sh186 rfl e_i186 rfl ?_
  refine zj_iconst (pc' := 5) dX12_isName_4 rfl kiconst_1 ?_
  have HJ1 : zR Γ 1 YX12_isName 13 [(0, .ref (zad Γ 186))] [.int (zb (if (r0 11) = 1 then true else false))] M Q := by
    refine zj_istore_n (pc' := 14) (L' := [(1, .int (zb (if (r0 11) = 1 then true else false))), (0, .ref (zad Γ 186))]) dX12_isName_13 rfl rfl (by decide) rfl ?_
    refine zj_iconst (pc' := 15) dX12_isName_14 rfl kiconst_0 ?_
    refine zj_istore_n (pc' := 16) (L' := [(2, .int 0), (1, .int (zb (if (r0 11) = 1 then true else false))), (0, .ref (zad Γ 186))]) dX12_isName_15 rfl rfl (by decide) rfl ?_
    refine zj_loc [2, 1, 0] rfl ?_
    obtain ⟨r7, hr9, hyo8⟩ := zt_b hy
    obtain ⟨n9, hn9⟩ := zLP_some hr9
    have HE5 : ∀ (x19 : Int32), r7 = x19 → zR Γ 1 YX12_isName 52 [(1, .int x19)] [] M Q := by
      intro x19 e9
      have hy := hyo8
      try rw [e9] at hy
      try dsimp only at hy
      refine zj_iload_n (pc' := 53) 0 dX12_isName_52 rfl rfl rfl ?_
      obtain ⟨cz9, hz9⟩ := zck hy
      have e9 := Option.some.inj hz9
      subst e9
      exact zj_cret dX12_isName_53 rfl cz9 hq
    have HL6 : ∀ (n : Nat) (x3 : Int32) (x4 : Int32), zlp (fun s => fM_isName_L16 w0 w0_10 s.1 s.2) n (x3, x4) = some r7 → zR Γ 1 YX12_isName 16 [(0, .ref (zad Γ 186)), (1, .int x3), (2, .int x4)] [] M Q := by
      intro n
      induction n with
      | zero => intro x3 x4 hn9; cases hn9
      | succ n ih9 =>
        intro x3 x4 hn9
        obtain ⟨o9, hb9, h10, h11⟩ := zlp_step hn9
        have hy : fM_isName_L16 w0 w0_10 x3 x4 = some o9 := hb9
        unfold fM_isName_L16 at hy
        refine zj_iload_n (pc' := 17) 2 dX12_isName_16 rfl rfl rfl ?_
        refine zj_bipush (pc' := 19) dX12_isName_17 rfl kbipush_22 ?_
        refine zj_icmp_ge (tgt := 52) (pc' := 22) dX12_isName_19 rfl (by decide) (fun c12 => ?_) (fun c12 => ?_)
        · have hy := zt_t hy c12
          have e9 := h11 _ (Option.some.inj hy).symm
          refine zj_loc [1] rfl ?_
          exact HE5 _ e9.symm
        · have hy := zt_f hy c12
          refine zj_iload_n (pc' := 23) 1 dX12_isName_22 rfl rfl rfl ?_
          refine zj_if_eq (tgt := 44) (pc' := 26) dX12_isName_23 rfl (by decide) (fun c13 => ?_) (fun c13 => ?_)
          · have hy := zt_t hy c13
            refine zj_iconst (pc' := 45) dX12_isName_44 rfl kiconst_0 ?_
            refine zj_istore_n (pc' := 46) (L' := [(1, .int 0), (0, .ref (zad Γ 186)), (2, .int x4)]) dX12_isName_45 rfl rfl (by decide) rfl ?_
            obtain ⟨x14, ex14⟩ : ∃ z : Int32, z = (x4 + 1) := ⟨_, rfl⟩
            have hy := zlet_at ex14 hy
            refine zj_iinc (pc' := 49) 2 (L' := [(2, .int x14), (1, .int 0), (0, .ref (zad Γ 186))]) dX12_isName_46 rfl rfl (by decide) (by rw [ci1, ← ex14]; rfl) ?_
            refine zj_goto (tgt := 16) dX12_isName_49 (by decide) ?_
            have hn9 := h10 _ (Option.some.inj hy).symm
            refine zj_loc [2, 1, 0] rfl ?_
            exact ih9 _ _ hn9
          · have hy := zt_f hy c13
            refine zj_aload_n (pc' := 27) 0 dX12_isName_26 rfl rfl rfl ?_
            refine zj_fL (pc' := 30) dX12_isName_27 rfl flX12_169 sh186 rfl e_l186 rfl ?_
            refine zj_aload_n (pc' := 31) 0 dX12_isName_30 rfl rfl rfl ?_
            refine zj_getR (pc' := 34) (j := 192) dX12_isName_31 rfl flX12_47 sh186 rfl ?_
            refine zj_iload_n (pc' := 35) 2 dX12_isName_34 rfl rfl rfl ?_
            obtain ⟨v15, hv15, hy⟩ := zt_b hy
            refine zj_rdl (pc' := 36) dX12_isName_35 rfl sh192 e_l192 hv15 ?_
            refine zj_lcmp (pc' := 37) dX12_isName_36 rfl ?_
            have HJ16 : zR Γ 1 YX12_isName 45 [(0, .ref (zad Γ 186)), (1, .int x3), (2, .int x4)] [.int (zb (if (lg_cmp (w0 17) v15) = 0 then false else true))] M Q := by
              refine zj_istore_n (pc' := 46) (L' := [(1, .int (zb (if (lg_cmp (w0 17) v15) = 0 then false else true))), (0, .ref (zad Γ 186)), (2, .int x4)]) dX12_isName_45 rfl rfl (by decide) rfl ?_
              obtain ⟨x18, ex18⟩ : ∃ z : Int32, z = (x4 + 1) := ⟨_, rfl⟩
              have hy := zlet_at ex18 hy
              refine zj_iinc (pc' := 49) 2 (L' := [(2, .int x18), (1, .int (zb (if (lg_cmp (w0 17) v15) = 0 then false else true))), (0, .ref (zad Γ 186))]) dX12_isName_46 rfl rfl (by decide) (by rw [ci1, ← ex18]; rfl) ?_
              refine zj_goto (tgt := 16) dX12_isName_49 (by decide) ?_
              have hn9 := h10 _ (Option.some.inj hy).symm
              refine zj_loc [2, 1, 0] rfl ?_
              exact ih9 _ _ hn9
            refine zj_if_eq (tgt := 44) (pc' := 40) dX12_isName_37 rfl (by decide) (fun c17 => ?_) (fun c17 => ?_)
            · refine zj_iconst (pc' := 45) dX12_isName_44 rfl kiconst_0 ?_
              exact zj_eqb (b := false) (if_pos c17) HJ16
            · refine zj_iconst (pc' := 41) dX12_isName_40 rfl kiconst_1 ?_
              refine zj_goto (tgt := 45) dX12_isName_41 (by decide) ?_
              exact zj_eqb (b := true) (if_neg c17) HJ16
    exact HL6 n9 _ _ hn9
  refine zj_icmp_ne (tgt := 12) (pc' := 8) dX12_isName_5 rfl (by decide) (fun c2 => ?_) (fun c2 => ?_)
  · refine zj_iconst (pc' := 13) dX12_isName_12 rfl kiconst_0 ?_
    exact zj_eqb (b := false) (if_neg c2) HJ1
  · refine zj_iconst (pc' := 9) dX12_isName_8 rfl kiconst_1 ?_
    refine zj_goto (tgt := 13) dX12_isName_9 (by decide) ?_
    exact zj_eqb (b := true) (if_pos c2) HJ1
set_option maxRecDepth 20000 in
theorem LX12_isName_186 (Γ : zG) (M : zM) (r0 : Nat → Int32) (w0 : Nat → Int64) (w0_10 : Nat → Int64) (e_i186 : M.1 186 = r0) (e_l186 : M.2 186 = w0) (e_l192 : M.2 192 = w0_10)  {res : Bool} (hy : (fM_isName r0 w0 w0_10) = some res) : zK Γ 1 YX12_isName [.ref (zad Γ 186)] M (fun v N => v = some (.int (zb res)) ∧ N = M) :=
  zK_of (by decide) (Nat.le_of_ble_eq_true rfl) (TX12_isName_186 Γ M r0 w0 w0_10 e_i186 e_l186 e_l192 hy ⟨rfl, rfl⟩)

noncomputable def fM_seek_L2 (w0 : Nat → Int64) (w0_9 : Nat → Int64) (a1 : Int32) (a2 : Int32) (x1 : Int32) : Option ((Int32) ⊕ (Int32)) :=
  (if a2 ≤ x1 then
  some (.inr (-1))
  else
  (zrd w0_9 28 (a1 + x1)).bind (fun (v10 : Int64) =>
  (if (lg_cmp v10 (w0 17)) = 0 then
  some (.inr x1)
  else
  zlet (x1 + 1) (fun (x12 : Int32) =>
  some (.inl x12)))))
noncomputable def fM_seek (w0 : Nat → Int64) (w0_9 : Nat → Int64) (a1 : Int32) (a2 : Int32) : Option (Int32) :=
  zLP (fun s => fM_seek_L2 w0 w0_9 a1 a2 s) 0

set_option maxRecDepth 20000 in
theorem TX12_seek_186 (Γ : zG) {Q : Option Value → zM → Prop} (M : zM) (w0 : Nat → Int64) (w0_9 : Nat → Int64) (e_l186 : M.2 186 = w0) (e_l191 : M.2 191 = w0_9) (a1 : Int32) (a2 : Int32) {res : Int32} (hy : (fM_seek w0 w0_9 a1 a2) = some res) (hq : Q (some (.int res)) M) : zR Γ 1 YX12_seek 0 [(0, .ref (zad Γ 186)), (1, .int a1), (2, .int a2)] [] M Q := by
  unfold fM_seek at hy
  refine zj_iconst (pc' := 1) dX12_seek_0 rfl kiconst_0 ?_
  refine zj_istore_n (pc' := 2) (L' := [(3, .int 0), (0, .ref (zad Γ 186)), (1, .int a1), (2, .int a2)]) dX12_seek_1 rfl rfl (by decide) rfl ?_
  refine zj_loc [1, 2, 3, 0] rfl ?_
  obtain ⟨n9, hn9⟩ := zLP_some hy
  have HL3 : ∀ (n : Nat) (x1 : Int32), zlp (fun s => fM_seek_L2 w0 w0_9 a1 a2 s) n x1 = some res → zR Γ 1 YX12_seek 2 [(0, .ref (zad Γ 186)), (1, .int a1), (2, .int a2), (3, .int x1)] [] M Q := by
    intro n
    induction n with
    | zero => intro x1 hn9; cases hn9
    | succ n ih6 =>
      intro x1 hn9
      obtain ⟨o9, hb9, h7, h8⟩ := zlp_step hn9
      have hy : fM_seek_L2 w0 w0_9 a1 a2 x1 = some o9 := hb9
      unfold fM_seek_L2 at hy
      refine zj_iload_n (pc' := 3) 3 dX12_seek_2 rfl rfl rfl ?_
      refine zj_iload_n (pc' := 4) 2 dX12_seek_3 rfl rfl rfl ?_
      refine zj_icmp_ge (tgt := 31) (pc' := 7) dX12_seek_4 rfl (by decide) (fun c9 => ?_) (fun c9 => ?_)
      · have hy := zt_t hy c9
        refine zj_iconst (pc' := 32) dX12_seek_31 rfl kiconst_m1 ?_
        have e9 := h8 _ (Option.some.inj hy).symm
        subst e9
        exact zj_iret dX12_seek_32 rfl hq
      · have hy := zt_f hy c9
        refine zj_aload_n (pc' := 8) 0 dX12_seek_7 rfl rfl rfl ?_
        refine zj_getR (pc' := 11) (j := 191) dX12_seek_8 rfl flX12_43 sh186 rfl ?_
        refine zj_iload_n (pc' := 12) 1 dX12_seek_11 rfl rfl rfl ?_
        refine zj_iload_n (pc' := 13) 3 dX12_seek_12 rfl rfl rfl ?_
        refine zj_iadd (pc' := 14) dX12_seek_13 rfl ?_
        obtain ⟨v10, hv10, hy⟩ := zt_b hy
        refine zj_rdl (pc' := 15) dX12_seek_14 rfl sh191 e_l191 hv10 ?_
        refine zj_aload_n (pc' := 16) 0 dX12_seek_15 rfl rfl rfl ?_
        refine zj_fL (pc' := 19) dX12_seek_16 rfl flX12_169 sh186 rfl e_l186 rfl ?_
        refine zj_lcmp (pc' := 20) dX12_seek_19 rfl ?_
        refine zj_if_ne (tgt := 25) (pc' := 23) dX12_seek_20 rfl (by decide) (fun c11 => ?_) (fun c11 => ?_)
        · have hy := zt_f hy c11
          obtain ⟨x12, ex12⟩ : ∃ z : Int32, z = (x1 + 1) := ⟨_, rfl⟩
          have hy := zlet_at ex12 hy
          refine zj_iinc (pc' := 28) 3 (L' := [(3, .int x12), (0, .ref (zad Γ 186)), (1, .int a1), (2, .int a2)]) dX12_seek_25 rfl rfl (by decide) (by rw [ci1, ← ex12]; rfl) ?_
          refine zj_goto (tgt := 2) dX12_seek_28 (by decide) ?_
          have hn9 := h7 _ (Option.some.inj hy).symm
          refine zj_loc [1, 2, 3, 0] rfl ?_
          exact ih6 _ hn9
        · have hy := zt_t hy c11
          refine zj_iload_n (pc' := 24) 3 dX12_seek_23 rfl rfl rfl ?_
          have e9 := h8 _ (Option.some.inj hy).symm
          subst e9
          exact zj_iret dX12_seek_24 rfl hq
  exact HL3 n9 _ hn9
set_option maxRecDepth 20000 in
theorem LX12_seek_186 (Γ : zG) (M : zM) (w0 : Nat → Int64) (w0_9 : Nat → Int64) (e_l186 : M.2 186 = w0) (e_l191 : M.2 191 = w0_9) (a1 : Int32) (a2 : Int32) {res : Int32} (hy : (fM_seek w0 w0_9 a1 a2) = some res) : zK Γ 1 YX12_seek [.ref (zad Γ 186), .int a1, .int a2] M (fun v N => v = some (.int res) ∧ N = M) :=
  zK_of (by decide) (Nat.le_of_ble_eq_true rfl) (TX12_seek_186 Γ M w0 w0_9 e_l186 e_l191 a1 a2 hy ⟨rfl, rfl⟩)

noncomputable def fM_fresh (r0 : Nat → Int32) (w0 : Nat → Int64) (r0_1 : Nat → Int32) (r0_7 : Nat → Int32) (w0_9 : Nat → Int64) (w0_10 : Nat → Int64) (a1 : Int32) : Option (Bool × (Nat → Int32) × (Nat → Int64) × (Nat → Int64)) :=
  (fM_isName r0 w0 w0_10).bind (fun (y1 : Bool) =>
  (if y1 = true then
  (fM_seek w0 w0_9 14 (r0_7 0)).bind (fun (y3 : Int32) =>
  (if 0 ≤ y3 then
  (fM_bad r0 3).bind (fun (y5 : Bool × (Nat → Int32)) =>
  some (y5.1, y5.2, w0, w0_9))
  else
  (fM_seek w0 w0_9 22 (r0_7 2)).bind (fun (y6 : Int32) =>
  (if y6 < 0 then
  (zwr w0_9 28 a1 (w0 17)).bind (fun (w0_9v8 : Nat → Int64) =>
  (fM_next r0 w0 r0_1).bind (fun (y9 : (Nat → Int32) × (Nat → Int64)) =>
  some (true, y9.1, y9.2, w0_9v8)))
  else
  (fM_bad r0 3).bind (fun (y10 : Bool × (Nat → Int32)) =>
  some (y10.1, y10.2, w0, w0_9))))))
  else
  (fM_bad r0 1).bind (fun (y11 : Bool × (Nat → Int32)) =>
  some (y11.1, y11.2, w0, w0_9))))

set_option maxRecDepth 20000 in
theorem TX12_fresh_186 (Γ : zG) {Q : Option Value → zM → Prop} (M : zM) (r0 : Nat → Int32) (w0 : Nat → Int64) (r0_1 : Nat → Int32) (r0_7 : Nat → Int32) (w0_9 : Nat → Int64) (w0_10 : Nat → Int64) (e_i186 : M.1 186 = r0) (e_l186 : M.2 186 = w0) (e_i187 : M.1 187 = r0_1) (e_i189 : M.1 189 = r0_7) (e_l191 : M.2 191 = w0_9) (e_l192 : M.2 192 = w0_10) (a1 : Int32) {res : Bool × (Nat → Int32) × (Nat → Int64) × (Nat → Int64)} (hy : (fM_fresh r0 w0 r0_1 r0_7 w0_9 w0_10 a1) = some res) (hq : Q (some (.int (zb res.1))) (zui (zul (zul M 186 res.2.2.1) 191 res.2.2.2) 186 res.2.1)) : zR Γ 3 YX12_fresh 0 [(0, .ref (zad Γ 186)), (1, .int a1)] [] M Q := by
  unfold fM_fresh at hy
  refine zj_aload_n (pc' := 1) 0 dX12_fresh_0 rfl rfl rfl ?_
  obtain ⟨y1, hy1, hy⟩ := zt_b hy
  refine zj_V1 (pc' := 4) (z := YX12_isName) (As := []) (N := M) dX12_fresh_1 rfl mlX12_199 lkX12_isName sh186 ⟨_, _, rfl⟩ rfl rfl (Nat.le_of_ble_eq_true rfl) (Nat.le_of_ble_eq_true rfl) (LX12_isName_186 Γ _ r0 w0 w0_10 e_i186 e_l186 e_l192 hy1) rfl ?_
  refine zj_bif_ne (tgt := 13) (pc' := 7) dX12_fresh_4 rfl (by decide) (fun c2 => ?_) (fun c2 => ?_)
  · have hy := zt_t hy c2
    refine zj_aload_n (pc' := 14) 0 dX12_fresh_13 rfl rfl rfl ?_
    refine zj_bipush (pc' := 16) dX12_fresh_14 rfl kbipush_14 ?_
    refine zj_aload_n (pc' := 17) 0 dX12_fresh_16 rfl rfl rfl ?_
    refine zj_getR (pc' := 20) (j := 189) dX12_fresh_17 rfl flX12_37 sh186 rfl ?_
    refine zj_iconst (pc' := 21) dX12_fresh_20 rfl kiconst_0 ?_
    refine zj_rdi (pc' := 22) dX12_fresh_21 rfl sh189 e_i189 (zrdK zi0_89 tn0) ?_
    obtain ⟨y3, hy3, hy⟩ := zt_b hy
    refine zj_V1 (pc' := 25) (z := YX12_seek) (As := [.int 14, .int (r0_7 0)]) (N := M) dX12_fresh_22 rfl mlX12_203 lkX12_seek sh186 ⟨_, _, rfl⟩ rfl rfl (Nat.le_of_ble_eq_true rfl) (Nat.le_of_ble_eq_true rfl) (LX12_seek_186 Γ _ w0 w0_9 e_l186 e_l191 14 (r0_7 0) hy3) rfl ?_
    refine zj_if_ge (tgt := 43) (pc' := 28) dX12_fresh_25 rfl (by decide) (fun c4 => ?_) (fun c4 => ?_)
    · have hy := zt_t hy c4
      refine zj_aload_n (pc' := 44) 0 dX12_fresh_43 rfl rfl rfl ?_
      refine zj_iconst (pc' := 45) dX12_fresh_44 rfl kiconst_3 ?_
      obtain ⟨y5, hy5, hy⟩ := zt_b hy
      refine zj_V1 (pc' := 48) (z := YX12_bad) (As := [.int 3]) (N := (zui M 186 y5.2)) dX12_fresh_45 rfl mlX12_182 lkX12_bad sh186 ⟨_, _, rfl⟩ rfl rfl (Nat.le_of_ble_eq_true rfl) (Nat.le_of_ble_eq_true rfl) (LX12_bad_186 Γ _ r0 e_i186 3 hy5) (rfl).symm ?_
      have e9 := Option.some.inj hy
      subst e9
      refine zj_mem (N := (zui (zul M 186 w0) 186 y5.2)) (zself_l (zq_i e_l186) (zm_li rfl)) ?_
      refine zj_mem (N := (zui (zul (zul M 186 w0) 191 w0_9) 186 y5.2)) (zself_l (zq_i (zq_n rfl e_l191)) (zm_li rfl)) ?_
      exact zj_bret (b := y5.1) dX12_fresh_48 rfl hq
    · have hy := zt_f hy c4
      refine zj_aload_n (pc' := 29) 0 dX12_fresh_28 rfl rfl rfl ?_
      refine zj_bipush (pc' := 31) dX12_fresh_29 rfl kbipush_22 ?_
      refine zj_aload_n (pc' := 32) 0 dX12_fresh_31 rfl rfl rfl ?_
      refine zj_getR (pc' := 35) (j := 189) dX12_fresh_32 rfl flX12_37 sh186 rfl ?_
      refine zj_iconst (pc' := 36) dX12_fresh_35 rfl kiconst_2 ?_
      refine zj_rdi (pc' := 37) dX12_fresh_36 rfl sh189 e_i189 (zrdK zi2_89 tn2) ?_
      obtain ⟨y6, hy6, hy⟩ := zt_b hy
      refine zj_V1 (pc' := 40) (z := YX12_seek) (As := [.int 22, .int (r0_7 2)]) (N := M) dX12_fresh_37 rfl mlX12_203 lkX12_seek sh186 ⟨_, _, rfl⟩ rfl rfl (Nat.le_of_ble_eq_true rfl) (Nat.le_of_ble_eq_true rfl) (LX12_seek_186 Γ _ w0 w0_9 e_l186 e_l191 22 (r0_7 2) hy6) rfl ?_
      refine zj_if_lt (tgt := 49) (pc' := 43) dX12_fresh_40 rfl (by decide) (fun c7 => ?_) (fun c7 => ?_)
      · have hy := zt_t hy c7
        refine zj_aload_n (pc' := 50) 0 dX12_fresh_49 rfl rfl rfl ?_
        refine zj_getR (pc' := 53) (j := 191) dX12_fresh_50 rfl flX12_43 sh186 rfl ?_
        refine zj_iload_n (pc' := 54) 1 dX12_fresh_53 rfl rfl rfl ?_
        refine zj_aload_n (pc' := 55) 0 dX12_fresh_54 rfl rfl rfl ?_
        refine zj_fL (pc' := 58) dX12_fresh_55 rfl flX12_169 sh186 rfl e_l186 rfl ?_
        obtain ⟨w0_9v8, hw0_9v8, hy⟩ := zt_b hy
        refine zj_wrl (pc' := 59) (N := (zul M 191 w0_9v8)) dX12_fresh_58 rfl sh191 e_l191 hw0_9v8 rfl ?_
        refine zj_aload_n (pc' := 60) 0 dX12_fresh_59 rfl rfl rfl ?_
        obtain ⟨y9, hy9, hy⟩ := zt_b hy
        refine zj_V0 (pc' := 63) (z := YX12_next) (As := []) (N := (zui (zul (zul M 186 y9.2) 191 w0_9v8) 186 y9.1)) dX12_fresh_60 rfl mlX12_185 lkX12_next sh186 ⟨_, _, rfl⟩ rfl rfl (Nat.le_of_ble_eq_true rfl) (Nat.le_of_ble_eq_true rfl) (LX12_next_186 Γ _ r0 w0 r0_1 (zr_l e_i186) (zq_n rfl e_l186) (zr_l e_i187) hy9) ((zch_i (zn_n rfl rfl) rfl)).symm ?_
        refine zj_iconst (pc' := 64) dX12_fresh_63 rfl kiconst_1 ?_
        have e9 := Option.some.inj hy
        subst e9
        exact zj_bret (b := true) dX12_fresh_64 rfl hq
      · have hy := zt_f hy c7
        refine zj_aload_n (pc' := 44) 0 dX12_fresh_43 rfl rfl rfl ?_
        refine zj_iconst (pc' := 45) dX12_fresh_44 rfl kiconst_3 ?_
        obtain ⟨y10, hy10, hy⟩ := zt_b hy
        refine zj_V1 (pc' := 48) (z := YX12_bad) (As := [.int 3]) (N := (zui M 186 y10.2)) dX12_fresh_45 rfl mlX12_182 lkX12_bad sh186 ⟨_, _, rfl⟩ rfl rfl (Nat.le_of_ble_eq_true rfl) (Nat.le_of_ble_eq_true rfl) (LX12_bad_186 Γ _ r0 e_i186 3 hy10) (rfl).symm ?_
        have e9 := Option.some.inj hy
        subst e9
        refine zj_mem (N := (zui (zul M 186 w0) 186 y10.2)) (zself_l (zq_i e_l186) (zm_li rfl)) ?_
        refine zj_mem (N := (zui (zul (zul M 186 w0) 191 w0_9) 186 y10.2)) (zself_l (zq_i (zq_n rfl e_l191)) (zm_li rfl)) ?_
        exact zj_bret (b := y10.1) dX12_fresh_48 rfl hq
  · have hy := zt_f hy c2
    refine zj_aload_n (pc' := 8) 0 dX12_fresh_7 rfl rfl rfl ?_
    refine zj_iconst (pc' := 9) dX12_fresh_8 rfl kiconst_1 ?_
    obtain ⟨y11, hy11, hy⟩ := zt_b hy
    refine zj_V1 (pc' := 12) (z := YX12_bad) (As := [.int 1]) (N := (zui M 186 y11.2)) dX12_fresh_9 rfl mlX12_182 lkX12_bad sh186 ⟨_, _, rfl⟩ rfl rfl (Nat.le_of_ble_eq_true rfl) (Nat.le_of_ble_eq_true rfl) (LX12_bad_186 Γ _ r0 e_i186 1 hy11) (rfl).symm ?_
    have e9 := Option.some.inj hy
    subst e9
    refine zj_mem (N := (zui (zul M 186 w0) 186 y11.2)) (zself_l (zq_i e_l186) (zm_li rfl)) ?_
    refine zj_mem (N := (zui (zul (zul M 186 w0) 191 w0_9) 186 y11.2)) (zself_l (zq_i (zq_n rfl e_l191)) (zm_li rfl)) ?_
    exact zj_bret (b := y11.1) dX12_fresh_12 rfl hq
set_option maxRecDepth 20000 in
theorem LX12_fresh_186 (Γ : zG) (M : zM) (r0 : Nat → Int32) (w0 : Nat → Int64) (r0_1 : Nat → Int32) (r0_7 : Nat → Int32) (w0_9 : Nat → Int64) (w0_10 : Nat → Int64) (e_i186 : M.1 186 = r0) (e_l186 : M.2 186 = w0) (e_i187 : M.1 187 = r0_1) (e_i189 : M.1 189 = r0_7) (e_l191 : M.2 191 = w0_9) (e_l192 : M.2 192 = w0_10) (a1 : Int32) {res : Bool × (Nat → Int32) × (Nat → Int64) × (Nat → Int64)} (hy : (fM_fresh r0 w0 r0_1 r0_7 w0_9 w0_10 a1) = some res) : zK Γ 3 YX12_fresh [.ref (zad Γ 186), .int a1] M (fun v N => v = some (.int (zb res.1)) ∧ N = (zui (zul (zul M 186 res.2.2.1) 191 res.2.2.2) 186 res.2.1)) :=
  zK_of (by decide) (Nat.le_of_ble_eq_true rfl) (TX12_fresh_186 Γ M r0 w0 r0_1 r0_7 w0_9 w0_10 e_i186 e_l186 e_i187 e_i189 e_l191 e_l192 a1 hy ⟨rfl, rfl⟩)

