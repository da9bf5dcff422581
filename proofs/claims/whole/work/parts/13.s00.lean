noncomputable def fLn_addText_s1_L2 (r0v1 : Nat → Int32) (r0_0v2 : Nat → Int32) (x3 : Int32) : Option (((Nat → Int32) × (Nat → Int32) × Int32) ⊕ ((Nat → Int32) × (Nat → Int32))) :=
  (if 4 ≤ x3 then
  some (.inr (r0v1, r0_0v2))
  else
  (zrd (zchr 1) 4 x3).bind (fun (v12 : Int32) =>
  (fLn_addByte r0v1 r0_0v2 v12).bind (fun (y13 : (Nat → Int32) × (Nat → Int32)) =>
  zlet (x3 + 1) (fun (x14 : Int32) =>
  some (.inl (y13.1, y13.2, x14))))))
noncomputable def fLn_addText_s1 (r0 : Nat → Int32) (r0_0 : Nat → Int32) : Option ((Nat → Int32) × (Nat → Int32)) :=
  (zLP (fun s => fLn_addText_s1_L2 s.1 s.2.1 s.2.2) (r0, r0_0, 0)).bind (fun r6 =>
  some (r6.1, r6.2))

set_option maxRecDepth 20000 in
theorem TX5_addText_183_s1 (Γ : zG) {Q : Option Value → zM → Prop} (M : zM) (r0 : Nat → Int32) (r0_0 : Nat → Int32) (e_i183 : M.1 183 = r0) (e_i184 : M.1 184 = r0_0)  {res : (Nat → Int32) × (Nat → Int32)} (hy : (fLn_addText_s1 r0 r0_0) = some res) (hq : Q none (zui (zui M 183 res.1) 184 res.2)) : zR Γ 5 YX5_addText 0 [(0, .ref (zad Γ 183)), (1, .ref (Γ.2.2.2.2.1 1))] [] M Q := by
  unfold fLn_addText_s1 at hy
  refine zj_iconst (pc' := 1) dX5_addText_0 rfl kiconst_0 ?_
  refine zj_istore_n (pc' := 2) (L' := [(2, .int 0), (0, .ref (zad Γ 183)), (1, .ref (Γ.2.2.2.2.1 1))]) dX5_addText_1 rfl rfl (by decide) rfl ?_
  refine zj_loc [1, 2, 0] rfl ?_
  refine zj_mem (N := (zui M 183 r0)) (zself_i e_i183 rfl) ?_
  refine zj_mem (N := (zui (zui M 183 r0) 184 r0_0)) (zself_i (zr_n rfl e_i184) rfl) ?_
  obtain ⟨r6, hr9, hyo7⟩ := zt_b hy
  obtain ⟨n9, hn9⟩ := zLP_some hr9
  have HE4 : ∀ (r0v15 : Nat → Int32) (r0_0v16 : Nat → Int32), r6 = (r0v15, r0_0v16) → zR Γ 5 YX5_addText 25 [] [] (zui (zui M 183 r0v15) 184 r0_0v16) Q := by
    intro r0v15 r0_0v16 e9
    have hy := hyo7
    try rw [e9] at hy
    try dsimp only at hy
    have e9 := Option.some.inj hy
    subst e9
    exact zj_vret dX5_addText_25 rfl hq
  have HL5 : ∀ (n : Nat) (r0v1 : Nat → Int32) (r0_0v2 : Nat → Int32) (x3 : Int32), zlp (fun s => fLn_addText_s1_L2 s.1 s.2.1 s.2.2) n (r0v1, r0_0v2, x3) = some r6 → zR Γ 5 YX5_addText 2 [(0, .ref (zad Γ 183)), (1, .ref (Γ.2.2.2.2.1 1)), (2, .int x3)] [] (zui (zui M 183 r0v1) 184 r0_0v2) Q := by
    intro n
    induction n with
    | zero => intro r0v1 r0_0v2 x3 hn9; cases hn9
    | succ n ih8 =>
      intro r0v1 r0_0v2 x3 hn9
      obtain ⟨o9, hb9, h9, h10⟩ := zlp_step hn9
      have hy : fLn_addText_s1_L2 r0v1 r0_0v2 x3 = some o9 := hb9
      unfold fLn_addText_s1_L2 at hy
      refine zj_iload_n (pc' := 3) 2 dX5_addText_2 rfl rfl rfl ?_
      refine zj_aload_n (pc' := 4) 1 dX5_addText_3 rfl rfl rfl ?_
      refine zj_VS (pc' := 7) (z := YJ0_length_8abf5) (As := []) (N := (zui (zui M 183 r0v1) 184 r0_0v2)) dX5_addText_4 rfl mlX5_19 lkJ0_length_8abf5 rfl (by decide) rfl rfl (Nat.le_of_ble_eq_true rfl) (Nat.le_of_ble_eq_true rfl) (LS_len Γ _ 1 (by decide)) rfl ?_
      refine zj_icmp_ge (tgt := 25) (pc' := 10) dX5_addText_7 rfl (by decide) (fun c11 => ?_) (fun c11 => ?_)
      · have hy := zt_t hy c11
        have e9 := h10 _ (Option.some.inj hy).symm
        refine zj_loc [] rfl ?_
        exact HE4 _ _ e9.symm
      · have hy := zt_f hy c11
        refine zj_aload_n (pc' := 11) 0 dX5_addText_10 rfl rfl rfl ?_
        refine zj_aload_n (pc' := 12) 1 dX5_addText_11 rfl rfl rfl ?_
        refine zj_iload_n (pc' := 13) 2 dX5_addText_12 rfl rfl rfl ?_
        obtain ⟨v12, hv12, hy⟩ := zt_b hy
        refine zj_VS (pc' := 16) (z := YJ0_charAt_5068e) (As := [.int x3]) (N := (zui (zui M 183 r0v1) 184 r0_0v2)) dX5_addText_13 rfl mlX5_25 lkJ0_charAt_5068e rfl (by decide) rfl rfl (Nat.le_of_ble_eq_true rfl) (Nat.le_of_ble_eq_true rfl) (LS_chr Γ _ 1 (by decide) x3 hv12) rfl ?_
        obtain ⟨y13, hy13, hy⟩ := zt_b hy
        refine zj_V0 (pc' := 19) (z := YX5_addByte) (As := [.int v12]) (N := (zui (zui M 183 y13.1) 184 y13.2)) dX5_addText_16 rfl mlX5_29 lkX5_addByte sh183 ⟨_, _, rfl⟩ rfl rfl (Nat.le_of_ble_eq_true rfl) (Nat.le_of_ble_eq_true rfl) (LX5_addByte_183 Γ _ r0v1 r0_0v2 (zr_n rfl zr_s) zr_s v12 hy13) ((zch_i (zm_n rfl zm_s) zm_s)).symm ?_
        obtain ⟨x14, ex14⟩ : ∃ z : Int32, z = (x3 + 1) := ⟨_, rfl⟩
        have hy := zlet_at ex14 hy
        refine zj_iinc (pc' := 22) 2 (L' := [(2, .int x14), (0, .ref (zad Γ 183)), (1, .ref (Γ.2.2.2.2.1 1))]) dX5_addText_19 rfl rfl (by decide) (by rw [ci1, ← ex14]; rfl) ?_
        refine zj_goto (tgt := 2) dX5_addText_22 (by decide) ?_
        have hn9 := h9 _ (Option.some.inj hy).symm
        refine zj_loc [1, 2, 0] rfl ?_
        exact ih8 _ _ _ hn9
  exact HL5 n9 _ _ _ hn9
set_option maxRecDepth 20000 in
theorem LX5_addText_183_s1 (Γ : zG) (M : zM) (r0 : Nat → Int32) (r0_0 : Nat → Int32) (e_i183 : M.1 183 = r0) (e_i184 : M.1 184 = r0_0)  {res : (Nat → Int32) × (Nat → Int32)} (hy : (fLn_addText_s1 r0 r0_0) = some res) : zK Γ 5 YX5_addText [.ref (zad Γ 183), .ref (Γ.2.2.2.2.1 1)] M (fun v N => v = none ∧ N = (zui (zui M 183 res.1) 184 res.2)) :=
  zK_of (by decide) (Nat.le_of_ble_eq_true rfl) (TX5_addText_183_s1 Γ M r0 r0_0 e_i183 e_i184 hy ⟨rfl, rfl⟩)

noncomputable def fPl_cornerName (r0 : Nat → Int32) (w0_0 : Nat → Int64) (a1 : Int32) : Option (Int64) :=
  (if (fPl_hasCorner r0 a1) = true then
  (zrd w0_0 8 a1).bind (fun (v2 : Int64) =>
  some v2)
  else
  some (0 : Int64))

set_option maxRecDepth 20000 in
theorem TX7_cornerName_5 (Γ : zG) {Q : Option Value → zM → Prop} (M : zM) (r0 : Nat → Int32) (w0_0 : Nat → Int64) (e_i5 : M.1 5 = r0) (e_l6 : M.2 6 = w0_0) (a1 : Int32) {res : Int64} (hy : (fPl_cornerName r0 w0_0 a1) = some res) (hq : Q (some (.long res)) M) : zR Γ 2 YX7_cornerName 0 [(0, .ref (zad Γ 5)), (1, .int a1)] [] M Q := by
  unfold fPl_cornerName at hy
  refine zj_aload_n (pc' := 1) 0 dX7_cornerName_0 rfl rfl rfl ?_
  refine zj_iload_n (pc' := 2) 1 dX7_cornerName_1 rfl rfl rfl ?_
  refine zj_V1 (pc' := 5) (z := YX7_hasCorner) (As := [.int a1]) (N := M) dX7_cornerName_2 rfl mlX7_35 lkX7_hasCorner sh5 ⟨_, _, rfl⟩ rfl rfl (Nat.le_of_ble_eq_true rfl) (Nat.le_of_ble_eq_true rfl) (LX7_hasCorner_5 Γ _ r0 e_i5 a1 rfl) rfl ?_
  refine zj_bif_eq (tgt := 17) (pc' := 8) dX7_cornerName_5 rfl (by decide) (fun c1 => ?_) (fun c1 => ?_)
  · have hy := zt_f hy c1
    refine zj_lconst (pc' := 18) (v := 0) dX7_cornerName_17 rfl (by decide) ?_
    have e9 := Option.some.inj hy
    subst e9
    exact zj_lret dX7_cornerName_18 rfl hq
  · have hy := zt_t hy c1
    refine zj_aload_n (pc' := 9) 0 dX7_cornerName_8 rfl rfl rfl ?_
    refine zj_getR (pc' := 12) (j := 6) dX7_cornerName_9 rfl flX7_9 sh5 rfl ?_
    refine zj_iload_n (pc' := 13) 1 dX7_cornerName_12 rfl rfl rfl ?_
    obtain ⟨v2, hv2, hy⟩ := zt_b hy
    refine zj_rdl (pc' := 14) dX7_cornerName_13 rfl sh6 e_l6 hv2 ?_
    refine zj_goto (tgt := 18) dX7_cornerName_14 (by decide) ?_
    have e9 := Option.some.inj hy
    subst e9
    exact zj_lret dX7_cornerName_18 rfl hq
set_option maxRecDepth 20000 in
theorem LX7_cornerName_5 (Γ : zG) (M : zM) (r0 : Nat → Int32) (w0_0 : Nat → Int64) (e_i5 : M.1 5 = r0) (e_l6 : M.2 6 = w0_0) (a1 : Int32) {res : Int64} (hy : (fPl_cornerName r0 w0_0 a1) = some res) : zK Γ 2 YX7_cornerName [.ref (zad Γ 5), .int a1] M (fun v N => v = some (.long res) ∧ N = M) :=
  zK_of (by decide) (Nat.le_of_ble_eq_true rfl) (TX7_cornerName_5 Γ M r0 w0_0 e_i5 e_l6 a1 hy ⟨rfl, rfl⟩)

noncomputable def fLn_addText_s2_L2 (r0v1 : Nat → Int32) (r0_0v2 : Nat → Int32) (x3 : Int32) : Option (((Nat → Int32) × (Nat → Int32) × Int32) ⊕ ((Nat → Int32) × (Nat → Int32))) :=
  (if 7 ≤ x3 then
  some (.inr (r0v1, r0_0v2))
  else
  (zrd (zchr 2) 7 x3).bind (fun (v12 : Int32) =>
  (fLn_addByte r0v1 r0_0v2 v12).bind (fun (y13 : (Nat → Int32) × (Nat → Int32)) =>
  zlet (x3 + 1) (fun (x14 : Int32) =>
  some (.inl (y13.1, y13.2, x14))))))
noncomputable def fLn_addText_s2 (r0 : Nat → Int32) (r0_0 : Nat → Int32) : Option ((Nat → Int32) × (Nat → Int32)) :=
  (zLP (fun s => fLn_addText_s2_L2 s.1 s.2.1 s.2.2) (r0, r0_0, 0)).bind (fun r6 =>
  some (r6.1, r6.2))

set_option maxRecDepth 20000 in
theorem TX5_addText_183_s2 (Γ : zG) {Q : Option Value → zM → Prop} (M : zM) (r0 : Nat → Int32) (r0_0 : Nat → Int32) (e_i183 : M.1 183 = r0) (e_i184 : M.1 184 = r0_0)  {res : (Nat → Int32) × (Nat → Int32)} (hy : (fLn_addText_s2 r0 r0_0) = some res) (hq : Q none (zui (zui M 183 res.1) 184 res.2)) : zR Γ 5 YX5_addText 0 [(0, .ref (zad Γ 183)), (1, .ref (Γ.2.2.2.2.1 2))] [] M Q := by
  unfold fLn_addText_s2 at hy
  refine zj_iconst (pc' := 1) dX5_addText_0 rfl kiconst_0 ?_
  refine zj_istore_n (pc' := 2) (L' := [(2, .int 0), (0, .ref (zad Γ 183)), (1, .ref (Γ.2.2.2.2.1 2))]) dX5_addText_1 rfl rfl (by decide) rfl ?_
  refine zj_loc [1, 2, 0] rfl ?_
  refine zj_mem (N := (zui M 183 r0)) (zself_i e_i183 rfl) ?_
  refine zj_mem (N := (zui (zui M 183 r0) 184 r0_0)) (zself_i (zr_n rfl e_i184) rfl) ?_
  obtain ⟨r6, hr9, hyo7⟩ := zt_b hy
  obtain ⟨n9, hn9⟩ := zLP_some hr9
  have HE4 : ∀ (r0v15 : Nat → Int32) (r0_0v16 : Nat → Int32), r6 = (r0v15, r0_0v16) → zR Γ 5 YX5_addText 25 [] [] (zui (zui M 183 r0v15) 184 r0_0v16) Q := by
    intro r0v15 r0_0v16 e9
    have hy := hyo7
    try rw [e9] at hy
    try dsimp only at hy
    have e9 := Option.some.inj hy
    subst e9
    exact zj_vret dX5_addText_25 rfl hq
  have HL5 : ∀ (n : Nat) (r0v1 : Nat → Int32) (r0_0v2 : Nat → Int32) (x3 : Int32), zlp (fun s => fLn_addText_s2_L2 s.1 s.2.1 s.2.2) n (r0v1, r0_0v2, x3) = some r6 → zR Γ 5 YX5_addText 2 [(0, .ref (zad Γ 183)), (1, .ref (Γ.2.2.2.2.1 2)), (2, .int x3)] [] (zui (zui M 183 r0v1) 184 r0_0v2) Q := by
    intro n
    induction n with
    | zero => intro r0v1 r0_0v2 x3 hn9; cases hn9
    | succ n ih8 =>
      intro r0v1 r0_0v2 x3 hn9
      obtain ⟨o9, hb9, h9, h10⟩ := zlp_step hn9
      have hy : fLn_addText_s2_L2 r0v1 r0_0v2 x3 = some o9 := hb9
      unfold fLn_addText_s2_L2 at hy
      refine zj_iload_n (pc' := 3) 2 dX5_addText_2 rfl rfl rfl ?_
      refine zj_aload_n (pc' := 4) 1 dX5_addText_3 rfl rfl rfl ?_
      refine zj_VS (pc' := 7) (z := YJ0_length_8abf5) (As := []) (N := (zui (zui M 183 r0v1) 184 r0_0v2)) dX5_addText_4 rfl mlX5_19 lkJ0_length_8abf5 rfl (by decide) rfl rfl (Nat.le_of_ble_eq_true rfl) (Nat.le_of_ble_eq_true rfl) (LS_len Γ _ 2 (by decide)) rfl ?_
      refine zj_icmp_ge (tgt := 25) (pc' := 10) dX5_addText_7 rfl (by decide) (fun c11 => ?_) (fun c11 => ?_)
      · have hy := zt_t hy c11
        have e9 := h10 _ (Option.some.inj hy).symm
        refine zj_loc [] rfl ?_
        exact HE4 _ _ e9.symm
      · have hy := zt_f hy c11
        refine zj_aload_n (pc' := 11) 0 dX5_addText_10 rfl rfl rfl ?_
        refine zj_aload_n (pc' := 12) 1 dX5_addText_11 rfl rfl rfl ?_
        refine zj_iload_n (pc' := 13) 2 dX5_addText_12 rfl rfl rfl ?_
        obtain ⟨v12, hv12, hy⟩ := zt_b hy
        refine zj_VS (pc' := 16) (z := YJ0_charAt_5068e) (As := [.int x3]) (N := (zui (zui M 183 r0v1) 184 r0_0v2)) dX5_addText_13 rfl mlX5_25 lkJ0_charAt_5068e rfl (by decide) rfl rfl (Nat.le_of_ble_eq_true rfl) (Nat.le_of_ble_eq_true rfl) (LS_chr Γ _ 2 (by decide) x3 hv12) rfl ?_
        obtain ⟨y13, hy13, hy⟩ := zt_b hy
        refine zj_V0 (pc' := 19) (z := YX5_addByte) (As := [.int v12]) (N := (zui (zui M 183 y13.1) 184 y13.2)) dX5_addText_16 rfl mlX5_29 lkX5_addByte sh183 ⟨_, _, rfl⟩ rfl rfl (Nat.le_of_ble_eq_true rfl) (Nat.le_of_ble_eq_true rfl) (LX5_addByte_183 Γ _ r0v1 r0_0v2 (zr_n rfl zr_s) zr_s v12 hy13) ((zch_i (zm_n rfl zm_s) zm_s)).symm ?_
        obtain ⟨x14, ex14⟩ : ∃ z : Int32, z = (x3 + 1) := ⟨_, rfl⟩
        have hy := zlet_at ex14 hy
        refine zj_iinc (pc' := 22) 2 (L' := [(2, .int x14), (0, .ref (zad Γ 183)), (1, .ref (Γ.2.2.2.2.1 2))]) dX5_addText_19 rfl rfl (by decide) (by rw [ci1, ← ex14]; rfl) ?_
        refine zj_goto (tgt := 2) dX5_addText_22 (by decide) ?_
        have hn9 := h9 _ (Option.some.inj hy).symm
        refine zj_loc [1, 2, 0] rfl ?_
        exact ih8 _ _ _ hn9
  exact HL5 n9 _ _ _ hn9
set_option maxRecDepth 20000 in
theorem LX5_addText_183_s2 (Γ : zG) (M : zM) (r0 : Nat → Int32) (r0_0 : Nat → Int32) (e_i183 : M.1 183 = r0) (e_i184 : M.1 184 = r0_0)  {res : (Nat → Int32) × (Nat → Int32)} (hy : (fLn_addText_s2 r0 r0_0) = some res) : zK Γ 5 YX5_addText [.ref (zad Γ 183), .ref (Γ.2.2.2.2.1 2)] M (fun v N => v = none ∧ N = (zui (zui M 183 res.1) 184 res.2)) :=
  zK_of (by decide) (Nat.le_of_ble_eq_true rfl) (TX5_addText_183_s2 Γ M r0 r0_0 e_i183 e_i184 hy ⟨rfl, rfl⟩)

noncomputable def fLn_length (r0 : Nat → Int32) : Int32 :=
  (r0 1)

set_option maxRecDepth 20000 in
theorem TX5_length_183 (Γ : zG) {Q : Option Value → zM → Prop} (M : zM) (r0 : Nat → Int32) (e_i183 : M.1 183 = r0)  {res : Int32} (hy : (fLn_length r0) = res) (hq : Q (some (.int res)) M) : zR Γ 1 YX5_length 0 [(0, .ref (zad Γ 183))] [] M Q := by
  unfold fLn_length at hy
  refine zj_aload_n (pc' := 1) 0 dX5_length_0 rfl rfl rfl ?_
  refine zj_fI (pc' := 4) dX5_length_1 rfl flX5_15 sh183 rfl e_i183 rfl ?_
  subst hy
  exact zj_iret dX5_length_4 rfl hq
set_option maxRecDepth 20000 in
theorem LX5_length_183 (Γ : zG) (M : zM) (r0 : Nat → Int32) (e_i183 : M.1 183 = r0)  {res : Int32} (hy : (fLn_length r0) = res) : zK Γ 1 YX5_length [.ref (zad Γ 183)] M (fun v N => v = some (.int res) ∧ N = M) :=
  zK_of (by decide) (Nat.le_of_ble_eq_true rfl) (TX5_length_183 Γ M r0 e_i183 hy ⟨rfl, rfl⟩)

noncomputable def fLn_addText_s3_L2 (r0v1 : Nat → Int32) (r0_0v2 : Nat → Int32) (x3 : Int32) : Option (((Nat → Int32) × (Nat → Int32) × Int32) ⊕ ((Nat → Int32) × (Nat → Int32))) :=
  (if 6 ≤ x3 then
  some (.inr (r0v1, r0_0v2))
  else
  (zrd (zchr 3) 6 x3).bind (fun (v12 : Int32) =>
  (fLn_addByte r0v1 r0_0v2 v12).bind (fun (y13 : (Nat → Int32) × (Nat → Int32)) =>
  zlet (x3 + 1) (fun (x14 : Int32) =>
  some (.inl (y13.1, y13.2, x14))))))
noncomputable def fLn_addText_s3 (r0 : Nat → Int32) (r0_0 : Nat → Int32) : Option ((Nat → Int32) × (Nat → Int32)) :=
  (zLP (fun s => fLn_addText_s3_L2 s.1 s.2.1 s.2.2) (r0, r0_0, 0)).bind (fun r6 =>
  some (r6.1, r6.2))

set_option maxRecDepth 20000 in
theorem TX5_addText_183_s3 (Γ : zG) {Q : Option Value → zM → Prop} (M : zM) (r0 : Nat → Int32) (r0_0 : Nat → Int32) (e_i183 : M.1 183 = r0) (e_i184 : M.1 184 = r0_0)  {res : (Nat → Int32) × (Nat → Int32)} (hy : (fLn_addText_s3 r0 r0_0) = some res) (hq : Q none (zui (zui M 183 res.1) 184 res.2)) : zR Γ 5 YX5_addText 0 [(0, .ref (zad Γ 183)), (1, .ref (Γ.2.2.2.2.1 3))] [] M Q := by
  unfold fLn_addText_s3 at hy
  refine zj_iconst (pc' := 1) dX5_addText_0 rfl kiconst_0 ?_
  refine zj_istore_n (pc' := 2) (L' := [(2, .int 0), (0, .ref (zad Γ 183)), (1, .ref (Γ.2.2.2.2.1 3))]) dX5_addText_1 rfl rfl (by decide) rfl ?_
  refine zj_loc [1, 2, 0] rfl ?_
  refine zj_mem (N := (zui M 183 r0)) (zself_i e_i183 rfl) ?_
  refine zj_mem (N := (zui (zui M 183 r0) 184 r0_0)) (zself_i (zr_n rfl e_i184) rfl) ?_
  obtain ⟨r6, hr9, hyo7⟩ := zt_b hy
  obtain ⟨n9, hn9⟩ := zLP_some hr9
  have HE4 : ∀ (r0v15 : Nat → Int32) (r0_0v16 : Nat → Int32), r6 = (r0v15, r0_0v16) → zR Γ 5 YX5_addText 25 [] [] (zui (zui M 183 r0v15) 184 r0_0v16) Q := by
    intro r0v15 r0_0v16 e9
    have hy := hyo7
    try rw [e9] at hy
    try dsimp only at hy
    have e9 := Option.some.inj hy
    subst e9
    exact zj_vret dX5_addText_25 rfl hq
  have HL5 : ∀ (n : Nat) (r0v1 : Nat → Int32) (r0_0v2 : Nat → Int32) (x3 : Int32), zlp (fun s => fLn_addText_s3_L2 s.1 s.2.1 s.2.2) n (r0v1, r0_0v2, x3) = some r6 → zR Γ 5 YX5_addText 2 [(0, .ref (zad Γ 183)), (1, .ref (Γ.2.2.2.2.1 3)), (2, .int x3)] [] (zui (zui M 183 r0v1) 184 r0_0v2) Q := by
    intro n
    induction n with
    | zero => intro r0v1 r0_0v2 x3 hn9; cases hn9
    | succ n ih8 =>
      intro r0v1 r0_0v2 x3 hn9
      obtain ⟨o9, hb9, h9, h10⟩ := zlp_step hn9
      have hy : fLn_addText_s3_L2 r0v1 r0_0v2 x3 = some o9 := hb9
      unfold fLn_addText_s3_L2 at hy
      refine zj_iload_n (pc' := 3) 2 dX5_addText_2 rfl rfl rfl ?_
      refine zj_aload_n (pc' := 4) 1 dX5_addText_3 rfl rfl rfl ?_
      refine zj_VS (pc' := 7) (z := YJ0_length_8abf5) (As := []) (N := (zui (zui M 183 r0v1) 184 r0_0v2)) dX5_addText_4 rfl mlX5_19 lkJ0_length_8abf5 rfl (by decide) rfl rfl (Nat.le_of_ble_eq_true rfl) (Nat.le_of_ble_eq_true rfl) (LS_len Γ _ 3 (by decide)) rfl ?_
      refine zj_icmp_ge (tgt := 25) (pc' := 10) dX5_addText_7 rfl (by decide) (fun c11 => ?_) (fun c11 => ?_)
      · have hy := zt_t hy c11
        have e9 := h10 _ (Option.some.inj hy).symm
        refine zj_loc [] rfl ?_
        exact HE4 _ _ e9.symm
      · have hy := zt_f hy c11
        refine zj_aload_n (pc' := 11) 0 dX5_addText_10 rfl rfl rfl ?_
        refine zj_aload_n (pc' := 12) 1 dX5_addText_11 rfl rfl rfl ?_
        refine zj_iload_n (pc' := 13) 2 dX5_addText_12 rfl rfl rfl ?_
        obtain ⟨v12, hv12, hy⟩ := zt_b hy
        refine zj_VS (pc' := 16) (z := YJ0_charAt_5068e) (As := [.int x3]) (N := (zui (zui M 183 r0v1) 184 r0_0v2)) dX5_addText_13 rfl mlX5_25 lkJ0_charAt_5068e rfl (by decide) rfl rfl (Nat.le_of_ble_eq_true rfl) (Nat.le_of_ble_eq_true rfl) (LS_chr Γ _ 3 (by decide) x3 hv12) rfl ?_
        obtain ⟨y13, hy13, hy⟩ := zt_b hy
        refine zj_V0 (pc' := 19) (z := YX5_addByte) (As := [.int v12]) (N := (zui (zui M 183 y13.1) 184 y13.2)) dX5_addText_16 rfl mlX5_29 lkX5_addByte sh183 ⟨_, _, rfl⟩ rfl rfl (Nat.le_of_ble_eq_true rfl) (Nat.le_of_ble_eq_true rfl) (LX5_addByte_183 Γ _ r0v1 r0_0v2 (zr_n rfl zr_s) zr_s v12 hy13) ((zch_i (zm_n rfl zm_s) zm_s)).symm ?_
        obtain ⟨x14, ex14⟩ : ∃ z : Int32, z = (x3 + 1) := ⟨_, rfl⟩
        have hy := zlet_at ex14 hy
        refine zj_iinc (pc' := 22) 2 (L' := [(2, .int x14), (0, .ref (zad Γ 183)), (1, .ref (Γ.2.2.2.2.1 3))]) dX5_addText_19 rfl rfl (by decide) (by rw [ci1, ← ex14]; rfl) ?_
        refine zj_goto (tgt := 2) dX5_addText_22 (by decide) ?_
        have hn9 := h9 _ (Option.some.inj hy).symm
        refine zj_loc [1, 2, 0] rfl ?_
        exact ih8 _ _ _ hn9
  exact HL5 n9 _ _ _ hn9
set_option maxRecDepth 20000 in
theorem LX5_addText_183_s3 (Γ : zG) (M : zM) (r0 : Nat → Int32) (r0_0 : Nat → Int32) (e_i183 : M.1 183 = r0) (e_i184 : M.1 184 = r0_0)  {res : (Nat → Int32) × (Nat → Int32)} (hy : (fLn_addText_s3 r0 r0_0) = some res) : zK Γ 5 YX5_addText [.ref (zad Γ 183), .ref (Γ.2.2.2.2.1 3)] M (fun v N => v = none ∧ N = (zui (zui M 183 res.1) 184 res.2)) :=
  zK_of (by decide) (Nat.le_of_ble_eq_true rfl) (TX5_addText_183_s3 Γ M r0 r0_0 e_i183 e_i184 hy ⟨rfl, rfl⟩)

noncomputable def fLn_addDigit (r0 : Nat → Int32) (r0_0 : Nat → Int32) (a1 : Int32) : Option ((Nat → Int32) × (Nat → Int32)) :=
  (fLn_addByte r0 r0_0 (48 + a1)).bind (fun (y1 : (Nat → Int32) × (Nat → Int32)) =>
  some (y1.1, y1.2))

set_option maxRecDepth 20000 in
theorem TX5_addDigit_183 (Γ : zG) {Q : Option Value → zM → Prop} (M : zM) (r0 : Nat → Int32) (r0_0 : Nat → Int32) (e_i183 : M.1 183 = r0) (e_i184 : M.1 184 = r0_0) (a1 : Int32) {res : (Nat → Int32) × (Nat → Int32)} (hy : (fLn_addDigit r0 r0_0 a1) = some res) (hq : Q none (zui (zui M 183 res.1) 184 res.2)) : zR Γ 2 YX5_addDigit 0 [(0, .ref (zad Γ 183)), (1, .int a1)] [] M Q := by
  unfold fLn_addDigit at hy
  refine zj_aload_n (pc' := 1) 0 dX5_addDigit_0 rfl rfl rfl ?_
  refine zj_bipush (pc' := 3) dX5_addDigit_1 rfl kbipush_48 ?_
  refine zj_iload_n (pc' := 4) 1 dX5_addDigit_3 rfl rfl rfl ?_
  refine zj_iadd (pc' := 5) dX5_addDigit_4 rfl ?_
  obtain ⟨y1, hy1, hy⟩ := zt_b hy
  refine zj_V0 (pc' := 8) (z := YX5_addByte) (As := [.int (48 + a1)]) (N := (zui (zui M 183 y1.1) 184 y1.2)) dX5_addDigit_5 rfl mlX5_29 lkX5_addByte sh183 ⟨_, _, rfl⟩ rfl rfl (Nat.le_of_ble_eq_true rfl) (Nat.le_of_ble_eq_true rfl) (LX5_addByte_183 Γ _ r0 r0_0 e_i183 e_i184 (48 + a1) hy1) ((zch_i rfl rfl)).symm ?_
  have e9 := Option.some.inj hy
  subst e9
  exact zj_vret dX5_addDigit_8 rfl hq
set_option maxRecDepth 20000 in
theorem LX5_addDigit_183 (Γ : zG) (M : zM) (r0 : Nat → Int32) (r0_0 : Nat → Int32) (e_i183 : M.1 183 = r0) (e_i184 : M.1 184 = r0_0) (a1 : Int32) {res : (Nat → Int32) × (Nat → Int32)} (hy : (fLn_addDigit r0 r0_0 a1) = some res) : zK Γ 2 YX5_addDigit [.ref (zad Γ 183), .int a1] M (fun v N => v = none ∧ N = (zui (zui M 183 res.1) 184 res.2)) :=
  zK_of (by decide) (Nat.le_of_ble_eq_true rfl) (TX5_addDigit_183 Γ M r0 r0_0 e_i183 e_i184 a1 hy ⟨rfl, rfl⟩)

noncomputable def fLn_addText_s4_L2 (r0v1 : Nat → Int32) (r0_0v2 : Nat → Int32) (x3 : Int32) : Option (((Nat → Int32) × (Nat → Int32) × Int32) ⊕ ((Nat → Int32) × (Nat → Int32))) :=
  (if 6 ≤ x3 then
  some (.inr (r0v1, r0_0v2))
  else
  (zrd (zchr 4) 6 x3).bind (fun (v12 : Int32) =>
  (fLn_addByte r0v1 r0_0v2 v12).bind (fun (y13 : (Nat → Int32) × (Nat → Int32)) =>
  zlet (x3 + 1) (fun (x14 : Int32) =>
  some (.inl (y13.1, y13.2, x14))))))
noncomputable def fLn_addText_s4 (r0 : Nat → Int32) (r0_0 : Nat → Int32) : Option ((Nat → Int32) × (Nat → Int32)) :=
  (zLP (fun s => fLn_addText_s4_L2 s.1 s.2.1 s.2.2) (r0, r0_0, 0)).bind (fun r6 =>
  some (r6.1, r6.2))

set_option maxRecDepth 20000 in
theorem TX5_addText_183_s4 (Γ : zG) {Q : Option Value → zM → Prop} (M : zM) (r0 : Nat → Int32) (r0_0 : Nat → Int32) (e_i183 : M.1 183 = r0) (e_i184 : M.1 184 = r0_0)  {res : (Nat → Int32) × (Nat → Int32)} (hy : (fLn_addText_s4 r0 r0_0) = some res) (hq : Q none (zui (zui M 183 res.1) 184 res.2)) : zR Γ 5 YX5_addText 0 [(0, .ref (zad Γ 183)), (1, .ref (Γ.2.2.2.2.1 4))] [] M Q := by
  unfold fLn_addText_s4 at hy
  refine zj_iconst (pc' := 1) dX5_addText_0 rfl kiconst_0 ?_
  refine zj_istore_n (pc' := 2) (L' := [(2, .int 0), (0, .ref (zad Γ 183)), (1, .ref (Γ.2.2.2.2.1 4))]) dX5_addText_1 rfl rfl (by decide) rfl ?_
  refine zj_loc [1, 2, 0] rfl ?_
  refine zj_mem (N := (zui M 183 r0)) (zself_i e_i183 rfl) ?_
  refine zj_mem (N := (zui (zui M 183 r0) 184 r0_0)) (zself_i (zr_n rfl e_i184) rfl) ?_
  obtain ⟨r6, hr9, hyo7⟩ := zt_b hy
  obtain ⟨n9, hn9⟩ := zLP_some hr9
  have HE4 : ∀ (r0v15 : Nat → Int32) (r0_0v16 : Nat → Int32), r6 = (r0v15, r0_0v16) → zR Γ 5 YX5_addText 25 [] [] (zui (zui M 183 r0v15) 184 r0_0v16) Q := by
    intro r0v15 r0_0v16 e9
    have hy := hyo7
    try rw [e9] at hy
    try dsimp only at hy
    have e9 := Option.some.inj hy
    subst e9
    exact zj_vret dX5_addText_25 rfl hq
  have HL5 : ∀ (n : Nat) (r0v1 : Nat → Int32) (r0_0v2 : Nat → Int32) (x3 : Int32), zlp (fun s => fLn_addText_s4_L2 s.1 s.2.1 s.2.2) n (r0v1, r0_0v2, x3) = some r6 → zR Γ 5 YX5_addText 2 [(0, .ref (zad Γ 183)), (1, .ref (Γ.2.2.2.2.1 4)), (2, .int x3)] [] (zui (zui M 183 r0v1) 184 r0_0v2) Q := by
    intro n
    induction n with
    | zero => intro r0v1 r0_0v2 x3 hn9; cases hn9
    | succ n ih8 =>
      intro r0v1 r0_0v2 x3 hn9
      obtain ⟨o9, hb9, h9, h10⟩ := zlp_step hn9
      have hy : fLn_addText_s4_L2 r0v1 r0_0v2 x3 = some o9 := hb9
      unfold fLn_addText_s4_L2 at hy
      refine zj_iload_n (pc' := 3) 2 dX5_addText_2 rfl rfl rfl ?_
      refine zj_aload_n (pc' := 4) 1 dX5_addText_3 rfl rfl rfl ?_
      refine zj_VS (pc' := 7) (z := YJ0_length_8abf5) (As := []) (N := (zui (zui M 183 r0v1) 184 r0_0v2)) dX5_addText_4 rfl mlX5_19 lkJ0_length_8abf5 rfl (by decide) rfl rfl (Nat.le_of_ble_eq_true rfl) (Nat.le_of_ble_eq_true rfl) (LS_len Γ _ 4 (by decide)) rfl ?_
      refine zj_icmp_ge (tgt := 25) (pc' := 10) dX5_addText_7 rfl (by decide) (fun c11 => ?_) (fun c11 => ?_)
      · have hy := zt_t hy c11
        have e9 := h10 _ (Option.some.inj hy).symm
        refine zj_loc [] rfl ?_
        exact HE4 _ _ e9.symm
      · have hy := zt_f hy c11
        refine zj_aload_n (pc' := 11) 0 dX5_addText_10 rfl rfl rfl ?_
        refine zj_aload_n (pc' := 12) 1 dX5_addText_11 rfl rfl rfl ?_
        refine zj_iload_n (pc' := 13) 2 dX5_addText_12 rfl rfl rfl ?_
        obtain ⟨v12, hv12, hy⟩ := zt_b hy
        refine zj_VS (pc' := 16) (z := YJ0_charAt_5068e) (As := [.int x3]) (N := (zui (zui M 183 r0v1) 184 r0_0v2)) dX5_addText_13 rfl mlX5_25 lkJ0_charAt_5068e rfl (by decide) rfl rfl (Nat.le_of_ble_eq_true rfl) (Nat.le_of_ble_eq_true rfl) (LS_chr Γ _ 4 (by decide) x3 hv12) rfl ?_
        obtain ⟨y13, hy13, hy⟩ := zt_b hy
        refine zj_V0 (pc' := 19) (z := YX5_addByte) (As := [.int v12]) (N := (zui (zui M 183 y13.1) 184 y13.2)) dX5_addText_16 rfl mlX5_29 lkX5_addByte sh183 ⟨_, _, rfl⟩ rfl rfl (Nat.le_of_ble_eq_true rfl) (Nat.le_of_ble_eq_true rfl) (LX5_addByte_183 Γ _ r0v1 r0_0v2 (zr_n rfl zr_s) zr_s v12 hy13) ((zch_i (zm_n rfl zm_s) zm_s)).symm ?_
        obtain ⟨x14, ex14⟩ : ∃ z : Int32, z = (x3 + 1) := ⟨_, rfl⟩
        have hy := zlet_at ex14 hy
        refine zj_iinc (pc' := 22) 2 (L' := [(2, .int x14), (0, .ref (zad Γ 183)), (1, .ref (Γ.2.2.2.2.1 4))]) dX5_addText_19 rfl rfl (by decide) (by rw [ci1, ← ex14]; rfl) ?_
        refine zj_goto (tgt := 2) dX5_addText_22 (by decide) ?_
        have hn9 := h9 _ (Option.some.inj hy).symm
        refine zj_loc [1, 2, 0] rfl ?_
        exact ih8 _ _ _ hn9
  exact HL5 n9 _ _ _ hn9
set_option maxRecDepth 20000 in
theorem LX5_addText_183_s4 (Γ : zG) (M : zM) (r0 : Nat → Int32) (r0_0 : Nat → Int32) (e_i183 : M.1 183 = r0) (e_i184 : M.1 184 = r0_0)  {res : (Nat → Int32) × (Nat → Int32)} (hy : (fLn_addText_s4 r0 r0_0) = some res) : zK Γ 5 YX5_addText [.ref (zad Γ 183), .ref (Γ.2.2.2.2.1 4)] M (fun v N => v = none ∧ N = (zui (zui M 183 res.1) 184 res.2)) :=
  zK_of (by decide) (Nat.le_of_ble_eq_true rfl) (TX5_addText_183_s4 Γ M r0 r0_0 e_i183 e_i184 hy ⟨rfl, rfl⟩)

noncomputable def fX_line (r0_2 : Nat → Int32) (w0_2_0 : Nat → Int64) (w0_2_1 : Nat → Int64) (r0_4_0 : Nat → Int32) (r0_4_2 : Nat → Int32) (r0_4_5 : Nat → Int32) (r0_13 : Nat → Int32) (r0_13_0 : Nat → Int32) (a1 : Int32) : Option (Int32 × (Nat → Int32) × (Nat → Int32)) :=
  (if (fPl_hasPerson r0_2 a1) = true then
  (fLn_clear r0_13).bind (fun (y2 : (Nat → Int32)) =>
  (fPl_personName r0_2 w0_2_1 a1).bind (fun (y3 : Int64) =>
  (fLn_addName y2 r0_13_0 y3).bind (fun (y4 : (Nat → Int32) × (Nat → Int32)) =>
  (fLn_addText_s1 y4.1 y4.2).bind (fun (y5 : (Nat → Int32) × (Nat → Int32)) =>
  (fDy_whereIs r0_4_0 a1).bind (fun (y6 : Int32) =>
  (fPl_cornerName r0_2 w0_2_0 y6).bind (fun (y7 : Int64) =>
  (fLn_addName y5.1 y5.2 y7).bind (fun (y8 : (Nat → Int32) × (Nat → Int32)) =>
  (fDy_followedBy r0_4_2 a1).bind (fun (y9 : Int32) =>
  (if y9 = (-1) then
  (fDy_wayLeft r0_4_5 a1).bind (fun (y11 : Int32) =>
  (if y11 ≤ 0 then
  (fLn_addText_s4 y8.1 y8.2).bind (fun (y13 : (Nat → Int32) × (Nat → Int32)) =>
  some ((fLn_length y13.1), y13.1, y13.2))
  else
  (fLn_addText_s3 y8.1 y8.2).bind (fun (y14 : (Nat → Int32) × (Nat → Int32)) =>
  (fDy_wayLeft r0_4_5 a1).bind (fun (y15 : Int32) =>
  (fLn_addDigit y14.1 y14.2 y15).bind (fun (y16 : (Nat → Int32) × (Nat → Int32)) =>
  some ((fLn_length y16.1), y16.1, y16.2))))))
  else
  (fLn_addText_s2 y8.1 y8.2).bind (fun (y17 : (Nat → Int32) × (Nat → Int32)) =>
  (fDy_followedBy r0_4_2 a1).bind (fun (y18 : Int32) =>
  (fPl_personName r0_2 w0_2_1 y18).bind (fun (y19 : Int64) =>
  (fLn_addName y17.1 y17.2 y19).bind (fun (y20 : (Nat → Int32) × (Nat → Int32)) =>
  some ((fLn_length y20.1), y20.1, y20.2))))))))))))))
  else
  some ((-1), r0_13, r0_13_0))

set_option maxRecDepth 20000 in
theorem TX11_line_0 (Γ : zG) {Q : Option Value → zM → Prop} (M : zM) (r0_2 : Nat → Int32) (w0_2_0 : Nat → Int64) (w0_2_1 : Nat → Int64) (r0_4_0 : Nat → Int32) (r0_4_2 : Nat → Int32) (r0_4_5 : Nat → Int32) (r0_13 : Nat → Int32) (r0_13_0 : Nat → Int32) (e_i5 : M.1 5 = r0_2) (e_l6 : M.2 6 = w0_2_0) (e_l7 : M.2 7 = w0_2_1) (e_i16 : M.1 16 = r0_4_0) (e_i18 : M.1 18 = r0_4_2) (e_i21 : M.1 21 = r0_4_5) (e_i183 : M.1 183 = r0_13) (e_i184 : M.1 184 = r0_13_0) (a1 : Int32) {res : Int32 × (Nat → Int32) × (Nat → Int32)} (hy : (fX_line r0_2 w0_2_0 w0_2_1 r0_4_0 r0_4_2 r0_4_5 r0_13 r0_13_0 a1) = some res) (hq : Q (some (.int res.1)) (zui (zui M 183 res.2.1) 184 res.2.2)) : zR Γ 6 YX11_line 0 [(0, .ref (zad Γ 0)), (1, .int a1)] [] M Q := by
  unfold fX_line at hy
  refine zj_aload_n (pc' := 1) 0 dX11_line_0 rfl rfl rfl ?_
  refine zj_getR (pc' := 4) (j := 5) dX11_line_1 rfl flX11_28 sh0 rfl ?_
  refine zj_iload_n (pc' := 5) 1 dX11_line_4 rfl rfl rfl ?_
  refine zj_V1 (pc' := 8) (z := YX7_hasPerson) (As := [.int a1]) (N := M) dX11_line_5 rfl mlX11_156 lkX7_hasPerson sh5 ⟨_, _, rfl⟩ rfl rfl (Nat.le_of_ble_eq_true rfl) (Nat.le_of_ble_eq_true rfl) (LX7_hasPerson_5 Γ _ r0_2 e_i5 a1 rfl) rfl ?_
  refine zj_bif_ne (tgt := 13) (pc' := 11) dX11_line_8 rfl (by decide) (fun c1 => ?_) (fun c1 => ?_)
  · have hy := zt_t hy c1
    refine zj_aload_n (pc' := 14) 0 dX11_line_13 rfl rfl rfl ?_
    refine zj_getR (pc' := 17) (j := 183) dX11_line_14 rfl flX11_92 sh0 rfl ?_
    obtain ⟨y2, hy2, hy⟩ := zt_b hy
    refine zj_V0 (pc' := 20) (z := YX5_clear) (As := []) (N := (zui M 183 y2)) dX11_line_17 rfl mlX11_316 lkX5_clear sh183 ⟨_, _, rfl⟩ rfl rfl (Nat.le_of_ble_eq_true rfl) (Nat.le_of_ble_eq_true rfl) (LX5_clear_183 Γ _ r0_13 e_i183 hy2) (rfl).symm ?_
    refine zj_aload_n (pc' := 21) 0 dX11_line_20 rfl rfl rfl ?_
    refine zj_getR (pc' := 24) (j := 183) dX11_line_21 rfl flX11_92 sh0 rfl ?_
    refine zj_aload_n (pc' := 25) 0 dX11_line_24 rfl rfl rfl ?_
    refine zj_getR (pc' := 28) (j := 5) dX11_line_25 rfl flX11_28 sh0 rfl ?_
    refine zj_iload_n (pc' := 29) 1 dX11_line_28 rfl rfl rfl ?_
    obtain ⟨y3, hy3, hy⟩ := zt_b hy
    refine zj_V1 (pc' := 32) (z := YX7_personName) (As := [.int a1]) (N := (zui M 183 y2)) dX11_line_29 rfl mlX11_317 lkX7_personName sh5 ⟨_, _, rfl⟩ rfl rfl (Nat.le_of_ble_eq_true rfl) (Nat.le_of_ble_eq_true rfl) (LX7_personName_5 Γ _ r0_2 w0_2_1 (zr_n rfl e_i5) (zq_i e_l7) a1 hy3) rfl ?_
    obtain ⟨y4, hy4, hy⟩ := zt_b hy
    refine zj_V0 (pc' := 35) (z := YX5_addName) (As := [.long y3]) (N := (zui (zui M 183 y4.1) 184 y4.2)) dX11_line_32 rfl mlX11_321 lkX5_addName sh183 ⟨_, _, rfl⟩ rfl rfl (Nat.le_of_ble_eq_true rfl) (Nat.le_of_ble_eq_true rfl) (LX5_addName_183 Γ _ y2 r0_13_0 zr_s (zr_n rfl e_i184) y3 hy4) ((zch_i zm_s rfl)).symm ?_
    refine zj_aload_n (pc' := 36) 0 dX11_line_35 rfl rfl rfl ?_
    refine zj_getR (pc' := 39) (j := 183) dX11_line_36 rfl flX11_92 sh0 rfl ?_
    refine zj_ldcwS (pc' := 42) (k := 1) (tx := " at ") dX11_line_39 rfl (by decide +kernel) ?_
    obtain ⟨y5, hy5, hy⟩ := zt_b hy
    refine zj_V0 (pc' := 45) (z := YX5_addText) (As := [.ref (Γ.2.2.2.2.1 1)]) (N := (zui (zui M 183 y5.1) 184 y5.2)) dX11_line_42 rfl mlX11_327 lkX5_addText sh183 ⟨_, _, rfl⟩ rfl rfl (Nat.le_of_ble_eq_true rfl) (Nat.le_of_ble_eq_true rfl) (LX5_addText_183_s1 Γ _ y4.1 y4.2 (zr_n rfl zr_s) zr_s hy5) ((zch_i (zm_n rfl zm_s) zm_s)).symm ?_
    refine zj_aload_n (pc' := 46) 0 dX11_line_45 rfl rfl rfl ?_
    refine zj_getR (pc' := 49) (j := 183) dX11_line_46 rfl flX11_92 sh0 rfl ?_
    refine zj_aload_n (pc' := 50) 0 dX11_line_49 rfl rfl rfl ?_
    refine zj_getR (pc' := 53) (j := 5) dX11_line_50 rfl flX11_28 sh0 rfl ?_
    refine zj_aload_n (pc' := 54) 0 dX11_line_53 rfl rfl rfl ?_
    refine zj_getR (pc' := 57) (j := 15) dX11_line_54 rfl flX11_38 sh0 rfl ?_
    refine zj_iload_n (pc' := 58) 1 dX11_line_57 rfl rfl rfl ?_
    obtain ⟨y6, hy6, hy⟩ := zt_b hy
    refine zj_V1 (pc' := 61) (z := YX1_whereIs) (As := [.int a1]) (N := (zui (zui M 183 y5.1) 184 y5.2)) dX11_line_58 rfl mlX11_166 lkX1_whereIs sh15 ⟨_, _, rfl⟩ rfl rfl (Nat.le_of_ble_eq_true rfl) (Nat.le_of_ble_eq_true rfl) (LX1_whereIs_15 Γ _ r0_4_0 (zr_n rfl (zr_n rfl e_i16)) a1 hy6) rfl ?_
    obtain ⟨y7, hy7, hy⟩ := zt_b hy
    refine zj_V1 (pc' := 64) (z := YX7_cornerName) (As := [.int y6]) (N := (zui (zui M 183 y5.1) 184 y5.2)) dX11_line_61 rfl mlX11_330 lkX7_cornerName sh5 ⟨_, _, rfl⟩ rfl rfl (Nat.le_of_ble_eq_true rfl) (Nat.le_of_ble_eq_true rfl) (LX7_cornerName_5 Γ _ r0_2 w0_2_0 (zr_n rfl (zr_n rfl e_i5)) (zq_i (zq_i e_l6)) y6 hy7) rfl ?_
    obtain ⟨y8, hy8, hy⟩ := zt_b hy
    refine zj_V0 (pc' := 67) (z := YX5_addName) (As := [.long y7]) (N := (zui (zui M 183 y8.1) 184 y8.2)) dX11_line_64 rfl mlX11_321 lkX5_addName sh183 ⟨_, _, rfl⟩ rfl rfl (Nat.le_of_ble_eq_true rfl) (Nat.le_of_ble_eq_true rfl) (LX5_addName_183 Γ _ y5.1 y5.2 (zr_n rfl zr_s) zr_s y7 hy8) ((zch_i (zm_n rfl zm_s) zm_s)).symm ?_
    refine zj_aload_n (pc' := 68) 0 dX11_line_67 rfl rfl rfl ?_
    refine zj_getR (pc' := 71) (j := 15) dX11_line_68 rfl flX11_38 sh0 rfl ?_
    refine zj_iload_n (pc' := 72) 1 dX11_line_71 rfl rfl rfl ?_
    obtain ⟨y9, hy9, hy⟩ := zt_b hy
    refine zj_V1 (pc' := 75) (z := YX1_followedBy) (As := [.int a1]) (N := (zui (zui M 183 y8.1) 184 y8.2)) dX11_line_72 rfl mlX11_173 lkX1_followedBy sh15 ⟨_, _, rfl⟩ rfl rfl (Nat.le_of_ble_eq_true rfl) (Nat.le_of_ble_eq_true rfl) (LX1_followedBy_15 Γ _ r0_4_2 (zr_n rfl (zr_n rfl e_i18)) a1 hy9) rfl ?_
    refine zj_iconst (pc' := 76) dX11_line_75 rfl kiconst_m1 ?_
    refine zj_icmp_eq (tgt := 114) (pc' := 79) dX11_line_76 rfl (by decide) (fun c10 => ?_) (fun c10 => ?_)
    · have hy := zt_t hy c10
      refine zj_aload_n (pc' := 115) 0 dX11_line_114 rfl rfl rfl ?_
      refine zj_getR (pc' := 118) (j := 15) dX11_line_115 rfl flX11_38 sh0 rfl ?_
      refine zj_iload_n (pc' := 119) 1 dX11_line_118 rfl rfl rfl ?_
      obtain ⟨y11, hy11, hy⟩ := zt_b hy
      refine zj_V1 (pc' := 122) (z := YX1_wayLeft) (As := [.int a1]) (N := (zui (zui M 183 y8.1) 184 y8.2)) dX11_line_119 rfl mlX11_179 lkX1_wayLeft sh15 ⟨_, _, rfl⟩ rfl rfl (Nat.le_of_ble_eq_true rfl) (Nat.le_of_ble_eq_true rfl) (LX1_wayLeft_15 Γ _ r0_4_5 (zr_n rfl (zr_n rfl e_i21)) a1 hy11) rfl ?_
      refine zj_if_le (tgt := 153) (pc' := 125) dX11_line_122 rfl (by decide) (fun c12 => ?_) (fun c12 => ?_)
      · have hy := zt_t hy c12
        refine zj_aload_n (pc' := 154) 0 dX11_line_153 rfl rfl rfl ?_
        refine zj_getR (pc' := 157) (j := 183) dX11_line_154 rfl flX11_92 sh0 rfl ?_
        refine zj_ldcwS (pc' := 160) (k := 4) (tx := " stays") dX11_line_157 rfl (by decide +kernel) ?_
        obtain ⟨y13, hy13, hy⟩ := zt_b hy
        refine zj_V0 (pc' := 163) (z := YX5_addText) (As := [.ref (Γ.2.2.2.2.1 4)]) (N := (zui (zui M 183 y13.1) 184 y13.2)) dX11_line_160 rfl mlX11_327 lkX5_addText sh183 ⟨_, _, rfl⟩ rfl rfl (Nat.le_of_ble_eq_true rfl) (Nat.le_of_ble_eq_true rfl) (LX5_addText_183_s4 Γ _ y8.1 y8.2 (zr_n rfl zr_s) zr_s hy13) ((zch_i (zm_n rfl zm_s) zm_s)).symm ?_
        refine zj_aload_n (pc' := 164) 0 dX11_line_163 rfl rfl rfl ?_
        refine zj_getR (pc' := 167) (j := 183) dX11_line_164 rfl flX11_92 sh0 rfl ?_
        refine zj_V1 (pc' := 170) (z := YX5_length) (As := []) (N := (zui (zui M 183 y13.1) 184 y13.2)) dX11_line_167 rfl mlX11_342 lkX5_length sh183 ⟨_, _, rfl⟩ rfl rfl (Nat.le_of_ble_eq_true rfl) (Nat.le_of_ble_eq_true rfl) (LX5_length_183 Γ _ y13.1 (zr_n rfl zr_s) rfl) rfl ?_
        have e9 := Option.some.inj hy
        subst e9
        exact zj_iret dX11_line_170 rfl hq
      · have hy := zt_f hy c12
        refine zj_aload_n (pc' := 126) 0 dX11_line_125 rfl rfl rfl ?_
        refine zj_getR (pc' := 129) (j := 183) dX11_line_126 rfl flX11_92 sh0 rfl ?_
        refine zj_ldcwS (pc' := 132) (k := 3) (tx := " goes ") dX11_line_129 rfl (by decide +kernel) ?_
        obtain ⟨y14, hy14, hy⟩ := zt_b hy
        refine zj_V0 (pc' := 135) (z := YX5_addText) (As := [.ref (Γ.2.2.2.2.1 3)]) (N := (zui (zui M 183 y14.1) 184 y14.2)) dX11_line_132 rfl mlX11_327 lkX5_addText sh183 ⟨_, _, rfl⟩ rfl rfl (Nat.le_of_ble_eq_true rfl) (Nat.le_of_ble_eq_true rfl) (LX5_addText_183_s3 Γ _ y8.1 y8.2 (zr_n rfl zr_s) zr_s hy14) ((zch_i (zm_n rfl zm_s) zm_s)).symm ?_
        refine zj_aload_n (pc' := 136) 0 dX11_line_135 rfl rfl rfl ?_
        refine zj_getR (pc' := 139) (j := 183) dX11_line_136 rfl flX11_92 sh0 rfl ?_
        refine zj_aload_n (pc' := 140) 0 dX11_line_139 rfl rfl rfl ?_
        refine zj_getR (pc' := 143) (j := 15) dX11_line_140 rfl flX11_38 sh0 rfl ?_
        refine zj_iload_n (pc' := 144) 1 dX11_line_143 rfl rfl rfl ?_
        obtain ⟨y15, hy15, hy⟩ := zt_b hy
        refine zj_V1 (pc' := 147) (z := YX1_wayLeft) (As := [.int a1]) (N := (zui (zui M 183 y14.1) 184 y14.2)) dX11_line_144 rfl mlX11_179 lkX1_wayLeft sh15 ⟨_, _, rfl⟩ rfl rfl (Nat.le_of_ble_eq_true rfl) (Nat.le_of_ble_eq_true rfl) (LX1_wayLeft_15 Γ _ r0_4_5 (zr_n rfl (zr_n rfl e_i21)) a1 hy15) rfl ?_
        obtain ⟨y16, hy16, hy⟩ := zt_b hy
        refine zj_V0 (pc' := 150) (z := YX5_addDigit) (As := [.int y15]) (N := (zui (zui M 183 y16.1) 184 y16.2)) dX11_line_147 rfl mlX11_337 lkX5_addDigit sh183 ⟨_, _, rfl⟩ rfl rfl (Nat.le_of_ble_eq_true rfl) (Nat.le_of_ble_eq_true rfl) (LX5_addDigit_183 Γ _ y14.1 y14.2 (zr_n rfl zr_s) zr_s y15 hy16) ((zch_i (zm_n rfl zm_s) zm_s)).symm ?_
        refine zj_goto (tgt := 163) dX11_line_150 (by decide) ?_
        refine zj_aload_n (pc' := 164) 0 dX11_line_163 rfl rfl rfl ?_
        refine zj_getR (pc' := 167) (j := 183) dX11_line_164 rfl flX11_92 sh0 rfl ?_
        refine zj_V1 (pc' := 170) (z := YX5_length) (As := []) (N := (zui (zui M 183 y16.1) 184 y16.2)) dX11_line_167 rfl mlX11_342 lkX5_length sh183 ⟨_, _, rfl⟩ rfl rfl (Nat.le_of_ble_eq_true rfl) (Nat.le_of_ble_eq_true rfl) (LX5_length_183 Γ _ y16.1 (zr_n rfl zr_s) rfl) rfl ?_
        have e9 := Option.some.inj hy
        subst e9
        exact zj_iret dX11_line_170 rfl hq
    · have hy := zt_f hy c10
      refine zj_aload_n (pc' := 80) 0 dX11_line_79 rfl rfl rfl ?_
      refine zj_getR (pc' := 83) (j := 183) dX11_line_80 rfl flX11_92 sh0 rfl ?_
      refine zj_ldcwS (pc' := 86) (k := 2) (tx := " after ") dX11_line_83 rfl (by decide +kernel) ?_
      obtain ⟨y17, hy17, hy⟩ := zt_b hy
      refine zj_V0 (pc' := 89) (z := YX5_addText) (As := [.ref (Γ.2.2.2.2.1 2)]) (N := (zui (zui M 183 y17.1) 184 y17.2)) dX11_line_86 rfl mlX11_327 lkX5_addText sh183 ⟨_, _, rfl⟩ rfl rfl (Nat.le_of_ble_eq_true rfl) (Nat.le_of_ble_eq_true rfl) (LX5_addText_183_s2 Γ _ y8.1 y8.2 (zr_n rfl zr_s) zr_s hy17) ((zch_i (zm_n rfl zm_s) zm_s)).symm ?_
      refine zj_aload_n (pc' := 90) 0 dX11_line_89 rfl rfl rfl ?_
      refine zj_getR (pc' := 93) (j := 183) dX11_line_90 rfl flX11_92 sh0 rfl ?_
      refine zj_aload_n (pc' := 94) 0 dX11_line_93 rfl rfl rfl ?_
      refine zj_getR (pc' := 97) (j := 5) dX11_line_94 rfl flX11_28 sh0 rfl ?_
      refine zj_aload_n (pc' := 98) 0 dX11_line_97 rfl rfl rfl ?_
      refine zj_getR (pc' := 101) (j := 15) dX11_line_98 rfl flX11_38 sh0 rfl ?_
      refine zj_iload_n (pc' := 102) 1 dX11_line_101 rfl rfl rfl ?_
      obtain ⟨y18, hy18, hy⟩ := zt_b hy
      refine zj_V1 (pc' := 105) (z := YX1_followedBy) (As := [.int a1]) (N := (zui (zui M 183 y17.1) 184 y17.2)) dX11_line_102 rfl mlX11_173 lkX1_followedBy sh15 ⟨_, _, rfl⟩ rfl rfl (Nat.le_of_ble_eq_true rfl) (Nat.le_of_ble_eq_true rfl) (LX1_followedBy_15 Γ _ r0_4_2 (zr_n rfl (zr_n rfl e_i18)) a1 hy18) rfl ?_
      obtain ⟨y19, hy19, hy⟩ := zt_b hy
      refine zj_V1 (pc' := 108) (z := YX7_personName) (As := [.int y18]) (N := (zui (zui M 183 y17.1) 184 y17.2)) dX11_line_105 rfl mlX11_317 lkX7_personName sh5 ⟨_, _, rfl⟩ rfl rfl (Nat.le_of_ble_eq_true rfl) (Nat.le_of_ble_eq_true rfl) (LX7_personName_5 Γ _ r0_2 w0_2_1 (zr_n rfl (zr_n rfl e_i5)) (zq_i (zq_i e_l7)) y18 hy19) rfl ?_
      obtain ⟨y20, hy20, hy⟩ := zt_b hy
      refine zj_V0 (pc' := 111) (z := YX5_addName) (As := [.long y19]) (N := (zui (zui M 183 y20.1) 184 y20.2)) dX11_line_108 rfl mlX11_321 lkX5_addName sh183 ⟨_, _, rfl⟩ rfl rfl (Nat.le_of_ble_eq_true rfl) (Nat.le_of_ble_eq_true rfl) (LX5_addName_183 Γ _ y17.1 y17.2 (zr_n rfl zr_s) zr_s y19 hy20) ((zch_i (zm_n rfl zm_s) zm_s)).symm ?_
      refine zj_goto (tgt := 163) dX11_line_111 (by decide) ?_
      refine zj_aload_n (pc' := 164) 0 dX11_line_163 rfl rfl rfl ?_
      refine zj_getR (pc' := 167) (j := 183) dX11_line_164 rfl flX11_92 sh0 rfl ?_
      refine zj_V1 (pc' := 170) (z := YX5_length) (As := []) (N := (zui (zui M 183 y20.1) 184 y20.2)) dX11_line_167 rfl mlX11_342 lkX5_length sh183 ⟨_, _, rfl⟩ rfl rfl (Nat.le_of_ble_eq_true rfl) (Nat.le_of_ble_eq_true rfl) (LX5_length_183 Γ _ y20.1 (zr_n rfl zr_s) rfl) rfl ?_
      have e9 := Option.some.inj hy
      subst e9
      exact zj_iret dX11_line_170 rfl hq
  · have hy := zt_f hy c1
    refine zj_iconst (pc' := 12) dX11_line_11 rfl kiconst_m1 ?_
    have e9 := Option.some.inj hy
    subst e9
    refine zj_mem (N := (zui M 183 r0_13)) (zself_i e_i183 rfl) ?_
    refine zj_mem (N := (zui (zui M 183 r0_13) 184 r0_13_0)) (zself_i (zr_n rfl e_i184) rfl) ?_
    exact zj_iret dX11_line_12 rfl hq
set_option maxRecDepth 20000 in
theorem LX11_line_0 (Γ : zG) (M : zM) (r0_2 : Nat → Int32) (w0_2_0 : Nat → Int64) (w0_2_1 : Nat → Int64) (r0_4_0 : Nat → Int32) (r0_4_2 : Nat → Int32) (r0_4_5 : Nat → Int32) (r0_13 : Nat → Int32) (r0_13_0 : Nat → Int32) (e_i5 : M.1 5 = r0_2) (e_l6 : M.2 6 = w0_2_0) (e_l7 : M.2 7 = w0_2_1) (e_i16 : M.1 16 = r0_4_0) (e_i18 : M.1 18 = r0_4_2) (e_i21 : M.1 21 = r0_4_5) (e_i183 : M.1 183 = r0_13) (e_i184 : M.1 184 = r0_13_0) (a1 : Int32) {res : Int32 × (Nat → Int32) × (Nat → Int32)} (hy : (fX_line r0_2 w0_2_0 w0_2_1 r0_4_0 r0_4_2 r0_4_5 r0_13 r0_13_0 a1) = some res) : zK Γ 6 YX11_line [.ref (zad Γ 0), .int a1] M (fun v N => v = some (.int res.1) ∧ N = (zui (zui M 183 res.2.1) 184 res.2.2)) :=
  zK_of (by decide) (Nat.le_of_ble_eq_true rfl) (TX11_line_0 Γ M r0_2 w0_2_0 w0_2_1 r0_4_0 r0_4_2 r0_4_5 r0_13 r0_13_0 e_i5 e_l6 e_l7 e_i16 e_i18 e_i21 e_i183 e_i184 a1 hy ⟨rfl, rfl⟩)

