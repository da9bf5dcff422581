noncomputable def fM_sentence_L146 (r0v10 : Nat → Int32) (r0_8v13 : Nat → Int32) (r0_6v25 : Nat → Int32) (x26 : Int32) : Option (((Nat → Int32) × Int32) ⊕ ((Nat → Int32))) :=
  (if (3 * (r0v10 44)) ≤ x26 then
  some (.inr r0_6v25)
  else
  (zrd r0_8v13 160 x26).bind (fun (v35 : Int32) =>
  (zwr r0_6v25 397 (217 + x26) v35).bind (fun (r0_6v36 : Nat → Int32) =>
  zlet (x26 + 1) (fun (x37 : Int32) =>
  some (.inl (r0_6v36, x37))))))
noncomputable def fM_sentence_L48 (r0_1 : Nat → Int32) (w0_9 : Nat → Int64) (w0_10 : Nat → Int64) (r0v10 : Nat → Int32) (w0v11 : Nat → Int64) (r0_6v12 : Nat → Int32) (r0_8v13 : Nat → Int32) (r0_43v14 : Nat → Int32) (x15 : Int32) : Option (((Nat → Int32) × (Nat → Int64) × (Nat → Int32) × (Nat → Int32) × (Nat → Int32) × Int32) ⊕ (Int32 × (Nat → Int32) × (Nat → Int64) × (Nat → Int32) × (Nat → Int32) × (Nat → Int32))) :=
  (if x15 = 0 then
  zlet (zup r0_6v12 216 (r0v10 44)) (fun (r0_6v24 : Nat → Int32) =>
  (zLP (fun s => fM_sentence_L146 r0v10 r0_8v13 s.1 s.2) (r0_6v24, 0)).bind (fun r29 =>
  some (.inr ((r0v10 45), r0v10, w0v11, r29, r0_8v13, r0_43v14))))
  else
  zlet (fun (u9 : Unit) =>
  (if (r0v10 48) = 0 then
  (fM_operand r0v10 w0v11 r0_1 r0_6v12 r0_8v13 w0_9 w0_10 r0_43v14).bind (fun (y40 : Bool × (Nat → Int32) × (Nat → Int64) × (Nat → Int32) × (Nat → Int32)) =>
  (if y40.1 = true then
  some (.inl (y40.2.1, y40.2.2.1, r0_6v12, y40.2.2.2.1, y40.2.2.2.2, x15))
  else
  some (.inr (((-1) - (y40.2.1 16)), y40.2.1, y40.2.2.1, r0_6v12, y40.2.2.2.1, y40.2.2.2.2))))
  else
  (fM_behind r0v10 w0v11 r0_1 r0_8v13 r0_43v14).bind (fun (y42 : Bool × (Nat → Int32) × (Nat → Int64) × (Nat → Int32) × (Nat → Int32)) =>
  (if y42.1 = true then
  some (.inl (y42.2.1, y42.2.2.1, r0_6v12, y42.2.2.2.1, y42.2.2.2.2, x15))
  else
  some (.inr (((-1) - (y42.2.1 16)), y42.2.1, y42.2.2.1, r0_6v12, y42.2.2.2.1, y42.2.2.2.2)))))) (fun J44 =>
  (if (r0v10 48) = 0 then
  J44 ()
  else
  (if (r0v10 11) = 0 then
  (fM_nots r0v10 r0_8v13 r0_43v14).bind (fun (y47 : (Nat → Int32) × (Nat → Int32)) =>
  (fM_joins y47.1 y47.2 r0_43v14 22).bind (fun (y48 : (Nat → Int32) × (Nat → Int32)) =>
  (if (y48.1 46) ≤ 0 then
  some (.inl (y48.1, w0v11, r0_6v12, y48.2, r0_43v14, 0))
  else
  (fM_bad y48.1 1).bind (fun (y50 : Bool × (Nat → Int32)) =>
  some (.inr (((-1) - (y50.2 16)), y50.2, w0v11, r0_6v12, y48.2, r0_43v14))))))
  else
  J44 ()))))
noncomputable def fM_sentence (r0 : Nat → Int32) (w0 : Nat → Int64) (r0_1 : Nat → Int32) (r0_6 : Nat → Int32) (r0_8 : Nat → Int32) (w0_9 : Nat → Int64) (w0_10 : Nat → Int64) (r0_43 : Nat → Int32) : Option (Int32 × (Nat → Int32) × (Nat → Int64) × (Nat → Int32) × (Nat → Int32) × (Nat → Int32)) :=
  zlet (zup r0 0 0) (fun (r0v1 : Nat → Int32) =>
  (fM_taken r0v1 200).bind (fun (y2 : (Nat → Int32)) =>
  zlet (zup y2 15 0) (fun (r0v3 : Nat → Int32) =>
  zlet (zup r0v3 44 0) (fun (r0v4 : Nat → Int32) =>
  zlet (zup r0v4 45 0) (fun (r0v5 : Nat → Int32) =>
  zlet (zup r0v5 46 0) (fun (r0v6 : Nat → Int32) =>
  zlet (zup r0v6 47 1) (fun (r0v7 : Nat → Int32) =>
  zlet (zup r0v7 48 0) (fun (r0v8 : Nat → Int32) =>
  (fM_next r0v8 w0 r0_1).bind (fun (y9 : (Nat → Int32) × (Nat → Int64)) =>
  zLP (fun s => fM_sentence_L48 r0_1 w0_9 w0_10 s.1 s.2.1 s.2.2.1 s.2.2.2.1 s.2.2.2.2.1 s.2.2.2.2.2) (y9.1, y9.2, r0_6, r0_8, r0_43, 1))))))))))

set_option maxRecDepth 20000 in
theorem TX12_sentence_186 (Γ : zG) {Q : Option Value → zM → Prop} (M : zM) (r0 : Nat → Int32) (w0 : Nat → Int64) (r0_1 : Nat → Int32) (r0_6 : Nat → Int32) (r0_8 : Nat → Int32) (w0_9 : Nat → Int64) (w0_10 : Nat → Int64) (r0_43 : Nat → Int32) (e_i186 : M.1 186 = r0) (e_l186 : M.2 186 = w0) (e_i187 : M.1 187 = r0_1) (e_i188 : M.1 188 = r0_6) (e_i190 : M.1 190 = r0_8) (e_l191 : M.2 191 = w0_9) (e_l192 : M.2 192 = w0_10) (e_i202 : M.1 202 = r0_43)  {res : Int32 × (Nat → Int32) × (Nat → Int64) × (Nat → Int32) × (Nat → Int32) × (Nat → Int32)} (hy : (fM_sentence r0 w0 r0_1 r0_6 r0_8 w0_9 w0_10 r0_43) = some res) (hq : Q (some (.int res.1)) (zui (zui (zui (zui (zul M 186 res.2.2.1) 186 res.2.1) 188 res.2.2.2.1) 190 res.2.2.2.2.1) 202 res.2.2.2.2.2)) : zR Γ 4 YX12_sentence 0 [(0, .ref (zad Γ 186))] [] M Q := by
  unfold fM_sentence at hy
  refine zj_aload_n (pc' := 1) 0 dX12_sentence_0 rfl rfl rfl ?_
  refine zj_iconst (pc' := 2) dX12_sentence_1 rfl kiconst_0 ?_
  obtain ⟨r0v1, er0v1⟩ : ∃ z, z = (zup r0 0 0) := ⟨_, rfl⟩
  have hy := zlet_at er0v1 hy
  refine zj_pI (pc' := 5) (N := (zui M 186 r0v1)) dX12_sentence_2 rfl fpX12_1 sh186 rfl e_i186 er0v1 rfl ?_
  refine zj_aload_n (pc' := 6) 0 dX12_sentence_5 rfl rfl rfl ?_
  refine zj_sipush (pc' := 9) dX12_sentence_6 rfl ksipush_200 ?_
  obtain ⟨y2, hy2, hy⟩ := zt_b hy
  refine zj_V0 (pc' := 12) (z := YX12_taken) (As := [.int 200]) (N := (zui M 186 y2)) dX12_sentence_9 rfl mlX12_241 lkX12_taken sh186 ⟨_, _, rfl⟩ rfl rfl (Nat.le_of_ble_eq_true rfl) (Nat.le_of_ble_eq_true rfl) (LX12_taken_186 Γ _ r0v1 zr_s 200 hy2) (zm_s).symm ?_
  refine zj_aload_n (pc' := 13) 0 dX12_sentence_12 rfl rfl rfl ?_
  refine zj_iconst (pc' := 14) dX12_sentence_13 rfl kiconst_0 ?_
  obtain ⟨r0v3, er0v3⟩ : ∃ z, z = (zup y2 15 0) := ⟨_, rfl⟩
  have hy := zlet_at er0v3 hy
  refine zj_pI (pc' := 17) (N := (zui M 186 r0v3)) dX12_sentence_14 rfl fpX12_173 sh186 rfl zr_s er0v3 zm_s ?_
  refine zj_aload_n (pc' := 18) 0 dX12_sentence_17 rfl rfl rfl ?_
  refine zj_iconst (pc' := 19) dX12_sentence_18 rfl kiconst_0 ?_
  obtain ⟨r0v4, er0v4⟩ : ∃ z, z = (zup r0v3 44 0) := ⟨_, rfl⟩
  have hy := zlet_at er0v4 hy
  refine zj_pI (pc' := 22) (N := (zui M 186 r0v4)) dX12_sentence_19 rfl fpX12_429 sh186 rfl zr_s er0v4 zm_s ?_
  refine zj_aload_n (pc' := 23) 0 dX12_sentence_22 rfl rfl rfl ?_
  refine zj_iconst (pc' := 24) dX12_sentence_23 rfl kiconst_0 ?_
  obtain ⟨r0v5, er0v5⟩ : ∃ z, z = (zup r0v4 45 0) := ⟨_, rfl⟩
  have hy := zlet_at er0v5 hy
  refine zj_pI (pc' := 27) (N := (zui M 186 r0v5)) dX12_sentence_24 rfl fpX12_444 sh186 rfl zr_s er0v5 zm_s ?_
  refine zj_aload_n (pc' := 28) 0 dX12_sentence_27 rfl rfl rfl ?_
  refine zj_iconst (pc' := 29) dX12_sentence_28 rfl kiconst_0 ?_
  obtain ⟨r0v6, er0v6⟩ : ∃ z, z = (zup r0v5 46 0) := ⟨_, rfl⟩
  have hy := zlet_at er0v6 hy
  refine zj_pI (pc' := 32) (N := (zui M 186 r0v6)) dX12_sentence_29 rfl fpX12_432 sh186 rfl zr_s er0v6 zm_s ?_
  refine zj_aload_n (pc' := 33) 0 dX12_sentence_32 rfl rfl rfl ?_
  refine zj_iconst (pc' := 34) dX12_sentence_33 rfl kiconst_1 ?_
  obtain ⟨r0v7, er0v7⟩ : ∃ z, z = (zup r0v6 47 1) := ⟨_, rfl⟩
  have hy := zlet_at er0v7 hy
  refine zj_pI (pc' := 37) (N := (zui M 186 r0v7)) dX12_sentence_34 rfl fpX12_438 sh186 rfl zr_s er0v7 zm_s ?_
  refine zj_aload_n (pc' := 38) 0 dX12_sentence_37 rfl rfl rfl ?_
  refine zj_iconst (pc' := 39) dX12_sentence_38 rfl kiconst_0 ?_
  obtain ⟨r0v8, er0v8⟩ : ∃ z, z = (zup r0v7 48 0) := ⟨_, rfl⟩
  have hy := zlet_at er0v8 hy
  refine zj_pZ (pc' := 42) (N := (zui M 186 r0v8)) dX12_sentence_39 rfl fpX12_447 sh186 rfl (Or.inl rfl) zr_s er0v8 zm_s ?_
  refine zj_aload_n (pc' := 43) 0 dX12_sentence_42 rfl rfl rfl ?_
  obtain ⟨y9, hy9, hy⟩ := zt_b hy
  refine zj_V0 (pc' := 46) (z := YX12_next) (As := []) (N := (zui (zul M 186 y9.2) 186 y9.1)) dX12_sentence_43 rfl mlX12_185 lkX12_next sh186 ⟨_, _, rfl⟩ rfl rfl (Nat.le_of_ble_eq_true rfl) (Nat.le_of_ble_eq_true rfl) (LX12_next_186 Γ _ r0v8 w0 r0_1 zr_s (zq_i e_l186) (zr_n rfl e_i187) hy9) ((zch_i (zm_li rfl) zm_s)).symm ?_
  refine zj_iconst (pc' := 47) dX12_sentence_46 rfl kiconst_1 ?_
  refine zj_istore_n (pc' := 48) (L' := [(1, .int 1), (0, .ref (zad Γ 186))]) dX12_sentence_47 rfl rfl (by decide) rfl ?_
  refine zj_loc [1, 0] rfl ?_
  refine zj_mem (N := (zui (zui (zul M 186 y9.2) 186 y9.1) 188 r0_6)) (zself_i (zr_n rfl (zr_l e_i188)) rfl) ?_
  refine zj_mem (N := (zui (zui (zui (zul M 186 y9.2) 186 y9.1) 188 r0_6) 190 r0_8)) (zself_i (zr_n rfl (zr_n rfl (zr_l e_i190))) rfl) ?_
  refine zj_mem (N := (zui (zui (zui (zui (zul M 186 y9.2) 186 y9.1) 188 r0_6) 190 r0_8) 202 r0_43)) (zself_i (zr_n rfl (zr_n rfl (zr_n rfl (zr_l e_i202)))) rfl) ?_
  obtain ⟨n9, hn9⟩ := zLP_some hy
  have HL17 : ∀ (n : Nat) (r0v10 : Nat → Int32) (w0v11 : Nat → Int64) (r0_6v12 : Nat → Int32) (r0_8v13 : Nat → Int32) (r0_43v14 : Nat → Int32) (x15 : Int32), zlp (fun s => fM_sentence_L48 r0_1 w0_9 w0_10 s.1 s.2.1 s.2.2.1 s.2.2.2.1 s.2.2.2.2.1 s.2.2.2.2.2) n (r0v10, w0v11, r0_6v12, r0_8v13, r0_43v14, x15) = some res → zR Γ 4 YX12_sentence 48 [(0, .ref (zad Γ 186)), (1, .int x15)] [] (zui (zui (zui (zui (zul M 186 w0v11) 186 r0v10) 188 r0_6v12) 190 r0_8v13) 202 r0_43v14) Q := by
    intro n
    induction n with
    | zero => intro r0v10 w0v11 r0_6v12 r0_8v13 r0_43v14 x15 hn9; cases hn9
    | succ n ih20 =>
      intro r0v10 w0v11 r0_6v12 r0_8v13 r0_43v14 x15 hn9
      obtain ⟨o9, hb9, h21, h22⟩ := zlp_step hn9
      have hy : fM_sentence_L48 r0_1 w0_9 w0_10 r0v10 w0v11 r0_6v12 r0_8v13 r0_43v14 x15 = some o9 := hb9
      unfold fM_sentence_L48 at hy
      refine zj_iload_n (pc' := 49) 1 dX12_sentence_48 rfl rfl rfl ?_
      refine zj_if_eq (tgt := 132) (pc' := 52) dX12_sentence_49 rfl (by decide) (fun c23 => ?_) (fun c23 => ?_)
      · have hy := zt_t hy c23
        refine zj_aload_n (pc' := 133) 0 dX12_sentence_132 rfl rfl rfl ?_
        refine zj_getR (pc' := 136) (j := 188) dX12_sentence_133 rfl flX12_33 sh186 rfl ?_
        refine zj_sipush (pc' := 139) dX12_sentence_136 rfl ksipush_216 ?_
        refine zj_aload_n (pc' := 140) 0 dX12_sentence_139 rfl rfl rfl ?_
        refine zj_fI (pc' := 143) dX12_sentence_140 rfl flX12_429 sh186 rfl (zr_n rfl (zr_n rfl (zr_n rfl zr_s))) rfl ?_
        obtain ⟨r0_6v24, er0_6v24⟩ : ∃ z, z = (zup r0_6v12 216 (r0v10 44)) := ⟨_, rfl⟩
        have hy := zlet_at er0_6v24 hy
        refine zj_wri (pc' := 144) (N := (zui (zui (zui (zui (zul M 186 w0v11) 186 r0v10) 188 r0_6v24) 190 r0_8v13) 202 r0_43v14)) dX12_sentence_143 rfl sh188 (zr_n rfl (zr_n rfl zr_s)) (zwrK zi216_397 tn216 er0_6v24) (zm_n rfl (zm_n rfl zm_s)) ?_
        refine zj_iconst (pc' := 145) dX12_sentence_144 rfl kiconst_0 ?_
        refine zj_istore_n (pc' := 146) (L' := [(2, .int 0), (0, .ref (zad Γ 186)), (1, .int x15)]) dX12_sentence_145 rfl rfl (by decide) rfl ?_
        refine zj_loc [1, 0] rfl ?_
        obtain ⟨r29, hr9, hyo30⟩ := zt_b hy
        obtain ⟨n9, hn9⟩ := zLP_some hr9
        have HE27 : ∀ (r0_6v38 : Nat → Int32), r29 = r0_6v38 → zR Γ 4 YX12_sentence 178 [(0, .ref (zad Γ 186))] [] (zui (zui (zui (zui (zul M 186 w0v11) 186 r0v10) 188 r0_6v38) 190 r0_8v13) 202 r0_43v14) Q := by
          intro r0_6v38 e9
          have hy := hyo30
          try rw [e9] at hy
          try dsimp only at hy
          refine zj_aload_n (pc' := 179) 0 dX12_sentence_178 rfl rfl rfl ?_
          refine zj_fI (pc' := 182) dX12_sentence_179 rfl flX12_444 sh186 rfl (zr_n rfl (zr_n rfl (zr_n rfl zr_s))) rfl ?_
          have e9 := h22 _ (Option.some.inj hy).symm
          subst e9
          exact zj_iret dX12_sentence_182 rfl hq
        have HL28 : ∀ (n : Nat) (r0_6v25 : Nat → Int32) (x26 : Int32), zlp (fun s => fM_sentence_L146 r0v10 r0_8v13 s.1 s.2) n (r0_6v25, x26) = some r29 → zR Γ 4 YX12_sentence 146 [(0, .ref (zad Γ 186)), (2, .int x26)] [] (zui (zui (zui (zui (zul M 186 w0v11) 186 r0v10) 188 r0_6v25) 190 r0_8v13) 202 r0_43v14) Q := by
          intro n
          induction n with
          | zero => intro r0_6v25 x26 hn9; cases hn9
          | succ n ih31 =>
            intro r0_6v25 x26 hn9
            obtain ⟨o9, hb9, h32, h33⟩ := zlp_step hn9
            have hy : fM_sentence_L146 r0v10 r0_8v13 r0_6v25 x26 = some o9 := hb9
            unfold fM_sentence_L146 at hy
            refine zj_iload_n (pc' := 147) 1 dX12_sentence_146 rfl rfl rfl ?_
            refine zj_iconst (pc' := 148) dX12_sentence_147 rfl kiconst_3 ?_
            refine zj_aload_n (pc' := 149) 0 dX12_sentence_148 rfl rfl rfl ?_
            refine zj_fI (pc' := 152) dX12_sentence_149 rfl flX12_429 sh186 rfl (zr_n rfl (zr_n rfl (zr_n rfl zr_s))) rfl ?_
            refine zj_imul (pc' := 153) dX12_sentence_152 rfl ?_
            refine zj_icmp_ge (tgt := 178) (pc' := 156) dX12_sentence_153 rfl (by decide) (fun c34 => ?_) (fun c34 => ?_)
            · have hy := zt_t hy c34
              have e9 := h33 _ (Option.some.inj hy).symm
              refine zj_loc [0] rfl ?_
              exact HE27 _ e9.symm
            · have hy := zt_f hy c34
              refine zj_aload_n (pc' := 157) 0 dX12_sentence_156 rfl rfl rfl ?_
              refine zj_getR (pc' := 160) (j := 188) dX12_sentence_157 rfl flX12_33 sh186 rfl ?_
              refine zj_sipush (pc' := 163) dX12_sentence_160 rfl ksipush_217 ?_
              refine zj_iload_n (pc' := 164) 1 dX12_sentence_163 rfl rfl rfl ?_
              refine zj_iadd (pc' := 165) dX12_sentence_164 rfl ?_
              refine zj_aload_n (pc' := 166) 0 dX12_sentence_165 rfl rfl rfl ?_
              refine zj_getR (pc' := 169) (j := 190) dX12_sentence_166 rfl flX12_40 sh186 rfl ?_
              refine zj_iload_n (pc' := 170) 1 dX12_sentence_169 rfl rfl rfl ?_
              obtain ⟨v35, hv35, hy⟩ := zt_b hy
              refine zj_rdi (pc' := 171) dX12_sentence_170 rfl sh190 (zr_n rfl zr_s) hv35 ?_
              obtain ⟨r0_6v36, hr0_6v36, hy⟩ := zt_b hy
              refine zj_wri (pc' := 172) (N := (zui (zui (zui (zui (zul M 186 w0v11) 186 r0v10) 188 r0_6v36) 190 r0_8v13) 202 r0_43v14)) dX12_sentence_171 rfl sh188 (zr_n rfl (zr_n rfl zr_s)) hr0_6v36 (zm_n rfl (zm_n rfl zm_s)) ?_
              obtain ⟨x37, ex37⟩ : ∃ z : Int32, z = (x26 + 1) := ⟨_, rfl⟩
              have hy := zlet_at ex37 hy
              refine zj_iinc (pc' := 175) 1 (L' := [(2, .int x37), (0, .ref (zad Γ 186))]) dX12_sentence_172 rfl rfl (by decide) (by rw [ci1, ← ex37]; rfl) ?_
              refine zj_goto (tgt := 146) dX12_sentence_175 (by decide) ?_
              have hn9 := h32 _ (Option.some.inj hy).symm
              refine zj_loc [1, 0] rfl ?_
              exact ih31 _ _ hn9
        exact HL28 n9 _ _ hn9
      · have hy := zt_f hy c23
        refine zj_aload_n (pc' := 53) 0 dX12_sentence_52 rfl rfl rfl ?_
        refine zj_fI (pc' := 56) dX12_sentence_53 rfl flX12_447 sh186 rfl (zr_n rfl (zr_n rfl (zr_n rfl zr_s))) rfl ?_
        obtain ⟨J44, eJ44, hy⟩ := zlet_ex hy
        have HJ44 : ∀ (u9 : Unit), J44 u9 = some o9 → zR Γ 4 YX12_sentence 101 [(0, .ref (zad Γ 186)), (1, .int x15)] [] (zui (zui (zui (zui (zul M 186 w0v11) 186 r0v10) 188 r0_6v12) 190 r0_8v13) 202 r0_43v14) Q := by
          intro u9 hy
          have hy := zap1 eJ44 hy
          refine zj_aload_n (pc' := 102) 0 dX12_sentence_101 rfl rfl rfl ?_
          refine zj_fI (pc' := 105) dX12_sentence_102 rfl flX12_447 sh186 rfl (zr_n rfl (zr_n rfl (zr_n rfl zr_s))) rfl ?_
          refine zj_if_eq (tgt := 118) (pc' := 108) dX12_sentence_105 rfl (by decide) (fun c39 => ?_) (fun c39 => ?_)
          · have hy := zt_t hy c39
            refine zj_aload_n (pc' := 119) 0 dX12_sentence_118 rfl rfl rfl ?_
            obtain ⟨y40, hy40, hy⟩ := zt_b hy
            refine zj_V1 (pc' := 122) (z := YX12_operand) (As := []) (N := (zui (zui (zui (zui (zul M 186 y40.2.2.1) 186 y40.2.1) 188 r0_6v12) 190 y40.2.2.2.1) 202 y40.2.2.2.2)) dX12_sentence_119 rfl mlX12_459 lkX12_operand sh186 ⟨_, _, rfl⟩ rfl rfl (Nat.le_of_ble_eq_true rfl) (Nat.le_of_ble_eq_true rfl) (LX12_operand_186 Γ _ r0v10 w0v11 r0_1 r0_6v12 r0_8v13 w0_9 w0_10 r0_43v14 (zr_n rfl (zr_n rfl (zr_n rfl zr_s))) (zq_i (zq_i (zq_i (zq_i zq_s)))) (zr_n rfl (zr_n rfl (zr_n rfl (zr_n rfl (zr_l e_i187))))) (zr_n rfl (zr_n rfl zr_s)) (zr_n rfl zr_s) (zq_i (zq_i (zq_i (zq_i (zq_n rfl e_l191))))) (zq_i (zq_i (zq_i (zq_i (zq_n rfl e_l192))))) zr_s hy40) ((zch_i (zch_i (zch_i (zm_li (zm_li (zm_li (zm_li zn_s)))) (zm_n rfl (zm_n rfl (zm_n rfl zm_s)))) (zm_n rfl zm_s)) zm_s)).symm ?_
            refine zj_bif_ne (tgt := 48) (pc' := 125) dX12_sentence_122 rfl (by decide) (fun c41 => ?_) (fun c41 => ?_)
            · have hy := zt_t hy c41
              have hn9 := h21 _ (Option.some.inj hy).symm
              exact ih20 _ _ _ _ _ _ hn9
            · have hy := zt_f hy c41
              refine zj_iconst (pc' := 126) dX12_sentence_125 rfl kiconst_m1 ?_
              refine zj_aload_n (pc' := 127) 0 dX12_sentence_126 rfl rfl rfl ?_
              refine zj_fI (pc' := 130) dX12_sentence_127 rfl flX12_176 sh186 rfl (zr_n rfl (zr_n rfl (zr_n rfl zr_s))) rfl ?_
              refine zj_isub (pc' := 131) dX12_sentence_130 rfl ?_
              have e9 := h22 _ (Option.some.inj hy).symm
              subst e9
              exact zj_iret dX12_sentence_131 rfl hq
          · have hy := zt_f hy c39
            refine zj_aload_n (pc' := 109) 0 dX12_sentence_108 rfl rfl rfl ?_
            obtain ⟨y42, hy42, hy⟩ := zt_b hy
            refine zj_V1 (pc' := 112) (z := YX12_behind) (As := []) (N := (zui (zui (zui (zui (zul M 186 y42.2.2.1) 186 y42.2.1) 188 r0_6v12) 190 y42.2.2.2.1) 202 y42.2.2.2.2)) dX12_sentence_109 rfl mlX12_456 lkX12_behind sh186 ⟨_, _, rfl⟩ rfl rfl (Nat.le_of_ble_eq_true rfl) (Nat.le_of_ble_eq_true rfl) (LX12_behind_186 Γ _ r0v10 w0v11 r0_1 r0_8v13 r0_43v14 (zr_n rfl (zr_n rfl (zr_n rfl zr_s))) (zq_i (zq_i (zq_i (zq_i zq_s)))) (zr_n rfl (zr_n rfl (zr_n rfl (zr_n rfl (zr_l e_i187))))) (zr_n rfl zr_s) zr_s hy42) ((zch_i (zch_i (zch_i (zm_li (zm_li (zm_li (zm_li zn_s)))) (zm_n rfl (zm_n rfl (zm_n rfl zm_s)))) (zm_n rfl zm_s)) zm_s)).symm ?_
            refine zj_bif_ne (tgt := 48) (pc' := 115) dX12_sentence_112 rfl (by decide) (fun c43 => ?_) (fun c43 => ?_)
            · have hy := zt_t hy c43
              have hn9 := h21 _ (Option.some.inj hy).symm
              exact ih20 _ _ _ _ _ _ hn9
            · have hy := zt_f hy c43
              refine zj_goto (tgt := 125) dX12_sentence_115 (by decide) ?_
              refine zj_iconst (pc' := 126) dX12_sentence_125 rfl kiconst_m1 ?_
              refine zj_aload_n (pc' := 127) 0 dX12_sentence_126 rfl rfl rfl ?_
              refine zj_fI (pc' := 130) dX12_sentence_127 rfl flX12_176 sh186 rfl (zr_n rfl (zr_n rfl (zr_n rfl zr_s))) rfl ?_
              refine zj_isub (pc' := 131) dX12_sentence_130 rfl ?_
              have e9 := h22 _ (Option.some.inj hy).symm
              subst e9
              exact zj_iret dX12_sentence_131 rfl hq
        refine zj_if_eq (tgt := 101) (pc' := 59) dX12_sentence_56 rfl (by decide) (fun c45 => ?_) (fun c45 => ?_)
        · have hy := zt_t hy c45
          exact HJ44 () hy
        · have hy := zt_f hy c45
          refine zj_aload_n (pc' := 60) 0 dX12_sentence_59 rfl rfl rfl ?_
          refine zj_fI (pc' := 63) dX12_sentence_60 rfl flX12_156 sh186 rfl (zr_n rfl (zr_n rfl (zr_n rfl zr_s))) rfl ?_
          refine zj_if_ne (tgt := 101) (pc' := 66) dX12_sentence_63 rfl (by decide) (fun c46 => ?_) (fun c46 => ?_)
          · have hy := zt_f hy c46
            exact HJ44 () hy
          · have hy := zt_t hy c46
            refine zj_aload_n (pc' := 67) 0 dX12_sentence_66 rfl rfl rfl ?_
            obtain ⟨y47, hy47, hy⟩ := zt_b hy
            refine zj_V0 (pc' := 70) (z := YX12_nots) (As := []) (N := (zui (zui (zui (zui (zul M 186 w0v11) 186 y47.1) 188 r0_6v12) 190 y47.2) 202 r0_43v14)) dX12_sentence_67 rfl mlX12_450 lkX12_nots sh186 ⟨_, _, rfl⟩ rfl rfl (Nat.le_of_ble_eq_true rfl) (Nat.le_of_ble_eq_true rfl) (LX12_nots_186 Γ _ r0v10 r0_8v13 r0_43v14 (zr_n rfl (zr_n rfl (zr_n rfl zr_s))) (zr_n rfl zr_s) zr_s hy47) ((zch_i (zm_n rfl (zm_n rfl (zm_n rfl zm_s))) (zm_n rfl zm_s))).symm ?_
            refine zj_aload_n (pc' := 71) 0 dX12_sentence_70 rfl rfl rfl ?_
            refine zj_bipush (pc' := 73) dX12_sentence_71 rfl kbipush_22 ?_
            obtain ⟨y48, hy48, hy⟩ := zt_b hy
            refine zj_V0 (pc' := 76) (z := YX12_joins) (As := [.int 22]) (N := (zui (zui (zui (zui (zul M 186 w0v11) 186 y48.1) 188 r0_6v12) 190 y48.2) 202 r0_43v14)) dX12_sentence_73 rfl mlX12_453 lkX12_joins sh186 ⟨_, _, rfl⟩ rfl rfl (Nat.le_of_ble_eq_true rfl) (Nat.le_of_ble_eq_true rfl) (LX12_joins_186 Γ _ y47.1 y47.2 r0_43v14 (zr_n rfl (zr_n rfl (zr_n rfl zr_s))) (zr_n rfl zr_s) zr_s 22 hy48) ((zch_i (zm_n rfl (zm_n rfl (zm_n rfl zm_s))) (zm_n rfl zm_s))).symm ?_
            refine zj_aload_n (pc' := 77) 0 dX12_sentence_76 rfl rfl rfl ?_
            refine zj_fI (pc' := 80) dX12_sentence_77 rfl flX12_432 sh186 rfl (zr_n rfl (zr_n rfl (zr_n rfl zr_s))) rfl ?_
            refine zj_if_le (tgt := 96) (pc' := 83) dX12_sentence_80 rfl (by decide) (fun c49 => ?_) (fun c49 => ?_)
            · have hy := zt_t hy c49
              refine zj_iconst (pc' := 97) dX12_sentence_96 rfl kiconst_0 ?_
              refine zj_istore_n (pc' := 98) (L' := [(1, .int 0), (0, .ref (zad Γ 186))]) dX12_sentence_97 rfl rfl (by decide) rfl ?_
              refine zj_goto (tgt := 48) dX12_sentence_98 (by decide) ?_
              have hn9 := h21 _ (Option.some.inj hy).symm
              refine zj_loc [1, 0] rfl ?_
              exact ih20 _ _ _ _ _ _ hn9
            · have hy := zt_f hy c49
              refine zj_aload_n (pc' := 84) 0 dX12_sentence_83 rfl rfl rfl ?_
              refine zj_iconst (pc' := 85) dX12_sentence_84 rfl kiconst_1 ?_
              obtain ⟨y50, hy50, hy⟩ := zt_b hy
              refine zj_V1 (pc' := 88) (z := YX12_bad) (As := [.int 1]) (N := (zui (zui (zui (zui (zul M 186 w0v11) 186 y50.2) 188 r0_6v12) 190 y48.2) 202 r0_43v14)) dX12_sentence_85 rfl mlX12_182 lkX12_bad sh186 ⟨_, _, rfl⟩ rfl rfl (Nat.le_of_ble_eq_true rfl) (Nat.le_of_ble_eq_true rfl) (LX12_bad_186 Γ _ y48.1 (zr_n rfl (zr_n rfl (zr_n rfl zr_s))) 1 hy50) ((zm_n rfl (zm_n rfl (zm_n rfl zm_s)))).symm ?_
              refine zj_pop (pc' := 89) dX12_sentence_88 rfl rfl ?_
              refine zj_iconst (pc' := 90) dX12_sentence_89 rfl kiconst_m1 ?_
              refine zj_aload_n (pc' := 91) 0 dX12_sentence_90 rfl rfl rfl ?_
              refine zj_fI (pc' := 94) dX12_sentence_91 rfl flX12_176 sh186 rfl (zr_n rfl (zr_n rfl (zr_n rfl zr_s))) rfl ?_
              refine zj_isub (pc' := 95) dX12_sentence_94 rfl ?_
              have e9 := h22 _ (Option.some.inj hy).symm
              subst e9
              exact zj_iret dX12_sentence_95 rfl hq
  exact HL17 n9 _ _ _ _ _ _ hn9
set_option maxRecDepth 20000 in
theorem LX12_sentence_186 (Γ : zG) (M : zM) (r0 : Nat → Int32) (w0 : Nat → Int64) (r0_1 : Nat → Int32) (r0_6 : Nat → Int32) (r0_8 : Nat → Int32) (w0_9 : Nat → Int64) (w0_10 : Nat → Int64) (r0_43 : Nat → Int32) (e_i186 : M.1 186 = r0) (e_l186 : M.2 186 = w0) (e_i187 : M.1 187 = r0_1) (e_i188 : M.1 188 = r0_6) (e_i190 : M.1 190 = r0_8) (e_l191 : M.2 191 = w0_9) (e_l192 : M.2 192 = w0_10) (e_i202 : M.1 202 = r0_43)  {res : Int32 × (Nat → Int32) × (Nat → Int64) × (Nat → Int32) × (Nat → Int32) × (Nat → Int32)} (hy : (fM_sentence r0 w0 r0_1 r0_6 r0_8 w0_9 w0_10 r0_43) = some res) : zK Γ 4 YX12_sentence [.ref (zad Γ 186)] M (fun v N => v = some (.int res.1) ∧ N = (zui (zui (zui (zui (zul M 186 res.2.2.1) 186 res.2.1) 188 res.2.2.2.1) 190 res.2.2.2.2.1) 202 res.2.2.2.2.2)) :=
  zK_of (by decide) (Nat.le_of_ble_eq_true rfl) (TX12_sentence_186 Γ M r0 w0 r0_1 r0_6 r0_8 w0_9 w0_10 r0_43 e_i186 e_l186 e_i187 e_i188 e_i190 e_l191 e_l192 e_i202 hy ⟨rfl, rfl⟩)

noncomputable def fSn_isThere (r0 : Nat → Int32) : Option (Bool) :=
  (if (r0 10) = 0 ∨ (r0 10) = 1 then some (decide ((r0 10) = 1)) else none)

set_option maxRecDepth 20000 in
theorem TX9_isThere_35 (Γ : zG) {Q : Option Value → zM → Prop} (M : zM) (r0 : Nat → Int32) (e_i35 : M.1 35 = r0)  {res : Bool} (hy : (fSn_isThere r0) = some res) (hq : Q (some (.int (zb res))) M) : zR Γ 1 YX9_isThere 0 [(0, .ref (zad Γ 35))] [] M Q := by
  unfold fSn_isThere at hy
  refine zj_aload_n (pc' := 1) 0 dX9_isThere_0 rfl rfl rfl ?_
  refine zj_fI (pc' := 4) dX9_isThere_1 rfl flX9_27 sh35 rfl e_i35 rfl ?_
  obtain ⟨cz9, hz9⟩ := zck hy
  have e9 := Option.some.inj hz9
  subst e9
  exact zj_cret dX9_isThere_4 rfl cz9 hq
set_option maxRecDepth 20000 in
theorem LX9_isThere_35 (Γ : zG) (M : zM) (r0 : Nat → Int32) (e_i35 : M.1 35 = r0)  {res : Bool} (hy : (fSn_isThere r0) = some res) : zK Γ 1 YX9_isThere [.ref (zad Γ 35)] M (fun v N => v = some (.int (zb res)) ∧ N = M) :=
  zK_of (by decide) (Nat.le_of_ble_eq_true rfl) (TX9_isThere_35 Γ M r0 e_i35 hy ⟨rfl, rfl⟩)

noncomputable def fSn_compares (r0_1 : Nat → Int32) (r0_2 : Nat → Int32) (a1 : Int32) (a2 : Int32) : Option (Bool) :=
  (zrd r0_1 40 a2).bind (fun (v1 : Int32) =>
  (if v1 = 60 then
  (zrd r0_2 40 a2).bind (fun (v3 : Int32) =>
  some (if v3 ≤ a1 then false else true))
  else
  (if v1 = 61 then
  (zrd r0_2 40 a2).bind (fun (v7 : Int32) =>
  some (if a1 = v7 then true else false))
  else
  (zrd r0_2 40 a2).bind (fun (v10 : Int32) =>
  some (if a1 ≤ v10 then false else true)))))

set_option maxRecDepth 20000 in
theorem TX9_compares_35 (Γ : zG) {Q : Option Value → zM → Prop} (M : zM) (r0_1 : Nat → Int32) (r0_2 : Nat → Int32) (e_i37 : M.1 37 = r0_1) (e_i38 : M.1 38 = r0_2) (a1 : Int32) (a2 : Int32) {res : Bool} (hy : (fSn_compares r0_1 r0_2 a1 a2) = some res) (hq : Q (some (.int (zb res))) M) : zR Γ 1 YX9_compares 0 [(0, .ref (zad Γ 35)), (1, .int a1), (2, .int a2)] [] M Q := by
  unfold fSn_compares at hy
  refine zj_aload_n (pc' := 1) 0 dX9_compares_0 rfl rfl rfl ?_
  refine zj_getR (pc' := 4) (j := 37) dX9_compares_1 rfl flX9_15 sh35 rfl ?_
  refine zj_iload_n (pc' := 5) 2 dX9_compares_4 rfl rfl rfl ?_
  obtain ⟨v1, hv1, hy⟩ := zt_b hy
  refine zj_rdi (pc' := 6) dX9_compares_5 rfl sh37 e_i37 hv1 ?_
  rcases Decidable.em (v1 = 60) with c2 | c2
  · have hy := zt_t hy c2
    refine zj_ls (off := 26) (tgt := 32) dX9_compares_6 (by decide) (by rw [c2]; decide) (by decide) ?_
    refine zj_iload_n (pc' := 33) 1 dX9_compares_32 rfl rfl rfl ?_
    refine zj_aload_n (pc' := 34) 0 dX9_compares_33 rfl rfl rfl ?_
    refine zj_getR (pc' := 37) (j := 38) dX9_compares_34 rfl flX9_18 sh35 rfl ?_
    refine zj_iload_n (pc' := 38) 2 dX9_compares_37 rfl rfl rfl ?_
    obtain ⟨v3, hv3, hy⟩ := zt_b hy
    refine zj_rdi (pc' := 39) dX9_compares_38 rfl sh38 e_i38 hv3 ?_
    have HJ4 : zR Γ 1 YX9_compares 47 [(0, .ref (zad Γ 35)), (1, .int a1), (2, .int a2)] [.int (zb (if v3 ≤ a1 then false else true))] M Q := by
      have e9 := Option.some.inj hy
      subst e9
      exact zj_bret (b := (if v3 ≤ a1 then false else true)) dX9_compares_47 rfl hq
    refine zj_icmp_ge (tgt := 46) (pc' := 42) dX9_compares_39 rfl (by decide) (fun c5 => ?_) (fun c5 => ?_)
    · refine zj_iconst (pc' := 47) dX9_compares_46 rfl kiconst_0 ?_
      exact zj_eqb (b := false) (if_pos c5) HJ4
    · refine zj_iconst (pc' := 43) dX9_compares_42 rfl kiconst_1 ?_
      refine zj_goto (tgt := 47) dX9_compares_43 (by decide) ?_
      exact zj_eqb (b := true) (if_neg c5) HJ4
  · have hy := zt_f hy c2
    rcases Decidable.em (v1 = 61) with c6 | c6
    · have hy := zt_t hy c6
      refine zj_ls (off := 42) (tgt := 48) dX9_compares_6 (by decide) (by rw [c6]; decide) (by decide) ?_
      refine zj_iload_n (pc' := 49) 1 dX9_compares_48 rfl rfl rfl ?_
      refine zj_aload_n (pc' := 50) 0 dX9_compares_49 rfl rfl rfl ?_
      refine zj_getR (pc' := 53) (j := 38) dX9_compares_50 rfl flX9_18 sh35 rfl ?_
      refine zj_iload_n (pc' := 54) 2 dX9_compares_53 rfl rfl rfl ?_
      obtain ⟨v7, hv7, hy⟩ := zt_b hy
      refine zj_rdi (pc' := 55) dX9_compares_54 rfl sh38 e_i38 hv7 ?_
      have HJ8 : zR Γ 1 YX9_compares 63 [(0, .ref (zad Γ 35)), (1, .int a1), (2, .int a2)] [.int (zb (if a1 = v7 then true else false))] M Q := by
        have e9 := Option.some.inj hy
        subst e9
        exact zj_bret (b := (if a1 = v7 then true else false)) dX9_compares_63 rfl hq
      refine zj_icmp_ne (tgt := 62) (pc' := 58) dX9_compares_55 rfl (by decide) (fun c9 => ?_) (fun c9 => ?_)
      · refine zj_iconst (pc' := 63) dX9_compares_62 rfl kiconst_0 ?_
        exact zj_eqb (b := false) (if_neg c9) HJ8
      · refine zj_iconst (pc' := 59) dX9_compares_58 rfl kiconst_1 ?_
        refine zj_goto (tgt := 63) dX9_compares_59 (by decide) ?_
        exact zj_eqb (b := true) (if_pos c9) HJ8
    · have hy := zt_f hy c6
      refine zj_ls (off := 58) (tgt := 64) dX9_compares_6 (by decide) (by have q0 := zne (k := 60) c2 (by decide); have q1 := zne (k := 61) c6 (by decide); simp [Op.lookupswitch.offset, q0, Ne.symm q0, q1, Ne.symm q1]) (by decide) ?_
      refine zj_iload_n (pc' := 65) 1 dX9_compares_64 rfl rfl rfl ?_
      refine zj_aload_n (pc' := 66) 0 dX9_compares_65 rfl rfl rfl ?_
      refine zj_getR (pc' := 69) (j := 38) dX9_compares_66 rfl flX9_18 sh35 rfl ?_
      refine zj_iload_n (pc' := 70) 2 dX9_compares_69 rfl rfl rfl ?_
      obtain ⟨v10, hv10, hy⟩ := zt_b hy
      refine zj_rdi (pc' := 71) dX9_compares_70 rfl sh38 e_i38 hv10 ?_
      have HJ11 : zR Γ 1 YX9_compares 79 [(0, .ref (zad Γ 35)), (1, .int a1), (2, .int a2)] [.int (zb (if a1 ≤ v10 then false else true))] M Q := by
        have e9 := Option.some.inj hy
        subst e9
        exact zj_bret (b := (if a1 ≤ v10 then false else true)) dX9_compares_79 rfl hq
      refine zj_icmp_le (tgt := 78) (pc' := 74) dX9_compares_71 rfl (by decide) (fun c12 => ?_) (fun c12 => ?_)
      · refine zj_iconst (pc' := 79) dX9_compares_78 rfl kiconst_0 ?_
        exact zj_eqb (b := false) (if_pos c12) HJ11
      · refine zj_iconst (pc' := 75) dX9_compares_74 rfl kiconst_1 ?_
        refine zj_goto (tgt := 79) dX9_compares_75 (by decide) ?_
        exact zj_eqb (b := true) (if_neg c12) HJ11
set_option maxRecDepth 20000 in
theorem LX9_compares_35 (Γ : zG) (M : zM) (r0_1 : Nat → Int32) (r0_2 : Nat → Int32) (e_i37 : M.1 37 = r0_1) (e_i38 : M.1 38 = r0_2) (a1 : Int32) (a2 : Int32) {res : Bool} (hy : (fSn_compares r0_1 r0_2 a1 a2) = some res) : zK Γ 1 YX9_compares [.ref (zad Γ 35), .int a1, .int a2] M (fun v N => v = some (.int (zb res)) ∧ N = M) :=
  zK_of (by decide) (Nat.le_of_ble_eq_true rfl) (TX9_compares_35 Γ M r0_1 r0_2 e_i37 e_i38 a1 a2 hy ⟨rfl, rfl⟩)


set_option maxRecDepth 20000 in
theorem TX1_bunsOf_15 (Γ : zG) {Q : Option Value → zM → Prop} (M : zM) (r0_1 : Nat → Int32) (e_i17 : M.1 17 = r0_1) (a1 : Int32) {res : Int32} (hy : (fDy_bunsOf r0_1 a1) = some res) (hq : Q (some (.int res)) M) : zR Γ 2 YX1_bunsOf 0 [(0, .ref (zad Γ 15)), (1, .int a1)] [] M Q := by
  unfold fDy_bunsOf at hy
  refine zj_iload_n (pc' := 1) 1 dX1_bunsOf_0 rfl rfl rfl ?_
  refine zj_S1 (pc' := 4) (z := YX1_mayBe) (As := [.int a1]) (N := M) dX1_bunsOf_1 rfl mlX1_58 lkX1_mayBe rfl rfl (Nat.le_of_ble_eq_true rfl) (Nat.le_of_ble_eq_true rfl) (LX1_mayBe Γ _ a1 rfl) rfl ?_
  refine zj_bif_eq (tgt := 16) (pc' := 7) dX1_bunsOf_4 rfl (by decide) (fun c1 => ?_) (fun c1 => ?_)
  · have hy := zt_f hy c1
    refine zj_iconst (pc' := 17) dX1_bunsOf_16 rfl kiconst_0 ?_
    have e9 := Option.some.inj hy
    subst e9
    exact zj_iret dX1_bunsOf_17 rfl hq
  · have hy := zt_t hy c1
    refine zj_aload_n (pc' := 8) 0 dX1_bunsOf_7 rfl rfl rfl ?_
    refine zj_getR (pc' := 11) (j := 17) dX1_bunsOf_8 rfl flX1_15 sh15 rfl ?_
    refine zj_iload_n (pc' := 12) 1 dX1_bunsOf_11 rfl rfl rfl ?_
    obtain ⟨v2, hv2, hy⟩ := zt_b hy
    refine zj_rdi (pc' := 13) dX1_bunsOf_12 rfl sh17 e_i17 hv2 ?_
    refine zj_goto (tgt := 17) dX1_bunsOf_13 (by decide) ?_
    have e9 := Option.some.inj hy
    subst e9
    exact zj_iret dX1_bunsOf_17 rfl hq
set_option maxRecDepth 20000 in
theorem LX1_bunsOf_15 (Γ : zG) (M : zM) (r0_1 : Nat → Int32) (e_i17 : M.1 17 = r0_1) (a1 : Int32) {res : Int32} (hy : (fDy_bunsOf r0_1 a1) = some res) : zK Γ 2 YX1_bunsOf [.ref (zad Γ 15), .int a1] M (fun v N => v = some (.int res) ∧ N = M) :=
  zK_of (by decide) (Nat.le_of_ble_eq_true rfl) (TX1_bunsOf_15 Γ M r0_1 e_i17 a1 hy ⟨rfl, rfl⟩)

noncomputable def fSn_fitsPlain (r0_0 : Nat → Int32) (r0_1 : Nat → Int32) (r0_2 : Nat → Int32) (r1_0 : Nat → Int32) (r1_1 : Nat → Int32) (r1_2 : Nat → Int32) (r1_5 : Nat → Int32) (a2 : Int32) (a3 : Int32) : Option (Bool) :=
  (zrd r0_0 40 a2).bind (fun (v1 : Int32) =>
  (if v1 = 13 then
  (fDy_followersOf r1_2 a3).bind (fun (y3 : Int32) =>
  some (if y3 = 0 then true else false))
  else
  (if v1 = 14 then
  (fDy_ringOf r1_2 a3).bind (fun (y7 : Int32) =>
  some (if y7 = 0 then false else true))
  else
  (if v1 = 15 then
  (fDy_isIdle r1_2 r1_5 a3).bind (fun (y11 : Bool) =>
  some y11)
  else
  (if v1 = 16 then
  (fDy_whereIs r1_0 a3).bind (fun (y13 : Int32) =>
  (zrd r0_1 40 a2).bind (fun (v14 : Int32) =>
  some (if y13 = v14 then true else false)))
  else
  (if v1 = 17 then
  (fDy_followedBy r1_2 a3).bind (fun (y18 : Int32) =>
  (zrd r0_1 40 a2).bind (fun (v19 : Int32) =>
  some (if y18 = v19 then true else false)))
  else
  (if v1 = 18 then
  (fDy_bunsOf r1_1 a3).bind (fun (y23 : Int32) =>
  (fSn_compares r0_1 r0_2 y23 a2).bind (fun (y24 : Bool) =>
  some y24))
  else
  (if v1 = 19 then
  (fDy_wayLeft r1_5 a3).bind (fun (y26 : Int32) =>
  (fSn_compares r0_1 r0_2 y26 a2).bind (fun (y27 : Bool) =>
  some y27))
  else
  (if v1 = 20 then
  (fDy_followersOf r1_2 a3).bind (fun (y29 : Int32) =>
  (fSn_compares r0_1 r0_2 (fJI_bitCount y29) a2).bind (fun (y30 : Bool) =>
  some y30))
  else
  (fSn_compares r0_1 r0_2 a3 a2).bind (fun (y31 : Bool) =>
  some y31))))))))))

set_option maxRecDepth 20000 in
theorem TX9_fitsPlain_35_15 (Γ : zG) {Q : Option Value → zM → Prop} (M : zM) (r0_0 : Nat → Int32) (r0_1 : Nat → Int32) (r0_2 : Nat → Int32) (r1_0 : Nat → Int32) (r1_1 : Nat → Int32) (r1_2 : Nat → Int32) (r1_5 : Nat → Int32) (e_i36 : M.1 36 = r0_0) (e_i37 : M.1 37 = r0_1) (e_i38 : M.1 38 = r0_2) (e_i16 : M.1 16 = r1_0) (e_i17 : M.1 17 = r1_1) (e_i18 : M.1 18 = r1_2) (e_i21 : M.1 21 = r1_5) (a2 : Int32) (a3 : Int32) {res : Bool} (hy : (fSn_fitsPlain r0_0 r0_1 r0_2 r1_0 r1_1 r1_2 r1_5 a2 a3) = some res) (hq : Q (some (.int (zb res))) M) : zR Γ 4 YX9_fitsPlain 0 [(0, .ref (zad Γ 35)), (1, .ref (zad Γ 15)), (2, .int a2), (3, .int a3)] [] M Q := by
  unfold fSn_fitsPlain at hy
  refine zj_aload_n (pc' := 1) 0 dX9_fitsPlain_0 rfl rfl rfl ?_
  refine zj_getR (pc' := 4) (j := 36) dX9_fitsPlain_1 rfl flX9_11 sh35 rfl ?_
  refine zj_iload_n (pc' := 5) 2 dX9_fitsPlain_4 rfl rfl rfl ?_
  obtain ⟨v1, hv1, hy⟩ := zt_b hy
  refine zj_rdi (pc' := 6) dX9_fitsPlain_5 rfl sh36 e_i36 hv1 ?_
  rcases Decidable.em (v1 = 13) with c2 | c2
  · have hy := zt_t hy c2
    refine zj_tsIn (tgt := 52) (v := 13) dX9_fitsPlain_6 c2 (by decide) (by decide) (off := 46) (by decide) (by decide) ?_
    refine zj_aload_n (pc' := 53) 1 dX9_fitsPlain_52 rfl rfl rfl ?_
    refine zj_iload_n (pc' := 54) 3 dX9_fitsPlain_53 rfl rfl rfl ?_
    obtain ⟨y3, hy3, hy⟩ := zt_b hy
    refine zj_V1 (pc' := 57) (z := YX1_followersOf) (As := [.int a3]) (N := M) dX9_fitsPlain_54 rfl mlX9_138 lkX1_followersOf sh15 ⟨_, _, rfl⟩ rfl rfl (Nat.le_of_ble_eq_true rfl) (Nat.le_of_ble_eq_true rfl) (LX1_followersOf_15 Γ _ r1_2 e_i18 a3 hy3) rfl ?_
    have HJ4 : zR Γ 4 YX9_fitsPlain 65 [(0, .ref (zad Γ 35)), (1, .ref (zad Γ 15)), (2, .int a2), (3, .int a3)] [.int (zb (if y3 = 0 then true else false))] M Q := by
      have e9 := Option.some.inj hy
      subst e9
      exact zj_bret (b := (if y3 = 0 then true else false)) dX9_fitsPlain_65 rfl hq
    refine zj_if_ne (tgt := 64) (pc' := 60) dX9_fitsPlain_57 rfl (by decide) (fun c5 => ?_) (fun c5 => ?_)
    · refine zj_iconst (pc' := 65) dX9_fitsPlain_64 rfl kiconst_0 ?_
      exact zj_eqb (b := false) (if_neg c5) HJ4
    · refine zj_iconst (pc' := 61) dX9_fitsPlain_60 rfl kiconst_1 ?_
      refine zj_goto (tgt := 65) dX9_fitsPlain_61 (by decide) ?_
      exact zj_eqb (b := true) (if_pos c5) HJ4
  · have hy := zt_f hy c2
    rcases Decidable.em (v1 = 14) with c6 | c6
    · have hy := zt_t hy c6
      refine zj_tsIn (tgt := 66) (v := 14) dX9_fitsPlain_6 c6 (by decide) (by decide) (off := 60) (by decide) (by decide) ?_
      refine zj_aload_n (pc' := 67) 1 dX9_fitsPlain_66 rfl rfl rfl ?_
      refine zj_iload_n (pc' := 68) 3 dX9_fitsPlain_67 rfl rfl rfl ?_
      obtain ⟨y7, hy7, hy⟩ := zt_b hy
      refine zj_V1 (pc' := 71) (z := YX1_ringOf) (As := [.int a3]) (N := M) dX9_fitsPlain_68 rfl mlX9_144 lkX1_ringOf sh15 ⟨_, _, rfl⟩ rfl rfl (Nat.le_of_ble_eq_true rfl) (Nat.le_of_ble_eq_true rfl) (LX1_ringOf_15 Γ _ r1_2 e_i18 a3 hy7) rfl ?_
      have HJ8 : zR Γ 4 YX9_fitsPlain 79 [(0, .ref (zad Γ 35)), (1, .ref (zad Γ 15)), (2, .int a2), (3, .int a3)] [.int (zb (if y7 = 0 then false else true))] M Q := by
        have e9 := Option.some.inj hy
        subst e9
        exact zj_bret (b := (if y7 = 0 then false else true)) dX9_fitsPlain_79 rfl hq
      refine zj_if_eq (tgt := 78) (pc' := 74) dX9_fitsPlain_71 rfl (by decide) (fun c9 => ?_) (fun c9 => ?_)
      · refine zj_iconst (pc' := 79) dX9_fitsPlain_78 rfl kiconst_0 ?_
        exact zj_eqb (b := false) (if_pos c9) HJ8
      · refine zj_iconst (pc' := 75) dX9_fitsPlain_74 rfl kiconst_1 ?_
        refine zj_goto (tgt := 79) dX9_fitsPlain_75 (by decide) ?_
        exact zj_eqb (b := true) (if_neg c9) HJ8
    · have hy := zt_f hy c6
      rcases Decidable.em (v1 = 15) with c10 | c10
      · have hy := zt_t hy c10
        refine zj_tsIn (tgt := 80) (v := 15) dX9_fitsPlain_6 c10 (by decide) (by decide) (off := 74) (by decide) (by decide) ?_
        refine zj_aload_n (pc' := 81) 1 dX9_fitsPlain_80 rfl rfl rfl ?_
        refine zj_iload_n (pc' := 82) 3 dX9_fitsPlain_81 rfl rfl rfl ?_
        obtain ⟨y11, hy11, hy⟩ := zt_b hy
        refine zj_V1 (pc' := 85) (z := YX1_isIdle) (As := [.int a3]) (N := M) dX9_fitsPlain_82 rfl mlX9_147 lkX1_isIdle sh15 ⟨_, _, rfl⟩ rfl rfl (Nat.le_of_ble_eq_true rfl) (Nat.le_of_ble_eq_true rfl) (LX1_isIdle_15 Γ _ r1_2 r1_5 e_i18 e_i21 a3 hy11) rfl ?_
        have e9 := Option.some.inj hy
        subst e9
        exact zj_bret (b := y11) dX9_fitsPlain_85 rfl hq
      · have hy := zt_f hy c10
        rcases Decidable.em (v1 = 16) with c12 | c12
        · have hy := zt_t hy c12
          refine zj_tsIn (tgt := 86) (v := 16) dX9_fitsPlain_6 c12 (by decide) (by decide) (off := 80) (by decide) (by decide) ?_
          refine zj_aload_n (pc' := 87) 1 dX9_fitsPlain_86 rfl rfl rfl ?_
          refine zj_iload_n (pc' := 88) 3 dX9_fitsPlain_87 rfl rfl rfl ?_
          obtain ⟨y13, hy13, hy⟩ := zt_b hy
          refine zj_V1 (pc' := 91) (z := YX1_whereIs) (As := [.int a3]) (N := M) dX9_fitsPlain_88 rfl mlX9_150 lkX1_whereIs sh15 ⟨_, _, rfl⟩ rfl rfl (Nat.le_of_ble_eq_true rfl) (Nat.le_of_ble_eq_true rfl) (LX1_whereIs_15 Γ _ r1_0 e_i16 a3 hy13) rfl ?_
          refine zj_aload_n (pc' := 92) 0 dX9_fitsPlain_91 rfl rfl rfl ?_
          refine zj_getR (pc' := 95) (j := 37) dX9_fitsPlain_92 rfl flX9_15 sh35 rfl ?_
          refine zj_iload_n (pc' := 96) 2 dX9_fitsPlain_95 rfl rfl rfl ?_
          obtain ⟨v14, hv14, hy⟩ := zt_b hy
          refine zj_rdi (pc' := 97) dX9_fitsPlain_96 rfl sh37 e_i37 hv14 ?_
          have HJ15 : zR Γ 4 YX9_fitsPlain 105 [(0, .ref (zad Γ 35)), (1, .ref (zad Γ 15)), (2, .int a2), (3, .int a3)] [.int (zb (if y13 = v14 then true else false))] M Q := by
            have e9 := Option.some.inj hy
            subst e9
            exact zj_bret (b := (if y13 = v14 then true else false)) dX9_fitsPlain_105 rfl hq
          refine zj_icmp_ne (tgt := 104) (pc' := 100) dX9_fitsPlain_97 rfl (by decide) (fun c16 => ?_) (fun c16 => ?_)
          · refine zj_iconst (pc' := 105) dX9_fitsPlain_104 rfl kiconst_0 ?_
            exact zj_eqb (b := false) (if_neg c16) HJ15
          · refine zj_iconst (pc' := 101) dX9_fitsPlain_100 rfl kiconst_1 ?_
            refine zj_goto (tgt := 105) dX9_fitsPlain_101 (by decide) ?_
            exact zj_eqb (b := true) (if_pos c16) HJ15
        · have hy := zt_f hy c12
          rcases Decidable.em (v1 = 17) with c17 | c17
          · have hy := zt_t hy c17
            refine zj_tsIn (tgt := 106) (v := 17) dX9_fitsPlain_6 c17 (by decide) (by decide) (off := 100) (by decide) (by decide) ?_
            refine zj_aload_n (pc' := 107) 1 dX9_fitsPlain_106 rfl rfl rfl ?_
            refine zj_iload_n (pc' := 108) 3 dX9_fitsPlain_107 rfl rfl rfl ?_
            obtain ⟨y18, hy18, hy⟩ := zt_b hy
            refine zj_V1 (pc' := 111) (z := YX1_followedBy) (As := [.int a3]) (N := M) dX9_fitsPlain_108 rfl mlX9_153 lkX1_followedBy sh15 ⟨_, _, rfl⟩ rfl rfl (Nat.le_of_ble_eq_true rfl) (Nat.le_of_ble_eq_true rfl) (LX1_followedBy_15 Γ _ r1_2 e_i18 a3 hy18) rfl ?_
            refine zj_aload_n (pc' := 112) 0 dX9_fitsPlain_111 rfl rfl rfl ?_
            refine zj_getR (pc' := 115) (j := 37) dX9_fitsPlain_112 rfl flX9_15 sh35 rfl ?_
            refine zj_iload_n (pc' := 116) 2 dX9_fitsPlain_115 rfl rfl rfl ?_
            obtain ⟨v19, hv19, hy⟩ := zt_b hy
            refine zj_rdi (pc' := 117) dX9_fitsPlain_116 rfl sh37 e_i37 hv19 ?_
            have HJ20 : zR Γ 4 YX9_fitsPlain 125 [(0, .ref (zad Γ 35)), (1, .ref (zad Γ 15)), (2, .int a2), (3, .int a3)] [.int (zb (if y18 = v19 then true else false))] M Q := by
              have e9 := Option.some.inj hy
              subst e9
              exact zj_bret (b := (if y18 = v19 then true else false)) dX9_fitsPlain_125 rfl hq
            refine zj_icmp_ne (tgt := 124) (pc' := 120) dX9_fitsPlain_117 rfl (by decide) (fun c21 => ?_) (fun c21 => ?_)
            · refine zj_iconst (pc' := 125) dX9_fitsPlain_124 rfl kiconst_0 ?_
              exact zj_eqb (b := false) (if_neg c21) HJ20
            · refine zj_iconst (pc' := 121) dX9_fitsPlain_120 rfl kiconst_1 ?_
              refine zj_goto (tgt := 125) dX9_fitsPlain_121 (by decide) ?_
              exact zj_eqb (b := true) (if_pos c21) HJ20
          · have hy := zt_f hy c17
            rcases Decidable.em (v1 = 18) with c22 | c22
            · have hy := zt_t hy c22
              refine zj_tsIn (tgt := 126) (v := 18) dX9_fitsPlain_6 c22 (by decide) (by decide) (off := 120) (by decide) (by decide) ?_
              refine zj_aload_n (pc' := 127) 0 dX9_fitsPlain_126 rfl rfl rfl ?_
              refine zj_aload_n (pc' := 128) 1 dX9_fitsPlain_127 rfl rfl rfl ?_
              refine zj_iload_n (pc' := 129) 3 dX9_fitsPlain_128 rfl rfl rfl ?_
              obtain ⟨y23, hy23, hy⟩ := zt_b hy
              refine zj_V1 (pc' := 132) (z := YX1_bunsOf) (As := [.int a3]) (N := M) dX9_fitsPlain_129 rfl mlX9_156 lkX1_bunsOf sh15 ⟨_, _, rfl⟩ rfl rfl (Nat.le_of_ble_eq_true rfl) (Nat.le_of_ble_eq_true rfl) (LX1_bunsOf_15 Γ _ r1_1 e_i17 a3 hy23) rfl ?_
              refine zj_iload_n (pc' := 133) 2 dX9_fitsPlain_132 rfl rfl rfl ?_
              obtain ⟨y24, hy24, hy⟩ := zt_b hy
              refine zj_V1 (pc' := 136) (z := YX9_compares) (As := [.int y23, .int a2]) (N := M) dX9_fitsPlain_133 rfl mlX9_159 lkX9_compares sh35 ⟨_, _, rfl⟩ rfl rfl (Nat.le_of_ble_eq_true rfl) (Nat.le_of_ble_eq_true rfl) (LX9_compares_35 Γ _ r0_1 r0_2 e_i37 e_i38 y23 a2 hy24) rfl ?_
              have e9 := Option.some.inj hy
              subst e9
              exact zj_bret (b := y24) dX9_fitsPlain_136 rfl hq
            · have hy := zt_f hy c22
              rcases Decidable.em (v1 = 19) with c25 | c25
              · have hy := zt_t hy c25
                refine zj_tsIn (tgt := 137) (v := 19) dX9_fitsPlain_6 c25 (by decide) (by decide) (off := 131) (by decide) (by decide) ?_
                refine zj_aload_n (pc' := 138) 0 dX9_fitsPlain_137 rfl rfl rfl ?_
                refine zj_aload_n (pc' := 139) 1 dX9_fitsPlain_138 rfl rfl rfl ?_
                refine zj_iload_n (pc' := 140) 3 dX9_fitsPlain_139 rfl rfl rfl ?_
                obtain ⟨y26, hy26, hy⟩ := zt_b hy
                refine zj_V1 (pc' := 143) (z := YX1_wayLeft) (As := [.int a3]) (N := M) dX9_fitsPlain_140 rfl mlX9_163 lkX1_wayLeft sh15 ⟨_, _, rfl⟩ rfl rfl (Nat.le_of_ble_eq_true rfl) (Nat.le_of_ble_eq_true rfl) (LX1_wayLeft_15 Γ _ r1_5 e_i21 a3 hy26) rfl ?_
                refine zj_iload_n (pc' := 144) 2 dX9_fitsPlain_143 rfl rfl rfl ?_
                obtain ⟨y27, hy27, hy⟩ := zt_b hy
                refine zj_V1 (pc' := 147) (z := YX9_compares) (As := [.int y26, .int a2]) (N := M) dX9_fitsPlain_144 rfl mlX9_159 lkX9_compares sh35 ⟨_, _, rfl⟩ rfl rfl (Nat.le_of_ble_eq_true rfl) (Nat.le_of_ble_eq_true rfl) (LX9_compares_35 Γ _ r0_1 r0_2 e_i37 e_i38 y26 a2 hy27) rfl ?_
                have e9 := Option.some.inj hy
                subst e9
                exact zj_bret (b := y27) dX9_fitsPlain_147 rfl hq
              · have hy := zt_f hy c25
                rcases Decidable.em (v1 = 20) with c28 | c28
                · have hy := zt_t hy c28
                  refine zj_tsIn (tgt := 148) (v := 20) dX9_fitsPlain_6 c28 (by decide) (by decide) (off := 142) (by decide) (by decide) ?_
                  refine zj_aload_n (pc' := 149) 0 dX9_fitsPlain_148 rfl rfl rfl ?_
                  refine zj_aload_n (pc' := 150) 1 dX9_fitsPlain_149 rfl rfl rfl ?_
                  refine zj_iload_n (pc' := 151) 3 dX9_fitsPlain_150 rfl rfl rfl ?_
                  obtain ⟨y29, hy29, hy⟩ := zt_b hy
                  refine zj_V1 (pc' := 154) (z := YX1_followersOf) (As := [.int a3]) (N := M) dX9_fitsPlain_151 rfl mlX9_138 lkX1_followersOf sh15 ⟨_, _, rfl⟩ rfl rfl (Nat.le_of_ble_eq_true rfl) (Nat.le_of_ble_eq_true rfl) (LX1_followersOf_15 Γ _ r1_2 e_i18 a3 hy29) rfl ?_
                  refine zj_S1 (pc' := 157) (z := YJ6_bitCount_0f7a4) (As := [.int y29]) (N := M) dX9_fitsPlain_154 rfl mlX9_166 lkJ6_bitCount_0f7a4 rfl rfl (Nat.le_of_ble_eq_true rfl) (Nat.le_of_ble_eq_true rfl) (LJ6_bitCount_0f7a4 Γ _ y29 rfl) rfl ?_
                  refine zj_iload_n (pc' := 158) 2 dX9_fitsPlain_157 rfl rfl rfl ?_
                  obtain ⟨y30, hy30, hy⟩ := zt_b hy
                  refine zj_V1 (pc' := 161) (z := YX9_compares) (As := [.int (fJI_bitCount y29), .int a2]) (N := M) dX9_fitsPlain_158 rfl mlX9_159 lkX9_compares sh35 ⟨_, _, rfl⟩ rfl rfl (Nat.le_of_ble_eq_true rfl) (Nat.le_of_ble_eq_true rfl) (LX9_compares_35 Γ _ r0_1 r0_2 e_i37 e_i38 (fJI_bitCount y29) a2 hy30) rfl ?_
                  have e9 := Option.some.inj hy
                  subst e9
                  exact zj_bret (b := y30) dX9_fitsPlain_161 rfl hq
                · have hy := zt_f hy c28
                  refine zj_tsOut (tgt := 162) dX9_fitsPlain_6 (by have q0 := zne (k := 13) c2 (by decide); have q1 := zne (k := 14) c6 (by decide); have q2 := zne (k := 15) c10 (by decide); have q3 := zne (k := 16) c12 (by decide); have q4 := zne (k := 17) c17 (by decide); have q5 := zne (k := 18) c22 (by decide); have q6 := zne (k := 19) c25 (by decide); have q7 := zne (k := 20) c28 (by decide); omega) (by decide) ?_
                  refine zj_aload_n (pc' := 163) 0 dX9_fitsPlain_162 rfl rfl rfl ?_
                  refine zj_iload_n (pc' := 164) 3 dX9_fitsPlain_163 rfl rfl rfl ?_
                  refine zj_iload_n (pc' := 165) 2 dX9_fitsPlain_164 rfl rfl rfl ?_
                  obtain ⟨y31, hy31, hy⟩ := zt_b hy
                  refine zj_V1 (pc' := 168) (z := YX9_compares) (As := [.int a3, .int a2]) (N := M) dX9_fitsPlain_165 rfl mlX9_159 lkX9_compares sh35 ⟨_, _, rfl⟩ rfl rfl (Nat.le_of_ble_eq_true rfl) (Nat.le_of_ble_eq_true rfl) (LX9_compares_35 Γ _ r0_1 r0_2 e_i37 e_i38 a3 a2 hy31) rfl ?_
                  have e9 := Option.some.inj hy
                  subst e9
                  exact zj_bret (b := y31) dX9_fitsPlain_168 rfl hq
set_option maxRecDepth 20000 in
theorem LX9_fitsPlain_35_15 (Γ : zG) (M : zM) (r0_0 : Nat → Int32) (r0_1 : Nat → Int32) (r0_2 : Nat → Int32) (r1_0 : Nat → Int32) (r1_1 : Nat → Int32) (r1_2 : Nat → Int32) (r1_5 : Nat → Int32) (e_i36 : M.1 36 = r0_0) (e_i37 : M.1 37 = r0_1) (e_i38 : M.1 38 = r0_2) (e_i16 : M.1 16 = r1_0) (e_i17 : M.1 17 = r1_1) (e_i18 : M.1 18 = r1_2) (e_i21 : M.1 21 = r1_5) (a2 : Int32) (a3 : Int32) {res : Bool} (hy : (fSn_fitsPlain r0_0 r0_1 r0_2 r1_0 r1_1 r1_2 r1_5 a2 a3) = some res) : zK Γ 4 YX9_fitsPlain [.ref (zad Γ 35), .ref (zad Γ 15), .int a2, .int a3] M (fun v N => v = some (.int (zb res)) ∧ N = M) :=
  zK_of (by decide) (Nat.le_of_ble_eq_true rfl) (TX9_fitsPlain_35_15 Γ M r0_0 r0_1 r0_2 r1_0 r1_1 r1_2 r1_5 e_i36 e_i37 e_i38 e_i16 e_i17 e_i18 e_i21 a2 a3 hy ⟨rfl, rfl⟩)

noncomputable def fSn_whoFitsPlain_L6 (r0_0 : Nat → Int32) (r0_1 : Nat → Int32) (r0_2 : Nat → Int32) (r1 : Nat → Int32) (r2_0 : Nat → Int32) (r2_1 : Nat → Int32) (r2_2 : Nat → Int32) (r2_5 : Nat → Int32) (a3 : Int32) (x1 : Int32) (x2 : Int32) : Option ((Int32 × Int32) ⊕ (Int32)) :=
  (if (fPl_persons r1) ≤ x2 then
  some (.inr x1)
  else
  (fSn_fitsPlain r0_0 r0_1 r0_2 r2_0 r2_1 r2_2 r2_5 a3 x2).bind (fun (y11 : Bool) =>
  (if y11 = true then
  zlet (x1 ||| ((1 : Int32) <<< (x2 &&& 31))) (fun (x13 : Int32) =>
  zlet (x2 + 1) (fun (x14 : Int32) =>
  some (.inl (x13, x14))))
  else
  zlet (x2 + 1) (fun (x15 : Int32) =>
  some (.inl (x1, x15))))))
noncomputable def fSn_whoFitsPlain (r0_0 : Nat → Int32) (r0_1 : Nat → Int32) (r0_2 : Nat → Int32) (r1 : Nat → Int32) (r2_0 : Nat → Int32) (r2_1 : Nat → Int32) (r2_2 : Nat → Int32) (r2_5 : Nat → Int32) (a3 : Int32) : Option (Int32) :=
  (zLP (fun s => fSn_whoFitsPlain_L6 r0_0 r0_1 r0_2 r1 r2_0 r2_1 r2_2 r2_5 a3 s.1 s.2) (0, 0)).bind (fun r5 =>
  some r5)

set_option maxRecDepth 20000 in
theorem TX9_whoFitsPlain_35_5_15 (Γ : zG) {Q : Option Value → zM → Prop} (M : zM) (r0_0 : Nat → Int32) (r0_1 : Nat → Int32) (r0_2 : Nat → Int32) (r1 : Nat → Int32) (r2_0 : Nat → Int32) (r2_1 : Nat → Int32) (r2_2 : Nat → Int32) (r2_5 : Nat → Int32) (e_i36 : M.1 36 = r0_0) (e_i37 : M.1 37 = r0_1) (e_i38 : M.1 38 = r0_2) (e_i5 : M.1 5 = r1) (e_i16 : M.1 16 = r2_0) (e_i17 : M.1 17 = r2_1) (e_i18 : M.1 18 = r2_2) (e_i21 : M.1 21 = r2_5) (a3 : Int32) {res : Int32} (hy : (fSn_whoFitsPlain r0_0 r0_1 r0_2 r1 r2_0 r2_1 r2_2 r2_5 a3) = some res) (hq : Q (some (.int res)) M) : zR Γ 5 YX9_whoFitsPlain 0 [(0, .ref (zad Γ 35)), (1, .ref (zad Γ 5)), (2, .ref (zad Γ 15)), (3, .int a3)] [] M Q := by
  unfold fSn_whoFitsPlain at hy
  refine zj_iconst (pc' := 1) dX9_whoFitsPlain_0 rfl kiconst_0 ?_
  refine zj_istore (pc' := 3) (L' := [(4, .int 0), (0, .ref (zad Γ 35)), (1, .ref (zad Γ 5)), (2, .ref (zad Γ 15)), (3, .int a3)]) dX9_whoFitsPlain_1 rfl (by decide) rfl ?_
  refine zj_iconst (pc' := 4) dX9_whoFitsPlain_3 rfl kiconst_0 ?_
  refine zj_istore (pc' := 6) (L' := [(5, .int 0), (4, .int 0), (0, .ref (zad Γ 35)), (1, .ref (zad Γ 5)), (2, .ref (zad Γ 15)), (3, .int a3)]) dX9_whoFitsPlain_4 rfl (by decide) rfl ?_
  refine zj_loc [2, 3, 4, 5, 1, 0] rfl ?_
  obtain ⟨r5, hr9, hyo6⟩ := zt_b hy
  obtain ⟨n9, hn9⟩ := zLP_some hr9
  have HE3 : ∀ (x16 : Int32), r5 = x16 → zR Γ 5 YX9_whoFitsPlain 41 [(4, .int x16)] [] M Q := by
    intro x16 e9
    have hy := hyo6
    try rw [e9] at hy
    try dsimp only at hy
    refine zj_iload (pc' := 43) 0 dX9_whoFitsPlain_41 rfl rfl ?_
    have e9 := Option.some.inj hy
    subst e9
    exact zj_iret dX9_whoFitsPlain_43 rfl hq
  have HL4 : ∀ (n : Nat) (x1 : Int32) (x2 : Int32), zlp (fun s => fSn_whoFitsPlain_L6 r0_0 r0_1 r0_2 r1 r2_0 r2_1 r2_2 r2_5 a3 s.1 s.2) n (x1, x2) = some r5 → zR Γ 5 YX9_whoFitsPlain 6 [(0, .ref (zad Γ 35)), (1, .ref (zad Γ 5)), (2, .ref (zad Γ 15)), (3, .int a3), (4, .int x1), (5, .int x2)] [] M Q := by
    intro n
    induction n with
    | zero => intro x1 x2 hn9; cases hn9
    | succ n ih7 =>
      intro x1 x2 hn9
      obtain ⟨o9, hb9, h8, h9⟩ := zlp_step hn9
      have hy : fSn_whoFitsPlain_L6 r0_0 r0_1 r0_2 r1 r2_0 r2_1 r2_2 r2_5 a3 x1 x2 = some o9 := hb9
      unfold fSn_whoFitsPlain_L6 at hy
      refine zj_iload (pc' := 8) 5 dX9_whoFitsPlain_6 rfl rfl ?_
      refine zj_aload_n (pc' := 9) 1 dX9_whoFitsPlain_8 rfl rfl rfl ?_
      refine zj_V1 (pc' := 12) (z := YX7_persons) (As := []) (N := M) dX9_whoFitsPlain_9 rfl mlX9_125 lkX7_persons sh5 ⟨_, _, rfl⟩ rfl rfl (Nat.le_of_ble_eq_true rfl) (Nat.le_of_ble_eq_true rfl) (LX7_persons_5 Γ _ r1 e_i5 rfl) rfl ?_
      refine zj_icmp_ge (tgt := 41) (pc' := 15) dX9_whoFitsPlain_12 rfl (by decide) (fun c10 => ?_) (fun c10 => ?_)
      · have hy := zt_t hy c10
        have e9 := h9 _ (Option.some.inj hy).symm
        refine zj_loc [4] rfl ?_
        exact HE3 _ e9.symm
      · have hy := zt_f hy c10
        refine zj_aload_n (pc' := 16) 0 dX9_whoFitsPlain_15 rfl rfl rfl ?_
        refine zj_aload_n (pc' := 17) 2 dX9_whoFitsPlain_16 rfl rfl rfl ?_
        refine zj_iload_n (pc' := 18) 3 dX9_whoFitsPlain_17 rfl rfl rfl ?_
        refine zj_iload (pc' := 20) 5 dX9_whoFitsPlain_18 rfl rfl ?_
        obtain ⟨y11, hy11, hy⟩ := zt_b hy
        refine zj_V1 (pc' := 23) (z := YX9_fitsPlain) (As := [.ref (zad Γ 15), .int a3, .int x2]) (N := M) dX9_whoFitsPlain_20 rfl mlX9_134 lkX9_fitsPlain sh35 ⟨_, _, rfl⟩ rfl rfl (Nat.le_of_ble_eq_true rfl) (Nat.le_of_ble_eq_true rfl) (LX9_fitsPlain_35_15 Γ _ r0_0 r0_1 r0_2 r2_0 r2_1 r2_2 r2_5 e_i36 e_i37 e_i38 e_i16 e_i17 e_i18 e_i21 a3 x2 hy11) rfl ?_
        refine zj_bif_eq (tgt := 35) (pc' := 26) dX9_whoFitsPlain_23 rfl (by decide) (fun c12 => ?_) (fun c12 => ?_)
        · have hy := zt_f hy c12
          obtain ⟨x15, ex15⟩ : ∃ z : Int32, z = (x2 + 1) := ⟨_, rfl⟩
          have hy := zlet_at ex15 hy
          refine zj_iinc (pc' := 38) 5 (L' := [(5, .int x15), (0, .ref (zad Γ 35)), (1, .ref (zad Γ 5)), (2, .ref (zad Γ 15)), (3, .int a3), (4, .int x1)]) dX9_whoFitsPlain_35 rfl rfl (by decide) (by rw [ci1, ← ex15]; rfl) ?_
          refine zj_goto (tgt := 6) dX9_whoFitsPlain_38 (by decide) ?_
          have hn9 := h8 _ (Option.some.inj hy).symm
          refine zj_loc [1, 2, 3, 4, 5, 0] rfl ?_
          exact ih7 _ _ hn9
        · have hy := zt_t hy c12
          refine zj_iload (pc' := 28) 4 dX9_whoFitsPlain_26 rfl rfl ?_
          refine zj_iconst (pc' := 29) dX9_whoFitsPlain_28 rfl kiconst_1 ?_
          refine zj_iload (pc' := 31) 5 dX9_whoFitsPlain_29 rfl rfl ?_
          refine zj_ishl (pc' := 32) dX9_whoFitsPlain_31 rfl ?_
          refine zj_ior (pc' := 33) dX9_whoFitsPlain_32 rfl ?_
          refine zj_topi (fun x13 ex13 => ?_)
          have hy := zlet_at ex13 hy
          refine zj_istore (pc' := 35) (L' := [(4, .int x13), (0, .ref (zad Γ 35)), (1, .ref (zad Γ 5)), (2, .ref (zad Γ 15)), (3, .int a3), (5, .int x2)]) dX9_whoFitsPlain_33 rfl (by decide) rfl ?_
          obtain ⟨x14, ex14⟩ : ∃ z : Int32, z = (x2 + 1) := ⟨_, rfl⟩
          have hy := zlet_at ex14 hy
          refine zj_iinc (pc' := 38) 5 (L' := [(5, .int x14), (4, .int x13), (0, .ref (zad Γ 35)), (1, .ref (zad Γ 5)), (2, .ref (zad Γ 15)), (3, .int a3)]) dX9_whoFitsPlain_35 rfl rfl (by decide) (by rw [ci1, ← ex14]; rfl) ?_
          refine zj_goto (tgt := 6) dX9_whoFitsPlain_38 (by decide) ?_
          have hn9 := h8 _ (Option.some.inj hy).symm
          refine zj_loc [2, 3, 4, 5, 1, 0] rfl ?_
          exact ih7 _ _ hn9
  exact HL4 n9 _ _ hn9
set_option maxRecDepth 20000 in
theorem LX9_whoFitsPlain_35_5_15 (Γ : zG) (M : zM) (r0_0 : Nat → Int32) (r0_1 : Nat → Int32) (r0_2 : Nat → Int32) (r1 : Nat → Int32) (r2_0 : Nat → Int32) (r2_1 : Nat → Int32) (r2_2 : Nat → Int32) (r2_5 : Nat → Int32) (e_i36 : M.1 36 = r0_0) (e_i37 : M.1 37 = r0_1) (e_i38 : M.1 38 = r0_2) (e_i5 : M.1 5 = r1) (e_i16 : M.1 16 = r2_0) (e_i17 : M.1 17 = r2_1) (e_i18 : M.1 18 = r2_2) (e_i21 : M.1 21 = r2_5) (a3 : Int32) {res : Int32} (hy : (fSn_whoFitsPlain r0_0 r0_1 r0_2 r1 r2_0 r2_1 r2_2 r2_5 a3) = some res) : zK Γ 5 YX9_whoFitsPlain [.ref (zad Γ 35), .ref (zad Γ 5), .ref (zad Γ 15), .int a3] M (fun v N => v = some (.int res) ∧ N = M) :=
  zK_of (by decide) (Nat.le_of_ble_eq_true rfl) (TX9_whoFitsPlain_35_5_15 Γ M r0_0 r0_1 r0_2 r1 r2_0 r2_1 r2_2 r2_5 e_i36 e_i37 e_i38 e_i5 e_i16 e_i17 e_i18 e_i21 a3 hy ⟨rfl, rfl⟩)

noncomputable def fSn_whoFits_L15 (r0 : Nat → Int32) (r0_0 : Nat → Int32) (r0_1 : Nat → Int32) (r0_2 : Nat → Int32) (r1 : Nat → Int32) (r2_0 : Nat → Int32) (r2_1 : Nat → Int32) (r2_2 : Nat → Int32) (r2_5 : Nat → Int32) (x1 : Int32) (r0_4v2 : Nat → Int32) (x3 : Int32) (x4 : Int32) : Option (((Nat → Int32) × Int32 × Int32) ⊕ ((Nat → Int32) × Int32)) :=
  (if (r0 5) ≤ x4 then
  some (.inr (r0_4v2, x3))
  else
  (if 40 ≤ x4 then
  some (.inr (r0_4v2, x3))
  else
  (zrd r0_0 40 x4).bind (fun (v14 : Int32) =>
  zlet (fun (u9 : Unit) =>
  zlet (fun (u9 : Unit) =>
  (if 40 ≤ x3 then
  zlet (x4 + 1) (fun (x16 : Int32) =>
  some (.inl (r0_4v2, x3, x16)))
  else
  (fSn_whoFitsPlain r0_0 r0_1 r0_2 r1 r2_0 r2_1 r2_2 r2_5 x4).bind (fun (y17 : Int32) =>
  (zwr r0_4v2 40 x3 y17).bind (fun (r0_4v18 : Nat → Int32) =>
  zlet (x3 + 1) (fun (x19 : Int32) =>
  zlet (x4 + 1) (fun (x20 : Int32) =>
  some (.inl (r0_4v18, x19, x20)))))))) (fun J21 =>
  zlet (fun (u9 : Unit) =>
  (if x3 ≤ 1 then
  J21 ()
  else
  zlet (x3 + (-1)) (fun (x23 : Int32) =>
  (if v14 = 11 then
  (zrd r0_4v2 40 (x23 - 1)).bind (fun (v25 : Int32) =>
  (zrd r0_4v2 40 x23).bind (fun (v26 : Int32) =>
  (zwr r0_4v2 40 (x23 - 1) (v25 &&& v26)).bind (fun (r0_4v27 : Nat → Int32) =>
  zlet (x4 + 1) (fun (x28 : Int32) =>
  some (.inl (r0_4v27, x23, x28))))))
  else
  (zrd r0_4v2 40 (x23 - 1)).bind (fun (v29 : Int32) =>
  (zrd r0_4v2 40 x23).bind (fun (v30 : Int32) =>
  (zwr r0_4v2 40 (x23 - 1) (v29 ||| v30)).bind (fun (r0_4v31 : Nat → Int32) =>
  zlet (x4 + 1) (fun (x32 : Int32) =>
  some (.inl (r0_4v31, x23, x32)))))))))) (fun J33 =>
  (if v14 = 11 then
  J33 ()
  else
  (if v14 = 10 then
  J33 ()
  else
  J21 ()))))) (fun J36 =>
  (if v14 = 12 then
  (if x3 ≤ 0 then
  J36 ()
  else
  (zrd r0_4v2 40 (x3 - 1)).bind (fun (v39 : Int32) =>
  (zwr r0_4v2 40 (x3 - 1) (x1 &&& (v39 ^^^ (-1)))).bind (fun (r0_4v40 : Nat → Int32) =>
  zlet (x4 + 1) (fun (x41 : Int32) =>
  some (.inl (r0_4v40, x3, x41))))))
  else
  J36 ())))))
noncomputable def fSn_whoFits (r0 : Nat → Int32) (r0_0 : Nat → Int32) (r0_1 : Nat → Int32) (r0_2 : Nat → Int32) (r0_4 : Nat → Int32) (r1 : Nat → Int32) (r2_0 : Nat → Int32) (r2_1 : Nat → Int32) (r2_2 : Nat → Int32) (r2_5 : Nat → Int32) : Option (Int32 × (Nat → Int32)) :=
  zlet (((1 : Int32) <<< ((fPl_persons r1) &&& 31)) - 1) (fun (x1 : Int32) =>
  (zLP (fun s => fSn_whoFits_L15 r0 r0_0 r0_1 r0_2 r1 r2_0 r2_1 r2_2 r2_5 x1 s.1 s.2.1 s.2.2) (r0_4, 0, 0)).bind (fun r7 =>
  (if r7.2 ≤ 0 then
  some (0, r7.1)
  else
  some ((r7.1 0), r7.1))))

set_option maxRecDepth 20000 in
theorem TX9_whoFits_35_5_15 (Γ : zG) {Q : Option Value → zM → Prop} (M : zM) (r0 : Nat → Int32) (r0_0 : Nat → Int32) (r0_1 : Nat → Int32) (r0_2 : Nat → Int32) (r0_4 : Nat → Int32) (r1 : Nat → Int32) (r2_0 : Nat → Int32) (r2_1 : Nat → Int32) (r2_2 : Nat → Int32) (r2_5 : Nat → Int32) (e_i35 : M.1 35 = r0) (e_i36 : M.1 36 = r0_0) (e_i37 : M.1 37 = r0_1) (e_i38 : M.1 38 = r0_2) (e_i40 : M.1 40 = r0_4) (e_i5 : M.1 5 = r1) (e_i16 : M.1 16 = r2_0) (e_i17 : M.1 17 = r2_1) (e_i18 : M.1 18 = r2_2) (e_i21 : M.1 21 = r2_5)  {res : Int32 × (Nat → Int32)} (hy : (fSn_whoFits r0 r0_0 r0_1 r0_2 r0_4 r1 r2_0 r2_1 r2_2 r2_5) = some res) (hq : Q (some (.int res.1)) (zui M 40 res.2)) : zR Γ 6 YX9_whoFits 0 [(0, .ref (zad Γ 35)), (1, .ref (zad Γ 5)), (2, .ref (zad Γ 15))] [] M Q := by
  unfold fSn_whoFits at hy
  refine zj_iconst (pc' := 1) dX9_whoFits_0 rfl kiconst_1 ?_
  refine zj_aload_n (pc' := 2) 1 dX9_whoFits_1 rfl rfl rfl ?_
  refine zj_V1 (pc' := 5) (z := YX7_persons) (As := []) (N := M) dX9_whoFits_2 rfl mlX9_125 lkX7_persons sh5 ⟨_, _, rfl⟩ rfl rfl (Nat.le_of_ble_eq_true rfl) (Nat.le_of_ble_eq_true rfl) (LX7_persons_5 Γ _ r1 e_i5 rfl) rfl ?_
  refine zj_ishl (pc' := 6) dX9_whoFits_5 rfl ?_
  refine zj_iconst (pc' := 7) dX9_whoFits_6 rfl kiconst_1 ?_
  refine zj_isub (pc' := 8) dX9_whoFits_7 rfl ?_
  refine zj_topi (fun x1 ex1 => ?_)
  have hy := zlet_at ex1 hy
  refine zj_istore_n (pc' := 9) (L' := [(3, .int x1), (0, .ref (zad Γ 35)), (1, .ref (zad Γ 5)), (2, .ref (zad Γ 15))]) dX9_whoFits_8 rfl rfl (by decide) rfl ?_
  refine zj_iconst (pc' := 10) dX9_whoFits_9 rfl kiconst_0 ?_
  refine zj_istore (pc' := 12) (L' := [(4, .int 0), (3, .int x1), (0, .ref (zad Γ 35)), (1, .ref (zad Γ 5)), (2, .ref (zad Γ 15))]) dX9_whoFits_10 rfl (by decide) rfl ?_
  refine zj_iconst (pc' := 13) dX9_whoFits_12 rfl kiconst_0 ?_
  refine zj_istore (pc' := 15) (L' := [(5, .int 0), (4, .int 0), (3, .int x1), (0, .ref (zad Γ 35)), (1, .ref (zad Γ 5)), (2, .ref (zad Γ 15))]) dX9_whoFits_13 rfl (by decide) rfl ?_
  refine zj_loc [3, 4, 5, 2, 1, 0] rfl ?_
  refine zj_mem (N := (zui M 40 r0_4)) (zself_i e_i40 rfl) ?_
  obtain ⟨r7, hr9, hyo8⟩ := zt_b hy
  obtain ⟨n9, hn9⟩ := zLP_some hr9
  have HE5 : ∀ (r0_4v42 : Nat → Int32) (x43 : Int32), r7 = (r0_4v42, x43) → zR Γ 6 YX9_whoFits 187 [(0, .ref (zad Γ 35)), (4, .int x43)] [] (zui M 40 r0_4v42) Q := by
    intro r0_4v42 x43 e9
    have hy := hyo8
    try rw [e9] at hy
    try dsimp only at hy
    refine zj_iload (pc' := 189) 1 dX9_whoFits_187 rfl rfl ?_
    refine zj_if_le (tgt := 201) (pc' := 192) dX9_whoFits_189 rfl (by decide) (fun c44 => ?_) (fun c44 => ?_)
    · have hy := zt_t hy c44
      refine zj_iconst (pc' := 202) dX9_whoFits_201 rfl kiconst_0 ?_
      have e9 := Option.some.inj hy
      subst e9
      exact zj_iret dX9_whoFits_202 rfl hq
    · have hy := zt_f hy c44
      refine zj_aload_n (pc' := 193) 0 dX9_whoFits_192 rfl rfl rfl ?_
      refine zj_getR (pc' := 196) (j := 40) dX9_whoFits_193 rfl flX9_24 sh35 rfl ?_
      refine zj_iconst (pc' := 197) dX9_whoFits_196 rfl kiconst_0 ?_
      refine zj_rdi (pc' := 198) dX9_whoFits_197 rfl sh40 zr_s (zrdK zi0_40 tn0) ?_
      refine zj_goto (tgt := 202) dX9_whoFits_198 (by decide) ?_
      have e9 := Option.some.inj hy
      subst e9
      exact zj_iret dX9_whoFits_202 rfl hq
  have HL6 : ∀ (n : Nat) (r0_4v2 : Nat → Int32) (x3 : Int32) (x4 : Int32), zlp (fun s => fSn_whoFits_L15 r0 r0_0 r0_1 r0_2 r1 r2_0 r2_1 r2_2 r2_5 x1 s.1 s.2.1 s.2.2) n (r0_4v2, x3, x4) = some r7 → zR Γ 6 YX9_whoFits 15 [(0, .ref (zad Γ 35)), (1, .ref (zad Γ 5)), (2, .ref (zad Γ 15)), (3, .int x1), (4, .int x3), (5, .int x4)] [] (zui M 40 r0_4v2) Q := by
    intro n
    induction n with
    | zero => intro r0_4v2 x3 x4 hn9; cases hn9
    | succ n ih9 =>
      intro r0_4v2 x3 x4 hn9
      obtain ⟨o9, hb9, h10, h11⟩ := zlp_step hn9
      have hy : fSn_whoFits_L15 r0 r0_0 r0_1 r0_2 r1 r2_0 r2_1 r2_2 r2_5 x1 r0_4v2 x3 x4 = some o9 := hb9
      unfold fSn_whoFits_L15 at hy
      refine zj_iload (pc' := 17) 5 dX9_whoFits_15 rfl rfl ?_
      refine zj_aload_n (pc' := 18) 0 dX9_whoFits_17 rfl rfl rfl ?_
      refine zj_fI (pc' := 21) dX9_whoFits_18 rfl flX9_35 sh35 rfl (zr_n rfl e_i35) rfl ?_
      refine zj_icmp_ge (tgt := 187) (pc' := 24) dX9_whoFits_21 rfl (by decide) (fun c12 => ?_) (fun c12 => ?_)
      · have hy := zt_t hy c12
        have e9 := h11 _ (Option.some.inj hy).symm
        refine zj_loc [0, 4] rfl ?_
        exact HE5 _ _ e9.symm
      · have hy := zt_f hy c12
        refine zj_iload (pc' := 26) 5 dX9_whoFits_24 rfl rfl ?_
        refine zj_bipush (pc' := 28) dX9_whoFits_26 rfl kbipush_40 ?_
        refine zj_icmp_ge (tgt := 187) (pc' := 31) dX9_whoFits_28 rfl (by decide) (fun c13 => ?_) (fun c13 => ?_)
        · have hy := zt_t hy c13
          have e9 := h11 _ (Option.some.inj hy).symm
          refine zj_loc [0, 4] rfl ?_
          exact HE5 _ _ e9.symm
        · have hy := zt_f hy c13
          refine zj_aload_n (pc' := 32) 0 dX9_whoFits_31 rfl rfl rfl ?_
          refine zj_getR (pc' := 35) (j := 36) dX9_whoFits_32 rfl flX9_11 sh35 rfl ?_
          refine zj_iload (pc' := 37) 5 dX9_whoFits_35 rfl rfl ?_
          obtain ⟨v14, hv14, hy⟩ := zt_b hy
          refine zj_rdi (pc' := 38) dX9_whoFits_37 rfl sh36 (zr_n rfl e_i36) hv14 ?_
          refine zj_istore (pc' := 40) (L' := [(6, .int v14), (0, .ref (zad Γ 35)), (1, .ref (zad Γ 5)), (2, .ref (zad Γ 15)), (3, .int x1), (4, .int x3), (5, .int x4)]) dX9_whoFits_38 rfl (by decide) rfl ?_
          refine zj_iload (pc' := 42) 0 dX9_whoFits_40 rfl rfl ?_
          refine zj_bipush (pc' := 44) dX9_whoFits_42 rfl kbipush_12 ?_
          obtain ⟨J36, eJ36, hy⟩ := zlet_ex hy
          have HJ36 : ∀ (u9 : Unit), J36 u9 = some o9 → zR Γ 6 YX9_whoFits 77 [(0, .ref (zad Γ 35)), (1, .ref (zad Γ 5)), (2, .ref (zad Γ 15)), (3, .int x1), (4, .int x3), (5, .int x4), (6, .int v14)] [] (zui M 40 r0_4v2) Q := by
            intro u9 hy
            have hy := zap1 eJ36 hy
            refine zj_iload (pc' := 79) 6 dX9_whoFits_77 rfl rfl ?_
            refine zj_bipush (pc' := 81) dX9_whoFits_79 rfl kbipush_11 ?_
            obtain ⟨J21, eJ21, hy⟩ := zlet_ex hy
            have HJ21 : ∀ (u9 : Unit), J21 u9 = some o9 → zR Γ 6 YX9_whoFits 156 [(0, .ref (zad Γ 35)), (1, .ref (zad Γ 5)), (2, .ref (zad Γ 15)), (3, .int x1), (4, .int x3), (5, .int x4)] [] (zui M 40 r0_4v2) Q := by
              intro u9 hy
              have hy := zap1 eJ21 hy
              refine zj_iload (pc' := 158) 4 dX9_whoFits_156 rfl rfl ?_
              refine zj_bipush (pc' := 160) dX9_whoFits_158 rfl kbipush_40 ?_
              refine zj_icmp_ge (tgt := 181) (pc' := 163) dX9_whoFits_160 rfl (by decide) (fun c15 => ?_) (fun c15 => ?_)
              · have hy := zt_t hy c15
                obtain ⟨x16, ex16⟩ : ∃ z : Int32, z = (x4 + 1) := ⟨_, rfl⟩
                have hy := zlet_at ex16 hy
                refine zj_iinc (pc' := 184) 5 (L' := [(5, .int x16), (0, .ref (zad Γ 35)), (1, .ref (zad Γ 5)), (2, .ref (zad Γ 15)), (3, .int x1), (4, .int x3)]) dX9_whoFits_181 rfl rfl (by decide) (by rw [ci1, ← ex16]; rfl) ?_
                refine zj_goto (tgt := 15) dX9_whoFits_184 (by decide) ?_
                have hn9 := h10 _ (Option.some.inj hy).symm
                refine zj_loc [1, 2, 3, 4, 5, 0] rfl ?_
                exact ih9 _ _ _ hn9
              · have hy := zt_f hy c15
                refine zj_aload_n (pc' := 164) 0 dX9_whoFits_163 rfl rfl rfl ?_
                refine zj_getR (pc' := 167) (j := 40) dX9_whoFits_164 rfl flX9_24 sh35 rfl ?_
                refine zj_iload (pc' := 169) 4 dX9_whoFits_167 rfl rfl ?_
                refine zj_aload_n (pc' := 170) 0 dX9_whoFits_169 rfl rfl rfl ?_
                refine zj_aload_n (pc' := 171) 1 dX9_whoFits_170 rfl rfl rfl ?_
                refine zj_aload_n (pc' := 172) 2 dX9_whoFits_171 rfl rfl rfl ?_
                refine zj_iload (pc' := 174) 5 dX9_whoFits_172 rfl rfl ?_
                obtain ⟨y17, hy17, hy⟩ := zt_b hy
                refine zj_V1 (pc' := 177) (z := YX9_whoFitsPlain) (As := [.ref (zad Γ 5), .ref (zad Γ 15), .int x4]) (N := (zui M 40 r0_4v2)) dX9_whoFits_174 rfl mlX9_130 lkX9_whoFitsPlain sh35 ⟨_, _, rfl⟩ rfl rfl (Nat.le_of_ble_eq_true rfl) (Nat.le_of_ble_eq_true rfl) (LX9_whoFitsPlain_35_5_15 Γ _ r0_0 r0_1 r0_2 r1 r2_0 r2_1 r2_2 r2_5 (zr_n rfl e_i36) (zr_n rfl e_i37) (zr_n rfl e_i38) (zr_n rfl e_i5) (zr_n rfl e_i16) (zr_n rfl e_i17) (zr_n rfl e_i18) (zr_n rfl e_i21) x4 hy17) rfl ?_
                obtain ⟨r0_4v18, hr0_4v18, hy⟩ := zt_b hy
                refine zj_wri (pc' := 178) (N := (zui M 40 r0_4v18)) dX9_whoFits_177 rfl sh40 zr_s hr0_4v18 zm_s ?_
                obtain ⟨x19, ex19⟩ : ∃ z : Int32, z = (x3 + 1) := ⟨_, rfl⟩
                have hy := zlet_at ex19 hy
                refine zj_iinc (pc' := 181) 4 (L' := [(4, .int x19), (0, .ref (zad Γ 35)), (1, .ref (zad Γ 5)), (2, .ref (zad Γ 15)), (3, .int x1), (5, .int x4)]) dX9_whoFits_178 rfl rfl (by decide) (by rw [ci1, ← ex19]; rfl) ?_
                obtain ⟨x20, ex20⟩ : ∃ z : Int32, z = (x4 + 1) := ⟨_, rfl⟩
                have hy := zlet_at ex20 hy
                refine zj_iinc (pc' := 184) 5 (L' := [(5, .int x20), (4, .int x19), (0, .ref (zad Γ 35)), (1, .ref (zad Γ 5)), (2, .ref (zad Γ 15)), (3, .int x1)]) dX9_whoFits_181 rfl rfl (by decide) (by rw [ci1, ← ex20]; rfl) ?_
                refine zj_goto (tgt := 15) dX9_whoFits_184 (by decide) ?_
                have hn9 := h10 _ (Option.some.inj hy).symm
                refine zj_loc [2, 3, 4, 5, 1, 0] rfl ?_
                exact ih9 _ _ _ hn9
            obtain ⟨J33, eJ33, hy⟩ := zlet_ex hy
            have HJ33 : ∀ (u9 : Unit), J33 u9 = some o9 → zR Γ 6 YX9_whoFits 91 [(0, .ref (zad Γ 35)), (1, .ref (zad Γ 5)), (2, .ref (zad Γ 15)), (3, .int x1), (4, .int x3), (5, .int x4), (6, .int v14)] [] (zui M 40 r0_4v2) Q := by
              intro u9 hy
              have hy := zap1 eJ33 hy
              refine zj_iload (pc' := 93) 4 dX9_whoFits_91 rfl rfl ?_
              refine zj_iconst (pc' := 94) dX9_whoFits_93 rfl kiconst_1 ?_
              refine zj_icmp_le (tgt := 156) (pc' := 97) dX9_whoFits_94 rfl (by decide) (fun c22 => ?_) (fun c22 => ?_)
              · have hy := zt_t hy c22
                refine zj_loc [0, 1, 2, 3, 4, 5] rfl ?_
                exact HJ21 () hy
              · have hy := zt_f hy c22
                obtain ⟨x23, ex23⟩ : ∃ z : Int32, z = (x3 + (-1)) := ⟨_, rfl⟩
                have hy := zlet_at ex23 hy
                refine zj_iinc (pc' := 100) 4 (L' := [(4, .int x23), (0, .ref (zad Γ 35)), (1, .ref (zad Γ 5)), (2, .ref (zad Γ 15)), (3, .int x1), (5, .int x4), (6, .int v14)]) dX9_whoFits_97 rfl rfl (by decide) (by rw [cim1, ← ex23]; rfl) ?_
                refine zj_aload_n (pc' := 101) 1 dX9_whoFits_100 rfl rfl rfl ?_
                refine zj_getR (pc' := 104) (j := 40) dX9_whoFits_101 rfl flX9_24 sh35 rfl ?_
                refine zj_iload (pc' := 106) 0 dX9_whoFits_104 rfl rfl ?_
                refine zj_iconst (pc' := 107) dX9_whoFits_106 rfl kiconst_1 ?_
                refine zj_isub (pc' := 108) dX9_whoFits_107 rfl ?_
                refine zj_iload (pc' := 110) 6 dX9_whoFits_108 rfl rfl ?_
                refine zj_bipush (pc' := 112) dX9_whoFits_110 rfl kbipush_11 ?_
                refine zj_icmp_ne (tgt := 135) (pc' := 115) dX9_whoFits_112 rfl (by decide) (fun c24 => ?_) (fun c24 => ?_)
                · have hy := zt_f hy c24
                  refine zj_aload_n (pc' := 136) 1 dX9_whoFits_135 rfl rfl rfl ?_
                  refine zj_getR (pc' := 139) (j := 40) dX9_whoFits_136 rfl flX9_24 sh35 rfl ?_
                  refine zj_iload (pc' := 141) 0 dX9_whoFits_139 rfl rfl ?_
                  refine zj_iconst (pc' := 142) dX9_whoFits_141 rfl kiconst_1 ?_
                  refine zj_isub (pc' := 143) dX9_whoFits_142 rfl ?_
                  obtain ⟨v29, hv29, hy⟩ := zt_b hy
                  refine zj_rdi (pc' := 144) dX9_whoFits_143 rfl sh40 zr_s hv29 ?_
                  refine zj_aload_n (pc' := 145) 1 dX9_whoFits_144 rfl rfl rfl ?_
                  refine zj_getR (pc' := 148) (j := 40) dX9_whoFits_145 rfl flX9_24 sh35 rfl ?_
                  refine zj_iload (pc' := 150) 0 dX9_whoFits_148 rfl rfl ?_
                  obtain ⟨v30, hv30, hy⟩ := zt_b hy
                  refine zj_rdi (pc' := 151) dX9_whoFits_150 rfl sh40 zr_s hv30 ?_
                  refine zj_ior (pc' := 152) dX9_whoFits_151 rfl ?_
                  obtain ⟨r0_4v31, hr0_4v31, hy⟩ := zt_b hy
                  refine zj_wri (pc' := 153) (N := (zui M 40 r0_4v31)) dX9_whoFits_152 rfl sh40 zr_s hr0_4v31 zm_s ?_
                  refine zj_goto (tgt := 181) dX9_whoFits_153 (by decide) ?_
                  obtain ⟨x32, ex32⟩ : ∃ z : Int32, z = (x4 + 1) := ⟨_, rfl⟩
                  have hy := zlet_at ex32 hy
                  refine zj_iinc (pc' := 184) 5 (L' := [(5, .int x32), (4, .int x23), (0, .ref (zad Γ 35)), (1, .ref (zad Γ 5)), (2, .ref (zad Γ 15)), (3, .int x1), (6, .int v14)]) dX9_whoFits_181 rfl rfl (by decide) (by rw [ci1, ← ex32]; rfl) ?_
                  refine zj_goto (tgt := 15) dX9_whoFits_184 (by decide) ?_
                  have hn9 := h10 _ (Option.some.inj hy).symm
                  refine zj_loc [2, 3, 4, 5, 1, 0] rfl ?_
                  exact ih9 _ _ _ hn9
                · have hy := zt_t hy c24
                  refine zj_aload_n (pc' := 116) 1 dX9_whoFits_115 rfl rfl rfl ?_
                  refine zj_getR (pc' := 119) (j := 40) dX9_whoFits_116 rfl flX9_24 sh35 rfl ?_
                  refine zj_iload (pc' := 121) 0 dX9_whoFits_119 rfl rfl ?_
                  refine zj_iconst (pc' := 122) dX9_whoFits_121 rfl kiconst_1 ?_
                  refine zj_isub (pc' := 123) dX9_whoFits_122 rfl ?_
                  obtain ⟨v25, hv25, hy⟩ := zt_b hy
                  refine zj_rdi (pc' := 124) dX9_whoFits_123 rfl sh40 zr_s hv25 ?_
                  refine zj_aload_n (pc' := 125) 1 dX9_whoFits_124 rfl rfl rfl ?_
                  refine zj_getR (pc' := 128) (j := 40) dX9_whoFits_125 rfl flX9_24 sh35 rfl ?_
                  refine zj_iload (pc' := 130) 0 dX9_whoFits_128 rfl rfl ?_
                  obtain ⟨v26, hv26, hy⟩ := zt_b hy
                  refine zj_rdi (pc' := 131) dX9_whoFits_130 rfl sh40 zr_s hv26 ?_
                  refine zj_iand (pc' := 132) dX9_whoFits_131 rfl ?_
                  refine zj_goto (tgt := 152) dX9_whoFits_132 (by decide) ?_
                  obtain ⟨r0_4v27, hr0_4v27, hy⟩ := zt_b hy
                  refine zj_wri (pc' := 153) (N := (zui M 40 r0_4v27)) dX9_whoFits_152 rfl sh40 zr_s hr0_4v27 zm_s ?_
                  refine zj_goto (tgt := 181) dX9_whoFits_153 (by decide) ?_
                  obtain ⟨x28, ex28⟩ : ∃ z : Int32, z = (x4 + 1) := ⟨_, rfl⟩
                  have hy := zlet_at ex28 hy
                  refine zj_iinc (pc' := 184) 5 (L' := [(5, .int x28), (4, .int x23), (0, .ref (zad Γ 35)), (1, .ref (zad Γ 5)), (2, .ref (zad Γ 15)), (3, .int x1), (6, .int v14)]) dX9_whoFits_181 rfl rfl (by decide) (by rw [ci1, ← ex28]; rfl) ?_
                  refine zj_goto (tgt := 15) dX9_whoFits_184 (by decide) ?_
                  have hn9 := h10 _ (Option.some.inj hy).symm
                  refine zj_loc [2, 3, 4, 5, 1, 0] rfl ?_
                  exact ih9 _ _ _ hn9
            refine zj_icmp_eq (tgt := 91) (pc' := 84) dX9_whoFits_81 rfl (by decide) (fun c34 => ?_) (fun c34 => ?_)
            · have hy := zt_t hy c34
              exact HJ33 () hy
            · have hy := zt_f hy c34
              refine zj_iload (pc' := 86) 6 dX9_whoFits_84 rfl rfl ?_
              refine zj_bipush (pc' := 88) dX9_whoFits_86 rfl kbipush_10 ?_
              refine zj_icmp_ne (tgt := 156) (pc' := 91) dX9_whoFits_88 rfl (by decide) (fun c35 => ?_) (fun c35 => ?_)
              · have hy := zt_f hy c35
                refine zj_loc [0, 1, 2, 3, 4, 5] rfl ?_
                exact HJ21 () hy
              · have hy := zt_t hy c35
                exact HJ33 () hy
          refine zj_icmp_ne (tgt := 77) (pc' := 47) dX9_whoFits_44 rfl (by decide) (fun c37 => ?_) (fun c37 => ?_)
          · have hy := zt_f hy c37
            refine zj_loc [1, 2, 3, 4, 5, 6, 0] rfl ?_
            exact HJ36 () hy
          · have hy := zt_t hy c37
            refine zj_iload (pc' := 49) 5 dX9_whoFits_47 rfl rfl ?_
            refine zj_if_le (tgt := 77) (pc' := 52) dX9_whoFits_49 rfl (by decide) (fun c38 => ?_) (fun c38 => ?_)
            · have hy := zt_t hy c38
              refine zj_loc [1, 2, 3, 4, 5, 6, 0] rfl ?_
              exact HJ36 () hy
            · have hy := zt_f hy c38
              refine zj_aload_n (pc' := 53) 1 dX9_whoFits_52 rfl rfl rfl ?_
              refine zj_getR (pc' := 56) (j := 40) dX9_whoFits_53 rfl flX9_24 sh35 rfl ?_
              refine zj_iload (pc' := 58) 5 dX9_whoFits_56 rfl rfl ?_
              refine zj_iconst (pc' := 59) dX9_whoFits_58 rfl kiconst_1 ?_
              refine zj_isub (pc' := 60) dX9_whoFits_59 rfl ?_
              refine zj_iload_n (pc' := 61) 4 dX9_whoFits_60 rfl rfl rfl ?_
              refine zj_aload_n (pc' := 62) 1 dX9_whoFits_61 rfl rfl rfl ?_
              refine zj_getR (pc' := 65) (j := 40) dX9_whoFits_62 rfl flX9_24 sh35 rfl ?_
              refine zj_iload (pc' := 67) 5 dX9_whoFits_65 rfl rfl ?_
              refine zj_iconst (pc' := 68) dX9_whoFits_67 rfl kiconst_1 ?_
              refine zj_isub (pc' := 69) dX9_whoFits_68 rfl ?_
              obtain ⟨v39, hv39, hy⟩ := zt_b hy
              refine zj_rdi (pc' := 70) dX9_whoFits_69 rfl sh40 zr_s hv39 ?_
              refine zj_iconst (pc' := 71) dX9_whoFits_70 rfl kiconst_m1 ?_
              refine zj_ixor (pc' := 72) dX9_whoFits_71 rfl ?_
              refine zj_iand (pc' := 73) dX9_whoFits_72 rfl ?_
              obtain ⟨r0_4v40, hr0_4v40, hy⟩ := zt_b hy
              refine zj_wri (pc' := 74) (N := (zui M 40 r0_4v40)) dX9_whoFits_73 rfl sh40 zr_s hr0_4v40 zm_s ?_
              refine zj_goto (tgt := 181) dX9_whoFits_74 (by decide) ?_
              obtain ⟨x41, ex41⟩ : ∃ z : Int32, z = (x4 + 1) := ⟨_, rfl⟩
              have hy := zlet_at ex41 hy
              refine zj_iinc (pc' := 184) 6 (L' := [(5, .int x41), (6, .int v14), (0, .ref (zad Γ 35)), (1, .ref (zad Γ 5)), (2, .ref (zad Γ 15)), (3, .int x1), (4, .int x3)]) dX9_whoFits_181 rfl rfl (by decide) (by rw [ci1, ← ex41]; rfl) ?_
              refine zj_goto (tgt := 15) dX9_whoFits_184 (by decide) ?_
              have hn9 := h10 _ (Option.some.inj hy).symm
              refine zj_loc [2, 3, 4, 5, 6, 0] rfl ?_
              exact ih9 _ _ _ hn9
  exact HL6 n9 _ _ _ hn9
set_option maxRecDepth 20000 in
theorem LX9_whoFits_35_5_15 (Γ : zG) (M : zM) (r0 : Nat → Int32) (r0_0 : Nat → Int32) (r0_1 : Nat → Int32) (r0_2 : Nat → Int32) (r0_4 : Nat → Int32) (r1 : Nat → Int32) (r2_0 : Nat → Int32) (r2_1 : Nat → Int32) (r2_2 : Nat → Int32) (r2_5 : Nat → Int32) (e_i35 : M.1 35 = r0) (e_i36 : M.1 36 = r0_0) (e_i37 : M.1 37 = r0_1) (e_i38 : M.1 38 = r0_2) (e_i40 : M.1 40 = r0_4) (e_i5 : M.1 5 = r1) (e_i16 : M.1 16 = r2_0) (e_i17 : M.1 17 = r2_1) (e_i18 : M.1 18 = r2_2) (e_i21 : M.1 21 = r2_5)  {res : Int32 × (Nat → Int32)} (hy : (fSn_whoFits r0 r0_0 r0_1 r0_2 r0_4 r1 r2_0 r2_1 r2_2 r2_5) = some res) : zK Γ 6 YX9_whoFits [.ref (zad Γ 35), .ref (zad Γ 5), .ref (zad Γ 15)] M (fun v N => v = some (.int res.1) ∧ N = (zui M 40 res.2)) :=
  zK_of (by decide) (Nat.le_of_ble_eq_true rfl) (TX9_whoFits_35_5_15 Γ M r0 r0_0 r0_1 r0_2 r0_4 r1 r2_0 r2_1 r2_2 r2_5 e_i35 e_i36 e_i37 e_i38 e_i40 e_i5 e_i16 e_i17 e_i18 e_i21 hy ⟨rfl, rfl⟩)

noncomputable def fX_said_L48 (a1 : Int32) (y4 : Int32 × (Nat → Int32)) (x5 : Int32) (x7 : Int32) (x8 : Int32) : Option ((Int32 × Int32) ⊕ (Int32 × (Nat → Int32))) :=
  (if 6 ≤ x8 then
  some (.inr ((-1), y4.2))
  else
  (if (fX_hasBit x5 x8) = true then
  (if x7 = a1 then
  some (.inr (x8, y4.2))
  else
  zlet (x7 + 1) (fun (x19 : Int32) =>
  zlet (x8 + 1) (fun (x20 : Int32) =>
  some (.inl (x19, x20)))))
  else
  zlet (x8 + 1) (fun (x21 : Int32) =>
  some (.inl (x7, x21)))))
noncomputable def fX_said (r0_2 : Nat → Int32) (r0_4_0 : Nat → Int32) (r0_4_1 : Nat → Int32) (r0_4_2 : Nat → Int32) (r0_4_5 : Nat → Int32) (r0_6 : Nat → Int32) (r0_6_0 : Nat → Int32) (r0_6_1 : Nat → Int32) (r0_6_2 : Nat → Int32) (r0_6_4 : Nat → Int32) (a1 : Int32) : Option (Int32 × (Nat → Int32)) :=
  (fSn_isThere r0_6).bind (fun (y1 : Bool) =>
  (if y1 = true then
  (if (-1) ≤ a1 then
  (fSn_whoFits r0_6 r0_6_0 r0_6_1 r0_6_2 r0_6_4 r0_2 r0_4_0 r0_4_1 r0_4_2 r0_4_5).bind (fun (y4 : Int32 × (Nat → Int32)) =>
  zlet y4.1 (fun (x5 : Int32) =>
  (if a1 = (-1) then
  some ((fJI_bitCount x5), y4.2)
  else
  zLP (fun s => fX_said_L48 a1 y4 x5 s.1 s.2) (0, 0))))
  else
  some ((-1), r0_6_4))
  else
  some ((-1), r0_6_4)))

set_option maxRecDepth 20000 in
theorem TX11_said_0 (Γ : zG) {Q : Option Value → zM → Prop} (M : zM) (r0_2 : Nat → Int32) (r0_4_0 : Nat → Int32) (r0_4_1 : Nat → Int32) (r0_4_2 : Nat → Int32) (r0_4_5 : Nat → Int32) (r0_6 : Nat → Int32) (r0_6_0 : Nat → Int32) (r0_6_1 : Nat → Int32) (r0_6_2 : Nat → Int32) (r0_6_4 : Nat → Int32) (e_i5 : M.1 5 = r0_2) (e_i16 : M.1 16 = r0_4_0) (e_i17 : M.1 17 = r0_4_1) (e_i18 : M.1 18 = r0_4_2) (e_i21 : M.1 21 = r0_4_5) (e_i35 : M.1 35 = r0_6) (e_i36 : M.1 36 = r0_6_0) (e_i37 : M.1 37 = r0_6_1) (e_i38 : M.1 38 = r0_6_2) (e_i40 : M.1 40 = r0_6_4) (a1 : Int32) {res : Int32 × (Nat → Int32)} (hy : (fX_said r0_2 r0_4_0 r0_4_1 r0_4_2 r0_4_5 r0_6 r0_6_0 r0_6_1 r0_6_2 r0_6_4 a1) = some res) (hq : Q (some (.int res.1)) (zui M 40 res.2)) : zR Γ 7 YX11_said 0 [(0, .ref (zad Γ 0)), (1, .int a1)] [] M Q := by
  unfold fX_said at hy
  refine zj_aload_n (pc' := 1) 0 dX11_said_0 rfl rfl rfl ?_
  refine zj_getR (pc' := 4) (j := 35) dX11_said_1 rfl flX11_48 sh0 rfl ?_
  obtain ⟨y1, hy1, hy⟩ := zt_b hy
  refine zj_V1 (pc' := 7) (z := YX9_isThere) (As := []) (N := M) dX11_said_4 rfl mlX11_369 lkX9_isThere sh35 ⟨_, _, rfl⟩ rfl rfl (Nat.le_of_ble_eq_true rfl) (Nat.le_of_ble_eq_true rfl) (LX9_isThere_35 Γ _ r0_6 e_i35 hy1) rfl ?_
  refine zj_bif_eq (tgt := 15) (pc' := 10) dX11_said_7 rfl (by decide) (fun c2 => ?_) (fun c2 => ?_)
  · have hy := zt_f hy c2
    refine zj_iconst (pc' := 16) dX11_said_15 rfl kiconst_m1 ?_
    have e9 := Option.some.inj hy
    subst e9
    refine zj_mem (N := (zui M 40 r0_6_4)) (zself_i e_i40 rfl) ?_
    exact zj_iret dX11_said_16 rfl hq
  · have hy := zt_t hy c2
    refine zj_iload_n (pc' := 11) 1 dX11_said_10 rfl rfl rfl ?_
    refine zj_iconst (pc' := 12) dX11_said_11 rfl kiconst_m1 ?_
    refine zj_icmp_ge (tgt := 17) (pc' := 15) dX11_said_12 rfl (by decide) (fun c3 => ?_) (fun c3 => ?_)
    · have hy := zt_t hy c3
      refine zj_aload_n (pc' := 18) 0 dX11_said_17 rfl rfl rfl ?_
      refine zj_getR (pc' := 21) (j := 35) dX11_said_18 rfl flX11_48 sh0 rfl ?_
      refine zj_aload_n (pc' := 22) 0 dX11_said_21 rfl rfl rfl ?_
      refine zj_getR (pc' := 25) (j := 5) dX11_said_22 rfl flX11_28 sh0 rfl ?_
      refine zj_aload_n (pc' := 26) 0 dX11_said_25 rfl rfl rfl ?_
      refine zj_getR (pc' := 29) (j := 15) dX11_said_26 rfl flX11_38 sh0 rfl ?_
      obtain ⟨y4, hy4, hy⟩ := zt_b hy
      refine zj_V1 (pc' := 32) (z := YX9_whoFits) (As := [.ref (zad Γ 5), .ref (zad Γ 15)]) (N := (zui M 40 y4.2)) dX11_said_29 rfl mlX11_373 lkX9_whoFits sh35 ⟨_, _, rfl⟩ rfl rfl (Nat.le_of_ble_eq_true rfl) (Nat.le_of_ble_eq_true rfl) (LX9_whoFits_35_5_15 Γ _ r0_6 r0_6_0 r0_6_1 r0_6_2 r0_6_4 r0_2 r0_4_0 r0_4_1 r0_4_2 r0_4_5 e_i35 e_i36 e_i37 e_i38 e_i40 e_i5 e_i16 e_i17 e_i18 e_i21 hy4) (rfl).symm ?_
      refine zj_topi (fun x5 ex5 => ?_)
      have hy := zlet_at ex5 hy
      refine zj_istore_n (pc' := 33) (L' := [(2, .int x5), (0, .ref (zad Γ 0)), (1, .int a1)]) dX11_said_32 rfl rfl (by decide) rfl ?_
      refine zj_iload_n (pc' := 34) 2 dX11_said_33 rfl rfl rfl ?_
      refine zj_iconst (pc' := 35) dX11_said_34 rfl kiconst_m1 ?_
      refine zj_icmp_ne (tgt := 43) (pc' := 38) dX11_said_35 rfl (by decide) (fun c6 => ?_) (fun c6 => ?_)
      · have hy := zt_f hy c6
        refine zj_iconst (pc' := 44) dX11_said_43 rfl kiconst_0 ?_
        refine zj_istore_n (pc' := 45) (L' := [(3, .int 0), (2, .int x5), (0, .ref (zad Γ 0)), (1, .int a1)]) dX11_said_44 rfl rfl (by decide) rfl ?_
        refine zj_iconst (pc' := 46) dX11_said_45 rfl kiconst_0 ?_
        refine zj_istore (pc' := 48) (L' := [(4, .int 0), (3, .int 0), (2, .int x5), (0, .ref (zad Γ 0)), (1, .int a1)]) dX11_said_46 rfl (by decide) rfl ?_
        refine zj_loc [4, 2, 1, 0] rfl ?_
        obtain ⟨n9, hn9⟩ := zLP_some hy
        have HL10 : ∀ (n : Nat) (x7 : Int32) (x8 : Int32), zlp (fun s => fX_said_L48 a1 y4 x5 s.1 s.2) n (x7, x8) = some res → zR Γ 7 YX11_said 48 [(1, .int a1), (2, .int x5), (3, .int x7), (4, .int x8)] [] (zui M 40 y4.2) Q := by
          intro n
          induction n with
          | zero => intro x7 x8 hn9; cases hn9
          | succ n ih13 =>
            intro x7 x8 hn9
            obtain ⟨o9, hb9, h14, h15⟩ := zlp_step hn9
            have hy : fX_said_L48 a1 y4 x5 x7 x8 = some o9 := hb9
            unfold fX_said_L48 at hy
            refine zj_iload (pc' := 50) 3 dX11_said_48 rfl rfl ?_
            refine zj_bipush (pc' := 52) dX11_said_50 rfl kbipush_6 ?_
            refine zj_icmp_ge (tgt := 81) (pc' := 55) dX11_said_52 rfl (by decide) (fun c16 => ?_) (fun c16 => ?_)
            · have hy := zt_t hy c16
              refine zj_iconst (pc' := 82) dX11_said_81 rfl kiconst_m1 ?_
              have e9 := h15 _ (Option.some.inj hy).symm
              subst e9
              exact zj_iret dX11_said_82 rfl hq
            · have hy := zt_f hy c16
              refine zj_iload_n (pc' := 56) 1 dX11_said_55 rfl rfl rfl ?_
              refine zj_iload (pc' := 58) 3 dX11_said_56 rfl rfl ?_
              refine zj_S1 (pc' := 61) (z := YX11_hasBit) (As := [.int x5, .int x8]) (N := (zui M 40 y4.2)) dX11_said_58 rfl mlX11_376 lkX11_hasBit rfl rfl (Nat.le_of_ble_eq_true rfl) (Nat.le_of_ble_eq_true rfl) (LX11_hasBit Γ _ x5 x8 rfl) rfl ?_
              refine zj_bif_eq (tgt := 75) (pc' := 64) dX11_said_61 rfl (by decide) (fun c17 => ?_) (fun c17 => ?_)
              · have hy := zt_f hy c17
                obtain ⟨x21, ex21⟩ : ∃ z : Int32, z = (x8 + 1) := ⟨_, rfl⟩
                have hy := zlet_at ex21 hy
                refine zj_iinc (pc' := 78) 3 (L' := [(4, .int x21), (1, .int a1), (2, .int x5), (3, .int x7)]) dX11_said_75 rfl rfl (by decide) (by rw [ci1, ← ex21]; rfl) ?_
                refine zj_goto (tgt := 48) dX11_said_78 (by decide) ?_
                have hn9 := h14 _ (Option.some.inj hy).symm
                refine zj_loc [1, 2, 3, 0] rfl ?_
                exact ih13 _ _ hn9
              · have hy := zt_t hy c17
                refine zj_iload_n (pc' := 65) 2 dX11_said_64 rfl rfl rfl ?_
                refine zj_iload_n (pc' := 66) 0 dX11_said_65 rfl rfl rfl ?_
                refine zj_icmp_ne (tgt := 72) (pc' := 69) dX11_said_66 rfl (by decide) (fun c18 => ?_) (fun c18 => ?_)
                · have hy := zt_f hy c18
                  obtain ⟨x19, ex19⟩ : ∃ z : Int32, z = (x7 + 1) := ⟨_, rfl⟩
                  have hy := zlet_at ex19 hy
                  refine zj_iinc (pc' := 75) 2 (L' := [(3, .int x19), (1, .int a1), (2, .int x5), (4, .int x8)]) dX11_said_72 rfl rfl (by decide) (by rw [ci1, ← ex19]; rfl) ?_
                  obtain ⟨x20, ex20⟩ : ∃ z : Int32, z = (x8 + 1) := ⟨_, rfl⟩
                  have hy := zlet_at ex20 hy
                  refine zj_iinc (pc' := 78) 3 (L' := [(4, .int x20), (3, .int x19), (1, .int a1), (2, .int x5)]) dX11_said_75 rfl rfl (by decide) (by rw [ci1, ← ex20]; rfl) ?_
                  refine zj_goto (tgt := 48) dX11_said_78 (by decide) ?_
                  have hn9 := h14 _ (Option.some.inj hy).symm
                  refine zj_loc [2, 3, 1, 0] rfl ?_
                  exact ih13 _ _ hn9
                · have hy := zt_t hy c18
                  refine zj_iload (pc' := 71) 3 dX11_said_69 rfl rfl ?_
                  have e9 := h15 _ (Option.some.inj hy).symm
                  subst e9
                  exact zj_iret dX11_said_71 rfl hq
        exact HL10 n9 _ _ hn9
      · have hy := zt_t hy c6
        refine zj_iload_n (pc' := 39) 0 dX11_said_38 rfl rfl rfl ?_
        refine zj_S1 (pc' := 42) (z := YJ6_bitCount_0f7a4) (As := [.int x5]) (N := (zui M 40 y4.2)) dX11_said_39 rfl mlX11_222 lkJ6_bitCount_0f7a4 rfl rfl (Nat.le_of_ble_eq_true rfl) (Nat.le_of_ble_eq_true rfl) (LJ6_bitCount_0f7a4 Γ _ x5 rfl) rfl ?_
        have e9 := Option.some.inj hy
        subst e9
        exact zj_iret dX11_said_42 rfl hq
    · have hy := zt_f hy c3
      refine zj_iconst (pc' := 16) dX11_said_15 rfl kiconst_m1 ?_
      have e9 := Option.some.inj hy
      subst e9
      refine zj_mem (N := (zui M 40 r0_6_4)) (zself_i e_i40 rfl) ?_
      exact zj_iret dX11_said_16 rfl hq
set_option maxRecDepth 20000 in
theorem LX11_said_0 (Γ : zG) (M : zM) (r0_2 : Nat → Int32) (r0_4_0 : Nat → Int32) (r0_4_1 : Nat → Int32) (r0_4_2 : Nat → Int32) (r0_4_5 : Nat → Int32) (r0_6 : Nat → Int32) (r0_6_0 : Nat → Int32) (r0_6_1 : Nat → Int32) (r0_6_2 : Nat → Int32) (r0_6_4 : Nat → Int32) (e_i5 : M.1 5 = r0_2) (e_i16 : M.1 16 = r0_4_0) (e_i17 : M.1 17 = r0_4_1) (e_i18 : M.1 18 = r0_4_2) (e_i21 : M.1 21 = r0_4_5) (e_i35 : M.1 35 = r0_6) (e_i36 : M.1 36 = r0_6_0) (e_i37 : M.1 37 = r0_6_1) (e_i38 : M.1 38 = r0_6_2) (e_i40 : M.1 40 = r0_6_4) (a1 : Int32) {res : Int32 × (Nat → Int32)} (hy : (fX_said r0_2 r0_4_0 r0_4_1 r0_4_2 r0_4_5 r0_6 r0_6_0 r0_6_1 r0_6_2 r0_6_4 a1) = some res) : zK Γ 7 YX11_said [.ref (zad Γ 0), .int a1] M (fun v N => v = some (.int res.1) ∧ N = (zui M 40 res.2)) :=
  zK_of (by decide) (Nat.le_of_ble_eq_true rfl) (TX11_said_0 Γ M r0_2 r0_4_0 r0_4_1 r0_4_2 r0_4_5 r0_6 r0_6_0 r0_6_1 r0_6_2 r0_6_4 e_i5 e_i16 e_i17 e_i18 e_i21 e_i35 e_i36 e_i37 e_i38 e_i40 a1 hy ⟨rfl, rfl⟩)

noncomputable def fM_isLeaf (r0_6 : Nat → Int32) (a1 : Int32) (a2 : Int32) (a3 : Int32) (a4 : Int32) : Option (Bool) :=
  (if a2 = 0 then
  (fM_followersOf r0_6 a1).bind (fun (y2 : Int32) =>
  some (if y2 = 0 then true else false))
  else
  (if a2 = 1 then
  (fM_ringOf r0_6 a1).bind (fun (y6 : Int32) =>
  some (if y6 ≤ 0 then false else true))
  else
  (if a2 = 2 then
  (fM_isIdle r0_6 a1).bind (fun (y10 : Bool) =>
  some y10)
  else
  (if a2 = 3 then
  (zrd r0_6 397 (91 + a1)).bind (fun (v12 : Int32) =>
  some (if v12 = a4 then true else false))
  else
  (if a2 = 4 then
  (fM_whomBy r0_6 a1).bind (fun (y16 : Int32) =>
  some (if y16 = a4 then true else false))
  else
  zlet (fun (x19 : Int32) =>
  some (if a3 = 60 then (if a4 ≤ x19 then false else true) else (if a3 = 61 then (if x19 = a4 then true else false) else (if x19 ≤ a4 then false else true)))) (fun J26 =>
  (if a2 = 5 then
  (zrd r0_6 397 (127 + a1)).bind (fun (v28 : Int32) =>
  J26 v28)
  else
  (if a2 = 6 then
  (zrd r0_6 397 (145 + a1)).bind (fun (v30 : Int32) =>
  J26 v30)
  else
  (if a2 = 7 then
  (fM_followersOf r0_6 a1).bind (fun (y32 : Int32) =>
  (fM_bits y32).bind (fun (y33 : Int32) =>
  J26 y33))
  else
  J26 a1)))))))))

set_option maxRecDepth 20000 in
theorem TX12_isLeaf_186 (Γ : zG) {Q : Option Value → zM → Prop} (M : zM) (r0_6 : Nat → Int32) (e_i188 : M.1 188 = r0_6) (a1 : Int32) (a2 : Int32) (a3 : Int32) (a4 : Int32) {res : Bool} (hy : (fM_isLeaf r0_6 a1 a2 a3 a4) = some res) (hq : Q (some (.int (zb res))) M) : zR Γ 3 YX12_isLeaf 0 [(0, .ref (zad Γ 186)), (1, .int a1), (2, .int a2), (3, .int a3), (4, .int a4)] [] M Q := by
  unfold fM_isLeaf at hy
  refine zj_iload_n (pc' := 1) 2 dX12_isLeaf_0 rfl rfl rfl ?_
  rcases Decidable.em (a2 = 0) with c1 | c1
  · have hy := zt_t hy c1
    refine zj_tsIn (tgt := 36) (v := 0) dX12_isLeaf_1 c1 (by decide) (by decide) (off := 35) (by decide) (by decide) ?_
    refine zj_aload_n (pc' := 37) 0 dX12_isLeaf_36 rfl rfl rfl ?_
    refine zj_iload_n (pc' := 38) 1 dX12_isLeaf_37 rfl rfl rfl ?_
    obtain ⟨y2, hy2, hy⟩ := zt_b hy
    refine zj_V1 (pc' := 41) (z := YX12_followersOf) (As := [.int a1]) (N := M) dX12_isLeaf_38 rfl mlX12_277 lkX12_followersOf sh186 ⟨_, _, rfl⟩ rfl rfl (Nat.le_of_ble_eq_true rfl) (Nat.le_of_ble_eq_true rfl) (LX12_followersOf_186 Γ _ r0_6 e_i188 a1 hy2) rfl ?_
    have HJ3 : zR Γ 3 YX12_isLeaf 49 [(0, .ref (zad Γ 186)), (1, .int a1), (2, .int a2), (3, .int a3), (4, .int a4)] [.int (zb (if y2 = 0 then true else false))] M Q := by
      have e9 := Option.some.inj hy
      subst e9
      exact zj_bret (b := (if y2 = 0 then true else false)) dX12_isLeaf_49 rfl hq
    refine zj_if_ne (tgt := 48) (pc' := 44) dX12_isLeaf_41 rfl (by decide) (fun c4 => ?_) (fun c4 => ?_)
    · refine zj_iconst (pc' := 49) dX12_isLeaf_48 rfl kiconst_0 ?_
      exact zj_eqb (b := false) (if_neg c4) HJ3
    · refine zj_iconst (pc' := 45) dX12_isLeaf_44 rfl kiconst_1 ?_
      refine zj_goto (tgt := 49) dX12_isLeaf_45 (by decide) ?_
      exact zj_eqb (b := true) (if_pos c4) HJ3
  · have hy := zt_f hy c1
    rcases Decidable.em (a2 = 1) with c5 | c5
    · have hy := zt_t hy c5
      refine zj_tsIn (tgt := 50) (v := 1) dX12_isLeaf_1 c5 (by decide) (by decide) (off := 49) (by decide) (by decide) ?_
      refine zj_aload_n (pc' := 51) 0 dX12_isLeaf_50 rfl rfl rfl ?_
      refine zj_iload_n (pc' := 52) 1 dX12_isLeaf_51 rfl rfl rfl ?_
      obtain ⟨y6, hy6, hy⟩ := zt_b hy
      refine zj_V1 (pc' := 55) (z := YX12_ringOf) (As := [.int a1]) (N := M) dX12_isLeaf_52 rfl mlX12_286 lkX12_ringOf sh186 ⟨_, _, rfl⟩ rfl rfl (Nat.le_of_ble_eq_true rfl) (Nat.le_of_ble_eq_true rfl) (LX12_ringOf_186 Γ _ r0_6 e_i188 a1 hy6) rfl ?_
      have HJ7 : zR Γ 3 YX12_isLeaf 63 [(0, .ref (zad Γ 186)), (1, .int a1), (2, .int a2), (3, .int a3), (4, .int a4)] [.int (zb (if y6 ≤ 0 then false else true))] M Q := by
        have e9 := Option.some.inj hy
        subst e9
        exact zj_bret (b := (if y6 ≤ 0 then false else true)) dX12_isLeaf_63 rfl hq
      refine zj_if_le (tgt := 62) (pc' := 58) dX12_isLeaf_55 rfl (by decide) (fun c8 => ?_) (fun c8 => ?_)
      · refine zj_iconst (pc' := 63) dX12_isLeaf_62 rfl kiconst_0 ?_
        exact zj_eqb (b := false) (if_pos c8) HJ7
      · refine zj_iconst (pc' := 59) dX12_isLeaf_58 rfl kiconst_1 ?_
        refine zj_goto (tgt := 63) dX12_isLeaf_59 (by decide) ?_
        exact zj_eqb (b := true) (if_neg c8) HJ7
    · have hy := zt_f hy c5
      rcases Decidable.em (a2 = 2) with c9 | c9
      · have hy := zt_t hy c9
        refine zj_tsIn (tgt := 64) (v := 2) dX12_isLeaf_1 c9 (by decide) (by decide) (off := 63) (by decide) (by decide) ?_
        refine zj_aload_n (pc' := 65) 0 dX12_isLeaf_64 rfl rfl rfl ?_
        refine zj_iload_n (pc' := 66) 1 dX12_isLeaf_65 rfl rfl rfl ?_
        obtain ⟨y10, hy10, hy⟩ := zt_b hy
        refine zj_V1 (pc' := 69) (z := YX12_isIdle) (As := [.int a1]) (N := M) dX12_isLeaf_66 rfl mlX12_373 lkX12_isIdle sh186 ⟨_, _, rfl⟩ rfl rfl (Nat.le_of_ble_eq_true rfl) (Nat.le_of_ble_eq_true rfl) (LX12_isIdle_186 Γ _ r0_6 e_i188 a1 hy10) rfl ?_
        have e9 := Option.some.inj hy
        subst e9
        exact zj_bret (b := y10) dX12_isLeaf_69 rfl hq
      · have hy := zt_f hy c9
        rcases Decidable.em (a2 = 3) with c11 | c11
        · have hy := zt_t hy c11
          refine zj_tsIn (tgt := 70) (v := 3) dX12_isLeaf_1 c11 (by decide) (by decide) (off := 69) (by decide) (by decide) ?_
          refine zj_aload_n (pc' := 71) 0 dX12_isLeaf_70 rfl rfl rfl ?_
          refine zj_getR (pc' := 74) (j := 188) dX12_isLeaf_71 rfl flX12_33 sh186 rfl ?_
          refine zj_bipush (pc' := 76) dX12_isLeaf_74 rfl kbipush_91 ?_
          refine zj_iload_n (pc' := 77) 1 dX12_isLeaf_76 rfl rfl rfl ?_
          refine zj_iadd (pc' := 78) dX12_isLeaf_77 rfl ?_
          obtain ⟨v12, hv12, hy⟩ := zt_b hy
          refine zj_rdi (pc' := 79) dX12_isLeaf_78 rfl sh188 e_i188 hv12 ?_
          refine zj_iload (pc' := 81) 4 dX12_isLeaf_79 rfl rfl ?_
          have HJ13 : zR Γ 3 YX12_isLeaf 89 [(0, .ref (zad Γ 186)), (1, .int a1), (2, .int a2), (3, .int a3), (4, .int a4)] [.int (zb (if v12 = a4 then true else false))] M Q := by
            have e9 := Option.some.inj hy
            subst e9
            exact zj_bret (b := (if v12 = a4 then true else false)) dX12_isLeaf_89 rfl hq
          refine zj_icmp_ne (tgt := 88) (pc' := 84) dX12_isLeaf_81 rfl (by decide) (fun c14 => ?_) (fun c14 => ?_)
          · refine zj_iconst (pc' := 89) dX12_isLeaf_88 rfl kiconst_0 ?_
            exact zj_eqb (b := false) (if_neg c14) HJ13
          · refine zj_iconst (pc' := 85) dX12_isLeaf_84 rfl kiconst_1 ?_
            refine zj_goto (tgt := 89) dX12_isLeaf_85 (by decide) ?_
            exact zj_eqb (b := true) (if_pos c14) HJ13
        · have hy := zt_f hy c11
          rcases Decidable.em (a2 = 4) with c15 | c15
          · have hy := zt_t hy c15
            refine zj_tsIn (tgt := 90) (v := 4) dX12_isLeaf_1 c15 (by decide) (by decide) (off := 89) (by decide) (by decide) ?_
            refine zj_aload_n (pc' := 91) 0 dX12_isLeaf_90 rfl rfl rfl ?_
            refine zj_iload_n (pc' := 92) 1 dX12_isLeaf_91 rfl rfl rfl ?_
            obtain ⟨y16, hy16, hy⟩ := zt_b hy
            refine zj_V1 (pc' := 95) (z := YX12_whomBy) (As := [.int a1]) (N := M) dX12_isLeaf_92 rfl mlX12_266 lkX12_whomBy sh186 ⟨_, _, rfl⟩ rfl rfl (Nat.le_of_ble_eq_true rfl) (Nat.le_of_ble_eq_true rfl) (LX12_whomBy_186 Γ _ r0_6 e_i188 a1 hy16) rfl ?_
            refine zj_iload (pc' := 97) 4 dX12_isLeaf_95 rfl rfl ?_
            have HJ17 : zR Γ 3 YX12_isLeaf 105 [(0, .ref (zad Γ 186)), (1, .int a1), (2, .int a2), (3, .int a3), (4, .int a4)] [.int (zb (if y16 = a4 then true else false))] M Q := by
              have e9 := Option.some.inj hy
              subst e9
              exact zj_bret (b := (if y16 = a4 then true else false)) dX12_isLeaf_105 rfl hq
            refine zj_icmp_ne (tgt := 104) (pc' := 100) dX12_isLeaf_97 rfl (by decide) (fun c18 => ?_) (fun c18 => ?_)
            · refine zj_iconst (pc' := 105) dX12_isLeaf_104 rfl kiconst_0 ?_
              exact zj_eqb (b := false) (if_neg c18) HJ17
            · refine zj_iconst (pc' := 101) dX12_isLeaf_100 rfl kiconst_1 ?_
              refine zj_goto (tgt := 105) dX12_isLeaf_101 (by decide) ?_
              exact zj_eqb (b := true) (if_pos c18) HJ17
          · have hy := zt_f hy c15
            refine zj_tsOut (tgt := 106) dX12_isLeaf_1 (by have q0 := zne (k := 0) c1 (by decide); have q1 := zne (k := 1) c5 (by decide); have q2 := zne (k := 2) c9 (by decide); have q3 := zne (k := 3) c11 (by decide); have q4 := zne (k := 4) c15 (by decide); omega) (by decide) ?_
            refine zj_iload_n (pc' := 107) 2 dX12_isLeaf_106 rfl rfl rfl ?_
            refine zj_iconst (pc' := 108) dX12_isLeaf_107 rfl kiconst_5 ?_
            obtain ⟨J26, eJ26, hy⟩ := zlet_ex hy
            have HJ26 : ∀ (x19 : Int32), J26 x19 = some res → zR Γ 3 YX12_isLeaf 160 [(3, .int a3), (4, .int a4)] [.int x19] M Q := by
              intro x19 hy
              have hy := zap1 eJ26 hy
              refine zj_istore (pc' := 162) (L' := [(5, .int x19), (3, .int a3), (4, .int a4)]) dX12_isLeaf_160 rfl (by decide) rfl ?_
              refine zj_iload_n (pc' := 163) 1 dX12_isLeaf_162 rfl rfl rfl ?_
              refine zj_bipush (pc' := 165) dX12_isLeaf_163 rfl kbipush_60 ?_
              have HJ20 : zR Γ 3 YX12_isLeaf 216 [(5, .int x19), (3, .int a3), (4, .int a4)] [.int (zb (if a3 = 60 then (if a4 ≤ x19 then false else true) else (if a3 = 61 then (if x19 = a4 then true else false) else (if x19 ≤ a4 then false else true))))] M Q := by
                have e9 := Option.some.inj hy
                subst e9
                exact zj_bret (b := (if a3 = 60 then (if a4 ≤ x19 then false else true) else (if a3 = 61 then (if x19 = a4 then true else false) else (if x19 ≤ a4 then false else true)))) dX12_isLeaf_216 rfl hq
              refine zj_icmp_ne (tgt := 183) (pc' := 168) dX12_isLeaf_165 rfl (by decide) (fun c21 => ?_) (fun c21 => ?_)
              · refine zj_iload_n (pc' := 184) 1 dX12_isLeaf_183 rfl rfl rfl ?_
                refine zj_bipush (pc' := 186) dX12_isLeaf_184 rfl kbipush_61 ?_
                refine zj_icmp_ne (tgt := 204) (pc' := 189) dX12_isLeaf_186 rfl (by decide) (fun c23 => ?_) (fun c23 => ?_)
                · refine zj_iload (pc' := 206) 0 dX12_isLeaf_204 rfl rfl ?_
                  refine zj_iload (pc' := 208) 2 dX12_isLeaf_206 rfl rfl ?_
                  refine zj_icmp_le (tgt := 215) (pc' := 211) dX12_isLeaf_208 rfl (by decide) (fun c25 => ?_) (fun c25 => ?_)
                  · refine zj_iconst (pc' := 216) dX12_isLeaf_215 rfl kiconst_0 ?_
                    exact zj_eqb (b := false) (((if_neg c21).trans (if_neg c23)).trans (if_pos c25)) HJ20
                  · refine zj_iconst (pc' := 212) dX12_isLeaf_211 rfl kiconst_1 ?_
                    refine zj_goto (tgt := 216) dX12_isLeaf_212 (by decide) ?_
                    exact zj_eqb (b := true) (((if_neg c21).trans (if_neg c23)).trans (if_neg c25)) HJ20
                · refine zj_iload (pc' := 191) 0 dX12_isLeaf_189 rfl rfl ?_
                  refine zj_iload (pc' := 193) 2 dX12_isLeaf_191 rfl rfl ?_
                  refine zj_icmp_ne (tgt := 200) (pc' := 196) dX12_isLeaf_193 rfl (by decide) (fun c24 => ?_) (fun c24 => ?_)
                  · refine zj_iconst (pc' := 201) dX12_isLeaf_200 rfl kiconst_0 ?_
                    refine zj_goto (tgt := 216) dX12_isLeaf_201 (by decide) ?_
                    exact zj_eqb (b := false) (((if_neg c21).trans (if_pos c23)).trans (if_neg c24)) HJ20
                  · refine zj_iconst (pc' := 197) dX12_isLeaf_196 rfl kiconst_1 ?_
                    refine zj_goto (tgt := 216) dX12_isLeaf_197 (by decide) ?_
                    exact zj_eqb (b := true) (((if_neg c21).trans (if_pos c23)).trans (if_pos c24)) HJ20
              · refine zj_iload (pc' := 170) 0 dX12_isLeaf_168 rfl rfl ?_
                refine zj_iload (pc' := 172) 2 dX12_isLeaf_170 rfl rfl ?_
                refine zj_icmp_ge (tgt := 179) (pc' := 175) dX12_isLeaf_172 rfl (by decide) (fun c22 => ?_) (fun c22 => ?_)
                · refine zj_iconst (pc' := 180) dX12_isLeaf_179 rfl kiconst_0 ?_
                  refine zj_goto (tgt := 216) dX12_isLeaf_180 (by decide) ?_
                  exact zj_eqb (b := false) ((if_pos c21).trans (if_pos c22)) HJ20
                · refine zj_iconst (pc' := 176) dX12_isLeaf_175 rfl kiconst_1 ?_
                  refine zj_goto (tgt := 216) dX12_isLeaf_176 (by decide) ?_
                  exact zj_eqb (b := true) ((if_pos c21).trans (if_neg c22)) HJ20
            refine zj_icmp_ne (tgt := 123) (pc' := 111) dX12_isLeaf_108 rfl (by decide) (fun c27 => ?_) (fun c27 => ?_)
            · have hy := zt_f hy c27
              refine zj_iload_n (pc' := 124) 2 dX12_isLeaf_123 rfl rfl rfl ?_
              refine zj_bipush (pc' := 126) dX12_isLeaf_124 rfl kbipush_6 ?_
              refine zj_icmp_ne (tgt := 142) (pc' := 129) dX12_isLeaf_126 rfl (by decide) (fun c29 => ?_) (fun c29 => ?_)
              · have hy := zt_f hy c29
                refine zj_iload_n (pc' := 143) 2 dX12_isLeaf_142 rfl rfl rfl ?_
                refine zj_bipush (pc' := 145) dX12_isLeaf_143 rfl kbipush_7 ?_
                refine zj_icmp_ne (tgt := 159) (pc' := 148) dX12_isLeaf_145 rfl (by decide) (fun c31 => ?_) (fun c31 => ?_)
                · have hy := zt_f hy c31
                  refine zj_iload_n (pc' := 160) 1 dX12_isLeaf_159 rfl rfl rfl ?_
                  refine zj_loc [3, 4] rfl ?_
                  exact HJ26 a1 hy
                · have hy := zt_t hy c31
                  refine zj_aload_n (pc' := 149) 0 dX12_isLeaf_148 rfl rfl rfl ?_
                  refine zj_iload_n (pc' := 150) 1 dX12_isLeaf_149 rfl rfl rfl ?_
                  obtain ⟨y32, hy32, hy⟩ := zt_b hy
                  refine zj_V1 (pc' := 153) (z := YX12_followersOf) (As := [.int a1]) (N := M) dX12_isLeaf_150 rfl mlX12_277 lkX12_followersOf sh186 ⟨_, _, rfl⟩ rfl rfl (Nat.le_of_ble_eq_true rfl) (Nat.le_of_ble_eq_true rfl) (LX12_followersOf_186 Γ _ r0_6 e_i188 a1 hy32) rfl ?_
                  obtain ⟨y33, hy33, hy⟩ := zt_b hy
                  refine zj_S1 (pc' := 156) (z := YX12_bits) (As := [.int y32]) (N := M) dX12_isLeaf_153 rfl mlX12_334 lkX12_bits rfl rfl (Nat.le_of_ble_eq_true rfl) (Nat.le_of_ble_eq_true rfl) (LX12_bits Γ _ y32 hy33) rfl ?_
                  refine zj_goto (tgt := 160) dX12_isLeaf_156 (by decide) ?_
                  refine zj_loc [3, 4] rfl ?_
                  exact HJ26 y33 hy
              · have hy := zt_t hy c29
                refine zj_aload_n (pc' := 130) 0 dX12_isLeaf_129 rfl rfl rfl ?_
                refine zj_getR (pc' := 133) (j := 188) dX12_isLeaf_130 rfl flX12_33 sh186 rfl ?_
                refine zj_sipush (pc' := 136) dX12_isLeaf_133 rfl ksipush_145 ?_
                refine zj_iload_n (pc' := 137) 1 dX12_isLeaf_136 rfl rfl rfl ?_
                refine zj_iadd (pc' := 138) dX12_isLeaf_137 rfl ?_
                obtain ⟨v30, hv30, hy⟩ := zt_b hy
                refine zj_rdi (pc' := 139) dX12_isLeaf_138 rfl sh188 e_i188 hv30 ?_
                refine zj_goto (tgt := 160) dX12_isLeaf_139 (by decide) ?_
                refine zj_loc [3, 4] rfl ?_
                exact HJ26 v30 hy
            · have hy := zt_t hy c27
              refine zj_aload_n (pc' := 112) 0 dX12_isLeaf_111 rfl rfl rfl ?_
              refine zj_getR (pc' := 115) (j := 188) dX12_isLeaf_112 rfl flX12_33 sh186 rfl ?_
              refine zj_bipush (pc' := 117) dX12_isLeaf_115 rfl kbipush_127 ?_
              refine zj_iload_n (pc' := 118) 1 dX12_isLeaf_117 rfl rfl rfl ?_
              refine zj_iadd (pc' := 119) dX12_isLeaf_118 rfl ?_
              obtain ⟨v28, hv28, hy⟩ := zt_b hy
              refine zj_rdi (pc' := 120) dX12_isLeaf_119 rfl sh188 e_i188 hv28 ?_
              refine zj_goto (tgt := 160) dX12_isLeaf_120 (by decide) ?_
              refine zj_loc [3, 4] rfl ?_
              exact HJ26 v28 hy
set_option maxRecDepth 20000 in
theorem LX12_isLeaf_186 (Γ : zG) (M : zM) (r0_6 : Nat → Int32) (e_i188 : M.1 188 = r0_6) (a1 : Int32) (a2 : Int32) (a3 : Int32) (a4 : Int32) {res : Bool} (hy : (fM_isLeaf r0_6 a1 a2 a3 a4) = some res) : zK Γ 3 YX12_isLeaf [.ref (zad Γ 186), .int a1, .int a2, .int a3, .int a4] M (fun v N => v = some (.int (zb res)) ∧ N = M) :=
  zK_of (by decide) (Nat.le_of_ble_eq_true rfl) (TX12_isLeaf_186 Γ M r0_6 e_i188 a1 a2 a3 a4 hy ⟨rfl, rfl⟩)

noncomputable def fM_isSaid_L4 (r0_6 : Nat → Int32) (a1 : Int32) (r0_49v1 : Nat → Int32) (x2 : Int32) (x3 : Int32) : Option (((Nat → Int32) × Int32 × Int32) ⊕ ((Nat → Int32))) :=
  (if (r0_6 216) ≤ x3 then
  some (.inr r0_49v1)
  else
  zlet (217 + (3 * x3)) (fun (x12 : Int32) =>
  (zrd r0_6 397 x12).bind (fun (v13 : Int32) =>
  (if v13 = 20 then
  (zrd r0_49v1 45 (x2 - 1)).bind (fun (v15 : Int32) =>
  (zwr r0_49v1 45 (x2 - 1) (vp_nar .boolean (zb (if v15 = 0 then true else false)))).bind (fun (r0_49v18 : Nat → Int32) =>
  zlet (x3 + 1) (fun (x19 : Int32) =>
  some (.inl (r0_49v18, x2, x19)))))
  else
  (zrd r0_6 397 x12).bind (fun (v20 : Int32) =>
  zlet (fun (u9 : Unit) =>
  zlet (x2 + (-1)) (fun (x21 : Int32) =>
  (zrd r0_6 397 x12).bind (fun (v22 : Int32) =>
  (if v22 = 21 then
  (zrd r0_49v1 45 (x21 - 1)).bind (fun (v24 : Int32) =>
  (if v24 = 0 then
  (zwr r0_49v1 45 (x21 - 1) (vp_nar .boolean 0)).bind (fun (r0_49v26 : Nat → Int32) =>
  zlet (x3 + 1) (fun (x27 : Int32) =>
  some (.inl (r0_49v26, x21, x27))))
  else
  (zrd r0_49v1 45 x21).bind (fun (v28 : Int32) =>
  (zwr r0_49v1 45 (x21 - 1) (vp_nar .boolean (zb (if v28 = 0 then false else true)))).bind (fun (r0_49v31 : Nat → Int32) =>
  zlet (x3 + 1) (fun (x32 : Int32) =>
  some (.inl (r0_49v31, x21, x32)))))))
  else
  (zrd r0_49v1 45 (x21 - 1)).bind (fun (v33 : Int32) =>
  (if v33 = 0 then
  (zrd r0_49v1 45 x21).bind (fun (v35 : Int32) =>
  (zwr r0_49v1 45 (x21 - 1) (vp_nar .boolean (zb (if v35 = 0 then false else true)))).bind (fun (r0_49v38 : Nat → Int32) =>
  zlet (x3 + 1) (fun (x39 : Int32) =>
  some (.inl (r0_49v38, x21, x39)))))
  else
  (zwr r0_49v1 45 (x21 - 1) (vp_nar .boolean 1)).bind (fun (r0_49v40 : Nat → Int32) =>
  zlet (x3 + 1) (fun (x41 : Int32) =>
  some (.inl (r0_49v40, x21, x41)))))))))) (fun J42 =>
  (if v20 = 21 then
  J42 ()
  else
  (zrd r0_6 397 x12).bind (fun (v44 : Int32) =>
  (if v44 = 22 then
  J42 ()
  else
  (zrd r0_6 397 x12).bind (fun (v46 : Int32) =>
  (zrd r0_6 397 (x12 + 1)).bind (fun (v47 : Int32) =>
  (zrd r0_6 397 (x12 + 2)).bind (fun (v48 : Int32) =>
  (fM_isLeaf r0_6 a1 v46 v47 v48).bind (fun (y49 : Bool) =>
  (zwr r0_49v1 45 x2 (vp_nar .boolean (zb y49))).bind (fun (r0_49v50 : Nat → Int32) =>
  zlet (x2 + 1) (fun (x51 : Int32) =>
  zlet (x3 + 1) (fun (x52 : Int32) =>
  some (.inl (r0_49v50, x51, x52))))))))))))))))))
noncomputable def fM_isSaid (r0_6 : Nat → Int32) (r0_49 : Nat → Int32) (a1 : Int32) : Option (Bool × (Nat → Int32)) :=
  (zLP (fun s => fM_isSaid_L4 r0_6 a1 s.1 s.2.1 s.2.2) (r0_49, 0, 0)).bind (fun r6 =>
  (if (r6 0) = 0 ∨ (r6 0) = 1 then some ((decide ((r6 0) = 1)), r6) else none))

set_option maxRecDepth 20000 in
theorem TX12_isSaid_186 (Γ : zG) {Q : Option Value → zM → Prop} (M : zM) (r0_6 : Nat → Int32) (r0_49 : Nat → Int32) (e_i188 : M.1 188 = r0_6) (e_i203 : M.1 203 = r0_49) (a1 : Int32) {res : Bool × (Nat → Int32)} (hy : (fM_isSaid r0_6 r0_49 a1) = some res) (hq : Q (some (.int (zb res.1))) (zui M 203 res.2)) : zR Γ 4 YX12_isSaid 0 [(0, .ref (zad Γ 186)), (1, .int a1)] [] M Q := by
  unfold fM_isSaid at hy
  refine zj_iconst (pc' := 1) dX12_isSaid_0 rfl kiconst_0 ?_
  refine zj_istore_n (pc' := 2) (L' := [(2, .int 0), (0, .ref (zad Γ 186)), (1, .int a1)]) dX12_isSaid_1 rfl rfl (by decide) rfl ?_
  refine zj_iconst (pc' := 3) dX12_isSaid_2 rfl kiconst_0 ?_
  refine zj_istore_n (pc' := 4) (L' := [(3, .int 0), (2, .int 0), (0, .ref (zad Γ 186)), (1, .int a1)]) dX12_isSaid_3 rfl rfl (by decide) rfl ?_
  refine zj_loc [2, 3, 1, 0] rfl ?_
  refine zj_mem (N := (zui M 203 r0_49)) (zself_i e_i203 rfl) ?_
  obtain ⟨r6, hr9, hyo7⟩ := zt_b hy
  obtain ⟨n9, hn9⟩ := zLP_some hr9
  have HE4 : ∀ (r0_49v53 : Nat → Int32), r6 = r0_49v53 → zR Γ 4 YX12_isSaid 212 [(0, .ref (zad Γ 186))] [] (zui M 203 r0_49v53) Q := by
    intro r0_49v53 e9
    have hy := hyo7
    try rw [e9] at hy
    try dsimp only at hy
    refine zj_aload_n (pc' := 213) 0 dX12_isSaid_212 rfl rfl rfl ?_
    refine zj_getR (pc' := 216) (j := 203) dX12_isSaid_213 rfl flX12_86 sh186 rfl ?_
    refine zj_iconst (pc' := 217) dX12_isSaid_216 rfl kiconst_0 ?_
    refine zj_rdz (pc' := 218) dX12_isSaid_217 rfl sh203 zr_s (zrdK zi0_45 tn0) ?_
    obtain ⟨cz9, hz9⟩ := zck hy
    have e9 := Option.some.inj hz9
    subst e9
    exact zj_cret dX12_isSaid_218 rfl cz9 hq
  have HL5 : ∀ (n : Nat) (r0_49v1 : Nat → Int32) (x2 : Int32) (x3 : Int32), zlp (fun s => fM_isSaid_L4 r0_6 a1 s.1 s.2.1 s.2.2) n (r0_49v1, x2, x3) = some r6 → zR Γ 4 YX12_isSaid 4 [(0, .ref (zad Γ 186)), (1, .int a1), (2, .int x2), (3, .int x3)] [] (zui M 203 r0_49v1) Q := by
    intro n
    induction n with
    | zero => intro r0_49v1 x2 x3 hn9; cases hn9
    | succ n ih8 =>
      intro r0_49v1 x2 x3 hn9
      obtain ⟨o9, hb9, h9, h10⟩ := zlp_step hn9
      have hy : fM_isSaid_L4 r0_6 a1 r0_49v1 x2 x3 = some o9 := hb9
      unfold fM_isSaid_L4 at hy
      refine zj_iload_n (pc' := 5) 3 dX12_isSaid_4 rfl rfl rfl ?_
      refine zj_aload_n (pc' := 6) 0 dX12_isSaid_5 rfl rfl rfl ?_
      refine zj_getR (pc' := 9) (j := 188) dX12_isSaid_6 rfl flX12_33 sh186 rfl ?_
      refine zj_sipush (pc' := 12) dX12_isSaid_9 rfl ksipush_216 ?_
      refine zj_rdi (pc' := 13) dX12_isSaid_12 rfl sh188 (zr_n rfl e_i188) (zrdK zi216_397 tn216) ?_
      refine zj_icmp_ge (tgt := 212) (pc' := 16) dX12_isSaid_13 rfl (by decide) (fun c11 => ?_) (fun c11 => ?_)
      · have hy := zt_t hy c11
        have e9 := h10 _ (Option.some.inj hy).symm
        refine zj_loc [0] rfl ?_
        exact HE4 _ e9.symm
      · have hy := zt_f hy c11
        refine zj_sipush (pc' := 19) dX12_isSaid_16 rfl ksipush_217 ?_
        refine zj_iconst (pc' := 20) dX12_isSaid_19 rfl kiconst_3 ?_
        refine zj_iload_n (pc' := 21) 3 dX12_isSaid_20 rfl rfl rfl ?_
        refine zj_imul (pc' := 22) dX12_isSaid_21 rfl ?_
        refine zj_iadd (pc' := 23) dX12_isSaid_22 rfl ?_
        refine zj_topi (fun x12 ex12 => ?_)
        have hy := zlet_at ex12 hy
        refine zj_istore (pc' := 25) (L' := [(4, .int x12), (0, .ref (zad Γ 186)), (1, .int a1), (2, .int x2), (3, .int x3)]) dX12_isSaid_23 rfl (by decide) rfl ?_
        refine zj_aload_n (pc' := 26) 1 dX12_isSaid_25 rfl rfl rfl ?_
        refine zj_getR (pc' := 29) (j := 188) dX12_isSaid_26 rfl flX12_33 sh186 rfl ?_
        refine zj_iload (pc' := 31) 0 dX12_isSaid_29 rfl rfl ?_
        obtain ⟨v13, hv13, hy⟩ := zt_b hy
        refine zj_rdi (pc' := 32) dX12_isSaid_31 rfl sh188 (zr_n rfl e_i188) hv13 ?_
        refine zj_bipush (pc' := 34) dX12_isSaid_32 rfl kbipush_20 ?_
        refine zj_icmp_ne (tgt := 64) (pc' := 37) dX12_isSaid_34 rfl (by decide) (fun c14 => ?_) (fun c14 => ?_)
        · have hy := zt_f hy c14
          refine zj_aload_n (pc' := 65) 1 dX12_isSaid_64 rfl rfl rfl ?_
          refine zj_getR (pc' := 68) (j := 188) dX12_isSaid_65 rfl flX12_33 sh186 rfl ?_
          refine zj_iload (pc' := 70) 0 dX12_isSaid_68 rfl rfl ?_
          obtain ⟨v20, hv20, hy⟩ := zt_b hy
          refine zj_rdi (pc' := 71) dX12_isSaid_70 rfl sh188 (zr_n rfl e_i188) hv20 ?_
          refine zj_bipush (pc' := 73) dX12_isSaid_71 rfl kbipush_21 ?_
          obtain ⟨J42, eJ42, hy⟩ := zlet_ex hy
          have HJ42 : ∀ (u9 : Unit), J42 u9 = some o9 → zR Γ 4 YX12_isSaid 88 [(0, .ref (zad Γ 186)), (1, .int a1), (2, .int x2), (3, .int x3), (4, .int x12)] [] (zui M 203 r0_49v1) Q := by
            intro u9 hy
            have hy := zap1 eJ42 hy
            obtain ⟨x21, ex21⟩ : ∃ z : Int32, z = (x2 + (-1)) := ⟨_, rfl⟩
            have hy := zlet_at ex21 hy
            refine zj_iinc (pc' := 91) 2 (L' := [(2, .int x21), (0, .ref (zad Γ 186)), (1, .int a1), (3, .int x3), (4, .int x12)]) dX12_isSaid_88 rfl rfl (by decide) (by rw [cim1, ← ex21]; rfl) ?_
            refine zj_aload_n (pc' := 92) 1 dX12_isSaid_91 rfl rfl rfl ?_
            refine zj_getR (pc' := 95) (j := 203) dX12_isSaid_92 rfl flX12_86 sh186 rfl ?_
            refine zj_iload_n (pc' := 96) 0 dX12_isSaid_95 rfl rfl rfl ?_
            refine zj_iconst (pc' := 97) dX12_isSaid_96 rfl kiconst_1 ?_
            refine zj_isub (pc' := 98) dX12_isSaid_97 rfl ?_
            refine zj_aload_n (pc' := 99) 1 dX12_isSaid_98 rfl rfl rfl ?_
            refine zj_getR (pc' := 102) (j := 188) dX12_isSaid_99 rfl flX12_33 sh186 rfl ?_
            refine zj_iload (pc' := 104) 4 dX12_isSaid_102 rfl rfl ?_
            obtain ⟨v22, hv22, hy⟩ := zt_b hy
            refine zj_rdi (pc' := 105) dX12_isSaid_104 rfl sh188 (zr_n rfl e_i188) hv22 ?_
            refine zj_bipush (pc' := 107) dX12_isSaid_105 rfl kbipush_21 ?_
            refine zj_icmp_ne (tgt := 138) (pc' := 110) dX12_isSaid_107 rfl (by decide) (fun c23 => ?_) (fun c23 => ?_)
            · have hy := zt_f hy c23
              refine zj_aload_n (pc' := 139) 1 dX12_isSaid_138 rfl rfl rfl ?_
              refine zj_getR (pc' := 142) (j := 203) dX12_isSaid_139 rfl flX12_86 sh186 rfl ?_
              refine zj_iload_n (pc' := 143) 0 dX12_isSaid_142 rfl rfl rfl ?_
              refine zj_iconst (pc' := 144) dX12_isSaid_143 rfl kiconst_1 ?_
              refine zj_isub (pc' := 145) dX12_isSaid_144 rfl ?_
              obtain ⟨v33, hv33, hy⟩ := zt_b hy
              refine zj_rdz (pc' := 146) dX12_isSaid_145 rfl sh203 zr_s hv33 ?_
              refine zj_if_ne (tgt := 158) (pc' := 149) dX12_isSaid_146 rfl (by decide) (fun c34 => ?_) (fun c34 => ?_)
              · have hy := zt_f hy c34
                refine zj_iconst (pc' := 159) dX12_isSaid_158 rfl kiconst_1 ?_
                refine zj_goto (tgt := 163) dX12_isSaid_159 (by decide) ?_
                obtain ⟨r0_49v40, hr0_49v40, hy⟩ := zt_b hy
                refine zj_wrz (pc' := 164) (N := (zui M 203 r0_49v40)) dX12_isSaid_163 rfl sh203 zr_s hr0_49v40 zm_s ?_
                refine zj_goto (tgt := 206) dX12_isSaid_164 (by decide) ?_
                obtain ⟨x41, ex41⟩ : ∃ z : Int32, z = (x3 + 1) := ⟨_, rfl⟩
                have hy := zlet_at ex41 hy
                refine zj_iinc (pc' := 209) 3 (L' := [(3, .int x41), (2, .int x21), (0, .ref (zad Γ 186)), (1, .int a1), (4, .int x12)]) dX12_isSaid_206 rfl rfl (by decide) (by rw [ci1, ← ex41]; rfl) ?_
                refine zj_goto (tgt := 4) dX12_isSaid_209 (by decide) ?_
                have hn9 := h9 _ (Option.some.inj hy).symm
                refine zj_loc [2, 3, 1, 0] rfl ?_
                exact ih8 _ _ _ hn9
              · have hy := zt_t hy c34
                refine zj_aload_n (pc' := 150) 1 dX12_isSaid_149 rfl rfl rfl ?_
                refine zj_getR (pc' := 153) (j := 203) dX12_isSaid_150 rfl flX12_86 sh186 rfl ?_
                refine zj_iload_n (pc' := 154) 0 dX12_isSaid_153 rfl rfl rfl ?_
                obtain ⟨v35, hv35, hy⟩ := zt_b hy
                refine zj_rdz (pc' := 155) dX12_isSaid_154 rfl sh203 zr_s hv35 ?_
                have HJ36 : zR Γ 4 YX12_isSaid 163 [(2, .int x21), (0, .ref (zad Γ 186)), (1, .int a1), (3, .int x3), (4, .int x12)] [.int (zb (if v35 = 0 then false else true)), .int (x21 - 1), .ref (zad Γ 203)] (zui M 203 r0_49v1) Q := by
                  obtain ⟨r0_49v38, hr0_49v38, hy⟩ := zt_b hy
                  refine zj_wrz (pc' := 164) (N := (zui M 203 r0_49v38)) dX12_isSaid_163 rfl sh203 zr_s hr0_49v38 zm_s ?_
                  refine zj_goto (tgt := 206) dX12_isSaid_164 (by decide) ?_
                  obtain ⟨x39, ex39⟩ : ∃ z : Int32, z = (x3 + 1) := ⟨_, rfl⟩
                  have hy := zlet_at ex39 hy
                  refine zj_iinc (pc' := 209) 3 (L' := [(3, .int x39), (2, .int x21), (0, .ref (zad Γ 186)), (1, .int a1), (4, .int x12)]) dX12_isSaid_206 rfl rfl (by decide) (by rw [ci1, ← ex39]; rfl) ?_
                  refine zj_goto (tgt := 4) dX12_isSaid_209 (by decide) ?_
                  have hn9 := h9 _ (Option.some.inj hy).symm
                  refine zj_loc [2, 3, 1, 0] rfl ?_
                  exact ih8 _ _ _ hn9
                refine zj_if_eq (tgt := 162) (pc' := 158) dX12_isSaid_155 rfl (by decide) (fun c37 => ?_) (fun c37 => ?_)
                · refine zj_iconst (pc' := 163) dX12_isSaid_162 rfl kiconst_0 ?_
                  exact zj_eqb (b := false) (if_pos c37) HJ36
                · refine zj_iconst (pc' := 159) dX12_isSaid_158 rfl kiconst_1 ?_
                  refine zj_goto (tgt := 163) dX12_isSaid_159 (by decide) ?_
                  exact zj_eqb (b := true) (if_neg c37) HJ36
            · have hy := zt_t hy c23
              refine zj_aload_n (pc' := 111) 1 dX12_isSaid_110 rfl rfl rfl ?_
              refine zj_getR (pc' := 114) (j := 203) dX12_isSaid_111 rfl flX12_86 sh186 rfl ?_
              refine zj_iload_n (pc' := 115) 0 dX12_isSaid_114 rfl rfl rfl ?_
              refine zj_iconst (pc' := 116) dX12_isSaid_115 rfl kiconst_1 ?_
              refine zj_isub (pc' := 117) dX12_isSaid_116 rfl ?_
              obtain ⟨v24, hv24, hy⟩ := zt_b hy
              refine zj_rdz (pc' := 118) dX12_isSaid_117 rfl sh203 zr_s hv24 ?_
              refine zj_if_eq (tgt := 134) (pc' := 121) dX12_isSaid_118 rfl (by decide) (fun c25 => ?_) (fun c25 => ?_)
              · have hy := zt_t hy c25
                refine zj_iconst (pc' := 135) dX12_isSaid_134 rfl kiconst_0 ?_
                refine zj_goto (tgt := 163) dX12_isSaid_135 (by decide) ?_
                obtain ⟨r0_49v26, hr0_49v26, hy⟩ := zt_b hy
                refine zj_wrz (pc' := 164) (N := (zui M 203 r0_49v26)) dX12_isSaid_163 rfl sh203 zr_s hr0_49v26 zm_s ?_
                refine zj_goto (tgt := 206) dX12_isSaid_164 (by decide) ?_
                obtain ⟨x27, ex27⟩ : ∃ z : Int32, z = (x3 + 1) := ⟨_, rfl⟩
                have hy := zlet_at ex27 hy
                refine zj_iinc (pc' := 209) 3 (L' := [(3, .int x27), (2, .int x21), (0, .ref (zad Γ 186)), (1, .int a1), (4, .int x12)]) dX12_isSaid_206 rfl rfl (by decide) (by rw [ci1, ← ex27]; rfl) ?_
                refine zj_goto (tgt := 4) dX12_isSaid_209 (by decide) ?_
                have hn9 := h9 _ (Option.some.inj hy).symm
                refine zj_loc [2, 3, 1, 0] rfl ?_
                exact ih8 _ _ _ hn9
              · have hy := zt_f hy c25
                refine zj_aload_n (pc' := 122) 1 dX12_isSaid_121 rfl rfl rfl ?_
                refine zj_getR (pc' := 125) (j := 203) dX12_isSaid_122 rfl flX12_86 sh186 rfl ?_
                refine zj_iload_n (pc' := 126) 0 dX12_isSaid_125 rfl rfl rfl ?_
                obtain ⟨v28, hv28, hy⟩ := zt_b hy
                refine zj_rdz (pc' := 127) dX12_isSaid_126 rfl sh203 zr_s hv28 ?_
                have HJ29 : zR Γ 4 YX12_isSaid 163 [(2, .int x21), (0, .ref (zad Γ 186)), (1, .int a1), (3, .int x3), (4, .int x12)] [.int (zb (if v28 = 0 then false else true)), .int (x21 - 1), .ref (zad Γ 203)] (zui M 203 r0_49v1) Q := by
                  obtain ⟨r0_49v31, hr0_49v31, hy⟩ := zt_b hy
                  refine zj_wrz (pc' := 164) (N := (zui M 203 r0_49v31)) dX12_isSaid_163 rfl sh203 zr_s hr0_49v31 zm_s ?_
                  refine zj_goto (tgt := 206) dX12_isSaid_164 (by decide) ?_
                  obtain ⟨x32, ex32⟩ : ∃ z : Int32, z = (x3 + 1) := ⟨_, rfl⟩
                  have hy := zlet_at ex32 hy
                  refine zj_iinc (pc' := 209) 3 (L' := [(3, .int x32), (2, .int x21), (0, .ref (zad Γ 186)), (1, .int a1), (4, .int x12)]) dX12_isSaid_206 rfl rfl (by decide) (by rw [ci1, ← ex32]; rfl) ?_
                  refine zj_goto (tgt := 4) dX12_isSaid_209 (by decide) ?_
                  have hn9 := h9 _ (Option.some.inj hy).symm
                  refine zj_loc [2, 3, 1, 0] rfl ?_
                  exact ih8 _ _ _ hn9
                refine zj_if_eq (tgt := 134) (pc' := 130) dX12_isSaid_127 rfl (by decide) (fun c30 => ?_) (fun c30 => ?_)
                · refine zj_iconst (pc' := 135) dX12_isSaid_134 rfl kiconst_0 ?_
                  refine zj_goto (tgt := 163) dX12_isSaid_135 (by decide) ?_
                  exact zj_eqb (b := false) (if_pos c30) HJ29
                · refine zj_iconst (pc' := 131) dX12_isSaid_130 rfl kiconst_1 ?_
                  refine zj_goto (tgt := 163) dX12_isSaid_131 (by decide) ?_
                  exact zj_eqb (b := true) (if_neg c30) HJ29
          refine zj_icmp_eq (tgt := 88) (pc' := 76) dX12_isSaid_73 rfl (by decide) (fun c43 => ?_) (fun c43 => ?_)
          · have hy := zt_t hy c43
            refine zj_loc [1, 2, 3, 4, 0] rfl ?_
            exact HJ42 () hy
          · have hy := zt_f hy c43
            refine zj_aload_n (pc' := 77) 1 dX12_isSaid_76 rfl rfl rfl ?_
            refine zj_getR (pc' := 80) (j := 188) dX12_isSaid_77 rfl flX12_33 sh186 rfl ?_
            refine zj_iload (pc' := 82) 0 dX12_isSaid_80 rfl rfl ?_
            obtain ⟨v44, hv44, hy⟩ := zt_b hy
            refine zj_rdi (pc' := 83) dX12_isSaid_82 rfl sh188 (zr_n rfl e_i188) hv44 ?_
            refine zj_bipush (pc' := 85) dX12_isSaid_83 rfl kbipush_22 ?_
            refine zj_icmp_ne (tgt := 167) (pc' := 88) dX12_isSaid_85 rfl (by decide) (fun c45 => ?_) (fun c45 => ?_)
            · have hy := zt_f hy c45
              refine zj_aload_n (pc' := 168) 1 dX12_isSaid_167 rfl rfl rfl ?_
              refine zj_getR (pc' := 171) (j := 203) dX12_isSaid_168 rfl flX12_86 sh186 rfl ?_
              refine zj_iload_n (pc' := 172) 3 dX12_isSaid_171 rfl rfl rfl ?_
              refine zj_aload_n (pc' := 173) 1 dX12_isSaid_172 rfl rfl rfl ?_
              refine zj_iload_n (pc' := 174) 2 dX12_isSaid_173 rfl rfl rfl ?_
              refine zj_aload_n (pc' := 175) 1 dX12_isSaid_174 rfl rfl rfl ?_
              refine zj_getR (pc' := 178) (j := 188) dX12_isSaid_175 rfl flX12_33 sh186 rfl ?_
              refine zj_iload (pc' := 180) 0 dX12_isSaid_178 rfl rfl ?_
              obtain ⟨v46, hv46, hy⟩ := zt_b hy
              refine zj_rdi (pc' := 181) dX12_isSaid_180 rfl sh188 (zr_n rfl e_i188) hv46 ?_
              refine zj_aload_n (pc' := 182) 1 dX12_isSaid_181 rfl rfl rfl ?_
              refine zj_getR (pc' := 185) (j := 188) dX12_isSaid_182 rfl flX12_33 sh186 rfl ?_
              refine zj_iload (pc' := 187) 0 dX12_isSaid_185 rfl rfl ?_
              refine zj_iconst (pc' := 188) dX12_isSaid_187 rfl kiconst_1 ?_
              refine zj_iadd (pc' := 189) dX12_isSaid_188 rfl ?_
              obtain ⟨v47, hv47, hy⟩ := zt_b hy
              refine zj_rdi (pc' := 190) dX12_isSaid_189 rfl sh188 (zr_n rfl e_i188) hv47 ?_
              refine zj_aload_n (pc' := 191) 1 dX12_isSaid_190 rfl rfl rfl ?_
              refine zj_getR (pc' := 194) (j := 188) dX12_isSaid_191 rfl flX12_33 sh186 rfl ?_
              refine zj_iload (pc' := 196) 0 dX12_isSaid_194 rfl rfl ?_
              refine zj_iconst (pc' := 197) dX12_isSaid_196 rfl kiconst_2 ?_
              refine zj_iadd (pc' := 198) dX12_isSaid_197 rfl ?_
              obtain ⟨v48, hv48, hy⟩ := zt_b hy
              refine zj_rdi (pc' := 199) dX12_isSaid_198 rfl sh188 (zr_n rfl e_i188) hv48 ?_
              obtain ⟨y49, hy49, hy⟩ := zt_b hy
              refine zj_V1 (pc' := 202) (z := YX12_isLeaf) (As := [.int a1, .int v46, .int v47, .int v48]) (N := (zui M 203 r0_49v1)) dX12_isSaid_199 rfl mlX12_462 lkX12_isLeaf sh186 ⟨_, _, rfl⟩ rfl rfl (Nat.le_of_ble_eq_true rfl) (Nat.le_of_ble_eq_true rfl) (LX12_isLeaf_186 Γ _ r0_6 (zr_n rfl e_i188) a1 v46 v47 v48 hy49) rfl ?_
              obtain ⟨r0_49v50, hr0_49v50, hy⟩ := zt_b hy
              refine zj_wrz (pc' := 203) (N := (zui M 203 r0_49v50)) dX12_isSaid_202 rfl sh203 zr_s hr0_49v50 zm_s ?_
              obtain ⟨x51, ex51⟩ : ∃ z : Int32, z = (x2 + 1) := ⟨_, rfl⟩
              have hy := zlet_at ex51 hy
              refine zj_iinc (pc' := 206) 3 (L' := [(2, .int x51), (4, .int x12), (0, .ref (zad Γ 186)), (1, .int a1), (3, .int x3)]) dX12_isSaid_203 rfl rfl (by decide) (by rw [ci1, ← ex51]; rfl) ?_
              obtain ⟨x52, ex52⟩ : ∃ z : Int32, z = (x3 + 1) := ⟨_, rfl⟩
              have hy := zlet_at ex52 hy
              refine zj_iinc (pc' := 209) 4 (L' := [(3, .int x52), (2, .int x51), (4, .int x12), (0, .ref (zad Γ 186)), (1, .int a1)]) dX12_isSaid_206 rfl rfl (by decide) (by rw [ci1, ← ex52]; rfl) ?_
              refine zj_goto (tgt := 4) dX12_isSaid_209 (by decide) ?_
              have hn9 := h9 _ (Option.some.inj hy).symm
              refine zj_loc [3, 4, 1, 0] rfl ?_
              exact ih8 _ _ _ hn9
            · have hy := zt_t hy c45
              refine zj_loc [1, 2, 3, 4, 0] rfl ?_
              exact HJ42 () hy
        · have hy := zt_t hy c14
          refine zj_aload_n (pc' := 38) 1 dX12_isSaid_37 rfl rfl rfl ?_
          refine zj_getR (pc' := 41) (j := 203) dX12_isSaid_38 rfl flX12_86 sh186 rfl ?_
          refine zj_iload_n (pc' := 42) 3 dX12_isSaid_41 rfl rfl rfl ?_
          refine zj_iconst (pc' := 43) dX12_isSaid_42 rfl kiconst_1 ?_
          refine zj_isub (pc' := 44) dX12_isSaid_43 rfl ?_
          refine zj_aload_n (pc' := 45) 1 dX12_isSaid_44 rfl rfl rfl ?_
          refine zj_getR (pc' := 48) (j := 203) dX12_isSaid_45 rfl flX12_86 sh186 rfl ?_
          refine zj_iload_n (pc' := 49) 3 dX12_isSaid_48 rfl rfl rfl ?_
          refine zj_iconst (pc' := 50) dX12_isSaid_49 rfl kiconst_1 ?_
          refine zj_isub (pc' := 51) dX12_isSaid_50 rfl ?_
          obtain ⟨v15, hv15, hy⟩ := zt_b hy
          refine zj_rdz (pc' := 52) dX12_isSaid_51 rfl sh203 zr_s hv15 ?_
          have HJ16 : zR Γ 4 YX12_isSaid 60 [(4, .int x12), (0, .ref (zad Γ 186)), (1, .int a1), (2, .int x2), (3, .int x3)] [.int (zb (if v15 = 0 then true else false)), .int (x2 - 1), .ref (zad Γ 203)] (zui M 203 r0_49v1) Q := by
            obtain ⟨r0_49v18, hr0_49v18, hy⟩ := zt_b hy
            refine zj_wrz (pc' := 61) (N := (zui M 203 r0_49v18)) dX12_isSaid_60 rfl sh203 zr_s hr0_49v18 zm_s ?_
            refine zj_goto (tgt := 206) dX12_isSaid_61 (by decide) ?_
            obtain ⟨x19, ex19⟩ : ∃ z : Int32, z = (x3 + 1) := ⟨_, rfl⟩
            have hy := zlet_at ex19 hy
            refine zj_iinc (pc' := 209) 4 (L' := [(3, .int x19), (4, .int x12), (0, .ref (zad Γ 186)), (1, .int a1), (2, .int x2)]) dX12_isSaid_206 rfl rfl (by decide) (by rw [ci1, ← ex19]; rfl) ?_
            refine zj_goto (tgt := 4) dX12_isSaid_209 (by decide) ?_
            have hn9 := h9 _ (Option.some.inj hy).symm
            refine zj_loc [2, 3, 4, 0] rfl ?_
            exact ih8 _ _ _ hn9
          refine zj_if_ne (tgt := 59) (pc' := 55) dX12_isSaid_52 rfl (by decide) (fun c17 => ?_) (fun c17 => ?_)
          · refine zj_iconst (pc' := 60) dX12_isSaid_59 rfl kiconst_0 ?_
            exact zj_eqb (b := false) (if_neg c17) HJ16
          · refine zj_iconst (pc' := 56) dX12_isSaid_55 rfl kiconst_1 ?_
            refine zj_goto (tgt := 60) dX12_isSaid_56 (by decide) ?_
            exact zj_eqb (b := true) (if_pos c17) HJ16
  exact HL5 n9 _ _ _ hn9
set_option maxRecDepth 20000 in
theorem LX12_isSaid_186 (Γ : zG) (M : zM) (r0_6 : Nat → Int32) (r0_49 : Nat → Int32) (e_i188 : M.1 188 = r0_6) (e_i203 : M.1 203 = r0_49) (a1 : Int32) {res : Bool × (Nat → Int32)} (hy : (fM_isSaid r0_6 r0_49 a1) = some res) : zK Γ 4 YX12_isSaid [.ref (zad Γ 186), .int a1] M (fun v N => v = some (.int (zb res.1)) ∧ N = (zui M 203 res.2)) :=
  zK_of (by decide) (Nat.le_of_ble_eq_true rfl) (TX12_isSaid_186 Γ M r0_6 r0_49 e_i188 e_i203 a1 hy ⟨rfl, rfl⟩)

noncomputable def fM_said_L27 (r0_6 : Nat → Int32) (a1 : Int32) (r0v1 : Nat → Int32) (r0_49v4 : Nat → Int32) (x5 : Int32) (x6 : Int32) : Option (((Nat → Int32) × Int32 × Int32) ⊕ (Int32 × (Nat → Int32) × (Nat → Int32))) :=
  (if (r0_6 2) ≤ x6 then
  some (.inr ((if a1 = (-1) then x5 else ((-1) : Int32)), r0v1, r0_49v4))
  else
  (fM_isSaid r0_6 r0_49v4 x6).bind (fun (y17 : Bool × (Nat → Int32)) =>
  (if y17.1 = true then
  (if x5 = a1 then
  some (.inr (x6, r0v1, y17.2))
  else
  zlet (x5 + 1) (fun (x20 : Int32) =>
  zlet (x6 + 1) (fun (x21 : Int32) =>
  some (.inl (y17.2, x20, x21)))))
  else
  zlet (x6 + 1) (fun (x22 : Int32) =>
  some (.inl (y17.2, x5, x22))))))
noncomputable def fM_said (r0 : Nat → Int32) (r0_6 : Nat → Int32) (r0_49 : Nat → Int32) (a1 : Int32) : Option (Int32 × (Nat → Int32) × (Nat → Int32)) :=
  zlet (zup r0 0 0) (fun (r0v1 : Nat → Int32) =>
  (if (r0_6 216) = 0 then
  some ((-1), r0v1, r0_49)
  else
  (if (-1) ≤ a1 then
  zLP (fun s => fM_said_L27 r0_6 a1 r0v1 s.1 s.2.1 s.2.2) (r0_49, 0, 0)
  else
  some ((-1), r0v1, r0_49))))

set_option maxRecDepth 20000 in
theorem TX12_said_186 (Γ : zG) {Q : Option Value → zM → Prop} (M : zM) (r0 : Nat → Int32) (r0_6 : Nat → Int32) (r0_49 : Nat → Int32) (e_i186 : M.1 186 = r0) (e_i188 : M.1 188 = r0_6) (e_i203 : M.1 203 = r0_49) (a1 : Int32) {res : Int32 × (Nat → Int32) × (Nat → Int32)} (hy : (fM_said r0 r0_6 r0_49 a1) = some res) (hq : Q (some (.int res.1)) (zui (zui M 186 res.2.1) 203 res.2.2)) : zR Γ 5 YX12_said 0 [(0, .ref (zad Γ 186)), (1, .int a1)] [] M Q := by
  unfold fM_said at hy
  refine zj_aload_n (pc' := 1) 0 dX12_said_0 rfl rfl rfl ?_
  refine zj_iconst (pc' := 2) dX12_said_1 rfl kiconst_0 ?_
  obtain ⟨r0v1, er0v1⟩ : ∃ z, z = (zup r0 0 0) := ⟨_, rfl⟩
  have hy := zlet_at er0v1 hy
  refine zj_pI (pc' := 5) (N := (zui M 186 r0v1)) dX12_said_2 rfl fpX12_1 sh186 rfl e_i186 er0v1 rfl ?_
  refine zj_aload_n (pc' := 6) 0 dX12_said_5 rfl rfl rfl ?_
  refine zj_getR (pc' := 9) (j := 188) dX12_said_6 rfl flX12_33 sh186 rfl ?_
  refine zj_sipush (pc' := 12) dX12_said_9 rfl ksipush_216 ?_
  refine zj_rdi (pc' := 13) dX12_said_12 rfl sh188 (zr_n rfl e_i188) (zrdK zi216_397 tn216) ?_
  refine zj_if_eq (tgt := 21) (pc' := 16) dX12_said_13 rfl (by decide) (fun c2 => ?_) (fun c2 => ?_)
  · have hy := zt_t hy c2
    refine zj_iconst (pc' := 22) dX12_said_21 rfl kiconst_m1 ?_
    have e9 := Option.some.inj hy
    subst e9
    refine zj_mem (N := (zui (zui M 186 r0v1) 203 r0_49)) (zself_i (zr_n rfl e_i203) rfl) ?_
    exact zj_iret dX12_said_22 rfl hq
  · have hy := zt_f hy c2
    refine zj_iload_n (pc' := 17) 1 dX12_said_16 rfl rfl rfl ?_
    refine zj_iconst (pc' := 18) dX12_said_17 rfl kiconst_m1 ?_
    refine zj_icmp_ge (tgt := 23) (pc' := 21) dX12_said_18 rfl (by decide) (fun c3 => ?_) (fun c3 => ?_)
    · have hy := zt_t hy c3
      refine zj_iconst (pc' := 24) dX12_said_23 rfl kiconst_0 ?_
      refine zj_istore_n (pc' := 25) (L' := [(2, .int 0), (0, .ref (zad Γ 186)), (1, .int a1)]) dX12_said_24 rfl rfl (by decide) rfl ?_
      refine zj_iconst (pc' := 26) dX12_said_25 rfl kiconst_0 ?_
      refine zj_istore_n (pc' := 27) (L' := [(3, .int 0), (2, .int 0), (0, .ref (zad Γ 186)), (1, .int a1)]) dX12_said_26 rfl rfl (by decide) rfl ?_
      refine zj_loc [2, 3, 1, 0] rfl ?_
      refine zj_mem (N := (zui (zui M 186 r0v1) 203 r0_49)) (zself_i (zr_n rfl e_i203) rfl) ?_
      obtain ⟨n9, hn9⟩ := zLP_some hy
      have HL8 : ∀ (n : Nat) (r0_49v4 : Nat → Int32) (x5 : Int32) (x6 : Int32), zlp (fun s => fM_said_L27 r0_6 a1 r0v1 s.1 s.2.1 s.2.2) n (r0_49v4, x5, x6) = some res → zR Γ 5 YX12_said 27 [(0, .ref (zad Γ 186)), (1, .int a1), (2, .int x5), (3, .int x6)] [] (zui (zui M 186 r0v1) 203 r0_49v4) Q := by
        intro n
        induction n with
        | zero => intro r0_49v4 x5 x6 hn9; cases hn9
        | succ n ih11 =>
          intro r0_49v4 x5 x6 hn9
          obtain ⟨o9, hb9, h12, h13⟩ := zlp_step hn9
          have hy : fM_said_L27 r0_6 a1 r0v1 r0_49v4 x5 x6 = some o9 := hb9
          unfold fM_said_L27 at hy
          refine zj_iload_n (pc' := 28) 3 dX12_said_27 rfl rfl rfl ?_
          refine zj_aload_n (pc' := 29) 0 dX12_said_28 rfl rfl rfl ?_
          refine zj_getR (pc' := 32) (j := 188) dX12_said_29 rfl flX12_33 sh186 rfl ?_
          refine zj_iconst (pc' := 33) dX12_said_32 rfl kiconst_2 ?_
          refine zj_rdi (pc' := 34) dX12_said_33 rfl sh188 (zr_n rfl (zr_n rfl e_i188)) (zrdK zi2_397 tn2) ?_
          refine zj_icmp_ge (tgt := 64) (pc' := 37) dX12_said_34 rfl (by decide) (fun c14 => ?_) (fun c14 => ?_)
          · have hy := zt_t hy c14
            refine zj_iload_n (pc' := 65) 1 dX12_said_64 rfl rfl rfl ?_
            refine zj_iconst (pc' := 66) dX12_said_65 rfl kiconst_m1 ?_
            have HJ15 : zR Γ 5 YX12_said 74 [(0, .ref (zad Γ 186)), (1, .int a1), (2, .int x5), (3, .int x6)] [.int (if a1 = (-1) then x5 else ((-1) : Int32))] (zui (zui M 186 r0v1) 203 r0_49v4) Q := by
              have e9 := h13 _ (Option.some.inj hy).symm
              subst e9
              exact zj_iret dX12_said_74 rfl hq
            refine zj_icmp_ne (tgt := 73) (pc' := 69) dX12_said_66 rfl (by decide) (fun c16 => ?_) (fun c16 => ?_)
            · refine zj_iconst (pc' := 74) dX12_said_73 rfl kiconst_m1 ?_
              exact zj_eqi (if_neg c16) HJ15
            · refine zj_iload_n (pc' := 70) 2 dX12_said_69 rfl rfl rfl ?_
              refine zj_goto (tgt := 74) dX12_said_70 (by decide) ?_
              exact zj_eqi (if_pos c16) HJ15
          · have hy := zt_f hy c14
            refine zj_aload_n (pc' := 38) 0 dX12_said_37 rfl rfl rfl ?_
            refine zj_iload_n (pc' := 39) 3 dX12_said_38 rfl rfl rfl ?_
            obtain ⟨y17, hy17, hy⟩ := zt_b hy
            refine zj_V1 (pc' := 42) (z := YX12_isSaid) (As := [.int x6]) (N := (zui (zui M 186 r0v1) 203 y17.2)) dX12_said_39 rfl mlX12_466 lkX12_isSaid sh186 ⟨_, _, rfl⟩ rfl rfl (Nat.le_of_ble_eq_true rfl) (Nat.le_of_ble_eq_true rfl) (LX12_isSaid_186 Γ _ r0_6 r0_49v4 (zr_n rfl (zr_n rfl e_i188)) zr_s x6 hy17) (zm_s).symm ?_
            refine zj_bif_ne (tgt := 48) (pc' := 45) dX12_said_42 rfl (by decide) (fun c18 => ?_) (fun c18 => ?_)
            · have hy := zt_t hy c18
              refine zj_iload_n (pc' := 49) 2 dX12_said_48 rfl rfl rfl ?_
              refine zj_iload_n (pc' := 50) 1 dX12_said_49 rfl rfl rfl ?_
              refine zj_icmp_ne (tgt := 55) (pc' := 53) dX12_said_50 rfl (by decide) (fun c19 => ?_) (fun c19 => ?_)
              · have hy := zt_f hy c19
                obtain ⟨x20, ex20⟩ : ∃ z : Int32, z = (x5 + 1) := ⟨_, rfl⟩
                have hy := zlet_at ex20 hy
                refine zj_iinc (pc' := 58) 2 (L' := [(2, .int x20), (0, .ref (zad Γ 186)), (1, .int a1), (3, .int x6)]) dX12_said_55 rfl rfl (by decide) (by rw [ci1, ← ex20]; rfl) ?_
                obtain ⟨x21, ex21⟩ : ∃ z : Int32, z = (x6 + 1) := ⟨_, rfl⟩
                have hy := zlet_at ex21 hy
                refine zj_iinc (pc' := 61) 3 (L' := [(3, .int x21), (2, .int x20), (0, .ref (zad Γ 186)), (1, .int a1)]) dX12_said_58 rfl rfl (by decide) (by rw [ci1, ← ex21]; rfl) ?_
                refine zj_goto (tgt := 27) dX12_said_61 (by decide) ?_
                have hn9 := h12 _ (Option.some.inj hy).symm
                refine zj_loc [2, 3, 1, 0] rfl ?_
                exact ih11 _ _ _ hn9
              · have hy := zt_t hy c19
                refine zj_iload_n (pc' := 54) 3 dX12_said_53 rfl rfl rfl ?_
                have e9 := h13 _ (Option.some.inj hy).symm
                subst e9
                exact zj_iret dX12_said_54 rfl hq
            · have hy := zt_f hy c18
              refine zj_goto (tgt := 58) dX12_said_45 (by decide) ?_
              obtain ⟨x22, ex22⟩ : ∃ z : Int32, z = (x6 + 1) := ⟨_, rfl⟩
              have hy := zlet_at ex22 hy
              refine zj_iinc (pc' := 61) 3 (L' := [(3, .int x22), (0, .ref (zad Γ 186)), (1, .int a1), (2, .int x5)]) dX12_said_58 rfl rfl (by decide) (by rw [ci1, ← ex22]; rfl) ?_
              refine zj_goto (tgt := 27) dX12_said_61 (by decide) ?_
              have hn9 := h12 _ (Option.some.inj hy).symm
              refine zj_loc [1, 2, 3, 0] rfl ?_
              exact ih11 _ _ _ hn9
      exact HL8 n9 _ _ _ hn9
    · have hy := zt_f hy c3
      refine zj_iconst (pc' := 22) dX12_said_21 rfl kiconst_m1 ?_
      have e9 := Option.some.inj hy
      subst e9
      refine zj_mem (N := (zui (zui M 186 r0v1) 203 r0_49)) (zself_i (zr_n rfl e_i203) rfl) ?_
      exact zj_iret dX12_said_22 rfl hq
set_option maxRecDepth 20000 in
theorem LX12_said_186 (Γ : zG) (M : zM) (r0 : Nat → Int32) (r0_6 : Nat → Int32) (r0_49 : Nat → Int32) (e_i186 : M.1 186 = r0) (e_i188 : M.1 188 = r0_6) (e_i203 : M.1 203 = r0_49) (a1 : Int32) {res : Int32 × (Nat → Int32) × (Nat → Int32)} (hy : (fM_said r0 r0_6 r0_49 a1) = some res) : zK Γ 5 YX12_said [.ref (zad Γ 186), .int a1] M (fun v N => v = some (.int res.1) ∧ N = (zui (zui M 186 res.2.1) 203 res.2.2)) :=
  zK_of (by decide) (Nat.le_of_ble_eq_true rfl) (TX12_said_186 Γ M r0 r0_6 r0_49 e_i186 e_i188 e_i203 a1 hy ⟨rfl, rfl⟩)

noncomputable def fM_image_L18 (r0_6 : Nat → Int32) (a1 : Int32) (r0_50v3 : Nat → Int32) (x4 : Int32) : Option (((Nat → Int32) × Int32) ⊕ ((Nat → Int32))) :=
  (if 397 ≤ x4 then
  some (.inr r0_50v3)
  else
  (zrd r0_6 397 x4).bind (fun (v13 : Int32) =>
  (zwr r0_50v3 794 ((397 * a1) + x4) v13).bind (fun (r0_50v14 : Nat → Int32) =>
  zlet (x4 + 1) (fun (x15 : Int32) =>
  some (.inl (r0_50v14, x15))))))
noncomputable def fM_image_L51 (w0_9 : Nat → Int64) (a1 : Int32) (w0_51v17 : Nat → Int64) (x18 : Int32) : Option (((Nat → Int64) × Int32) ⊕ ((Nat → Int64))) :=
  (if 14 ≤ x18 then
  some (.inr w0_51v17)
  else
  (zrd w0_9 28 x18).bind (fun (v27 : Int64) =>
  (zwr w0_51v17 28 ((14 * a1) + x18) v27).bind (fun (w0_51v28 : Nat → Int64) =>
  zlet (x18 + 1) (fun (x29 : Int32) =>
  some (.inl (w0_51v28, x29))))))
noncomputable def fM_image (r0 : Nat → Int32) (r0_6 : Nat → Int32) (w0_9 : Nat → Int64) (r0_50 : Nat → Int32) (w0_51 : Nat → Int64) (r0_52 : Nat → Int32) (a1 : Int32) : Option (Bool × (Nat → Int32) × (Nat → Int32) × (Nat → Int64) × (Nat → Int32)) :=
  zlet (zup r0 0 0) (fun (r0v1 : Nat → Int32) =>
  (if (fM_isIn a1 0 1) = true then
  (zLP (fun s => fM_image_L18 r0_6 a1 s.1 s.2) (r0_50, 0)).bind (fun r7 =>
  (zLP (fun s => fM_image_L51 w0_9 a1 s.1 s.2) (w0_51, 0)).bind (fun r21 =>
  (zwr r0_52 2 a1 (vp_nar .boolean 1)).bind (fun (r0_52v31 : Nat → Int32) =>
  some (true, r0v1, r7, r21, r0_52v31))))
  else
  some (false, r0v1, r0_50, w0_51, r0_52)))

set_option maxRecDepth 20000 in
theorem TX12_image_186 (Γ : zG) {Q : Option Value → zM → Prop} (M : zM) (r0 : Nat → Int32) (r0_6 : Nat → Int32) (w0_9 : Nat → Int64) (r0_50 : Nat → Int32) (w0_51 : Nat → Int64) (r0_52 : Nat → Int32) (e_i186 : M.1 186 = r0) (e_i188 : M.1 188 = r0_6) (e_l191 : M.2 191 = w0_9) (e_i204 : M.1 204 = r0_50) (e_l205 : M.2 205 = w0_51) (e_i206 : M.1 206 = r0_52) (a1 : Int32) {res : Bool × (Nat → Int32) × (Nat → Int32) × (Nat → Int64) × (Nat → Int32)} (hy : (fM_image r0 r0_6 w0_9 r0_50 w0_51 r0_52 a1) = some res) (hq : Q (some (.int (zb res.1))) (zui (zui (zui (zul M 205 res.2.2.2.1) 186 res.2.1) 204 res.2.2.1) 206 res.2.2.2.2)) : zR Γ 2 YX12_image 0 [(0, .ref (zad Γ 186)), (1, .int a1)] [] M Q := by
  unfold fM_image at hy
  refine zj_aload_n (pc' := 1) 0 dX12_image_0 rfl rfl rfl ?_
  refine zj_iconst (pc' := 2) dX12_image_1 rfl kiconst_0 ?_
  obtain ⟨r0v1, er0v1⟩ : ∃ z, z = (zup r0 0 0) := ⟨_, rfl⟩
  have hy := zlet_at er0v1 hy
  refine zj_pI (pc' := 5) (N := (zui M 186 r0v1)) dX12_image_2 rfl fpX12_1 sh186 rfl e_i186 er0v1 rfl ?_
  refine zj_iload_n (pc' := 6) 1 dX12_image_5 rfl rfl rfl ?_
  refine zj_iconst (pc' := 7) dX12_image_6 rfl kiconst_0 ?_
  refine zj_iconst (pc' := 8) dX12_image_7 rfl kiconst_1 ?_
  refine zj_S1 (pc' := 11) (z := YX12_isIn) (As := [.int a1, .int 0, .int 1]) (N := (zui M 186 r0v1)) dX12_image_8 rfl mlX12_188 lkX12_isIn rfl rfl (Nat.le_of_ble_eq_true rfl) (Nat.le_of_ble_eq_true rfl) (LX12_isIn Γ _ a1 0 1 rfl) rfl ?_
  refine zj_bif_ne (tgt := 16) (pc' := 14) dX12_image_11 rfl (by decide) (fun c2 => ?_) (fun c2 => ?_)
  · have hy := zt_t hy c2
    refine zj_iconst (pc' := 17) dX12_image_16 rfl kiconst_0 ?_
    refine zj_istore_n (pc' := 18) (L' := [(2, .int 0), (0, .ref (zad Γ 186)), (1, .int a1)]) dX12_image_17 rfl rfl (by decide) rfl ?_
    refine zj_loc [1, 2, 0] rfl ?_
    refine zj_mem (N := (zui (zui M 186 r0v1) 204 r0_50)) (zself_i (zr_n rfl e_i204) rfl) ?_
    obtain ⟨r7, hr9, hyo8⟩ := zt_b hy
    obtain ⟨n9, hn9⟩ := zLP_some hr9
    have HE5 : ∀ (r0_50v16 : Nat → Int32), r7 = r0_50v16 → zR Γ 2 YX12_image 49 [(0, .ref (zad Γ 186)), (1, .int a1)] [] (zui (zui M 186 r0v1) 204 r0_50v16) Q := by
      intro r0_50v16 e9
      have hy := hyo8
      try rw [e9] at hy
      try dsimp only at hy
      refine zj_iconst (pc' := 50) dX12_image_49 rfl kiconst_0 ?_
      refine zj_istore_n (pc' := 51) (L' := [(2, .int 0), (0, .ref (zad Γ 186)), (1, .int a1)]) dX12_image_50 rfl rfl (by decide) rfl ?_
      refine zj_loc [1, 2, 0] rfl ?_
      refine zj_mem (N := (zui (zui (zul M 205 w0_51) 186 r0v1) 204 r0_50v16)) (zself_l (zq_i (zq_i e_l205)) (zm_li (zm_li rfl))) ?_
      obtain ⟨r21, hr9, hyo22⟩ := zt_b hy
      obtain ⟨n9, hn9⟩ := zLP_some hr9
      have HE19 : ∀ (w0_51v30 : Nat → Int64), r21 = w0_51v30 → zR Γ 2 YX12_image 80 [(0, .ref (zad Γ 186)), (1, .int a1)] [] (zui (zui (zul M 205 w0_51v30) 186 r0v1) 204 r0_50v16) Q := by
        intro w0_51v30 e9
        have hy := hyo22
        try rw [e9] at hy
        try dsimp only at hy
        refine zj_aload_n (pc' := 81) 0 dX12_image_80 rfl rfl rfl ?_
        refine zj_getR (pc' := 84) (j := 206) dX12_image_81 rfl flX12_96 sh186 rfl ?_
        refine zj_iload_n (pc' := 85) 1 dX12_image_84 rfl rfl rfl ?_
        refine zj_iconst (pc' := 86) dX12_image_85 rfl kiconst_1 ?_
        obtain ⟨r0_52v31, hr0_52v31, hy⟩ := zt_b hy
        refine zj_wrz (pc' := 87) (N := (zui (zui (zui (zul M 205 w0_51v30) 186 r0v1) 204 r0_50v16) 206 r0_52v31)) dX12_image_86 rfl sh206 (zr_n rfl (zr_n rfl (zr_l e_i206))) hr0_52v31 rfl ?_
        refine zj_iconst (pc' := 88) dX12_image_87 rfl kiconst_1 ?_
        have e9 := Option.some.inj hy
        subst e9
        exact zj_bret (b := true) dX12_image_88 rfl hq
      have HL20 : ∀ (n : Nat) (w0_51v17 : Nat → Int64) (x18 : Int32), zlp (fun s => fM_image_L51 w0_9 a1 s.1 s.2) n (w0_51v17, x18) = some r21 → zR Γ 2 YX12_image 51 [(0, .ref (zad Γ 186)), (1, .int a1), (2, .int x18)] [] (zui (zui (zul M 205 w0_51v17) 186 r0v1) 204 r0_50v16) Q := by
        intro n
        induction n with
        | zero => intro w0_51v17 x18 hn9; cases hn9
        | succ n ih23 =>
          intro w0_51v17 x18 hn9
          obtain ⟨o9, hb9, h24, h25⟩ := zlp_step hn9
          have hy : fM_image_L51 w0_9 a1 w0_51v17 x18 = some o9 := hb9
          unfold fM_image_L51 at hy
          refine zj_iload_n (pc' := 52) 2 dX12_image_51 rfl rfl rfl ?_
          refine zj_bipush (pc' := 54) dX12_image_52 rfl kbipush_14 ?_
          refine zj_icmp_ge (tgt := 80) (pc' := 57) dX12_image_54 rfl (by decide) (fun c26 => ?_) (fun c26 => ?_)
          · have hy := zt_t hy c26
            have e9 := h25 _ (Option.some.inj hy).symm
            refine zj_loc [0, 1] rfl ?_
            exact HE19 _ e9.symm
          · have hy := zt_f hy c26
            refine zj_aload_n (pc' := 58) 0 dX12_image_57 rfl rfl rfl ?_
            refine zj_getR (pc' := 61) (j := 205) dX12_image_58 rfl flX12_93 sh186 rfl ?_
            refine zj_bipush (pc' := 63) dX12_image_61 rfl kbipush_14 ?_
            refine zj_iload_n (pc' := 64) 1 dX12_image_63 rfl rfl rfl ?_
            refine zj_imul (pc' := 65) dX12_image_64 rfl ?_
            refine zj_iload_n (pc' := 66) 2 dX12_image_65 rfl rfl rfl ?_
            refine zj_iadd (pc' := 67) dX12_image_66 rfl ?_
            refine zj_aload_n (pc' := 68) 0 dX12_image_67 rfl rfl rfl ?_
            refine zj_getR (pc' := 71) (j := 191) dX12_image_68 rfl flX12_43 sh186 rfl ?_
            refine zj_iload_n (pc' := 72) 2 dX12_image_71 rfl rfl rfl ?_
            obtain ⟨v27, hv27, hy⟩ := zt_b hy
            refine zj_rdl (pc' := 73) dX12_image_72 rfl sh191 (zq_i (zq_i (zq_n rfl e_l191))) hv27 ?_
            obtain ⟨w0_51v28, hw0_51v28, hy⟩ := zt_b hy
            refine zj_wrl (pc' := 74) (N := (zui (zui (zul M 205 w0_51v28) 186 r0v1) 204 r0_50v16)) dX12_image_73 rfl sh205 (zq_i (zq_i zq_s)) hw0_51v28 (zm_li (zm_li zn_s)) ?_
            obtain ⟨x29, ex29⟩ : ∃ z : Int32, z = (x18 + 1) := ⟨_, rfl⟩
            have hy := zlet_at ex29 hy
            refine zj_iinc (pc' := 77) 2 (L' := [(2, .int x29), (0, .ref (zad Γ 186)), (1, .int a1)]) dX12_image_74 rfl rfl (by decide) (by rw [ci1, ← ex29]; rfl) ?_
            refine zj_goto (tgt := 51) dX12_image_77 (by decide) ?_
            have hn9 := h24 _ (Option.some.inj hy).symm
            refine zj_loc [1, 2, 0] rfl ?_
            exact ih23 _ _ hn9
      exact HL20 n9 _ _ hn9
    have HL6 : ∀ (n : Nat) (r0_50v3 : Nat → Int32) (x4 : Int32), zlp (fun s => fM_image_L18 r0_6 a1 s.1 s.2) n (r0_50v3, x4) = some r7 → zR Γ 2 YX12_image 18 [(0, .ref (zad Γ 186)), (1, .int a1), (2, .int x4)] [] (zui (zui M 186 r0v1) 204 r0_50v3) Q := by
      intro n
      induction n with
      | zero => intro r0_50v3 x4 hn9; cases hn9
      | succ n ih9 =>
        intro r0_50v3 x4 hn9
        obtain ⟨o9, hb9, h10, h11⟩ := zlp_step hn9
        have hy : fM_image_L18 r0_6 a1 r0_50v3 x4 = some o9 := hb9
        unfold fM_image_L18 at hy
        refine zj_iload_n (pc' := 19) 2 dX12_image_18 rfl rfl rfl ?_
        refine zj_sipush (pc' := 22) dX12_image_19 rfl ksipush_397 ?_
        refine zj_icmp_ge (tgt := 49) (pc' := 25) dX12_image_22 rfl (by decide) (fun c12 => ?_) (fun c12 => ?_)
        · have hy := zt_t hy c12
          have e9 := h11 _ (Option.some.inj hy).symm
          refine zj_loc [0, 1] rfl ?_
          exact HE5 _ e9.symm
        · have hy := zt_f hy c12
          refine zj_aload_n (pc' := 26) 0 dX12_image_25 rfl rfl rfl ?_
          refine zj_getR (pc' := 29) (j := 204) dX12_image_26 rfl flX12_90 sh186 rfl ?_
          refine zj_sipush (pc' := 32) dX12_image_29 rfl ksipush_397 ?_
          refine zj_iload_n (pc' := 33) 1 dX12_image_32 rfl rfl rfl ?_
          refine zj_imul (pc' := 34) dX12_image_33 rfl ?_
          refine zj_iload_n (pc' := 35) 2 dX12_image_34 rfl rfl rfl ?_
          refine zj_iadd (pc' := 36) dX12_image_35 rfl ?_
          refine zj_aload_n (pc' := 37) 0 dX12_image_36 rfl rfl rfl ?_
          refine zj_getR (pc' := 40) (j := 188) dX12_image_37 rfl flX12_33 sh186 rfl ?_
          refine zj_iload_n (pc' := 41) 2 dX12_image_40 rfl rfl rfl ?_
          obtain ⟨v13, hv13, hy⟩ := zt_b hy
          refine zj_rdi (pc' := 42) dX12_image_41 rfl sh188 (zr_n rfl (zr_n rfl e_i188)) hv13 ?_
          obtain ⟨r0_50v14, hr0_50v14, hy⟩ := zt_b hy
          refine zj_wri (pc' := 43) (N := (zui (zui M 186 r0v1) 204 r0_50v14)) dX12_image_42 rfl sh204 zr_s hr0_50v14 zm_s ?_
          obtain ⟨x15, ex15⟩ : ∃ z : Int32, z = (x4 + 1) := ⟨_, rfl⟩
          have hy := zlet_at ex15 hy
          refine zj_iinc (pc' := 46) 2 (L' := [(2, .int x15), (0, .ref (zad Γ 186)), (1, .int a1)]) dX12_image_43 rfl rfl (by decide) (by rw [ci1, ← ex15]; rfl) ?_
          refine zj_goto (tgt := 18) dX12_image_46 (by decide) ?_
          have hn9 := h10 _ (Option.some.inj hy).symm
          refine zj_loc [1, 2, 0] rfl ?_
          exact ih9 _ _ hn9
    exact HL6 n9 _ _ hn9
  · have hy := zt_f hy c2
    refine zj_iconst (pc' := 15) dX12_image_14 rfl kiconst_0 ?_
    have e9 := Option.some.inj hy
    subst e9
    refine zj_mem (N := (zui (zul M 205 w0_51) 186 r0v1)) (zself_l (zq_i e_l205) (zm_li rfl)) ?_
    refine zj_mem (N := (zui (zui (zul M 205 w0_51) 186 r0v1) 204 r0_50)) (zself_i (zr_n rfl (zr_l e_i204)) rfl) ?_
    refine zj_mem (N := (zui (zui (zui (zul M 205 w0_51) 186 r0v1) 204 r0_50) 206 r0_52)) (zself_i (zr_n rfl (zr_n rfl (zr_l e_i206))) rfl) ?_
    exact zj_bret (b := false) dX12_image_15 rfl hq
set_option maxRecDepth 20000 in
theorem LX12_image_186 (Γ : zG) (M : zM) (r0 : Nat → Int32) (r0_6 : Nat → Int32) (w0_9 : Nat → Int64) (r0_50 : Nat → Int32) (w0_51 : Nat → Int64) (r0_52 : Nat → Int32) (e_i186 : M.1 186 = r0) (e_i188 : M.1 188 = r0_6) (e_l191 : M.2 191 = w0_9) (e_i204 : M.1 204 = r0_50) (e_l205 : M.2 205 = w0_51) (e_i206 : M.1 206 = r0_52) (a1 : Int32) {res : Bool × (Nat → Int32) × (Nat → Int32) × (Nat → Int64) × (Nat → Int32)} (hy : (fM_image r0 r0_6 w0_9 r0_50 w0_51 r0_52 a1) = some res) : zK Γ 2 YX12_image [.ref (zad Γ 186), .int a1] M (fun v N => v = some (.int (zb res.1)) ∧ N = (zui (zui (zui (zul M 205 res.2.2.2.1) 186 res.2.1) 204 res.2.2.1) 206 res.2.2.2.2)) :=
  zK_of (by decide) (Nat.le_of_ble_eq_true rfl) (TX12_image_186 Γ M r0 r0_6 w0_9 r0_50 w0_51 r0_52 e_i186 e_i188 e_l191 e_i204 e_l205 e_i206 a1 hy ⟨rfl, rfl⟩)

noncomputable def fM_restore_L27 (r0_50 : Nat → Int32) (a1 : Int32) (r0_6v5 : Nat → Int32) (x6 : Int32) : Option (((Nat → Int32) × Int32) ⊕ ((Nat → Int32))) :=
  (if 397 ≤ x6 then
  some (.inr r0_6v5)
  else
  (zrd r0_50 794 ((397 * a1) + x6)).bind (fun (v15 : Int32) =>
  (zwr r0_6v5 397 x6 v15).bind (fun (r0_6v16 : Nat → Int32) =>
  zlet (x6 + 1) (fun (x17 : Int32) =>
  some (.inl (r0_6v16, x17))))))
noncomputable def fM_restore_L60 (w0_51 : Nat → Int64) (a1 : Int32) (w0_9v19 : Nat → Int64) (x20 : Int32) : Option (((Nat → Int64) × Int32) ⊕ ((Nat → Int64))) :=
  (if 14 ≤ x20 then
  some (.inr w0_9v19)
  else
  (zrd w0_51 28 ((14 * a1) + x20)).bind (fun (v29 : Int64) =>
  (zwr w0_9v19 28 x20 v29).bind (fun (w0_9v30 : Nat → Int64) =>
  zlet (x20 + 1) (fun (x31 : Int32) =>
  some (.inl (w0_9v30, x31))))))
noncomputable def fM_restore (r0 : Nat → Int32) (r0_6 : Nat → Int32) (w0_9 : Nat → Int64) (r0_20 : Nat → Int32) (r0_50 : Nat → Int32) (w0_51 : Nat → Int64) (r0_52 : Nat → Int32) (a1 : Int32) : Option (Bool × (Nat → Int32) × (Nat → Int32) × (Nat → Int64) × (Nat → Int32)) :=
  zlet (zup r0 0 0) (fun (r0v1 : Nat → Int32) =>
  (if (fM_isIn a1 0 1) = true then
  (zrd r0_52 2 a1).bind (fun (v3 : Int32) =>
  (if v3 = 0 then
  some (false, r0v1, r0_6, w0_9, r0_20)
  else
  (zLP (fun s => fM_restore_L27 r0_50 a1 s.1 s.2) (r0_6, 0)).bind (fun r9 =>
  (zLP (fun s => fM_restore_L60 w0_51 a1 s.1 s.2) (w0_9, 0)).bind (fun r23 =>
  (fM_laysApart r9 r0_20).bind (fun (y33 : (Nat → Int32)) =>
  zlet (zup r0v1 24 0) (fun (r0v34 : Nat → Int32) =>
  some (true, r0v34, r9, r23, y33)))))))
  else
  some (false, r0v1, r0_6, w0_9, r0_20)))

set_option maxRecDepth 20000 in
theorem TX12_restore_186 (Γ : zG) {Q : Option Value → zM → Prop} (M : zM) (r0 : Nat → Int32) (r0_6 : Nat → Int32) (w0_9 : Nat → Int64) (r0_20 : Nat → Int32) (r0_50 : Nat → Int32) (w0_51 : Nat → Int64) (r0_52 : Nat → Int32) (e_i186 : M.1 186 = r0) (e_i188 : M.1 188 = r0_6) (e_l191 : M.2 191 = w0_9) (e_i193 : M.1 193 = r0_20) (e_i204 : M.1 204 = r0_50) (e_l205 : M.2 205 = w0_51) (e_i206 : M.1 206 = r0_52) (a1 : Int32) {res : Bool × (Nat → Int32) × (Nat → Int32) × (Nat → Int64) × (Nat → Int32)} (hy : (fM_restore r0 r0_6 w0_9 r0_20 r0_50 w0_51 r0_52 a1) = some res) (hq : Q (some (.int (zb res.1))) (zui (zui (zui (zul M 191 res.2.2.2.1) 186 res.2.1) 188 res.2.2.1) 193 res.2.2.2.2)) : zR Γ 4 YX12_restore 0 [(0, .ref (zad Γ 186)), (1, .int a1)] [] M Q := by
  unfold fM_restore at hy
  refine zj_aload_n (pc' := 1) 0 dX12_restore_0 rfl rfl rfl ?_
  refine zj_iconst (pc' := 2) dX12_restore_1 rfl kiconst_0 ?_
  obtain ⟨r0v1, er0v1⟩ : ∃ z, z = (zup r0 0 0) := ⟨_, rfl⟩
  have hy := zlet_at er0v1 hy
  refine zj_pI (pc' := 5) (N := (zui M 186 r0v1)) dX12_restore_2 rfl fpX12_1 sh186 rfl e_i186 er0v1 rfl ?_
  refine zj_iload_n (pc' := 6) 1 dX12_restore_5 rfl rfl rfl ?_
  refine zj_iconst (pc' := 7) dX12_restore_6 rfl kiconst_0 ?_
  refine zj_iconst (pc' := 8) dX12_restore_7 rfl kiconst_1 ?_
  refine zj_S1 (pc' := 11) (z := YX12_isIn) (As := [.int a1, .int 0, .int 1]) (N := (zui M 186 r0v1)) dX12_restore_8 rfl mlX12_188 lkX12_isIn rfl rfl (Nat.le_of_ble_eq_true rfl) (Nat.le_of_ble_eq_true rfl) (LX12_isIn Γ _ a1 0 1 rfl) rfl ?_
  refine zj_bif_eq (tgt := 23) (pc' := 14) dX12_restore_11 rfl (by decide) (fun c2 => ?_) (fun c2 => ?_)
  · have hy := zt_f hy c2
    refine zj_iconst (pc' := 24) dX12_restore_23 rfl kiconst_0 ?_
    have e9 := Option.some.inj hy
    subst e9
    refine zj_mem (N := (zui (zul M 191 w0_9) 186 r0v1)) (zself_l (zq_i e_l191) (zm_li rfl)) ?_
    refine zj_mem (N := (zui (zui (zul M 191 w0_9) 186 r0v1) 188 r0_6)) (zself_i (zr_n rfl (zr_l e_i188)) rfl) ?_
    refine zj_mem (N := (zui (zui (zui (zul M 191 w0_9) 186 r0v1) 188 r0_6) 193 r0_20)) (zself_i (zr_n rfl (zr_n rfl (zr_l e_i193))) rfl) ?_
    exact zj_bret (b := false) dX12_restore_24 rfl hq
  · have hy := zt_t hy c2
    refine zj_aload_n (pc' := 15) 0 dX12_restore_14 rfl rfl rfl ?_
    refine zj_getR (pc' := 18) (j := 206) dX12_restore_15 rfl flX12_96 sh186 rfl ?_
    refine zj_iload_n (pc' := 19) 1 dX12_restore_18 rfl rfl rfl ?_
    obtain ⟨v3, hv3, hy⟩ := zt_b hy
    refine zj_rdz (pc' := 20) dX12_restore_19 rfl sh206 (zr_n rfl e_i206) hv3 ?_
    refine zj_if_ne (tgt := 25) (pc' := 23) dX12_restore_20 rfl (by decide) (fun c4 => ?_) (fun c4 => ?_)
    · have hy := zt_f hy c4
      refine zj_iconst (pc' := 26) dX12_restore_25 rfl kiconst_0 ?_
      refine zj_istore_n (pc' := 27) (L' := [(2, .int 0), (0, .ref (zad Γ 186)), (1, .int a1)]) dX12_restore_26 rfl rfl (by decide) rfl ?_
      refine zj_loc [1, 2, 0] rfl ?_
      refine zj_mem (N := (zui (zui M 186 r0v1) 188 r0_6)) (zself_i (zr_n rfl e_i188) rfl) ?_
      obtain ⟨r9, hr9, hyo10⟩ := zt_b hy
      obtain ⟨n9, hn9⟩ := zLP_some hr9
      have HE7 : ∀ (r0_6v18 : Nat → Int32), r9 = r0_6v18 → zR Γ 4 YX12_restore 58 [(0, .ref (zad Γ 186)), (1, .int a1)] [] (zui (zui M 186 r0v1) 188 r0_6v18) Q := by
        intro r0_6v18 e9
        have hy := hyo10
        try rw [e9] at hy
        try dsimp only at hy
        refine zj_iconst (pc' := 59) dX12_restore_58 rfl kiconst_0 ?_
        refine zj_istore_n (pc' := 60) (L' := [(2, .int 0), (0, .ref (zad Γ 186)), (1, .int a1)]) dX12_restore_59 rfl rfl (by decide) rfl ?_
        refine zj_loc [1, 2, 0] rfl ?_
        refine zj_mem (N := (zui (zui (zul M 191 w0_9) 186 r0v1) 188 r0_6v18)) (zself_l (zq_i (zq_i e_l191)) (zm_li (zm_li rfl))) ?_
        obtain ⟨r23, hr9, hyo24⟩ := zt_b hy
        obtain ⟨n9, hn9⟩ := zLP_some hr9
        have HE21 : ∀ (w0_9v32 : Nat → Int64), r23 = w0_9v32 → zR Γ 4 YX12_restore 89 [(0, .ref (zad Γ 186))] [] (zui (zui (zul M 191 w0_9v32) 186 r0v1) 188 r0_6v18) Q := by
          intro w0_9v32 e9
          have hy := hyo24
          try rw [e9] at hy
          try dsimp only at hy
          refine zj_aload_n (pc' := 90) 0 dX12_restore_89 rfl rfl rfl ?_
          obtain ⟨y33, hy33, hy⟩ := zt_b hy
          refine zj_V0 (pc' := 93) (z := YX12_laysApart) (As := []) (N := (zui (zui (zui (zul M 191 w0_9v32) 186 r0v1) 188 r0_6v18) 193 y33)) dX12_restore_90 rfl mlX12_253 lkX12_laysApart sh186 ⟨_, _, rfl⟩ rfl rfl (Nat.le_of_ble_eq_true rfl) (Nat.le_of_ble_eq_true rfl) (LX12_laysApart_186 Γ _ r0_6v18 r0_20 zr_s (zr_n rfl (zr_n rfl (zr_l e_i193))) hy33) (rfl).symm ?_
          refine zj_aload_n (pc' := 94) 0 dX12_restore_93 rfl rfl rfl ?_
          refine zj_iconst (pc' := 95) dX12_restore_94 rfl kiconst_0 ?_
          obtain ⟨r0v34, er0v34⟩ : ∃ z, z = (zup r0v1 24 0) := ⟨_, rfl⟩
          have hy := zlet_at er0v34 hy
          refine zj_pI (pc' := 98) (N := (zui (zui (zui (zul M 191 w0_9v32) 186 r0v34) 188 r0_6v18) 193 y33)) dX12_restore_95 rfl fpX12_256 sh186 rfl (zr_n rfl (zr_n rfl zr_s)) er0v34 (zm_n rfl (zm_n rfl zm_s)) ?_
          refine zj_iconst (pc' := 99) dX12_restore_98 rfl kiconst_1 ?_
          have e9 := Option.some.inj hy
          subst e9
          exact zj_bret (b := true) dX12_restore_99 rfl hq
        have HL22 : ∀ (n : Nat) (w0_9v19 : Nat → Int64) (x20 : Int32), zlp (fun s => fM_restore_L60 w0_51 a1 s.1 s.2) n (w0_9v19, x20) = some r23 → zR Γ 4 YX12_restore 60 [(0, .ref (zad Γ 186)), (1, .int a1), (2, .int x20)] [] (zui (zui (zul M 191 w0_9v19) 186 r0v1) 188 r0_6v18) Q := by
          intro n
          induction n with
          | zero => intro w0_9v19 x20 hn9; cases hn9
          | succ n ih25 =>
            intro w0_9v19 x20 hn9
            obtain ⟨o9, hb9, h26, h27⟩ := zlp_step hn9
            have hy : fM_restore_L60 w0_51 a1 w0_9v19 x20 = some o9 := hb9
            unfold fM_restore_L60 at hy
            refine zj_iload_n (pc' := 61) 2 dX12_restore_60 rfl rfl rfl ?_
            refine zj_bipush (pc' := 63) dX12_restore_61 rfl kbipush_14 ?_
            refine zj_icmp_ge (tgt := 89) (pc' := 66) dX12_restore_63 rfl (by decide) (fun c28 => ?_) (fun c28 => ?_)
            · have hy := zt_t hy c28
              have e9 := h27 _ (Option.some.inj hy).symm
              refine zj_loc [0] rfl ?_
              exact HE21 _ e9.symm
            · have hy := zt_f hy c28
              refine zj_aload_n (pc' := 67) 0 dX12_restore_66 rfl rfl rfl ?_
              refine zj_getR (pc' := 70) (j := 191) dX12_restore_67 rfl flX12_43 sh186 rfl ?_
              refine zj_iload_n (pc' := 71) 2 dX12_restore_70 rfl rfl rfl ?_
              refine zj_aload_n (pc' := 72) 0 dX12_restore_71 rfl rfl rfl ?_
              refine zj_getR (pc' := 75) (j := 205) dX12_restore_72 rfl flX12_93 sh186 rfl ?_
              refine zj_bipush (pc' := 77) dX12_restore_75 rfl kbipush_14 ?_
              refine zj_iload_n (pc' := 78) 1 dX12_restore_77 rfl rfl rfl ?_
              refine zj_imul (pc' := 79) dX12_restore_78 rfl ?_
              refine zj_iload_n (pc' := 80) 2 dX12_restore_79 rfl rfl rfl ?_
              refine zj_iadd (pc' := 81) dX12_restore_80 rfl ?_
              obtain ⟨v29, hv29, hy⟩ := zt_b hy
              refine zj_rdl (pc' := 82) dX12_restore_81 rfl sh205 (zq_i (zq_i (zq_n rfl e_l205))) hv29 ?_
              obtain ⟨w0_9v30, hw0_9v30, hy⟩ := zt_b hy
              refine zj_wrl (pc' := 83) (N := (zui (zui (zul M 191 w0_9v30) 186 r0v1) 188 r0_6v18)) dX12_restore_82 rfl sh191 (zq_i (zq_i zq_s)) hw0_9v30 (zm_li (zm_li zn_s)) ?_
              obtain ⟨x31, ex31⟩ : ∃ z : Int32, z = (x20 + 1) := ⟨_, rfl⟩
              have hy := zlet_at ex31 hy
              refine zj_iinc (pc' := 86) 2 (L' := [(2, .int x31), (0, .ref (zad Γ 186)), (1, .int a1)]) dX12_restore_83 rfl rfl (by decide) (by rw [ci1, ← ex31]; rfl) ?_
              refine zj_goto (tgt := 60) dX12_restore_86 (by decide) ?_
              have hn9 := h26 _ (Option.some.inj hy).symm
              refine zj_loc [1, 2, 0] rfl ?_
              exact ih25 _ _ hn9
        exact HL22 n9 _ _ hn9
      have HL8 : ∀ (n : Nat) (r0_6v5 : Nat → Int32) (x6 : Int32), zlp (fun s => fM_restore_L27 r0_50 a1 s.1 s.2) n (r0_6v5, x6) = some r9 → zR Γ 4 YX12_restore 27 [(0, .ref (zad Γ 186)), (1, .int a1), (2, .int x6)] [] (zui (zui M 186 r0v1) 188 r0_6v5) Q := by
        intro n
        induction n with
        | zero => intro r0_6v5 x6 hn9; cases hn9
        | succ n ih11 =>
          intro r0_6v5 x6 hn9
          obtain ⟨o9, hb9, h12, h13⟩ := zlp_step hn9
          have hy : fM_restore_L27 r0_50 a1 r0_6v5 x6 = some o9 := hb9
          unfold fM_restore_L27 at hy
          refine zj_iload_n (pc' := 28) 2 dX12_restore_27 rfl rfl rfl ?_
          refine zj_sipush (pc' := 31) dX12_restore_28 rfl ksipush_397 ?_
          refine zj_icmp_ge (tgt := 58) (pc' := 34) dX12_restore_31 rfl (by decide) (fun c14 => ?_) (fun c14 => ?_)
          · have hy := zt_t hy c14
            have e9 := h13 _ (Option.some.inj hy).symm
            refine zj_loc [0, 1] rfl ?_
            exact HE7 _ e9.symm
          · have hy := zt_f hy c14
            refine zj_aload_n (pc' := 35) 0 dX12_restore_34 rfl rfl rfl ?_
            refine zj_getR (pc' := 38) (j := 188) dX12_restore_35 rfl flX12_33 sh186 rfl ?_
            refine zj_iload_n (pc' := 39) 2 dX12_restore_38 rfl rfl rfl ?_
            refine zj_aload_n (pc' := 40) 0 dX12_restore_39 rfl rfl rfl ?_
            refine zj_getR (pc' := 43) (j := 204) dX12_restore_40 rfl flX12_90 sh186 rfl ?_
            refine zj_sipush (pc' := 46) dX12_restore_43 rfl ksipush_397 ?_
            refine zj_iload_n (pc' := 47) 1 dX12_restore_46 rfl rfl rfl ?_
            refine zj_imul (pc' := 48) dX12_restore_47 rfl ?_
            refine zj_iload_n (pc' := 49) 2 dX12_restore_48 rfl rfl rfl ?_
            refine zj_iadd (pc' := 50) dX12_restore_49 rfl ?_
            obtain ⟨v15, hv15, hy⟩ := zt_b hy
            refine zj_rdi (pc' := 51) dX12_restore_50 rfl sh204 (zr_n rfl (zr_n rfl e_i204)) hv15 ?_
            obtain ⟨r0_6v16, hr0_6v16, hy⟩ := zt_b hy
            refine zj_wri (pc' := 52) (N := (zui (zui M 186 r0v1) 188 r0_6v16)) dX12_restore_51 rfl sh188 zr_s hr0_6v16 zm_s ?_
            obtain ⟨x17, ex17⟩ : ∃ z : Int32, z = (x6 + 1) := ⟨_, rfl⟩
            have hy := zlet_at ex17 hy
            refine zj_iinc (pc' := 55) 2 (L' := [(2, .int x17), (0, .ref (zad Γ 186)), (1, .int a1)]) dX12_restore_52 rfl rfl (by decide) (by rw [ci1, ← ex17]; rfl) ?_
            refine zj_goto (tgt := 27) dX12_restore_55 (by decide) ?_
            have hn9 := h12 _ (Option.some.inj hy).symm
            refine zj_loc [1, 2, 0] rfl ?_
            exact ih11 _ _ hn9
      exact HL8 n9 _ _ hn9
    · have hy := zt_t hy c4
      refine zj_iconst (pc' := 24) dX12_restore_23 rfl kiconst_0 ?_
      have e9 := Option.some.inj hy
      subst e9
      refine zj_mem (N := (zui (zul M 191 w0_9) 186 r0v1)) (zself_l (zq_i e_l191) (zm_li rfl)) ?_
      refine zj_mem (N := (zui (zui (zul M 191 w0_9) 186 r0v1) 188 r0_6)) (zself_i (zr_n rfl (zr_l e_i188)) rfl) ?_
      refine zj_mem (N := (zui (zui (zui (zul M 191 w0_9) 186 r0v1) 188 r0_6) 193 r0_20)) (zself_i (zr_n rfl (zr_n rfl (zr_l e_i193))) rfl) ?_
      exact zj_bret (b := false) dX12_restore_24 rfl hq
set_option maxRecDepth 20000 in
theorem LX12_restore_186 (Γ : zG) (M : zM) (r0 : Nat → Int32) (r0_6 : Nat → Int32) (w0_9 : Nat → Int64) (r0_20 : Nat → Int32) (r0_50 : Nat → Int32) (w0_51 : Nat → Int64) (r0_52 : Nat → Int32) (e_i186 : M.1 186 = r0) (e_i188 : M.1 188 = r0_6) (e_l191 : M.2 191 = w0_9) (e_i193 : M.1 193 = r0_20) (e_i204 : M.1 204 = r0_50) (e_l205 : M.2 205 = w0_51) (e_i206 : M.1 206 = r0_52) (a1 : Int32) {res : Bool × (Nat → Int32) × (Nat → Int32) × (Nat → Int64) × (Nat → Int32)} (hy : (fM_restore r0 r0_6 w0_9 r0_20 r0_50 w0_51 r0_52 a1) = some res) : zK Γ 4 YX12_restore [.ref (zad Γ 186), .int a1] M (fun v N => v = some (.int (zb res.1)) ∧ N = (zui (zui (zui (zul M 191 res.2.2.2.1) 186 res.2.1) 188 res.2.2.1) 193 res.2.2.2.2)) :=
  zK_of (by decide) (Nat.le_of_ble_eq_true rfl) (TX12_restore_186 Γ M r0 r0_6 w0_9 r0_20 r0_50 w0_51 r0_52 e_i186 e_i188 e_l191 e_i193 e_i204 e_l205 e_i206 a1 hy ⟨rfl, rfl⟩)

noncomputable def fPl_streets (r0 : Nat → Int32) : Int32 :=
  (r0 5)

set_option maxRecDepth 20000 in
theorem TX7_streets_5 (Γ : zG) {Q : Option Value → zM → Prop} (M : zM) (r0 : Nat → Int32) (e_i5 : M.1 5 = r0)  {res : Int32} (hy : (fPl_streets r0) = res) (hq : Q (some (.int res)) M) : zR Γ 1 YX7_streets 0 [(0, .ref (zad Γ 5))] [] M Q := by
  unfold fPl_streets at hy
  refine zj_aload_n (pc' := 1) 0 dX7_streets_0 rfl rfl rfl ?_
  refine zj_fI (pc' := 4) dX7_streets_1 rfl flX7_29 sh5 rfl e_i5 rfl ?_
  subst hy
  exact zj_iret dX7_streets_4 rfl hq
set_option maxRecDepth 20000 in
theorem LX7_streets_5 (Γ : zG) (M : zM) (r0 : Nat → Int32) (e_i5 : M.1 5 = r0)  {res : Int32} (hy : (fPl_streets r0) = res) : zK Γ 1 YX7_streets [.ref (zad Γ 5)] M (fun v N => v = some (.int res) ∧ N = M) :=
  zK_of (by decide) (Nat.le_of_ble_eq_true rfl) (TX7_streets_5 Γ M r0 e_i5 hy ⟨rfl, rfl⟩)

noncomputable def fX_count (r0_0 : Nat → Int32) (r0_2 : Nat → Int32) (a1 : Int32) : Int32 :=
  (if a1 = 0 then
  (fPl_corners r0_2)
  else
  (if a1 = 1 then
  (fPl_streets r0_2)
  else
  (if a1 = 2 then
  (fPl_persons r0_2)
  else
  (if a1 = 3 then
  (fTp_length r0_0)
  else
  (-1)))))

set_option maxRecDepth 20000 in
theorem TX11_count_0 (Γ : zG) {Q : Option Value → zM → Prop} (M : zM) (r0_0 : Nat → Int32) (r0_2 : Nat → Int32) (e_i1 : M.1 1 = r0_0) (e_i5 : M.1 5 = r0_2) (a1 : Int32) {res : Int32} (hy : (fX_count r0_0 r0_2 a1) = res) (hq : Q (some (.int res)) M) : zR Γ 2 YX11_count 0 [(0, .ref (zad Γ 0)), (1, .int a1)] [] M Q := by
  unfold fX_count at hy
  refine zj_iload_n (pc' := 1) 1 dX11_count_0 rfl rfl rfl ?_
  rcases Decidable.em (a1 = 0) with c1 | c1
  · have hy := zt_t hy c1
    refine zj_tsIn (tgt := 32) (v := 0) dX11_count_1 c1 (by decide) (by decide) (off := 31) (by decide) (by decide) ?_
    refine zj_aload_n (pc' := 33) 0 dX11_count_32 rfl rfl rfl ?_
    refine zj_getR (pc' := 36) (j := 5) dX11_count_33 rfl flX11_28 sh0 rfl ?_
    refine zj_V1 (pc' := 39) (z := YX7_corners) (As := []) (N := M) dX11_count_36 rfl mlX11_393 lkX7_corners sh5 ⟨_, _, rfl⟩ rfl rfl (Nat.le_of_ble_eq_true rfl) (Nat.le_of_ble_eq_true rfl) (LX7_corners_5 Γ _ r0_2 e_i5 rfl) rfl ?_
    subst hy
    exact zj_iret dX11_count_39 rfl hq
  · have hy := zt_f hy c1
    rcases Decidable.em (a1 = 1) with c2 | c2
    · have hy := zt_t hy c2
      refine zj_tsIn (tgt := 40) (v := 1) dX11_count_1 c2 (by decide) (by decide) (off := 39) (by decide) (by decide) ?_
      refine zj_aload_n (pc' := 41) 0 dX11_count_40 rfl rfl rfl ?_
      refine zj_getR (pc' := 44) (j := 5) dX11_count_41 rfl flX11_28 sh0 rfl ?_
      refine zj_V1 (pc' := 47) (z := YX7_streets) (As := []) (N := M) dX11_count_44 rfl mlX11_396 lkX7_streets sh5 ⟨_, _, rfl⟩ rfl rfl (Nat.le_of_ble_eq_true rfl) (Nat.le_of_ble_eq_true rfl) (LX7_streets_5 Γ _ r0_2 e_i5 rfl) rfl ?_
      subst hy
      exact zj_iret dX11_count_47 rfl hq
    · have hy := zt_f hy c2
      rcases Decidable.em (a1 = 2) with c3 | c3
      · have hy := zt_t hy c3
        refine zj_tsIn (tgt := 48) (v := 2) dX11_count_1 c3 (by decide) (by decide) (off := 47) (by decide) (by decide) ?_
        refine zj_aload_n (pc' := 49) 0 dX11_count_48 rfl rfl rfl ?_
        refine zj_getR (pc' := 52) (j := 5) dX11_count_49 rfl flX11_28 sh0 rfl ?_
        refine zj_V1 (pc' := 55) (z := YX7_persons) (As := []) (N := M) dX11_count_52 rfl mlX11_308 lkX7_persons sh5 ⟨_, _, rfl⟩ rfl rfl (Nat.le_of_ble_eq_true rfl) (Nat.le_of_ble_eq_true rfl) (LX7_persons_5 Γ _ r0_2 e_i5 rfl) rfl ?_
        subst hy
        exact zj_iret dX11_count_55 rfl hq
      · have hy := zt_f hy c3
        rcases Decidable.em (a1 = 3) with c4 | c4
        · have hy := zt_t hy c4
          refine zj_tsIn (tgt := 56) (v := 3) dX11_count_1 c4 (by decide) (by decide) (off := 55) (by decide) (by decide) ?_
          refine zj_aload_n (pc' := 57) 0 dX11_count_56 rfl rfl rfl ?_
          refine zj_getR (pc' := 60) (j := 1) dX11_count_57 rfl flX11_10 sh0 rfl ?_
          refine zj_V1 (pc' := 63) (z := YX10_length) (As := []) (N := M) dX11_count_60 rfl mlX11_122 lkX10_length sh1 ⟨_, _, rfl⟩ rfl rfl (Nat.le_of_ble_eq_true rfl) (Nat.le_of_ble_eq_true rfl) (LX10_length_1 Γ _ r0_0 e_i1 rfl) rfl ?_
          subst hy
          exact zj_iret dX11_count_63 rfl hq
        · have hy := zt_f hy c4
          refine zj_tsOut (tgt := 64) dX11_count_1 (by have q0 := zne (k := 0) c1 (by decide); have q1 := zne (k := 1) c2 (by decide); have q2 := zne (k := 2) c3 (by decide); have q3 := zne (k := 3) c4 (by decide); omega) (by decide) ?_
          refine zj_iconst (pc' := 65) dX11_count_64 rfl kiconst_m1 ?_
          subst hy
          exact zj_iret dX11_count_65 rfl hq
set_option maxRecDepth 20000 in
theorem LX11_count_0 (Γ : zG) (M : zM) (r0_0 : Nat → Int32) (r0_2 : Nat → Int32) (e_i1 : M.1 1 = r0_0) (e_i5 : M.1 5 = r0_2) (a1 : Int32) {res : Int32} (hy : (fX_count r0_0 r0_2 a1) = res) : zK Γ 2 YX11_count [.ref (zad Γ 0), .int a1] M (fun v N => v = some (.int res) ∧ N = M) :=
  zK_of (by decide) (Nat.le_of_ble_eq_true rfl) (TX11_count_0 Γ M r0_0 r0_2 e_i1 e_i5 a1 hy ⟨rfl, rfl⟩)

noncomputable def fM_count (r0 : Nat → Int32) (r0_6 : Nat → Int32) (a1 : Int32) : Option (Int32 × (Nat → Int32)) :=
  zlet (zup r0 0 0) (fun (r0v1 : Nat → Int32) =>
  (if a1 = 3 then
  some ((r0v1 2), r0v1)
  else
  (if (fM_isIn a1 0 2) = true then
  (zrd r0_6 397 a1).bind (fun (v4 : Int32) =>
  some (v4, r0v1))
  else
  some ((-1), r0v1))))

set_option maxRecDepth 20000 in
theorem TX12_count_186 (Γ : zG) {Q : Option Value → zM → Prop} (M : zM) (r0 : Nat → Int32) (r0_6 : Nat → Int32) (e_i186 : M.1 186 = r0) (e_i188 : M.1 188 = r0_6) (a1 : Int32) {res : Int32 × (Nat → Int32)} (hy : (fM_count r0 r0_6 a1) = some res) (hq : Q (some (.int res.1)) (zui M 186 res.2)) : zR Γ 2 YX12_count 0 [(0, .ref (zad Γ 186)), (1, .int a1)] [] M Q := by
  unfold fM_count at hy
  refine zj_aload_n (pc' := 1) 0 dX12_count_0 rfl rfl rfl ?_
  refine zj_iconst (pc' := 2) dX12_count_1 rfl kiconst_0 ?_
  obtain ⟨r0v1, er0v1⟩ : ∃ z, z = (zup r0 0 0) := ⟨_, rfl⟩
  have hy := zlet_at er0v1 hy
  refine zj_pI (pc' := 5) (N := (zui M 186 r0v1)) dX12_count_2 rfl fpX12_1 sh186 rfl e_i186 er0v1 rfl ?_
  refine zj_iload_n (pc' := 6) 1 dX12_count_5 rfl rfl rfl ?_
  refine zj_iconst (pc' := 7) dX12_count_6 rfl kiconst_3 ?_
  refine zj_icmp_ne (tgt := 17) (pc' := 10) dX12_count_7 rfl (by decide) (fun c2 => ?_) (fun c2 => ?_)
  · have hy := zt_f hy c2
    refine zj_iload_n (pc' := 18) 1 dX12_count_17 rfl rfl rfl ?_
    refine zj_iconst (pc' := 19) dX12_count_18 rfl kiconst_0 ?_
    refine zj_iconst (pc' := 20) dX12_count_19 rfl kiconst_2 ?_
    refine zj_S1 (pc' := 23) (z := YX12_isIn) (As := [.int a1, .int 0, .int 2]) (N := (zui M 186 r0v1)) dX12_count_20 rfl mlX12_188 lkX12_isIn rfl rfl (Nat.le_of_ble_eq_true rfl) (Nat.le_of_ble_eq_true rfl) (LX12_isIn Γ _ a1 0 2 rfl) rfl ?_
    refine zj_bif_eq (tgt := 35) (pc' := 26) dX12_count_23 rfl (by decide) (fun c3 => ?_) (fun c3 => ?_)
    · have hy := zt_f hy c3
      refine zj_iconst (pc' := 36) dX12_count_35 rfl kiconst_m1 ?_
      have e9 := Option.some.inj hy
      subst e9
      exact zj_iret dX12_count_36 rfl hq
    · have hy := zt_t hy c3
      refine zj_aload_n (pc' := 27) 0 dX12_count_26 rfl rfl rfl ?_
      refine zj_getR (pc' := 30) (j := 188) dX12_count_27 rfl flX12_33 sh186 rfl ?_
      refine zj_iload_n (pc' := 31) 1 dX12_count_30 rfl rfl rfl ?_
      obtain ⟨v4, hv4, hy⟩ := zt_b hy
      refine zj_rdi (pc' := 32) dX12_count_31 rfl sh188 (zr_n rfl e_i188) hv4 ?_
      refine zj_goto (tgt := 36) dX12_count_32 (by decide) ?_
      have e9 := Option.some.inj hy
      subst e9
      exact zj_iret dX12_count_36 rfl hq
  · have hy := zt_t hy c2
    refine zj_aload_n (pc' := 11) 0 dX12_count_10 rfl rfl rfl ?_
    refine zj_fI (pc' := 14) dX12_count_11 rfl flX12_7 sh186 rfl zr_s rfl ?_
    refine zj_goto (tgt := 36) dX12_count_14 (by decide) ?_
    have e9 := Option.some.inj hy
    subst e9
    exact zj_iret dX12_count_36 rfl hq
set_option maxRecDepth 20000 in
theorem LX12_count_186 (Γ : zG) (M : zM) (r0 : Nat → Int32) (r0_6 : Nat → Int32) (e_i186 : M.1 186 = r0) (e_i188 : M.1 188 = r0_6) (a1 : Int32) {res : Int32 × (Nat → Int32)} (hy : (fM_count r0 r0_6 a1) = some res) : zK Γ 2 YX12_count [.ref (zad Γ 186), .int a1] M (fun v N => v = some (.int res.1) ∧ N = (zui M 186 res.2)) :=
  zK_of (by decide) (Nat.le_of_ble_eq_true rfl) (TX12_count_186 Γ M r0 r0_6 e_i186 e_i188 a1 hy ⟨rfl, rfl⟩)

noncomputable def fM_thrown (r0 : Nat → Int32) : Int32 :=
  (r0 0)

set_option maxRecDepth 20000 in
theorem TX12_thrown_186 (Γ : zG) {Q : Option Value → zM → Prop} (M : zM) (r0 : Nat → Int32) (e_i186 : M.1 186 = r0)  {res : Int32} (hy : (fM_thrown r0) = res) (hq : Q (some (.int res)) M) : zR Γ 1 YX12_thrown 0 [(0, .ref (zad Γ 186))] [] M Q := by
  unfold fM_thrown at hy
  refine zj_aload_n (pc' := 1) 0 dX12_thrown_0 rfl rfl rfl ?_
  refine zj_fI (pc' := 4) dX12_thrown_1 rfl flX12_1 sh186 rfl e_i186 rfl ?_
  subst hy
  exact zj_iret dX12_thrown_4 rfl hq
set_option maxRecDepth 20000 in
theorem LX12_thrown_186 (Γ : zG) (M : zM) (r0 : Nat → Int32) (e_i186 : M.1 186 = r0)  {res : Int32} (hy : (fM_thrown r0) = res) : zK Γ 1 YX12_thrown [.ref (zad Γ 186)] M (fun v N => v = some (.int res) ∧ N = M) :=
  zK_of (by decide) (Nat.le_of_ble_eq_true rfl) (TX12_thrown_186 Γ M r0 e_i186 hy ⟨rfl, rfl⟩)

