noncomputable def fM_book_L39 (r0_1 : Nat → Int32) (r0_6 : Nat → Int32) (w0_9 : Nat → Int64) (w0_10 : Nat → Int64) (r0_21 : Nat → Int32) (r0_22 : Nat → Int32) (r0_23 : Nat → Int32) (r0_41 : Nat → Int32) (r0v7 : Nat → Int32) (w0v8 : Nat → Int64) (r0_8v9 : Nat → Int32) : Option (((Nat → Int32) × (Nat → Int64) × (Nat → Int32)) ⊕ (((Nat → Int32) × (Nat → Int64) × (Nat → Int32)) ⊕ (Int32 × (Nat → Int32) × (Nat → Int64) × (Nat → Int32) × (Nat → Int32) × (Nat → Int32) × (Nat → Int32) × (Nat → Int32) × (Nat → Int32)))) :=
  (if (r0v7 11) = 0 then
  some (.inr (.inl (r0v7, w0v8, r0_8v9)))
  else
  (fM_bookLine r0v7 w0v8 r0_1 r0_6 r0_8v9 w0_9 w0_10).bind (fun (y18 : Bool × (Nat → Int32) × (Nat → Int64) × (Nat → Int32)) =>
  (if y18.1 = true then
  (fM_sign y18.2.1 y18.2.2.1 r0_1 59).bind (fun (y20 : Bool × (Nat → Int32) × (Nat → Int64)) =>
  (if y20.1 = true then
  zlet (zup y20.2.1 40 ((y20.2.1 40) + 1)) (fun (r0v22 : Nat → Int32) =>
  some (.inl (r0v22, y20.2.2, y18.2.2.2)))
  else
  some (.inr (.inr (((-2) - (y20.2.1 16)), y20.2.1, y20.2.2, r0_6, y18.2.2.2, r0_21, r0_22, r0_23, r0_41)))))
  else
  some (.inr (.inr (((-2) - (y18.2.1 16)), y18.2.1, y18.2.2.1, r0_6, y18.2.2.2, r0_21, r0_22, r0_23, r0_41))))))
noncomputable def fM_book_L89 (r0_41v29 : Nat → Int32) (x30 : Int32) : Option (((Nat → Int32) × Int32) ⊕ ((Nat → Int32))) :=
  (if 4 ≤ x30 then
  some (.inr r0_41v29)
  else
  (zwr r0_41v29 4 x30 0).bind (fun (r0_41v39 : Nat → Int32) =>
  zlet (x30 + 1) (fun (x40 : Int32) =>
  some (.inl (r0_41v39, x40)))))
noncomputable def fM_book_L111 (r0_20 : Nat → Int32) (r0v25 : Nat → Int32) (r0_8v27 : Nat → Int32) (r0_6v42 : Nat → Int32) (r0_21v43 : Nat → Int32) (r0_41v44 : Nat → Int32) (x45 : Int32) (x46 : Int32) : Option (((Nat → Int32) × (Nat → Int32) × (Nat → Int32) × Int32 × Int32) ⊕ ((Nat → Int32) × (Nat → Int32) × (Nat → Int32) × Int32)) :=
  (if (r0v25 40) ≤ x46 then
  some (.inr (r0_6v42, r0_21v43, r0_41v44, x45))
  else
  (if 0 ≤ x45 then
  some (.inr (r0_6v42, r0_21v43, r0_41v44, x45))
  else
  (zrd r0_8v27 160 (4 * x46)).bind (fun (v56 : Int32) =>
  (zrd r0_8v27 160 ((4 * x46) + 1)).bind (fun (v57 : Int32) =>
  (zrd r0_8v27 160 ((4 * x46) + 2)).bind (fun (v58 : Int32) =>
  (zrd r0_8v27 160 ((4 * x46) + 3)).bind (fun (v59 : Int32) =>
  (fM_does r0_6v42 r0_20 r0_21v43 v56 v57 v58 v59).bind (fun (y60 : Int32 × (Nat → Int32) × (Nat → Int32)) =>
  zlet (zup r0_41v44 0 y60.1) (fun (r0_41v61 : Nat → Int32) =>
  (if (r0_41v61 0) ≤ 0 then
  zlet (zup r0_41v61 1 ((r0_41v61 1) + 1)) (fun (r0_41v63 : Nat → Int32) =>
  zlet (x46 + 1) (fun (x64 : Int32) =>
  some (.inl (y60.2.1, y60.2.2, r0_41v63, x45, x64))))
  else
  zlet (x46 + 1) (fun (x65 : Int32) =>
  some (.inl (y60.2.1, y60.2.2, r0_41v61, x46, x65))))))))))))
noncomputable def fM_book_L249 (y28 : (Nat → Int32)) (y78 : (Nat → Int32) × (Nat → Int32)) (r0_22v79 : Nat → Int32) (x80 : Int32) : Option (((Nat → Int32) × Int32) ⊕ ((Nat → Int32))) :=
  (if 127 ≤ x80 then
  some (.inr r0_22v79)
  else
  (zrd y28 127 x80).bind (fun (v89 : Int32) =>
  (zwr r0_22v79 1016 ((127 * ((y78.1 24) - 1)) + x80) v89).bind (fun (r0_22v90 : Nat → Int32) =>
  zlet (x80 + 1) (fun (x91 : Int32) =>
  some (.inl (r0_22v90, x91))))))
noncomputable def fM_book (r0 : Nat → Int32) (w0 : Nat → Int64) (r0_1 : Nat → Int32) (r0_6 : Nat → Int32) (r0_8 : Nat → Int32) (w0_9 : Nat → Int64) (w0_10 : Nat → Int64) (r0_20 : Nat → Int32) (r0_21 : Nat → Int32) (r0_22 : Nat → Int32) (r0_23 : Nat → Int32) (r0_41 : Nat → Int32) (a1 : Int32) : Option (Int32 × (Nat → Int32) × (Nat → Int64) × (Nat → Int32) × (Nat → Int32) × (Nat → Int32) × (Nat → Int32) × (Nat → Int32) × (Nat → Int32)) :=
  zlet (zup r0 0 0) (fun (r0v1 : Nat → Int32) =>
  (if (fM_isIn a1 0 1) = true then
  (fM_taken r0v1 400).bind (fun (y3 : (Nat → Int32)) =>
  zlet (zup y3 15 0) (fun (r0v4 : Nat → Int32) =>
  zlet (zup r0v4 40 0) (fun (r0v5 : Nat → Int32) =>
  (fM_next r0v5 w0 r0_1).bind (fun (y6 : (Nat → Int32) × (Nat → Int64)) =>
  (zLP (fun s => fM_book_L39 r0_1 r0_6 w0_9 w0_10 r0_21 r0_22 r0_23 r0_41 s.1 s.2.1 s.2.2) (y6.1, y6.2, r0_8)).bind (fun r12 => zsum r12 (fun x9 =>
  (fM_tries r0_6 r0_23).bind (fun (y28 : (Nat → Int32)) =>
  (zLP (fun s => fM_book_L89 s.1 s.2) (r0_41, 0)).bind (fun r33 =>
  (zLP (fun s => fM_book_L111 r0_20 x9.1 x9.2.2 s.1 s.2.1 s.2.2.1 s.2.2.2.1 s.2.2.2.2) (r0_6, r0_21, r33, (-1), 0)).bind (fun r49 =>
  zlet (zup r49.2.2.1 2 (r49.1 89)) (fun (r0_41v70 : Nat → Int32) =>
  (fM_printsInAll r49.1).bind (fun (y71 : Int32) =>
  zlet (zup r0_41v70 3 y71) (fun (r0_41v72 : Nat → Int32) =>
  zlet (zup x9.1 42 1) (fun (r0v73 : Nat → Int32) =>
  (if a1 = 1 then
  (if (r0_41v72 1) ≤ 0 then
  (if a1 = 0 then
  (fM_back r49.1 y28).bind (fun (y77 : (Nat → Int32)) =>
  some (r49.2.2.2, r0v73, x9.2.1, y77, x9.2.2, r49.2.1, r0_22, y28, r0_41v72))
  else
  some (r49.2.2.2, r0v73, x9.2.1, r49.1, x9.2.2, r49.2.1, r0_22, y28, r0_41v72))
  else
  (fM_keep r0v73 r49.1 r0_22).bind (fun (y78 : (Nat → Int32) × (Nat → Int32)) =>
  (zLP (fun s => fM_book_L249 y28 y78 s.1 s.2) (y78.2, 0)).bind (fun r83 =>
  (if a1 = 0 then
  (fM_back r49.1 y28).bind (fun (y94 : (Nat → Int32)) =>
  some (r49.2.2.2, y78.1, x9.2.1, y94, x9.2.2, r49.2.1, r83, y28, r0_41v72))
  else
  some (r49.2.2.2, y78.1, x9.2.1, r49.1, x9.2.2, r49.2.1, r83, y28, r0_41v72)))))
  else
  (if a1 = 0 then
  (fM_back r49.1 y28).bind (fun (y96 : (Nat → Int32)) =>
  some (r49.2.2.2, r0v73, x9.2.1, y96, x9.2.2, r49.2.1, r0_22, y28, r0_41v72))
  else
  some (r49.2.2.2, r0v73, x9.2.1, r49.1, x9.2.2, r49.2.1, r0_22, y28, r0_41v72))))))))))) (fun q9 => some q9))))))
  else
  some ((-1000), r0v1, w0, r0_6, r0_8, r0_21, r0_22, r0_23, r0_41)))

set_option maxRecDepth 20000 in
theorem TX12_book_186 (Γ : zG) {Q : Option Value → zM → Prop} (M : zM) (r0 : Nat → Int32) (w0 : Nat → Int64) (r0_1 : Nat → Int32) (r0_6 : Nat → Int32) (r0_8 : Nat → Int32) (w0_9 : Nat → Int64) (w0_10 : Nat → Int64) (r0_20 : Nat → Int32) (r0_21 : Nat → Int32) (r0_22 : Nat → Int32) (r0_23 : Nat → Int32) (r0_41 : Nat → Int32) (e_i186 : M.1 186 = r0) (e_l186 : M.2 186 = w0) (e_i187 : M.1 187 = r0_1) (e_i188 : M.1 188 = r0_6) (e_i190 : M.1 190 = r0_8) (e_l191 : M.2 191 = w0_9) (e_l192 : M.2 192 = w0_10) (e_i193 : M.1 193 = r0_20) (e_i194 : M.1 194 = r0_21) (e_i195 : M.1 195 = r0_22) (e_i196 : M.1 196 = r0_23) (e_i201 : M.1 201 = r0_41) (a1 : Int32) {res : Int32 × (Nat → Int32) × (Nat → Int64) × (Nat → Int32) × (Nat → Int32) × (Nat → Int32) × (Nat → Int32) × (Nat → Int32) × (Nat → Int32)} (hy : (fM_book r0 w0 r0_1 r0_6 r0_8 w0_9 w0_10 r0_20 r0_21 r0_22 r0_23 r0_41 a1) = some res) (hq : Q (some (.int res.1)) (zui (zui (zui (zui (zui (zui (zui (zul M 186 res.2.2.1) 186 res.2.1) 188 res.2.2.2.1) 190 res.2.2.2.2.1) 194 res.2.2.2.2.2.1) 195 res.2.2.2.2.2.2.1) 196 res.2.2.2.2.2.2.2.1) 201 res.2.2.2.2.2.2.2.2)) : zR Γ 8 YX12_book 0 [(0, .ref (zad Γ 186)), (1, .int a1)] [] M Q := by
  unfold fM_book at hy
  refine zj_aload_n (pc' := 1) 0 dX12_book_0 rfl rfl rfl ?_
  refine zj_iconst (pc' := 2) dX12_book_1 rfl kiconst_0 ?_
  obtain ⟨r0v1, er0v1⟩ : ∃ z, z = (zup r0 0 0) := ⟨_, rfl⟩
  have hy := zlet_at er0v1 hy
  refine zj_pI (pc' := 5) (N := (zui M 186 r0v1)) dX12_book_2 rfl fpX12_1 sh186 rfl e_i186 er0v1 rfl ?_
  refine zj_iload_n (pc' := 6) 1 dX12_book_5 rfl rfl rfl ?_
  refine zj_iconst (pc' := 7) dX12_book_6 rfl kiconst_0 ?_
  refine zj_iconst (pc' := 8) dX12_book_7 rfl kiconst_1 ?_
  refine zj_S1 (pc' := 11) (z := YX12_isIn) (As := [.int a1, .int 0, .int 1]) (N := (zui M 186 r0v1)) dX12_book_8 rfl mlX12_188 lkX12_isIn rfl rfl (Nat.le_of_ble_eq_true rfl) (Nat.le_of_ble_eq_true rfl) (LX12_isIn Γ _ a1 0 1 rfl) rfl ?_
  refine zj_bif_ne (tgt := 18) (pc' := 14) dX12_book_11 rfl (by decide) (fun c2 => ?_) (fun c2 => ?_)
  · have hy := zt_t hy c2
    refine zj_aload_n (pc' := 19) 0 dX12_book_18 rfl rfl rfl ?_
    refine zj_sipush (pc' := 22) dX12_book_19 rfl ksipush_400 ?_
    obtain ⟨y3, hy3, hy⟩ := zt_b hy
    refine zj_V0 (pc' := 25) (z := YX12_taken) (As := [.int 400]) (N := (zui M 186 y3)) dX12_book_22 rfl mlX12_241 lkX12_taken sh186 ⟨_, _, rfl⟩ rfl rfl (Nat.le_of_ble_eq_true rfl) (Nat.le_of_ble_eq_true rfl) (LX12_taken_186 Γ _ r0v1 zr_s 400 hy3) (zm_s).symm ?_
    refine zj_aload_n (pc' := 26) 0 dX12_book_25 rfl rfl rfl ?_
    refine zj_iconst (pc' := 27) dX12_book_26 rfl kiconst_0 ?_
    obtain ⟨r0v4, er0v4⟩ : ∃ z, z = (zup y3 15 0) := ⟨_, rfl⟩
    have hy := zlet_at er0v4 hy
    refine zj_pI (pc' := 30) (N := (zui M 186 r0v4)) dX12_book_27 rfl fpX12_173 sh186 rfl zr_s er0v4 zm_s ?_
    refine zj_aload_n (pc' := 31) 0 dX12_book_30 rfl rfl rfl ?_
    refine zj_iconst (pc' := 32) dX12_book_31 rfl kiconst_0 ?_
    obtain ⟨r0v5, er0v5⟩ : ∃ z, z = (zup r0v4 40 0) := ⟨_, rfl⟩
    have hy := zlet_at er0v5 hy
    refine zj_pI (pc' := 35) (N := (zui M 186 r0v5)) dX12_book_32 rfl fpX12_416 sh186 rfl zr_s er0v5 zm_s ?_
    refine zj_aload_n (pc' := 36) 0 dX12_book_35 rfl rfl rfl ?_
    obtain ⟨y6, hy6, hy⟩ := zt_b hy
    refine zj_V0 (pc' := 39) (z := YX12_next) (As := []) (N := (zui (zul M 186 y6.2) 186 y6.1)) dX12_book_36 rfl mlX12_185 lkX12_next sh186 ⟨_, _, rfl⟩ rfl rfl (Nat.le_of_ble_eq_true rfl) (Nat.le_of_ble_eq_true rfl) (LX12_next_186 Γ _ r0v5 w0 r0_1 zr_s (zq_i e_l186) (zr_n rfl e_i187) hy6) ((zch_i (zm_li rfl) zm_s)).symm ?_
    refine zj_mem (N := (zui (zui (zul M 186 y6.2) 186 y6.1) 190 r0_8)) (zself_i (zr_n rfl (zr_l e_i190)) rfl) ?_
    obtain ⟨r12, hr9, hyo13⟩ := zt_b hy
    obtain ⟨n9, hn9⟩ := zLP_some hr9
    have HE10 : ∀ (r0v25 : Nat → Int32) (w0v26 : Nat → Int64) (r0_8v27 : Nat → Int32), r12 = .inl (r0v25, w0v26, r0_8v27) → zR Γ 8 YX12_book 83 [(0, .ref (zad Γ 186)), (1, .int a1)] [] (zui (zui (zul M 186 w0v26) 186 r0v25) 190 r0_8v27) Q := by
      intro r0v25 w0v26 r0_8v27 e9
      have hy := zsum_l hyo13 e9
      try dsimp only at hy
      refine zj_aload_n (pc' := 84) 0 dX12_book_83 rfl rfl rfl ?_
      obtain ⟨y28, hy28, hy⟩ := zt_b hy
      refine zj_V0 (pc' := 87) (z := YX12_tries) (As := []) (N := (zui (zui (zui (zul M 186 w0v26) 186 r0v25) 190 r0_8v27) 196 y28)) dX12_book_84 rfl mlX12_337 lkX12_tries sh186 ⟨_, _, rfl⟩ rfl rfl (Nat.le_of_ble_eq_true rfl) (Nat.le_of_ble_eq_true rfl) (LX12_tries_186 Γ _ r0_6 r0_23 (zr_n rfl (zr_n rfl (zr_l e_i188))) (zr_n rfl (zr_n rfl (zr_l e_i196))) hy28) (rfl).symm ?_
      refine zj_iconst (pc' := 88) dX12_book_87 rfl kiconst_0 ?_
      refine zj_istore_n (pc' := 89) (L' := [(2, .int 0), (0, .ref (zad Γ 186)), (1, .int a1)]) dX12_book_88 rfl rfl (by decide) rfl ?_
      refine zj_loc [1, 2, 0] rfl ?_
      refine zj_mem (N := (zui (zui (zui (zui (zul M 186 w0v26) 186 r0v25) 190 r0_8v27) 196 y28) 201 r0_41)) (zself_i (zr_n rfl (zr_n rfl (zr_n rfl (zr_l e_i201)))) rfl) ?_
      obtain ⟨r33, hr9, hyo34⟩ := zt_b hy
      obtain ⟨n9, hn9⟩ := zLP_some hr9
      have HE31 : ∀ (r0_41v41 : Nat → Int32), r33 = r0_41v41 → zR Γ 8 YX12_book 107 [(0, .ref (zad Γ 186)), (1, .int a1)] [] (zui (zui (zui (zui (zul M 186 w0v26) 186 r0v25) 190 r0_8v27) 196 y28) 201 r0_41v41) Q := by
        intro r0_41v41 e9
        have hy := hyo34
        try rw [e9] at hy
        try dsimp only at hy
        refine zj_iconst (pc' := 108) dX12_book_107 rfl kiconst_m1 ?_
        refine zj_istore_n (pc' := 109) (L' := [(2, .int (-1)), (0, .ref (zad Γ 186)), (1, .int a1)]) dX12_book_108 rfl rfl (by decide) rfl ?_
        refine zj_iconst (pc' := 110) dX12_book_109 rfl kiconst_0 ?_
        refine zj_istore_n (pc' := 111) (L' := [(3, .int 0), (2, .int (-1)), (0, .ref (zad Γ 186)), (1, .int a1)]) dX12_book_110 rfl rfl (by decide) rfl ?_
        refine zj_loc [2, 3, 1, 0] rfl ?_
        refine zj_mem (N := (zui (zui (zui (zui (zui (zul M 186 w0v26) 186 r0v25) 188 r0_6) 190 r0_8v27) 196 y28) 201 r0_41v41)) (zself_i (zr_n rfl (zr_n rfl (zr_n rfl (zr_n rfl (zr_l e_i188))))) (zm_n rfl (zm_n rfl (zm_n rfl rfl)))) ?_
        refine zj_mem (N := (zui (zui (zui (zui (zui (zui (zul M 186 w0v26) 186 r0v25) 188 r0_6) 190 r0_8v27) 194 r0_21) 196 y28) 201 r0_41v41)) (zself_i (zr_n rfl (zr_n rfl (zr_n rfl (zr_n rfl (zr_n rfl (zr_l e_i194)))))) (zm_n rfl (zm_n rfl rfl))) ?_
        obtain ⟨r49, hr9, hyo50⟩ := zt_b hy
        obtain ⟨n9, hn9⟩ := zLP_some hr9
        have HE47 : ∀ (r0_6v66 : Nat → Int32) (r0_21v67 : Nat → Int32) (r0_41v68 : Nat → Int32) (x69 : Int32), r49 = (r0_6v66, r0_21v67, r0_41v68, x69) → zR Γ 8 YX12_book 201 [(0, .ref (zad Γ 186)), (1, .int a1), (2, .int x69)] [] (zui (zui (zui (zui (zui (zui (zul M 186 w0v26) 186 r0v25) 188 r0_6v66) 190 r0_8v27) 194 r0_21v67) 196 y28) 201 r0_41v68) Q := by
          intro r0_6v66 r0_21v67 r0_41v68 x69 e9
          have hy := hyo50
          try rw [e9] at hy
          try dsimp only at hy
          refine zj_aload_n (pc' := 202) 0 dX12_book_201 rfl rfl rfl ?_
          refine zj_getR (pc' := 205) (j := 201) dX12_book_202 rfl flX12_80 sh186 rfl ?_
          refine zj_iconst (pc' := 206) dX12_book_205 rfl kiconst_2 ?_
          refine zj_aload_n (pc' := 207) 0 dX12_book_206 rfl rfl rfl ?_
          refine zj_getR (pc' := 210) (j := 188) dX12_book_207 rfl flX12_33 sh186 rfl ?_
          refine zj_bipush (pc' := 212) dX12_book_210 rfl kbipush_89 ?_
          refine zj_rdi (pc' := 213) dX12_book_212 rfl sh188 (zr_n rfl (zr_n rfl (zr_n rfl (zr_n rfl zr_s)))) (zrdK zi89_397 tn89) ?_
          obtain ⟨r0_41v70, er0_41v70⟩ : ∃ z, z = (zup r0_41v68 2 (r0_6v66 89)) := ⟨_, rfl⟩
          have hy := zlet_at er0_41v70 hy
          refine zj_wri (pc' := 214) (N := (zui (zui (zui (zui (zui (zui (zul M 186 w0v26) 186 r0v25) 188 r0_6v66) 190 r0_8v27) 194 r0_21v67) 196 y28) 201 r0_41v70)) dX12_book_213 rfl sh201 zr_s (zwrK zi2_4 tn2 er0_41v70) zm_s ?_
          refine zj_aload_n (pc' := 215) 0 dX12_book_214 rfl rfl rfl ?_
          refine zj_getR (pc' := 218) (j := 201) dX12_book_215 rfl flX12_80 sh186 rfl ?_
          refine zj_iconst (pc' := 219) dX12_book_218 rfl kiconst_3 ?_
          refine zj_aload_n (pc' := 220) 0 dX12_book_219 rfl rfl rfl ?_
          obtain ⟨y71, hy71, hy⟩ := zt_b hy
          refine zj_V1 (pc' := 223) (z := YX12_printsInAll) (As := []) (N := (zui (zui (zui (zui (zui (zui (zul M 186 w0v26) 186 r0v25) 188 r0_6v66) 190 r0_8v27) 194 r0_21v67) 196 y28) 201 r0_41v70)) dX12_book_220 rfl mlX12_289 lkX12_printsInAll sh186 ⟨_, _, rfl⟩ rfl rfl (Nat.le_of_ble_eq_true rfl) (Nat.le_of_ble_eq_true rfl) (LX12_printsInAll_186 Γ _ r0_6v66 (zr_n rfl (zr_n rfl (zr_n rfl (zr_n rfl zr_s)))) hy71) rfl ?_
          obtain ⟨r0_41v72, er0_41v72⟩ : ∃ z, z = (zup r0_41v70 3 y71) := ⟨_, rfl⟩
          have hy := zlet_at er0_41v72 hy
          refine zj_wri (pc' := 224) (N := (zui (zui (zui (zui (zui (zui (zul M 186 w0v26) 186 r0v25) 188 r0_6v66) 190 r0_8v27) 194 r0_21v67) 196 y28) 201 r0_41v72)) dX12_book_223 rfl sh201 zr_s (zwrK zi3_4 tn3 er0_41v72) zm_s ?_
          refine zj_aload_n (pc' := 225) 0 dX12_book_224 rfl rfl rfl ?_
          refine zj_iconst (pc' := 226) dX12_book_225 rfl kiconst_1 ?_
          obtain ⟨r0v73, er0v73⟩ : ∃ z, z = (zup r0v25 42 1) := ⟨_, rfl⟩
          have hy := zlet_at er0v73 hy
          refine zj_pZ (pc' := 229) (N := (zui (zui (zui (zui (zui (zui (zul M 186 w0v26) 186 r0v73) 188 r0_6v66) 190 r0_8v27) 194 r0_21v67) 196 y28) 201 r0_41v72)) dX12_book_226 rfl fpX12_426 sh186 rfl (Or.inr rfl) (zr_n rfl (zr_n rfl (zr_n rfl (zr_n rfl (zr_n rfl zr_s))))) er0v73 (zm_n rfl (zm_n rfl (zm_n rfl (zm_n rfl (zm_n rfl zm_s))))) ?_
          refine zj_iload_n (pc' := 230) 1 dX12_book_229 rfl rfl rfl ?_
          refine zj_iconst (pc' := 231) dX12_book_230 rfl kiconst_1 ?_
          refine zj_icmp_ne (tgt := 283) (pc' := 234) dX12_book_231 rfl (by decide) (fun c74 => ?_) (fun c74 => ?_)
          · have hy := zt_f hy c74
            refine zj_iload_n (pc' := 284) 1 dX12_book_283 rfl rfl rfl ?_
            refine zj_if_ne (tgt := 291) (pc' := 287) dX12_book_284 rfl (by decide) (fun c95 => ?_) (fun c95 => ?_)
            · have hy := zt_f hy c95
              refine zj_iload_n (pc' := 292) 2 dX12_book_291 rfl rfl rfl ?_
              have e9 := Option.some.inj hy
              subst e9
              refine zj_mem (N := (zui (zui (zui (zui (zui (zui (zui (zul M 186 w0v26) 186 r0v73) 188 r0_6v66) 190 r0_8v27) 194 r0_21v67) 195 r0_22) 196 y28) 201 r0_41v72)) (zself_i (zr_n rfl (zr_n rfl (zr_n rfl (zr_n rfl (zr_n rfl (zr_n rfl (zr_l e_i195))))))) (zm_n rfl (zm_n rfl rfl))) ?_
              exact zj_iret dX12_book_292 rfl hq
            · have hy := zt_t hy c95
              refine zj_aload_n (pc' := 288) 0 dX12_book_287 rfl rfl rfl ?_
              obtain ⟨y96, hy96, hy⟩ := zt_b hy
              refine zj_V0 (pc' := 291) (z := YX12_back) (As := []) (N := (zui (zui (zui (zui (zui (zui (zul M 186 w0v26) 186 r0v73) 188 y96) 190 r0_8v27) 194 r0_21v67) 196 y28) 201 r0_41v72)) dX12_book_288 rfl mlX12_340 lkX12_back sh186 ⟨_, _, rfl⟩ rfl rfl (Nat.le_of_ble_eq_true rfl) (Nat.le_of_ble_eq_true rfl) (LX12_back_186 Γ _ r0_6v66 y28 (zr_n rfl (zr_n rfl (zr_n rfl (zr_n rfl zr_s)))) (zr_n rfl zr_s) hy96) ((zm_n rfl (zm_n rfl (zm_n rfl (zm_n rfl zm_s))))).symm ?_
              refine zj_iload_n (pc' := 292) 2 dX12_book_291 rfl rfl rfl ?_
              have e9 := Option.some.inj hy
              subst e9
              refine zj_mem (N := (zui (zui (zui (zui (zui (zui (zui (zul M 186 w0v26) 186 r0v73) 188 y96) 190 r0_8v27) 194 r0_21v67) 195 r0_22) 196 y28) 201 r0_41v72)) (zself_i (zr_n rfl (zr_n rfl (zr_n rfl (zr_n rfl (zr_n rfl (zr_n rfl (zr_l e_i195))))))) (zm_n rfl (zm_n rfl rfl))) ?_
              exact zj_iret dX12_book_292 rfl hq
          · have hy := zt_t hy c74
            refine zj_aload_n (pc' := 235) 0 dX12_book_234 rfl rfl rfl ?_
            refine zj_getR (pc' := 238) (j := 201) dX12_book_235 rfl flX12_80 sh186 rfl ?_
            refine zj_iconst (pc' := 239) dX12_book_238 rfl kiconst_1 ?_
            refine zj_rdi (pc' := 240) dX12_book_239 rfl sh201 zr_s (zrdK zi1_4 tn1) ?_
            refine zj_if_le (tgt := 283) (pc' := 243) dX12_book_240 rfl (by decide) (fun c75 => ?_) (fun c75 => ?_)
            · have hy := zt_t hy c75
              refine zj_iload_n (pc' := 284) 1 dX12_book_283 rfl rfl rfl ?_
              refine zj_if_ne (tgt := 291) (pc' := 287) dX12_book_284 rfl (by decide) (fun c76 => ?_) (fun c76 => ?_)
              · have hy := zt_f hy c76
                refine zj_iload_n (pc' := 292) 2 dX12_book_291 rfl rfl rfl ?_
                have e9 := Option.some.inj hy
                subst e9
                refine zj_mem (N := (zui (zui (zui (zui (zui (zui (zui (zul M 186 w0v26) 186 r0v73) 188 r0_6v66) 190 r0_8v27) 194 r0_21v67) 195 r0_22) 196 y28) 201 r0_41v72)) (zself_i (zr_n rfl (zr_n rfl (zr_n rfl (zr_n rfl (zr_n rfl (zr_n rfl (zr_l e_i195))))))) (zm_n rfl (zm_n rfl rfl))) ?_
                exact zj_iret dX12_book_292 rfl hq
              · have hy := zt_t hy c76
                refine zj_aload_n (pc' := 288) 0 dX12_book_287 rfl rfl rfl ?_
                obtain ⟨y77, hy77, hy⟩ := zt_b hy
                refine zj_V0 (pc' := 291) (z := YX12_back) (As := []) (N := (zui (zui (zui (zui (zui (zui (zul M 186 w0v26) 186 r0v73) 188 y77) 190 r0_8v27) 194 r0_21v67) 196 y28) 201 r0_41v72)) dX12_book_288 rfl mlX12_340 lkX12_back sh186 ⟨_, _, rfl⟩ rfl rfl (Nat.le_of_ble_eq_true rfl) (Nat.le_of_ble_eq_true rfl) (LX12_back_186 Γ _ r0_6v66 y28 (zr_n rfl (zr_n rfl (zr_n rfl (zr_n rfl zr_s)))) (zr_n rfl zr_s) hy77) ((zm_n rfl (zm_n rfl (zm_n rfl (zm_n rfl zm_s))))).symm ?_
                refine zj_iload_n (pc' := 292) 2 dX12_book_291 rfl rfl rfl ?_
                have e9 := Option.some.inj hy
                subst e9
                refine zj_mem (N := (zui (zui (zui (zui (zui (zui (zui (zul M 186 w0v26) 186 r0v73) 188 y77) 190 r0_8v27) 194 r0_21v67) 195 r0_22) 196 y28) 201 r0_41v72)) (zself_i (zr_n rfl (zr_n rfl (zr_n rfl (zr_n rfl (zr_n rfl (zr_n rfl (zr_l e_i195))))))) (zm_n rfl (zm_n rfl rfl))) ?_
                exact zj_iret dX12_book_292 rfl hq
            · have hy := zt_f hy c75
              refine zj_aload_n (pc' := 244) 0 dX12_book_243 rfl rfl rfl ?_
              obtain ⟨y78, hy78, hy⟩ := zt_b hy
              refine zj_V0 (pc' := 247) (z := YX12_keep) (As := []) (N := (zui (zui (zui (zui (zui (zui (zui (zul M 186 w0v26) 186 y78.1) 188 r0_6v66) 190 r0_8v27) 194 r0_21v67) 195 y78.2) 196 y28) 201 r0_41v72)) dX12_book_244 rfl mlX12_304 lkX12_keep sh186 ⟨_, _, rfl⟩ rfl rfl (Nat.le_of_ble_eq_true rfl) (Nat.le_of_ble_eq_true rfl) (LX12_keep_186 Γ _ r0v73 r0_6v66 r0_22 (zr_n rfl (zr_n rfl (zr_n rfl (zr_n rfl (zr_n rfl zr_s))))) (zr_n rfl (zr_n rfl (zr_n rfl (zr_n rfl zr_s)))) (zr_n rfl (zr_n rfl (zr_n rfl (zr_n rfl (zr_n rfl (zr_n rfl (zr_l e_i195))))))) hy78) ((zch_i (zm_n rfl (zm_n rfl (zm_n rfl (zm_n rfl (zm_n rfl zm_s))))) (zm_n rfl (zm_n rfl rfl)))).symm ?_
              refine zj_iconst (pc' := 248) dX12_book_247 rfl kiconst_0 ?_
              refine zj_istore_n (pc' := 249) (L' := [(3, .int 0), (0, .ref (zad Γ 186)), (1, .int a1), (2, .int x69)]) dX12_book_248 rfl rfl (by decide) rfl ?_
              refine zj_loc [1, 2, 3, 0] rfl ?_
              obtain ⟨r83, hr9, hyo84⟩ := zt_b hy
              obtain ⟨n9, hn9⟩ := zLP_some hr9
              have HE81 : ∀ (r0_22v92 : Nat → Int32), r83 = r0_22v92 → zR Γ 8 YX12_book 283 [(0, .ref (zad Γ 186)), (1, .int a1), (2, .int x69)] [] (zui (zui (zui (zui (zui (zui (zui (zul M 186 w0v26) 186 y78.1) 188 r0_6v66) 190 r0_8v27) 194 r0_21v67) 195 r0_22v92) 196 y28) 201 r0_41v72) Q := by
                intro r0_22v92 e9
                have hy := hyo84
                try rw [e9] at hy
                try dsimp only at hy
                refine zj_iload_n (pc' := 284) 1 dX12_book_283 rfl rfl rfl ?_
                refine zj_if_ne (tgt := 291) (pc' := 287) dX12_book_284 rfl (by decide) (fun c93 => ?_) (fun c93 => ?_)
                · have hy := zt_f hy c93
                  refine zj_iload_n (pc' := 292) 2 dX12_book_291 rfl rfl rfl ?_
                  have e9 := Option.some.inj hy
                  subst e9
                  exact zj_iret dX12_book_292 rfl hq
                · have hy := zt_t hy c93
                  refine zj_aload_n (pc' := 288) 0 dX12_book_287 rfl rfl rfl ?_
                  obtain ⟨y94, hy94, hy⟩ := zt_b hy
                  refine zj_V0 (pc' := 291) (z := YX12_back) (As := []) (N := (zui (zui (zui (zui (zui (zui (zui (zul M 186 w0v26) 186 y78.1) 188 y94) 190 r0_8v27) 194 r0_21v67) 195 r0_22v92) 196 y28) 201 r0_41v72)) dX12_book_288 rfl mlX12_340 lkX12_back sh186 ⟨_, _, rfl⟩ rfl rfl (Nat.le_of_ble_eq_true rfl) (Nat.le_of_ble_eq_true rfl) (LX12_back_186 Γ _ r0_6v66 y28 (zr_n rfl (zr_n rfl (zr_n rfl (zr_n rfl (zr_n rfl zr_s))))) (zr_n rfl zr_s) hy94) ((zm_n rfl (zm_n rfl (zm_n rfl (zm_n rfl (zm_n rfl zm_s)))))).symm ?_
                  refine zj_iload_n (pc' := 292) 2 dX12_book_291 rfl rfl rfl ?_
                  have e9 := Option.some.inj hy
                  subst e9
                  exact zj_iret dX12_book_292 rfl hq
              have HL82 : ∀ (n : Nat) (r0_22v79 : Nat → Int32) (x80 : Int32), zlp (fun s => fM_book_L249 y28 y78 s.1 s.2) n (r0_22v79, x80) = some r83 → zR Γ 8 YX12_book 249 [(0, .ref (zad Γ 186)), (1, .int a1), (2, .int x69), (3, .int x80)] [] (zui (zui (zui (zui (zui (zui (zui (zul M 186 w0v26) 186 y78.1) 188 r0_6v66) 190 r0_8v27) 194 r0_21v67) 195 r0_22v79) 196 y28) 201 r0_41v72) Q := by
                intro n
                induction n with
                | zero => intro r0_22v79 x80 hn9; cases hn9
                | succ n ih85 =>
                  intro r0_22v79 x80 hn9
                  obtain ⟨o9, hb9, h86, h87⟩ := zlp_step hn9
                  have hy : fM_book_L249 y28 y78 r0_22v79 x80 = some o9 := hb9
                  unfold fM_book_L249 at hy
                  refine zj_iload_n (pc' := 250) 3 dX12_book_249 rfl rfl rfl ?_
                  refine zj_bipush (pc' := 252) dX12_book_250 rfl kbipush_127 ?_
                  refine zj_icmp_ge (tgt := 283) (pc' := 255) dX12_book_252 rfl (by decide) (fun c88 => ?_) (fun c88 => ?_)
                  · have hy := zt_t hy c88
                    have e9 := h87 _ (Option.some.inj hy).symm
                    refine zj_loc [0, 1, 2] rfl ?_
                    exact HE81 _ e9.symm
                  · have hy := zt_f hy c88
                    refine zj_aload_n (pc' := 256) 0 dX12_book_255 rfl rfl rfl ?_
                    refine zj_getR (pc' := 259) (j := 195) dX12_book_256 rfl flX12_56 sh186 rfl ?_
                    refine zj_bipush (pc' := 261) dX12_book_259 rfl kbipush_127 ?_
                    refine zj_aload_n (pc' := 262) 0 dX12_book_261 rfl rfl rfl ?_
                    refine zj_fI (pc' := 265) dX12_book_262 rfl flX12_256 sh186 rfl (zr_n rfl (zr_n rfl (zr_n rfl (zr_n rfl (zr_n rfl (zr_n rfl zr_s)))))) rfl ?_
                    refine zj_iconst (pc' := 266) dX12_book_265 rfl kiconst_1 ?_
                    refine zj_isub (pc' := 267) dX12_book_266 rfl ?_
                    refine zj_imul (pc' := 268) dX12_book_267 rfl ?_
                    refine zj_iload_n (pc' := 269) 3 dX12_book_268 rfl rfl rfl ?_
                    refine zj_iadd (pc' := 270) dX12_book_269 rfl ?_
                    refine zj_aload_n (pc' := 271) 0 dX12_book_270 rfl rfl rfl ?_
                    refine zj_getR (pc' := 274) (j := 196) dX12_book_271 rfl flX12_59 sh186 rfl ?_
                    refine zj_iload_n (pc' := 275) 3 dX12_book_274 rfl rfl rfl ?_
                    obtain ⟨v89, hv89, hy⟩ := zt_b hy
                    refine zj_rdi (pc' := 276) dX12_book_275 rfl sh196 (zr_n rfl zr_s) hv89 ?_
                    obtain ⟨r0_22v90, hr0_22v90, hy⟩ := zt_b hy
                    refine zj_wri (pc' := 277) (N := (zui (zui (zui (zui (zui (zui (zui (zul M 186 w0v26) 186 y78.1) 188 r0_6v66) 190 r0_8v27) 194 r0_21v67) 195 r0_22v90) 196 y28) 201 r0_41v72)) dX12_book_276 rfl sh195 (zr_n rfl (zr_n rfl zr_s)) hr0_22v90 (zm_n rfl (zm_n rfl zm_s)) ?_
                    obtain ⟨x91, ex91⟩ : ∃ z : Int32, z = (x80 + 1) := ⟨_, rfl⟩
                    have hy := zlet_at ex91 hy
                    refine zj_iinc (pc' := 280) 3 (L' := [(3, .int x91), (0, .ref (zad Γ 186)), (1, .int a1), (2, .int x69)]) dX12_book_277 rfl rfl (by decide) (by rw [ci1, ← ex91]; rfl) ?_
                    refine zj_goto (tgt := 249) dX12_book_280 (by decide) ?_
                    have hn9 := h86 _ (Option.some.inj hy).symm
                    refine zj_loc [1, 2, 3, 0] rfl ?_
                    exact ih85 _ _ hn9
              exact HL82 n9 _ _ hn9
        have HL48 : ∀ (n : Nat) (r0_6v42 : Nat → Int32) (r0_21v43 : Nat → Int32) (r0_41v44 : Nat → Int32) (x45 : Int32) (x46 : Int32), zlp (fun s => fM_book_L111 r0_20 r0v25 r0_8v27 s.1 s.2.1 s.2.2.1 s.2.2.2.1 s.2.2.2.2) n (r0_6v42, r0_21v43, r0_41v44, x45, x46) = some r49 → zR Γ 8 YX12_book 111 [(0, .ref (zad Γ 186)), (1, .int a1), (2, .int x45), (3, .int x46)] [] (zui (zui (zui (zui (zui (zui (zul M 186 w0v26) 186 r0v25) 188 r0_6v42) 190 r0_8v27) 194 r0_21v43) 196 y28) 201 r0_41v44) Q := by
          intro n
          induction n with
          | zero => intro r0_6v42 r0_21v43 r0_41v44 x45 x46 hn9; cases hn9
          | succ n ih51 =>
            intro r0_6v42 r0_21v43 r0_41v44 x45 x46 hn9
            obtain ⟨o9, hb9, h52, h53⟩ := zlp_step hn9
            have hy : fM_book_L111 r0_20 r0v25 r0_8v27 r0_6v42 r0_21v43 r0_41v44 x45 x46 = some o9 := hb9
            unfold fM_book_L111 at hy
            refine zj_iload_n (pc' := 112) 3 dX12_book_111 rfl rfl rfl ?_
            refine zj_aload_n (pc' := 113) 0 dX12_book_112 rfl rfl rfl ?_
            refine zj_fI (pc' := 116) dX12_book_113 rfl flX12_416 sh186 rfl (zr_n rfl (zr_n rfl (zr_n rfl (zr_n rfl (zr_n rfl zr_s))))) rfl ?_
            refine zj_icmp_ge (tgt := 201) (pc' := 119) dX12_book_116 rfl (by decide) (fun c54 => ?_) (fun c54 => ?_)
            · have hy := zt_t hy c54
              have e9 := h53 _ (Option.some.inj hy).symm
              refine zj_loc [0, 1, 2] rfl ?_
              exact HE47 _ _ _ _ e9.symm
            · have hy := zt_f hy c54
              refine zj_iload_n (pc' := 120) 2 dX12_book_119 rfl rfl rfl ?_
              refine zj_if_ge (tgt := 201) (pc' := 123) dX12_book_120 rfl (by decide) (fun c55 => ?_) (fun c55 => ?_)
              · have hy := zt_t hy c55
                have e9 := h53 _ (Option.some.inj hy).symm
                refine zj_loc [0, 1, 2] rfl ?_
                exact HE47 _ _ _ _ e9.symm
              · have hy := zt_f hy c55
                refine zj_aload_n (pc' := 124) 0 dX12_book_123 rfl rfl rfl ?_
                refine zj_getR (pc' := 127) (j := 201) dX12_book_124 rfl flX12_80 sh186 rfl ?_
                refine zj_iconst (pc' := 128) dX12_book_127 rfl kiconst_0 ?_
                refine zj_aload_n (pc' := 129) 0 dX12_book_128 rfl rfl rfl ?_
                refine zj_aload_n (pc' := 130) 0 dX12_book_129 rfl rfl rfl ?_
                refine zj_getR (pc' := 133) (j := 190) dX12_book_130 rfl flX12_40 sh186 rfl ?_
                refine zj_iconst (pc' := 134) dX12_book_133 rfl kiconst_4 ?_
                refine zj_iload_n (pc' := 135) 3 dX12_book_134 rfl rfl rfl ?_
                refine zj_imul (pc' := 136) dX12_book_135 rfl ?_
                obtain ⟨v56, hv56, hy⟩ := zt_b hy
                refine zj_rdi (pc' := 137) dX12_book_136 rfl sh190 (zr_n rfl (zr_n rfl (zr_n rfl zr_s))) hv56 ?_
                refine zj_aload_n (pc' := 138) 0 dX12_book_137 rfl rfl rfl ?_
                refine zj_getR (pc' := 141) (j := 190) dX12_book_138 rfl flX12_40 sh186 rfl ?_
                refine zj_iconst (pc' := 142) dX12_book_141 rfl kiconst_4 ?_
                refine zj_iload_n (pc' := 143) 3 dX12_book_142 rfl rfl rfl ?_
                refine zj_imul (pc' := 144) dX12_book_143 rfl ?_
                refine zj_iconst (pc' := 145) dX12_book_144 rfl kiconst_1 ?_
                refine zj_iadd (pc' := 146) dX12_book_145 rfl ?_
                obtain ⟨v57, hv57, hy⟩ := zt_b hy
                refine zj_rdi (pc' := 147) dX12_book_146 rfl sh190 (zr_n rfl (zr_n rfl (zr_n rfl zr_s))) hv57 ?_
                refine zj_aload_n (pc' := 148) 0 dX12_book_147 rfl rfl rfl ?_
                refine zj_getR (pc' := 151) (j := 190) dX12_book_148 rfl flX12_40 sh186 rfl ?_
                refine zj_iconst (pc' := 152) dX12_book_151 rfl kiconst_4 ?_
                refine zj_iload_n (pc' := 153) 3 dX12_book_152 rfl rfl rfl ?_
                refine zj_imul (pc' := 154) dX12_book_153 rfl ?_
                refine zj_iconst (pc' := 155) dX12_book_154 rfl kiconst_2 ?_
                refine zj_iadd (pc' := 156) dX12_book_155 rfl ?_
                obtain ⟨v58, hv58, hy⟩ := zt_b hy
                refine zj_rdi (pc' := 157) dX12_book_156 rfl sh190 (zr_n rfl (zr_n rfl (zr_n rfl zr_s))) hv58 ?_
                refine zj_aload_n (pc' := 158) 0 dX12_book_157 rfl rfl rfl ?_
                refine zj_getR (pc' := 161) (j := 190) dX12_book_158 rfl flX12_40 sh186 rfl ?_
                refine zj_iconst (pc' := 162) dX12_book_161 rfl kiconst_4 ?_
                refine zj_iload_n (pc' := 163) 3 dX12_book_162 rfl rfl rfl ?_
                refine zj_imul (pc' := 164) dX12_book_163 rfl ?_
                refine zj_iconst (pc' := 165) dX12_book_164 rfl kiconst_3 ?_
                refine zj_iadd (pc' := 166) dX12_book_165 rfl ?_
                obtain ⟨v59, hv59, hy⟩ := zt_b hy
                refine zj_rdi (pc' := 167) dX12_book_166 rfl sh190 (zr_n rfl (zr_n rfl (zr_n rfl zr_s))) hv59 ?_
                obtain ⟨y60, hy60, hy⟩ := zt_b hy
                refine zj_V1 (pc' := 170) (z := YX12_does) (As := [.int v56, .int v57, .int v58, .int v59]) (N := (zui (zui (zui (zui (zui (zui (zul M 186 w0v26) 186 r0v25) 188 y60.2.1) 190 r0_8v27) 194 y60.2.2) 196 y28) 201 r0_41v44)) dX12_book_167 rfl mlX12_422 lkX12_does sh186 ⟨_, _, rfl⟩ rfl rfl (Nat.le_of_ble_eq_true rfl) (Nat.le_of_ble_eq_true rfl) (LX12_does_186 Γ _ r0_6v42 r0_20 r0_21v43 (zr_n rfl (zr_n rfl (zr_n rfl (zr_n rfl zr_s)))) (zr_n rfl (zr_n rfl (zr_n rfl (zr_n rfl (zr_n rfl (zr_n rfl (zr_l e_i193))))))) (zr_n rfl (zr_n rfl zr_s)) v56 v57 v58 v59 hy60) ((zch_i (zm_n rfl (zm_n rfl (zm_n rfl (zm_n rfl zm_s)))) (zm_n rfl (zm_n rfl zm_s)))).symm ?_
                obtain ⟨r0_41v61, er0_41v61⟩ : ∃ z, z = (zup r0_41v44 0 y60.1) := ⟨_, rfl⟩
                have hy := zlet_at er0_41v61 hy
                refine zj_wri (pc' := 171) (N := (zui (zui (zui (zui (zui (zui (zul M 186 w0v26) 186 r0v25) 188 y60.2.1) 190 r0_8v27) 194 y60.2.2) 196 y28) 201 r0_41v61)) dX12_book_170 rfl sh201 zr_s (zwrK zi0_4 tn0 er0_41v61) zm_s ?_
                refine zj_aload_n (pc' := 172) 0 dX12_book_171 rfl rfl rfl ?_
                refine zj_getR (pc' := 175) (j := 201) dX12_book_172 rfl flX12_80 sh186 rfl ?_
                refine zj_iconst (pc' := 176) dX12_book_175 rfl kiconst_0 ?_
                refine zj_rdi (pc' := 177) dX12_book_176 rfl sh201 zr_s (zrdK zi0_4 tn0) ?_
                refine zj_if_le (tgt := 185) (pc' := 180) dX12_book_177 rfl (by decide) (fun c62 => ?_) (fun c62 => ?_)
                · have hy := zt_t hy c62
                  refine zj_aload_n (pc' := 186) 0 dX12_book_185 rfl rfl rfl ?_
                  refine zj_getR (pc' := 189) (j := 201) dX12_book_186 rfl flX12_80 sh186 rfl ?_
                  refine zj_iconst (pc' := 190) dX12_book_189 rfl kiconst_1 ?_
                  refine zj_dup2 (pc' := 191) dX12_book_190 rfl rfl rfl ?_
                  refine zj_rdi (pc' := 192) dX12_book_191 rfl sh201 zr_s (zrdK zi1_4 tn1) ?_
                  refine zj_iconst (pc' := 193) dX12_book_192 rfl kiconst_1 ?_
                  refine zj_iadd (pc' := 194) dX12_book_193 rfl ?_
                  obtain ⟨r0_41v63, er0_41v63⟩ : ∃ z, z = (zup r0_41v61 1 ((r0_41v61 1) + 1)) := ⟨_, rfl⟩
                  have hy := zlet_at er0_41v63 hy
                  refine zj_wri (pc' := 195) (N := (zui (zui (zui (zui (zui (zui (zul M 186 w0v26) 186 r0v25) 188 y60.2.1) 190 r0_8v27) 194 y60.2.2) 196 y28) 201 r0_41v63)) dX12_book_194 rfl sh201 zr_s (zwrK zi1_4 tn1 er0_41v63) zm_s ?_
                  obtain ⟨x64, ex64⟩ : ∃ z : Int32, z = (x46 + 1) := ⟨_, rfl⟩
                  have hy := zlet_at ex64 hy
                  refine zj_iinc (pc' := 198) 3 (L' := [(3, .int x64), (0, .ref (zad Γ 186)), (1, .int a1), (2, .int x45)]) dX12_book_195 rfl rfl (by decide) (by rw [ci1, ← ex64]; rfl) ?_
                  refine zj_goto (tgt := 111) dX12_book_198 (by decide) ?_
                  have hn9 := h52 _ (Option.some.inj hy).symm
                  refine zj_loc [1, 2, 3, 0] rfl ?_
                  exact ih51 _ _ _ _ _ hn9
                · have hy := zt_f hy c62
                  refine zj_iload_n (pc' := 181) 3 dX12_book_180 rfl rfl rfl ?_
                  refine zj_istore_n (pc' := 182) (L' := [(2, .int x46), (0, .ref (zad Γ 186)), (1, .int a1), (3, .int x46)]) dX12_book_181 rfl rfl (by decide) rfl ?_
                  refine zj_goto (tgt := 195) dX12_book_182 (by decide) ?_
                  obtain ⟨x65, ex65⟩ : ∃ z : Int32, z = (x46 + 1) := ⟨_, rfl⟩
                  have hy := zlet_at ex65 hy
                  refine zj_iinc (pc' := 198) 3 (L' := [(3, .int x65), (2, .int x46), (0, .ref (zad Γ 186)), (1, .int a1)]) dX12_book_195 rfl rfl (by decide) (by rw [ci1, ← ex65]; rfl) ?_
                  refine zj_goto (tgt := 111) dX12_book_198 (by decide) ?_
                  have hn9 := h52 _ (Option.some.inj hy).symm
                  refine zj_loc [2, 3, 1, 0] rfl ?_
                  exact ih51 _ _ _ _ _ hn9
        exact HL48 n9 _ _ _ _ _ hn9
      have HL32 : ∀ (n : Nat) (r0_41v29 : Nat → Int32) (x30 : Int32), zlp (fun s => fM_book_L89 s.1 s.2) n (r0_41v29, x30) = some r33 → zR Γ 8 YX12_book 89 [(0, .ref (zad Γ 186)), (1, .int a1), (2, .int x30)] [] (zui (zui (zui (zui (zul M 186 w0v26) 186 r0v25) 190 r0_8v27) 196 y28) 201 r0_41v29) Q := by
        intro n
        induction n with
        | zero => intro r0_41v29 x30 hn9; cases hn9
        | succ n ih35 =>
          intro r0_41v29 x30 hn9
          obtain ⟨o9, hb9, h36, h37⟩ := zlp_step hn9
          have hy : fM_book_L89 r0_41v29 x30 = some o9 := hb9
          unfold fM_book_L89 at hy
          refine zj_iload_n (pc' := 90) 2 dX12_book_89 rfl rfl rfl ?_
          refine zj_iconst (pc' := 91) dX12_book_90 rfl kiconst_4 ?_
          refine zj_icmp_ge (tgt := 107) (pc' := 94) dX12_book_91 rfl (by decide) (fun c38 => ?_) (fun c38 => ?_)
          · have hy := zt_t hy c38
            have e9 := h37 _ (Option.some.inj hy).symm
            refine zj_loc [0, 1] rfl ?_
            exact HE31 _ e9.symm
          · have hy := zt_f hy c38
            refine zj_aload_n (pc' := 95) 0 dX12_book_94 rfl rfl rfl ?_
            refine zj_getR (pc' := 98) (j := 201) dX12_book_95 rfl flX12_80 sh186 rfl ?_
            refine zj_iload_n (pc' := 99) 2 dX12_book_98 rfl rfl rfl ?_
            refine zj_iconst (pc' := 100) dX12_book_99 rfl kiconst_0 ?_
            obtain ⟨r0_41v39, hr0_41v39, hy⟩ := zt_b hy
            refine zj_wri (pc' := 101) (N := (zui (zui (zui (zui (zul M 186 w0v26) 186 r0v25) 190 r0_8v27) 196 y28) 201 r0_41v39)) dX12_book_100 rfl sh201 zr_s hr0_41v39 zm_s ?_
            obtain ⟨x40, ex40⟩ : ∃ z : Int32, z = (x30 + 1) := ⟨_, rfl⟩
            have hy := zlet_at ex40 hy
            refine zj_iinc (pc' := 104) 2 (L' := [(2, .int x40), (0, .ref (zad Γ 186)), (1, .int a1)]) dX12_book_101 rfl rfl (by decide) (by rw [ci1, ← ex40]; rfl) ?_
            refine zj_goto (tgt := 89) dX12_book_104 (by decide) ?_
            have hn9 := h36 _ (Option.some.inj hy).symm
            refine zj_loc [1, 2, 0] rfl ?_
            exact ih35 _ _ hn9
      exact HL32 n9 _ _ hn9
    have HL11 : ∀ (n : Nat) (r0v7 : Nat → Int32) (w0v8 : Nat → Int64) (r0_8v9 : Nat → Int32), zlp (fun s => fM_book_L39 r0_1 r0_6 w0_9 w0_10 r0_21 r0_22 r0_23 r0_41 s.1 s.2.1 s.2.2) n (r0v7, w0v8, r0_8v9) = some r12 → zR Γ 8 YX12_book 39 [(0, .ref (zad Γ 186)), (1, .int a1)] [] (zui (zui (zul M 186 w0v8) 186 r0v7) 190 r0_8v9) Q := by
      intro n
      induction n with
      | zero => intro r0v7 w0v8 r0_8v9 hn9; cases hn9
      | succ n ih14 =>
        intro r0v7 w0v8 r0_8v9 hn9
        obtain ⟨o9, hb9, h15, h16⟩ := zlp_step hn9
        have hy : fM_book_L39 r0_1 r0_6 w0_9 w0_10 r0_21 r0_22 r0_23 r0_41 r0v7 w0v8 r0_8v9 = some o9 := hb9
        unfold fM_book_L39 at hy
        refine zj_aload_n (pc' := 40) 0 dX12_book_39 rfl rfl rfl ?_
        refine zj_fI (pc' := 43) dX12_book_40 rfl flX12_156 sh186 rfl (zr_n rfl zr_s) rfl ?_
        refine zj_if_eq (tgt := 83) (pc' := 46) dX12_book_43 rfl (by decide) (fun c17 => ?_) (fun c17 => ?_)
        · have hy := zt_t hy c17
          have e9 := h16 _ (Option.some.inj hy).symm
          exact HE10 _ _ _ e9.symm
        · have hy := zt_f hy c17
          refine zj_aload_n (pc' := 47) 0 dX12_book_46 rfl rfl rfl ?_
          obtain ⟨y18, hy18, hy⟩ := zt_b hy
          refine zj_V1 (pc' := 50) (z := YX12_bookLine) (As := []) (N := (zui (zui (zul M 186 y18.2.2.1) 186 y18.2.1) 190 y18.2.2.2)) dX12_book_47 rfl mlX12_419 lkX12_bookLine sh186 ⟨_, _, rfl⟩ rfl rfl (Nat.le_of_ble_eq_true rfl) (Nat.le_of_ble_eq_true rfl) (LX12_bookLine_186 Γ _ r0v7 w0v8 r0_1 r0_6 r0_8v9 w0_9 w0_10 (zr_n rfl zr_s) (zq_i (zq_i zq_s)) (zr_n rfl (zr_n rfl (zr_l e_i187))) (zr_n rfl (zr_n rfl (zr_l e_i188))) zr_s (zq_i (zq_i (zq_n rfl e_l191))) (zq_i (zq_i (zq_n rfl e_l192))) hy18) ((zch_i (zch_i (zm_li (zm_li zn_s)) (zm_n rfl zm_s)) zm_s)).symm ?_
          refine zj_bif_eq (tgt := 62) (pc' := 53) dX12_book_50 rfl (by decide) (fun c19 => ?_) (fun c19 => ?_)
          · have hy := zt_f hy c19
            refine zj_bipush (pc' := 64) dX12_book_62 rfl kbipush_m2 ?_
            refine zj_aload_n (pc' := 65) 0 dX12_book_64 rfl rfl rfl ?_
            refine zj_fI (pc' := 68) dX12_book_65 rfl flX12_176 sh186 rfl (zr_n rfl zr_s) rfl ?_
            refine zj_isub (pc' := 69) dX12_book_68 rfl ?_
            have e9 := h16 _ (Option.some.inj hy).symm
            have hz24 := zsum_r hyo13 e9.symm
            have e9 := Option.some.inj hz24
            subst e9
            refine zj_mem (N := (zui (zui (zui (zul M 186 y18.2.2.1) 186 y18.2.1) 188 r0_6) 190 y18.2.2.2)) (zself_i (zr_n rfl (zr_n rfl (zr_l e_i188))) (zm_n rfl rfl)) ?_
            refine zj_mem (N := (zui (zui (zui (zui (zul M 186 y18.2.2.1) 186 y18.2.1) 188 r0_6) 190 y18.2.2.2) 194 r0_21)) (zself_i (zr_n rfl (zr_n rfl (zr_n rfl (zr_l e_i194)))) rfl) ?_
            refine zj_mem (N := (zui (zui (zui (zui (zui (zul M 186 y18.2.2.1) 186 y18.2.1) 188 r0_6) 190 y18.2.2.2) 194 r0_21) 195 r0_22)) (zself_i (zr_n rfl (zr_n rfl (zr_n rfl (zr_n rfl (zr_l e_i195))))) rfl) ?_
            refine zj_mem (N := (zui (zui (zui (zui (zui (zui (zul M 186 y18.2.2.1) 186 y18.2.1) 188 r0_6) 190 y18.2.2.2) 194 r0_21) 195 r0_22) 196 r0_23)) (zself_i (zr_n rfl (zr_n rfl (zr_n rfl (zr_n rfl (zr_n rfl (zr_l e_i196)))))) rfl) ?_
            refine zj_mem (N := (zui (zui (zui (zui (zui (zui (zui (zul M 186 y18.2.2.1) 186 y18.2.1) 188 r0_6) 190 y18.2.2.2) 194 r0_21) 195 r0_22) 196 r0_23) 201 r0_41)) (zself_i (zr_n rfl (zr_n rfl (zr_n rfl (zr_n rfl (zr_n rfl (zr_n rfl (zr_l e_i201))))))) rfl) ?_
            exact zj_iret dX12_book_69 rfl hq
          · have hy := zt_t hy c19
            refine zj_aload_n (pc' := 54) 0 dX12_book_53 rfl rfl rfl ?_
            refine zj_bipush (pc' := 56) dX12_book_54 rfl kbipush_59 ?_
            obtain ⟨y20, hy20, hy⟩ := zt_b hy
            refine zj_V1 (pc' := 59) (z := YX12_sign) (As := [.int 59]) (N := (zui (zui (zul M 186 y20.2.2) 186 y20.2.1) 190 y18.2.2.2)) dX12_book_56 rfl mlX12_250 lkX12_sign sh186 ⟨_, _, rfl⟩ rfl rfl (Nat.le_of_ble_eq_true rfl) (Nat.le_of_ble_eq_true rfl) (LX12_sign_186 Γ _ y18.2.1 y18.2.2.1 r0_1 (zr_n rfl zr_s) (zq_i (zq_i zq_s)) (zr_n rfl (zr_n rfl (zr_l e_i187))) 59 hy20) ((zch_i (zm_li (zm_li zn_s)) (zm_n rfl zm_s))).symm ?_
            refine zj_bif_ne (tgt := 70) (pc' := 62) dX12_book_59 rfl (by decide) (fun c21 => ?_) (fun c21 => ?_)
            · have hy := zt_t hy c21
              refine zj_aload_n (pc' := 71) 0 dX12_book_70 rfl rfl rfl ?_
              refine zj_dup (pc' := 72) dX12_book_71 rfl rfl ?_
              refine zj_fI (pc' := 75) dX12_book_72 rfl flX12_416 sh186 rfl (zr_n rfl zr_s) rfl ?_
              refine zj_iconst (pc' := 76) dX12_book_75 rfl kiconst_1 ?_
              refine zj_iadd (pc' := 77) dX12_book_76 rfl ?_
              obtain ⟨r0v22, er0v22⟩ : ∃ z, z = (zup y20.2.1 40 ((y20.2.1 40) + 1)) := ⟨_, rfl⟩
              have hy := zlet_at er0v22 hy
              refine zj_pI (pc' := 80) (N := (zui (zui (zul M 186 y20.2.2) 186 r0v22) 190 y18.2.2.2)) dX12_book_77 rfl fpX12_416 sh186 rfl (zr_n rfl zr_s) er0v22 (zm_n rfl zm_s) ?_
              refine zj_goto (tgt := 39) dX12_book_80 (by decide) ?_
              have hn9 := h15 _ (Option.some.inj hy).symm
              exact ih14 _ _ _ hn9
            · have hy := zt_f hy c21
              refine zj_bipush (pc' := 64) dX12_book_62 rfl kbipush_m2 ?_
              refine zj_aload_n (pc' := 65) 0 dX12_book_64 rfl rfl rfl ?_
              refine zj_fI (pc' := 68) dX12_book_65 rfl flX12_176 sh186 rfl (zr_n rfl zr_s) rfl ?_
              refine zj_isub (pc' := 69) dX12_book_68 rfl ?_
              have e9 := h16 _ (Option.some.inj hy).symm
              have hz23 := zsum_r hyo13 e9.symm
              have e9 := Option.some.inj hz23
              subst e9
              refine zj_mem (N := (zui (zui (zui (zul M 186 y20.2.2) 186 y20.2.1) 188 r0_6) 190 y18.2.2.2)) (zself_i (zr_n rfl (zr_n rfl (zr_l e_i188))) (zm_n rfl rfl)) ?_
              refine zj_mem (N := (zui (zui (zui (zui (zul M 186 y20.2.2) 186 y20.2.1) 188 r0_6) 190 y18.2.2.2) 194 r0_21)) (zself_i (zr_n rfl (zr_n rfl (zr_n rfl (zr_l e_i194)))) rfl) ?_
              refine zj_mem (N := (zui (zui (zui (zui (zui (zul M 186 y20.2.2) 186 y20.2.1) 188 r0_6) 190 y18.2.2.2) 194 r0_21) 195 r0_22)) (zself_i (zr_n rfl (zr_n rfl (zr_n rfl (zr_n rfl (zr_l e_i195))))) rfl) ?_
              refine zj_mem (N := (zui (zui (zui (zui (zui (zui (zul M 186 y20.2.2) 186 y20.2.1) 188 r0_6) 190 y18.2.2.2) 194 r0_21) 195 r0_22) 196 r0_23)) (zself_i (zr_n rfl (zr_n rfl (zr_n rfl (zr_n rfl (zr_n rfl (zr_l e_i196)))))) rfl) ?_
              refine zj_mem (N := (zui (zui (zui (zui (zui (zui (zui (zul M 186 y20.2.2) 186 y20.2.1) 188 r0_6) 190 y18.2.2.2) 194 r0_21) 195 r0_22) 196 r0_23) 201 r0_41)) (zself_i (zr_n rfl (zr_n rfl (zr_n rfl (zr_n rfl (zr_n rfl (zr_n rfl (zr_l e_i201))))))) rfl) ?_
              exact zj_iret dX12_book_69 rfl hq
    exact HL11 n9 _ _ _ hn9
  · have hy := zt_f hy c2
    refine zj_sipush (pc' := 17) dX12_book_14 rfl ksipush_m1000 ?_
    have e9 := Option.some.inj hy
    subst e9
    refine zj_mem (N := (zui (zul M 186 w0) 186 r0v1)) (zself_l (zq_i e_l186) (zm_li rfl)) ?_
    refine zj_mem (N := (zui (zui (zul M 186 w0) 186 r0v1) 188 r0_6)) (zself_i (zr_n rfl (zr_l e_i188)) rfl) ?_
    refine zj_mem (N := (zui (zui (zui (zul M 186 w0) 186 r0v1) 188 r0_6) 190 r0_8)) (zself_i (zr_n rfl (zr_n rfl (zr_l e_i190))) rfl) ?_
    refine zj_mem (N := (zui (zui (zui (zui (zul M 186 w0) 186 r0v1) 188 r0_6) 190 r0_8) 194 r0_21)) (zself_i (zr_n rfl (zr_n rfl (zr_n rfl (zr_l e_i194)))) rfl) ?_
    refine zj_mem (N := (zui (zui (zui (zui (zui (zul M 186 w0) 186 r0v1) 188 r0_6) 190 r0_8) 194 r0_21) 195 r0_22)) (zself_i (zr_n rfl (zr_n rfl (zr_n rfl (zr_n rfl (zr_l e_i195))))) rfl) ?_
    refine zj_mem (N := (zui (zui (zui (zui (zui (zui (zul M 186 w0) 186 r0v1) 188 r0_6) 190 r0_8) 194 r0_21) 195 r0_22) 196 r0_23)) (zself_i (zr_n rfl (zr_n rfl (zr_n rfl (zr_n rfl (zr_n rfl (zr_l e_i196)))))) rfl) ?_
    refine zj_mem (N := (zui (zui (zui (zui (zui (zui (zui (zul M 186 w0) 186 r0v1) 188 r0_6) 190 r0_8) 194 r0_21) 195 r0_22) 196 r0_23) 201 r0_41)) (zself_i (zr_n rfl (zr_n rfl (zr_n rfl (zr_n rfl (zr_n rfl (zr_n rfl (zr_l e_i201))))))) rfl) ?_
    exact zj_iret dX12_book_17 rfl hq
set_option maxRecDepth 20000 in
theorem LX12_book_186 (Γ : zG) (M : zM) (r0 : Nat → Int32) (w0 : Nat → Int64) (r0_1 : Nat → Int32) (r0_6 : Nat → Int32) (r0_8 : Nat → Int32) (w0_9 : Nat → Int64) (w0_10 : Nat → Int64) (r0_20 : Nat → Int32) (r0_21 : Nat → Int32) (r0_22 : Nat → Int32) (r0_23 : Nat → Int32) (r0_41 : Nat → Int32) (e_i186 : M.1 186 = r0) (e_l186 : M.2 186 = w0) (e_i187 : M.1 187 = r0_1) (e_i188 : M.1 188 = r0_6) (e_i190 : M.1 190 = r0_8) (e_l191 : M.2 191 = w0_9) (e_l192 : M.2 192 = w0_10) (e_i193 : M.1 193 = r0_20) (e_i194 : M.1 194 = r0_21) (e_i195 : M.1 195 = r0_22) (e_i196 : M.1 196 = r0_23) (e_i201 : M.1 201 = r0_41) (a1 : Int32) {res : Int32 × (Nat → Int32) × (Nat → Int64) × (Nat → Int32) × (Nat → Int32) × (Nat → Int32) × (Nat → Int32) × (Nat → Int32) × (Nat → Int32)} (hy : (fM_book r0 w0 r0_1 r0_6 r0_8 w0_9 w0_10 r0_20 r0_21 r0_22 r0_23 r0_41 a1) = some res) : zK Γ 8 YX12_book [.ref (zad Γ 186), .int a1] M (fun v N => v = some (.int res.1) ∧ N = (zui (zui (zui (zui (zui (zui (zui (zul M 186 res.2.2.1) 186 res.2.1) 188 res.2.2.2.1) 190 res.2.2.2.2.1) 194 res.2.2.2.2.2.1) 195 res.2.2.2.2.2.2.1) 196 res.2.2.2.2.2.2.2.1) 201 res.2.2.2.2.2.2.2.2)) :=
  zK_of (by decide) (Nat.le_of_ble_eq_true rfl) (TX12_book_186 Γ M r0 w0 r0_1 r0_6 r0_8 w0_9 w0_10 r0_20 r0_21 r0_22 r0_23 r0_41 e_i186 e_l186 e_i187 e_i188 e_i190 e_l191 e_l192 e_i193 e_i194 e_i195 e_i196 e_i201 a1 hy ⟨rfl, rfl⟩)

noncomputable def fBk_toldOf (r0 : Nat → Int32) (a1 : Int32) : Int32 :=
  (if (r0 5) = 0 then
  (-1)
  else
  (if a1 = 0 then
  (r0 6)
  else
  (if a1 = 1 then
  (r0 7)
  else
  (if a1 = 2 then
  (r0 8)
  else
  (if a1 = 3 then
  (r0 9)
  else
  (-1))))))

set_option maxRecDepth 20000 in
theorem TX0_toldOf_174 (Γ : zG) {Q : Option Value → zM → Prop} (M : zM) (r0 : Nat → Int32) (e_i174 : M.1 174 = r0) (a1 : Int32) {res : Int32} (hy : (fBk_toldOf r0 a1) = res) (hq : Q (some (.int res)) M) : zR Γ 1 YX0_toldOf 0 [(0, .ref (zad Γ 174)), (1, .int a1)] [] M Q := by
  unfold fBk_toldOf at hy
  refine zj_aload_n (pc' := 1) 0 dX0_toldOf_0 rfl rfl rfl ?_
  refine zj_fI (pc' := 4) dX0_toldOf_1 rfl flX0_28 sh174 rfl e_i174 rfl ?_
  refine zj_if_ne (tgt := 9) (pc' := 7) dX0_toldOf_4 rfl (by decide) (fun c1 => ?_) (fun c1 => ?_)
  · have hy := zt_f hy c1
    refine zj_iload_n (pc' := 10) 1 dX0_toldOf_9 rfl rfl rfl ?_
    rcases Decidable.em (a1 = 0) with c2 | c2
    · have hy := zt_t hy c2
      refine zj_tsIn (tgt := 40) (v := 0) dX0_toldOf_10 c2 (by decide) (by decide) (off := 30) (by decide) (by decide) ?_
      refine zj_aload_n (pc' := 41) 0 dX0_toldOf_40 rfl rfl rfl ?_
      refine zj_fI (pc' := 44) dX0_toldOf_41 rfl flX0_32 sh174 rfl e_i174 rfl ?_
      subst hy
      exact zj_iret dX0_toldOf_44 rfl hq
    · have hy := zt_f hy c2
      rcases Decidable.em (a1 = 1) with c3 | c3
      · have hy := zt_t hy c3
        refine zj_tsIn (tgt := 45) (v := 1) dX0_toldOf_10 c3 (by decide) (by decide) (off := 35) (by decide) (by decide) ?_
        refine zj_aload_n (pc' := 46) 0 dX0_toldOf_45 rfl rfl rfl ?_
        refine zj_fI (pc' := 49) dX0_toldOf_46 rfl flX0_24 sh174 rfl e_i174 rfl ?_
        subst hy
        exact zj_iret dX0_toldOf_49 rfl hq
      · have hy := zt_f hy c3
        rcases Decidable.em (a1 = 2) with c4 | c4
        · have hy := zt_t hy c4
          refine zj_tsIn (tgt := 50) (v := 2) dX0_toldOf_10 c4 (by decide) (by decide) (off := 40) (by decide) (by decide) ?_
          refine zj_aload_n (pc' := 51) 0 dX0_toldOf_50 rfl rfl rfl ?_
          refine zj_fI (pc' := 54) dX0_toldOf_51 rfl flX0_35 sh174 rfl e_i174 rfl ?_
          subst hy
          exact zj_iret dX0_toldOf_54 rfl hq
        · have hy := zt_f hy c4
          rcases Decidable.em (a1 = 3) with c5 | c5
          · have hy := zt_t hy c5
            refine zj_tsIn (tgt := 55) (v := 3) dX0_toldOf_10 c5 (by decide) (by decide) (off := 45) (by decide) (by decide) ?_
            refine zj_aload_n (pc' := 56) 0 dX0_toldOf_55 rfl rfl rfl ?_
            refine zj_fI (pc' := 59) dX0_toldOf_56 rfl flX0_38 sh174 rfl e_i174 rfl ?_
            subst hy
            exact zj_iret dX0_toldOf_59 rfl hq
          · have hy := zt_f hy c5
            refine zj_tsOut (tgt := 60) dX0_toldOf_10 (by have q0 := zne (k := 0) c2 (by decide); have q1 := zne (k := 1) c3 (by decide); have q2 := zne (k := 2) c4 (by decide); have q3 := zne (k := 3) c5 (by decide); omega) (by decide) ?_
            refine zj_iconst (pc' := 61) dX0_toldOf_60 rfl kiconst_m1 ?_
            subst hy
            exact zj_iret dX0_toldOf_61 rfl hq
  · have hy := zt_t hy c1
    refine zj_iconst (pc' := 8) dX0_toldOf_7 rfl kiconst_m1 ?_
    subst hy
    exact zj_iret dX0_toldOf_8 rfl hq
set_option maxRecDepth 20000 in
theorem LX0_toldOf_174 (Γ : zG) (M : zM) (r0 : Nat → Int32) (e_i174 : M.1 174 = r0) (a1 : Int32) {res : Int32} (hy : (fBk_toldOf r0 a1) = res) : zK Γ 1 YX0_toldOf [.ref (zad Γ 174), .int a1] M (fun v N => v = some (.int res) ∧ N = M) :=
  zK_of (by decide) (Nat.le_of_ble_eq_true rfl) (TX0_toldOf_174 Γ M r0 e_i174 a1 hy ⟨rfl, rfl⟩)

noncomputable def fX_told (r0_10 : Nat → Int32) (a1 : Int32) : Int32 :=
  (fBk_toldOf r0_10 a1)

set_option maxRecDepth 20000 in
theorem TX11_told_0 (Γ : zG) {Q : Option Value → zM → Prop} (M : zM) (r0_10 : Nat → Int32) (e_i174 : M.1 174 = r0_10) (a1 : Int32) {res : Int32} (hy : (fX_told r0_10 a1) = res) (hq : Q (some (.int res)) M) : zR Γ 2 YX11_told 0 [(0, .ref (zad Γ 0)), (1, .int a1)] [] M Q := by
  unfold fX_told at hy
  refine zj_aload_n (pc' := 1) 0 dX11_told_0 rfl rfl rfl ?_
  refine zj_getR (pc' := 4) (j := 174) dX11_told_1 rfl flX11_71 sh0 rfl ?_
  refine zj_iload_n (pc' := 5) 1 dX11_told_4 rfl rfl rfl ?_
  refine zj_V1 (pc' := 8) (z := YX0_toldOf) (As := [.int a1]) (N := M) dX11_told_5 rfl mlX11_359 lkX0_toldOf sh174 ⟨_, _, rfl⟩ rfl rfl (Nat.le_of_ble_eq_true rfl) (Nat.le_of_ble_eq_true rfl) (LX0_toldOf_174 Γ _ r0_10 e_i174 a1 rfl) rfl ?_
  subst hy
  exact zj_iret dX11_told_8 rfl hq
set_option maxRecDepth 20000 in
theorem LX11_told_0 (Γ : zG) (M : zM) (r0_10 : Nat → Int32) (e_i174 : M.1 174 = r0_10) (a1 : Int32) {res : Int32} (hy : (fX_told r0_10 a1) = res) : zK Γ 2 YX11_told [.ref (zad Γ 0), .int a1] M (fun v N => v = some (.int res) ∧ N = M) :=
  zK_of (by decide) (Nat.le_of_ble_eq_true rfl) (TX11_told_0 Γ M r0_10 e_i174 a1 hy ⟨rfl, rfl⟩)

noncomputable def fM_told (r0 : Nat → Int32) (r0_41 : Nat → Int32) (a1 : Int32) : Option (Int32 × (Nat → Int32)) :=
  zlet (zup r0 0 0) (fun (r0v1 : Nat → Int32) =>
  (if (r0v1 42) = 0 then
  some ((-1), r0v1)
  else
  (if (fM_isIn a1 0 3) = true then
  (zrd r0_41 4 a1).bind (fun (v4 : Int32) =>
  some (v4, r0v1))
  else
  some ((-1), r0v1))))

set_option maxRecDepth 20000 in
theorem TX12_told_186 (Γ : zG) {Q : Option Value → zM → Prop} (M : zM) (r0 : Nat → Int32) (r0_41 : Nat → Int32) (e_i186 : M.1 186 = r0) (e_i201 : M.1 201 = r0_41) (a1 : Int32) {res : Int32 × (Nat → Int32)} (hy : (fM_told r0 r0_41 a1) = some res) (hq : Q (some (.int res.1)) (zui M 186 res.2)) : zR Γ 2 YX12_told 0 [(0, .ref (zad Γ 186)), (1, .int a1)] [] M Q := by
  unfold fM_told at hy
  refine zj_aload_n (pc' := 1) 0 dX12_told_0 rfl rfl rfl ?_
  refine zj_iconst (pc' := 2) dX12_told_1 rfl kiconst_0 ?_
  obtain ⟨r0v1, er0v1⟩ : ∃ z, z = (zup r0 0 0) := ⟨_, rfl⟩
  have hy := zlet_at er0v1 hy
  refine zj_pI (pc' := 5) (N := (zui M 186 r0v1)) dX12_told_2 rfl fpX12_1 sh186 rfl e_i186 er0v1 rfl ?_
  refine zj_aload_n (pc' := 6) 0 dX12_told_5 rfl rfl rfl ?_
  refine zj_fI (pc' := 9) dX12_told_6 rfl flX12_426 sh186 rfl zr_s rfl ?_
  refine zj_if_eq (tgt := 30) (pc' := 12) dX12_told_9 rfl (by decide) (fun c2 => ?_) (fun c2 => ?_)
  · have hy := zt_t hy c2
    refine zj_iconst (pc' := 31) dX12_told_30 rfl kiconst_m1 ?_
    have e9 := Option.some.inj hy
    subst e9
    exact zj_iret dX12_told_31 rfl hq
  · have hy := zt_f hy c2
    refine zj_iload_n (pc' := 13) 1 dX12_told_12 rfl rfl rfl ?_
    refine zj_iconst (pc' := 14) dX12_told_13 rfl kiconst_0 ?_
    refine zj_iconst (pc' := 15) dX12_told_14 rfl kiconst_3 ?_
    refine zj_S1 (pc' := 18) (z := YX12_isIn) (As := [.int a1, .int 0, .int 3]) (N := (zui M 186 r0v1)) dX12_told_15 rfl mlX12_188 lkX12_isIn rfl rfl (Nat.le_of_ble_eq_true rfl) (Nat.le_of_ble_eq_true rfl) (LX12_isIn Γ _ a1 0 3 rfl) rfl ?_
    refine zj_bif_eq (tgt := 30) (pc' := 21) dX12_told_18 rfl (by decide) (fun c3 => ?_) (fun c3 => ?_)
    · have hy := zt_f hy c3
      refine zj_iconst (pc' := 31) dX12_told_30 rfl kiconst_m1 ?_
      have e9 := Option.some.inj hy
      subst e9
      exact zj_iret dX12_told_31 rfl hq
    · have hy := zt_t hy c3
      refine zj_aload_n (pc' := 22) 0 dX12_told_21 rfl rfl rfl ?_
      refine zj_getR (pc' := 25) (j := 201) dX12_told_22 rfl flX12_80 sh186 rfl ?_
      refine zj_iload_n (pc' := 26) 1 dX12_told_25 rfl rfl rfl ?_
      obtain ⟨v4, hv4, hy⟩ := zt_b hy
      refine zj_rdi (pc' := 27) dX12_told_26 rfl sh201 (zr_n rfl e_i201) hv4 ?_
      refine zj_goto (tgt := 31) dX12_told_27 (by decide) ?_
      have e9 := Option.some.inj hy
      subst e9
      exact zj_iret dX12_told_31 rfl hq
set_option maxRecDepth 20000 in
theorem LX12_told_186 (Γ : zG) (M : zM) (r0 : Nat → Int32) (r0_41 : Nat → Int32) (e_i186 : M.1 186 = r0) (e_i201 : M.1 201 = r0_41) (a1 : Int32) {res : Int32 × (Nat → Int32)} (hy : (fM_told r0 r0_41 a1) = some res) : zK Γ 2 YX12_told [.ref (zad Γ 186), .int a1] M (fun v N => v = some (.int res.1) ∧ N = (zui M 186 res.2)) :=
  zK_of (by decide) (Nat.le_of_ble_eq_true rfl) (TX12_told_186 Γ M r0 r0_41 e_i186 e_i201 a1 hy ⟨rfl, rfl⟩)


set_option maxRecDepth 20000 in
theorem TX9_clear_41 (Γ : zG) {Q : Option Value → zM → Prop} (M : zM) (r0 : Nat → Int32) (e_i41 : M.1 41 = r0)  {res : (Nat → Int32)} (hy : (fSn_clear r0) = some res) (hq : Q none (zui M 41 res)) : zR Γ 1 YX9_clear 0 [(0, .ref (zad Γ 41))] [] M Q := by
  unfold fSn_clear at hy
  refine zj_aload_n (pc' := 1) 0 dX9_clear_0 rfl rfl rfl ?_
  refine zj_iconst (pc' := 2) dX9_clear_1 rfl kiconst_0 ?_
  obtain ⟨r0v1, er0v1⟩ : ∃ z, z = (zup r0 5 0) := ⟨_, rfl⟩
  have hy := zlet_at er0v1 hy
  refine zj_pI (pc' := 5) (N := (zui M 41 r0v1)) dX9_clear_2 rfl fpX9_35 sh41 rfl e_i41 er0v1 rfl ?_
  refine zj_aload_n (pc' := 6) 0 dX9_clear_5 rfl rfl rfl ?_
  refine zj_iconst (pc' := 7) dX9_clear_6 rfl kiconst_0 ?_
  obtain ⟨r0v2, er0v2⟩ : ∃ z, z = (zup r0v1 6 0) := ⟨_, rfl⟩
  have hy := zlet_at er0v2 hy
  refine zj_pI (pc' := 10) (N := (zui M 41 r0v2)) dX9_clear_7 rfl fpX9_38 sh41 rfl zr_s er0v2 zm_s ?_
  refine zj_aload_n (pc' := 11) 0 dX9_clear_10 rfl rfl rfl ?_
  refine zj_iconst (pc' := 12) dX9_clear_11 rfl kiconst_0 ?_
  obtain ⟨r0v3, er0v3⟩ : ∃ z, z = (zup r0v2 7 0) := ⟨_, rfl⟩
  have hy := zlet_at er0v3 hy
  refine zj_pI (pc' := 15) (N := (zui M 41 r0v3)) dX9_clear_12 rfl fpX9_41 sh41 rfl zr_s er0v3 zm_s ?_
  refine zj_aload_n (pc' := 16) 0 dX9_clear_15 rfl rfl rfl ?_
  refine zj_iconst (pc' := 17) dX9_clear_16 rfl kiconst_0 ?_
  obtain ⟨r0v4, er0v4⟩ : ∃ z, z = (zup r0v3 8 0) := ⟨_, rfl⟩
  have hy := zlet_at er0v4 hy
  refine zj_pI (pc' := 20) (N := (zui M 41 r0v4)) dX9_clear_17 rfl fpX9_31 sh41 rfl zr_s er0v4 zm_s ?_
  refine zj_aload_n (pc' := 21) 0 dX9_clear_20 rfl rfl rfl ?_
  refine zj_iconst (pc' := 22) dX9_clear_21 rfl kiconst_0 ?_
  obtain ⟨r0v5, er0v5⟩ : ∃ z, z = (zup r0v4 10 0) := ⟨_, rfl⟩
  have hy := zlet_at er0v5 hy
  refine zj_pZ (pc' := 25) (N := (zui M 41 r0v5)) dX9_clear_22 rfl fpX9_27 sh41 rfl (Or.inl rfl) zr_s er0v5 zm_s ?_
  have e9 := Option.some.inj hy
  subst e9
  exact zj_vret dX9_clear_25 rfl hq
set_option maxRecDepth 20000 in
theorem LX9_clear_41 (Γ : zG) (M : zM) (r0 : Nat → Int32) (e_i41 : M.1 41 = r0)  {res : (Nat → Int32)} (hy : (fSn_clear r0) = some res) : zK Γ 1 YX9_clear [.ref (zad Γ 41)] M (fun v N => v = none ∧ N = (zui M 41 res)) :=
  zK_of (by decide) (Nat.le_of_ble_eq_true rfl) (TX9_clear_41 Γ M r0 e_i41 hy ⟨rfl, rfl⟩)

noncomputable def fSn_lastWaiting (r0 : Nat → Int32) (r0_3 : Nat → Int32) : Option (Int32) :=
  (if (r0 6) ≤ 0 then
  some (-1)
  else
  (if 40 < (r0 6) then
  some (-1)
  else
  (zrd r0_3 40 ((r0 6) - 1)).bind (fun (v3 : Int32) =>
  some v3)))

set_option maxRecDepth 20000 in
theorem TX9_lastWaiting_41 (Γ : zG) {Q : Option Value → zM → Prop} (M : zM) (r0 : Nat → Int32) (r0_3 : Nat → Int32) (e_i41 : M.1 41 = r0) (e_i45 : M.1 45 = r0_3)  {res : Int32} (hy : (fSn_lastWaiting r0 r0_3) = some res) (hq : Q (some (.int res)) M) : zR Γ 1 YX9_lastWaiting 0 [(0, .ref (zad Γ 41))] [] M Q := by
  unfold fSn_lastWaiting at hy
  refine zj_aload_n (pc' := 1) 0 dX9_lastWaiting_0 rfl rfl rfl ?_
  refine zj_fI (pc' := 4) dX9_lastWaiting_1 rfl flX9_38 sh41 rfl e_i41 rfl ?_
  refine zj_if_le (tgt := 30) (pc' := 7) dX9_lastWaiting_4 rfl (by decide) (fun c1 => ?_) (fun c1 => ?_)
  · have hy := zt_t hy c1
    refine zj_iconst (pc' := 31) dX9_lastWaiting_30 rfl kiconst_m1 ?_
    have e9 := Option.some.inj hy
    subst e9
    exact zj_iret dX9_lastWaiting_31 rfl hq
  · have hy := zt_f hy c1
    refine zj_aload_n (pc' := 8) 0 dX9_lastWaiting_7 rfl rfl rfl ?_
    refine zj_fI (pc' := 11) dX9_lastWaiting_8 rfl flX9_38 sh41 rfl e_i41 rfl ?_
    refine zj_bipush (pc' := 13) dX9_lastWaiting_11 rfl kbipush_40 ?_
    refine zj_icmp_gt (tgt := 30) (pc' := 16) dX9_lastWaiting_13 rfl (by decide) (fun c2 => ?_) (fun c2 => ?_)
    · have hy := zt_t hy c2
      refine zj_iconst (pc' := 31) dX9_lastWaiting_30 rfl kiconst_m1 ?_
      have e9 := Option.some.inj hy
      subst e9
      exact zj_iret dX9_lastWaiting_31 rfl hq
    · have hy := zt_f hy c2
      refine zj_aload_n (pc' := 17) 0 dX9_lastWaiting_16 rfl rfl rfl ?_
      refine zj_getR (pc' := 20) (j := 45) dX9_lastWaiting_17 rfl flX9_21 sh41 rfl ?_
      refine zj_aload_n (pc' := 21) 0 dX9_lastWaiting_20 rfl rfl rfl ?_
      refine zj_fI (pc' := 24) dX9_lastWaiting_21 rfl flX9_38 sh41 rfl e_i41 rfl ?_
      refine zj_iconst (pc' := 25) dX9_lastWaiting_24 rfl kiconst_1 ?_
      refine zj_isub (pc' := 26) dX9_lastWaiting_25 rfl ?_
      obtain ⟨v3, hv3, hy⟩ := zt_b hy
      refine zj_rdi (pc' := 27) dX9_lastWaiting_26 rfl sh45 e_i45 hv3 ?_
      refine zj_goto (tgt := 31) dX9_lastWaiting_27 (by decide) ?_
      have e9 := Option.some.inj hy
      subst e9
      exact zj_iret dX9_lastWaiting_31 rfl hq
set_option maxRecDepth 20000 in
theorem LX9_lastWaiting_41 (Γ : zG) (M : zM) (r0 : Nat → Int32) (r0_3 : Nat → Int32) (e_i41 : M.1 41 = r0) (e_i45 : M.1 45 = r0_3)  {res : Int32} (hy : (fSn_lastWaiting r0 r0_3) = some res) : zK Γ 1 YX9_lastWaiting [.ref (zad Γ 41)] M (fun v N => v = some (.int res) ∧ N = M) :=
  zK_of (by decide) (Nat.le_of_ble_eq_true rfl) (TX9_lastWaiting_41 Γ M r0 r0_3 e_i41 e_i45 hy ⟨rfl, rfl⟩)

noncomputable def fSn_addPart (r0 : Nat → Int32) (r0_0 : Nat → Int32) (r0_1 : Nat → Int32) (r0_2 : Nat → Int32) (a1 : Int32) (a2 : Int32) (a3 : Int32) : Option ((Nat → Int32) × (Nat → Int32) × (Nat → Int32) × (Nat → Int32)) :=
  (if 40 ≤ (r0 5) then
  some (r0, r0_0, r0_1, r0_2)
  else
  (zwr r0_0 40 (r0 5) a1).bind (fun (r0_0v2 : Nat → Int32) =>
  (zwr r0_1 40 (r0 5) a2).bind (fun (r0_1v3 : Nat → Int32) =>
  (zwr r0_2 40 (r0 5) a3).bind (fun (r0_2v4 : Nat → Int32) =>
  zlet (zup r0 5 ((r0 5) + 1)) (fun (r0v5 : Nat → Int32) =>
  some (r0v5, r0_0v2, r0_1v3, r0_2v4))))))

set_option maxRecDepth 20000 in
theorem TX9_addPart_41 (Γ : zG) {Q : Option Value → zM → Prop} (M : zM) (r0 : Nat → Int32) (r0_0 : Nat → Int32) (r0_1 : Nat → Int32) (r0_2 : Nat → Int32) (e_i41 : M.1 41 = r0) (e_i42 : M.1 42 = r0_0) (e_i43 : M.1 43 = r0_1) (e_i44 : M.1 44 = r0_2) (a1 : Int32) (a2 : Int32) (a3 : Int32) {res : (Nat → Int32) × (Nat → Int32) × (Nat → Int32) × (Nat → Int32)} (hy : (fSn_addPart r0 r0_0 r0_1 r0_2 a1 a2 a3) = some res) (hq : Q none (zui (zui (zui (zui M 41 res.1) 42 res.2.1) 43 res.2.2.1) 44 res.2.2.2)) : zR Γ 1 YX9_addPart 0 [(0, .ref (zad Γ 41)), (1, .int a1), (2, .int a2), (3, .int a3)] [] M Q := by
  unfold fSn_addPart at hy
  refine zj_aload_n (pc' := 1) 0 dX9_addPart_0 rfl rfl rfl ?_
  refine zj_fI (pc' := 4) dX9_addPart_1 rfl flX9_35 sh41 rfl e_i41 rfl ?_
  refine zj_bipush (pc' := 6) dX9_addPart_4 rfl kbipush_40 ?_
  refine zj_icmp_ge (tgt := 49) (pc' := 9) dX9_addPart_6 rfl (by decide) (fun c1 => ?_) (fun c1 => ?_)
  · have hy := zt_t hy c1
    have e9 := Option.some.inj hy
    subst e9
    refine zj_mem (N := (zui M 41 r0)) (zself_i e_i41 rfl) ?_
    refine zj_mem (N := (zui (zui M 41 r0) 42 r0_0)) (zself_i (zr_n rfl e_i42) rfl) ?_
    refine zj_mem (N := (zui (zui (zui M 41 r0) 42 r0_0) 43 r0_1)) (zself_i (zr_n rfl (zr_n rfl e_i43)) rfl) ?_
    refine zj_mem (N := (zui (zui (zui (zui M 41 r0) 42 r0_0) 43 r0_1) 44 r0_2)) (zself_i (zr_n rfl (zr_n rfl (zr_n rfl e_i44))) rfl) ?_
    exact zj_vret dX9_addPart_49 rfl hq
  · have hy := zt_f hy c1
    refine zj_aload_n (pc' := 10) 0 dX9_addPart_9 rfl rfl rfl ?_
    refine zj_getR (pc' := 13) (j := 42) dX9_addPart_10 rfl flX9_11 sh41 rfl ?_
    refine zj_aload_n (pc' := 14) 0 dX9_addPart_13 rfl rfl rfl ?_
    refine zj_fI (pc' := 17) dX9_addPart_14 rfl flX9_35 sh41 rfl e_i41 rfl ?_
    refine zj_iload_n (pc' := 18) 1 dX9_addPart_17 rfl rfl rfl ?_
    obtain ⟨r0_0v2, hr0_0v2, hy⟩ := zt_b hy
    refine zj_wri (pc' := 19) (N := (zui M 42 r0_0v2)) dX9_addPart_18 rfl sh42 e_i42 hr0_0v2 rfl ?_
    refine zj_aload_n (pc' := 20) 0 dX9_addPart_19 rfl rfl rfl ?_
    refine zj_getR (pc' := 23) (j := 43) dX9_addPart_20 rfl flX9_15 sh41 rfl ?_
    refine zj_aload_n (pc' := 24) 0 dX9_addPart_23 rfl rfl rfl ?_
    refine zj_fI (pc' := 27) dX9_addPart_24 rfl flX9_35 sh41 rfl (zr_n rfl e_i41) rfl ?_
    refine zj_iload_n (pc' := 28) 2 dX9_addPart_27 rfl rfl rfl ?_
    obtain ⟨r0_1v3, hr0_1v3, hy⟩ := zt_b hy
    refine zj_wri (pc' := 29) (N := (zui (zui M 42 r0_0v2) 43 r0_1v3)) dX9_addPart_28 rfl sh43 (zr_n rfl e_i43) hr0_1v3 rfl ?_
    refine zj_aload_n (pc' := 30) 0 dX9_addPart_29 rfl rfl rfl ?_
    refine zj_getR (pc' := 33) (j := 44) dX9_addPart_30 rfl flX9_18 sh41 rfl ?_
    refine zj_aload_n (pc' := 34) 0 dX9_addPart_33 rfl rfl rfl ?_
    refine zj_fI (pc' := 37) dX9_addPart_34 rfl flX9_35 sh41 rfl (zr_n rfl (zr_n rfl e_i41)) rfl ?_
    refine zj_iload_n (pc' := 38) 3 dX9_addPart_37 rfl rfl rfl ?_
    obtain ⟨r0_2v4, hr0_2v4, hy⟩ := zt_b hy
    refine zj_wri (pc' := 39) (N := (zui (zui (zui M 42 r0_0v2) 43 r0_1v3) 44 r0_2v4)) dX9_addPart_38 rfl sh44 (zr_n rfl (zr_n rfl e_i44)) hr0_2v4 rfl ?_
    refine zj_aload_n (pc' := 40) 0 dX9_addPart_39 rfl rfl rfl ?_
    refine zj_dup (pc' := 41) dX9_addPart_40 rfl rfl ?_
    refine zj_fI (pc' := 44) dX9_addPart_41 rfl flX9_35 sh41 rfl (zr_n rfl (zr_n rfl (zr_n rfl e_i41))) rfl ?_
    refine zj_iconst (pc' := 45) dX9_addPart_44 rfl kiconst_1 ?_
    refine zj_iadd (pc' := 46) dX9_addPart_45 rfl ?_
    obtain ⟨r0v5, er0v5⟩ : ∃ z, z = (zup r0 5 ((r0 5) + 1)) := ⟨_, rfl⟩
    have hy := zlet_at er0v5 hy
    refine zj_pI (pc' := 49) (N := (zui (zui (zui (zui M 41 r0v5) 42 r0_0v2) 43 r0_1v3) 44 r0_2v4)) dX9_addPart_46 rfl fpX9_35 sh41 rfl (zr_n rfl (zr_n rfl (zr_n rfl e_i41))) er0v5 (zm_n rfl (zm_n rfl (zm_n rfl rfl))) ?_
    have e9 := Option.some.inj hy
    subst e9
    exact zj_vret dX9_addPart_49 rfl hq
set_option maxRecDepth 20000 in
theorem LX9_addPart_41 (Γ : zG) (M : zM) (r0 : Nat → Int32) (r0_0 : Nat → Int32) (r0_1 : Nat → Int32) (r0_2 : Nat → Int32) (e_i41 : M.1 41 = r0) (e_i42 : M.1 42 = r0_0) (e_i43 : M.1 43 = r0_1) (e_i44 : M.1 44 = r0_2) (a1 : Int32) (a2 : Int32) (a3 : Int32) {res : (Nat → Int32) × (Nat → Int32) × (Nat → Int32) × (Nat → Int32)} (hy : (fSn_addPart r0 r0_0 r0_1 r0_2 a1 a2 a3) = some res) : zK Γ 1 YX9_addPart [.ref (zad Γ 41), .int a1, .int a2, .int a3] M (fun v N => v = none ∧ N = (zui (zui (zui (zui M 41 res.1) 42 res.2.1) 43 res.2.2.1) 44 res.2.2.2)) :=
  zK_of (by decide) (Nat.le_of_ble_eq_true rfl) (TX9_addPart_41 Γ M r0 r0_0 r0_1 r0_2 e_i41 e_i42 e_i43 e_i44 a1 a2 a3 hy ⟨rfl, rfl⟩)

noncomputable def fSn_settleWaiting_L2 (r0_3 : Nat → Int32) (a1 : Int32) (r0v1 : Nat → Int32) (r0_0v2 : Nat → Int32) (r0_1v3 : Nat → Int32) (r0_2v4 : Nat → Int32) (x5 : Int32) : Option (((Nat → Int32) × (Nat → Int32) × (Nat → Int32) × (Nat → Int32) × Int32) ⊕ ((Nat → Int32) × (Nat → Int32) × (Nat → Int32) × (Nat → Int32))) :=
  (if 40 ≤ x5 then
  some (.inr (r0v1, r0_0v2, r0_1v3, r0_2v4))
  else
  (fSn_lastWaiting r0v1 r0_3).bind (fun (y14 : Int32) =>
  zlet (fun (u9 : Unit) =>
  (fSn_addPart r0v1 r0_0v2 r0_1v3 r0_2v4 y14 (-1) 0).bind (fun (y15 : (Nat → Int32) × (Nat → Int32) × (Nat → Int32) × (Nat → Int32)) =>
  zlet (zup y15.1 6 ((y15.1 6) - 1)) (fun (r0v16 : Nat → Int32) =>
  zlet (x5 + 1) (fun (x17 : Int32) =>
  some (.inl (r0v16, y15.2.1, y15.2.2.1, y15.2.2.2, x17)))))) (fun J18 =>
  (if y14 = 11 then
  J18 ()
  else
  (if y14 = 10 then
  (if a1 = 10 then
  J18 ()
  else
  some (.inr (r0v1, r0_0v2, r0_1v3, r0_2v4)))
  else
  some (.inr (r0v1, r0_0v2, r0_1v3, r0_2v4)))))))
noncomputable def fSn_settleWaiting (r0 : Nat → Int32) (r0_0 : Nat → Int32) (r0_1 : Nat → Int32) (r0_2 : Nat → Int32) (r0_3 : Nat → Int32) (a1 : Int32) : Option ((Nat → Int32) × (Nat → Int32) × (Nat → Int32) × (Nat → Int32)) :=
  (zLP (fun s => fSn_settleWaiting_L2 r0_3 a1 s.1 s.2.1 s.2.2.1 s.2.2.2.1 s.2.2.2.2) (r0, r0_0, r0_1, r0_2, 0)).bind (fun r8 =>
  some (r8.1, r8.2.1, r8.2.2.1, r8.2.2.2))

set_option maxRecDepth 20000 in
theorem TX9_settleWaiting_41 (Γ : zG) {Q : Option Value → zM → Prop} (M : zM) (r0 : Nat → Int32) (r0_0 : Nat → Int32) (r0_1 : Nat → Int32) (r0_2 : Nat → Int32) (r0_3 : Nat → Int32) (e_i41 : M.1 41 = r0) (e_i42 : M.1 42 = r0_0) (e_i43 : M.1 43 = r0_1) (e_i44 : M.1 44 = r0_2) (e_i45 : M.1 45 = r0_3) (a1 : Int32) {res : (Nat → Int32) × (Nat → Int32) × (Nat → Int32) × (Nat → Int32)} (hy : (fSn_settleWaiting r0 r0_0 r0_1 r0_2 r0_3 a1) = some res) (hq : Q none (zui (zui (zui (zui M 41 res.1) 42 res.2.1) 43 res.2.2.1) 44 res.2.2.2)) : zR Γ 2 YX9_settleWaiting 0 [(0, .ref (zad Γ 41)), (1, .int a1)] [] M Q := by
  unfold fSn_settleWaiting at hy
  refine zj_iconst (pc' := 1) dX9_settleWaiting_0 rfl kiconst_0 ?_
  refine zj_istore_n (pc' := 2) (L' := [(2, .int 0), (0, .ref (zad Γ 41)), (1, .int a1)]) dX9_settleWaiting_1 rfl rfl (by decide) rfl ?_
  refine zj_loc [1, 2, 0] rfl ?_
  refine zj_mem (N := (zui M 41 r0)) (zself_i e_i41 rfl) ?_
  refine zj_mem (N := (zui (zui M 41 r0) 42 r0_0)) (zself_i (zr_n rfl e_i42) rfl) ?_
  refine zj_mem (N := (zui (zui (zui M 41 r0) 42 r0_0) 43 r0_1)) (zself_i (zr_n rfl (zr_n rfl e_i43)) rfl) ?_
  refine zj_mem (N := (zui (zui (zui (zui M 41 r0) 42 r0_0) 43 r0_1) 44 r0_2)) (zself_i (zr_n rfl (zr_n rfl (zr_n rfl e_i44))) rfl) ?_
  obtain ⟨r8, hr9, hyo9⟩ := zt_b hy
  obtain ⟨n9, hn9⟩ := zLP_some hr9
  have HE6 : ∀ (r0v22 : Nat → Int32) (r0_0v23 : Nat → Int32) (r0_1v24 : Nat → Int32) (r0_2v25 : Nat → Int32), r8 = (r0v22, r0_0v23, r0_1v24, r0_2v25) → zR Γ 2 YX9_settleWaiting 57 [] [] (zui (zui (zui (zui M 41 r0v22) 42 r0_0v23) 43 r0_1v24) 44 r0_2v25) Q := by
    intro r0v22 r0_0v23 r0_1v24 r0_2v25 e9
    have hy := hyo9
    try rw [e9] at hy
    try dsimp only at hy
    have e9 := Option.some.inj hy
    subst e9
    exact zj_vret dX9_settleWaiting_57 rfl hq
  have HL7 : ∀ (n : Nat) (r0v1 : Nat → Int32) (r0_0v2 : Nat → Int32) (r0_1v3 : Nat → Int32) (r0_2v4 : Nat → Int32) (x5 : Int32), zlp (fun s => fSn_settleWaiting_L2 r0_3 a1 s.1 s.2.1 s.2.2.1 s.2.2.2.1 s.2.2.2.2) n (r0v1, r0_0v2, r0_1v3, r0_2v4, x5) = some r8 → zR Γ 2 YX9_settleWaiting 2 [(0, .ref (zad Γ 41)), (1, .int a1), (2, .int x5)] [] (zui (zui (zui (zui M 41 r0v1) 42 r0_0v2) 43 r0_1v3) 44 r0_2v4) Q := by
    intro n
    induction n with
    | zero => intro r0v1 r0_0v2 r0_1v3 r0_2v4 x5 hn9; cases hn9
    | succ n ih10 =>
      intro r0v1 r0_0v2 r0_1v3 r0_2v4 x5 hn9
      obtain ⟨o9, hb9, h11, h12⟩ := zlp_step hn9
      have hy : fSn_settleWaiting_L2 r0_3 a1 r0v1 r0_0v2 r0_1v3 r0_2v4 x5 = some o9 := hb9
      unfold fSn_settleWaiting_L2 at hy
      refine zj_iload_n (pc' := 3) 2 dX9_settleWaiting_2 rfl rfl rfl ?_
      refine zj_bipush (pc' := 5) dX9_settleWaiting_3 rfl kbipush_40 ?_
      refine zj_icmp_ge (tgt := 57) (pc' := 8) dX9_settleWaiting_5 rfl (by decide) (fun c13 => ?_) (fun c13 => ?_)
      · have hy := zt_t hy c13
        have e9 := h12 _ (Option.some.inj hy).symm
        refine zj_loc [] rfl ?_
        exact HE6 _ _ _ _ e9.symm
      · have hy := zt_f hy c13
        refine zj_aload_n (pc' := 9) 0 dX9_settleWaiting_8 rfl rfl rfl ?_
        obtain ⟨y14, hy14, hy⟩ := zt_b hy
        refine zj_V1 (pc' := 12) (z := YX9_lastWaiting) (As := []) (N := (zui (zui (zui (zui M 41 r0v1) 42 r0_0v2) 43 r0_1v3) 44 r0_2v4)) dX9_settleWaiting_9 rfl mlX9_122 lkX9_lastWaiting sh41 ⟨_, _, rfl⟩ rfl rfl (Nat.le_of_ble_eq_true rfl) (Nat.le_of_ble_eq_true rfl) (LX9_lastWaiting_41 Γ _ r0v1 r0_3 (zr_n rfl (zr_n rfl (zr_n rfl zr_s))) (zr_n rfl (zr_n rfl (zr_n rfl (zr_n rfl e_i45)))) hy14) rfl ?_
        refine zj_istore_n (pc' := 13) (L' := [(3, .int y14), (0, .ref (zad Γ 41)), (1, .int a1), (2, .int x5)]) dX9_settleWaiting_12 rfl rfl (by decide) rfl ?_
        refine zj_iload_n (pc' := 14) 0 dX9_settleWaiting_13 rfl rfl rfl ?_
        refine zj_bipush (pc' := 16) dX9_settleWaiting_14 rfl kbipush_11 ?_
        obtain ⟨J18, eJ18, hy⟩ := zlet_ex hy
        have HJ18 : ∀ (u9 : Unit), J18 u9 = some o9 → zR Γ 2 YX9_settleWaiting 34 [(0, .ref (zad Γ 41)), (1, .int a1), (2, .int x5), (3, .int y14)] [] (zui (zui (zui (zui M 41 r0v1) 42 r0_0v2) 43 r0_1v3) 44 r0_2v4) Q := by
          intro u9 hy
          have hy := zap1 eJ18 hy
          refine zj_aload_n (pc' := 35) 0 dX9_settleWaiting_34 rfl rfl rfl ?_
          refine zj_iload_n (pc' := 36) 3 dX9_settleWaiting_35 rfl rfl rfl ?_
          refine zj_iconst (pc' := 37) dX9_settleWaiting_36 rfl kiconst_m1 ?_
          refine zj_iconst (pc' := 38) dX9_settleWaiting_37 rfl kiconst_0 ?_
          obtain ⟨y15, hy15, hy⟩ := zt_b hy
          refine zj_V0 (pc' := 41) (z := YX9_addPart) (As := [.int y14, .int (-1), .int 0]) (N := (zui (zui (zui (zui M 41 y15.1) 42 y15.2.1) 43 y15.2.2.1) 44 y15.2.2.2)) dX9_settleWaiting_38 rfl mlX9_115 lkX9_addPart sh41 ⟨_, _, rfl⟩ rfl rfl (Nat.le_of_ble_eq_true rfl) (Nat.le_of_ble_eq_true rfl) (LX9_addPart_41 Γ _ r0v1 r0_0v2 r0_1v3 r0_2v4 (zr_n rfl (zr_n rfl (zr_n rfl zr_s))) (zr_n rfl (zr_n rfl zr_s)) (zr_n rfl zr_s) zr_s y14 (-1) 0 hy15) ((zch_i (zch_i (zch_i (zm_n rfl (zm_n rfl (zm_n rfl zm_s))) (zm_n rfl (zm_n rfl zm_s))) (zm_n rfl zm_s)) zm_s)).symm ?_
          refine zj_aload_n (pc' := 42) 0 dX9_settleWaiting_41 rfl rfl rfl ?_
          refine zj_dup (pc' := 43) dX9_settleWaiting_42 rfl rfl ?_
          refine zj_fI (pc' := 46) dX9_settleWaiting_43 rfl flX9_38 sh41 rfl (zr_n rfl (zr_n rfl (zr_n rfl zr_s))) rfl ?_
          refine zj_iconst (pc' := 47) dX9_settleWaiting_46 rfl kiconst_1 ?_
          refine zj_isub (pc' := 48) dX9_settleWaiting_47 rfl ?_
          obtain ⟨r0v16, er0v16⟩ : ∃ z, z = (zup y15.1 6 ((y15.1 6) - 1)) := ⟨_, rfl⟩
          have hy := zlet_at er0v16 hy
          refine zj_pI (pc' := 51) (N := (zui (zui (zui (zui M 41 r0v16) 42 y15.2.1) 43 y15.2.2.1) 44 y15.2.2.2)) dX9_settleWaiting_48 rfl fpX9_38 sh41 rfl (zr_n rfl (zr_n rfl (zr_n rfl zr_s))) er0v16 (zm_n rfl (zm_n rfl (zm_n rfl zm_s))) ?_
          obtain ⟨x17, ex17⟩ : ∃ z : Int32, z = (x5 + 1) := ⟨_, rfl⟩
          have hy := zlet_at ex17 hy
          refine zj_iinc (pc' := 54) 2 (L' := [(2, .int x17), (0, .ref (zad Γ 41)), (1, .int a1), (3, .int y14)]) dX9_settleWaiting_51 rfl rfl (by decide) (by rw [ci1, ← ex17]; rfl) ?_
          refine zj_goto (tgt := 2) dX9_settleWaiting_54 (by decide) ?_
          have hn9 := h11 _ (Option.some.inj hy).symm
          refine zj_loc [1, 2, 0] rfl ?_
          exact ih10 _ _ _ _ _ hn9
        refine zj_icmp_eq (tgt := 34) (pc' := 19) dX9_settleWaiting_16 rfl (by decide) (fun c19 => ?_) (fun c19 => ?_)
        · have hy := zt_t hy c19
          refine zj_loc [1, 2, 3, 0] rfl ?_
          exact HJ18 () hy
        · have hy := zt_f hy c19
          refine zj_iload_n (pc' := 20) 0 dX9_settleWaiting_19 rfl rfl rfl ?_
          refine zj_bipush (pc' := 22) dX9_settleWaiting_20 rfl kbipush_10 ?_
          refine zj_icmp_ne (tgt := 57) (pc' := 25) dX9_settleWaiting_22 rfl (by decide) (fun c20 => ?_) (fun c20 => ?_)
          · have hy := zt_f hy c20
            have e9 := h12 _ (Option.some.inj hy).symm
            refine zj_loc [] rfl ?_
            exact HE6 _ _ _ _ e9.symm
          · have hy := zt_t hy c20
            refine zj_iload_n (pc' := 26) 2 dX9_settleWaiting_25 rfl rfl rfl ?_
            refine zj_bipush (pc' := 28) dX9_settleWaiting_26 rfl kbipush_10 ?_
            refine zj_icmp_eq (tgt := 34) (pc' := 31) dX9_settleWaiting_28 rfl (by decide) (fun c21 => ?_) (fun c21 => ?_)
            · have hy := zt_t hy c21
              refine zj_loc [1, 2, 3, 0] rfl ?_
              exact HJ18 () hy
            · have hy := zt_f hy c21
              refine zj_goto (tgt := 57) dX9_settleWaiting_31 (by decide) ?_
              have e9 := h12 _ (Option.some.inj hy).symm
              refine zj_loc [] rfl ?_
              exact HE6 _ _ _ _ e9.symm
  exact HL7 n9 _ _ _ _ _ hn9
set_option maxRecDepth 20000 in
theorem LX9_settleWaiting_41 (Γ : zG) (M : zM) (r0 : Nat → Int32) (r0_0 : Nat → Int32) (r0_1 : Nat → Int32) (r0_2 : Nat → Int32) (r0_3 : Nat → Int32) (e_i41 : M.1 41 = r0) (e_i42 : M.1 42 = r0_0) (e_i43 : M.1 43 = r0_1) (e_i44 : M.1 44 = r0_2) (e_i45 : M.1 45 = r0_3) (a1 : Int32) {res : (Nat → Int32) × (Nat → Int32) × (Nat → Int32) × (Nat → Int32)} (hy : (fSn_settleWaiting r0 r0_0 r0_1 r0_2 r0_3 a1) = some res) : zK Γ 2 YX9_settleWaiting [.ref (zad Γ 41), .int a1] M (fun v N => v = none ∧ N = (zui (zui (zui (zui M 41 res.1) 42 res.2.1) 43 res.2.2.1) 44 res.2.2.2)) :=
  zK_of (by decide) (Nat.le_of_ble_eq_true rfl) (TX9_settleWaiting_41 Γ M r0 r0_0 r0_1 r0_2 r0_3 e_i41 e_i42 e_i43 e_i44 e_i45 a1 hy ⟨rfl, rfl⟩)

noncomputable def fRd_isSign (r0 : Nat → Int32) (a1 : Int32) : Bool :=
  (if (r0 5) = a1 then true else false)

set_option maxRecDepth 20000 in
theorem TX8_isSign_3 (Γ : zG) {Q : Option Value → zM → Prop} (M : zM) (r0 : Nat → Int32) (e_i3 : M.1 3 = r0) (a1 : Int32) {res : Bool} (hy : (fRd_isSign r0 a1) = res) (hq : Q (some (.int (zb res))) M) : zR Γ 1 YX8_isSign 0 [(0, .ref (zad Γ 3)), (1, .int a1)] [] M Q := by
  unfold fRd_isSign at hy
  refine zj_aload_n (pc' := 1) 0 dX8_isSign_0 rfl rfl rfl ?_
  refine zj_fI (pc' := 4) dX8_isSign_1 rfl flX8_57 sh3 rfl e_i3 rfl ?_
  refine zj_iload_n (pc' := 5) 1 dX8_isSign_4 rfl rfl rfl ?_
  have HJ1 : zR Γ 1 YX8_isSign 13 [(0, .ref (zad Γ 3)), (1, .int a1)] [.int (zb (if (r0 5) = a1 then true else false))] M Q := by
    subst hy
    exact zj_bret (b := (if (r0 5) = a1 then true else false)) dX8_isSign_13 rfl hq
  refine zj_icmp_ne (tgt := 12) (pc' := 8) dX8_isSign_5 rfl (by decide) (fun c2 => ?_) (fun c2 => ?_)
  · refine zj_iconst (pc' := 13) dX8_isSign_12 rfl kiconst_0 ?_
    exact zj_eqb (b := false) (if_neg c2) HJ1
  · refine zj_iconst (pc' := 9) dX8_isSign_8 rfl kiconst_1 ?_
    refine zj_goto (tgt := 13) dX8_isSign_9 (by decide) ?_
    exact zj_eqb (b := true) (if_pos c2) HJ1
set_option maxRecDepth 20000 in
theorem LX8_isSign_3 (Γ : zG) (M : zM) (r0 : Nat → Int32) (e_i3 : M.1 3 = r0) (a1 : Int32) {res : Bool} (hy : (fRd_isSign r0 a1) = res) : zK Γ 1 YX8_isSign [.ref (zad Γ 3), .int a1] M (fun v N => v = some (.int (zb res)) ∧ N = M) :=
  zK_of (by decide) (Nat.le_of_ble_eq_true rfl) (TX8_isSign_3 Γ M r0 e_i3 a1 hy ⟨rfl, rfl⟩)

noncomputable def fSn_addWaiting (r0 : Nat → Int32) (r0_3 : Nat → Int32) (a1 : Int32) : Option ((Nat → Int32) × (Nat → Int32)) :=
  (if 40 ≤ (r0 6) then
  some (r0, r0_3)
  else
  (zwr r0_3 40 (r0 6) a1).bind (fun (r0_3v2 : Nat → Int32) =>
  zlet (zup r0 6 ((r0 6) + 1)) (fun (r0v3 : Nat → Int32) =>
  some (r0v3, r0_3v2))))

set_option maxRecDepth 20000 in
theorem TX9_addWaiting_41 (Γ : zG) {Q : Option Value → zM → Prop} (M : zM) (r0 : Nat → Int32) (r0_3 : Nat → Int32) (e_i41 : M.1 41 = r0) (e_i45 : M.1 45 = r0_3) (a1 : Int32) {res : (Nat → Int32) × (Nat → Int32)} (hy : (fSn_addWaiting r0 r0_3 a1) = some res) (hq : Q none (zui (zui M 41 res.1) 45 res.2)) : zR Γ 1 YX9_addWaiting 0 [(0, .ref (zad Γ 41)), (1, .int a1)] [] M Q := by
  unfold fSn_addWaiting at hy
  refine zj_aload_n (pc' := 1) 0 dX9_addWaiting_0 rfl rfl rfl ?_
  refine zj_fI (pc' := 4) dX9_addWaiting_1 rfl flX9_38 sh41 rfl e_i41 rfl ?_
  refine zj_bipush (pc' := 6) dX9_addWaiting_4 rfl kbipush_40 ?_
  refine zj_icmp_ge (tgt := 29) (pc' := 9) dX9_addWaiting_6 rfl (by decide) (fun c1 => ?_) (fun c1 => ?_)
  · have hy := zt_t hy c1
    have e9 := Option.some.inj hy
    subst e9
    refine zj_mem (N := (zui M 41 r0)) (zself_i e_i41 rfl) ?_
    refine zj_mem (N := (zui (zui M 41 r0) 45 r0_3)) (zself_i (zr_n rfl e_i45) rfl) ?_
    exact zj_vret dX9_addWaiting_29 rfl hq
  · have hy := zt_f hy c1
    refine zj_aload_n (pc' := 10) 0 dX9_addWaiting_9 rfl rfl rfl ?_
    refine zj_getR (pc' := 13) (j := 45) dX9_addWaiting_10 rfl flX9_21 sh41 rfl ?_
    refine zj_aload_n (pc' := 14) 0 dX9_addWaiting_13 rfl rfl rfl ?_
    refine zj_fI (pc' := 17) dX9_addWaiting_14 rfl flX9_38 sh41 rfl e_i41 rfl ?_
    refine zj_iload_n (pc' := 18) 1 dX9_addWaiting_17 rfl rfl rfl ?_
    obtain ⟨r0_3v2, hr0_3v2, hy⟩ := zt_b hy
    refine zj_wri (pc' := 19) (N := (zui M 45 r0_3v2)) dX9_addWaiting_18 rfl sh45 e_i45 hr0_3v2 rfl ?_
    refine zj_aload_n (pc' := 20) 0 dX9_addWaiting_19 rfl rfl rfl ?_
    refine zj_dup (pc' := 21) dX9_addWaiting_20 rfl rfl ?_
    refine zj_fI (pc' := 24) dX9_addWaiting_21 rfl flX9_38 sh41 rfl (zr_n rfl e_i41) rfl ?_
    refine zj_iconst (pc' := 25) dX9_addWaiting_24 rfl kiconst_1 ?_
    refine zj_iadd (pc' := 26) dX9_addWaiting_25 rfl ?_
    obtain ⟨r0v3, er0v3⟩ : ∃ z, z = (zup r0 6 ((r0 6) + 1)) := ⟨_, rfl⟩
    have hy := zlet_at er0v3 hy
    refine zj_pI (pc' := 29) (N := (zui (zui M 41 r0v3) 45 r0_3v2)) dX9_addWaiting_26 rfl fpX9_38 sh41 rfl (zr_n rfl e_i41) er0v3 (zm_n rfl rfl) ?_
    have e9 := Option.some.inj hy
    subst e9
    exact zj_vret dX9_addWaiting_29 rfl hq
set_option maxRecDepth 20000 in
theorem LX9_addWaiting_41 (Γ : zG) (M : zM) (r0 : Nat → Int32) (r0_3 : Nat → Int32) (e_i41 : M.1 41 = r0) (e_i45 : M.1 45 = r0_3) (a1 : Int32) {res : (Nat → Int32) × (Nat → Int32)} (hy : (fSn_addWaiting r0 r0_3 a1) = some res) : zK Γ 1 YX9_addWaiting [.ref (zad Γ 41), .int a1] M (fun v N => v = none ∧ N = (zui (zui M 41 res.1) 45 res.2)) :=
  zK_of (by decide) (Nat.le_of_ble_eq_true rfl) (TX9_addWaiting_41 Γ M r0 r0_3 e_i41 e_i45 a1 hy ⟨rfl, rfl⟩)

noncomputable def fRd_takeComparison (r0 : Nat → Int32) (w0 : Nat → Int64) (r0_0 : Nat → Int32) (r0_0_0 : Nat → Int32) : Option (Int32 × (Nat → Int32) × (Nat → Int64)) :=
  zlet (r0 5) (fun (x1 : Int32) =>
  (if x1 = 60 then
  (fRd_goOn r0 w0 r0_0 r0_0_0).bind (fun (y3 : (Nat → Int32) × (Nat → Int64)) =>
  some (x1, y3.1, y3.2))
  else
  (if x1 = 61 then
  (fRd_goOn r0 w0 r0_0 r0_0_0).bind (fun (y5 : (Nat → Int32) × (Nat → Int64)) =>
  some (x1, y5.1, y5.2))
  else
  (if x1 = 62 then
  (fRd_goOn r0 w0 r0_0 r0_0_0).bind (fun (y7 : (Nat → Int32) × (Nat → Int64)) =>
  some (x1, y7.1, y7.2))
  else
  (fRd_fail r0 1).bind (fun (y8 : (Nat → Int32)) =>
  (fRd_goOn y8 w0 r0_0 r0_0_0).bind (fun (y9 : (Nat → Int32) × (Nat → Int64)) =>
  some (x1, y9.1, y9.2)))))))

set_option maxRecDepth 20000 in
theorem TX8_takeComparison_3 (Γ : zG) {Q : Option Value → zM → Prop} (M : zM) (r0 : Nat → Int32) (w0 : Nat → Int64) (r0_0 : Nat → Int32) (r0_0_0 : Nat → Int32) (e_i3 : M.1 3 = r0) (e_l3 : M.2 3 = w0) (e_i1 : M.1 1 = r0_0) (e_i2 : M.1 2 = r0_0_0)  {res : Int32 × (Nat → Int32) × (Nat → Int64)} (hy : (fRd_takeComparison r0 w0 r0_0 r0_0_0) = some res) (hq : Q (some (.int res.1)) (zui (zul M 3 res.2.2) 3 res.2.1)) : zR Γ 4 YX8_takeComparison 0 [(0, .ref (zad Γ 3))] [] M Q := by
  unfold fRd_takeComparison at hy
  refine zj_aload_n (pc' := 1) 0 dX8_takeComparison_0 rfl rfl rfl ?_
  refine zj_fI (pc' := 4) dX8_takeComparison_1 rfl flX8_57 sh3 rfl e_i3 rfl ?_
  refine zj_topi (fun x1 ex1 => ?_)
  have hy := zlet_at ex1 hy
  refine zj_istore_n (pc' := 5) (L' := [(1, .int x1), (0, .ref (zad Γ 3))]) dX8_takeComparison_4 rfl rfl (by decide) rfl ?_
  refine zj_iload_n (pc' := 6) 0 dX8_takeComparison_5 rfl rfl rfl ?_
  refine zj_bipush (pc' := 8) dX8_takeComparison_6 rfl kbipush_60 ?_
  refine zj_icmp_eq (tgt := 28) (pc' := 11) dX8_takeComparison_8 rfl (by decide) (fun c2 => ?_) (fun c2 => ?_)
  · have hy := zt_t hy c2
    refine zj_aload_n (pc' := 29) 1 dX8_takeComparison_28 rfl rfl rfl ?_
    obtain ⟨y3, hy3, hy⟩ := zt_b hy
    refine zj_V0 (pc' := 32) (z := YX8_goOn) (As := []) (N := (zui (zul M 3 y3.2) 3 y3.1)) dX8_takeComparison_29 rfl mlX8_51 lkX8_goOn sh3 ⟨_, _, rfl⟩ rfl rfl (Nat.le_of_ble_eq_true rfl) (Nat.le_of_ble_eq_true rfl) (LX8_goOn_3 Γ _ r0 w0 r0_0 r0_0_0 e_i3 e_l3 e_i1 e_i2 hy3) ((zch_i rfl rfl)).symm ?_
    refine zj_iload_n (pc' := 33) 0 dX8_takeComparison_32 rfl rfl rfl ?_
    have e9 := Option.some.inj hy
    subst e9
    exact zj_iret dX8_takeComparison_33 rfl hq
  · have hy := zt_f hy c2
    refine zj_iload_n (pc' := 12) 0 dX8_takeComparison_11 rfl rfl rfl ?_
    refine zj_bipush (pc' := 14) dX8_takeComparison_12 rfl kbipush_61 ?_
    refine zj_icmp_eq (tgt := 28) (pc' := 17) dX8_takeComparison_14 rfl (by decide) (fun c4 => ?_) (fun c4 => ?_)
    · have hy := zt_t hy c4
      refine zj_aload_n (pc' := 29) 1 dX8_takeComparison_28 rfl rfl rfl ?_
      obtain ⟨y5, hy5, hy⟩ := zt_b hy
      refine zj_V0 (pc' := 32) (z := YX8_goOn) (As := []) (N := (zui (zul M 3 y5.2) 3 y5.1)) dX8_takeComparison_29 rfl mlX8_51 lkX8_goOn sh3 ⟨_, _, rfl⟩ rfl rfl (Nat.le_of_ble_eq_true rfl) (Nat.le_of_ble_eq_true rfl) (LX8_goOn_3 Γ _ r0 w0 r0_0 r0_0_0 e_i3 e_l3 e_i1 e_i2 hy5) ((zch_i rfl rfl)).symm ?_
      refine zj_iload_n (pc' := 33) 0 dX8_takeComparison_32 rfl rfl rfl ?_
      have e9 := Option.some.inj hy
      subst e9
      exact zj_iret dX8_takeComparison_33 rfl hq
    · have hy := zt_f hy c4
      refine zj_iload_n (pc' := 18) 0 dX8_takeComparison_17 rfl rfl rfl ?_
      refine zj_bipush (pc' := 20) dX8_takeComparison_18 rfl kbipush_62 ?_
      refine zj_icmp_eq (tgt := 28) (pc' := 23) dX8_takeComparison_20 rfl (by decide) (fun c6 => ?_) (fun c6 => ?_)
      · have hy := zt_t hy c6
        refine zj_aload_n (pc' := 29) 1 dX8_takeComparison_28 rfl rfl rfl ?_
        obtain ⟨y7, hy7, hy⟩ := zt_b hy
        refine zj_V0 (pc' := 32) (z := YX8_goOn) (As := []) (N := (zui (zul M 3 y7.2) 3 y7.1)) dX8_takeComparison_29 rfl mlX8_51 lkX8_goOn sh3 ⟨_, _, rfl⟩ rfl rfl (Nat.le_of_ble_eq_true rfl) (Nat.le_of_ble_eq_true rfl) (LX8_goOn_3 Γ _ r0 w0 r0_0 r0_0_0 e_i3 e_l3 e_i1 e_i2 hy7) ((zch_i rfl rfl)).symm ?_
        refine zj_iload_n (pc' := 33) 0 dX8_takeComparison_32 rfl rfl rfl ?_
        have e9 := Option.some.inj hy
        subst e9
        exact zj_iret dX8_takeComparison_33 rfl hq
      · have hy := zt_f hy c6
        refine zj_aload_n (pc' := 24) 1 dX8_takeComparison_23 rfl rfl rfl ?_
        refine zj_iconst (pc' := 25) dX8_takeComparison_24 rfl kiconst_1 ?_
        obtain ⟨y8, hy8, hy⟩ := zt_b hy
        refine zj_V0 (pc' := 28) (z := YX8_fail) (As := [.int 1]) (N := (zui M 3 y8)) dX8_takeComparison_25 rfl mlX8_93 lkX8_fail sh3 ⟨_, _, rfl⟩ rfl rfl (Nat.le_of_ble_eq_true rfl) (Nat.le_of_ble_eq_true rfl) (LX8_fail_3 Γ _ r0 e_i3 1 hy8) (rfl).symm ?_
        refine zj_aload_n (pc' := 29) 1 dX8_takeComparison_28 rfl rfl rfl ?_
        obtain ⟨y9, hy9, hy⟩ := zt_b hy
        refine zj_V0 (pc' := 32) (z := YX8_goOn) (As := []) (N := (zui (zul M 3 y9.2) 3 y9.1)) dX8_takeComparison_29 rfl mlX8_51 lkX8_goOn sh3 ⟨_, _, rfl⟩ rfl rfl (Nat.le_of_ble_eq_true rfl) (Nat.le_of_ble_eq_true rfl) (LX8_goOn_3 Γ _ y8 w0 r0_0 r0_0_0 zr_s (zq_i e_l3) (zr_n rfl e_i1) (zr_n rfl e_i2) hy9) ((zch_i (zm_li rfl) zm_s)).symm ?_
        refine zj_iload_n (pc' := 33) 0 dX8_takeComparison_32 rfl rfl rfl ?_
        have e9 := Option.some.inj hy
        subst e9
        exact zj_iret dX8_takeComparison_33 rfl hq
set_option maxRecDepth 20000 in
theorem LX8_takeComparison_3 (Γ : zG) (M : zM) (r0 : Nat → Int32) (w0 : Nat → Int64) (r0_0 : Nat → Int32) (r0_0_0 : Nat → Int32) (e_i3 : M.1 3 = r0) (e_l3 : M.2 3 = w0) (e_i1 : M.1 1 = r0_0) (e_i2 : M.1 2 = r0_0_0)  {res : Int32 × (Nat → Int32) × (Nat → Int64)} (hy : (fRd_takeComparison r0 w0 r0_0 r0_0_0) = some res) : zK Γ 4 YX8_takeComparison [.ref (zad Γ 3)] M (fun v N => v = some (.int res.1) ∧ N = (zui (zul M 3 res.2.2) 3 res.2.1)) :=
  zK_of (by decide) (Nat.le_of_ble_eq_true rfl) (TX8_takeComparison_3 Γ M r0 w0 r0_0 r0_0_0 e_i3 e_l3 e_i1 e_i2 hy ⟨rfl, rfl⟩)

noncomputable def fSn_readPlain (r0 : Nat → Int32) (r0_0 : Nat → Int32) (r0_1 : Nat → Int32) (r0_2 : Nat → Int32) (r1 : Nat → Int32) (w1 : Nat → Int64) (r1_0 : Nat → Int32) (r1_0_0 : Nat → Int32) (w1_1 : Nat → Int64) (r2 : Nat → Int32) (w2_0 : Nat → Int64) (w2_1 : Nat → Int64) (a3 : Int32) : Option ((Nat → Int32) × (Nat → Int32) × (Nat → Int32) × (Nat → Int32) × (Nat → Int32) × (Nat → Int64)) :=
  (if a3 = 16 then
  (fRd_needCorner r1 w1 w1_1 r2 w2_0).bind (fun (y2 : Int32 × (Nat → Int32)) =>
  zlet y2.1 (fun (x3 : Int32) =>
  (fRd_goOn y2.2 w1 r1_0 r1_0_0).bind (fun (y4 : (Nat → Int32) × (Nat → Int64)) =>
  (fSn_addPart r0 r0_0 r0_1 r0_2 a3 x3 0).bind (fun (y5 : (Nat → Int32) × (Nat → Int32) × (Nat → Int32) × (Nat → Int32)) =>
  some (y5.1, y5.2.1, y5.2.2.1, y5.2.2.2, y4.1, y4.2)))))
  else
  (if a3 = 17 then
  (fRd_needPerson r1 w1 w1_1 r2 w2_1).bind (fun (y7 : Int32 × (Nat → Int32)) =>
  zlet y7.1 (fun (x8 : Int32) =>
  (fRd_goOn y7.2 w1 r1_0 r1_0_0).bind (fun (y9 : (Nat → Int32) × (Nat → Int64)) =>
  (fSn_addPart r0 r0_0 r0_1 r0_2 a3 x8 0).bind (fun (y10 : (Nat → Int32) × (Nat → Int32) × (Nat → Int32) × (Nat → Int32)) =>
  some (y10.1, y10.2.1, y10.2.2.1, y10.2.2.2, y9.1, y9.2)))))
  else
  (if a3 < 18 then
  (fSn_addPart r0 r0_0 r0_1 r0_2 a3 (-1) 0).bind (fun (y12 : (Nat → Int32) × (Nat → Int32) × (Nat → Int32) × (Nat → Int32)) =>
  some (y12.1, y12.2.1, y12.2.2.1, y12.2.2.2, r1, w1))
  else
  (fRd_takeComparison r1 w1 r1_0 r1_0_0).bind (fun (y13 : Int32 × (Nat → Int32) × (Nat → Int64)) =>
  zlet y13.1 (fun (x14 : Int32) =>
  (fRd_takeNumber y13.2.1 y13.2.2 r1_0 r1_0_0 0 999).bind (fun (y15 : Int32 × (Nat → Int32) × (Nat → Int64)) =>
  zlet y15.1 (fun (x16 : Int32) =>
  (fSn_addPart r0 r0_0 r0_1 r0_2 a3 x14 x16).bind (fun (y17 : (Nat → Int32) × (Nat → Int32) × (Nat → Int32) × (Nat → Int32)) =>
  some (y17.1, y17.2.1, y17.2.2.1, y17.2.2.2, y15.2.1, y15.2.2)))))))))

set_option maxRecDepth 20000 in
theorem TX9_readPlain_41_3_5 (Γ : zG) {Q : Option Value → zM → Prop} (M : zM) (r0 : Nat → Int32) (r0_0 : Nat → Int32) (r0_1 : Nat → Int32) (r0_2 : Nat → Int32) (r1 : Nat → Int32) (w1 : Nat → Int64) (r1_0 : Nat → Int32) (r1_0_0 : Nat → Int32) (w1_1 : Nat → Int64) (r2 : Nat → Int32) (w2_0 : Nat → Int64) (w2_1 : Nat → Int64) (e_i41 : M.1 41 = r0) (e_i42 : M.1 42 = r0_0) (e_i43 : M.1 43 = r0_1) (e_i44 : M.1 44 = r0_2) (e_i3 : M.1 3 = r1) (e_l3 : M.2 3 = w1) (e_i1 : M.1 1 = r1_0) (e_i2 : M.1 2 = r1_0_0) (e_l4 : M.2 4 = w1_1) (e_i5 : M.1 5 = r2) (e_l6 : M.2 6 = w2_0) (e_l7 : M.2 7 = w2_1) (a3 : Int32) {res : (Nat → Int32) × (Nat → Int32) × (Nat → Int32) × (Nat → Int32) × (Nat → Int32) × (Nat → Int64)} (hy : (fSn_readPlain r0 r0_0 r0_1 r0_2 r1 w1 r1_0 r1_0_0 w1_1 r2 w2_0 w2_1 a3) = some res) (hq : Q none (zui (zui (zui (zui (zui (zul M 3 res.2.2.2.2.2) 3 res.2.2.2.2.1) 41 res.1) 42 res.2.1) 43 res.2.2.1) 44 res.2.2.2.1)) : zR Γ 5 YX9_readPlain 0 [(0, .ref (zad Γ 41)), (1, .ref (zad Γ 3)), (2, .ref (zad Γ 5)), (3, .int a3)] [] M Q := by
  unfold fSn_readPlain at hy
  refine zj_iconst (pc' := 1) dX9_readPlain_0 rfl kiconst_m1 ?_
  refine zj_istore (pc' := 3) (L' := [(4, .int (-1)), (0, .ref (zad Γ 41)), (1, .ref (zad Γ 3)), (2, .ref (zad Γ 5)), (3, .int a3)]) dX9_readPlain_1 rfl (by decide) rfl ?_
  refine zj_iconst (pc' := 4) dX9_readPlain_3 rfl kiconst_0 ?_
  refine zj_istore (pc' := 6) (L' := [(5, .int 0), (4, .int (-1)), (0, .ref (zad Γ 41)), (1, .ref (zad Γ 3)), (2, .ref (zad Γ 5)), (3, .int a3)]) dX9_readPlain_4 rfl (by decide) rfl ?_
  refine zj_iload_n (pc' := 7) 5 dX9_readPlain_6 rfl rfl rfl ?_
  refine zj_bipush (pc' := 9) dX9_readPlain_7 rfl kbipush_16 ?_
  refine zj_icmp_ne (tgt := 26) (pc' := 12) dX9_readPlain_9 rfl (by decide) (fun c1 => ?_) (fun c1 => ?_)
  · have hy := zt_f hy c1
    refine zj_iload_n (pc' := 27) 5 dX9_readPlain_26 rfl rfl rfl ?_
    refine zj_bipush (pc' := 29) dX9_readPlain_27 rfl kbipush_17 ?_
    refine zj_icmp_ne (tgt := 46) (pc' := 32) dX9_readPlain_29 rfl (by decide) (fun c6 => ?_) (fun c6 => ?_)
    · have hy := zt_f hy c6
      refine zj_iload_n (pc' := 47) 5 dX9_readPlain_46 rfl rfl rfl ?_
      refine zj_bipush (pc' := 49) dX9_readPlain_47 rfl kbipush_18 ?_
      refine zj_icmp_lt (tgt := 68) (pc' := 52) dX9_readPlain_49 rfl (by decide) (fun c11 => ?_) (fun c11 => ?_)
      · have hy := zt_t hy c11
        refine zj_aload_n (pc' := 69) 2 dX9_readPlain_68 rfl rfl rfl ?_
        refine zj_iload_n (pc' := 70) 5 dX9_readPlain_69 rfl rfl rfl ?_
        refine zj_iload (pc' := 72) 1 dX9_readPlain_70 rfl rfl ?_
        refine zj_iload (pc' := 74) 0 dX9_readPlain_72 rfl rfl ?_
        obtain ⟨y12, hy12, hy⟩ := zt_b hy
        refine zj_V0 (pc' := 77) (z := YX9_addPart) (As := [.int a3, .int (-1), .int 0]) (N := (zui (zui (zui (zui M 41 y12.1) 42 y12.2.1) 43 y12.2.2.1) 44 y12.2.2.2)) dX9_readPlain_74 rfl mlX9_115 lkX9_addPart sh41 ⟨_, _, rfl⟩ rfl rfl (Nat.le_of_ble_eq_true rfl) (Nat.le_of_ble_eq_true rfl) (LX9_addPart_41 Γ _ r0 r0_0 r0_1 r0_2 e_i41 e_i42 e_i43 e_i44 a3 (-1) 0 hy12) ((zch_i (zch_i (zch_i rfl rfl) rfl) rfl)).symm ?_
        have e9 := Option.some.inj hy
        subst e9
        refine zj_mem (N := (zui (zui (zui (zui (zul M 3 w1) 41 y12.1) 42 y12.2.1) 43 y12.2.2.1) 44 y12.2.2.2)) (zself_l (zq_i (zq_i (zq_i (zq_i e_l3)))) (zm_li (zm_li (zm_li (zm_li rfl))))) ?_
        refine zj_mem (N := (zui (zui (zui (zui (zui (zul M 3 w1) 3 r1) 41 y12.1) 42 y12.2.1) 43 y12.2.2.1) 44 y12.2.2.2)) (zself_i (zr_n rfl (zr_n rfl (zr_n rfl (zr_n rfl (zr_l e_i3))))) (zm_n rfl (zm_n rfl (zm_n rfl (zm_n rfl rfl))))) ?_
        exact zj_vret dX9_readPlain_77 rfl hq
      · have hy := zt_f hy c11
        refine zj_aload_n (pc' := 53) 3 dX9_readPlain_52 rfl rfl rfl ?_
        obtain ⟨y13, hy13, hy⟩ := zt_b hy
        refine zj_V1 (pc' := 56) (z := YX8_takeComparison) (As := []) (N := (zui (zul M 3 y13.2.2) 3 y13.2.1)) dX9_readPlain_53 rfl mlX9_108 lkX8_takeComparison sh3 ⟨_, _, rfl⟩ rfl rfl (Nat.le_of_ble_eq_true rfl) (Nat.le_of_ble_eq_true rfl) (LX8_takeComparison_3 Γ _ r1 w1 r1_0 r1_0_0 e_i3 e_l3 e_i1 e_i2 hy13) ((zch_i rfl rfl)).symm ?_
        refine zj_topi (fun x14 ex14 => ?_)
        have hy := zlet_at ex14 hy
        refine zj_istore (pc' := 58) (L' := [(4, .int x14), (5, .int 0), (0, .ref (zad Γ 41)), (1, .ref (zad Γ 3)), (2, .ref (zad Γ 5)), (3, .int a3)]) dX9_readPlain_56 rfl (by decide) rfl ?_
        refine zj_aload_n (pc' := 59) 3 dX9_readPlain_58 rfl rfl rfl ?_
        refine zj_iconst (pc' := 60) dX9_readPlain_59 rfl kiconst_0 ?_
        refine zj_sipush (pc' := 63) dX9_readPlain_60 rfl ksipush_999 ?_
        obtain ⟨y15, hy15, hy⟩ := zt_b hy
        refine zj_V1 (pc' := 66) (z := YX8_takeNumber) (As := [.int 0, .int 999]) (N := (zui (zul M 3 y15.2.2) 3 y15.2.1)) dX9_readPlain_63 rfl mlX9_111 lkX8_takeNumber sh3 ⟨_, _, rfl⟩ rfl rfl (Nat.le_of_ble_eq_true rfl) (Nat.le_of_ble_eq_true rfl) (LX8_takeNumber_3 Γ _ y13.2.1 y13.2.2 r1_0 r1_0_0 zr_s (zq_i zq_s) (zr_n rfl (zr_l e_i1)) (zr_n rfl (zr_l e_i2)) 0 999 hy15) ((zch_i (zm_li zn_s) zm_s)).symm ?_
        refine zj_topi (fun x16 ex16 => ?_)
        have hy := zlet_at ex16 hy
        refine zj_istore (pc' := 68) (L' := [(5, .int x16), (4, .int x14), (0, .ref (zad Γ 41)), (1, .ref (zad Γ 3)), (2, .ref (zad Γ 5)), (3, .int a3)]) dX9_readPlain_66 rfl (by decide) rfl ?_
        refine zj_aload_n (pc' := 69) 2 dX9_readPlain_68 rfl rfl rfl ?_
        refine zj_iload_n (pc' := 70) 5 dX9_readPlain_69 rfl rfl rfl ?_
        refine zj_iload (pc' := 72) 1 dX9_readPlain_70 rfl rfl ?_
        refine zj_iload (pc' := 74) 0 dX9_readPlain_72 rfl rfl ?_
        obtain ⟨y17, hy17, hy⟩ := zt_b hy
        refine zj_V0 (pc' := 77) (z := YX9_addPart) (As := [.int a3, .int x14, .int x16]) (N := (zui (zui (zui (zui (zui (zul M 3 y15.2.2) 3 y15.2.1) 41 y17.1) 42 y17.2.1) 43 y17.2.2.1) 44 y17.2.2.2)) dX9_readPlain_74 rfl mlX9_115 lkX9_addPart sh41 ⟨_, _, rfl⟩ rfl rfl (Nat.le_of_ble_eq_true rfl) (Nat.le_of_ble_eq_true rfl) (LX9_addPart_41 Γ _ r0 r0_0 r0_1 r0_2 (zr_n rfl (zr_l e_i41)) (zr_n rfl (zr_l e_i42)) (zr_n rfl (zr_l e_i43)) (zr_n rfl (zr_l e_i44)) a3 x14 x16 hy17) ((zch_i (zch_i (zch_i rfl rfl) rfl) rfl)).symm ?_
        have e9 := Option.some.inj hy
        subst e9
        exact zj_vret dX9_readPlain_77 rfl hq
    · have hy := zt_t hy c6
      refine zj_aload_n (pc' := 33) 3 dX9_readPlain_32 rfl rfl rfl ?_
      refine zj_aload_n (pc' := 34) 4 dX9_readPlain_33 rfl rfl rfl ?_
      obtain ⟨y7, hy7, hy⟩ := zt_b hy
      refine zj_V1 (pc' := 37) (z := YX8_needPerson) (As := [.ref (zad Γ 5)]) (N := (zui M 3 y7.2)) dX9_readPlain_34 rfl mlX9_105 lkX8_needPerson sh3 ⟨_, _, rfl⟩ rfl rfl (Nat.le_of_ble_eq_true rfl) (Nat.le_of_ble_eq_true rfl) (LX8_needPerson_3_5 Γ _ r1 w1 w1_1 r2 w2_1 e_i3 e_l3 e_l4 e_i5 e_l7 hy7) (rfl).symm ?_
      refine zj_topi (fun x8 ex8 => ?_)
      have hy := zlet_at ex8 hy
      refine zj_istore (pc' := 39) (L' := [(4, .int x8), (5, .int 0), (0, .ref (zad Γ 41)), (1, .ref (zad Γ 3)), (2, .ref (zad Γ 5)), (3, .int a3)]) dX9_readPlain_37 rfl (by decide) rfl ?_
      refine zj_aload_n (pc' := 40) 3 dX9_readPlain_39 rfl rfl rfl ?_
      obtain ⟨y9, hy9, hy⟩ := zt_b hy
      refine zj_V0 (pc' := 43) (z := YX8_goOn) (As := []) (N := (zui (zul M 3 y9.2) 3 y9.1)) dX9_readPlain_40 rfl mlX9_88 lkX8_goOn sh3 ⟨_, _, rfl⟩ rfl rfl (Nat.le_of_ble_eq_true rfl) (Nat.le_of_ble_eq_true rfl) (LX8_goOn_3 Γ _ y7.2 w1 r1_0 r1_0_0 zr_s (zq_i e_l3) (zr_n rfl e_i1) (zr_n rfl e_i2) hy9) ((zch_i (zm_li rfl) zm_s)).symm ?_
      refine zj_goto (tgt := 68) dX9_readPlain_43 (by decide) ?_
      refine zj_aload_n (pc' := 69) 2 dX9_readPlain_68 rfl rfl rfl ?_
      refine zj_iload_n (pc' := 70) 5 dX9_readPlain_69 rfl rfl rfl ?_
      refine zj_iload (pc' := 72) 0 dX9_readPlain_70 rfl rfl ?_
      refine zj_iload (pc' := 74) 1 dX9_readPlain_72 rfl rfl ?_
      obtain ⟨y10, hy10, hy⟩ := zt_b hy
      refine zj_V0 (pc' := 77) (z := YX9_addPart) (As := [.int a3, .int x8, .int 0]) (N := (zui (zui (zui (zui (zui (zul M 3 y9.2) 3 y9.1) 41 y10.1) 42 y10.2.1) 43 y10.2.2.1) 44 y10.2.2.2)) dX9_readPlain_74 rfl mlX9_115 lkX9_addPart sh41 ⟨_, _, rfl⟩ rfl rfl (Nat.le_of_ble_eq_true rfl) (Nat.le_of_ble_eq_true rfl) (LX9_addPart_41 Γ _ r0 r0_0 r0_1 r0_2 (zr_n rfl (zr_l e_i41)) (zr_n rfl (zr_l e_i42)) (zr_n rfl (zr_l e_i43)) (zr_n rfl (zr_l e_i44)) a3 x8 0 hy10) ((zch_i (zch_i (zch_i rfl rfl) rfl) rfl)).symm ?_
      have e9 := Option.some.inj hy
      subst e9
      exact zj_vret dX9_readPlain_77 rfl hq
  · have hy := zt_t hy c1
    refine zj_aload_n (pc' := 13) 3 dX9_readPlain_12 rfl rfl rfl ?_
    refine zj_aload_n (pc' := 14) 4 dX9_readPlain_13 rfl rfl rfl ?_
    obtain ⟨y2, hy2, hy⟩ := zt_b hy
    refine zj_V1 (pc' := 17) (z := YX8_needCorner) (As := [.ref (zad Γ 5)]) (N := (zui M 3 y2.2)) dX9_readPlain_14 rfl mlX9_101 lkX8_needCorner sh3 ⟨_, _, rfl⟩ rfl rfl (Nat.le_of_ble_eq_true rfl) (Nat.le_of_ble_eq_true rfl) (LX8_needCorner_3_5 Γ _ r1 w1 w1_1 r2 w2_0 e_i3 e_l3 e_l4 e_i5 e_l6 hy2) (rfl).symm ?_
    refine zj_topi (fun x3 ex3 => ?_)
    have hy := zlet_at ex3 hy
    refine zj_istore (pc' := 19) (L' := [(4, .int x3), (5, .int 0), (0, .ref (zad Γ 41)), (1, .ref (zad Γ 3)), (2, .ref (zad Γ 5)), (3, .int a3)]) dX9_readPlain_17 rfl (by decide) rfl ?_
    refine zj_aload_n (pc' := 20) 3 dX9_readPlain_19 rfl rfl rfl ?_
    obtain ⟨y4, hy4, hy⟩ := zt_b hy
    refine zj_V0 (pc' := 23) (z := YX8_goOn) (As := []) (N := (zui (zul M 3 y4.2) 3 y4.1)) dX9_readPlain_20 rfl mlX9_88 lkX8_goOn sh3 ⟨_, _, rfl⟩ rfl rfl (Nat.le_of_ble_eq_true rfl) (Nat.le_of_ble_eq_true rfl) (LX8_goOn_3 Γ _ y2.2 w1 r1_0 r1_0_0 zr_s (zq_i e_l3) (zr_n rfl e_i1) (zr_n rfl e_i2) hy4) ((zch_i (zm_li rfl) zm_s)).symm ?_
    refine zj_goto (tgt := 68) dX9_readPlain_23 (by decide) ?_
    refine zj_aload_n (pc' := 69) 2 dX9_readPlain_68 rfl rfl rfl ?_
    refine zj_iload_n (pc' := 70) 5 dX9_readPlain_69 rfl rfl rfl ?_
    refine zj_iload (pc' := 72) 0 dX9_readPlain_70 rfl rfl ?_
    refine zj_iload (pc' := 74) 1 dX9_readPlain_72 rfl rfl ?_
    obtain ⟨y5, hy5, hy⟩ := zt_b hy
    refine zj_V0 (pc' := 77) (z := YX9_addPart) (As := [.int a3, .int x3, .int 0]) (N := (zui (zui (zui (zui (zui (zul M 3 y4.2) 3 y4.1) 41 y5.1) 42 y5.2.1) 43 y5.2.2.1) 44 y5.2.2.2)) dX9_readPlain_74 rfl mlX9_115 lkX9_addPart sh41 ⟨_, _, rfl⟩ rfl rfl (Nat.le_of_ble_eq_true rfl) (Nat.le_of_ble_eq_true rfl) (LX9_addPart_41 Γ _ r0 r0_0 r0_1 r0_2 (zr_n rfl (zr_l e_i41)) (zr_n rfl (zr_l e_i42)) (zr_n rfl (zr_l e_i43)) (zr_n rfl (zr_l e_i44)) a3 x3 0 hy5) ((zch_i (zch_i (zch_i rfl rfl) rfl) rfl)).symm ?_
    have e9 := Option.some.inj hy
    subst e9
    exact zj_vret dX9_readPlain_77 rfl hq
set_option maxRecDepth 20000 in
theorem LX9_readPlain_41_3_5 (Γ : zG) (M : zM) (r0 : Nat → Int32) (r0_0 : Nat → Int32) (r0_1 : Nat → Int32) (r0_2 : Nat → Int32) (r1 : Nat → Int32) (w1 : Nat → Int64) (r1_0 : Nat → Int32) (r1_0_0 : Nat → Int32) (w1_1 : Nat → Int64) (r2 : Nat → Int32) (w2_0 : Nat → Int64) (w2_1 : Nat → Int64) (e_i41 : M.1 41 = r0) (e_i42 : M.1 42 = r0_0) (e_i43 : M.1 43 = r0_1) (e_i44 : M.1 44 = r0_2) (e_i3 : M.1 3 = r1) (e_l3 : M.2 3 = w1) (e_i1 : M.1 1 = r1_0) (e_i2 : M.1 2 = r1_0_0) (e_l4 : M.2 4 = w1_1) (e_i5 : M.1 5 = r2) (e_l6 : M.2 6 = w2_0) (e_l7 : M.2 7 = w2_1) (a3 : Int32) {res : (Nat → Int32) × (Nat → Int32) × (Nat → Int32) × (Nat → Int32) × (Nat → Int32) × (Nat → Int64)} (hy : (fSn_readPlain r0 r0_0 r0_1 r0_2 r1 w1 r1_0 r1_0_0 w1_1 r2 w2_0 w2_1 a3) = some res) : zK Γ 5 YX9_readPlain [.ref (zad Γ 41), .ref (zad Γ 3), .ref (zad Γ 5), .int a3] M (fun v N => v = none ∧ N = (zui (zui (zui (zui (zui (zul M 3 res.2.2.2.2.2) 3 res.2.2.2.2.1) 41 res.1) 42 res.2.1) 43 res.2.2.1) 44 res.2.2.2.1)) :=
  zK_of (by decide) (Nat.le_of_ble_eq_true rfl) (TX9_readPlain_41_3_5 Γ M r0 r0_0 r0_1 r0_2 r1 w1 r1_0 r1_0_0 w1_1 r2 w2_0 w2_1 e_i41 e_i42 e_i43 e_i44 e_i3 e_l3 e_i1 e_i2 e_l4 e_i5 e_l6 e_l7 a3 hy ⟨rfl, rfl⟩)

noncomputable def fSn_endOne_L7 (r0_3 : Nat → Int32) (r0v2 : Nat → Int32) (r0_0v3 : Nat → Int32) (r0_1v4 : Nat → Int32) (r0_2v5 : Nat → Int32) (x6 : Int32) : Option (((Nat → Int32) × (Nat → Int32) × (Nat → Int32) × (Nat → Int32) × Int32) ⊕ ((Nat → Int32) × (Nat → Int32) × (Nat → Int32) × (Nat → Int32))) :=
  (if 8 ≤ x6 then
  some (.inr (r0v2, r0_0v3, r0_1v4, r0_2v5))
  else
  (fSn_lastWaiting r0v2 r0_3).bind (fun (y15 : Int32) =>
  (if y15 = 12 then
  (fSn_addPart r0v2 r0_0v3 r0_1v4 r0_2v5 12 (-1) 0).bind (fun (y17 : (Nat → Int32) × (Nat → Int32) × (Nat → Int32) × (Nat → Int32)) =>
  zlet (zup y17.1 6 ((y17.1 6) - 1)) (fun (r0v18 : Nat → Int32) =>
  zlet (zup r0v18 7 ((r0v18 7) - 1)) (fun (r0v19 : Nat → Int32) =>
  zlet (x6 + 1) (fun (x20 : Int32) =>
  some (.inl (r0v19, y17.2.1, y17.2.2.1, y17.2.2.2, x20))))))
  else
  some (.inr (r0v2, r0_0v3, r0_1v4, r0_2v5)))))
noncomputable def fSn_endOne (r0 : Nat → Int32) (r0_0 : Nat → Int32) (r0_1 : Nat → Int32) (r0_2 : Nat → Int32) (r0_3 : Nat → Int32) : Option ((Nat → Int32) × (Nat → Int32) × (Nat → Int32) × (Nat → Int32)) :=
  zlet (zup r0 9 0) (fun (r0v1 : Nat → Int32) =>
  (zLP (fun s => fSn_endOne_L7 r0_3 s.1 s.2.1 s.2.2.1 s.2.2.2.1 s.2.2.2.2) (r0v1, r0_0, r0_1, r0_2, 0)).bind (fun r9 =>
  some (r9.1, r9.2.1, r9.2.2.1, r9.2.2.2)))

set_option maxRecDepth 20000 in
theorem TX9_endOne_41 (Γ : zG) {Q : Option Value → zM → Prop} (M : zM) (r0 : Nat → Int32) (r0_0 : Nat → Int32) (r0_1 : Nat → Int32) (r0_2 : Nat → Int32) (r0_3 : Nat → Int32) (e_i41 : M.1 41 = r0) (e_i42 : M.1 42 = r0_0) (e_i43 : M.1 43 = r0_1) (e_i44 : M.1 44 = r0_2) (e_i45 : M.1 45 = r0_3)  {res : (Nat → Int32) × (Nat → Int32) × (Nat → Int32) × (Nat → Int32)} (hy : (fSn_endOne r0 r0_0 r0_1 r0_2 r0_3) = some res) (hq : Q none (zui (zui (zui (zui M 41 res.1) 42 res.2.1) 43 res.2.2.1) 44 res.2.2.2)) : zR Γ 2 YX9_endOne 0 [(0, .ref (zad Γ 41))] [] M Q := by
  unfold fSn_endOne at hy
  refine zj_aload_n (pc' := 1) 0 dX9_endOne_0 rfl rfl rfl ?_
  refine zj_iconst (pc' := 2) dX9_endOne_1 rfl kiconst_0 ?_
  obtain ⟨r0v1, er0v1⟩ : ∃ z, z = (zup r0 9 0) := ⟨_, rfl⟩
  have hy := zlet_at er0v1 hy
  refine zj_pZ (pc' := 5) (N := (zui M 41 r0v1)) dX9_endOne_2 rfl fpX9_53 sh41 rfl (Or.inl rfl) e_i41 er0v1 rfl ?_
  refine zj_iconst (pc' := 6) dX9_endOne_5 rfl kiconst_0 ?_
  refine zj_istore_n (pc' := 7) (L' := [(1, .int 0), (0, .ref (zad Γ 41))]) dX9_endOne_6 rfl rfl (by decide) rfl ?_
  refine zj_loc [1, 0] rfl ?_
  refine zj_mem (N := (zui (zui M 41 r0v1) 42 r0_0)) (zself_i (zr_n rfl e_i42) rfl) ?_
  refine zj_mem (N := (zui (zui (zui M 41 r0v1) 42 r0_0) 43 r0_1)) (zself_i (zr_n rfl (zr_n rfl e_i43)) rfl) ?_
  refine zj_mem (N := (zui (zui (zui (zui M 41 r0v1) 42 r0_0) 43 r0_1) 44 r0_2)) (zself_i (zr_n rfl (zr_n rfl (zr_n rfl e_i44))) rfl) ?_
  obtain ⟨r9, hr9, hyo10⟩ := zt_b hy
  obtain ⟨n9, hn9⟩ := zLP_some hr9
  have HE7 : ∀ (r0v21 : Nat → Int32) (r0_0v22 : Nat → Int32) (r0_1v23 : Nat → Int32) (r0_2v24 : Nat → Int32), r9 = (r0v21, r0_0v22, r0_1v23, r0_2v24) → zR Γ 2 YX9_endOne 56 [] [] (zui (zui (zui (zui M 41 r0v21) 42 r0_0v22) 43 r0_1v23) 44 r0_2v24) Q := by
    intro r0v21 r0_0v22 r0_1v23 r0_2v24 e9
    have hy := hyo10
    try rw [e9] at hy
    try dsimp only at hy
    have e9 := Option.some.inj hy
    subst e9
    exact zj_vret dX9_endOne_56 rfl hq
  have HL8 : ∀ (n : Nat) (r0v2 : Nat → Int32) (r0_0v3 : Nat → Int32) (r0_1v4 : Nat → Int32) (r0_2v5 : Nat → Int32) (x6 : Int32), zlp (fun s => fSn_endOne_L7 r0_3 s.1 s.2.1 s.2.2.1 s.2.2.2.1 s.2.2.2.2) n (r0v2, r0_0v3, r0_1v4, r0_2v5, x6) = some r9 → zR Γ 2 YX9_endOne 7 [(0, .ref (zad Γ 41)), (1, .int x6)] [] (zui (zui (zui (zui M 41 r0v2) 42 r0_0v3) 43 r0_1v4) 44 r0_2v5) Q := by
    intro n
    induction n with
    | zero => intro r0v2 r0_0v3 r0_1v4 r0_2v5 x6 hn9; cases hn9
    | succ n ih11 =>
      intro r0v2 r0_0v3 r0_1v4 r0_2v5 x6 hn9
      obtain ⟨o9, hb9, h12, h13⟩ := zlp_step hn9
      have hy : fSn_endOne_L7 r0_3 r0v2 r0_0v3 r0_1v4 r0_2v5 x6 = some o9 := hb9
      unfold fSn_endOne_L7 at hy
      refine zj_iload_n (pc' := 8) 1 dX9_endOne_7 rfl rfl rfl ?_
      refine zj_bipush (pc' := 10) dX9_endOne_8 rfl kbipush_8 ?_
      refine zj_icmp_ge (tgt := 56) (pc' := 13) dX9_endOne_10 rfl (by decide) (fun c14 => ?_) (fun c14 => ?_)
      · have hy := zt_t hy c14
        have e9 := h13 _ (Option.some.inj hy).symm
        refine zj_loc [] rfl ?_
        exact HE7 _ _ _ _ e9.symm
      · have hy := zt_f hy c14
        refine zj_aload_n (pc' := 14) 0 dX9_endOne_13 rfl rfl rfl ?_
        obtain ⟨y15, hy15, hy⟩ := zt_b hy
        refine zj_V1 (pc' := 17) (z := YX9_lastWaiting) (As := []) (N := (zui (zui (zui (zui M 41 r0v2) 42 r0_0v3) 43 r0_1v4) 44 r0_2v5)) dX9_endOne_14 rfl mlX9_122 lkX9_lastWaiting sh41 ⟨_, _, rfl⟩ rfl rfl (Nat.le_of_ble_eq_true rfl) (Nat.le_of_ble_eq_true rfl) (LX9_lastWaiting_41 Γ _ r0v2 r0_3 (zr_n rfl (zr_n rfl (zr_n rfl zr_s))) (zr_n rfl (zr_n rfl (zr_n rfl (zr_n rfl e_i45)))) hy15) rfl ?_
        refine zj_bipush (pc' := 19) dX9_endOne_17 rfl kbipush_12 ?_
        refine zj_icmp_ne (tgt := 56) (pc' := 22) dX9_endOne_19 rfl (by decide) (fun c16 => ?_) (fun c16 => ?_)
        · have hy := zt_f hy c16
          have e9 := h13 _ (Option.some.inj hy).symm
          refine zj_loc [] rfl ?_
          exact HE7 _ _ _ _ e9.symm
        · have hy := zt_t hy c16
          refine zj_aload_n (pc' := 23) 0 dX9_endOne_22 rfl rfl rfl ?_
          refine zj_bipush (pc' := 25) dX9_endOne_23 rfl kbipush_12 ?_
          refine zj_iconst (pc' := 26) dX9_endOne_25 rfl kiconst_m1 ?_
          refine zj_iconst (pc' := 27) dX9_endOne_26 rfl kiconst_0 ?_
          obtain ⟨y17, hy17, hy⟩ := zt_b hy
          refine zj_V0 (pc' := 30) (z := YX9_addPart) (As := [.int 12, .int (-1), .int 0]) (N := (zui (zui (zui (zui M 41 y17.1) 42 y17.2.1) 43 y17.2.2.1) 44 y17.2.2.2)) dX9_endOne_27 rfl mlX9_115 lkX9_addPart sh41 ⟨_, _, rfl⟩ rfl rfl (Nat.le_of_ble_eq_true rfl) (Nat.le_of_ble_eq_true rfl) (LX9_addPart_41 Γ _ r0v2 r0_0v3 r0_1v4 r0_2v5 (zr_n rfl (zr_n rfl (zr_n rfl zr_s))) (zr_n rfl (zr_n rfl zr_s)) (zr_n rfl zr_s) zr_s 12 (-1) 0 hy17) ((zch_i (zch_i (zch_i (zm_n rfl (zm_n rfl (zm_n rfl zm_s))) (zm_n rfl (zm_n rfl zm_s))) (zm_n rfl zm_s)) zm_s)).symm ?_
          refine zj_aload_n (pc' := 31) 0 dX9_endOne_30 rfl rfl rfl ?_
          refine zj_dup (pc' := 32) dX9_endOne_31 rfl rfl ?_
          refine zj_fI (pc' := 35) dX9_endOne_32 rfl flX9_38 sh41 rfl (zr_n rfl (zr_n rfl (zr_n rfl zr_s))) rfl ?_
          refine zj_iconst (pc' := 36) dX9_endOne_35 rfl kiconst_1 ?_
          refine zj_isub (pc' := 37) dX9_endOne_36 rfl ?_
          obtain ⟨r0v18, er0v18⟩ : ∃ z, z = (zup y17.1 6 ((y17.1 6) - 1)) := ⟨_, rfl⟩
          have hy := zlet_at er0v18 hy
          refine zj_pI (pc' := 40) (N := (zui (zui (zui (zui M 41 r0v18) 42 y17.2.1) 43 y17.2.2.1) 44 y17.2.2.2)) dX9_endOne_37 rfl fpX9_38 sh41 rfl (zr_n rfl (zr_n rfl (zr_n rfl zr_s))) er0v18 (zm_n rfl (zm_n rfl (zm_n rfl zm_s))) ?_
          refine zj_aload_n (pc' := 41) 0 dX9_endOne_40 rfl rfl rfl ?_
          refine zj_dup (pc' := 42) dX9_endOne_41 rfl rfl ?_
          refine zj_fI (pc' := 45) dX9_endOne_42 rfl flX9_41 sh41 rfl (zr_n rfl (zr_n rfl (zr_n rfl zr_s))) rfl ?_
          refine zj_iconst (pc' := 46) dX9_endOne_45 rfl kiconst_1 ?_
          refine zj_isub (pc' := 47) dX9_endOne_46 rfl ?_
          obtain ⟨r0v19, er0v19⟩ : ∃ z, z = (zup r0v18 7 ((r0v18 7) - 1)) := ⟨_, rfl⟩
          have hy := zlet_at er0v19 hy
          refine zj_pI (pc' := 50) (N := (zui (zui (zui (zui M 41 r0v19) 42 y17.2.1) 43 y17.2.2.1) 44 y17.2.2.2)) dX9_endOne_47 rfl fpX9_41 sh41 rfl (zr_n rfl (zr_n rfl (zr_n rfl zr_s))) er0v19 (zm_n rfl (zm_n rfl (zm_n rfl zm_s))) ?_
          obtain ⟨x20, ex20⟩ : ∃ z : Int32, z = (x6 + 1) := ⟨_, rfl⟩
          have hy := zlet_at ex20 hy
          refine zj_iinc (pc' := 53) 1 (L' := [(1, .int x20), (0, .ref (zad Γ 41))]) dX9_endOne_50 rfl rfl (by decide) (by rw [ci1, ← ex20]; rfl) ?_
          refine zj_goto (tgt := 7) dX9_endOne_53 (by decide) ?_
          have hn9 := h12 _ (Option.some.inj hy).symm
          refine zj_loc [1, 0] rfl ?_
          exact ih11 _ _ _ _ _ hn9
  exact HL8 n9 _ _ _ _ _ hn9
set_option maxRecDepth 20000 in
theorem LX9_endOne_41 (Γ : zG) (M : zM) (r0 : Nat → Int32) (r0_0 : Nat → Int32) (r0_1 : Nat → Int32) (r0_2 : Nat → Int32) (r0_3 : Nat → Int32) (e_i41 : M.1 41 = r0) (e_i42 : M.1 42 = r0_0) (e_i43 : M.1 43 = r0_1) (e_i44 : M.1 44 = r0_2) (e_i45 : M.1 45 = r0_3)  {res : (Nat → Int32) × (Nat → Int32) × (Nat → Int32) × (Nat → Int32)} (hy : (fSn_endOne r0 r0_0 r0_1 r0_2 r0_3) = some res) : zK Γ 2 YX9_endOne [.ref (zad Γ 41)] M (fun v N => v = none ∧ N = (zui (zui (zui (zui M 41 res.1) 42 res.2.1) 43 res.2.2.1) 44 res.2.2.2)) :=
  zK_of (by decide) (Nat.le_of_ble_eq_true rfl) (TX9_endOne_41 Γ M r0 r0_0 r0_1 r0_2 r0_3 e_i41 e_i42 e_i43 e_i44 e_i45 hy ⟨rfl, rfl⟩)

noncomputable def fSn_readOne (r0 : Nat → Int32) (r0_0 : Nat → Int32) (r0_1 : Nat → Int32) (r0_2 : Nat → Int32) (r0_3 : Nat → Int32) (r1 : Nat → Int32) (w1 : Nat → Int64) (r1_0 : Nat → Int32) (r1_0_0 : Nat → Int32) (w1_1 : Nat → Int64) (r2 : Nat → Int32) (w2_0 : Nat → Int64) (w2_1 : Nat → Int64) : Option ((Nat → Int32) × (Nat → Int32) × (Nat → Int32) × (Nat → Int32) × (Nat → Int32) × (Nat → Int32) × (Nat → Int64)) :=
  (fRd_toldWord r1 w1 w1_1).bind (fun (y1 : Int32) =>
  zlet (fun (r1v2 : Nat → Int32) =>
  zlet (fun (r1v3 : Nat → Int32) =>
  zlet (zup r0 8 ((r0 8) + 1)) (fun (r0v4 : Nat → Int32) =>
  (fRd_goOn r1v3 w1 r1_0 r1_0_0).bind (fun (y5 : (Nat → Int32) × (Nat → Int64)) =>
  zlet (fun (u9 : Unit) =>
  (fSn_addWaiting r0v4 r0_3 (if (fRd_isSign r1 40) = true then (22 : Int32) else (12 : Int32))).bind (fun (y8 : (Nat → Int32) × (Nat → Int32)) =>
  zlet (zup y8.1 7 ((y8.1 7) + 1)) (fun (r0v9 : Nat → Int32) =>
  some (r0v9, r0_0, r0_1, r0_2, y8.2, y5.1, y5.2)))) (fun J10 =>
  (if (fRd_isSign r1 40) = true then
  J10 ()
  else
  (if y1 = 12 then
  J10 ()
  else
  (fSn_readPlain r0v4 r0_0 r0_1 r0_2 y5.1 y5.2 r1_0 r1_0_0 w1_1 r2 w2_0 w2_1 y1).bind (fun (y13 : (Nat → Int32) × (Nat → Int32) × (Nat → Int32) × (Nat → Int32) × (Nat → Int32) × (Nat → Int64)) =>
  (fSn_endOne y13.1 y13.2.1 y13.2.2.1 y13.2.2.2.1 r0_3).bind (fun (y14 : (Nat → Int32) × (Nat → Int32) × (Nat → Int32) × (Nat → Int32)) =>
  some (y14.1, y14.2.1, y14.2.2.1, y14.2.2.2, r0_3, y13.2.2.2.2.1, y13.2.2.2.2.2))))))))) (fun J15 =>
  zlet (fun (u9 : Unit) =>
  (fRd_fail r1v2 4).bind (fun (y16 : (Nat → Int32)) =>
  J15 y16)) (fun J17 =>
  (if 20 ≤ (r0 8) then
  J17 ()
  else
  (if (r0 7) < 8 then
  J15 r1v2
  else
  J17 ()))))) (fun J20 =>
  (if (fRd_isSign r1 40) = true then
  J20 r1
  else
  (if 12 ≤ y1 then
  J20 r1
  else
  (fRd_fail r1 1).bind (fun (y23 : (Nat → Int32)) =>
  J20 y23)))))

set_option maxRecDepth 20000 in
theorem TX9_readOne_41_3_5 (Γ : zG) {Q : Option Value → zM → Prop} (M : zM) (r0 : Nat → Int32) (r0_0 : Nat → Int32) (r0_1 : Nat → Int32) (r0_2 : Nat → Int32) (r0_3 : Nat → Int32) (r1 : Nat → Int32) (w1 : Nat → Int64) (r1_0 : Nat → Int32) (r1_0_0 : Nat → Int32) (w1_1 : Nat → Int64) (r2 : Nat → Int32) (w2_0 : Nat → Int64) (w2_1 : Nat → Int64) (e_i41 : M.1 41 = r0) (e_i42 : M.1 42 = r0_0) (e_i43 : M.1 43 = r0_1) (e_i44 : M.1 44 = r0_2) (e_i45 : M.1 45 = r0_3) (e_i3 : M.1 3 = r1) (e_l3 : M.2 3 = w1) (e_i1 : M.1 1 = r1_0) (e_i2 : M.1 2 = r1_0_0) (e_l4 : M.2 4 = w1_1) (e_i5 : M.1 5 = r2) (e_l6 : M.2 6 = w2_0) (e_l7 : M.2 7 = w2_1)  {res : (Nat → Int32) × (Nat → Int32) × (Nat → Int32) × (Nat → Int32) × (Nat → Int32) × (Nat → Int32) × (Nat → Int64)} (hy : (fSn_readOne r0 r0_0 r0_1 r0_2 r0_3 r1 w1 r1_0 r1_0_0 w1_1 r2 w2_0 w2_1) = some res) (hq : Q none (zui (zui (zui (zui (zui (zui (zul M 3 res.2.2.2.2.2.2) 3 res.2.2.2.2.2.1) 41 res.1) 42 res.2.1) 43 res.2.2.1) 44 res.2.2.2.1) 45 res.2.2.2.2.1)) : zR Γ 6 YX9_readOne 0 [(0, .ref (zad Γ 41)), (1, .ref (zad Γ 3)), (2, .ref (zad Γ 5))] [] M Q := by
  unfold fSn_readOne at hy
  refine zj_aload_n (pc' := 1) 1 dX9_readOne_0 rfl rfl rfl ?_
  obtain ⟨y1, hy1, hy⟩ := zt_b hy
  refine zj_V1 (pc' := 4) (z := YX8_toldWord) (As := []) (N := M) dX9_readOne_1 rfl mlX9_77 lkX8_toldWord sh3 ⟨_, _, rfl⟩ rfl rfl (Nat.le_of_ble_eq_true rfl) (Nat.le_of_ble_eq_true rfl) (LX8_toldWord_3 Γ _ r1 w1 w1_1 e_i3 e_l3 e_l4 hy1) rfl ?_
  refine zj_istore_n (pc' := 5) (L' := [(3, .int y1), (0, .ref (zad Γ 41)), (1, .ref (zad Γ 3)), (2, .ref (zad Γ 5))]) dX9_readOne_4 rfl rfl (by decide) rfl ?_
  refine zj_aload_n (pc' := 6) 2 dX9_readOne_5 rfl rfl rfl ?_
  refine zj_bipush (pc' := 8) dX9_readOne_6 rfl kbipush_40 ?_
  refine zj_V1 (pc' := 11) (z := YX8_isSign) (As := [.int 40]) (N := M) dX9_readOne_8 rfl mlX9_81 lkX8_isSign sh3 ⟨_, _, rfl⟩ rfl rfl (Nat.le_of_ble_eq_true rfl) (Nat.le_of_ble_eq_true rfl) (LX8_isSign_3 Γ _ r1 e_i3 40 rfl) rfl ?_
  refine zj_istore (pc' := 13) (L' := [(4, .int (zb (fRd_isSign r1 40))), (3, .int y1), (0, .ref (zad Γ 41)), (1, .ref (zad Γ 3)), (2, .ref (zad Γ 5))]) dX9_readOne_11 rfl (by decide) rfl ?_
  refine zj_iload (pc' := 15) 0 dX9_readOne_13 rfl rfl ?_
  obtain ⟨J20, eJ20, hy⟩ := zlet_ex hy
  have HJ20 : ∀ (r1v2 : Nat → Int32), J20 r1v2 = some res → zR Γ 6 YX9_readOne 29 [(0, .ref (zad Γ 41)), (1, .ref (zad Γ 3)), (2, .ref (zad Γ 5)), (3, .int y1), (4, .int (zb (fRd_isSign r1 40)))] [] (zui M 3 r1v2) Q := by
    intro r1v2 hy
    have hy := zap1 eJ20 hy
    refine zj_aload_n (pc' := 30) 0 dX9_readOne_29 rfl rfl rfl ?_
    refine zj_fI (pc' := 33) dX9_readOne_30 rfl flX9_31 sh41 rfl (zr_n rfl e_i41) rfl ?_
    refine zj_bipush (pc' := 35) dX9_readOne_33 rfl kbipush_20 ?_
    obtain ⟨J15, eJ15, hy⟩ := zlet_ex hy
    have HJ15 : ∀ (r1v3 : Nat → Int32), J15 r1v3 = some res → zR Γ 6 YX9_readOne 52 [(0, .ref (zad Γ 41)), (1, .ref (zad Γ 3)), (2, .ref (zad Γ 5)), (3, .int y1), (4, .int (zb (fRd_isSign r1 40)))] [] (zui M 3 r1v3) Q := by
      intro r1v3 hy
      have hy := zap1 eJ15 hy
      refine zj_aload_n (pc' := 53) 0 dX9_readOne_52 rfl rfl rfl ?_
      refine zj_dup (pc' := 54) dX9_readOne_53 rfl rfl ?_
      refine zj_fI (pc' := 57) dX9_readOne_54 rfl flX9_31 sh41 rfl (zr_n rfl e_i41) rfl ?_
      refine zj_iconst (pc' := 58) dX9_readOne_57 rfl kiconst_1 ?_
      refine zj_iadd (pc' := 59) dX9_readOne_58 rfl ?_
      obtain ⟨r0v4, er0v4⟩ : ∃ z, z = (zup r0 8 ((r0 8) + 1)) := ⟨_, rfl⟩
      have hy := zlet_at er0v4 hy
      refine zj_pI (pc' := 62) (N := (zui (zui M 3 r1v3) 41 r0v4)) dX9_readOne_59 rfl fpX9_31 sh41 rfl (zr_n rfl e_i41) er0v4 rfl ?_
      refine zj_aload_n (pc' := 63) 1 dX9_readOne_62 rfl rfl rfl ?_
      obtain ⟨y5, hy5, hy⟩ := zt_b hy
      refine zj_V0 (pc' := 66) (z := YX8_goOn) (As := []) (N := (zui (zui (zul M 3 y5.2) 3 y5.1) 41 r0v4)) dX9_readOne_63 rfl mlX9_88 lkX8_goOn sh3 ⟨_, _, rfl⟩ rfl rfl (Nat.le_of_ble_eq_true rfl) (Nat.le_of_ble_eq_true rfl) (LX8_goOn_3 Γ _ r1v3 w1 r1_0 r1_0_0 (zr_n rfl zr_s) (zq_i (zq_i e_l3)) (zr_n rfl (zr_n rfl e_i1)) (zr_n rfl (zr_n rfl e_i2)) hy5) ((zch_i (zm_li (zm_li rfl)) (zm_n rfl zm_s))).symm ?_
      refine zj_iload (pc' := 68) 4 dX9_readOne_66 rfl rfl ?_
      obtain ⟨J10, eJ10, hy⟩ := zlet_ex hy
      have HJ10 : ∀ (u9 : Unit), J10 u9 = some res → zR Γ 6 YX9_readOne 77 [(0, .ref (zad Γ 41)), (4, .int (zb (fRd_isSign r1 40)))] [] (zui (zui (zul M 3 y5.2) 3 y5.1) 41 r0v4) Q := by
        intro u9 hy
        have hy := zap1 eJ10 hy
        refine zj_aload_n (pc' := 78) 0 dX9_readOne_77 rfl rfl rfl ?_
        refine zj_iload (pc' := 80) 1 dX9_readOne_78 rfl rfl ?_
        have HJ6 : zR Γ 6 YX9_readOne 90 [(0, .ref (zad Γ 41)), (4, .int (zb (fRd_isSign r1 40)))] [.int (if (fRd_isSign r1 40) = true then (22 : Int32) else (12 : Int32)), .ref (zad Γ 41)] (zui (zui (zul M 3 y5.2) 3 y5.1) 41 r0v4) Q := by
          obtain ⟨y8, hy8, hy⟩ := zt_b hy
          refine zj_V0 (pc' := 93) (z := YX9_addWaiting) (As := [.int (if (fRd_isSign r1 40) = true then (22 : Int32) else (12 : Int32))]) (N := (zui (zui (zui (zul M 3 y5.2) 3 y5.1) 41 y8.1) 45 y8.2)) dX9_readOne_90 rfl mlX9_91 lkX9_addWaiting sh41 ⟨_, _, rfl⟩ rfl rfl (Nat.le_of_ble_eq_true rfl) (Nat.le_of_ble_eq_true rfl) (LX9_addWaiting_41 Γ _ r0v4 r0_3 zr_s (zr_n rfl (zr_n rfl (zr_l e_i45))) (if (fRd_isSign r1 40) = true then (22 : Int32) else (12 : Int32)) hy8) ((zch_i zm_s rfl)).symm ?_
          refine zj_aload_n (pc' := 94) 0 dX9_readOne_93 rfl rfl rfl ?_
          refine zj_dup (pc' := 95) dX9_readOne_94 rfl rfl ?_
          refine zj_fI (pc' := 98) dX9_readOne_95 rfl flX9_41 sh41 rfl (zr_n rfl zr_s) rfl ?_
          refine zj_iconst (pc' := 99) dX9_readOne_98 rfl kiconst_1 ?_
          refine zj_iadd (pc' := 100) dX9_readOne_99 rfl ?_
          obtain ⟨r0v9, er0v9⟩ : ∃ z, z = (zup y8.1 7 ((y8.1 7) + 1)) := ⟨_, rfl⟩
          have hy := zlet_at er0v9 hy
          refine zj_pI (pc' := 103) (N := (zui (zui (zui (zul M 3 y5.2) 3 y5.1) 41 r0v9) 45 y8.2)) dX9_readOne_100 rfl fpX9_41 sh41 rfl (zr_n rfl zr_s) er0v9 (zm_n rfl zm_s) ?_
          refine zj_goto (tgt := 117) dX9_readOne_103 (by decide) ?_
          have e9 := Option.some.inj hy
          subst e9
          refine zj_mem (N := (zui (zui (zui (zui (zul M 3 y5.2) 3 y5.1) 41 r0v9) 42 r0_0) 45 y8.2)) (zself_i (zr_n rfl (zr_n rfl (zr_n rfl (zr_l e_i42)))) (zm_n rfl rfl)) ?_
          refine zj_mem (N := (zui (zui (zui (zui (zui (zul M 3 y5.2) 3 y5.1) 41 r0v9) 42 r0_0) 43 r0_1) 45 y8.2)) (zself_i (zr_n rfl (zr_n rfl (zr_n rfl (zr_n rfl (zr_l e_i43))))) (zm_n rfl rfl)) ?_
          refine zj_mem (N := (zui (zui (zui (zui (zui (zui (zul M 3 y5.2) 3 y5.1) 41 r0v9) 42 r0_0) 43 r0_1) 44 r0_2) 45 y8.2)) (zself_i (zr_n rfl (zr_n rfl (zr_n rfl (zr_n rfl (zr_n rfl (zr_l e_i44)))))) (zm_n rfl rfl)) ?_
          exact zj_vret dX9_readOne_117 rfl hq
        refine zj_bif_eq (tgt := 88) (pc' := 83) dX9_readOne_80 rfl (by decide) (fun c7 => ?_) (fun c7 => ?_)
        · refine zj_bipush (pc' := 90) dX9_readOne_88 rfl kbipush_12 ?_
          exact zj_eqi (if_neg c7) HJ6
        · refine zj_bipush (pc' := 85) dX9_readOne_83 rfl kbipush_22 ?_
          refine zj_goto (tgt := 90) dX9_readOne_85 (by decide) ?_
          exact zj_eqi (if_pos c7) HJ6
      refine zj_bif_ne (tgt := 77) (pc' := 71) dX9_readOne_68 rfl (by decide) (fun c11 => ?_) (fun c11 => ?_)
      · have hy := zt_t hy c11
        refine zj_loc [0, 4] rfl ?_
        exact HJ10 () hy
      · have hy := zt_f hy c11
        refine zj_iload_n (pc' := 72) 3 dX9_readOne_71 rfl rfl rfl ?_
        refine zj_bipush (pc' := 74) dX9_readOne_72 rfl kbipush_12 ?_
        refine zj_icmp_ne (tgt := 106) (pc' := 77) dX9_readOne_74 rfl (by decide) (fun c12 => ?_) (fun c12 => ?_)
        · have hy := zt_f hy c12
          refine zj_aload_n (pc' := 107) 0 dX9_readOne_106 rfl rfl rfl ?_
          refine zj_aload_n (pc' := 108) 1 dX9_readOne_107 rfl rfl rfl ?_
          refine zj_aload_n (pc' := 109) 2 dX9_readOne_108 rfl rfl rfl ?_
          refine zj_iload_n (pc' := 110) 3 dX9_readOne_109 rfl rfl rfl ?_
          obtain ⟨y13, hy13, hy⟩ := zt_b hy
          refine zj_V0 (pc' := 113) (z := YX9_readPlain) (As := [.ref (zad Γ 3), .ref (zad Γ 5), .int y1]) (N := (zui (zui (zui (zui (zui (zul M 3 y13.2.2.2.2.2) 3 y13.2.2.2.2.1) 41 y13.1) 42 y13.2.1) 43 y13.2.2.1) 44 y13.2.2.2.1)) dX9_readOne_110 rfl mlX9_94 lkX9_readPlain sh41 ⟨_, _, rfl⟩ rfl rfl (Nat.le_of_ble_eq_true rfl) (Nat.le_of_ble_eq_true rfl) (LX9_readPlain_41_3_5 Γ _ r0v4 r0_0 r0_1 r0_2 y5.1 y5.2 r1_0 r1_0_0 w1_1 r2 w2_0 w2_1 zr_s (zr_n rfl (zr_n rfl (zr_l e_i42))) (zr_n rfl (zr_n rfl (zr_l e_i43))) (zr_n rfl (zr_n rfl (zr_l e_i44))) (zr_n rfl zr_s) (zq_i (zq_i zq_s)) (zr_n rfl (zr_n rfl (zr_l e_i1))) (zr_n rfl (zr_n rfl (zr_l e_i2))) (zq_i (zq_i (zq_n rfl e_l4))) (zr_n rfl (zr_n rfl (zr_l e_i5))) (zq_i (zq_i (zq_n rfl e_l6))) (zq_i (zq_i (zq_n rfl e_l7))) y1 hy13) ((zch_i (zch_i (zch_i (zch_i (zch_i (zm_li (zm_li zn_s)) (zm_n rfl zm_s)) zm_s) rfl) rfl) rfl)).symm ?_
          refine zj_aload_n (pc' := 114) 0 dX9_readOne_113 rfl rfl rfl ?_
          obtain ⟨y14, hy14, hy⟩ := zt_b hy
          refine zj_V0 (pc' := 117) (z := YX9_endOne) (As := []) (N := (zui (zui (zui (zui (zui (zul M 3 y13.2.2.2.2.2) 3 y13.2.2.2.2.1) 41 y14.1) 42 y14.2.1) 43 y14.2.2.1) 44 y14.2.2.2)) dX9_readOne_114 rfl mlX9_98 lkX9_endOne sh41 ⟨_, _, rfl⟩ rfl rfl (Nat.le_of_ble_eq_true rfl) (Nat.le_of_ble_eq_true rfl) (LX9_endOne_41 Γ _ y13.1 y13.2.1 y13.2.2.1 y13.2.2.2.1 r0_3 (zr_n rfl (zr_n rfl (zr_n rfl zr_s))) (zr_n rfl (zr_n rfl zr_s)) (zr_n rfl zr_s) zr_s (zr_n rfl (zr_n rfl (zr_n rfl (zr_n rfl (zr_n rfl (zr_l e_i45)))))) hy14) ((zch_i (zch_i (zch_i (zm_n rfl (zm_n rfl (zm_n rfl zm_s))) (zm_n rfl (zm_n rfl zm_s))) (zm_n rfl zm_s)) zm_s)).symm ?_
          have e9 := Option.some.inj hy
          subst e9
          refine zj_mem (N := (zui (zui (zui (zui (zui (zui (zul M 3 y13.2.2.2.2.2) 3 y13.2.2.2.2.1) 41 y14.1) 42 y14.2.1) 43 y14.2.2.1) 44 y14.2.2.2) 45 r0_3)) (zself_i (zr_n rfl (zr_n rfl (zr_n rfl (zr_n rfl (zr_n rfl (zr_l e_i45)))))) rfl) ?_
          exact zj_vret dX9_readOne_117 rfl hq
        · have hy := zt_t hy c12
          refine zj_loc [0, 4] rfl ?_
          exact HJ10 () hy
    obtain ⟨J17, eJ17, hy⟩ := zlet_ex hy
    have HJ17 : ∀ (u9 : Unit), J17 u9 = some res → zR Γ 6 YX9_readOne 47 [(0, .ref (zad Γ 41)), (1, .ref (zad Γ 3)), (2, .ref (zad Γ 5)), (3, .int y1), (4, .int (zb (fRd_isSign r1 40)))] [] (zui M 3 r1v2) Q := by
      intro u9 hy
      have hy := zap1 eJ17 hy
      refine zj_aload_n (pc' := 48) 1 dX9_readOne_47 rfl rfl rfl ?_
      refine zj_iconst (pc' := 49) dX9_readOne_48 rfl kiconst_4 ?_
      obtain ⟨y16, hy16, hy⟩ := zt_b hy
      refine zj_V0 (pc' := 52) (z := YX8_fail) (As := [.int 4]) (N := (zui M 3 y16)) dX9_readOne_49 rfl mlX9_85 lkX8_fail sh3 ⟨_, _, rfl⟩ rfl rfl (Nat.le_of_ble_eq_true rfl) (Nat.le_of_ble_eq_true rfl) (LX8_fail_3 Γ _ r1v2 zr_s 4 hy16) (zm_s).symm ?_
      exact HJ15 y16 hy
    refine zj_icmp_ge (tgt := 47) (pc' := 38) dX9_readOne_35 rfl (by decide) (fun c18 => ?_) (fun c18 => ?_)
    · have hy := zt_t hy c18
      exact HJ17 () hy
    · have hy := zt_f hy c18
      refine zj_aload_n (pc' := 39) 0 dX9_readOne_38 rfl rfl rfl ?_
      refine zj_fI (pc' := 42) dX9_readOne_39 rfl flX9_41 sh41 rfl (zr_n rfl e_i41) rfl ?_
      refine zj_bipush (pc' := 44) dX9_readOne_42 rfl kbipush_8 ?_
      refine zj_icmp_lt (tgt := 52) (pc' := 47) dX9_readOne_44 rfl (by decide) (fun c19 => ?_) (fun c19 => ?_)
      · have hy := zt_t hy c19
        exact HJ15 r1v2 hy
      · have hy := zt_f hy c19
        exact HJ17 () hy
  refine zj_bif_ne (tgt := 29) (pc' := 18) dX9_readOne_15 rfl (by decide) (fun c21 => ?_) (fun c21 => ?_)
  · have hy := zt_t hy c21
    refine zj_loc [2, 3, 4, 1, 0] rfl ?_
    refine zj_mem (N := (zui M 3 r1)) (zself_i e_i3 rfl) ?_
    exact HJ20 r1 hy
  · have hy := zt_f hy c21
    refine zj_iload_n (pc' := 19) 1 dX9_readOne_18 rfl rfl rfl ?_
    refine zj_bipush (pc' := 21) dX9_readOne_19 rfl kbipush_12 ?_
    refine zj_icmp_ge (tgt := 29) (pc' := 24) dX9_readOne_21 rfl (by decide) (fun c22 => ?_) (fun c22 => ?_)
    · have hy := zt_t hy c22
      refine zj_loc [2, 3, 4, 1, 0] rfl ?_
      refine zj_mem (N := (zui M 3 r1)) (zself_i e_i3 rfl) ?_
      exact HJ20 r1 hy
    · have hy := zt_f hy c22
      refine zj_aload_n (pc' := 25) 3 dX9_readOne_24 rfl rfl rfl ?_
      refine zj_iconst (pc' := 26) dX9_readOne_25 rfl kiconst_1 ?_
      obtain ⟨y23, hy23, hy⟩ := zt_b hy
      refine zj_V0 (pc' := 29) (z := YX8_fail) (As := [.int 1]) (N := (zui M 3 y23)) dX9_readOne_26 rfl mlX9_85 lkX8_fail sh3 ⟨_, _, rfl⟩ rfl rfl (Nat.le_of_ble_eq_true rfl) (Nat.le_of_ble_eq_true rfl) (LX8_fail_3 Γ _ r1 e_i3 1 hy23) (rfl).symm ?_
      refine zj_loc [2, 3, 4, 1, 0] rfl ?_
      exact HJ20 y23 hy
set_option maxRecDepth 20000 in
theorem LX9_readOne_41_3_5 (Γ : zG) (M : zM) (r0 : Nat → Int32) (r0_0 : Nat → Int32) (r0_1 : Nat → Int32) (r0_2 : Nat → Int32) (r0_3 : Nat → Int32) (r1 : Nat → Int32) (w1 : Nat → Int64) (r1_0 : Nat → Int32) (r1_0_0 : Nat → Int32) (w1_1 : Nat → Int64) (r2 : Nat → Int32) (w2_0 : Nat → Int64) (w2_1 : Nat → Int64) (e_i41 : M.1 41 = r0) (e_i42 : M.1 42 = r0_0) (e_i43 : M.1 43 = r0_1) (e_i44 : M.1 44 = r0_2) (e_i45 : M.1 45 = r0_3) (e_i3 : M.1 3 = r1) (e_l3 : M.2 3 = w1) (e_i1 : M.1 1 = r1_0) (e_i2 : M.1 2 = r1_0_0) (e_l4 : M.2 4 = w1_1) (e_i5 : M.1 5 = r2) (e_l6 : M.2 6 = w2_0) (e_l7 : M.2 7 = w2_1)  {res : (Nat → Int32) × (Nat → Int32) × (Nat → Int32) × (Nat → Int32) × (Nat → Int32) × (Nat → Int32) × (Nat → Int64)} (hy : (fSn_readOne r0 r0_0 r0_1 r0_2 r0_3 r1 w1 r1_0 r1_0_0 w1_1 r2 w2_0 w2_1) = some res) : zK Γ 6 YX9_readOne [.ref (zad Γ 41), .ref (zad Γ 3), .ref (zad Γ 5)] M (fun v N => v = none ∧ N = (zui (zui (zui (zui (zui (zui (zul M 3 res.2.2.2.2.2.2) 3 res.2.2.2.2.2.1) 41 res.1) 42 res.2.1) 43 res.2.2.1) 44 res.2.2.2.1) 45 res.2.2.2.2.1)) :=
  zK_of (by decide) (Nat.le_of_ble_eq_true rfl) (TX9_readOne_41_3_5 Γ M r0 r0_0 r0_1 r0_2 r0_3 r1 w1 r1_0 r1_0_0 w1_1 r2 w2_0 w2_1 e_i41 e_i42 e_i43 e_i44 e_i45 e_i3 e_l3 e_i1 e_i2 e_l4 e_i5 e_l6 e_l7 hy ⟨rfl, rfl⟩)

noncomputable def fSn_settleBracket (r0 : Nat → Int32) (r0_0 : Nat → Int32) (r0_1 : Nat → Int32) (r0_2 : Nat → Int32) (r0_3 : Nat → Int32) : Option (Bool × (Nat → Int32) × (Nat → Int32) × (Nat → Int32) × (Nat → Int32)) :=
  (fSn_settleWaiting r0 r0_0 r0_1 r0_2 r0_3 10).bind (fun (y1 : (Nat → Int32) × (Nat → Int32) × (Nat → Int32) × (Nat → Int32)) =>
  (fSn_lastWaiting y1.1 r0_3).bind (fun (y2 : Int32) =>
  (if y2 = 22 then
  zlet (zup y1.1 6 ((y1.1 6) - 1)) (fun (r0v4 : Nat → Int32) =>
  zlet (zup r0v4 7 ((r0v4 7) - 1)) (fun (r0v5 : Nat → Int32) =>
  some (true, r0v5, y1.2.1, y1.2.2.1, y1.2.2.2)))
  else
  some (false, y1.1, y1.2.1, y1.2.2.1, y1.2.2.2))))

set_option maxRecDepth 20000 in
theorem TX9_settleBracket_41 (Γ : zG) {Q : Option Value → zM → Prop} (M : zM) (r0 : Nat → Int32) (r0_0 : Nat → Int32) (r0_1 : Nat → Int32) (r0_2 : Nat → Int32) (r0_3 : Nat → Int32) (e_i41 : M.1 41 = r0) (e_i42 : M.1 42 = r0_0) (e_i43 : M.1 43 = r0_1) (e_i44 : M.1 44 = r0_2) (e_i45 : M.1 45 = r0_3)  {res : Bool × (Nat → Int32) × (Nat → Int32) × (Nat → Int32) × (Nat → Int32)} (hy : (fSn_settleBracket r0 r0_0 r0_1 r0_2 r0_3) = some res) (hq : Q (some (.int (zb res.1))) (zui (zui (zui (zui M 41 res.2.1) 42 res.2.2.1) 43 res.2.2.2.1) 44 res.2.2.2.2)) : zR Γ 3 YX9_settleBracket 0 [(0, .ref (zad Γ 41))] [] M Q := by
  unfold fSn_settleBracket at hy
  refine zj_aload_n (pc' := 1) 0 dX9_settleBracket_0 rfl rfl rfl ?_
  refine zj_bipush (pc' := 3) dX9_settleBracket_1 rfl kbipush_10 ?_
  obtain ⟨y1, hy1, hy⟩ := zt_b hy
  refine zj_V0 (pc' := 6) (z := YX9_settleWaiting) (As := [.int 10]) (N := (zui (zui (zui (zui M 41 y1.1) 42 y1.2.1) 43 y1.2.2.1) 44 y1.2.2.2)) dX9_settleBracket_3 rfl mlX9_73 lkX9_settleWaiting sh41 ⟨_, _, rfl⟩ rfl rfl (Nat.le_of_ble_eq_true rfl) (Nat.le_of_ble_eq_true rfl) (LX9_settleWaiting_41 Γ _ r0 r0_0 r0_1 r0_2 r0_3 e_i41 e_i42 e_i43 e_i44 e_i45 10 hy1) ((zch_i (zch_i (zch_i rfl rfl) rfl) rfl)).symm ?_
  refine zj_aload_n (pc' := 7) 0 dX9_settleBracket_6 rfl rfl rfl ?_
  obtain ⟨y2, hy2, hy⟩ := zt_b hy
  refine zj_V1 (pc' := 10) (z := YX9_lastWaiting) (As := []) (N := (zui (zui (zui (zui M 41 y1.1) 42 y1.2.1) 43 y1.2.2.1) 44 y1.2.2.2)) dX9_settleBracket_7 rfl mlX9_122 lkX9_lastWaiting sh41 ⟨_, _, rfl⟩ rfl rfl (Nat.le_of_ble_eq_true rfl) (Nat.le_of_ble_eq_true rfl) (LX9_lastWaiting_41 Γ _ y1.1 r0_3 (zr_n rfl (zr_n rfl (zr_n rfl zr_s))) (zr_n rfl (zr_n rfl (zr_n rfl (zr_n rfl e_i45)))) hy2) rfl ?_
  refine zj_bipush (pc' := 12) dX9_settleBracket_10 rfl kbipush_22 ?_
  refine zj_icmp_eq (tgt := 17) (pc' := 15) dX9_settleBracket_12 rfl (by decide) (fun c3 => ?_) (fun c3 => ?_)
  · have hy := zt_t hy c3
    refine zj_aload_n (pc' := 18) 0 dX9_settleBracket_17 rfl rfl rfl ?_
    refine zj_dup (pc' := 19) dX9_settleBracket_18 rfl rfl ?_
    refine zj_fI (pc' := 22) dX9_settleBracket_19 rfl flX9_38 sh41 rfl (zr_n rfl (zr_n rfl (zr_n rfl zr_s))) rfl ?_
    refine zj_iconst (pc' := 23) dX9_settleBracket_22 rfl kiconst_1 ?_
    refine zj_isub (pc' := 24) dX9_settleBracket_23 rfl ?_
    obtain ⟨r0v4, er0v4⟩ : ∃ z, z = (zup y1.1 6 ((y1.1 6) - 1)) := ⟨_, rfl⟩
    have hy := zlet_at er0v4 hy
    refine zj_pI (pc' := 27) (N := (zui (zui (zui (zui M 41 r0v4) 42 y1.2.1) 43 y1.2.2.1) 44 y1.2.2.2)) dX9_settleBracket_24 rfl fpX9_38 sh41 rfl (zr_n rfl (zr_n rfl (zr_n rfl zr_s))) er0v4 (zm_n rfl (zm_n rfl (zm_n rfl zm_s))) ?_
    refine zj_aload_n (pc' := 28) 0 dX9_settleBracket_27 rfl rfl rfl ?_
    refine zj_dup (pc' := 29) dX9_settleBracket_28 rfl rfl ?_
    refine zj_fI (pc' := 32) dX9_settleBracket_29 rfl flX9_41 sh41 rfl (zr_n rfl (zr_n rfl (zr_n rfl zr_s))) rfl ?_
    refine zj_iconst (pc' := 33) dX9_settleBracket_32 rfl kiconst_1 ?_
    refine zj_isub (pc' := 34) dX9_settleBracket_33 rfl ?_
    obtain ⟨r0v5, er0v5⟩ : ∃ z, z = (zup r0v4 7 ((r0v4 7) - 1)) := ⟨_, rfl⟩
    have hy := zlet_at er0v5 hy
    refine zj_pI (pc' := 37) (N := (zui (zui (zui (zui M 41 r0v5) 42 y1.2.1) 43 y1.2.2.1) 44 y1.2.2.2)) dX9_settleBracket_34 rfl fpX9_41 sh41 rfl (zr_n rfl (zr_n rfl (zr_n rfl zr_s))) er0v5 (zm_n rfl (zm_n rfl (zm_n rfl zm_s))) ?_
    refine zj_iconst (pc' := 38) dX9_settleBracket_37 rfl kiconst_1 ?_
    have e9 := Option.some.inj hy
    subst e9
    exact zj_bret (b := true) dX9_settleBracket_38 rfl hq
  · have hy := zt_f hy c3
    refine zj_iconst (pc' := 16) dX9_settleBracket_15 rfl kiconst_0 ?_
    have e9 := Option.some.inj hy
    subst e9
    exact zj_bret (b := false) dX9_settleBracket_16 rfl hq
set_option maxRecDepth 20000 in
theorem LX9_settleBracket_41 (Γ : zG) (M : zM) (r0 : Nat → Int32) (r0_0 : Nat → Int32) (r0_1 : Nat → Int32) (r0_2 : Nat → Int32) (r0_3 : Nat → Int32) (e_i41 : M.1 41 = r0) (e_i42 : M.1 42 = r0_0) (e_i43 : M.1 43 = r0_1) (e_i44 : M.1 44 = r0_2) (e_i45 : M.1 45 = r0_3)  {res : Bool × (Nat → Int32) × (Nat → Int32) × (Nat → Int32) × (Nat → Int32)} (hy : (fSn_settleBracket r0 r0_0 r0_1 r0_2 r0_3) = some res) : zK Γ 3 YX9_settleBracket [.ref (zad Γ 41)] M (fun v N => v = some (.int (zb res.1)) ∧ N = (zui (zui (zui (zui M 41 res.2.1) 42 res.2.2.1) 43 res.2.2.2.1) 44 res.2.2.2.2)) :=
  zK_of (by decide) (Nat.le_of_ble_eq_true rfl) (TX9_settleBracket_41 Γ M r0 r0_0 r0_1 r0_2 r0_3 e_i41 e_i42 e_i43 e_i44 e_i45 hy ⟨rfl, rfl⟩)

noncomputable def fSn_readJoint (r0 : Nat → Int32) (r0_0 : Nat → Int32) (r0_1 : Nat → Int32) (r0_2 : Nat → Int32) (r0_3 : Nat → Int32) (r1 : Nat → Int32) (w1 : Nat → Int64) (r1_0 : Nat → Int32) (r1_0_0 : Nat → Int32) (w1_1 : Nat → Int64) : Option ((Nat → Int32) × (Nat → Int32) × (Nat → Int32) × (Nat → Int32) × (Nat → Int32) × (Nat → Int32) × (Nat → Int64)) :=
  (fRd_toldWord r1 w1 w1_1).bind (fun (y1 : Int32) =>
  zlet (fun (u9 : Unit) =>
  (fSn_settleWaiting r0 r0_0 r0_1 r0_2 r0_3 y1).bind (fun (y2 : (Nat → Int32) × (Nat → Int32) × (Nat → Int32) × (Nat → Int32)) =>
  (fSn_addWaiting y2.1 r0_3 y1).bind (fun (y3 : (Nat → Int32) × (Nat → Int32)) =>
  zlet (zup y3.1 9 1) (fun (r0v4 : Nat → Int32) =>
  (fRd_goOn r1 w1 r1_0 r1_0_0).bind (fun (y5 : (Nat → Int32) × (Nat → Int64)) =>
  some (r0v4, y2.2.1, y2.2.2.1, y2.2.2.2, y3.2, y5.1, y5.2)))))) (fun J6 =>
  (if y1 = 11 then
  J6 ()
  else
  (if y1 = 10 then
  J6 ()
  else
  (if (fRd_isSign r1 41) = true then
  (fSn_settleBracket r0 r0_0 r0_1 r0_2 r0_3).bind (fun (y10 : Bool × (Nat → Int32) × (Nat → Int32) × (Nat → Int32) × (Nat → Int32)) =>
  (if y10.1 = true then
  (fSn_endOne y10.2.1 y10.2.2.1 y10.2.2.2.1 y10.2.2.2.2 r0_3).bind (fun (y12 : (Nat → Int32) × (Nat → Int32) × (Nat → Int32) × (Nat → Int32)) =>
  (fRd_goOn r1 w1 r1_0 r1_0_0).bind (fun (y13 : (Nat → Int32) × (Nat → Int64)) =>
  some (y12.1, y12.2.1, y12.2.2.1, y12.2.2.2, r0_3, y13.1, y13.2)))
  else
  (fRd_fail r1 1).bind (fun (y14 : (Nat → Int32)) =>
  some (y10.2.1, y10.2.2.1, y10.2.2.2.1, y10.2.2.2.2, r0_3, y14, w1))))
  else
  (fRd_fail r1 1).bind (fun (y15 : (Nat → Int32)) =>
  some (r0, r0_0, r0_1, r0_2, r0_3, y15, w1)))))))

set_option maxRecDepth 20000 in
theorem TX9_readJoint_41_3 (Γ : zG) {Q : Option Value → zM → Prop} (M : zM) (r0 : Nat → Int32) (r0_0 : Nat → Int32) (r0_1 : Nat → Int32) (r0_2 : Nat → Int32) (r0_3 : Nat → Int32) (r1 : Nat → Int32) (w1 : Nat → Int64) (r1_0 : Nat → Int32) (r1_0_0 : Nat → Int32) (w1_1 : Nat → Int64) (e_i41 : M.1 41 = r0) (e_i42 : M.1 42 = r0_0) (e_i43 : M.1 43 = r0_1) (e_i44 : M.1 44 = r0_2) (e_i45 : M.1 45 = r0_3) (e_i3 : M.1 3 = r1) (e_l3 : M.2 3 = w1) (e_i1 : M.1 1 = r1_0) (e_i2 : M.1 2 = r1_0_0) (e_l4 : M.2 4 = w1_1)  {res : (Nat → Int32) × (Nat → Int32) × (Nat → Int32) × (Nat → Int32) × (Nat → Int32) × (Nat → Int32) × (Nat → Int64)} (hy : (fSn_readJoint r0 r0_0 r0_1 r0_2 r0_3 r1 w1 r1_0 r1_0_0 w1_1) = some res) (hq : Q none (zui (zui (zui (zui (zui (zui (zul M 3 res.2.2.2.2.2.2) 3 res.2.2.2.2.2.1) 41 res.1) 42 res.2.1) 43 res.2.2.1) 44 res.2.2.2.1) 45 res.2.2.2.2.1)) : zR Γ 4 YX9_readJoint 0 [(0, .ref (zad Γ 41)), (1, .ref (zad Γ 3))] [] M Q := by
  unfold fSn_readJoint at hy
  refine zj_aload_n (pc' := 1) 1 dX9_readJoint_0 rfl rfl rfl ?_
  obtain ⟨y1, hy1, hy⟩ := zt_b hy
  refine zj_V1 (pc' := 4) (z := YX8_toldWord) (As := []) (N := M) dX9_readJoint_1 rfl mlX9_77 lkX8_toldWord sh3 ⟨_, _, rfl⟩ rfl rfl (Nat.le_of_ble_eq_true rfl) (Nat.le_of_ble_eq_true rfl) (LX8_toldWord_3 Γ _ r1 w1 w1_1 e_i3 e_l3 e_l4 hy1) rfl ?_
  refine zj_istore_n (pc' := 5) (L' := [(2, .int y1), (0, .ref (zad Γ 41)), (1, .ref (zad Γ 3))]) dX9_readJoint_4 rfl rfl (by decide) rfl ?_
  refine zj_iload_n (pc' := 6) 0 dX9_readJoint_5 rfl rfl rfl ?_
  refine zj_bipush (pc' := 8) dX9_readJoint_6 rfl kbipush_11 ?_
  obtain ⟨J6, eJ6, hy⟩ := zlet_ex hy
  have HJ6 : ∀ (u9 : Unit), J6 u9 = some res → zR Γ 4 YX9_readJoint 17 [(0, .ref (zad Γ 41)), (1, .ref (zad Γ 3)), (2, .int y1)] [] M Q := by
    intro u9 hy
    have hy := zap1 eJ6 hy
    refine zj_aload_n (pc' := 18) 0 dX9_readJoint_17 rfl rfl rfl ?_
    refine zj_iload_n (pc' := 19) 2 dX9_readJoint_18 rfl rfl rfl ?_
    obtain ⟨y2, hy2, hy⟩ := zt_b hy
    refine zj_V0 (pc' := 22) (z := YX9_settleWaiting) (As := [.int y1]) (N := (zui (zui (zui (zui M 41 y2.1) 42 y2.2.1) 43 y2.2.2.1) 44 y2.2.2.2)) dX9_readJoint_19 rfl mlX9_73 lkX9_settleWaiting sh41 ⟨_, _, rfl⟩ rfl rfl (Nat.le_of_ble_eq_true rfl) (Nat.le_of_ble_eq_true rfl) (LX9_settleWaiting_41 Γ _ r0 r0_0 r0_1 r0_2 r0_3 e_i41 e_i42 e_i43 e_i44 e_i45 y1 hy2) ((zch_i (zch_i (zch_i rfl rfl) rfl) rfl)).symm ?_
    refine zj_aload_n (pc' := 23) 0 dX9_readJoint_22 rfl rfl rfl ?_
    refine zj_iload_n (pc' := 24) 2 dX9_readJoint_23 rfl rfl rfl ?_
    obtain ⟨y3, hy3, hy⟩ := zt_b hy
    refine zj_V0 (pc' := 27) (z := YX9_addWaiting) (As := [.int y1]) (N := (zui (zui (zui (zui (zui M 41 y3.1) 42 y2.2.1) 43 y2.2.2.1) 44 y2.2.2.2) 45 y3.2)) dX9_readJoint_24 rfl mlX9_91 lkX9_addWaiting sh41 ⟨_, _, rfl⟩ rfl rfl (Nat.le_of_ble_eq_true rfl) (Nat.le_of_ble_eq_true rfl) (LX9_addWaiting_41 Γ _ y2.1 r0_3 (zr_n rfl (zr_n rfl (zr_n rfl zr_s))) (zr_n rfl (zr_n rfl (zr_n rfl (zr_n rfl e_i45)))) y1 hy3) ((zch_i (zm_n rfl (zm_n rfl (zm_n rfl zm_s))) rfl)).symm ?_
    refine zj_aload_n (pc' := 28) 0 dX9_readJoint_27 rfl rfl rfl ?_
    refine zj_iconst (pc' := 29) dX9_readJoint_28 rfl kiconst_1 ?_
    obtain ⟨r0v4, er0v4⟩ : ∃ z, z = (zup y3.1 9 1) := ⟨_, rfl⟩
    have hy := zlet_at er0v4 hy
    refine zj_pZ (pc' := 32) (N := (zui (zui (zui (zui (zui M 41 r0v4) 42 y2.2.1) 43 y2.2.2.1) 44 y2.2.2.2) 45 y3.2)) dX9_readJoint_29 rfl fpX9_53 sh41 rfl (Or.inr rfl) (zr_n rfl (zr_n rfl (zr_n rfl (zr_n rfl zr_s)))) er0v4 (zm_n rfl (zm_n rfl (zm_n rfl (zm_n rfl zm_s)))) ?_
    refine zj_aload_n (pc' := 33) 1 dX9_readJoint_32 rfl rfl rfl ?_
    obtain ⟨y5, hy5, hy⟩ := zt_b hy
    refine zj_V0 (pc' := 36) (z := YX8_goOn) (As := []) (N := (zui (zui (zui (zui (zui (zui (zul M 3 y5.2) 3 y5.1) 41 r0v4) 42 y2.2.1) 43 y2.2.2.1) 44 y2.2.2.2) 45 y3.2)) dX9_readJoint_33 rfl mlX9_88 lkX8_goOn sh3 ⟨_, _, rfl⟩ rfl rfl (Nat.le_of_ble_eq_true rfl) (Nat.le_of_ble_eq_true rfl) (LX8_goOn_3 Γ _ r1 w1 r1_0 r1_0_0 (zr_n rfl (zr_n rfl (zr_n rfl (zr_n rfl (zr_n rfl e_i3))))) (zq_i (zq_i (zq_i (zq_i (zq_i e_l3))))) (zr_n rfl (zr_n rfl (zr_n rfl (zr_n rfl (zr_n rfl e_i1))))) (zr_n rfl (zr_n rfl (zr_n rfl (zr_n rfl (zr_n rfl e_i2))))) hy5) ((zch_i (zm_li (zm_li (zm_li (zm_li (zm_li rfl))))) (zm_n rfl (zm_n rfl (zm_n rfl (zm_n rfl (zm_n rfl rfl))))))).symm ?_
    refine zj_goto (tgt := 71) dX9_readJoint_36 (by decide) ?_
    have e9 := Option.some.inj hy
    subst e9
    exact zj_vret dX9_readJoint_71 rfl hq
  refine zj_icmp_eq (tgt := 17) (pc' := 11) dX9_readJoint_8 rfl (by decide) (fun c7 => ?_) (fun c7 => ?_)
  · have hy := zt_t hy c7
    refine zj_loc [1, 2, 0] rfl ?_
    exact HJ6 () hy
  · have hy := zt_f hy c7
    refine zj_iload_n (pc' := 12) 0 dX9_readJoint_11 rfl rfl rfl ?_
    refine zj_bipush (pc' := 14) dX9_readJoint_12 rfl kbipush_10 ?_
    refine zj_icmp_ne (tgt := 39) (pc' := 17) dX9_readJoint_14 rfl (by decide) (fun c8 => ?_) (fun c8 => ?_)
    · have hy := zt_f hy c8
      refine zj_aload_n (pc' := 40) 2 dX9_readJoint_39 rfl rfl rfl ?_
      refine zj_bipush (pc' := 42) dX9_readJoint_40 rfl kbipush_41 ?_
      refine zj_V1 (pc' := 45) (z := YX8_isSign) (As := [.int 41]) (N := M) dX9_readJoint_42 rfl mlX9_81 lkX8_isSign sh3 ⟨_, _, rfl⟩ rfl rfl (Nat.le_of_ble_eq_true rfl) (Nat.le_of_ble_eq_true rfl) (LX8_isSign_3 Γ _ r1 e_i3 41 rfl) rfl ?_
      refine zj_bif_eq (tgt := 66) (pc' := 48) dX9_readJoint_45 rfl (by decide) (fun c9 => ?_) (fun c9 => ?_)
      · have hy := zt_f hy c9
        refine zj_aload_n (pc' := 67) 2 dX9_readJoint_66 rfl rfl rfl ?_
        refine zj_iconst (pc' := 68) dX9_readJoint_67 rfl kiconst_1 ?_
        obtain ⟨y15, hy15, hy⟩ := zt_b hy
        refine zj_V0 (pc' := 71) (z := YX8_fail) (As := [.int 1]) (N := (zui M 3 y15)) dX9_readJoint_68 rfl mlX9_85 lkX8_fail sh3 ⟨_, _, rfl⟩ rfl rfl (Nat.le_of_ble_eq_true rfl) (Nat.le_of_ble_eq_true rfl) (LX8_fail_3 Γ _ r1 e_i3 1 hy15) (rfl).symm ?_
        have e9 := Option.some.inj hy
        subst e9
        refine zj_mem (N := (zui (zul M 3 w1) 3 y15)) (zself_l (zq_i e_l3) (zm_li rfl)) ?_
        refine zj_mem (N := (zui (zui (zul M 3 w1) 3 y15) 41 r0)) (zself_i (zr_n rfl (zr_l e_i41)) rfl) ?_
        refine zj_mem (N := (zui (zui (zui (zul M 3 w1) 3 y15) 41 r0) 42 r0_0)) (zself_i (zr_n rfl (zr_n rfl (zr_l e_i42))) rfl) ?_
        refine zj_mem (N := (zui (zui (zui (zui (zul M 3 w1) 3 y15) 41 r0) 42 r0_0) 43 r0_1)) (zself_i (zr_n rfl (zr_n rfl (zr_n rfl (zr_l e_i43)))) rfl) ?_
        refine zj_mem (N := (zui (zui (zui (zui (zui (zul M 3 w1) 3 y15) 41 r0) 42 r0_0) 43 r0_1) 44 r0_2)) (zself_i (zr_n rfl (zr_n rfl (zr_n rfl (zr_n rfl (zr_l e_i44))))) rfl) ?_
        refine zj_mem (N := (zui (zui (zui (zui (zui (zui (zul M 3 w1) 3 y15) 41 r0) 42 r0_0) 43 r0_1) 44 r0_2) 45 r0_3)) (zself_i (zr_n rfl (zr_n rfl (zr_n rfl (zr_n rfl (zr_n rfl (zr_l e_i45)))))) rfl) ?_
        exact zj_vret dX9_readJoint_71 rfl hq
      · have hy := zt_t hy c9
        refine zj_aload_n (pc' := 49) 1 dX9_readJoint_48 rfl rfl rfl ?_
        obtain ⟨y10, hy10, hy⟩ := zt_b hy
        refine zj_V1 (pc' := 52) (z := YX9_settleBracket) (As := []) (N := (zui (zui (zui (zui M 41 y10.2.1) 42 y10.2.2.1) 43 y10.2.2.2.1) 44 y10.2.2.2.2)) dX9_readJoint_49 rfl mlX9_119 lkX9_settleBracket sh41 ⟨_, _, rfl⟩ rfl rfl (Nat.le_of_ble_eq_true rfl) (Nat.le_of_ble_eq_true rfl) (LX9_settleBracket_41 Γ _ r0 r0_0 r0_1 r0_2 r0_3 e_i41 e_i42 e_i43 e_i44 e_i45 hy10) ((zch_i (zch_i (zch_i rfl rfl) rfl) rfl)).symm ?_
        refine zj_bif_eq (tgt := 66) (pc' := 55) dX9_readJoint_52 rfl (by decide) (fun c11 => ?_) (fun c11 => ?_)
        · have hy := zt_f hy c11
          refine zj_aload_n (pc' := 67) 2 dX9_readJoint_66 rfl rfl rfl ?_
          refine zj_iconst (pc' := 68) dX9_readJoint_67 rfl kiconst_1 ?_
          obtain ⟨y14, hy14, hy⟩ := zt_b hy
          refine zj_V0 (pc' := 71) (z := YX8_fail) (As := [.int 1]) (N := (zui (zui (zui (zui (zui M 3 y14) 41 y10.2.1) 42 y10.2.2.1) 43 y10.2.2.2.1) 44 y10.2.2.2.2)) dX9_readJoint_68 rfl mlX9_85 lkX8_fail sh3 ⟨_, _, rfl⟩ rfl rfl (Nat.le_of_ble_eq_true rfl) (Nat.le_of_ble_eq_true rfl) (LX8_fail_3 Γ _ r1 (zr_n rfl (zr_n rfl (zr_n rfl (zr_n rfl e_i3)))) 1 hy14) ((zm_n rfl (zm_n rfl (zm_n rfl (zm_n rfl rfl))))).symm ?_
          have e9 := Option.some.inj hy
          subst e9
          refine zj_mem (N := (zui (zui (zui (zui (zui (zul M 3 w1) 3 y14) 41 y10.2.1) 42 y10.2.2.1) 43 y10.2.2.2.1) 44 y10.2.2.2.2)) (zself_l (zq_i (zq_i (zq_i (zq_i (zq_i e_l3))))) (zm_li (zm_li (zm_li (zm_li (zm_li rfl)))))) ?_
          refine zj_mem (N := (zui (zui (zui (zui (zui (zui (zul M 3 w1) 3 y14) 41 y10.2.1) 42 y10.2.2.1) 43 y10.2.2.2.1) 44 y10.2.2.2.2) 45 r0_3)) (zself_i (zr_n rfl (zr_n rfl (zr_n rfl (zr_n rfl (zr_n rfl (zr_l e_i45)))))) rfl) ?_
          exact zj_vret dX9_readJoint_71 rfl hq
        · have hy := zt_t hy c11
          refine zj_aload_n (pc' := 56) 1 dX9_readJoint_55 rfl rfl rfl ?_
          obtain ⟨y12, hy12, hy⟩ := zt_b hy
          refine zj_V0 (pc' := 59) (z := YX9_endOne) (As := []) (N := (zui (zui (zui (zui M 41 y12.1) 42 y12.2.1) 43 y12.2.2.1) 44 y12.2.2.2)) dX9_readJoint_56 rfl mlX9_98 lkX9_endOne sh41 ⟨_, _, rfl⟩ rfl rfl (Nat.le_of_ble_eq_true rfl) (Nat.le_of_ble_eq_true rfl) (LX9_endOne_41 Γ _ y10.2.1 y10.2.2.1 y10.2.2.2.1 y10.2.2.2.2 r0_3 (zr_n rfl (zr_n rfl (zr_n rfl zr_s))) (zr_n rfl (zr_n rfl zr_s)) (zr_n rfl zr_s) zr_s (zr_n rfl (zr_n rfl (zr_n rfl (zr_n rfl e_i45)))) hy12) ((zch_i (zch_i (zch_i (zm_n rfl (zm_n rfl (zm_n rfl zm_s))) (zm_n rfl (zm_n rfl zm_s))) (zm_n rfl zm_s)) zm_s)).symm ?_
          refine zj_aload_n (pc' := 60) 2 dX9_readJoint_59 rfl rfl rfl ?_
          obtain ⟨y13, hy13, hy⟩ := zt_b hy
          refine zj_V0 (pc' := 63) (z := YX8_goOn) (As := []) (N := (zui (zui (zui (zui (zui (zul M 3 y13.2) 3 y13.1) 41 y12.1) 42 y12.2.1) 43 y12.2.2.1) 44 y12.2.2.2)) dX9_readJoint_60 rfl mlX9_88 lkX8_goOn sh3 ⟨_, _, rfl⟩ rfl rfl (Nat.le_of_ble_eq_true rfl) (Nat.le_of_ble_eq_true rfl) (LX8_goOn_3 Γ _ r1 w1 r1_0 r1_0_0 (zr_n rfl (zr_n rfl (zr_n rfl (zr_n rfl e_i3)))) (zq_i (zq_i (zq_i (zq_i e_l3)))) (zr_n rfl (zr_n rfl (zr_n rfl (zr_n rfl e_i1)))) (zr_n rfl (zr_n rfl (zr_n rfl (zr_n rfl e_i2)))) hy13) ((zch_i (zm_li (zm_li (zm_li (zm_li rfl)))) (zm_n rfl (zm_n rfl (zm_n rfl (zm_n rfl rfl)))))).symm ?_
          refine zj_goto (tgt := 71) dX9_readJoint_63 (by decide) ?_
          have e9 := Option.some.inj hy
          subst e9
          refine zj_mem (N := (zui (zui (zui (zui (zui (zui (zul M 3 y13.2) 3 y13.1) 41 y12.1) 42 y12.2.1) 43 y12.2.2.1) 44 y12.2.2.2) 45 r0_3)) (zself_i (zr_n rfl (zr_n rfl (zr_n rfl (zr_n rfl (zr_n rfl (zr_l e_i45)))))) rfl) ?_
          exact zj_vret dX9_readJoint_71 rfl hq
    · have hy := zt_t hy c8
      refine zj_loc [1, 2, 0] rfl ?_
      exact HJ6 () hy
set_option maxRecDepth 20000 in
theorem LX9_readJoint_41_3 (Γ : zG) (M : zM) (r0 : Nat → Int32) (r0_0 : Nat → Int32) (r0_1 : Nat → Int32) (r0_2 : Nat → Int32) (r0_3 : Nat → Int32) (r1 : Nat → Int32) (w1 : Nat → Int64) (r1_0 : Nat → Int32) (r1_0_0 : Nat → Int32) (w1_1 : Nat → Int64) (e_i41 : M.1 41 = r0) (e_i42 : M.1 42 = r0_0) (e_i43 : M.1 43 = r0_1) (e_i44 : M.1 44 = r0_2) (e_i45 : M.1 45 = r0_3) (e_i3 : M.1 3 = r1) (e_l3 : M.2 3 = w1) (e_i1 : M.1 1 = r1_0) (e_i2 : M.1 2 = r1_0_0) (e_l4 : M.2 4 = w1_1)  {res : (Nat → Int32) × (Nat → Int32) × (Nat → Int32) × (Nat → Int32) × (Nat → Int32) × (Nat → Int32) × (Nat → Int64)} (hy : (fSn_readJoint r0 r0_0 r0_1 r0_2 r0_3 r1 w1 r1_0 r1_0_0 w1_1) = some res) : zK Γ 4 YX9_readJoint [.ref (zad Γ 41), .ref (zad Γ 3)] M (fun v N => v = none ∧ N = (zui (zui (zui (zui (zui (zui (zul M 3 res.2.2.2.2.2.2) 3 res.2.2.2.2.2.1) 41 res.1) 42 res.2.1) 43 res.2.2.1) 44 res.2.2.2.1) 45 res.2.2.2.2.1)) :=
  zK_of (by decide) (Nat.le_of_ble_eq_true rfl) (TX9_readJoint_41_3 Γ M r0 r0_0 r0_1 r0_2 r0_3 r1 w1 r1_0 r1_0_0 w1_1 e_i41 e_i42 e_i43 e_i44 e_i45 e_i3 e_l3 e_i1 e_i2 e_l4 hy ⟨rfl, rfl⟩)

noncomputable def fSn_readFrom_L11 (r1_0 : Nat → Int32) (r1_0_0 : Nat → Int32) (w1_1 : Nat → Int64) (r2 : Nat → Int32) (w2_0 : Nat → Int64) (w2_1 : Nat → Int64) (r0v3 : Nat → Int32) (r0_0v4 : Nat → Int32) (r0_1v5 : Nat → Int32) (r0_2v6 : Nat → Int32) (r0_3v7 : Nat → Int32) (r1v8 : Nat → Int32) (w1v9 : Nat → Int64) (x10 : Int32) : Option (((Nat → Int32) × (Nat → Int32) × (Nat → Int32) × (Nat → Int32) × (Nat → Int32) × (Nat → Int32) × (Nat → Int64) × Int32) ⊕ ((Nat → Int32) × (Nat → Int32) × (Nat → Int32) × (Nat → Int32) × (Nat → Int32) × (Nat → Int32) × (Nat → Int64))) :=
  (if 200 < x10 then
  some (.inr (r0v3, r0_0v4, r0_1v5, r0_2v6, r0_3v7, r1v8, w1v9))
  else
  (if (fRd_isGood r1v8) = true then
  zlet (fun (u9 : Unit) =>
  (if (r0v3 9) = 0 then
  (fSn_readJoint r0v3 r0_0v4 r0_1v5 r0_2v6 r0_3v7 r1v8 w1v9 r1_0 r1_0_0 w1_1).bind (fun (y21 : (Nat → Int32) × (Nat → Int32) × (Nat → Int32) × (Nat → Int32) × (Nat → Int32) × (Nat → Int32) × (Nat → Int64)) =>
  zlet (x10 + 1) (fun (x22 : Int32) =>
  some (.inl (y21.1, y21.2.1, y21.2.2.1, y21.2.2.2.1, y21.2.2.2.2.1, y21.2.2.2.2.2.1, y21.2.2.2.2.2.2, x22))))
  else
  (fSn_readOne r0v3 r0_0v4 r0_1v5 r0_2v6 r0_3v7 r1v8 w1v9 r1_0 r1_0_0 w1_1 r2 w2_0 w2_1).bind (fun (y23 : (Nat → Int32) × (Nat → Int32) × (Nat → Int32) × (Nat → Int32) × (Nat → Int32) × (Nat → Int32) × (Nat → Int64)) =>
  zlet (x10 + 1) (fun (x24 : Int32) =>
  some (.inl (y23.1, y23.2.1, y23.2.2.1, y23.2.2.2.1, y23.2.2.2.2.1, y23.2.2.2.2.2.1, y23.2.2.2.2.2.2, x24)))))) (fun J25 =>
  (if (r0v3 9) = 0 then
  (if (r0v3 7) = 0 then
  (if (fRd_atEnd r1v8) = true then
  some (.inr (r0v3, r0_0v4, r0_1v5, r0_2v6, r0_3v7, r1v8, w1v9))
  else
  J25 ())
  else
  J25 ())
  else
  J25 ()))
  else
  some (.inr (r0v3, r0_0v4, r0_1v5, r0_2v6, r0_3v7, r1v8, w1v9))))
noncomputable def fSn_readFrom (r0 : Nat → Int32) (r0_0 : Nat → Int32) (r0_1 : Nat → Int32) (r0_2 : Nat → Int32) (r0_3 : Nat → Int32) (r1 : Nat → Int32) (w1 : Nat → Int64) (r1_0 : Nat → Int32) (r1_0_0 : Nat → Int32) (w1_1 : Nat → Int64) (r2 : Nat → Int32) (w2_0 : Nat → Int64) (w2_1 : Nat → Int64) : Option ((Nat → Int32) × (Nat → Int32) × (Nat → Int32) × (Nat → Int32) × (Nat → Int32) × (Nat → Int32) × (Nat → Int64)) :=
  (fSn_clear r0).bind (fun (y1 : (Nat → Int32)) =>
  zlet (zup y1 9 1) (fun (r0v2 : Nat → Int32) =>
  (zLP (fun s => fSn_readFrom_L11 r1_0 r1_0_0 w1_1 r2 w2_0 w2_1 s.1 s.2.1 s.2.2.1 s.2.2.2.1 s.2.2.2.2.1 s.2.2.2.2.2.1 s.2.2.2.2.2.2.1 s.2.2.2.2.2.2.2) (r0v2, r0_0, r0_1, r0_2, r0_3, r1, w1, 0)).bind (fun r13 =>
  (fSn_settleWaiting r13.1 r13.2.1 r13.2.2.1 r13.2.2.2.1 r13.2.2.2.2.1 10).bind (fun (y36 : (Nat → Int32) × (Nat → Int32) × (Nat → Int32) × (Nat → Int32)) =>
  zlet (zup y36.1 10 (zb (fRd_isGood r13.2.2.2.2.2.1))) (fun (r0v37 : Nat → Int32) =>
  some (r0v37, y36.2.1, y36.2.2.1, y36.2.2.2, r13.2.2.2.2.1, r13.2.2.2.2.2.1, r13.2.2.2.2.2.2))))))

set_option maxRecDepth 20000 in
theorem TX9_readFrom_41_3_5 (Γ : zG) {Q : Option Value → zM → Prop} (M : zM) (r0 : Nat → Int32) (r0_0 : Nat → Int32) (r0_1 : Nat → Int32) (r0_2 : Nat → Int32) (r0_3 : Nat → Int32) (r1 : Nat → Int32) (w1 : Nat → Int64) (r1_0 : Nat → Int32) (r1_0_0 : Nat → Int32) (w1_1 : Nat → Int64) (r2 : Nat → Int32) (w2_0 : Nat → Int64) (w2_1 : Nat → Int64) (e_i41 : M.1 41 = r0) (e_i42 : M.1 42 = r0_0) (e_i43 : M.1 43 = r0_1) (e_i44 : M.1 44 = r0_2) (e_i45 : M.1 45 = r0_3) (e_i3 : M.1 3 = r1) (e_l3 : M.2 3 = w1) (e_i1 : M.1 1 = r1_0) (e_i2 : M.1 2 = r1_0_0) (e_l4 : M.2 4 = w1_1) (e_i5 : M.1 5 = r2) (e_l6 : M.2 6 = w2_0) (e_l7 : M.2 7 = w2_1)  {res : (Nat → Int32) × (Nat → Int32) × (Nat → Int32) × (Nat → Int32) × (Nat → Int32) × (Nat → Int32) × (Nat → Int64)} (hy : (fSn_readFrom r0 r0_0 r0_1 r0_2 r0_3 r1 w1 r1_0 r1_0_0 w1_1 r2 w2_0 w2_1) = some res) (hq : Q none (zui (zui (zui (zui (zui (zui (zul M 3 res.2.2.2.2.2.2) 3 res.2.2.2.2.2.1) 41 res.1) 42 res.2.1) 43 res.2.2.1) 44 res.2.2.2.1) 45 res.2.2.2.2.1)) : zR Γ 7 YX9_readFrom 0 [(0, .ref (zad Γ 41)), (1, .ref (zad Γ 3)), (2, .ref (zad Γ 5))] [] M Q := by
  unfold fSn_readFrom at hy
  refine zj_aload_n (pc' := 1) 0 dX9_readFrom_0 rfl rfl rfl ?_
  obtain ⟨y1, hy1, hy⟩ := zt_b hy
  refine zj_V0 (pc' := 4) (z := YX9_clear) (As := []) (N := (zui M 41 y1)) dX9_readFrom_1 rfl mlX9_50 lkX9_clear sh41 ⟨_, _, rfl⟩ rfl rfl (Nat.le_of_ble_eq_true rfl) (Nat.le_of_ble_eq_true rfl) (LX9_clear_41 Γ _ r0 e_i41 hy1) (rfl).symm ?_
  refine zj_aload_n (pc' := 5) 0 dX9_readFrom_4 rfl rfl rfl ?_
  refine zj_iconst (pc' := 6) dX9_readFrom_5 rfl kiconst_1 ?_
  obtain ⟨r0v2, er0v2⟩ : ∃ z, z = (zup y1 9 1) := ⟨_, rfl⟩
  have hy := zlet_at er0v2 hy
  refine zj_pZ (pc' := 9) (N := (zui M 41 r0v2)) dX9_readFrom_6 rfl fpX9_53 sh41 rfl (Or.inr rfl) zr_s er0v2 zm_s ?_
  refine zj_iconst (pc' := 10) dX9_readFrom_9 rfl kiconst_0 ?_
  refine zj_istore_n (pc' := 11) (L' := [(3, .int 0), (0, .ref (zad Γ 41)), (1, .ref (zad Γ 3)), (2, .ref (zad Γ 5))]) dX9_readFrom_10 rfl rfl (by decide) rfl ?_
  refine zj_loc [1, 2, 3, 0] rfl ?_
  refine zj_mem (N := (zui (zul M 3 w1) 41 r0v2)) (zself_l (zq_i e_l3) (zm_li rfl)) ?_
  refine zj_mem (N := (zui (zui (zul M 3 w1) 3 r1) 41 r0v2)) (zself_i (zr_n rfl (zr_l e_i3)) (zm_n rfl rfl)) ?_
  refine zj_mem (N := (zui (zui (zui (zul M 3 w1) 3 r1) 41 r0v2) 42 r0_0)) (zself_i (zr_n rfl (zr_n rfl (zr_l e_i42))) rfl) ?_
  refine zj_mem (N := (zui (zui (zui (zui (zul M 3 w1) 3 r1) 41 r0v2) 42 r0_0) 43 r0_1)) (zself_i (zr_n rfl (zr_n rfl (zr_n rfl (zr_l e_i43)))) rfl) ?_
  refine zj_mem (N := (zui (zui (zui (zui (zui (zul M 3 w1) 3 r1) 41 r0v2) 42 r0_0) 43 r0_1) 44 r0_2)) (zself_i (zr_n rfl (zr_n rfl (zr_n rfl (zr_n rfl (zr_l e_i44))))) rfl) ?_
  refine zj_mem (N := (zui (zui (zui (zui (zui (zui (zul M 3 w1) 3 r1) 41 r0v2) 42 r0_0) 43 r0_1) 44 r0_2) 45 r0_3)) (zself_i (zr_n rfl (zr_n rfl (zr_n rfl (zr_n rfl (zr_n rfl (zr_l e_i45)))))) rfl) ?_
  obtain ⟨r13, hr9, hyo14⟩ := zt_b hy
  obtain ⟨n9, hn9⟩ := zLP_some hr9
  have HE11 : ∀ (r0v29 : Nat → Int32) (r0_0v30 : Nat → Int32) (r0_1v31 : Nat → Int32) (r0_2v32 : Nat → Int32) (r0_3v33 : Nat → Int32) (r1v34 : Nat → Int32) (w1v35 : Nat → Int64), r13 = (r0v29, r0_0v30, r0_1v31, r0_2v32, r0_3v33, r1v34, w1v35) → zR Γ 7 YX9_readFrom 76 [(0, .ref (zad Γ 41)), (1, .ref (zad Γ 3))] [] (zui (zui (zui (zui (zui (zui (zul M 3 w1v35) 3 r1v34) 41 r0v29) 42 r0_0v30) 43 r0_1v31) 44 r0_2v32) 45 r0_3v33) Q := by
    intro r0v29 r0_0v30 r0_1v31 r0_2v32 r0_3v33 r1v34 w1v35 e9
    have hy := hyo14
    try rw [e9] at hy
    try dsimp only at hy
    refine zj_aload_n (pc' := 77) 0 dX9_readFrom_76 rfl rfl rfl ?_
    refine zj_bipush (pc' := 79) dX9_readFrom_77 rfl kbipush_10 ?_
    obtain ⟨y36, hy36, hy⟩ := zt_b hy
    refine zj_V0 (pc' := 82) (z := YX9_settleWaiting) (As := [.int 10]) (N := (zui (zui (zui (zui (zui (zui (zul M 3 w1v35) 3 r1v34) 41 y36.1) 42 y36.2.1) 43 y36.2.2.1) 44 y36.2.2.2) 45 r0_3v33)) dX9_readFrom_79 rfl mlX9_73 lkX9_settleWaiting sh41 ⟨_, _, rfl⟩ rfl rfl (Nat.le_of_ble_eq_true rfl) (Nat.le_of_ble_eq_true rfl) (LX9_settleWaiting_41 Γ _ r0v29 r0_0v30 r0_1v31 r0_2v32 r0_3v33 (zr_n rfl (zr_n rfl (zr_n rfl (zr_n rfl zr_s)))) (zr_n rfl (zr_n rfl (zr_n rfl zr_s))) (zr_n rfl (zr_n rfl zr_s)) (zr_n rfl zr_s) zr_s 10 hy36) ((zch_i (zch_i (zch_i (zm_n rfl (zm_n rfl (zm_n rfl (zm_n rfl zm_s)))) (zm_n rfl (zm_n rfl (zm_n rfl zm_s)))) (zm_n rfl (zm_n rfl zm_s))) (zm_n rfl zm_s))).symm ?_
    refine zj_aload_n (pc' := 83) 0 dX9_readFrom_82 rfl rfl rfl ?_
    refine zj_aload_n (pc' := 84) 1 dX9_readFrom_83 rfl rfl rfl ?_
    refine zj_V1 (pc' := 87) (z := YX8_isGood) (As := []) (N := (zui (zui (zui (zui (zui (zui (zul M 3 w1v35) 3 r1v34) 41 y36.1) 42 y36.2.1) 43 y36.2.2.1) 44 y36.2.2.2) 45 r0_3v33)) dX9_readFrom_84 rfl mlX9_56 lkX8_isGood sh3 ⟨_, _, rfl⟩ rfl rfl (Nat.le_of_ble_eq_true rfl) (Nat.le_of_ble_eq_true rfl) (LX8_isGood_3 Γ _ r1v34 (zr_n rfl (zr_n rfl (zr_n rfl (zr_n rfl (zr_n rfl zr_s))))) rfl) rfl ?_
    obtain ⟨r0v37, er0v37⟩ : ∃ z, z = (zup y36.1 10 (zb (fRd_isGood r1v34))) := ⟨_, rfl⟩
    have hy := zlet_at er0v37 hy
    refine zj_pZ (pc' := 90) (N := (zui (zui (zui (zui (zui (zui (zul M 3 w1v35) 3 r1v34) 41 r0v37) 42 y36.2.1) 43 y36.2.2.1) 44 y36.2.2.2) 45 r0_3v33)) dX9_readFrom_87 rfl fpX9_27 sh41 rfl (zb_01 _) (zr_n rfl (zr_n rfl (zr_n rfl (zr_n rfl zr_s)))) er0v37 (zm_n rfl (zm_n rfl (zm_n rfl (zm_n rfl zm_s)))) ?_
    have e9 := Option.some.inj hy
    subst e9
    exact zj_vret dX9_readFrom_90 rfl hq
  have HL12 : ∀ (n : Nat) (r0v3 : Nat → Int32) (r0_0v4 : Nat → Int32) (r0_1v5 : Nat → Int32) (r0_2v6 : Nat → Int32) (r0_3v7 : Nat → Int32) (r1v8 : Nat → Int32) (w1v9 : Nat → Int64) (x10 : Int32), zlp (fun s => fSn_readFrom_L11 r1_0 r1_0_0 w1_1 r2 w2_0 w2_1 s.1 s.2.1 s.2.2.1 s.2.2.2.1 s.2.2.2.2.1 s.2.2.2.2.2.1 s.2.2.2.2.2.2.1 s.2.2.2.2.2.2.2) n (r0v3, r0_0v4, r0_1v5, r0_2v6, r0_3v7, r1v8, w1v9, x10) = some r13 → zR Γ 7 YX9_readFrom 11 [(0, .ref (zad Γ 41)), (1, .ref (zad Γ 3)), (2, .ref (zad Γ 5)), (3, .int x10)] [] (zui (zui (zui (zui (zui (zui (zul M 3 w1v9) 3 r1v8) 41 r0v3) 42 r0_0v4) 43 r0_1v5) 44 r0_2v6) 45 r0_3v7) Q := by
    intro n
    induction n with
    | zero => intro r0v3 r0_0v4 r0_1v5 r0_2v6 r0_3v7 r1v8 w1v9 x10 hn9; cases hn9
    | succ n ih15 =>
      intro r0v3 r0_0v4 r0_1v5 r0_2v6 r0_3v7 r1v8 w1v9 x10 hn9
      obtain ⟨o9, hb9, h16, h17⟩ := zlp_step hn9
      have hy : fSn_readFrom_L11 r1_0 r1_0_0 w1_1 r2 w2_0 w2_1 r0v3 r0_0v4 r0_1v5 r0_2v6 r0_3v7 r1v8 w1v9 x10 = some o9 := hb9
      unfold fSn_readFrom_L11 at hy
      refine zj_iload_n (pc' := 12) 3 dX9_readFrom_11 rfl rfl rfl ?_
      refine zj_sipush (pc' := 15) dX9_readFrom_12 rfl ksipush_200 ?_
      refine zj_icmp_gt (tgt := 76) (pc' := 18) dX9_readFrom_15 rfl (by decide) (fun c18 => ?_) (fun c18 => ?_)
      · have hy := zt_t hy c18
        have e9 := h17 _ (Option.some.inj hy).symm
        refine zj_loc [0, 1] rfl ?_
        exact HE11 _ _ _ _ _ _ _ e9.symm
      · have hy := zt_f hy c18
        refine zj_aload_n (pc' := 19) 1 dX9_readFrom_18 rfl rfl rfl ?_
        refine zj_V1 (pc' := 22) (z := YX8_isGood) (As := []) (N := (zui (zui (zui (zui (zui (zui (zul M 3 w1v9) 3 r1v8) 41 r0v3) 42 r0_0v4) 43 r0_1v5) 44 r0_2v6) 45 r0_3v7)) dX9_readFrom_19 rfl mlX9_56 lkX8_isGood sh3 ⟨_, _, rfl⟩ rfl rfl (Nat.le_of_ble_eq_true rfl) (Nat.le_of_ble_eq_true rfl) (LX8_isGood_3 Γ _ r1v8 (zr_n rfl (zr_n rfl (zr_n rfl (zr_n rfl (zr_n rfl zr_s))))) rfl) rfl ?_
        refine zj_bif_eq (tgt := 76) (pc' := 25) dX9_readFrom_22 rfl (by decide) (fun c19 => ?_) (fun c19 => ?_)
        · have hy := zt_f hy c19
          have e9 := h17 _ (Option.some.inj hy).symm
          refine zj_loc [0, 1] rfl ?_
          exact HE11 _ _ _ _ _ _ _ e9.symm
        · have hy := zt_t hy c19
          refine zj_aload_n (pc' := 26) 0 dX9_readFrom_25 rfl rfl rfl ?_
          refine zj_fI (pc' := 29) dX9_readFrom_26 rfl flX9_53 sh41 rfl (zr_n rfl (zr_n rfl (zr_n rfl (zr_n rfl zr_s)))) rfl ?_
          obtain ⟨J25, eJ25, hy⟩ := zlet_ex hy
          have HJ25 : ∀ (u9 : Unit), J25 u9 = some o9 → zR Γ 7 YX9_readFrom 49 [(0, .ref (zad Γ 41)), (1, .ref (zad Γ 3)), (2, .ref (zad Γ 5)), (3, .int x10)] [] (zui (zui (zui (zui (zui (zui (zul M 3 w1v9) 3 r1v8) 41 r0v3) 42 r0_0v4) 43 r0_1v5) 44 r0_2v6) 45 r0_3v7) Q := by
            intro u9 hy
            have hy := zap1 eJ25 hy
            refine zj_aload_n (pc' := 50) 0 dX9_readFrom_49 rfl rfl rfl ?_
            refine zj_fI (pc' := 53) dX9_readFrom_50 rfl flX9_53 sh41 rfl (zr_n rfl (zr_n rfl (zr_n rfl (zr_n rfl zr_s)))) rfl ?_
            refine zj_if_eq (tgt := 65) (pc' := 56) dX9_readFrom_53 rfl (by decide) (fun c20 => ?_) (fun c20 => ?_)
            · have hy := zt_t hy c20
              refine zj_aload_n (pc' := 66) 0 dX9_readFrom_65 rfl rfl rfl ?_
              refine zj_aload_n (pc' := 67) 1 dX9_readFrom_66 rfl rfl rfl ?_
              obtain ⟨y21, hy21, hy⟩ := zt_b hy
              refine zj_V0 (pc' := 70) (z := YX9_readJoint) (As := [.ref (zad Γ 3)]) (N := (zui (zui (zui (zui (zui (zui (zul M 3 y21.2.2.2.2.2.2) 3 y21.2.2.2.2.2.1) 41 y21.1) 42 y21.2.1) 43 y21.2.2.1) 44 y21.2.2.2.1) 45 y21.2.2.2.2.1)) dX9_readFrom_67 rfl mlX9_69 lkX9_readJoint sh41 ⟨_, _, rfl⟩ rfl rfl (Nat.le_of_ble_eq_true rfl) (Nat.le_of_ble_eq_true rfl) (LX9_readJoint_41_3 Γ _ r0v3 r0_0v4 r0_1v5 r0_2v6 r0_3v7 r1v8 w1v9 r1_0 r1_0_0 w1_1 (zr_n rfl (zr_n rfl (zr_n rfl (zr_n rfl zr_s)))) (zr_n rfl (zr_n rfl (zr_n rfl zr_s))) (zr_n rfl (zr_n rfl zr_s)) (zr_n rfl zr_s) zr_s (zr_n rfl (zr_n rfl (zr_n rfl (zr_n rfl (zr_n rfl zr_s))))) (zq_i (zq_i (zq_i (zq_i (zq_i (zq_i zq_s)))))) (zr_n rfl (zr_n rfl (zr_n rfl (zr_n rfl (zr_n rfl (zr_n rfl (zr_l e_i1))))))) (zr_n rfl (zr_n rfl (zr_n rfl (zr_n rfl (zr_n rfl (zr_n rfl (zr_l e_i2))))))) (zq_i (zq_i (zq_i (zq_i (zq_i (zq_i (zq_n rfl e_l4))))))) hy21) ((zch_i (zch_i (zch_i (zch_i (zch_i (zch_i (zm_li (zm_li (zm_li (zm_li (zm_li (zm_li zn_s)))))) (zm_n rfl (zm_n rfl (zm_n rfl (zm_n rfl (zm_n rfl zm_s)))))) (zm_n rfl (zm_n rfl (zm_n rfl (zm_n rfl zm_s))))) (zm_n rfl (zm_n rfl (zm_n rfl zm_s)))) (zm_n rfl (zm_n rfl zm_s))) (zm_n rfl zm_s)) zm_s)).symm ?_
              obtain ⟨x22, ex22⟩ : ∃ z : Int32, z = (x10 + 1) := ⟨_, rfl⟩
              have hy := zlet_at ex22 hy
              refine zj_iinc (pc' := 73) 3 (L' := [(3, .int x22), (0, .ref (zad Γ 41)), (1, .ref (zad Γ 3)), (2, .ref (zad Γ 5))]) dX9_readFrom_70 rfl rfl (by decide) (by rw [ci1, ← ex22]; rfl) ?_
              refine zj_goto (tgt := 11) dX9_readFrom_73 (by decide) ?_
              have hn9 := h16 _ (Option.some.inj hy).symm
              refine zj_loc [1, 2, 3, 0] rfl ?_
              exact ih15 _ _ _ _ _ _ _ _ hn9
            · have hy := zt_f hy c20
              refine zj_aload_n (pc' := 57) 0 dX9_readFrom_56 rfl rfl rfl ?_
              refine zj_aload_n (pc' := 58) 1 dX9_readFrom_57 rfl rfl rfl ?_
              refine zj_aload_n (pc' := 59) 2 dX9_readFrom_58 rfl rfl rfl ?_
              obtain ⟨y23, hy23, hy⟩ := zt_b hy
              refine zj_V0 (pc' := 62) (z := YX9_readOne) (As := [.ref (zad Γ 3), .ref (zad Γ 5)]) (N := (zui (zui (zui (zui (zui (zui (zul M 3 y23.2.2.2.2.2.2) 3 y23.2.2.2.2.2.1) 41 y23.1) 42 y23.2.1) 43 y23.2.2.1) 44 y23.2.2.2.1) 45 y23.2.2.2.2.1)) dX9_readFrom_59 rfl mlX9_65 lkX9_readOne sh41 ⟨_, _, rfl⟩ rfl rfl (Nat.le_of_ble_eq_true rfl) (Nat.le_of_ble_eq_true rfl) (LX9_readOne_41_3_5 Γ _ r0v3 r0_0v4 r0_1v5 r0_2v6 r0_3v7 r1v8 w1v9 r1_0 r1_0_0 w1_1 r2 w2_0 w2_1 (zr_n rfl (zr_n rfl (zr_n rfl (zr_n rfl zr_s)))) (zr_n rfl (zr_n rfl (zr_n rfl zr_s))) (zr_n rfl (zr_n rfl zr_s)) (zr_n rfl zr_s) zr_s (zr_n rfl (zr_n rfl (zr_n rfl (zr_n rfl (zr_n rfl zr_s))))) (zq_i (zq_i (zq_i (zq_i (zq_i (zq_i zq_s)))))) (zr_n rfl (zr_n rfl (zr_n rfl (zr_n rfl (zr_n rfl (zr_n rfl (zr_l e_i1))))))) (zr_n rfl (zr_n rfl (zr_n rfl (zr_n rfl (zr_n rfl (zr_n rfl (zr_l e_i2))))))) (zq_i (zq_i (zq_i (zq_i (zq_i (zq_i (zq_n rfl e_l4))))))) (zr_n rfl (zr_n rfl (zr_n rfl (zr_n rfl (zr_n rfl (zr_n rfl (zr_l e_i5))))))) (zq_i (zq_i (zq_i (zq_i (zq_i (zq_i (zq_n rfl e_l6))))))) (zq_i (zq_i (zq_i (zq_i (zq_i (zq_i (zq_n rfl e_l7))))))) hy23) ((zch_i (zch_i (zch_i (zch_i (zch_i (zch_i (zm_li (zm_li (zm_li (zm_li (zm_li (zm_li zn_s)))))) (zm_n rfl (zm_n rfl (zm_n rfl (zm_n rfl (zm_n rfl zm_s)))))) (zm_n rfl (zm_n rfl (zm_n rfl (zm_n rfl zm_s))))) (zm_n rfl (zm_n rfl (zm_n rfl zm_s)))) (zm_n rfl (zm_n rfl zm_s))) (zm_n rfl zm_s)) zm_s)).symm ?_
              refine zj_goto (tgt := 70) dX9_readFrom_62 (by decide) ?_
              obtain ⟨x24, ex24⟩ : ∃ z : Int32, z = (x10 + 1) := ⟨_, rfl⟩
              have hy := zlet_at ex24 hy
              refine zj_iinc (pc' := 73) 3 (L' := [(3, .int x24), (0, .ref (zad Γ 41)), (1, .ref (zad Γ 3)), (2, .ref (zad Γ 5))]) dX9_readFrom_70 rfl rfl (by decide) (by rw [ci1, ← ex24]; rfl) ?_
              refine zj_goto (tgt := 11) dX9_readFrom_73 (by decide) ?_
              have hn9 := h16 _ (Option.some.inj hy).symm
              refine zj_loc [1, 2, 3, 0] rfl ?_
              exact ih15 _ _ _ _ _ _ _ _ hn9
          refine zj_if_ne (tgt := 49) (pc' := 32) dX9_readFrom_29 rfl (by decide) (fun c26 => ?_) (fun c26 => ?_)
          · have hy := zt_f hy c26
            exact HJ25 () hy
          · have hy := zt_t hy c26
            refine zj_aload_n (pc' := 33) 0 dX9_readFrom_32 rfl rfl rfl ?_
            refine zj_fI (pc' := 36) dX9_readFrom_33 rfl flX9_41 sh41 rfl (zr_n rfl (zr_n rfl (zr_n rfl (zr_n rfl zr_s)))) rfl ?_
            refine zj_if_ne (tgt := 49) (pc' := 39) dX9_readFrom_36 rfl (by decide) (fun c27 => ?_) (fun c27 => ?_)
            · have hy := zt_f hy c27
              exact HJ25 () hy
            · have hy := zt_t hy c27
              refine zj_aload_n (pc' := 40) 1 dX9_readFrom_39 rfl rfl rfl ?_
              refine zj_V1 (pc' := 43) (z := YX8_atEnd) (As := []) (N := (zui (zui (zui (zui (zui (zui (zul M 3 w1v9) 3 r1v8) 41 r0v3) 42 r0_0v4) 43 r0_1v5) 44 r0_2v6) 45 r0_3v7)) dX9_readFrom_40 rfl mlX9_62 lkX8_atEnd sh3 ⟨_, _, rfl⟩ rfl rfl (Nat.le_of_ble_eq_true rfl) (Nat.le_of_ble_eq_true rfl) (LX8_atEnd_3 Γ _ r1v8 (zr_n rfl (zr_n rfl (zr_n rfl (zr_n rfl (zr_n rfl zr_s))))) rfl) rfl ?_
              refine zj_bif_eq (tgt := 49) (pc' := 46) dX9_readFrom_43 rfl (by decide) (fun c28 => ?_) (fun c28 => ?_)
              · have hy := zt_f hy c28
                exact HJ25 () hy
              · have hy := zt_t hy c28
                refine zj_goto (tgt := 76) dX9_readFrom_46 (by decide) ?_
                have e9 := h17 _ (Option.some.inj hy).symm
                refine zj_loc [0, 1] rfl ?_
                exact HE11 _ _ _ _ _ _ _ e9.symm
  exact HL12 n9 _ _ _ _ _ _ _ _ hn9
set_option maxRecDepth 20000 in
theorem LX9_readFrom_41_3_5 (Γ : zG) (M : zM) (r0 : Nat → Int32) (r0_0 : Nat → Int32) (r0_1 : Nat → Int32) (r0_2 : Nat → Int32) (r0_3 : Nat → Int32) (r1 : Nat → Int32) (w1 : Nat → Int64) (r1_0 : Nat → Int32) (r1_0_0 : Nat → Int32) (w1_1 : Nat → Int64) (r2 : Nat → Int32) (w2_0 : Nat → Int64) (w2_1 : Nat → Int64) (e_i41 : M.1 41 = r0) (e_i42 : M.1 42 = r0_0) (e_i43 : M.1 43 = r0_1) (e_i44 : M.1 44 = r0_2) (e_i45 : M.1 45 = r0_3) (e_i3 : M.1 3 = r1) (e_l3 : M.2 3 = w1) (e_i1 : M.1 1 = r1_0) (e_i2 : M.1 2 = r1_0_0) (e_l4 : M.2 4 = w1_1) (e_i5 : M.1 5 = r2) (e_l6 : M.2 6 = w2_0) (e_l7 : M.2 7 = w2_1)  {res : (Nat → Int32) × (Nat → Int32) × (Nat → Int32) × (Nat → Int32) × (Nat → Int32) × (Nat → Int32) × (Nat → Int64)} (hy : (fSn_readFrom r0 r0_0 r0_1 r0_2 r0_3 r1 w1 r1_0 r1_0_0 w1_1 r2 w2_0 w2_1) = some res) : zK Γ 7 YX9_readFrom [.ref (zad Γ 41), .ref (zad Γ 3), .ref (zad Γ 5)] M (fun v N => v = none ∧ N = (zui (zui (zui (zui (zui (zui (zul M 3 res.2.2.2.2.2.2) 3 res.2.2.2.2.2.1) 41 res.1) 42 res.2.1) 43 res.2.2.1) 44 res.2.2.2.1) 45 res.2.2.2.2.1)) :=
  zK_of (by decide) (Nat.le_of_ble_eq_true rfl) (TX9_readFrom_41_3_5 Γ M r0 r0_0 r0_1 r0_2 r0_3 r1 w1 r1_0 r1_0_0 w1_1 r2 w2_0 w2_1 e_i41 e_i42 e_i43 e_i44 e_i45 e_i3 e_l3 e_i1 e_i2 e_l4 e_i5 e_l6 e_l7 hy ⟨rfl, rfl⟩)

noncomputable def fSn_copyFrom (r0 : Nat → Int32) (r0_0 : Nat → Int32) (r0_1 : Nat → Int32) (r0_2 : Nat → Int32) (r1 : Nat → Int32) (r1_0 : Nat → Int32) (r1_1 : Nat → Int32) (r1_2 : Nat → Int32) : Option ((Nat → Int32) × (Nat → Int32) × (Nat → Int32) × (Nat → Int32)) :=
  zlet (va_cpy r1_0 r0_0 0 0 40) (fun (r0_0v1 : Nat → Int32) =>
  zlet (va_cpy r1_1 r0_1 0 0 40) (fun (r0_1v2 : Nat → Int32) =>
  zlet (va_cpy r1_2 r0_2 0 0 40) (fun (r0_2v3 : Nat → Int32) =>
  zlet (zup r0 5 (r1 5)) (fun (r0v4 : Nat → Int32) =>
  zlet (zup r0v4 8 (r1 8)) (fun (r0v5 : Nat → Int32) =>
  (if (r1 10) = 0 ∨ (r1 10) = 1 then
  zlet (zup r0v5 10 (r1 10)) (fun (r0v6 : Nat → Int32) =>
  some (r0v6, r0_0v1, r0_1v2, r0_2v3)) else none))))))

set_option maxRecDepth 20000 in
theorem TX9_copyFrom_35_41 (Γ : zG) {Q : Option Value → zM → Prop} (M : zM) (r0 : Nat → Int32) (r0_0 : Nat → Int32) (r0_1 : Nat → Int32) (r0_2 : Nat → Int32) (r1 : Nat → Int32) (r1_0 : Nat → Int32) (r1_1 : Nat → Int32) (r1_2 : Nat → Int32) (e_i35 : M.1 35 = r0) (e_i36 : M.1 36 = r0_0) (e_i37 : M.1 37 = r0_1) (e_i38 : M.1 38 = r0_2) (e_i41 : M.1 41 = r1) (e_i42 : M.1 42 = r1_0) (e_i43 : M.1 43 = r1_1) (e_i44 : M.1 44 = r1_2)  {res : (Nat → Int32) × (Nat → Int32) × (Nat → Int32) × (Nat → Int32)} (hy : (fSn_copyFrom r0 r0_0 r0_1 r0_2 r1 r1_0 r1_1 r1_2) = some res) (hq : Q none (zui (zui (zui (zui M 35 res.1) 36 res.2.1) 37 res.2.2.1) 38 res.2.2.2)) : zR Γ 2 YX9_copyFrom 0 [(0, .ref (zad Γ 35)), (1, .ref (zad Γ 41))] [] M Q := by
  unfold fSn_copyFrom at hy
  refine zj_aload_n (pc' := 1) 1 dX9_copyFrom_0 rfl rfl rfl ?_
  refine zj_getR (pc' := 4) (j := 42) dX9_copyFrom_1 rfl flX9_11 sh41 rfl ?_
  refine zj_iconst (pc' := 5) dX9_copyFrom_4 rfl kiconst_0 ?_
  refine zj_aload_n (pc' := 6) 0 dX9_copyFrom_5 rfl rfl rfl ?_
  refine zj_getR (pc' := 9) (j := 36) dX9_copyFrom_6 rfl flX9_11 sh35 rfl ?_
  refine zj_iconst (pc' := 10) dX9_copyFrom_9 rfl kiconst_0 ?_
  refine zj_bipush (pc' := 12) dX9_copyFrom_10 rfl kbipush_40 ?_
  obtain ⟨r0_0v1, er0_0v1⟩ : ∃ z, z = (va_cpy r1_0 r0_0 0 0 40) := ⟨_, rfl⟩
  have hy := zlet_at er0_0v1 hy
  refine zj_cpI (pc' := 15) (N := (zui M 36 r0_0v1)) dX9_copyFrom_12 rfl mlX9_44 zcpw sh42 sh36 tn0 tn0 tn40 (by decide) (by decide) (Nat.le_of_ble_eq_true rfl) (Nat.le_of_ble_eq_true rfl) e_i42 e_i36 er0_0v1 rfl (Nat.le_of_ble_eq_true rfl) (Nat.le_of_ble_eq_true rfl) ?_
  refine zj_aload_n (pc' := 16) 1 dX9_copyFrom_15 rfl rfl rfl ?_
  refine zj_getR (pc' := 19) (j := 43) dX9_copyFrom_16 rfl flX9_15 sh41 rfl ?_
  refine zj_iconst (pc' := 20) dX9_copyFrom_19 rfl kiconst_0 ?_
  refine zj_aload_n (pc' := 21) 0 dX9_copyFrom_20 rfl rfl rfl ?_
  refine zj_getR (pc' := 24) (j := 37) dX9_copyFrom_21 rfl flX9_15 sh35 rfl ?_
  refine zj_iconst (pc' := 25) dX9_copyFrom_24 rfl kiconst_0 ?_
  refine zj_bipush (pc' := 27) dX9_copyFrom_25 rfl kbipush_40 ?_
  obtain ⟨r0_1v2, er0_1v2⟩ : ∃ z, z = (va_cpy r1_1 r0_1 0 0 40) := ⟨_, rfl⟩
  have hy := zlet_at er0_1v2 hy
  refine zj_cpI (pc' := 30) (N := (zui (zui M 36 r0_0v1) 37 r0_1v2)) dX9_copyFrom_27 rfl mlX9_44 zcpw sh43 sh37 tn0 tn0 tn40 (by decide) (by decide) (Nat.le_of_ble_eq_true rfl) (Nat.le_of_ble_eq_true rfl) (zr_n rfl e_i43) (zr_n rfl e_i37) er0_1v2 rfl (Nat.le_of_ble_eq_true rfl) (Nat.le_of_ble_eq_true rfl) ?_
  refine zj_aload_n (pc' := 31) 1 dX9_copyFrom_30 rfl rfl rfl ?_
  refine zj_getR (pc' := 34) (j := 44) dX9_copyFrom_31 rfl flX9_18 sh41 rfl ?_
  refine zj_iconst (pc' := 35) dX9_copyFrom_34 rfl kiconst_0 ?_
  refine zj_aload_n (pc' := 36) 0 dX9_copyFrom_35 rfl rfl rfl ?_
  refine zj_getR (pc' := 39) (j := 38) dX9_copyFrom_36 rfl flX9_18 sh35 rfl ?_
  refine zj_iconst (pc' := 40) dX9_copyFrom_39 rfl kiconst_0 ?_
  refine zj_bipush (pc' := 42) dX9_copyFrom_40 rfl kbipush_40 ?_
  obtain ⟨r0_2v3, er0_2v3⟩ : ∃ z, z = (va_cpy r1_2 r0_2 0 0 40) := ⟨_, rfl⟩
  have hy := zlet_at er0_2v3 hy
  refine zj_cpI (pc' := 45) (N := (zui (zui (zui M 36 r0_0v1) 37 r0_1v2) 38 r0_2v3)) dX9_copyFrom_42 rfl mlX9_44 zcpw sh44 sh38 tn0 tn0 tn40 (by decide) (by decide) (Nat.le_of_ble_eq_true rfl) (Nat.le_of_ble_eq_true rfl) (zr_n rfl (zr_n rfl e_i44)) (zr_n rfl (zr_n rfl e_i38)) er0_2v3 rfl (Nat.le_of_ble_eq_true rfl) (Nat.le_of_ble_eq_true rfl) ?_
  refine zj_aload_n (pc' := 46) 0 dX9_copyFrom_45 rfl rfl rfl ?_
  refine zj_aload_n (pc' := 47) 1 dX9_copyFrom_46 rfl rfl rfl ?_
  refine zj_fI (pc' := 50) dX9_copyFrom_47 rfl flX9_35 sh41 rfl (zr_n rfl (zr_n rfl (zr_n rfl e_i41))) rfl ?_
  obtain ⟨r0v4, er0v4⟩ : ∃ z, z = (zup r0 5 (r1 5)) := ⟨_, rfl⟩
  have hy := zlet_at er0v4 hy
  refine zj_pI (pc' := 53) (N := (zui (zui (zui (zui M 35 r0v4) 36 r0_0v1) 37 r0_1v2) 38 r0_2v3)) dX9_copyFrom_50 rfl fpX9_35 sh35 rfl (zr_n rfl (zr_n rfl (zr_n rfl e_i35))) er0v4 (zm_n rfl (zm_n rfl (zm_n rfl rfl))) ?_
  refine zj_aload_n (pc' := 54) 0 dX9_copyFrom_53 rfl rfl rfl ?_
  refine zj_aload_n (pc' := 55) 1 dX9_copyFrom_54 rfl rfl rfl ?_
  refine zj_fI (pc' := 58) dX9_copyFrom_55 rfl flX9_31 sh41 rfl (zr_n rfl (zr_n rfl (zr_n rfl (zr_n rfl e_i41)))) rfl ?_
  obtain ⟨r0v5, er0v5⟩ : ∃ z, z = (zup r0v4 8 (r1 8)) := ⟨_, rfl⟩
  have hy := zlet_at er0v5 hy
  refine zj_pI (pc' := 61) (N := (zui (zui (zui (zui M 35 r0v5) 36 r0_0v1) 37 r0_1v2) 38 r0_2v3)) dX9_copyFrom_58 rfl fpX9_31 sh35 rfl (zr_n rfl (zr_n rfl (zr_n rfl zr_s))) er0v5 (zm_n rfl (zm_n rfl (zm_n rfl zm_s))) ?_
  refine zj_aload_n (pc' := 62) 0 dX9_copyFrom_61 rfl rfl rfl ?_
  refine zj_aload_n (pc' := 63) 1 dX9_copyFrom_62 rfl rfl rfl ?_
  refine zj_fI (pc' := 66) dX9_copyFrom_63 rfl flX9_27 sh41 rfl (zr_n rfl (zr_n rfl (zr_n rfl (zr_n rfl e_i41)))) rfl ?_
  obtain ⟨c7, hy⟩ := zck hy
  obtain ⟨r0v6, er0v6⟩ : ∃ z, z = (zup r0v5 10 (r1 10)) := ⟨_, rfl⟩
  have hy := zlet_at er0v6 hy
  refine zj_pZ (pc' := 69) (N := (zui (zui (zui (zui M 35 r0v6) 36 r0_0v1) 37 r0_1v2) 38 r0_2v3)) dX9_copyFrom_66 rfl fpX9_27 sh35 rfl c7 (zr_n rfl (zr_n rfl (zr_n rfl zr_s))) er0v6 (zm_n rfl (zm_n rfl (zm_n rfl zm_s))) ?_
  have e9 := Option.some.inj hy
  subst e9
  exact zj_vret dX9_copyFrom_69 rfl hq
set_option maxRecDepth 20000 in
theorem LX9_copyFrom_35_41 (Γ : zG) (M : zM) (r0 : Nat → Int32) (r0_0 : Nat → Int32) (r0_1 : Nat → Int32) (r0_2 : Nat → Int32) (r1 : Nat → Int32) (r1_0 : Nat → Int32) (r1_1 : Nat → Int32) (r1_2 : Nat → Int32) (e_i35 : M.1 35 = r0) (e_i36 : M.1 36 = r0_0) (e_i37 : M.1 37 = r0_1) (e_i38 : M.1 38 = r0_2) (e_i41 : M.1 41 = r1) (e_i42 : M.1 42 = r1_0) (e_i43 : M.1 43 = r1_1) (e_i44 : M.1 44 = r1_2)  {res : (Nat → Int32) × (Nat → Int32) × (Nat → Int32) × (Nat → Int32)} (hy : (fSn_copyFrom r0 r0_0 r0_1 r0_2 r1 r1_0 r1_1 r1_2) = some res) : zK Γ 2 YX9_copyFrom [.ref (zad Γ 35), .ref (zad Γ 41)] M (fun v N => v = none ∧ N = (zui (zui (zui (zui M 35 res.1) 36 res.2.1) 37 res.2.2.1) 38 res.2.2.2)) :=
  zK_of (by decide) (Nat.le_of_ble_eq_true rfl) (TX9_copyFrom_35_41 Γ M r0 r0_0 r0_1 r0_2 r1 r1_0 r1_1 r1_2 e_i35 e_i36 e_i37 e_i38 e_i41 e_i42 e_i43 e_i44 hy ⟨rfl, rfl⟩)

noncomputable def fSn_ones (r0 : Nat → Int32) : Int32 :=
  (r0 8)

set_option maxRecDepth 20000 in
theorem TX9_ones_35 (Γ : zG) {Q : Option Value → zM → Prop} (M : zM) (r0 : Nat → Int32) (e_i35 : M.1 35 = r0)  {res : Int32} (hy : (fSn_ones r0) = res) (hq : Q (some (.int res)) M) : zR Γ 1 YX9_ones 0 [(0, .ref (zad Γ 35))] [] M Q := by
  unfold fSn_ones at hy
  refine zj_aload_n (pc' := 1) 0 dX9_ones_0 rfl rfl rfl ?_
  refine zj_fI (pc' := 4) dX9_ones_1 rfl flX9_31 sh35 rfl e_i35 rfl ?_
  subst hy
  exact zj_iret dX9_ones_4 rfl hq
set_option maxRecDepth 20000 in
theorem LX9_ones_35 (Γ : zG) (M : zM) (r0 : Nat → Int32) (e_i35 : M.1 35 = r0)  {res : Int32} (hy : (fSn_ones r0) = res) : zK Γ 1 YX9_ones [.ref (zad Γ 35)] M (fun v N => v = some (.int res) ∧ N = M) :=
  zK_of (by decide) (Nat.le_of_ble_eq_true rfl) (TX9_ones_35 Γ M r0 e_i35 hy ⟨rfl, rfl⟩)

noncomputable def fX_sentence (r0 : Nat → Int32) (r0_0 : Nat → Int32) (r0_0_0 : Nat → Int32) (r0_1 : Nat → Int32) (w0_1 : Nat → Int64) (w0_1_1 : Nat → Int64) (r0_2 : Nat → Int32) (w0_2_0 : Nat → Int64) (w0_2_1 : Nat → Int64) (r0_6 : Nat → Int32) (r0_6_0 : Nat → Int32) (r0_6_1 : Nat → Int32) (r0_6_2 : Nat → Int32) (r0_7 : Nat → Int32) (r0_7_0 : Nat → Int32) (r0_7_1 : Nat → Int32) (r0_7_2 : Nat → Int32) (r0_7_3 : Nat → Int32) : Option (Int32 × (Nat → Int32) × (Nat → Int32) × (Nat → Int32) × (Nat → Int64) × (Nat → Int32) × (Nat → Int32) × (Nat → Int32) × (Nat → Int32) × (Nat → Int32) × (Nat → Int32) × (Nat → Int32) × (Nat → Int32) × (Nat → Int32)) :=
  (fRd_start r0_1 w0_1 r0_0 r0_0_0 200).bind (fun (y1 : (Nat → Int32) × (Nat → Int64)) =>
  (fSn_readFrom r0_7 r0_7_0 r0_7_1 r0_7_2 r0_7_3 y1.1 y1.2 r0_0 r0_0_0 w0_1_1 r0_2 w0_2_0 w0_2_1).bind (fun (y2 : (Nat → Int32) × (Nat → Int32) × (Nat → Int32) × (Nat → Int32) × (Nat → Int32) × (Nat → Int32) × (Nat → Int64)) =>
  zlet (zup r0 16 (fRd_faultKind y2.2.2.2.2.2.1)) (fun (r0v3 : Nat → Int32) =>
  (fTp_clear r0_0).bind (fun (y4 : (Nat → Int32)) =>
  (if (r0v3 16) = 0 then
  (fSn_copyFrom r0_6 r0_6_0 r0_6_1 r0_6_2 y2.1 y2.2.1 y2.2.2.1 y2.2.2.2.1).bind (fun (y6 : (Nat → Int32) × (Nat → Int32) × (Nat → Int32) × (Nat → Int32)) =>
  some ((fSn_ones y6.1), r0v3, y4, y2.2.2.2.2.2.1, y2.2.2.2.2.2.2, y6.1, y6.2.1, y6.2.2.1, y6.2.2.2, y2.1, y2.2.1, y2.2.2.1, y2.2.2.2.1, y2.2.2.2.2.1))
  else
  some (((-1) - (fRd_place y2.2.2.2.2.2.1)), r0v3, y4, y2.2.2.2.2.2.1, y2.2.2.2.2.2.2, r0_6, r0_6_0, r0_6_1, r0_6_2, y2.1, y2.2.1, y2.2.2.1, y2.2.2.2.1, y2.2.2.2.2.1))))))

set_option maxRecDepth 20000 in
theorem TX11_sentence_0 (Γ : zG) {Q : Option Value → zM → Prop} (M : zM) (r0 : Nat → Int32) (r0_0 : Nat → Int32) (r0_0_0 : Nat → Int32) (r0_1 : Nat → Int32) (w0_1 : Nat → Int64) (w0_1_1 : Nat → Int64) (r0_2 : Nat → Int32) (w0_2_0 : Nat → Int64) (w0_2_1 : Nat → Int64) (r0_6 : Nat → Int32) (r0_6_0 : Nat → Int32) (r0_6_1 : Nat → Int32) (r0_6_2 : Nat → Int32) (r0_7 : Nat → Int32) (r0_7_0 : Nat → Int32) (r0_7_1 : Nat → Int32) (r0_7_2 : Nat → Int32) (r0_7_3 : Nat → Int32) (e_i0 : M.1 0 = r0) (e_i1 : M.1 1 = r0_0) (e_i2 : M.1 2 = r0_0_0) (e_i3 : M.1 3 = r0_1) (e_l3 : M.2 3 = w0_1) (e_l4 : M.2 4 = w0_1_1) (e_i5 : M.1 5 = r0_2) (e_l6 : M.2 6 = w0_2_0) (e_l7 : M.2 7 = w0_2_1) (e_i35 : M.1 35 = r0_6) (e_i36 : M.1 36 = r0_6_0) (e_i37 : M.1 37 = r0_6_1) (e_i38 : M.1 38 = r0_6_2) (e_i41 : M.1 41 = r0_7) (e_i42 : M.1 42 = r0_7_0) (e_i43 : M.1 43 = r0_7_1) (e_i44 : M.1 44 = r0_7_2) (e_i45 : M.1 45 = r0_7_3)  {res : Int32 × (Nat → Int32) × (Nat → Int32) × (Nat → Int32) × (Nat → Int64) × (Nat → Int32) × (Nat → Int32) × (Nat → Int32) × (Nat → Int32) × (Nat → Int32) × (Nat → Int32) × (Nat → Int32) × (Nat → Int32) × (Nat → Int32)} (hy : (fX_sentence r0 r0_0 r0_0_0 r0_1 w0_1 w0_1_1 r0_2 w0_2_0 w0_2_1 r0_6 r0_6_0 r0_6_1 r0_6_2 r0_7 r0_7_0 r0_7_1 r0_7_2 r0_7_3) = some res) (hq : Q (some (.int res.1)) (zui (zui (zui (zui (zui (zui (zui (zui (zui (zui (zui (zui (zul M 3 res.2.2.2.2.1) 0 res.2.1) 1 res.2.2.1) 3 res.2.2.2.1) 35 res.2.2.2.2.2.1) 36 res.2.2.2.2.2.2.1) 37 res.2.2.2.2.2.2.2.1) 38 res.2.2.2.2.2.2.2.2.1) 41 res.2.2.2.2.2.2.2.2.2.1) 42 res.2.2.2.2.2.2.2.2.2.2.1) 43 res.2.2.2.2.2.2.2.2.2.2.2.1) 44 res.2.2.2.2.2.2.2.2.2.2.2.2.1) 45 res.2.2.2.2.2.2.2.2.2.2.2.2.2)) : zR Γ 8 YX11_sentence 0 [(0, .ref (zad Γ 0))] [] M Q := by
  unfold fX_sentence at hy
  refine zj_aload_n (pc' := 1) 0 dX11_sentence_0 rfl rfl rfl ?_
  refine zj_getR (pc' := 4) (j := 3) dX11_sentence_1 rfl flX11_21 sh0 rfl ?_
  refine zj_sipush (pc' := 7) dX11_sentence_4 rfl ksipush_200 ?_
  obtain ⟨y1, hy1, hy⟩ := zt_b hy
  refine zj_V0 (pc' := 10) (z := YX8_start) (As := [.int 200]) (N := (zui (zul M 3 y1.2) 3 y1.1)) dX11_sentence_7 rfl mlX11_129 lkX8_start sh3 ⟨_, _, rfl⟩ rfl rfl (Nat.le_of_ble_eq_true rfl) (Nat.le_of_ble_eq_true rfl) (LX8_start_3 Γ _ r0_1 w0_1 r0_0 r0_0_0 e_i3 e_l3 e_i1 e_i2 200 hy1) ((zch_i rfl rfl)).symm ?_
  refine zj_aload_n (pc' := 11) 0 dX11_sentence_10 rfl rfl rfl ?_
  refine zj_getR (pc' := 14) (j := 41) dX11_sentence_11 rfl flX11_52 sh0 rfl ?_
  refine zj_aload_n (pc' := 15) 0 dX11_sentence_14 rfl rfl rfl ?_
  refine zj_getR (pc' := 18) (j := 3) dX11_sentence_15 rfl flX11_21 sh0 rfl ?_
  refine zj_aload_n (pc' := 19) 0 dX11_sentence_18 rfl rfl rfl ?_
  refine zj_getR (pc' := 22) (j := 5) dX11_sentence_19 rfl flX11_28 sh0 rfl ?_
  obtain ⟨y2, hy2, hy⟩ := zt_b hy
  refine zj_V0 (pc' := 25) (z := YX9_readFrom) (As := [.ref (zad Γ 3), .ref (zad Γ 5)]) (N := (zui (zui (zui (zui (zui (zui (zul M 3 y2.2.2.2.2.2.2) 3 y2.2.2.2.2.2.1) 41 y2.1) 42 y2.2.1) 43 y2.2.2.1) 44 y2.2.2.2.1) 45 y2.2.2.2.2.1)) dX11_sentence_22 rfl mlX11_362 lkX9_readFrom sh41 ⟨_, _, rfl⟩ rfl rfl (Nat.le_of_ble_eq_true rfl) (Nat.le_of_ble_eq_true rfl) (LX9_readFrom_41_3_5 Γ _ r0_7 r0_7_0 r0_7_1 r0_7_2 r0_7_3 y1.1 y1.2 r0_0 r0_0_0 w0_1_1 r0_2 w0_2_0 w0_2_1 (zr_n rfl (zr_l e_i41)) (zr_n rfl (zr_l e_i42)) (zr_n rfl (zr_l e_i43)) (zr_n rfl (zr_l e_i44)) (zr_n rfl (zr_l e_i45)) zr_s (zq_i zq_s) (zr_n rfl (zr_l e_i1)) (zr_n rfl (zr_l e_i2)) (zq_i (zq_n rfl e_l4)) (zr_n rfl (zr_l e_i5)) (zq_i (zq_n rfl e_l6)) (zq_i (zq_n rfl e_l7)) hy2) ((zch_i (zch_i (zch_i (zch_i (zch_i (zch_i (zm_li zn_s) zm_s) rfl) rfl) rfl) rfl) rfl)).symm ?_
  refine zj_aload_n (pc' := 26) 0 dX11_sentence_25 rfl rfl rfl ?_
  refine zj_aload_n (pc' := 27) 0 dX11_sentence_26 rfl rfl rfl ?_
  refine zj_getR (pc' := 30) (j := 3) dX11_sentence_27 rfl flX11_21 sh0 rfl ?_
  refine zj_V1 (pc' := 33) (z := YX8_faultKind) (As := []) (N := (zui (zui (zui (zui (zui (zui (zul M 3 y2.2.2.2.2.2.2) 3 y2.2.2.2.2.2.1) 41 y2.1) 42 y2.2.1) 43 y2.2.2.1) 44 y2.2.2.2.1) 45 y2.2.2.2.2.1)) dX11_sentence_30 rfl mlX11_136 lkX8_faultKind sh3 ⟨_, _, rfl⟩ rfl rfl (Nat.le_of_ble_eq_true rfl) (Nat.le_of_ble_eq_true rfl) (LX8_faultKind_3 Γ _ y2.2.2.2.2.2.1 (zr_n rfl (zr_n rfl (zr_n rfl (zr_n rfl (zr_n rfl zr_s))))) rfl) rfl ?_
  obtain ⟨r0v3, er0v3⟩ : ∃ z, z = (zup r0 16 (fRd_faultKind y2.2.2.2.2.2.1)) := ⟨_, rfl⟩
  have hy := zlet_at er0v3 hy
  refine zj_pI (pc' := 36) (N := (zui (zui (zui (zui (zui (zui (zui (zul M 3 y2.2.2.2.2.2.2) 0 r0v3) 3 y2.2.2.2.2.2.1) 41 y2.1) 42 y2.2.1) 43 y2.2.2.1) 44 y2.2.2.2.1) 45 y2.2.2.2.2.1)) dX11_sentence_33 rfl fpX11_139 sh0 rfl (zr_n rfl (zr_n rfl (zr_n rfl (zr_n rfl (zr_n rfl (zr_n rfl (zr_l e_i0))))))) er0v3 (zm_n rfl (zm_n rfl (zm_n rfl (zm_n rfl (zm_n rfl (zm_n rfl rfl)))))) ?_
  refine zj_aload_n (pc' := 37) 0 dX11_sentence_36 rfl rfl rfl ?_
  refine zj_getR (pc' := 40) (j := 1) dX11_sentence_37 rfl flX11_10 sh0 rfl ?_
  obtain ⟨y4, hy4, hy⟩ := zt_b hy
  refine zj_V0 (pc' := 43) (z := YX10_clear) (As := []) (N := (zui (zui (zui (zui (zui (zui (zui (zui (zul M 3 y2.2.2.2.2.2.2) 0 r0v3) 1 y4) 3 y2.2.2.2.2.2.1) 41 y2.1) 42 y2.2.1) 43 y2.2.2.1) 44 y2.2.2.2.1) 45 y2.2.2.2.2.1)) dX11_sentence_40 rfl mlX11_141 lkX10_clear sh1 ⟨_, _, rfl⟩ rfl rfl (Nat.le_of_ble_eq_true rfl) (Nat.le_of_ble_eq_true rfl) (LX10_clear_1 Γ _ r0_0 (zr_n rfl (zr_n rfl (zr_n rfl (zr_n rfl (zr_n rfl (zr_n rfl (zr_n rfl (zr_l e_i1)))))))) hy4) ((zm_n rfl (zm_n rfl (zm_n rfl (zm_n rfl (zm_n rfl (zm_n rfl rfl))))))).symm ?_
  refine zj_aload_n (pc' := 44) 0 dX11_sentence_43 rfl rfl rfl ?_
  refine zj_fI (pc' := 47) dX11_sentence_44 rfl flX11_139 sh0 rfl (zr_n rfl (zr_n rfl (zr_n rfl (zr_n rfl (zr_n rfl (zr_n rfl (zr_n rfl zr_s))))))) rfl ?_
  refine zj_if_eq (tgt := 60) (pc' := 50) dX11_sentence_47 rfl (by decide) (fun c5 => ?_) (fun c5 => ?_)
  · have hy := zt_t hy c5
    refine zj_aload_n (pc' := 61) 0 dX11_sentence_60 rfl rfl rfl ?_
    refine zj_getR (pc' := 64) (j := 35) dX11_sentence_61 rfl flX11_48 sh0 rfl ?_
    refine zj_aload_n (pc' := 65) 0 dX11_sentence_64 rfl rfl rfl ?_
    refine zj_getR (pc' := 68) (j := 41) dX11_sentence_65 rfl flX11_52 sh0 rfl ?_
    obtain ⟨y6, hy6, hy⟩ := zt_b hy
    refine zj_V0 (pc' := 71) (z := YX9_copyFrom) (As := [.ref (zad Γ 41)]) (N := (zui (zui (zui (zui (zui (zui (zui (zui (zui (zui (zui (zui (zul M 3 y2.2.2.2.2.2.2) 0 r0v3) 1 y4) 3 y2.2.2.2.2.2.1) 35 y6.1) 36 y6.2.1) 37 y6.2.2.1) 38 y6.2.2.2) 41 y2.1) 42 y2.2.1) 43 y2.2.2.1) 44 y2.2.2.2.1) 45 y2.2.2.2.2.1)) dX11_sentence_68 rfl mlX11_363 lkX9_copyFrom sh35 ⟨_, _, rfl⟩ rfl rfl (Nat.le_of_ble_eq_true rfl) (Nat.le_of_ble_eq_true rfl) (LX9_copyFrom_35_41 Γ _ r0_6 r0_6_0 r0_6_1 r0_6_2 y2.1 y2.2.1 y2.2.2.1 y2.2.2.2.1 (zr_n rfl (zr_n rfl (zr_n rfl (zr_n rfl (zr_n rfl (zr_n rfl (zr_n rfl (zr_n rfl (zr_l e_i35))))))))) (zr_n rfl (zr_n rfl (zr_n rfl (zr_n rfl (zr_n rfl (zr_n rfl (zr_n rfl (zr_n rfl (zr_l e_i36))))))))) (zr_n rfl (zr_n rfl (zr_n rfl (zr_n rfl (zr_n rfl (zr_n rfl (zr_n rfl (zr_n rfl (zr_l e_i37))))))))) (zr_n rfl (zr_n rfl (zr_n rfl (zr_n rfl (zr_n rfl (zr_n rfl (zr_n rfl (zr_n rfl (zr_l e_i38))))))))) (zr_n rfl (zr_n rfl (zr_n rfl (zr_n rfl zr_s)))) (zr_n rfl (zr_n rfl (zr_n rfl zr_s))) (zr_n rfl (zr_n rfl zr_s)) (zr_n rfl zr_s) hy6) ((zch_i (zch_i (zch_i (zm_n rfl (zm_n rfl (zm_n rfl (zm_n rfl (zm_n rfl rfl))))) (zm_n rfl (zm_n rfl (zm_n rfl (zm_n rfl (zm_n rfl rfl)))))) (zm_n rfl (zm_n rfl (zm_n rfl (zm_n rfl (zm_n rfl rfl)))))) (zm_n rfl (zm_n rfl (zm_n rfl (zm_n rfl (zm_n rfl rfl))))))).symm ?_
    refine zj_aload_n (pc' := 72) 0 dX11_sentence_71 rfl rfl rfl ?_
    refine zj_getR (pc' := 75) (j := 35) dX11_sentence_72 rfl flX11_48 sh0 rfl ?_
    refine zj_V1 (pc' := 78) (z := YX9_ones) (As := []) (N := (zui (zui (zui (zui (zui (zui (zui (zui (zui (zui (zui (zui (zul M 3 y2.2.2.2.2.2.2) 0 r0v3) 1 y4) 3 y2.2.2.2.2.2.1) 35 y6.1) 36 y6.2.1) 37 y6.2.2.1) 38 y6.2.2.2) 41 y2.1) 42 y2.2.1) 43 y2.2.2.1) 44 y2.2.2.2.1) 45 y2.2.2.2.2.1)) dX11_sentence_75 rfl mlX11_366 lkX9_ones sh35 ⟨_, _, rfl⟩ rfl rfl (Nat.le_of_ble_eq_true rfl) (Nat.le_of_ble_eq_true rfl) (LX9_ones_35 Γ _ y6.1 (zr_n rfl (zr_n rfl (zr_n rfl (zr_n rfl (zr_n rfl (zr_n rfl (zr_n rfl (zr_n rfl zr_s)))))))) rfl) rfl ?_
    have e9 := Option.some.inj hy
    subst e9
    exact zj_iret dX11_sentence_78 rfl hq
  · have hy := zt_f hy c5
    refine zj_iconst (pc' := 51) dX11_sentence_50 rfl kiconst_m1 ?_
    refine zj_aload_n (pc' := 52) 0 dX11_sentence_51 rfl rfl rfl ?_
    refine zj_getR (pc' := 55) (j := 3) dX11_sentence_52 rfl flX11_21 sh0 rfl ?_
    refine zj_V1 (pc' := 58) (z := YX8_place) (As := []) (N := (zui (zui (zui (zui (zui (zui (zui (zui (zul M 3 y2.2.2.2.2.2.2) 0 r0v3) 1 y4) 3 y2.2.2.2.2.2.1) 41 y2.1) 42 y2.2.1) 43 y2.2.2.1) 44 y2.2.2.2.1) 45 y2.2.2.2.2.1)) dX11_sentence_55 rfl mlX11_144 lkX8_place sh3 ⟨_, _, rfl⟩ rfl rfl (Nat.le_of_ble_eq_true rfl) (Nat.le_of_ble_eq_true rfl) (LX8_place_3 Γ _ y2.2.2.2.2.2.1 (zr_n rfl (zr_n rfl (zr_n rfl (zr_n rfl (zr_n rfl zr_s))))) rfl) rfl ?_
    refine zj_isub (pc' := 59) dX11_sentence_58 rfl ?_
    have e9 := Option.some.inj hy
    subst e9
    refine zj_mem (N := (zui (zui (zui (zui (zui (zui (zui (zui (zui (zul M 3 y2.2.2.2.2.2.2) 0 r0v3) 1 y4) 3 y2.2.2.2.2.2.1) 35 r0_6) 41 y2.1) 42 y2.2.1) 43 y2.2.2.1) 44 y2.2.2.2.1) 45 y2.2.2.2.2.1)) (zself_i (zr_n rfl (zr_n rfl (zr_n rfl (zr_n rfl (zr_n rfl (zr_n rfl (zr_n rfl (zr_n rfl (zr_l e_i35))))))))) (zm_n rfl (zm_n rfl (zm_n rfl (zm_n rfl (zm_n rfl rfl)))))) ?_
    refine zj_mem (N := (zui (zui (zui (zui (zui (zui (zui (zui (zui (zui (zul M 3 y2.2.2.2.2.2.2) 0 r0v3) 1 y4) 3 y2.2.2.2.2.2.1) 35 r0_6) 36 r0_6_0) 41 y2.1) 42 y2.2.1) 43 y2.2.2.1) 44 y2.2.2.2.1) 45 y2.2.2.2.2.1)) (zself_i (zr_n rfl (zr_n rfl (zr_n rfl (zr_n rfl (zr_n rfl (zr_n rfl (zr_n rfl (zr_n rfl (zr_n rfl (zr_l e_i36)))))))))) (zm_n rfl (zm_n rfl (zm_n rfl (zm_n rfl (zm_n rfl rfl)))))) ?_
    refine zj_mem (N := (zui (zui (zui (zui (zui (zui (zui (zui (zui (zui (zui (zul M 3 y2.2.2.2.2.2.2) 0 r0v3) 1 y4) 3 y2.2.2.2.2.2.1) 35 r0_6) 36 r0_6_0) 37 r0_6_1) 41 y2.1) 42 y2.2.1) 43 y2.2.2.1) 44 y2.2.2.2.1) 45 y2.2.2.2.2.1)) (zself_i (zr_n rfl (zr_n rfl (zr_n rfl (zr_n rfl (zr_n rfl (zr_n rfl (zr_n rfl (zr_n rfl (zr_n rfl (zr_n rfl (zr_l e_i37))))))))))) (zm_n rfl (zm_n rfl (zm_n rfl (zm_n rfl (zm_n rfl rfl)))))) ?_
    refine zj_mem (N := (zui (zui (zui (zui (zui (zui (zui (zui (zui (zui (zui (zui (zul M 3 y2.2.2.2.2.2.2) 0 r0v3) 1 y4) 3 y2.2.2.2.2.2.1) 35 r0_6) 36 r0_6_0) 37 r0_6_1) 38 r0_6_2) 41 y2.1) 42 y2.2.1) 43 y2.2.2.1) 44 y2.2.2.2.1) 45 y2.2.2.2.2.1)) (zself_i (zr_n rfl (zr_n rfl (zr_n rfl (zr_n rfl (zr_n rfl (zr_n rfl (zr_n rfl (zr_n rfl (zr_n rfl (zr_n rfl (zr_n rfl (zr_l e_i38)))))))))))) (zm_n rfl (zm_n rfl (zm_n rfl (zm_n rfl (zm_n rfl rfl)))))) ?_
    exact zj_iret dX11_sentence_59 rfl hq
set_option maxRecDepth 20000 in
theorem LX11_sentence_0 (Γ : zG) (M : zM) (r0 : Nat → Int32) (r0_0 : Nat → Int32) (r0_0_0 : Nat → Int32) (r0_1 : Nat → Int32) (w0_1 : Nat → Int64) (w0_1_1 : Nat → Int64) (r0_2 : Nat → Int32) (w0_2_0 : Nat → Int64) (w0_2_1 : Nat → Int64) (r0_6 : Nat → Int32) (r0_6_0 : Nat → Int32) (r0_6_1 : Nat → Int32) (r0_6_2 : Nat → Int32) (r0_7 : Nat → Int32) (r0_7_0 : Nat → Int32) (r0_7_1 : Nat → Int32) (r0_7_2 : Nat → Int32) (r0_7_3 : Nat → Int32) (e_i0 : M.1 0 = r0) (e_i1 : M.1 1 = r0_0) (e_i2 : M.1 2 = r0_0_0) (e_i3 : M.1 3 = r0_1) (e_l3 : M.2 3 = w0_1) (e_l4 : M.2 4 = w0_1_1) (e_i5 : M.1 5 = r0_2) (e_l6 : M.2 6 = w0_2_0) (e_l7 : M.2 7 = w0_2_1) (e_i35 : M.1 35 = r0_6) (e_i36 : M.1 36 = r0_6_0) (e_i37 : M.1 37 = r0_6_1) (e_i38 : M.1 38 = r0_6_2) (e_i41 : M.1 41 = r0_7) (e_i42 : M.1 42 = r0_7_0) (e_i43 : M.1 43 = r0_7_1) (e_i44 : M.1 44 = r0_7_2) (e_i45 : M.1 45 = r0_7_3)  {res : Int32 × (Nat → Int32) × (Nat → Int32) × (Nat → Int32) × (Nat → Int64) × (Nat → Int32) × (Nat → Int32) × (Nat → Int32) × (Nat → Int32) × (Nat → Int32) × (Nat → Int32) × (Nat → Int32) × (Nat → Int32) × (Nat → Int32)} (hy : (fX_sentence r0 r0_0 r0_0_0 r0_1 w0_1 w0_1_1 r0_2 w0_2_0 w0_2_1 r0_6 r0_6_0 r0_6_1 r0_6_2 r0_7 r0_7_0 r0_7_1 r0_7_2 r0_7_3) = some res) : zK Γ 8 YX11_sentence [.ref (zad Γ 0)] M (fun v N => v = some (.int res.1) ∧ N = (zui (zui (zui (zui (zui (zui (zui (zui (zui (zui (zui (zui (zul M 3 res.2.2.2.2.1) 0 res.2.1) 1 res.2.2.1) 3 res.2.2.2.1) 35 res.2.2.2.2.2.1) 36 res.2.2.2.2.2.2.1) 37 res.2.2.2.2.2.2.2.1) 38 res.2.2.2.2.2.2.2.2.1) 41 res.2.2.2.2.2.2.2.2.2.1) 42 res.2.2.2.2.2.2.2.2.2.2.1) 43 res.2.2.2.2.2.2.2.2.2.2.2.1) 44 res.2.2.2.2.2.2.2.2.2.2.2.2.1) 45 res.2.2.2.2.2.2.2.2.2.2.2.2.2)) :=
  zK_of (by decide) (Nat.le_of_ble_eq_true rfl) (TX11_sentence_0 Γ M r0 r0_0 r0_0_0 r0_1 w0_1 w0_1_1 r0_2 w0_2_0 w0_2_1 r0_6 r0_6_0 r0_6_1 r0_6_2 r0_7 r0_7_0 r0_7_1 r0_7_2 r0_7_3 e_i0 e_i1 e_i2 e_i3 e_l3 e_l4 e_i5 e_l6 e_l7 e_i35 e_i36 e_i37 e_i38 e_i41 e_i42 e_i43 e_i44 e_i45 hy ⟨rfl, rfl⟩)

noncomputable def fM_code (r0 : Nat → Int32) (r0_8 : Nat → Int32) (a1 : Int32) (a2 : Int32) (a3 : Int32) : Option ((Nat → Int32) × (Nat → Int32)) :=
  (zwr r0_8 160 (3 * (r0 44)) a1).bind (fun (r0_8v1 : Nat → Int32) =>
  (zwr r0_8v1 160 ((3 * (r0 44)) + 1) a2).bind (fun (r0_8v2 : Nat → Int32) =>
  (zwr r0_8v2 160 ((3 * (r0 44)) + 2) a3).bind (fun (r0_8v3 : Nat → Int32) =>
  zlet (zup r0 44 ((r0 44) + 1)) (fun (r0v4 : Nat → Int32) =>
  some (r0v4, r0_8v3)))))

set_option maxRecDepth 20000 in
theorem TX12_code_186 (Γ : zG) {Q : Option Value → zM → Prop} (M : zM) (r0 : Nat → Int32) (r0_8 : Nat → Int32) (e_i186 : M.1 186 = r0) (e_i190 : M.1 190 = r0_8) (a1 : Int32) (a2 : Int32) (a3 : Int32) {res : (Nat → Int32) × (Nat → Int32)} (hy : (fM_code r0 r0_8 a1 a2 a3) = some res) (hq : Q none (zui (zui M 186 res.1) 190 res.2)) : zR Γ 1 YX12_code 0 [(0, .ref (zad Γ 186)), (1, .int a1), (2, .int a2), (3, .int a3)] [] M Q := by
  unfold fM_code at hy
  refine zj_aload_n (pc' := 1) 0 dX12_code_0 rfl rfl rfl ?_
  refine zj_getR (pc' := 4) (j := 190) dX12_code_1 rfl flX12_40 sh186 rfl ?_
  refine zj_iconst (pc' := 5) dX12_code_4 rfl kiconst_3 ?_
  refine zj_aload_n (pc' := 6) 0 dX12_code_5 rfl rfl rfl ?_
  refine zj_fI (pc' := 9) dX12_code_6 rfl flX12_429 sh186 rfl e_i186 rfl ?_
  refine zj_imul (pc' := 10) dX12_code_9 rfl ?_
  refine zj_iload_n (pc' := 11) 1 dX12_code_10 rfl rfl rfl ?_
  obtain ⟨r0_8v1, hr0_8v1, hy⟩ := zt_b hy
  refine zj_wri (pc' := 12) (N := (zui M 190 r0_8v1)) dX12_code_11 rfl sh190 e_i190 hr0_8v1 rfl ?_
  refine zj_aload_n (pc' := 13) 0 dX12_code_12 rfl rfl rfl ?_
  refine zj_getR (pc' := 16) (j := 190) dX12_code_13 rfl flX12_40 sh186 rfl ?_
  refine zj_iconst (pc' := 17) dX12_code_16 rfl kiconst_3 ?_
  refine zj_aload_n (pc' := 18) 0 dX12_code_17 rfl rfl rfl ?_
  refine zj_fI (pc' := 21) dX12_code_18 rfl flX12_429 sh186 rfl (zr_n rfl e_i186) rfl ?_
  refine zj_imul (pc' := 22) dX12_code_21 rfl ?_
  refine zj_iconst (pc' := 23) dX12_code_22 rfl kiconst_1 ?_
  refine zj_iadd (pc' := 24) dX12_code_23 rfl ?_
  refine zj_iload_n (pc' := 25) 2 dX12_code_24 rfl rfl rfl ?_
  obtain ⟨r0_8v2, hr0_8v2, hy⟩ := zt_b hy
  refine zj_wri (pc' := 26) (N := (zui M 190 r0_8v2)) dX12_code_25 rfl sh190 zr_s hr0_8v2 zm_s ?_
  refine zj_aload_n (pc' := 27) 0 dX12_code_26 rfl rfl rfl ?_
  refine zj_getR (pc' := 30) (j := 190) dX12_code_27 rfl flX12_40 sh186 rfl ?_
  refine zj_iconst (pc' := 31) dX12_code_30 rfl kiconst_3 ?_
  refine zj_aload_n (pc' := 32) 0 dX12_code_31 rfl rfl rfl ?_
  refine zj_fI (pc' := 35) dX12_code_32 rfl flX12_429 sh186 rfl (zr_n rfl e_i186) rfl ?_
  refine zj_imul (pc' := 36) dX12_code_35 rfl ?_
  refine zj_iconst (pc' := 37) dX12_code_36 rfl kiconst_2 ?_
  refine zj_iadd (pc' := 38) dX12_code_37 rfl ?_
  refine zj_iload_n (pc' := 39) 3 dX12_code_38 rfl rfl rfl ?_
  obtain ⟨r0_8v3, hr0_8v3, hy⟩ := zt_b hy
  refine zj_wri (pc' := 40) (N := (zui M 190 r0_8v3)) dX12_code_39 rfl sh190 zr_s hr0_8v3 zm_s ?_
  refine zj_aload_n (pc' := 41) 0 dX12_code_40 rfl rfl rfl ?_
  refine zj_dup (pc' := 42) dX12_code_41 rfl rfl ?_
  refine zj_fI (pc' := 45) dX12_code_42 rfl flX12_429 sh186 rfl (zr_n rfl e_i186) rfl ?_
  refine zj_iconst (pc' := 46) dX12_code_45 rfl kiconst_1 ?_
  refine zj_iadd (pc' := 47) dX12_code_46 rfl ?_
  obtain ⟨r0v4, er0v4⟩ : ∃ z, z = (zup r0 44 ((r0 44) + 1)) := ⟨_, rfl⟩
  have hy := zlet_at er0v4 hy
  refine zj_pI (pc' := 50) (N := (zui (zui M 186 r0v4) 190 r0_8v3)) dX12_code_47 rfl fpX12_429 sh186 rfl (zr_n rfl e_i186) er0v4 (zm_n rfl rfl) ?_
  have e9 := Option.some.inj hy
  subst e9
  exact zj_vret dX12_code_50 rfl hq
set_option maxRecDepth 20000 in
theorem LX12_code_186 (Γ : zG) (M : zM) (r0 : Nat → Int32) (r0_8 : Nat → Int32) (e_i186 : M.1 186 = r0) (e_i190 : M.1 190 = r0_8) (a1 : Int32) (a2 : Int32) (a3 : Int32) {res : (Nat → Int32) × (Nat → Int32)} (hy : (fM_code r0 r0_8 a1 a2 a3) = some res) : zK Γ 1 YX12_code [.ref (zad Γ 186), .int a1, .int a2, .int a3] M (fun v N => v = none ∧ N = (zui (zui M 186 res.1) 190 res.2)) :=
  zK_of (by decide) (Nat.le_of_ble_eq_true rfl) (TX12_code_186 Γ M r0 r0_8 e_i186 e_i190 a1 a2 a3 hy ⟨rfl, rfl⟩)

noncomputable def fM_nots_L0 (r0_43 : Nat → Int32) (r0v1 : Nat → Int32) (r0_8v2 : Nat → Int32) : Option (((Nat → Int32) × (Nat → Int32)) ⊕ ((Nat → Int32) × (Nat → Int32))) :=
  (if (r0v1 46) ≤ 0 then
  some (.inr (r0v1, r0_8v2))
  else
  (zrd r0_43 45 ((r0v1 46) - 1)).bind (fun (v11 : Int32) =>
  (if v11 = 20 then
  zlet (zup r0v1 46 ((r0v1 46) - 1)) (fun (r0v13 : Nat → Int32) =>
  zlet (zup r0v13 47 ((r0v13 47) - 1)) (fun (r0v14 : Nat → Int32) =>
  (fM_code r0v14 r0_8v2 20 0 0).bind (fun (y15 : (Nat → Int32) × (Nat → Int32)) =>
  some (.inl (y15.1, y15.2)))))
  else
  some (.inr (r0v1, r0_8v2)))))
noncomputable def fM_nots (r0 : Nat → Int32) (r0_8 : Nat → Int32) (r0_43 : Nat → Int32) : Option ((Nat → Int32) × (Nat → Int32)) :=
  (zLP (fun s => fM_nots_L0 r0_43 s.1 s.2) (r0, r0_8)).bind (fun r5 =>
  some (r5.1, r5.2))

set_option maxRecDepth 20000 in
theorem TX12_nots_186 (Γ : zG) {Q : Option Value → zM → Prop} (M : zM) (r0 : Nat → Int32) (r0_8 : Nat → Int32) (r0_43 : Nat → Int32) (e_i186 : M.1 186 = r0) (e_i190 : M.1 190 = r0_8) (e_i202 : M.1 202 = r0_43)  {res : (Nat → Int32) × (Nat → Int32)} (hy : (fM_nots r0 r0_8 r0_43) = some res) (hq : Q none (zui (zui M 186 res.1) 190 res.2)) : zR Γ 2 YX12_nots 0 [(0, .ref (zad Γ 186))] [] M Q := by
  unfold fM_nots at hy
  refine zj_mem (N := (zui M 186 r0)) (zself_i e_i186 rfl) ?_
  refine zj_mem (N := (zui (zui M 186 r0) 190 r0_8)) (zself_i (zr_n rfl e_i190) rfl) ?_
  obtain ⟨r5, hr9, hyo6⟩ := zt_b hy
  obtain ⟨n9, hn9⟩ := zLP_some hr9
  have HE3 : ∀ (r0v16 : Nat → Int32) (r0_8v17 : Nat → Int32), r5 = (r0v16, r0_8v17) → zR Γ 2 YX12_nots 54 [] [] (zui (zui M 186 r0v16) 190 r0_8v17) Q := by
    intro r0v16 r0_8v17 e9
    have hy := hyo6
    try rw [e9] at hy
    try dsimp only at hy
    have e9 := Option.some.inj hy
    subst e9
    exact zj_vret dX12_nots_54 rfl hq
  have HL4 : ∀ (n : Nat) (r0v1 : Nat → Int32) (r0_8v2 : Nat → Int32), zlp (fun s => fM_nots_L0 r0_43 s.1 s.2) n (r0v1, r0_8v2) = some r5 → zR Γ 2 YX12_nots 0 [(0, .ref (zad Γ 186))] [] (zui (zui M 186 r0v1) 190 r0_8v2) Q := by
    intro n
    induction n with
    | zero => intro r0v1 r0_8v2 hn9; cases hn9
    | succ n ih7 =>
      intro r0v1 r0_8v2 hn9
      obtain ⟨o9, hb9, h8, h9⟩ := zlp_step hn9
      have hy : fM_nots_L0 r0_43 r0v1 r0_8v2 = some o9 := hb9
      unfold fM_nots_L0 at hy
      refine zj_aload_n (pc' := 1) 0 dX12_nots_0 rfl rfl rfl ?_
      refine zj_fI (pc' := 4) dX12_nots_1 rfl flX12_432 sh186 rfl (zr_n rfl zr_s) rfl ?_
      refine zj_if_le (tgt := 54) (pc' := 7) dX12_nots_4 rfl (by decide) (fun c10 => ?_) (fun c10 => ?_)
      · have hy := zt_t hy c10
        have e9 := h9 _ (Option.some.inj hy).symm
        refine zj_loc [] rfl ?_
        exact HE3 _ _ e9.symm
      · have hy := zt_f hy c10
        refine zj_aload_n (pc' := 8) 0 dX12_nots_7 rfl rfl rfl ?_
        refine zj_getR (pc' := 11) (j := 202) dX12_nots_8 rfl flX12_83 sh186 rfl ?_
        refine zj_aload_n (pc' := 12) 0 dX12_nots_11 rfl rfl rfl ?_
        refine zj_fI (pc' := 15) dX12_nots_12 rfl flX12_432 sh186 rfl (zr_n rfl zr_s) rfl ?_
        refine zj_iconst (pc' := 16) dX12_nots_15 rfl kiconst_1 ?_
        refine zj_isub (pc' := 17) dX12_nots_16 rfl ?_
        obtain ⟨v11, hv11, hy⟩ := zt_b hy
        refine zj_rdi (pc' := 18) dX12_nots_17 rfl sh202 (zr_n rfl (zr_n rfl e_i202)) hv11 ?_
        refine zj_bipush (pc' := 20) dX12_nots_18 rfl kbipush_20 ?_
        refine zj_icmp_ne (tgt := 54) (pc' := 23) dX12_nots_20 rfl (by decide) (fun c12 => ?_) (fun c12 => ?_)
        · have hy := zt_f hy c12
          have e9 := h9 _ (Option.some.inj hy).symm
          refine zj_loc [] rfl ?_
          exact HE3 _ _ e9.symm
        · have hy := zt_t hy c12
          refine zj_aload_n (pc' := 24) 0 dX12_nots_23 rfl rfl rfl ?_
          refine zj_dup (pc' := 25) dX12_nots_24 rfl rfl ?_
          refine zj_fI (pc' := 28) dX12_nots_25 rfl flX12_432 sh186 rfl (zr_n rfl zr_s) rfl ?_
          refine zj_iconst (pc' := 29) dX12_nots_28 rfl kiconst_1 ?_
          refine zj_isub (pc' := 30) dX12_nots_29 rfl ?_
          obtain ⟨r0v13, er0v13⟩ : ∃ z, z = (zup r0v1 46 ((r0v1 46) - 1)) := ⟨_, rfl⟩
          have hy := zlet_at er0v13 hy
          refine zj_pI (pc' := 33) (N := (zui (zui M 186 r0v13) 190 r0_8v2)) dX12_nots_30 rfl fpX12_432 sh186 rfl (zr_n rfl zr_s) er0v13 (zm_n rfl zm_s) ?_
          refine zj_aload_n (pc' := 34) 0 dX12_nots_33 rfl rfl rfl ?_
          refine zj_dup (pc' := 35) dX12_nots_34 rfl rfl ?_
          refine zj_fI (pc' := 38) dX12_nots_35 rfl flX12_438 sh186 rfl (zr_n rfl zr_s) rfl ?_
          refine zj_iconst (pc' := 39) dX12_nots_38 rfl kiconst_1 ?_
          refine zj_isub (pc' := 40) dX12_nots_39 rfl ?_
          obtain ⟨r0v14, er0v14⟩ : ∃ z, z = (zup r0v13 47 ((r0v13 47) - 1)) := ⟨_, rfl⟩
          have hy := zlet_at er0v14 hy
          refine zj_pI (pc' := 43) (N := (zui (zui M 186 r0v14) 190 r0_8v2)) dX12_nots_40 rfl fpX12_438 sh186 rfl (zr_n rfl zr_s) er0v14 (zm_n rfl zm_s) ?_
          refine zj_aload_n (pc' := 44) 0 dX12_nots_43 rfl rfl rfl ?_
          refine zj_bipush (pc' := 46) dX12_nots_44 rfl kbipush_20 ?_
          refine zj_iconst (pc' := 47) dX12_nots_46 rfl kiconst_0 ?_
          refine zj_iconst (pc' := 48) dX12_nots_47 rfl kiconst_0 ?_
          obtain ⟨y15, hy15, hy⟩ := zt_b hy
          refine zj_V0 (pc' := 51) (z := YX12_code) (As := [.int 20, .int 0, .int 0]) (N := (zui (zui M 186 y15.1) 190 y15.2)) dX12_nots_48 rfl mlX12_435 lkX12_code sh186 ⟨_, _, rfl⟩ rfl rfl (Nat.le_of_ble_eq_true rfl) (Nat.le_of_ble_eq_true rfl) (LX12_code_186 Γ _ r0v14 r0_8v2 (zr_n rfl zr_s) zr_s 20 0 0 hy15) ((zch_i (zm_n rfl zm_s) zm_s)).symm ?_
          refine zj_goto (tgt := 0) dX12_nots_51 (by decide) ?_
          have hn9 := h8 _ (Option.some.inj hy).symm
          exact ih7 _ _ hn9
  exact HL4 n9 _ _ hn9
set_option maxRecDepth 20000 in
theorem LX12_nots_186 (Γ : zG) (M : zM) (r0 : Nat → Int32) (r0_8 : Nat → Int32) (r0_43 : Nat → Int32) (e_i186 : M.1 186 = r0) (e_i190 : M.1 190 = r0_8) (e_i202 : M.1 202 = r0_43)  {res : (Nat → Int32) × (Nat → Int32)} (hy : (fM_nots r0 r0_8 r0_43) = some res) : zK Γ 2 YX12_nots [.ref (zad Γ 186)] M (fun v N => v = none ∧ N = (zui (zui M 186 res.1) 190 res.2)) :=
  zK_of (by decide) (Nat.le_of_ble_eq_true rfl) (TX12_nots_186 Γ M r0 r0_8 r0_43 e_i186 e_i190 e_i202 hy ⟨rfl, rfl⟩)

noncomputable def fM_joins_L0 (r0_43 : Nat → Int32) (a1 : Int32) (r0v1 : Nat → Int32) (r0_8v2 : Nat → Int32) : Option (((Nat → Int32) × (Nat → Int32)) ⊕ ((Nat → Int32) × (Nat → Int32))) :=
  (if (r0v1 46) ≤ 0 then
  some (.inr (r0v1, r0_8v2))
  else
  (zrd r0_43 45 ((r0v1 46) - 1)).bind (fun (v11 : Int32) =>
  zlet (fun (u9 : Unit) =>
  zlet (zup r0v1 46 ((r0v1 46) - 1)) (fun (r0v12 : Nat → Int32) =>
  (zrd r0_43 45 (r0v12 46)).bind (fun (v13 : Int32) =>
  (fM_code r0v12 r0_8v2 v13 0 0).bind (fun (y14 : (Nat → Int32) × (Nat → Int32)) =>
  some (.inl (y14.1, y14.2)))))) (fun J15 =>
  (if v11 = 21 then
  J15 ()
  else
  (zrd r0_43 45 ((r0v1 46) - 1)).bind (fun (v17 : Int32) =>
  (if v17 = 22 then
  (if a1 = 22 then
  J15 ()
  else
  some (.inr (r0v1, r0_8v2)))
  else
  some (.inr (r0v1, r0_8v2))))))))
noncomputable def fM_joins (r0 : Nat → Int32) (r0_8 : Nat → Int32) (r0_43 : Nat → Int32) (a1 : Int32) : Option ((Nat → Int32) × (Nat → Int32)) :=
  (zLP (fun s => fM_joins_L0 r0_43 a1 s.1 s.2) (r0, r0_8)).bind (fun r5 =>
  some (r5.1, r5.2))

set_option maxRecDepth 20000 in
theorem TX12_joins_186 (Γ : zG) {Q : Option Value → zM → Prop} (M : zM) (r0 : Nat → Int32) (r0_8 : Nat → Int32) (r0_43 : Nat → Int32) (e_i186 : M.1 186 = r0) (e_i190 : M.1 190 = r0_8) (e_i202 : M.1 202 = r0_43) (a1 : Int32) {res : (Nat → Int32) × (Nat → Int32)} (hy : (fM_joins r0 r0_8 r0_43 a1) = some res) (hq : Q none (zui (zui M 186 res.1) 190 res.2)) : zR Γ 2 YX12_joins 0 [(0, .ref (zad Γ 186)), (1, .int a1)] [] M Q := by
  unfold fM_joins at hy
  refine zj_mem (N := (zui M 186 r0)) (zself_i e_i186 rfl) ?_
  refine zj_mem (N := (zui (zui M 186 r0) 190 r0_8)) (zself_i (zr_n rfl e_i190) rfl) ?_
  obtain ⟨r5, hr9, hyo6⟩ := zt_b hy
  obtain ⟨n9, hn9⟩ := zLP_some hr9
  have HE3 : ∀ (r0v20 : Nat → Int32) (r0_8v21 : Nat → Int32), r5 = (r0v20, r0_8v21) → zR Γ 2 YX12_joins 73 [] [] (zui (zui M 186 r0v20) 190 r0_8v21) Q := by
    intro r0v20 r0_8v21 e9
    have hy := hyo6
    try rw [e9] at hy
    try dsimp only at hy
    have e9 := Option.some.inj hy
    subst e9
    exact zj_vret dX12_joins_73 rfl hq
  have HL4 : ∀ (n : Nat) (r0v1 : Nat → Int32) (r0_8v2 : Nat → Int32), zlp (fun s => fM_joins_L0 r0_43 a1 s.1 s.2) n (r0v1, r0_8v2) = some r5 → zR Γ 2 YX12_joins 0 [(0, .ref (zad Γ 186)), (1, .int a1)] [] (zui (zui M 186 r0v1) 190 r0_8v2) Q := by
    intro n
    induction n with
    | zero => intro r0v1 r0_8v2 hn9; cases hn9
    | succ n ih7 =>
      intro r0v1 r0_8v2 hn9
      obtain ⟨o9, hb9, h8, h9⟩ := zlp_step hn9
      have hy : fM_joins_L0 r0_43 a1 r0v1 r0_8v2 = some o9 := hb9
      unfold fM_joins_L0 at hy
      refine zj_aload_n (pc' := 1) 0 dX12_joins_0 rfl rfl rfl ?_
      refine zj_fI (pc' := 4) dX12_joins_1 rfl flX12_432 sh186 rfl (zr_n rfl zr_s) rfl ?_
      refine zj_if_le (tgt := 73) (pc' := 7) dX12_joins_4 rfl (by decide) (fun c10 => ?_) (fun c10 => ?_)
      · have hy := zt_t hy c10
        have e9 := h9 _ (Option.some.inj hy).symm
        refine zj_loc [] rfl ?_
        exact HE3 _ _ e9.symm
      · have hy := zt_f hy c10
        refine zj_aload_n (pc' := 8) 0 dX12_joins_7 rfl rfl rfl ?_
        refine zj_getR (pc' := 11) (j := 202) dX12_joins_8 rfl flX12_83 sh186 rfl ?_
        refine zj_aload_n (pc' := 12) 0 dX12_joins_11 rfl rfl rfl ?_
        refine zj_fI (pc' := 15) dX12_joins_12 rfl flX12_432 sh186 rfl (zr_n rfl zr_s) rfl ?_
        refine zj_iconst (pc' := 16) dX12_joins_15 rfl kiconst_1 ?_
        refine zj_isub (pc' := 17) dX12_joins_16 rfl ?_
        obtain ⟨v11, hv11, hy⟩ := zt_b hy
        refine zj_rdi (pc' := 18) dX12_joins_17 rfl sh202 (zr_n rfl (zr_n rfl e_i202)) hv11 ?_
        refine zj_bipush (pc' := 20) dX12_joins_18 rfl kbipush_21 ?_
        obtain ⟨J15, eJ15, hy⟩ := zlet_ex hy
        have HJ15 : ∀ (u9 : Unit), J15 u9 = some o9 → zR Γ 2 YX12_joins 45 [(0, .ref (zad Γ 186)), (1, .int a1)] [] (zui (zui M 186 r0v1) 190 r0_8v2) Q := by
          intro u9 hy
          have hy := zap1 eJ15 hy
          refine zj_aload_n (pc' := 46) 0 dX12_joins_45 rfl rfl rfl ?_
          refine zj_dup (pc' := 47) dX12_joins_46 rfl rfl ?_
          refine zj_fI (pc' := 50) dX12_joins_47 rfl flX12_432 sh186 rfl (zr_n rfl zr_s) rfl ?_
          refine zj_iconst (pc' := 51) dX12_joins_50 rfl kiconst_1 ?_
          refine zj_isub (pc' := 52) dX12_joins_51 rfl ?_
          obtain ⟨r0v12, er0v12⟩ : ∃ z, z = (zup r0v1 46 ((r0v1 46) - 1)) := ⟨_, rfl⟩
          have hy := zlet_at er0v12 hy
          refine zj_pI (pc' := 55) (N := (zui (zui M 186 r0v12) 190 r0_8v2)) dX12_joins_52 rfl fpX12_432 sh186 rfl (zr_n rfl zr_s) er0v12 (zm_n rfl zm_s) ?_
          refine zj_aload_n (pc' := 56) 0 dX12_joins_55 rfl rfl rfl ?_
          refine zj_aload_n (pc' := 57) 0 dX12_joins_56 rfl rfl rfl ?_
          refine zj_getR (pc' := 60) (j := 202) dX12_joins_57 rfl flX12_83 sh186 rfl ?_
          refine zj_aload_n (pc' := 61) 0 dX12_joins_60 rfl rfl rfl ?_
          refine zj_fI (pc' := 64) dX12_joins_61 rfl flX12_432 sh186 rfl (zr_n rfl zr_s) rfl ?_
          obtain ⟨v13, hv13, hy⟩ := zt_b hy
          refine zj_rdi (pc' := 65) dX12_joins_64 rfl sh202 (zr_n rfl (zr_n rfl e_i202)) hv13 ?_
          refine zj_iconst (pc' := 66) dX12_joins_65 rfl kiconst_0 ?_
          refine zj_iconst (pc' := 67) dX12_joins_66 rfl kiconst_0 ?_
          obtain ⟨y14, hy14, hy⟩ := zt_b hy
          refine zj_V0 (pc' := 70) (z := YX12_code) (As := [.int v13, .int 0, .int 0]) (N := (zui (zui M 186 y14.1) 190 y14.2)) dX12_joins_67 rfl mlX12_435 lkX12_code sh186 ⟨_, _, rfl⟩ rfl rfl (Nat.le_of_ble_eq_true rfl) (Nat.le_of_ble_eq_true rfl) (LX12_code_186 Γ _ r0v12 r0_8v2 (zr_n rfl zr_s) zr_s v13 0 0 hy14) ((zch_i (zm_n rfl zm_s) zm_s)).symm ?_
          refine zj_goto (tgt := 0) dX12_joins_70 (by decide) ?_
          have hn9 := h8 _ (Option.some.inj hy).symm
          exact ih7 _ _ hn9
        refine zj_icmp_eq (tgt := 45) (pc' := 23) dX12_joins_20 rfl (by decide) (fun c16 => ?_) (fun c16 => ?_)
        · have hy := zt_t hy c16
          exact HJ15 () hy
        · have hy := zt_f hy c16
          refine zj_aload_n (pc' := 24) 0 dX12_joins_23 rfl rfl rfl ?_
          refine zj_getR (pc' := 27) (j := 202) dX12_joins_24 rfl flX12_83 sh186 rfl ?_
          refine zj_aload_n (pc' := 28) 0 dX12_joins_27 rfl rfl rfl ?_
          refine zj_fI (pc' := 31) dX12_joins_28 rfl flX12_432 sh186 rfl (zr_n rfl zr_s) rfl ?_
          refine zj_iconst (pc' := 32) dX12_joins_31 rfl kiconst_1 ?_
          refine zj_isub (pc' := 33) dX12_joins_32 rfl ?_
          obtain ⟨v17, hv17, hy⟩ := zt_b hy
          refine zj_rdi (pc' := 34) dX12_joins_33 rfl sh202 (zr_n rfl (zr_n rfl e_i202)) hv17 ?_
          refine zj_bipush (pc' := 36) dX12_joins_34 rfl kbipush_22 ?_
          refine zj_icmp_ne (tgt := 73) (pc' := 39) dX12_joins_36 rfl (by decide) (fun c18 => ?_) (fun c18 => ?_)
          · have hy := zt_f hy c18
            have e9 := h9 _ (Option.some.inj hy).symm
            refine zj_loc [] rfl ?_
            exact HE3 _ _ e9.symm
          · have hy := zt_t hy c18
            refine zj_iload_n (pc' := 40) 1 dX12_joins_39 rfl rfl rfl ?_
            refine zj_bipush (pc' := 42) dX12_joins_40 rfl kbipush_22 ?_
            refine zj_icmp_ne (tgt := 73) (pc' := 45) dX12_joins_42 rfl (by decide) (fun c19 => ?_) (fun c19 => ?_)
            · have hy := zt_f hy c19
              have e9 := h9 _ (Option.some.inj hy).symm
              refine zj_loc [] rfl ?_
              exact HE3 _ _ e9.symm
            · have hy := zt_t hy c19
              exact HJ15 () hy
  exact HL4 n9 _ _ hn9
set_option maxRecDepth 20000 in
theorem LX12_joins_186 (Γ : zG) (M : zM) (r0 : Nat → Int32) (r0_8 : Nat → Int32) (r0_43 : Nat → Int32) (e_i186 : M.1 186 = r0) (e_i190 : M.1 190 = r0_8) (e_i202 : M.1 202 = r0_43) (a1 : Int32) {res : (Nat → Int32) × (Nat → Int32)} (hy : (fM_joins r0 r0_8 r0_43 a1) = some res) : zK Γ 2 YX12_joins [.ref (zad Γ 186), .int a1] M (fun v N => v = none ∧ N = (zui (zui M 186 res.1) 190 res.2)) :=
  zK_of (by decide) (Nat.le_of_ble_eq_true rfl) (TX12_joins_186 Γ M r0 r0_8 r0_43 e_i186 e_i190 e_i202 a1 hy ⟨rfl, rfl⟩)

noncomputable def fM_behind (r0 : Nat → Int32) (w0 : Nat → Int64) (r0_1 : Nat → Int32) (r0_8 : Nat → Int32) (r0_43 : Nat → Int32) : Option (Bool × (Nat → Int32) × (Nat → Int64) × (Nat → Int32) × (Nat → Int32)) :=
  (fM_nots r0 r0_8 r0_43).bind (fun (y1 : (Nat → Int32) × (Nat → Int32)) =>
  zlet (fun (u9 : Unit) =>
  (fM_joins y1.1 y1.2 r0_43 (if (fM_isWord y1.1 w0 (6385252 : Int64)) = true then (21 : Int32) else (22 : Int32))).bind (fun (y4 : (Nat → Int32) × (Nat → Int32)) =>
  (zwr r0_43 45 (y4.1 46) (if (fM_isWord y4.1 w0 (6385252 : Int64)) = true then (21 : Int32) else (22 : Int32))).bind (fun (r0_43v7 : Nat → Int32) =>
  zlet (zup y4.1 46 ((y4.1 46) + 1)) (fun (r0v8 : Nat → Int32) =>
  zlet (zup r0v8 48 0) (fun (r0v9 : Nat → Int32) =>
  (fM_next r0v9 w0 r0_1).bind (fun (y10 : (Nat → Int32) × (Nat → Int64)) =>
  some (true, y10.1, y10.2, y4.2, r0_43v7))))))) (fun J11 =>
  (if (fM_isWord y1.1 w0 (6385252 : Int64)) = true then
  J11 ()
  else
  (if (fM_isWord y1.1 w0 (28530 : Int64)) = true then
  J11 ()
  else
  (fM_joins y1.1 y1.2 r0_43 22).bind (fun (y14 : (Nat → Int32) × (Nat → Int32)) =>
  (if (fM_isSign y14.1 41) = true then
  (if (y14.1 46) = 0 then
  (fM_bad y14.1 1).bind (fun (y17 : Bool × (Nat → Int32)) =>
  some (y17.1, y17.2, w0, y14.2, r0_43))
  else
  zlet (zup y14.1 46 ((y14.1 46) - 1)) (fun (r0v18 : Nat → Int32) =>
  zlet (zup r0v18 47 ((r0v18 47) - 1)) (fun (r0v19 : Nat → Int32) =>
  (fM_next r0v19 w0 r0_1).bind (fun (y20 : (Nat → Int32) × (Nat → Int64)) =>
  some (true, y20.1, y20.2, y14.2, r0_43)))))
  else
  (fM_bad y14.1 1).bind (fun (y21 : Bool × (Nat → Int32)) =>
  some (y21.1, y21.2, w0, y14.2, r0_43))))))))

set_option maxRecDepth 20000 in
theorem TX12_behind_186 (Γ : zG) {Q : Option Value → zM → Prop} (M : zM) (r0 : Nat → Int32) (w0 : Nat → Int64) (r0_1 : Nat → Int32) (r0_8 : Nat → Int32) (r0_43 : Nat → Int32) (e_i186 : M.1 186 = r0) (e_l186 : M.2 186 = w0) (e_i187 : M.1 187 = r0_1) (e_i190 : M.1 190 = r0_8) (e_i202 : M.1 202 = r0_43)  {res : Bool × (Nat → Int32) × (Nat → Int64) × (Nat → Int32) × (Nat → Int32)} (hy : (fM_behind r0 w0 r0_1 r0_8 r0_43) = some res) (hq : Q (some (.int (zb res.1))) (zui (zui (zui (zul M 186 res.2.2.1) 186 res.2.1) 190 res.2.2.2.1) 202 res.2.2.2.2)) : zR Γ 3 YX12_behind 0 [(0, .ref (zad Γ 186))] [] M Q := by
  unfold fM_behind at hy
  refine zj_aload_n (pc' := 1) 0 dX12_behind_0 rfl rfl rfl ?_
  obtain ⟨y1, hy1, hy⟩ := zt_b hy
  refine zj_V0 (pc' := 4) (z := YX12_nots) (As := []) (N := (zui (zui M 186 y1.1) 190 y1.2)) dX12_behind_1 rfl mlX12_450 lkX12_nots sh186 ⟨_, _, rfl⟩ rfl rfl (Nat.le_of_ble_eq_true rfl) (Nat.le_of_ble_eq_true rfl) (LX12_nots_186 Γ _ r0 r0_8 r0_43 e_i186 e_i190 e_i202 hy1) ((zch_i rfl rfl)).symm ?_
  refine zj_aload_n (pc' := 5) 0 dX12_behind_4 rfl rfl rfl ?_
  refine zj_ldc2 (pc' := 8) dX12_behind_5 rfl cL1401 ?_
  refine zj_V1 (pc' := 11) (z := YX12_isWord) (As := [.long (6385252 : Int64)]) (N := (zui (zui M 186 y1.1) 190 y1.2)) dX12_behind_8 rfl mlX12_210 lkX12_isWord sh186 ⟨_, _, rfl⟩ rfl rfl (Nat.le_of_ble_eq_true rfl) (Nat.le_of_ble_eq_true rfl) (LX12_isWord_186 Γ _ y1.1 w0 (zr_n rfl zr_s) (zq_i (zq_i e_l186)) (6385252 : Int64) rfl) rfl ?_
  obtain ⟨J11, eJ11, hy⟩ := zlet_ex hy
  have HJ11 : ∀ (u9 : Unit), J11 u9 = some res → zR Γ 3 YX12_behind 24 [(0, .ref (zad Γ 186))] [] (zui (zui M 186 y1.1) 190 y1.2) Q := by
    intro u9 hy
    have hy := zap1 eJ11 hy
    refine zj_aload_n (pc' := 25) 0 dX12_behind_24 rfl rfl rfl ?_
    refine zj_aload_n (pc' := 26) 0 dX12_behind_25 rfl rfl rfl ?_
    refine zj_ldc2 (pc' := 29) dX12_behind_26 rfl cL1401 ?_
    refine zj_V1 (pc' := 32) (z := YX12_isWord) (As := [.long (6385252 : Int64)]) (N := (zui (zui M 186 y1.1) 190 y1.2)) dX12_behind_29 rfl mlX12_210 lkX12_isWord sh186 ⟨_, _, rfl⟩ rfl rfl (Nat.le_of_ble_eq_true rfl) (Nat.le_of_ble_eq_true rfl) (LX12_isWord_186 Γ _ y1.1 w0 (zr_n rfl zr_s) (zq_i (zq_i e_l186)) (6385252 : Int64) rfl) rfl ?_
    have HJ2 : zR Γ 3 YX12_behind 42 [(0, .ref (zad Γ 186))] [.int (if (fM_isWord y1.1 w0 (6385252 : Int64)) = true then (21 : Int32) else (22 : Int32)), .ref (zad Γ 186)] (zui (zui M 186 y1.1) 190 y1.2) Q := by
      obtain ⟨y4, hy4, hy⟩ := zt_b hy
      refine zj_V0 (pc' := 45) (z := YX12_joins) (As := [.int (if (fM_isWord y1.1 w0 (6385252 : Int64)) = true then (21 : Int32) else (22 : Int32))]) (N := (zui (zui M 186 y4.1) 190 y4.2)) dX12_behind_42 rfl mlX12_453 lkX12_joins sh186 ⟨_, _, rfl⟩ rfl rfl (Nat.le_of_ble_eq_true rfl) (Nat.le_of_ble_eq_true rfl) (LX12_joins_186 Γ _ y1.1 y1.2 r0_43 (zr_n rfl zr_s) zr_s (zr_n rfl (zr_n rfl e_i202)) (if (fM_isWord y1.1 w0 (6385252 : Int64)) = true then (21 : Int32) else (22 : Int32)) hy4) ((zch_i (zm_n rfl zm_s) zm_s)).symm ?_
      refine zj_aload_n (pc' := 46) 0 dX12_behind_45 rfl rfl rfl ?_
      refine zj_getR (pc' := 49) (j := 202) dX12_behind_46 rfl flX12_83 sh186 rfl ?_
      refine zj_aload_n (pc' := 50) 0 dX12_behind_49 rfl rfl rfl ?_
      refine zj_fI (pc' := 53) dX12_behind_50 rfl flX12_432 sh186 rfl (zr_n rfl zr_s) rfl ?_
      refine zj_aload_n (pc' := 54) 0 dX12_behind_53 rfl rfl rfl ?_
      refine zj_ldc2 (pc' := 57) dX12_behind_54 rfl cL1401 ?_
      refine zj_V1 (pc' := 60) (z := YX12_isWord) (As := [.long (6385252 : Int64)]) (N := (zui (zui M 186 y4.1) 190 y4.2)) dX12_behind_57 rfl mlX12_210 lkX12_isWord sh186 ⟨_, _, rfl⟩ rfl rfl (Nat.le_of_ble_eq_true rfl) (Nat.le_of_ble_eq_true rfl) (LX12_isWord_186 Γ _ y4.1 w0 (zr_n rfl zr_s) (zq_i (zq_i e_l186)) (6385252 : Int64) rfl) rfl ?_
      have HJ5 : zR Γ 3 YX12_behind 70 [(0, .ref (zad Γ 186))] [.int (if (fM_isWord y4.1 w0 (6385252 : Int64)) = true then (21 : Int32) else (22 : Int32)), .int (y4.1 46), .ref (zad Γ 202)] (zui (zui M 186 y4.1) 190 y4.2) Q := by
        obtain ⟨r0_43v7, hr0_43v7, hy⟩ := zt_b hy
        refine zj_wri (pc' := 71) (N := (zui (zui (zui M 186 y4.1) 190 y4.2) 202 r0_43v7)) dX12_behind_70 rfl sh202 (zr_n rfl (zr_n rfl e_i202)) hr0_43v7 rfl ?_
        refine zj_aload_n (pc' := 72) 0 dX12_behind_71 rfl rfl rfl ?_
        refine zj_dup (pc' := 73) dX12_behind_72 rfl rfl ?_
        refine zj_fI (pc' := 76) dX12_behind_73 rfl flX12_432 sh186 rfl (zr_n rfl (zr_n rfl zr_s)) rfl ?_
        refine zj_iconst (pc' := 77) dX12_behind_76 rfl kiconst_1 ?_
        refine zj_iadd (pc' := 78) dX12_behind_77 rfl ?_
        obtain ⟨r0v8, er0v8⟩ : ∃ z, z = (zup y4.1 46 ((y4.1 46) + 1)) := ⟨_, rfl⟩
        have hy := zlet_at er0v8 hy
        refine zj_pI (pc' := 81) (N := (zui (zui (zui M 186 r0v8) 190 y4.2) 202 r0_43v7)) dX12_behind_78 rfl fpX12_432 sh186 rfl (zr_n rfl (zr_n rfl zr_s)) er0v8 (zm_n rfl (zm_n rfl zm_s)) ?_
        refine zj_aload_n (pc' := 82) 0 dX12_behind_81 rfl rfl rfl ?_
        refine zj_iconst (pc' := 83) dX12_behind_82 rfl kiconst_0 ?_
        obtain ⟨r0v9, er0v9⟩ : ∃ z, z = (zup r0v8 48 0) := ⟨_, rfl⟩
        have hy := zlet_at er0v9 hy
        refine zj_pZ (pc' := 86) (N := (zui (zui (zui M 186 r0v9) 190 y4.2) 202 r0_43v7)) dX12_behind_83 rfl fpX12_447 sh186 rfl (Or.inl rfl) (zr_n rfl (zr_n rfl zr_s)) er0v9 (zm_n rfl (zm_n rfl zm_s)) ?_
        refine zj_aload_n (pc' := 87) 0 dX12_behind_86 rfl rfl rfl ?_
        obtain ⟨y10, hy10, hy⟩ := zt_b hy
        refine zj_V0 (pc' := 90) (z := YX12_next) (As := []) (N := (zui (zui (zui (zul M 186 y10.2) 186 y10.1) 190 y4.2) 202 r0_43v7)) dX12_behind_87 rfl mlX12_185 lkX12_next sh186 ⟨_, _, rfl⟩ rfl rfl (Nat.le_of_ble_eq_true rfl) (Nat.le_of_ble_eq_true rfl) (LX12_next_186 Γ _ r0v9 w0 r0_1 (zr_n rfl (zr_n rfl zr_s)) (zq_i (zq_i (zq_i e_l186))) (zr_n rfl (zr_n rfl (zr_n rfl e_i187))) hy10) ((zch_i (zm_li (zm_li (zm_li rfl))) (zm_n rfl (zm_n rfl zm_s)))).symm ?_
        refine zj_iconst (pc' := 91) dX12_behind_90 rfl kiconst_1 ?_
        have e9 := Option.some.inj hy
        subst e9
        exact zj_bret (b := true) dX12_behind_91 rfl hq
      refine zj_bif_eq (tgt := 68) (pc' := 63) dX12_behind_60 rfl (by decide) (fun c6 => ?_) (fun c6 => ?_)
      · refine zj_bipush (pc' := 70) dX12_behind_68 rfl kbipush_22 ?_
        exact zj_eqi (if_neg c6) HJ5
      · refine zj_bipush (pc' := 65) dX12_behind_63 rfl kbipush_21 ?_
        refine zj_goto (tgt := 70) dX12_behind_65 (by decide) ?_
        exact zj_eqi (if_pos c6) HJ5
    refine zj_bif_eq (tgt := 40) (pc' := 35) dX12_behind_32 rfl (by decide) (fun c3 => ?_) (fun c3 => ?_)
    · refine zj_bipush (pc' := 42) dX12_behind_40 rfl kbipush_22 ?_
      exact zj_eqi (if_neg c3) HJ2
    · refine zj_bipush (pc' := 37) dX12_behind_35 rfl kbipush_21 ?_
      refine zj_goto (tgt := 42) dX12_behind_37 (by decide) ?_
      exact zj_eqi (if_pos c3) HJ2
  refine zj_bif_ne (tgt := 24) (pc' := 14) dX12_behind_11 rfl (by decide) (fun c12 => ?_) (fun c12 => ?_)
  · have hy := zt_t hy c12
    exact HJ11 () hy
  · have hy := zt_f hy c12
    refine zj_aload_n (pc' := 15) 0 dX12_behind_14 rfl rfl rfl ?_
    refine zj_ldc2 (pc' := 18) dX12_behind_15 rfl cL1400 ?_
    refine zj_V1 (pc' := 21) (z := YX12_isWord) (As := [.long (28530 : Int64)]) (N := (zui (zui M 186 y1.1) 190 y1.2)) dX12_behind_18 rfl mlX12_210 lkX12_isWord sh186 ⟨_, _, rfl⟩ rfl rfl (Nat.le_of_ble_eq_true rfl) (Nat.le_of_ble_eq_true rfl) (LX12_isWord_186 Γ _ y1.1 w0 (zr_n rfl zr_s) (zq_i (zq_i e_l186)) (28530 : Int64) rfl) rfl ?_
    refine zj_bif_eq (tgt := 92) (pc' := 24) dX12_behind_21 rfl (by decide) (fun c13 => ?_) (fun c13 => ?_)
    · have hy := zt_f hy c13
      refine zj_aload_n (pc' := 93) 0 dX12_behind_92 rfl rfl rfl ?_
      refine zj_bipush (pc' := 95) dX12_behind_93 rfl kbipush_22 ?_
      obtain ⟨y14, hy14, hy⟩ := zt_b hy
      refine zj_V0 (pc' := 98) (z := YX12_joins) (As := [.int 22]) (N := (zui (zui M 186 y14.1) 190 y14.2)) dX12_behind_95 rfl mlX12_453 lkX12_joins sh186 ⟨_, _, rfl⟩ rfl rfl (Nat.le_of_ble_eq_true rfl) (Nat.le_of_ble_eq_true rfl) (LX12_joins_186 Γ _ y1.1 y1.2 r0_43 (zr_n rfl zr_s) zr_s (zr_n rfl (zr_n rfl e_i202)) 22 hy14) ((zch_i (zm_n rfl zm_s) zm_s)).symm ?_
      refine zj_aload_n (pc' := 99) 0 dX12_behind_98 rfl rfl rfl ?_
      refine zj_bipush (pc' := 101) dX12_behind_99 rfl kbipush_41 ?_
      refine zj_V1 (pc' := 104) (z := YX12_isSign) (As := [.int 41]) (N := (zui (zui M 186 y14.1) 190 y14.2)) dX12_behind_101 rfl mlX12_179 lkX12_isSign sh186 ⟨_, _, rfl⟩ rfl rfl (Nat.le_of_ble_eq_true rfl) (Nat.le_of_ble_eq_true rfl) (LX12_isSign_186 Γ _ y14.1 (zr_n rfl zr_s) 41 rfl) rfl ?_
      refine zj_bif_eq (tgt := 114) (pc' := 107) dX12_behind_104 rfl (by decide) (fun c15 => ?_) (fun c15 => ?_)
      · have hy := zt_f hy c15
        refine zj_aload_n (pc' := 115) 0 dX12_behind_114 rfl rfl rfl ?_
        refine zj_iconst (pc' := 116) dX12_behind_115 rfl kiconst_1 ?_
        obtain ⟨y21, hy21, hy⟩ := zt_b hy
        refine zj_V1 (pc' := 119) (z := YX12_bad) (As := [.int 1]) (N := (zui (zui M 186 y21.2) 190 y14.2)) dX12_behind_116 rfl mlX12_182 lkX12_bad sh186 ⟨_, _, rfl⟩ rfl rfl (Nat.le_of_ble_eq_true rfl) (Nat.le_of_ble_eq_true rfl) (LX12_bad_186 Γ _ y14.1 (zr_n rfl zr_s) 1 hy21) ((zm_n rfl zm_s)).symm ?_
        have e9 := Option.some.inj hy
        subst e9
        refine zj_mem (N := (zui (zui (zul M 186 w0) 186 y21.2) 190 y14.2)) (zself_l (zq_i (zq_i e_l186)) (zm_li (zm_li rfl))) ?_
        refine zj_mem (N := (zui (zui (zui (zul M 186 w0) 186 y21.2) 190 y14.2) 202 r0_43)) (zself_i (zr_n rfl (zr_n rfl (zr_l e_i202))) rfl) ?_
        exact zj_bret (b := y21.1) dX12_behind_119 rfl hq
      · have hy := zt_t hy c15
        refine zj_aload_n (pc' := 108) 0 dX12_behind_107 rfl rfl rfl ?_
        refine zj_fI (pc' := 111) dX12_behind_108 rfl flX12_432 sh186 rfl (zr_n rfl zr_s) rfl ?_
        refine zj_if_ne (tgt := 120) (pc' := 114) dX12_behind_111 rfl (by decide) (fun c16 => ?_) (fun c16 => ?_)
        · have hy := zt_f hy c16
          refine zj_aload_n (pc' := 121) 0 dX12_behind_120 rfl rfl rfl ?_
          refine zj_dup (pc' := 122) dX12_behind_121 rfl rfl ?_
          refine zj_fI (pc' := 125) dX12_behind_122 rfl flX12_432 sh186 rfl (zr_n rfl zr_s) rfl ?_
          refine zj_iconst (pc' := 126) dX12_behind_125 rfl kiconst_1 ?_
          refine zj_isub (pc' := 127) dX12_behind_126 rfl ?_
          obtain ⟨r0v18, er0v18⟩ : ∃ z, z = (zup y14.1 46 ((y14.1 46) - 1)) := ⟨_, rfl⟩
          have hy := zlet_at er0v18 hy
          refine zj_pI (pc' := 130) (N := (zui (zui M 186 r0v18) 190 y14.2)) dX12_behind_127 rfl fpX12_432 sh186 rfl (zr_n rfl zr_s) er0v18 (zm_n rfl zm_s) ?_
          refine zj_aload_n (pc' := 131) 0 dX12_behind_130 rfl rfl rfl ?_
          refine zj_dup (pc' := 132) dX12_behind_131 rfl rfl ?_
          refine zj_fI (pc' := 135) dX12_behind_132 rfl flX12_438 sh186 rfl (zr_n rfl zr_s) rfl ?_
          refine zj_iconst (pc' := 136) dX12_behind_135 rfl kiconst_1 ?_
          refine zj_isub (pc' := 137) dX12_behind_136 rfl ?_
          obtain ⟨r0v19, er0v19⟩ : ∃ z, z = (zup r0v18 47 ((r0v18 47) - 1)) := ⟨_, rfl⟩
          have hy := zlet_at er0v19 hy
          refine zj_pI (pc' := 140) (N := (zui (zui M 186 r0v19) 190 y14.2)) dX12_behind_137 rfl fpX12_438 sh186 rfl (zr_n rfl zr_s) er0v19 (zm_n rfl zm_s) ?_
          refine zj_aload_n (pc' := 141) 0 dX12_behind_140 rfl rfl rfl ?_
          obtain ⟨y20, hy20, hy⟩ := zt_b hy
          refine zj_V0 (pc' := 144) (z := YX12_next) (As := []) (N := (zui (zui (zul M 186 y20.2) 186 y20.1) 190 y14.2)) dX12_behind_141 rfl mlX12_185 lkX12_next sh186 ⟨_, _, rfl⟩ rfl rfl (Nat.le_of_ble_eq_true rfl) (Nat.le_of_ble_eq_true rfl) (LX12_next_186 Γ _ r0v19 w0 r0_1 (zr_n rfl zr_s) (zq_i (zq_i e_l186)) (zr_n rfl (zr_n rfl e_i187)) hy20) ((zch_i (zm_li (zm_li rfl)) (zm_n rfl zm_s))).symm ?_
          refine zj_iconst (pc' := 145) dX12_behind_144 rfl kiconst_1 ?_
          have e9 := Option.some.inj hy
          subst e9
          refine zj_mem (N := (zui (zui (zui (zul M 186 y20.2) 186 y20.1) 190 y14.2) 202 r0_43)) (zself_i (zr_n rfl (zr_n rfl (zr_l e_i202))) rfl) ?_
          exact zj_bret (b := true) dX12_behind_145 rfl hq
        · have hy := zt_t hy c16
          refine zj_aload_n (pc' := 115) 0 dX12_behind_114 rfl rfl rfl ?_
          refine zj_iconst (pc' := 116) dX12_behind_115 rfl kiconst_1 ?_
          obtain ⟨y17, hy17, hy⟩ := zt_b hy
          refine zj_V1 (pc' := 119) (z := YX12_bad) (As := [.int 1]) (N := (zui (zui M 186 y17.2) 190 y14.2)) dX12_behind_116 rfl mlX12_182 lkX12_bad sh186 ⟨_, _, rfl⟩ rfl rfl (Nat.le_of_ble_eq_true rfl) (Nat.le_of_ble_eq_true rfl) (LX12_bad_186 Γ _ y14.1 (zr_n rfl zr_s) 1 hy17) ((zm_n rfl zm_s)).symm ?_
          have e9 := Option.some.inj hy
          subst e9
          refine zj_mem (N := (zui (zui (zul M 186 w0) 186 y17.2) 190 y14.2)) (zself_l (zq_i (zq_i e_l186)) (zm_li (zm_li rfl))) ?_
          refine zj_mem (N := (zui (zui (zui (zul M 186 w0) 186 y17.2) 190 y14.2) 202 r0_43)) (zself_i (zr_n rfl (zr_n rfl (zr_l e_i202))) rfl) ?_
          exact zj_bret (b := y17.1) dX12_behind_119 rfl hq
    · have hy := zt_t hy c13
      exact HJ11 () hy
set_option maxRecDepth 20000 in
theorem LX12_behind_186 (Γ : zG) (M : zM) (r0 : Nat → Int32) (w0 : Nat → Int64) (r0_1 : Nat → Int32) (r0_8 : Nat → Int32) (r0_43 : Nat → Int32) (e_i186 : M.1 186 = r0) (e_l186 : M.2 186 = w0) (e_i187 : M.1 187 = r0_1) (e_i190 : M.1 190 = r0_8) (e_i202 : M.1 202 = r0_43)  {res : Bool × (Nat → Int32) × (Nat → Int64) × (Nat → Int32) × (Nat → Int32)} (hy : (fM_behind r0 w0 r0_1 r0_8 r0_43) = some res) : zK Γ 3 YX12_behind [.ref (zad Γ 186)] M (fun v N => v = some (.int (zb res.1)) ∧ N = (zui (zui (zui (zul M 186 res.2.2.1) 186 res.2.1) 190 res.2.2.2.1) 202 res.2.2.2.2)) :=
  zK_of (by decide) (Nat.le_of_ble_eq_true rfl) (TX12_behind_186 Γ M r0 w0 r0_1 r0_8 r0_43 e_i186 e_l186 e_i187 e_i190 e_i202 hy ⟨rfl, rfl⟩)

noncomputable def fM_leafOf (r0 : Nat → Int32) (w0 : Nat → Int64) : Int32 :=
  (if (fM_isWord r0 w0 (418431069797 : Int64)) = true then (0 : Int32) else (if (fM_isWord r0 w0 (125797149402468 : Int64)) = true then (1 : Int32) else (if (fM_isWord r0 w0 (1768189029 : Int64)) = true then (2 : Int32) else (if (fM_isWord r0 w0 (24948 : Int64)) = true then (3 : Int32) else (if (fM_isWord r0 w0 (418330731890 : Int64)) = true then (4 : Int32) else (if (fM_isWord r0 w0 (1651863155 : Int64)) = true then (5 : Int32) else (if (fM_isWord r0 w0 (1818584692 : Int64)) = true then (6 : Int32) else (if (fM_isWord r0 w0 (108187682958948 : Int64)) = true then (7 : Int32) else (if (fM_isWord r0 w0 (121450625394034 : Int64)) = true then (8 : Int32) else ((-1) : Int32))))))))))

set_option maxRecDepth 20000 in
theorem TX12_leafOf_186 (Γ : zG) {Q : Option Value → zM → Prop} (M : zM) (r0 : Nat → Int32) (w0 : Nat → Int64) (e_i186 : M.1 186 = r0) (e_l186 : M.2 186 = w0)  {res : Int32} (hy : (fM_leafOf r0 w0) = res) (hq : Q (some (.int res)) M) : zR Γ 2 YX12_leafOf 0 [(0, .ref (zad Γ 186))] [] M Q := by
  unfold fM_leafOf at hy
  refine zj_aload_n (pc' := 1) 0 dX12_leafOf_0 rfl rfl rfl ?_
  refine zj_ldc2 (pc' := 4) dX12_leafOf_1 rfl cL1403 ?_
  refine zj_V1 (pc' := 7) (z := YX12_isWord) (As := [.long (418431069797 : Int64)]) (N := M) dX12_leafOf_4 rfl mlX12_210 lkX12_isWord sh186 ⟨_, _, rfl⟩ rfl rfl (Nat.le_of_ble_eq_true rfl) (Nat.le_of_ble_eq_true rfl) (LX12_isWord_186 Γ _ r0 w0 e_i186 e_l186 (418431069797 : Int64) rfl) rfl ?_
  have HJ1 : zR Γ 2 YX12_leafOf 130 [(0, .ref (zad Γ 186))] [.int (if (fM_isWord r0 w0 (418431069797 : Int64)) = true then (0 : Int32) else (if (fM_isWord r0 w0 (125797149402468 : Int64)) = true then (1 : Int32) else (if (fM_isWord r0 w0 (1768189029 : Int64)) = true then (2 : Int32) else (if (fM_isWord r0 w0 (24948 : Int64)) = true then (3 : Int32) else (if (fM_isWord r0 w0 (418330731890 : Int64)) = true then (4 : Int32) else (if (fM_isWord r0 w0 (1651863155 : Int64)) = true then (5 : Int32) else (if (fM_isWord r0 w0 (1818584692 : Int64)) = true then (6 : Int32) else (if (fM_isWord r0 w0 (108187682958948 : Int64)) = true then (7 : Int32) else (if (fM_isWord r0 w0 (121450625394034 : Int64)) = true then (8 : Int32) else ((-1) : Int32))))))))))] M Q := by
    subst hy
    exact zj_iret dX12_leafOf_130 rfl hq
  refine zj_bif_eq (tgt := 14) (pc' := 10) dX12_leafOf_7 rfl (by decide) (fun c2 => ?_) (fun c2 => ?_)
  · refine zj_aload_n (pc' := 15) 0 dX12_leafOf_14 rfl rfl rfl ?_
    refine zj_ldc2 (pc' := 18) dX12_leafOf_15 rfl cL1404 ?_
    refine zj_V1 (pc' := 21) (z := YX12_isWord) (As := [.long (125797149402468 : Int64)]) (N := M) dX12_leafOf_18 rfl mlX12_210 lkX12_isWord sh186 ⟨_, _, rfl⟩ rfl rfl (Nat.le_of_ble_eq_true rfl) (Nat.le_of_ble_eq_true rfl) (LX12_isWord_186 Γ _ r0 w0 e_i186 e_l186 (125797149402468 : Int64) rfl) rfl ?_
    refine zj_bif_eq (tgt := 28) (pc' := 24) dX12_leafOf_21 rfl (by decide) (fun c3 => ?_) (fun c3 => ?_)
    · refine zj_aload_n (pc' := 29) 0 dX12_leafOf_28 rfl rfl rfl ?_
      refine zj_ldc2 (pc' := 32) dX12_leafOf_29 rfl cL1405 ?_
      refine zj_V1 (pc' := 35) (z := YX12_isWord) (As := [.long (1768189029 : Int64)]) (N := M) dX12_leafOf_32 rfl mlX12_210 lkX12_isWord sh186 ⟨_, _, rfl⟩ rfl rfl (Nat.le_of_ble_eq_true rfl) (Nat.le_of_ble_eq_true rfl) (LX12_isWord_186 Γ _ r0 w0 e_i186 e_l186 (1768189029 : Int64) rfl) rfl ?_
      refine zj_bif_eq (tgt := 42) (pc' := 38) dX12_leafOf_35 rfl (by decide) (fun c4 => ?_) (fun c4 => ?_)
      · refine zj_aload_n (pc' := 43) 0 dX12_leafOf_42 rfl rfl rfl ?_
        refine zj_ldc2 (pc' := 46) dX12_leafOf_43 rfl cL1406 ?_
        refine zj_V1 (pc' := 49) (z := YX12_isWord) (As := [.long (24948 : Int64)]) (N := M) dX12_leafOf_46 rfl mlX12_210 lkX12_isWord sh186 ⟨_, _, rfl⟩ rfl rfl (Nat.le_of_ble_eq_true rfl) (Nat.le_of_ble_eq_true rfl) (LX12_isWord_186 Γ _ r0 w0 e_i186 e_l186 (24948 : Int64) rfl) rfl ?_
        refine zj_bif_eq (tgt := 56) (pc' := 52) dX12_leafOf_49 rfl (by decide) (fun c5 => ?_) (fun c5 => ?_)
        · refine zj_aload_n (pc' := 57) 0 dX12_leafOf_56 rfl rfl rfl ?_
          refine zj_ldc2 (pc' := 60) dX12_leafOf_57 rfl cL1407 ?_
          refine zj_V1 (pc' := 63) (z := YX12_isWord) (As := [.long (418330731890 : Int64)]) (N := M) dX12_leafOf_60 rfl mlX12_210 lkX12_isWord sh186 ⟨_, _, rfl⟩ rfl rfl (Nat.le_of_ble_eq_true rfl) (Nat.le_of_ble_eq_true rfl) (LX12_isWord_186 Γ _ r0 w0 e_i186 e_l186 (418330731890 : Int64) rfl) rfl ?_
          refine zj_bif_eq (tgt := 70) (pc' := 66) dX12_leafOf_63 rfl (by decide) (fun c6 => ?_) (fun c6 => ?_)
          · refine zj_aload_n (pc' := 71) 0 dX12_leafOf_70 rfl rfl rfl ?_
            refine zj_ldc2 (pc' := 74) dX12_leafOf_71 rfl cL1408 ?_
            refine zj_V1 (pc' := 77) (z := YX12_isWord) (As := [.long (1651863155 : Int64)]) (N := M) dX12_leafOf_74 rfl mlX12_210 lkX12_isWord sh186 ⟨_, _, rfl⟩ rfl rfl (Nat.le_of_ble_eq_true rfl) (Nat.le_of_ble_eq_true rfl) (LX12_isWord_186 Γ _ r0 w0 e_i186 e_l186 (1651863155 : Int64) rfl) rfl ?_
            refine zj_bif_eq (tgt := 84) (pc' := 80) dX12_leafOf_77 rfl (by decide) (fun c7 => ?_) (fun c7 => ?_)
            · refine zj_aload_n (pc' := 85) 0 dX12_leafOf_84 rfl rfl rfl ?_
              refine zj_ldc2 (pc' := 88) dX12_leafOf_85 rfl cL1409 ?_
              refine zj_V1 (pc' := 91) (z := YX12_isWord) (As := [.long (1818584692 : Int64)]) (N := M) dX12_leafOf_88 rfl mlX12_210 lkX12_isWord sh186 ⟨_, _, rfl⟩ rfl rfl (Nat.le_of_ble_eq_true rfl) (Nat.le_of_ble_eq_true rfl) (LX12_isWord_186 Γ _ r0 w0 e_i186 e_l186 (1818584692 : Int64) rfl) rfl ?_
              refine zj_bif_eq (tgt := 99) (pc' := 94) dX12_leafOf_91 rfl (by decide) (fun c8 => ?_) (fun c8 => ?_)
              · refine zj_aload_n (pc' := 100) 0 dX12_leafOf_99 rfl rfl rfl ?_
                refine zj_ldc2 (pc' := 103) dX12_leafOf_100 rfl cL1410 ?_
                refine zj_V1 (pc' := 106) (z := YX12_isWord) (As := [.long (108187682958948 : Int64)]) (N := M) dX12_leafOf_103 rfl mlX12_210 lkX12_isWord sh186 ⟨_, _, rfl⟩ rfl rfl (Nat.le_of_ble_eq_true rfl) (Nat.le_of_ble_eq_true rfl) (LX12_isWord_186 Γ _ r0 w0 e_i186 e_l186 (108187682958948 : Int64) rfl) rfl ?_
                refine zj_bif_eq (tgt := 114) (pc' := 109) dX12_leafOf_106 rfl (by decide) (fun c9 => ?_) (fun c9 => ?_)
                · refine zj_aload_n (pc' := 115) 0 dX12_leafOf_114 rfl rfl rfl ?_
                  refine zj_ldc2 (pc' := 118) dX12_leafOf_115 rfl cL1411 ?_
                  refine zj_V1 (pc' := 121) (z := YX12_isWord) (As := [.long (121450625394034 : Int64)]) (N := M) dX12_leafOf_118 rfl mlX12_210 lkX12_isWord sh186 ⟨_, _, rfl⟩ rfl rfl (Nat.le_of_ble_eq_true rfl) (Nat.le_of_ble_eq_true rfl) (LX12_isWord_186 Γ _ r0 w0 e_i186 e_l186 (121450625394034 : Int64) rfl) rfl ?_
                  refine zj_bif_eq (tgt := 129) (pc' := 124) dX12_leafOf_121 rfl (by decide) (fun c10 => ?_) (fun c10 => ?_)
                  · refine zj_iconst (pc' := 130) dX12_leafOf_129 rfl kiconst_m1 ?_
                    exact zj_eqi (((((((((if_neg c2).trans (if_neg c3)).trans (if_neg c4)).trans (if_neg c5)).trans (if_neg c6)).trans (if_neg c7)).trans (if_neg c8)).trans (if_neg c9)).trans (if_neg c10)) HJ1
                  · refine zj_bipush (pc' := 126) dX12_leafOf_124 rfl kbipush_8 ?_
                    refine zj_goto (tgt := 130) dX12_leafOf_126 (by decide) ?_
                    exact zj_eqi (((((((((if_neg c2).trans (if_neg c3)).trans (if_neg c4)).trans (if_neg c5)).trans (if_neg c6)).trans (if_neg c7)).trans (if_neg c8)).trans (if_neg c9)).trans (if_pos c10)) HJ1
                · refine zj_bipush (pc' := 111) dX12_leafOf_109 rfl kbipush_7 ?_
                  refine zj_goto (tgt := 130) dX12_leafOf_111 (by decide) ?_
                  exact zj_eqi ((((((((if_neg c2).trans (if_neg c3)).trans (if_neg c4)).trans (if_neg c5)).trans (if_neg c6)).trans (if_neg c7)).trans (if_neg c8)).trans (if_pos c9)) HJ1
              · refine zj_bipush (pc' := 96) dX12_leafOf_94 rfl kbipush_6 ?_
                refine zj_goto (tgt := 130) dX12_leafOf_96 (by decide) ?_
                exact zj_eqi (((((((if_neg c2).trans (if_neg c3)).trans (if_neg c4)).trans (if_neg c5)).trans (if_neg c6)).trans (if_neg c7)).trans (if_pos c8)) HJ1
            · refine zj_iconst (pc' := 81) dX12_leafOf_80 rfl kiconst_5 ?_
              refine zj_goto (tgt := 130) dX12_leafOf_81 (by decide) ?_
              exact zj_eqi ((((((if_neg c2).trans (if_neg c3)).trans (if_neg c4)).trans (if_neg c5)).trans (if_neg c6)).trans (if_pos c7)) HJ1
          · refine zj_iconst (pc' := 67) dX12_leafOf_66 rfl kiconst_4 ?_
            refine zj_goto (tgt := 130) dX12_leafOf_67 (by decide) ?_
            exact zj_eqi (((((if_neg c2).trans (if_neg c3)).trans (if_neg c4)).trans (if_neg c5)).trans (if_pos c6)) HJ1
        · refine zj_iconst (pc' := 53) dX12_leafOf_52 rfl kiconst_3 ?_
          refine zj_goto (tgt := 130) dX12_leafOf_53 (by decide) ?_
          exact zj_eqi ((((if_neg c2).trans (if_neg c3)).trans (if_neg c4)).trans (if_pos c5)) HJ1
      · refine zj_iconst (pc' := 39) dX12_leafOf_38 rfl kiconst_2 ?_
        refine zj_goto (tgt := 130) dX12_leafOf_39 (by decide) ?_
        exact zj_eqi (((if_neg c2).trans (if_neg c3)).trans (if_pos c4)) HJ1
    · refine zj_iconst (pc' := 25) dX12_leafOf_24 rfl kiconst_1 ?_
      refine zj_goto (tgt := 130) dX12_leafOf_25 (by decide) ?_
      exact zj_eqi ((if_neg c2).trans (if_pos c3)) HJ1
  · refine zj_iconst (pc' := 11) dX12_leafOf_10 rfl kiconst_0 ?_
    refine zj_goto (tgt := 130) dX12_leafOf_11 (by decide) ?_
    exact zj_eqi (if_pos c2) HJ1
set_option maxRecDepth 20000 in
theorem LX12_leafOf_186 (Γ : zG) (M : zM) (r0 : Nat → Int32) (w0 : Nat → Int64) (e_i186 : M.1 186 = r0) (e_l186 : M.2 186 = w0)  {res : Int32} (hy : (fM_leafOf r0 w0) = res) : zK Γ 2 YX12_leafOf [.ref (zad Γ 186)] M (fun v N => v = some (.int res) ∧ N = M) :=
  zK_of (by decide) (Nat.le_of_ble_eq_true rfl) (TX12_leafOf_186 Γ M r0 w0 e_i186 e_l186 hy ⟨rfl, rfl⟩)

noncomputable def fM_operand (r0 : Nat → Int32) (w0 : Nat → Int64) (r0_1 : Nat → Int32) (r0_6 : Nat → Int32) (r0_8 : Nat → Int32) (w0_9 : Nat → Int64) (w0_10 : Nat → Int64) (r0_43 : Nat → Int32) : Option (Bool × (Nat → Int32) × (Nat → Int64) × (Nat → Int32) × (Nat → Int32)) :=
  zlet (fM_leafOf r0 w0) (fun (x1 : Int32) =>
  zlet (fun (u9 : Unit) =>
  (if (r0 45) = 20 then
  (fM_bad r0 4).bind (fun (y3 : Bool × (Nat → Int32)) =>
  some (y3.1, y3.2, w0, r0_8, r0_43))
  else
  (if (r0 47) ≤ 8 then
  zlet (zup r0 45 ((r0 45) + 1)) (fun (r0v5 : Nat → Int32) =>
  (fM_next r0v5 w0 r0_1).bind (fun (y6 : (Nat → Int32) × (Nat → Int64)) =>
  zlet (fun (u9 : Unit) =>
  (zwr r0_43 45 (y6.1 46) (if (fM_isWord r0 w0 (7237492 : Int64)) = true then (20 : Int32) else (23 : Int32))).bind (fun (r0_43v9 : Nat → Int32) =>
  zlet (zup y6.1 46 ((y6.1 46) + 1)) (fun (r0v10 : Nat → Int32) =>
  zlet (zup r0v10 47 ((r0v10 47) + 1)) (fun (r0v11 : Nat → Int32) =>
  some (true, r0v11, y6.2, r0_8, r0_43v9))))) (fun J12 =>
  (if (fM_isWord r0 w0 (7237492 : Int64)) = true then
  J12 ()
  else
  (if (fM_isSign r0 40) = true then
  J12 ()
  else
  zlet (zup y6.1 48 1) (fun (r0v15 : Nat → Int32) =>
  (if 3 ≤ x1 then
  (if 5 ≤ x1 then
  (if (r0v15 11) = 3 then
  (if (r0v15 14) < 60 then
  (fM_bad r0v15 1).bind (fun (y20 : Bool × (Nat → Int32)) =>
  some (y20.1, y20.2, y6.2, r0_8, r0_43))
  else
  (if (r0v15 14) ≤ 62 then
  zlet (r0v15 14) (fun (x22 : Int32) =>
  (fM_next r0v15 y6.2 r0_1).bind (fun (y23 : (Nat → Int32) × (Nat → Int64)) =>
  (if (y23.1 11) = 2 then
  (fM_code y23.1 r0_8 x1 x22 (y23.1 14)).bind (fun (y25 : (Nat → Int32) × (Nat → Int32)) =>
  (fM_next y25.1 y23.2 r0_1).bind (fun (y26 : (Nat → Int32) × (Nat → Int64)) =>
  some (true, y26.1, y26.2, y25.2, r0_43)))
  else
  (fM_bad y23.1 1).bind (fun (y27 : Bool × (Nat → Int32)) =>
  some (y27.1, y27.2, y23.2, r0_8, r0_43)))))
  else
  (fM_bad r0v15 1).bind (fun (y28 : Bool × (Nat → Int32)) =>
  some (y28.1, y28.2, y6.2, r0_8, r0_43))))
  else
  (fM_bad r0v15 1).bind (fun (y29 : Bool × (Nat → Int32)) =>
  some (y29.1, y29.2, y6.2, r0_8, r0_43)))
  else
  zlet (fun (r0v30 : Nat → Int32) (x31 : Int32) =>
  (if x31 = 0 then
  some (false, r0v30, y6.2, r0_8, r0_43)
  else
  (fM_code r0v30 r0_8 x1 0 (r0v30 18)).bind (fun (y33 : (Nat → Int32) × (Nat → Int32)) =>
  (fM_next y33.1 y6.2 r0_1).bind (fun (y34 : (Nat → Int32) × (Nat → Int64)) =>
  some (true, y34.1, y34.2, y33.2, r0_43))))) (fun J35 =>
  (if x1 = 3 then
  (fM_looksAt r0v15 y6.2 w0_9 w0_10 0 (r0_6 0)).bind (fun (y37 : Bool × (Nat → Int32)) =>
  J35 y37.2 (zb y37.1))
  else
  (fM_looksAt r0v15 y6.2 w0_9 w0_10 8 (r0_6 2)).bind (fun (y38 : Bool × (Nat → Int32)) =>
  J35 y38.2 (zb y38.1)))))
  else
  (fM_code r0v15 r0_8 x1 0 0).bind (fun (y39 : (Nat → Int32) × (Nat → Int32)) =>
  some (true, y39.1, y6.2, y39.2, r0_43)))))))))
  else
  (fM_bad r0 4).bind (fun (y40 : Bool × (Nat → Int32)) =>
  some (y40.1, y40.2, w0, r0_8, r0_43))))) (fun J41 =>
  (if (fM_isWord r0 w0 (7237492 : Int64)) = true then
  J41 ()
  else
  (if (fM_isSign r0 40) = true then
  J41 ()
  else
  (if 0 ≤ x1 then
  J41 ()
  else
  (fM_bad r0 1).bind (fun (y45 : Bool × (Nat → Int32)) =>
  some (y45.1, y45.2, w0, r0_8, r0_43)))))))

set_option maxRecDepth 20000 in
theorem TX12_operand_186 (Γ : zG) {Q : Option Value → zM → Prop} (M : zM) (r0 : Nat → Int32) (w0 : Nat → Int64) (r0_1 : Nat → Int32) (r0_6 : Nat → Int32) (r0_8 : Nat → Int32) (w0_9 : Nat → Int64) (w0_10 : Nat → Int64) (r0_43 : Nat → Int32) (e_i186 : M.1 186 = r0) (e_l186 : M.2 186 = w0) (e_i187 : M.1 187 = r0_1) (e_i188 : M.1 188 = r0_6) (e_i190 : M.1 190 = r0_8) (e_l191 : M.2 191 = w0_9) (e_l192 : M.2 192 = w0_10) (e_i202 : M.1 202 = r0_43)  {res : Bool × (Nat → Int32) × (Nat → Int64) × (Nat → Int32) × (Nat → Int32)} (hy : (fM_operand r0 w0 r0_1 r0_6 r0_8 w0_9 w0_10 r0_43) = some res) (hq : Q (some (.int (zb res.1))) (zui (zui (zui (zul M 186 res.2.2.1) 186 res.2.1) 190 res.2.2.2.1) 202 res.2.2.2.2)) : zR Γ 3 YX12_operand 0 [(0, .ref (zad Γ 186))] [] M Q := by
  unfold fM_operand at hy
  refine zj_aload_n (pc' := 1) 0 dX12_operand_0 rfl rfl rfl ?_
  refine zj_ldc2 (pc' := 4) dX12_operand_1 rfl cL1402 ?_
  refine zj_V1 (pc' := 7) (z := YX12_isWord) (As := [.long (7237492 : Int64)]) (N := M) dX12_operand_4 rfl mlX12_210 lkX12_isWord sh186 ⟨_, _, rfl⟩ rfl rfl (Nat.le_of_ble_eq_true rfl) (Nat.le_of_ble_eq_true rfl) (LX12_isWord_186 Γ _ r0 w0 e_i186 e_l186 (7237492 : Int64) rfl) rfl ?_
  refine zj_istore_n (pc' := 8) (L' := [(1, .int (zb (fM_isWord r0 w0 (7237492 : Int64)))), (0, .ref (zad Γ 186))]) dX12_operand_7 rfl rfl (by decide) rfl ?_
  refine zj_aload_n (pc' := 9) 1 dX12_operand_8 rfl rfl rfl ?_
  refine zj_bipush (pc' := 11) dX12_operand_9 rfl kbipush_40 ?_
  refine zj_V1 (pc' := 14) (z := YX12_isSign) (As := [.int 40]) (N := M) dX12_operand_11 rfl mlX12_179 lkX12_isSign sh186 ⟨_, _, rfl⟩ rfl rfl (Nat.le_of_ble_eq_true rfl) (Nat.le_of_ble_eq_true rfl) (LX12_isSign_186 Γ _ r0 e_i186 40 rfl) rfl ?_
  refine zj_istore_n (pc' := 15) (L' := [(2, .int (zb (fM_isSign r0 40))), (1, .int (zb (fM_isWord r0 w0 (7237492 : Int64)))), (0, .ref (zad Γ 186))]) dX12_operand_14 rfl rfl (by decide) rfl ?_
  refine zj_aload_n (pc' := 16) 2 dX12_operand_15 rfl rfl rfl ?_
  refine zj_V1 (pc' := 19) (z := YX12_leafOf) (As := []) (N := M) dX12_operand_16 rfl mlX12_441 lkX12_leafOf sh186 ⟨_, _, rfl⟩ rfl rfl (Nat.le_of_ble_eq_true rfl) (Nat.le_of_ble_eq_true rfl) (LX12_leafOf_186 Γ _ r0 w0 e_i186 e_l186 rfl) rfl ?_
  refine zj_topi (fun x1 ex1 => ?_)
  have hy := zlet_at ex1 hy
  refine zj_istore_n (pc' := 20) (L' := [(3, .int x1), (2, .int (zb (fM_isSign r0 40))), (1, .int (zb (fM_isWord r0 w0 (7237492 : Int64)))), (0, .ref (zad Γ 186))]) dX12_operand_19 rfl rfl (by decide) rfl ?_
  refine zj_iload_n (pc' := 21) 2 dX12_operand_20 rfl rfl rfl ?_
  obtain ⟨J41, eJ41, hy⟩ := zlet_ex hy
  have HJ41 : ∀ (u9 : Unit), J41 u9 = some res → zR Γ 3 YX12_operand 38 [(0, .ref (zad Γ 186)), (1, .int (zb (fM_isWord r0 w0 (7237492 : Int64)))), (2, .int (zb (fM_isSign r0 40))), (3, .int x1)] [] M Q := by
    intro u9 hy
    have hy := zap1 eJ41 hy
    refine zj_aload_n (pc' := 39) 0 dX12_operand_38 rfl rfl rfl ?_
    refine zj_fI (pc' := 42) dX12_operand_39 rfl flX12_444 sh186 rfl e_i186 rfl ?_
    refine zj_bipush (pc' := 44) dX12_operand_42 rfl kbipush_20 ?_
    refine zj_icmp_eq (tgt := 56) (pc' := 47) dX12_operand_44 rfl (by decide) (fun c2 => ?_) (fun c2 => ?_)
    · have hy := zt_t hy c2
      refine zj_aload_n (pc' := 57) 0 dX12_operand_56 rfl rfl rfl ?_
      refine zj_iconst (pc' := 58) dX12_operand_57 rfl kiconst_4 ?_
      obtain ⟨y3, hy3, hy⟩ := zt_b hy
      refine zj_V1 (pc' := 61) (z := YX12_bad) (As := [.int 4]) (N := (zui M 186 y3.2)) dX12_operand_58 rfl mlX12_182 lkX12_bad sh186 ⟨_, _, rfl⟩ rfl rfl (Nat.le_of_ble_eq_true rfl) (Nat.le_of_ble_eq_true rfl) (LX12_bad_186 Γ _ r0 e_i186 4 hy3) (rfl).symm ?_
      have e9 := Option.some.inj hy
      subst e9
      refine zj_mem (N := (zui (zul M 186 w0) 186 y3.2)) (zself_l (zq_i e_l186) (zm_li rfl)) ?_
      refine zj_mem (N := (zui (zui (zul M 186 w0) 186 y3.2) 190 r0_8)) (zself_i (zr_n rfl (zr_l e_i190)) rfl) ?_
      refine zj_mem (N := (zui (zui (zui (zul M 186 w0) 186 y3.2) 190 r0_8) 202 r0_43)) (zself_i (zr_n rfl (zr_n rfl (zr_l e_i202))) rfl) ?_
      exact zj_bret (b := y3.1) dX12_operand_61 rfl hq
    · have hy := zt_f hy c2
      refine zj_aload_n (pc' := 48) 0 dX12_operand_47 rfl rfl rfl ?_
      refine zj_fI (pc' := 51) dX12_operand_48 rfl flX12_438 sh186 rfl e_i186 rfl ?_
      refine zj_bipush (pc' := 53) dX12_operand_51 rfl kbipush_8 ?_
      refine zj_icmp_le (tgt := 62) (pc' := 56) dX12_operand_53 rfl (by decide) (fun c4 => ?_) (fun c4 => ?_)
      · have hy := zt_t hy c4
        refine zj_aload_n (pc' := 63) 0 dX12_operand_62 rfl rfl rfl ?_
        refine zj_dup (pc' := 64) dX12_operand_63 rfl rfl ?_
        refine zj_fI (pc' := 67) dX12_operand_64 rfl flX12_444 sh186 rfl e_i186 rfl ?_
        refine zj_iconst (pc' := 68) dX12_operand_67 rfl kiconst_1 ?_
        refine zj_iadd (pc' := 69) dX12_operand_68 rfl ?_
        obtain ⟨r0v5, er0v5⟩ : ∃ z, z = (zup r0 45 ((r0 45) + 1)) := ⟨_, rfl⟩
        have hy := zlet_at er0v5 hy
        refine zj_pI (pc' := 72) (N := (zui M 186 r0v5)) dX12_operand_69 rfl fpX12_444 sh186 rfl e_i186 er0v5 rfl ?_
        refine zj_aload_n (pc' := 73) 0 dX12_operand_72 rfl rfl rfl ?_
        obtain ⟨y6, hy6, hy⟩ := zt_b hy
        refine zj_V0 (pc' := 76) (z := YX12_next) (As := []) (N := (zui (zul M 186 y6.2) 186 y6.1)) dX12_operand_73 rfl mlX12_185 lkX12_next sh186 ⟨_, _, rfl⟩ rfl rfl (Nat.le_of_ble_eq_true rfl) (Nat.le_of_ble_eq_true rfl) (LX12_next_186 Γ _ r0v5 w0 r0_1 zr_s (zq_i e_l186) (zr_n rfl e_i187) hy6) ((zch_i (zm_li rfl) zm_s)).symm ?_
        refine zj_iload_n (pc' := 77) 1 dX12_operand_76 rfl rfl rfl ?_
        obtain ⟨J12, eJ12, hy⟩ := zlet_ex hy
        have HJ12 : ∀ (u9 : Unit), J12 u9 = some res → zR Γ 3 YX12_operand 84 [(0, .ref (zad Γ 186)), (1, .int (zb (fM_isWord r0 w0 (7237492 : Int64))))] [] (zui (zul M 186 y6.2) 186 y6.1) Q := by
          intro u9 hy
          have hy := zap1 eJ12 hy
          refine zj_aload_n (pc' := 85) 0 dX12_operand_84 rfl rfl rfl ?_
          refine zj_getR (pc' := 88) (j := 202) dX12_operand_85 rfl flX12_83 sh186 rfl ?_
          refine zj_aload_n (pc' := 89) 0 dX12_operand_88 rfl rfl rfl ?_
          refine zj_fI (pc' := 92) dX12_operand_89 rfl flX12_432 sh186 rfl zr_s rfl ?_
          refine zj_iload_n (pc' := 93) 1 dX12_operand_92 rfl rfl rfl ?_
          have HJ7 : zR Γ 3 YX12_operand 103 [(0, .ref (zad Γ 186)), (1, .int (zb (fM_isWord r0 w0 (7237492 : Int64))))] [.int (if (fM_isWord r0 w0 (7237492 : Int64)) = true then (20 : Int32) else (23 : Int32)), .int (y6.1 46), .ref (zad Γ 202)] (zui (zul M 186 y6.2) 186 y6.1) Q := by
            obtain ⟨r0_43v9, hr0_43v9, hy⟩ := zt_b hy
            refine zj_wri (pc' := 104) (N := (zui (zui (zul M 186 y6.2) 186 y6.1) 202 r0_43v9)) dX12_operand_103 rfl sh202 (zr_n rfl (zr_l e_i202)) hr0_43v9 rfl ?_
            refine zj_aload_n (pc' := 105) 0 dX12_operand_104 rfl rfl rfl ?_
            refine zj_dup (pc' := 106) dX12_operand_105 rfl rfl ?_
            refine zj_fI (pc' := 109) dX12_operand_106 rfl flX12_432 sh186 rfl (zr_n rfl zr_s) rfl ?_
            refine zj_iconst (pc' := 110) dX12_operand_109 rfl kiconst_1 ?_
            refine zj_iadd (pc' := 111) dX12_operand_110 rfl ?_
            obtain ⟨r0v10, er0v10⟩ : ∃ z, z = (zup y6.1 46 ((y6.1 46) + 1)) := ⟨_, rfl⟩
            have hy := zlet_at er0v10 hy
            refine zj_pI (pc' := 114) (N := (zui (zui (zul M 186 y6.2) 186 r0v10) 202 r0_43v9)) dX12_operand_111 rfl fpX12_432 sh186 rfl (zr_n rfl zr_s) er0v10 (zm_n rfl zm_s) ?_
            refine zj_aload_n (pc' := 115) 0 dX12_operand_114 rfl rfl rfl ?_
            refine zj_dup (pc' := 116) dX12_operand_115 rfl rfl ?_
            refine zj_fI (pc' := 119) dX12_operand_116 rfl flX12_438 sh186 rfl (zr_n rfl zr_s) rfl ?_
            refine zj_iconst (pc' := 120) dX12_operand_119 rfl kiconst_1 ?_
            refine zj_iadd (pc' := 121) dX12_operand_120 rfl ?_
            obtain ⟨r0v11, er0v11⟩ : ∃ z, z = (zup r0v10 47 ((r0v10 47) + 1)) := ⟨_, rfl⟩
            have hy := zlet_at er0v11 hy
            refine zj_pI (pc' := 124) (N := (zui (zui (zul M 186 y6.2) 186 r0v11) 202 r0_43v9)) dX12_operand_121 rfl fpX12_438 sh186 rfl (zr_n rfl zr_s) er0v11 (zm_n rfl zm_s) ?_
            refine zj_iconst (pc' := 125) dX12_operand_124 rfl kiconst_1 ?_
            have e9 := Option.some.inj hy
            subst e9
            refine zj_mem (N := (zui (zui (zui (zul M 186 y6.2) 186 r0v11) 190 r0_8) 202 r0_43v9)) (zself_i (zr_n rfl (zr_n rfl (zr_l e_i190))) (zm_n rfl rfl)) ?_
            exact zj_bret (b := true) dX12_operand_125 rfl hq
          refine zj_bif_eq (tgt := 101) (pc' := 96) dX12_operand_93 rfl (by decide) (fun c8 => ?_) (fun c8 => ?_)
          · refine zj_bipush (pc' := 103) dX12_operand_101 rfl kbipush_23 ?_
            exact zj_eqi (if_neg c8) HJ7
          · refine zj_bipush (pc' := 98) dX12_operand_96 rfl kbipush_20 ?_
            refine zj_goto (tgt := 103) dX12_operand_98 (by decide) ?_
            exact zj_eqi (if_pos c8) HJ7
        refine zj_bif_ne (tgt := 84) (pc' := 80) dX12_operand_77 rfl (by decide) (fun c13 => ?_) (fun c13 => ?_)
        · have hy := zt_t hy c13
          refine zj_loc [0, 1] rfl ?_
          exact HJ12 () hy
        · have hy := zt_f hy c13
          refine zj_iload_n (pc' := 81) 2 dX12_operand_80 rfl rfl rfl ?_
          refine zj_bif_eq (tgt := 126) (pc' := 84) dX12_operand_81 rfl (by decide) (fun c14 => ?_) (fun c14 => ?_)
          · have hy := zt_f hy c14
            refine zj_aload_n (pc' := 127) 0 dX12_operand_126 rfl rfl rfl ?_
            refine zj_iconst (pc' := 128) dX12_operand_127 rfl kiconst_1 ?_
            obtain ⟨r0v15, er0v15⟩ : ∃ z, z = (zup y6.1 48 1) := ⟨_, rfl⟩
            have hy := zlet_at er0v15 hy
            refine zj_pZ (pc' := 131) (N := (zui (zul M 186 y6.2) 186 r0v15)) dX12_operand_128 rfl fpX12_447 sh186 rfl (Or.inr rfl) zr_s er0v15 zm_s ?_
            refine zj_iload_n (pc' := 132) 3 dX12_operand_131 rfl rfl rfl ?_
            refine zj_iconst (pc' := 133) dX12_operand_132 rfl kiconst_3 ?_
            refine zj_icmp_ge (tgt := 145) (pc' := 136) dX12_operand_133 rfl (by decide) (fun c16 => ?_) (fun c16 => ?_)
            · have hy := zt_t hy c16
              refine zj_iload_n (pc' := 146) 3 dX12_operand_145 rfl rfl rfl ?_
              refine zj_iconst (pc' := 147) dX12_operand_146 rfl kiconst_5 ?_
              refine zj_icmp_ge (tgt := 206) (pc' := 150) dX12_operand_147 rfl (by decide) (fun c17 => ?_) (fun c17 => ?_)
              · have hy := zt_t hy c17
                refine zj_aload_n (pc' := 207) 0 dX12_operand_206 rfl rfl rfl ?_
                refine zj_fI (pc' := 210) dX12_operand_207 rfl flX12_156 sh186 rfl zr_s rfl ?_
                refine zj_iconst (pc' := 211) dX12_operand_210 rfl kiconst_3 ?_
                refine zj_icmp_ne (tgt := 232) (pc' := 214) dX12_operand_211 rfl (by decide) (fun c18 => ?_) (fun c18 => ?_)
                · have hy := zt_f hy c18
                  refine zj_aload_n (pc' := 233) 0 dX12_operand_232 rfl rfl rfl ?_
                  refine zj_iconst (pc' := 234) dX12_operand_233 rfl kiconst_1 ?_
                  obtain ⟨y29, hy29, hy⟩ := zt_b hy
                  refine zj_V1 (pc' := 237) (z := YX12_bad) (As := [.int 1]) (N := (zui (zul M 186 y6.2) 186 y29.2)) dX12_operand_234 rfl mlX12_182 lkX12_bad sh186 ⟨_, _, rfl⟩ rfl rfl (Nat.le_of_ble_eq_true rfl) (Nat.le_of_ble_eq_true rfl) (LX12_bad_186 Γ _ r0v15 zr_s 1 hy29) (zm_s).symm ?_
                  have e9 := Option.some.inj hy
                  subst e9
                  refine zj_mem (N := (zui (zui (zul M 186 y6.2) 186 y29.2) 190 r0_8)) (zself_i (zr_n rfl (zr_l e_i190)) rfl) ?_
                  refine zj_mem (N := (zui (zui (zui (zul M 186 y6.2) 186 y29.2) 190 r0_8) 202 r0_43)) (zself_i (zr_n rfl (zr_n rfl (zr_l e_i202))) rfl) ?_
                  exact zj_bret (b := y29.1) dX12_operand_237 rfl hq
                · have hy := zt_t hy c18
                  refine zj_aload_n (pc' := 215) 0 dX12_operand_214 rfl rfl rfl ?_
                  refine zj_fI (pc' := 218) dX12_operand_215 rfl flX12_166 sh186 rfl zr_s rfl ?_
                  refine zj_bipush (pc' := 220) dX12_operand_218 rfl kbipush_60 ?_
                  refine zj_icmp_lt (tgt := 232) (pc' := 223) dX12_operand_220 rfl (by decide) (fun c19 => ?_) (fun c19 => ?_)
                  · have hy := zt_t hy c19
                    refine zj_aload_n (pc' := 233) 0 dX12_operand_232 rfl rfl rfl ?_
                    refine zj_iconst (pc' := 234) dX12_operand_233 rfl kiconst_1 ?_
                    obtain ⟨y20, hy20, hy⟩ := zt_b hy
                    refine zj_V1 (pc' := 237) (z := YX12_bad) (As := [.int 1]) (N := (zui (zul M 186 y6.2) 186 y20.2)) dX12_operand_234 rfl mlX12_182 lkX12_bad sh186 ⟨_, _, rfl⟩ rfl rfl (Nat.le_of_ble_eq_true rfl) (Nat.le_of_ble_eq_true rfl) (LX12_bad_186 Γ _ r0v15 zr_s 1 hy20) (zm_s).symm ?_
                    have e9 := Option.some.inj hy
                    subst e9
                    refine zj_mem (N := (zui (zui (zul M 186 y6.2) 186 y20.2) 190 r0_8)) (zself_i (zr_n rfl (zr_l e_i190)) rfl) ?_
                    refine zj_mem (N := (zui (zui (zui (zul M 186 y6.2) 186 y20.2) 190 r0_8) 202 r0_43)) (zself_i (zr_n rfl (zr_n rfl (zr_l e_i202))) rfl) ?_
                    exact zj_bret (b := y20.1) dX12_operand_237 rfl hq
                  · have hy := zt_f hy c19
                    refine zj_aload_n (pc' := 224) 0 dX12_operand_223 rfl rfl rfl ?_
                    refine zj_fI (pc' := 227) dX12_operand_224 rfl flX12_166 sh186 rfl zr_s rfl ?_
                    refine zj_bipush (pc' := 229) dX12_operand_227 rfl kbipush_62 ?_
                    refine zj_icmp_le (tgt := 238) (pc' := 232) dX12_operand_229 rfl (by decide) (fun c21 => ?_) (fun c21 => ?_)
                    · have hy := zt_t hy c21
                      refine zj_aload_n (pc' := 239) 0 dX12_operand_238 rfl rfl rfl ?_
                      refine zj_fI (pc' := 242) dX12_operand_239 rfl flX12_166 sh186 rfl zr_s rfl ?_
                      refine zj_topi (fun x22 ex22 => ?_)
                      have hy := zlet_at ex22 hy
                      refine zj_istore (pc' := 244) (L' := [(4, .int x22), (0, .ref (zad Γ 186)), (1, .int (zb (fM_isWord r0 w0 (7237492 : Int64)))), (2, .int (zb (fM_isSign r0 40))), (3, .int x1)]) dX12_operand_242 rfl (by decide) rfl ?_
                      refine zj_aload_n (pc' := 245) 1 dX12_operand_244 rfl rfl rfl ?_
                      obtain ⟨y23, hy23, hy⟩ := zt_b hy
                      refine zj_V0 (pc' := 248) (z := YX12_next) (As := []) (N := (zui (zul M 186 y23.2) 186 y23.1)) dX12_operand_245 rfl mlX12_185 lkX12_next sh186 ⟨_, _, rfl⟩ rfl rfl (Nat.le_of_ble_eq_true rfl) (Nat.le_of_ble_eq_true rfl) (LX12_next_186 Γ _ r0v15 y6.2 r0_1 zr_s (zq_i zq_s) (zr_n rfl (zr_l e_i187)) hy23) ((zch_i (zm_li zn_s) zm_s)).symm ?_
                      refine zj_aload_n (pc' := 249) 1 dX12_operand_248 rfl rfl rfl ?_
                      refine zj_fI (pc' := 252) dX12_operand_249 rfl flX12_156 sh186 rfl zr_s rfl ?_
                      refine zj_iconst (pc' := 253) dX12_operand_252 rfl kiconst_2 ?_
                      refine zj_icmp_eq (tgt := 262) (pc' := 256) dX12_operand_253 rfl (by decide) (fun c24 => ?_) (fun c24 => ?_)
                      · have hy := zt_t hy c24
                        refine zj_aload_n (pc' := 263) 1 dX12_operand_262 rfl rfl rfl ?_
                        refine zj_iload_n (pc' := 264) 4 dX12_operand_263 rfl rfl rfl ?_
                        refine zj_iload (pc' := 266) 0 dX12_operand_264 rfl rfl ?_
                        refine zj_aload_n (pc' := 267) 1 dX12_operand_266 rfl rfl rfl ?_
                        refine zj_fI (pc' := 270) dX12_operand_267 rfl flX12_166 sh186 rfl zr_s rfl ?_
                        obtain ⟨y25, hy25, hy⟩ := zt_b hy
                        refine zj_V0 (pc' := 273) (z := YX12_code) (As := [.int x1, .int x22, .int (y23.1 14)]) (N := (zui (zui (zul M 186 y23.2) 186 y25.1) 190 y25.2)) dX12_operand_270 rfl mlX12_435 lkX12_code sh186 ⟨_, _, rfl⟩ rfl rfl (Nat.le_of_ble_eq_true rfl) (Nat.le_of_ble_eq_true rfl) (LX12_code_186 Γ _ y23.1 r0_8 zr_s (zr_n rfl (zr_l e_i190)) x1 x22 (y23.1 14) hy25) ((zch_i zm_s rfl)).symm ?_
                        refine zj_aload_n (pc' := 274) 1 dX12_operand_273 rfl rfl rfl ?_
                        obtain ⟨y26, hy26, hy⟩ := zt_b hy
                        refine zj_V0 (pc' := 277) (z := YX12_next) (As := []) (N := (zui (zui (zul M 186 y26.2) 186 y26.1) 190 y25.2)) dX12_operand_274 rfl mlX12_185 lkX12_next sh186 ⟨_, _, rfl⟩ rfl rfl (Nat.le_of_ble_eq_true rfl) (Nat.le_of_ble_eq_true rfl) (LX12_next_186 Γ _ y25.1 y23.2 r0_1 (zr_n rfl zr_s) (zq_i (zq_i zq_s)) (zr_n rfl (zr_n rfl (zr_l e_i187))) hy26) ((zch_i (zm_li (zm_li zn_s)) (zm_n rfl zm_s))).symm ?_
                        refine zj_iconst (pc' := 278) dX12_operand_277 rfl kiconst_1 ?_
                        have e9 := Option.some.inj hy
                        subst e9
                        refine zj_mem (N := (zui (zui (zui (zul M 186 y26.2) 186 y26.1) 190 y25.2) 202 r0_43)) (zself_i (zr_n rfl (zr_n rfl (zr_l e_i202))) rfl) ?_
                        exact zj_bret (b := true) dX12_operand_278 rfl hq
                      · have hy := zt_f hy c24
                        refine zj_aload_n (pc' := 257) 1 dX12_operand_256 rfl rfl rfl ?_
                        refine zj_iconst (pc' := 258) dX12_operand_257 rfl kiconst_1 ?_
                        obtain ⟨y27, hy27, hy⟩ := zt_b hy
                        refine zj_V1 (pc' := 261) (z := YX12_bad) (As := [.int 1]) (N := (zui (zul M 186 y23.2) 186 y27.2)) dX12_operand_258 rfl mlX12_182 lkX12_bad sh186 ⟨_, _, rfl⟩ rfl rfl (Nat.le_of_ble_eq_true rfl) (Nat.le_of_ble_eq_true rfl) (LX12_bad_186 Γ _ y23.1 zr_s 1 hy27) (zm_s).symm ?_
                        have e9 := Option.some.inj hy
                        subst e9
                        refine zj_mem (N := (zui (zui (zul M 186 y23.2) 186 y27.2) 190 r0_8)) (zself_i (zr_n rfl (zr_l e_i190)) rfl) ?_
                        refine zj_mem (N := (zui (zui (zui (zul M 186 y23.2) 186 y27.2) 190 r0_8) 202 r0_43)) (zself_i (zr_n rfl (zr_n rfl (zr_l e_i202))) rfl) ?_
                        exact zj_bret (b := y27.1) dX12_operand_261 rfl hq
                    · have hy := zt_f hy c21
                      refine zj_aload_n (pc' := 233) 0 dX12_operand_232 rfl rfl rfl ?_
                      refine zj_iconst (pc' := 234) dX12_operand_233 rfl kiconst_1 ?_
                      obtain ⟨y28, hy28, hy⟩ := zt_b hy
                      refine zj_V1 (pc' := 237) (z := YX12_bad) (As := [.int 1]) (N := (zui (zul M 186 y6.2) 186 y28.2)) dX12_operand_234 rfl mlX12_182 lkX12_bad sh186 ⟨_, _, rfl⟩ rfl rfl (Nat.le_of_ble_eq_true rfl) (Nat.le_of_ble_eq_true rfl) (LX12_bad_186 Γ _ r0v15 zr_s 1 hy28) (zm_s).symm ?_
                      have e9 := Option.some.inj hy
                      subst e9
                      refine zj_mem (N := (zui (zui (zul M 186 y6.2) 186 y28.2) 190 r0_8)) (zself_i (zr_n rfl (zr_l e_i190)) rfl) ?_
                      refine zj_mem (N := (zui (zui (zui (zul M 186 y6.2) 186 y28.2) 190 r0_8) 202 r0_43)) (zself_i (zr_n rfl (zr_n rfl (zr_l e_i202))) rfl) ?_
                      exact zj_bret (b := y28.1) dX12_operand_237 rfl hq
              · have hy := zt_f hy c17
                refine zj_iload_n (pc' := 151) 3 dX12_operand_150 rfl rfl rfl ?_
                refine zj_iconst (pc' := 152) dX12_operand_151 rfl kiconst_3 ?_
                obtain ⟨J35, eJ35, hy⟩ := zlet_ex hy
                have HJ35 : ∀ (r0v30 : Nat → Int32) (x31 : Int32), J35 r0v30 x31 = some res → zR Γ 3 YX12_operand 181 [(0, .ref (zad Γ 186)), (3, .int x1)] [.int x31] (zui (zul M 186 y6.2) 186 r0v30) Q := by
                  intro r0v30 x31 hy
                  have hy := zap2 eJ35 hy
                  refine zj_istore (pc' := 183) (L' := [(4, .int x31), (0, .ref (zad Γ 186)), (3, .int x1)]) dX12_operand_181 rfl (by decide) rfl ?_
                  refine zj_iload (pc' := 185) 0 dX12_operand_183 rfl rfl ?_
                  refine zj_if_ne (tgt := 190) (pc' := 188) dX12_operand_185 rfl (by decide) (fun c32 => ?_) (fun c32 => ?_)
                  · have hy := zt_f hy c32
                    refine zj_aload_n (pc' := 191) 1 dX12_operand_190 rfl rfl rfl ?_
                    refine zj_iload_n (pc' := 192) 2 dX12_operand_191 rfl rfl rfl ?_
                    refine zj_iconst (pc' := 193) dX12_operand_192 rfl kiconst_0 ?_
                    refine zj_aload_n (pc' := 194) 1 dX12_operand_193 rfl rfl rfl ?_
                    refine zj_fI (pc' := 197) dX12_operand_194 rfl flX12_192 sh186 rfl zr_s rfl ?_
                    obtain ⟨y33, hy33, hy⟩ := zt_b hy
                    refine zj_V0 (pc' := 200) (z := YX12_code) (As := [.int x1, .int 0, .int (r0v30 18)]) (N := (zui (zui (zul M 186 y6.2) 186 y33.1) 190 y33.2)) dX12_operand_197 rfl mlX12_435 lkX12_code sh186 ⟨_, _, rfl⟩ rfl rfl (Nat.le_of_ble_eq_true rfl) (Nat.le_of_ble_eq_true rfl) (LX12_code_186 Γ _ r0v30 r0_8 zr_s (zr_n rfl (zr_l e_i190)) x1 0 (r0v30 18) hy33) ((zch_i zm_s rfl)).symm ?_
                    refine zj_aload_n (pc' := 201) 1 dX12_operand_200 rfl rfl rfl ?_
                    obtain ⟨y34, hy34, hy⟩ := zt_b hy
                    refine zj_V0 (pc' := 204) (z := YX12_next) (As := []) (N := (zui (zui (zul M 186 y34.2) 186 y34.1) 190 y33.2)) dX12_operand_201 rfl mlX12_185 lkX12_next sh186 ⟨_, _, rfl⟩ rfl rfl (Nat.le_of_ble_eq_true rfl) (Nat.le_of_ble_eq_true rfl) (LX12_next_186 Γ _ y33.1 y6.2 r0_1 (zr_n rfl zr_s) (zq_i (zq_i zq_s)) (zr_n rfl (zr_n rfl (zr_l e_i187))) hy34) ((zch_i (zm_li (zm_li zn_s)) (zm_n rfl zm_s))).symm ?_
                    refine zj_iconst (pc' := 205) dX12_operand_204 rfl kiconst_1 ?_
                    have e9 := Option.some.inj hy
                    subst e9
                    refine zj_mem (N := (zui (zui (zui (zul M 186 y34.2) 186 y34.1) 190 y33.2) 202 r0_43)) (zself_i (zr_n rfl (zr_n rfl (zr_l e_i202))) rfl) ?_
                    exact zj_bret (b := true) dX12_operand_205 rfl hq
                  · have hy := zt_t hy c32
                    refine zj_iconst (pc' := 189) dX12_operand_188 rfl kiconst_0 ?_
                    have e9 := Option.some.inj hy
                    subst e9
                    refine zj_mem (N := (zui (zui (zul M 186 y6.2) 186 r0v30) 190 r0_8)) (zself_i (zr_n rfl (zr_l e_i190)) rfl) ?_
                    refine zj_mem (N := (zui (zui (zui (zul M 186 y6.2) 186 r0v30) 190 r0_8) 202 r0_43)) (zself_i (zr_n rfl (zr_n rfl (zr_l e_i202))) rfl) ?_
                    exact zj_bret (b := false) dX12_operand_189 rfl hq
                refine zj_icmp_ne (tgt := 169) (pc' := 155) dX12_operand_152 rfl (by decide) (fun c36 => ?_) (fun c36 => ?_)
                · have hy := zt_f hy c36
                  refine zj_aload_n (pc' := 170) 0 dX12_operand_169 rfl rfl rfl ?_
                  refine zj_bipush (pc' := 172) dX12_operand_170 rfl kbipush_8 ?_
                  refine zj_aload_n (pc' := 173) 0 dX12_operand_172 rfl rfl rfl ?_
                  refine zj_getR (pc' := 176) (j := 188) dX12_operand_173 rfl flX12_33 sh186 rfl ?_
                  refine zj_iconst (pc' := 177) dX12_operand_176 rfl kiconst_2 ?_
                  refine zj_rdi (pc' := 178) dX12_operand_177 rfl sh188 (zr_n rfl (zr_l e_i188)) (zrdK zi2_397 tn2) ?_
                  obtain ⟨y38, hy38, hy⟩ := zt_b hy
                  refine zj_V1 (pc' := 181) (z := YX12_looksAt) (As := [.int 8, .int (r0_6 2)]) (N := (zui (zul M 186 y6.2) 186 y38.2)) dX12_operand_178 rfl mlX12_207 lkX12_looksAt sh186 ⟨_, _, rfl⟩ rfl rfl (Nat.le_of_ble_eq_true rfl) (Nat.le_of_ble_eq_true rfl) (LX12_looksAt_186 Γ _ r0v15 y6.2 w0_9 w0_10 zr_s (zq_i zq_s) (zq_i (zq_n rfl e_l191)) (zq_i (zq_n rfl e_l192)) 8 (r0_6 2) hy38) (zm_s).symm ?_
                  refine zj_loc [0, 3] rfl ?_
                  exact HJ35 y38.2 (zb y38.1) hy
                · have hy := zt_t hy c36
                  refine zj_aload_n (pc' := 156) 0 dX12_operand_155 rfl rfl rfl ?_
                  refine zj_iconst (pc' := 157) dX12_operand_156 rfl kiconst_0 ?_
                  refine zj_aload_n (pc' := 158) 0 dX12_operand_157 rfl rfl rfl ?_
                  refine zj_getR (pc' := 161) (j := 188) dX12_operand_158 rfl flX12_33 sh186 rfl ?_
                  refine zj_iconst (pc' := 162) dX12_operand_161 rfl kiconst_0 ?_
                  refine zj_rdi (pc' := 163) dX12_operand_162 rfl sh188 (zr_n rfl (zr_l e_i188)) (zrdK zi0_397 tn0) ?_
                  obtain ⟨y37, hy37, hy⟩ := zt_b hy
                  refine zj_V1 (pc' := 166) (z := YX12_looksAt) (As := [.int 0, .int (r0_6 0)]) (N := (zui (zul M 186 y6.2) 186 y37.2)) dX12_operand_163 rfl mlX12_207 lkX12_looksAt sh186 ⟨_, _, rfl⟩ rfl rfl (Nat.le_of_ble_eq_true rfl) (Nat.le_of_ble_eq_true rfl) (LX12_looksAt_186 Γ _ r0v15 y6.2 w0_9 w0_10 zr_s (zq_i zq_s) (zq_i (zq_n rfl e_l191)) (zq_i (zq_n rfl e_l192)) 0 (r0_6 0) hy37) (zm_s).symm ?_
                  refine zj_goto (tgt := 181) dX12_operand_166 (by decide) ?_
                  refine zj_loc [0, 3] rfl ?_
                  exact HJ35 y37.2 (zb y37.1) hy
            · have hy := zt_f hy c16
              refine zj_aload_n (pc' := 137) 0 dX12_operand_136 rfl rfl rfl ?_
              refine zj_iload_n (pc' := 138) 3 dX12_operand_137 rfl rfl rfl ?_
              refine zj_iconst (pc' := 139) dX12_operand_138 rfl kiconst_0 ?_
              refine zj_iconst (pc' := 140) dX12_operand_139 rfl kiconst_0 ?_
              obtain ⟨y39, hy39, hy⟩ := zt_b hy
              refine zj_V0 (pc' := 143) (z := YX12_code) (As := [.int x1, .int 0, .int 0]) (N := (zui (zui (zul M 186 y6.2) 186 y39.1) 190 y39.2)) dX12_operand_140 rfl mlX12_435 lkX12_code sh186 ⟨_, _, rfl⟩ rfl rfl (Nat.le_of_ble_eq_true rfl) (Nat.le_of_ble_eq_true rfl) (LX12_code_186 Γ _ r0v15 r0_8 zr_s (zr_n rfl (zr_l e_i190)) x1 0 0 hy39) ((zch_i zm_s rfl)).symm ?_
              refine zj_iconst (pc' := 144) dX12_operand_143 rfl kiconst_1 ?_
              have e9 := Option.some.inj hy
              subst e9
              refine zj_mem (N := (zui (zui (zui (zul M 186 y6.2) 186 y39.1) 190 y39.2) 202 r0_43)) (zself_i (zr_n rfl (zr_n rfl (zr_l e_i202))) rfl) ?_
              exact zj_bret (b := true) dX12_operand_144 rfl hq
          · have hy := zt_t hy c14
            refine zj_loc [0, 1] rfl ?_
            exact HJ12 () hy
      · have hy := zt_f hy c4
        refine zj_aload_n (pc' := 57) 0 dX12_operand_56 rfl rfl rfl ?_
        refine zj_iconst (pc' := 58) dX12_operand_57 rfl kiconst_4 ?_
        obtain ⟨y40, hy40, hy⟩ := zt_b hy
        refine zj_V1 (pc' := 61) (z := YX12_bad) (As := [.int 4]) (N := (zui M 186 y40.2)) dX12_operand_58 rfl mlX12_182 lkX12_bad sh186 ⟨_, _, rfl⟩ rfl rfl (Nat.le_of_ble_eq_true rfl) (Nat.le_of_ble_eq_true rfl) (LX12_bad_186 Γ _ r0 e_i186 4 hy40) (rfl).symm ?_
        have e9 := Option.some.inj hy
        subst e9
        refine zj_mem (N := (zui (zul M 186 w0) 186 y40.2)) (zself_l (zq_i e_l186) (zm_li rfl)) ?_
        refine zj_mem (N := (zui (zui (zul M 186 w0) 186 y40.2) 190 r0_8)) (zself_i (zr_n rfl (zr_l e_i190)) rfl) ?_
        refine zj_mem (N := (zui (zui (zui (zul M 186 w0) 186 y40.2) 190 r0_8) 202 r0_43)) (zself_i (zr_n rfl (zr_n rfl (zr_l e_i202))) rfl) ?_
        exact zj_bret (b := y40.1) dX12_operand_61 rfl hq
  refine zj_bif_ne (tgt := 38) (pc' := 24) dX12_operand_21 rfl (by decide) (fun c42 => ?_) (fun c42 => ?_)
  · have hy := zt_t hy c42
    refine zj_loc [3, 2, 1, 0] rfl ?_
    exact HJ41 () hy
  · have hy := zt_f hy c42
    refine zj_iload_n (pc' := 25) 1 dX12_operand_24 rfl rfl rfl ?_
    refine zj_bif_ne (tgt := 38) (pc' := 28) dX12_operand_25 rfl (by decide) (fun c43 => ?_) (fun c43 => ?_)
    · have hy := zt_t hy c43
      refine zj_loc [3, 2, 1, 0] rfl ?_
      exact HJ41 () hy
    · have hy := zt_f hy c43
      refine zj_iload_n (pc' := 29) 0 dX12_operand_28 rfl rfl rfl ?_
      refine zj_if_ge (tgt := 38) (pc' := 32) dX12_operand_29 rfl (by decide) (fun c44 => ?_) (fun c44 => ?_)
      · have hy := zt_t hy c44
        refine zj_loc [3, 2, 1, 0] rfl ?_
        exact HJ41 () hy
      · have hy := zt_f hy c44
        refine zj_aload_n (pc' := 33) 3 dX12_operand_32 rfl rfl rfl ?_
        refine zj_iconst (pc' := 34) dX12_operand_33 rfl kiconst_1 ?_
        obtain ⟨y45, hy45, hy⟩ := zt_b hy
        refine zj_V1 (pc' := 37) (z := YX12_bad) (As := [.int 1]) (N := (zui M 186 y45.2)) dX12_operand_34 rfl mlX12_182 lkX12_bad sh186 ⟨_, _, rfl⟩ rfl rfl (Nat.le_of_ble_eq_true rfl) (Nat.le_of_ble_eq_true rfl) (LX12_bad_186 Γ _ r0 e_i186 1 hy45) (rfl).symm ?_
        have e9 := Option.some.inj hy
        subst e9
        refine zj_mem (N := (zui (zul M 186 w0) 186 y45.2)) (zself_l (zq_i e_l186) (zm_li rfl)) ?_
        refine zj_mem (N := (zui (zui (zul M 186 w0) 186 y45.2) 190 r0_8)) (zself_i (zr_n rfl (zr_l e_i190)) rfl) ?_
        refine zj_mem (N := (zui (zui (zui (zul M 186 w0) 186 y45.2) 190 r0_8) 202 r0_43)) (zself_i (zr_n rfl (zr_n rfl (zr_l e_i202))) rfl) ?_
        exact zj_bret (b := y45.1) dX12_operand_37 rfl hq
set_option maxRecDepth 20000 in
theorem LX12_operand_186 (Γ : zG) (M : zM) (r0 : Nat → Int32) (w0 : Nat → Int64) (r0_1 : Nat → Int32) (r0_6 : Nat → Int32) (r0_8 : Nat → Int32) (w0_9 : Nat → Int64) (w0_10 : Nat → Int64) (r0_43 : Nat → Int32) (e_i186 : M.1 186 = r0) (e_l186 : M.2 186 = w0) (e_i187 : M.1 187 = r0_1) (e_i188 : M.1 188 = r0_6) (e_i190 : M.1 190 = r0_8) (e_l191 : M.2 191 = w0_9) (e_l192 : M.2 192 = w0_10) (e_i202 : M.1 202 = r0_43)  {res : Bool × (Nat → Int32) × (Nat → Int64) × (Nat → Int32) × (Nat → Int32)} (hy : (fM_operand r0 w0 r0_1 r0_6 r0_8 w0_9 w0_10 r0_43) = some res) : zK Γ 3 YX12_operand [.ref (zad Γ 186)] M (fun v N => v = some (.int (zb res.1)) ∧ N = (zui (zui (zui (zul M 186 res.2.2.1) 186 res.2.1) 190 res.2.2.2.1) 202 res.2.2.2.2)) :=
  zK_of (by decide) (Nat.le_of_ble_eq_true rfl) (TX12_operand_186 Γ M r0 w0 r0_1 r0_6 r0_8 w0_9 w0_10 r0_43 e_i186 e_l186 e_i187 e_i188 e_i190 e_l191 e_l192 e_i202 hy ⟨rfl, rfl⟩)

