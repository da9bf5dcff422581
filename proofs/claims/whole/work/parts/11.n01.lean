noncomputable def fX_minutes (r0_2 : Nat → Int32) (r0_2_2 : Nat → Int32) (r0_2_3 : Nat → Int32) (r0_4 : Nat → Int32) (r0_4_0 : Nat → Int32) (r0_4_1 : Nat → Int32) (r0_4_2 : Nat → Int32) (r0_4_3 : Nat → Int32) (r0_4_4 : Nat → Int32) (r0_4_5 : Nat → Int32) (r0_4_6 : Nat → Int32) (r0_4_7 : Nat → Int32) (r0_5 : Nat → Int32) (r0_5_0 : Nat → Int32) (r0_5_1 : Nat → Int32) (r0_5_2 : Nat → Int32) (r0_5_3 : Nat → Int32) (r0_5_4 : Nat → Int32) (r0_5_5 : Nat → Int32) (r0_5_6 : Nat → Int32) (r0_5_7 : Nat → Int32) (r0_5_8 : Nat → Int32) (r0_8 : Nat → Int32) (g49 : zM) (a1 : Int32) : Option (Int32 × (Nat → Int32) × (Nat → Int32) × (Nat → Int32) × (Nat → Int32) × (Nat → Int32) × (Nat → Int32) × (Nat → Int32) × (Nat → Int32) × (Nat → Int32) × (Nat → Int32) × (Nat → Int32) × (Nat → Int32) × (Nat → Int32) × (Nat → Int32) × (Nat → Int32) × (Nat → Int32) × (Nat → Int32) × (Nat → Int32) × (Nat → Int32) × (Nat → Int32) × zM) :=
  (if a1 < 1 then
  some ((-1), r0_4, r0_4_0, r0_4_1, r0_4_2, r0_4_3, r0_4_4, r0_4_5, r0_4_6, r0_4_7, r0_5, r0_5_0, r0_5_1, r0_5_2, r0_5_3, r0_5_4, r0_5_5, r0_5_6, r0_5_7, r0_5_8, r0_8, g49)
  else
  (if a1 ≤ 60 then
  (fDy_copyFrom r0_5 r0_5_0 r0_5_1 r0_5_2 r0_5_3 r0_5_4 r0_5_5 r0_5_6 r0_5_7 r0_4 r0_4_0 r0_4_1 r0_4_2 r0_4_3 r0_4_4 r0_4_5 r0_4_6 r0_4_7).bind (fun (y3 : (Nat → Int32) × (Nat → Int32) × (Nat → Int32) × (Nat → Int32) × (Nat → Int32) × (Nat → Int32) × (Nat → Int32) × (Nat → Int32) × (Nat → Int32)) =>
  zlet (if (fDy_minutesLeft y3.1) < a1 then (fDy_minutesLeft y3.1) else a1) (fun (x4 : Int32) =>
  (fDy_passMinutes y3.1 y3.2.1 y3.2.2.1 y3.2.2.2.1 y3.2.2.2.2.1 y3.2.2.2.2.2.1 y3.2.2.2.2.2.2.1 y3.2.2.2.2.2.2.2.1 y3.2.2.2.2.2.2.2.2 r0_5_8 r0_2 r0_2_2 r0_2_3 x4).bind (fun (y5 : (Nat → Int32) × (Nat → Int32) × (Nat → Int32) × (Nat → Int32) × (Nat → Int32) × (Nat → Int32) × (Nat → Int32) × (Nat → Int32)) =>
  (fX_settle r0_4 r0_4_0 r0_4_1 r0_4_2 r0_4_3 r0_4_4 r0_4_5 r0_4_6 r0_4_7 y5.1 y5.2.1 y5.2.2.1 y3.2.2.2.1 y3.2.2.2.2.1 y5.2.2.2.1 y5.2.2.2.2.1 y5.2.2.2.2.2.1 y5.2.2.2.2.2.2.1 r0_8 g49 x4).bind (fun (y6 : (Nat → Int32) × (Nat → Int32) × (Nat → Int32) × (Nat → Int32) × (Nat → Int32) × (Nat → Int32) × (Nat → Int32) × (Nat → Int32) × (Nat → Int32) × (Nat → Int32) × zM) =>
  some (x4, y6.1, y6.2.1, y6.2.2.1, y6.2.2.2.1, y6.2.2.2.2.1, y6.2.2.2.2.2.1, y6.2.2.2.2.2.2.1, y6.2.2.2.2.2.2.2.1, y6.2.2.2.2.2.2.2.2.1, y5.1, y5.2.1, y5.2.2.1, y3.2.2.2.1, y3.2.2.2.2.1, y5.2.2.2.1, y5.2.2.2.2.1, y5.2.2.2.2.2.1, y5.2.2.2.2.2.2.1, y5.2.2.2.2.2.2.2, y6.2.2.2.2.2.2.2.2.2.1, y6.2.2.2.2.2.2.2.2.2.2)))))
  else
  some ((-1), r0_4, r0_4_0, r0_4_1, r0_4_2, r0_4_3, r0_4_4, r0_4_5, r0_4_6, r0_4_7, r0_5, r0_5_0, r0_5_1, r0_5_2, r0_5_3, r0_5_4, r0_5_5, r0_5_6, r0_5_7, r0_5_8, r0_8, g49)))

set_option maxRecDepth 20000 in
theorem TX11_minutes_0 (Γ : zG) {Q : Option Value → zM → Prop} (M : zM) (r0_2 : Nat → Int32) (r0_2_2 : Nat → Int32) (r0_2_3 : Nat → Int32) (r0_4 : Nat → Int32) (r0_4_0 : Nat → Int32) (r0_4_1 : Nat → Int32) (r0_4_2 : Nat → Int32) (r0_4_3 : Nat → Int32) (r0_4_4 : Nat → Int32) (r0_4_5 : Nat → Int32) (r0_4_6 : Nat → Int32) (r0_4_7 : Nat → Int32) (r0_5 : Nat → Int32) (r0_5_0 : Nat → Int32) (r0_5_1 : Nat → Int32) (r0_5_2 : Nat → Int32) (r0_5_3 : Nat → Int32) (r0_5_4 : Nat → Int32) (r0_5_5 : Nat → Int32) (r0_5_6 : Nat → Int32) (r0_5_7 : Nat → Int32) (r0_5_8 : Nat → Int32) (r0_8 : Nat → Int32) (g49 : zM) (e_i5 : M.1 5 = r0_2) (e_i8 : M.1 8 = r0_2_2) (e_i9 : M.1 9 = r0_2_3) (e_i15 : M.1 15 = r0_4) (e_i16 : M.1 16 = r0_4_0) (e_i17 : M.1 17 = r0_4_1) (e_i18 : M.1 18 = r0_4_2) (e_i19 : M.1 19 = r0_4_3) (e_i20 : M.1 20 = r0_4_4) (e_i21 : M.1 21 = r0_4_5) (e_i22 : M.1 22 = r0_4_6) (e_i23 : M.1 23 = r0_4_7) (e_i25 : M.1 25 = r0_5) (e_i26 : M.1 26 = r0_5_0) (e_i27 : M.1 27 = r0_5_1) (e_i28 : M.1 28 = r0_5_2) (e_i29 : M.1 29 = r0_5_3) (e_i30 : M.1 30 = r0_5_4) (e_i31 : M.1 31 = r0_5_5) (e_i32 : M.1 32 = r0_5_6) (e_i33 : M.1 33 = r0_5_7) (e_i34 : M.1 34 = r0_5_8) (e_i47 : M.1 47 = r0_8) (e_h49 : zeq M 49 129 g49) (a1 : Int32) {res : Int32 × (Nat → Int32) × (Nat → Int32) × (Nat → Int32) × (Nat → Int32) × (Nat → Int32) × (Nat → Int32) × (Nat → Int32) × (Nat → Int32) × (Nat → Int32) × (Nat → Int32) × (Nat → Int32) × (Nat → Int32) × (Nat → Int32) × (Nat → Int32) × (Nat → Int32) × (Nat → Int32) × (Nat → Int32) × (Nat → Int32) × (Nat → Int32) × (Nat → Int32) × zM} (hy : (fX_minutes r0_2 r0_2_2 r0_2_3 r0_4 r0_4_0 r0_4_1 r0_4_2 r0_4_3 r0_4_4 r0_4_5 r0_4_6 r0_4_7 r0_5 r0_5_0 r0_5_1 r0_5_2 r0_5_3 r0_5_4 r0_5_5 r0_5_6 r0_5_7 r0_5_8 r0_8 g49 a1) = some res) (hq : Q (some (.int res.1)) (zub (zui (zui (zui (zui (zui (zui (zui (zui (zui (zui (zui (zui (zui (zui (zui (zui (zui (zui (zui (zui M 15 res.2.1) 16 res.2.2.1) 17 res.2.2.2.1) 18 res.2.2.2.2.1) 19 res.2.2.2.2.2.1) 20 res.2.2.2.2.2.2.1) 21 res.2.2.2.2.2.2.2.1) 22 res.2.2.2.2.2.2.2.2.1) 23 res.2.2.2.2.2.2.2.2.2.1) 25 res.2.2.2.2.2.2.2.2.2.2.1) 26 res.2.2.2.2.2.2.2.2.2.2.2.1) 27 res.2.2.2.2.2.2.2.2.2.2.2.2.1) 28 res.2.2.2.2.2.2.2.2.2.2.2.2.2.1) 29 res.2.2.2.2.2.2.2.2.2.2.2.2.2.2.1) 30 res.2.2.2.2.2.2.2.2.2.2.2.2.2.2.2.1) 31 res.2.2.2.2.2.2.2.2.2.2.2.2.2.2.2.2.1) 32 res.2.2.2.2.2.2.2.2.2.2.2.2.2.2.2.2.2.1) 33 res.2.2.2.2.2.2.2.2.2.2.2.2.2.2.2.2.2.2.1) 34 res.2.2.2.2.2.2.2.2.2.2.2.2.2.2.2.2.2.2.2.1) 47 res.2.2.2.2.2.2.2.2.2.2.2.2.2.2.2.2.2.2.2.2.1) 49 129 res.2.2.2.2.2.2.2.2.2.2.2.2.2.2.2.2.2.2.2.2.2)) : zR Γ 6 YX11_minutes 0 [(0, .ref (zad Γ 0)), (1, .int a1)] [] M Q := by
  unfold fX_minutes at hy
  refine zj_iload_n (pc' := 1) 1 dX11_minutes_0 rfl rfl rfl ?_
  refine zj_iconst (pc' := 2) dX11_minutes_1 rfl kiconst_1 ?_
  refine zj_icmp_lt (tgt := 11) (pc' := 5) dX11_minutes_2 rfl (by decide) (fun c1 => ?_) (fun c1 => ?_)
  · have hy := zt_t hy c1
    refine zj_iconst (pc' := 12) dX11_minutes_11 rfl kiconst_m1 ?_
    have e9 := Option.some.inj hy
    subst e9
    refine zj_mem (N := (zui M 15 r0_4)) (zself_i e_i15 rfl) ?_
    refine zj_mem (N := (zui (zui M 15 r0_4) 16 r0_4_0)) (zself_i (zr_n rfl e_i16) rfl) ?_
    refine zj_mem (N := (zui (zui (zui M 15 r0_4) 16 r0_4_0) 17 r0_4_1)) (zself_i (zr_n rfl (zr_n rfl e_i17)) rfl) ?_
    refine zj_mem (N := (zui (zui (zui (zui M 15 r0_4) 16 r0_4_0) 17 r0_4_1) 18 r0_4_2)) (zself_i (zr_n rfl (zr_n rfl (zr_n rfl e_i18))) rfl) ?_
    refine zj_mem (N := (zui (zui (zui (zui (zui M 15 r0_4) 16 r0_4_0) 17 r0_4_1) 18 r0_4_2) 19 r0_4_3)) (zself_i (zr_n rfl (zr_n rfl (zr_n rfl (zr_n rfl e_i19)))) rfl) ?_
    refine zj_mem (N := (zui (zui (zui (zui (zui (zui M 15 r0_4) 16 r0_4_0) 17 r0_4_1) 18 r0_4_2) 19 r0_4_3) 20 r0_4_4)) (zself_i (zr_n rfl (zr_n rfl (zr_n rfl (zr_n rfl (zr_n rfl e_i20))))) rfl) ?_
    refine zj_mem (N := (zui (zui (zui (zui (zui (zui (zui M 15 r0_4) 16 r0_4_0) 17 r0_4_1) 18 r0_4_2) 19 r0_4_3) 20 r0_4_4) 21 r0_4_5)) (zself_i (zr_n rfl (zr_n rfl (zr_n rfl (zr_n rfl (zr_n rfl (zr_n rfl e_i21)))))) rfl) ?_
    refine zj_mem (N := (zui (zui (zui (zui (zui (zui (zui (zui M 15 r0_4) 16 r0_4_0) 17 r0_4_1) 18 r0_4_2) 19 r0_4_3) 20 r0_4_4) 21 r0_4_5) 22 r0_4_6)) (zself_i (zr_n rfl (zr_n rfl (zr_n rfl (zr_n rfl (zr_n rfl (zr_n rfl (zr_n rfl e_i22))))))) rfl) ?_
    refine zj_mem (N := (zui (zui (zui (zui (zui (zui (zui (zui (zui M 15 r0_4) 16 r0_4_0) 17 r0_4_1) 18 r0_4_2) 19 r0_4_3) 20 r0_4_4) 21 r0_4_5) 22 r0_4_6) 23 r0_4_7)) (zself_i (zr_n rfl (zr_n rfl (zr_n rfl (zr_n rfl (zr_n rfl (zr_n rfl (zr_n rfl (zr_n rfl e_i23)))))))) rfl) ?_
    refine zj_mem (N := (zui (zui (zui (zui (zui (zui (zui (zui (zui (zui M 15 r0_4) 16 r0_4_0) 17 r0_4_1) 18 r0_4_2) 19 r0_4_3) 20 r0_4_4) 21 r0_4_5) 22 r0_4_6) 23 r0_4_7) 25 r0_5)) (zself_i (zr_n rfl (zr_n rfl (zr_n rfl (zr_n rfl (zr_n rfl (zr_n rfl (zr_n rfl (zr_n rfl (zr_n rfl e_i25))))))))) rfl) ?_
    refine zj_mem (N := (zui (zui (zui (zui (zui (zui (zui (zui (zui (zui (zui M 15 r0_4) 16 r0_4_0) 17 r0_4_1) 18 r0_4_2) 19 r0_4_3) 20 r0_4_4) 21 r0_4_5) 22 r0_4_6) 23 r0_4_7) 25 r0_5) 26 r0_5_0)) (zself_i (zr_n rfl (zr_n rfl (zr_n rfl (zr_n rfl (zr_n rfl (zr_n rfl (zr_n rfl (zr_n rfl (zr_n rfl (zr_n rfl e_i26)))))))))) rfl) ?_
    refine zj_mem (N := (zui (zui (zui (zui (zui (zui (zui (zui (zui (zui (zui (zui M 15 r0_4) 16 r0_4_0) 17 r0_4_1) 18 r0_4_2) 19 r0_4_3) 20 r0_4_4) 21 r0_4_5) 22 r0_4_6) 23 r0_4_7) 25 r0_5) 26 r0_5_0) 27 r0_5_1)) (zself_i (zr_n rfl (zr_n rfl (zr_n rfl (zr_n rfl (zr_n rfl (zr_n rfl (zr_n rfl (zr_n rfl (zr_n rfl (zr_n rfl (zr_n rfl e_i27))))))))))) rfl) ?_
    refine zj_mem (N := (zui (zui (zui (zui (zui (zui (zui (zui (zui (zui (zui (zui (zui M 15 r0_4) 16 r0_4_0) 17 r0_4_1) 18 r0_4_2) 19 r0_4_3) 20 r0_4_4) 21 r0_4_5) 22 r0_4_6) 23 r0_4_7) 25 r0_5) 26 r0_5_0) 27 r0_5_1) 28 r0_5_2)) (zself_i (zr_n rfl (zr_n rfl (zr_n rfl (zr_n rfl (zr_n rfl (zr_n rfl (zr_n rfl (zr_n rfl (zr_n rfl (zr_n rfl (zr_n rfl (zr_n rfl e_i28)))))))))))) rfl) ?_
    refine zj_mem (N := (zui (zui (zui (zui (zui (zui (zui (zui (zui (zui (zui (zui (zui (zui M 15 r0_4) 16 r0_4_0) 17 r0_4_1) 18 r0_4_2) 19 r0_4_3) 20 r0_4_4) 21 r0_4_5) 22 r0_4_6) 23 r0_4_7) 25 r0_5) 26 r0_5_0) 27 r0_5_1) 28 r0_5_2) 29 r0_5_3)) (zself_i (zr_n rfl (zr_n rfl (zr_n rfl (zr_n rfl (zr_n rfl (zr_n rfl (zr_n rfl (zr_n rfl (zr_n rfl (zr_n rfl (zr_n rfl (zr_n rfl (zr_n rfl e_i29))))))))))))) rfl) ?_
    refine zj_mem (N := (zui (zui (zui (zui (zui (zui (zui (zui (zui (zui (zui (zui (zui (zui (zui M 15 r0_4) 16 r0_4_0) 17 r0_4_1) 18 r0_4_2) 19 r0_4_3) 20 r0_4_4) 21 r0_4_5) 22 r0_4_6) 23 r0_4_7) 25 r0_5) 26 r0_5_0) 27 r0_5_1) 28 r0_5_2) 29 r0_5_3) 30 r0_5_4)) (zself_i (zr_n rfl (zr_n rfl (zr_n rfl (zr_n rfl (zr_n rfl (zr_n rfl (zr_n rfl (zr_n rfl (zr_n rfl (zr_n rfl (zr_n rfl (zr_n rfl (zr_n rfl (zr_n rfl e_i30)))))))))))))) rfl) ?_
    refine zj_mem (N := (zui (zui (zui (zui (zui (zui (zui (zui (zui (zui (zui (zui (zui (zui (zui (zui M 15 r0_4) 16 r0_4_0) 17 r0_4_1) 18 r0_4_2) 19 r0_4_3) 20 r0_4_4) 21 r0_4_5) 22 r0_4_6) 23 r0_4_7) 25 r0_5) 26 r0_5_0) 27 r0_5_1) 28 r0_5_2) 29 r0_5_3) 30 r0_5_4) 31 r0_5_5)) (zself_i (zr_n rfl (zr_n rfl (zr_n rfl (zr_n rfl (zr_n rfl (zr_n rfl (zr_n rfl (zr_n rfl (zr_n rfl (zr_n rfl (zr_n rfl (zr_n rfl (zr_n rfl (zr_n rfl (zr_n rfl e_i31))))))))))))))) rfl) ?_
    refine zj_mem (N := (zui (zui (zui (zui (zui (zui (zui (zui (zui (zui (zui (zui (zui (zui (zui (zui (zui M 15 r0_4) 16 r0_4_0) 17 r0_4_1) 18 r0_4_2) 19 r0_4_3) 20 r0_4_4) 21 r0_4_5) 22 r0_4_6) 23 r0_4_7) 25 r0_5) 26 r0_5_0) 27 r0_5_1) 28 r0_5_2) 29 r0_5_3) 30 r0_5_4) 31 r0_5_5) 32 r0_5_6)) (zself_i (zr_n rfl (zr_n rfl (zr_n rfl (zr_n rfl (zr_n rfl (zr_n rfl (zr_n rfl (zr_n rfl (zr_n rfl (zr_n rfl (zr_n rfl (zr_n rfl (zr_n rfl (zr_n rfl (zr_n rfl (zr_n rfl e_i32)))))))))))))))) rfl) ?_
    refine zj_mem (N := (zui (zui (zui (zui (zui (zui (zui (zui (zui (zui (zui (zui (zui (zui (zui (zui (zui (zui M 15 r0_4) 16 r0_4_0) 17 r0_4_1) 18 r0_4_2) 19 r0_4_3) 20 r0_4_4) 21 r0_4_5) 22 r0_4_6) 23 r0_4_7) 25 r0_5) 26 r0_5_0) 27 r0_5_1) 28 r0_5_2) 29 r0_5_3) 30 r0_5_4) 31 r0_5_5) 32 r0_5_6) 33 r0_5_7)) (zself_i (zr_n rfl (zr_n rfl (zr_n rfl (zr_n rfl (zr_n rfl (zr_n rfl (zr_n rfl (zr_n rfl (zr_n rfl (zr_n rfl (zr_n rfl (zr_n rfl (zr_n rfl (zr_n rfl (zr_n rfl (zr_n rfl (zr_n rfl e_i33))))))))))))))))) rfl) ?_
    refine zj_mem (N := (zui (zui (zui (zui (zui (zui (zui (zui (zui (zui (zui (zui (zui (zui (zui (zui (zui (zui (zui M 15 r0_4) 16 r0_4_0) 17 r0_4_1) 18 r0_4_2) 19 r0_4_3) 20 r0_4_4) 21 r0_4_5) 22 r0_4_6) 23 r0_4_7) 25 r0_5) 26 r0_5_0) 27 r0_5_1) 28 r0_5_2) 29 r0_5_3) 30 r0_5_4) 31 r0_5_5) 32 r0_5_6) 33 r0_5_7) 34 r0_5_8)) (zself_i (zr_n rfl (zr_n rfl (zr_n rfl (zr_n rfl (zr_n rfl (zr_n rfl (zr_n rfl (zr_n rfl (zr_n rfl (zr_n rfl (zr_n rfl (zr_n rfl (zr_n rfl (zr_n rfl (zr_n rfl (zr_n rfl (zr_n rfl (zr_n rfl e_i34)))))))))))))))))) rfl) ?_
    refine zj_mem (N := (zui (zui (zui (zui (zui (zui (zui (zui (zui (zui (zui (zui (zui (zui (zui (zui (zui (zui (zui (zui M 15 r0_4) 16 r0_4_0) 17 r0_4_1) 18 r0_4_2) 19 r0_4_3) 20 r0_4_4) 21 r0_4_5) 22 r0_4_6) 23 r0_4_7) 25 r0_5) 26 r0_5_0) 27 r0_5_1) 28 r0_5_2) 29 r0_5_3) 30 r0_5_4) 31 r0_5_5) 32 r0_5_6) 33 r0_5_7) 34 r0_5_8) 47 r0_8)) (zself_i (zr_n rfl (zr_n rfl (zr_n rfl (zr_n rfl (zr_n rfl (zr_n rfl (zr_n rfl (zr_n rfl (zr_n rfl (zr_n rfl (zr_n rfl (zr_n rfl (zr_n rfl (zr_n rfl (zr_n rfl (zr_n rfl (zr_n rfl (zr_n rfl (zr_n rfl e_i47))))))))))))))))))) rfl) ?_
    refine zj_mem (N := (zub (zui (zui (zui (zui (zui (zui (zui (zui (zui (zui (zui (zui (zui (zui (zui (zui (zui (zui (zui (zui M 15 r0_4) 16 r0_4_0) 17 r0_4_1) 18 r0_4_2) 19 r0_4_3) 20 r0_4_4) 21 r0_4_5) 22 r0_4_6) 23 r0_4_7) 25 r0_5) 26 r0_5_0) 27 r0_5_1) 28 r0_5_2) 29 r0_5_3) 30 r0_5_4) 31 r0_5_5) 32 r0_5_6) 33 r0_5_7) 34 r0_5_8) 47 r0_8) 49 129 g49)) (zself_h (zeq_i rfl (zeq_i rfl (zeq_i rfl (zeq_i rfl (zeq_i rfl (zeq_i rfl (zeq_i rfl (zeq_i rfl (zeq_i rfl (zeq_i rfl (zeq_i rfl (zeq_i rfl (zeq_i rfl (zeq_i rfl (zeq_i rfl (zeq_i rfl (zeq_i rfl (zeq_i rfl (zeq_i rfl (zeq_i rfl e_h49)))))))))))))))))))) rfl) ?_
    exact zj_iret dX11_minutes_12 rfl hq
  · have hy := zt_f hy c1
    refine zj_iload_n (pc' := 6) 1 dX11_minutes_5 rfl rfl rfl ?_
    refine zj_bipush (pc' := 8) dX11_minutes_6 rfl kbipush_60 ?_
    refine zj_icmp_le (tgt := 13) (pc' := 11) dX11_minutes_8 rfl (by decide) (fun c2 => ?_) (fun c2 => ?_)
    · have hy := zt_t hy c2
      refine zj_aload_n (pc' := 14) 0 dX11_minutes_13 rfl rfl rfl ?_
      refine zj_getR (pc' := 17) (j := 25) dX11_minutes_14 rfl flX11_42 sh0 rfl ?_
      refine zj_aload_n (pc' := 18) 0 dX11_minutes_17 rfl rfl rfl ?_
      refine zj_getR (pc' := 21) (j := 15) dX11_minutes_18 rfl flX11_38 sh0 rfl ?_
      obtain ⟨y3, hy3, hy⟩ := zt_b hy
      refine zj_V0 (pc' := 24) (z := YX1_copyFrom) (As := [.ref (zad Γ 15)]) (N := (zui (zui (zui (zui (zui (zui (zui (zui (zui M 25 y3.1) 26 y3.2.1) 27 y3.2.2.1) 28 y3.2.2.2.1) 29 y3.2.2.2.2.1) 30 y3.2.2.2.2.2.1) 31 y3.2.2.2.2.2.2.1) 32 y3.2.2.2.2.2.2.2.1) 33 y3.2.2.2.2.2.2.2.2)) dX11_minutes_21 rfl mlX11_151 lkX1_copyFrom sh25 ⟨_, _, rfl⟩ rfl rfl (Nat.le_of_ble_eq_true rfl) (Nat.le_of_ble_eq_true rfl) (LX1_copyFrom_25_15 Γ _ r0_5 r0_5_0 r0_5_1 r0_5_2 r0_5_3 r0_5_4 r0_5_5 r0_5_6 r0_5_7 r0_4 r0_4_0 r0_4_1 r0_4_2 r0_4_3 r0_4_4 r0_4_5 r0_4_6 r0_4_7 e_i25 e_i26 e_i27 e_i28 e_i29 e_i30 e_i31 e_i32 e_i33 e_i15 e_i16 e_i17 e_i18 e_i19 e_i20 e_i21 e_i22 e_i23 hy3) ((zch_i (zch_i (zch_i (zch_i (zch_i (zch_i (zch_i (zch_i rfl rfl) rfl) rfl) rfl) rfl) rfl) rfl) rfl)).symm ?_
      refine zj_iload_n (pc' := 25) 1 dX11_minutes_24 rfl rfl rfl ?_
      refine zj_aload_n (pc' := 26) 0 dX11_minutes_25 rfl rfl rfl ?_
      refine zj_getR (pc' := 29) (j := 25) dX11_minutes_26 rfl flX11_42 sh0 rfl ?_
      refine zj_V1 (pc' := 32) (z := YX1_minutesLeft) (As := []) (N := (zui (zui (zui (zui (zui (zui (zui (zui (zui M 25 y3.1) 26 y3.2.1) 27 y3.2.2.1) 28 y3.2.2.2.1) 29 y3.2.2.2.2.1) 30 y3.2.2.2.2.2.1) 31 y3.2.2.2.2.2.2.1) 32 y3.2.2.2.2.2.2.2.1) 33 y3.2.2.2.2.2.2.2.2)) dX11_minutes_29 rfl mlX11_250 lkX1_minutesLeft sh25 ⟨_, _, rfl⟩ rfl rfl (Nat.le_of_ble_eq_true rfl) (Nat.le_of_ble_eq_true rfl) (LX1_minutesLeft_25 Γ _ y3.1 (zr_n rfl (zr_n rfl (zr_n rfl (zr_n rfl (zr_n rfl (zr_n rfl (zr_n rfl (zr_n rfl zr_s)))))))) rfl) rfl ?_
      refine zj_mmin (pc' := 35) dX11_minutes_32 rfl mlX11_253 zmminw (Nat.le_of_ble_eq_true rfl) (Nat.le_of_ble_eq_true rfl) ?_
      refine zj_topi (fun x4 ex4 => ?_)
      have hy := zlet_at ex4 hy
      refine zj_istore_n (pc' := 36) (L' := [(2, .int x4), (0, .ref (zad Γ 0)), (1, .int a1)]) dX11_minutes_35 rfl rfl (by decide) rfl ?_
      refine zj_aload_n (pc' := 37) 1 dX11_minutes_36 rfl rfl rfl ?_
      refine zj_getR (pc' := 40) (j := 25) dX11_minutes_37 rfl flX11_42 sh0 rfl ?_
      refine zj_aload_n (pc' := 41) 1 dX11_minutes_40 rfl rfl rfl ?_
      refine zj_getR (pc' := 44) (j := 5) dX11_minutes_41 rfl flX11_28 sh0 rfl ?_
      refine zj_iload_n (pc' := 45) 0 dX11_minutes_44 rfl rfl rfl ?_
      obtain ⟨y5, hy5, hy⟩ := zt_b hy
      refine zj_V0 (pc' := 48) (z := YX1_passMinutes) (As := [.ref (zad Γ 5), .int x4]) (N := (zui (zui (zui (zui (zui (zui (zui (zui (zui (zui M 25 y5.1) 26 y5.2.1) 27 y5.2.2.1) 28 y3.2.2.2.1) 29 y3.2.2.2.2.1) 30 y5.2.2.2.1) 31 y5.2.2.2.2.1) 32 y5.2.2.2.2.2.1) 33 y5.2.2.2.2.2.2.1) 34 y5.2.2.2.2.2.2.2)) dX11_minutes_45 rfl mlX11_258 lkX1_passMinutes sh25 ⟨_, _, rfl⟩ rfl rfl (Nat.le_of_ble_eq_true rfl) (Nat.le_of_ble_eq_true rfl) (LX1_passMinutes_25_5 Γ _ y3.1 y3.2.1 y3.2.2.1 y3.2.2.2.1 y3.2.2.2.2.1 y3.2.2.2.2.2.1 y3.2.2.2.2.2.2.1 y3.2.2.2.2.2.2.2.1 y3.2.2.2.2.2.2.2.2 r0_5_8 r0_2 r0_2_2 r0_2_3 (zr_n rfl (zr_n rfl (zr_n rfl (zr_n rfl (zr_n rfl (zr_n rfl (zr_n rfl (zr_n rfl zr_s)))))))) (zr_n rfl (zr_n rfl (zr_n rfl (zr_n rfl (zr_n rfl (zr_n rfl (zr_n rfl zr_s))))))) (zr_n rfl (zr_n rfl (zr_n rfl (zr_n rfl (zr_n rfl (zr_n rfl zr_s)))))) (zr_n rfl (zr_n rfl (zr_n rfl (zr_n rfl (zr_n rfl zr_s))))) (zr_n rfl (zr_n rfl (zr_n rfl (zr_n rfl zr_s)))) (zr_n rfl (zr_n rfl (zr_n rfl zr_s))) (zr_n rfl (zr_n rfl zr_s)) (zr_n rfl zr_s) zr_s (zr_n rfl (zr_n rfl (zr_n rfl (zr_n rfl (zr_n rfl (zr_n rfl (zr_n rfl (zr_n rfl (zr_n rfl e_i34))))))))) (zr_n rfl (zr_n rfl (zr_n rfl (zr_n rfl (zr_n rfl (zr_n rfl (zr_n rfl (zr_n rfl (zr_n rfl e_i5))))))))) (zr_n rfl (zr_n rfl (zr_n rfl (zr_n rfl (zr_n rfl (zr_n rfl (zr_n rfl (zr_n rfl (zr_n rfl e_i8))))))))) (zr_n rfl (zr_n rfl (zr_n rfl (zr_n rfl (zr_n rfl (zr_n rfl (zr_n rfl (zr_n rfl (zr_n rfl e_i9))))))))) x4 hy5) ((zch_i (zch_i (zch_i (zch_i (zch_i (zch_i (zch_i (zm_n rfl (zm_n rfl (zm_n rfl (zm_n rfl (zm_n rfl (zm_n rfl (zm_n rfl (zm_n rfl zm_s)))))))) (zm_n rfl (zm_n rfl (zm_n rfl (zm_n rfl (zm_n rfl (zm_n rfl (zm_n rfl zm_s)))))))) (zm_n rfl (zm_n rfl (zm_n rfl (zm_n rfl (zm_n rfl (zm_n rfl zm_s))))))) (zm_n rfl (zm_n rfl (zm_n rfl zm_s)))) (zm_n rfl (zm_n rfl zm_s))) (zm_n rfl zm_s)) zm_s) rfl)).symm ?_
      refine zj_aload_n (pc' := 49) 1 dX11_minutes_48 rfl rfl rfl ?_
      refine zj_iload_n (pc' := 50) 0 dX11_minutes_49 rfl rfl rfl ?_
      obtain ⟨y6, hy6, hy⟩ := zt_b hy
      refine zj_V0 (pc' := 53) (z := YX11_settle) (As := [.int x4]) (N := (zub (zui (zui (zui (zui (zui (zui (zui (zui (zui (zui (zui (zui (zui (zui (zui (zui (zui (zui (zui (zui M 15 y6.1) 16 y6.2.1) 17 y6.2.2.1) 18 y6.2.2.2.1) 19 y6.2.2.2.2.1) 20 y6.2.2.2.2.2.1) 21 y6.2.2.2.2.2.2.1) 22 y6.2.2.2.2.2.2.2.1) 23 y6.2.2.2.2.2.2.2.2.1) 25 y5.1) 26 y5.2.1) 27 y5.2.2.1) 28 y3.2.2.2.1) 29 y3.2.2.2.2.1) 30 y5.2.2.2.1) 31 y5.2.2.2.2.1) 32 y5.2.2.2.2.2.1) 33 y5.2.2.2.2.2.2.1) 34 y5.2.2.2.2.2.2.2) 47 y6.2.2.2.2.2.2.2.2.2.1) 49 129 y6.2.2.2.2.2.2.2.2.2.2)) dX11_minutes_50 rfl mlX11_262 lkX11_settle sh0 ⟨_, _, rfl⟩ rfl rfl (Nat.le_of_ble_eq_true rfl) (Nat.le_of_ble_eq_true rfl) (LX11_settle_0 Γ _ r0_4 r0_4_0 r0_4_1 r0_4_2 r0_4_3 r0_4_4 r0_4_5 r0_4_6 r0_4_7 y5.1 y5.2.1 y5.2.2.1 y3.2.2.2.1 y3.2.2.2.2.1 y5.2.2.2.1 y5.2.2.2.2.1 y5.2.2.2.2.2.1 y5.2.2.2.2.2.2.1 r0_8 g49 (zr_n rfl (zr_n rfl (zr_n rfl (zr_n rfl (zr_n rfl (zr_n rfl (zr_n rfl (zr_n rfl (zr_n rfl (zr_n rfl e_i15)))))))))) (zr_n rfl (zr_n rfl (zr_n rfl (zr_n rfl (zr_n rfl (zr_n rfl (zr_n rfl (zr_n rfl (zr_n rfl (zr_n rfl e_i16)))))))))) (zr_n rfl (zr_n rfl (zr_n rfl (zr_n rfl (zr_n rfl (zr_n rfl (zr_n rfl (zr_n rfl (zr_n rfl (zr_n rfl e_i17)))))))))) (zr_n rfl (zr_n rfl (zr_n rfl (zr_n rfl (zr_n rfl (zr_n rfl (zr_n rfl (zr_n rfl (zr_n rfl (zr_n rfl e_i18)))))))))) (zr_n rfl (zr_n rfl (zr_n rfl (zr_n rfl (zr_n rfl (zr_n rfl (zr_n rfl (zr_n rfl (zr_n rfl (zr_n rfl e_i19)))))))))) (zr_n rfl (zr_n rfl (zr_n rfl (zr_n rfl (zr_n rfl (zr_n rfl (zr_n rfl (zr_n rfl (zr_n rfl (zr_n rfl e_i20)))))))))) (zr_n rfl (zr_n rfl (zr_n rfl (zr_n rfl (zr_n rfl (zr_n rfl (zr_n rfl (zr_n rfl (zr_n rfl (zr_n rfl e_i21)))))))))) (zr_n rfl (zr_n rfl (zr_n rfl (zr_n rfl (zr_n rfl (zr_n rfl (zr_n rfl (zr_n rfl (zr_n rfl (zr_n rfl e_i22)))))))))) (zr_n rfl (zr_n rfl (zr_n rfl (zr_n rfl (zr_n rfl (zr_n rfl (zr_n rfl (zr_n rfl (zr_n rfl (zr_n rfl e_i23)))))))))) (zr_n rfl (zr_n rfl (zr_n rfl (zr_n rfl (zr_n rfl (zr_n rfl (zr_n rfl (zr_n rfl (zr_n rfl zr_s))))))))) (zr_n rfl (zr_n rfl (zr_n rfl (zr_n rfl (zr_n rfl (zr_n rfl (zr_n rfl (zr_n rfl zr_s)))))))) (zr_n rfl (zr_n rfl (zr_n rfl (zr_n rfl (zr_n rfl (zr_n rfl (zr_n rfl zr_s))))))) (zr_n rfl (zr_n rfl (zr_n rfl (zr_n rfl (zr_n rfl (zr_n rfl zr_s)))))) (zr_n rfl (zr_n rfl (zr_n rfl (zr_n rfl (zr_n rfl zr_s))))) (zr_n rfl (zr_n rfl (zr_n rfl (zr_n rfl zr_s)))) (zr_n rfl (zr_n rfl (zr_n rfl zr_s))) (zr_n rfl (zr_n rfl zr_s)) (zr_n rfl zr_s) (zr_n rfl (zr_n rfl (zr_n rfl (zr_n rfl (zr_n rfl (zr_n rfl (zr_n rfl (zr_n rfl (zr_n rfl (zr_n rfl e_i47)))))))))) (zeq_i rfl (zeq_i rfl (zeq_i rfl (zeq_i rfl (zeq_i rfl (zeq_i rfl (zeq_i rfl (zeq_i rfl (zeq_i rfl (zeq_i rfl e_h49)))))))))) x4 hy6) ((zch_h (zch_i (zch_i (zch_i (zch_i (zch_i (zch_i (zch_i (zch_i (zch_i (zm_n rfl (zm_n rfl (zm_n rfl (zm_n rfl (zm_n rfl (zm_n rfl (zm_n rfl (zm_n rfl (zm_n rfl (zm_n rfl rfl)))))))))) (zm_n rfl (zm_n rfl (zm_n rfl (zm_n rfl (zm_n rfl (zm_n rfl (zm_n rfl (zm_n rfl (zm_n rfl (zm_n rfl rfl))))))))))) (zm_n rfl (zm_n rfl (zm_n rfl (zm_n rfl (zm_n rfl (zm_n rfl (zm_n rfl (zm_n rfl (zm_n rfl (zm_n rfl rfl))))))))))) (zm_n rfl (zm_n rfl (zm_n rfl (zm_n rfl (zm_n rfl (zm_n rfl (zm_n rfl (zm_n rfl (zm_n rfl (zm_n rfl rfl))))))))))) (zm_n rfl (zm_n rfl (zm_n rfl (zm_n rfl (zm_n rfl (zm_n rfl (zm_n rfl (zm_n rfl (zm_n rfl (zm_n rfl rfl))))))))))) (zm_n rfl (zm_n rfl (zm_n rfl (zm_n rfl (zm_n rfl (zm_n rfl (zm_n rfl (zm_n rfl (zm_n rfl (zm_n rfl rfl))))))))))) (zm_n rfl (zm_n rfl (zm_n rfl (zm_n rfl (zm_n rfl (zm_n rfl (zm_n rfl (zm_n rfl (zm_n rfl (zm_n rfl rfl))))))))))) (zm_n rfl (zm_n rfl (zm_n rfl (zm_n rfl (zm_n rfl (zm_n rfl (zm_n rfl (zm_n rfl (zm_n rfl (zm_n rfl rfl))))))))))) (zm_n rfl (zm_n rfl (zm_n rfl (zm_n rfl (zm_n rfl (zm_n rfl (zm_n rfl (zm_n rfl (zm_n rfl (zm_n rfl rfl))))))))))) rfl) rfl)).symm ?_
      refine zj_iload_n (pc' := 54) 0 dX11_minutes_53 rfl rfl rfl ?_
      have e9 := Option.some.inj hy
      subst e9
      exact zj_iret dX11_minutes_54 rfl hq
    · have hy := zt_f hy c2
      refine zj_iconst (pc' := 12) dX11_minutes_11 rfl kiconst_m1 ?_
      have e9 := Option.some.inj hy
      subst e9
      refine zj_mem (N := (zui M 15 r0_4)) (zself_i e_i15 rfl) ?_
      refine zj_mem (N := (zui (zui M 15 r0_4) 16 r0_4_0)) (zself_i (zr_n rfl e_i16) rfl) ?_
      refine zj_mem (N := (zui (zui (zui M 15 r0_4) 16 r0_4_0) 17 r0_4_1)) (zself_i (zr_n rfl (zr_n rfl e_i17)) rfl) ?_
      refine zj_mem (N := (zui (zui (zui (zui M 15 r0_4) 16 r0_4_0) 17 r0_4_1) 18 r0_4_2)) (zself_i (zr_n rfl (zr_n rfl (zr_n rfl e_i18))) rfl) ?_
      refine zj_mem (N := (zui (zui (zui (zui (zui M 15 r0_4) 16 r0_4_0) 17 r0_4_1) 18 r0_4_2) 19 r0_4_3)) (zself_i (zr_n rfl (zr_n rfl (zr_n rfl (zr_n rfl e_i19)))) rfl) ?_
      refine zj_mem (N := (zui (zui (zui (zui (zui (zui M 15 r0_4) 16 r0_4_0) 17 r0_4_1) 18 r0_4_2) 19 r0_4_3) 20 r0_4_4)) (zself_i (zr_n rfl (zr_n rfl (zr_n rfl (zr_n rfl (zr_n rfl e_i20))))) rfl) ?_
      refine zj_mem (N := (zui (zui (zui (zui (zui (zui (zui M 15 r0_4) 16 r0_4_0) 17 r0_4_1) 18 r0_4_2) 19 r0_4_3) 20 r0_4_4) 21 r0_4_5)) (zself_i (zr_n rfl (zr_n rfl (zr_n rfl (zr_n rfl (zr_n rfl (zr_n rfl e_i21)))))) rfl) ?_
      refine zj_mem (N := (zui (zui (zui (zui (zui (zui (zui (zui M 15 r0_4) 16 r0_4_0) 17 r0_4_1) 18 r0_4_2) 19 r0_4_3) 20 r0_4_4) 21 r0_4_5) 22 r0_4_6)) (zself_i (zr_n rfl (zr_n rfl (zr_n rfl (zr_n rfl (zr_n rfl (zr_n rfl (zr_n rfl e_i22))))))) rfl) ?_
      refine zj_mem (N := (zui (zui (zui (zui (zui (zui (zui (zui (zui M 15 r0_4) 16 r0_4_0) 17 r0_4_1) 18 r0_4_2) 19 r0_4_3) 20 r0_4_4) 21 r0_4_5) 22 r0_4_6) 23 r0_4_7)) (zself_i (zr_n rfl (zr_n rfl (zr_n rfl (zr_n rfl (zr_n rfl (zr_n rfl (zr_n rfl (zr_n rfl e_i23)))))))) rfl) ?_
      refine zj_mem (N := (zui (zui (zui (zui (zui (zui (zui (zui (zui (zui M 15 r0_4) 16 r0_4_0) 17 r0_4_1) 18 r0_4_2) 19 r0_4_3) 20 r0_4_4) 21 r0_4_5) 22 r0_4_6) 23 r0_4_7) 25 r0_5)) (zself_i (zr_n rfl (zr_n rfl (zr_n rfl (zr_n rfl (zr_n rfl (zr_n rfl (zr_n rfl (zr_n rfl (zr_n rfl e_i25))))))))) rfl) ?_
      refine zj_mem (N := (zui (zui (zui (zui (zui (zui (zui (zui (zui (zui (zui M 15 r0_4) 16 r0_4_0) 17 r0_4_1) 18 r0_4_2) 19 r0_4_3) 20 r0_4_4) 21 r0_4_5) 22 r0_4_6) 23 r0_4_7) 25 r0_5) 26 r0_5_0)) (zself_i (zr_n rfl (zr_n rfl (zr_n rfl (zr_n rfl (zr_n rfl (zr_n rfl (zr_n rfl (zr_n rfl (zr_n rfl (zr_n rfl e_i26)))))))))) rfl) ?_
      refine zj_mem (N := (zui (zui (zui (zui (zui (zui (zui (zui (zui (zui (zui (zui M 15 r0_4) 16 r0_4_0) 17 r0_4_1) 18 r0_4_2) 19 r0_4_3) 20 r0_4_4) 21 r0_4_5) 22 r0_4_6) 23 r0_4_7) 25 r0_5) 26 r0_5_0) 27 r0_5_1)) (zself_i (zr_n rfl (zr_n rfl (zr_n rfl (zr_n rfl (zr_n rfl (zr_n rfl (zr_n rfl (zr_n rfl (zr_n rfl (zr_n rfl (zr_n rfl e_i27))))))))))) rfl) ?_
      refine zj_mem (N := (zui (zui (zui (zui (zui (zui (zui (zui (zui (zui (zui (zui (zui M 15 r0_4) 16 r0_4_0) 17 r0_4_1) 18 r0_4_2) 19 r0_4_3) 20 r0_4_4) 21 r0_4_5) 22 r0_4_6) 23 r0_4_7) 25 r0_5) 26 r0_5_0) 27 r0_5_1) 28 r0_5_2)) (zself_i (zr_n rfl (zr_n rfl (zr_n rfl (zr_n rfl (zr_n rfl (zr_n rfl (zr_n rfl (zr_n rfl (zr_n rfl (zr_n rfl (zr_n rfl (zr_n rfl e_i28)))))))))))) rfl) ?_
      refine zj_mem (N := (zui (zui (zui (zui (zui (zui (zui (zui (zui (zui (zui (zui (zui (zui M 15 r0_4) 16 r0_4_0) 17 r0_4_1) 18 r0_4_2) 19 r0_4_3) 20 r0_4_4) 21 r0_4_5) 22 r0_4_6) 23 r0_4_7) 25 r0_5) 26 r0_5_0) 27 r0_5_1) 28 r0_5_2) 29 r0_5_3)) (zself_i (zr_n rfl (zr_n rfl (zr_n rfl (zr_n rfl (zr_n rfl (zr_n rfl (zr_n rfl (zr_n rfl (zr_n rfl (zr_n rfl (zr_n rfl (zr_n rfl (zr_n rfl e_i29))))))))))))) rfl) ?_
      refine zj_mem (N := (zui (zui (zui (zui (zui (zui (zui (zui (zui (zui (zui (zui (zui (zui (zui M 15 r0_4) 16 r0_4_0) 17 r0_4_1) 18 r0_4_2) 19 r0_4_3) 20 r0_4_4) 21 r0_4_5) 22 r0_4_6) 23 r0_4_7) 25 r0_5) 26 r0_5_0) 27 r0_5_1) 28 r0_5_2) 29 r0_5_3) 30 r0_5_4)) (zself_i (zr_n rfl (zr_n rfl (zr_n rfl (zr_n rfl (zr_n rfl (zr_n rfl (zr_n rfl (zr_n rfl (zr_n rfl (zr_n rfl (zr_n rfl (zr_n rfl (zr_n rfl (zr_n rfl e_i30)))))))))))))) rfl) ?_
      refine zj_mem (N := (zui (zui (zui (zui (zui (zui (zui (zui (zui (zui (zui (zui (zui (zui (zui (zui M 15 r0_4) 16 r0_4_0) 17 r0_4_1) 18 r0_4_2) 19 r0_4_3) 20 r0_4_4) 21 r0_4_5) 22 r0_4_6) 23 r0_4_7) 25 r0_5) 26 r0_5_0) 27 r0_5_1) 28 r0_5_2) 29 r0_5_3) 30 r0_5_4) 31 r0_5_5)) (zself_i (zr_n rfl (zr_n rfl (zr_n rfl (zr_n rfl (zr_n rfl (zr_n rfl (zr_n rfl (zr_n rfl (zr_n rfl (zr_n rfl (zr_n rfl (zr_n rfl (zr_n rfl (zr_n rfl (zr_n rfl e_i31))))))))))))))) rfl) ?_
      refine zj_mem (N := (zui (zui (zui (zui (zui (zui (zui (zui (zui (zui (zui (zui (zui (zui (zui (zui (zui M 15 r0_4) 16 r0_4_0) 17 r0_4_1) 18 r0_4_2) 19 r0_4_3) 20 r0_4_4) 21 r0_4_5) 22 r0_4_6) 23 r0_4_7) 25 r0_5) 26 r0_5_0) 27 r0_5_1) 28 r0_5_2) 29 r0_5_3) 30 r0_5_4) 31 r0_5_5) 32 r0_5_6)) (zself_i (zr_n rfl (zr_n rfl (zr_n rfl (zr_n rfl (zr_n rfl (zr_n rfl (zr_n rfl (zr_n rfl (zr_n rfl (zr_n rfl (zr_n rfl (zr_n rfl (zr_n rfl (zr_n rfl (zr_n rfl (zr_n rfl e_i32)))))))))))))))) rfl) ?_
      refine zj_mem (N := (zui (zui (zui (zui (zui (zui (zui (zui (zui (zui (zui (zui (zui (zui (zui (zui (zui (zui M 15 r0_4) 16 r0_4_0) 17 r0_4_1) 18 r0_4_2) 19 r0_4_3) 20 r0_4_4) 21 r0_4_5) 22 r0_4_6) 23 r0_4_7) 25 r0_5) 26 r0_5_0) 27 r0_5_1) 28 r0_5_2) 29 r0_5_3) 30 r0_5_4) 31 r0_5_5) 32 r0_5_6) 33 r0_5_7)) (zself_i (zr_n rfl (zr_n rfl (zr_n rfl (zr_n rfl (zr_n rfl (zr_n rfl (zr_n rfl (zr_n rfl (zr_n rfl (zr_n rfl (zr_n rfl (zr_n rfl (zr_n rfl (zr_n rfl (zr_n rfl (zr_n rfl (zr_n rfl e_i33))))))))))))))))) rfl) ?_
      refine zj_mem (N := (zui (zui (zui (zui (zui (zui (zui (zui (zui (zui (zui (zui (zui (zui (zui (zui (zui (zui (zui M 15 r0_4) 16 r0_4_0) 17 r0_4_1) 18 r0_4_2) 19 r0_4_3) 20 r0_4_4) 21 r0_4_5) 22 r0_4_6) 23 r0_4_7) 25 r0_5) 26 r0_5_0) 27 r0_5_1) 28 r0_5_2) 29 r0_5_3) 30 r0_5_4) 31 r0_5_5) 32 r0_5_6) 33 r0_5_7) 34 r0_5_8)) (zself_i (zr_n rfl (zr_n rfl (zr_n rfl (zr_n rfl (zr_n rfl (zr_n rfl (zr_n rfl (zr_n rfl (zr_n rfl (zr_n rfl (zr_n rfl (zr_n rfl (zr_n rfl (zr_n rfl (zr_n rfl (zr_n rfl (zr_n rfl (zr_n rfl e_i34)))))))))))))))))) rfl) ?_
      refine zj_mem (N := (zui (zui (zui (zui (zui (zui (zui (zui (zui (zui (zui (zui (zui (zui (zui (zui (zui (zui (zui (zui M 15 r0_4) 16 r0_4_0) 17 r0_4_1) 18 r0_4_2) 19 r0_4_3) 20 r0_4_4) 21 r0_4_5) 22 r0_4_6) 23 r0_4_7) 25 r0_5) 26 r0_5_0) 27 r0_5_1) 28 r0_5_2) 29 r0_5_3) 30 r0_5_4) 31 r0_5_5) 32 r0_5_6) 33 r0_5_7) 34 r0_5_8) 47 r0_8)) (zself_i (zr_n rfl (zr_n rfl (zr_n rfl (zr_n rfl (zr_n rfl (zr_n rfl (zr_n rfl (zr_n rfl (zr_n rfl (zr_n rfl (zr_n rfl (zr_n rfl (zr_n rfl (zr_n rfl (zr_n rfl (zr_n rfl (zr_n rfl (zr_n rfl (zr_n rfl e_i47))))))))))))))))))) rfl) ?_
      refine zj_mem (N := (zub (zui (zui (zui (zui (zui (zui (zui (zui (zui (zui (zui (zui (zui (zui (zui (zui (zui (zui (zui (zui M 15 r0_4) 16 r0_4_0) 17 r0_4_1) 18 r0_4_2) 19 r0_4_3) 20 r0_4_4) 21 r0_4_5) 22 r0_4_6) 23 r0_4_7) 25 r0_5) 26 r0_5_0) 27 r0_5_1) 28 r0_5_2) 29 r0_5_3) 30 r0_5_4) 31 r0_5_5) 32 r0_5_6) 33 r0_5_7) 34 r0_5_8) 47 r0_8) 49 129 g49)) (zself_h (zeq_i rfl (zeq_i rfl (zeq_i rfl (zeq_i rfl (zeq_i rfl (zeq_i rfl (zeq_i rfl (zeq_i rfl (zeq_i rfl (zeq_i rfl (zeq_i rfl (zeq_i rfl (zeq_i rfl (zeq_i rfl (zeq_i rfl (zeq_i rfl (zeq_i rfl (zeq_i rfl (zeq_i rfl (zeq_i rfl e_h49)))))))))))))))))))) rfl) ?_
      exact zj_iret dX11_minutes_12 rfl hq
set_option maxRecDepth 20000 in
theorem LX11_minutes_0 (Γ : zG) (M : zM) (r0_2 : Nat → Int32) (r0_2_2 : Nat → Int32) (r0_2_3 : Nat → Int32) (r0_4 : Nat → Int32) (r0_4_0 : Nat → Int32) (r0_4_1 : Nat → Int32) (r0_4_2 : Nat → Int32) (r0_4_3 : Nat → Int32) (r0_4_4 : Nat → Int32) (r0_4_5 : Nat → Int32) (r0_4_6 : Nat → Int32) (r0_4_7 : Nat → Int32) (r0_5 : Nat → Int32) (r0_5_0 : Nat → Int32) (r0_5_1 : Nat → Int32) (r0_5_2 : Nat → Int32) (r0_5_3 : Nat → Int32) (r0_5_4 : Nat → Int32) (r0_5_5 : Nat → Int32) (r0_5_6 : Nat → Int32) (r0_5_7 : Nat → Int32) (r0_5_8 : Nat → Int32) (r0_8 : Nat → Int32) (g49 : zM) (e_i5 : M.1 5 = r0_2) (e_i8 : M.1 8 = r0_2_2) (e_i9 : M.1 9 = r0_2_3) (e_i15 : M.1 15 = r0_4) (e_i16 : M.1 16 = r0_4_0) (e_i17 : M.1 17 = r0_4_1) (e_i18 : M.1 18 = r0_4_2) (e_i19 : M.1 19 = r0_4_3) (e_i20 : M.1 20 = r0_4_4) (e_i21 : M.1 21 = r0_4_5) (e_i22 : M.1 22 = r0_4_6) (e_i23 : M.1 23 = r0_4_7) (e_i25 : M.1 25 = r0_5) (e_i26 : M.1 26 = r0_5_0) (e_i27 : M.1 27 = r0_5_1) (e_i28 : M.1 28 = r0_5_2) (e_i29 : M.1 29 = r0_5_3) (e_i30 : M.1 30 = r0_5_4) (e_i31 : M.1 31 = r0_5_5) (e_i32 : M.1 32 = r0_5_6) (e_i33 : M.1 33 = r0_5_7) (e_i34 : M.1 34 = r0_5_8) (e_i47 : M.1 47 = r0_8) (e_h49 : zeq M 49 129 g49) (a1 : Int32) {res : Int32 × (Nat → Int32) × (Nat → Int32) × (Nat → Int32) × (Nat → Int32) × (Nat → Int32) × (Nat → Int32) × (Nat → Int32) × (Nat → Int32) × (Nat → Int32) × (Nat → Int32) × (Nat → Int32) × (Nat → Int32) × (Nat → Int32) × (Nat → Int32) × (Nat → Int32) × (Nat → Int32) × (Nat → Int32) × (Nat → Int32) × (Nat → Int32) × (Nat → Int32) × zM} (hy : (fX_minutes r0_2 r0_2_2 r0_2_3 r0_4 r0_4_0 r0_4_1 r0_4_2 r0_4_3 r0_4_4 r0_4_5 r0_4_6 r0_4_7 r0_5 r0_5_0 r0_5_1 r0_5_2 r0_5_3 r0_5_4 r0_5_5 r0_5_6 r0_5_7 r0_5_8 r0_8 g49 a1) = some res) : zK Γ 6 YX11_minutes [.ref (zad Γ 0), .int a1] M (fun v N => v = some (.int res.1) ∧ N = (zub (zui (zui (zui (zui (zui (zui (zui (zui (zui (zui (zui (zui (zui (zui (zui (zui (zui (zui (zui (zui M 15 res.2.1) 16 res.2.2.1) 17 res.2.2.2.1) 18 res.2.2.2.2.1) 19 res.2.2.2.2.2.1) 20 res.2.2.2.2.2.2.1) 21 res.2.2.2.2.2.2.2.1) 22 res.2.2.2.2.2.2.2.2.1) 23 res.2.2.2.2.2.2.2.2.2.1) 25 res.2.2.2.2.2.2.2.2.2.2.1) 26 res.2.2.2.2.2.2.2.2.2.2.2.1) 27 res.2.2.2.2.2.2.2.2.2.2.2.2.1) 28 res.2.2.2.2.2.2.2.2.2.2.2.2.2.1) 29 res.2.2.2.2.2.2.2.2.2.2.2.2.2.2.1) 30 res.2.2.2.2.2.2.2.2.2.2.2.2.2.2.2.1) 31 res.2.2.2.2.2.2.2.2.2.2.2.2.2.2.2.2.1) 32 res.2.2.2.2.2.2.2.2.2.2.2.2.2.2.2.2.2.1) 33 res.2.2.2.2.2.2.2.2.2.2.2.2.2.2.2.2.2.2.1) 34 res.2.2.2.2.2.2.2.2.2.2.2.2.2.2.2.2.2.2.2.1) 47 res.2.2.2.2.2.2.2.2.2.2.2.2.2.2.2.2.2.2.2.2.1) 49 129 res.2.2.2.2.2.2.2.2.2.2.2.2.2.2.2.2.2.2.2.2.2)) :=
  zK_of (by decide) (Nat.le_of_ble_eq_true rfl) (TX11_minutes_0 Γ M r0_2 r0_2_2 r0_2_3 r0_4 r0_4_0 r0_4_1 r0_4_2 r0_4_3 r0_4_4 r0_4_5 r0_4_6 r0_4_7 r0_5 r0_5_0 r0_5_1 r0_5_2 r0_5_3 r0_5_4 r0_5_5 r0_5_6 r0_5_7 r0_5_8 r0_8 g49 e_i5 e_i8 e_i9 e_i15 e_i16 e_i17 e_i18 e_i19 e_i20 e_i21 e_i22 e_i23 e_i25 e_i26 e_i27 e_i28 e_i29 e_i30 e_i31 e_i32 e_i33 e_i34 e_i47 e_h49 a1 hy ⟨rfl, rfl⟩)


set_option maxRecDepth 20000 in
theorem TX1_copyFrom_15_119 (Γ : zG) {Q : Option Value → zM → Prop} (M : zM) (r0 : Nat → Int32) (r0_0 : Nat → Int32) (r0_1 : Nat → Int32) (r0_2 : Nat → Int32) (r0_3 : Nat → Int32) (r0_4 : Nat → Int32) (r0_5 : Nat → Int32) (r0_6 : Nat → Int32) (r0_7 : Nat → Int32) (r1 : Nat → Int32) (r1_0 : Nat → Int32) (r1_1 : Nat → Int32) (r1_2 : Nat → Int32) (r1_3 : Nat → Int32) (r1_4 : Nat → Int32) (r1_5 : Nat → Int32) (r1_6 : Nat → Int32) (r1_7 : Nat → Int32) (e_i15 : M.1 15 = r0) (e_i16 : M.1 16 = r0_0) (e_i17 : M.1 17 = r0_1) (e_i18 : M.1 18 = r0_2) (e_i19 : M.1 19 = r0_3) (e_i20 : M.1 20 = r0_4) (e_i21 : M.1 21 = r0_5) (e_i22 : M.1 22 = r0_6) (e_i23 : M.1 23 = r0_7) (e_i119 : M.1 119 = r1) (e_i120 : M.1 120 = r1_0) (e_i121 : M.1 121 = r1_1) (e_i122 : M.1 122 = r1_2) (e_i123 : M.1 123 = r1_3) (e_i124 : M.1 124 = r1_4) (e_i125 : M.1 125 = r1_5) (e_i126 : M.1 126 = r1_6) (e_i127 : M.1 127 = r1_7)  {res : (Nat → Int32) × (Nat → Int32) × (Nat → Int32) × (Nat → Int32) × (Nat → Int32) × (Nat → Int32) × (Nat → Int32) × (Nat → Int32) × (Nat → Int32)} (hy : (fDy_copyFrom r0 r0_0 r0_1 r0_2 r0_3 r0_4 r0_5 r0_6 r0_7 r1 r1_0 r1_1 r1_2 r1_3 r1_4 r1_5 r1_6 r1_7) = some res) (hq : Q none (zui (zui (zui (zui (zui (zui (zui (zui (zui M 15 res.1) 16 res.2.1) 17 res.2.2.1) 18 res.2.2.2.1) 19 res.2.2.2.2.1) 20 res.2.2.2.2.2.1) 21 res.2.2.2.2.2.2.1) 22 res.2.2.2.2.2.2.2.1) 23 res.2.2.2.2.2.2.2.2)) : zR Γ 2 YX1_copyFrom 0 [(0, .ref (zad Γ 15)), (1, .ref (zad Γ 119))] [] M Q := by
  unfold fDy_copyFrom at hy
  refine zj_aload_n (pc' := 1) 1 dX1_copyFrom_0 rfl rfl rfl ?_
  refine zj_getR (pc' := 4) (j := 120) dX1_copyFrom_1 rfl flX1_9 sh119 rfl ?_
  refine zj_iconst (pc' := 5) dX1_copyFrom_4 rfl kiconst_0 ?_
  refine zj_aload_n (pc' := 6) 0 dX1_copyFrom_5 rfl rfl rfl ?_
  refine zj_getR (pc' := 9) (j := 16) dX1_copyFrom_6 rfl flX1_9 sh15 rfl ?_
  refine zj_iconst (pc' := 10) dX1_copyFrom_9 rfl kiconst_0 ?_
  refine zj_bipush (pc' := 12) dX1_copyFrom_10 rfl kbipush_36 ?_
  obtain ⟨r0_0v1, er0_0v1⟩ : ∃ z, z = (va_cpy r1_0 r0_0 0 0 36) := ⟨_, rfl⟩
  have hy := zlet_at er0_0v1 hy
  refine zj_cpI (pc' := 15) (N := (zui M 16 r0_0v1)) dX1_copyFrom_12 rfl mlX1_52 zcpw sh120 sh16 tn0 tn0 tn36 (by decide) (by decide) (Nat.le_of_ble_eq_true rfl) (Nat.le_of_ble_eq_true rfl) e_i120 e_i16 er0_0v1 rfl (Nat.le_of_ble_eq_true rfl) (Nat.le_of_ble_eq_true rfl) ?_
  refine zj_aload_n (pc' := 16) 1 dX1_copyFrom_15 rfl rfl rfl ?_
  refine zj_getR (pc' := 19) (j := 121) dX1_copyFrom_16 rfl flX1_15 sh119 rfl ?_
  refine zj_iconst (pc' := 20) dX1_copyFrom_19 rfl kiconst_0 ?_
  refine zj_aload_n (pc' := 21) 0 dX1_copyFrom_20 rfl rfl rfl ?_
  refine zj_getR (pc' := 24) (j := 17) dX1_copyFrom_21 rfl flX1_15 sh15 rfl ?_
  refine zj_iconst (pc' := 25) dX1_copyFrom_24 rfl kiconst_0 ?_
  refine zj_bipush (pc' := 27) dX1_copyFrom_25 rfl kbipush_6 ?_
  obtain ⟨r0_1v2, er0_1v2⟩ : ∃ z, z = (va_cpy r1_1 r0_1 0 0 6) := ⟨_, rfl⟩
  have hy := zlet_at er0_1v2 hy
  refine zj_cpI (pc' := 30) (N := (zui (zui M 16 r0_0v1) 17 r0_1v2)) dX1_copyFrom_27 rfl mlX1_52 zcpw sh121 sh17 tn0 tn0 tn6 (by decide) (by decide) (Nat.le_of_ble_eq_true rfl) (Nat.le_of_ble_eq_true rfl) (zr_n rfl e_i121) (zr_n rfl e_i17) er0_1v2 rfl (Nat.le_of_ble_eq_true rfl) (Nat.le_of_ble_eq_true rfl) ?_
  refine zj_aload_n (pc' := 31) 1 dX1_copyFrom_30 rfl rfl rfl ?_
  refine zj_getR (pc' := 34) (j := 122) dX1_copyFrom_31 rfl flX1_18 sh119 rfl ?_
  refine zj_iconst (pc' := 35) dX1_copyFrom_34 rfl kiconst_0 ?_
  refine zj_aload_n (pc' := 36) 0 dX1_copyFrom_35 rfl rfl rfl ?_
  refine zj_getR (pc' := 39) (j := 18) dX1_copyFrom_36 rfl flX1_18 sh15 rfl ?_
  refine zj_iconst (pc' := 40) dX1_copyFrom_39 rfl kiconst_0 ?_
  refine zj_bipush (pc' := 42) dX1_copyFrom_40 rfl kbipush_6 ?_
  obtain ⟨r0_2v3, er0_2v3⟩ : ∃ z, z = (va_cpy r1_2 r0_2 0 0 6) := ⟨_, rfl⟩
  have hy := zlet_at er0_2v3 hy
  refine zj_cpI (pc' := 45) (N := (zui (zui (zui M 16 r0_0v1) 17 r0_1v2) 18 r0_2v3)) dX1_copyFrom_42 rfl mlX1_52 zcpw sh122 sh18 tn0 tn0 tn6 (by decide) (by decide) (Nat.le_of_ble_eq_true rfl) (Nat.le_of_ble_eq_true rfl) (zr_n rfl (zr_n rfl e_i122)) (zr_n rfl (zr_n rfl e_i18)) er0_2v3 rfl (Nat.le_of_ble_eq_true rfl) (Nat.le_of_ble_eq_true rfl) ?_
  refine zj_aload_n (pc' := 46) 1 dX1_copyFrom_45 rfl rfl rfl ?_
  refine zj_getR (pc' := 49) (j := 123) dX1_copyFrom_46 rfl flX1_21 sh119 rfl ?_
  refine zj_iconst (pc' := 50) dX1_copyFrom_49 rfl kiconst_0 ?_
  refine zj_aload_n (pc' := 51) 0 dX1_copyFrom_50 rfl rfl rfl ?_
  refine zj_getR (pc' := 54) (j := 19) dX1_copyFrom_51 rfl flX1_21 sh15 rfl ?_
  refine zj_iconst (pc' := 55) dX1_copyFrom_54 rfl kiconst_0 ?_
  refine zj_bipush (pc' := 57) dX1_copyFrom_55 rfl kbipush_6 ?_
  obtain ⟨r0_3v4, er0_3v4⟩ : ∃ z, z = (va_cpy r1_3 r0_3 0 0 6) := ⟨_, rfl⟩
  have hy := zlet_at er0_3v4 hy
  refine zj_cpI (pc' := 60) (N := (zui (zui (zui (zui M 16 r0_0v1) 17 r0_1v2) 18 r0_2v3) 19 r0_3v4)) dX1_copyFrom_57 rfl mlX1_52 zcpw sh123 sh19 tn0 tn0 tn6 (by decide) (by decide) (Nat.le_of_ble_eq_true rfl) (Nat.le_of_ble_eq_true rfl) (zr_n rfl (zr_n rfl (zr_n rfl e_i123))) (zr_n rfl (zr_n rfl (zr_n rfl e_i19))) er0_3v4 rfl (Nat.le_of_ble_eq_true rfl) (Nat.le_of_ble_eq_true rfl) ?_
  refine zj_aload_n (pc' := 61) 1 dX1_copyFrom_60 rfl rfl rfl ?_
  refine zj_getR (pc' := 64) (j := 124) dX1_copyFrom_61 rfl flX1_24 sh119 rfl ?_
  refine zj_iconst (pc' := 65) dX1_copyFrom_64 rfl kiconst_0 ?_
  refine zj_aload_n (pc' := 66) 0 dX1_copyFrom_65 rfl rfl rfl ?_
  refine zj_getR (pc' := 69) (j := 20) dX1_copyFrom_66 rfl flX1_24 sh15 rfl ?_
  refine zj_iconst (pc' := 70) dX1_copyFrom_69 rfl kiconst_0 ?_
  refine zj_bipush (pc' := 72) dX1_copyFrom_70 rfl kbipush_48 ?_
  obtain ⟨r0_4v5, er0_4v5⟩ : ∃ z, z = (va_cpy r1_4 r0_4 0 0 48) := ⟨_, rfl⟩
  have hy := zlet_at er0_4v5 hy
  refine zj_cpI (pc' := 75) (N := (zui (zui (zui (zui (zui M 16 r0_0v1) 17 r0_1v2) 18 r0_2v3) 19 r0_3v4) 20 r0_4v5)) dX1_copyFrom_72 rfl mlX1_52 zcpw sh124 sh20 tn0 tn0 tn48 (by decide) (by decide) (Nat.le_of_ble_eq_true rfl) (Nat.le_of_ble_eq_true rfl) (zr_n rfl (zr_n rfl (zr_n rfl (zr_n rfl e_i124)))) (zr_n rfl (zr_n rfl (zr_n rfl (zr_n rfl e_i20)))) er0_4v5 rfl (Nat.le_of_ble_eq_true rfl) (Nat.le_of_ble_eq_true rfl) ?_
  refine zj_aload_n (pc' := 76) 1 dX1_copyFrom_75 rfl rfl rfl ?_
  refine zj_getR (pc' := 79) (j := 125) dX1_copyFrom_76 rfl flX1_27 sh119 rfl ?_
  refine zj_iconst (pc' := 80) dX1_copyFrom_79 rfl kiconst_0 ?_
  refine zj_aload_n (pc' := 81) 0 dX1_copyFrom_80 rfl rfl rfl ?_
  refine zj_getR (pc' := 84) (j := 21) dX1_copyFrom_81 rfl flX1_27 sh15 rfl ?_
  refine zj_iconst (pc' := 85) dX1_copyFrom_84 rfl kiconst_0 ?_
  refine zj_bipush (pc' := 87) dX1_copyFrom_85 rfl kbipush_6 ?_
  obtain ⟨r0_5v6, er0_5v6⟩ : ∃ z, z = (va_cpy r1_5 r0_5 0 0 6) := ⟨_, rfl⟩
  have hy := zlet_at er0_5v6 hy
  refine zj_cpI (pc' := 90) (N := (zui (zui (zui (zui (zui (zui M 16 r0_0v1) 17 r0_1v2) 18 r0_2v3) 19 r0_3v4) 20 r0_4v5) 21 r0_5v6)) dX1_copyFrom_87 rfl mlX1_52 zcpw sh125 sh21 tn0 tn0 tn6 (by decide) (by decide) (Nat.le_of_ble_eq_true rfl) (Nat.le_of_ble_eq_true rfl) (zr_n rfl (zr_n rfl (zr_n rfl (zr_n rfl (zr_n rfl e_i125))))) (zr_n rfl (zr_n rfl (zr_n rfl (zr_n rfl (zr_n rfl e_i21))))) er0_5v6 rfl (Nat.le_of_ble_eq_true rfl) (Nat.le_of_ble_eq_true rfl) ?_
  refine zj_aload_n (pc' := 91) 1 dX1_copyFrom_90 rfl rfl rfl ?_
  refine zj_getR (pc' := 94) (j := 126) dX1_copyFrom_91 rfl flX1_30 sh119 rfl ?_
  refine zj_iconst (pc' := 95) dX1_copyFrom_94 rfl kiconst_0 ?_
  refine zj_aload_n (pc' := 96) 0 dX1_copyFrom_95 rfl rfl rfl ?_
  refine zj_getR (pc' := 99) (j := 22) dX1_copyFrom_96 rfl flX1_30 sh15 rfl ?_
  refine zj_iconst (pc' := 100) dX1_copyFrom_99 rfl kiconst_0 ?_
  refine zj_bipush (pc' := 102) dX1_copyFrom_100 rfl kbipush_8 ?_
  obtain ⟨r0_6v7, er0_6v7⟩ : ∃ z, z = (va_cpy r1_6 r0_6 0 0 8) := ⟨_, rfl⟩
  have hy := zlet_at er0_6v7 hy
  refine zj_cpI (pc' := 105) (N := (zui (zui (zui (zui (zui (zui (zui M 16 r0_0v1) 17 r0_1v2) 18 r0_2v3) 19 r0_3v4) 20 r0_4v5) 21 r0_5v6) 22 r0_6v7)) dX1_copyFrom_102 rfl mlX1_52 zcpw sh126 sh22 tn0 tn0 tn8 (by decide) (by decide) (Nat.le_of_ble_eq_true rfl) (Nat.le_of_ble_eq_true rfl) (zr_n rfl (zr_n rfl (zr_n rfl (zr_n rfl (zr_n rfl (zr_n rfl e_i126)))))) (zr_n rfl (zr_n rfl (zr_n rfl (zr_n rfl (zr_n rfl (zr_n rfl e_i22)))))) er0_6v7 rfl (Nat.le_of_ble_eq_true rfl) (Nat.le_of_ble_eq_true rfl) ?_
  refine zj_aload_n (pc' := 106) 1 dX1_copyFrom_105 rfl rfl rfl ?_
  refine zj_getR (pc' := 109) (j := 127) dX1_copyFrom_106 rfl flX1_33 sh119 rfl ?_
  refine zj_iconst (pc' := 110) dX1_copyFrom_109 rfl kiconst_0 ?_
  refine zj_aload_n (pc' := 111) 0 dX1_copyFrom_110 rfl rfl rfl ?_
  refine zj_getR (pc' := 114) (j := 23) dX1_copyFrom_111 rfl flX1_33 sh15 rfl ?_
  refine zj_iconst (pc' := 115) dX1_copyFrom_114 rfl kiconst_0 ?_
  refine zj_bipush (pc' := 117) dX1_copyFrom_115 rfl kbipush_8 ?_
  obtain ⟨r0_7v8, er0_7v8⟩ : ∃ z, z = (va_cpy r1_7 r0_7 0 0 8) := ⟨_, rfl⟩
  have hy := zlet_at er0_7v8 hy
  refine zj_cpI (pc' := 120) (N := (zui (zui (zui (zui (zui (zui (zui (zui M 16 r0_0v1) 17 r0_1v2) 18 r0_2v3) 19 r0_3v4) 20 r0_4v5) 21 r0_5v6) 22 r0_6v7) 23 r0_7v8)) dX1_copyFrom_117 rfl mlX1_52 zcpw sh127 sh23 tn0 tn0 tn8 (by decide) (by decide) (Nat.le_of_ble_eq_true rfl) (Nat.le_of_ble_eq_true rfl) (zr_n rfl (zr_n rfl (zr_n rfl (zr_n rfl (zr_n rfl (zr_n rfl (zr_n rfl e_i127))))))) (zr_n rfl (zr_n rfl (zr_n rfl (zr_n rfl (zr_n rfl (zr_n rfl (zr_n rfl e_i23))))))) er0_7v8 rfl (Nat.le_of_ble_eq_true rfl) (Nat.le_of_ble_eq_true rfl) ?_
  refine zj_aload_n (pc' := 121) 0 dX1_copyFrom_120 rfl rfl rfl ?_
  refine zj_aload_n (pc' := 122) 1 dX1_copyFrom_121 rfl rfl rfl ?_
  refine zj_fI (pc' := 125) dX1_copyFrom_122 rfl flX1_45 sh119 rfl (zr_n rfl (zr_n rfl (zr_n rfl (zr_n rfl (zr_n rfl (zr_n rfl (zr_n rfl (zr_n rfl e_i119)))))))) rfl ?_
  obtain ⟨r0v9, er0v9⟩ : ∃ z, z = (zup r0 9 (r1 9)) := ⟨_, rfl⟩
  have hy := zlet_at er0v9 hy
  refine zj_pI (pc' := 128) (N := (zui (zui (zui (zui (zui (zui (zui (zui (zui M 15 r0v9) 16 r0_0v1) 17 r0_1v2) 18 r0_2v3) 19 r0_3v4) 20 r0_4v5) 21 r0_5v6) 22 r0_6v7) 23 r0_7v8)) dX1_copyFrom_125 rfl fpX1_45 sh15 rfl (zr_n rfl (zr_n rfl (zr_n rfl (zr_n rfl (zr_n rfl (zr_n rfl (zr_n rfl (zr_n rfl e_i15)))))))) er0v9 (zm_n rfl (zm_n rfl (zm_n rfl (zm_n rfl (zm_n rfl (zm_n rfl (zm_n rfl (zm_n rfl rfl)))))))) ?_
  refine zj_aload_n (pc' := 129) 0 dX1_copyFrom_128 rfl rfl rfl ?_
  refine zj_aload_n (pc' := 130) 1 dX1_copyFrom_129 rfl rfl rfl ?_
  refine zj_fI (pc' := 133) dX1_copyFrom_130 rfl flX1_49 sh119 rfl (zr_n rfl (zr_n rfl (zr_n rfl (zr_n rfl (zr_n rfl (zr_n rfl (zr_n rfl (zr_n rfl (zr_n rfl e_i119))))))))) rfl ?_
  obtain ⟨r0v10, er0v10⟩ : ∃ z, z = (zup r0v9 10 (r1 10)) := ⟨_, rfl⟩
  have hy := zlet_at er0v10 hy
  refine zj_pI (pc' := 136) (N := (zui (zui (zui (zui (zui (zui (zui (zui (zui M 15 r0v10) 16 r0_0v1) 17 r0_1v2) 18 r0_2v3) 19 r0_3v4) 20 r0_4v5) 21 r0_5v6) 22 r0_6v7) 23 r0_7v8)) dX1_copyFrom_133 rfl fpX1_49 sh15 rfl (zr_n rfl (zr_n rfl (zr_n rfl (zr_n rfl (zr_n rfl (zr_n rfl (zr_n rfl (zr_n rfl zr_s)))))))) er0v10 (zm_n rfl (zm_n rfl (zm_n rfl (zm_n rfl (zm_n rfl (zm_n rfl (zm_n rfl (zm_n rfl zm_s)))))))) ?_
  have e9 := Option.some.inj hy
  subst e9
  exact zj_vret dX1_copyFrom_136 rfl hq
set_option maxRecDepth 20000 in
theorem LX1_copyFrom_15_119 (Γ : zG) (M : zM) (r0 : Nat → Int32) (r0_0 : Nat → Int32) (r0_1 : Nat → Int32) (r0_2 : Nat → Int32) (r0_3 : Nat → Int32) (r0_4 : Nat → Int32) (r0_5 : Nat → Int32) (r0_6 : Nat → Int32) (r0_7 : Nat → Int32) (r1 : Nat → Int32) (r1_0 : Nat → Int32) (r1_1 : Nat → Int32) (r1_2 : Nat → Int32) (r1_3 : Nat → Int32) (r1_4 : Nat → Int32) (r1_5 : Nat → Int32) (r1_6 : Nat → Int32) (r1_7 : Nat → Int32) (e_i15 : M.1 15 = r0) (e_i16 : M.1 16 = r0_0) (e_i17 : M.1 17 = r0_1) (e_i18 : M.1 18 = r0_2) (e_i19 : M.1 19 = r0_3) (e_i20 : M.1 20 = r0_4) (e_i21 : M.1 21 = r0_5) (e_i22 : M.1 22 = r0_6) (e_i23 : M.1 23 = r0_7) (e_i119 : M.1 119 = r1) (e_i120 : M.1 120 = r1_0) (e_i121 : M.1 121 = r1_1) (e_i122 : M.1 122 = r1_2) (e_i123 : M.1 123 = r1_3) (e_i124 : M.1 124 = r1_4) (e_i125 : M.1 125 = r1_5) (e_i126 : M.1 126 = r1_6) (e_i127 : M.1 127 = r1_7)  {res : (Nat → Int32) × (Nat → Int32) × (Nat → Int32) × (Nat → Int32) × (Nat → Int32) × (Nat → Int32) × (Nat → Int32) × (Nat → Int32) × (Nat → Int32)} (hy : (fDy_copyFrom r0 r0_0 r0_1 r0_2 r0_3 r0_4 r0_5 r0_6 r0_7 r1 r1_0 r1_1 r1_2 r1_3 r1_4 r1_5 r1_6 r1_7) = some res) : zK Γ 2 YX1_copyFrom [.ref (zad Γ 15), .ref (zad Γ 119)] M (fun v N => v = none ∧ N = (zui (zui (zui (zui (zui (zui (zui (zui (zui M 15 res.1) 16 res.2.1) 17 res.2.2.1) 18 res.2.2.2.1) 19 res.2.2.2.2.1) 20 res.2.2.2.2.2.1) 21 res.2.2.2.2.2.2.1) 22 res.2.2.2.2.2.2.2.1) 23 res.2.2.2.2.2.2.2.2)) :=
  zK_of (by decide) (Nat.le_of_ble_eq_true rfl) (TX1_copyFrom_15_119 Γ M r0 r0_0 r0_1 r0_2 r0_3 r0_4 r0_5 r0_6 r0_7 r1 r1_0 r1_1 r1_2 r1_3 r1_4 r1_5 r1_6 r1_7 e_i15 e_i16 e_i17 e_i18 e_i19 e_i20 e_i21 e_i22 e_i23 e_i119 e_i120 e_i121 e_i122 e_i123 e_i124 e_i125 e_i126 e_i127 hy ⟨rfl, rfl⟩)


set_option maxRecDepth 20000 in
theorem TX1_copyFrom_15_109 (Γ : zG) {Q : Option Value → zM → Prop} (M : zM) (r0 : Nat → Int32) (r0_0 : Nat → Int32) (r0_1 : Nat → Int32) (r0_2 : Nat → Int32) (r0_3 : Nat → Int32) (r0_4 : Nat → Int32) (r0_5 : Nat → Int32) (r0_6 : Nat → Int32) (r0_7 : Nat → Int32) (r1 : Nat → Int32) (r1_0 : Nat → Int32) (r1_1 : Nat → Int32) (r1_2 : Nat → Int32) (r1_3 : Nat → Int32) (r1_4 : Nat → Int32) (r1_5 : Nat → Int32) (r1_6 : Nat → Int32) (r1_7 : Nat → Int32) (e_i15 : M.1 15 = r0) (e_i16 : M.1 16 = r0_0) (e_i17 : M.1 17 = r0_1) (e_i18 : M.1 18 = r0_2) (e_i19 : M.1 19 = r0_3) (e_i20 : M.1 20 = r0_4) (e_i21 : M.1 21 = r0_5) (e_i22 : M.1 22 = r0_6) (e_i23 : M.1 23 = r0_7) (e_i109 : M.1 109 = r1) (e_i110 : M.1 110 = r1_0) (e_i111 : M.1 111 = r1_1) (e_i112 : M.1 112 = r1_2) (e_i113 : M.1 113 = r1_3) (e_i114 : M.1 114 = r1_4) (e_i115 : M.1 115 = r1_5) (e_i116 : M.1 116 = r1_6) (e_i117 : M.1 117 = r1_7)  {res : (Nat → Int32) × (Nat → Int32) × (Nat → Int32) × (Nat → Int32) × (Nat → Int32) × (Nat → Int32) × (Nat → Int32) × (Nat → Int32) × (Nat → Int32)} (hy : (fDy_copyFrom r0 r0_0 r0_1 r0_2 r0_3 r0_4 r0_5 r0_6 r0_7 r1 r1_0 r1_1 r1_2 r1_3 r1_4 r1_5 r1_6 r1_7) = some res) (hq : Q none (zui (zui (zui (zui (zui (zui (zui (zui (zui M 15 res.1) 16 res.2.1) 17 res.2.2.1) 18 res.2.2.2.1) 19 res.2.2.2.2.1) 20 res.2.2.2.2.2.1) 21 res.2.2.2.2.2.2.1) 22 res.2.2.2.2.2.2.2.1) 23 res.2.2.2.2.2.2.2.2)) : zR Γ 2 YX1_copyFrom 0 [(0, .ref (zad Γ 15)), (1, .ref (zad Γ 109))] [] M Q := by
  unfold fDy_copyFrom at hy
  refine zj_aload_n (pc' := 1) 1 dX1_copyFrom_0 rfl rfl rfl ?_
  refine zj_getR (pc' := 4) (j := 110) dX1_copyFrom_1 rfl flX1_9 sh109 rfl ?_
  refine zj_iconst (pc' := 5) dX1_copyFrom_4 rfl kiconst_0 ?_
  refine zj_aload_n (pc' := 6) 0 dX1_copyFrom_5 rfl rfl rfl ?_
  refine zj_getR (pc' := 9) (j := 16) dX1_copyFrom_6 rfl flX1_9 sh15 rfl ?_
  refine zj_iconst (pc' := 10) dX1_copyFrom_9 rfl kiconst_0 ?_
  refine zj_bipush (pc' := 12) dX1_copyFrom_10 rfl kbipush_36 ?_
  obtain ⟨r0_0v1, er0_0v1⟩ : ∃ z, z = (va_cpy r1_0 r0_0 0 0 36) := ⟨_, rfl⟩
  have hy := zlet_at er0_0v1 hy
  refine zj_cpI (pc' := 15) (N := (zui M 16 r0_0v1)) dX1_copyFrom_12 rfl mlX1_52 zcpw sh110 sh16 tn0 tn0 tn36 (by decide) (by decide) (Nat.le_of_ble_eq_true rfl) (Nat.le_of_ble_eq_true rfl) e_i110 e_i16 er0_0v1 rfl (Nat.le_of_ble_eq_true rfl) (Nat.le_of_ble_eq_true rfl) ?_
  refine zj_aload_n (pc' := 16) 1 dX1_copyFrom_15 rfl rfl rfl ?_
  refine zj_getR (pc' := 19) (j := 111) dX1_copyFrom_16 rfl flX1_15 sh109 rfl ?_
  refine zj_iconst (pc' := 20) dX1_copyFrom_19 rfl kiconst_0 ?_
  refine zj_aload_n (pc' := 21) 0 dX1_copyFrom_20 rfl rfl rfl ?_
  refine zj_getR (pc' := 24) (j := 17) dX1_copyFrom_21 rfl flX1_15 sh15 rfl ?_
  refine zj_iconst (pc' := 25) dX1_copyFrom_24 rfl kiconst_0 ?_
  refine zj_bipush (pc' := 27) dX1_copyFrom_25 rfl kbipush_6 ?_
  obtain ⟨r0_1v2, er0_1v2⟩ : ∃ z, z = (va_cpy r1_1 r0_1 0 0 6) := ⟨_, rfl⟩
  have hy := zlet_at er0_1v2 hy
  refine zj_cpI (pc' := 30) (N := (zui (zui M 16 r0_0v1) 17 r0_1v2)) dX1_copyFrom_27 rfl mlX1_52 zcpw sh111 sh17 tn0 tn0 tn6 (by decide) (by decide) (Nat.le_of_ble_eq_true rfl) (Nat.le_of_ble_eq_true rfl) (zr_n rfl e_i111) (zr_n rfl e_i17) er0_1v2 rfl (Nat.le_of_ble_eq_true rfl) (Nat.le_of_ble_eq_true rfl) ?_
  refine zj_aload_n (pc' := 31) 1 dX1_copyFrom_30 rfl rfl rfl ?_
  refine zj_getR (pc' := 34) (j := 112) dX1_copyFrom_31 rfl flX1_18 sh109 rfl ?_
  refine zj_iconst (pc' := 35) dX1_copyFrom_34 rfl kiconst_0 ?_
  refine zj_aload_n (pc' := 36) 0 dX1_copyFrom_35 rfl rfl rfl ?_
  refine zj_getR (pc' := 39) (j := 18) dX1_copyFrom_36 rfl flX1_18 sh15 rfl ?_
  refine zj_iconst (pc' := 40) dX1_copyFrom_39 rfl kiconst_0 ?_
  refine zj_bipush (pc' := 42) dX1_copyFrom_40 rfl kbipush_6 ?_
  obtain ⟨r0_2v3, er0_2v3⟩ : ∃ z, z = (va_cpy r1_2 r0_2 0 0 6) := ⟨_, rfl⟩
  have hy := zlet_at er0_2v3 hy
  refine zj_cpI (pc' := 45) (N := (zui (zui (zui M 16 r0_0v1) 17 r0_1v2) 18 r0_2v3)) dX1_copyFrom_42 rfl mlX1_52 zcpw sh112 sh18 tn0 tn0 tn6 (by decide) (by decide) (Nat.le_of_ble_eq_true rfl) (Nat.le_of_ble_eq_true rfl) (zr_n rfl (zr_n rfl e_i112)) (zr_n rfl (zr_n rfl e_i18)) er0_2v3 rfl (Nat.le_of_ble_eq_true rfl) (Nat.le_of_ble_eq_true rfl) ?_
  refine zj_aload_n (pc' := 46) 1 dX1_copyFrom_45 rfl rfl rfl ?_
  refine zj_getR (pc' := 49) (j := 113) dX1_copyFrom_46 rfl flX1_21 sh109 rfl ?_
  refine zj_iconst (pc' := 50) dX1_copyFrom_49 rfl kiconst_0 ?_
  refine zj_aload_n (pc' := 51) 0 dX1_copyFrom_50 rfl rfl rfl ?_
  refine zj_getR (pc' := 54) (j := 19) dX1_copyFrom_51 rfl flX1_21 sh15 rfl ?_
  refine zj_iconst (pc' := 55) dX1_copyFrom_54 rfl kiconst_0 ?_
  refine zj_bipush (pc' := 57) dX1_copyFrom_55 rfl kbipush_6 ?_
  obtain ⟨r0_3v4, er0_3v4⟩ : ∃ z, z = (va_cpy r1_3 r0_3 0 0 6) := ⟨_, rfl⟩
  have hy := zlet_at er0_3v4 hy
  refine zj_cpI (pc' := 60) (N := (zui (zui (zui (zui M 16 r0_0v1) 17 r0_1v2) 18 r0_2v3) 19 r0_3v4)) dX1_copyFrom_57 rfl mlX1_52 zcpw sh113 sh19 tn0 tn0 tn6 (by decide) (by decide) (Nat.le_of_ble_eq_true rfl) (Nat.le_of_ble_eq_true rfl) (zr_n rfl (zr_n rfl (zr_n rfl e_i113))) (zr_n rfl (zr_n rfl (zr_n rfl e_i19))) er0_3v4 rfl (Nat.le_of_ble_eq_true rfl) (Nat.le_of_ble_eq_true rfl) ?_
  refine zj_aload_n (pc' := 61) 1 dX1_copyFrom_60 rfl rfl rfl ?_
  refine zj_getR (pc' := 64) (j := 114) dX1_copyFrom_61 rfl flX1_24 sh109 rfl ?_
  refine zj_iconst (pc' := 65) dX1_copyFrom_64 rfl kiconst_0 ?_
  refine zj_aload_n (pc' := 66) 0 dX1_copyFrom_65 rfl rfl rfl ?_
  refine zj_getR (pc' := 69) (j := 20) dX1_copyFrom_66 rfl flX1_24 sh15 rfl ?_
  refine zj_iconst (pc' := 70) dX1_copyFrom_69 rfl kiconst_0 ?_
  refine zj_bipush (pc' := 72) dX1_copyFrom_70 rfl kbipush_48 ?_
  obtain ⟨r0_4v5, er0_4v5⟩ : ∃ z, z = (va_cpy r1_4 r0_4 0 0 48) := ⟨_, rfl⟩
  have hy := zlet_at er0_4v5 hy
  refine zj_cpI (pc' := 75) (N := (zui (zui (zui (zui (zui M 16 r0_0v1) 17 r0_1v2) 18 r0_2v3) 19 r0_3v4) 20 r0_4v5)) dX1_copyFrom_72 rfl mlX1_52 zcpw sh114 sh20 tn0 tn0 tn48 (by decide) (by decide) (Nat.le_of_ble_eq_true rfl) (Nat.le_of_ble_eq_true rfl) (zr_n rfl (zr_n rfl (zr_n rfl (zr_n rfl e_i114)))) (zr_n rfl (zr_n rfl (zr_n rfl (zr_n rfl e_i20)))) er0_4v5 rfl (Nat.le_of_ble_eq_true rfl) (Nat.le_of_ble_eq_true rfl) ?_
  refine zj_aload_n (pc' := 76) 1 dX1_copyFrom_75 rfl rfl rfl ?_
  refine zj_getR (pc' := 79) (j := 115) dX1_copyFrom_76 rfl flX1_27 sh109 rfl ?_
  refine zj_iconst (pc' := 80) dX1_copyFrom_79 rfl kiconst_0 ?_
  refine zj_aload_n (pc' := 81) 0 dX1_copyFrom_80 rfl rfl rfl ?_
  refine zj_getR (pc' := 84) (j := 21) dX1_copyFrom_81 rfl flX1_27 sh15 rfl ?_
  refine zj_iconst (pc' := 85) dX1_copyFrom_84 rfl kiconst_0 ?_
  refine zj_bipush (pc' := 87) dX1_copyFrom_85 rfl kbipush_6 ?_
  obtain ⟨r0_5v6, er0_5v6⟩ : ∃ z, z = (va_cpy r1_5 r0_5 0 0 6) := ⟨_, rfl⟩
  have hy := zlet_at er0_5v6 hy
  refine zj_cpI (pc' := 90) (N := (zui (zui (zui (zui (zui (zui M 16 r0_0v1) 17 r0_1v2) 18 r0_2v3) 19 r0_3v4) 20 r0_4v5) 21 r0_5v6)) dX1_copyFrom_87 rfl mlX1_52 zcpw sh115 sh21 tn0 tn0 tn6 (by decide) (by decide) (Nat.le_of_ble_eq_true rfl) (Nat.le_of_ble_eq_true rfl) (zr_n rfl (zr_n rfl (zr_n rfl (zr_n rfl (zr_n rfl e_i115))))) (zr_n rfl (zr_n rfl (zr_n rfl (zr_n rfl (zr_n rfl e_i21))))) er0_5v6 rfl (Nat.le_of_ble_eq_true rfl) (Nat.le_of_ble_eq_true rfl) ?_
  refine zj_aload_n (pc' := 91) 1 dX1_copyFrom_90 rfl rfl rfl ?_
  refine zj_getR (pc' := 94) (j := 116) dX1_copyFrom_91 rfl flX1_30 sh109 rfl ?_
  refine zj_iconst (pc' := 95) dX1_copyFrom_94 rfl kiconst_0 ?_
  refine zj_aload_n (pc' := 96) 0 dX1_copyFrom_95 rfl rfl rfl ?_
  refine zj_getR (pc' := 99) (j := 22) dX1_copyFrom_96 rfl flX1_30 sh15 rfl ?_
  refine zj_iconst (pc' := 100) dX1_copyFrom_99 rfl kiconst_0 ?_
  refine zj_bipush (pc' := 102) dX1_copyFrom_100 rfl kbipush_8 ?_
  obtain ⟨r0_6v7, er0_6v7⟩ : ∃ z, z = (va_cpy r1_6 r0_6 0 0 8) := ⟨_, rfl⟩
  have hy := zlet_at er0_6v7 hy
  refine zj_cpI (pc' := 105) (N := (zui (zui (zui (zui (zui (zui (zui M 16 r0_0v1) 17 r0_1v2) 18 r0_2v3) 19 r0_3v4) 20 r0_4v5) 21 r0_5v6) 22 r0_6v7)) dX1_copyFrom_102 rfl mlX1_52 zcpw sh116 sh22 tn0 tn0 tn8 (by decide) (by decide) (Nat.le_of_ble_eq_true rfl) (Nat.le_of_ble_eq_true rfl) (zr_n rfl (zr_n rfl (zr_n rfl (zr_n rfl (zr_n rfl (zr_n rfl e_i116)))))) (zr_n rfl (zr_n rfl (zr_n rfl (zr_n rfl (zr_n rfl (zr_n rfl e_i22)))))) er0_6v7 rfl (Nat.le_of_ble_eq_true rfl) (Nat.le_of_ble_eq_true rfl) ?_
  refine zj_aload_n (pc' := 106) 1 dX1_copyFrom_105 rfl rfl rfl ?_
  refine zj_getR (pc' := 109) (j := 117) dX1_copyFrom_106 rfl flX1_33 sh109 rfl ?_
  refine zj_iconst (pc' := 110) dX1_copyFrom_109 rfl kiconst_0 ?_
  refine zj_aload_n (pc' := 111) 0 dX1_copyFrom_110 rfl rfl rfl ?_
  refine zj_getR (pc' := 114) (j := 23) dX1_copyFrom_111 rfl flX1_33 sh15 rfl ?_
  refine zj_iconst (pc' := 115) dX1_copyFrom_114 rfl kiconst_0 ?_
  refine zj_bipush (pc' := 117) dX1_copyFrom_115 rfl kbipush_8 ?_
  obtain ⟨r0_7v8, er0_7v8⟩ : ∃ z, z = (va_cpy r1_7 r0_7 0 0 8) := ⟨_, rfl⟩
  have hy := zlet_at er0_7v8 hy
  refine zj_cpI (pc' := 120) (N := (zui (zui (zui (zui (zui (zui (zui (zui M 16 r0_0v1) 17 r0_1v2) 18 r0_2v3) 19 r0_3v4) 20 r0_4v5) 21 r0_5v6) 22 r0_6v7) 23 r0_7v8)) dX1_copyFrom_117 rfl mlX1_52 zcpw sh117 sh23 tn0 tn0 tn8 (by decide) (by decide) (Nat.le_of_ble_eq_true rfl) (Nat.le_of_ble_eq_true rfl) (zr_n rfl (zr_n rfl (zr_n rfl (zr_n rfl (zr_n rfl (zr_n rfl (zr_n rfl e_i117))))))) (zr_n rfl (zr_n rfl (zr_n rfl (zr_n rfl (zr_n rfl (zr_n rfl (zr_n rfl e_i23))))))) er0_7v8 rfl (Nat.le_of_ble_eq_true rfl) (Nat.le_of_ble_eq_true rfl) ?_
  refine zj_aload_n (pc' := 121) 0 dX1_copyFrom_120 rfl rfl rfl ?_
  refine zj_aload_n (pc' := 122) 1 dX1_copyFrom_121 rfl rfl rfl ?_
  refine zj_fI (pc' := 125) dX1_copyFrom_122 rfl flX1_45 sh109 rfl (zr_n rfl (zr_n rfl (zr_n rfl (zr_n rfl (zr_n rfl (zr_n rfl (zr_n rfl (zr_n rfl e_i109)))))))) rfl ?_
  obtain ⟨r0v9, er0v9⟩ : ∃ z, z = (zup r0 9 (r1 9)) := ⟨_, rfl⟩
  have hy := zlet_at er0v9 hy
  refine zj_pI (pc' := 128) (N := (zui (zui (zui (zui (zui (zui (zui (zui (zui M 15 r0v9) 16 r0_0v1) 17 r0_1v2) 18 r0_2v3) 19 r0_3v4) 20 r0_4v5) 21 r0_5v6) 22 r0_6v7) 23 r0_7v8)) dX1_copyFrom_125 rfl fpX1_45 sh15 rfl (zr_n rfl (zr_n rfl (zr_n rfl (zr_n rfl (zr_n rfl (zr_n rfl (zr_n rfl (zr_n rfl e_i15)))))))) er0v9 (zm_n rfl (zm_n rfl (zm_n rfl (zm_n rfl (zm_n rfl (zm_n rfl (zm_n rfl (zm_n rfl rfl)))))))) ?_
  refine zj_aload_n (pc' := 129) 0 dX1_copyFrom_128 rfl rfl rfl ?_
  refine zj_aload_n (pc' := 130) 1 dX1_copyFrom_129 rfl rfl rfl ?_
  refine zj_fI (pc' := 133) dX1_copyFrom_130 rfl flX1_49 sh109 rfl (zr_n rfl (zr_n rfl (zr_n rfl (zr_n rfl (zr_n rfl (zr_n rfl (zr_n rfl (zr_n rfl (zr_n rfl e_i109))))))))) rfl ?_
  obtain ⟨r0v10, er0v10⟩ : ∃ z, z = (zup r0v9 10 (r1 10)) := ⟨_, rfl⟩
  have hy := zlet_at er0v10 hy
  refine zj_pI (pc' := 136) (N := (zui (zui (zui (zui (zui (zui (zui (zui (zui M 15 r0v10) 16 r0_0v1) 17 r0_1v2) 18 r0_2v3) 19 r0_3v4) 20 r0_4v5) 21 r0_5v6) 22 r0_6v7) 23 r0_7v8)) dX1_copyFrom_133 rfl fpX1_49 sh15 rfl (zr_n rfl (zr_n rfl (zr_n rfl (zr_n rfl (zr_n rfl (zr_n rfl (zr_n rfl (zr_n rfl zr_s)))))))) er0v10 (zm_n rfl (zm_n rfl (zm_n rfl (zm_n rfl (zm_n rfl (zm_n rfl (zm_n rfl (zm_n rfl zm_s)))))))) ?_
  have e9 := Option.some.inj hy
  subst e9
  exact zj_vret dX1_copyFrom_136 rfl hq
set_option maxRecDepth 20000 in
theorem LX1_copyFrom_15_109 (Γ : zG) (M : zM) (r0 : Nat → Int32) (r0_0 : Nat → Int32) (r0_1 : Nat → Int32) (r0_2 : Nat → Int32) (r0_3 : Nat → Int32) (r0_4 : Nat → Int32) (r0_5 : Nat → Int32) (r0_6 : Nat → Int32) (r0_7 : Nat → Int32) (r1 : Nat → Int32) (r1_0 : Nat → Int32) (r1_1 : Nat → Int32) (r1_2 : Nat → Int32) (r1_3 : Nat → Int32) (r1_4 : Nat → Int32) (r1_5 : Nat → Int32) (r1_6 : Nat → Int32) (r1_7 : Nat → Int32) (e_i15 : M.1 15 = r0) (e_i16 : M.1 16 = r0_0) (e_i17 : M.1 17 = r0_1) (e_i18 : M.1 18 = r0_2) (e_i19 : M.1 19 = r0_3) (e_i20 : M.1 20 = r0_4) (e_i21 : M.1 21 = r0_5) (e_i22 : M.1 22 = r0_6) (e_i23 : M.1 23 = r0_7) (e_i109 : M.1 109 = r1) (e_i110 : M.1 110 = r1_0) (e_i111 : M.1 111 = r1_1) (e_i112 : M.1 112 = r1_2) (e_i113 : M.1 113 = r1_3) (e_i114 : M.1 114 = r1_4) (e_i115 : M.1 115 = r1_5) (e_i116 : M.1 116 = r1_6) (e_i117 : M.1 117 = r1_7)  {res : (Nat → Int32) × (Nat → Int32) × (Nat → Int32) × (Nat → Int32) × (Nat → Int32) × (Nat → Int32) × (Nat → Int32) × (Nat → Int32) × (Nat → Int32)} (hy : (fDy_copyFrom r0 r0_0 r0_1 r0_2 r0_3 r0_4 r0_5 r0_6 r0_7 r1 r1_0 r1_1 r1_2 r1_3 r1_4 r1_5 r1_6 r1_7) = some res) : zK Γ 2 YX1_copyFrom [.ref (zad Γ 15), .ref (zad Γ 109)] M (fun v N => v = none ∧ N = (zui (zui (zui (zui (zui (zui (zui (zui (zui M 15 res.1) 16 res.2.1) 17 res.2.2.1) 18 res.2.2.2.1) 19 res.2.2.2.2.1) 20 res.2.2.2.2.2.1) 21 res.2.2.2.2.2.2.1) 22 res.2.2.2.2.2.2.2.1) 23 res.2.2.2.2.2.2.2.2)) :=
  zK_of (by decide) (Nat.le_of_ble_eq_true rfl) (TX1_copyFrom_15_109 Γ M r0 r0_0 r0_1 r0_2 r0_3 r0_4 r0_5 r0_6 r0_7 r1 r1_0 r1_1 r1_2 r1_3 r1_4 r1_5 r1_6 r1_7 e_i15 e_i16 e_i17 e_i18 e_i19 e_i20 e_i21 e_i22 e_i23 e_i109 e_i110 e_i111 e_i112 e_i113 e_i114 e_i115 e_i116 e_i117 hy ⟨rfl, rfl⟩)


set_option maxRecDepth 20000 in
theorem TX1_copyFrom_15_99 (Γ : zG) {Q : Option Value → zM → Prop} (M : zM) (r0 : Nat → Int32) (r0_0 : Nat → Int32) (r0_1 : Nat → Int32) (r0_2 : Nat → Int32) (r0_3 : Nat → Int32) (r0_4 : Nat → Int32) (r0_5 : Nat → Int32) (r0_6 : Nat → Int32) (r0_7 : Nat → Int32) (r1 : Nat → Int32) (r1_0 : Nat → Int32) (r1_1 : Nat → Int32) (r1_2 : Nat → Int32) (r1_3 : Nat → Int32) (r1_4 : Nat → Int32) (r1_5 : Nat → Int32) (r1_6 : Nat → Int32) (r1_7 : Nat → Int32) (e_i15 : M.1 15 = r0) (e_i16 : M.1 16 = r0_0) (e_i17 : M.1 17 = r0_1) (e_i18 : M.1 18 = r0_2) (e_i19 : M.1 19 = r0_3) (e_i20 : M.1 20 = r0_4) (e_i21 : M.1 21 = r0_5) (e_i22 : M.1 22 = r0_6) (e_i23 : M.1 23 = r0_7) (e_i99 : M.1 99 = r1) (e_i100 : M.1 100 = r1_0) (e_i101 : M.1 101 = r1_1) (e_i102 : M.1 102 = r1_2) (e_i103 : M.1 103 = r1_3) (e_i104 : M.1 104 = r1_4) (e_i105 : M.1 105 = r1_5) (e_i106 : M.1 106 = r1_6) (e_i107 : M.1 107 = r1_7)  {res : (Nat → Int32) × (Nat → Int32) × (Nat → Int32) × (Nat → Int32) × (Nat → Int32) × (Nat → Int32) × (Nat → Int32) × (Nat → Int32) × (Nat → Int32)} (hy : (fDy_copyFrom r0 r0_0 r0_1 r0_2 r0_3 r0_4 r0_5 r0_6 r0_7 r1 r1_0 r1_1 r1_2 r1_3 r1_4 r1_5 r1_6 r1_7) = some res) (hq : Q none (zui (zui (zui (zui (zui (zui (zui (zui (zui M 15 res.1) 16 res.2.1) 17 res.2.2.1) 18 res.2.2.2.1) 19 res.2.2.2.2.1) 20 res.2.2.2.2.2.1) 21 res.2.2.2.2.2.2.1) 22 res.2.2.2.2.2.2.2.1) 23 res.2.2.2.2.2.2.2.2)) : zR Γ 2 YX1_copyFrom 0 [(0, .ref (zad Γ 15)), (1, .ref (zad Γ 99))] [] M Q := by
  unfold fDy_copyFrom at hy
  refine zj_aload_n (pc' := 1) 1 dX1_copyFrom_0 rfl rfl rfl ?_
  refine zj_getR (pc' := 4) (j := 100) dX1_copyFrom_1 rfl flX1_9 sh99 rfl ?_
  refine zj_iconst (pc' := 5) dX1_copyFrom_4 rfl kiconst_0 ?_
  refine zj_aload_n (pc' := 6) 0 dX1_copyFrom_5 rfl rfl rfl ?_
  refine zj_getR (pc' := 9) (j := 16) dX1_copyFrom_6 rfl flX1_9 sh15 rfl ?_
  refine zj_iconst (pc' := 10) dX1_copyFrom_9 rfl kiconst_0 ?_
  refine zj_bipush (pc' := 12) dX1_copyFrom_10 rfl kbipush_36 ?_
  obtain ⟨r0_0v1, er0_0v1⟩ : ∃ z, z = (va_cpy r1_0 r0_0 0 0 36) := ⟨_, rfl⟩
  have hy := zlet_at er0_0v1 hy
  refine zj_cpI (pc' := 15) (N := (zui M 16 r0_0v1)) dX1_copyFrom_12 rfl mlX1_52 zcpw sh100 sh16 tn0 tn0 tn36 (by decide) (by decide) (Nat.le_of_ble_eq_true rfl) (Nat.le_of_ble_eq_true rfl) e_i100 e_i16 er0_0v1 rfl (Nat.le_of_ble_eq_true rfl) (Nat.le_of_ble_eq_true rfl) ?_
  refine zj_aload_n (pc' := 16) 1 dX1_copyFrom_15 rfl rfl rfl ?_
  refine zj_getR (pc' := 19) (j := 101) dX1_copyFrom_16 rfl flX1_15 sh99 rfl ?_
  refine zj_iconst (pc' := 20) dX1_copyFrom_19 rfl kiconst_0 ?_
  refine zj_aload_n (pc' := 21) 0 dX1_copyFrom_20 rfl rfl rfl ?_
  refine zj_getR (pc' := 24) (j := 17) dX1_copyFrom_21 rfl flX1_15 sh15 rfl ?_
  refine zj_iconst (pc' := 25) dX1_copyFrom_24 rfl kiconst_0 ?_
  refine zj_bipush (pc' := 27) dX1_copyFrom_25 rfl kbipush_6 ?_
  obtain ⟨r0_1v2, er0_1v2⟩ : ∃ z, z = (va_cpy r1_1 r0_1 0 0 6) := ⟨_, rfl⟩
  have hy := zlet_at er0_1v2 hy
  refine zj_cpI (pc' := 30) (N := (zui (zui M 16 r0_0v1) 17 r0_1v2)) dX1_copyFrom_27 rfl mlX1_52 zcpw sh101 sh17 tn0 tn0 tn6 (by decide) (by decide) (Nat.le_of_ble_eq_true rfl) (Nat.le_of_ble_eq_true rfl) (zr_n rfl e_i101) (zr_n rfl e_i17) er0_1v2 rfl (Nat.le_of_ble_eq_true rfl) (Nat.le_of_ble_eq_true rfl) ?_
  refine zj_aload_n (pc' := 31) 1 dX1_copyFrom_30 rfl rfl rfl ?_
  refine zj_getR (pc' := 34) (j := 102) dX1_copyFrom_31 rfl flX1_18 sh99 rfl ?_
  refine zj_iconst (pc' := 35) dX1_copyFrom_34 rfl kiconst_0 ?_
  refine zj_aload_n (pc' := 36) 0 dX1_copyFrom_35 rfl rfl rfl ?_
  refine zj_getR (pc' := 39) (j := 18) dX1_copyFrom_36 rfl flX1_18 sh15 rfl ?_
  refine zj_iconst (pc' := 40) dX1_copyFrom_39 rfl kiconst_0 ?_
  refine zj_bipush (pc' := 42) dX1_copyFrom_40 rfl kbipush_6 ?_
  obtain ⟨r0_2v3, er0_2v3⟩ : ∃ z, z = (va_cpy r1_2 r0_2 0 0 6) := ⟨_, rfl⟩
  have hy := zlet_at er0_2v3 hy
  refine zj_cpI (pc' := 45) (N := (zui (zui (zui M 16 r0_0v1) 17 r0_1v2) 18 r0_2v3)) dX1_copyFrom_42 rfl mlX1_52 zcpw sh102 sh18 tn0 tn0 tn6 (by decide) (by decide) (Nat.le_of_ble_eq_true rfl) (Nat.le_of_ble_eq_true rfl) (zr_n rfl (zr_n rfl e_i102)) (zr_n rfl (zr_n rfl e_i18)) er0_2v3 rfl (Nat.le_of_ble_eq_true rfl) (Nat.le_of_ble_eq_true rfl) ?_
  refine zj_aload_n (pc' := 46) 1 dX1_copyFrom_45 rfl rfl rfl ?_
  refine zj_getR (pc' := 49) (j := 103) dX1_copyFrom_46 rfl flX1_21 sh99 rfl ?_
  refine zj_iconst (pc' := 50) dX1_copyFrom_49 rfl kiconst_0 ?_
  refine zj_aload_n (pc' := 51) 0 dX1_copyFrom_50 rfl rfl rfl ?_
  refine zj_getR (pc' := 54) (j := 19) dX1_copyFrom_51 rfl flX1_21 sh15 rfl ?_
  refine zj_iconst (pc' := 55) dX1_copyFrom_54 rfl kiconst_0 ?_
  refine zj_bipush (pc' := 57) dX1_copyFrom_55 rfl kbipush_6 ?_
  obtain ⟨r0_3v4, er0_3v4⟩ : ∃ z, z = (va_cpy r1_3 r0_3 0 0 6) := ⟨_, rfl⟩
  have hy := zlet_at er0_3v4 hy
  refine zj_cpI (pc' := 60) (N := (zui (zui (zui (zui M 16 r0_0v1) 17 r0_1v2) 18 r0_2v3) 19 r0_3v4)) dX1_copyFrom_57 rfl mlX1_52 zcpw sh103 sh19 tn0 tn0 tn6 (by decide) (by decide) (Nat.le_of_ble_eq_true rfl) (Nat.le_of_ble_eq_true rfl) (zr_n rfl (zr_n rfl (zr_n rfl e_i103))) (zr_n rfl (zr_n rfl (zr_n rfl e_i19))) er0_3v4 rfl (Nat.le_of_ble_eq_true rfl) (Nat.le_of_ble_eq_true rfl) ?_
  refine zj_aload_n (pc' := 61) 1 dX1_copyFrom_60 rfl rfl rfl ?_
  refine zj_getR (pc' := 64) (j := 104) dX1_copyFrom_61 rfl flX1_24 sh99 rfl ?_
  refine zj_iconst (pc' := 65) dX1_copyFrom_64 rfl kiconst_0 ?_
  refine zj_aload_n (pc' := 66) 0 dX1_copyFrom_65 rfl rfl rfl ?_
  refine zj_getR (pc' := 69) (j := 20) dX1_copyFrom_66 rfl flX1_24 sh15 rfl ?_
  refine zj_iconst (pc' := 70) dX1_copyFrom_69 rfl kiconst_0 ?_
  refine zj_bipush (pc' := 72) dX1_copyFrom_70 rfl kbipush_48 ?_
  obtain ⟨r0_4v5, er0_4v5⟩ : ∃ z, z = (va_cpy r1_4 r0_4 0 0 48) := ⟨_, rfl⟩
  have hy := zlet_at er0_4v5 hy
  refine zj_cpI (pc' := 75) (N := (zui (zui (zui (zui (zui M 16 r0_0v1) 17 r0_1v2) 18 r0_2v3) 19 r0_3v4) 20 r0_4v5)) dX1_copyFrom_72 rfl mlX1_52 zcpw sh104 sh20 tn0 tn0 tn48 (by decide) (by decide) (Nat.le_of_ble_eq_true rfl) (Nat.le_of_ble_eq_true rfl) (zr_n rfl (zr_n rfl (zr_n rfl (zr_n rfl e_i104)))) (zr_n rfl (zr_n rfl (zr_n rfl (zr_n rfl e_i20)))) er0_4v5 rfl (Nat.le_of_ble_eq_true rfl) (Nat.le_of_ble_eq_true rfl) ?_
  refine zj_aload_n (pc' := 76) 1 dX1_copyFrom_75 rfl rfl rfl ?_
  refine zj_getR (pc' := 79) (j := 105) dX1_copyFrom_76 rfl flX1_27 sh99 rfl ?_
  refine zj_iconst (pc' := 80) dX1_copyFrom_79 rfl kiconst_0 ?_
  refine zj_aload_n (pc' := 81) 0 dX1_copyFrom_80 rfl rfl rfl ?_
  refine zj_getR (pc' := 84) (j := 21) dX1_copyFrom_81 rfl flX1_27 sh15 rfl ?_
  refine zj_iconst (pc' := 85) dX1_copyFrom_84 rfl kiconst_0 ?_
  refine zj_bipush (pc' := 87) dX1_copyFrom_85 rfl kbipush_6 ?_
  obtain ⟨r0_5v6, er0_5v6⟩ : ∃ z, z = (va_cpy r1_5 r0_5 0 0 6) := ⟨_, rfl⟩
  have hy := zlet_at er0_5v6 hy
  refine zj_cpI (pc' := 90) (N := (zui (zui (zui (zui (zui (zui M 16 r0_0v1) 17 r0_1v2) 18 r0_2v3) 19 r0_3v4) 20 r0_4v5) 21 r0_5v6)) dX1_copyFrom_87 rfl mlX1_52 zcpw sh105 sh21 tn0 tn0 tn6 (by decide) (by decide) (Nat.le_of_ble_eq_true rfl) (Nat.le_of_ble_eq_true rfl) (zr_n rfl (zr_n rfl (zr_n rfl (zr_n rfl (zr_n rfl e_i105))))) (zr_n rfl (zr_n rfl (zr_n rfl (zr_n rfl (zr_n rfl e_i21))))) er0_5v6 rfl (Nat.le_of_ble_eq_true rfl) (Nat.le_of_ble_eq_true rfl) ?_
  refine zj_aload_n (pc' := 91) 1 dX1_copyFrom_90 rfl rfl rfl ?_
  refine zj_getR (pc' := 94) (j := 106) dX1_copyFrom_91 rfl flX1_30 sh99 rfl ?_
  refine zj_iconst (pc' := 95) dX1_copyFrom_94 rfl kiconst_0 ?_
  refine zj_aload_n (pc' := 96) 0 dX1_copyFrom_95 rfl rfl rfl ?_
  refine zj_getR (pc' := 99) (j := 22) dX1_copyFrom_96 rfl flX1_30 sh15 rfl ?_
  refine zj_iconst (pc' := 100) dX1_copyFrom_99 rfl kiconst_0 ?_
  refine zj_bipush (pc' := 102) dX1_copyFrom_100 rfl kbipush_8 ?_
  obtain ⟨r0_6v7, er0_6v7⟩ : ∃ z, z = (va_cpy r1_6 r0_6 0 0 8) := ⟨_, rfl⟩
  have hy := zlet_at er0_6v7 hy
  refine zj_cpI (pc' := 105) (N := (zui (zui (zui (zui (zui (zui (zui M 16 r0_0v1) 17 r0_1v2) 18 r0_2v3) 19 r0_3v4) 20 r0_4v5) 21 r0_5v6) 22 r0_6v7)) dX1_copyFrom_102 rfl mlX1_52 zcpw sh106 sh22 tn0 tn0 tn8 (by decide) (by decide) (Nat.le_of_ble_eq_true rfl) (Nat.le_of_ble_eq_true rfl) (zr_n rfl (zr_n rfl (zr_n rfl (zr_n rfl (zr_n rfl (zr_n rfl e_i106)))))) (zr_n rfl (zr_n rfl (zr_n rfl (zr_n rfl (zr_n rfl (zr_n rfl e_i22)))))) er0_6v7 rfl (Nat.le_of_ble_eq_true rfl) (Nat.le_of_ble_eq_true rfl) ?_
  refine zj_aload_n (pc' := 106) 1 dX1_copyFrom_105 rfl rfl rfl ?_
  refine zj_getR (pc' := 109) (j := 107) dX1_copyFrom_106 rfl flX1_33 sh99 rfl ?_
  refine zj_iconst (pc' := 110) dX1_copyFrom_109 rfl kiconst_0 ?_
  refine zj_aload_n (pc' := 111) 0 dX1_copyFrom_110 rfl rfl rfl ?_
  refine zj_getR (pc' := 114) (j := 23) dX1_copyFrom_111 rfl flX1_33 sh15 rfl ?_
  refine zj_iconst (pc' := 115) dX1_copyFrom_114 rfl kiconst_0 ?_
  refine zj_bipush (pc' := 117) dX1_copyFrom_115 rfl kbipush_8 ?_
  obtain ⟨r0_7v8, er0_7v8⟩ : ∃ z, z = (va_cpy r1_7 r0_7 0 0 8) := ⟨_, rfl⟩
  have hy := zlet_at er0_7v8 hy
  refine zj_cpI (pc' := 120) (N := (zui (zui (zui (zui (zui (zui (zui (zui M 16 r0_0v1) 17 r0_1v2) 18 r0_2v3) 19 r0_3v4) 20 r0_4v5) 21 r0_5v6) 22 r0_6v7) 23 r0_7v8)) dX1_copyFrom_117 rfl mlX1_52 zcpw sh107 sh23 tn0 tn0 tn8 (by decide) (by decide) (Nat.le_of_ble_eq_true rfl) (Nat.le_of_ble_eq_true rfl) (zr_n rfl (zr_n rfl (zr_n rfl (zr_n rfl (zr_n rfl (zr_n rfl (zr_n rfl e_i107))))))) (zr_n rfl (zr_n rfl (zr_n rfl (zr_n rfl (zr_n rfl (zr_n rfl (zr_n rfl e_i23))))))) er0_7v8 rfl (Nat.le_of_ble_eq_true rfl) (Nat.le_of_ble_eq_true rfl) ?_
  refine zj_aload_n (pc' := 121) 0 dX1_copyFrom_120 rfl rfl rfl ?_
  refine zj_aload_n (pc' := 122) 1 dX1_copyFrom_121 rfl rfl rfl ?_
  refine zj_fI (pc' := 125) dX1_copyFrom_122 rfl flX1_45 sh99 rfl (zr_n rfl (zr_n rfl (zr_n rfl (zr_n rfl (zr_n rfl (zr_n rfl (zr_n rfl (zr_n rfl e_i99)))))))) rfl ?_
  obtain ⟨r0v9, er0v9⟩ : ∃ z, z = (zup r0 9 (r1 9)) := ⟨_, rfl⟩
  have hy := zlet_at er0v9 hy
  refine zj_pI (pc' := 128) (N := (zui (zui (zui (zui (zui (zui (zui (zui (zui M 15 r0v9) 16 r0_0v1) 17 r0_1v2) 18 r0_2v3) 19 r0_3v4) 20 r0_4v5) 21 r0_5v6) 22 r0_6v7) 23 r0_7v8)) dX1_copyFrom_125 rfl fpX1_45 sh15 rfl (zr_n rfl (zr_n rfl (zr_n rfl (zr_n rfl (zr_n rfl (zr_n rfl (zr_n rfl (zr_n rfl e_i15)))))))) er0v9 (zm_n rfl (zm_n rfl (zm_n rfl (zm_n rfl (zm_n rfl (zm_n rfl (zm_n rfl (zm_n rfl rfl)))))))) ?_
  refine zj_aload_n (pc' := 129) 0 dX1_copyFrom_128 rfl rfl rfl ?_
  refine zj_aload_n (pc' := 130) 1 dX1_copyFrom_129 rfl rfl rfl ?_
  refine zj_fI (pc' := 133) dX1_copyFrom_130 rfl flX1_49 sh99 rfl (zr_n rfl (zr_n rfl (zr_n rfl (zr_n rfl (zr_n rfl (zr_n rfl (zr_n rfl (zr_n rfl (zr_n rfl e_i99))))))))) rfl ?_
  obtain ⟨r0v10, er0v10⟩ : ∃ z, z = (zup r0v9 10 (r1 10)) := ⟨_, rfl⟩
  have hy := zlet_at er0v10 hy
  refine zj_pI (pc' := 136) (N := (zui (zui (zui (zui (zui (zui (zui (zui (zui M 15 r0v10) 16 r0_0v1) 17 r0_1v2) 18 r0_2v3) 19 r0_3v4) 20 r0_4v5) 21 r0_5v6) 22 r0_6v7) 23 r0_7v8)) dX1_copyFrom_133 rfl fpX1_49 sh15 rfl (zr_n rfl (zr_n rfl (zr_n rfl (zr_n rfl (zr_n rfl (zr_n rfl (zr_n rfl (zr_n rfl zr_s)))))))) er0v10 (zm_n rfl (zm_n rfl (zm_n rfl (zm_n rfl (zm_n rfl (zm_n rfl (zm_n rfl (zm_n rfl zm_s)))))))) ?_
  have e9 := Option.some.inj hy
  subst e9
  exact zj_vret dX1_copyFrom_136 rfl hq
set_option maxRecDepth 20000 in
theorem LX1_copyFrom_15_99 (Γ : zG) (M : zM) (r0 : Nat → Int32) (r0_0 : Nat → Int32) (r0_1 : Nat → Int32) (r0_2 : Nat → Int32) (r0_3 : Nat → Int32) (r0_4 : Nat → Int32) (r0_5 : Nat → Int32) (r0_6 : Nat → Int32) (r0_7 : Nat → Int32) (r1 : Nat → Int32) (r1_0 : Nat → Int32) (r1_1 : Nat → Int32) (r1_2 : Nat → Int32) (r1_3 : Nat → Int32) (r1_4 : Nat → Int32) (r1_5 : Nat → Int32) (r1_6 : Nat → Int32) (r1_7 : Nat → Int32) (e_i15 : M.1 15 = r0) (e_i16 : M.1 16 = r0_0) (e_i17 : M.1 17 = r0_1) (e_i18 : M.1 18 = r0_2) (e_i19 : M.1 19 = r0_3) (e_i20 : M.1 20 = r0_4) (e_i21 : M.1 21 = r0_5) (e_i22 : M.1 22 = r0_6) (e_i23 : M.1 23 = r0_7) (e_i99 : M.1 99 = r1) (e_i100 : M.1 100 = r1_0) (e_i101 : M.1 101 = r1_1) (e_i102 : M.1 102 = r1_2) (e_i103 : M.1 103 = r1_3) (e_i104 : M.1 104 = r1_4) (e_i105 : M.1 105 = r1_5) (e_i106 : M.1 106 = r1_6) (e_i107 : M.1 107 = r1_7)  {res : (Nat → Int32) × (Nat → Int32) × (Nat → Int32) × (Nat → Int32) × (Nat → Int32) × (Nat → Int32) × (Nat → Int32) × (Nat → Int32) × (Nat → Int32)} (hy : (fDy_copyFrom r0 r0_0 r0_1 r0_2 r0_3 r0_4 r0_5 r0_6 r0_7 r1 r1_0 r1_1 r1_2 r1_3 r1_4 r1_5 r1_6 r1_7) = some res) : zK Γ 2 YX1_copyFrom [.ref (zad Γ 15), .ref (zad Γ 99)] M (fun v N => v = none ∧ N = (zui (zui (zui (zui (zui (zui (zui (zui (zui M 15 res.1) 16 res.2.1) 17 res.2.2.1) 18 res.2.2.2.1) 19 res.2.2.2.2.1) 20 res.2.2.2.2.2.1) 21 res.2.2.2.2.2.2.1) 22 res.2.2.2.2.2.2.2.1) 23 res.2.2.2.2.2.2.2.2)) :=
  zK_of (by decide) (Nat.le_of_ble_eq_true rfl) (TX1_copyFrom_15_99 Γ M r0 r0_0 r0_1 r0_2 r0_3 r0_4 r0_5 r0_6 r0_7 r1 r1_0 r1_1 r1_2 r1_3 r1_4 r1_5 r1_6 r1_7 e_i15 e_i16 e_i17 e_i18 e_i19 e_i20 e_i21 e_i22 e_i23 e_i99 e_i100 e_i101 e_i102 e_i103 e_i104 e_i105 e_i106 e_i107 hy ⟨rfl, rfl⟩)


set_option maxRecDepth 20000 in
theorem TX1_copyFrom_15_89 (Γ : zG) {Q : Option Value → zM → Prop} (M : zM) (r0 : Nat → Int32) (r0_0 : Nat → Int32) (r0_1 : Nat → Int32) (r0_2 : Nat → Int32) (r0_3 : Nat → Int32) (r0_4 : Nat → Int32) (r0_5 : Nat → Int32) (r0_6 : Nat → Int32) (r0_7 : Nat → Int32) (r1 : Nat → Int32) (r1_0 : Nat → Int32) (r1_1 : Nat → Int32) (r1_2 : Nat → Int32) (r1_3 : Nat → Int32) (r1_4 : Nat → Int32) (r1_5 : Nat → Int32) (r1_6 : Nat → Int32) (r1_7 : Nat → Int32) (e_i15 : M.1 15 = r0) (e_i16 : M.1 16 = r0_0) (e_i17 : M.1 17 = r0_1) (e_i18 : M.1 18 = r0_2) (e_i19 : M.1 19 = r0_3) (e_i20 : M.1 20 = r0_4) (e_i21 : M.1 21 = r0_5) (e_i22 : M.1 22 = r0_6) (e_i23 : M.1 23 = r0_7) (e_i89 : M.1 89 = r1) (e_i90 : M.1 90 = r1_0) (e_i91 : M.1 91 = r1_1) (e_i92 : M.1 92 = r1_2) (e_i93 : M.1 93 = r1_3) (e_i94 : M.1 94 = r1_4) (e_i95 : M.1 95 = r1_5) (e_i96 : M.1 96 = r1_6) (e_i97 : M.1 97 = r1_7)  {res : (Nat → Int32) × (Nat → Int32) × (Nat → Int32) × (Nat → Int32) × (Nat → Int32) × (Nat → Int32) × (Nat → Int32) × (Nat → Int32) × (Nat → Int32)} (hy : (fDy_copyFrom r0 r0_0 r0_1 r0_2 r0_3 r0_4 r0_5 r0_6 r0_7 r1 r1_0 r1_1 r1_2 r1_3 r1_4 r1_5 r1_6 r1_7) = some res) (hq : Q none (zui (zui (zui (zui (zui (zui (zui (zui (zui M 15 res.1) 16 res.2.1) 17 res.2.2.1) 18 res.2.2.2.1) 19 res.2.2.2.2.1) 20 res.2.2.2.2.2.1) 21 res.2.2.2.2.2.2.1) 22 res.2.2.2.2.2.2.2.1) 23 res.2.2.2.2.2.2.2.2)) : zR Γ 2 YX1_copyFrom 0 [(0, .ref (zad Γ 15)), (1, .ref (zad Γ 89))] [] M Q := by
  unfold fDy_copyFrom at hy
  refine zj_aload_n (pc' := 1) 1 dX1_copyFrom_0 rfl rfl rfl ?_
  refine zj_getR (pc' := 4) (j := 90) dX1_copyFrom_1 rfl flX1_9 sh89 rfl ?_
  refine zj_iconst (pc' := 5) dX1_copyFrom_4 rfl kiconst_0 ?_
  refine zj_aload_n (pc' := 6) 0 dX1_copyFrom_5 rfl rfl rfl ?_
  refine zj_getR (pc' := 9) (j := 16) dX1_copyFrom_6 rfl flX1_9 sh15 rfl ?_
  refine zj_iconst (pc' := 10) dX1_copyFrom_9 rfl kiconst_0 ?_
  refine zj_bipush (pc' := 12) dX1_copyFrom_10 rfl kbipush_36 ?_
  obtain ⟨r0_0v1, er0_0v1⟩ : ∃ z, z = (va_cpy r1_0 r0_0 0 0 36) := ⟨_, rfl⟩
  have hy := zlet_at er0_0v1 hy
  refine zj_cpI (pc' := 15) (N := (zui M 16 r0_0v1)) dX1_copyFrom_12 rfl mlX1_52 zcpw sh90 sh16 tn0 tn0 tn36 (by decide) (by decide) (Nat.le_of_ble_eq_true rfl) (Nat.le_of_ble_eq_true rfl) e_i90 e_i16 er0_0v1 rfl (Nat.le_of_ble_eq_true rfl) (Nat.le_of_ble_eq_true rfl) ?_
  refine zj_aload_n (pc' := 16) 1 dX1_copyFrom_15 rfl rfl rfl ?_
  refine zj_getR (pc' := 19) (j := 91) dX1_copyFrom_16 rfl flX1_15 sh89 rfl ?_
  refine zj_iconst (pc' := 20) dX1_copyFrom_19 rfl kiconst_0 ?_
  refine zj_aload_n (pc' := 21) 0 dX1_copyFrom_20 rfl rfl rfl ?_
  refine zj_getR (pc' := 24) (j := 17) dX1_copyFrom_21 rfl flX1_15 sh15 rfl ?_
  refine zj_iconst (pc' := 25) dX1_copyFrom_24 rfl kiconst_0 ?_
  refine zj_bipush (pc' := 27) dX1_copyFrom_25 rfl kbipush_6 ?_
  obtain ⟨r0_1v2, er0_1v2⟩ : ∃ z, z = (va_cpy r1_1 r0_1 0 0 6) := ⟨_, rfl⟩
  have hy := zlet_at er0_1v2 hy
  refine zj_cpI (pc' := 30) (N := (zui (zui M 16 r0_0v1) 17 r0_1v2)) dX1_copyFrom_27 rfl mlX1_52 zcpw sh91 sh17 tn0 tn0 tn6 (by decide) (by decide) (Nat.le_of_ble_eq_true rfl) (Nat.le_of_ble_eq_true rfl) (zr_n rfl e_i91) (zr_n rfl e_i17) er0_1v2 rfl (Nat.le_of_ble_eq_true rfl) (Nat.le_of_ble_eq_true rfl) ?_
  refine zj_aload_n (pc' := 31) 1 dX1_copyFrom_30 rfl rfl rfl ?_
  refine zj_getR (pc' := 34) (j := 92) dX1_copyFrom_31 rfl flX1_18 sh89 rfl ?_
  refine zj_iconst (pc' := 35) dX1_copyFrom_34 rfl kiconst_0 ?_
  refine zj_aload_n (pc' := 36) 0 dX1_copyFrom_35 rfl rfl rfl ?_
  refine zj_getR (pc' := 39) (j := 18) dX1_copyFrom_36 rfl flX1_18 sh15 rfl ?_
  refine zj_iconst (pc' := 40) dX1_copyFrom_39 rfl kiconst_0 ?_
  refine zj_bipush (pc' := 42) dX1_copyFrom_40 rfl kbipush_6 ?_
  obtain ⟨r0_2v3, er0_2v3⟩ : ∃ z, z = (va_cpy r1_2 r0_2 0 0 6) := ⟨_, rfl⟩
  have hy := zlet_at er0_2v3 hy
  refine zj_cpI (pc' := 45) (N := (zui (zui (zui M 16 r0_0v1) 17 r0_1v2) 18 r0_2v3)) dX1_copyFrom_42 rfl mlX1_52 zcpw sh92 sh18 tn0 tn0 tn6 (by decide) (by decide) (Nat.le_of_ble_eq_true rfl) (Nat.le_of_ble_eq_true rfl) (zr_n rfl (zr_n rfl e_i92)) (zr_n rfl (zr_n rfl e_i18)) er0_2v3 rfl (Nat.le_of_ble_eq_true rfl) (Nat.le_of_ble_eq_true rfl) ?_
  refine zj_aload_n (pc' := 46) 1 dX1_copyFrom_45 rfl rfl rfl ?_
  refine zj_getR (pc' := 49) (j := 93) dX1_copyFrom_46 rfl flX1_21 sh89 rfl ?_
  refine zj_iconst (pc' := 50) dX1_copyFrom_49 rfl kiconst_0 ?_
  refine zj_aload_n (pc' := 51) 0 dX1_copyFrom_50 rfl rfl rfl ?_
  refine zj_getR (pc' := 54) (j := 19) dX1_copyFrom_51 rfl flX1_21 sh15 rfl ?_
  refine zj_iconst (pc' := 55) dX1_copyFrom_54 rfl kiconst_0 ?_
  refine zj_bipush (pc' := 57) dX1_copyFrom_55 rfl kbipush_6 ?_
  obtain ⟨r0_3v4, er0_3v4⟩ : ∃ z, z = (va_cpy r1_3 r0_3 0 0 6) := ⟨_, rfl⟩
  have hy := zlet_at er0_3v4 hy
  refine zj_cpI (pc' := 60) (N := (zui (zui (zui (zui M 16 r0_0v1) 17 r0_1v2) 18 r0_2v3) 19 r0_3v4)) dX1_copyFrom_57 rfl mlX1_52 zcpw sh93 sh19 tn0 tn0 tn6 (by decide) (by decide) (Nat.le_of_ble_eq_true rfl) (Nat.le_of_ble_eq_true rfl) (zr_n rfl (zr_n rfl (zr_n rfl e_i93))) (zr_n rfl (zr_n rfl (zr_n rfl e_i19))) er0_3v4 rfl (Nat.le_of_ble_eq_true rfl) (Nat.le_of_ble_eq_true rfl) ?_
  refine zj_aload_n (pc' := 61) 1 dX1_copyFrom_60 rfl rfl rfl ?_
  refine zj_getR (pc' := 64) (j := 94) dX1_copyFrom_61 rfl flX1_24 sh89 rfl ?_
  refine zj_iconst (pc' := 65) dX1_copyFrom_64 rfl kiconst_0 ?_
  refine zj_aload_n (pc' := 66) 0 dX1_copyFrom_65 rfl rfl rfl ?_
  refine zj_getR (pc' := 69) (j := 20) dX1_copyFrom_66 rfl flX1_24 sh15 rfl ?_
  refine zj_iconst (pc' := 70) dX1_copyFrom_69 rfl kiconst_0 ?_
  refine zj_bipush (pc' := 72) dX1_copyFrom_70 rfl kbipush_48 ?_
  obtain ⟨r0_4v5, er0_4v5⟩ : ∃ z, z = (va_cpy r1_4 r0_4 0 0 48) := ⟨_, rfl⟩
  have hy := zlet_at er0_4v5 hy
  refine zj_cpI (pc' := 75) (N := (zui (zui (zui (zui (zui M 16 r0_0v1) 17 r0_1v2) 18 r0_2v3) 19 r0_3v4) 20 r0_4v5)) dX1_copyFrom_72 rfl mlX1_52 zcpw sh94 sh20 tn0 tn0 tn48 (by decide) (by decide) (Nat.le_of_ble_eq_true rfl) (Nat.le_of_ble_eq_true rfl) (zr_n rfl (zr_n rfl (zr_n rfl (zr_n rfl e_i94)))) (zr_n rfl (zr_n rfl (zr_n rfl (zr_n rfl e_i20)))) er0_4v5 rfl (Nat.le_of_ble_eq_true rfl) (Nat.le_of_ble_eq_true rfl) ?_
  refine zj_aload_n (pc' := 76) 1 dX1_copyFrom_75 rfl rfl rfl ?_
  refine zj_getR (pc' := 79) (j := 95) dX1_copyFrom_76 rfl flX1_27 sh89 rfl ?_
  refine zj_iconst (pc' := 80) dX1_copyFrom_79 rfl kiconst_0 ?_
  refine zj_aload_n (pc' := 81) 0 dX1_copyFrom_80 rfl rfl rfl ?_
  refine zj_getR (pc' := 84) (j := 21) dX1_copyFrom_81 rfl flX1_27 sh15 rfl ?_
  refine zj_iconst (pc' := 85) dX1_copyFrom_84 rfl kiconst_0 ?_
  refine zj_bipush (pc' := 87) dX1_copyFrom_85 rfl kbipush_6 ?_
  obtain ⟨r0_5v6, er0_5v6⟩ : ∃ z, z = (va_cpy r1_5 r0_5 0 0 6) := ⟨_, rfl⟩
  have hy := zlet_at er0_5v6 hy
  refine zj_cpI (pc' := 90) (N := (zui (zui (zui (zui (zui (zui M 16 r0_0v1) 17 r0_1v2) 18 r0_2v3) 19 r0_3v4) 20 r0_4v5) 21 r0_5v6)) dX1_copyFrom_87 rfl mlX1_52 zcpw sh95 sh21 tn0 tn0 tn6 (by decide) (by decide) (Nat.le_of_ble_eq_true rfl) (Nat.le_of_ble_eq_true rfl) (zr_n rfl (zr_n rfl (zr_n rfl (zr_n rfl (zr_n rfl e_i95))))) (zr_n rfl (zr_n rfl (zr_n rfl (zr_n rfl (zr_n rfl e_i21))))) er0_5v6 rfl (Nat.le_of_ble_eq_true rfl) (Nat.le_of_ble_eq_true rfl) ?_
  refine zj_aload_n (pc' := 91) 1 dX1_copyFrom_90 rfl rfl rfl ?_
  refine zj_getR (pc' := 94) (j := 96) dX1_copyFrom_91 rfl flX1_30 sh89 rfl ?_
  refine zj_iconst (pc' := 95) dX1_copyFrom_94 rfl kiconst_0 ?_
  refine zj_aload_n (pc' := 96) 0 dX1_copyFrom_95 rfl rfl rfl ?_
  refine zj_getR (pc' := 99) (j := 22) dX1_copyFrom_96 rfl flX1_30 sh15 rfl ?_
  refine zj_iconst (pc' := 100) dX1_copyFrom_99 rfl kiconst_0 ?_
  refine zj_bipush (pc' := 102) dX1_copyFrom_100 rfl kbipush_8 ?_
  obtain ⟨r0_6v7, er0_6v7⟩ : ∃ z, z = (va_cpy r1_6 r0_6 0 0 8) := ⟨_, rfl⟩
  have hy := zlet_at er0_6v7 hy
  refine zj_cpI (pc' := 105) (N := (zui (zui (zui (zui (zui (zui (zui M 16 r0_0v1) 17 r0_1v2) 18 r0_2v3) 19 r0_3v4) 20 r0_4v5) 21 r0_5v6) 22 r0_6v7)) dX1_copyFrom_102 rfl mlX1_52 zcpw sh96 sh22 tn0 tn0 tn8 (by decide) (by decide) (Nat.le_of_ble_eq_true rfl) (Nat.le_of_ble_eq_true rfl) (zr_n rfl (zr_n rfl (zr_n rfl (zr_n rfl (zr_n rfl (zr_n rfl e_i96)))))) (zr_n rfl (zr_n rfl (zr_n rfl (zr_n rfl (zr_n rfl (zr_n rfl e_i22)))))) er0_6v7 rfl (Nat.le_of_ble_eq_true rfl) (Nat.le_of_ble_eq_true rfl) ?_
  refine zj_aload_n (pc' := 106) 1 dX1_copyFrom_105 rfl rfl rfl ?_
  refine zj_getR (pc' := 109) (j := 97) dX1_copyFrom_106 rfl flX1_33 sh89 rfl ?_
  refine zj_iconst (pc' := 110) dX1_copyFrom_109 rfl kiconst_0 ?_
  refine zj_aload_n (pc' := 111) 0 dX1_copyFrom_110 rfl rfl rfl ?_
  refine zj_getR (pc' := 114) (j := 23) dX1_copyFrom_111 rfl flX1_33 sh15 rfl ?_
  refine zj_iconst (pc' := 115) dX1_copyFrom_114 rfl kiconst_0 ?_
  refine zj_bipush (pc' := 117) dX1_copyFrom_115 rfl kbipush_8 ?_
  obtain ⟨r0_7v8, er0_7v8⟩ : ∃ z, z = (va_cpy r1_7 r0_7 0 0 8) := ⟨_, rfl⟩
  have hy := zlet_at er0_7v8 hy
  refine zj_cpI (pc' := 120) (N := (zui (zui (zui (zui (zui (zui (zui (zui M 16 r0_0v1) 17 r0_1v2) 18 r0_2v3) 19 r0_3v4) 20 r0_4v5) 21 r0_5v6) 22 r0_6v7) 23 r0_7v8)) dX1_copyFrom_117 rfl mlX1_52 zcpw sh97 sh23 tn0 tn0 tn8 (by decide) (by decide) (Nat.le_of_ble_eq_true rfl) (Nat.le_of_ble_eq_true rfl) (zr_n rfl (zr_n rfl (zr_n rfl (zr_n rfl (zr_n rfl (zr_n rfl (zr_n rfl e_i97))))))) (zr_n rfl (zr_n rfl (zr_n rfl (zr_n rfl (zr_n rfl (zr_n rfl (zr_n rfl e_i23))))))) er0_7v8 rfl (Nat.le_of_ble_eq_true rfl) (Nat.le_of_ble_eq_true rfl) ?_
  refine zj_aload_n (pc' := 121) 0 dX1_copyFrom_120 rfl rfl rfl ?_
  refine zj_aload_n (pc' := 122) 1 dX1_copyFrom_121 rfl rfl rfl ?_
  refine zj_fI (pc' := 125) dX1_copyFrom_122 rfl flX1_45 sh89 rfl (zr_n rfl (zr_n rfl (zr_n rfl (zr_n rfl (zr_n rfl (zr_n rfl (zr_n rfl (zr_n rfl e_i89)))))))) rfl ?_
  obtain ⟨r0v9, er0v9⟩ : ∃ z, z = (zup r0 9 (r1 9)) := ⟨_, rfl⟩
  have hy := zlet_at er0v9 hy
  refine zj_pI (pc' := 128) (N := (zui (zui (zui (zui (zui (zui (zui (zui (zui M 15 r0v9) 16 r0_0v1) 17 r0_1v2) 18 r0_2v3) 19 r0_3v4) 20 r0_4v5) 21 r0_5v6) 22 r0_6v7) 23 r0_7v8)) dX1_copyFrom_125 rfl fpX1_45 sh15 rfl (zr_n rfl (zr_n rfl (zr_n rfl (zr_n rfl (zr_n rfl (zr_n rfl (zr_n rfl (zr_n rfl e_i15)))))))) er0v9 (zm_n rfl (zm_n rfl (zm_n rfl (zm_n rfl (zm_n rfl (zm_n rfl (zm_n rfl (zm_n rfl rfl)))))))) ?_
  refine zj_aload_n (pc' := 129) 0 dX1_copyFrom_128 rfl rfl rfl ?_
  refine zj_aload_n (pc' := 130) 1 dX1_copyFrom_129 rfl rfl rfl ?_
  refine zj_fI (pc' := 133) dX1_copyFrom_130 rfl flX1_49 sh89 rfl (zr_n rfl (zr_n rfl (zr_n rfl (zr_n rfl (zr_n rfl (zr_n rfl (zr_n rfl (zr_n rfl (zr_n rfl e_i89))))))))) rfl ?_
  obtain ⟨r0v10, er0v10⟩ : ∃ z, z = (zup r0v9 10 (r1 10)) := ⟨_, rfl⟩
  have hy := zlet_at er0v10 hy
  refine zj_pI (pc' := 136) (N := (zui (zui (zui (zui (zui (zui (zui (zui (zui M 15 r0v10) 16 r0_0v1) 17 r0_1v2) 18 r0_2v3) 19 r0_3v4) 20 r0_4v5) 21 r0_5v6) 22 r0_6v7) 23 r0_7v8)) dX1_copyFrom_133 rfl fpX1_49 sh15 rfl (zr_n rfl (zr_n rfl (zr_n rfl (zr_n rfl (zr_n rfl (zr_n rfl (zr_n rfl (zr_n rfl zr_s)))))))) er0v10 (zm_n rfl (zm_n rfl (zm_n rfl (zm_n rfl (zm_n rfl (zm_n rfl (zm_n rfl (zm_n rfl zm_s)))))))) ?_
  have e9 := Option.some.inj hy
  subst e9
  exact zj_vret dX1_copyFrom_136 rfl hq
set_option maxRecDepth 20000 in
theorem LX1_copyFrom_15_89 (Γ : zG) (M : zM) (r0 : Nat → Int32) (r0_0 : Nat → Int32) (r0_1 : Nat → Int32) (r0_2 : Nat → Int32) (r0_3 : Nat → Int32) (r0_4 : Nat → Int32) (r0_5 : Nat → Int32) (r0_6 : Nat → Int32) (r0_7 : Nat → Int32) (r1 : Nat → Int32) (r1_0 : Nat → Int32) (r1_1 : Nat → Int32) (r1_2 : Nat → Int32) (r1_3 : Nat → Int32) (r1_4 : Nat → Int32) (r1_5 : Nat → Int32) (r1_6 : Nat → Int32) (r1_7 : Nat → Int32) (e_i15 : M.1 15 = r0) (e_i16 : M.1 16 = r0_0) (e_i17 : M.1 17 = r0_1) (e_i18 : M.1 18 = r0_2) (e_i19 : M.1 19 = r0_3) (e_i20 : M.1 20 = r0_4) (e_i21 : M.1 21 = r0_5) (e_i22 : M.1 22 = r0_6) (e_i23 : M.1 23 = r0_7) (e_i89 : M.1 89 = r1) (e_i90 : M.1 90 = r1_0) (e_i91 : M.1 91 = r1_1) (e_i92 : M.1 92 = r1_2) (e_i93 : M.1 93 = r1_3) (e_i94 : M.1 94 = r1_4) (e_i95 : M.1 95 = r1_5) (e_i96 : M.1 96 = r1_6) (e_i97 : M.1 97 = r1_7)  {res : (Nat → Int32) × (Nat → Int32) × (Nat → Int32) × (Nat → Int32) × (Nat → Int32) × (Nat → Int32) × (Nat → Int32) × (Nat → Int32) × (Nat → Int32)} (hy : (fDy_copyFrom r0 r0_0 r0_1 r0_2 r0_3 r0_4 r0_5 r0_6 r0_7 r1 r1_0 r1_1 r1_2 r1_3 r1_4 r1_5 r1_6 r1_7) = some res) : zK Γ 2 YX1_copyFrom [.ref (zad Γ 15), .ref (zad Γ 89)] M (fun v N => v = none ∧ N = (zui (zui (zui (zui (zui (zui (zui (zui (zui M 15 res.1) 16 res.2.1) 17 res.2.2.1) 18 res.2.2.2.1) 19 res.2.2.2.2.1) 20 res.2.2.2.2.2.1) 21 res.2.2.2.2.2.2.1) 22 res.2.2.2.2.2.2.2.1) 23 res.2.2.2.2.2.2.2.2)) :=
  zK_of (by decide) (Nat.le_of_ble_eq_true rfl) (TX1_copyFrom_15_89 Γ M r0 r0_0 r0_1 r0_2 r0_3 r0_4 r0_5 r0_6 r0_7 r1 r1_0 r1_1 r1_2 r1_3 r1_4 r1_5 r1_6 r1_7 e_i15 e_i16 e_i17 e_i18 e_i19 e_i20 e_i21 e_i22 e_i23 e_i89 e_i90 e_i91 e_i92 e_i93 e_i94 e_i95 e_i96 e_i97 hy ⟨rfl, rfl⟩)


set_option maxRecDepth 20000 in
theorem TX1_copyFrom_15_79 (Γ : zG) {Q : Option Value → zM → Prop} (M : zM) (r0 : Nat → Int32) (r0_0 : Nat → Int32) (r0_1 : Nat → Int32) (r0_2 : Nat → Int32) (r0_3 : Nat → Int32) (r0_4 : Nat → Int32) (r0_5 : Nat → Int32) (r0_6 : Nat → Int32) (r0_7 : Nat → Int32) (r1 : Nat → Int32) (r1_0 : Nat → Int32) (r1_1 : Nat → Int32) (r1_2 : Nat → Int32) (r1_3 : Nat → Int32) (r1_4 : Nat → Int32) (r1_5 : Nat → Int32) (r1_6 : Nat → Int32) (r1_7 : Nat → Int32) (e_i15 : M.1 15 = r0) (e_i16 : M.1 16 = r0_0) (e_i17 : M.1 17 = r0_1) (e_i18 : M.1 18 = r0_2) (e_i19 : M.1 19 = r0_3) (e_i20 : M.1 20 = r0_4) (e_i21 : M.1 21 = r0_5) (e_i22 : M.1 22 = r0_6) (e_i23 : M.1 23 = r0_7) (e_i79 : M.1 79 = r1) (e_i80 : M.1 80 = r1_0) (e_i81 : M.1 81 = r1_1) (e_i82 : M.1 82 = r1_2) (e_i83 : M.1 83 = r1_3) (e_i84 : M.1 84 = r1_4) (e_i85 : M.1 85 = r1_5) (e_i86 : M.1 86 = r1_6) (e_i87 : M.1 87 = r1_7)  {res : (Nat → Int32) × (Nat → Int32) × (Nat → Int32) × (Nat → Int32) × (Nat → Int32) × (Nat → Int32) × (Nat → Int32) × (Nat → Int32) × (Nat → Int32)} (hy : (fDy_copyFrom r0 r0_0 r0_1 r0_2 r0_3 r0_4 r0_5 r0_6 r0_7 r1 r1_0 r1_1 r1_2 r1_3 r1_4 r1_5 r1_6 r1_7) = some res) (hq : Q none (zui (zui (zui (zui (zui (zui (zui (zui (zui M 15 res.1) 16 res.2.1) 17 res.2.2.1) 18 res.2.2.2.1) 19 res.2.2.2.2.1) 20 res.2.2.2.2.2.1) 21 res.2.2.2.2.2.2.1) 22 res.2.2.2.2.2.2.2.1) 23 res.2.2.2.2.2.2.2.2)) : zR Γ 2 YX1_copyFrom 0 [(0, .ref (zad Γ 15)), (1, .ref (zad Γ 79))] [] M Q := by
  unfold fDy_copyFrom at hy
  refine zj_aload_n (pc' := 1) 1 dX1_copyFrom_0 rfl rfl rfl ?_
  refine zj_getR (pc' := 4) (j := 80) dX1_copyFrom_1 rfl flX1_9 sh79 rfl ?_
  refine zj_iconst (pc' := 5) dX1_copyFrom_4 rfl kiconst_0 ?_
  refine zj_aload_n (pc' := 6) 0 dX1_copyFrom_5 rfl rfl rfl ?_
  refine zj_getR (pc' := 9) (j := 16) dX1_copyFrom_6 rfl flX1_9 sh15 rfl ?_
  refine zj_iconst (pc' := 10) dX1_copyFrom_9 rfl kiconst_0 ?_
  refine zj_bipush (pc' := 12) dX1_copyFrom_10 rfl kbipush_36 ?_
  obtain ⟨r0_0v1, er0_0v1⟩ : ∃ z, z = (va_cpy r1_0 r0_0 0 0 36) := ⟨_, rfl⟩
  have hy := zlet_at er0_0v1 hy
  refine zj_cpI (pc' := 15) (N := (zui M 16 r0_0v1)) dX1_copyFrom_12 rfl mlX1_52 zcpw sh80 sh16 tn0 tn0 tn36 (by decide) (by decide) (Nat.le_of_ble_eq_true rfl) (Nat.le_of_ble_eq_true rfl) e_i80 e_i16 er0_0v1 rfl (Nat.le_of_ble_eq_true rfl) (Nat.le_of_ble_eq_true rfl) ?_
  refine zj_aload_n (pc' := 16) 1 dX1_copyFrom_15 rfl rfl rfl ?_
  refine zj_getR (pc' := 19) (j := 81) dX1_copyFrom_16 rfl flX1_15 sh79 rfl ?_
  refine zj_iconst (pc' := 20) dX1_copyFrom_19 rfl kiconst_0 ?_
  refine zj_aload_n (pc' := 21) 0 dX1_copyFrom_20 rfl rfl rfl ?_
  refine zj_getR (pc' := 24) (j := 17) dX1_copyFrom_21 rfl flX1_15 sh15 rfl ?_
  refine zj_iconst (pc' := 25) dX1_copyFrom_24 rfl kiconst_0 ?_
  refine zj_bipush (pc' := 27) dX1_copyFrom_25 rfl kbipush_6 ?_
  obtain ⟨r0_1v2, er0_1v2⟩ : ∃ z, z = (va_cpy r1_1 r0_1 0 0 6) := ⟨_, rfl⟩
  have hy := zlet_at er0_1v2 hy
  refine zj_cpI (pc' := 30) (N := (zui (zui M 16 r0_0v1) 17 r0_1v2)) dX1_copyFrom_27 rfl mlX1_52 zcpw sh81 sh17 tn0 tn0 tn6 (by decide) (by decide) (Nat.le_of_ble_eq_true rfl) (Nat.le_of_ble_eq_true rfl) (zr_n rfl e_i81) (zr_n rfl e_i17) er0_1v2 rfl (Nat.le_of_ble_eq_true rfl) (Nat.le_of_ble_eq_true rfl) ?_
  refine zj_aload_n (pc' := 31) 1 dX1_copyFrom_30 rfl rfl rfl ?_
  refine zj_getR (pc' := 34) (j := 82) dX1_copyFrom_31 rfl flX1_18 sh79 rfl ?_
  refine zj_iconst (pc' := 35) dX1_copyFrom_34 rfl kiconst_0 ?_
  refine zj_aload_n (pc' := 36) 0 dX1_copyFrom_35 rfl rfl rfl ?_
  refine zj_getR (pc' := 39) (j := 18) dX1_copyFrom_36 rfl flX1_18 sh15 rfl ?_
  refine zj_iconst (pc' := 40) dX1_copyFrom_39 rfl kiconst_0 ?_
  refine zj_bipush (pc' := 42) dX1_copyFrom_40 rfl kbipush_6 ?_
  obtain ⟨r0_2v3, er0_2v3⟩ : ∃ z, z = (va_cpy r1_2 r0_2 0 0 6) := ⟨_, rfl⟩
  have hy := zlet_at er0_2v3 hy
  refine zj_cpI (pc' := 45) (N := (zui (zui (zui M 16 r0_0v1) 17 r0_1v2) 18 r0_2v3)) dX1_copyFrom_42 rfl mlX1_52 zcpw sh82 sh18 tn0 tn0 tn6 (by decide) (by decide) (Nat.le_of_ble_eq_true rfl) (Nat.le_of_ble_eq_true rfl) (zr_n rfl (zr_n rfl e_i82)) (zr_n rfl (zr_n rfl e_i18)) er0_2v3 rfl (Nat.le_of_ble_eq_true rfl) (Nat.le_of_ble_eq_true rfl) ?_
  refine zj_aload_n (pc' := 46) 1 dX1_copyFrom_45 rfl rfl rfl ?_
  refine zj_getR (pc' := 49) (j := 83) dX1_copyFrom_46 rfl flX1_21 sh79 rfl ?_
  refine zj_iconst (pc' := 50) dX1_copyFrom_49 rfl kiconst_0 ?_
  refine zj_aload_n (pc' := 51) 0 dX1_copyFrom_50 rfl rfl rfl ?_
  refine zj_getR (pc' := 54) (j := 19) dX1_copyFrom_51 rfl flX1_21 sh15 rfl ?_
  refine zj_iconst (pc' := 55) dX1_copyFrom_54 rfl kiconst_0 ?_
  refine zj_bipush (pc' := 57) dX1_copyFrom_55 rfl kbipush_6 ?_
  obtain ⟨r0_3v4, er0_3v4⟩ : ∃ z, z = (va_cpy r1_3 r0_3 0 0 6) := ⟨_, rfl⟩
  have hy := zlet_at er0_3v4 hy
  refine zj_cpI (pc' := 60) (N := (zui (zui (zui (zui M 16 r0_0v1) 17 r0_1v2) 18 r0_2v3) 19 r0_3v4)) dX1_copyFrom_57 rfl mlX1_52 zcpw sh83 sh19 tn0 tn0 tn6 (by decide) (by decide) (Nat.le_of_ble_eq_true rfl) (Nat.le_of_ble_eq_true rfl) (zr_n rfl (zr_n rfl (zr_n rfl e_i83))) (zr_n rfl (zr_n rfl (zr_n rfl e_i19))) er0_3v4 rfl (Nat.le_of_ble_eq_true rfl) (Nat.le_of_ble_eq_true rfl) ?_
  refine zj_aload_n (pc' := 61) 1 dX1_copyFrom_60 rfl rfl rfl ?_
  refine zj_getR (pc' := 64) (j := 84) dX1_copyFrom_61 rfl flX1_24 sh79 rfl ?_
  refine zj_iconst (pc' := 65) dX1_copyFrom_64 rfl kiconst_0 ?_
  refine zj_aload_n (pc' := 66) 0 dX1_copyFrom_65 rfl rfl rfl ?_
  refine zj_getR (pc' := 69) (j := 20) dX1_copyFrom_66 rfl flX1_24 sh15 rfl ?_
  refine zj_iconst (pc' := 70) dX1_copyFrom_69 rfl kiconst_0 ?_
  refine zj_bipush (pc' := 72) dX1_copyFrom_70 rfl kbipush_48 ?_
  obtain ⟨r0_4v5, er0_4v5⟩ : ∃ z, z = (va_cpy r1_4 r0_4 0 0 48) := ⟨_, rfl⟩
  have hy := zlet_at er0_4v5 hy
  refine zj_cpI (pc' := 75) (N := (zui (zui (zui (zui (zui M 16 r0_0v1) 17 r0_1v2) 18 r0_2v3) 19 r0_3v4) 20 r0_4v5)) dX1_copyFrom_72 rfl mlX1_52 zcpw sh84 sh20 tn0 tn0 tn48 (by decide) (by decide) (Nat.le_of_ble_eq_true rfl) (Nat.le_of_ble_eq_true rfl) (zr_n rfl (zr_n rfl (zr_n rfl (zr_n rfl e_i84)))) (zr_n rfl (zr_n rfl (zr_n rfl (zr_n rfl e_i20)))) er0_4v5 rfl (Nat.le_of_ble_eq_true rfl) (Nat.le_of_ble_eq_true rfl) ?_
  refine zj_aload_n (pc' := 76) 1 dX1_copyFrom_75 rfl rfl rfl ?_
  refine zj_getR (pc' := 79) (j := 85) dX1_copyFrom_76 rfl flX1_27 sh79 rfl ?_
  refine zj_iconst (pc' := 80) dX1_copyFrom_79 rfl kiconst_0 ?_
  refine zj_aload_n (pc' := 81) 0 dX1_copyFrom_80 rfl rfl rfl ?_
  refine zj_getR (pc' := 84) (j := 21) dX1_copyFrom_81 rfl flX1_27 sh15 rfl ?_
  refine zj_iconst (pc' := 85) dX1_copyFrom_84 rfl kiconst_0 ?_
  refine zj_bipush (pc' := 87) dX1_copyFrom_85 rfl kbipush_6 ?_
  obtain ⟨r0_5v6, er0_5v6⟩ : ∃ z, z = (va_cpy r1_5 r0_5 0 0 6) := ⟨_, rfl⟩
  have hy := zlet_at er0_5v6 hy
  refine zj_cpI (pc' := 90) (N := (zui (zui (zui (zui (zui (zui M 16 r0_0v1) 17 r0_1v2) 18 r0_2v3) 19 r0_3v4) 20 r0_4v5) 21 r0_5v6)) dX1_copyFrom_87 rfl mlX1_52 zcpw sh85 sh21 tn0 tn0 tn6 (by decide) (by decide) (Nat.le_of_ble_eq_true rfl) (Nat.le_of_ble_eq_true rfl) (zr_n rfl (zr_n rfl (zr_n rfl (zr_n rfl (zr_n rfl e_i85))))) (zr_n rfl (zr_n rfl (zr_n rfl (zr_n rfl (zr_n rfl e_i21))))) er0_5v6 rfl (Nat.le_of_ble_eq_true rfl) (Nat.le_of_ble_eq_true rfl) ?_
  refine zj_aload_n (pc' := 91) 1 dX1_copyFrom_90 rfl rfl rfl ?_
  refine zj_getR (pc' := 94) (j := 86) dX1_copyFrom_91 rfl flX1_30 sh79 rfl ?_
  refine zj_iconst (pc' := 95) dX1_copyFrom_94 rfl kiconst_0 ?_
  refine zj_aload_n (pc' := 96) 0 dX1_copyFrom_95 rfl rfl rfl ?_
  refine zj_getR (pc' := 99) (j := 22) dX1_copyFrom_96 rfl flX1_30 sh15 rfl ?_
  refine zj_iconst (pc' := 100) dX1_copyFrom_99 rfl kiconst_0 ?_
  refine zj_bipush (pc' := 102) dX1_copyFrom_100 rfl kbipush_8 ?_
  obtain ⟨r0_6v7, er0_6v7⟩ : ∃ z, z = (va_cpy r1_6 r0_6 0 0 8) := ⟨_, rfl⟩
  have hy := zlet_at er0_6v7 hy
  refine zj_cpI (pc' := 105) (N := (zui (zui (zui (zui (zui (zui (zui M 16 r0_0v1) 17 r0_1v2) 18 r0_2v3) 19 r0_3v4) 20 r0_4v5) 21 r0_5v6) 22 r0_6v7)) dX1_copyFrom_102 rfl mlX1_52 zcpw sh86 sh22 tn0 tn0 tn8 (by decide) (by decide) (Nat.le_of_ble_eq_true rfl) (Nat.le_of_ble_eq_true rfl) (zr_n rfl (zr_n rfl (zr_n rfl (zr_n rfl (zr_n rfl (zr_n rfl e_i86)))))) (zr_n rfl (zr_n rfl (zr_n rfl (zr_n rfl (zr_n rfl (zr_n rfl e_i22)))))) er0_6v7 rfl (Nat.le_of_ble_eq_true rfl) (Nat.le_of_ble_eq_true rfl) ?_
  refine zj_aload_n (pc' := 106) 1 dX1_copyFrom_105 rfl rfl rfl ?_
  refine zj_getR (pc' := 109) (j := 87) dX1_copyFrom_106 rfl flX1_33 sh79 rfl ?_
  refine zj_iconst (pc' := 110) dX1_copyFrom_109 rfl kiconst_0 ?_
  refine zj_aload_n (pc' := 111) 0 dX1_copyFrom_110 rfl rfl rfl ?_
  refine zj_getR (pc' := 114) (j := 23) dX1_copyFrom_111 rfl flX1_33 sh15 rfl ?_
  refine zj_iconst (pc' := 115) dX1_copyFrom_114 rfl kiconst_0 ?_
  refine zj_bipush (pc' := 117) dX1_copyFrom_115 rfl kbipush_8 ?_
  obtain ⟨r0_7v8, er0_7v8⟩ : ∃ z, z = (va_cpy r1_7 r0_7 0 0 8) := ⟨_, rfl⟩
  have hy := zlet_at er0_7v8 hy
  refine zj_cpI (pc' := 120) (N := (zui (zui (zui (zui (zui (zui (zui (zui M 16 r0_0v1) 17 r0_1v2) 18 r0_2v3) 19 r0_3v4) 20 r0_4v5) 21 r0_5v6) 22 r0_6v7) 23 r0_7v8)) dX1_copyFrom_117 rfl mlX1_52 zcpw sh87 sh23 tn0 tn0 tn8 (by decide) (by decide) (Nat.le_of_ble_eq_true rfl) (Nat.le_of_ble_eq_true rfl) (zr_n rfl (zr_n rfl (zr_n rfl (zr_n rfl (zr_n rfl (zr_n rfl (zr_n rfl e_i87))))))) (zr_n rfl (zr_n rfl (zr_n rfl (zr_n rfl (zr_n rfl (zr_n rfl (zr_n rfl e_i23))))))) er0_7v8 rfl (Nat.le_of_ble_eq_true rfl) (Nat.le_of_ble_eq_true rfl) ?_
  refine zj_aload_n (pc' := 121) 0 dX1_copyFrom_120 rfl rfl rfl ?_
  refine zj_aload_n (pc' := 122) 1 dX1_copyFrom_121 rfl rfl rfl ?_
  refine zj_fI (pc' := 125) dX1_copyFrom_122 rfl flX1_45 sh79 rfl (zr_n rfl (zr_n rfl (zr_n rfl (zr_n rfl (zr_n rfl (zr_n rfl (zr_n rfl (zr_n rfl e_i79)))))))) rfl ?_
  obtain ⟨r0v9, er0v9⟩ : ∃ z, z = (zup r0 9 (r1 9)) := ⟨_, rfl⟩
  have hy := zlet_at er0v9 hy
  refine zj_pI (pc' := 128) (N := (zui (zui (zui (zui (zui (zui (zui (zui (zui M 15 r0v9) 16 r0_0v1) 17 r0_1v2) 18 r0_2v3) 19 r0_3v4) 20 r0_4v5) 21 r0_5v6) 22 r0_6v7) 23 r0_7v8)) dX1_copyFrom_125 rfl fpX1_45 sh15 rfl (zr_n rfl (zr_n rfl (zr_n rfl (zr_n rfl (zr_n rfl (zr_n rfl (zr_n rfl (zr_n rfl e_i15)))))))) er0v9 (zm_n rfl (zm_n rfl (zm_n rfl (zm_n rfl (zm_n rfl (zm_n rfl (zm_n rfl (zm_n rfl rfl)))))))) ?_
  refine zj_aload_n (pc' := 129) 0 dX1_copyFrom_128 rfl rfl rfl ?_
  refine zj_aload_n (pc' := 130) 1 dX1_copyFrom_129 rfl rfl rfl ?_
  refine zj_fI (pc' := 133) dX1_copyFrom_130 rfl flX1_49 sh79 rfl (zr_n rfl (zr_n rfl (zr_n rfl (zr_n rfl (zr_n rfl (zr_n rfl (zr_n rfl (zr_n rfl (zr_n rfl e_i79))))))))) rfl ?_
  obtain ⟨r0v10, er0v10⟩ : ∃ z, z = (zup r0v9 10 (r1 10)) := ⟨_, rfl⟩
  have hy := zlet_at er0v10 hy
  refine zj_pI (pc' := 136) (N := (zui (zui (zui (zui (zui (zui (zui (zui (zui M 15 r0v10) 16 r0_0v1) 17 r0_1v2) 18 r0_2v3) 19 r0_3v4) 20 r0_4v5) 21 r0_5v6) 22 r0_6v7) 23 r0_7v8)) dX1_copyFrom_133 rfl fpX1_49 sh15 rfl (zr_n rfl (zr_n rfl (zr_n rfl (zr_n rfl (zr_n rfl (zr_n rfl (zr_n rfl (zr_n rfl zr_s)))))))) er0v10 (zm_n rfl (zm_n rfl (zm_n rfl (zm_n rfl (zm_n rfl (zm_n rfl (zm_n rfl (zm_n rfl zm_s)))))))) ?_
  have e9 := Option.some.inj hy
  subst e9
  exact zj_vret dX1_copyFrom_136 rfl hq
set_option maxRecDepth 20000 in
theorem LX1_copyFrom_15_79 (Γ : zG) (M : zM) (r0 : Nat → Int32) (r0_0 : Nat → Int32) (r0_1 : Nat → Int32) (r0_2 : Nat → Int32) (r0_3 : Nat → Int32) (r0_4 : Nat → Int32) (r0_5 : Nat → Int32) (r0_6 : Nat → Int32) (r0_7 : Nat → Int32) (r1 : Nat → Int32) (r1_0 : Nat → Int32) (r1_1 : Nat → Int32) (r1_2 : Nat → Int32) (r1_3 : Nat → Int32) (r1_4 : Nat → Int32) (r1_5 : Nat → Int32) (r1_6 : Nat → Int32) (r1_7 : Nat → Int32) (e_i15 : M.1 15 = r0) (e_i16 : M.1 16 = r0_0) (e_i17 : M.1 17 = r0_1) (e_i18 : M.1 18 = r0_2) (e_i19 : M.1 19 = r0_3) (e_i20 : M.1 20 = r0_4) (e_i21 : M.1 21 = r0_5) (e_i22 : M.1 22 = r0_6) (e_i23 : M.1 23 = r0_7) (e_i79 : M.1 79 = r1) (e_i80 : M.1 80 = r1_0) (e_i81 : M.1 81 = r1_1) (e_i82 : M.1 82 = r1_2) (e_i83 : M.1 83 = r1_3) (e_i84 : M.1 84 = r1_4) (e_i85 : M.1 85 = r1_5) (e_i86 : M.1 86 = r1_6) (e_i87 : M.1 87 = r1_7)  {res : (Nat → Int32) × (Nat → Int32) × (Nat → Int32) × (Nat → Int32) × (Nat → Int32) × (Nat → Int32) × (Nat → Int32) × (Nat → Int32) × (Nat → Int32)} (hy : (fDy_copyFrom r0 r0_0 r0_1 r0_2 r0_3 r0_4 r0_5 r0_6 r0_7 r1 r1_0 r1_1 r1_2 r1_3 r1_4 r1_5 r1_6 r1_7) = some res) : zK Γ 2 YX1_copyFrom [.ref (zad Γ 15), .ref (zad Γ 79)] M (fun v N => v = none ∧ N = (zui (zui (zui (zui (zui (zui (zui (zui (zui M 15 res.1) 16 res.2.1) 17 res.2.2.1) 18 res.2.2.2.1) 19 res.2.2.2.2.1) 20 res.2.2.2.2.2.1) 21 res.2.2.2.2.2.2.1) 22 res.2.2.2.2.2.2.2.1) 23 res.2.2.2.2.2.2.2.2)) :=
  zK_of (by decide) (Nat.le_of_ble_eq_true rfl) (TX1_copyFrom_15_79 Γ M r0 r0_0 r0_1 r0_2 r0_3 r0_4 r0_5 r0_6 r0_7 r1 r1_0 r1_1 r1_2 r1_3 r1_4 r1_5 r1_6 r1_7 e_i15 e_i16 e_i17 e_i18 e_i19 e_i20 e_i21 e_i22 e_i23 e_i79 e_i80 e_i81 e_i82 e_i83 e_i84 e_i85 e_i86 e_i87 hy ⟨rfl, rfl⟩)


set_option maxRecDepth 20000 in
theorem TX1_copyFrom_15_69 (Γ : zG) {Q : Option Value → zM → Prop} (M : zM) (r0 : Nat → Int32) (r0_0 : Nat → Int32) (r0_1 : Nat → Int32) (r0_2 : Nat → Int32) (r0_3 : Nat → Int32) (r0_4 : Nat → Int32) (r0_5 : Nat → Int32) (r0_6 : Nat → Int32) (r0_7 : Nat → Int32) (r1 : Nat → Int32) (r1_0 : Nat → Int32) (r1_1 : Nat → Int32) (r1_2 : Nat → Int32) (r1_3 : Nat → Int32) (r1_4 : Nat → Int32) (r1_5 : Nat → Int32) (r1_6 : Nat → Int32) (r1_7 : Nat → Int32) (e_i15 : M.1 15 = r0) (e_i16 : M.1 16 = r0_0) (e_i17 : M.1 17 = r0_1) (e_i18 : M.1 18 = r0_2) (e_i19 : M.1 19 = r0_3) (e_i20 : M.1 20 = r0_4) (e_i21 : M.1 21 = r0_5) (e_i22 : M.1 22 = r0_6) (e_i23 : M.1 23 = r0_7) (e_i69 : M.1 69 = r1) (e_i70 : M.1 70 = r1_0) (e_i71 : M.1 71 = r1_1) (e_i72 : M.1 72 = r1_2) (e_i73 : M.1 73 = r1_3) (e_i74 : M.1 74 = r1_4) (e_i75 : M.1 75 = r1_5) (e_i76 : M.1 76 = r1_6) (e_i77 : M.1 77 = r1_7)  {res : (Nat → Int32) × (Nat → Int32) × (Nat → Int32) × (Nat → Int32) × (Nat → Int32) × (Nat → Int32) × (Nat → Int32) × (Nat → Int32) × (Nat → Int32)} (hy : (fDy_copyFrom r0 r0_0 r0_1 r0_2 r0_3 r0_4 r0_5 r0_6 r0_7 r1 r1_0 r1_1 r1_2 r1_3 r1_4 r1_5 r1_6 r1_7) = some res) (hq : Q none (zui (zui (zui (zui (zui (zui (zui (zui (zui M 15 res.1) 16 res.2.1) 17 res.2.2.1) 18 res.2.2.2.1) 19 res.2.2.2.2.1) 20 res.2.2.2.2.2.1) 21 res.2.2.2.2.2.2.1) 22 res.2.2.2.2.2.2.2.1) 23 res.2.2.2.2.2.2.2.2)) : zR Γ 2 YX1_copyFrom 0 [(0, .ref (zad Γ 15)), (1, .ref (zad Γ 69))] [] M Q := by
  unfold fDy_copyFrom at hy
  refine zj_aload_n (pc' := 1) 1 dX1_copyFrom_0 rfl rfl rfl ?_
  refine zj_getR (pc' := 4) (j := 70) dX1_copyFrom_1 rfl flX1_9 sh69 rfl ?_
  refine zj_iconst (pc' := 5) dX1_copyFrom_4 rfl kiconst_0 ?_
  refine zj_aload_n (pc' := 6) 0 dX1_copyFrom_5 rfl rfl rfl ?_
  refine zj_getR (pc' := 9) (j := 16) dX1_copyFrom_6 rfl flX1_9 sh15 rfl ?_
  refine zj_iconst (pc' := 10) dX1_copyFrom_9 rfl kiconst_0 ?_
  refine zj_bipush (pc' := 12) dX1_copyFrom_10 rfl kbipush_36 ?_
  obtain ⟨r0_0v1, er0_0v1⟩ : ∃ z, z = (va_cpy r1_0 r0_0 0 0 36) := ⟨_, rfl⟩
  have hy := zlet_at er0_0v1 hy
  refine zj_cpI (pc' := 15) (N := (zui M 16 r0_0v1)) dX1_copyFrom_12 rfl mlX1_52 zcpw sh70 sh16 tn0 tn0 tn36 (by decide) (by decide) (Nat.le_of_ble_eq_true rfl) (Nat.le_of_ble_eq_true rfl) e_i70 e_i16 er0_0v1 rfl (Nat.le_of_ble_eq_true rfl) (Nat.le_of_ble_eq_true rfl) ?_
  refine zj_aload_n (pc' := 16) 1 dX1_copyFrom_15 rfl rfl rfl ?_
  refine zj_getR (pc' := 19) (j := 71) dX1_copyFrom_16 rfl flX1_15 sh69 rfl ?_
  refine zj_iconst (pc' := 20) dX1_copyFrom_19 rfl kiconst_0 ?_
  refine zj_aload_n (pc' := 21) 0 dX1_copyFrom_20 rfl rfl rfl ?_
  refine zj_getR (pc' := 24) (j := 17) dX1_copyFrom_21 rfl flX1_15 sh15 rfl ?_
  refine zj_iconst (pc' := 25) dX1_copyFrom_24 rfl kiconst_0 ?_
  refine zj_bipush (pc' := 27) dX1_copyFrom_25 rfl kbipush_6 ?_
  obtain ⟨r0_1v2, er0_1v2⟩ : ∃ z, z = (va_cpy r1_1 r0_1 0 0 6) := ⟨_, rfl⟩
  have hy := zlet_at er0_1v2 hy
  refine zj_cpI (pc' := 30) (N := (zui (zui M 16 r0_0v1) 17 r0_1v2)) dX1_copyFrom_27 rfl mlX1_52 zcpw sh71 sh17 tn0 tn0 tn6 (by decide) (by decide) (Nat.le_of_ble_eq_true rfl) (Nat.le_of_ble_eq_true rfl) (zr_n rfl e_i71) (zr_n rfl e_i17) er0_1v2 rfl (Nat.le_of_ble_eq_true rfl) (Nat.le_of_ble_eq_true rfl) ?_
  refine zj_aload_n (pc' := 31) 1 dX1_copyFrom_30 rfl rfl rfl ?_
  refine zj_getR (pc' := 34) (j := 72) dX1_copyFrom_31 rfl flX1_18 sh69 rfl ?_
  refine zj_iconst (pc' := 35) dX1_copyFrom_34 rfl kiconst_0 ?_
  refine zj_aload_n (pc' := 36) 0 dX1_copyFrom_35 rfl rfl rfl ?_
  refine zj_getR (pc' := 39) (j := 18) dX1_copyFrom_36 rfl flX1_18 sh15 rfl ?_
  refine zj_iconst (pc' := 40) dX1_copyFrom_39 rfl kiconst_0 ?_
  refine zj_bipush (pc' := 42) dX1_copyFrom_40 rfl kbipush_6 ?_
  obtain ⟨r0_2v3, er0_2v3⟩ : ∃ z, z = (va_cpy r1_2 r0_2 0 0 6) := ⟨_, rfl⟩
  have hy := zlet_at er0_2v3 hy
  refine zj_cpI (pc' := 45) (N := (zui (zui (zui M 16 r0_0v1) 17 r0_1v2) 18 r0_2v3)) dX1_copyFrom_42 rfl mlX1_52 zcpw sh72 sh18 tn0 tn0 tn6 (by decide) (by decide) (Nat.le_of_ble_eq_true rfl) (Nat.le_of_ble_eq_true rfl) (zr_n rfl (zr_n rfl e_i72)) (zr_n rfl (zr_n rfl e_i18)) er0_2v3 rfl (Nat.le_of_ble_eq_true rfl) (Nat.le_of_ble_eq_true rfl) ?_
  refine zj_aload_n (pc' := 46) 1 dX1_copyFrom_45 rfl rfl rfl ?_
  refine zj_getR (pc' := 49) (j := 73) dX1_copyFrom_46 rfl flX1_21 sh69 rfl ?_
  refine zj_iconst (pc' := 50) dX1_copyFrom_49 rfl kiconst_0 ?_
  refine zj_aload_n (pc' := 51) 0 dX1_copyFrom_50 rfl rfl rfl ?_
  refine zj_getR (pc' := 54) (j := 19) dX1_copyFrom_51 rfl flX1_21 sh15 rfl ?_
  refine zj_iconst (pc' := 55) dX1_copyFrom_54 rfl kiconst_0 ?_
  refine zj_bipush (pc' := 57) dX1_copyFrom_55 rfl kbipush_6 ?_
  obtain ⟨r0_3v4, er0_3v4⟩ : ∃ z, z = (va_cpy r1_3 r0_3 0 0 6) := ⟨_, rfl⟩
  have hy := zlet_at er0_3v4 hy
  refine zj_cpI (pc' := 60) (N := (zui (zui (zui (zui M 16 r0_0v1) 17 r0_1v2) 18 r0_2v3) 19 r0_3v4)) dX1_copyFrom_57 rfl mlX1_52 zcpw sh73 sh19 tn0 tn0 tn6 (by decide) (by decide) (Nat.le_of_ble_eq_true rfl) (Nat.le_of_ble_eq_true rfl) (zr_n rfl (zr_n rfl (zr_n rfl e_i73))) (zr_n rfl (zr_n rfl (zr_n rfl e_i19))) er0_3v4 rfl (Nat.le_of_ble_eq_true rfl) (Nat.le_of_ble_eq_true rfl) ?_
  refine zj_aload_n (pc' := 61) 1 dX1_copyFrom_60 rfl rfl rfl ?_
  refine zj_getR (pc' := 64) (j := 74) dX1_copyFrom_61 rfl flX1_24 sh69 rfl ?_
  refine zj_iconst (pc' := 65) dX1_copyFrom_64 rfl kiconst_0 ?_
  refine zj_aload_n (pc' := 66) 0 dX1_copyFrom_65 rfl rfl rfl ?_
  refine zj_getR (pc' := 69) (j := 20) dX1_copyFrom_66 rfl flX1_24 sh15 rfl ?_
  refine zj_iconst (pc' := 70) dX1_copyFrom_69 rfl kiconst_0 ?_
  refine zj_bipush (pc' := 72) dX1_copyFrom_70 rfl kbipush_48 ?_
  obtain ⟨r0_4v5, er0_4v5⟩ : ∃ z, z = (va_cpy r1_4 r0_4 0 0 48) := ⟨_, rfl⟩
  have hy := zlet_at er0_4v5 hy
  refine zj_cpI (pc' := 75) (N := (zui (zui (zui (zui (zui M 16 r0_0v1) 17 r0_1v2) 18 r0_2v3) 19 r0_3v4) 20 r0_4v5)) dX1_copyFrom_72 rfl mlX1_52 zcpw sh74 sh20 tn0 tn0 tn48 (by decide) (by decide) (Nat.le_of_ble_eq_true rfl) (Nat.le_of_ble_eq_true rfl) (zr_n rfl (zr_n rfl (zr_n rfl (zr_n rfl e_i74)))) (zr_n rfl (zr_n rfl (zr_n rfl (zr_n rfl e_i20)))) er0_4v5 rfl (Nat.le_of_ble_eq_true rfl) (Nat.le_of_ble_eq_true rfl) ?_
  refine zj_aload_n (pc' := 76) 1 dX1_copyFrom_75 rfl rfl rfl ?_
  refine zj_getR (pc' := 79) (j := 75) dX1_copyFrom_76 rfl flX1_27 sh69 rfl ?_
  refine zj_iconst (pc' := 80) dX1_copyFrom_79 rfl kiconst_0 ?_
  refine zj_aload_n (pc' := 81) 0 dX1_copyFrom_80 rfl rfl rfl ?_
  refine zj_getR (pc' := 84) (j := 21) dX1_copyFrom_81 rfl flX1_27 sh15 rfl ?_
  refine zj_iconst (pc' := 85) dX1_copyFrom_84 rfl kiconst_0 ?_
  refine zj_bipush (pc' := 87) dX1_copyFrom_85 rfl kbipush_6 ?_
  obtain ⟨r0_5v6, er0_5v6⟩ : ∃ z, z = (va_cpy r1_5 r0_5 0 0 6) := ⟨_, rfl⟩
  have hy := zlet_at er0_5v6 hy
  refine zj_cpI (pc' := 90) (N := (zui (zui (zui (zui (zui (zui M 16 r0_0v1) 17 r0_1v2) 18 r0_2v3) 19 r0_3v4) 20 r0_4v5) 21 r0_5v6)) dX1_copyFrom_87 rfl mlX1_52 zcpw sh75 sh21 tn0 tn0 tn6 (by decide) (by decide) (Nat.le_of_ble_eq_true rfl) (Nat.le_of_ble_eq_true rfl) (zr_n rfl (zr_n rfl (zr_n rfl (zr_n rfl (zr_n rfl e_i75))))) (zr_n rfl (zr_n rfl (zr_n rfl (zr_n rfl (zr_n rfl e_i21))))) er0_5v6 rfl (Nat.le_of_ble_eq_true rfl) (Nat.le_of_ble_eq_true rfl) ?_
  refine zj_aload_n (pc' := 91) 1 dX1_copyFrom_90 rfl rfl rfl ?_
  refine zj_getR (pc' := 94) (j := 76) dX1_copyFrom_91 rfl flX1_30 sh69 rfl ?_
  refine zj_iconst (pc' := 95) dX1_copyFrom_94 rfl kiconst_0 ?_
  refine zj_aload_n (pc' := 96) 0 dX1_copyFrom_95 rfl rfl rfl ?_
  refine zj_getR (pc' := 99) (j := 22) dX1_copyFrom_96 rfl flX1_30 sh15 rfl ?_
  refine zj_iconst (pc' := 100) dX1_copyFrom_99 rfl kiconst_0 ?_
  refine zj_bipush (pc' := 102) dX1_copyFrom_100 rfl kbipush_8 ?_
  obtain ⟨r0_6v7, er0_6v7⟩ : ∃ z, z = (va_cpy r1_6 r0_6 0 0 8) := ⟨_, rfl⟩
  have hy := zlet_at er0_6v7 hy
  refine zj_cpI (pc' := 105) (N := (zui (zui (zui (zui (zui (zui (zui M 16 r0_0v1) 17 r0_1v2) 18 r0_2v3) 19 r0_3v4) 20 r0_4v5) 21 r0_5v6) 22 r0_6v7)) dX1_copyFrom_102 rfl mlX1_52 zcpw sh76 sh22 tn0 tn0 tn8 (by decide) (by decide) (Nat.le_of_ble_eq_true rfl) (Nat.le_of_ble_eq_true rfl) (zr_n rfl (zr_n rfl (zr_n rfl (zr_n rfl (zr_n rfl (zr_n rfl e_i76)))))) (zr_n rfl (zr_n rfl (zr_n rfl (zr_n rfl (zr_n rfl (zr_n rfl e_i22)))))) er0_6v7 rfl (Nat.le_of_ble_eq_true rfl) (Nat.le_of_ble_eq_true rfl) ?_
  refine zj_aload_n (pc' := 106) 1 dX1_copyFrom_105 rfl rfl rfl ?_
  refine zj_getR (pc' := 109) (j := 77) dX1_copyFrom_106 rfl flX1_33 sh69 rfl ?_
  refine zj_iconst (pc' := 110) dX1_copyFrom_109 rfl kiconst_0 ?_
  refine zj_aload_n (pc' := 111) 0 dX1_copyFrom_110 rfl rfl rfl ?_
  refine zj_getR (pc' := 114) (j := 23) dX1_copyFrom_111 rfl flX1_33 sh15 rfl ?_
  refine zj_iconst (pc' := 115) dX1_copyFrom_114 rfl kiconst_0 ?_
  refine zj_bipush (pc' := 117) dX1_copyFrom_115 rfl kbipush_8 ?_
  obtain ⟨r0_7v8, er0_7v8⟩ : ∃ z, z = (va_cpy r1_7 r0_7 0 0 8) := ⟨_, rfl⟩
  have hy := zlet_at er0_7v8 hy
  refine zj_cpI (pc' := 120) (N := (zui (zui (zui (zui (zui (zui (zui (zui M 16 r0_0v1) 17 r0_1v2) 18 r0_2v3) 19 r0_3v4) 20 r0_4v5) 21 r0_5v6) 22 r0_6v7) 23 r0_7v8)) dX1_copyFrom_117 rfl mlX1_52 zcpw sh77 sh23 tn0 tn0 tn8 (by decide) (by decide) (Nat.le_of_ble_eq_true rfl) (Nat.le_of_ble_eq_true rfl) (zr_n rfl (zr_n rfl (zr_n rfl (zr_n rfl (zr_n rfl (zr_n rfl (zr_n rfl e_i77))))))) (zr_n rfl (zr_n rfl (zr_n rfl (zr_n rfl (zr_n rfl (zr_n rfl (zr_n rfl e_i23))))))) er0_7v8 rfl (Nat.le_of_ble_eq_true rfl) (Nat.le_of_ble_eq_true rfl) ?_
  refine zj_aload_n (pc' := 121) 0 dX1_copyFrom_120 rfl rfl rfl ?_
  refine zj_aload_n (pc' := 122) 1 dX1_copyFrom_121 rfl rfl rfl ?_
  refine zj_fI (pc' := 125) dX1_copyFrom_122 rfl flX1_45 sh69 rfl (zr_n rfl (zr_n rfl (zr_n rfl (zr_n rfl (zr_n rfl (zr_n rfl (zr_n rfl (zr_n rfl e_i69)))))))) rfl ?_
  obtain ⟨r0v9, er0v9⟩ : ∃ z, z = (zup r0 9 (r1 9)) := ⟨_, rfl⟩
  have hy := zlet_at er0v9 hy
  refine zj_pI (pc' := 128) (N := (zui (zui (zui (zui (zui (zui (zui (zui (zui M 15 r0v9) 16 r0_0v1) 17 r0_1v2) 18 r0_2v3) 19 r0_3v4) 20 r0_4v5) 21 r0_5v6) 22 r0_6v7) 23 r0_7v8)) dX1_copyFrom_125 rfl fpX1_45 sh15 rfl (zr_n rfl (zr_n rfl (zr_n rfl (zr_n rfl (zr_n rfl (zr_n rfl (zr_n rfl (zr_n rfl e_i15)))))))) er0v9 (zm_n rfl (zm_n rfl (zm_n rfl (zm_n rfl (zm_n rfl (zm_n rfl (zm_n rfl (zm_n rfl rfl)))))))) ?_
  refine zj_aload_n (pc' := 129) 0 dX1_copyFrom_128 rfl rfl rfl ?_
  refine zj_aload_n (pc' := 130) 1 dX1_copyFrom_129 rfl rfl rfl ?_
  refine zj_fI (pc' := 133) dX1_copyFrom_130 rfl flX1_49 sh69 rfl (zr_n rfl (zr_n rfl (zr_n rfl (zr_n rfl (zr_n rfl (zr_n rfl (zr_n rfl (zr_n rfl (zr_n rfl e_i69))))))))) rfl ?_
  obtain ⟨r0v10, er0v10⟩ : ∃ z, z = (zup r0v9 10 (r1 10)) := ⟨_, rfl⟩
  have hy := zlet_at er0v10 hy
  refine zj_pI (pc' := 136) (N := (zui (zui (zui (zui (zui (zui (zui (zui (zui M 15 r0v10) 16 r0_0v1) 17 r0_1v2) 18 r0_2v3) 19 r0_3v4) 20 r0_4v5) 21 r0_5v6) 22 r0_6v7) 23 r0_7v8)) dX1_copyFrom_133 rfl fpX1_49 sh15 rfl (zr_n rfl (zr_n rfl (zr_n rfl (zr_n rfl (zr_n rfl (zr_n rfl (zr_n rfl (zr_n rfl zr_s)))))))) er0v10 (zm_n rfl (zm_n rfl (zm_n rfl (zm_n rfl (zm_n rfl (zm_n rfl (zm_n rfl (zm_n rfl zm_s)))))))) ?_
  have e9 := Option.some.inj hy
  subst e9
  exact zj_vret dX1_copyFrom_136 rfl hq
set_option maxRecDepth 20000 in
theorem LX1_copyFrom_15_69 (Γ : zG) (M : zM) (r0 : Nat → Int32) (r0_0 : Nat → Int32) (r0_1 : Nat → Int32) (r0_2 : Nat → Int32) (r0_3 : Nat → Int32) (r0_4 : Nat → Int32) (r0_5 : Nat → Int32) (r0_6 : Nat → Int32) (r0_7 : Nat → Int32) (r1 : Nat → Int32) (r1_0 : Nat → Int32) (r1_1 : Nat → Int32) (r1_2 : Nat → Int32) (r1_3 : Nat → Int32) (r1_4 : Nat → Int32) (r1_5 : Nat → Int32) (r1_6 : Nat → Int32) (r1_7 : Nat → Int32) (e_i15 : M.1 15 = r0) (e_i16 : M.1 16 = r0_0) (e_i17 : M.1 17 = r0_1) (e_i18 : M.1 18 = r0_2) (e_i19 : M.1 19 = r0_3) (e_i20 : M.1 20 = r0_4) (e_i21 : M.1 21 = r0_5) (e_i22 : M.1 22 = r0_6) (e_i23 : M.1 23 = r0_7) (e_i69 : M.1 69 = r1) (e_i70 : M.1 70 = r1_0) (e_i71 : M.1 71 = r1_1) (e_i72 : M.1 72 = r1_2) (e_i73 : M.1 73 = r1_3) (e_i74 : M.1 74 = r1_4) (e_i75 : M.1 75 = r1_5) (e_i76 : M.1 76 = r1_6) (e_i77 : M.1 77 = r1_7)  {res : (Nat → Int32) × (Nat → Int32) × (Nat → Int32) × (Nat → Int32) × (Nat → Int32) × (Nat → Int32) × (Nat → Int32) × (Nat → Int32) × (Nat → Int32)} (hy : (fDy_copyFrom r0 r0_0 r0_1 r0_2 r0_3 r0_4 r0_5 r0_6 r0_7 r1 r1_0 r1_1 r1_2 r1_3 r1_4 r1_5 r1_6 r1_7) = some res) : zK Γ 2 YX1_copyFrom [.ref (zad Γ 15), .ref (zad Γ 69)] M (fun v N => v = none ∧ N = (zui (zui (zui (zui (zui (zui (zui (zui (zui M 15 res.1) 16 res.2.1) 17 res.2.2.1) 18 res.2.2.2.1) 19 res.2.2.2.2.1) 20 res.2.2.2.2.2.1) 21 res.2.2.2.2.2.2.1) 22 res.2.2.2.2.2.2.2.1) 23 res.2.2.2.2.2.2.2.2)) :=
  zK_of (by decide) (Nat.le_of_ble_eq_true rfl) (TX1_copyFrom_15_69 Γ M r0 r0_0 r0_1 r0_2 r0_3 r0_4 r0_5 r0_6 r0_7 r1 r1_0 r1_1 r1_2 r1_3 r1_4 r1_5 r1_6 r1_7 e_i15 e_i16 e_i17 e_i18 e_i19 e_i20 e_i21 e_i22 e_i23 e_i69 e_i70 e_i71 e_i72 e_i73 e_i74 e_i75 e_i76 e_i77 hy ⟨rfl, rfl⟩)


set_option maxRecDepth 20000 in
theorem TX1_copyFrom_15_59 (Γ : zG) {Q : Option Value → zM → Prop} (M : zM) (r0 : Nat → Int32) (r0_0 : Nat → Int32) (r0_1 : Nat → Int32) (r0_2 : Nat → Int32) (r0_3 : Nat → Int32) (r0_4 : Nat → Int32) (r0_5 : Nat → Int32) (r0_6 : Nat → Int32) (r0_7 : Nat → Int32) (r1 : Nat → Int32) (r1_0 : Nat → Int32) (r1_1 : Nat → Int32) (r1_2 : Nat → Int32) (r1_3 : Nat → Int32) (r1_4 : Nat → Int32) (r1_5 : Nat → Int32) (r1_6 : Nat → Int32) (r1_7 : Nat → Int32) (e_i15 : M.1 15 = r0) (e_i16 : M.1 16 = r0_0) (e_i17 : M.1 17 = r0_1) (e_i18 : M.1 18 = r0_2) (e_i19 : M.1 19 = r0_3) (e_i20 : M.1 20 = r0_4) (e_i21 : M.1 21 = r0_5) (e_i22 : M.1 22 = r0_6) (e_i23 : M.1 23 = r0_7) (e_i59 : M.1 59 = r1) (e_i60 : M.1 60 = r1_0) (e_i61 : M.1 61 = r1_1) (e_i62 : M.1 62 = r1_2) (e_i63 : M.1 63 = r1_3) (e_i64 : M.1 64 = r1_4) (e_i65 : M.1 65 = r1_5) (e_i66 : M.1 66 = r1_6) (e_i67 : M.1 67 = r1_7)  {res : (Nat → Int32) × (Nat → Int32) × (Nat → Int32) × (Nat → Int32) × (Nat → Int32) × (Nat → Int32) × (Nat → Int32) × (Nat → Int32) × (Nat → Int32)} (hy : (fDy_copyFrom r0 r0_0 r0_1 r0_2 r0_3 r0_4 r0_5 r0_6 r0_7 r1 r1_0 r1_1 r1_2 r1_3 r1_4 r1_5 r1_6 r1_7) = some res) (hq : Q none (zui (zui (zui (zui (zui (zui (zui (zui (zui M 15 res.1) 16 res.2.1) 17 res.2.2.1) 18 res.2.2.2.1) 19 res.2.2.2.2.1) 20 res.2.2.2.2.2.1) 21 res.2.2.2.2.2.2.1) 22 res.2.2.2.2.2.2.2.1) 23 res.2.2.2.2.2.2.2.2)) : zR Γ 2 YX1_copyFrom 0 [(0, .ref (zad Γ 15)), (1, .ref (zad Γ 59))] [] M Q := by
  unfold fDy_copyFrom at hy
  refine zj_aload_n (pc' := 1) 1 dX1_copyFrom_0 rfl rfl rfl ?_
  refine zj_getR (pc' := 4) (j := 60) dX1_copyFrom_1 rfl flX1_9 sh59 rfl ?_
  refine zj_iconst (pc' := 5) dX1_copyFrom_4 rfl kiconst_0 ?_
  refine zj_aload_n (pc' := 6) 0 dX1_copyFrom_5 rfl rfl rfl ?_
  refine zj_getR (pc' := 9) (j := 16) dX1_copyFrom_6 rfl flX1_9 sh15 rfl ?_
  refine zj_iconst (pc' := 10) dX1_copyFrom_9 rfl kiconst_0 ?_
  refine zj_bipush (pc' := 12) dX1_copyFrom_10 rfl kbipush_36 ?_
  obtain ⟨r0_0v1, er0_0v1⟩ : ∃ z, z = (va_cpy r1_0 r0_0 0 0 36) := ⟨_, rfl⟩
  have hy := zlet_at er0_0v1 hy
  refine zj_cpI (pc' := 15) (N := (zui M 16 r0_0v1)) dX1_copyFrom_12 rfl mlX1_52 zcpw sh60 sh16 tn0 tn0 tn36 (by decide) (by decide) (Nat.le_of_ble_eq_true rfl) (Nat.le_of_ble_eq_true rfl) e_i60 e_i16 er0_0v1 rfl (Nat.le_of_ble_eq_true rfl) (Nat.le_of_ble_eq_true rfl) ?_
  refine zj_aload_n (pc' := 16) 1 dX1_copyFrom_15 rfl rfl rfl ?_
  refine zj_getR (pc' := 19) (j := 61) dX1_copyFrom_16 rfl flX1_15 sh59 rfl ?_
  refine zj_iconst (pc' := 20) dX1_copyFrom_19 rfl kiconst_0 ?_
  refine zj_aload_n (pc' := 21) 0 dX1_copyFrom_20 rfl rfl rfl ?_
  refine zj_getR (pc' := 24) (j := 17) dX1_copyFrom_21 rfl flX1_15 sh15 rfl ?_
  refine zj_iconst (pc' := 25) dX1_copyFrom_24 rfl kiconst_0 ?_
  refine zj_bipush (pc' := 27) dX1_copyFrom_25 rfl kbipush_6 ?_
  obtain ⟨r0_1v2, er0_1v2⟩ : ∃ z, z = (va_cpy r1_1 r0_1 0 0 6) := ⟨_, rfl⟩
  have hy := zlet_at er0_1v2 hy
  refine zj_cpI (pc' := 30) (N := (zui (zui M 16 r0_0v1) 17 r0_1v2)) dX1_copyFrom_27 rfl mlX1_52 zcpw sh61 sh17 tn0 tn0 tn6 (by decide) (by decide) (Nat.le_of_ble_eq_true rfl) (Nat.le_of_ble_eq_true rfl) (zr_n rfl e_i61) (zr_n rfl e_i17) er0_1v2 rfl (Nat.le_of_ble_eq_true rfl) (Nat.le_of_ble_eq_true rfl) ?_
  refine zj_aload_n (pc' := 31) 1 dX1_copyFrom_30 rfl rfl rfl ?_
  refine zj_getR (pc' := 34) (j := 62) dX1_copyFrom_31 rfl flX1_18 sh59 rfl ?_
  refine zj_iconst (pc' := 35) dX1_copyFrom_34 rfl kiconst_0 ?_
  refine zj_aload_n (pc' := 36) 0 dX1_copyFrom_35 rfl rfl rfl ?_
  refine zj_getR (pc' := 39) (j := 18) dX1_copyFrom_36 rfl flX1_18 sh15 rfl ?_
  refine zj_iconst (pc' := 40) dX1_copyFrom_39 rfl kiconst_0 ?_
  refine zj_bipush (pc' := 42) dX1_copyFrom_40 rfl kbipush_6 ?_
  obtain ⟨r0_2v3, er0_2v3⟩ : ∃ z, z = (va_cpy r1_2 r0_2 0 0 6) := ⟨_, rfl⟩
  have hy := zlet_at er0_2v3 hy
  refine zj_cpI (pc' := 45) (N := (zui (zui (zui M 16 r0_0v1) 17 r0_1v2) 18 r0_2v3)) dX1_copyFrom_42 rfl mlX1_52 zcpw sh62 sh18 tn0 tn0 tn6 (by decide) (by decide) (Nat.le_of_ble_eq_true rfl) (Nat.le_of_ble_eq_true rfl) (zr_n rfl (zr_n rfl e_i62)) (zr_n rfl (zr_n rfl e_i18)) er0_2v3 rfl (Nat.le_of_ble_eq_true rfl) (Nat.le_of_ble_eq_true rfl) ?_
  refine zj_aload_n (pc' := 46) 1 dX1_copyFrom_45 rfl rfl rfl ?_
  refine zj_getR (pc' := 49) (j := 63) dX1_copyFrom_46 rfl flX1_21 sh59 rfl ?_
  refine zj_iconst (pc' := 50) dX1_copyFrom_49 rfl kiconst_0 ?_
  refine zj_aload_n (pc' := 51) 0 dX1_copyFrom_50 rfl rfl rfl ?_
  refine zj_getR (pc' := 54) (j := 19) dX1_copyFrom_51 rfl flX1_21 sh15 rfl ?_
  refine zj_iconst (pc' := 55) dX1_copyFrom_54 rfl kiconst_0 ?_
  refine zj_bipush (pc' := 57) dX1_copyFrom_55 rfl kbipush_6 ?_
  obtain ⟨r0_3v4, er0_3v4⟩ : ∃ z, z = (va_cpy r1_3 r0_3 0 0 6) := ⟨_, rfl⟩
  have hy := zlet_at er0_3v4 hy
  refine zj_cpI (pc' := 60) (N := (zui (zui (zui (zui M 16 r0_0v1) 17 r0_1v2) 18 r0_2v3) 19 r0_3v4)) dX1_copyFrom_57 rfl mlX1_52 zcpw sh63 sh19 tn0 tn0 tn6 (by decide) (by decide) (Nat.le_of_ble_eq_true rfl) (Nat.le_of_ble_eq_true rfl) (zr_n rfl (zr_n rfl (zr_n rfl e_i63))) (zr_n rfl (zr_n rfl (zr_n rfl e_i19))) er0_3v4 rfl (Nat.le_of_ble_eq_true rfl) (Nat.le_of_ble_eq_true rfl) ?_
  refine zj_aload_n (pc' := 61) 1 dX1_copyFrom_60 rfl rfl rfl ?_
  refine zj_getR (pc' := 64) (j := 64) dX1_copyFrom_61 rfl flX1_24 sh59 rfl ?_
  refine zj_iconst (pc' := 65) dX1_copyFrom_64 rfl kiconst_0 ?_
  refine zj_aload_n (pc' := 66) 0 dX1_copyFrom_65 rfl rfl rfl ?_
  refine zj_getR (pc' := 69) (j := 20) dX1_copyFrom_66 rfl flX1_24 sh15 rfl ?_
  refine zj_iconst (pc' := 70) dX1_copyFrom_69 rfl kiconst_0 ?_
  refine zj_bipush (pc' := 72) dX1_copyFrom_70 rfl kbipush_48 ?_
  obtain ⟨r0_4v5, er0_4v5⟩ : ∃ z, z = (va_cpy r1_4 r0_4 0 0 48) := ⟨_, rfl⟩
  have hy := zlet_at er0_4v5 hy
  refine zj_cpI (pc' := 75) (N := (zui (zui (zui (zui (zui M 16 r0_0v1) 17 r0_1v2) 18 r0_2v3) 19 r0_3v4) 20 r0_4v5)) dX1_copyFrom_72 rfl mlX1_52 zcpw sh64 sh20 tn0 tn0 tn48 (by decide) (by decide) (Nat.le_of_ble_eq_true rfl) (Nat.le_of_ble_eq_true rfl) (zr_n rfl (zr_n rfl (zr_n rfl (zr_n rfl e_i64)))) (zr_n rfl (zr_n rfl (zr_n rfl (zr_n rfl e_i20)))) er0_4v5 rfl (Nat.le_of_ble_eq_true rfl) (Nat.le_of_ble_eq_true rfl) ?_
  refine zj_aload_n (pc' := 76) 1 dX1_copyFrom_75 rfl rfl rfl ?_
  refine zj_getR (pc' := 79) (j := 65) dX1_copyFrom_76 rfl flX1_27 sh59 rfl ?_
  refine zj_iconst (pc' := 80) dX1_copyFrom_79 rfl kiconst_0 ?_
  refine zj_aload_n (pc' := 81) 0 dX1_copyFrom_80 rfl rfl rfl ?_
  refine zj_getR (pc' := 84) (j := 21) dX1_copyFrom_81 rfl flX1_27 sh15 rfl ?_
  refine zj_iconst (pc' := 85) dX1_copyFrom_84 rfl kiconst_0 ?_
  refine zj_bipush (pc' := 87) dX1_copyFrom_85 rfl kbipush_6 ?_
  obtain ⟨r0_5v6, er0_5v6⟩ : ∃ z, z = (va_cpy r1_5 r0_5 0 0 6) := ⟨_, rfl⟩
  have hy := zlet_at er0_5v6 hy
  refine zj_cpI (pc' := 90) (N := (zui (zui (zui (zui (zui (zui M 16 r0_0v1) 17 r0_1v2) 18 r0_2v3) 19 r0_3v4) 20 r0_4v5) 21 r0_5v6)) dX1_copyFrom_87 rfl mlX1_52 zcpw sh65 sh21 tn0 tn0 tn6 (by decide) (by decide) (Nat.le_of_ble_eq_true rfl) (Nat.le_of_ble_eq_true rfl) (zr_n rfl (zr_n rfl (zr_n rfl (zr_n rfl (zr_n rfl e_i65))))) (zr_n rfl (zr_n rfl (zr_n rfl (zr_n rfl (zr_n rfl e_i21))))) er0_5v6 rfl (Nat.le_of_ble_eq_true rfl) (Nat.le_of_ble_eq_true rfl) ?_
  refine zj_aload_n (pc' := 91) 1 dX1_copyFrom_90 rfl rfl rfl ?_
  refine zj_getR (pc' := 94) (j := 66) dX1_copyFrom_91 rfl flX1_30 sh59 rfl ?_
  refine zj_iconst (pc' := 95) dX1_copyFrom_94 rfl kiconst_0 ?_
  refine zj_aload_n (pc' := 96) 0 dX1_copyFrom_95 rfl rfl rfl ?_
  refine zj_getR (pc' := 99) (j := 22) dX1_copyFrom_96 rfl flX1_30 sh15 rfl ?_
  refine zj_iconst (pc' := 100) dX1_copyFrom_99 rfl kiconst_0 ?_
  refine zj_bipush (pc' := 102) dX1_copyFrom_100 rfl kbipush_8 ?_
  obtain ⟨r0_6v7, er0_6v7⟩ : ∃ z, z = (va_cpy r1_6 r0_6 0 0 8) := ⟨_, rfl⟩
  have hy := zlet_at er0_6v7 hy
  refine zj_cpI (pc' := 105) (N := (zui (zui (zui (zui (zui (zui (zui M 16 r0_0v1) 17 r0_1v2) 18 r0_2v3) 19 r0_3v4) 20 r0_4v5) 21 r0_5v6) 22 r0_6v7)) dX1_copyFrom_102 rfl mlX1_52 zcpw sh66 sh22 tn0 tn0 tn8 (by decide) (by decide) (Nat.le_of_ble_eq_true rfl) (Nat.le_of_ble_eq_true rfl) (zr_n rfl (zr_n rfl (zr_n rfl (zr_n rfl (zr_n rfl (zr_n rfl e_i66)))))) (zr_n rfl (zr_n rfl (zr_n rfl (zr_n rfl (zr_n rfl (zr_n rfl e_i22)))))) er0_6v7 rfl (Nat.le_of_ble_eq_true rfl) (Nat.le_of_ble_eq_true rfl) ?_
  refine zj_aload_n (pc' := 106) 1 dX1_copyFrom_105 rfl rfl rfl ?_
  refine zj_getR (pc' := 109) (j := 67) dX1_copyFrom_106 rfl flX1_33 sh59 rfl ?_
  refine zj_iconst (pc' := 110) dX1_copyFrom_109 rfl kiconst_0 ?_
  refine zj_aload_n (pc' := 111) 0 dX1_copyFrom_110 rfl rfl rfl ?_
  refine zj_getR (pc' := 114) (j := 23) dX1_copyFrom_111 rfl flX1_33 sh15 rfl ?_
  refine zj_iconst (pc' := 115) dX1_copyFrom_114 rfl kiconst_0 ?_
  refine zj_bipush (pc' := 117) dX1_copyFrom_115 rfl kbipush_8 ?_
  obtain ⟨r0_7v8, er0_7v8⟩ : ∃ z, z = (va_cpy r1_7 r0_7 0 0 8) := ⟨_, rfl⟩
  have hy := zlet_at er0_7v8 hy
  refine zj_cpI (pc' := 120) (N := (zui (zui (zui (zui (zui (zui (zui (zui M 16 r0_0v1) 17 r0_1v2) 18 r0_2v3) 19 r0_3v4) 20 r0_4v5) 21 r0_5v6) 22 r0_6v7) 23 r0_7v8)) dX1_copyFrom_117 rfl mlX1_52 zcpw sh67 sh23 tn0 tn0 tn8 (by decide) (by decide) (Nat.le_of_ble_eq_true rfl) (Nat.le_of_ble_eq_true rfl) (zr_n rfl (zr_n rfl (zr_n rfl (zr_n rfl (zr_n rfl (zr_n rfl (zr_n rfl e_i67))))))) (zr_n rfl (zr_n rfl (zr_n rfl (zr_n rfl (zr_n rfl (zr_n rfl (zr_n rfl e_i23))))))) er0_7v8 rfl (Nat.le_of_ble_eq_true rfl) (Nat.le_of_ble_eq_true rfl) ?_
  refine zj_aload_n (pc' := 121) 0 dX1_copyFrom_120 rfl rfl rfl ?_
  refine zj_aload_n (pc' := 122) 1 dX1_copyFrom_121 rfl rfl rfl ?_
  refine zj_fI (pc' := 125) dX1_copyFrom_122 rfl flX1_45 sh59 rfl (zr_n rfl (zr_n rfl (zr_n rfl (zr_n rfl (zr_n rfl (zr_n rfl (zr_n rfl (zr_n rfl e_i59)))))))) rfl ?_
  obtain ⟨r0v9, er0v9⟩ : ∃ z, z = (zup r0 9 (r1 9)) := ⟨_, rfl⟩
  have hy := zlet_at er0v9 hy
  refine zj_pI (pc' := 128) (N := (zui (zui (zui (zui (zui (zui (zui (zui (zui M 15 r0v9) 16 r0_0v1) 17 r0_1v2) 18 r0_2v3) 19 r0_3v4) 20 r0_4v5) 21 r0_5v6) 22 r0_6v7) 23 r0_7v8)) dX1_copyFrom_125 rfl fpX1_45 sh15 rfl (zr_n rfl (zr_n rfl (zr_n rfl (zr_n rfl (zr_n rfl (zr_n rfl (zr_n rfl (zr_n rfl e_i15)))))))) er0v9 (zm_n rfl (zm_n rfl (zm_n rfl (zm_n rfl (zm_n rfl (zm_n rfl (zm_n rfl (zm_n rfl rfl)))))))) ?_
  refine zj_aload_n (pc' := 129) 0 dX1_copyFrom_128 rfl rfl rfl ?_
  refine zj_aload_n (pc' := 130) 1 dX1_copyFrom_129 rfl rfl rfl ?_
  refine zj_fI (pc' := 133) dX1_copyFrom_130 rfl flX1_49 sh59 rfl (zr_n rfl (zr_n rfl (zr_n rfl (zr_n rfl (zr_n rfl (zr_n rfl (zr_n rfl (zr_n rfl (zr_n rfl e_i59))))))))) rfl ?_
  obtain ⟨r0v10, er0v10⟩ : ∃ z, z = (zup r0v9 10 (r1 10)) := ⟨_, rfl⟩
  have hy := zlet_at er0v10 hy
  refine zj_pI (pc' := 136) (N := (zui (zui (zui (zui (zui (zui (zui (zui (zui M 15 r0v10) 16 r0_0v1) 17 r0_1v2) 18 r0_2v3) 19 r0_3v4) 20 r0_4v5) 21 r0_5v6) 22 r0_6v7) 23 r0_7v8)) dX1_copyFrom_133 rfl fpX1_49 sh15 rfl (zr_n rfl (zr_n rfl (zr_n rfl (zr_n rfl (zr_n rfl (zr_n rfl (zr_n rfl (zr_n rfl zr_s)))))))) er0v10 (zm_n rfl (zm_n rfl (zm_n rfl (zm_n rfl (zm_n rfl (zm_n rfl (zm_n rfl (zm_n rfl zm_s)))))))) ?_
  have e9 := Option.some.inj hy
  subst e9
  exact zj_vret dX1_copyFrom_136 rfl hq
set_option maxRecDepth 20000 in
theorem LX1_copyFrom_15_59 (Γ : zG) (M : zM) (r0 : Nat → Int32) (r0_0 : Nat → Int32) (r0_1 : Nat → Int32) (r0_2 : Nat → Int32) (r0_3 : Nat → Int32) (r0_4 : Nat → Int32) (r0_5 : Nat → Int32) (r0_6 : Nat → Int32) (r0_7 : Nat → Int32) (r1 : Nat → Int32) (r1_0 : Nat → Int32) (r1_1 : Nat → Int32) (r1_2 : Nat → Int32) (r1_3 : Nat → Int32) (r1_4 : Nat → Int32) (r1_5 : Nat → Int32) (r1_6 : Nat → Int32) (r1_7 : Nat → Int32) (e_i15 : M.1 15 = r0) (e_i16 : M.1 16 = r0_0) (e_i17 : M.1 17 = r0_1) (e_i18 : M.1 18 = r0_2) (e_i19 : M.1 19 = r0_3) (e_i20 : M.1 20 = r0_4) (e_i21 : M.1 21 = r0_5) (e_i22 : M.1 22 = r0_6) (e_i23 : M.1 23 = r0_7) (e_i59 : M.1 59 = r1) (e_i60 : M.1 60 = r1_0) (e_i61 : M.1 61 = r1_1) (e_i62 : M.1 62 = r1_2) (e_i63 : M.1 63 = r1_3) (e_i64 : M.1 64 = r1_4) (e_i65 : M.1 65 = r1_5) (e_i66 : M.1 66 = r1_6) (e_i67 : M.1 67 = r1_7)  {res : (Nat → Int32) × (Nat → Int32) × (Nat → Int32) × (Nat → Int32) × (Nat → Int32) × (Nat → Int32) × (Nat → Int32) × (Nat → Int32) × (Nat → Int32)} (hy : (fDy_copyFrom r0 r0_0 r0_1 r0_2 r0_3 r0_4 r0_5 r0_6 r0_7 r1 r1_0 r1_1 r1_2 r1_3 r1_4 r1_5 r1_6 r1_7) = some res) : zK Γ 2 YX1_copyFrom [.ref (zad Γ 15), .ref (zad Γ 59)] M (fun v N => v = none ∧ N = (zui (zui (zui (zui (zui (zui (zui (zui (zui M 15 res.1) 16 res.2.1) 17 res.2.2.1) 18 res.2.2.2.1) 19 res.2.2.2.2.1) 20 res.2.2.2.2.2.1) 21 res.2.2.2.2.2.2.1) 22 res.2.2.2.2.2.2.2.1) 23 res.2.2.2.2.2.2.2.2)) :=
  zK_of (by decide) (Nat.le_of_ble_eq_true rfl) (TX1_copyFrom_15_59 Γ M r0 r0_0 r0_1 r0_2 r0_3 r0_4 r0_5 r0_6 r0_7 r1 r1_0 r1_1 r1_2 r1_3 r1_4 r1_5 r1_6 r1_7 e_i15 e_i16 e_i17 e_i18 e_i19 e_i20 e_i21 e_i22 e_i23 e_i59 e_i60 e_i61 e_i62 e_i63 e_i64 e_i65 e_i66 e_i67 hy ⟨rfl, rfl⟩)


set_option maxRecDepth 20000 in
theorem TX1_copyFrom_15_49 (Γ : zG) {Q : Option Value → zM → Prop} (M : zM) (r0 : Nat → Int32) (r0_0 : Nat → Int32) (r0_1 : Nat → Int32) (r0_2 : Nat → Int32) (r0_3 : Nat → Int32) (r0_4 : Nat → Int32) (r0_5 : Nat → Int32) (r0_6 : Nat → Int32) (r0_7 : Nat → Int32) (r1 : Nat → Int32) (r1_0 : Nat → Int32) (r1_1 : Nat → Int32) (r1_2 : Nat → Int32) (r1_3 : Nat → Int32) (r1_4 : Nat → Int32) (r1_5 : Nat → Int32) (r1_6 : Nat → Int32) (r1_7 : Nat → Int32) (e_i15 : M.1 15 = r0) (e_i16 : M.1 16 = r0_0) (e_i17 : M.1 17 = r0_1) (e_i18 : M.1 18 = r0_2) (e_i19 : M.1 19 = r0_3) (e_i20 : M.1 20 = r0_4) (e_i21 : M.1 21 = r0_5) (e_i22 : M.1 22 = r0_6) (e_i23 : M.1 23 = r0_7) (e_i49 : M.1 49 = r1) (e_i50 : M.1 50 = r1_0) (e_i51 : M.1 51 = r1_1) (e_i52 : M.1 52 = r1_2) (e_i53 : M.1 53 = r1_3) (e_i54 : M.1 54 = r1_4) (e_i55 : M.1 55 = r1_5) (e_i56 : M.1 56 = r1_6) (e_i57 : M.1 57 = r1_7)  {res : (Nat → Int32) × (Nat → Int32) × (Nat → Int32) × (Nat → Int32) × (Nat → Int32) × (Nat → Int32) × (Nat → Int32) × (Nat → Int32) × (Nat → Int32)} (hy : (fDy_copyFrom r0 r0_0 r0_1 r0_2 r0_3 r0_4 r0_5 r0_6 r0_7 r1 r1_0 r1_1 r1_2 r1_3 r1_4 r1_5 r1_6 r1_7) = some res) (hq : Q none (zui (zui (zui (zui (zui (zui (zui (zui (zui M 15 res.1) 16 res.2.1) 17 res.2.2.1) 18 res.2.2.2.1) 19 res.2.2.2.2.1) 20 res.2.2.2.2.2.1) 21 res.2.2.2.2.2.2.1) 22 res.2.2.2.2.2.2.2.1) 23 res.2.2.2.2.2.2.2.2)) : zR Γ 2 YX1_copyFrom 0 [(0, .ref (zad Γ 15)), (1, .ref (zad Γ 49))] [] M Q := by
  unfold fDy_copyFrom at hy
  refine zj_aload_n (pc' := 1) 1 dX1_copyFrom_0 rfl rfl rfl ?_
  refine zj_getR (pc' := 4) (j := 50) dX1_copyFrom_1 rfl flX1_9 sh49 rfl ?_
  refine zj_iconst (pc' := 5) dX1_copyFrom_4 rfl kiconst_0 ?_
  refine zj_aload_n (pc' := 6) 0 dX1_copyFrom_5 rfl rfl rfl ?_
  refine zj_getR (pc' := 9) (j := 16) dX1_copyFrom_6 rfl flX1_9 sh15 rfl ?_
  refine zj_iconst (pc' := 10) dX1_copyFrom_9 rfl kiconst_0 ?_
  refine zj_bipush (pc' := 12) dX1_copyFrom_10 rfl kbipush_36 ?_
  obtain ⟨r0_0v1, er0_0v1⟩ : ∃ z, z = (va_cpy r1_0 r0_0 0 0 36) := ⟨_, rfl⟩
  have hy := zlet_at er0_0v1 hy
  refine zj_cpI (pc' := 15) (N := (zui M 16 r0_0v1)) dX1_copyFrom_12 rfl mlX1_52 zcpw sh50 sh16 tn0 tn0 tn36 (by decide) (by decide) (Nat.le_of_ble_eq_true rfl) (Nat.le_of_ble_eq_true rfl) e_i50 e_i16 er0_0v1 rfl (Nat.le_of_ble_eq_true rfl) (Nat.le_of_ble_eq_true rfl) ?_
  refine zj_aload_n (pc' := 16) 1 dX1_copyFrom_15 rfl rfl rfl ?_
  refine zj_getR (pc' := 19) (j := 51) dX1_copyFrom_16 rfl flX1_15 sh49 rfl ?_
  refine zj_iconst (pc' := 20) dX1_copyFrom_19 rfl kiconst_0 ?_
  refine zj_aload_n (pc' := 21) 0 dX1_copyFrom_20 rfl rfl rfl ?_
  refine zj_getR (pc' := 24) (j := 17) dX1_copyFrom_21 rfl flX1_15 sh15 rfl ?_
  refine zj_iconst (pc' := 25) dX1_copyFrom_24 rfl kiconst_0 ?_
  refine zj_bipush (pc' := 27) dX1_copyFrom_25 rfl kbipush_6 ?_
  obtain ⟨r0_1v2, er0_1v2⟩ : ∃ z, z = (va_cpy r1_1 r0_1 0 0 6) := ⟨_, rfl⟩
  have hy := zlet_at er0_1v2 hy
  refine zj_cpI (pc' := 30) (N := (zui (zui M 16 r0_0v1) 17 r0_1v2)) dX1_copyFrom_27 rfl mlX1_52 zcpw sh51 sh17 tn0 tn0 tn6 (by decide) (by decide) (Nat.le_of_ble_eq_true rfl) (Nat.le_of_ble_eq_true rfl) (zr_n rfl e_i51) (zr_n rfl e_i17) er0_1v2 rfl (Nat.le_of_ble_eq_true rfl) (Nat.le_of_ble_eq_true rfl) ?_
  refine zj_aload_n (pc' := 31) 1 dX1_copyFrom_30 rfl rfl rfl ?_
  refine zj_getR (pc' := 34) (j := 52) dX1_copyFrom_31 rfl flX1_18 sh49 rfl ?_
  refine zj_iconst (pc' := 35) dX1_copyFrom_34 rfl kiconst_0 ?_
  refine zj_aload_n (pc' := 36) 0 dX1_copyFrom_35 rfl rfl rfl ?_
  refine zj_getR (pc' := 39) (j := 18) dX1_copyFrom_36 rfl flX1_18 sh15 rfl ?_
  refine zj_iconst (pc' := 40) dX1_copyFrom_39 rfl kiconst_0 ?_
  refine zj_bipush (pc' := 42) dX1_copyFrom_40 rfl kbipush_6 ?_
  obtain ⟨r0_2v3, er0_2v3⟩ : ∃ z, z = (va_cpy r1_2 r0_2 0 0 6) := ⟨_, rfl⟩
  have hy := zlet_at er0_2v3 hy
  refine zj_cpI (pc' := 45) (N := (zui (zui (zui M 16 r0_0v1) 17 r0_1v2) 18 r0_2v3)) dX1_copyFrom_42 rfl mlX1_52 zcpw sh52 sh18 tn0 tn0 tn6 (by decide) (by decide) (Nat.le_of_ble_eq_true rfl) (Nat.le_of_ble_eq_true rfl) (zr_n rfl (zr_n rfl e_i52)) (zr_n rfl (zr_n rfl e_i18)) er0_2v3 rfl (Nat.le_of_ble_eq_true rfl) (Nat.le_of_ble_eq_true rfl) ?_
  refine zj_aload_n (pc' := 46) 1 dX1_copyFrom_45 rfl rfl rfl ?_
  refine zj_getR (pc' := 49) (j := 53) dX1_copyFrom_46 rfl flX1_21 sh49 rfl ?_
  refine zj_iconst (pc' := 50) dX1_copyFrom_49 rfl kiconst_0 ?_
  refine zj_aload_n (pc' := 51) 0 dX1_copyFrom_50 rfl rfl rfl ?_
  refine zj_getR (pc' := 54) (j := 19) dX1_copyFrom_51 rfl flX1_21 sh15 rfl ?_
  refine zj_iconst (pc' := 55) dX1_copyFrom_54 rfl kiconst_0 ?_
  refine zj_bipush (pc' := 57) dX1_copyFrom_55 rfl kbipush_6 ?_
  obtain ⟨r0_3v4, er0_3v4⟩ : ∃ z, z = (va_cpy r1_3 r0_3 0 0 6) := ⟨_, rfl⟩
  have hy := zlet_at er0_3v4 hy
  refine zj_cpI (pc' := 60) (N := (zui (zui (zui (zui M 16 r0_0v1) 17 r0_1v2) 18 r0_2v3) 19 r0_3v4)) dX1_copyFrom_57 rfl mlX1_52 zcpw sh53 sh19 tn0 tn0 tn6 (by decide) (by decide) (Nat.le_of_ble_eq_true rfl) (Nat.le_of_ble_eq_true rfl) (zr_n rfl (zr_n rfl (zr_n rfl e_i53))) (zr_n rfl (zr_n rfl (zr_n rfl e_i19))) er0_3v4 rfl (Nat.le_of_ble_eq_true rfl) (Nat.le_of_ble_eq_true rfl) ?_
  refine zj_aload_n (pc' := 61) 1 dX1_copyFrom_60 rfl rfl rfl ?_
  refine zj_getR (pc' := 64) (j := 54) dX1_copyFrom_61 rfl flX1_24 sh49 rfl ?_
  refine zj_iconst (pc' := 65) dX1_copyFrom_64 rfl kiconst_0 ?_
  refine zj_aload_n (pc' := 66) 0 dX1_copyFrom_65 rfl rfl rfl ?_
  refine zj_getR (pc' := 69) (j := 20) dX1_copyFrom_66 rfl flX1_24 sh15 rfl ?_
  refine zj_iconst (pc' := 70) dX1_copyFrom_69 rfl kiconst_0 ?_
  refine zj_bipush (pc' := 72) dX1_copyFrom_70 rfl kbipush_48 ?_
  obtain ⟨r0_4v5, er0_4v5⟩ : ∃ z, z = (va_cpy r1_4 r0_4 0 0 48) := ⟨_, rfl⟩
  have hy := zlet_at er0_4v5 hy
  refine zj_cpI (pc' := 75) (N := (zui (zui (zui (zui (zui M 16 r0_0v1) 17 r0_1v2) 18 r0_2v3) 19 r0_3v4) 20 r0_4v5)) dX1_copyFrom_72 rfl mlX1_52 zcpw sh54 sh20 tn0 tn0 tn48 (by decide) (by decide) (Nat.le_of_ble_eq_true rfl) (Nat.le_of_ble_eq_true rfl) (zr_n rfl (zr_n rfl (zr_n rfl (zr_n rfl e_i54)))) (zr_n rfl (zr_n rfl (zr_n rfl (zr_n rfl e_i20)))) er0_4v5 rfl (Nat.le_of_ble_eq_true rfl) (Nat.le_of_ble_eq_true rfl) ?_
  refine zj_aload_n (pc' := 76) 1 dX1_copyFrom_75 rfl rfl rfl ?_
  refine zj_getR (pc' := 79) (j := 55) dX1_copyFrom_76 rfl flX1_27 sh49 rfl ?_
  refine zj_iconst (pc' := 80) dX1_copyFrom_79 rfl kiconst_0 ?_
  refine zj_aload_n (pc' := 81) 0 dX1_copyFrom_80 rfl rfl rfl ?_
  refine zj_getR (pc' := 84) (j := 21) dX1_copyFrom_81 rfl flX1_27 sh15 rfl ?_
  refine zj_iconst (pc' := 85) dX1_copyFrom_84 rfl kiconst_0 ?_
  refine zj_bipush (pc' := 87) dX1_copyFrom_85 rfl kbipush_6 ?_
  obtain ⟨r0_5v6, er0_5v6⟩ : ∃ z, z = (va_cpy r1_5 r0_5 0 0 6) := ⟨_, rfl⟩
  have hy := zlet_at er0_5v6 hy
  refine zj_cpI (pc' := 90) (N := (zui (zui (zui (zui (zui (zui M 16 r0_0v1) 17 r0_1v2) 18 r0_2v3) 19 r0_3v4) 20 r0_4v5) 21 r0_5v6)) dX1_copyFrom_87 rfl mlX1_52 zcpw sh55 sh21 tn0 tn0 tn6 (by decide) (by decide) (Nat.le_of_ble_eq_true rfl) (Nat.le_of_ble_eq_true rfl) (zr_n rfl (zr_n rfl (zr_n rfl (zr_n rfl (zr_n rfl e_i55))))) (zr_n rfl (zr_n rfl (zr_n rfl (zr_n rfl (zr_n rfl e_i21))))) er0_5v6 rfl (Nat.le_of_ble_eq_true rfl) (Nat.le_of_ble_eq_true rfl) ?_
  refine zj_aload_n (pc' := 91) 1 dX1_copyFrom_90 rfl rfl rfl ?_
  refine zj_getR (pc' := 94) (j := 56) dX1_copyFrom_91 rfl flX1_30 sh49 rfl ?_
  refine zj_iconst (pc' := 95) dX1_copyFrom_94 rfl kiconst_0 ?_
  refine zj_aload_n (pc' := 96) 0 dX1_copyFrom_95 rfl rfl rfl ?_
  refine zj_getR (pc' := 99) (j := 22) dX1_copyFrom_96 rfl flX1_30 sh15 rfl ?_
  refine zj_iconst (pc' := 100) dX1_copyFrom_99 rfl kiconst_0 ?_
  refine zj_bipush (pc' := 102) dX1_copyFrom_100 rfl kbipush_8 ?_
  obtain ⟨r0_6v7, er0_6v7⟩ : ∃ z, z = (va_cpy r1_6 r0_6 0 0 8) := ⟨_, rfl⟩
  have hy := zlet_at er0_6v7 hy
  refine zj_cpI (pc' := 105) (N := (zui (zui (zui (zui (zui (zui (zui M 16 r0_0v1) 17 r0_1v2) 18 r0_2v3) 19 r0_3v4) 20 r0_4v5) 21 r0_5v6) 22 r0_6v7)) dX1_copyFrom_102 rfl mlX1_52 zcpw sh56 sh22 tn0 tn0 tn8 (by decide) (by decide) (Nat.le_of_ble_eq_true rfl) (Nat.le_of_ble_eq_true rfl) (zr_n rfl (zr_n rfl (zr_n rfl (zr_n rfl (zr_n rfl (zr_n rfl e_i56)))))) (zr_n rfl (zr_n rfl (zr_n rfl (zr_n rfl (zr_n rfl (zr_n rfl e_i22)))))) er0_6v7 rfl (Nat.le_of_ble_eq_true rfl) (Nat.le_of_ble_eq_true rfl) ?_
  refine zj_aload_n (pc' := 106) 1 dX1_copyFrom_105 rfl rfl rfl ?_
  refine zj_getR (pc' := 109) (j := 57) dX1_copyFrom_106 rfl flX1_33 sh49 rfl ?_
  refine zj_iconst (pc' := 110) dX1_copyFrom_109 rfl kiconst_0 ?_
  refine zj_aload_n (pc' := 111) 0 dX1_copyFrom_110 rfl rfl rfl ?_
  refine zj_getR (pc' := 114) (j := 23) dX1_copyFrom_111 rfl flX1_33 sh15 rfl ?_
  refine zj_iconst (pc' := 115) dX1_copyFrom_114 rfl kiconst_0 ?_
  refine zj_bipush (pc' := 117) dX1_copyFrom_115 rfl kbipush_8 ?_
  obtain ⟨r0_7v8, er0_7v8⟩ : ∃ z, z = (va_cpy r1_7 r0_7 0 0 8) := ⟨_, rfl⟩
  have hy := zlet_at er0_7v8 hy
  refine zj_cpI (pc' := 120) (N := (zui (zui (zui (zui (zui (zui (zui (zui M 16 r0_0v1) 17 r0_1v2) 18 r0_2v3) 19 r0_3v4) 20 r0_4v5) 21 r0_5v6) 22 r0_6v7) 23 r0_7v8)) dX1_copyFrom_117 rfl mlX1_52 zcpw sh57 sh23 tn0 tn0 tn8 (by decide) (by decide) (Nat.le_of_ble_eq_true rfl) (Nat.le_of_ble_eq_true rfl) (zr_n rfl (zr_n rfl (zr_n rfl (zr_n rfl (zr_n rfl (zr_n rfl (zr_n rfl e_i57))))))) (zr_n rfl (zr_n rfl (zr_n rfl (zr_n rfl (zr_n rfl (zr_n rfl (zr_n rfl e_i23))))))) er0_7v8 rfl (Nat.le_of_ble_eq_true rfl) (Nat.le_of_ble_eq_true rfl) ?_
  refine zj_aload_n (pc' := 121) 0 dX1_copyFrom_120 rfl rfl rfl ?_
  refine zj_aload_n (pc' := 122) 1 dX1_copyFrom_121 rfl rfl rfl ?_
  refine zj_fI (pc' := 125) dX1_copyFrom_122 rfl flX1_45 sh49 rfl (zr_n rfl (zr_n rfl (zr_n rfl (zr_n rfl (zr_n rfl (zr_n rfl (zr_n rfl (zr_n rfl e_i49)))))))) rfl ?_
  obtain ⟨r0v9, er0v9⟩ : ∃ z, z = (zup r0 9 (r1 9)) := ⟨_, rfl⟩
  have hy := zlet_at er0v9 hy
  refine zj_pI (pc' := 128) (N := (zui (zui (zui (zui (zui (zui (zui (zui (zui M 15 r0v9) 16 r0_0v1) 17 r0_1v2) 18 r0_2v3) 19 r0_3v4) 20 r0_4v5) 21 r0_5v6) 22 r0_6v7) 23 r0_7v8)) dX1_copyFrom_125 rfl fpX1_45 sh15 rfl (zr_n rfl (zr_n rfl (zr_n rfl (zr_n rfl (zr_n rfl (zr_n rfl (zr_n rfl (zr_n rfl e_i15)))))))) er0v9 (zm_n rfl (zm_n rfl (zm_n rfl (zm_n rfl (zm_n rfl (zm_n rfl (zm_n rfl (zm_n rfl rfl)))))))) ?_
  refine zj_aload_n (pc' := 129) 0 dX1_copyFrom_128 rfl rfl rfl ?_
  refine zj_aload_n (pc' := 130) 1 dX1_copyFrom_129 rfl rfl rfl ?_
  refine zj_fI (pc' := 133) dX1_copyFrom_130 rfl flX1_49 sh49 rfl (zr_n rfl (zr_n rfl (zr_n rfl (zr_n rfl (zr_n rfl (zr_n rfl (zr_n rfl (zr_n rfl (zr_n rfl e_i49))))))))) rfl ?_
  obtain ⟨r0v10, er0v10⟩ : ∃ z, z = (zup r0v9 10 (r1 10)) := ⟨_, rfl⟩
  have hy := zlet_at er0v10 hy
  refine zj_pI (pc' := 136) (N := (zui (zui (zui (zui (zui (zui (zui (zui (zui M 15 r0v10) 16 r0_0v1) 17 r0_1v2) 18 r0_2v3) 19 r0_3v4) 20 r0_4v5) 21 r0_5v6) 22 r0_6v7) 23 r0_7v8)) dX1_copyFrom_133 rfl fpX1_49 sh15 rfl (zr_n rfl (zr_n rfl (zr_n rfl (zr_n rfl (zr_n rfl (zr_n rfl (zr_n rfl (zr_n rfl zr_s)))))))) er0v10 (zm_n rfl (zm_n rfl (zm_n rfl (zm_n rfl (zm_n rfl (zm_n rfl (zm_n rfl (zm_n rfl zm_s)))))))) ?_
  have e9 := Option.some.inj hy
  subst e9
  exact zj_vret dX1_copyFrom_136 rfl hq
set_option maxRecDepth 20000 in
theorem LX1_copyFrom_15_49 (Γ : zG) (M : zM) (r0 : Nat → Int32) (r0_0 : Nat → Int32) (r0_1 : Nat → Int32) (r0_2 : Nat → Int32) (r0_3 : Nat → Int32) (r0_4 : Nat → Int32) (r0_5 : Nat → Int32) (r0_6 : Nat → Int32) (r0_7 : Nat → Int32) (r1 : Nat → Int32) (r1_0 : Nat → Int32) (r1_1 : Nat → Int32) (r1_2 : Nat → Int32) (r1_3 : Nat → Int32) (r1_4 : Nat → Int32) (r1_5 : Nat → Int32) (r1_6 : Nat → Int32) (r1_7 : Nat → Int32) (e_i15 : M.1 15 = r0) (e_i16 : M.1 16 = r0_0) (e_i17 : M.1 17 = r0_1) (e_i18 : M.1 18 = r0_2) (e_i19 : M.1 19 = r0_3) (e_i20 : M.1 20 = r0_4) (e_i21 : M.1 21 = r0_5) (e_i22 : M.1 22 = r0_6) (e_i23 : M.1 23 = r0_7) (e_i49 : M.1 49 = r1) (e_i50 : M.1 50 = r1_0) (e_i51 : M.1 51 = r1_1) (e_i52 : M.1 52 = r1_2) (e_i53 : M.1 53 = r1_3) (e_i54 : M.1 54 = r1_4) (e_i55 : M.1 55 = r1_5) (e_i56 : M.1 56 = r1_6) (e_i57 : M.1 57 = r1_7)  {res : (Nat → Int32) × (Nat → Int32) × (Nat → Int32) × (Nat → Int32) × (Nat → Int32) × (Nat → Int32) × (Nat → Int32) × (Nat → Int32) × (Nat → Int32)} (hy : (fDy_copyFrom r0 r0_0 r0_1 r0_2 r0_3 r0_4 r0_5 r0_6 r0_7 r1 r1_0 r1_1 r1_2 r1_3 r1_4 r1_5 r1_6 r1_7) = some res) : zK Γ 2 YX1_copyFrom [.ref (zad Γ 15), .ref (zad Γ 49)] M (fun v N => v = none ∧ N = (zui (zui (zui (zui (zui (zui (zui (zui (zui M 15 res.1) 16 res.2.1) 17 res.2.2.1) 18 res.2.2.2.1) 19 res.2.2.2.2.1) 20 res.2.2.2.2.2.1) 21 res.2.2.2.2.2.2.1) 22 res.2.2.2.2.2.2.2.1) 23 res.2.2.2.2.2.2.2.2)) :=
  zK_of (by decide) (Nat.le_of_ble_eq_true rfl) (TX1_copyFrom_15_49 Γ M r0 r0_0 r0_1 r0_2 r0_3 r0_4 r0_5 r0_6 r0_7 r1 r1_0 r1_1 r1_2 r1_3 r1_4 r1_5 r1_6 r1_7 e_i15 e_i16 e_i17 e_i18 e_i19 e_i20 e_i21 e_i22 e_i23 e_i49 e_i50 e_i51 e_i52 e_i53 e_i54 e_i55 e_i56 e_i57 hy ⟨rfl, rfl⟩)

noncomputable def fHi_takeBack (r0 : Nat → Int32) (r1 : Nat → Int32) (r1_0 : Nat → Int32) (r1_1 : Nat → Int32) (r1_2 : Nat → Int32) (r1_3 : Nat → Int32) (r1_4 : Nat → Int32) (r1_5 : Nat → Int32) (r1_6 : Nat → Int32) (r1_7 : Nat → Int32) (g49 : zM) : Option ((Nat → Int32) × (Nat → Int32) × (Nat → Int32) × (Nat → Int32) × (Nat → Int32) × (Nat → Int32) × (Nat → Int32) × (Nat → Int32) × (Nat → Int32) × (Nat → Int32) × zM) :=
  zlet (zup r0 1 ((((r0 1) + 8) - 1) - (((r0 1) + 8) - 1) / 8 * 8)) (fun (r0v1 : Nat → Int32) =>
  zlet (zup r0v1 2 (if (0 : Int32) < ((r0v1 2) - 1) then ((r0v1 2) - 1) else (0 : Int32))) (fun (r0v2 : Nat → Int32) =>
  (if (r0v2 1) = 0 then
  (fDy_copyFrom r1 r1_0 r1_1 r1_2 r1_3 r1_4 r1_5 r1_6 r1_7 (g49.1 49) (g49.1 50) (g49.1 51) (g49.1 52) (g49.1 53) (g49.1 54) (g49.1 55) (g49.1 56) (g49.1 57)).bind (fun (y4 : (Nat → Int32) × (Nat → Int32) × (Nat → Int32) × (Nat → Int32) × (Nat → Int32) × (Nat → Int32) × (Nat → Int32) × (Nat → Int32) × (Nat → Int32)) =>
  some (r0v2, y4.1, y4.2.1, y4.2.2.1, y4.2.2.2.1, y4.2.2.2.2.1, y4.2.2.2.2.2.1, y4.2.2.2.2.2.2.1, y4.2.2.2.2.2.2.2.1, y4.2.2.2.2.2.2.2.2, g49))
  else
  (if (r0v2 1) = 1 then
  (fDy_copyFrom r1 r1_0 r1_1 r1_2 r1_3 r1_4 r1_5 r1_6 r1_7 (g49.1 59) (g49.1 60) (g49.1 61) (g49.1 62) (g49.1 63) (g49.1 64) (g49.1 65) (g49.1 66) (g49.1 67)).bind (fun (y6 : (Nat → Int32) × (Nat → Int32) × (Nat → Int32) × (Nat → Int32) × (Nat → Int32) × (Nat → Int32) × (Nat → Int32) × (Nat → Int32) × (Nat → Int32)) =>
  some (r0v2, y6.1, y6.2.1, y6.2.2.1, y6.2.2.2.1, y6.2.2.2.2.1, y6.2.2.2.2.2.1, y6.2.2.2.2.2.2.1, y6.2.2.2.2.2.2.2.1, y6.2.2.2.2.2.2.2.2, g49))
  else
  (if (r0v2 1) = 2 then
  (fDy_copyFrom r1 r1_0 r1_1 r1_2 r1_3 r1_4 r1_5 r1_6 r1_7 (g49.1 69) (g49.1 70) (g49.1 71) (g49.1 72) (g49.1 73) (g49.1 74) (g49.1 75) (g49.1 76) (g49.1 77)).bind (fun (y8 : (Nat → Int32) × (Nat → Int32) × (Nat → Int32) × (Nat → Int32) × (Nat → Int32) × (Nat → Int32) × (Nat → Int32) × (Nat → Int32) × (Nat → Int32)) =>
  some (r0v2, y8.1, y8.2.1, y8.2.2.1, y8.2.2.2.1, y8.2.2.2.2.1, y8.2.2.2.2.2.1, y8.2.2.2.2.2.2.1, y8.2.2.2.2.2.2.2.1, y8.2.2.2.2.2.2.2.2, g49))
  else
  (if (r0v2 1) = 3 then
  (fDy_copyFrom r1 r1_0 r1_1 r1_2 r1_3 r1_4 r1_5 r1_6 r1_7 (g49.1 79) (g49.1 80) (g49.1 81) (g49.1 82) (g49.1 83) (g49.1 84) (g49.1 85) (g49.1 86) (g49.1 87)).bind (fun (y10 : (Nat → Int32) × (Nat → Int32) × (Nat → Int32) × (Nat → Int32) × (Nat → Int32) × (Nat → Int32) × (Nat → Int32) × (Nat → Int32) × (Nat → Int32)) =>
  some (r0v2, y10.1, y10.2.1, y10.2.2.1, y10.2.2.2.1, y10.2.2.2.2.1, y10.2.2.2.2.2.1, y10.2.2.2.2.2.2.1, y10.2.2.2.2.2.2.2.1, y10.2.2.2.2.2.2.2.2, g49))
  else
  (if (r0v2 1) = 4 then
  (fDy_copyFrom r1 r1_0 r1_1 r1_2 r1_3 r1_4 r1_5 r1_6 r1_7 (g49.1 89) (g49.1 90) (g49.1 91) (g49.1 92) (g49.1 93) (g49.1 94) (g49.1 95) (g49.1 96) (g49.1 97)).bind (fun (y12 : (Nat → Int32) × (Nat → Int32) × (Nat → Int32) × (Nat → Int32) × (Nat → Int32) × (Nat → Int32) × (Nat → Int32) × (Nat → Int32) × (Nat → Int32)) =>
  some (r0v2, y12.1, y12.2.1, y12.2.2.1, y12.2.2.2.1, y12.2.2.2.2.1, y12.2.2.2.2.2.1, y12.2.2.2.2.2.2.1, y12.2.2.2.2.2.2.2.1, y12.2.2.2.2.2.2.2.2, g49))
  else
  (if (r0v2 1) = 5 then
  (fDy_copyFrom r1 r1_0 r1_1 r1_2 r1_3 r1_4 r1_5 r1_6 r1_7 (g49.1 99) (g49.1 100) (g49.1 101) (g49.1 102) (g49.1 103) (g49.1 104) (g49.1 105) (g49.1 106) (g49.1 107)).bind (fun (y14 : (Nat → Int32) × (Nat → Int32) × (Nat → Int32) × (Nat → Int32) × (Nat → Int32) × (Nat → Int32) × (Nat → Int32) × (Nat → Int32) × (Nat → Int32)) =>
  some (r0v2, y14.1, y14.2.1, y14.2.2.1, y14.2.2.2.1, y14.2.2.2.2.1, y14.2.2.2.2.2.1, y14.2.2.2.2.2.2.1, y14.2.2.2.2.2.2.2.1, y14.2.2.2.2.2.2.2.2, g49))
  else
  (if (r0v2 1) = 6 then
  (fDy_copyFrom r1 r1_0 r1_1 r1_2 r1_3 r1_4 r1_5 r1_6 r1_7 (g49.1 109) (g49.1 110) (g49.1 111) (g49.1 112) (g49.1 113) (g49.1 114) (g49.1 115) (g49.1 116) (g49.1 117)).bind (fun (y16 : (Nat → Int32) × (Nat → Int32) × (Nat → Int32) × (Nat → Int32) × (Nat → Int32) × (Nat → Int32) × (Nat → Int32) × (Nat → Int32) × (Nat → Int32)) =>
  some (r0v2, y16.1, y16.2.1, y16.2.2.1, y16.2.2.2.1, y16.2.2.2.2.1, y16.2.2.2.2.2.1, y16.2.2.2.2.2.2.1, y16.2.2.2.2.2.2.2.1, y16.2.2.2.2.2.2.2.2, g49))
  else
  (if (r0v2 1) = 7 then
  (fDy_copyFrom r1 r1_0 r1_1 r1_2 r1_3 r1_4 r1_5 r1_6 r1_7 (g49.1 119) (g49.1 120) (g49.1 121) (g49.1 122) (g49.1 123) (g49.1 124) (g49.1 125) (g49.1 126) (g49.1 127)).bind (fun (y18 : (Nat → Int32) × (Nat → Int32) × (Nat → Int32) × (Nat → Int32) × (Nat → Int32) × (Nat → Int32) × (Nat → Int32) × (Nat → Int32) × (Nat → Int32)) =>
  some (r0v2, y18.1, y18.2.1, y18.2.2.1, y18.2.2.2.1, y18.2.2.2.2.1, y18.2.2.2.2.2.1, y18.2.2.2.2.2.2.1, y18.2.2.2.2.2.2.2.1, y18.2.2.2.2.2.2.2.2, g49))
  else
  some (r0v2, r1, r1_0, r1_1, r1_2, r1_3, r1_4, r1_5, r1_6, r1_7, g49)))))))))))

set_option maxRecDepth 20000 in
theorem TX3_takeBack_47_15 (Γ : zG) {Q : Option Value → zM → Prop} (M : zM) (r0 : Nat → Int32) (r1 : Nat → Int32) (r1_0 : Nat → Int32) (r1_1 : Nat → Int32) (r1_2 : Nat → Int32) (r1_3 : Nat → Int32) (r1_4 : Nat → Int32) (r1_5 : Nat → Int32) (r1_6 : Nat → Int32) (r1_7 : Nat → Int32) (g49 : zM) (e_i47 : M.1 47 = r0) (e_i15 : M.1 15 = r1) (e_i16 : M.1 16 = r1_0) (e_i17 : M.1 17 = r1_1) (e_i18 : M.1 18 = r1_2) (e_i19 : M.1 19 = r1_3) (e_i20 : M.1 20 = r1_4) (e_i21 : M.1 21 = r1_5) (e_i22 : M.1 22 = r1_6) (e_i23 : M.1 23 = r1_7) (e_h49 : zeq M 49 129 g49)  {res : (Nat → Int32) × (Nat → Int32) × (Nat → Int32) × (Nat → Int32) × (Nat → Int32) × (Nat → Int32) × (Nat → Int32) × (Nat → Int32) × (Nat → Int32) × (Nat → Int32) × zM} (hy : (fHi_takeBack r0 r1 r1_0 r1_1 r1_2 r1_3 r1_4 r1_5 r1_6 r1_7 g49) = some res) (hq : Q none (zub (zui (zui (zui (zui (zui (zui (zui (zui (zui (zui M 15 res.2.1) 16 res.2.2.1) 17 res.2.2.2.1) 18 res.2.2.2.2.1) 19 res.2.2.2.2.2.1) 20 res.2.2.2.2.2.2.1) 21 res.2.2.2.2.2.2.2.1) 22 res.2.2.2.2.2.2.2.2.1) 23 res.2.2.2.2.2.2.2.2.2.1) 47 res.1) 49 129 res.2.2.2.2.2.2.2.2.2.2)) : zR Γ 3 YX3_takeBack 0 [(0, .ref (zad Γ 47)), (1, .ref (zad Γ 15))] [] M Q := by
  unfold fHi_takeBack at hy
  refine zj_mem (N := (zub M 49 129 g49)) (zself_h e_h49 rfl) ?_
  refine zj_aload_n (pc' := 1) 0 dX3_takeBack_0 rfl rfl rfl ?_
  refine zj_aload_n (pc' := 2) 0 dX3_takeBack_1 rfl rfl rfl ?_
  refine zj_fI (pc' := 5) dX3_takeBack_2 rfl flX3_20 sh47 rfl (zr_b rfl e_i47) rfl ?_
  refine zj_bipush (pc' := 7) dX3_takeBack_5 rfl kbipush_8 ?_
  refine zj_iadd (pc' := 8) dX3_takeBack_7 rfl ?_
  refine zj_iconst (pc' := 9) dX3_takeBack_8 rfl kiconst_1 ?_
  refine zj_isub (pc' := 10) dX3_takeBack_9 rfl ?_
  refine zj_bipush (pc' := 12) dX3_takeBack_10 rfl kbipush_8 ?_
  refine zj_irem (pc' := 13) dX3_takeBack_12 rfl (by decide) ?_
  obtain ⟨r0v1, er0v1⟩ : ∃ z, z = (zup r0 1 ((((r0 1) + 8) - 1) - (((r0 1) + 8) - 1) / 8 * 8)) := ⟨_, rfl⟩
  have hy := zlet_at er0v1 hy
  refine zj_pI (pc' := 16) (N := (zub (zui M 47 r0v1) 49 129 g49)) dX3_takeBack_13 rfl fpX3_20 sh47 rfl (zr_b rfl e_i47) er0v1 (zm_b rfl rfl) ?_
  refine zj_aload_n (pc' := 17) 0 dX3_takeBack_16 rfl rfl rfl ?_
  refine zj_iconst (pc' := 18) dX3_takeBack_17 rfl kiconst_0 ?_
  refine zj_aload_n (pc' := 19) 0 dX3_takeBack_18 rfl rfl rfl ?_
  refine zj_fI (pc' := 22) dX3_takeBack_19 rfl flX3_16 sh47 rfl (zr_b rfl zr_s) rfl ?_
  refine zj_iconst (pc' := 23) dX3_takeBack_22 rfl kiconst_1 ?_
  refine zj_isub (pc' := 24) dX3_takeBack_23 rfl ?_
  refine zj_mmax (pc' := 27) dX3_takeBack_24 rfl mlX3_37 zmmaxw (Nat.le_of_ble_eq_true rfl) (Nat.le_of_ble_eq_true rfl) ?_
  obtain ⟨r0v2, er0v2⟩ : ∃ z, z = (zup r0v1 2 (if (0 : Int32) < ((r0v1 2) - 1) then ((r0v1 2) - 1) else (0 : Int32))) := ⟨_, rfl⟩
  have hy := zlet_at er0v2 hy
  refine zj_pI (pc' := 30) (N := (zub (zui M 47 r0v2) 49 129 g49)) dX3_takeBack_27 rfl fpX3_16 sh47 rfl (zr_b rfl zr_s) er0v2 (zm_b rfl zm_s) ?_
  refine zj_aload_n (pc' := 31) 0 dX3_takeBack_30 rfl rfl rfl ?_
  refine zj_aload_n (pc' := 32) 0 dX3_takeBack_31 rfl rfl rfl ?_
  refine zj_fI (pc' := 35) dX3_takeBack_32 rfl flX3_20 sh47 rfl (zr_b rfl zr_s) rfl ?_
  rcases Decidable.em ((r0v2 1) = 0) with c3 | c3
  · have hy := zt_t hy c3
    refine zj_V1 (pc' := 38) (z := YX3_dayIn) (As := [.int (r0v2 1)]) (N := (zub (zui M 47 r0v2) 49 129 g49)) dX3_takeBack_35 rfl mlX3_23 lkX3_dayIn sh47 ⟨_, _, rfl⟩ rfl rfl (Nat.le_of_ble_eq_true rfl) (Nat.le_of_ble_eq_true rfl) (LDX3_dayIn_0 Γ _ (r0v2 1) c3) rfl ?_
    refine zj_astore_n (pc' := 39) (L' := [(2, .ref (zad Γ 49)), (0, .ref (zad Γ 47)), (1, .ref (zad Γ 15))]) dX3_takeBack_38 rfl rfl (by decide) rfl ?_
    refine zj_aload_n (pc' := 40) 0 dX3_takeBack_39 rfl rfl rfl ?_
    refine zj_ifnull (pc' := 43) dX3_takeBack_40 rfl ?_
    refine zj_aload_n (pc' := 44) 2 dX3_takeBack_43 rfl rfl rfl ?_
    refine zj_aload_n (pc' := 45) 0 dX3_takeBack_44 rfl rfl rfl ?_
    obtain ⟨y4, hy4, hy⟩ := zt_b hy
    refine zj_V0 (pc' := 48) (z := YX1_copyFrom) (As := [.ref (zad Γ 49)]) (N := (zub (zui (zui (zui (zui (zui (zui (zui (zui (zui (zui M 15 y4.1) 16 y4.2.1) 17 y4.2.2.1) 18 y4.2.2.2.1) 19 y4.2.2.2.2.1) 20 y4.2.2.2.2.2.1) 21 y4.2.2.2.2.2.2.1) 22 y4.2.2.2.2.2.2.2.1) 23 y4.2.2.2.2.2.2.2.2) 47 r0v2) 49 129 g49)) dX3_takeBack_45 rfl mlX3_27 lkX1_copyFrom sh15 ⟨_, _, rfl⟩ rfl rfl (Nat.le_of_ble_eq_true rfl) (Nat.le_of_ble_eq_true rfl) (LX1_copyFrom_15_49 Γ _ r1 r1_0 r1_1 r1_2 r1_3 r1_4 r1_5 r1_6 r1_7 (g49.1 49) (g49.1 50) (g49.1 51) (g49.1 52) (g49.1 53) (g49.1 54) (g49.1 55) (g49.1 56) (g49.1 57) (zr_b rfl (zr_n rfl e_i15)) (zr_b rfl (zr_n rfl e_i16)) (zr_b rfl (zr_n rfl e_i17)) (zr_b rfl (zr_n rfl e_i18)) (zr_b rfl (zr_n rfl e_i19)) (zr_b rfl (zr_n rfl e_i20)) (zr_b rfl (zr_n rfl e_i21)) (zr_b rfl (zr_n rfl e_i22)) (zr_b rfl (zr_n rfl e_i23)) (zr_in rfl rfl) (zr_in rfl rfl) (zr_in rfl rfl) (zr_in rfl rfl) (zr_in rfl rfl) (zr_in rfl rfl) (zr_in rfl rfl) (zr_in rfl rfl) (zr_in rfl rfl) hy4) ((zch_i (zch_i (zch_i (zch_i (zch_i (zch_i (zch_i (zch_i (zm_b rfl (zm_n rfl rfl)) (zm_b rfl (zm_n rfl rfl))) (zm_b rfl (zm_n rfl rfl))) (zm_b rfl (zm_n rfl rfl))) (zm_b rfl (zm_n rfl rfl))) (zm_b rfl (zm_n rfl rfl))) (zm_b rfl (zm_n rfl rfl))) (zm_b rfl (zm_n rfl rfl))) (zm_b rfl (zm_n rfl rfl)))).symm ?_
    have e9 := Option.some.inj hy
    subst e9
    exact zj_vret dX3_takeBack_48 rfl hq
  · have hy := zt_f hy c3
    rcases Decidable.em ((r0v2 1) = 1) with c5 | c5
    · have hy := zt_t hy c5
      refine zj_V1 (pc' := 38) (z := YX3_dayIn) (As := [.int (r0v2 1)]) (N := (zub (zui M 47 r0v2) 49 129 g49)) dX3_takeBack_35 rfl mlX3_23 lkX3_dayIn sh47 ⟨_, _, rfl⟩ rfl rfl (Nat.le_of_ble_eq_true rfl) (Nat.le_of_ble_eq_true rfl) (LDX3_dayIn_1 Γ _ (r0v2 1) c5) rfl ?_
      refine zj_astore_n (pc' := 39) (L' := [(2, .ref (zad Γ 59)), (0, .ref (zad Γ 47)), (1, .ref (zad Γ 15))]) dX3_takeBack_38 rfl rfl (by decide) rfl ?_
      refine zj_aload_n (pc' := 40) 0 dX3_takeBack_39 rfl rfl rfl ?_
      refine zj_ifnull (pc' := 43) dX3_takeBack_40 rfl ?_
      refine zj_aload_n (pc' := 44) 2 dX3_takeBack_43 rfl rfl rfl ?_
      refine zj_aload_n (pc' := 45) 0 dX3_takeBack_44 rfl rfl rfl ?_
      obtain ⟨y6, hy6, hy⟩ := zt_b hy
      refine zj_V0 (pc' := 48) (z := YX1_copyFrom) (As := [.ref (zad Γ 59)]) (N := (zub (zui (zui (zui (zui (zui (zui (zui (zui (zui (zui M 15 y6.1) 16 y6.2.1) 17 y6.2.2.1) 18 y6.2.2.2.1) 19 y6.2.2.2.2.1) 20 y6.2.2.2.2.2.1) 21 y6.2.2.2.2.2.2.1) 22 y6.2.2.2.2.2.2.2.1) 23 y6.2.2.2.2.2.2.2.2) 47 r0v2) 49 129 g49)) dX3_takeBack_45 rfl mlX3_27 lkX1_copyFrom sh15 ⟨_, _, rfl⟩ rfl rfl (Nat.le_of_ble_eq_true rfl) (Nat.le_of_ble_eq_true rfl) (LX1_copyFrom_15_59 Γ _ r1 r1_0 r1_1 r1_2 r1_3 r1_4 r1_5 r1_6 r1_7 (g49.1 59) (g49.1 60) (g49.1 61) (g49.1 62) (g49.1 63) (g49.1 64) (g49.1 65) (g49.1 66) (g49.1 67) (zr_b rfl (zr_n rfl e_i15)) (zr_b rfl (zr_n rfl e_i16)) (zr_b rfl (zr_n rfl e_i17)) (zr_b rfl (zr_n rfl e_i18)) (zr_b rfl (zr_n rfl e_i19)) (zr_b rfl (zr_n rfl e_i20)) (zr_b rfl (zr_n rfl e_i21)) (zr_b rfl (zr_n rfl e_i22)) (zr_b rfl (zr_n rfl e_i23)) (zr_in rfl rfl) (zr_in rfl rfl) (zr_in rfl rfl) (zr_in rfl rfl) (zr_in rfl rfl) (zr_in rfl rfl) (zr_in rfl rfl) (zr_in rfl rfl) (zr_in rfl rfl) hy6) ((zch_i (zch_i (zch_i (zch_i (zch_i (zch_i (zch_i (zch_i (zm_b rfl (zm_n rfl rfl)) (zm_b rfl (zm_n rfl rfl))) (zm_b rfl (zm_n rfl rfl))) (zm_b rfl (zm_n rfl rfl))) (zm_b rfl (zm_n rfl rfl))) (zm_b rfl (zm_n rfl rfl))) (zm_b rfl (zm_n rfl rfl))) (zm_b rfl (zm_n rfl rfl))) (zm_b rfl (zm_n rfl rfl)))).symm ?_
      have e9 := Option.some.inj hy
      subst e9
      exact zj_vret dX3_takeBack_48 rfl hq
    · have hy := zt_f hy c5
      rcases Decidable.em ((r0v2 1) = 2) with c7 | c7
      · have hy := zt_t hy c7
        refine zj_V1 (pc' := 38) (z := YX3_dayIn) (As := [.int (r0v2 1)]) (N := (zub (zui M 47 r0v2) 49 129 g49)) dX3_takeBack_35 rfl mlX3_23 lkX3_dayIn sh47 ⟨_, _, rfl⟩ rfl rfl (Nat.le_of_ble_eq_true rfl) (Nat.le_of_ble_eq_true rfl) (LDX3_dayIn_2 Γ _ (r0v2 1) c7) rfl ?_
        refine zj_astore_n (pc' := 39) (L' := [(2, .ref (zad Γ 69)), (0, .ref (zad Γ 47)), (1, .ref (zad Γ 15))]) dX3_takeBack_38 rfl rfl (by decide) rfl ?_
        refine zj_aload_n (pc' := 40) 0 dX3_takeBack_39 rfl rfl rfl ?_
        refine zj_ifnull (pc' := 43) dX3_takeBack_40 rfl ?_
        refine zj_aload_n (pc' := 44) 2 dX3_takeBack_43 rfl rfl rfl ?_
        refine zj_aload_n (pc' := 45) 0 dX3_takeBack_44 rfl rfl rfl ?_
        obtain ⟨y8, hy8, hy⟩ := zt_b hy
        refine zj_V0 (pc' := 48) (z := YX1_copyFrom) (As := [.ref (zad Γ 69)]) (N := (zub (zui (zui (zui (zui (zui (zui (zui (zui (zui (zui M 15 y8.1) 16 y8.2.1) 17 y8.2.2.1) 18 y8.2.2.2.1) 19 y8.2.2.2.2.1) 20 y8.2.2.2.2.2.1) 21 y8.2.2.2.2.2.2.1) 22 y8.2.2.2.2.2.2.2.1) 23 y8.2.2.2.2.2.2.2.2) 47 r0v2) 49 129 g49)) dX3_takeBack_45 rfl mlX3_27 lkX1_copyFrom sh15 ⟨_, _, rfl⟩ rfl rfl (Nat.le_of_ble_eq_true rfl) (Nat.le_of_ble_eq_true rfl) (LX1_copyFrom_15_69 Γ _ r1 r1_0 r1_1 r1_2 r1_3 r1_4 r1_5 r1_6 r1_7 (g49.1 69) (g49.1 70) (g49.1 71) (g49.1 72) (g49.1 73) (g49.1 74) (g49.1 75) (g49.1 76) (g49.1 77) (zr_b rfl (zr_n rfl e_i15)) (zr_b rfl (zr_n rfl e_i16)) (zr_b rfl (zr_n rfl e_i17)) (zr_b rfl (zr_n rfl e_i18)) (zr_b rfl (zr_n rfl e_i19)) (zr_b rfl (zr_n rfl e_i20)) (zr_b rfl (zr_n rfl e_i21)) (zr_b rfl (zr_n rfl e_i22)) (zr_b rfl (zr_n rfl e_i23)) (zr_in rfl rfl) (zr_in rfl rfl) (zr_in rfl rfl) (zr_in rfl rfl) (zr_in rfl rfl) (zr_in rfl rfl) (zr_in rfl rfl) (zr_in rfl rfl) (zr_in rfl rfl) hy8) ((zch_i (zch_i (zch_i (zch_i (zch_i (zch_i (zch_i (zch_i (zm_b rfl (zm_n rfl rfl)) (zm_b rfl (zm_n rfl rfl))) (zm_b rfl (zm_n rfl rfl))) (zm_b rfl (zm_n rfl rfl))) (zm_b rfl (zm_n rfl rfl))) (zm_b rfl (zm_n rfl rfl))) (zm_b rfl (zm_n rfl rfl))) (zm_b rfl (zm_n rfl rfl))) (zm_b rfl (zm_n rfl rfl)))).symm ?_
        have e9 := Option.some.inj hy
        subst e9
        exact zj_vret dX3_takeBack_48 rfl hq
      · have hy := zt_f hy c7
        rcases Decidable.em ((r0v2 1) = 3) with c9 | c9
        · have hy := zt_t hy c9
          refine zj_V1 (pc' := 38) (z := YX3_dayIn) (As := [.int (r0v2 1)]) (N := (zub (zui M 47 r0v2) 49 129 g49)) dX3_takeBack_35 rfl mlX3_23 lkX3_dayIn sh47 ⟨_, _, rfl⟩ rfl rfl (Nat.le_of_ble_eq_true rfl) (Nat.le_of_ble_eq_true rfl) (LDX3_dayIn_3 Γ _ (r0v2 1) c9) rfl ?_
          refine zj_astore_n (pc' := 39) (L' := [(2, .ref (zad Γ 79)), (0, .ref (zad Γ 47)), (1, .ref (zad Γ 15))]) dX3_takeBack_38 rfl rfl (by decide) rfl ?_
          refine zj_aload_n (pc' := 40) 0 dX3_takeBack_39 rfl rfl rfl ?_
          refine zj_ifnull (pc' := 43) dX3_takeBack_40 rfl ?_
          refine zj_aload_n (pc' := 44) 2 dX3_takeBack_43 rfl rfl rfl ?_
          refine zj_aload_n (pc' := 45) 0 dX3_takeBack_44 rfl rfl rfl ?_
          obtain ⟨y10, hy10, hy⟩ := zt_b hy
          refine zj_V0 (pc' := 48) (z := YX1_copyFrom) (As := [.ref (zad Γ 79)]) (N := (zub (zui (zui (zui (zui (zui (zui (zui (zui (zui (zui M 15 y10.1) 16 y10.2.1) 17 y10.2.2.1) 18 y10.2.2.2.1) 19 y10.2.2.2.2.1) 20 y10.2.2.2.2.2.1) 21 y10.2.2.2.2.2.2.1) 22 y10.2.2.2.2.2.2.2.1) 23 y10.2.2.2.2.2.2.2.2) 47 r0v2) 49 129 g49)) dX3_takeBack_45 rfl mlX3_27 lkX1_copyFrom sh15 ⟨_, _, rfl⟩ rfl rfl (Nat.le_of_ble_eq_true rfl) (Nat.le_of_ble_eq_true rfl) (LX1_copyFrom_15_79 Γ _ r1 r1_0 r1_1 r1_2 r1_3 r1_4 r1_5 r1_6 r1_7 (g49.1 79) (g49.1 80) (g49.1 81) (g49.1 82) (g49.1 83) (g49.1 84) (g49.1 85) (g49.1 86) (g49.1 87) (zr_b rfl (zr_n rfl e_i15)) (zr_b rfl (zr_n rfl e_i16)) (zr_b rfl (zr_n rfl e_i17)) (zr_b rfl (zr_n rfl e_i18)) (zr_b rfl (zr_n rfl e_i19)) (zr_b rfl (zr_n rfl e_i20)) (zr_b rfl (zr_n rfl e_i21)) (zr_b rfl (zr_n rfl e_i22)) (zr_b rfl (zr_n rfl e_i23)) (zr_in rfl rfl) (zr_in rfl rfl) (zr_in rfl rfl) (zr_in rfl rfl) (zr_in rfl rfl) (zr_in rfl rfl) (zr_in rfl rfl) (zr_in rfl rfl) (zr_in rfl rfl) hy10) ((zch_i (zch_i (zch_i (zch_i (zch_i (zch_i (zch_i (zch_i (zm_b rfl (zm_n rfl rfl)) (zm_b rfl (zm_n rfl rfl))) (zm_b rfl (zm_n rfl rfl))) (zm_b rfl (zm_n rfl rfl))) (zm_b rfl (zm_n rfl rfl))) (zm_b rfl (zm_n rfl rfl))) (zm_b rfl (zm_n rfl rfl))) (zm_b rfl (zm_n rfl rfl))) (zm_b rfl (zm_n rfl rfl)))).symm ?_
          have e9 := Option.some.inj hy
          subst e9
          exact zj_vret dX3_takeBack_48 rfl hq
        · have hy := zt_f hy c9
          rcases Decidable.em ((r0v2 1) = 4) with c11 | c11
          · have hy := zt_t hy c11
            refine zj_V1 (pc' := 38) (z := YX3_dayIn) (As := [.int (r0v2 1)]) (N := (zub (zui M 47 r0v2) 49 129 g49)) dX3_takeBack_35 rfl mlX3_23 lkX3_dayIn sh47 ⟨_, _, rfl⟩ rfl rfl (Nat.le_of_ble_eq_true rfl) (Nat.le_of_ble_eq_true rfl) (LDX3_dayIn_4 Γ _ (r0v2 1) c11) rfl ?_
            refine zj_astore_n (pc' := 39) (L' := [(2, .ref (zad Γ 89)), (0, .ref (zad Γ 47)), (1, .ref (zad Γ 15))]) dX3_takeBack_38 rfl rfl (by decide) rfl ?_
            refine zj_aload_n (pc' := 40) 0 dX3_takeBack_39 rfl rfl rfl ?_
            refine zj_ifnull (pc' := 43) dX3_takeBack_40 rfl ?_
            refine zj_aload_n (pc' := 44) 2 dX3_takeBack_43 rfl rfl rfl ?_
            refine zj_aload_n (pc' := 45) 0 dX3_takeBack_44 rfl rfl rfl ?_
            obtain ⟨y12, hy12, hy⟩ := zt_b hy
            refine zj_V0 (pc' := 48) (z := YX1_copyFrom) (As := [.ref (zad Γ 89)]) (N := (zub (zui (zui (zui (zui (zui (zui (zui (zui (zui (zui M 15 y12.1) 16 y12.2.1) 17 y12.2.2.1) 18 y12.2.2.2.1) 19 y12.2.2.2.2.1) 20 y12.2.2.2.2.2.1) 21 y12.2.2.2.2.2.2.1) 22 y12.2.2.2.2.2.2.2.1) 23 y12.2.2.2.2.2.2.2.2) 47 r0v2) 49 129 g49)) dX3_takeBack_45 rfl mlX3_27 lkX1_copyFrom sh15 ⟨_, _, rfl⟩ rfl rfl (Nat.le_of_ble_eq_true rfl) (Nat.le_of_ble_eq_true rfl) (LX1_copyFrom_15_89 Γ _ r1 r1_0 r1_1 r1_2 r1_3 r1_4 r1_5 r1_6 r1_7 (g49.1 89) (g49.1 90) (g49.1 91) (g49.1 92) (g49.1 93) (g49.1 94) (g49.1 95) (g49.1 96) (g49.1 97) (zr_b rfl (zr_n rfl e_i15)) (zr_b rfl (zr_n rfl e_i16)) (zr_b rfl (zr_n rfl e_i17)) (zr_b rfl (zr_n rfl e_i18)) (zr_b rfl (zr_n rfl e_i19)) (zr_b rfl (zr_n rfl e_i20)) (zr_b rfl (zr_n rfl e_i21)) (zr_b rfl (zr_n rfl e_i22)) (zr_b rfl (zr_n rfl e_i23)) (zr_in rfl rfl) (zr_in rfl rfl) (zr_in rfl rfl) (zr_in rfl rfl) (zr_in rfl rfl) (zr_in rfl rfl) (zr_in rfl rfl) (zr_in rfl rfl) (zr_in rfl rfl) hy12) ((zch_i (zch_i (zch_i (zch_i (zch_i (zch_i (zch_i (zch_i (zm_b rfl (zm_n rfl rfl)) (zm_b rfl (zm_n rfl rfl))) (zm_b rfl (zm_n rfl rfl))) (zm_b rfl (zm_n rfl rfl))) (zm_b rfl (zm_n rfl rfl))) (zm_b rfl (zm_n rfl rfl))) (zm_b rfl (zm_n rfl rfl))) (zm_b rfl (zm_n rfl rfl))) (zm_b rfl (zm_n rfl rfl)))).symm ?_
            have e9 := Option.some.inj hy
            subst e9
            exact zj_vret dX3_takeBack_48 rfl hq
          · have hy := zt_f hy c11
            rcases Decidable.em ((r0v2 1) = 5) with c13 | c13
            · have hy := zt_t hy c13
              refine zj_V1 (pc' := 38) (z := YX3_dayIn) (As := [.int (r0v2 1)]) (N := (zub (zui M 47 r0v2) 49 129 g49)) dX3_takeBack_35 rfl mlX3_23 lkX3_dayIn sh47 ⟨_, _, rfl⟩ rfl rfl (Nat.le_of_ble_eq_true rfl) (Nat.le_of_ble_eq_true rfl) (LDX3_dayIn_5 Γ _ (r0v2 1) c13) rfl ?_
              refine zj_astore_n (pc' := 39) (L' := [(2, .ref (zad Γ 99)), (0, .ref (zad Γ 47)), (1, .ref (zad Γ 15))]) dX3_takeBack_38 rfl rfl (by decide) rfl ?_
              refine zj_aload_n (pc' := 40) 0 dX3_takeBack_39 rfl rfl rfl ?_
              refine zj_ifnull (pc' := 43) dX3_takeBack_40 rfl ?_
              refine zj_aload_n (pc' := 44) 2 dX3_takeBack_43 rfl rfl rfl ?_
              refine zj_aload_n (pc' := 45) 0 dX3_takeBack_44 rfl rfl rfl ?_
              obtain ⟨y14, hy14, hy⟩ := zt_b hy
              refine zj_V0 (pc' := 48) (z := YX1_copyFrom) (As := [.ref (zad Γ 99)]) (N := (zub (zui (zui (zui (zui (zui (zui (zui (zui (zui (zui M 15 y14.1) 16 y14.2.1) 17 y14.2.2.1) 18 y14.2.2.2.1) 19 y14.2.2.2.2.1) 20 y14.2.2.2.2.2.1) 21 y14.2.2.2.2.2.2.1) 22 y14.2.2.2.2.2.2.2.1) 23 y14.2.2.2.2.2.2.2.2) 47 r0v2) 49 129 g49)) dX3_takeBack_45 rfl mlX3_27 lkX1_copyFrom sh15 ⟨_, _, rfl⟩ rfl rfl (Nat.le_of_ble_eq_true rfl) (Nat.le_of_ble_eq_true rfl) (LX1_copyFrom_15_99 Γ _ r1 r1_0 r1_1 r1_2 r1_3 r1_4 r1_5 r1_6 r1_7 (g49.1 99) (g49.1 100) (g49.1 101) (g49.1 102) (g49.1 103) (g49.1 104) (g49.1 105) (g49.1 106) (g49.1 107) (zr_b rfl (zr_n rfl e_i15)) (zr_b rfl (zr_n rfl e_i16)) (zr_b rfl (zr_n rfl e_i17)) (zr_b rfl (zr_n rfl e_i18)) (zr_b rfl (zr_n rfl e_i19)) (zr_b rfl (zr_n rfl e_i20)) (zr_b rfl (zr_n rfl e_i21)) (zr_b rfl (zr_n rfl e_i22)) (zr_b rfl (zr_n rfl e_i23)) (zr_in rfl rfl) (zr_in rfl rfl) (zr_in rfl rfl) (zr_in rfl rfl) (zr_in rfl rfl) (zr_in rfl rfl) (zr_in rfl rfl) (zr_in rfl rfl) (zr_in rfl rfl) hy14) ((zch_i (zch_i (zch_i (zch_i (zch_i (zch_i (zch_i (zch_i (zm_b rfl (zm_n rfl rfl)) (zm_b rfl (zm_n rfl rfl))) (zm_b rfl (zm_n rfl rfl))) (zm_b rfl (zm_n rfl rfl))) (zm_b rfl (zm_n rfl rfl))) (zm_b rfl (zm_n rfl rfl))) (zm_b rfl (zm_n rfl rfl))) (zm_b rfl (zm_n rfl rfl))) (zm_b rfl (zm_n rfl rfl)))).symm ?_
              have e9 := Option.some.inj hy
              subst e9
              exact zj_vret dX3_takeBack_48 rfl hq
            · have hy := zt_f hy c13
              rcases Decidable.em ((r0v2 1) = 6) with c15 | c15
              · have hy := zt_t hy c15
                refine zj_V1 (pc' := 38) (z := YX3_dayIn) (As := [.int (r0v2 1)]) (N := (zub (zui M 47 r0v2) 49 129 g49)) dX3_takeBack_35 rfl mlX3_23 lkX3_dayIn sh47 ⟨_, _, rfl⟩ rfl rfl (Nat.le_of_ble_eq_true rfl) (Nat.le_of_ble_eq_true rfl) (LDX3_dayIn_6 Γ _ (r0v2 1) c15) rfl ?_
                refine zj_astore_n (pc' := 39) (L' := [(2, .ref (zad Γ 109)), (0, .ref (zad Γ 47)), (1, .ref (zad Γ 15))]) dX3_takeBack_38 rfl rfl (by decide) rfl ?_
                refine zj_aload_n (pc' := 40) 0 dX3_takeBack_39 rfl rfl rfl ?_
                refine zj_ifnull (pc' := 43) dX3_takeBack_40 rfl ?_
                refine zj_aload_n (pc' := 44) 2 dX3_takeBack_43 rfl rfl rfl ?_
                refine zj_aload_n (pc' := 45) 0 dX3_takeBack_44 rfl rfl rfl ?_
                obtain ⟨y16, hy16, hy⟩ := zt_b hy
                refine zj_V0 (pc' := 48) (z := YX1_copyFrom) (As := [.ref (zad Γ 109)]) (N := (zub (zui (zui (zui (zui (zui (zui (zui (zui (zui (zui M 15 y16.1) 16 y16.2.1) 17 y16.2.2.1) 18 y16.2.2.2.1) 19 y16.2.2.2.2.1) 20 y16.2.2.2.2.2.1) 21 y16.2.2.2.2.2.2.1) 22 y16.2.2.2.2.2.2.2.1) 23 y16.2.2.2.2.2.2.2.2) 47 r0v2) 49 129 g49)) dX3_takeBack_45 rfl mlX3_27 lkX1_copyFrom sh15 ⟨_, _, rfl⟩ rfl rfl (Nat.le_of_ble_eq_true rfl) (Nat.le_of_ble_eq_true rfl) (LX1_copyFrom_15_109 Γ _ r1 r1_0 r1_1 r1_2 r1_3 r1_4 r1_5 r1_6 r1_7 (g49.1 109) (g49.1 110) (g49.1 111) (g49.1 112) (g49.1 113) (g49.1 114) (g49.1 115) (g49.1 116) (g49.1 117) (zr_b rfl (zr_n rfl e_i15)) (zr_b rfl (zr_n rfl e_i16)) (zr_b rfl (zr_n rfl e_i17)) (zr_b rfl (zr_n rfl e_i18)) (zr_b rfl (zr_n rfl e_i19)) (zr_b rfl (zr_n rfl e_i20)) (zr_b rfl (zr_n rfl e_i21)) (zr_b rfl (zr_n rfl e_i22)) (zr_b rfl (zr_n rfl e_i23)) (zr_in rfl rfl) (zr_in rfl rfl) (zr_in rfl rfl) (zr_in rfl rfl) (zr_in rfl rfl) (zr_in rfl rfl) (zr_in rfl rfl) (zr_in rfl rfl) (zr_in rfl rfl) hy16) ((zch_i (zch_i (zch_i (zch_i (zch_i (zch_i (zch_i (zch_i (zm_b rfl (zm_n rfl rfl)) (zm_b rfl (zm_n rfl rfl))) (zm_b rfl (zm_n rfl rfl))) (zm_b rfl (zm_n rfl rfl))) (zm_b rfl (zm_n rfl rfl))) (zm_b rfl (zm_n rfl rfl))) (zm_b rfl (zm_n rfl rfl))) (zm_b rfl (zm_n rfl rfl))) (zm_b rfl (zm_n rfl rfl)))).symm ?_
                have e9 := Option.some.inj hy
                subst e9
                exact zj_vret dX3_takeBack_48 rfl hq
              · have hy := zt_f hy c15
                rcases Decidable.em ((r0v2 1) = 7) with c17 | c17
                · have hy := zt_t hy c17
                  refine zj_V1 (pc' := 38) (z := YX3_dayIn) (As := [.int (r0v2 1)]) (N := (zub (zui M 47 r0v2) 49 129 g49)) dX3_takeBack_35 rfl mlX3_23 lkX3_dayIn sh47 ⟨_, _, rfl⟩ rfl rfl (Nat.le_of_ble_eq_true rfl) (Nat.le_of_ble_eq_true rfl) (LDX3_dayIn_7 Γ _ (r0v2 1) c17) rfl ?_
                  refine zj_astore_n (pc' := 39) (L' := [(2, .ref (zad Γ 119)), (0, .ref (zad Γ 47)), (1, .ref (zad Γ 15))]) dX3_takeBack_38 rfl rfl (by decide) rfl ?_
                  refine zj_aload_n (pc' := 40) 0 dX3_takeBack_39 rfl rfl rfl ?_
                  refine zj_ifnull (pc' := 43) dX3_takeBack_40 rfl ?_
                  refine zj_aload_n (pc' := 44) 2 dX3_takeBack_43 rfl rfl rfl ?_
                  refine zj_aload_n (pc' := 45) 0 dX3_takeBack_44 rfl rfl rfl ?_
                  obtain ⟨y18, hy18, hy⟩ := zt_b hy
                  refine zj_V0 (pc' := 48) (z := YX1_copyFrom) (As := [.ref (zad Γ 119)]) (N := (zub (zui (zui (zui (zui (zui (zui (zui (zui (zui (zui M 15 y18.1) 16 y18.2.1) 17 y18.2.2.1) 18 y18.2.2.2.1) 19 y18.2.2.2.2.1) 20 y18.2.2.2.2.2.1) 21 y18.2.2.2.2.2.2.1) 22 y18.2.2.2.2.2.2.2.1) 23 y18.2.2.2.2.2.2.2.2) 47 r0v2) 49 129 g49)) dX3_takeBack_45 rfl mlX3_27 lkX1_copyFrom sh15 ⟨_, _, rfl⟩ rfl rfl (Nat.le_of_ble_eq_true rfl) (Nat.le_of_ble_eq_true rfl) (LX1_copyFrom_15_119 Γ _ r1 r1_0 r1_1 r1_2 r1_3 r1_4 r1_5 r1_6 r1_7 (g49.1 119) (g49.1 120) (g49.1 121) (g49.1 122) (g49.1 123) (g49.1 124) (g49.1 125) (g49.1 126) (g49.1 127) (zr_b rfl (zr_n rfl e_i15)) (zr_b rfl (zr_n rfl e_i16)) (zr_b rfl (zr_n rfl e_i17)) (zr_b rfl (zr_n rfl e_i18)) (zr_b rfl (zr_n rfl e_i19)) (zr_b rfl (zr_n rfl e_i20)) (zr_b rfl (zr_n rfl e_i21)) (zr_b rfl (zr_n rfl e_i22)) (zr_b rfl (zr_n rfl e_i23)) (zr_in rfl rfl) (zr_in rfl rfl) (zr_in rfl rfl) (zr_in rfl rfl) (zr_in rfl rfl) (zr_in rfl rfl) (zr_in rfl rfl) (zr_in rfl rfl) (zr_in rfl rfl) hy18) ((zch_i (zch_i (zch_i (zch_i (zch_i (zch_i (zch_i (zch_i (zm_b rfl (zm_n rfl rfl)) (zm_b rfl (zm_n rfl rfl))) (zm_b rfl (zm_n rfl rfl))) (zm_b rfl (zm_n rfl rfl))) (zm_b rfl (zm_n rfl rfl))) (zm_b rfl (zm_n rfl rfl))) (zm_b rfl (zm_n rfl rfl))) (zm_b rfl (zm_n rfl rfl))) (zm_b rfl (zm_n rfl rfl)))).symm ?_
                  have e9 := Option.some.inj hy
                  subst e9
                  exact zj_vret dX3_takeBack_48 rfl hq
                · have hy := zt_f hy c17
                  refine zj_V1 (pc' := 38) (z := YX3_dayIn) (As := [.int (r0v2 1)]) (N := (zub (zui M 47 r0v2) 49 129 g49)) dX3_takeBack_35 rfl mlX3_23 lkX3_dayIn sh47 ⟨_, _, rfl⟩ rfl rfl (Nat.le_of_ble_eq_true rfl) (Nat.le_of_ble_eq_true rfl) (LDX3_dayIn_n Γ _ (r0v2 1) c3 c5 c7 c9 c11 c13 c15 c17) rfl ?_
                  refine zj_astore_nN (pc' := 39) (L' := [(2, .null), (0, .ref (zad Γ 47)), (1, .ref (zad Γ 15))]) dX3_takeBack_38 rfl rfl (by decide) rfl ?_
                  refine zj_aload_nN (pc' := 40) 0 dX3_takeBack_39 rfl rfl rfl ?_
                  refine zj_ifnullN (tgt := 48) dX3_takeBack_40 (by decide) ?_
                  have e9 := Option.some.inj hy
                  subst e9
                  refine zj_mem (N := (zub (zui (zui M 15 r1) 47 r0v2) 49 129 g49)) (zself_i (zr_b rfl (zr_n rfl e_i15)) (zm_b rfl (zm_n rfl rfl))) ?_
                  refine zj_mem (N := (zub (zui (zui (zui M 15 r1) 16 r1_0) 47 r0v2) 49 129 g49)) (zself_i (zr_b rfl (zr_n rfl (zr_n rfl e_i16))) (zm_b rfl (zm_n rfl rfl))) ?_
                  refine zj_mem (N := (zub (zui (zui (zui (zui M 15 r1) 16 r1_0) 17 r1_1) 47 r0v2) 49 129 g49)) (zself_i (zr_b rfl (zr_n rfl (zr_n rfl (zr_n rfl e_i17)))) (zm_b rfl (zm_n rfl rfl))) ?_
                  refine zj_mem (N := (zub (zui (zui (zui (zui (zui M 15 r1) 16 r1_0) 17 r1_1) 18 r1_2) 47 r0v2) 49 129 g49)) (zself_i (zr_b rfl (zr_n rfl (zr_n rfl (zr_n rfl (zr_n rfl e_i18))))) (zm_b rfl (zm_n rfl rfl))) ?_
                  refine zj_mem (N := (zub (zui (zui (zui (zui (zui (zui M 15 r1) 16 r1_0) 17 r1_1) 18 r1_2) 19 r1_3) 47 r0v2) 49 129 g49)) (zself_i (zr_b rfl (zr_n rfl (zr_n rfl (zr_n rfl (zr_n rfl (zr_n rfl e_i19)))))) (zm_b rfl (zm_n rfl rfl))) ?_
                  refine zj_mem (N := (zub (zui (zui (zui (zui (zui (zui (zui M 15 r1) 16 r1_0) 17 r1_1) 18 r1_2) 19 r1_3) 20 r1_4) 47 r0v2) 49 129 g49)) (zself_i (zr_b rfl (zr_n rfl (zr_n rfl (zr_n rfl (zr_n rfl (zr_n rfl (zr_n rfl e_i20))))))) (zm_b rfl (zm_n rfl rfl))) ?_
                  refine zj_mem (N := (zub (zui (zui (zui (zui (zui (zui (zui (zui M 15 r1) 16 r1_0) 17 r1_1) 18 r1_2) 19 r1_3) 20 r1_4) 21 r1_5) 47 r0v2) 49 129 g49)) (zself_i (zr_b rfl (zr_n rfl (zr_n rfl (zr_n rfl (zr_n rfl (zr_n rfl (zr_n rfl (zr_n rfl e_i21)))))))) (zm_b rfl (zm_n rfl rfl))) ?_
                  refine zj_mem (N := (zub (zui (zui (zui (zui (zui (zui (zui (zui (zui M 15 r1) 16 r1_0) 17 r1_1) 18 r1_2) 19 r1_3) 20 r1_4) 21 r1_5) 22 r1_6) 47 r0v2) 49 129 g49)) (zself_i (zr_b rfl (zr_n rfl (zr_n rfl (zr_n rfl (zr_n rfl (zr_n rfl (zr_n rfl (zr_n rfl (zr_n rfl e_i22))))))))) (zm_b rfl (zm_n rfl rfl))) ?_
                  refine zj_mem (N := (zub (zui (zui (zui (zui (zui (zui (zui (zui (zui (zui M 15 r1) 16 r1_0) 17 r1_1) 18 r1_2) 19 r1_3) 20 r1_4) 21 r1_5) 22 r1_6) 23 r1_7) 47 r0v2) 49 129 g49)) (zself_i (zr_b rfl (zr_n rfl (zr_n rfl (zr_n rfl (zr_n rfl (zr_n rfl (zr_n rfl (zr_n rfl (zr_n rfl (zr_n rfl e_i23)))))))))) (zm_b rfl (zm_n rfl rfl))) ?_
                  exact zj_vret dX3_takeBack_48 rfl hq
set_option maxRecDepth 20000 in
theorem LX3_takeBack_47_15 (Γ : zG) (M : zM) (r0 : Nat → Int32) (r1 : Nat → Int32) (r1_0 : Nat → Int32) (r1_1 : Nat → Int32) (r1_2 : Nat → Int32) (r1_3 : Nat → Int32) (r1_4 : Nat → Int32) (r1_5 : Nat → Int32) (r1_6 : Nat → Int32) (r1_7 : Nat → Int32) (g49 : zM) (e_i47 : M.1 47 = r0) (e_i15 : M.1 15 = r1) (e_i16 : M.1 16 = r1_0) (e_i17 : M.1 17 = r1_1) (e_i18 : M.1 18 = r1_2) (e_i19 : M.1 19 = r1_3) (e_i20 : M.1 20 = r1_4) (e_i21 : M.1 21 = r1_5) (e_i22 : M.1 22 = r1_6) (e_i23 : M.1 23 = r1_7) (e_h49 : zeq M 49 129 g49)  {res : (Nat → Int32) × (Nat → Int32) × (Nat → Int32) × (Nat → Int32) × (Nat → Int32) × (Nat → Int32) × (Nat → Int32) × (Nat → Int32) × (Nat → Int32) × (Nat → Int32) × zM} (hy : (fHi_takeBack r0 r1 r1_0 r1_1 r1_2 r1_3 r1_4 r1_5 r1_6 r1_7 g49) = some res) : zK Γ 3 YX3_takeBack [.ref (zad Γ 47), .ref (zad Γ 15)] M (fun v N => v = none ∧ N = (zub (zui (zui (zui (zui (zui (zui (zui (zui (zui (zui M 15 res.2.1) 16 res.2.2.1) 17 res.2.2.2.1) 18 res.2.2.2.2.1) 19 res.2.2.2.2.2.1) 20 res.2.2.2.2.2.2.1) 21 res.2.2.2.2.2.2.2.1) 22 res.2.2.2.2.2.2.2.2.1) 23 res.2.2.2.2.2.2.2.2.2.1) 47 res.1) 49 129 res.2.2.2.2.2.2.2.2.2.2)) :=
  zK_of (by decide) (Nat.le_of_ble_eq_true rfl) (TX3_takeBack_47_15 Γ M r0 r1 r1_0 r1_1 r1_2 r1_3 r1_4 r1_5 r1_6 r1_7 g49 e_i47 e_i15 e_i16 e_i17 e_i18 e_i19 e_i20 e_i21 e_i22 e_i23 e_h49 hy ⟨rfl, rfl⟩)

noncomputable def fX_undo (r0_4 : Nat → Int32) (r0_4_0 : Nat → Int32) (r0_4_1 : Nat → Int32) (r0_4_2 : Nat → Int32) (r0_4_3 : Nat → Int32) (r0_4_4 : Nat → Int32) (r0_4_5 : Nat → Int32) (r0_4_6 : Nat → Int32) (r0_4_7 : Nat → Int32) (r0_8 : Nat → Int32) (g49 : zM) : Option (Int32 × (Nat → Int32) × (Nat → Int32) × (Nat → Int32) × (Nat → Int32) × (Nat → Int32) × (Nat → Int32) × (Nat → Int32) × (Nat → Int32) × (Nat → Int32) × (Nat → Int32) × zM) :=
  (if (fHi_length r0_8) = 0 then
  some ((-1), r0_4, r0_4_0, r0_4_1, r0_4_2, r0_4_3, r0_4_4, r0_4_5, r0_4_6, r0_4_7, r0_8, g49)
  else
  (fHi_takeBack r0_8 r0_4 r0_4_0 r0_4_1 r0_4_2 r0_4_3 r0_4_4 r0_4_5 r0_4_6 r0_4_7 g49).bind (fun (y2 : (Nat → Int32) × (Nat → Int32) × (Nat → Int32) × (Nat → Int32) × (Nat → Int32) × (Nat → Int32) × (Nat → Int32) × (Nat → Int32) × (Nat → Int32) × (Nat → Int32) × zM) =>
  some ((fHi_length y2.1), y2.2.1, y2.2.2.1, y2.2.2.2.1, y2.2.2.2.2.1, y2.2.2.2.2.2.1, y2.2.2.2.2.2.2.1, y2.2.2.2.2.2.2.2.1, y2.2.2.2.2.2.2.2.2.1, y2.2.2.2.2.2.2.2.2.2.1, y2.1, y2.2.2.2.2.2.2.2.2.2.2)))

set_option maxRecDepth 20000 in
theorem TX11_undo_0 (Γ : zG) {Q : Option Value → zM → Prop} (M : zM) (r0_4 : Nat → Int32) (r0_4_0 : Nat → Int32) (r0_4_1 : Nat → Int32) (r0_4_2 : Nat → Int32) (r0_4_3 : Nat → Int32) (r0_4_4 : Nat → Int32) (r0_4_5 : Nat → Int32) (r0_4_6 : Nat → Int32) (r0_4_7 : Nat → Int32) (r0_8 : Nat → Int32) (g49 : zM) (e_i15 : M.1 15 = r0_4) (e_i16 : M.1 16 = r0_4_0) (e_i17 : M.1 17 = r0_4_1) (e_i18 : M.1 18 = r0_4_2) (e_i19 : M.1 19 = r0_4_3) (e_i20 : M.1 20 = r0_4_4) (e_i21 : M.1 21 = r0_4_5) (e_i22 : M.1 22 = r0_4_6) (e_i23 : M.1 23 = r0_4_7) (e_i47 : M.1 47 = r0_8) (e_h49 : zeq M 49 129 g49)  {res : Int32 × (Nat → Int32) × (Nat → Int32) × (Nat → Int32) × (Nat → Int32) × (Nat → Int32) × (Nat → Int32) × (Nat → Int32) × (Nat → Int32) × (Nat → Int32) × (Nat → Int32) × zM} (hy : (fX_undo r0_4 r0_4_0 r0_4_1 r0_4_2 r0_4_3 r0_4_4 r0_4_5 r0_4_6 r0_4_7 r0_8 g49) = some res) (hq : Q (some (.int res.1)) (zub (zui (zui (zui (zui (zui (zui (zui (zui (zui (zui M 15 res.2.1) 16 res.2.2.1) 17 res.2.2.2.1) 18 res.2.2.2.2.1) 19 res.2.2.2.2.2.1) 20 res.2.2.2.2.2.2.1) 21 res.2.2.2.2.2.2.2.1) 22 res.2.2.2.2.2.2.2.2.1) 23 res.2.2.2.2.2.2.2.2.2.1) 47 res.2.2.2.2.2.2.2.2.2.2.1) 49 129 res.2.2.2.2.2.2.2.2.2.2.2)) : zR Γ 4 YX11_undo 0 [(0, .ref (zad Γ 0))] [] M Q := by
  unfold fX_undo at hy
  refine zj_aload_n (pc' := 1) 0 dX11_undo_0 rfl rfl rfl ?_
  refine zj_getR (pc' := 4) (j := 47) dX11_undo_1 rfl flX11_58 sh0 rfl ?_
  refine zj_V1 (pc' := 7) (z := YX3_length) (As := []) (N := M) dX11_undo_4 rfl mlX11_265 lkX3_length sh47 ⟨_, _, rfl⟩ rfl rfl (Nat.le_of_ble_eq_true rfl) (Nat.le_of_ble_eq_true rfl) (LX3_length_47 Γ _ r0_8 e_i47 rfl) rfl ?_
  refine zj_if_ne (tgt := 12) (pc' := 10) dX11_undo_7 rfl (by decide) (fun c1 => ?_) (fun c1 => ?_)
  · have hy := zt_f hy c1
    refine zj_aload_n (pc' := 13) 0 dX11_undo_12 rfl rfl rfl ?_
    refine zj_getR (pc' := 16) (j := 47) dX11_undo_13 rfl flX11_58 sh0 rfl ?_
    refine zj_aload_n (pc' := 17) 0 dX11_undo_16 rfl rfl rfl ?_
    refine zj_getR (pc' := 20) (j := 15) dX11_undo_17 rfl flX11_38 sh0 rfl ?_
    obtain ⟨y2, hy2, hy⟩ := zt_b hy
    refine zj_V0 (pc' := 23) (z := YX3_takeBack) (As := [.ref (zad Γ 15)]) (N := (zub (zui (zui (zui (zui (zui (zui (zui (zui (zui (zui M 15 y2.2.1) 16 y2.2.2.1) 17 y2.2.2.2.1) 18 y2.2.2.2.2.1) 19 y2.2.2.2.2.2.1) 20 y2.2.2.2.2.2.2.1) 21 y2.2.2.2.2.2.2.2.1) 22 y2.2.2.2.2.2.2.2.2.1) 23 y2.2.2.2.2.2.2.2.2.2.1) 47 y2.1) 49 129 y2.2.2.2.2.2.2.2.2.2.2)) dX11_undo_20 rfl mlX11_266 lkX3_takeBack sh47 ⟨_, _, rfl⟩ rfl rfl (Nat.le_of_ble_eq_true rfl) (Nat.le_of_ble_eq_true rfl) (LX3_takeBack_47_15 Γ _ r0_8 r0_4 r0_4_0 r0_4_1 r0_4_2 r0_4_3 r0_4_4 r0_4_5 r0_4_6 r0_4_7 g49 e_i47 e_i15 e_i16 e_i17 e_i18 e_i19 e_i20 e_i21 e_i22 e_i23 e_h49 hy2) ((zch_h (zch_i (zch_i (zch_i (zch_i (zch_i (zch_i (zch_i (zch_i (zch_i rfl rfl) rfl) rfl) rfl) rfl) rfl) rfl) rfl) rfl) rfl)).symm ?_
    refine zj_aload_n (pc' := 24) 0 dX11_undo_23 rfl rfl rfl ?_
    refine zj_getR (pc' := 27) (j := 47) dX11_undo_24 rfl flX11_58 sh0 rfl ?_
    refine zj_V1 (pc' := 30) (z := YX3_length) (As := []) (N := (zub (zui (zui (zui (zui (zui (zui (zui (zui (zui (zui M 15 y2.2.1) 16 y2.2.2.1) 17 y2.2.2.2.1) 18 y2.2.2.2.2.1) 19 y2.2.2.2.2.2.1) 20 y2.2.2.2.2.2.2.1) 21 y2.2.2.2.2.2.2.2.1) 22 y2.2.2.2.2.2.2.2.2.1) 23 y2.2.2.2.2.2.2.2.2.2.1) 47 y2.1) 49 129 y2.2.2.2.2.2.2.2.2.2.2)) dX11_undo_27 rfl mlX11_265 lkX3_length sh47 ⟨_, _, rfl⟩ rfl rfl (Nat.le_of_ble_eq_true rfl) (Nat.le_of_ble_eq_true rfl) (LX3_length_47 Γ _ y2.1 (zr_b rfl zr_s) rfl) rfl ?_
    have e9 := Option.some.inj hy
    subst e9
    exact zj_iret dX11_undo_30 rfl hq
  · have hy := zt_t hy c1
    refine zj_iconst (pc' := 11) dX11_undo_10 rfl kiconst_m1 ?_
    have e9 := Option.some.inj hy
    subst e9
    refine zj_mem (N := (zui M 15 r0_4)) (zself_i e_i15 rfl) ?_
    refine zj_mem (N := (zui (zui M 15 r0_4) 16 r0_4_0)) (zself_i (zr_n rfl e_i16) rfl) ?_
    refine zj_mem (N := (zui (zui (zui M 15 r0_4) 16 r0_4_0) 17 r0_4_1)) (zself_i (zr_n rfl (zr_n rfl e_i17)) rfl) ?_
    refine zj_mem (N := (zui (zui (zui (zui M 15 r0_4) 16 r0_4_0) 17 r0_4_1) 18 r0_4_2)) (zself_i (zr_n rfl (zr_n rfl (zr_n rfl e_i18))) rfl) ?_
    refine zj_mem (N := (zui (zui (zui (zui (zui M 15 r0_4) 16 r0_4_0) 17 r0_4_1) 18 r0_4_2) 19 r0_4_3)) (zself_i (zr_n rfl (zr_n rfl (zr_n rfl (zr_n rfl e_i19)))) rfl) ?_
    refine zj_mem (N := (zui (zui (zui (zui (zui (zui M 15 r0_4) 16 r0_4_0) 17 r0_4_1) 18 r0_4_2) 19 r0_4_3) 20 r0_4_4)) (zself_i (zr_n rfl (zr_n rfl (zr_n rfl (zr_n rfl (zr_n rfl e_i20))))) rfl) ?_
    refine zj_mem (N := (zui (zui (zui (zui (zui (zui (zui M 15 r0_4) 16 r0_4_0) 17 r0_4_1) 18 r0_4_2) 19 r0_4_3) 20 r0_4_4) 21 r0_4_5)) (zself_i (zr_n rfl (zr_n rfl (zr_n rfl (zr_n rfl (zr_n rfl (zr_n rfl e_i21)))))) rfl) ?_
    refine zj_mem (N := (zui (zui (zui (zui (zui (zui (zui (zui M 15 r0_4) 16 r0_4_0) 17 r0_4_1) 18 r0_4_2) 19 r0_4_3) 20 r0_4_4) 21 r0_4_5) 22 r0_4_6)) (zself_i (zr_n rfl (zr_n rfl (zr_n rfl (zr_n rfl (zr_n rfl (zr_n rfl (zr_n rfl e_i22))))))) rfl) ?_
    refine zj_mem (N := (zui (zui (zui (zui (zui (zui (zui (zui (zui M 15 r0_4) 16 r0_4_0) 17 r0_4_1) 18 r0_4_2) 19 r0_4_3) 20 r0_4_4) 21 r0_4_5) 22 r0_4_6) 23 r0_4_7)) (zself_i (zr_n rfl (zr_n rfl (zr_n rfl (zr_n rfl (zr_n rfl (zr_n rfl (zr_n rfl (zr_n rfl e_i23)))))))) rfl) ?_
    refine zj_mem (N := (zui (zui (zui (zui (zui (zui (zui (zui (zui (zui M 15 r0_4) 16 r0_4_0) 17 r0_4_1) 18 r0_4_2) 19 r0_4_3) 20 r0_4_4) 21 r0_4_5) 22 r0_4_6) 23 r0_4_7) 47 r0_8)) (zself_i (zr_n rfl (zr_n rfl (zr_n rfl (zr_n rfl (zr_n rfl (zr_n rfl (zr_n rfl (zr_n rfl (zr_n rfl e_i47))))))))) rfl) ?_
    refine zj_mem (N := (zub (zui (zui (zui (zui (zui (zui (zui (zui (zui (zui M 15 r0_4) 16 r0_4_0) 17 r0_4_1) 18 r0_4_2) 19 r0_4_3) 20 r0_4_4) 21 r0_4_5) 22 r0_4_6) 23 r0_4_7) 47 r0_8) 49 129 g49)) (zself_h (zeq_i rfl (zeq_i rfl (zeq_i rfl (zeq_i rfl (zeq_i rfl (zeq_i rfl (zeq_i rfl (zeq_i rfl (zeq_i rfl (zeq_i rfl e_h49)))))))))) rfl) ?_
    exact zj_iret dX11_undo_11 rfl hq
set_option maxRecDepth 20000 in
theorem LX11_undo_0 (Γ : zG) (M : zM) (r0_4 : Nat → Int32) (r0_4_0 : Nat → Int32) (r0_4_1 : Nat → Int32) (r0_4_2 : Nat → Int32) (r0_4_3 : Nat → Int32) (r0_4_4 : Nat → Int32) (r0_4_5 : Nat → Int32) (r0_4_6 : Nat → Int32) (r0_4_7 : Nat → Int32) (r0_8 : Nat → Int32) (g49 : zM) (e_i15 : M.1 15 = r0_4) (e_i16 : M.1 16 = r0_4_0) (e_i17 : M.1 17 = r0_4_1) (e_i18 : M.1 18 = r0_4_2) (e_i19 : M.1 19 = r0_4_3) (e_i20 : M.1 20 = r0_4_4) (e_i21 : M.1 21 = r0_4_5) (e_i22 : M.1 22 = r0_4_6) (e_i23 : M.1 23 = r0_4_7) (e_i47 : M.1 47 = r0_8) (e_h49 : zeq M 49 129 g49)  {res : Int32 × (Nat → Int32) × (Nat → Int32) × (Nat → Int32) × (Nat → Int32) × (Nat → Int32) × (Nat → Int32) × (Nat → Int32) × (Nat → Int32) × (Nat → Int32) × (Nat → Int32) × zM} (hy : (fX_undo r0_4 r0_4_0 r0_4_1 r0_4_2 r0_4_3 r0_4_4 r0_4_5 r0_4_6 r0_4_7 r0_8 g49) = some res) : zK Γ 4 YX11_undo [.ref (zad Γ 0)] M (fun v N => v = some (.int res.1) ∧ N = (zub (zui (zui (zui (zui (zui (zui (zui (zui (zui (zui M 15 res.2.1) 16 res.2.2.1) 17 res.2.2.2.1) 18 res.2.2.2.2.1) 19 res.2.2.2.2.2.1) 20 res.2.2.2.2.2.2.1) 21 res.2.2.2.2.2.2.2.1) 22 res.2.2.2.2.2.2.2.2.1) 23 res.2.2.2.2.2.2.2.2.2.1) 47 res.2.2.2.2.2.2.2.2.2.2.1) 49 129 res.2.2.2.2.2.2.2.2.2.2.2)) :=
  zK_of (by decide) (Nat.le_of_ble_eq_true rfl) (TX11_undo_0 Γ M r0_4 r0_4_0 r0_4_1 r0_4_2 r0_4_3 r0_4_4 r0_4_5 r0_4_6 r0_4_7 r0_8 g49 e_i15 e_i16 e_i17 e_i18 e_i19 e_i20 e_i21 e_i22 e_i23 e_i47 e_h49 hy ⟨rfl, rfl⟩)

noncomputable def fPr_tryFrom_L34 (rec9 : (Nat → Int32) → (Nat → Int32) → (Nat → Int32) → (Nat → Int32) → (Nat → Int32) → (Nat → Int32) → (Nat → Int32) → (Nat → Int32) → Int32 → Int32 → Int32 → Int32 → Option ((Nat → Int32) × (Nat → Int32) × (Nat → Int32))) (r1 : Nat → Int32) (r1_3 : Nat → Int32) (r2_0 : Nat → Int32) (r2_2 : Nat → Int32) (r2_5 : Nat → Int32) (a3 : Int32) (a4 : Int32) (a5 : Int32) (a6 : Int32) (r0v12 : Nat → Int32) (r0_0v13 : Nat → Int32) (r0_1v14 : Nat → Int32) (x15 : Int32) : Option (((Nat → Int32) × (Nat → Int32) × (Nat → Int32) × Int32) ⊕ ((Nat → Int32) × (Nat → Int32) × (Nat → Int32))) :=
  (if 6 ≤ x15 then
  some (.inr (r0v12, r0_0v13, r0_1v14))
  else
  zlet (fun (x24 : Int32) =>
  (if x24 = (-1) then
  zlet (x15 + 1) (fun (x26 : Int32) =>
  some (.inl (r0v12, r0_0v13, r0_1v14, x26)))
  else
  (zwr r0_0v13 6 a3 x15).bind (fun (r0_0v27 : Nat → Int32) =>
  (rec9 r0v12 r0_0v27 r0_1v14 r1 r1_3 r2_0 r2_2 r2_5 (a3 + 1) (a4 &&& (((1 : Int32) <<< (x15 &&& 31)) ^^^ (-1))) (a5 + 1) (a6 + x24)).bind (fun (y28 : (Nat → Int32) × (Nat → Int32) × (Nat → Int32)) =>
  zlet (x15 + 1) (fun (x29 : Int32) =>
  some (.inl (y28.1, y28.2.1, y28.2.2, x29))))))) (fun J30 =>
  (if (fX_hasBit a4 x15) = true then
  (fDy_whereIs r2_0 x15).bind (fun (y32 : Int32) =>
  (fDy_whereIs r2_0 a3).bind (fun (y33 : Int32) =>
  (fPl_farFrom r1 r1_3 y32 y33).bind (fun (y34 : Int32) =>
  J30 y34)))
  else
  J30 (-1))))
noncomputable def fPr_tryFromB (rec9 : (Nat → Int32) → (Nat → Int32) → (Nat → Int32) → (Nat → Int32) → (Nat → Int32) → (Nat → Int32) → (Nat → Int32) → (Nat → Int32) → Int32 → Int32 → Int32 → Int32 → Option ((Nat → Int32) × (Nat → Int32) × (Nat → Int32))) (r0 : Nat → Int32) (r0_0 : Nat → Int32) (r0_1 : Nat → Int32) (r1 : Nat → Int32) (r1_3 : Nat → Int32) (r2_0 : Nat → Int32) (r2_2 : Nat → Int32) (r2_5 : Nat → Int32) (a3 : Int32) (a4 : Int32) (a5 : Int32) (a6 : Int32) : Option ((Nat → Int32) × (Nat → Int32) × (Nat → Int32)) :=
  (if a3 < 6 then
  (fDy_wayLeft r2_5 a3).bind (fun (y2 : Int32) =>
  zlet (fun (r0v3 : Nat → Int32) (r0_0v4 : Nat → Int32) (r0_1v5 : Nat → Int32) =>
  (zwr r0_0v4 6 a3 (-1)).bind (fun (r0_0v6 : Nat → Int32) =>
  (rec9 r0v3 r0_0v6 r0_1v5 r1 r1_3 r2_0 r2_2 r2_5 (a3 + 1) a4 a5 a6).bind (fun (y7 : (Nat → Int32) × (Nat → Int32) × (Nat → Int32)) =>
  some (y7.1, y7.2.1, y7.2.2)))) (fun J8 =>
  (if y2 ≤ 0 then
  J8 r0 r0_0 r0_1
  else
  (fDy_followersOf r2_2 a3).bind (fun (y10 : Int32) =>
  (if y10 = 0 then
  (zLP (fun s => fPr_tryFrom_L34 rec9 r1 r1_3 r2_0 r2_2 r2_5 a3 a4 a5 a6 s.1 s.2.1 s.2.2.1 s.2.2.2) (r0, r0_0, r0_1, 0)).bind (fun r18 =>
  J8 r18.1 r18.2.1 r18.2.2)
  else
  J8 r0 r0_0 r0_1)))))
  else
  (fPr_keepIfBetter r0 r0_0 r0_1 a5 a6).bind (fun (y38 : (Nat → Int32) × (Nat → Int32)) =>
  some (y38.1, r0_0, y38.2)))
noncomputable def fPr_tryFrom : Nat → (Nat → Int32) → (Nat → Int32) → (Nat → Int32) → (Nat → Int32) → (Nat → Int32) → (Nat → Int32) → (Nat → Int32) → (Nat → Int32) → Int32 → Int32 → Int32 → Int32 → Option ((Nat → Int32) × (Nat → Int32) × (Nat → Int32))
  | 0 => fun _ _ _ _ _ _ _ _ _ _ _ _ => none
  | n + 1 => fPr_tryFromB (fPr_tryFrom n)

set_option maxRecDepth 20000 in
theorem TX6_tryFrom_179_5_15 (Γ : zG) {Q : Option Value → zM → Prop} (dd : Nat) (hdd : 4 ≤ dd) (rec9 : (Nat → Int32) → (Nat → Int32) → (Nat → Int32) → (Nat → Int32) → (Nat → Int32) → (Nat → Int32) → (Nat → Int32) → (Nat → Int32) → Int32 → Int32 → Int32 → Int32 → Option ((Nat → Int32) × (Nat → Int32) × (Nat → Int32))) (ih9 : ∀ (M : zM) (r0 : Nat → Int32) (r0_0 : Nat → Int32) (r0_1 : Nat → Int32) (r1 : Nat → Int32) (r1_3 : Nat → Int32) (r2_0 : Nat → Int32) (r2_2 : Nat → Int32) (r2_5 : Nat → Int32) (e_i179 : M.1 179 = r0) (e_i180 : M.1 180 = r0_0) (e_i181 : M.1 181 = r0_1) (e_i5 : M.1 5 = r1) (e_i9 : M.1 9 = r1_3) (e_i16 : M.1 16 = r2_0) (e_i18 : M.1 18 = r2_2) (e_i21 : M.1 21 = r2_5) (a3 : Int32) (a4 : Int32) (a5 : Int32) (a6 : Int32) (res : (Nat → Int32) × (Nat → Int32) × (Nat → Int32)), rec9 r0 r0_0 r0_1 r1 r1_3 r2_0 r2_2 r2_5 a3 a4 a5 a6 = some res → zK Γ dd YX6_tryFrom [.ref (zad Γ 179), .ref (zad Γ 5), .ref (zad Γ 15), .int a3, .int a4, .int a5, .int a6] M (fun v N => v = none ∧ N = (zui (zui (zui M 179 res.1) 180 res.2.1) 181 res.2.2))) (M : zM) (r0 : Nat → Int32) (r0_0 : Nat → Int32) (r0_1 : Nat → Int32) (r1 : Nat → Int32) (r1_3 : Nat → Int32) (r2_0 : Nat → Int32) (r2_2 : Nat → Int32) (r2_5 : Nat → Int32) (e_i179 : M.1 179 = r0) (e_i180 : M.1 180 = r0_0) (e_i181 : M.1 181 = r0_1) (e_i5 : M.1 5 = r1) (e_i9 : M.1 9 = r1_3) (e_i16 : M.1 16 = r2_0) (e_i18 : M.1 18 = r2_2) (e_i21 : M.1 21 = r2_5) (a3 : Int32) (a4 : Int32) (a5 : Int32) (a6 : Int32) {res : (Nat → Int32) × (Nat → Int32) × (Nat → Int32)} (hy : (fPr_tryFromB rec9 r0 r0_0 r0_1 r1 r1_3 r2_0 r2_2 r2_5 a3 a4 a5 a6) = some res) (hq : Q none (zui (zui (zui M 179 res.1) 180 res.2.1) 181 res.2.2)) : zR Γ (dd + 1) YX6_tryFrom 0 [(0, .ref (zad Γ 179)), (1, .ref (zad Γ 5)), (2, .ref (zad Γ 15)), (3, .int a3), (4, .int a4), (5, .int a5), (6, .int a6)] [] M Q := by
  unfold fPr_tryFromB at hy
  refine zj_iload_n (pc' := 1) 3 dX6_tryFrom_0 rfl rfl rfl ?_
  refine zj_bipush (pc' := 3) dX6_tryFrom_1 rfl kbipush_6 ?_
  refine zj_icmp_lt (tgt := 15) (pc' := 6) dX6_tryFrom_3 rfl (by decide) (fun c1 => ?_) (fun c1 => ?_)
  · have hy := zt_t hy c1
    refine zj_aload_n (pc' := 16) 2 dX6_tryFrom_15 rfl rfl rfl ?_
    refine zj_iload_n (pc' := 17) 3 dX6_tryFrom_16 rfl rfl rfl ?_
    obtain ⟨y2, hy2, hy⟩ := zt_b hy
    refine zj_V1 (pc' := 20) (z := YX1_wayLeft) (As := [.int a3]) (N := M) dX6_tryFrom_17 rfl mlX6_51 lkX1_wayLeft sh15 ⟨_, _, rfl⟩ rfl rfl (Nat.le_of_ble_eq_true rfl) (by omega) (LX1_wayLeft_15 Γ _ r2_5 e_i21 a3 hy2) rfl ?_
    obtain ⟨J8, eJ8, hy⟩ := zlet_ex hy
    have HJ8 : ∀ (r0v3 : Nat → Int32) (r0_0v4 : Nat → Int32) (r0_1v5 : Nat → Int32), J8 r0v3 r0_0v4 r0_1v5 = some res → zR Γ (dd + 1) YX6_tryFrom 119 [(0, .ref (zad Γ 179)), (1, .ref (zad Γ 5)), (2, .ref (zad Γ 15)), (3, .int a3), (4, .int a4), (5, .int a5), (6, .int a6)] [] (zui (zui (zui M 179 r0v3) 180 r0_0v4) 181 r0_1v5) Q := by
      intro r0v3 r0_0v4 r0_1v5 hy
      have hy := zap3 eJ8 hy
      refine zj_aload_n (pc' := 120) 0 dX6_tryFrom_119 rfl rfl rfl ?_
      refine zj_getR (pc' := 123) (j := 180) dX6_tryFrom_120 rfl flX6_9 sh179 rfl ?_
      refine zj_iload_n (pc' := 124) 3 dX6_tryFrom_123 rfl rfl rfl ?_
      refine zj_iconst (pc' := 125) dX6_tryFrom_124 rfl kiconst_m1 ?_
      obtain ⟨r0_0v6, hr0_0v6, hy⟩ := zt_b hy
      refine zj_wri (pc' := 126) (N := (zui (zui (zui M 179 r0v3) 180 r0_0v6) 181 r0_1v5)) dX6_tryFrom_125 rfl sh180 (zr_n rfl zr_s) hr0_0v6 (zm_n rfl zm_s) ?_
      refine zj_aload_n (pc' := 127) 0 dX6_tryFrom_126 rfl rfl rfl ?_
      refine zj_aload_n (pc' := 128) 1 dX6_tryFrom_127 rfl rfl rfl ?_
      refine zj_aload_n (pc' := 129) 2 dX6_tryFrom_128 rfl rfl rfl ?_
      refine zj_iload_n (pc' := 130) 3 dX6_tryFrom_129 rfl rfl rfl ?_
      refine zj_iconst (pc' := 131) dX6_tryFrom_130 rfl kiconst_1 ?_
      refine zj_iadd (pc' := 132) dX6_tryFrom_131 rfl ?_
      refine zj_iload (pc' := 134) 4 dX6_tryFrom_132 rfl rfl ?_
      refine zj_iload (pc' := 136) 5 dX6_tryFrom_134 rfl rfl ?_
      refine zj_iload (pc' := 138) 6 dX6_tryFrom_136 rfl rfl ?_
      obtain ⟨y7, hy7, hy⟩ := zt_b hy
      refine zj_V0 (pc' := 141) (z := YX6_tryFrom) (As := [.ref (zad Γ 5), .ref (zad Γ 15), .int (a3 + 1), .int a4, .int a5, .int a6]) (N := (zui (zui (zui M 179 y7.1) 180 y7.2.1) 181 y7.2.2)) dX6_tryFrom_138 rfl mlX6_43 lkX6_tryFrom sh179 ⟨_, _, rfl⟩ rfl rfl (Nat.le_of_ble_eq_true rfl) (by omega) (ih9 _ r0v3 r0_0v6 r0_1v5 r1 r1_3 r2_0 r2_2 r2_5 (zr_n rfl (zr_n rfl zr_s)) (zr_n rfl zr_s) zr_s (zr_n rfl (zr_n rfl (zr_n rfl e_i5))) (zr_n rfl (zr_n rfl (zr_n rfl e_i9))) (zr_n rfl (zr_n rfl (zr_n rfl e_i16))) (zr_n rfl (zr_n rfl (zr_n rfl e_i18))) (zr_n rfl (zr_n rfl (zr_n rfl e_i21))) (a3 + 1) a4 a5 a6 _ hy7) ((zch_i (zch_i (zm_n rfl (zm_n rfl zm_s)) (zm_n rfl zm_s)) zm_s)).symm ?_
      have e9 := Option.some.inj hy
      subst e9
      exact zj_vret dX6_tryFrom_141 rfl hq
    refine zj_if_le (tgt := 119) (pc' := 23) dX6_tryFrom_20 rfl (by decide) (fun c9 => ?_) (fun c9 => ?_)
    · have hy := zt_t hy c9
      refine zj_mem (N := (zui M 179 r0)) (zself_i e_i179 rfl) ?_
      refine zj_mem (N := (zui (zui M 179 r0) 180 r0_0)) (zself_i (zr_n rfl e_i180) rfl) ?_
      refine zj_mem (N := (zui (zui (zui M 179 r0) 180 r0_0) 181 r0_1)) (zself_i (zr_n rfl (zr_n rfl e_i181)) rfl) ?_
      exact HJ8 r0 r0_0 r0_1 hy
    · have hy := zt_f hy c9
      refine zj_aload_n (pc' := 24) 2 dX6_tryFrom_23 rfl rfl rfl ?_
      refine zj_iload_n (pc' := 25) 3 dX6_tryFrom_24 rfl rfl rfl ?_
      obtain ⟨y10, hy10, hy⟩ := zt_b hy
      refine zj_V1 (pc' := 28) (z := YX1_followersOf) (As := [.int a3]) (N := M) dX6_tryFrom_25 rfl mlX6_55 lkX1_followersOf sh15 ⟨_, _, rfl⟩ rfl rfl (Nat.le_of_ble_eq_true rfl) (by omega) (LX1_followersOf_15 Γ _ r2_2 e_i18 a3 hy10) rfl ?_
      refine zj_if_ne (tgt := 119) (pc' := 31) dX6_tryFrom_28 rfl (by decide) (fun c11 => ?_) (fun c11 => ?_)
      · have hy := zt_f hy c11
        refine zj_mem (N := (zui M 179 r0)) (zself_i e_i179 rfl) ?_
        refine zj_mem (N := (zui (zui M 179 r0) 180 r0_0)) (zself_i (zr_n rfl e_i180) rfl) ?_
        refine zj_mem (N := (zui (zui (zui M 179 r0) 180 r0_0) 181 r0_1)) (zself_i (zr_n rfl (zr_n rfl e_i181)) rfl) ?_
        exact HJ8 r0 r0_0 r0_1 hy
      · have hy := zt_t hy c11
        refine zj_iconst (pc' := 32) dX6_tryFrom_31 rfl kiconst_0 ?_
        refine zj_istore (pc' := 34) (L' := [(7, .int 0), (0, .ref (zad Γ 179)), (1, .ref (zad Γ 5)), (2, .ref (zad Γ 15)), (3, .int a3), (4, .int a4), (5, .int a5), (6, .int a6)]) dX6_tryFrom_32 rfl (by decide) rfl ?_
        refine zj_loc [1, 2, 3, 4, 5, 6, 7, 0] rfl ?_
        refine zj_mem (N := (zui M 179 r0)) (zself_i e_i179 rfl) ?_
        refine zj_mem (N := (zui (zui M 179 r0) 180 r0_0)) (zself_i (zr_n rfl e_i180) rfl) ?_
        refine zj_mem (N := (zui (zui (zui M 179 r0) 180 r0_0) 181 r0_1)) (zself_i (zr_n rfl (zr_n rfl e_i181)) rfl) ?_
        obtain ⟨r18, hr9, hyo19⟩ := zt_b hy
        obtain ⟨n9, hn9⟩ := zLP_some hr9
        have HE16 : ∀ (r0v35 : Nat → Int32) (r0_0v36 : Nat → Int32) (r0_1v37 : Nat → Int32), r18 = (r0v35, r0_0v36, r0_1v37) → zR Γ (dd + 1) YX6_tryFrom 119 [(0, .ref (zad Γ 179)), (1, .ref (zad Γ 5)), (2, .ref (zad Γ 15)), (3, .int a3), (4, .int a4), (5, .int a5), (6, .int a6)] [] (zui (zui (zui M 179 r0v35) 180 r0_0v36) 181 r0_1v37) Q := by
          intro r0v35 r0_0v36 r0_1v37 e9
          have hy := hyo19
          try rw [e9] at hy
          try dsimp only at hy
          exact HJ8 r0v35 r0_0v36 r0_1v37 hy
        have HL17 : ∀ (n : Nat) (r0v12 : Nat → Int32) (r0_0v13 : Nat → Int32) (r0_1v14 : Nat → Int32) (x15 : Int32), zlp (fun s => fPr_tryFrom_L34 rec9 r1 r1_3 r2_0 r2_2 r2_5 a3 a4 a5 a6 s.1 s.2.1 s.2.2.1 s.2.2.2) n (r0v12, r0_0v13, r0_1v14, x15) = some r18 → zR Γ (dd + 1) YX6_tryFrom 34 [(0, .ref (zad Γ 179)), (1, .ref (zad Γ 5)), (2, .ref (zad Γ 15)), (3, .int a3), (4, .int a4), (5, .int a5), (6, .int a6), (7, .int x15)] [] (zui (zui (zui M 179 r0v12) 180 r0_0v13) 181 r0_1v14) Q := by
          intro n
          induction n with
          | zero => intro r0v12 r0_0v13 r0_1v14 x15 hn9; cases hn9
          | succ n ih20 =>
            intro r0v12 r0_0v13 r0_1v14 x15 hn9
            obtain ⟨o9, hb9, h21, h22⟩ := zlp_step hn9
            have hy : fPr_tryFrom_L34 rec9 r1 r1_3 r2_0 r2_2 r2_5 a3 a4 a5 a6 r0v12 r0_0v13 r0_1v14 x15 = some o9 := hb9
            unfold fPr_tryFrom_L34 at hy
            refine zj_iload (pc' := 36) 7 dX6_tryFrom_34 rfl rfl ?_
            refine zj_bipush (pc' := 38) dX6_tryFrom_36 rfl kbipush_6 ?_
            refine zj_icmp_ge (tgt := 119) (pc' := 41) dX6_tryFrom_38 rfl (by decide) (fun c23 => ?_) (fun c23 => ?_)
            · have hy := zt_t hy c23
              have e9 := h22 _ (Option.some.inj hy).symm
              refine zj_loc [0, 1, 2, 3, 4, 5, 6] rfl ?_
              exact HE16 _ _ _ e9.symm
            · have hy := zt_f hy c23
              refine zj_iload (pc' := 43) 4 dX6_tryFrom_41 rfl rfl ?_
              refine zj_iload (pc' := 45) 7 dX6_tryFrom_43 rfl rfl ?_
              refine zj_N1 (pc' := 48) (z := YX11_hasBit) (As := [.int a4, .int x15]) (N := (zui (zui (zui M 179 r0v12) 180 r0_0v13) 181 r0_1v14)) dX6_tryFrom_45 rfl nlX6_58 lkX11_hasBit rfl rfl (Nat.le_of_ble_eq_true rfl) (by omega) (LX11_hasBit Γ _ a4 x15 rfl) rfl ?_
              obtain ⟨J30, eJ30, hy⟩ := zlet_ex hy
              have HJ30 : ∀ (x24 : Int32), J30 x24 = some o9 → zR Γ (dd + 1) YX6_tryFrom 70 [(0, .ref (zad Γ 179)), (1, .ref (zad Γ 5)), (2, .ref (zad Γ 15)), (3, .int a3), (4, .int a4), (5, .int a5), (6, .int a6), (7, .int x15)] [.int x24] (zui (zui (zui M 179 r0v12) 180 r0_0v13) 181 r0_1v14) Q := by
                intro x24 hy
                have hy := zap1 eJ30 hy
                refine zj_istore (pc' := 72) (L' := [(8, .int x24), (0, .ref (zad Γ 179)), (1, .ref (zad Γ 5)), (2, .ref (zad Γ 15)), (3, .int a3), (4, .int a4), (5, .int a5), (6, .int a6), (7, .int x15)]) dX6_tryFrom_70 rfl (by decide) rfl ?_
                refine zj_iload (pc' := 74) 0 dX6_tryFrom_72 rfl rfl ?_
                refine zj_iconst (pc' := 75) dX6_tryFrom_74 rfl kiconst_m1 ?_
                refine zj_icmp_eq (tgt := 113) (pc' := 78) dX6_tryFrom_75 rfl (by decide) (fun c25 => ?_) (fun c25 => ?_)
                · have hy := zt_t hy c25
                  obtain ⟨x26, ex26⟩ : ∃ z : Int32, z = (x15 + 1) := ⟨_, rfl⟩
                  have hy := zlet_at ex26 hy
                  refine zj_iinc (pc' := 116) 8 (L' := [(7, .int x26), (8, .int x24), (0, .ref (zad Γ 179)), (1, .ref (zad Γ 5)), (2, .ref (zad Γ 15)), (3, .int a3), (4, .int a4), (5, .int a5), (6, .int a6)]) dX6_tryFrom_113 rfl rfl (by decide) (by rw [ci1, ← ex26]; rfl) ?_
                  refine zj_goto (tgt := 34) dX6_tryFrom_116 (by decide) ?_
                  have hn9 := h21 _ (Option.some.inj hy).symm
                  refine zj_loc [2, 3, 4, 5, 6, 7, 8, 0] rfl ?_
                  exact ih20 _ _ _ _ hn9
                · have hy := zt_f hy c25
                  refine zj_aload_n (pc' := 79) 1 dX6_tryFrom_78 rfl rfl rfl ?_
                  refine zj_getR (pc' := 82) (j := 180) dX6_tryFrom_79 rfl flX6_9 sh179 rfl ?_
                  refine zj_iload_n (pc' := 83) 4 dX6_tryFrom_82 rfl rfl rfl ?_
                  refine zj_iload (pc' := 85) 8 dX6_tryFrom_83 rfl rfl ?_
                  obtain ⟨r0_0v27, hr0_0v27, hy⟩ := zt_b hy
                  refine zj_wri (pc' := 86) (N := (zui (zui (zui M 179 r0v12) 180 r0_0v27) 181 r0_1v14)) dX6_tryFrom_85 rfl sh180 (zr_n rfl zr_s) hr0_0v27 (zm_n rfl zm_s) ?_
                  refine zj_aload_n (pc' := 87) 1 dX6_tryFrom_86 rfl rfl rfl ?_
                  refine zj_aload_n (pc' := 88) 2 dX6_tryFrom_87 rfl rfl rfl ?_
                  refine zj_aload_n (pc' := 89) 3 dX6_tryFrom_88 rfl rfl rfl ?_
                  refine zj_iload_n (pc' := 90) 4 dX6_tryFrom_89 rfl rfl rfl ?_
                  refine zj_iconst (pc' := 91) dX6_tryFrom_90 rfl kiconst_1 ?_
                  refine zj_iadd (pc' := 92) dX6_tryFrom_91 rfl ?_
                  refine zj_iload (pc' := 94) 5 dX6_tryFrom_92 rfl rfl ?_
                  refine zj_iconst (pc' := 95) dX6_tryFrom_94 rfl kiconst_1 ?_
                  refine zj_iload (pc' := 97) 8 dX6_tryFrom_95 rfl rfl ?_
                  refine zj_ishl (pc' := 98) dX6_tryFrom_97 rfl ?_
                  refine zj_iconst (pc' := 99) dX6_tryFrom_98 rfl kiconst_m1 ?_
                  refine zj_ixor (pc' := 100) dX6_tryFrom_99 rfl ?_
                  refine zj_iand (pc' := 101) dX6_tryFrom_100 rfl ?_
                  refine zj_iload (pc' := 103) 6 dX6_tryFrom_101 rfl rfl ?_
                  refine zj_iconst (pc' := 104) dX6_tryFrom_103 rfl kiconst_1 ?_
                  refine zj_iadd (pc' := 105) dX6_tryFrom_104 rfl ?_
                  refine zj_iload (pc' := 107) 7 dX6_tryFrom_105 rfl rfl ?_
                  refine zj_iload (pc' := 109) 0 dX6_tryFrom_107 rfl rfl ?_
                  refine zj_iadd (pc' := 110) dX6_tryFrom_109 rfl ?_
                  obtain ⟨y28, hy28, hy⟩ := zt_b hy
                  refine zj_V0 (pc' := 113) (z := YX6_tryFrom) (As := [.ref (zad Γ 5), .ref (zad Γ 15), .int (a3 + 1), .int (a4 &&& (((1 : Int32) <<< (x15 &&& 31)) ^^^ (-1))), .int (a5 + 1), .int (a6 + x24)]) (N := (zui (zui (zui M 179 y28.1) 180 y28.2.1) 181 y28.2.2)) dX6_tryFrom_110 rfl mlX6_43 lkX6_tryFrom sh179 ⟨_, _, rfl⟩ rfl rfl (Nat.le_of_ble_eq_true rfl) (by omega) (ih9 _ r0v12 r0_0v27 r0_1v14 r1 r1_3 r2_0 r2_2 r2_5 (zr_n rfl (zr_n rfl zr_s)) (zr_n rfl zr_s) zr_s (zr_n rfl (zr_n rfl (zr_n rfl e_i5))) (zr_n rfl (zr_n rfl (zr_n rfl e_i9))) (zr_n rfl (zr_n rfl (zr_n rfl e_i16))) (zr_n rfl (zr_n rfl (zr_n rfl e_i18))) (zr_n rfl (zr_n rfl (zr_n rfl e_i21))) (a3 + 1) (a4 &&& (((1 : Int32) <<< (x15 &&& 31)) ^^^ (-1))) (a5 + 1) (a6 + x24) _ hy28) ((zch_i (zch_i (zm_n rfl (zm_n rfl zm_s)) (zm_n rfl zm_s)) zm_s)).symm ?_
                  obtain ⟨x29, ex29⟩ : ∃ z : Int32, z = (x15 + 1) := ⟨_, rfl⟩
                  have hy := zlet_at ex29 hy
                  refine zj_iinc (pc' := 116) 8 (L' := [(7, .int x29), (8, .int x24), (0, .ref (zad Γ 179)), (1, .ref (zad Γ 5)), (2, .ref (zad Γ 15)), (3, .int a3), (4, .int a4), (5, .int a5), (6, .int a6)]) dX6_tryFrom_113 rfl rfl (by decide) (by rw [ci1, ← ex29]; rfl) ?_
                  refine zj_goto (tgt := 34) dX6_tryFrom_116 (by decide) ?_
                  have hn9 := h21 _ (Option.some.inj hy).symm
                  refine zj_loc [2, 3, 4, 5, 6, 7, 8, 0] rfl ?_
                  exact ih20 _ _ _ _ hn9
              refine zj_bif_eq (tgt := 69) (pc' := 51) dX6_tryFrom_48 rfl (by decide) (fun c31 => ?_) (fun c31 => ?_)
              · have hy := zt_f hy c31
                refine zj_iconst (pc' := 70) dX6_tryFrom_69 rfl kiconst_m1 ?_
                exact HJ30 (-1) hy
              · have hy := zt_t hy c31
                refine zj_aload_n (pc' := 52) 1 dX6_tryFrom_51 rfl rfl rfl ?_
                refine zj_aload_n (pc' := 53) 2 dX6_tryFrom_52 rfl rfl rfl ?_
                refine zj_iload (pc' := 55) 7 dX6_tryFrom_53 rfl rfl ?_
                obtain ⟨y32, hy32, hy⟩ := zt_b hy
                refine zj_V1 (pc' := 58) (z := YX1_whereIs) (As := [.int x15]) (N := (zui (zui (zui M 179 r0v12) 180 r0_0v13) 181 r0_1v14)) dX6_tryFrom_55 rfl mlX6_62 lkX1_whereIs sh15 ⟨_, _, rfl⟩ rfl rfl (Nat.le_of_ble_eq_true rfl) (by omega) (LX1_whereIs_15 Γ _ r2_0 (zr_n rfl (zr_n rfl (zr_n rfl e_i16))) x15 hy32) rfl ?_
                refine zj_aload_n (pc' := 59) 2 dX6_tryFrom_58 rfl rfl rfl ?_
                refine zj_iload_n (pc' := 60) 3 dX6_tryFrom_59 rfl rfl rfl ?_
                obtain ⟨y33, hy33, hy⟩ := zt_b hy
                refine zj_V1 (pc' := 63) (z := YX1_whereIs) (As := [.int a3]) (N := (zui (zui (zui M 179 r0v12) 180 r0_0v13) 181 r0_1v14)) dX6_tryFrom_60 rfl mlX6_62 lkX1_whereIs sh15 ⟨_, _, rfl⟩ rfl rfl (Nat.le_of_ble_eq_true rfl) (by omega) (LX1_whereIs_15 Γ _ r2_0 (zr_n rfl (zr_n rfl (zr_n rfl e_i16))) a3 hy33) rfl ?_
                obtain ⟨y34, hy34, hy⟩ := zt_b hy
                refine zj_V1 (pc' := 66) (z := YX7_farFrom) (As := [.int y32, .int y33]) (N := (zui (zui (zui M 179 r0v12) 180 r0_0v13) 181 r0_1v14)) dX6_tryFrom_63 rfl mlX6_65 lkX7_farFrom sh5 ⟨_, _, rfl⟩ rfl rfl (Nat.le_of_ble_eq_true rfl) (by omega) (LX7_farFrom_5 Γ _ r1 r1_3 (zr_n rfl (zr_n rfl (zr_n rfl e_i5))) (zr_n rfl (zr_n rfl (zr_n rfl e_i9))) y32 y33 hy34) rfl ?_
                refine zj_goto (tgt := 70) dX6_tryFrom_66 (by decide) ?_
                exact HJ30 y34 hy
        exact HL17 n9 _ _ _ _ hn9
  · have hy := zt_f hy c1
    refine zj_aload_n (pc' := 7) 0 dX6_tryFrom_6 rfl rfl rfl ?_
    refine zj_iload (pc' := 9) 5 dX6_tryFrom_7 rfl rfl ?_
    refine zj_iload (pc' := 11) 6 dX6_tryFrom_9 rfl rfl ?_
    obtain ⟨y38, hy38, hy⟩ := zt_b hy
    refine zj_V0 (pc' := 14) (z := YX6_keepIfBetter) (As := [.int a5, .int a6]) (N := (zui (zui M 179 y38.1) 181 y38.2)) dX6_tryFrom_11 rfl mlX6_47 lkX6_keepIfBetter sh179 ⟨_, _, rfl⟩ rfl rfl (Nat.le_of_ble_eq_true rfl) (by omega) (LX6_keepIfBetter_179 Γ _ r0 r0_0 r0_1 e_i179 e_i180 e_i181 a5 a6 hy38) ((zch_i rfl rfl)).symm ?_
    have e9 := Option.some.inj hy
    subst e9
    refine zj_mem (N := (zui (zui (zui M 179 y38.1) 180 r0_0) 181 y38.2)) (zself_i (zr_n rfl (zr_n rfl e_i180)) (zm_n rfl rfl)) ?_
    exact zj_vret dX6_tryFrom_14 rfl hq
set_option maxRecDepth 20000 in
theorem RX6_tryFrom_179_5_15 (Γ : zG) (n : Nat) : ∀ (M : zM) (r0 : Nat → Int32) (r0_0 : Nat → Int32) (r0_1 : Nat → Int32) (r1 : Nat → Int32) (r1_3 : Nat → Int32) (r2_0 : Nat → Int32) (r2_2 : Nat → Int32) (r2_5 : Nat → Int32) (e_i179 : M.1 179 = r0) (e_i180 : M.1 180 = r0_0) (e_i181 : M.1 181 = r0_1) (e_i5 : M.1 5 = r1) (e_i9 : M.1 9 = r1_3) (e_i16 : M.1 16 = r2_0) (e_i18 : M.1 18 = r2_2) (e_i21 : M.1 21 = r2_5) (a3 : Int32) (a4 : Int32) (a5 : Int32) (a6 : Int32) (res : (Nat → Int32) × (Nat → Int32) × (Nat → Int32)), fPr_tryFrom n r0 r0_0 r0_1 r1 r1_3 r2_0 r2_2 r2_5 a3 a4 a5 a6 = some res → zK Γ (4 + n) YX6_tryFrom [.ref (zad Γ 179), .ref (zad Γ 5), .ref (zad Γ 15), .int a3, .int a4, .int a5, .int a6] M (fun v N => v = none ∧ N = (zui (zui (zui M 179 res.1) 180 res.2.1) 181 res.2.2)) := by
  induction n with
  | zero => intro M r0 r0_0 r0_1 r1 r1_3 r2_0 r2_2 r2_5 e_i179 e_i180 e_i181 e_i5 e_i9 e_i16 e_i18 e_i21 a3 a4 a5 a6 res hy; cases hy
  | succ n ih =>
    intro M r0 r0_0 r0_1 r1 r1_3 r2_0 r2_2 r2_5 e_i179 e_i180 e_i181 e_i5 e_i9 e_i16 e_i18 e_i21 a3 a4 a5 a6 res hy
    exact zK_of (by decide) (Nat.le_of_ble_eq_true rfl) (TX6_tryFrom_179_5_15 Γ (4 + n) (by omega) (fPr_tryFrom n) ih M r0 r0_0 r0_1 r1 r1_3 r2_0 r2_2 r2_5 e_i179 e_i180 e_i181 e_i5 e_i9 e_i16 e_i18 e_i21 a3 a4 a5 a6 hy ⟨rfl, rfl⟩)
set_option maxRecDepth 20000 in
theorem LX6_tryFrom_179_5_15 (Γ : zG) (M : zM) (r0 : Nat → Int32) (r0_0 : Nat → Int32) (r0_1 : Nat → Int32) (r1 : Nat → Int32) (r1_3 : Nat → Int32) (r2_0 : Nat → Int32) (r2_2 : Nat → Int32) (r2_5 : Nat → Int32) (e_i179 : M.1 179 = r0) (e_i180 : M.1 180 = r0_0) (e_i181 : M.1 181 = r0_1) (e_i5 : M.1 5 = r1) (e_i9 : M.1 9 = r1_3) (e_i16 : M.1 16 = r2_0) (e_i18 : M.1 18 = r2_2) (e_i21 : M.1 21 = r2_5) (a3 : Int32) (a4 : Int32) (a5 : Int32) (a6 : Int32) {res : (Nat → Int32) × (Nat → Int32) × (Nat → Int32)} (hy : (fPr_tryFrom 8 r0 r0_0 r0_1 r1 r1_3 r2_0 r2_2 r2_5 a3 a4 a5 a6) = some res) : zK Γ 12 YX6_tryFrom [.ref (zad Γ 179), .ref (zad Γ 5), .ref (zad Γ 15), .int a3, .int a4, .int a5, .int a6] M (fun v N => v = none ∧ N = (zui (zui (zui M 179 res.1) 180 res.2.1) 181 res.2.2)) :=
  RX6_tryFrom_179_5_15 Γ 8 M r0 r0_0 r0_1 r1 r1_3 r2_0 r2_2 r2_5 e_i179 e_i180 e_i181 e_i5 e_i9 e_i16 e_i18 e_i21 a3 a4 a5 a6 res hy

noncomputable def fPr_choose_L5 (r1 : Nat → Int32) (r2_2 : Nat → Int32) (r2_5 : Nat → Int32) (x1 : Int32) (x2 : Int32) : Option ((Int32 × Int32) ⊕ (Int32)) :=
  (if (fPl_persons r1) ≤ x2 then
  some (.inr x1)
  else
  (fDy_isIdle r2_2 r2_5 x2).bind (fun (y11 : Bool) =>
  (if y11 = true then
  zlet (x1 ||| ((1 : Int32) <<< (x2 &&& 31))) (fun (x13 : Int32) =>
  zlet (x2 + 1) (fun (x14 : Int32) =>
  some (.inl (x13, x14))))
  else
  zlet (x2 + 1) (fun (x15 : Int32) =>
  some (.inl (x1, x15))))))
noncomputable def fPr_choose (r0 : Nat → Int32) (r0_0 : Nat → Int32) (r0_1 : Nat → Int32) (r1 : Nat → Int32) (r1_3 : Nat → Int32) (r2_0 : Nat → Int32) (r2_2 : Nat → Int32) (r2_5 : Nat → Int32) : Option ((Nat → Int32) × (Nat → Int32) × (Nat → Int32)) :=
  (zLP (fun s => fPr_choose_L5 r1 r2_2 r2_5 s.1 s.2) (0, 0)).bind (fun r5 =>
  zlet (zup r0 2 (-1)) (fun (r0v17 : Nat → Int32) =>
  zlet (zup r0v17 3 (-1)) (fun (r0v18 : Nat → Int32) =>
  (fPr_tryFrom 8 r0v18 r0_0 r0_1 r1 r1_3 r2_0 r2_2 r2_5 0 r5 0 0).bind (fun (y19 : (Nat → Int32) × (Nat → Int32) × (Nat → Int32)) =>
  some (y19.1, y19.2.1, y19.2.2)))))

set_option maxRecDepth 20000 in
theorem TX6_choose_179_5_15 (Γ : zG) {Q : Option Value → zM → Prop} (M : zM) (r0 : Nat → Int32) (r0_0 : Nat → Int32) (r0_1 : Nat → Int32) (r1 : Nat → Int32) (r1_3 : Nat → Int32) (r2_0 : Nat → Int32) (r2_2 : Nat → Int32) (r2_5 : Nat → Int32) (e_i179 : M.1 179 = r0) (e_i180 : M.1 180 = r0_0) (e_i181 : M.1 181 = r0_1) (e_i5 : M.1 5 = r1) (e_i9 : M.1 9 = r1_3) (e_i16 : M.1 16 = r2_0) (e_i18 : M.1 18 = r2_2) (e_i21 : M.1 21 = r2_5)  {res : (Nat → Int32) × (Nat → Int32) × (Nat → Int32)} (hy : (fPr_choose r0 r0_0 r0_1 r1 r1_3 r2_0 r2_2 r2_5) = some res) (hq : Q none (zui (zui (zui M 179 res.1) 180 res.2.1) 181 res.2.2)) : zR Γ 13 YX6_choose 0 [(0, .ref (zad Γ 179)), (1, .ref (zad Γ 5)), (2, .ref (zad Γ 15))] [] M Q := by
  unfold fPr_choose at hy
  refine zj_iconst (pc' := 1) dX6_choose_0 rfl kiconst_0 ?_
  refine zj_istore_n (pc' := 2) (L' := [(3, .int 0), (0, .ref (zad Γ 179)), (1, .ref (zad Γ 5)), (2, .ref (zad Γ 15))]) dX6_choose_1 rfl rfl (by decide) rfl ?_
  refine zj_iconst (pc' := 3) dX6_choose_2 rfl kiconst_0 ?_
  refine zj_istore (pc' := 5) (L' := [(4, .int 0), (3, .int 0), (0, .ref (zad Γ 179)), (1, .ref (zad Γ 5)), (2, .ref (zad Γ 15))]) dX6_choose_3 rfl (by decide) rfl ?_
  refine zj_loc [2, 3, 4, 1, 0] rfl ?_
  obtain ⟨r5, hr9, hyo6⟩ := zt_b hy
  obtain ⟨n9, hn9⟩ := zLP_some hr9
  have HE3 : ∀ (x16 : Int32), r5 = x16 → zR Γ 13 YX6_choose 36 [(0, .ref (zad Γ 179)), (1, .ref (zad Γ 5)), (2, .ref (zad Γ 15)), (3, .int x16)] [] M Q := by
    intro x16 e9
    have hy := hyo6
    try rw [e9] at hy
    try dsimp only at hy
    refine zj_aload_n (pc' := 37) 0 dX6_choose_36 rfl rfl rfl ?_
    refine zj_iconst (pc' := 38) dX6_choose_37 rfl kiconst_m1 ?_
    obtain ⟨r0v17, er0v17⟩ : ∃ z, z = (zup r0 2 (-1)) := ⟨_, rfl⟩
    have hy := zlet_at er0v17 hy
    refine zj_pI (pc' := 41) (N := (zui M 179 r0v17)) dX6_choose_38 rfl fpX6_18 sh179 rfl e_i179 er0v17 rfl ?_
    refine zj_aload_n (pc' := 42) 0 dX6_choose_41 rfl rfl rfl ?_
    refine zj_iconst (pc' := 43) dX6_choose_42 rfl kiconst_m1 ?_
    obtain ⟨r0v18, er0v18⟩ : ∃ z, z = (zup r0v17 3 (-1)) := ⟨_, rfl⟩
    have hy := zlet_at er0v18 hy
    refine zj_pI (pc' := 46) (N := (zui M 179 r0v18)) dX6_choose_43 rfl fpX6_22 sh179 rfl zr_s er0v18 zm_s ?_
    refine zj_aload_n (pc' := 47) 0 dX6_choose_46 rfl rfl rfl ?_
    refine zj_aload_n (pc' := 48) 1 dX6_choose_47 rfl rfl rfl ?_
    refine zj_aload_n (pc' := 49) 2 dX6_choose_48 rfl rfl rfl ?_
    refine zj_iconst (pc' := 50) dX6_choose_49 rfl kiconst_0 ?_
    refine zj_iload_n (pc' := 51) 3 dX6_choose_50 rfl rfl rfl ?_
    refine zj_iconst (pc' := 52) dX6_choose_51 rfl kiconst_0 ?_
    refine zj_iconst (pc' := 53) dX6_choose_52 rfl kiconst_0 ?_
    obtain ⟨y19, hy19, hy⟩ := zt_b hy
    refine zj_V0 (pc' := 56) (z := YX6_tryFrom) (As := [.ref (zad Γ 5), .ref (zad Γ 15), .int 0, .int x16, .int 0, .int 0]) (N := (zui (zui (zui M 179 y19.1) 180 y19.2.1) 181 y19.2.2)) dX6_choose_53 rfl mlX6_43 lkX6_tryFrom sh179 ⟨_, _, rfl⟩ rfl rfl (Nat.le_of_ble_eq_true rfl) (Nat.le_of_ble_eq_true rfl) (LX6_tryFrom_179_5_15 Γ _ r0v18 r0_0 r0_1 r1 r1_3 r2_0 r2_2 r2_5 zr_s (zr_n rfl e_i180) (zr_n rfl e_i181) (zr_n rfl e_i5) (zr_n rfl e_i9) (zr_n rfl e_i16) (zr_n rfl e_i18) (zr_n rfl e_i21) 0 x16 0 0 hy19) ((zch_i (zch_i zm_s rfl) rfl)).symm ?_
    have e9 := Option.some.inj hy
    subst e9
    exact zj_vret dX6_choose_56 rfl hq
  have HL4 : ∀ (n : Nat) (x1 : Int32) (x2 : Int32), zlp (fun s => fPr_choose_L5 r1 r2_2 r2_5 s.1 s.2) n (x1, x2) = some r5 → zR Γ 13 YX6_choose 5 [(0, .ref (zad Γ 179)), (1, .ref (zad Γ 5)), (2, .ref (zad Γ 15)), (3, .int x1), (4, .int x2)] [] M Q := by
    intro n
    induction n with
    | zero => intro x1 x2 hn9; cases hn9
    | succ n ih7 =>
      intro x1 x2 hn9
      obtain ⟨o9, hb9, h8, h9⟩ := zlp_step hn9
      have hy : fPr_choose_L5 r1 r2_2 r2_5 x1 x2 = some o9 := hb9
      unfold fPr_choose_L5 at hy
      refine zj_iload (pc' := 7) 4 dX6_choose_5 rfl rfl ?_
      refine zj_aload_n (pc' := 8) 1 dX6_choose_7 rfl rfl rfl ?_
      refine zj_V1 (pc' := 11) (z := YX7_persons) (As := []) (N := M) dX6_choose_8 rfl mlX6_31 lkX7_persons sh5 ⟨_, _, rfl⟩ rfl rfl (Nat.le_of_ble_eq_true rfl) (Nat.le_of_ble_eq_true rfl) (LX7_persons_5 Γ _ r1 e_i5 rfl) rfl ?_
      refine zj_icmp_ge (tgt := 36) (pc' := 14) dX6_choose_11 rfl (by decide) (fun c10 => ?_) (fun c10 => ?_)
      · have hy := zt_t hy c10
        have e9 := h9 _ (Option.some.inj hy).symm
        refine zj_loc [0, 1, 2, 3] rfl ?_
        exact HE3 _ e9.symm
      · have hy := zt_f hy c10
        refine zj_aload_n (pc' := 15) 2 dX6_choose_14 rfl rfl rfl ?_
        refine zj_iload (pc' := 17) 4 dX6_choose_15 rfl rfl ?_
        obtain ⟨y11, hy11, hy⟩ := zt_b hy
        refine zj_V1 (pc' := 20) (z := YX1_isIdle) (As := [.int x2]) (N := M) dX6_choose_17 rfl mlX6_37 lkX1_isIdle sh15 ⟨_, _, rfl⟩ rfl rfl (Nat.le_of_ble_eq_true rfl) (Nat.le_of_ble_eq_true rfl) (LX1_isIdle_15 Γ _ r2_2 r2_5 e_i18 e_i21 x2 hy11) rfl ?_
        refine zj_bif_eq (tgt := 30) (pc' := 23) dX6_choose_20 rfl (by decide) (fun c12 => ?_) (fun c12 => ?_)
        · have hy := zt_f hy c12
          obtain ⟨x15, ex15⟩ : ∃ z : Int32, z = (x2 + 1) := ⟨_, rfl⟩
          have hy := zlet_at ex15 hy
          refine zj_iinc (pc' := 33) 4 (L' := [(4, .int x15), (0, .ref (zad Γ 179)), (1, .ref (zad Γ 5)), (2, .ref (zad Γ 15)), (3, .int x1)]) dX6_choose_30 rfl rfl (by decide) (by rw [ci1, ← ex15]; rfl) ?_
          refine zj_goto (tgt := 5) dX6_choose_33 (by decide) ?_
          have hn9 := h8 _ (Option.some.inj hy).symm
          refine zj_loc [1, 2, 3, 4, 0] rfl ?_
          exact ih7 _ _ hn9
        · have hy := zt_t hy c12
          refine zj_iload_n (pc' := 24) 3 dX6_choose_23 rfl rfl rfl ?_
          refine zj_iconst (pc' := 25) dX6_choose_24 rfl kiconst_1 ?_
          refine zj_iload (pc' := 27) 4 dX6_choose_25 rfl rfl ?_
          refine zj_ishl (pc' := 28) dX6_choose_27 rfl ?_
          refine zj_ior (pc' := 29) dX6_choose_28 rfl ?_
          refine zj_topi (fun x13 ex13 => ?_)
          have hy := zlet_at ex13 hy
          refine zj_istore_n (pc' := 30) (L' := [(3, .int x13), (0, .ref (zad Γ 179)), (1, .ref (zad Γ 5)), (2, .ref (zad Γ 15)), (4, .int x2)]) dX6_choose_29 rfl rfl (by decide) rfl ?_
          obtain ⟨x14, ex14⟩ : ∃ z : Int32, z = (x2 + 1) := ⟨_, rfl⟩
          have hy := zlet_at ex14 hy
          refine zj_iinc (pc' := 33) 4 (L' := [(4, .int x14), (3, .int x13), (0, .ref (zad Γ 179)), (1, .ref (zad Γ 5)), (2, .ref (zad Γ 15))]) dX6_choose_30 rfl rfl (by decide) (by rw [ci1, ← ex14]; rfl) ?_
          refine zj_goto (tgt := 5) dX6_choose_33 (by decide) ?_
          have hn9 := h8 _ (Option.some.inj hy).symm
          refine zj_loc [2, 3, 4, 1, 0] rfl ?_
          exact ih7 _ _ hn9
  exact HL4 n9 _ _ hn9
set_option maxRecDepth 20000 in
theorem LX6_choose_179_5_15 (Γ : zG) (M : zM) (r0 : Nat → Int32) (r0_0 : Nat → Int32) (r0_1 : Nat → Int32) (r1 : Nat → Int32) (r1_3 : Nat → Int32) (r2_0 : Nat → Int32) (r2_2 : Nat → Int32) (r2_5 : Nat → Int32) (e_i179 : M.1 179 = r0) (e_i180 : M.1 180 = r0_0) (e_i181 : M.1 181 = r0_1) (e_i5 : M.1 5 = r1) (e_i9 : M.1 9 = r1_3) (e_i16 : M.1 16 = r2_0) (e_i18 : M.1 18 = r2_2) (e_i21 : M.1 21 = r2_5)  {res : (Nat → Int32) × (Nat → Int32) × (Nat → Int32)} (hy : (fPr_choose r0 r0_0 r0_1 r1 r1_3 r2_0 r2_2 r2_5) = some res) : zK Γ 13 YX6_choose [.ref (zad Γ 179), .ref (zad Γ 5), .ref (zad Γ 15)] M (fun v N => v = none ∧ N = (zui (zui (zui M 179 res.1) 180 res.2.1) 181 res.2.2)) :=
  zK_of (by decide) (Nat.le_of_ble_eq_true rfl) (TX6_choose_179_5_15 Γ M r0 r0_0 r0_1 r1 r1_3 r2_0 r2_2 r2_5 e_i179 e_i180 e_i181 e_i5 e_i9 e_i16 e_i18 e_i21 hy ⟨rfl, rfl⟩)

noncomputable def fPr_pairs (r0 : Nat → Int32) : Int32 :=
  (r0 2)

set_option maxRecDepth 20000 in
theorem TX6_pairs_179 (Γ : zG) {Q : Option Value → zM → Prop} (M : zM) (r0 : Nat → Int32) (e_i179 : M.1 179 = r0)  {res : Int32} (hy : (fPr_pairs r0) = res) (hq : Q (some (.int res)) M) : zR Γ 1 YX6_pairs 0 [(0, .ref (zad Γ 179))] [] M Q := by
  unfold fPr_pairs at hy
  refine zj_aload_n (pc' := 1) 0 dX6_pairs_0 rfl rfl rfl ?_
  refine zj_fI (pc' := 4) dX6_pairs_1 rfl flX6_18 sh179 rfl e_i179 rfl ?_
  subst hy
  exact zj_iret dX6_pairs_4 rfl hq
set_option maxRecDepth 20000 in
theorem LX6_pairs_179 (Γ : zG) (M : zM) (r0 : Nat → Int32) (e_i179 : M.1 179 = r0)  {res : Int32} (hy : (fPr_pairs r0) = res) : zK Γ 1 YX6_pairs [.ref (zad Γ 179)] M (fun v N => v = some (.int res) ∧ N = M) :=
  zK_of (by decide) (Nat.le_of_ble_eq_true rfl) (TX6_pairs_179 Γ M r0 e_i179 hy ⟨rfl, rfl⟩)

noncomputable def fX_hires (r0_2 : Nat → Int32) (r0_2_3 : Nat → Int32) (r0_4_0 : Nat → Int32) (r0_4_2 : Nat → Int32) (r0_4_5 : Nat → Int32) (r0_11 : Nat → Int32) (r0_11_0 : Nat → Int32) (r0_11_1 : Nat → Int32) : Option (Int32 × (Nat → Int32) × (Nat → Int32) × (Nat → Int32)) :=
  (fPr_choose r0_11 r0_11_0 r0_11_1 r0_2 r0_2_3 r0_4_0 r0_4_2 r0_4_5).bind (fun (y1 : (Nat → Int32) × (Nat → Int32) × (Nat → Int32)) =>
  some ((fPr_pairs y1.1), y1.1, y1.2.1, y1.2.2))

set_option maxRecDepth 20000 in
theorem TX11_hires_0 (Γ : zG) {Q : Option Value → zM → Prop} (M : zM) (r0_2 : Nat → Int32) (r0_2_3 : Nat → Int32) (r0_4_0 : Nat → Int32) (r0_4_2 : Nat → Int32) (r0_4_5 : Nat → Int32) (r0_11 : Nat → Int32) (r0_11_0 : Nat → Int32) (r0_11_1 : Nat → Int32) (e_i5 : M.1 5 = r0_2) (e_i9 : M.1 9 = r0_2_3) (e_i16 : M.1 16 = r0_4_0) (e_i18 : M.1 18 = r0_4_2) (e_i21 : M.1 21 = r0_4_5) (e_i179 : M.1 179 = r0_11) (e_i180 : M.1 180 = r0_11_0) (e_i181 : M.1 181 = r0_11_1)  {res : Int32 × (Nat → Int32) × (Nat → Int32) × (Nat → Int32)} (hy : (fX_hires r0_2 r0_2_3 r0_4_0 r0_4_2 r0_4_5 r0_11 r0_11_0 r0_11_1) = some res) (hq : Q (some (.int res.1)) (zui (zui (zui M 179 res.2.1) 180 res.2.2.1) 181 res.2.2.2)) : zR Γ 14 YX11_hires 0 [(0, .ref (zad Γ 0))] [] M Q := by
  unfold fX_hires at hy
  refine zj_aload_n (pc' := 1) 0 dX11_hires_0 rfl rfl rfl ?_
  refine zj_getR (pc' := 4) (j := 179) dX11_hires_1 rfl flX11_78 sh0 rfl ?_
  refine zj_aload_n (pc' := 5) 0 dX11_hires_4 rfl rfl rfl ?_
  refine zj_getR (pc' := 8) (j := 5) dX11_hires_5 rfl flX11_28 sh0 rfl ?_
  refine zj_aload_n (pc' := 9) 0 dX11_hires_8 rfl rfl rfl ?_
  refine zj_getR (pc' := 12) (j := 15) dX11_hires_9 rfl flX11_38 sh0 rfl ?_
  obtain ⟨y1, hy1, hy⟩ := zt_b hy
  refine zj_V0 (pc' := 15) (z := YX6_choose) (As := [.ref (zad Γ 5), .ref (zad Γ 15)]) (N := (zui (zui (zui M 179 y1.1) 180 y1.2.1) 181 y1.2.2)) dX11_hires_12 rfl mlX11_295 lkX6_choose sh179 ⟨_, _, rfl⟩ rfl rfl (Nat.le_of_ble_eq_true rfl) (Nat.le_of_ble_eq_true rfl) (LX6_choose_179_5_15 Γ _ r0_11 r0_11_0 r0_11_1 r0_2 r0_2_3 r0_4_0 r0_4_2 r0_4_5 e_i179 e_i180 e_i181 e_i5 e_i9 e_i16 e_i18 e_i21 hy1) ((zch_i (zch_i rfl rfl) rfl)).symm ?_
  refine zj_aload_n (pc' := 16) 0 dX11_hires_15 rfl rfl rfl ?_
  refine zj_getR (pc' := 19) (j := 179) dX11_hires_16 rfl flX11_78 sh0 rfl ?_
  refine zj_V1 (pc' := 22) (z := YX6_pairs) (As := []) (N := (zui (zui (zui M 179 y1.1) 180 y1.2.1) 181 y1.2.2)) dX11_hires_19 rfl mlX11_299 lkX6_pairs sh179 ⟨_, _, rfl⟩ rfl rfl (Nat.le_of_ble_eq_true rfl) (Nat.le_of_ble_eq_true rfl) (LX6_pairs_179 Γ _ y1.1 (zr_n rfl (zr_n rfl zr_s)) rfl) rfl ?_
  have e9 := Option.some.inj hy
  subst e9
  exact zj_iret dX11_hires_22 rfl hq
set_option maxRecDepth 20000 in
theorem LX11_hires_0 (Γ : zG) (M : zM) (r0_2 : Nat → Int32) (r0_2_3 : Nat → Int32) (r0_4_0 : Nat → Int32) (r0_4_2 : Nat → Int32) (r0_4_5 : Nat → Int32) (r0_11 : Nat → Int32) (r0_11_0 : Nat → Int32) (r0_11_1 : Nat → Int32) (e_i5 : M.1 5 = r0_2) (e_i9 : M.1 9 = r0_2_3) (e_i16 : M.1 16 = r0_4_0) (e_i18 : M.1 18 = r0_4_2) (e_i21 : M.1 21 = r0_4_5) (e_i179 : M.1 179 = r0_11) (e_i180 : M.1 180 = r0_11_0) (e_i181 : M.1 181 = r0_11_1)  {res : Int32 × (Nat → Int32) × (Nat → Int32) × (Nat → Int32)} (hy : (fX_hires r0_2 r0_2_3 r0_4_0 r0_4_2 r0_4_5 r0_11 r0_11_0 r0_11_1) = some res) : zK Γ 14 YX11_hires [.ref (zad Γ 0)] M (fun v N => v = some (.int res.1) ∧ N = (zui (zui (zui M 179 res.2.1) 180 res.2.2.1) 181 res.2.2.2)) :=
  zK_of (by decide) (Nat.le_of_ble_eq_true rfl) (TX11_hires_0 Γ M r0_2 r0_2_3 r0_4_0 r0_4_2 r0_4_5 r0_11 r0_11_0 r0_11_1 e_i5 e_i9 e_i16 e_i18 e_i21 e_i179 e_i180 e_i181 hy ⟨rfl, rfl⟩)

noncomputable def fX_drawn (r0_2 : Nat → Int32) (r0_2_2 : Nat → Int32) (r0_2_3 : Nat → Int32) (r0_4 : Nat → Int32) (r0_4_0 : Nat → Int32) (r0_4_1 : Nat → Int32) (r0_4_2 : Nat → Int32) (r0_4_3 : Nat → Int32) (r0_4_4 : Nat → Int32) (r0_4_5 : Nat → Int32) (r0_4_6 : Nat → Int32) (r0_4_7 : Nat → Int32) (r0_5 : Nat → Int32) (r0_5_0 : Nat → Int32) (r0_5_1 : Nat → Int32) (r0_5_2 : Nat → Int32) (r0_5_3 : Nat → Int32) (r0_5_4 : Nat → Int32) (r0_5_5 : Nat → Int32) (r0_5_6 : Nat → Int32) (r0_5_7 : Nat → Int32) (r0_5_8 : Nat → Int32) (r0_8 : Nat → Int32) (r0_12 : Nat → Int32) (g49 : zM) (a1 : Int32) (a2 : Int32) : Option (Int32 × (Nat → Int32) × (Nat → Int32) × (Nat → Int32) × (Nat → Int32) × (Nat → Int32) × (Nat → Int32) × (Nat → Int32) × (Nat → Int32) × (Nat → Int32) × (Nat → Int32) × (Nat → Int32) × (Nat → Int32) × (Nat → Int32) × (Nat → Int32) × (Nat → Int32) × (Nat → Int32) × (Nat → Int32) × (Nat → Int32) × (Nat → Int32) × (Nat → Int32) × (Nat → Int32) × zM) :=
  (if a1 < 1 then
  some ((-1), r0_4, r0_4_0, r0_4_1, r0_4_2, r0_4_3, r0_4_4, r0_4_5, r0_4_6, r0_4_7, r0_5, r0_5_0, r0_5_1, r0_5_2, r0_5_3, r0_5_4, r0_5_5, r0_5_6, r0_5_7, r0_5_8, r0_8, r0_12, g49)
  else
  (if a1 ≤ 60 then
  (fDy_copyFrom r0_5 r0_5_0 r0_5_1 r0_5_2 r0_5_3 r0_5_4 r0_5_5 r0_5_6 r0_5_7 r0_4 r0_4_0 r0_4_1 r0_4_2 r0_4_3 r0_4_4 r0_4_5 r0_4_6 r0_4_7).bind (fun (y3 : (Nat → Int32) × (Nat → Int32) × (Nat → Int32) × (Nat → Int32) × (Nat → Int32) × (Nat → Int32) × (Nat → Int32) × (Nat → Int32) × (Nat → Int32)) =>
  (fDr_passMinutes r0_12 r0_2 r0_2_2 r0_2_3 y3.1 y3.2.1 y3.2.2.1 y3.2.2.2.1 y3.2.2.2.2.1 y3.2.2.2.2.2.1 y3.2.2.2.2.2.2.1 y3.2.2.2.2.2.2.2.1 y3.2.2.2.2.2.2.2.2 r0_5_8 a1 a2).bind (fun (y4 : Int32 × (Nat → Int32) × (Nat → Int32) × (Nat → Int32) × (Nat → Int32) × (Nat → Int32) × (Nat → Int32) × (Nat → Int32) × (Nat → Int32) × (Nat → Int32) × (Nat → Int32) × (Nat → Int32)) =>
  zlet y4.1 (fun (x5 : Int32) =>
  (fX_settle r0_4 r0_4_0 r0_4_1 r0_4_2 r0_4_3 r0_4_4 r0_4_5 r0_4_6 r0_4_7 y4.2.2.1 y4.2.2.2.1 y4.2.2.2.2.1 y4.2.2.2.2.2.1 y4.2.2.2.2.2.2.1 y4.2.2.2.2.2.2.2.1 y4.2.2.2.2.2.2.2.2.1 y4.2.2.2.2.2.2.2.2.2.1 y4.2.2.2.2.2.2.2.2.2.2.1 r0_8 g49 x5).bind (fun (y6 : (Nat → Int32) × (Nat → Int32) × (Nat → Int32) × (Nat → Int32) × (Nat → Int32) × (Nat → Int32) × (Nat → Int32) × (Nat → Int32) × (Nat → Int32) × (Nat → Int32) × zM) =>
  some (x5, y6.1, y6.2.1, y6.2.2.1, y6.2.2.2.1, y6.2.2.2.2.1, y6.2.2.2.2.2.1, y6.2.2.2.2.2.2.1, y6.2.2.2.2.2.2.2.1, y6.2.2.2.2.2.2.2.2.1, y4.2.2.1, y4.2.2.2.1, y4.2.2.2.2.1, y4.2.2.2.2.2.1, y4.2.2.2.2.2.2.1, y4.2.2.2.2.2.2.2.1, y4.2.2.2.2.2.2.2.2.1, y4.2.2.2.2.2.2.2.2.2.1, y4.2.2.2.2.2.2.2.2.2.2.1, y4.2.2.2.2.2.2.2.2.2.2.2, y6.2.2.2.2.2.2.2.2.2.1, y4.2.1, y6.2.2.2.2.2.2.2.2.2.2)))))
  else
  some ((-1), r0_4, r0_4_0, r0_4_1, r0_4_2, r0_4_3, r0_4_4, r0_4_5, r0_4_6, r0_4_7, r0_5, r0_5_0, r0_5_1, r0_5_2, r0_5_3, r0_5_4, r0_5_5, r0_5_6, r0_5_7, r0_5_8, r0_8, r0_12, g49)))

set_option maxRecDepth 20000 in
theorem TX11_drawn_0 (Γ : zG) {Q : Option Value → zM → Prop} (M : zM) (r0_2 : Nat → Int32) (r0_2_2 : Nat → Int32) (r0_2_3 : Nat → Int32) (r0_4 : Nat → Int32) (r0_4_0 : Nat → Int32) (r0_4_1 : Nat → Int32) (r0_4_2 : Nat → Int32) (r0_4_3 : Nat → Int32) (r0_4_4 : Nat → Int32) (r0_4_5 : Nat → Int32) (r0_4_6 : Nat → Int32) (r0_4_7 : Nat → Int32) (r0_5 : Nat → Int32) (r0_5_0 : Nat → Int32) (r0_5_1 : Nat → Int32) (r0_5_2 : Nat → Int32) (r0_5_3 : Nat → Int32) (r0_5_4 : Nat → Int32) (r0_5_5 : Nat → Int32) (r0_5_6 : Nat → Int32) (r0_5_7 : Nat → Int32) (r0_5_8 : Nat → Int32) (r0_8 : Nat → Int32) (r0_12 : Nat → Int32) (g49 : zM) (e_i5 : M.1 5 = r0_2) (e_i8 : M.1 8 = r0_2_2) (e_i9 : M.1 9 = r0_2_3) (e_i15 : M.1 15 = r0_4) (e_i16 : M.1 16 = r0_4_0) (e_i17 : M.1 17 = r0_4_1) (e_i18 : M.1 18 = r0_4_2) (e_i19 : M.1 19 = r0_4_3) (e_i20 : M.1 20 = r0_4_4) (e_i21 : M.1 21 = r0_4_5) (e_i22 : M.1 22 = r0_4_6) (e_i23 : M.1 23 = r0_4_7) (e_i25 : M.1 25 = r0_5) (e_i26 : M.1 26 = r0_5_0) (e_i27 : M.1 27 = r0_5_1) (e_i28 : M.1 28 = r0_5_2) (e_i29 : M.1 29 = r0_5_3) (e_i30 : M.1 30 = r0_5_4) (e_i31 : M.1 31 = r0_5_5) (e_i32 : M.1 32 = r0_5_6) (e_i33 : M.1 33 = r0_5_7) (e_i34 : M.1 34 = r0_5_8) (e_i47 : M.1 47 = r0_8) (e_i182 : M.1 182 = r0_12) (e_h49 : zeq M 49 129 g49) (a1 : Int32) (a2 : Int32) {res : Int32 × (Nat → Int32) × (Nat → Int32) × (Nat → Int32) × (Nat → Int32) × (Nat → Int32) × (Nat → Int32) × (Nat → Int32) × (Nat → Int32) × (Nat → Int32) × (Nat → Int32) × (Nat → Int32) × (Nat → Int32) × (Nat → Int32) × (Nat → Int32) × (Nat → Int32) × (Nat → Int32) × (Nat → Int32) × (Nat → Int32) × (Nat → Int32) × (Nat → Int32) × (Nat → Int32) × zM} (hy : (fX_drawn r0_2 r0_2_2 r0_2_3 r0_4 r0_4_0 r0_4_1 r0_4_2 r0_4_3 r0_4_4 r0_4_5 r0_4_6 r0_4_7 r0_5 r0_5_0 r0_5_1 r0_5_2 r0_5_3 r0_5_4 r0_5_5 r0_5_6 r0_5_7 r0_5_8 r0_8 r0_12 g49 a1 a2) = some res) (hq : Q (some (.int res.1)) (zub (zui (zui (zui (zui (zui (zui (zui (zui (zui (zui (zui (zui (zui (zui (zui (zui (zui (zui (zui (zui (zui M 15 res.2.1) 16 res.2.2.1) 17 res.2.2.2.1) 18 res.2.2.2.2.1) 19 res.2.2.2.2.2.1) 20 res.2.2.2.2.2.2.1) 21 res.2.2.2.2.2.2.2.1) 22 res.2.2.2.2.2.2.2.2.1) 23 res.2.2.2.2.2.2.2.2.2.1) 25 res.2.2.2.2.2.2.2.2.2.2.1) 26 res.2.2.2.2.2.2.2.2.2.2.2.1) 27 res.2.2.2.2.2.2.2.2.2.2.2.2.1) 28 res.2.2.2.2.2.2.2.2.2.2.2.2.2.1) 29 res.2.2.2.2.2.2.2.2.2.2.2.2.2.2.1) 30 res.2.2.2.2.2.2.2.2.2.2.2.2.2.2.2.1) 31 res.2.2.2.2.2.2.2.2.2.2.2.2.2.2.2.2.1) 32 res.2.2.2.2.2.2.2.2.2.2.2.2.2.2.2.2.2.1) 33 res.2.2.2.2.2.2.2.2.2.2.2.2.2.2.2.2.2.2.1) 34 res.2.2.2.2.2.2.2.2.2.2.2.2.2.2.2.2.2.2.2.1) 47 res.2.2.2.2.2.2.2.2.2.2.2.2.2.2.2.2.2.2.2.2.1) 182 res.2.2.2.2.2.2.2.2.2.2.2.2.2.2.2.2.2.2.2.2.2.1) 49 129 res.2.2.2.2.2.2.2.2.2.2.2.2.2.2.2.2.2.2.2.2.2.2)) : zR Γ 7 YX11_drawn 0 [(0, .ref (zad Γ 0)), (1, .int a1), (2, .int a2)] [] M Q := by
  unfold fX_drawn at hy
  refine zj_iload_n (pc' := 1) 1 dX11_drawn_0 rfl rfl rfl ?_
  refine zj_iconst (pc' := 2) dX11_drawn_1 rfl kiconst_1 ?_
  refine zj_icmp_lt (tgt := 11) (pc' := 5) dX11_drawn_2 rfl (by decide) (fun c1 => ?_) (fun c1 => ?_)
  · have hy := zt_t hy c1
    refine zj_iconst (pc' := 12) dX11_drawn_11 rfl kiconst_m1 ?_
    have e9 := Option.some.inj hy
    subst e9
    refine zj_mem (N := (zui M 15 r0_4)) (zself_i e_i15 rfl) ?_
    refine zj_mem (N := (zui (zui M 15 r0_4) 16 r0_4_0)) (zself_i (zr_n rfl e_i16) rfl) ?_
    refine zj_mem (N := (zui (zui (zui M 15 r0_4) 16 r0_4_0) 17 r0_4_1)) (zself_i (zr_n rfl (zr_n rfl e_i17)) rfl) ?_
    refine zj_mem (N := (zui (zui (zui (zui M 15 r0_4) 16 r0_4_0) 17 r0_4_1) 18 r0_4_2)) (zself_i (zr_n rfl (zr_n rfl (zr_n rfl e_i18))) rfl) ?_
    refine zj_mem (N := (zui (zui (zui (zui (zui M 15 r0_4) 16 r0_4_0) 17 r0_4_1) 18 r0_4_2) 19 r0_4_3)) (zself_i (zr_n rfl (zr_n rfl (zr_n rfl (zr_n rfl e_i19)))) rfl) ?_
    refine zj_mem (N := (zui (zui (zui (zui (zui (zui M 15 r0_4) 16 r0_4_0) 17 r0_4_1) 18 r0_4_2) 19 r0_4_3) 20 r0_4_4)) (zself_i (zr_n rfl (zr_n rfl (zr_n rfl (zr_n rfl (zr_n rfl e_i20))))) rfl) ?_
    refine zj_mem (N := (zui (zui (zui (zui (zui (zui (zui M 15 r0_4) 16 r0_4_0) 17 r0_4_1) 18 r0_4_2) 19 r0_4_3) 20 r0_4_4) 21 r0_4_5)) (zself_i (zr_n rfl (zr_n rfl (zr_n rfl (zr_n rfl (zr_n rfl (zr_n rfl e_i21)))))) rfl) ?_
    refine zj_mem (N := (zui (zui (zui (zui (zui (zui (zui (zui M 15 r0_4) 16 r0_4_0) 17 r0_4_1) 18 r0_4_2) 19 r0_4_3) 20 r0_4_4) 21 r0_4_5) 22 r0_4_6)) (zself_i (zr_n rfl (zr_n rfl (zr_n rfl (zr_n rfl (zr_n rfl (zr_n rfl (zr_n rfl e_i22))))))) rfl) ?_
    refine zj_mem (N := (zui (zui (zui (zui (zui (zui (zui (zui (zui M 15 r0_4) 16 r0_4_0) 17 r0_4_1) 18 r0_4_2) 19 r0_4_3) 20 r0_4_4) 21 r0_4_5) 22 r0_4_6) 23 r0_4_7)) (zself_i (zr_n rfl (zr_n rfl (zr_n rfl (zr_n rfl (zr_n rfl (zr_n rfl (zr_n rfl (zr_n rfl e_i23)))))))) rfl) ?_
    refine zj_mem (N := (zui (zui (zui (zui (zui (zui (zui (zui (zui (zui M 15 r0_4) 16 r0_4_0) 17 r0_4_1) 18 r0_4_2) 19 r0_4_3) 20 r0_4_4) 21 r0_4_5) 22 r0_4_6) 23 r0_4_7) 25 r0_5)) (zself_i (zr_n rfl (zr_n rfl (zr_n rfl (zr_n rfl (zr_n rfl (zr_n rfl (zr_n rfl (zr_n rfl (zr_n rfl e_i25))))))))) rfl) ?_
    refine zj_mem (N := (zui (zui (zui (zui (zui (zui (zui (zui (zui (zui (zui M 15 r0_4) 16 r0_4_0) 17 r0_4_1) 18 r0_4_2) 19 r0_4_3) 20 r0_4_4) 21 r0_4_5) 22 r0_4_6) 23 r0_4_7) 25 r0_5) 26 r0_5_0)) (zself_i (zr_n rfl (zr_n rfl (zr_n rfl (zr_n rfl (zr_n rfl (zr_n rfl (zr_n rfl (zr_n rfl (zr_n rfl (zr_n rfl e_i26)))))))))) rfl) ?_
    refine zj_mem (N := (zui (zui (zui (zui (zui (zui (zui (zui (zui (zui (zui (zui M 15 r0_4) 16 r0_4_0) 17 r0_4_1) 18 r0_4_2) 19 r0_4_3) 20 r0_4_4) 21 r0_4_5) 22 r0_4_6) 23 r0_4_7) 25 r0_5) 26 r0_5_0) 27 r0_5_1)) (zself_i (zr_n rfl (zr_n rfl (zr_n rfl (zr_n rfl (zr_n rfl (zr_n rfl (zr_n rfl (zr_n rfl (zr_n rfl (zr_n rfl (zr_n rfl e_i27))))))))))) rfl) ?_
    refine zj_mem (N := (zui (zui (zui (zui (zui (zui (zui (zui (zui (zui (zui (zui (zui M 15 r0_4) 16 r0_4_0) 17 r0_4_1) 18 r0_4_2) 19 r0_4_3) 20 r0_4_4) 21 r0_4_5) 22 r0_4_6) 23 r0_4_7) 25 r0_5) 26 r0_5_0) 27 r0_5_1) 28 r0_5_2)) (zself_i (zr_n rfl (zr_n rfl (zr_n rfl (zr_n rfl (zr_n rfl (zr_n rfl (zr_n rfl (zr_n rfl (zr_n rfl (zr_n rfl (zr_n rfl (zr_n rfl e_i28)))))))))))) rfl) ?_
    refine zj_mem (N := (zui (zui (zui (zui (zui (zui (zui (zui (zui (zui (zui (zui (zui (zui M 15 r0_4) 16 r0_4_0) 17 r0_4_1) 18 r0_4_2) 19 r0_4_3) 20 r0_4_4) 21 r0_4_5) 22 r0_4_6) 23 r0_4_7) 25 r0_5) 26 r0_5_0) 27 r0_5_1) 28 r0_5_2) 29 r0_5_3)) (zself_i (zr_n rfl (zr_n rfl (zr_n rfl (zr_n rfl (zr_n rfl (zr_n rfl (zr_n rfl (zr_n rfl (zr_n rfl (zr_n rfl (zr_n rfl (zr_n rfl (zr_n rfl e_i29))))))))))))) rfl) ?_
    refine zj_mem (N := (zui (zui (zui (zui (zui (zui (zui (zui (zui (zui (zui (zui (zui (zui (zui M 15 r0_4) 16 r0_4_0) 17 r0_4_1) 18 r0_4_2) 19 r0_4_3) 20 r0_4_4) 21 r0_4_5) 22 r0_4_6) 23 r0_4_7) 25 r0_5) 26 r0_5_0) 27 r0_5_1) 28 r0_5_2) 29 r0_5_3) 30 r0_5_4)) (zself_i (zr_n rfl (zr_n rfl (zr_n rfl (zr_n rfl (zr_n rfl (zr_n rfl (zr_n rfl (zr_n rfl (zr_n rfl (zr_n rfl (zr_n rfl (zr_n rfl (zr_n rfl (zr_n rfl e_i30)))))))))))))) rfl) ?_
    refine zj_mem (N := (zui (zui (zui (zui (zui (zui (zui (zui (zui (zui (zui (zui (zui (zui (zui (zui M 15 r0_4) 16 r0_4_0) 17 r0_4_1) 18 r0_4_2) 19 r0_4_3) 20 r0_4_4) 21 r0_4_5) 22 r0_4_6) 23 r0_4_7) 25 r0_5) 26 r0_5_0) 27 r0_5_1) 28 r0_5_2) 29 r0_5_3) 30 r0_5_4) 31 r0_5_5)) (zself_i (zr_n rfl (zr_n rfl (zr_n rfl (zr_n rfl (zr_n rfl (zr_n rfl (zr_n rfl (zr_n rfl (zr_n rfl (zr_n rfl (zr_n rfl (zr_n rfl (zr_n rfl (zr_n rfl (zr_n rfl e_i31))))))))))))))) rfl) ?_
    refine zj_mem (N := (zui (zui (zui (zui (zui (zui (zui (zui (zui (zui (zui (zui (zui (zui (zui (zui (zui M 15 r0_4) 16 r0_4_0) 17 r0_4_1) 18 r0_4_2) 19 r0_4_3) 20 r0_4_4) 21 r0_4_5) 22 r0_4_6) 23 r0_4_7) 25 r0_5) 26 r0_5_0) 27 r0_5_1) 28 r0_5_2) 29 r0_5_3) 30 r0_5_4) 31 r0_5_5) 32 r0_5_6)) (zself_i (zr_n rfl (zr_n rfl (zr_n rfl (zr_n rfl (zr_n rfl (zr_n rfl (zr_n rfl (zr_n rfl (zr_n rfl (zr_n rfl (zr_n rfl (zr_n rfl (zr_n rfl (zr_n rfl (zr_n rfl (zr_n rfl e_i32)))))))))))))))) rfl) ?_
    refine zj_mem (N := (zui (zui (zui (zui (zui (zui (zui (zui (zui (zui (zui (zui (zui (zui (zui (zui (zui (zui M 15 r0_4) 16 r0_4_0) 17 r0_4_1) 18 r0_4_2) 19 r0_4_3) 20 r0_4_4) 21 r0_4_5) 22 r0_4_6) 23 r0_4_7) 25 r0_5) 26 r0_5_0) 27 r0_5_1) 28 r0_5_2) 29 r0_5_3) 30 r0_5_4) 31 r0_5_5) 32 r0_5_6) 33 r0_5_7)) (zself_i (zr_n rfl (zr_n rfl (zr_n rfl (zr_n rfl (zr_n rfl (zr_n rfl (zr_n rfl (zr_n rfl (zr_n rfl (zr_n rfl (zr_n rfl (zr_n rfl (zr_n rfl (zr_n rfl (zr_n rfl (zr_n rfl (zr_n rfl e_i33))))))))))))))))) rfl) ?_
    refine zj_mem (N := (zui (zui (zui (zui (zui (zui (zui (zui (zui (zui (zui (zui (zui (zui (zui (zui (zui (zui (zui M 15 r0_4) 16 r0_4_0) 17 r0_4_1) 18 r0_4_2) 19 r0_4_3) 20 r0_4_4) 21 r0_4_5) 22 r0_4_6) 23 r0_4_7) 25 r0_5) 26 r0_5_0) 27 r0_5_1) 28 r0_5_2) 29 r0_5_3) 30 r0_5_4) 31 r0_5_5) 32 r0_5_6) 33 r0_5_7) 34 r0_5_8)) (zself_i (zr_n rfl (zr_n rfl (zr_n rfl (zr_n rfl (zr_n rfl (zr_n rfl (zr_n rfl (zr_n rfl (zr_n rfl (zr_n rfl (zr_n rfl (zr_n rfl (zr_n rfl (zr_n rfl (zr_n rfl (zr_n rfl (zr_n rfl (zr_n rfl e_i34)))))))))))))))))) rfl) ?_
    refine zj_mem (N := (zui (zui (zui (zui (zui (zui (zui (zui (zui (zui (zui (zui (zui (zui (zui (zui (zui (zui (zui (zui M 15 r0_4) 16 r0_4_0) 17 r0_4_1) 18 r0_4_2) 19 r0_4_3) 20 r0_4_4) 21 r0_4_5) 22 r0_4_6) 23 r0_4_7) 25 r0_5) 26 r0_5_0) 27 r0_5_1) 28 r0_5_2) 29 r0_5_3) 30 r0_5_4) 31 r0_5_5) 32 r0_5_6) 33 r0_5_7) 34 r0_5_8) 47 r0_8)) (zself_i (zr_n rfl (zr_n rfl (zr_n rfl (zr_n rfl (zr_n rfl (zr_n rfl (zr_n rfl (zr_n rfl (zr_n rfl (zr_n rfl (zr_n rfl (zr_n rfl (zr_n rfl (zr_n rfl (zr_n rfl (zr_n rfl (zr_n rfl (zr_n rfl (zr_n rfl e_i47))))))))))))))))))) rfl) ?_
    refine zj_mem (N := (zui (zui (zui (zui (zui (zui (zui (zui (zui (zui (zui (zui (zui (zui (zui (zui (zui (zui (zui (zui (zui M 15 r0_4) 16 r0_4_0) 17 r0_4_1) 18 r0_4_2) 19 r0_4_3) 20 r0_4_4) 21 r0_4_5) 22 r0_4_6) 23 r0_4_7) 25 r0_5) 26 r0_5_0) 27 r0_5_1) 28 r0_5_2) 29 r0_5_3) 30 r0_5_4) 31 r0_5_5) 32 r0_5_6) 33 r0_5_7) 34 r0_5_8) 47 r0_8) 182 r0_12)) (zself_i (zr_n rfl (zr_n rfl (zr_n rfl (zr_n rfl (zr_n rfl (zr_n rfl (zr_n rfl (zr_n rfl (zr_n rfl (zr_n rfl (zr_n rfl (zr_n rfl (zr_n rfl (zr_n rfl (zr_n rfl (zr_n rfl (zr_n rfl (zr_n rfl (zr_n rfl (zr_n rfl e_i182)))))))))))))))))))) rfl) ?_
    refine zj_mem (N := (zub (zui (zui (zui (zui (zui (zui (zui (zui (zui (zui (zui (zui (zui (zui (zui (zui (zui (zui (zui (zui (zui M 15 r0_4) 16 r0_4_0) 17 r0_4_1) 18 r0_4_2) 19 r0_4_3) 20 r0_4_4) 21 r0_4_5) 22 r0_4_6) 23 r0_4_7) 25 r0_5) 26 r0_5_0) 27 r0_5_1) 28 r0_5_2) 29 r0_5_3) 30 r0_5_4) 31 r0_5_5) 32 r0_5_6) 33 r0_5_7) 34 r0_5_8) 47 r0_8) 182 r0_12) 49 129 g49)) (zself_h (zeq_i rfl (zeq_i rfl (zeq_i rfl (zeq_i rfl (zeq_i rfl (zeq_i rfl (zeq_i rfl (zeq_i rfl (zeq_i rfl (zeq_i rfl (zeq_i rfl (zeq_i rfl (zeq_i rfl (zeq_i rfl (zeq_i rfl (zeq_i rfl (zeq_i rfl (zeq_i rfl (zeq_i rfl (zeq_i rfl (zeq_i rfl e_h49))))))))))))))))))))) rfl) ?_
    exact zj_iret dX11_drawn_12 rfl hq
  · have hy := zt_f hy c1
    refine zj_iload_n (pc' := 6) 1 dX11_drawn_5 rfl rfl rfl ?_
    refine zj_bipush (pc' := 8) dX11_drawn_6 rfl kbipush_60 ?_
    refine zj_icmp_le (tgt := 13) (pc' := 11) dX11_drawn_8 rfl (by decide) (fun c2 => ?_) (fun c2 => ?_)
    · have hy := zt_t hy c2
      refine zj_aload_n (pc' := 14) 0 dX11_drawn_13 rfl rfl rfl ?_
      refine zj_getR (pc' := 17) (j := 25) dX11_drawn_14 rfl flX11_42 sh0 rfl ?_
      refine zj_aload_n (pc' := 18) 0 dX11_drawn_17 rfl rfl rfl ?_
      refine zj_getR (pc' := 21) (j := 15) dX11_drawn_18 rfl flX11_38 sh0 rfl ?_
      obtain ⟨y3, hy3, hy⟩ := zt_b hy
      refine zj_V0 (pc' := 24) (z := YX1_copyFrom) (As := [.ref (zad Γ 15)]) (N := (zui (zui (zui (zui (zui (zui (zui (zui (zui M 25 y3.1) 26 y3.2.1) 27 y3.2.2.1) 28 y3.2.2.2.1) 29 y3.2.2.2.2.1) 30 y3.2.2.2.2.2.1) 31 y3.2.2.2.2.2.2.1) 32 y3.2.2.2.2.2.2.2.1) 33 y3.2.2.2.2.2.2.2.2)) dX11_drawn_21 rfl mlX11_151 lkX1_copyFrom sh25 ⟨_, _, rfl⟩ rfl rfl (Nat.le_of_ble_eq_true rfl) (Nat.le_of_ble_eq_true rfl) (LX1_copyFrom_25_15 Γ _ r0_5 r0_5_0 r0_5_1 r0_5_2 r0_5_3 r0_5_4 r0_5_5 r0_5_6 r0_5_7 r0_4 r0_4_0 r0_4_1 r0_4_2 r0_4_3 r0_4_4 r0_4_5 r0_4_6 r0_4_7 e_i25 e_i26 e_i27 e_i28 e_i29 e_i30 e_i31 e_i32 e_i33 e_i15 e_i16 e_i17 e_i18 e_i19 e_i20 e_i21 e_i22 e_i23 hy3) ((zch_i (zch_i (zch_i (zch_i (zch_i (zch_i (zch_i (zch_i rfl rfl) rfl) rfl) rfl) rfl) rfl) rfl) rfl)).symm ?_
      refine zj_aload_n (pc' := 25) 0 dX11_drawn_24 rfl rfl rfl ?_
      refine zj_getR (pc' := 28) (j := 182) dX11_drawn_25 rfl flX11_85 sh0 rfl ?_
      refine zj_aload_n (pc' := 29) 0 dX11_drawn_28 rfl rfl rfl ?_
      refine zj_getR (pc' := 32) (j := 5) dX11_drawn_29 rfl flX11_28 sh0 rfl ?_
      refine zj_aload_n (pc' := 33) 0 dX11_drawn_32 rfl rfl rfl ?_
      refine zj_getR (pc' := 36) (j := 25) dX11_drawn_33 rfl flX11_42 sh0 rfl ?_
      refine zj_iload_n (pc' := 37) 1 dX11_drawn_36 rfl rfl rfl ?_
      refine zj_iload_n (pc' := 38) 2 dX11_drawn_37 rfl rfl rfl ?_
      obtain ⟨y4, hy4, hy⟩ := zt_b hy
      refine zj_V1 (pc' := 41) (z := YX2_passMinutes) (As := [.ref (zad Γ 5), .ref (zad Γ 25), .int a1, .int a2]) (N := (zui (zui (zui (zui (zui (zui (zui (zui (zui (zui (zui M 25 y4.2.2.1) 26 y4.2.2.2.1) 27 y4.2.2.2.2.1) 28 y4.2.2.2.2.2.1) 29 y4.2.2.2.2.2.2.1) 30 y4.2.2.2.2.2.2.2.1) 31 y4.2.2.2.2.2.2.2.2.1) 32 y4.2.2.2.2.2.2.2.2.2.1) 33 y4.2.2.2.2.2.2.2.2.2.2.1) 34 y4.2.2.2.2.2.2.2.2.2.2.2) 182 y4.2.1)) dX11_drawn_38 rfl mlX11_346 lkX2_passMinutes sh182 ⟨_, _, rfl⟩ rfl rfl (Nat.le_of_ble_eq_true rfl) (Nat.le_of_ble_eq_true rfl) (LX2_passMinutes_182_5_25 Γ _ r0_12 r0_2 r0_2_2 r0_2_3 y3.1 y3.2.1 y3.2.2.1 y3.2.2.2.1 y3.2.2.2.2.1 y3.2.2.2.2.2.1 y3.2.2.2.2.2.2.1 y3.2.2.2.2.2.2.2.1 y3.2.2.2.2.2.2.2.2 r0_5_8 (zr_n rfl (zr_n rfl (zr_n rfl (zr_n rfl (zr_n rfl (zr_n rfl (zr_n rfl (zr_n rfl (zr_n rfl e_i182))))))))) (zr_n rfl (zr_n rfl (zr_n rfl (zr_n rfl (zr_n rfl (zr_n rfl (zr_n rfl (zr_n rfl (zr_n rfl e_i5))))))))) (zr_n rfl (zr_n rfl (zr_n rfl (zr_n rfl (zr_n rfl (zr_n rfl (zr_n rfl (zr_n rfl (zr_n rfl e_i8))))))))) (zr_n rfl (zr_n rfl (zr_n rfl (zr_n rfl (zr_n rfl (zr_n rfl (zr_n rfl (zr_n rfl (zr_n rfl e_i9))))))))) (zr_n rfl (zr_n rfl (zr_n rfl (zr_n rfl (zr_n rfl (zr_n rfl (zr_n rfl (zr_n rfl zr_s)))))))) (zr_n rfl (zr_n rfl (zr_n rfl (zr_n rfl (zr_n rfl (zr_n rfl (zr_n rfl zr_s))))))) (zr_n rfl (zr_n rfl (zr_n rfl (zr_n rfl (zr_n rfl (zr_n rfl zr_s)))))) (zr_n rfl (zr_n rfl (zr_n rfl (zr_n rfl (zr_n rfl zr_s))))) (zr_n rfl (zr_n rfl (zr_n rfl (zr_n rfl zr_s)))) (zr_n rfl (zr_n rfl (zr_n rfl zr_s))) (zr_n rfl (zr_n rfl zr_s)) (zr_n rfl zr_s) zr_s (zr_n rfl (zr_n rfl (zr_n rfl (zr_n rfl (zr_n rfl (zr_n rfl (zr_n rfl (zr_n rfl (zr_n rfl e_i34))))))))) a1 a2 hy4) ((zch_i (zch_i (zch_i (zch_i (zch_i (zch_i (zch_i (zch_i (zch_i (zch_i (zm_n rfl (zm_n rfl (zm_n rfl (zm_n rfl (zm_n rfl (zm_n rfl (zm_n rfl (zm_n rfl zm_s)))))))) (zm_n rfl (zm_n rfl (zm_n rfl (zm_n rfl (zm_n rfl (zm_n rfl (zm_n rfl zm_s)))))))) (zm_n rfl (zm_n rfl (zm_n rfl (zm_n rfl (zm_n rfl (zm_n rfl zm_s))))))) (zm_n rfl (zm_n rfl (zm_n rfl (zm_n rfl (zm_n rfl zm_s)))))) (zm_n rfl (zm_n rfl (zm_n rfl (zm_n rfl zm_s))))) (zm_n rfl (zm_n rfl (zm_n rfl zm_s)))) (zm_n rfl (zm_n rfl zm_s))) (zm_n rfl zm_s)) zm_s) rfl) rfl)).symm ?_
      refine zj_topi (fun x5 ex5 => ?_)
      have hy := zlet_at ex5 hy
      refine zj_istore_n (pc' := 42) (L' := [(3, .int x5), (0, .ref (zad Γ 0)), (1, .int a1), (2, .int a2)]) dX11_drawn_41 rfl rfl (by decide) rfl ?_
      refine zj_aload_n (pc' := 43) 1 dX11_drawn_42 rfl rfl rfl ?_
      refine zj_iload_n (pc' := 44) 0 dX11_drawn_43 rfl rfl rfl ?_
      obtain ⟨y6, hy6, hy⟩ := zt_b hy
      refine zj_V0 (pc' := 47) (z := YX11_settle) (As := [.int x5]) (N := (zub (zui (zui (zui (zui (zui (zui (zui (zui (zui (zui (zui (zui (zui (zui (zui (zui (zui (zui (zui (zui (zui M 15 y6.1) 16 y6.2.1) 17 y6.2.2.1) 18 y6.2.2.2.1) 19 y6.2.2.2.2.1) 20 y6.2.2.2.2.2.1) 21 y6.2.2.2.2.2.2.1) 22 y6.2.2.2.2.2.2.2.1) 23 y6.2.2.2.2.2.2.2.2.1) 25 y4.2.2.1) 26 y4.2.2.2.1) 27 y4.2.2.2.2.1) 28 y4.2.2.2.2.2.1) 29 y4.2.2.2.2.2.2.1) 30 y4.2.2.2.2.2.2.2.1) 31 y4.2.2.2.2.2.2.2.2.1) 32 y4.2.2.2.2.2.2.2.2.2.1) 33 y4.2.2.2.2.2.2.2.2.2.2.1) 34 y4.2.2.2.2.2.2.2.2.2.2.2) 47 y6.2.2.2.2.2.2.2.2.2.1) 182 y4.2.1) 49 129 y6.2.2.2.2.2.2.2.2.2.2)) dX11_drawn_44 rfl mlX11_262 lkX11_settle sh0 ⟨_, _, rfl⟩ rfl rfl (Nat.le_of_ble_eq_true rfl) (Nat.le_of_ble_eq_true rfl) (LX11_settle_0 Γ _ r0_4 r0_4_0 r0_4_1 r0_4_2 r0_4_3 r0_4_4 r0_4_5 r0_4_6 r0_4_7 y4.2.2.1 y4.2.2.2.1 y4.2.2.2.2.1 y4.2.2.2.2.2.1 y4.2.2.2.2.2.2.1 y4.2.2.2.2.2.2.2.1 y4.2.2.2.2.2.2.2.2.1 y4.2.2.2.2.2.2.2.2.2.1 y4.2.2.2.2.2.2.2.2.2.2.1 r0_8 g49 (zr_n rfl (zr_n rfl (zr_n rfl (zr_n rfl (zr_n rfl (zr_n rfl (zr_n rfl (zr_n rfl (zr_n rfl (zr_n rfl (zr_n rfl e_i15))))))))))) (zr_n rfl (zr_n rfl (zr_n rfl (zr_n rfl (zr_n rfl (zr_n rfl (zr_n rfl (zr_n rfl (zr_n rfl (zr_n rfl (zr_n rfl e_i16))))))))))) (zr_n rfl (zr_n rfl (zr_n rfl (zr_n rfl (zr_n rfl (zr_n rfl (zr_n rfl (zr_n rfl (zr_n rfl (zr_n rfl (zr_n rfl e_i17))))))))))) (zr_n rfl (zr_n rfl (zr_n rfl (zr_n rfl (zr_n rfl (zr_n rfl (zr_n rfl (zr_n rfl (zr_n rfl (zr_n rfl (zr_n rfl e_i18))))))))))) (zr_n rfl (zr_n rfl (zr_n rfl (zr_n rfl (zr_n rfl (zr_n rfl (zr_n rfl (zr_n rfl (zr_n rfl (zr_n rfl (zr_n rfl e_i19))))))))))) (zr_n rfl (zr_n rfl (zr_n rfl (zr_n rfl (zr_n rfl (zr_n rfl (zr_n rfl (zr_n rfl (zr_n rfl (zr_n rfl (zr_n rfl e_i20))))))))))) (zr_n rfl (zr_n rfl (zr_n rfl (zr_n rfl (zr_n rfl (zr_n rfl (zr_n rfl (zr_n rfl (zr_n rfl (zr_n rfl (zr_n rfl e_i21))))))))))) (zr_n rfl (zr_n rfl (zr_n rfl (zr_n rfl (zr_n rfl (zr_n rfl (zr_n rfl (zr_n rfl (zr_n rfl (zr_n rfl (zr_n rfl e_i22))))))))))) (zr_n rfl (zr_n rfl (zr_n rfl (zr_n rfl (zr_n rfl (zr_n rfl (zr_n rfl (zr_n rfl (zr_n rfl (zr_n rfl (zr_n rfl e_i23))))))))))) (zr_n rfl (zr_n rfl (zr_n rfl (zr_n rfl (zr_n rfl (zr_n rfl (zr_n rfl (zr_n rfl (zr_n rfl (zr_n rfl zr_s)))))))))) (zr_n rfl (zr_n rfl (zr_n rfl (zr_n rfl (zr_n rfl (zr_n rfl (zr_n rfl (zr_n rfl (zr_n rfl zr_s))))))))) (zr_n rfl (zr_n rfl (zr_n rfl (zr_n rfl (zr_n rfl (zr_n rfl (zr_n rfl (zr_n rfl zr_s)))))))) (zr_n rfl (zr_n rfl (zr_n rfl (zr_n rfl (zr_n rfl (zr_n rfl (zr_n rfl zr_s))))))) (zr_n rfl (zr_n rfl (zr_n rfl (zr_n rfl (zr_n rfl (zr_n rfl zr_s)))))) (zr_n rfl (zr_n rfl (zr_n rfl (zr_n rfl (zr_n rfl zr_s))))) (zr_n rfl (zr_n rfl (zr_n rfl (zr_n rfl zr_s)))) (zr_n rfl (zr_n rfl (zr_n rfl zr_s))) (zr_n rfl (zr_n rfl zr_s)) (zr_n rfl (zr_n rfl (zr_n rfl (zr_n rfl (zr_n rfl (zr_n rfl (zr_n rfl (zr_n rfl (zr_n rfl (zr_n rfl (zr_n rfl e_i47))))))))))) (zeq_i rfl (zeq_i rfl (zeq_i rfl (zeq_i rfl (zeq_i rfl (zeq_i rfl (zeq_i rfl (zeq_i rfl (zeq_i rfl (zeq_i rfl (zeq_i rfl e_h49))))))))))) x5 hy6) ((zch_h (zch_i (zch_i (zch_i (zch_i (zch_i (zch_i (zch_i (zch_i (zch_i (zm_n rfl (zm_n rfl (zm_n rfl (zm_n rfl (zm_n rfl (zm_n rfl (zm_n rfl (zm_n rfl (zm_n rfl (zm_n rfl (zm_n rfl rfl))))))))))) (zm_n rfl (zm_n rfl (zm_n rfl (zm_n rfl (zm_n rfl (zm_n rfl (zm_n rfl (zm_n rfl (zm_n rfl (zm_n rfl (zm_n rfl rfl)))))))))))) (zm_n rfl (zm_n rfl (zm_n rfl (zm_n rfl (zm_n rfl (zm_n rfl (zm_n rfl (zm_n rfl (zm_n rfl (zm_n rfl (zm_n rfl rfl)))))))))))) (zm_n rfl (zm_n rfl (zm_n rfl (zm_n rfl (zm_n rfl (zm_n rfl (zm_n rfl (zm_n rfl (zm_n rfl (zm_n rfl (zm_n rfl rfl)))))))))))) (zm_n rfl (zm_n rfl (zm_n rfl (zm_n rfl (zm_n rfl (zm_n rfl (zm_n rfl (zm_n rfl (zm_n rfl (zm_n rfl (zm_n rfl rfl)))))))))))) (zm_n rfl (zm_n rfl (zm_n rfl (zm_n rfl (zm_n rfl (zm_n rfl (zm_n rfl (zm_n rfl (zm_n rfl (zm_n rfl (zm_n rfl rfl)))))))))))) (zm_n rfl (zm_n rfl (zm_n rfl (zm_n rfl (zm_n rfl (zm_n rfl (zm_n rfl (zm_n rfl (zm_n rfl (zm_n rfl (zm_n rfl rfl)))))))))))) (zm_n rfl (zm_n rfl (zm_n rfl (zm_n rfl (zm_n rfl (zm_n rfl (zm_n rfl (zm_n rfl (zm_n rfl (zm_n rfl (zm_n rfl rfl)))))))))))) (zm_n rfl (zm_n rfl (zm_n rfl (zm_n rfl (zm_n rfl (zm_n rfl (zm_n rfl (zm_n rfl (zm_n rfl (zm_n rfl (zm_n rfl rfl)))))))))))) (zm_n rfl rfl)) rfl)).symm ?_
      refine zj_iload_n (pc' := 48) 0 dX11_drawn_47 rfl rfl rfl ?_
      have e9 := Option.some.inj hy
      subst e9
      exact zj_iret dX11_drawn_48 rfl hq
    · have hy := zt_f hy c2
      refine zj_iconst (pc' := 12) dX11_drawn_11 rfl kiconst_m1 ?_
      have e9 := Option.some.inj hy
      subst e9
      refine zj_mem (N := (zui M 15 r0_4)) (zself_i e_i15 rfl) ?_
      refine zj_mem (N := (zui (zui M 15 r0_4) 16 r0_4_0)) (zself_i (zr_n rfl e_i16) rfl) ?_
      refine zj_mem (N := (zui (zui (zui M 15 r0_4) 16 r0_4_0) 17 r0_4_1)) (zself_i (zr_n rfl (zr_n rfl e_i17)) rfl) ?_
      refine zj_mem (N := (zui (zui (zui (zui M 15 r0_4) 16 r0_4_0) 17 r0_4_1) 18 r0_4_2)) (zself_i (zr_n rfl (zr_n rfl (zr_n rfl e_i18))) rfl) ?_
      refine zj_mem (N := (zui (zui (zui (zui (zui M 15 r0_4) 16 r0_4_0) 17 r0_4_1) 18 r0_4_2) 19 r0_4_3)) (zself_i (zr_n rfl (zr_n rfl (zr_n rfl (zr_n rfl e_i19)))) rfl) ?_
      refine zj_mem (N := (zui (zui (zui (zui (zui (zui M 15 r0_4) 16 r0_4_0) 17 r0_4_1) 18 r0_4_2) 19 r0_4_3) 20 r0_4_4)) (zself_i (zr_n rfl (zr_n rfl (zr_n rfl (zr_n rfl (zr_n rfl e_i20))))) rfl) ?_
      refine zj_mem (N := (zui (zui (zui (zui (zui (zui (zui M 15 r0_4) 16 r0_4_0) 17 r0_4_1) 18 r0_4_2) 19 r0_4_3) 20 r0_4_4) 21 r0_4_5)) (zself_i (zr_n rfl (zr_n rfl (zr_n rfl (zr_n rfl (zr_n rfl (zr_n rfl e_i21)))))) rfl) ?_
      refine zj_mem (N := (zui (zui (zui (zui (zui (zui (zui (zui M 15 r0_4) 16 r0_4_0) 17 r0_4_1) 18 r0_4_2) 19 r0_4_3) 20 r0_4_4) 21 r0_4_5) 22 r0_4_6)) (zself_i (zr_n rfl (zr_n rfl (zr_n rfl (zr_n rfl (zr_n rfl (zr_n rfl (zr_n rfl e_i22))))))) rfl) ?_
      refine zj_mem (N := (zui (zui (zui (zui (zui (zui (zui (zui (zui M 15 r0_4) 16 r0_4_0) 17 r0_4_1) 18 r0_4_2) 19 r0_4_3) 20 r0_4_4) 21 r0_4_5) 22 r0_4_6) 23 r0_4_7)) (zself_i (zr_n rfl (zr_n rfl (zr_n rfl (zr_n rfl (zr_n rfl (zr_n rfl (zr_n rfl (zr_n rfl e_i23)))))))) rfl) ?_
      refine zj_mem (N := (zui (zui (zui (zui (zui (zui (zui (zui (zui (zui M 15 r0_4) 16 r0_4_0) 17 r0_4_1) 18 r0_4_2) 19 r0_4_3) 20 r0_4_4) 21 r0_4_5) 22 r0_4_6) 23 r0_4_7) 25 r0_5)) (zself_i (zr_n rfl (zr_n rfl (zr_n rfl (zr_n rfl (zr_n rfl (zr_n rfl (zr_n rfl (zr_n rfl (zr_n rfl e_i25))))))))) rfl) ?_
      refine zj_mem (N := (zui (zui (zui (zui (zui (zui (zui (zui (zui (zui (zui M 15 r0_4) 16 r0_4_0) 17 r0_4_1) 18 r0_4_2) 19 r0_4_3) 20 r0_4_4) 21 r0_4_5) 22 r0_4_6) 23 r0_4_7) 25 r0_5) 26 r0_5_0)) (zself_i (zr_n rfl (zr_n rfl (zr_n rfl (zr_n rfl (zr_n rfl (zr_n rfl (zr_n rfl (zr_n rfl (zr_n rfl (zr_n rfl e_i26)))))))))) rfl) ?_
      refine zj_mem (N := (zui (zui (zui (zui (zui (zui (zui (zui (zui (zui (zui (zui M 15 r0_4) 16 r0_4_0) 17 r0_4_1) 18 r0_4_2) 19 r0_4_3) 20 r0_4_4) 21 r0_4_5) 22 r0_4_6) 23 r0_4_7) 25 r0_5) 26 r0_5_0) 27 r0_5_1)) (zself_i (zr_n rfl (zr_n rfl (zr_n rfl (zr_n rfl (zr_n rfl (zr_n rfl (zr_n rfl (zr_n rfl (zr_n rfl (zr_n rfl (zr_n rfl e_i27))))))))))) rfl) ?_
      refine zj_mem (N := (zui (zui (zui (zui (zui (zui (zui (zui (zui (zui (zui (zui (zui M 15 r0_4) 16 r0_4_0) 17 r0_4_1) 18 r0_4_2) 19 r0_4_3) 20 r0_4_4) 21 r0_4_5) 22 r0_4_6) 23 r0_4_7) 25 r0_5) 26 r0_5_0) 27 r0_5_1) 28 r0_5_2)) (zself_i (zr_n rfl (zr_n rfl (zr_n rfl (zr_n rfl (zr_n rfl (zr_n rfl (zr_n rfl (zr_n rfl (zr_n rfl (zr_n rfl (zr_n rfl (zr_n rfl e_i28)))))))))))) rfl) ?_
      refine zj_mem (N := (zui (zui (zui (zui (zui (zui (zui (zui (zui (zui (zui (zui (zui (zui M 15 r0_4) 16 r0_4_0) 17 r0_4_1) 18 r0_4_2) 19 r0_4_3) 20 r0_4_4) 21 r0_4_5) 22 r0_4_6) 23 r0_4_7) 25 r0_5) 26 r0_5_0) 27 r0_5_1) 28 r0_5_2) 29 r0_5_3)) (zself_i (zr_n rfl (zr_n rfl (zr_n rfl (zr_n rfl (zr_n rfl (zr_n rfl (zr_n rfl (zr_n rfl (zr_n rfl (zr_n rfl (zr_n rfl (zr_n rfl (zr_n rfl e_i29))))))))))))) rfl) ?_
      refine zj_mem (N := (zui (zui (zui (zui (zui (zui (zui (zui (zui (zui (zui (zui (zui (zui (zui M 15 r0_4) 16 r0_4_0) 17 r0_4_1) 18 r0_4_2) 19 r0_4_3) 20 r0_4_4) 21 r0_4_5) 22 r0_4_6) 23 r0_4_7) 25 r0_5) 26 r0_5_0) 27 r0_5_1) 28 r0_5_2) 29 r0_5_3) 30 r0_5_4)) (zself_i (zr_n rfl (zr_n rfl (zr_n rfl (zr_n rfl (zr_n rfl (zr_n rfl (zr_n rfl (zr_n rfl (zr_n rfl (zr_n rfl (zr_n rfl (zr_n rfl (zr_n rfl (zr_n rfl e_i30)))))))))))))) rfl) ?_
      refine zj_mem (N := (zui (zui (zui (zui (zui (zui (zui (zui (zui (zui (zui (zui (zui (zui (zui (zui M 15 r0_4) 16 r0_4_0) 17 r0_4_1) 18 r0_4_2) 19 r0_4_3) 20 r0_4_4) 21 r0_4_5) 22 r0_4_6) 23 r0_4_7) 25 r0_5) 26 r0_5_0) 27 r0_5_1) 28 r0_5_2) 29 r0_5_3) 30 r0_5_4) 31 r0_5_5)) (zself_i (zr_n rfl (zr_n rfl (zr_n rfl (zr_n rfl (zr_n rfl (zr_n rfl (zr_n rfl (zr_n rfl (zr_n rfl (zr_n rfl (zr_n rfl (zr_n rfl (zr_n rfl (zr_n rfl (zr_n rfl e_i31))))))))))))))) rfl) ?_
      refine zj_mem (N := (zui (zui (zui (zui (zui (zui (zui (zui (zui (zui (zui (zui (zui (zui (zui (zui (zui M 15 r0_4) 16 r0_4_0) 17 r0_4_1) 18 r0_4_2) 19 r0_4_3) 20 r0_4_4) 21 r0_4_5) 22 r0_4_6) 23 r0_4_7) 25 r0_5) 26 r0_5_0) 27 r0_5_1) 28 r0_5_2) 29 r0_5_3) 30 r0_5_4) 31 r0_5_5) 32 r0_5_6)) (zself_i (zr_n rfl (zr_n rfl (zr_n rfl (zr_n rfl (zr_n rfl (zr_n rfl (zr_n rfl (zr_n rfl (zr_n rfl (zr_n rfl (zr_n rfl (zr_n rfl (zr_n rfl (zr_n rfl (zr_n rfl (zr_n rfl e_i32)))))))))))))))) rfl) ?_
      refine zj_mem (N := (zui (zui (zui (zui (zui (zui (zui (zui (zui (zui (zui (zui (zui (zui (zui (zui (zui (zui M 15 r0_4) 16 r0_4_0) 17 r0_4_1) 18 r0_4_2) 19 r0_4_3) 20 r0_4_4) 21 r0_4_5) 22 r0_4_6) 23 r0_4_7) 25 r0_5) 26 r0_5_0) 27 r0_5_1) 28 r0_5_2) 29 r0_5_3) 30 r0_5_4) 31 r0_5_5) 32 r0_5_6) 33 r0_5_7)) (zself_i (zr_n rfl (zr_n rfl (zr_n rfl (zr_n rfl (zr_n rfl (zr_n rfl (zr_n rfl (zr_n rfl (zr_n rfl (zr_n rfl (zr_n rfl (zr_n rfl (zr_n rfl (zr_n rfl (zr_n rfl (zr_n rfl (zr_n rfl e_i33))))))))))))))))) rfl) ?_
      refine zj_mem (N := (zui (zui (zui (zui (zui (zui (zui (zui (zui (zui (zui (zui (zui (zui (zui (zui (zui (zui (zui M 15 r0_4) 16 r0_4_0) 17 r0_4_1) 18 r0_4_2) 19 r0_4_3) 20 r0_4_4) 21 r0_4_5) 22 r0_4_6) 23 r0_4_7) 25 r0_5) 26 r0_5_0) 27 r0_5_1) 28 r0_5_2) 29 r0_5_3) 30 r0_5_4) 31 r0_5_5) 32 r0_5_6) 33 r0_5_7) 34 r0_5_8)) (zself_i (zr_n rfl (zr_n rfl (zr_n rfl (zr_n rfl (zr_n rfl (zr_n rfl (zr_n rfl (zr_n rfl (zr_n rfl (zr_n rfl (zr_n rfl (zr_n rfl (zr_n rfl (zr_n rfl (zr_n rfl (zr_n rfl (zr_n rfl (zr_n rfl e_i34)))))))))))))))))) rfl) ?_
      refine zj_mem (N := (zui (zui (zui (zui (zui (zui (zui (zui (zui (zui (zui (zui (zui (zui (zui (zui (zui (zui (zui (zui M 15 r0_4) 16 r0_4_0) 17 r0_4_1) 18 r0_4_2) 19 r0_4_3) 20 r0_4_4) 21 r0_4_5) 22 r0_4_6) 23 r0_4_7) 25 r0_5) 26 r0_5_0) 27 r0_5_1) 28 r0_5_2) 29 r0_5_3) 30 r0_5_4) 31 r0_5_5) 32 r0_5_6) 33 r0_5_7) 34 r0_5_8) 47 r0_8)) (zself_i (zr_n rfl (zr_n rfl (zr_n rfl (zr_n rfl (zr_n rfl (zr_n rfl (zr_n rfl (zr_n rfl (zr_n rfl (zr_n rfl (zr_n rfl (zr_n rfl (zr_n rfl (zr_n rfl (zr_n rfl (zr_n rfl (zr_n rfl (zr_n rfl (zr_n rfl e_i47))))))))))))))))))) rfl) ?_
      refine zj_mem (N := (zui (zui (zui (zui (zui (zui (zui (zui (zui (zui (zui (zui (zui (zui (zui (zui (zui (zui (zui (zui (zui M 15 r0_4) 16 r0_4_0) 17 r0_4_1) 18 r0_4_2) 19 r0_4_3) 20 r0_4_4) 21 r0_4_5) 22 r0_4_6) 23 r0_4_7) 25 r0_5) 26 r0_5_0) 27 r0_5_1) 28 r0_5_2) 29 r0_5_3) 30 r0_5_4) 31 r0_5_5) 32 r0_5_6) 33 r0_5_7) 34 r0_5_8) 47 r0_8) 182 r0_12)) (zself_i (zr_n rfl (zr_n rfl (zr_n rfl (zr_n rfl (zr_n rfl (zr_n rfl (zr_n rfl (zr_n rfl (zr_n rfl (zr_n rfl (zr_n rfl (zr_n rfl (zr_n rfl (zr_n rfl (zr_n rfl (zr_n rfl (zr_n rfl (zr_n rfl (zr_n rfl (zr_n rfl e_i182)))))))))))))))))))) rfl) ?_
      refine zj_mem (N := (zub (zui (zui (zui (zui (zui (zui (zui (zui (zui (zui (zui (zui (zui (zui (zui (zui (zui (zui (zui (zui (zui M 15 r0_4) 16 r0_4_0) 17 r0_4_1) 18 r0_4_2) 19 r0_4_3) 20 r0_4_4) 21 r0_4_5) 22 r0_4_6) 23 r0_4_7) 25 r0_5) 26 r0_5_0) 27 r0_5_1) 28 r0_5_2) 29 r0_5_3) 30 r0_5_4) 31 r0_5_5) 32 r0_5_6) 33 r0_5_7) 34 r0_5_8) 47 r0_8) 182 r0_12) 49 129 g49)) (zself_h (zeq_i rfl (zeq_i rfl (zeq_i rfl (zeq_i rfl (zeq_i rfl (zeq_i rfl (zeq_i rfl (zeq_i rfl (zeq_i rfl (zeq_i rfl (zeq_i rfl (zeq_i rfl (zeq_i rfl (zeq_i rfl (zeq_i rfl (zeq_i rfl (zeq_i rfl (zeq_i rfl (zeq_i rfl (zeq_i rfl (zeq_i rfl e_h49))))))))))))))))))))) rfl) ?_
      exact zj_iret dX11_drawn_12 rfl hq
set_option maxRecDepth 20000 in
theorem LX11_drawn_0 (Γ : zG) (M : zM) (r0_2 : Nat → Int32) (r0_2_2 : Nat → Int32) (r0_2_3 : Nat → Int32) (r0_4 : Nat → Int32) (r0_4_0 : Nat → Int32) (r0_4_1 : Nat → Int32) (r0_4_2 : Nat → Int32) (r0_4_3 : Nat → Int32) (r0_4_4 : Nat → Int32) (r0_4_5 : Nat → Int32) (r0_4_6 : Nat → Int32) (r0_4_7 : Nat → Int32) (r0_5 : Nat → Int32) (r0_5_0 : Nat → Int32) (r0_5_1 : Nat → Int32) (r0_5_2 : Nat → Int32) (r0_5_3 : Nat → Int32) (r0_5_4 : Nat → Int32) (r0_5_5 : Nat → Int32) (r0_5_6 : Nat → Int32) (r0_5_7 : Nat → Int32) (r0_5_8 : Nat → Int32) (r0_8 : Nat → Int32) (r0_12 : Nat → Int32) (g49 : zM) (e_i5 : M.1 5 = r0_2) (e_i8 : M.1 8 = r0_2_2) (e_i9 : M.1 9 = r0_2_3) (e_i15 : M.1 15 = r0_4) (e_i16 : M.1 16 = r0_4_0) (e_i17 : M.1 17 = r0_4_1) (e_i18 : M.1 18 = r0_4_2) (e_i19 : M.1 19 = r0_4_3) (e_i20 : M.1 20 = r0_4_4) (e_i21 : M.1 21 = r0_4_5) (e_i22 : M.1 22 = r0_4_6) (e_i23 : M.1 23 = r0_4_7) (e_i25 : M.1 25 = r0_5) (e_i26 : M.1 26 = r0_5_0) (e_i27 : M.1 27 = r0_5_1) (e_i28 : M.1 28 = r0_5_2) (e_i29 : M.1 29 = r0_5_3) (e_i30 : M.1 30 = r0_5_4) (e_i31 : M.1 31 = r0_5_5) (e_i32 : M.1 32 = r0_5_6) (e_i33 : M.1 33 = r0_5_7) (e_i34 : M.1 34 = r0_5_8) (e_i47 : M.1 47 = r0_8) (e_i182 : M.1 182 = r0_12) (e_h49 : zeq M 49 129 g49) (a1 : Int32) (a2 : Int32) {res : Int32 × (Nat → Int32) × (Nat → Int32) × (Nat → Int32) × (Nat → Int32) × (Nat → Int32) × (Nat → Int32) × (Nat → Int32) × (Nat → Int32) × (Nat → Int32) × (Nat → Int32) × (Nat → Int32) × (Nat → Int32) × (Nat → Int32) × (Nat → Int32) × (Nat → Int32) × (Nat → Int32) × (Nat → Int32) × (Nat → Int32) × (Nat → Int32) × (Nat → Int32) × (Nat → Int32) × zM} (hy : (fX_drawn r0_2 r0_2_2 r0_2_3 r0_4 r0_4_0 r0_4_1 r0_4_2 r0_4_3 r0_4_4 r0_4_5 r0_4_6 r0_4_7 r0_5 r0_5_0 r0_5_1 r0_5_2 r0_5_3 r0_5_4 r0_5_5 r0_5_6 r0_5_7 r0_5_8 r0_8 r0_12 g49 a1 a2) = some res) : zK Γ 7 YX11_drawn [.ref (zad Γ 0), .int a1, .int a2] M (fun v N => v = some (.int res.1) ∧ N = (zub (zui (zui (zui (zui (zui (zui (zui (zui (zui (zui (zui (zui (zui (zui (zui (zui (zui (zui (zui (zui (zui M 15 res.2.1) 16 res.2.2.1) 17 res.2.2.2.1) 18 res.2.2.2.2.1) 19 res.2.2.2.2.2.1) 20 res.2.2.2.2.2.2.1) 21 res.2.2.2.2.2.2.2.1) 22 res.2.2.2.2.2.2.2.2.1) 23 res.2.2.2.2.2.2.2.2.2.1) 25 res.2.2.2.2.2.2.2.2.2.2.1) 26 res.2.2.2.2.2.2.2.2.2.2.2.1) 27 res.2.2.2.2.2.2.2.2.2.2.2.2.1) 28 res.2.2.2.2.2.2.2.2.2.2.2.2.2.1) 29 res.2.2.2.2.2.2.2.2.2.2.2.2.2.2.1) 30 res.2.2.2.2.2.2.2.2.2.2.2.2.2.2.2.1) 31 res.2.2.2.2.2.2.2.2.2.2.2.2.2.2.2.2.1) 32 res.2.2.2.2.2.2.2.2.2.2.2.2.2.2.2.2.2.1) 33 res.2.2.2.2.2.2.2.2.2.2.2.2.2.2.2.2.2.2.1) 34 res.2.2.2.2.2.2.2.2.2.2.2.2.2.2.2.2.2.2.2.1) 47 res.2.2.2.2.2.2.2.2.2.2.2.2.2.2.2.2.2.2.2.2.1) 182 res.2.2.2.2.2.2.2.2.2.2.2.2.2.2.2.2.2.2.2.2.2.1) 49 129 res.2.2.2.2.2.2.2.2.2.2.2.2.2.2.2.2.2.2.2.2.2.2)) :=
  zK_of (by decide) (Nat.le_of_ble_eq_true rfl) (TX11_drawn_0 Γ M r0_2 r0_2_2 r0_2_3 r0_4 r0_4_0 r0_4_1 r0_4_2 r0_4_3 r0_4_4 r0_4_5 r0_4_6 r0_4_7 r0_5 r0_5_0 r0_5_1 r0_5_2 r0_5_3 r0_5_4 r0_5_5 r0_5_6 r0_5_7 r0_5_8 r0_8 r0_12 g49 e_i5 e_i8 e_i9 e_i15 e_i16 e_i17 e_i18 e_i19 e_i20 e_i21 e_i22 e_i23 e_i25 e_i26 e_i27 e_i28 e_i29 e_i30 e_i31 e_i32 e_i33 e_i34 e_i47 e_i182 e_h49 a1 a2 hy ⟨rfl, rfl⟩)

noncomputable def fX_book (r0 : Nat → Int32) (r0_0 : Nat → Int32) (r0_0_0 : Nat → Int32) (r0_1 : Nat → Int32) (w0_1 : Nat → Int64) (w0_1_1 : Nat → Int64) (r0_2 : Nat → Int32) (w0_2_0 : Nat → Int64) (w0_2_1 : Nat → Int64) (r0_2_2 : Nat → Int32) (r0_2_3 : Nat → Int32) (r0_4 : Nat → Int32) (r0_4_0 : Nat → Int32) (r0_4_1 : Nat → Int32) (r0_4_2 : Nat → Int32) (r0_4_3 : Nat → Int32) (r0_4_4 : Nat → Int32) (r0_4_5 : Nat → Int32) (r0_4_6 : Nat → Int32) (r0_4_7 : Nat → Int32) (r0_5 : Nat → Int32) (r0_5_0 : Nat → Int32) (r0_5_1 : Nat → Int32) (r0_5_2 : Nat → Int32) (r0_5_3 : Nat → Int32) (r0_5_4 : Nat → Int32) (r0_5_5 : Nat → Int32) (r0_5_6 : Nat → Int32) (r0_5_7 : Nat → Int32) (r0_5_8 : Nat → Int32) (r0_8 : Nat → Int32) (r0_10 : Nat → Int32) (r0_10_0 : Nat → Int32) (r0_10_1 : Nat → Int32) (r0_10_2 : Nat → Int32) (r0_10_3 : Nat → Int32) (g49 : zM) (a1 : Int32) : Option (Int32 × (Nat → Int32) × (Nat → Int32) × (Nat → Int32) × (Nat → Int64) × (Nat → Int32) × (Nat → Int32) × (Nat → Int32) × (Nat → Int32) × (Nat → Int32) × (Nat → Int32) × (Nat → Int32) × (Nat → Int32) × (Nat → Int32) × (Nat → Int32) × (Nat → Int32) × (Nat → Int32) × (Nat → Int32) × (Nat → Int32) × (Nat → Int32) × (Nat → Int32) × (Nat → Int32) × (Nat → Int32) × (Nat → Int32) × (Nat → Int32) × (Nat → Int32) × (Nat → Int32) × (Nat → Int32) × (Nat → Int32) × (Nat → Int32) × zM) :=
  (if a1 < 0 then
  some ((-1000), r0, r0_0, r0_1, w0_1, r0_4, r0_4_0, r0_4_1, r0_4_2, r0_4_3, r0_4_4, r0_4_5, r0_4_6, r0_4_7, r0_5, r0_5_0, r0_5_1, r0_5_2, r0_5_3, r0_5_4, r0_5_5, r0_5_6, r0_5_7, r0_5_8, r0_8, r0_10, r0_10_0, r0_10_1, r0_10_2, r0_10_3, g49)
  else
  (if a1 ≤ 1 then
  (fRd_start r0_1 w0_1 r0_0 r0_0_0 400).bind (fun (y3 : (Nat → Int32) × (Nat → Int64)) =>
  (fBk_readFrom r0_10 r0_10_0 r0_10_1 r0_10_2 r0_10_3 y3.1 y3.2 r0_0 r0_0_0 w0_1_1 r0_2 w0_2_0 w0_2_1).bind (fun (y4 : (Nat → Int32) × (Nat → Int32) × (Nat → Int32) × (Nat → Int32) × (Nat → Int32) × (Nat → Int32) × (Nat → Int64)) =>
  zlet (zup r0 16 (fRd_faultKind y4.2.2.2.2.2.1)) (fun (r0v5 : Nat → Int32) =>
  (fTp_clear r0_0).bind (fun (y6 : (Nat → Int32)) =>
  (if (r0v5 16) = 0 then
  (fDy_copyFrom r0_5 r0_5_0 r0_5_1 r0_5_2 r0_5_3 r0_5_4 r0_5_5 r0_5_6 r0_5_7 r0_4 r0_4_0 r0_4_1 r0_4_2 r0_4_3 r0_4_4 r0_4_5 r0_4_6 r0_4_7).bind (fun (y8 : (Nat → Int32) × (Nat → Int32) × (Nat → Int32) × (Nat → Int32) × (Nat → Int32) × (Nat → Int32) × (Nat → Int32) × (Nat → Int32) × (Nat → Int32)) =>
  (fBk_judge y4.1 y4.2.1 y4.2.2.1 y4.2.2.2.1 y4.2.2.2.2.1 r0_2 r0_2_2 r0_2_3 y8.1 y8.2.1 y8.2.2.1 y8.2.2.2.1 y8.2.2.2.2.1 y8.2.2.2.2.2.1 y8.2.2.2.2.2.2.1 y8.2.2.2.2.2.2.2.1 y8.2.2.2.2.2.2.2.2 r0_5_8).bind (fun (y9 : Int32 × (Nat → Int32) × (Nat → Int32) × (Nat → Int32) × (Nat → Int32) × (Nat → Int32) × (Nat → Int32) × (Nat → Int32) × (Nat → Int32) × (Nat → Int32) × (Nat → Int32) × (Nat → Int32)) =>
  zlet y9.1 (fun (x10 : Int32) =>
  (if a1 = 1 then
  (fX_settle r0_4 r0_4_0 r0_4_1 r0_4_2 r0_4_3 r0_4_4 r0_4_5 r0_4_6 r0_4_7 y9.2.2.1 y9.2.2.2.1 y9.2.2.2.2.1 y9.2.2.2.2.2.1 y9.2.2.2.2.2.2.1 y9.2.2.2.2.2.2.2.1 y9.2.2.2.2.2.2.2.2.1 y9.2.2.2.2.2.2.2.2.2.1 y9.2.2.2.2.2.2.2.2.2.2.1 r0_8 g49 (fBk_goodLines y9.2.1)).bind (fun (y12 : (Nat → Int32) × (Nat → Int32) × (Nat → Int32) × (Nat → Int32) × (Nat → Int32) × (Nat → Int32) × (Nat → Int32) × (Nat → Int32) × (Nat → Int32) × (Nat → Int32) × zM) =>
  some (x10, r0v5, y6, y4.2.2.2.2.2.1, y4.2.2.2.2.2.2, y12.1, y12.2.1, y12.2.2.1, y12.2.2.2.1, y12.2.2.2.2.1, y12.2.2.2.2.2.1, y12.2.2.2.2.2.2.1, y12.2.2.2.2.2.2.2.1, y12.2.2.2.2.2.2.2.2.1, y9.2.2.1, y9.2.2.2.1, y9.2.2.2.2.1, y9.2.2.2.2.2.1, y9.2.2.2.2.2.2.1, y9.2.2.2.2.2.2.2.1, y9.2.2.2.2.2.2.2.2.1, y9.2.2.2.2.2.2.2.2.2.1, y9.2.2.2.2.2.2.2.2.2.2.1, y9.2.2.2.2.2.2.2.2.2.2.2, y12.2.2.2.2.2.2.2.2.2.1, y9.2.1, y4.2.1, y4.2.2.1, y4.2.2.2.1, y4.2.2.2.2.1, y12.2.2.2.2.2.2.2.2.2.2))
  else
  some (x10, r0v5, y6, y4.2.2.2.2.2.1, y4.2.2.2.2.2.2, r0_4, r0_4_0, r0_4_1, r0_4_2, r0_4_3, r0_4_4, r0_4_5, r0_4_6, r0_4_7, y9.2.2.1, y9.2.2.2.1, y9.2.2.2.2.1, y9.2.2.2.2.2.1, y9.2.2.2.2.2.2.1, y9.2.2.2.2.2.2.2.1, y9.2.2.2.2.2.2.2.2.1, y9.2.2.2.2.2.2.2.2.2.1, y9.2.2.2.2.2.2.2.2.2.2.1, y9.2.2.2.2.2.2.2.2.2.2.2, r0_8, y9.2.1, y4.2.1, y4.2.2.1, y4.2.2.2.1, y4.2.2.2.2.1, g49)))))
  else
  some (((-2) - (fRd_place y4.2.2.2.2.2.1)), r0v5, y6, y4.2.2.2.2.2.1, y4.2.2.2.2.2.2, r0_4, r0_4_0, r0_4_1, r0_4_2, r0_4_3, r0_4_4, r0_4_5, r0_4_6, r0_4_7, r0_5, r0_5_0, r0_5_1, r0_5_2, r0_5_3, r0_5_4, r0_5_5, r0_5_6, r0_5_7, r0_5_8, r0_8, y4.1, y4.2.1, y4.2.2.1, y4.2.2.2.1, y4.2.2.2.2.1, g49))))))
  else
  some ((-1000), r0, r0_0, r0_1, w0_1, r0_4, r0_4_0, r0_4_1, r0_4_2, r0_4_3, r0_4_4, r0_4_5, r0_4_6, r0_4_7, r0_5, r0_5_0, r0_5_1, r0_5_2, r0_5_3, r0_5_4, r0_5_5, r0_5_6, r0_5_7, r0_5_8, r0_8, r0_10, r0_10_0, r0_10_1, r0_10_2, r0_10_3, g49)))

set_option maxRecDepth 20000 in
theorem TX11_book_0 (Γ : zG) {Q : Option Value → zM → Prop} (M : zM) (r0 : Nat → Int32) (r0_0 : Nat → Int32) (r0_0_0 : Nat → Int32) (r0_1 : Nat → Int32) (w0_1 : Nat → Int64) (w0_1_1 : Nat → Int64) (r0_2 : Nat → Int32) (w0_2_0 : Nat → Int64) (w0_2_1 : Nat → Int64) (r0_2_2 : Nat → Int32) (r0_2_3 : Nat → Int32) (r0_4 : Nat → Int32) (r0_4_0 : Nat → Int32) (r0_4_1 : Nat → Int32) (r0_4_2 : Nat → Int32) (r0_4_3 : Nat → Int32) (r0_4_4 : Nat → Int32) (r0_4_5 : Nat → Int32) (r0_4_6 : Nat → Int32) (r0_4_7 : Nat → Int32) (r0_5 : Nat → Int32) (r0_5_0 : Nat → Int32) (r0_5_1 : Nat → Int32) (r0_5_2 : Nat → Int32) (r0_5_3 : Nat → Int32) (r0_5_4 : Nat → Int32) (r0_5_5 : Nat → Int32) (r0_5_6 : Nat → Int32) (r0_5_7 : Nat → Int32) (r0_5_8 : Nat → Int32) (r0_8 : Nat → Int32) (r0_10 : Nat → Int32) (r0_10_0 : Nat → Int32) (r0_10_1 : Nat → Int32) (r0_10_2 : Nat → Int32) (r0_10_3 : Nat → Int32) (g49 : zM) (e_i0 : M.1 0 = r0) (e_i1 : M.1 1 = r0_0) (e_i2 : M.1 2 = r0_0_0) (e_i3 : M.1 3 = r0_1) (e_l3 : M.2 3 = w0_1) (e_l4 : M.2 4 = w0_1_1) (e_i5 : M.1 5 = r0_2) (e_l6 : M.2 6 = w0_2_0) (e_l7 : M.2 7 = w0_2_1) (e_i8 : M.1 8 = r0_2_2) (e_i9 : M.1 9 = r0_2_3) (e_i15 : M.1 15 = r0_4) (e_i16 : M.1 16 = r0_4_0) (e_i17 : M.1 17 = r0_4_1) (e_i18 : M.1 18 = r0_4_2) (e_i19 : M.1 19 = r0_4_3) (e_i20 : M.1 20 = r0_4_4) (e_i21 : M.1 21 = r0_4_5) (e_i22 : M.1 22 = r0_4_6) (e_i23 : M.1 23 = r0_4_7) (e_i25 : M.1 25 = r0_5) (e_i26 : M.1 26 = r0_5_0) (e_i27 : M.1 27 = r0_5_1) (e_i28 : M.1 28 = r0_5_2) (e_i29 : M.1 29 = r0_5_3) (e_i30 : M.1 30 = r0_5_4) (e_i31 : M.1 31 = r0_5_5) (e_i32 : M.1 32 = r0_5_6) (e_i33 : M.1 33 = r0_5_7) (e_i34 : M.1 34 = r0_5_8) (e_i47 : M.1 47 = r0_8) (e_i174 : M.1 174 = r0_10) (e_i175 : M.1 175 = r0_10_0) (e_i176 : M.1 176 = r0_10_1) (e_i177 : M.1 177 = r0_10_2) (e_i178 : M.1 178 = r0_10_3) (e_h49 : zeq M 49 129 g49) (a1 : Int32) {res : Int32 × (Nat → Int32) × (Nat → Int32) × (Nat → Int32) × (Nat → Int64) × (Nat → Int32) × (Nat → Int32) × (Nat → Int32) × (Nat → Int32) × (Nat → Int32) × (Nat → Int32) × (Nat → Int32) × (Nat → Int32) × (Nat → Int32) × (Nat → Int32) × (Nat → Int32) × (Nat → Int32) × (Nat → Int32) × (Nat → Int32) × (Nat → Int32) × (Nat → Int32) × (Nat → Int32) × (Nat → Int32) × (Nat → Int32) × (Nat → Int32) × (Nat → Int32) × (Nat → Int32) × (Nat → Int32) × (Nat → Int32) × (Nat → Int32) × zM} (hy : (fX_book r0 r0_0 r0_0_0 r0_1 w0_1 w0_1_1 r0_2 w0_2_0 w0_2_1 r0_2_2 r0_2_3 r0_4 r0_4_0 r0_4_1 r0_4_2 r0_4_3 r0_4_4 r0_4_5 r0_4_6 r0_4_7 r0_5 r0_5_0 r0_5_1 r0_5_2 r0_5_3 r0_5_4 r0_5_5 r0_5_6 r0_5_7 r0_5_8 r0_8 r0_10 r0_10_0 r0_10_1 r0_10_2 r0_10_3 g49 a1) = some res) (hq : Q (some (.int res.1)) (zub (zui (zui (zui (zui (zui (zui (zui (zui (zui (zui (zui (zui (zui (zui (zui (zui (zui (zui (zui (zui (zui (zui (zui (zui (zui (zui (zui (zui (zul M 3 res.2.2.2.2.1) 0 res.2.1) 1 res.2.2.1) 3 res.2.2.2.1) 15 res.2.2.2.2.2.1) 16 res.2.2.2.2.2.2.1) 17 res.2.2.2.2.2.2.2.1) 18 res.2.2.2.2.2.2.2.2.1) 19 res.2.2.2.2.2.2.2.2.2.1) 20 res.2.2.2.2.2.2.2.2.2.2.1) 21 res.2.2.2.2.2.2.2.2.2.2.2.1) 22 res.2.2.2.2.2.2.2.2.2.2.2.2.1) 23 res.2.2.2.2.2.2.2.2.2.2.2.2.2.1) 25 res.2.2.2.2.2.2.2.2.2.2.2.2.2.2.1) 26 res.2.2.2.2.2.2.2.2.2.2.2.2.2.2.2.1) 27 res.2.2.2.2.2.2.2.2.2.2.2.2.2.2.2.2.1) 28 res.2.2.2.2.2.2.2.2.2.2.2.2.2.2.2.2.2.1) 29 res.2.2.2.2.2.2.2.2.2.2.2.2.2.2.2.2.2.2.1) 30 res.2.2.2.2.2.2.2.2.2.2.2.2.2.2.2.2.2.2.2.1) 31 res.2.2.2.2.2.2.2.2.2.2.2.2.2.2.2.2.2.2.2.2.1) 32 res.2.2.2.2.2.2.2.2.2.2.2.2.2.2.2.2.2.2.2.2.2.1) 33 res.2.2.2.2.2.2.2.2.2.2.2.2.2.2.2.2.2.2.2.2.2.2.1) 34 res.2.2.2.2.2.2.2.2.2.2.2.2.2.2.2.2.2.2.2.2.2.2.2.1) 47 res.2.2.2.2.2.2.2.2.2.2.2.2.2.2.2.2.2.2.2.2.2.2.2.2.1) 174 res.2.2.2.2.2.2.2.2.2.2.2.2.2.2.2.2.2.2.2.2.2.2.2.2.2.1) 175 res.2.2.2.2.2.2.2.2.2.2.2.2.2.2.2.2.2.2.2.2.2.2.2.2.2.2.1) 176 res.2.2.2.2.2.2.2.2.2.2.2.2.2.2.2.2.2.2.2.2.2.2.2.2.2.2.2.1) 177 res.2.2.2.2.2.2.2.2.2.2.2.2.2.2.2.2.2.2.2.2.2.2.2.2.2.2.2.2.1) 178 res.2.2.2.2.2.2.2.2.2.2.2.2.2.2.2.2.2.2.2.2.2.2.2.2.2.2.2.2.2.1) 49 129 res.2.2.2.2.2.2.2.2.2.2.2.2.2.2.2.2.2.2.2.2.2.2.2.2.2.2.2.2.2.2)) : zR Γ 8 YX11_book 0 [(0, .ref (zad Γ 0)), (1, .int a1)] [] M Q := by
  unfold fX_book at hy
  refine zj_iload_n (pc' := 1) 1 dX11_book_0 rfl rfl rfl ?_
  refine zj_if_lt (tgt := 9) (pc' := 4) dX11_book_1 rfl (by decide) (fun c1 => ?_) (fun c1 => ?_)
  · have hy := zt_t hy c1
    refine zj_sipush (pc' := 12) dX11_book_9 rfl ksipush_m1000 ?_
    have e9 := Option.some.inj hy
    subst e9
    refine zj_mem (N := (zul M 3 w0_1)) (zself_l e_l3 rfl) ?_
    refine zj_mem (N := (zui (zul M 3 w0_1) 0 r0)) (zself_i (zr_l e_i0) rfl) ?_
    refine zj_mem (N := (zui (zui (zul M 3 w0_1) 0 r0) 1 r0_0)) (zself_i (zr_n rfl (zr_l e_i1)) rfl) ?_
    refine zj_mem (N := (zui (zui (zui (zul M 3 w0_1) 0 r0) 1 r0_0) 3 r0_1)) (zself_i (zr_n rfl (zr_n rfl (zr_l e_i3))) rfl) ?_
    refine zj_mem (N := (zui (zui (zui (zui (zul M 3 w0_1) 0 r0) 1 r0_0) 3 r0_1) 15 r0_4)) (zself_i (zr_n rfl (zr_n rfl (zr_n rfl (zr_l e_i15)))) rfl) ?_
    refine zj_mem (N := (zui (zui (zui (zui (zui (zul M 3 w0_1) 0 r0) 1 r0_0) 3 r0_1) 15 r0_4) 16 r0_4_0)) (zself_i (zr_n rfl (zr_n rfl (zr_n rfl (zr_n rfl (zr_l e_i16))))) rfl) ?_
    refine zj_mem (N := (zui (zui (zui (zui (zui (zui (zul M 3 w0_1) 0 r0) 1 r0_0) 3 r0_1) 15 r0_4) 16 r0_4_0) 17 r0_4_1)) (zself_i (zr_n rfl (zr_n rfl (zr_n rfl (zr_n rfl (zr_n rfl (zr_l e_i17)))))) rfl) ?_
    refine zj_mem (N := (zui (zui (zui (zui (zui (zui (zui (zul M 3 w0_1) 0 r0) 1 r0_0) 3 r0_1) 15 r0_4) 16 r0_4_0) 17 r0_4_1) 18 r0_4_2)) (zself_i (zr_n rfl (zr_n rfl (zr_n rfl (zr_n rfl (zr_n rfl (zr_n rfl (zr_l e_i18))))))) rfl) ?_
    refine zj_mem (N := (zui (zui (zui (zui (zui (zui (zui (zui (zul M 3 w0_1) 0 r0) 1 r0_0) 3 r0_1) 15 r0_4) 16 r0_4_0) 17 r0_4_1) 18 r0_4_2) 19 r0_4_3)) (zself_i (zr_n rfl (zr_n rfl (zr_n rfl (zr_n rfl (zr_n rfl (zr_n rfl (zr_n rfl (zr_l e_i19)))))))) rfl) ?_
    refine zj_mem (N := (zui (zui (zui (zui (zui (zui (zui (zui (zui (zul M 3 w0_1) 0 r0) 1 r0_0) 3 r0_1) 15 r0_4) 16 r0_4_0) 17 r0_4_1) 18 r0_4_2) 19 r0_4_3) 20 r0_4_4)) (zself_i (zr_n rfl (zr_n rfl (zr_n rfl (zr_n rfl (zr_n rfl (zr_n rfl (zr_n rfl (zr_n rfl (zr_l e_i20))))))))) rfl) ?_
    refine zj_mem (N := (zui (zui (zui (zui (zui (zui (zui (zui (zui (zui (zul M 3 w0_1) 0 r0) 1 r0_0) 3 r0_1) 15 r0_4) 16 r0_4_0) 17 r0_4_1) 18 r0_4_2) 19 r0_4_3) 20 r0_4_4) 21 r0_4_5)) (zself_i (zr_n rfl (zr_n rfl (zr_n rfl (zr_n rfl (zr_n rfl (zr_n rfl (zr_n rfl (zr_n rfl (zr_n rfl (zr_l e_i21)))))))))) rfl) ?_
    refine zj_mem (N := (zui (zui (zui (zui (zui (zui (zui (zui (zui (zui (zui (zul M 3 w0_1) 0 r0) 1 r0_0) 3 r0_1) 15 r0_4) 16 r0_4_0) 17 r0_4_1) 18 r0_4_2) 19 r0_4_3) 20 r0_4_4) 21 r0_4_5) 22 r0_4_6)) (zself_i (zr_n rfl (zr_n rfl (zr_n rfl (zr_n rfl (zr_n rfl (zr_n rfl (zr_n rfl (zr_n rfl (zr_n rfl (zr_n rfl (zr_l e_i22))))))))))) rfl) ?_
    refine zj_mem (N := (zui (zui (zui (zui (zui (zui (zui (zui (zui (zui (zui (zui (zul M 3 w0_1) 0 r0) 1 r0_0) 3 r0_1) 15 r0_4) 16 r0_4_0) 17 r0_4_1) 18 r0_4_2) 19 r0_4_3) 20 r0_4_4) 21 r0_4_5) 22 r0_4_6) 23 r0_4_7)) (zself_i (zr_n rfl (zr_n rfl (zr_n rfl (zr_n rfl (zr_n rfl (zr_n rfl (zr_n rfl (zr_n rfl (zr_n rfl (zr_n rfl (zr_n rfl (zr_l e_i23)))))))))))) rfl) ?_
    refine zj_mem (N := (zui (zui (zui (zui (zui (zui (zui (zui (zui (zui (zui (zui (zui (zul M 3 w0_1) 0 r0) 1 r0_0) 3 r0_1) 15 r0_4) 16 r0_4_0) 17 r0_4_1) 18 r0_4_2) 19 r0_4_3) 20 r0_4_4) 21 r0_4_5) 22 r0_4_6) 23 r0_4_7) 25 r0_5)) (zself_i (zr_n rfl (zr_n rfl (zr_n rfl (zr_n rfl (zr_n rfl (zr_n rfl (zr_n rfl (zr_n rfl (zr_n rfl (zr_n rfl (zr_n rfl (zr_n rfl (zr_l e_i25))))))))))))) rfl) ?_
    refine zj_mem (N := (zui (zui (zui (zui (zui (zui (zui (zui (zui (zui (zui (zui (zui (zui (zul M 3 w0_1) 0 r0) 1 r0_0) 3 r0_1) 15 r0_4) 16 r0_4_0) 17 r0_4_1) 18 r0_4_2) 19 r0_4_3) 20 r0_4_4) 21 r0_4_5) 22 r0_4_6) 23 r0_4_7) 25 r0_5) 26 r0_5_0)) (zself_i (zr_n rfl (zr_n rfl (zr_n rfl (zr_n rfl (zr_n rfl (zr_n rfl (zr_n rfl (zr_n rfl (zr_n rfl (zr_n rfl (zr_n rfl (zr_n rfl (zr_n rfl (zr_l e_i26)))))))))))))) rfl) ?_
    refine zj_mem (N := (zui (zui (zui (zui (zui (zui (zui (zui (zui (zui (zui (zui (zui (zui (zui (zul M 3 w0_1) 0 r0) 1 r0_0) 3 r0_1) 15 r0_4) 16 r0_4_0) 17 r0_4_1) 18 r0_4_2) 19 r0_4_3) 20 r0_4_4) 21 r0_4_5) 22 r0_4_6) 23 r0_4_7) 25 r0_5) 26 r0_5_0) 27 r0_5_1)) (zself_i (zr_n rfl (zr_n rfl (zr_n rfl (zr_n rfl (zr_n rfl (zr_n rfl (zr_n rfl (zr_n rfl (zr_n rfl (zr_n rfl (zr_n rfl (zr_n rfl (zr_n rfl (zr_n rfl (zr_l e_i27))))))))))))))) rfl) ?_
    refine zj_mem (N := (zui (zui (zui (zui (zui (zui (zui (zui (zui (zui (zui (zui (zui (zui (zui (zui (zul M 3 w0_1) 0 r0) 1 r0_0) 3 r0_1) 15 r0_4) 16 r0_4_0) 17 r0_4_1) 18 r0_4_2) 19 r0_4_3) 20 r0_4_4) 21 r0_4_5) 22 r0_4_6) 23 r0_4_7) 25 r0_5) 26 r0_5_0) 27 r0_5_1) 28 r0_5_2)) (zself_i (zr_n rfl (zr_n rfl (zr_n rfl (zr_n rfl (zr_n rfl (zr_n rfl (zr_n rfl (zr_n rfl (zr_n rfl (zr_n rfl (zr_n rfl (zr_n rfl (zr_n rfl (zr_n rfl (zr_n rfl (zr_l e_i28)))))))))))))))) rfl) ?_
    refine zj_mem (N := (zui (zui (zui (zui (zui (zui (zui (zui (zui (zui (zui (zui (zui (zui (zui (zui (zui (zul M 3 w0_1) 0 r0) 1 r0_0) 3 r0_1) 15 r0_4) 16 r0_4_0) 17 r0_4_1) 18 r0_4_2) 19 r0_4_3) 20 r0_4_4) 21 r0_4_5) 22 r0_4_6) 23 r0_4_7) 25 r0_5) 26 r0_5_0) 27 r0_5_1) 28 r0_5_2) 29 r0_5_3)) (zself_i (zr_n rfl (zr_n rfl (zr_n rfl (zr_n rfl (zr_n rfl (zr_n rfl (zr_n rfl (zr_n rfl (zr_n rfl (zr_n rfl (zr_n rfl (zr_n rfl (zr_n rfl (zr_n rfl (zr_n rfl (zr_n rfl (zr_l e_i29))))))))))))))))) rfl) ?_
    refine zj_mem (N := (zui (zui (zui (zui (zui (zui (zui (zui (zui (zui (zui (zui (zui (zui (zui (zui (zui (zui (zul M 3 w0_1) 0 r0) 1 r0_0) 3 r0_1) 15 r0_4) 16 r0_4_0) 17 r0_4_1) 18 r0_4_2) 19 r0_4_3) 20 r0_4_4) 21 r0_4_5) 22 r0_4_6) 23 r0_4_7) 25 r0_5) 26 r0_5_0) 27 r0_5_1) 28 r0_5_2) 29 r0_5_3) 30 r0_5_4)) (zself_i (zr_n rfl (zr_n rfl (zr_n rfl (zr_n rfl (zr_n rfl (zr_n rfl (zr_n rfl (zr_n rfl (zr_n rfl (zr_n rfl (zr_n rfl (zr_n rfl (zr_n rfl (zr_n rfl (zr_n rfl (zr_n rfl (zr_n rfl (zr_l e_i30)))))))))))))))))) rfl) ?_
    refine zj_mem (N := (zui (zui (zui (zui (zui (zui (zui (zui (zui (zui (zui (zui (zui (zui (zui (zui (zui (zui (zui (zul M 3 w0_1) 0 r0) 1 r0_0) 3 r0_1) 15 r0_4) 16 r0_4_0) 17 r0_4_1) 18 r0_4_2) 19 r0_4_3) 20 r0_4_4) 21 r0_4_5) 22 r0_4_6) 23 r0_4_7) 25 r0_5) 26 r0_5_0) 27 r0_5_1) 28 r0_5_2) 29 r0_5_3) 30 r0_5_4) 31 r0_5_5)) (zself_i (zr_n rfl (zr_n rfl (zr_n rfl (zr_n rfl (zr_n rfl (zr_n rfl (zr_n rfl (zr_n rfl (zr_n rfl (zr_n rfl (zr_n rfl (zr_n rfl (zr_n rfl (zr_n rfl (zr_n rfl (zr_n rfl (zr_n rfl (zr_n rfl (zr_l e_i31))))))))))))))))))) rfl) ?_
    refine zj_mem (N := (zui (zui (zui (zui (zui (zui (zui (zui (zui (zui (zui (zui (zui (zui (zui (zui (zui (zui (zui (zui (zul M 3 w0_1) 0 r0) 1 r0_0) 3 r0_1) 15 r0_4) 16 r0_4_0) 17 r0_4_1) 18 r0_4_2) 19 r0_4_3) 20 r0_4_4) 21 r0_4_5) 22 r0_4_6) 23 r0_4_7) 25 r0_5) 26 r0_5_0) 27 r0_5_1) 28 r0_5_2) 29 r0_5_3) 30 r0_5_4) 31 r0_5_5) 32 r0_5_6)) (zself_i (zr_n rfl (zr_n rfl (zr_n rfl (zr_n rfl (zr_n rfl (zr_n rfl (zr_n rfl (zr_n rfl (zr_n rfl (zr_n rfl (zr_n rfl (zr_n rfl (zr_n rfl (zr_n rfl (zr_n rfl (zr_n rfl (zr_n rfl (zr_n rfl (zr_n rfl (zr_l e_i32)))))))))))))))))))) rfl) ?_
    refine zj_mem (N := (zui (zui (zui (zui (zui (zui (zui (zui (zui (zui (zui (zui (zui (zui (zui (zui (zui (zui (zui (zui (zui (zul M 3 w0_1) 0 r0) 1 r0_0) 3 r0_1) 15 r0_4) 16 r0_4_0) 17 r0_4_1) 18 r0_4_2) 19 r0_4_3) 20 r0_4_4) 21 r0_4_5) 22 r0_4_6) 23 r0_4_7) 25 r0_5) 26 r0_5_0) 27 r0_5_1) 28 r0_5_2) 29 r0_5_3) 30 r0_5_4) 31 r0_5_5) 32 r0_5_6) 33 r0_5_7)) (zself_i (zr_n rfl (zr_n rfl (zr_n rfl (zr_n rfl (zr_n rfl (zr_n rfl (zr_n rfl (zr_n rfl (zr_n rfl (zr_n rfl (zr_n rfl (zr_n rfl (zr_n rfl (zr_n rfl (zr_n rfl (zr_n rfl (zr_n rfl (zr_n rfl (zr_n rfl (zr_n rfl (zr_l e_i33))))))))))))))))))))) rfl) ?_
    refine zj_mem (N := (zui (zui (zui (zui (zui (zui (zui (zui (zui (zui (zui (zui (zui (zui (zui (zui (zui (zui (zui (zui (zui (zui (zul M 3 w0_1) 0 r0) 1 r0_0) 3 r0_1) 15 r0_4) 16 r0_4_0) 17 r0_4_1) 18 r0_4_2) 19 r0_4_3) 20 r0_4_4) 21 r0_4_5) 22 r0_4_6) 23 r0_4_7) 25 r0_5) 26 r0_5_0) 27 r0_5_1) 28 r0_5_2) 29 r0_5_3) 30 r0_5_4) 31 r0_5_5) 32 r0_5_6) 33 r0_5_7) 34 r0_5_8)) (zself_i (zr_n rfl (zr_n rfl (zr_n rfl (zr_n rfl (zr_n rfl (zr_n rfl (zr_n rfl (zr_n rfl (zr_n rfl (zr_n rfl (zr_n rfl (zr_n rfl (zr_n rfl (zr_n rfl (zr_n rfl (zr_n rfl (zr_n rfl (zr_n rfl (zr_n rfl (zr_n rfl (zr_n rfl (zr_l e_i34)))))))))))))))))))))) rfl) ?_
    refine zj_mem (N := (zui (zui (zui (zui (zui (zui (zui (zui (zui (zui (zui (zui (zui (zui (zui (zui (zui (zui (zui (zui (zui (zui (zui (zul M 3 w0_1) 0 r0) 1 r0_0) 3 r0_1) 15 r0_4) 16 r0_4_0) 17 r0_4_1) 18 r0_4_2) 19 r0_4_3) 20 r0_4_4) 21 r0_4_5) 22 r0_4_6) 23 r0_4_7) 25 r0_5) 26 r0_5_0) 27 r0_5_1) 28 r0_5_2) 29 r0_5_3) 30 r0_5_4) 31 r0_5_5) 32 r0_5_6) 33 r0_5_7) 34 r0_5_8) 47 r0_8)) (zself_i (zr_n rfl (zr_n rfl (zr_n rfl (zr_n rfl (zr_n rfl (zr_n rfl (zr_n rfl (zr_n rfl (zr_n rfl (zr_n rfl (zr_n rfl (zr_n rfl (zr_n rfl (zr_n rfl (zr_n rfl (zr_n rfl (zr_n rfl (zr_n rfl (zr_n rfl (zr_n rfl (zr_n rfl (zr_n rfl (zr_l e_i47))))))))))))))))))))))) rfl) ?_
    refine zj_mem (N := (zui (zui (zui (zui (zui (zui (zui (zui (zui (zui (zui (zui (zui (zui (zui (zui (zui (zui (zui (zui (zui (zui (zui (zui (zul M 3 w0_1) 0 r0) 1 r0_0) 3 r0_1) 15 r0_4) 16 r0_4_0) 17 r0_4_1) 18 r0_4_2) 19 r0_4_3) 20 r0_4_4) 21 r0_4_5) 22 r0_4_6) 23 r0_4_7) 25 r0_5) 26 r0_5_0) 27 r0_5_1) 28 r0_5_2) 29 r0_5_3) 30 r0_5_4) 31 r0_5_5) 32 r0_5_6) 33 r0_5_7) 34 r0_5_8) 47 r0_8) 174 r0_10)) (zself_i (zr_n rfl (zr_n rfl (zr_n rfl (zr_n rfl (zr_n rfl (zr_n rfl (zr_n rfl (zr_n rfl (zr_n rfl (zr_n rfl (zr_n rfl (zr_n rfl (zr_n rfl (zr_n rfl (zr_n rfl (zr_n rfl (zr_n rfl (zr_n rfl (zr_n rfl (zr_n rfl (zr_n rfl (zr_n rfl (zr_n rfl (zr_l e_i174)))))))))))))))))))))))) rfl) ?_
    refine zj_mem (N := (zui (zui (zui (zui (zui (zui (zui (zui (zui (zui (zui (zui (zui (zui (zui (zui (zui (zui (zui (zui (zui (zui (zui (zui (zui (zul M 3 w0_1) 0 r0) 1 r0_0) 3 r0_1) 15 r0_4) 16 r0_4_0) 17 r0_4_1) 18 r0_4_2) 19 r0_4_3) 20 r0_4_4) 21 r0_4_5) 22 r0_4_6) 23 r0_4_7) 25 r0_5) 26 r0_5_0) 27 r0_5_1) 28 r0_5_2) 29 r0_5_3) 30 r0_5_4) 31 r0_5_5) 32 r0_5_6) 33 r0_5_7) 34 r0_5_8) 47 r0_8) 174 r0_10) 175 r0_10_0)) (zself_i (zr_n rfl (zr_n rfl (zr_n rfl (zr_n rfl (zr_n rfl (zr_n rfl (zr_n rfl (zr_n rfl (zr_n rfl (zr_n rfl (zr_n rfl (zr_n rfl (zr_n rfl (zr_n rfl (zr_n rfl (zr_n rfl (zr_n rfl (zr_n rfl (zr_n rfl (zr_n rfl (zr_n rfl (zr_n rfl (zr_n rfl (zr_n rfl (zr_l e_i175))))))))))))))))))))))))) rfl) ?_
    refine zj_mem (N := (zui (zui (zui (zui (zui (zui (zui (zui (zui (zui (zui (zui (zui (zui (zui (zui (zui (zui (zui (zui (zui (zui (zui (zui (zui (zui (zul M 3 w0_1) 0 r0) 1 r0_0) 3 r0_1) 15 r0_4) 16 r0_4_0) 17 r0_4_1) 18 r0_4_2) 19 r0_4_3) 20 r0_4_4) 21 r0_4_5) 22 r0_4_6) 23 r0_4_7) 25 r0_5) 26 r0_5_0) 27 r0_5_1) 28 r0_5_2) 29 r0_5_3) 30 r0_5_4) 31 r0_5_5) 32 r0_5_6) 33 r0_5_7) 34 r0_5_8) 47 r0_8) 174 r0_10) 175 r0_10_0) 176 r0_10_1)) (zself_i (zr_n rfl (zr_n rfl (zr_n rfl (zr_n rfl (zr_n rfl (zr_n rfl (zr_n rfl (zr_n rfl (zr_n rfl (zr_n rfl (zr_n rfl (zr_n rfl (zr_n rfl (zr_n rfl (zr_n rfl (zr_n rfl (zr_n rfl (zr_n rfl (zr_n rfl (zr_n rfl (zr_n rfl (zr_n rfl (zr_n rfl (zr_n rfl (zr_n rfl (zr_l e_i176)))))))))))))))))))))))))) rfl) ?_
    refine zj_mem (N := (zui (zui (zui (zui (zui (zui (zui (zui (zui (zui (zui (zui (zui (zui (zui (zui (zui (zui (zui (zui (zui (zui (zui (zui (zui (zui (zui (zul M 3 w0_1) 0 r0) 1 r0_0) 3 r0_1) 15 r0_4) 16 r0_4_0) 17 r0_4_1) 18 r0_4_2) 19 r0_4_3) 20 r0_4_4) 21 r0_4_5) 22 r0_4_6) 23 r0_4_7) 25 r0_5) 26 r0_5_0) 27 r0_5_1) 28 r0_5_2) 29 r0_5_3) 30 r0_5_4) 31 r0_5_5) 32 r0_5_6) 33 r0_5_7) 34 r0_5_8) 47 r0_8) 174 r0_10) 175 r0_10_0) 176 r0_10_1) 177 r0_10_2)) (zself_i (zr_n rfl (zr_n rfl (zr_n rfl (zr_n rfl (zr_n rfl (zr_n rfl (zr_n rfl (zr_n rfl (zr_n rfl (zr_n rfl (zr_n rfl (zr_n rfl (zr_n rfl (zr_n rfl (zr_n rfl (zr_n rfl (zr_n rfl (zr_n rfl (zr_n rfl (zr_n rfl (zr_n rfl (zr_n rfl (zr_n rfl (zr_n rfl (zr_n rfl (zr_n rfl (zr_l e_i177))))))))))))))))))))))))))) rfl) ?_
    refine zj_mem (N := (zui (zui (zui (zui (zui (zui (zui (zui (zui (zui (zui (zui (zui (zui (zui (zui (zui (zui (zui (zui (zui (zui (zui (zui (zui (zui (zui (zui (zul M 3 w0_1) 0 r0) 1 r0_0) 3 r0_1) 15 r0_4) 16 r0_4_0) 17 r0_4_1) 18 r0_4_2) 19 r0_4_3) 20 r0_4_4) 21 r0_4_5) 22 r0_4_6) 23 r0_4_7) 25 r0_5) 26 r0_5_0) 27 r0_5_1) 28 r0_5_2) 29 r0_5_3) 30 r0_5_4) 31 r0_5_5) 32 r0_5_6) 33 r0_5_7) 34 r0_5_8) 47 r0_8) 174 r0_10) 175 r0_10_0) 176 r0_10_1) 177 r0_10_2) 178 r0_10_3)) (zself_i (zr_n rfl (zr_n rfl (zr_n rfl (zr_n rfl (zr_n rfl (zr_n rfl (zr_n rfl (zr_n rfl (zr_n rfl (zr_n rfl (zr_n rfl (zr_n rfl (zr_n rfl (zr_n rfl (zr_n rfl (zr_n rfl (zr_n rfl (zr_n rfl (zr_n rfl (zr_n rfl (zr_n rfl (zr_n rfl (zr_n rfl (zr_n rfl (zr_n rfl (zr_n rfl (zr_n rfl (zr_l e_i178)))))))))))))))))))))))))))) rfl) ?_
    refine zj_mem (N := (zub (zui (zui (zui (zui (zui (zui (zui (zui (zui (zui (zui (zui (zui (zui (zui (zui (zui (zui (zui (zui (zui (zui (zui (zui (zui (zui (zui (zui (zul M 3 w0_1) 0 r0) 1 r0_0) 3 r0_1) 15 r0_4) 16 r0_4_0) 17 r0_4_1) 18 r0_4_2) 19 r0_4_3) 20 r0_4_4) 21 r0_4_5) 22 r0_4_6) 23 r0_4_7) 25 r0_5) 26 r0_5_0) 27 r0_5_1) 28 r0_5_2) 29 r0_5_3) 30 r0_5_4) 31 r0_5_5) 32 r0_5_6) 33 r0_5_7) 34 r0_5_8) 47 r0_8) 174 r0_10) 175 r0_10_0) 176 r0_10_1) 177 r0_10_2) 178 r0_10_3) 49 129 g49)) (zself_h (zeq_i rfl (zeq_i rfl (zeq_i rfl (zeq_i rfl (zeq_i rfl (zeq_i rfl (zeq_i rfl (zeq_i rfl (zeq_i rfl (zeq_i rfl (zeq_i rfl (zeq_i rfl (zeq_i rfl (zeq_i rfl (zeq_i rfl (zeq_i rfl (zeq_i rfl (zeq_i rfl (zeq_i rfl (zeq_i rfl (zeq_i rfl (zeq_i rfl (zeq_i rfl (zeq_i rfl (zeq_i rfl (zeq_i rfl (zeq_i rfl (zeq_i rfl (zeq_l rfl e_h49))))))))))))))))))))))))))))) rfl) ?_
    exact zj_iret dX11_book_12 rfl hq
  · have hy := zt_f hy c1
    refine zj_iload_n (pc' := 5) 1 dX11_book_4 rfl rfl rfl ?_
    refine zj_iconst (pc' := 6) dX11_book_5 rfl kiconst_1 ?_
    refine zj_icmp_le (tgt := 13) (pc' := 9) dX11_book_6 rfl (by decide) (fun c2 => ?_) (fun c2 => ?_)
    · have hy := zt_t hy c2
      refine zj_aload_n (pc' := 14) 0 dX11_book_13 rfl rfl rfl ?_
      refine zj_getR (pc' := 17) (j := 3) dX11_book_14 rfl flX11_21 sh0 rfl ?_
      refine zj_sipush (pc' := 20) dX11_book_17 rfl ksipush_400 ?_
      obtain ⟨y3, hy3, hy⟩ := zt_b hy
      refine zj_V0 (pc' := 23) (z := YX8_start) (As := [.int 400]) (N := (zui (zul M 3 y3.2) 3 y3.1)) dX11_book_20 rfl mlX11_129 lkX8_start sh3 ⟨_, _, rfl⟩ rfl rfl (Nat.le_of_ble_eq_true rfl) (Nat.le_of_ble_eq_true rfl) (LX8_start_3 Γ _ r0_1 w0_1 r0_0 r0_0_0 e_i3 e_l3 e_i1 e_i2 400 hy3) ((zch_i rfl rfl)).symm ?_
      refine zj_aload_n (pc' := 24) 0 dX11_book_23 rfl rfl rfl ?_
      refine zj_getR (pc' := 27) (j := 174) dX11_book_24 rfl flX11_71 sh0 rfl ?_
      refine zj_aload_n (pc' := 28) 0 dX11_book_27 rfl rfl rfl ?_
      refine zj_getR (pc' := 31) (j := 3) dX11_book_28 rfl flX11_21 sh0 rfl ?_
      refine zj_aload_n (pc' := 32) 0 dX11_book_31 rfl rfl rfl ?_
      refine zj_getR (pc' := 35) (j := 5) dX11_book_32 rfl flX11_28 sh0 rfl ?_
      obtain ⟨y4, hy4, hy⟩ := zt_b hy
      refine zj_V0 (pc' := 38) (z := YX0_readFrom) (As := [.ref (zad Γ 3), .ref (zad Γ 5)]) (N := (zui (zui (zui (zui (zui (zui (zul M 3 y4.2.2.2.2.2.2) 3 y4.2.2.2.2.2.1) 174 y4.1) 175 y4.2.1) 176 y4.2.2.1) 177 y4.2.2.2.1) 178 y4.2.2.2.2.1)) dX11_book_35 rfl mlX11_349 lkX0_readFrom sh174 ⟨_, _, rfl⟩ rfl rfl (Nat.le_of_ble_eq_true rfl) (Nat.le_of_ble_eq_true rfl) (LX0_readFrom_174_3_5 Γ _ r0_10 r0_10_0 r0_10_1 r0_10_2 r0_10_3 y3.1 y3.2 r0_0 r0_0_0 w0_1_1 r0_2 w0_2_0 w0_2_1 (zr_n rfl (zr_l e_i174)) (zr_n rfl (zr_l e_i175)) (zr_n rfl (zr_l e_i176)) (zr_n rfl (zr_l e_i177)) (zr_n rfl (zr_l e_i178)) zr_s (zq_i zq_s) (zr_n rfl (zr_l e_i1)) (zr_n rfl (zr_l e_i2)) (zq_i (zq_n rfl e_l4)) (zr_n rfl (zr_l e_i5)) (zq_i (zq_n rfl e_l6)) (zq_i (zq_n rfl e_l7)) hy4) ((zch_i (zch_i (zch_i (zch_i (zch_i (zch_i (zm_li zn_s) zm_s) rfl) rfl) rfl) rfl) rfl)).symm ?_
      refine zj_aload_n (pc' := 39) 0 dX11_book_38 rfl rfl rfl ?_
      refine zj_aload_n (pc' := 40) 0 dX11_book_39 rfl rfl rfl ?_
      refine zj_getR (pc' := 43) (j := 3) dX11_book_40 rfl flX11_21 sh0 rfl ?_
      refine zj_V1 (pc' := 46) (z := YX8_faultKind) (As := []) (N := (zui (zui (zui (zui (zui (zui (zul M 3 y4.2.2.2.2.2.2) 3 y4.2.2.2.2.2.1) 174 y4.1) 175 y4.2.1) 176 y4.2.2.1) 177 y4.2.2.2.1) 178 y4.2.2.2.2.1)) dX11_book_43 rfl mlX11_136 lkX8_faultKind sh3 ⟨_, _, rfl⟩ rfl rfl (Nat.le_of_ble_eq_true rfl) (Nat.le_of_ble_eq_true rfl) (LX8_faultKind_3 Γ _ y4.2.2.2.2.2.1 (zr_n rfl (zr_n rfl (zr_n rfl (zr_n rfl (zr_n rfl zr_s))))) rfl) rfl ?_
      obtain ⟨r0v5, er0v5⟩ : ∃ z, z = (zup r0 16 (fRd_faultKind y4.2.2.2.2.2.1)) := ⟨_, rfl⟩
      have hy := zlet_at er0v5 hy
      refine zj_pI (pc' := 49) (N := (zui (zui (zui (zui (zui (zui (zui (zul M 3 y4.2.2.2.2.2.2) 0 r0v5) 3 y4.2.2.2.2.2.1) 174 y4.1) 175 y4.2.1) 176 y4.2.2.1) 177 y4.2.2.2.1) 178 y4.2.2.2.2.1)) dX11_book_46 rfl fpX11_139 sh0 rfl (zr_n rfl (zr_n rfl (zr_n rfl (zr_n rfl (zr_n rfl (zr_n rfl (zr_l e_i0))))))) er0v5 (zm_n rfl (zm_n rfl (zm_n rfl (zm_n rfl (zm_n rfl (zm_n rfl rfl)))))) ?_
      refine zj_aload_n (pc' := 50) 0 dX11_book_49 rfl rfl rfl ?_
      refine zj_getR (pc' := 53) (j := 1) dX11_book_50 rfl flX11_10 sh0 rfl ?_
      obtain ⟨y6, hy6, hy⟩ := zt_b hy
      refine zj_V0 (pc' := 56) (z := YX10_clear) (As := []) (N := (zui (zui (zui (zui (zui (zui (zui (zui (zul M 3 y4.2.2.2.2.2.2) 0 r0v5) 1 y6) 3 y4.2.2.2.2.2.1) 174 y4.1) 175 y4.2.1) 176 y4.2.2.1) 177 y4.2.2.2.1) 178 y4.2.2.2.2.1)) dX11_book_53 rfl mlX11_141 lkX10_clear sh1 ⟨_, _, rfl⟩ rfl rfl (Nat.le_of_ble_eq_true rfl) (Nat.le_of_ble_eq_true rfl) (LX10_clear_1 Γ _ r0_0 (zr_n rfl (zr_n rfl (zr_n rfl (zr_n rfl (zr_n rfl (zr_n rfl (zr_n rfl (zr_l e_i1)))))))) hy6) ((zm_n rfl (zm_n rfl (zm_n rfl (zm_n rfl (zm_n rfl (zm_n rfl rfl))))))).symm ?_
      refine zj_aload_n (pc' := 57) 0 dX11_book_56 rfl rfl rfl ?_
      refine zj_fI (pc' := 60) dX11_book_57 rfl flX11_139 sh0 rfl (zr_n rfl (zr_n rfl (zr_n rfl (zr_n rfl (zr_n rfl (zr_n rfl (zr_n rfl zr_s))))))) rfl ?_
      refine zj_if_eq (tgt := 74) (pc' := 63) dX11_book_60 rfl (by decide) (fun c7 => ?_) (fun c7 => ?_)
      · have hy := zt_t hy c7
        refine zj_aload_n (pc' := 75) 0 dX11_book_74 rfl rfl rfl ?_
        refine zj_getR (pc' := 78) (j := 25) dX11_book_75 rfl flX11_42 sh0 rfl ?_
        refine zj_aload_n (pc' := 79) 0 dX11_book_78 rfl rfl rfl ?_
        refine zj_getR (pc' := 82) (j := 15) dX11_book_79 rfl flX11_38 sh0 rfl ?_
        obtain ⟨y8, hy8, hy⟩ := zt_b hy
        refine zj_V0 (pc' := 85) (z := YX1_copyFrom) (As := [.ref (zad Γ 15)]) (N := (zui (zui (zui (zui (zui (zui (zui (zui (zui (zui (zui (zui (zui (zui (zui (zui (zui (zul M 3 y4.2.2.2.2.2.2) 0 r0v5) 1 y6) 3 y4.2.2.2.2.2.1) 25 y8.1) 26 y8.2.1) 27 y8.2.2.1) 28 y8.2.2.2.1) 29 y8.2.2.2.2.1) 30 y8.2.2.2.2.2.1) 31 y8.2.2.2.2.2.2.1) 32 y8.2.2.2.2.2.2.2.1) 33 y8.2.2.2.2.2.2.2.2) 174 y4.1) 175 y4.2.1) 176 y4.2.2.1) 177 y4.2.2.2.1) 178 y4.2.2.2.2.1)) dX11_book_82 rfl mlX11_151 lkX1_copyFrom sh25 ⟨_, _, rfl⟩ rfl rfl (Nat.le_of_ble_eq_true rfl) (Nat.le_of_ble_eq_true rfl) (LX1_copyFrom_25_15 Γ _ r0_5 r0_5_0 r0_5_1 r0_5_2 r0_5_3 r0_5_4 r0_5_5 r0_5_6 r0_5_7 r0_4 r0_4_0 r0_4_1 r0_4_2 r0_4_3 r0_4_4 r0_4_5 r0_4_6 r0_4_7 (zr_n rfl (zr_n rfl (zr_n rfl (zr_n rfl (zr_n rfl (zr_n rfl (zr_n rfl (zr_n rfl (zr_l e_i25))))))))) (zr_n rfl (zr_n rfl (zr_n rfl (zr_n rfl (zr_n rfl (zr_n rfl (zr_n rfl (zr_n rfl (zr_l e_i26))))))))) (zr_n rfl (zr_n rfl (zr_n rfl (zr_n rfl (zr_n rfl (zr_n rfl (zr_n rfl (zr_n rfl (zr_l e_i27))))))))) (zr_n rfl (zr_n rfl (zr_n rfl (zr_n rfl (zr_n rfl (zr_n rfl (zr_n rfl (zr_n rfl (zr_l e_i28))))))))) (zr_n rfl (zr_n rfl (zr_n rfl (zr_n rfl (zr_n rfl (zr_n rfl (zr_n rfl (zr_n rfl (zr_l e_i29))))))))) (zr_n rfl (zr_n rfl (zr_n rfl (zr_n rfl (zr_n rfl (zr_n rfl (zr_n rfl (zr_n rfl (zr_l e_i30))))))))) (zr_n rfl (zr_n rfl (zr_n rfl (zr_n rfl (zr_n rfl (zr_n rfl (zr_n rfl (zr_n rfl (zr_l e_i31))))))))) (zr_n rfl (zr_n rfl (zr_n rfl (zr_n rfl (zr_n rfl (zr_n rfl (zr_n rfl (zr_n rfl (zr_l e_i32))))))))) (zr_n rfl (zr_n rfl (zr_n rfl (zr_n rfl (zr_n rfl (zr_n rfl (zr_n rfl (zr_n rfl (zr_l e_i33))))))))) (zr_n rfl (zr_n rfl (zr_n rfl (zr_n rfl (zr_n rfl (zr_n rfl (zr_n rfl (zr_n rfl (zr_l e_i15))))))))) (zr_n rfl (zr_n rfl (zr_n rfl (zr_n rfl (zr_n rfl (zr_n rfl (zr_n rfl (zr_n rfl (zr_l e_i16))))))))) (zr_n rfl (zr_n rfl (zr_n rfl (zr_n rfl (zr_n rfl (zr_n rfl (zr_n rfl (zr_n rfl (zr_l e_i17))))))))) (zr_n rfl (zr_n rfl (zr_n rfl (zr_n rfl (zr_n rfl (zr_n rfl (zr_n rfl (zr_n rfl (zr_l e_i18))))))))) (zr_n rfl (zr_n rfl (zr_n rfl (zr_n rfl (zr_n rfl (zr_n rfl (zr_n rfl (zr_n rfl (zr_l e_i19))))))))) (zr_n rfl (zr_n rfl (zr_n rfl (zr_n rfl (zr_n rfl (zr_n rfl (zr_n rfl (zr_n rfl (zr_l e_i20))))))))) (zr_n rfl (zr_n rfl (zr_n rfl (zr_n rfl (zr_n rfl (zr_n rfl (zr_n rfl (zr_n rfl (zr_l e_i21))))))))) (zr_n rfl (zr_n rfl (zr_n rfl (zr_n rfl (zr_n rfl (zr_n rfl (zr_n rfl (zr_n rfl (zr_l e_i22))))))))) (zr_n rfl (zr_n rfl (zr_n rfl (zr_n rfl (zr_n rfl (zr_n rfl (zr_n rfl (zr_n rfl (zr_l e_i23))))))))) hy8) ((zch_i (zch_i (zch_i (zch_i (zch_i (zch_i (zch_i (zch_i (zm_n rfl (zm_n rfl (zm_n rfl (zm_n rfl (zm_n rfl rfl))))) (zm_n rfl (zm_n rfl (zm_n rfl (zm_n rfl (zm_n rfl rfl)))))) (zm_n rfl (zm_n rfl (zm_n rfl (zm_n rfl (zm_n rfl rfl)))))) (zm_n rfl (zm_n rfl (zm_n rfl (zm_n rfl (zm_n rfl rfl)))))) (zm_n rfl (zm_n rfl (zm_n rfl (zm_n rfl (zm_n rfl rfl)))))) (zm_n rfl (zm_n rfl (zm_n rfl (zm_n rfl (zm_n rfl rfl)))))) (zm_n rfl (zm_n rfl (zm_n rfl (zm_n rfl (zm_n rfl rfl)))))) (zm_n rfl (zm_n rfl (zm_n rfl (zm_n rfl (zm_n rfl rfl)))))) (zm_n rfl (zm_n rfl (zm_n rfl (zm_n rfl (zm_n rfl rfl))))))).symm ?_
        refine zj_aload_n (pc' := 86) 0 dX11_book_85 rfl rfl rfl ?_
        refine zj_getR (pc' := 89) (j := 174) dX11_book_86 rfl flX11_71 sh0 rfl ?_
        refine zj_aload_n (pc' := 90) 0 dX11_book_89 rfl rfl rfl ?_
        refine zj_getR (pc' := 93) (j := 5) dX11_book_90 rfl flX11_28 sh0 rfl ?_
        refine zj_aload_n (pc' := 94) 0 dX11_book_93 rfl rfl rfl ?_
        refine zj_getR (pc' := 97) (j := 25) dX11_book_94 rfl flX11_42 sh0 rfl ?_
        obtain ⟨y9, hy9, hy⟩ := zt_b hy
        refine zj_V1 (pc' := 100) (z := YX0_judge) (As := [.ref (zad Γ 5), .ref (zad Γ 25)]) (N := (zui (zui (zui (zui (zui (zui (zui (zui (zui (zui (zui (zui (zui (zui (zui (zui (zui (zui (zul M 3 y4.2.2.2.2.2.2) 0 r0v5) 1 y6) 3 y4.2.2.2.2.2.1) 25 y9.2.2.1) 26 y9.2.2.2.1) 27 y9.2.2.2.2.1) 28 y9.2.2.2.2.2.1) 29 y9.2.2.2.2.2.2.1) 30 y9.2.2.2.2.2.2.2.1) 31 y9.2.2.2.2.2.2.2.2.1) 32 y9.2.2.2.2.2.2.2.2.2.1) 33 y9.2.2.2.2.2.2.2.2.2.2.1) 34 y9.2.2.2.2.2.2.2.2.2.2.2) 174 y9.2.1) 175 y4.2.1) 176 y4.2.2.1) 177 y4.2.2.2.1) 178 y4.2.2.2.2.1)) dX11_book_97 rfl mlX11_352 lkX0_judge sh174 ⟨_, _, rfl⟩ rfl rfl (Nat.le_of_ble_eq_true rfl) (Nat.le_of_ble_eq_true rfl) (LX0_judge_174_5_25 Γ _ y4.1 y4.2.1 y4.2.2.1 y4.2.2.2.1 y4.2.2.2.2.1 r0_2 r0_2_2 r0_2_3 y8.1 y8.2.1 y8.2.2.1 y8.2.2.2.1 y8.2.2.2.2.1 y8.2.2.2.2.2.1 y8.2.2.2.2.2.2.1 y8.2.2.2.2.2.2.2.1 y8.2.2.2.2.2.2.2.2 r0_5_8 (zr_n rfl (zr_n rfl (zr_n rfl (zr_n rfl zr_s)))) (zr_n rfl (zr_n rfl (zr_n rfl zr_s))) (zr_n rfl (zr_n rfl zr_s)) (zr_n rfl zr_s) zr_s (zr_n rfl (zr_n rfl (zr_n rfl (zr_n rfl (zr_n rfl (zr_n rfl (zr_n rfl (zr_n rfl (zr_n rfl (zr_n rfl (zr_n rfl (zr_n rfl (zr_n rfl (zr_n rfl (zr_n rfl (zr_n rfl (zr_n rfl (zr_l e_i5)))))))))))))))))) (zr_n rfl (zr_n rfl (zr_n rfl (zr_n rfl (zr_n rfl (zr_n rfl (zr_n rfl (zr_n rfl (zr_n rfl (zr_n rfl (zr_n rfl (zr_n rfl (zr_n rfl (zr_n rfl (zr_n rfl (zr_n rfl (zr_n rfl (zr_l e_i8)))))))))))))))))) (zr_n rfl (zr_n rfl (zr_n rfl (zr_n rfl (zr_n rfl (zr_n rfl (zr_n rfl (zr_n rfl (zr_n rfl (zr_n rfl (zr_n rfl (zr_n rfl (zr_n rfl (zr_n rfl (zr_n rfl (zr_n rfl (zr_n rfl (zr_l e_i9)))))))))))))))))) (zr_n rfl (zr_n rfl (zr_n rfl (zr_n rfl (zr_n rfl (zr_n rfl (zr_n rfl (zr_n rfl (zr_n rfl (zr_n rfl (zr_n rfl (zr_n rfl (zr_n rfl zr_s))))))))))))) (zr_n rfl (zr_n rfl (zr_n rfl (zr_n rfl (zr_n rfl (zr_n rfl (zr_n rfl (zr_n rfl (zr_n rfl (zr_n rfl (zr_n rfl (zr_n rfl zr_s)))))))))))) (zr_n rfl (zr_n rfl (zr_n rfl (zr_n rfl (zr_n rfl (zr_n rfl (zr_n rfl (zr_n rfl (zr_n rfl (zr_n rfl (zr_n rfl zr_s))))))))))) (zr_n rfl (zr_n rfl (zr_n rfl (zr_n rfl (zr_n rfl (zr_n rfl (zr_n rfl (zr_n rfl (zr_n rfl (zr_n rfl zr_s)))))))))) (zr_n rfl (zr_n rfl (zr_n rfl (zr_n rfl (zr_n rfl (zr_n rfl (zr_n rfl (zr_n rfl (zr_n rfl zr_s))))))))) (zr_n rfl (zr_n rfl (zr_n rfl (zr_n rfl (zr_n rfl (zr_n rfl (zr_n rfl (zr_n rfl zr_s)))))))) (zr_n rfl (zr_n rfl (zr_n rfl (zr_n rfl (zr_n rfl (zr_n rfl (zr_n rfl zr_s))))))) (zr_n rfl (zr_n rfl (zr_n rfl (zr_n rfl (zr_n rfl (zr_n rfl zr_s)))))) (zr_n rfl (zr_n rfl (zr_n rfl (zr_n rfl (zr_n rfl zr_s))))) (zr_n rfl (zr_n rfl (zr_n rfl (zr_n rfl (zr_n rfl (zr_n rfl (zr_n rfl (zr_n rfl (zr_n rfl (zr_n rfl (zr_n rfl (zr_n rfl (zr_n rfl (zr_n rfl (zr_n rfl (zr_n rfl (zr_n rfl (zr_l e_i34)))))))))))))))))) hy9) ((zch_i (zch_i (zch_i (zch_i (zch_i (zch_i (zch_i (zch_i (zch_i (zch_i (zm_n rfl (zm_n rfl (zm_n rfl (zm_n rfl (zm_n rfl (zm_n rfl (zm_n rfl (zm_n rfl (zm_n rfl (zm_n rfl (zm_n rfl (zm_n rfl (zm_n rfl zm_s))))))))))))) (zm_n rfl (zm_n rfl (zm_n rfl (zm_n rfl (zm_n rfl (zm_n rfl (zm_n rfl (zm_n rfl (zm_n rfl (zm_n rfl (zm_n rfl (zm_n rfl zm_s))))))))))))) (zm_n rfl (zm_n rfl (zm_n rfl (zm_n rfl (zm_n rfl (zm_n rfl (zm_n rfl (zm_n rfl (zm_n rfl (zm_n rfl (zm_n rfl zm_s)))))))))))) (zm_n rfl (zm_n rfl (zm_n rfl (zm_n rfl (zm_n rfl (zm_n rfl (zm_n rfl (zm_n rfl (zm_n rfl (zm_n rfl zm_s))))))))))) (zm_n rfl (zm_n rfl (zm_n rfl (zm_n rfl (zm_n rfl (zm_n rfl (zm_n rfl (zm_n rfl (zm_n rfl zm_s)))))))))) (zm_n rfl (zm_n rfl (zm_n rfl (zm_n rfl (zm_n rfl (zm_n rfl (zm_n rfl (zm_n rfl zm_s))))))))) (zm_n rfl (zm_n rfl (zm_n rfl (zm_n rfl (zm_n rfl (zm_n rfl (zm_n rfl zm_s)))))))) (zm_n rfl (zm_n rfl (zm_n rfl (zm_n rfl (zm_n rfl (zm_n rfl zm_s))))))) (zm_n rfl (zm_n rfl (zm_n rfl (zm_n rfl (zm_n rfl zm_s)))))) (zm_n rfl (zm_n rfl (zm_n rfl (zm_n rfl (zm_n rfl rfl)))))) (zm_n rfl (zm_n rfl (zm_n rfl (zm_n rfl zm_s)))))).symm ?_
        refine zj_topi (fun x10 ex10 => ?_)
        have hy := zlet_at ex10 hy
        refine zj_istore_n (pc' := 101) (L' := [(2, .int x10), (0, .ref (zad Γ 0)), (1, .int a1)]) dX11_book_100 rfl rfl (by decide) rfl ?_
        refine zj_iload_n (pc' := 102) 2 dX11_book_101 rfl rfl rfl ?_
        refine zj_iconst (pc' := 103) dX11_book_102 rfl kiconst_1 ?_
        refine zj_icmp_ne (tgt := 117) (pc' := 106) dX11_book_103 rfl (by decide) (fun c11 => ?_) (fun c11 => ?_)
        · have hy := zt_f hy c11
          refine zj_iload_n (pc' := 118) 0 dX11_book_117 rfl rfl rfl ?_
          have e9 := Option.some.inj hy
          subst e9
          refine zj_mem (N := (zui (zui (zui (zui (zui (zui (zui (zui (zui (zui (zui (zui (zui (zui (zui (zui (zui (zui (zui (zul M 3 y4.2.2.2.2.2.2) 0 r0v5) 1 y6) 3 y4.2.2.2.2.2.1) 15 r0_4) 25 y9.2.2.1) 26 y9.2.2.2.1) 27 y9.2.2.2.2.1) 28 y9.2.2.2.2.2.1) 29 y9.2.2.2.2.2.2.1) 30 y9.2.2.2.2.2.2.2.1) 31 y9.2.2.2.2.2.2.2.2.1) 32 y9.2.2.2.2.2.2.2.2.2.1) 33 y9.2.2.2.2.2.2.2.2.2.2.1) 34 y9.2.2.2.2.2.2.2.2.2.2.2) 174 y9.2.1) 175 y4.2.1) 176 y4.2.2.1) 177 y4.2.2.2.1) 178 y4.2.2.2.2.1)) (zself_i (zr_n rfl (zr_n rfl (zr_n rfl (zr_n rfl (zr_n rfl (zr_n rfl (zr_n rfl (zr_n rfl (zr_n rfl (zr_n rfl (zr_n rfl (zr_n rfl (zr_n rfl (zr_n rfl (zr_n rfl (zr_n rfl (zr_n rfl (zr_n rfl (zr_l e_i15))))))))))))))))))) (zm_n rfl (zm_n rfl (zm_n rfl (zm_n rfl (zm_n rfl (zm_n rfl (zm_n rfl (zm_n rfl (zm_n rfl (zm_n rfl (zm_n rfl (zm_n rfl (zm_n rfl (zm_n rfl (zm_n rfl rfl)))))))))))))))) ?_
          refine zj_mem (N := (zui (zui (zui (zui (zui (zui (zui (zui (zui (zui (zui (zui (zui (zui (zui (zui (zui (zui (zui (zui (zul M 3 y4.2.2.2.2.2.2) 0 r0v5) 1 y6) 3 y4.2.2.2.2.2.1) 15 r0_4) 16 r0_4_0) 25 y9.2.2.1) 26 y9.2.2.2.1) 27 y9.2.2.2.2.1) 28 y9.2.2.2.2.2.1) 29 y9.2.2.2.2.2.2.1) 30 y9.2.2.2.2.2.2.2.1) 31 y9.2.2.2.2.2.2.2.2.1) 32 y9.2.2.2.2.2.2.2.2.2.1) 33 y9.2.2.2.2.2.2.2.2.2.2.1) 34 y9.2.2.2.2.2.2.2.2.2.2.2) 174 y9.2.1) 175 y4.2.1) 176 y4.2.2.1) 177 y4.2.2.2.1) 178 y4.2.2.2.2.1)) (zself_i (zr_n rfl (zr_n rfl (zr_n rfl (zr_n rfl (zr_n rfl (zr_n rfl (zr_n rfl (zr_n rfl (zr_n rfl (zr_n rfl (zr_n rfl (zr_n rfl (zr_n rfl (zr_n rfl (zr_n rfl (zr_n rfl (zr_n rfl (zr_n rfl (zr_n rfl (zr_l e_i16)))))))))))))))))))) (zm_n rfl (zm_n rfl (zm_n rfl (zm_n rfl (zm_n rfl (zm_n rfl (zm_n rfl (zm_n rfl (zm_n rfl (zm_n rfl (zm_n rfl (zm_n rfl (zm_n rfl (zm_n rfl (zm_n rfl rfl)))))))))))))))) ?_
          refine zj_mem (N := (zui (zui (zui (zui (zui (zui (zui (zui (zui (zui (zui (zui (zui (zui (zui (zui (zui (zui (zui (zui (zui (zul M 3 y4.2.2.2.2.2.2) 0 r0v5) 1 y6) 3 y4.2.2.2.2.2.1) 15 r0_4) 16 r0_4_0) 17 r0_4_1) 25 y9.2.2.1) 26 y9.2.2.2.1) 27 y9.2.2.2.2.1) 28 y9.2.2.2.2.2.1) 29 y9.2.2.2.2.2.2.1) 30 y9.2.2.2.2.2.2.2.1) 31 y9.2.2.2.2.2.2.2.2.1) 32 y9.2.2.2.2.2.2.2.2.2.1) 33 y9.2.2.2.2.2.2.2.2.2.2.1) 34 y9.2.2.2.2.2.2.2.2.2.2.2) 174 y9.2.1) 175 y4.2.1) 176 y4.2.2.1) 177 y4.2.2.2.1) 178 y4.2.2.2.2.1)) (zself_i (zr_n rfl (zr_n rfl (zr_n rfl (zr_n rfl (zr_n rfl (zr_n rfl (zr_n rfl (zr_n rfl (zr_n rfl (zr_n rfl (zr_n rfl (zr_n rfl (zr_n rfl (zr_n rfl (zr_n rfl (zr_n rfl (zr_n rfl (zr_n rfl (zr_n rfl (zr_n rfl (zr_l e_i17))))))))))))))))))))) (zm_n rfl (zm_n rfl (zm_n rfl (zm_n rfl (zm_n rfl (zm_n rfl (zm_n rfl (zm_n rfl (zm_n rfl (zm_n rfl (zm_n rfl (zm_n rfl (zm_n rfl (zm_n rfl (zm_n rfl rfl)))))))))))))))) ?_
          refine zj_mem (N := (zui (zui (zui (zui (zui (zui (zui (zui (zui (zui (zui (zui (zui (zui (zui (zui (zui (zui (zui (zui (zui (zui (zul M 3 y4.2.2.2.2.2.2) 0 r0v5) 1 y6) 3 y4.2.2.2.2.2.1) 15 r0_4) 16 r0_4_0) 17 r0_4_1) 18 r0_4_2) 25 y9.2.2.1) 26 y9.2.2.2.1) 27 y9.2.2.2.2.1) 28 y9.2.2.2.2.2.1) 29 y9.2.2.2.2.2.2.1) 30 y9.2.2.2.2.2.2.2.1) 31 y9.2.2.2.2.2.2.2.2.1) 32 y9.2.2.2.2.2.2.2.2.2.1) 33 y9.2.2.2.2.2.2.2.2.2.2.1) 34 y9.2.2.2.2.2.2.2.2.2.2.2) 174 y9.2.1) 175 y4.2.1) 176 y4.2.2.1) 177 y4.2.2.2.1) 178 y4.2.2.2.2.1)) (zself_i (zr_n rfl (zr_n rfl (zr_n rfl (zr_n rfl (zr_n rfl (zr_n rfl (zr_n rfl (zr_n rfl (zr_n rfl (zr_n rfl (zr_n rfl (zr_n rfl (zr_n rfl (zr_n rfl (zr_n rfl (zr_n rfl (zr_n rfl (zr_n rfl (zr_n rfl (zr_n rfl (zr_n rfl (zr_l e_i18)))))))))))))))))))))) (zm_n rfl (zm_n rfl (zm_n rfl (zm_n rfl (zm_n rfl (zm_n rfl (zm_n rfl (zm_n rfl (zm_n rfl (zm_n rfl (zm_n rfl (zm_n rfl (zm_n rfl (zm_n rfl (zm_n rfl rfl)))))))))))))))) ?_
          refine zj_mem (N := (zui (zui (zui (zui (zui (zui (zui (zui (zui (zui (zui (zui (zui (zui (zui (zui (zui (zui (zui (zui (zui (zui (zui (zul M 3 y4.2.2.2.2.2.2) 0 r0v5) 1 y6) 3 y4.2.2.2.2.2.1) 15 r0_4) 16 r0_4_0) 17 r0_4_1) 18 r0_4_2) 19 r0_4_3) 25 y9.2.2.1) 26 y9.2.2.2.1) 27 y9.2.2.2.2.1) 28 y9.2.2.2.2.2.1) 29 y9.2.2.2.2.2.2.1) 30 y9.2.2.2.2.2.2.2.1) 31 y9.2.2.2.2.2.2.2.2.1) 32 y9.2.2.2.2.2.2.2.2.2.1) 33 y9.2.2.2.2.2.2.2.2.2.2.1) 34 y9.2.2.2.2.2.2.2.2.2.2.2) 174 y9.2.1) 175 y4.2.1) 176 y4.2.2.1) 177 y4.2.2.2.1) 178 y4.2.2.2.2.1)) (zself_i (zr_n rfl (zr_n rfl (zr_n rfl (zr_n rfl (zr_n rfl (zr_n rfl (zr_n rfl (zr_n rfl (zr_n rfl (zr_n rfl (zr_n rfl (zr_n rfl (zr_n rfl (zr_n rfl (zr_n rfl (zr_n rfl (zr_n rfl (zr_n rfl (zr_n rfl (zr_n rfl (zr_n rfl (zr_n rfl (zr_l e_i19))))))))))))))))))))))) (zm_n rfl (zm_n rfl (zm_n rfl (zm_n rfl (zm_n rfl (zm_n rfl (zm_n rfl (zm_n rfl (zm_n rfl (zm_n rfl (zm_n rfl (zm_n rfl (zm_n rfl (zm_n rfl (zm_n rfl rfl)))))))))))))))) ?_
          refine zj_mem (N := (zui (zui (zui (zui (zui (zui (zui (zui (zui (zui (zui (zui (zui (zui (zui (zui (zui (zui (zui (zui (zui (zui (zui (zui (zul M 3 y4.2.2.2.2.2.2) 0 r0v5) 1 y6) 3 y4.2.2.2.2.2.1) 15 r0_4) 16 r0_4_0) 17 r0_4_1) 18 r0_4_2) 19 r0_4_3) 20 r0_4_4) 25 y9.2.2.1) 26 y9.2.2.2.1) 27 y9.2.2.2.2.1) 28 y9.2.2.2.2.2.1) 29 y9.2.2.2.2.2.2.1) 30 y9.2.2.2.2.2.2.2.1) 31 y9.2.2.2.2.2.2.2.2.1) 32 y9.2.2.2.2.2.2.2.2.2.1) 33 y9.2.2.2.2.2.2.2.2.2.2.1) 34 y9.2.2.2.2.2.2.2.2.2.2.2) 174 y9.2.1) 175 y4.2.1) 176 y4.2.2.1) 177 y4.2.2.2.1) 178 y4.2.2.2.2.1)) (zself_i (zr_n rfl (zr_n rfl (zr_n rfl (zr_n rfl (zr_n rfl (zr_n rfl (zr_n rfl (zr_n rfl (zr_n rfl (zr_n rfl (zr_n rfl (zr_n rfl (zr_n rfl (zr_n rfl (zr_n rfl (zr_n rfl (zr_n rfl (zr_n rfl (zr_n rfl (zr_n rfl (zr_n rfl (zr_n rfl (zr_n rfl (zr_l e_i20)))))))))))))))))))))))) (zm_n rfl (zm_n rfl (zm_n rfl (zm_n rfl (zm_n rfl (zm_n rfl (zm_n rfl (zm_n rfl (zm_n rfl (zm_n rfl (zm_n rfl (zm_n rfl (zm_n rfl (zm_n rfl (zm_n rfl rfl)))))))))))))))) ?_
          refine zj_mem (N := (zui (zui (zui (zui (zui (zui (zui (zui (zui (zui (zui (zui (zui (zui (zui (zui (zui (zui (zui (zui (zui (zui (zui (zui (zui (zul M 3 y4.2.2.2.2.2.2) 0 r0v5) 1 y6) 3 y4.2.2.2.2.2.1) 15 r0_4) 16 r0_4_0) 17 r0_4_1) 18 r0_4_2) 19 r0_4_3) 20 r0_4_4) 21 r0_4_5) 25 y9.2.2.1) 26 y9.2.2.2.1) 27 y9.2.2.2.2.1) 28 y9.2.2.2.2.2.1) 29 y9.2.2.2.2.2.2.1) 30 y9.2.2.2.2.2.2.2.1) 31 y9.2.2.2.2.2.2.2.2.1) 32 y9.2.2.2.2.2.2.2.2.2.1) 33 y9.2.2.2.2.2.2.2.2.2.2.1) 34 y9.2.2.2.2.2.2.2.2.2.2.2) 174 y9.2.1) 175 y4.2.1) 176 y4.2.2.1) 177 y4.2.2.2.1) 178 y4.2.2.2.2.1)) (zself_i (zr_n rfl (zr_n rfl (zr_n rfl (zr_n rfl (zr_n rfl (zr_n rfl (zr_n rfl (zr_n rfl (zr_n rfl (zr_n rfl (zr_n rfl (zr_n rfl (zr_n rfl (zr_n rfl (zr_n rfl (zr_n rfl (zr_n rfl (zr_n rfl (zr_n rfl (zr_n rfl (zr_n rfl (zr_n rfl (zr_n rfl (zr_n rfl (zr_l e_i21))))))))))))))))))))))))) (zm_n rfl (zm_n rfl (zm_n rfl (zm_n rfl (zm_n rfl (zm_n rfl (zm_n rfl (zm_n rfl (zm_n rfl (zm_n rfl (zm_n rfl (zm_n rfl (zm_n rfl (zm_n rfl (zm_n rfl rfl)))))))))))))))) ?_
          refine zj_mem (N := (zui (zui (zui (zui (zui (zui (zui (zui (zui (zui (zui (zui (zui (zui (zui (zui (zui (zui (zui (zui (zui (zui (zui (zui (zui (zui (zul M 3 y4.2.2.2.2.2.2) 0 r0v5) 1 y6) 3 y4.2.2.2.2.2.1) 15 r0_4) 16 r0_4_0) 17 r0_4_1) 18 r0_4_2) 19 r0_4_3) 20 r0_4_4) 21 r0_4_5) 22 r0_4_6) 25 y9.2.2.1) 26 y9.2.2.2.1) 27 y9.2.2.2.2.1) 28 y9.2.2.2.2.2.1) 29 y9.2.2.2.2.2.2.1) 30 y9.2.2.2.2.2.2.2.1) 31 y9.2.2.2.2.2.2.2.2.1) 32 y9.2.2.2.2.2.2.2.2.2.1) 33 y9.2.2.2.2.2.2.2.2.2.2.1) 34 y9.2.2.2.2.2.2.2.2.2.2.2) 174 y9.2.1) 175 y4.2.1) 176 y4.2.2.1) 177 y4.2.2.2.1) 178 y4.2.2.2.2.1)) (zself_i (zr_n rfl (zr_n rfl (zr_n rfl (zr_n rfl (zr_n rfl (zr_n rfl (zr_n rfl (zr_n rfl (zr_n rfl (zr_n rfl (zr_n rfl (zr_n rfl (zr_n rfl (zr_n rfl (zr_n rfl (zr_n rfl (zr_n rfl (zr_n rfl (zr_n rfl (zr_n rfl (zr_n rfl (zr_n rfl (zr_n rfl (zr_n rfl (zr_n rfl (zr_l e_i22)))))))))))))))))))))))))) (zm_n rfl (zm_n rfl (zm_n rfl (zm_n rfl (zm_n rfl (zm_n rfl (zm_n rfl (zm_n rfl (zm_n rfl (zm_n rfl (zm_n rfl (zm_n rfl (zm_n rfl (zm_n rfl (zm_n rfl rfl)))))))))))))))) ?_
          refine zj_mem (N := (zui (zui (zui (zui (zui (zui (zui (zui (zui (zui (zui (zui (zui (zui (zui (zui (zui (zui (zui (zui (zui (zui (zui (zui (zui (zui (zui (zul M 3 y4.2.2.2.2.2.2) 0 r0v5) 1 y6) 3 y4.2.2.2.2.2.1) 15 r0_4) 16 r0_4_0) 17 r0_4_1) 18 r0_4_2) 19 r0_4_3) 20 r0_4_4) 21 r0_4_5) 22 r0_4_6) 23 r0_4_7) 25 y9.2.2.1) 26 y9.2.2.2.1) 27 y9.2.2.2.2.1) 28 y9.2.2.2.2.2.1) 29 y9.2.2.2.2.2.2.1) 30 y9.2.2.2.2.2.2.2.1) 31 y9.2.2.2.2.2.2.2.2.1) 32 y9.2.2.2.2.2.2.2.2.2.1) 33 y9.2.2.2.2.2.2.2.2.2.2.1) 34 y9.2.2.2.2.2.2.2.2.2.2.2) 174 y9.2.1) 175 y4.2.1) 176 y4.2.2.1) 177 y4.2.2.2.1) 178 y4.2.2.2.2.1)) (zself_i (zr_n rfl (zr_n rfl (zr_n rfl (zr_n rfl (zr_n rfl (zr_n rfl (zr_n rfl (zr_n rfl (zr_n rfl (zr_n rfl (zr_n rfl (zr_n rfl (zr_n rfl (zr_n rfl (zr_n rfl (zr_n rfl (zr_n rfl (zr_n rfl (zr_n rfl (zr_n rfl (zr_n rfl (zr_n rfl (zr_n rfl (zr_n rfl (zr_n rfl (zr_n rfl (zr_l e_i23))))))))))))))))))))))))))) (zm_n rfl (zm_n rfl (zm_n rfl (zm_n rfl (zm_n rfl (zm_n rfl (zm_n rfl (zm_n rfl (zm_n rfl (zm_n rfl (zm_n rfl (zm_n rfl (zm_n rfl (zm_n rfl (zm_n rfl rfl)))))))))))))))) ?_
          refine zj_mem (N := (zui (zui (zui (zui (zui (zui (zui (zui (zui (zui (zui (zui (zui (zui (zui (zui (zui (zui (zui (zui (zui (zui (zui (zui (zui (zui (zui (zui (zul M 3 y4.2.2.2.2.2.2) 0 r0v5) 1 y6) 3 y4.2.2.2.2.2.1) 15 r0_4) 16 r0_4_0) 17 r0_4_1) 18 r0_4_2) 19 r0_4_3) 20 r0_4_4) 21 r0_4_5) 22 r0_4_6) 23 r0_4_7) 25 y9.2.2.1) 26 y9.2.2.2.1) 27 y9.2.2.2.2.1) 28 y9.2.2.2.2.2.1) 29 y9.2.2.2.2.2.2.1) 30 y9.2.2.2.2.2.2.2.1) 31 y9.2.2.2.2.2.2.2.2.1) 32 y9.2.2.2.2.2.2.2.2.2.1) 33 y9.2.2.2.2.2.2.2.2.2.2.1) 34 y9.2.2.2.2.2.2.2.2.2.2.2) 47 r0_8) 174 y9.2.1) 175 y4.2.1) 176 y4.2.2.1) 177 y4.2.2.2.1) 178 y4.2.2.2.2.1)) (zself_i (zr_n rfl (zr_n rfl (zr_n rfl (zr_n rfl (zr_n rfl (zr_n rfl (zr_n rfl (zr_n rfl (zr_n rfl (zr_n rfl (zr_n rfl (zr_n rfl (zr_n rfl (zr_n rfl (zr_n rfl (zr_n rfl (zr_n rfl (zr_n rfl (zr_n rfl (zr_n rfl (zr_n rfl (zr_n rfl (zr_n rfl (zr_n rfl (zr_n rfl (zr_n rfl (zr_n rfl (zr_l e_i47)))))))))))))))))))))))))))) (zm_n rfl (zm_n rfl (zm_n rfl (zm_n rfl (zm_n rfl rfl)))))) ?_
          refine zj_mem (N := (zub (zui (zui (zui (zui (zui (zui (zui (zui (zui (zui (zui (zui (zui (zui (zui (zui (zui (zui (zui (zui (zui (zui (zui (zui (zui (zui (zui (zui (zul M 3 y4.2.2.2.2.2.2) 0 r0v5) 1 y6) 3 y4.2.2.2.2.2.1) 15 r0_4) 16 r0_4_0) 17 r0_4_1) 18 r0_4_2) 19 r0_4_3) 20 r0_4_4) 21 r0_4_5) 22 r0_4_6) 23 r0_4_7) 25 y9.2.2.1) 26 y9.2.2.2.1) 27 y9.2.2.2.2.1) 28 y9.2.2.2.2.2.1) 29 y9.2.2.2.2.2.2.1) 30 y9.2.2.2.2.2.2.2.1) 31 y9.2.2.2.2.2.2.2.2.1) 32 y9.2.2.2.2.2.2.2.2.2.1) 33 y9.2.2.2.2.2.2.2.2.2.2.1) 34 y9.2.2.2.2.2.2.2.2.2.2.2) 47 r0_8) 174 y9.2.1) 175 y4.2.1) 176 y4.2.2.1) 177 y4.2.2.2.1) 178 y4.2.2.2.2.1) 49 129 g49)) (zself_h (zeq_i rfl (zeq_i rfl (zeq_i rfl (zeq_i rfl (zeq_i rfl (zeq_i rfl (zeq_i rfl (zeq_i rfl (zeq_i rfl (zeq_i rfl (zeq_i rfl (zeq_i rfl (zeq_i rfl (zeq_i rfl (zeq_i rfl (zeq_i rfl (zeq_i rfl (zeq_i rfl (zeq_i rfl (zeq_i rfl (zeq_i rfl (zeq_i rfl (zeq_i rfl (zeq_i rfl (zeq_i rfl (zeq_i rfl (zeq_i rfl (zeq_i rfl (zeq_l rfl e_h49))))))))))))))))))))))))))))) rfl) ?_
          exact zj_iret dX11_book_118 rfl hq
        · have hy := zt_t hy c11
          refine zj_aload_n (pc' := 107) 1 dX11_book_106 rfl rfl rfl ?_
          refine zj_aload_n (pc' := 108) 1 dX11_book_107 rfl rfl rfl ?_
          refine zj_getR (pc' := 111) (j := 174) dX11_book_108 rfl flX11_71 sh0 rfl ?_
          refine zj_V1 (pc' := 114) (z := YX0_goodLines) (As := []) (N := (zui (zui (zui (zui (zui (zui (zui (zui (zui (zui (zui (zui (zui (zui (zui (zui (zui (zui (zul M 3 y4.2.2.2.2.2.2) 0 r0v5) 1 y6) 3 y4.2.2.2.2.2.1) 25 y9.2.2.1) 26 y9.2.2.2.1) 27 y9.2.2.2.2.1) 28 y9.2.2.2.2.2.1) 29 y9.2.2.2.2.2.2.1) 30 y9.2.2.2.2.2.2.2.1) 31 y9.2.2.2.2.2.2.2.2.1) 32 y9.2.2.2.2.2.2.2.2.2.1) 33 y9.2.2.2.2.2.2.2.2.2.2.1) 34 y9.2.2.2.2.2.2.2.2.2.2.2) 174 y9.2.1) 175 y4.2.1) 176 y4.2.2.1) 177 y4.2.2.2.1) 178 y4.2.2.2.2.1)) dX11_book_111 rfl mlX11_356 lkX0_goodLines sh174 ⟨_, _, rfl⟩ rfl rfl (Nat.le_of_ble_eq_true rfl) (Nat.le_of_ble_eq_true rfl) (LX0_goodLines_174 Γ _ y9.2.1 (zr_n rfl (zr_n rfl (zr_n rfl (zr_n rfl zr_s)))) rfl) rfl ?_
          obtain ⟨y12, hy12, hy⟩ := zt_b hy
          refine zj_V0 (pc' := 117) (z := YX11_settle) (As := [.int (fBk_goodLines y9.2.1)]) (N := (zub (zui (zui (zui (zui (zui (zui (zui (zui (zui (zui (zui (zui (zui (zui (zui (zui (zui (zui (zui (zui (zui (zui (zui (zui (zui (zui (zui (zui (zul M 3 y4.2.2.2.2.2.2) 0 r0v5) 1 y6) 3 y4.2.2.2.2.2.1) 15 y12.1) 16 y12.2.1) 17 y12.2.2.1) 18 y12.2.2.2.1) 19 y12.2.2.2.2.1) 20 y12.2.2.2.2.2.1) 21 y12.2.2.2.2.2.2.1) 22 y12.2.2.2.2.2.2.2.1) 23 y12.2.2.2.2.2.2.2.2.1) 25 y9.2.2.1) 26 y9.2.2.2.1) 27 y9.2.2.2.2.1) 28 y9.2.2.2.2.2.1) 29 y9.2.2.2.2.2.2.1) 30 y9.2.2.2.2.2.2.2.1) 31 y9.2.2.2.2.2.2.2.2.1) 32 y9.2.2.2.2.2.2.2.2.2.1) 33 y9.2.2.2.2.2.2.2.2.2.2.1) 34 y9.2.2.2.2.2.2.2.2.2.2.2) 47 y12.2.2.2.2.2.2.2.2.2.1) 174 y9.2.1) 175 y4.2.1) 176 y4.2.2.1) 177 y4.2.2.2.1) 178 y4.2.2.2.2.1) 49 129 y12.2.2.2.2.2.2.2.2.2.2)) dX11_book_114 rfl mlX11_262 lkX11_settle sh0 ⟨_, _, rfl⟩ rfl rfl (Nat.le_of_ble_eq_true rfl) (Nat.le_of_ble_eq_true rfl) (LX11_settle_0 Γ _ r0_4 r0_4_0 r0_4_1 r0_4_2 r0_4_3 r0_4_4 r0_4_5 r0_4_6 r0_4_7 y9.2.2.1 y9.2.2.2.1 y9.2.2.2.2.1 y9.2.2.2.2.2.1 y9.2.2.2.2.2.2.1 y9.2.2.2.2.2.2.2.1 y9.2.2.2.2.2.2.2.2.1 y9.2.2.2.2.2.2.2.2.2.1 y9.2.2.2.2.2.2.2.2.2.2.1 r0_8 g49 (zr_n rfl (zr_n rfl (zr_n rfl (zr_n rfl (zr_n rfl (zr_n rfl (zr_n rfl (zr_n rfl (zr_n rfl (zr_n rfl (zr_n rfl (zr_n rfl (zr_n rfl (zr_n rfl (zr_n rfl (zr_n rfl (zr_n rfl (zr_n rfl (zr_l e_i15))))))))))))))))))) (zr_n rfl (zr_n rfl (zr_n rfl (zr_n rfl (zr_n rfl (zr_n rfl (zr_n rfl (zr_n rfl (zr_n rfl (zr_n rfl (zr_n rfl (zr_n rfl (zr_n rfl (zr_n rfl (zr_n rfl (zr_n rfl (zr_n rfl (zr_n rfl (zr_l e_i16))))))))))))))))))) (zr_n rfl (zr_n rfl (zr_n rfl (zr_n rfl (zr_n rfl (zr_n rfl (zr_n rfl (zr_n rfl (zr_n rfl (zr_n rfl (zr_n rfl (zr_n rfl (zr_n rfl (zr_n rfl (zr_n rfl (zr_n rfl (zr_n rfl (zr_n rfl (zr_l e_i17))))))))))))))))))) (zr_n rfl (zr_n rfl (zr_n rfl (zr_n rfl (zr_n rfl (zr_n rfl (zr_n rfl (zr_n rfl (zr_n rfl (zr_n rfl (zr_n rfl (zr_n rfl (zr_n rfl (zr_n rfl (zr_n rfl (zr_n rfl (zr_n rfl (zr_n rfl (zr_l e_i18))))))))))))))))))) (zr_n rfl (zr_n rfl (zr_n rfl (zr_n rfl (zr_n rfl (zr_n rfl (zr_n rfl (zr_n rfl (zr_n rfl (zr_n rfl (zr_n rfl (zr_n rfl (zr_n rfl (zr_n rfl (zr_n rfl (zr_n rfl (zr_n rfl (zr_n rfl (zr_l e_i19))))))))))))))))))) (zr_n rfl (zr_n rfl (zr_n rfl (zr_n rfl (zr_n rfl (zr_n rfl (zr_n rfl (zr_n rfl (zr_n rfl (zr_n rfl (zr_n rfl (zr_n rfl (zr_n rfl (zr_n rfl (zr_n rfl (zr_n rfl (zr_n rfl (zr_n rfl (zr_l e_i20))))))))))))))))))) (zr_n rfl (zr_n rfl (zr_n rfl (zr_n rfl (zr_n rfl (zr_n rfl (zr_n rfl (zr_n rfl (zr_n rfl (zr_n rfl (zr_n rfl (zr_n rfl (zr_n rfl (zr_n rfl (zr_n rfl (zr_n rfl (zr_n rfl (zr_n rfl (zr_l e_i21))))))))))))))))))) (zr_n rfl (zr_n rfl (zr_n rfl (zr_n rfl (zr_n rfl (zr_n rfl (zr_n rfl (zr_n rfl (zr_n rfl (zr_n rfl (zr_n rfl (zr_n rfl (zr_n rfl (zr_n rfl (zr_n rfl (zr_n rfl (zr_n rfl (zr_n rfl (zr_l e_i22))))))))))))))))))) (zr_n rfl (zr_n rfl (zr_n rfl (zr_n rfl (zr_n rfl (zr_n rfl (zr_n rfl (zr_n rfl (zr_n rfl (zr_n rfl (zr_n rfl (zr_n rfl (zr_n rfl (zr_n rfl (zr_n rfl (zr_n rfl (zr_n rfl (zr_n rfl (zr_l e_i23))))))))))))))))))) (zr_n rfl (zr_n rfl (zr_n rfl (zr_n rfl (zr_n rfl (zr_n rfl (zr_n rfl (zr_n rfl (zr_n rfl (zr_n rfl (zr_n rfl (zr_n rfl (zr_n rfl (zr_n rfl zr_s)))))))))))))) (zr_n rfl (zr_n rfl (zr_n rfl (zr_n rfl (zr_n rfl (zr_n rfl (zr_n rfl (zr_n rfl (zr_n rfl (zr_n rfl (zr_n rfl (zr_n rfl (zr_n rfl zr_s))))))))))))) (zr_n rfl (zr_n rfl (zr_n rfl (zr_n rfl (zr_n rfl (zr_n rfl (zr_n rfl (zr_n rfl (zr_n rfl (zr_n rfl (zr_n rfl (zr_n rfl zr_s)))))))))))) (zr_n rfl (zr_n rfl (zr_n rfl (zr_n rfl (zr_n rfl (zr_n rfl (zr_n rfl (zr_n rfl (zr_n rfl (zr_n rfl (zr_n rfl zr_s))))))))))) (zr_n rfl (zr_n rfl (zr_n rfl (zr_n rfl (zr_n rfl (zr_n rfl (zr_n rfl (zr_n rfl (zr_n rfl (zr_n rfl zr_s)))))))))) (zr_n rfl (zr_n rfl (zr_n rfl (zr_n rfl (zr_n rfl (zr_n rfl (zr_n rfl (zr_n rfl (zr_n rfl zr_s))))))))) (zr_n rfl (zr_n rfl (zr_n rfl (zr_n rfl (zr_n rfl (zr_n rfl (zr_n rfl (zr_n rfl zr_s)))))))) (zr_n rfl (zr_n rfl (zr_n rfl (zr_n rfl (zr_n rfl (zr_n rfl (zr_n rfl zr_s))))))) (zr_n rfl (zr_n rfl (zr_n rfl (zr_n rfl (zr_n rfl (zr_n rfl zr_s)))))) (zr_n rfl (zr_n rfl (zr_n rfl (zr_n rfl (zr_n rfl (zr_n rfl (zr_n rfl (zr_n rfl (zr_n rfl (zr_n rfl (zr_n rfl (zr_n rfl (zr_n rfl (zr_n rfl (zr_n rfl (zr_n rfl (zr_n rfl (zr_n rfl (zr_l e_i47))))))))))))))))))) (zeq_i rfl (zeq_i rfl (zeq_i rfl (zeq_i rfl (zeq_i rfl (zeq_i rfl (zeq_i rfl (zeq_i rfl (zeq_i rfl (zeq_i rfl (zeq_i rfl (zeq_i rfl (zeq_i rfl (zeq_i rfl (zeq_i rfl (zeq_i rfl (zeq_i rfl (zeq_i rfl (zeq_l rfl e_h49))))))))))))))))))) (fBk_goodLines y9.2.1) hy12) ((zch_h (zch_i (zch_i (zch_i (zch_i (zch_i (zch_i (zch_i (zch_i (zch_i (zm_n rfl (zm_n rfl (zm_n rfl (zm_n rfl (zm_n rfl (zm_n rfl (zm_n rfl (zm_n rfl (zm_n rfl (zm_n rfl (zm_n rfl (zm_n rfl (zm_n rfl (zm_n rfl (zm_n rfl rfl))))))))))))))) (zm_n rfl (zm_n rfl (zm_n rfl (zm_n rfl (zm_n rfl (zm_n rfl (zm_n rfl (zm_n rfl (zm_n rfl (zm_n rfl (zm_n rfl (zm_n rfl (zm_n rfl (zm_n rfl (zm_n rfl rfl)))))))))))))))) (zm_n rfl (zm_n rfl (zm_n rfl (zm_n rfl (zm_n rfl (zm_n rfl (zm_n rfl (zm_n rfl (zm_n rfl (zm_n rfl (zm_n rfl (zm_n rfl (zm_n rfl (zm_n rfl (zm_n rfl rfl)))))))))))))))) (zm_n rfl (zm_n rfl (zm_n rfl (zm_n rfl (zm_n rfl (zm_n rfl (zm_n rfl (zm_n rfl (zm_n rfl (zm_n rfl (zm_n rfl (zm_n rfl (zm_n rfl (zm_n rfl (zm_n rfl rfl)))))))))))))))) (zm_n rfl (zm_n rfl (zm_n rfl (zm_n rfl (zm_n rfl (zm_n rfl (zm_n rfl (zm_n rfl (zm_n rfl (zm_n rfl (zm_n rfl (zm_n rfl (zm_n rfl (zm_n rfl (zm_n rfl rfl)))))))))))))))) (zm_n rfl (zm_n rfl (zm_n rfl (zm_n rfl (zm_n rfl (zm_n rfl (zm_n rfl (zm_n rfl (zm_n rfl (zm_n rfl (zm_n rfl (zm_n rfl (zm_n rfl (zm_n rfl (zm_n rfl rfl)))))))))))))))) (zm_n rfl (zm_n rfl (zm_n rfl (zm_n rfl (zm_n rfl (zm_n rfl (zm_n rfl (zm_n rfl (zm_n rfl (zm_n rfl (zm_n rfl (zm_n rfl (zm_n rfl (zm_n rfl (zm_n rfl rfl)))))))))))))))) (zm_n rfl (zm_n rfl (zm_n rfl (zm_n rfl (zm_n rfl (zm_n rfl (zm_n rfl (zm_n rfl (zm_n rfl (zm_n rfl (zm_n rfl (zm_n rfl (zm_n rfl (zm_n rfl (zm_n rfl rfl)))))))))))))))) (zm_n rfl (zm_n rfl (zm_n rfl (zm_n rfl (zm_n rfl (zm_n rfl (zm_n rfl (zm_n rfl (zm_n rfl (zm_n rfl (zm_n rfl (zm_n rfl (zm_n rfl (zm_n rfl (zm_n rfl rfl)))))))))))))))) (zm_n rfl (zm_n rfl (zm_n rfl (zm_n rfl (zm_n rfl rfl)))))) rfl)).symm ?_
          refine zj_iload_n (pc' := 118) 0 dX11_book_117 rfl rfl rfl ?_
          have e9 := Option.some.inj hy
          subst e9
          exact zj_iret dX11_book_118 rfl hq
      · have hy := zt_f hy c7
        refine zj_bipush (pc' := 65) dX11_book_63 rfl kbipush_m2 ?_
        refine zj_aload_n (pc' := 66) 0 dX11_book_65 rfl rfl rfl ?_
        refine zj_getR (pc' := 69) (j := 3) dX11_book_66 rfl flX11_21 sh0 rfl ?_
        refine zj_V1 (pc' := 72) (z := YX8_place) (As := []) (N := (zui (zui (zui (zui (zui (zui (zui (zui (zul M 3 y4.2.2.2.2.2.2) 0 r0v5) 1 y6) 3 y4.2.2.2.2.2.1) 174 y4.1) 175 y4.2.1) 176 y4.2.2.1) 177 y4.2.2.2.1) 178 y4.2.2.2.2.1)) dX11_book_69 rfl mlX11_144 lkX8_place sh3 ⟨_, _, rfl⟩ rfl rfl (Nat.le_of_ble_eq_true rfl) (Nat.le_of_ble_eq_true rfl) (LX8_place_3 Γ _ y4.2.2.2.2.2.1 (zr_n rfl (zr_n rfl (zr_n rfl (zr_n rfl (zr_n rfl zr_s))))) rfl) rfl ?_
        refine zj_isub (pc' := 73) dX11_book_72 rfl ?_
        have e9 := Option.some.inj hy
        subst e9
        refine zj_mem (N := (zui (zui (zui (zui (zui (zui (zui (zui (zui (zul M 3 y4.2.2.2.2.2.2) 0 r0v5) 1 y6) 3 y4.2.2.2.2.2.1) 15 r0_4) 174 y4.1) 175 y4.2.1) 176 y4.2.2.1) 177 y4.2.2.2.1) 178 y4.2.2.2.2.1)) (zself_i (zr_n rfl (zr_n rfl (zr_n rfl (zr_n rfl (zr_n rfl (zr_n rfl (zr_n rfl (zr_n rfl (zr_l e_i15))))))))) (zm_n rfl (zm_n rfl (zm_n rfl (zm_n rfl (zm_n rfl rfl)))))) ?_
        refine zj_mem (N := (zui (zui (zui (zui (zui (zui (zui (zui (zui (zui (zul M 3 y4.2.2.2.2.2.2) 0 r0v5) 1 y6) 3 y4.2.2.2.2.2.1) 15 r0_4) 16 r0_4_0) 174 y4.1) 175 y4.2.1) 176 y4.2.2.1) 177 y4.2.2.2.1) 178 y4.2.2.2.2.1)) (zself_i (zr_n rfl (zr_n rfl (zr_n rfl (zr_n rfl (zr_n rfl (zr_n rfl (zr_n rfl (zr_n rfl (zr_n rfl (zr_l e_i16)))))))))) (zm_n rfl (zm_n rfl (zm_n rfl (zm_n rfl (zm_n rfl rfl)))))) ?_
        refine zj_mem (N := (zui (zui (zui (zui (zui (zui (zui (zui (zui (zui (zui (zul M 3 y4.2.2.2.2.2.2) 0 r0v5) 1 y6) 3 y4.2.2.2.2.2.1) 15 r0_4) 16 r0_4_0) 17 r0_4_1) 174 y4.1) 175 y4.2.1) 176 y4.2.2.1) 177 y4.2.2.2.1) 178 y4.2.2.2.2.1)) (zself_i (zr_n rfl (zr_n rfl (zr_n rfl (zr_n rfl (zr_n rfl (zr_n rfl (zr_n rfl (zr_n rfl (zr_n rfl (zr_n rfl (zr_l e_i17))))))))))) (zm_n rfl (zm_n rfl (zm_n rfl (zm_n rfl (zm_n rfl rfl)))))) ?_
        refine zj_mem (N := (zui (zui (zui (zui (zui (zui (zui (zui (zui (zui (zui (zui (zul M 3 y4.2.2.2.2.2.2) 0 r0v5) 1 y6) 3 y4.2.2.2.2.2.1) 15 r0_4) 16 r0_4_0) 17 r0_4_1) 18 r0_4_2) 174 y4.1) 175 y4.2.1) 176 y4.2.2.1) 177 y4.2.2.2.1) 178 y4.2.2.2.2.1)) (zself_i (zr_n rfl (zr_n rfl (zr_n rfl (zr_n rfl (zr_n rfl (zr_n rfl (zr_n rfl (zr_n rfl (zr_n rfl (zr_n rfl (zr_n rfl (zr_l e_i18)))))))))))) (zm_n rfl (zm_n rfl (zm_n rfl (zm_n rfl (zm_n rfl rfl)))))) ?_
        refine zj_mem (N := (zui (zui (zui (zui (zui (zui (zui (zui (zui (zui (zui (zui (zui (zul M 3 y4.2.2.2.2.2.2) 0 r0v5) 1 y6) 3 y4.2.2.2.2.2.1) 15 r0_4) 16 r0_4_0) 17 r0_4_1) 18 r0_4_2) 19 r0_4_3) 174 y4.1) 175 y4.2.1) 176 y4.2.2.1) 177 y4.2.2.2.1) 178 y4.2.2.2.2.1)) (zself_i (zr_n rfl (zr_n rfl (zr_n rfl (zr_n rfl (zr_n rfl (zr_n rfl (zr_n rfl (zr_n rfl (zr_n rfl (zr_n rfl (zr_n rfl (zr_n rfl (zr_l e_i19))))))))))))) (zm_n rfl (zm_n rfl (zm_n rfl (zm_n rfl (zm_n rfl rfl)))))) ?_
        refine zj_mem (N := (zui (zui (zui (zui (zui (zui (zui (zui (zui (zui (zui (zui (zui (zui (zul M 3 y4.2.2.2.2.2.2) 0 r0v5) 1 y6) 3 y4.2.2.2.2.2.1) 15 r0_4) 16 r0_4_0) 17 r0_4_1) 18 r0_4_2) 19 r0_4_3) 20 r0_4_4) 174 y4.1) 175 y4.2.1) 176 y4.2.2.1) 177 y4.2.2.2.1) 178 y4.2.2.2.2.1)) (zself_i (zr_n rfl (zr_n rfl (zr_n rfl (zr_n rfl (zr_n rfl (zr_n rfl (zr_n rfl (zr_n rfl (zr_n rfl (zr_n rfl (zr_n rfl (zr_n rfl (zr_n rfl (zr_l e_i20)))))))))))))) (zm_n rfl (zm_n rfl (zm_n rfl (zm_n rfl (zm_n rfl rfl)))))) ?_
        refine zj_mem (N := (zui (zui (zui (zui (zui (zui (zui (zui (zui (zui (zui (zui (zui (zui (zui (zul M 3 y4.2.2.2.2.2.2) 0 r0v5) 1 y6) 3 y4.2.2.2.2.2.1) 15 r0_4) 16 r0_4_0) 17 r0_4_1) 18 r0_4_2) 19 r0_4_3) 20 r0_4_4) 21 r0_4_5) 174 y4.1) 175 y4.2.1) 176 y4.2.2.1) 177 y4.2.2.2.1) 178 y4.2.2.2.2.1)) (zself_i (zr_n rfl (zr_n rfl (zr_n rfl (zr_n rfl (zr_n rfl (zr_n rfl (zr_n rfl (zr_n rfl (zr_n rfl (zr_n rfl (zr_n rfl (zr_n rfl (zr_n rfl (zr_n rfl (zr_l e_i21))))))))))))))) (zm_n rfl (zm_n rfl (zm_n rfl (zm_n rfl (zm_n rfl rfl)))))) ?_
        refine zj_mem (N := (zui (zui (zui (zui (zui (zui (zui (zui (zui (zui (zui (zui (zui (zui (zui (zui (zul M 3 y4.2.2.2.2.2.2) 0 r0v5) 1 y6) 3 y4.2.2.2.2.2.1) 15 r0_4) 16 r0_4_0) 17 r0_4_1) 18 r0_4_2) 19 r0_4_3) 20 r0_4_4) 21 r0_4_5) 22 r0_4_6) 174 y4.1) 175 y4.2.1) 176 y4.2.2.1) 177 y4.2.2.2.1) 178 y4.2.2.2.2.1)) (zself_i (zr_n rfl (zr_n rfl (zr_n rfl (zr_n rfl (zr_n rfl (zr_n rfl (zr_n rfl (zr_n rfl (zr_n rfl (zr_n rfl (zr_n rfl (zr_n rfl (zr_n rfl (zr_n rfl (zr_n rfl (zr_l e_i22)))))))))))))))) (zm_n rfl (zm_n rfl (zm_n rfl (zm_n rfl (zm_n rfl rfl)))))) ?_
        refine zj_mem (N := (zui (zui (zui (zui (zui (zui (zui (zui (zui (zui (zui (zui (zui (zui (zui (zui (zui (zul M 3 y4.2.2.2.2.2.2) 0 r0v5) 1 y6) 3 y4.2.2.2.2.2.1) 15 r0_4) 16 r0_4_0) 17 r0_4_1) 18 r0_4_2) 19 r0_4_3) 20 r0_4_4) 21 r0_4_5) 22 r0_4_6) 23 r0_4_7) 174 y4.1) 175 y4.2.1) 176 y4.2.2.1) 177 y4.2.2.2.1) 178 y4.2.2.2.2.1)) (zself_i (zr_n rfl (zr_n rfl (zr_n rfl (zr_n rfl (zr_n rfl (zr_n rfl (zr_n rfl (zr_n rfl (zr_n rfl (zr_n rfl (zr_n rfl (zr_n rfl (zr_n rfl (zr_n rfl (zr_n rfl (zr_n rfl (zr_l e_i23))))))))))))))))) (zm_n rfl (zm_n rfl (zm_n rfl (zm_n rfl (zm_n rfl rfl)))))) ?_
        refine zj_mem (N := (zui (zui (zui (zui (zui (zui (zui (zui (zui (zui (zui (zui (zui (zui (zui (zui (zui (zui (zul M 3 y4.2.2.2.2.2.2) 0 r0v5) 1 y6) 3 y4.2.2.2.2.2.1) 15 r0_4) 16 r0_4_0) 17 r0_4_1) 18 r0_4_2) 19 r0_4_3) 20 r0_4_4) 21 r0_4_5) 22 r0_4_6) 23 r0_4_7) 25 r0_5) 174 y4.1) 175 y4.2.1) 176 y4.2.2.1) 177 y4.2.2.2.1) 178 y4.2.2.2.2.1)) (zself_i (zr_n rfl (zr_n rfl (zr_n rfl (zr_n rfl (zr_n rfl (zr_n rfl (zr_n rfl (zr_n rfl (zr_n rfl (zr_n rfl (zr_n rfl (zr_n rfl (zr_n rfl (zr_n rfl (zr_n rfl (zr_n rfl (zr_n rfl (zr_l e_i25)))))))))))))))))) (zm_n rfl (zm_n rfl (zm_n rfl (zm_n rfl (zm_n rfl rfl)))))) ?_
        refine zj_mem (N := (zui (zui (zui (zui (zui (zui (zui (zui (zui (zui (zui (zui (zui (zui (zui (zui (zui (zui (zui (zul M 3 y4.2.2.2.2.2.2) 0 r0v5) 1 y6) 3 y4.2.2.2.2.2.1) 15 r0_4) 16 r0_4_0) 17 r0_4_1) 18 r0_4_2) 19 r0_4_3) 20 r0_4_4) 21 r0_4_5) 22 r0_4_6) 23 r0_4_7) 25 r0_5) 26 r0_5_0) 174 y4.1) 175 y4.2.1) 176 y4.2.2.1) 177 y4.2.2.2.1) 178 y4.2.2.2.2.1)) (zself_i (zr_n rfl (zr_n rfl (zr_n rfl (zr_n rfl (zr_n rfl (zr_n rfl (zr_n rfl (zr_n rfl (zr_n rfl (zr_n rfl (zr_n rfl (zr_n rfl (zr_n rfl (zr_n rfl (zr_n rfl (zr_n rfl (zr_n rfl (zr_n rfl (zr_l e_i26))))))))))))))))))) (zm_n rfl (zm_n rfl (zm_n rfl (zm_n rfl (zm_n rfl rfl)))))) ?_
        refine zj_mem (N := (zui (zui (zui (zui (zui (zui (zui (zui (zui (zui (zui (zui (zui (zui (zui (zui (zui (zui (zui (zui (zul M 3 y4.2.2.2.2.2.2) 0 r0v5) 1 y6) 3 y4.2.2.2.2.2.1) 15 r0_4) 16 r0_4_0) 17 r0_4_1) 18 r0_4_2) 19 r0_4_3) 20 r0_4_4) 21 r0_4_5) 22 r0_4_6) 23 r0_4_7) 25 r0_5) 26 r0_5_0) 27 r0_5_1) 174 y4.1) 175 y4.2.1) 176 y4.2.2.1) 177 y4.2.2.2.1) 178 y4.2.2.2.2.1)) (zself_i (zr_n rfl (zr_n rfl (zr_n rfl (zr_n rfl (zr_n rfl (zr_n rfl (zr_n rfl (zr_n rfl (zr_n rfl (zr_n rfl (zr_n rfl (zr_n rfl (zr_n rfl (zr_n rfl (zr_n rfl (zr_n rfl (zr_n rfl (zr_n rfl (zr_n rfl (zr_l e_i27)))))))))))))))))))) (zm_n rfl (zm_n rfl (zm_n rfl (zm_n rfl (zm_n rfl rfl)))))) ?_
        refine zj_mem (N := (zui (zui (zui (zui (zui (zui (zui (zui (zui (zui (zui (zui (zui (zui (zui (zui (zui (zui (zui (zui (zui (zul M 3 y4.2.2.2.2.2.2) 0 r0v5) 1 y6) 3 y4.2.2.2.2.2.1) 15 r0_4) 16 r0_4_0) 17 r0_4_1) 18 r0_4_2) 19 r0_4_3) 20 r0_4_4) 21 r0_4_5) 22 r0_4_6) 23 r0_4_7) 25 r0_5) 26 r0_5_0) 27 r0_5_1) 28 r0_5_2) 174 y4.1) 175 y4.2.1) 176 y4.2.2.1) 177 y4.2.2.2.1) 178 y4.2.2.2.2.1)) (zself_i (zr_n rfl (zr_n rfl (zr_n rfl (zr_n rfl (zr_n rfl (zr_n rfl (zr_n rfl (zr_n rfl (zr_n rfl (zr_n rfl (zr_n rfl (zr_n rfl (zr_n rfl (zr_n rfl (zr_n rfl (zr_n rfl (zr_n rfl (zr_n rfl (zr_n rfl (zr_n rfl (zr_l e_i28))))))))))))))))))))) (zm_n rfl (zm_n rfl (zm_n rfl (zm_n rfl (zm_n rfl rfl)))))) ?_
        refine zj_mem (N := (zui (zui (zui (zui (zui (zui (zui (zui (zui (zui (zui (zui (zui (zui (zui (zui (zui (zui (zui (zui (zui (zui (zul M 3 y4.2.2.2.2.2.2) 0 r0v5) 1 y6) 3 y4.2.2.2.2.2.1) 15 r0_4) 16 r0_4_0) 17 r0_4_1) 18 r0_4_2) 19 r0_4_3) 20 r0_4_4) 21 r0_4_5) 22 r0_4_6) 23 r0_4_7) 25 r0_5) 26 r0_5_0) 27 r0_5_1) 28 r0_5_2) 29 r0_5_3) 174 y4.1) 175 y4.2.1) 176 y4.2.2.1) 177 y4.2.2.2.1) 178 y4.2.2.2.2.1)) (zself_i (zr_n rfl (zr_n rfl (zr_n rfl (zr_n rfl (zr_n rfl (zr_n rfl (zr_n rfl (zr_n rfl (zr_n rfl (zr_n rfl (zr_n rfl (zr_n rfl (zr_n rfl (zr_n rfl (zr_n rfl (zr_n rfl (zr_n rfl (zr_n rfl (zr_n rfl (zr_n rfl (zr_n rfl (zr_l e_i29)))))))))))))))))))))) (zm_n rfl (zm_n rfl (zm_n rfl (zm_n rfl (zm_n rfl rfl)))))) ?_
        refine zj_mem (N := (zui (zui (zui (zui (zui (zui (zui (zui (zui (zui (zui (zui (zui (zui (zui (zui (zui (zui (zui (zui (zui (zui (zui (zul M 3 y4.2.2.2.2.2.2) 0 r0v5) 1 y6) 3 y4.2.2.2.2.2.1) 15 r0_4) 16 r0_4_0) 17 r0_4_1) 18 r0_4_2) 19 r0_4_3) 20 r0_4_4) 21 r0_4_5) 22 r0_4_6) 23 r0_4_7) 25 r0_5) 26 r0_5_0) 27 r0_5_1) 28 r0_5_2) 29 r0_5_3) 30 r0_5_4) 174 y4.1) 175 y4.2.1) 176 y4.2.2.1) 177 y4.2.2.2.1) 178 y4.2.2.2.2.1)) (zself_i (zr_n rfl (zr_n rfl (zr_n rfl (zr_n rfl (zr_n rfl (zr_n rfl (zr_n rfl (zr_n rfl (zr_n rfl (zr_n rfl (zr_n rfl (zr_n rfl (zr_n rfl (zr_n rfl (zr_n rfl (zr_n rfl (zr_n rfl (zr_n rfl (zr_n rfl (zr_n rfl (zr_n rfl (zr_n rfl (zr_l e_i30))))))))))))))))))))))) (zm_n rfl (zm_n rfl (zm_n rfl (zm_n rfl (zm_n rfl rfl)))))) ?_
        refine zj_mem (N := (zui (zui (zui (zui (zui (zui (zui (zui (zui (zui (zui (zui (zui (zui (zui (zui (zui (zui (zui (zui (zui (zui (zui (zui (zul M 3 y4.2.2.2.2.2.2) 0 r0v5) 1 y6) 3 y4.2.2.2.2.2.1) 15 r0_4) 16 r0_4_0) 17 r0_4_1) 18 r0_4_2) 19 r0_4_3) 20 r0_4_4) 21 r0_4_5) 22 r0_4_6) 23 r0_4_7) 25 r0_5) 26 r0_5_0) 27 r0_5_1) 28 r0_5_2) 29 r0_5_3) 30 r0_5_4) 31 r0_5_5) 174 y4.1) 175 y4.2.1) 176 y4.2.2.1) 177 y4.2.2.2.1) 178 y4.2.2.2.2.1)) (zself_i (zr_n rfl (zr_n rfl (zr_n rfl (zr_n rfl (zr_n rfl (zr_n rfl (zr_n rfl (zr_n rfl (zr_n rfl (zr_n rfl (zr_n rfl (zr_n rfl (zr_n rfl (zr_n rfl (zr_n rfl (zr_n rfl (zr_n rfl (zr_n rfl (zr_n rfl (zr_n rfl (zr_n rfl (zr_n rfl (zr_n rfl (zr_l e_i31)))))))))))))))))))))))) (zm_n rfl (zm_n rfl (zm_n rfl (zm_n rfl (zm_n rfl rfl)))))) ?_
        refine zj_mem (N := (zui (zui (zui (zui (zui (zui (zui (zui (zui (zui (zui (zui (zui (zui (zui (zui (zui (zui (zui (zui (zui (zui (zui (zui (zui (zul M 3 y4.2.2.2.2.2.2) 0 r0v5) 1 y6) 3 y4.2.2.2.2.2.1) 15 r0_4) 16 r0_4_0) 17 r0_4_1) 18 r0_4_2) 19 r0_4_3) 20 r0_4_4) 21 r0_4_5) 22 r0_4_6) 23 r0_4_7) 25 r0_5) 26 r0_5_0) 27 r0_5_1) 28 r0_5_2) 29 r0_5_3) 30 r0_5_4) 31 r0_5_5) 32 r0_5_6) 174 y4.1) 175 y4.2.1) 176 y4.2.2.1) 177 y4.2.2.2.1) 178 y4.2.2.2.2.1)) (zself_i (zr_n rfl (zr_n rfl (zr_n rfl (zr_n rfl (zr_n rfl (zr_n rfl (zr_n rfl (zr_n rfl (zr_n rfl (zr_n rfl (zr_n rfl (zr_n rfl (zr_n rfl (zr_n rfl (zr_n rfl (zr_n rfl (zr_n rfl (zr_n rfl (zr_n rfl (zr_n rfl (zr_n rfl (zr_n rfl (zr_n rfl (zr_n rfl (zr_l e_i32))))))))))))))))))))))))) (zm_n rfl (zm_n rfl (zm_n rfl (zm_n rfl (zm_n rfl rfl)))))) ?_
        refine zj_mem (N := (zui (zui (zui (zui (zui (zui (zui (zui (zui (zui (zui (zui (zui (zui (zui (zui (zui (zui (zui (zui (zui (zui (zui (zui (zui (zui (zul M 3 y4.2.2.2.2.2.2) 0 r0v5) 1 y6) 3 y4.2.2.2.2.2.1) 15 r0_4) 16 r0_4_0) 17 r0_4_1) 18 r0_4_2) 19 r0_4_3) 20 r0_4_4) 21 r0_4_5) 22 r0_4_6) 23 r0_4_7) 25 r0_5) 26 r0_5_0) 27 r0_5_1) 28 r0_5_2) 29 r0_5_3) 30 r0_5_4) 31 r0_5_5) 32 r0_5_6) 33 r0_5_7) 174 y4.1) 175 y4.2.1) 176 y4.2.2.1) 177 y4.2.2.2.1) 178 y4.2.2.2.2.1)) (zself_i (zr_n rfl (zr_n rfl (zr_n rfl (zr_n rfl (zr_n rfl (zr_n rfl (zr_n rfl (zr_n rfl (zr_n rfl (zr_n rfl (zr_n rfl (zr_n rfl (zr_n rfl (zr_n rfl (zr_n rfl (zr_n rfl (zr_n rfl (zr_n rfl (zr_n rfl (zr_n rfl (zr_n rfl (zr_n rfl (zr_n rfl (zr_n rfl (zr_n rfl (zr_l e_i33)))))))))))))))))))))))))) (zm_n rfl (zm_n rfl (zm_n rfl (zm_n rfl (zm_n rfl rfl)))))) ?_
        refine zj_mem (N := (zui (zui (zui (zui (zui (zui (zui (zui (zui (zui (zui (zui (zui (zui (zui (zui (zui (zui (zui (zui (zui (zui (zui (zui (zui (zui (zui (zul M 3 y4.2.2.2.2.2.2) 0 r0v5) 1 y6) 3 y4.2.2.2.2.2.1) 15 r0_4) 16 r0_4_0) 17 r0_4_1) 18 r0_4_2) 19 r0_4_3) 20 r0_4_4) 21 r0_4_5) 22 r0_4_6) 23 r0_4_7) 25 r0_5) 26 r0_5_0) 27 r0_5_1) 28 r0_5_2) 29 r0_5_3) 30 r0_5_4) 31 r0_5_5) 32 r0_5_6) 33 r0_5_7) 34 r0_5_8) 174 y4.1) 175 y4.2.1) 176 y4.2.2.1) 177 y4.2.2.2.1) 178 y4.2.2.2.2.1)) (zself_i (zr_n rfl (zr_n rfl (zr_n rfl (zr_n rfl (zr_n rfl (zr_n rfl (zr_n rfl (zr_n rfl (zr_n rfl (zr_n rfl (zr_n rfl (zr_n rfl (zr_n rfl (zr_n rfl (zr_n rfl (zr_n rfl (zr_n rfl (zr_n rfl (zr_n rfl (zr_n rfl (zr_n rfl (zr_n rfl (zr_n rfl (zr_n rfl (zr_n rfl (zr_n rfl (zr_l e_i34))))))))))))))))))))))))))) (zm_n rfl (zm_n rfl (zm_n rfl (zm_n rfl (zm_n rfl rfl)))))) ?_
        refine zj_mem (N := (zui (zui (zui (zui (zui (zui (zui (zui (zui (zui (zui (zui (zui (zui (zui (zui (zui (zui (zui (zui (zui (zui (zui (zui (zui (zui (zui (zui (zul M 3 y4.2.2.2.2.2.2) 0 r0v5) 1 y6) 3 y4.2.2.2.2.2.1) 15 r0_4) 16 r0_4_0) 17 r0_4_1) 18 r0_4_2) 19 r0_4_3) 20 r0_4_4) 21 r0_4_5) 22 r0_4_6) 23 r0_4_7) 25 r0_5) 26 r0_5_0) 27 r0_5_1) 28 r0_5_2) 29 r0_5_3) 30 r0_5_4) 31 r0_5_5) 32 r0_5_6) 33 r0_5_7) 34 r0_5_8) 47 r0_8) 174 y4.1) 175 y4.2.1) 176 y4.2.2.1) 177 y4.2.2.2.1) 178 y4.2.2.2.2.1)) (zself_i (zr_n rfl (zr_n rfl (zr_n rfl (zr_n rfl (zr_n rfl (zr_n rfl (zr_n rfl (zr_n rfl (zr_n rfl (zr_n rfl (zr_n rfl (zr_n rfl (zr_n rfl (zr_n rfl (zr_n rfl (zr_n rfl (zr_n rfl (zr_n rfl (zr_n rfl (zr_n rfl (zr_n rfl (zr_n rfl (zr_n rfl (zr_n rfl (zr_n rfl (zr_n rfl (zr_n rfl (zr_l e_i47)))))))))))))))))))))))))))) (zm_n rfl (zm_n rfl (zm_n rfl (zm_n rfl (zm_n rfl rfl)))))) ?_
        refine zj_mem (N := (zub (zui (zui (zui (zui (zui (zui (zui (zui (zui (zui (zui (zui (zui (zui (zui (zui (zui (zui (zui (zui (zui (zui (zui (zui (zui (zui (zui (zui (zul M 3 y4.2.2.2.2.2.2) 0 r0v5) 1 y6) 3 y4.2.2.2.2.2.1) 15 r0_4) 16 r0_4_0) 17 r0_4_1) 18 r0_4_2) 19 r0_4_3) 20 r0_4_4) 21 r0_4_5) 22 r0_4_6) 23 r0_4_7) 25 r0_5) 26 r0_5_0) 27 r0_5_1) 28 r0_5_2) 29 r0_5_3) 30 r0_5_4) 31 r0_5_5) 32 r0_5_6) 33 r0_5_7) 34 r0_5_8) 47 r0_8) 174 y4.1) 175 y4.2.1) 176 y4.2.2.1) 177 y4.2.2.2.1) 178 y4.2.2.2.2.1) 49 129 g49)) (zself_h (zeq_i rfl (zeq_i rfl (zeq_i rfl (zeq_i rfl (zeq_i rfl (zeq_i rfl (zeq_i rfl (zeq_i rfl (zeq_i rfl (zeq_i rfl (zeq_i rfl (zeq_i rfl (zeq_i rfl (zeq_i rfl (zeq_i rfl (zeq_i rfl (zeq_i rfl (zeq_i rfl (zeq_i rfl (zeq_i rfl (zeq_i rfl (zeq_i rfl (zeq_i rfl (zeq_i rfl (zeq_i rfl (zeq_i rfl (zeq_i rfl (zeq_i rfl (zeq_l rfl e_h49))))))))))))))))))))))))))))) rfl) ?_
        exact zj_iret dX11_book_73 rfl hq
    · have hy := zt_f hy c2
      refine zj_sipush (pc' := 12) dX11_book_9 rfl ksipush_m1000 ?_
      have e9 := Option.some.inj hy
      subst e9
      refine zj_mem (N := (zul M 3 w0_1)) (zself_l e_l3 rfl) ?_
      refine zj_mem (N := (zui (zul M 3 w0_1) 0 r0)) (zself_i (zr_l e_i0) rfl) ?_
      refine zj_mem (N := (zui (zui (zul M 3 w0_1) 0 r0) 1 r0_0)) (zself_i (zr_n rfl (zr_l e_i1)) rfl) ?_
      refine zj_mem (N := (zui (zui (zui (zul M 3 w0_1) 0 r0) 1 r0_0) 3 r0_1)) (zself_i (zr_n rfl (zr_n rfl (zr_l e_i3))) rfl) ?_
      refine zj_mem (N := (zui (zui (zui (zui (zul M 3 w0_1) 0 r0) 1 r0_0) 3 r0_1) 15 r0_4)) (zself_i (zr_n rfl (zr_n rfl (zr_n rfl (zr_l e_i15)))) rfl) ?_
      refine zj_mem (N := (zui (zui (zui (zui (zui (zul M 3 w0_1) 0 r0) 1 r0_0) 3 r0_1) 15 r0_4) 16 r0_4_0)) (zself_i (zr_n rfl (zr_n rfl (zr_n rfl (zr_n rfl (zr_l e_i16))))) rfl) ?_
      refine zj_mem (N := (zui (zui (zui (zui (zui (zui (zul M 3 w0_1) 0 r0) 1 r0_0) 3 r0_1) 15 r0_4) 16 r0_4_0) 17 r0_4_1)) (zself_i (zr_n rfl (zr_n rfl (zr_n rfl (zr_n rfl (zr_n rfl (zr_l e_i17)))))) rfl) ?_
      refine zj_mem (N := (zui (zui (zui (zui (zui (zui (zui (zul M 3 w0_1) 0 r0) 1 r0_0) 3 r0_1) 15 r0_4) 16 r0_4_0) 17 r0_4_1) 18 r0_4_2)) (zself_i (zr_n rfl (zr_n rfl (zr_n rfl (zr_n rfl (zr_n rfl (zr_n rfl (zr_l e_i18))))))) rfl) ?_
      refine zj_mem (N := (zui (zui (zui (zui (zui (zui (zui (zui (zul M 3 w0_1) 0 r0) 1 r0_0) 3 r0_1) 15 r0_4) 16 r0_4_0) 17 r0_4_1) 18 r0_4_2) 19 r0_4_3)) (zself_i (zr_n rfl (zr_n rfl (zr_n rfl (zr_n rfl (zr_n rfl (zr_n rfl (zr_n rfl (zr_l e_i19)))))))) rfl) ?_
      refine zj_mem (N := (zui (zui (zui (zui (zui (zui (zui (zui (zui (zul M 3 w0_1) 0 r0) 1 r0_0) 3 r0_1) 15 r0_4) 16 r0_4_0) 17 r0_4_1) 18 r0_4_2) 19 r0_4_3) 20 r0_4_4)) (zself_i (zr_n rfl (zr_n rfl (zr_n rfl (zr_n rfl (zr_n rfl (zr_n rfl (zr_n rfl (zr_n rfl (zr_l e_i20))))))))) rfl) ?_
      refine zj_mem (N := (zui (zui (zui (zui (zui (zui (zui (zui (zui (zui (zul M 3 w0_1) 0 r0) 1 r0_0) 3 r0_1) 15 r0_4) 16 r0_4_0) 17 r0_4_1) 18 r0_4_2) 19 r0_4_3) 20 r0_4_4) 21 r0_4_5)) (zself_i (zr_n rfl (zr_n rfl (zr_n rfl (zr_n rfl (zr_n rfl (zr_n rfl (zr_n rfl (zr_n rfl (zr_n rfl (zr_l e_i21)))))))))) rfl) ?_
      refine zj_mem (N := (zui (zui (zui (zui (zui (zui (zui (zui (zui (zui (zui (zul M 3 w0_1) 0 r0) 1 r0_0) 3 r0_1) 15 r0_4) 16 r0_4_0) 17 r0_4_1) 18 r0_4_2) 19 r0_4_3) 20 r0_4_4) 21 r0_4_5) 22 r0_4_6)) (zself_i (zr_n rfl (zr_n rfl (zr_n rfl (zr_n rfl (zr_n rfl (zr_n rfl (zr_n rfl (zr_n rfl (zr_n rfl (zr_n rfl (zr_l e_i22))))))))))) rfl) ?_
      refine zj_mem (N := (zui (zui (zui (zui (zui (zui (zui (zui (zui (zui (zui (zui (zul M 3 w0_1) 0 r0) 1 r0_0) 3 r0_1) 15 r0_4) 16 r0_4_0) 17 r0_4_1) 18 r0_4_2) 19 r0_4_3) 20 r0_4_4) 21 r0_4_5) 22 r0_4_6) 23 r0_4_7)) (zself_i (zr_n rfl (zr_n rfl (zr_n rfl (zr_n rfl (zr_n rfl (zr_n rfl (zr_n rfl (zr_n rfl (zr_n rfl (zr_n rfl (zr_n rfl (zr_l e_i23)))))))))))) rfl) ?_
      refine zj_mem (N := (zui (zui (zui (zui (zui (zui (zui (zui (zui (zui (zui (zui (zui (zul M 3 w0_1) 0 r0) 1 r0_0) 3 r0_1) 15 r0_4) 16 r0_4_0) 17 r0_4_1) 18 r0_4_2) 19 r0_4_3) 20 r0_4_4) 21 r0_4_5) 22 r0_4_6) 23 r0_4_7) 25 r0_5)) (zself_i (zr_n rfl (zr_n rfl (zr_n rfl (zr_n rfl (zr_n rfl (zr_n rfl (zr_n rfl (zr_n rfl (zr_n rfl (zr_n rfl (zr_n rfl (zr_n rfl (zr_l e_i25))))))))))))) rfl) ?_
      refine zj_mem (N := (zui (zui (zui (zui (zui (zui (zui (zui (zui (zui (zui (zui (zui (zui (zul M 3 w0_1) 0 r0) 1 r0_0) 3 r0_1) 15 r0_4) 16 r0_4_0) 17 r0_4_1) 18 r0_4_2) 19 r0_4_3) 20 r0_4_4) 21 r0_4_5) 22 r0_4_6) 23 r0_4_7) 25 r0_5) 26 r0_5_0)) (zself_i (zr_n rfl (zr_n rfl (zr_n rfl (zr_n rfl (zr_n rfl (zr_n rfl (zr_n rfl (zr_n rfl (zr_n rfl (zr_n rfl (zr_n rfl (zr_n rfl (zr_n rfl (zr_l e_i26)))))))))))))) rfl) ?_
      refine zj_mem (N := (zui (zui (zui (zui (zui (zui (zui (zui (zui (zui (zui (zui (zui (zui (zui (zul M 3 w0_1) 0 r0) 1 r0_0) 3 r0_1) 15 r0_4) 16 r0_4_0) 17 r0_4_1) 18 r0_4_2) 19 r0_4_3) 20 r0_4_4) 21 r0_4_5) 22 r0_4_6) 23 r0_4_7) 25 r0_5) 26 r0_5_0) 27 r0_5_1)) (zself_i (zr_n rfl (zr_n rfl (zr_n rfl (zr_n rfl (zr_n rfl (zr_n rfl (zr_n rfl (zr_n rfl (zr_n rfl (zr_n rfl (zr_n rfl (zr_n rfl (zr_n rfl (zr_n rfl (zr_l e_i27))))))))))))))) rfl) ?_
      refine zj_mem (N := (zui (zui (zui (zui (zui (zui (zui (zui (zui (zui (zui (zui (zui (zui (zui (zui (zul M 3 w0_1) 0 r0) 1 r0_0) 3 r0_1) 15 r0_4) 16 r0_4_0) 17 r0_4_1) 18 r0_4_2) 19 r0_4_3) 20 r0_4_4) 21 r0_4_5) 22 r0_4_6) 23 r0_4_7) 25 r0_5) 26 r0_5_0) 27 r0_5_1) 28 r0_5_2)) (zself_i (zr_n rfl (zr_n rfl (zr_n rfl (zr_n rfl (zr_n rfl (zr_n rfl (zr_n rfl (zr_n rfl (zr_n rfl (zr_n rfl (zr_n rfl (zr_n rfl (zr_n rfl (zr_n rfl (zr_n rfl (zr_l e_i28)))))))))))))))) rfl) ?_
      refine zj_mem (N := (zui (zui (zui (zui (zui (zui (zui (zui (zui (zui (zui (zui (zui (zui (zui (zui (zui (zul M 3 w0_1) 0 r0) 1 r0_0) 3 r0_1) 15 r0_4) 16 r0_4_0) 17 r0_4_1) 18 r0_4_2) 19 r0_4_3) 20 r0_4_4) 21 r0_4_5) 22 r0_4_6) 23 r0_4_7) 25 r0_5) 26 r0_5_0) 27 r0_5_1) 28 r0_5_2) 29 r0_5_3)) (zself_i (zr_n rfl (zr_n rfl (zr_n rfl (zr_n rfl (zr_n rfl (zr_n rfl (zr_n rfl (zr_n rfl (zr_n rfl (zr_n rfl (zr_n rfl (zr_n rfl (zr_n rfl (zr_n rfl (zr_n rfl (zr_n rfl (zr_l e_i29))))))))))))))))) rfl) ?_
      refine zj_mem (N := (zui (zui (zui (zui (zui (zui (zui (zui (zui (zui (zui (zui (zui (zui (zui (zui (zui (zui (zul M 3 w0_1) 0 r0) 1 r0_0) 3 r0_1) 15 r0_4) 16 r0_4_0) 17 r0_4_1) 18 r0_4_2) 19 r0_4_3) 20 r0_4_4) 21 r0_4_5) 22 r0_4_6) 23 r0_4_7) 25 r0_5) 26 r0_5_0) 27 r0_5_1) 28 r0_5_2) 29 r0_5_3) 30 r0_5_4)) (zself_i (zr_n rfl (zr_n rfl (zr_n rfl (zr_n rfl (zr_n rfl (zr_n rfl (zr_n rfl (zr_n rfl (zr_n rfl (zr_n rfl (zr_n rfl (zr_n rfl (zr_n rfl (zr_n rfl (zr_n rfl (zr_n rfl (zr_n rfl (zr_l e_i30)))))))))))))))))) rfl) ?_
      refine zj_mem (N := (zui (zui (zui (zui (zui (zui (zui (zui (zui (zui (zui (zui (zui (zui (zui (zui (zui (zui (zui (zul M 3 w0_1) 0 r0) 1 r0_0) 3 r0_1) 15 r0_4) 16 r0_4_0) 17 r0_4_1) 18 r0_4_2) 19 r0_4_3) 20 r0_4_4) 21 r0_4_5) 22 r0_4_6) 23 r0_4_7) 25 r0_5) 26 r0_5_0) 27 r0_5_1) 28 r0_5_2) 29 r0_5_3) 30 r0_5_4) 31 r0_5_5)) (zself_i (zr_n rfl (zr_n rfl (zr_n rfl (zr_n rfl (zr_n rfl (zr_n rfl (zr_n rfl (zr_n rfl (zr_n rfl (zr_n rfl (zr_n rfl (zr_n rfl (zr_n rfl (zr_n rfl (zr_n rfl (zr_n rfl (zr_n rfl (zr_n rfl (zr_l e_i31))))))))))))))))))) rfl) ?_
      refine zj_mem (N := (zui (zui (zui (zui (zui (zui (zui (zui (zui (zui (zui (zui (zui (zui (zui (zui (zui (zui (zui (zui (zul M 3 w0_1) 0 r0) 1 r0_0) 3 r0_1) 15 r0_4) 16 r0_4_0) 17 r0_4_1) 18 r0_4_2) 19 r0_4_3) 20 r0_4_4) 21 r0_4_5) 22 r0_4_6) 23 r0_4_7) 25 r0_5) 26 r0_5_0) 27 r0_5_1) 28 r0_5_2) 29 r0_5_3) 30 r0_5_4) 31 r0_5_5) 32 r0_5_6)) (zself_i (zr_n rfl (zr_n rfl (zr_n rfl (zr_n rfl (zr_n rfl (zr_n rfl (zr_n rfl (zr_n rfl (zr_n rfl (zr_n rfl (zr_n rfl (zr_n rfl (zr_n rfl (zr_n rfl (zr_n rfl (zr_n rfl (zr_n rfl (zr_n rfl (zr_n rfl (zr_l e_i32)))))))))))))))))))) rfl) ?_
      refine zj_mem (N := (zui (zui (zui (zui (zui (zui (zui (zui (zui (zui (zui (zui (zui (zui (zui (zui (zui (zui (zui (zui (zui (zul M 3 w0_1) 0 r0) 1 r0_0) 3 r0_1) 15 r0_4) 16 r0_4_0) 17 r0_4_1) 18 r0_4_2) 19 r0_4_3) 20 r0_4_4) 21 r0_4_5) 22 r0_4_6) 23 r0_4_7) 25 r0_5) 26 r0_5_0) 27 r0_5_1) 28 r0_5_2) 29 r0_5_3) 30 r0_5_4) 31 r0_5_5) 32 r0_5_6) 33 r0_5_7)) (zself_i (zr_n rfl (zr_n rfl (zr_n rfl (zr_n rfl (zr_n rfl (zr_n rfl (zr_n rfl (zr_n rfl (zr_n rfl (zr_n rfl (zr_n rfl (zr_n rfl (zr_n rfl (zr_n rfl (zr_n rfl (zr_n rfl (zr_n rfl (zr_n rfl (zr_n rfl (zr_n rfl (zr_l e_i33))))))))))))))))))))) rfl) ?_
      refine zj_mem (N := (zui (zui (zui (zui (zui (zui (zui (zui (zui (zui (zui (zui (zui (zui (zui (zui (zui (zui (zui (zui (zui (zui (zul M 3 w0_1) 0 r0) 1 r0_0) 3 r0_1) 15 r0_4) 16 r0_4_0) 17 r0_4_1) 18 r0_4_2) 19 r0_4_3) 20 r0_4_4) 21 r0_4_5) 22 r0_4_6) 23 r0_4_7) 25 r0_5) 26 r0_5_0) 27 r0_5_1) 28 r0_5_2) 29 r0_5_3) 30 r0_5_4) 31 r0_5_5) 32 r0_5_6) 33 r0_5_7) 34 r0_5_8)) (zself_i (zr_n rfl (zr_n rfl (zr_n rfl (zr_n rfl (zr_n rfl (zr_n rfl (zr_n rfl (zr_n rfl (zr_n rfl (zr_n rfl (zr_n rfl (zr_n rfl (zr_n rfl (zr_n rfl (zr_n rfl (zr_n rfl (zr_n rfl (zr_n rfl (zr_n rfl (zr_n rfl (zr_n rfl (zr_l e_i34)))))))))))))))))))))) rfl) ?_
      refine zj_mem (N := (zui (zui (zui (zui (zui (zui (zui (zui (zui (zui (zui (zui (zui (zui (zui (zui (zui (zui (zui (zui (zui (zui (zui (zul M 3 w0_1) 0 r0) 1 r0_0) 3 r0_1) 15 r0_4) 16 r0_4_0) 17 r0_4_1) 18 r0_4_2) 19 r0_4_3) 20 r0_4_4) 21 r0_4_5) 22 r0_4_6) 23 r0_4_7) 25 r0_5) 26 r0_5_0) 27 r0_5_1) 28 r0_5_2) 29 r0_5_3) 30 r0_5_4) 31 r0_5_5) 32 r0_5_6) 33 r0_5_7) 34 r0_5_8) 47 r0_8)) (zself_i (zr_n rfl (zr_n rfl (zr_n rfl (zr_n rfl (zr_n rfl (zr_n rfl (zr_n rfl (zr_n rfl (zr_n rfl (zr_n rfl (zr_n rfl (zr_n rfl (zr_n rfl (zr_n rfl (zr_n rfl (zr_n rfl (zr_n rfl (zr_n rfl (zr_n rfl (zr_n rfl (zr_n rfl (zr_n rfl (zr_l e_i47))))))))))))))))))))))) rfl) ?_
      refine zj_mem (N := (zui (zui (zui (zui (zui (zui (zui (zui (zui (zui (zui (zui (zui (zui (zui (zui (zui (zui (zui (zui (zui (zui (zui (zui (zul M 3 w0_1) 0 r0) 1 r0_0) 3 r0_1) 15 r0_4) 16 r0_4_0) 17 r0_4_1) 18 r0_4_2) 19 r0_4_3) 20 r0_4_4) 21 r0_4_5) 22 r0_4_6) 23 r0_4_7) 25 r0_5) 26 r0_5_0) 27 r0_5_1) 28 r0_5_2) 29 r0_5_3) 30 r0_5_4) 31 r0_5_5) 32 r0_5_6) 33 r0_5_7) 34 r0_5_8) 47 r0_8) 174 r0_10)) (zself_i (zr_n rfl (zr_n rfl (zr_n rfl (zr_n rfl (zr_n rfl (zr_n rfl (zr_n rfl (zr_n rfl (zr_n rfl (zr_n rfl (zr_n rfl (zr_n rfl (zr_n rfl (zr_n rfl (zr_n rfl (zr_n rfl (zr_n rfl (zr_n rfl (zr_n rfl (zr_n rfl (zr_n rfl (zr_n rfl (zr_n rfl (zr_l e_i174)))))))))))))))))))))))) rfl) ?_
      refine zj_mem (N := (zui (zui (zui (zui (zui (zui (zui (zui (zui (zui (zui (zui (zui (zui (zui (zui (zui (zui (zui (zui (zui (zui (zui (zui (zui (zul M 3 w0_1) 0 r0) 1 r0_0) 3 r0_1) 15 r0_4) 16 r0_4_0) 17 r0_4_1) 18 r0_4_2) 19 r0_4_3) 20 r0_4_4) 21 r0_4_5) 22 r0_4_6) 23 r0_4_7) 25 r0_5) 26 r0_5_0) 27 r0_5_1) 28 r0_5_2) 29 r0_5_3) 30 r0_5_4) 31 r0_5_5) 32 r0_5_6) 33 r0_5_7) 34 r0_5_8) 47 r0_8) 174 r0_10) 175 r0_10_0)) (zself_i (zr_n rfl (zr_n rfl (zr_n rfl (zr_n rfl (zr_n rfl (zr_n rfl (zr_n rfl (zr_n rfl (zr_n rfl (zr_n rfl (zr_n rfl (zr_n rfl (zr_n rfl (zr_n rfl (zr_n rfl (zr_n rfl (zr_n rfl (zr_n rfl (zr_n rfl (zr_n rfl (zr_n rfl (zr_n rfl (zr_n rfl (zr_n rfl (zr_l e_i175))))))))))))))))))))))))) rfl) ?_
      refine zj_mem (N := (zui (zui (zui (zui (zui (zui (zui (zui (zui (zui (zui (zui (zui (zui (zui (zui (zui (zui (zui (zui (zui (zui (zui (zui (zui (zui (zul M 3 w0_1) 0 r0) 1 r0_0) 3 r0_1) 15 r0_4) 16 r0_4_0) 17 r0_4_1) 18 r0_4_2) 19 r0_4_3) 20 r0_4_4) 21 r0_4_5) 22 r0_4_6) 23 r0_4_7) 25 r0_5) 26 r0_5_0) 27 r0_5_1) 28 r0_5_2) 29 r0_5_3) 30 r0_5_4) 31 r0_5_5) 32 r0_5_6) 33 r0_5_7) 34 r0_5_8) 47 r0_8) 174 r0_10) 175 r0_10_0) 176 r0_10_1)) (zself_i (zr_n rfl (zr_n rfl (zr_n rfl (zr_n rfl (zr_n rfl (zr_n rfl (zr_n rfl (zr_n rfl (zr_n rfl (zr_n rfl (zr_n rfl (zr_n rfl (zr_n rfl (zr_n rfl (zr_n rfl (zr_n rfl (zr_n rfl (zr_n rfl (zr_n rfl (zr_n rfl (zr_n rfl (zr_n rfl (zr_n rfl (zr_n rfl (zr_n rfl (zr_l e_i176)))))))))))))))))))))))))) rfl) ?_
      refine zj_mem (N := (zui (zui (zui (zui (zui (zui (zui (zui (zui (zui (zui (zui (zui (zui (zui (zui (zui (zui (zui (zui (zui (zui (zui (zui (zui (zui (zui (zul M 3 w0_1) 0 r0) 1 r0_0) 3 r0_1) 15 r0_4) 16 r0_4_0) 17 r0_4_1) 18 r0_4_2) 19 r0_4_3) 20 r0_4_4) 21 r0_4_5) 22 r0_4_6) 23 r0_4_7) 25 r0_5) 26 r0_5_0) 27 r0_5_1) 28 r0_5_2) 29 r0_5_3) 30 r0_5_4) 31 r0_5_5) 32 r0_5_6) 33 r0_5_7) 34 r0_5_8) 47 r0_8) 174 r0_10) 175 r0_10_0) 176 r0_10_1) 177 r0_10_2)) (zself_i (zr_n rfl (zr_n rfl (zr_n rfl (zr_n rfl (zr_n rfl (zr_n rfl (zr_n rfl (zr_n rfl (zr_n rfl (zr_n rfl (zr_n rfl (zr_n rfl (zr_n rfl (zr_n rfl (zr_n rfl (zr_n rfl (zr_n rfl (zr_n rfl (zr_n rfl (zr_n rfl (zr_n rfl (zr_n rfl (zr_n rfl (zr_n rfl (zr_n rfl (zr_n rfl (zr_l e_i177))))))))))))))))))))))))))) rfl) ?_
      refine zj_mem (N := (zui (zui (zui (zui (zui (zui (zui (zui (zui (zui (zui (zui (zui (zui (zui (zui (zui (zui (zui (zui (zui (zui (zui (zui (zui (zui (zui (zui (zul M 3 w0_1) 0 r0) 1 r0_0) 3 r0_1) 15 r0_4) 16 r0_4_0) 17 r0_4_1) 18 r0_4_2) 19 r0_4_3) 20 r0_4_4) 21 r0_4_5) 22 r0_4_6) 23 r0_4_7) 25 r0_5) 26 r0_5_0) 27 r0_5_1) 28 r0_5_2) 29 r0_5_3) 30 r0_5_4) 31 r0_5_5) 32 r0_5_6) 33 r0_5_7) 34 r0_5_8) 47 r0_8) 174 r0_10) 175 r0_10_0) 176 r0_10_1) 177 r0_10_2) 178 r0_10_3)) (zself_i (zr_n rfl (zr_n rfl (zr_n rfl (zr_n rfl (zr_n rfl (zr_n rfl (zr_n rfl (zr_n rfl (zr_n rfl (zr_n rfl (zr_n rfl (zr_n rfl (zr_n rfl (zr_n rfl (zr_n rfl (zr_n rfl (zr_n rfl (zr_n rfl (zr_n rfl (zr_n rfl (zr_n rfl (zr_n rfl (zr_n rfl (zr_n rfl (zr_n rfl (zr_n rfl (zr_n rfl (zr_l e_i178)))))))))))))))))))))))))))) rfl) ?_
      refine zj_mem (N := (zub (zui (zui (zui (zui (zui (zui (zui (zui (zui (zui (zui (zui (zui (zui (zui (zui (zui (zui (zui (zui (zui (zui (zui (zui (zui (zui (zui (zui (zul M 3 w0_1) 0 r0) 1 r0_0) 3 r0_1) 15 r0_4) 16 r0_4_0) 17 r0_4_1) 18 r0_4_2) 19 r0_4_3) 20 r0_4_4) 21 r0_4_5) 22 r0_4_6) 23 r0_4_7) 25 r0_5) 26 r0_5_0) 27 r0_5_1) 28 r0_5_2) 29 r0_5_3) 30 r0_5_4) 31 r0_5_5) 32 r0_5_6) 33 r0_5_7) 34 r0_5_8) 47 r0_8) 174 r0_10) 175 r0_10_0) 176 r0_10_1) 177 r0_10_2) 178 r0_10_3) 49 129 g49)) (zself_h (zeq_i rfl (zeq_i rfl (zeq_i rfl (zeq_i rfl (zeq_i rfl (zeq_i rfl (zeq_i rfl (zeq_i rfl (zeq_i rfl (zeq_i rfl (zeq_i rfl (zeq_i rfl (zeq_i rfl (zeq_i rfl (zeq_i rfl (zeq_i rfl (zeq_i rfl (zeq_i rfl (zeq_i rfl (zeq_i rfl (zeq_i rfl (zeq_i rfl (zeq_i rfl (zeq_i rfl (zeq_i rfl (zeq_i rfl (zeq_i rfl (zeq_i rfl (zeq_l rfl e_h49))))))))))))))))))))))))))))) rfl) ?_
      exact zj_iret dX11_book_12 rfl hq
set_option maxRecDepth 20000 in
theorem LX11_book_0 (Γ : zG) (M : zM) (r0 : Nat → Int32) (r0_0 : Nat → Int32) (r0_0_0 : Nat → Int32) (r0_1 : Nat → Int32) (w0_1 : Nat → Int64) (w0_1_1 : Nat → Int64) (r0_2 : Nat → Int32) (w0_2_0 : Nat → Int64) (w0_2_1 : Nat → Int64) (r0_2_2 : Nat → Int32) (r0_2_3 : Nat → Int32) (r0_4 : Nat → Int32) (r0_4_0 : Nat → Int32) (r0_4_1 : Nat → Int32) (r0_4_2 : Nat → Int32) (r0_4_3 : Nat → Int32) (r0_4_4 : Nat → Int32) (r0_4_5 : Nat → Int32) (r0_4_6 : Nat → Int32) (r0_4_7 : Nat → Int32) (r0_5 : Nat → Int32) (r0_5_0 : Nat → Int32) (r0_5_1 : Nat → Int32) (r0_5_2 : Nat → Int32) (r0_5_3 : Nat → Int32) (r0_5_4 : Nat → Int32) (r0_5_5 : Nat → Int32) (r0_5_6 : Nat → Int32) (r0_5_7 : Nat → Int32) (r0_5_8 : Nat → Int32) (r0_8 : Nat → Int32) (r0_10 : Nat → Int32) (r0_10_0 : Nat → Int32) (r0_10_1 : Nat → Int32) (r0_10_2 : Nat → Int32) (r0_10_3 : Nat → Int32) (g49 : zM) (e_i0 : M.1 0 = r0) (e_i1 : M.1 1 = r0_0) (e_i2 : M.1 2 = r0_0_0) (e_i3 : M.1 3 = r0_1) (e_l3 : M.2 3 = w0_1) (e_l4 : M.2 4 = w0_1_1) (e_i5 : M.1 5 = r0_2) (e_l6 : M.2 6 = w0_2_0) (e_l7 : M.2 7 = w0_2_1) (e_i8 : M.1 8 = r0_2_2) (e_i9 : M.1 9 = r0_2_3) (e_i15 : M.1 15 = r0_4) (e_i16 : M.1 16 = r0_4_0) (e_i17 : M.1 17 = r0_4_1) (e_i18 : M.1 18 = r0_4_2) (e_i19 : M.1 19 = r0_4_3) (e_i20 : M.1 20 = r0_4_4) (e_i21 : M.1 21 = r0_4_5) (e_i22 : M.1 22 = r0_4_6) (e_i23 : M.1 23 = r0_4_7) (e_i25 : M.1 25 = r0_5) (e_i26 : M.1 26 = r0_5_0) (e_i27 : M.1 27 = r0_5_1) (e_i28 : M.1 28 = r0_5_2) (e_i29 : M.1 29 = r0_5_3) (e_i30 : M.1 30 = r0_5_4) (e_i31 : M.1 31 = r0_5_5) (e_i32 : M.1 32 = r0_5_6) (e_i33 : M.1 33 = r0_5_7) (e_i34 : M.1 34 = r0_5_8) (e_i47 : M.1 47 = r0_8) (e_i174 : M.1 174 = r0_10) (e_i175 : M.1 175 = r0_10_0) (e_i176 : M.1 176 = r0_10_1) (e_i177 : M.1 177 = r0_10_2) (e_i178 : M.1 178 = r0_10_3) (e_h49 : zeq M 49 129 g49) (a1 : Int32) {res : Int32 × (Nat → Int32) × (Nat → Int32) × (Nat → Int32) × (Nat → Int64) × (Nat → Int32) × (Nat → Int32) × (Nat → Int32) × (Nat → Int32) × (Nat → Int32) × (Nat → Int32) × (Nat → Int32) × (Nat → Int32) × (Nat → Int32) × (Nat → Int32) × (Nat → Int32) × (Nat → Int32) × (Nat → Int32) × (Nat → Int32) × (Nat → Int32) × (Nat → Int32) × (Nat → Int32) × (Nat → Int32) × (Nat → Int32) × (Nat → Int32) × (Nat → Int32) × (Nat → Int32) × (Nat → Int32) × (Nat → Int32) × (Nat → Int32) × zM} (hy : (fX_book r0 r0_0 r0_0_0 r0_1 w0_1 w0_1_1 r0_2 w0_2_0 w0_2_1 r0_2_2 r0_2_3 r0_4 r0_4_0 r0_4_1 r0_4_2 r0_4_3 r0_4_4 r0_4_5 r0_4_6 r0_4_7 r0_5 r0_5_0 r0_5_1 r0_5_2 r0_5_3 r0_5_4 r0_5_5 r0_5_6 r0_5_7 r0_5_8 r0_8 r0_10 r0_10_0 r0_10_1 r0_10_2 r0_10_3 g49 a1) = some res) : zK Γ 8 YX11_book [.ref (zad Γ 0), .int a1] M (fun v N => v = some (.int res.1) ∧ N = (zub (zui (zui (zui (zui (zui (zui (zui (zui (zui (zui (zui (zui (zui (zui (zui (zui (zui (zui (zui (zui (zui (zui (zui (zui (zui (zui (zui (zui (zul M 3 res.2.2.2.2.1) 0 res.2.1) 1 res.2.2.1) 3 res.2.2.2.1) 15 res.2.2.2.2.2.1) 16 res.2.2.2.2.2.2.1) 17 res.2.2.2.2.2.2.2.1) 18 res.2.2.2.2.2.2.2.2.1) 19 res.2.2.2.2.2.2.2.2.2.1) 20 res.2.2.2.2.2.2.2.2.2.2.1) 21 res.2.2.2.2.2.2.2.2.2.2.2.1) 22 res.2.2.2.2.2.2.2.2.2.2.2.2.1) 23 res.2.2.2.2.2.2.2.2.2.2.2.2.2.1) 25 res.2.2.2.2.2.2.2.2.2.2.2.2.2.2.1) 26 res.2.2.2.2.2.2.2.2.2.2.2.2.2.2.2.1) 27 res.2.2.2.2.2.2.2.2.2.2.2.2.2.2.2.2.1) 28 res.2.2.2.2.2.2.2.2.2.2.2.2.2.2.2.2.2.1) 29 res.2.2.2.2.2.2.2.2.2.2.2.2.2.2.2.2.2.2.1) 30 res.2.2.2.2.2.2.2.2.2.2.2.2.2.2.2.2.2.2.2.1) 31 res.2.2.2.2.2.2.2.2.2.2.2.2.2.2.2.2.2.2.2.2.1) 32 res.2.2.2.2.2.2.2.2.2.2.2.2.2.2.2.2.2.2.2.2.2.1) 33 res.2.2.2.2.2.2.2.2.2.2.2.2.2.2.2.2.2.2.2.2.2.2.1) 34 res.2.2.2.2.2.2.2.2.2.2.2.2.2.2.2.2.2.2.2.2.2.2.2.1) 47 res.2.2.2.2.2.2.2.2.2.2.2.2.2.2.2.2.2.2.2.2.2.2.2.2.1) 174 res.2.2.2.2.2.2.2.2.2.2.2.2.2.2.2.2.2.2.2.2.2.2.2.2.2.1) 175 res.2.2.2.2.2.2.2.2.2.2.2.2.2.2.2.2.2.2.2.2.2.2.2.2.2.2.1) 176 res.2.2.2.2.2.2.2.2.2.2.2.2.2.2.2.2.2.2.2.2.2.2.2.2.2.2.2.1) 177 res.2.2.2.2.2.2.2.2.2.2.2.2.2.2.2.2.2.2.2.2.2.2.2.2.2.2.2.2.1) 178 res.2.2.2.2.2.2.2.2.2.2.2.2.2.2.2.2.2.2.2.2.2.2.2.2.2.2.2.2.2.1) 49 129 res.2.2.2.2.2.2.2.2.2.2.2.2.2.2.2.2.2.2.2.2.2.2.2.2.2.2.2.2.2.2)) :=
  zK_of (by decide) (Nat.le_of_ble_eq_true rfl) (TX11_book_0 Γ M r0 r0_0 r0_0_0 r0_1 w0_1 w0_1_1 r0_2 w0_2_0 w0_2_1 r0_2_2 r0_2_3 r0_4 r0_4_0 r0_4_1 r0_4_2 r0_4_3 r0_4_4 r0_4_5 r0_4_6 r0_4_7 r0_5 r0_5_0 r0_5_1 r0_5_2 r0_5_3 r0_5_4 r0_5_5 r0_5_6 r0_5_7 r0_5_8 r0_8 r0_10 r0_10_0 r0_10_1 r0_10_2 r0_10_3 g49 e_i0 e_i1 e_i2 e_i3 e_l3 e_l4 e_i5 e_l6 e_l7 e_i8 e_i9 e_i15 e_i16 e_i17 e_i18 e_i19 e_i20 e_i21 e_i22 e_i23 e_i25 e_i26 e_i27 e_i28 e_i29 e_i30 e_i31 e_i32 e_i33 e_i34 e_i47 e_i174 e_i175 e_i176 e_i177 e_i178 e_h49 a1 hy ⟨rfl, rfl⟩)

