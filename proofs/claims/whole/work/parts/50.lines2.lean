section LN
variable {n L v a p C S P : Nat} {b B : Nat → Nat} {w : List Nat} {nC nP : Nat → List Nat} {A : aD} {tp tb mt rx rm rp bs f pl bu le di wa lf ly pr h : Nat → Int32} {wx wm tw rs nm cn pn : Nat → Int64}
theorem tDB_M {P : Nat} {A A' : aD} (h : tDB P A) (e1 : dMi A' = dMi A) (e2 : dFo A' = dFo A) (e3 : dB A' = dB A) (e4 : dL A' = dL A) (e5 : dP A' = dP A) (e6 : dW A' = dW A) : tDB P A' := by
  unfold tDB at h ⊢
  rw [e1, e2, e3, e4, e5, e6]; exact h
theorem l_next (E : tE n L b tp tb mt) (W : wE tw rs) (K : tokR n L rx wx rm wm 1 v w a p) (T : tT C S P B nC nP A rp bs cn pn f pl bu le di wa lf ly pr h nm) :
    ∃ rx' wx' wa' lf' ok rm' wm' h', fPl_readNext rp cn pn bs rx wx tp tb tw pl le wa lf = some (rx', wx', wa', lf') ∧ fM_readNext rm wm mt h nm rs = some (ok, rm', wm', h') ∧ mF rm rm' ∧ ((ok = true ∧ tOk n L a rx' wx' rm' wm' ∧ ∃ A', tT C S P B nC nP A' rp bs cn pn f pl bu le di wa' lf' ly pr h' nm) ∨ (ok = false ∧ tFl rx' rm')) := by
  obtain ⟨⟨hC, hS, hP, r4, r5, r6, hb, hBC, hX, hXP⟩, ⟨h0, h1, h2, h3, hM, hMP⟩, hD, hDB, hV, hd⟩ := T
  unfold fPl_readNext fM_readNext
  obtain ⟨rx1, wx1, rm1, wm1, g1, g2, ⟨k1, v1, w1, a1, p1, K1, ha⟩, g4⟩ := t_go E K (Or.inl rfl)
  rw [g1, g2, h2]
  simp only [Option.bind_some, zlet]
  rcases t_person (fr := 22) E.1.1 W K1 hP r6 hXP (by omega) hMP with ⟨q, q1, q2, q3, q4⟩ | ⟨rx', rm', f1, f2, f3, f4, f5⟩
  · have q4' : fM_looksAt rm1 wm1 nm rs 22 (nI P) = _ := q4
    have hK1 := tokR_up K1 (j := 18) (x := nI q) (by omega)
    have hF1 : mF rm (zup rm1 18 (nI q)) := mF_trans (mG_F g4) (mF_up mF_rfl (by omega))
    have hal := (hV.2.1 q (by omega)).1
    have hml := (hV.2.2.1 q (by omega)).1
    rw [q3, q4']
    simp only [Option.bind_some, if_true, zup_s]
    rw [x_fol (show q < 6 by omega), hd.2.2.2.2.1 q (by omega), x_way (show q < 6 by omega), hd.2.2.2.2.2.2.2.1 q (by omega), show (23 : Int32) + nI q = nI (23 + q) from nI_add 23 q, show (35 : Int32) + nI q = nI (35 + q) from nI_add 35 q]
    have z23 : zrd h 89 (nI (23 + q)) = some (nI (dA A q)) := by rw [zrd_n (by omega) (by omega), hD.2.2.1 q (by omega)]
    have z35 : zrd h 89 (nI (35 + q)) = some (nI (dM A q)) := by rw [zrd_n (by omega) (by omega), hD.2.2.2.2.1 q (by omega)]
    rw [z23, z35]
    simp only [Option.bind_some]
    by_cases eA : dA A q = 0
    · rw [if_pos ((nI_m1 (by omega)).mpr eA), if_pos ((nI_le0 (by omega)).mpr eA)]
      by_cases e8 : dM A q = 8
      · rw [if_neg (show ¬ nI (dM A q) < 8 from nI_nlt (b := 8) (by omega) (by omega)), if_pos ((nI_k8 (by omega)).mpr e8), x_fail (tok_8 K1), m_bad]
        simp only [Option.bind_some]
        have hdead : ¬ zup rx1 8 4 8 = 0 := by rw [zup_s]; decide
        rw [d_go hdead]
        simp only [Option.bind_some]
        rw [d_corner hdead]
        simp only [Option.bind_some]
        rw [d_good hdead, if_neg (by decide), d_go hdead]
        exact ⟨_, _, _, _, _, _, _, _, rfl, rfl, mF_trans hF1 m_badF, Or.inr ⟨rfl, t_fl (kd := 4) (rm0 := rm) hK1 E.1.1 (by omega) (by omega)⟩⟩
      · rw [if_pos (show nI (dM A q) < 8 from nI_lt (b := 8) (by omega) (by omega)), if_neg (fun h => e8 ((nI_k8 (by omega)).mp h))]
        obtain ⟨rx2, wx2, rm2, wm2, u1, u2, ⟨k2, v2, w2, a2, p2, K2, ha2⟩, u4⟩ := t_go E hK1 (Or.inl q2)
        rw [u1, u2, h0]
        simp only [Option.bind_some]
        have hF2 : mF rm rm2 := mF_trans hF1 (mG_F u4)
        rcases t_corner (fr := 14) E.1.1 W K2 hC r4 hX (by omega) hM with ⟨c, c1, c2, c3, c4⟩ | ⟨rx', rm', f1, f2, f3, f4, f5⟩
        · have c4' : fM_looksAt rm2 wm2 nm rs 14 (nI C) = _ := c4
          have hK2 := tokR_up K2 (j := 18) (x := nI c) (by omega)
          have hF2' : mF rm (zup rm2 18 (nI c)) := mF_trans hF2 (mF_up mF_rfl (by omega))
          rw [c3, c4']
          simp only [Option.bind_some, if_true, zup_s]
          rw [tok_good K2, if_pos rfl]
          have hE := aEnd_lt hV hP q1
          obtain ⟨wa', lf', s1, s2, s3⟩ := x_send hC hP r4 hBC hb hV hd q1 c1
          rw [s1]
          simp only [Option.bind_some]
          have hwhy : aWhyS B A q c = if (B (aEnd A q)).testBit c then 0 else 3 := by unfold aWhyS; rw [if_pos eA, if_neg e8]
          have hlast : (if nI (dM A q) = 0 then (zrd h 89 (11 + nI q)).bind (fun v23 => (zrd h 89 (3 + v23)).bind (fun v14 => if fM_bitOf v14 (nI c) = true then (zwr h 89 (41 + 8 * nI q + nI (dM A q)) (nI c)).bind (fun r0_7v16 => (zrd r0_7v16 89 (nI (35 + q))).bind (fun v17 => (zwr r0_7v16 89 (nI (35 + q)) (v17 + 1)).bind (fun r0_7v18 => (fM_next (zup rm2 18 (nI c)) wm2 mt).bind (fun y19 => some (true, y19.1, y19.2, r0_7v18))))) else (fM_bad (zup rm2 18 (nI c)) 3).bind (fun y20 => some (y20.1, y20.2, wm2, h)))) else (zrd h 89 (41 + 8 * nI q + nI (dM A q) - 1)).bind (fun v24 => (zrd h 89 (3 + v24)).bind (fun v14 => if fM_bitOf v14 (nI c) = true then (zwr h 89 (41 + 8 * nI q + nI (dM A q)) (nI c)).bind (fun r0_7v16 => (zrd r0_7v16 89 (nI (35 + q))).bind (fun v17 => (zwr r0_7v16 89 (nI (35 + q)) (v17 + 1)).bind (fun r0_7v18 => (fM_next (zup rm2 18 (nI c)) wm2 mt).bind (fun y19 => some (true, y19.1, y19.2, r0_7v18))))) else (fM_bad (zup rm2 18 (nI c)) 3).bind (fun y20 => some (y20.1, y20.2, wm2, h))))) = (if (B (aEnd A q)).testBit c = true then (zwr h 89 (41 + 8 * nI q + nI (dM A q)) (nI c)).bind (fun r0_7v16 => (zrd r0_7v16 89 (nI (35 + q))).bind (fun v17 => (zwr r0_7v16 89 (nI (35 + q)) (v17 + 1)).bind (fun r0_7v18 => (fM_next (zup rm2 18 (nI c)) wm2 mt).bind (fun y19 => some (true, y19.1, y19.2, r0_7v18))))) else (fM_bad (zup rm2 18 (nI c)) 3).bind (fun y20 => some (y20.1, y20.2, wm2, h))) := by
            have hBl : ∀ x, x < 8 → B x < 256 := fun x hx => p_BC_lt hC hBC hx
            unfold aEnd at hE ⊢
            by_cases e0 : dM A q = 0
            · rw [if_pos e0] at hE ⊢
              rw [if_pos ((nI_e0 (by omega)).mpr e0), show (11 : Int32) + nI q = nI (11 + q) from nI_add 11 q, zrd_n (f := h) (by omega) (by omega), hD.1 q q1]
              simp only [Option.bind_some]
              rw [z_3a, zrd_n (f := h) (by omega) (by omega), h3 _ (by omega)]
              simp only [Option.bind_some]
              rw [z_bo (hBl _ (by omega)) (by omega)]
            · rw [if_neg e0] at hE ⊢
              rw [if_neg (fun h => e0 ((nI_e0 (by omega)).mp h)), show (41 : Int32) + 8 * nI q = nI (41 + 8 * q) by rw [z_8x]; exact nI_add 41 (8 * q), nI_add, nI_p1 (by omega), zrd_n (f := h) (by omega) (by omega), show 41 + 8 * q + dM A q - 1 = 41 + 8 * q + (dM A q - 1) by omega, hD.2.2.2.2.2 q _ (by omega) (by omega)]
              simp only [Option.bind_some]
              rw [z_3a, zrd_n (f := h) (by omega) (by omega), h3 _ (by omega)]
              simp only [Option.bind_some]
              rw [z_bo (hBl _ (by omega)) (by omega)]
          rw [hlast]
          cases eb : (B (aEnd A q)).testBit c with
          | true =>
            rw [eb, if_pos rfl] at hwhy
            rw [if_pos rfl, hwhy, if_pos (show nI 0 = 0 from rfl)]
            obtain ⟨rx3, wx3, rm3, wm3, y1, y2, ⟨k3, v3, w3, a3, p3, K3, ha3⟩, y4⟩ := t_go E hK2 (Or.inl c2)
            rw [y1, y2, show (41 : Int32) + 8 * nI q = nI (41 + 8 * q) by rw [z_8x]; exact nI_add 41 (8 * q), nI_add, zwr_n (f := h) (by omega) (by omega)]
            simp only [Option.bind_some]
            rw [zrd_n (f := zup h (41 + 8 * q + dM A q) (nI c)) (by omega) (by omega), zup_n (by omega), hD.2.2.2.2.1 q (by omega)]
            simp only [Option.bind_some, nI_1]
            rw [zwr_n (f := zup h (41 + 8 * q + dM A q) (nI c)) (by omega) (by omega)]
            simp only [Option.bind_some]
            obtain ⟨z1, z2, z3, z4, z5, z6⟩ := hD
            refine ⟨_, _, _, _, _, _, _, _, rfl, rfl, mF_trans hF2' (mG_F y4), Or.inl ⟨rfl, ⟨k3, v3, w3, a3, p3, K3, by omega⟩, aSend q c A, ⟨hC, hS, hP, r4, r5, r6, hb, hBC, hX, hXP⟩, ⟨?_, ?_, ?_, fun x hx => ?_, hM, hMP⟩, ⟨fun x hx => ?_, fun x hx => ?_, fun x hx => ?_, fun x hx hn => ?_, fun x hx => ?_, fun x i hx hi => ?_⟩, tDB_M hDB rfl rfl rfl rfl rfl rfl, aSend_V hV q1 c1 (by omega), s2 hwhy⟩⟩
            · rw [zup_n (by omega), zup_n (by omega)]; exact h0
            · rw [zup_n (by omega), zup_n (by omega)]; exact h1
            · rw [zup_n (by omega), zup_n (by omega)]; exact h2
            · rw [zup_n (by omega), zup_n (by omega)]; exact h3 x hx
            · rw [zup_n (by omega), zup_n (by omega)]; exact z1 x hx
            · rw [zup_n (by omega), zup_n (by omega)]; exact z2 x hx
            · rw [zup_n (by omega), zup_n (by omega)]; exact z3 x hx
            · rw [zup_n (by omega), zup_n (by omega)]; exact z4 x hx hn
            · show zup (zup h (41 + 8 * q + dM A q) (nI c)) (35 + q) (nI (dM A q + 1)) (35 + x) = nI (zup (dM A) q (dM A q + 1) x)
              by_cases e : x = q
              · rw [e, zup_s, zup_s]
              · rw [zup_n (by omega), zup_n (by omega), zup_n e]; exact z5 x hx
            · have hi' : i < zup (dM A) q (dM A q + 1) x := hi
              show zup (zup h (41 + 8 * q + dM A q) (nI c)) (35 + q) (nI (dM A q + 1)) (41 + 8 * x + i) = nI (if x = q ∧ i = dM A q then c else dY A x i)
              have hmx := (hV.2.2.1 x hx).1
              rw [zup_n (by omega)]
              by_cases e : x = q
              · subst e
                rw [zup_s] at hi'
                by_cases e2 : i = dM A x
                · subst e2; rw [zup_s, if_pos ⟨rfl, rfl⟩]
                · rw [zup_n (by omega), if_neg (show ¬ (x = x ∧ i = dM A x) from fun h => e2 h.2)]; exact z6 x i hx (by omega)
              · rw [zup_n e] at hi'
                rw [zup_n (by omega), if_neg (show ¬ (x = q ∧ i = dM A q) from fun h => e h.1)]; exact z6 x i hx hi'
          | false =>
            rw [eb, if_neg (by decide)] at hwhy
            rw [hwhy, if_neg (show ¬ nI 3 = 0 by decide), if_neg (show ¬ false = true by decide), x_fail (tok_8 K2), m_bad]
            simp only [Option.bind_some]
            rw [d_go (by rw [zup_s]; decide)]
            exact ⟨_, _, _, _, _, _, _, _, rfl, rfl, mF_trans hF2' m_badF, Or.inr ⟨rfl, t_fl (kd := 3) (rm0 := rm) hK2 E.1.1 (by omega) (by omega)⟩⟩
        · have f3' : fM_looksAt rm2 wm2 nm rs 14 (nI C) = _ := f3
          rw [f2, f3']
          simp only [Option.bind_some, Bool.false_eq_true, if_false]
          rw [d_good f1, if_neg (by decide), d_go f1]
          exact ⟨_, _, _, _, _, _, _, _, rfl, rfl, mF_trans hF2 f5, Or.inr ⟨rfl, f4⟩⟩
    · rw [if_neg (fun h => eA ((nI_m1 (by omega)).mp h)), if_neg (fun h => eA ((nI_le0 (by omega)).mp h)), x_fail (tok_8 K1), m_bad]
      simp only [Option.bind_some]
      have hdead : ¬ zup rx1 8 3 8 = 0 := by rw [zup_s]; decide
      have hJ : ∀ {β : Type} (X : β), (if nI (dM A q) < 8 then X else X) = X := fun X => by split <;> rfl
      rw [d_fail hdead]
      simp only [Option.bind_some]
      rw [hJ, d_go hdead]
      simp only [Option.bind_some]
      rw [d_corner hdead]
      simp only [Option.bind_some]
      rw [d_good hdead, if_neg (by decide), d_go hdead]
      exact ⟨_, _, _, _, _, _, _, _, rfl, rfl, mF_trans hF1 m_badF, Or.inr ⟨rfl, t_fl (kd := 3) (rm0 := rm) hK1 E.1.1 (by omega) (by omega)⟩⟩
  · have f3' : fM_looksAt rm1 wm1 nm rs 22 (nI P) = _ := f3
    rw [f2, f3']
    simp only [Option.bind_some, Bool.false_eq_true, if_false]
    rw [x_folm, x_waym]
    simp only [Option.bind_some, if_true]
    rw [if_pos (show (0 : Int32) < 8 by decide), d_go f1]
    simp only [Option.bind_some]
    rw [d_corner f1]
    simp only [Option.bind_some]
    rw [d_good f1, if_neg (by decide), d_go f1]
    exact ⟨_, _, _, _, _, _, _, _, rfl, rfl, mF_trans (mG_F g4) f5, Or.inr ⟨rfl, f4⟩⟩
theorem l_follows (E : tE n L b tp tb mt) (W : wE tw rs) (K : tokR n L rx wx rm wm 1 v w a p) (T : tT C S P B nC nP A rp bs cn pn f pl bu le di wa lf ly pr h nm) :
    ∃ rx' wx' le' di' lf' ok rm' wm' h', fPl_readFollows rp pn rx wx tp tb tw le di lf = some (rx', wx', le', di', lf') ∧ fM_readFollows rm wm mt h nm rs = some (ok, rm', wm', h') ∧ mF rm rm' ∧ ((ok = true ∧ tOk n L a rx' wx' rm' wm' ∧ ∃ A', tT C S P B nC nP A' rp bs cn pn f pl bu le' di' wa lf' ly pr h' nm) ∨ (ok = false ∧ tFl rx' rm')) := by
  obtain ⟨⟨hC, hS, hP, r4, r5, r6, hb, hBC, hX, hXP⟩, ⟨h0, h1, h2, h3, hM, hMP⟩, hD, hDB, hV, hd⟩ := T
  unfold fPl_readFollows fM_readFollows
  obtain ⟨rx1, wx1, rm1, wm1, g1, g2, ⟨k1, v1, w1, a1, p1, K1, ha⟩, g4⟩ := t_go E K (Or.inl rfl)
  rw [g1, g2, h2]
  simp only [Option.bind_some, zlet]
  rcases t_person (fr := 22) E.1.1 W K1 hP r6 hXP (by omega) hMP with ⟨q, q1, q2, q3, q4⟩ | ⟨rx', rm', f1, f2, f3, f4, f5⟩
  · have q4' : fM_looksAt rm1 wm1 nm rs 22 (nI P) = _ := q4
    have hK1 := tokR_up K1 (j := 18) (x := nI q) (by omega)
    have hF1 : mF rm (zup rm1 18 (nI q)) := mF_trans (mG_F g4) (mF_up mF_rfl (by omega))
    have hal := (hV.2.1 q (by omega)).1
    have hml := (hV.2.2.1 q (by omega)).1
    rw [q3, q4']
    simp only [Option.bind_some, if_true, zup_s]
    rw [x_fol (show q < 6 by omega), hd.2.2.2.2.1 q (by omega), x_way (show q < 6 by omega), hd.2.2.2.2.2.2.2.1 q (by omega), show (23 : Int32) + nI q = nI (23 + q) from nI_add 23 q, show (35 : Int32) + nI q = nI (35 + q) from nI_add 35 q]
    have z23 : zrd h 89 (nI (23 + q)) = some (nI (dA A q)) := by rw [zrd_n (by omega) (by omega), hD.2.2.1 q (by omega)]
    have z35 : zrd h 89 (nI (35 + q)) = some (nI (dM A q)) := by rw [zrd_n (by omega) (by omega), hD.2.2.2.2.1 q (by omega)]
    rw [z23, z35]
    simp only [Option.bind_some]
    have hbad : ¬ (dA A q = 0 ∧ dM A q = 0) → ∃ rx' wx' le' di' lf' ok rm' wm' h', ((fRd_fail rx1 3).bind fun y19 => (fRd_goOn y19 wx1 tp tb).bind fun y6 => (fRd_needPerson y6.1 y6.2 tw rp pn).bind fun y7 => if nI q = y7.1 then (fRd_fail y7.2 3).bind fun y17 => (fRd_goOn y17 y6.2 tp tb).bind fun y10 => (fRd_takeNumber y10.1 y10.2 tp tb 1 5).bind fun y11 => if fRd_isGood y11.2.1 = true then (fDy_takesOn le di lf y7.1 (nI q) y11.1).bind fun y14 => some (y11.2.1, y11.2.2, y14.2.1, y14.2.2.1, y14.2.2.2) else some (y11.2.1, y11.2.2, le, di, lf) else (fRd_goOn y7.2 y6.2 tp tb).bind fun y10 => (fRd_takeNumber y10.1 y10.2 tp tb 1 5).bind fun y11 => if fRd_isGood y11.2.1 = true then (fDy_takesOn le di lf y7.1 (nI q) y11.1).bind fun y14 => some (y11.2.1, y11.2.2, y14.2.1, y14.2.2.1, y14.2.2.2) else some (y11.2.1, y11.2.2, le, di, lf)) = some (rx', wx', le', di', lf') ∧ ((fM_bad (zup rm1 18 (nI q)) 3).bind fun y20 => some (y20.1, y20.2, wm1, h)) = some (ok, rm', wm', h') ∧ mF rm rm' ∧ ((ok = true ∧ tOk n L a rx' wx' rm' wm' ∧ ∃ A', tT C S P B nC nP A' rp bs cn pn f pl bu le' di' wa lf' ly pr h' nm) ∨ (ok = false ∧ tFl rx' rm')) := by
      intro _
      have hdead : ¬ zup rx1 8 3 8 = 0 := by rw [zup_s]; decide
      rw [x_fail (tok_8 K1), m_bad]
      simp only [Option.bind_some]
      rw [d_go hdead]
      simp only [Option.bind_some]
      rw [d_person hdead]
      simp only [Option.bind_some]
      rw [if_neg (nI_nm1 (by omega)), d_go hdead]
      simp only [Option.bind_some]
      rw [d_number hdead]
      simp only [Option.bind_some]
      rw [d_good hdead, if_neg (by decide)]
      exact ⟨_, _, _, _, _, _, _, _, _, rfl, rfl, mF_trans hF1 m_badF, Or.inr ⟨rfl, t_fl (kd := 3) (rm0 := rm) hK1 E.1.1 (by omega) (by omega)⟩⟩
    by_cases eA : dA A q = 0
    · rw [if_pos ((nI_m1 (by omega)).mpr eA), if_neg (show ¬ (0 : Int32) < nI (dA A q) by rw [eA]; decide)]
      by_cases e0 : dM A q = 0
      · rw [if_pos ((nI_le0 (by omega)).mpr e0), if_pos ((nI_le0 (by omega)).mpr e0)]
        obtain ⟨rx2, wx2, rm2, wm2, u1, u2, ⟨k2, v2, w2, a2, p2, K2, ha2⟩, u4⟩ := t_go E hK1 (Or.inl q2)
        rw [u1, u2]
        simp only [Option.bind_some]
        have hF2 : mF rm rm2 := mF_trans hF1 (mG_F u4)
        rcases t_person (fr := 22) E.1.1 W K2 hP r6 hXP (by omega) hMP with ⟨r, c1, c2, c3, c4⟩ | ⟨rx', rm', f1, f2, f3, f4, f5⟩
        · have c4' : fM_looksAt rm2 wm2 nm rs 22 (nI P) = _ := c4
          have hK2 := tokR_up K2 (j := 18) (x := nI r) (by omega)
          have hF2' : mF rm (zup rm2 18 (nI r)) := mF_trans hF2 (mF_up mF_rfl (by omega))
          rw [c3, c4']
          simp only [Option.bind_some, if_true, zup_s]
          by_cases eqr : q = r
          · rw [if_pos (by rw [eqr]), if_pos (by rw [eqr]), x_fail (tok_8 K2), m_bad]
            simp only [Option.bind_some]
            have hdead : ¬ zup rx2 8 3 8 = 0 := by rw [zup_s]; decide
            rw [d_go hdead]
            simp only [Option.bind_some]
            rw [d_number hdead]
            simp only [Option.bind_some]
            rw [d_good hdead, if_neg (by decide)]
            exact ⟨_, _, _, _, _, _, _, _, _, rfl, rfl, mF_trans hF2' m_badF, Or.inr ⟨rfl, t_fl (kd := 3) (rm0 := rm) hK2 E.1.1 (by omega) (by omega)⟩⟩
          · rw [if_neg (fun h => eqr ((nI_eq (by omega) (by omega)).mp h)), if_neg (fun h => eqr ((nI_eq (by omega) (by omega)).mp h).symm)]
            obtain ⟨rx3, wx3, rm3, wm3, y1, y2, ⟨k3, v3, w3, a3, p3, K3, ha3⟩, y4⟩ := t_go E hK2 (Or.inl c2)
            rw [y1, y2]
            simp only [Option.bind_some]
            have hF3 : mF rm rm3 := mF_trans hF2' (mG_F y4)
            unfold fM_puts
            rcases t_number (lo := 1) (hi := 5) E K3 (by omega) (by omega) with ⟨n1, n2, rx4, wx4, rm4, wm4, n3, n4, n5, ⟨k4, v4, w4, a4, p4, K4, ha4⟩, n7⟩ | ⟨x, rx', rm', s1, s2, s3, s4, s5⟩
            · have n3' : fRd_takeNumber rx3 wx3 tp tb 1 5 = _ := n3
              have n4' : fM_takes rm3 wm3 mt 1 5 = _ := n4
              rw [n3', n4']
              simp only [Option.bind_some, if_true]
              obtain ⟨le', di', lf', x1, x2, x3⟩ := x_hire (n := v3) hP hV hd c1 q1
              have hwhy : aWhyH A q = 0 := by unfold aWhyH; rw [if_pos eA, if_pos e0]
              rw [tok_good K4, if_pos rfl, x1, n5, show (29 : Int32) + nI q = nI (29 + q) from nI_add 29 q, zwr_n (f := h) (by omega) (by omega)]
              simp only [Option.bind_some, if_true, nI_1]
              rw [zwr_n (f := zup h (29 + q) (nI v3)) (by omega) (by omega)]
              simp only [Option.bind_some]
              obtain ⟨z1, z2, z3, z4, z5, z6⟩ := hD
              refine ⟨_, _, _, _, _, _, _, _, _, rfl, rfl, mF_trans hF3 n7, Or.inl ⟨rfl, ⟨k4, v4, w4, a4, p4, K4, by omega⟩, aHire r q v3 A, ⟨hC, hS, hP, r4, r5, r6, hb, hBC, hX, hXP⟩, ⟨?_, ?_, ?_, fun x hx => ?_, hM, hMP⟩, ⟨fun x hx => ?_, fun x hx => ?_, fun x hx => ?_, fun x hx hn => ?_, fun x hx => ?_, fun x i hx hi => ?_⟩, tDB_M hDB rfl rfl rfl rfl rfl rfl, aHire_V hV c1 q1 n1 n2, x2 hwhy⟩⟩
              · rw [zup_n (by omega), zup_n (by omega)]; exact h0
              · rw [zup_n (by omega), zup_n (by omega)]; exact h1
              · rw [zup_n (by omega), zup_n (by omega)]; exact h2
              · rw [zup_n (by omega), zup_n (by omega)]; exact h3 x hx
              · rw [zup_n (by omega), zup_n (by omega)]; exact z1 x hx
              · rw [zup_n (by omega), zup_n (by omega)]; exact z2 x hx
              · show zup (zup h (29 + q) (nI v3)) (23 + q) (nI (r + 1)) (23 + x) = nI (zup (dA A) q (r + 1) x)
                by_cases e : x = q
                · rw [e, zup_s, zup_s]
                · rw [zup_n (by omega), zup_n (by omega), zup_n e]; exact z3 x hx
              · have hn' : zup (dA A) q (r + 1) x ≠ 0 := hn
                show zup (zup h (29 + q) (nI v3)) (23 + q) (nI (r + 1)) (29 + x) = nI (zup (dH A) q v3 x)
                rw [zup_n (by omega)]
                by_cases e : x = q
                · rw [e, zup_s, zup_s]
                · rw [zup_n e] at hn'
                  rw [zup_n (by omega), zup_n e]; exact z4 x hx hn'
              · rw [zup_n (by omega), zup_n (by omega)]; exact z5 x hx
              · rw [zup_n (by omega), zup_n (by omega)]; exact z6 x i hx hi
            · have s2' : fRd_takeNumber rx3 wx3 tp tb 1 5 = _ := s2
              have s3' : fM_takes rm3 wm3 mt 1 5 = _ := s3
              rw [s2', s3']
              simp only [Option.bind_some, Bool.false_eq_true, if_false]
              rw [d_good s1, if_neg (by decide)]
              exact ⟨_, _, _, _, _, _, _, _, _, rfl, rfl, mF_trans hF3 s5, Or.inr ⟨rfl, s4⟩⟩
        · have f3' : fM_looksAt rm2 wm2 nm rs 22 (nI P) = _ := f3
          rw [f2, f3']
          simp only [Option.bind_some, Bool.false_eq_true, if_false]
          rw [if_neg (nI_nm1 (by omega)), d_go f1]
          simp only [Option.bind_some]
          rw [d_number f1]
          simp only [Option.bind_some]
          rw [d_good f1, if_neg (by decide)]
          exact ⟨_, _, _, _, _, _, _, _, _, rfl, rfl, mF_trans hF2 f5, Or.inr ⟨rfl, f4⟩⟩
      · rw [if_neg (fun h => e0 ((nI_le0 (by omega)).mp h)), if_neg (fun h => e0 ((nI_le0 (by omega)).mp h))]
        exact hbad (fun h => e0 h.2)
    · rw [if_neg (fun h => eA ((nI_m1 (by omega)).mp h)), if_pos (show (0 : Int32) < nI (dA A q) from nI_lt (a := 0) (by omega) (by omega))]
      exact hbad (fun h => eA h.1)
  · have f3' : fM_looksAt rm1 wm1 nm rs 22 (nI P) = _ := f3
    rw [f2, f3']
    simp only [Option.bind_some, Bool.false_eq_true, if_false]
    rw [x_folm, x_waym]
    simp only [Option.bind_some, if_true]
    rw [if_pos (show (0 : Int32) ≤ 0 by decide), d_go f1]
    simp only [Option.bind_some]
    rw [d_person f1]
    simp only [Option.bind_some, if_true]
    rw [d_fail f1]
    simp only [Option.bind_some]
    rw [d_go f1]
    simp only [Option.bind_some]
    rw [d_number f1]
    simp only [Option.bind_some]
    rw [d_good f1, if_neg (by decide)]
    exact ⟨_, _, _, _, _, _, _, _, _, rfl, rfl, mF_trans (mG_F g4) f5, Or.inr ⟨rfl, f4⟩⟩
end LN
