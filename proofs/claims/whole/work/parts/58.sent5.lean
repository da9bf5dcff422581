/-! ===== what comes behind an operand ===== -/
noncomputable def jA (r pa ot nu pe rx : Nat → Int32) (wx : Nat → Int64) (tp tb : Nat → Int32) (y1 : Int32) : Option s7 :=
  (fSn_settleWaiting r pa ot nu pe y1).bind (fun y2 => (fSn_addWaiting y2.1 pe y1).bind (fun y3 => (fRd_goOn rx wx tp tb).bind (fun y5 => some (zup y3.1 9 1, y2.2.1, y2.2.2.1, y2.2.2.2, y3.2, y5.1, y5.2))))
noncomputable def jB (r pa ot nu pe rx : Nat → Int32) (wx : Nat → Int64) (tp tb : Nat → Int32) : Option s7 :=
  (fSn_settleBracket r pa ot nu pe).bind (fun y10 => if y10.1 = true then (fSn_endOne y10.2.1 y10.2.2.1 y10.2.2.2.1 y10.2.2.2.2 pe).bind (fun y12 => (fRd_goOn rx wx tp tb).bind (fun y13 => some (y12.1, y12.2.1, y12.2.2.1, y12.2.2.2, pe, y13.1, y13.2))) else (fRd_fail rx 1).bind (fun y14 => some (y10.2.1, y10.2.2.1, y10.2.2.2.1, y10.2.2.2.2, pe, y14, wx)))
theorem readJoint_eq {r pa ot nu pe rx tp tb : Nat → Int32} {wx tw : Nat → Int64} : fSn_readJoint r pa ot nu pe rx wx tp tb tw = (fRd_toldWord rx wx tw).bind (fun y1 => if y1 = 11 then jA r pa ot nu pe rx wx tp tb y1 else if y1 = 10 then jA r pa ot nu pe rx wx tp tb y1 else if fRd_isSign rx 41 = true then jB r pa ot nu pe rx wx tp tb else (fRd_fail rx 1).bind (fun y15 => some (r, pa, ot, nu, pe, y15, wx))) := rfl
noncomputable def bA (wm : Nat → Int64) (mt sk r1 rd1 : Nat → Int32) : Option m5 :=
  (fM_joins r1 rd1 sk (if fM_isWord r1 wm 6385252 = true then (21 : Int32) else 22)).bind (fun y4 => (zwr sk 45 (y4.1 46) (if fM_isWord y4.1 wm 6385252 = true then (21 : Int32) else 22)).bind (fun sk7 => (fM_next (zup (zup y4.1 46 (y4.1 46 + 1)) 48 0) wm mt).bind (fun y10 => some (true, y10.1, y10.2, y4.2, sk7))))
noncomputable def bB (wm : Nat → Int64) (mt sk r1 rd1 : Nat → Int32) : Option m5 :=
  (fM_joins r1 rd1 sk 22).bind (fun y14 => if fM_isSign y14.1 41 = true then if y14.1 46 = 0 then (fM_bad y14.1 1).bind (fun y17 => some (y17.1, y17.2, wm, y14.2, sk)) else (fM_next (zup (zup y14.1 46 (y14.1 46 - 1)) 47 (zup y14.1 46 (y14.1 46 - 1) 47 - 1)) wm mt).bind (fun y20 => some (true, y20.1, y20.2, y14.2, sk)) else (fM_bad y14.1 1).bind (fun y21 => some (y21.1, y21.2, wm, y14.2, sk)))
theorem behind_eq {rm mt rd sk : Nat → Int32} {wm : Nat → Int64} : fM_behind rm wm mt rd sk = (fM_nots rm rd sk).bind (fun y1 => if fM_isWord y1.1 wm 6385252 = true then bA wm mt sk y1.1 y1.2 else if fM_isWord y1.1 wm 28530 = true then bA wm mt sk y1.1 y1.2 else bB wm mt sk y1.1 y1.2) := rfl
section SN
variable {n L k v a p on : Nat} {b : Nat → Nat} {w : List Nat} {st stm : List Nat} {cd cdm : List aI} {tp tb mt rx rm r pa ot nu pe rd sk : Nat → Int32} {wx wm tw rs : Nat → Int64}
theorem s_joint (E : tE n L b tp tb mt) (W : wE tw rs) (K : tokR n L rx wx rm wm k v w a p) (z : zX st cd on false r pa ot nu pe) (zm : zMo stm cdm on false rm rd sk) (hs : sNot stm cdm = (st, cd)) (I : sI st cd on false) :
    ∃ X Y, fSn_readJoint r pa ot nu pe rx wx tp tb tw = some X ∧ fM_behind rm wm mt rd sk = some Y ∧ sRes n L a rm X Y := by
  obtain ⟨i1, i2, i3, i4, i5, i6, i7, i8⟩ := id I
  simp only [Bool.false_eq_true, if_false] at i1 i6
  have ht := tW_le k w
  have hn := E.1.1
  have hD : zD r := zX_D z (by omega)
  have hsl := sNot_len stm cdm
  rw [hs] at hsl
  obtain ⟨rm1, rd1, n1, n2, n3⟩ := m_nots stm cdm on false rm rd sk (by have := hsl.1; simp only at this; omega) zm
  rw [hs] at n2
  have K1 : tokR n L rx wx rm1 wm k v w a p := tokR_cong K (fun j hj => n3 j (by omega))
  have hop : fRd_isSign rx 41 = decide (k = 3 ∧ v = 41) := x_isSg K (c := 41) (by unfold isSg; omega)
  have hxe : fSn_readJoint r pa ot nu pe rx wx tp tb tw = if tW k w = 11 ∨ tW k w = 10 then jA r pa ot nu pe rx wx tp tb (nI (tW k w)) else if k = 3 ∧ v = 41 then jB r pa ot nu pe rx wx tp tb else some (r, pa, ot, nu, pe, zup rx 8 1, wx) := by
    rw [readJoint_eq, x_told K W.1, Option.bind_some, hop, x_fail (tok_8 K), Option.bind_some]
    by_cases e : tW k w < 22
    · rw [if_pos e]
      by_cases e1 : tW k w = 11
      · rw [if_pos (by rw [e1]; rfl), if_pos (Or.inl e1)]
      · rw [if_neg (show ¬ nI (tW k w) = 11 from fun h => e1 ((nI_eq (b := 11) (by omega) (by omega)).mp h))]
        by_cases e2 : tW k w = 10
        · rw [if_pos (by rw [e2]; rfl), if_pos (Or.inr e2)]
        · rw [if_neg (show ¬ nI (tW k w) = 10 from fun h => e2 ((nI_k10 (by omega)).mp h)), if_neg (show ¬ (tW k w = 11 ∨ tW k w = 10) by omega)]
          simp only [decide_eq_true_eq]
    · rw [if_neg e, if_neg (by decide), if_neg (by decide), if_neg (show ¬ (tW k w = 11 ∨ tW k w = 10) by omega)]
      simp only [decide_eq_true_eq]
  have hand : ∀ {r' : Nat → Int32}, tokR n L rx wx r' wm k v w a p → fM_isWord r' wm 6385252 = decide (tW k w = 11) := fun h => m_isW h (j := 11) (by omega) (by decide)
  have hor : fM_isWord rm1 wm 28530 = decide (tW k w = 10) := m_isW K1 (j := 10) (by omega) (by decide)
  have hme : fM_behind rm wm mt rd sk = if tW k w = 11 ∨ tW k w = 10 then bA wm mt sk rm1 rd1 else bB wm mt sk rm1 rd1 := by
    rw [behind_eq, n1, Option.bind_some, hand K1, hor]
    by_cases e1 : tW k w = 11
    · rw [decide_eq_true e1, if_pos rfl, if_pos (Or.inl e1)]
    · rw [decide_eq_false e1, if_neg (by decide)]
      by_cases e2 : tW k w = 10
      · rw [decide_eq_true e2, if_pos rfl, if_pos (Or.inr e2)]
      · rw [decide_eq_false e2, if_neg (by decide), if_neg (show ¬ (tW k w = 11 ∨ tW k w = 10) by omega)]
  rw [hxe, hme]
  by_cases hj : tW k w = 11 ∨ tW k w = 10
  · rw [if_pos hj, if_pos hj]
    -- and, or
    have hw : nI (tW k w) = if decide (tW k w = 10) then (10 : Int32) else 11 := by
      rcases hj with h | h <;> rw [h] <;> rfl
    have hwm : (if fM_isWord rm1 wm 6385252 = true then (21 : Int32) else 22) = if decide (tW k w = 10) then 22 else 21 := by
      rw [hand K1]
      rcases hj with h | h <;> rw [h] <;> rfl
    obtain ⟨r1, pa1, ot1, nu1, x1, x2, x3⟩ := x_join (decide (tW k w = 10)) hw (by omega) z
    obtain ⟨rm2, rd2, y1, y2, y3⟩ := m_join (decide (tW k w = 10)) hwm st cd on false rm1 rd1 sk (by omega) n2
    have I2 := sI_joins (decide (tW k w = 10)) st cd on I
    have hlen := sJoin_len (decide (tW k w = 10)) st cd
    revert x2 y2 I2 hlen
    generalize (sJoin (decide (tW k w = 10)) st cd).1 = st1
    generalize (sJoin (decide (tW k w = 10)) st cd).2 = cd1
    intro x2 y2 I2 hlen
    obtain ⟨j1, j2, j3, j4, j5, j6, j7, j8⟩ := I2
    simp only [Bool.false_eq_true, if_false] at j1 j6
    have K2 : tokR n L rx wx rm2 wm k v w a p := tokR_cong K1 (fun j hj => y3 j (by omega))
    have hk1 := tW_1 (k := k) (w := w) (by omega)
    obtain ⟨rx3, wx3, rm3, wm3, g1, g2, ⟨k3, v3, w3, a3, p3, K3, ha3⟩, g4⟩ := t_go E (tokR_up (tokR_up K2 (j := 46) (x := nI (st1.length + 1)) (by omega)) (j := 48) (x := 0) (by omega)) (Or.inl hk1)
    have hc : nI (tW k w) = nI (cS (if tW k w = 11 then 1 else 2)) := by
      rcases hj with h | h <;> rw [h] <;> rfl
    have hx : jA r pa ot nu pe rx wx tp tb (nI (tW k w)) = some (zup (zup r1 6 (nI (st1.length + 1))) 9 1, pa1, ot1, nu1, zup pe st1.length (nI (cS (if tW k w = 11 then 1 else 2))), rx3, wx3) := by
      unfold jA
      rw [x1, Option.bind_some]
      show (fSn_addWaiting r1 pe (nI (tW k w))).bind _ = _
      unfold fSn_addWaiting
      rw [x2.2.1, if_neg (zg40 (by omega)), zwr_n (by omega) (by omega)]
      simp only [Option.bind_some, zlet, nI_1]
      rw [g1, ← hc]; rfl
    have hm : bA wm mt sk rm1 rd1 = some (true, rm3, wm3, rd2, zup sk st1.length (nI (mS (if tW k w = 11 then 1 else 2)))) := by
      unfold bA
      rw [y1, Option.bind_some]
      have hv : (if fM_isWord rm2 wm 6385252 = true then (21 : Int32) else 22) = nI (mS (if tW k w = 11 then 1 else 2)) := by
        rw [hand K2]
        rcases hj with h | h <;> rw [h] <;> rfl
      show (zwr sk 45 (rm2 46) (if fM_isWord rm2 wm 6385252 = true then (21 : Int32) else 22)).bind _ = _
      rw [hv, y2.2.2.1, zwr_n (by omega) (by omega), Option.bind_some]
      show (fM_next (zup (zup rm2 46 (rm2 46 + 1)) 48 0) wm mt).bind _ = _
      rw [y2.2.2.1, nI_1, g2]; rfl
    have hwx : wiC ((if tW k w = 11 then 1 else 2) :: st1) = wiC st1 := by
      rw [wiC, if_neg (show ¬ ((if tW k w = 11 then 1 else 2) = 0 ∨ 3 ≤ (if tW k w = 11 then 1 else 2)) by split <;> omega), Nat.add_zero]
    refine ⟨_, _, hx, hm, mJ_trans (mJ_trans (mJ_H n3) (mJ_H y3)) (mJ_trans (mJ_up (mJ_up (fun _ _ => rfl) (by omega)) (by omega)) (mJ_of (mG_F g4))), Or.inl ⟨rfl, ⟨true, (if tW k w = 11 then 1 else 2) :: st1, cd1, on, (if tW k w = 11 then 1 else 2) :: st1, cd1, ?_, ?_, fun _ => ⟨rfl, rfl⟩, fun h => absurd h (by decide), ?_⟩, ⟨k3, v3, w3, a3, p3, K3, by omega⟩⟩⟩
    · obtain ⟨h5, h6, h7, h8, h9, hcd, hpd⟩ := x2
      refine ⟨?_, ?_, ?_, ?_, ?_, hcd, ?_, pdR_up (Nat.le_refl _) hpd⟩
      · show zup (zup r1 6 (nI (st1.length + 1))) 9 1 5 = _
        rw [zup_n (by omega), zup_n (by omega)]; exact h5
      · show zup (zup r1 6 (nI (st1.length + 1))) 9 1 6 = _
        rw [zup_n (by omega), zup_s]; rfl
      · show zup (zup r1 6 (nI (st1.length + 1))) 9 1 7 = _
        rw [zup_n (by omega), zup_n (by omega), hwx]; exact h7
      · show zup (zup r1 6 (nI (st1.length + 1))) 9 1 8 = _
        rw [zup_n (by omega), zup_n (by omega)]; exact h8
      · show zup (zup r1 6 (nI (st1.length + 1))) 9 1 9 = _
        rw [zup_s]; rfl
      · show zup pe st1.length _ st1.length = _
        rw [zup_s]
    · obtain ⟨q1, q2, q3, q4, q5, q6, q7⟩ := y2
      refine ⟨?_, ?_, ?_, ?_, ?_, q6, ?_, pdR_up (Nat.le_refl _) q7⟩
      · show rm3 44 = _
        rw [g4 44 (by omega), zup_n (by omega), zup_n (by omega)]; exact q1
      · show rm3 45 = _
        rw [g4 45 (by omega), zup_n (by omega), zup_n (by omega)]; exact q2
      · show rm3 46 = _
        rw [g4 46 (by omega), zup_n (by omega), zup_s]; rfl
      · show rm3 47 = _
        rw [g4 47 (by omega), zup_n (by omega), zup_n (by omega), hwx]; exact q4
      · show rm3 48 = _
        rw [g4 48 (by omega), zup_s]; rfl
      · show zup sk st1.length _ st1.length = _
        rw [zup_s]
    · refine ⟨?_, j2, by rw [hwx]; exact j3, ⟨fun _ => j5 rfl, j4⟩, fun h => absurd h (by decide), ?_, j7, j8⟩
      · rw [List.length_cons]; simp only [if_true]; omega
      · rw [bnC, if_pos (show (if tW k w = 11 then 1 else 2) = 1 ∨ (if tW k w = 11 then 1 else 2) = 2 by split <;> omega)]
        simp only [if_true]; omega
  · rw [if_neg hj, if_neg hj]
    -- the end of a bracket, or a fault
    obtain ⟨rm2, rd2, y1, y2, y3⟩ := m_join true (wv := 22) rfl st cd on false rm1 rd1 sk (by omega) n2
    have K2 : tokR n L rx wx rm2 wm k v w a p := tokR_cong K1 (fun j hj => y3 j (by omega))
    have hm41 : fM_isSign rm2 41 = decide (k = 3 ∧ v = 41) := m_isSg K2 (c := 41) (by unfold isSg; omega)
    have hJ2 : mJ rm rm2 := mJ_trans (mJ_H n3) (mJ_H y3)
    by_cases hb41 : k = 3 ∧ v = 41
    · rw [if_pos hb41]
      obtain ⟨r1, pa1, ot1, nu1, x1, x2, x3⟩ := x_join true (wv := 10) rfl (by omega) z
      have I2 := sI_joins true st cd on I
      have hlen := sJoin_len true st cd
      have hhd := sJoin_head st cd on I
      revert x2 y2 I2 hlen hhd
      generalize (sJoin true st cd).1 = st1
      generalize (sJoin true st cd).2 = cd1
      intro y2 x2 I2 hlen hhd
      obtain ⟨j1, j2, j3, j4, j5, j6, j7, j8⟩ := I2
      simp only [Bool.false_eq_true, if_false] at j1 j6
      have hlast := x_last x2 (by omega)
      rcases hhd with e0 | ⟨x, t, e0⟩
      · -- nothing to close
        subst e0
        have hx : jB r pa ot nu pe rx wx tp tb = some (r1, pa1, ot1, nu1, pe, zup rx 8 1, wx) := by
          unfold jB fSn_settleBracket
          rw [x1, Option.bind_some]
          show ((fSn_lastWaiting r1 pe).bind _).bind _ = _
          rw [hlast, Option.bind_some, if_neg (show ¬ lastS [] = 22 by decide), Option.bind_some]
          show (if false = true then _ else _) = _
          rw [if_neg (by decide), x_fail (tok_8 K)]; rfl
        have hm : bB wm mt sk rm1 rd1 = some (false, zup (zup rm2 15 1) 16 (zup rm2 15 1 12), wm, rd2, sk) := by
          unfold bB
          rw [y1, Option.bind_some]
          show (if fM_isSign rm2 41 = true then if rm2 46 = 0 then _ else _ else _) = _
          rw [hm41, decide_eq_true hb41, if_pos rfl, y2.2.2.1, if_pos (show nI (List.length ([] : List Nat)) = 0 from rfl), m_bad]; rfl
        refine ⟨_, _, hx, hm, sRes_fl (mJ_trans hJ2 (mJ_of m_badF)) rfl (t_fl (kd := 1) (rm0 := rm) K2 hn (by omega) (by omega)) (zX_D x2 (by omega))⟩
      · subst e0
        have hl1 : t.length + 1 ≤ 40 := by have := j1; rw [List.length_cons] at this; omega
        have hwt : wiC ((x + 3) :: t) = wiC t + 1 := by rw [wiC, if_pos (by omega)]
        have hbt : bnC ((x + 3) :: t) = bnC t := by rw [bnC, if_neg (by omega), Nat.add_zero]
        rw [hwt] at j3
        rw [hbt] at j6
        rw [List.length_cons] at j1
        obtain ⟨h5, h6, h7, h8, h9, hcd, hpd⟩ := id x2
        rw [List.length_cons] at h6
        rw [hwt] at h7
        have z3 : zX t cd1 on false (zup (zup r1 6 (r1 6 - 1)) 7 (zup r1 6 (r1 6 - 1) 7 - 1)) pa1 ot1 nu1 pe := by
          refine ⟨?_, ?_, ?_, ?_, ?_, hcd, hpd.2⟩
          · rw [zup_n (by omega), zup_n (by omega)]; exact h5
          · rw [zup_n (by omega), zup_s, h6, nI_pred]
          · rw [zup_s, zup_n (by omega), h7, nI_pred]
          · rw [zup_n (by omega), zup_n (by omega)]; exact h8
          · rw [zup_n (by omega), zup_n (by omega)]; exact h9
        obtain ⟨r4, pa4, ot4, nu4, e1, e2, e3⟩ := x_nots (by omega) (by omega) z3
        obtain ⟨q1, q2, q3, q4, q5, q6, q7⟩ := id y2
        rw [List.length_cons] at q3
        rw [hwt] at q4
        obtain ⟨rx3, wx3, rm3, wm3, g1, g2, ⟨k3, v3, w3, a3, p3, K3, ha3⟩, g4⟩ := t_go E (tokR_up (tokR_up K2 (j := 46) (x := nI t.length) (by omega)) (j := 47) (x := nI (wiC t + 1)) (by omega)) (Or.inr (Or.inr hb41.1))
        have hx : jB r pa ot nu pe rx wx tp tb = some (r4, pa4, ot4, nu4, pe, rx3, wx3) := by
          unfold jB fSn_settleBracket
          rw [x1, Option.bind_some]
          show ((fSn_lastWaiting r1 pe).bind _).bind _ = _
          rw [hlast, Option.bind_some, if_pos (show lastS ((x + 3) :: t) = 22 from rfl)]
          simp only [zlet, Option.bind_some]
          rw [if_pos trivial]
          show (fSn_endOne (zup (zup r1 6 (r1 6 - 1)) 7 (zup r1 6 (r1 6 - 1) 7 - 1)) pa1 ot1 nu1 pe).bind _ = _
          rw [e1, Option.bind_some, g1]; rfl
        have hm : bB wm mt sk rm1 rd1 = some (true, rm3, wm3, rd2, sk) := by
          unfold bB
          rw [y1, Option.bind_some]
          show (if fM_isSign rm2 41 = true then if rm2 46 = 0 then _ else (fM_next (zup (zup rm2 46 (rm2 46 - 1)) 47 (zup rm2 46 (rm2 46 - 1) 47 - 1)) wm mt).bind _ else _) = _
          rw [hm41, decide_eq_true hb41, if_pos rfl, q3, if_neg (nI_ne0 (by omega) (by omega)), nI_pred, zup_n (show 47 ≠ 46 by omega), q4, nI_pred, g2]; rfl
        have zm3 : zMo t cd1 on false rm3 rd2 sk := by
          refine ⟨?_, ?_, ?_, ?_, ?_, q6, q7.2⟩
          · rw [g4 44 (by omega), zup_n (by omega), zup_n (by omega)]; exact q1
          · rw [g4 45 (by omega), zup_n (by omega), zup_n (by omega)]; exact q2
          · rw [g4 46 (by omega), zup_n (by omega), zup_s]
          · rw [g4 47 (by omega), zup_s]
          · rw [g4 48 (by omega), zup_n (by omega), zup_n (by omega)]; exact q5
        exact ⟨_, _, hx, hm, mJ_trans hJ2 (mJ_trans (mJ_up (mJ_up (fun _ _ => rfl) (by omega)) (by omega)) (mJ_of (mG_F g4))), Or.inl ⟨rfl, ⟨false, _, _, on, t, cd1, e2, zm3, fun h => absurd h (by decide), fun _ => rfl, sI_nots t cd1 on (by omega) j2 (by omega) j4.2 j6 j7 j8⟩, ⟨k3, v3, w3, a3, p3, K3, by omega⟩⟩⟩
    · rw [if_neg hb41]
      have hm : bB wm mt sk rm1 rd1 = some (false, zup (zup rm2 15 1) 16 (zup rm2 15 1 12), wm, rd2, sk) := by
        unfold bB
        rw [y1, Option.bind_some]
        show (if fM_isSign rm2 41 = true then _ else _) = _
        rw [hm41, decide_eq_false hb41, if_neg (by decide), m_bad]; rfl
      exact ⟨_, _, rfl, hm, sRes_fl (mJ_trans hJ2 (mJ_of m_badF)) rfl (t_fl (kd := 1) (rm0 := rm) K2 hn (by omega) (by omega)) hD⟩
end SN
