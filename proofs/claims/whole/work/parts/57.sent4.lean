/-! ===== an operand ===== -/
abbrev m5 : Type := Bool × (Nat → Int32) × (Nat → Int64) × (Nat → Int32) × (Nat → Int32)
/-- a plain one that compares -/
noncomputable def mQc (mt rd sk : Nat → Int32) (w6 : Nat → Int64) (x1 : Int32) (r15 : Nat → Int32) : Option m5 :=
  if r15 11 = 3 then if r15 14 < 60 then (fM_bad r15 1).bind (fun y20 => some (y20.1, y20.2, w6, rd, sk)) else if r15 14 ≤ 62 then (fM_next r15 w6 mt).bind (fun y23 => if y23.1 11 = 2 then (fM_code y23.1 rd x1 (r15 14) (y23.1 14)).bind (fun y25 => (fM_next y25.1 y23.2 mt).bind (fun y26 => some (true, y26.1, y26.2, y25.2, sk))) else (fM_bad y23.1 1).bind (fun y27 => some (y27.1, y27.2, y23.2, rd, sk))) else (fM_bad r15 1).bind (fun y28 => some (y28.1, y28.2, w6, rd, sk)) else (fM_bad r15 1).bind (fun y29 => some (y29.1, y29.2, w6, rd, sk))
noncomputable def mQj (mt rd sk : Nat → Int32) (w6 : Nat → Int64) (x1 : Int32) (r30 : Nat → Int32) (x31 : Int32) : Option m5 :=
  if x31 = 0 then some (false, r30, w6, rd, sk) else (fM_code r30 rd x1 0 (r30 18)).bind (fun y33 => (fM_next y33.1 w6 mt).bind (fun y34 => some (true, y34.1, y34.2, y33.2, sk)))
noncomputable def mQ (mt s rd sk : Nat → Int32) (nm rs w6 : Nat → Int64) (x1 : Int32) (r15 : Nat → Int32) : Option m5 :=
  if 3 ≤ x1 then if 5 ≤ x1 then mQc mt rd sk w6 x1 r15 else if x1 = 3 then (fM_looksAt r15 w6 nm rs 0 (s 0)).bind (fun y37 => mQj mt rd sk w6 x1 y37.2 (zb y37.1)) else (fM_looksAt r15 w6 nm rs 8 (s 2)).bind (fun y38 => mQj mt rd sk w6 x1 y38.2 (zb y38.1)) else (fM_code r15 rd x1 0 0).bind (fun y39 => some (true, y39.1, w6, y39.2, sk))
noncomputable def mP (rm : Nat → Int32) (wm : Nat → Int64) (rd sk r6 : Nat → Int32) (w6 : Nat → Int64) : Option m5 :=
  (zwr sk 45 (r6 46) (if fM_isWord rm wm 7237492 = true then (20 : Int32) else 23)).bind (fun sk9 => some (true, zup (zup r6 46 (r6 46 + 1)) 47 (zup r6 46 (r6 46 + 1) 47 + 1), w6, rd, sk9))
noncomputable def mK (rm : Nat → Int32) (wm : Nat → Int64) (mt s rd : Nat → Int32) (nm rs : Nat → Int64) (sk : Nat → Int32) : Option m5 :=
  if rm 45 = 20 then (fM_bad rm 4).bind (fun y3 => some (y3.1, y3.2, wm, rd, sk)) else if rm 47 ≤ 8 then (fM_next (zup rm 45 (rm 45 + 1)) wm mt).bind (fun y6 => if fM_isWord rm wm 7237492 = true then mP rm wm rd sk y6.1 y6.2 else if fM_isSign rm 40 = true then mP rm wm rd sk y6.1 y6.2 else mQ mt s rd sk nm rs y6.2 (fM_leafOf rm wm) (zup y6.1 48 1)) else (fM_bad rm 4).bind (fun y40 => some (y40.1, y40.2, wm, rd, sk))
theorem operand_eq {rm mt s rd sk : Nat → Int32} {wm nm rs : Nat → Int64} : fM_operand rm wm mt s rd nm rs sk = if fM_isWord rm wm 7237492 = true then mK rm wm mt s rd nm rs sk else if fM_isSign rm 40 = true then mK rm wm mt s rd nm rs sk else if 0 ≤ fM_leafOf rm wm then mK rm wm mt s rd nm rs sk else (fM_bad rm 1).bind (fun y45 => some (y45.1, y45.2, wm, rd, sk)) := rfl
def sJ (due : Bool) (r pa ot nu pe rm rd sk : Nat → Int32) : Prop := ∃ st cd on stm cdm, zX st cd on due r pa ot nu pe ∧ zMo stm cdm on due rm rd sk ∧ (due = true → stm = st ∧ cdm = cd) ∧ (due = false → sNot stm cdm = (st, cd)) ∧ sI st cd on due
def sRes (n L a : Nat) (rm : Nat → Int32) (X : s7) (Y : m5) : Prop :=
  mJ rm Y.2.1 ∧ ((Y.1 = true ∧ (∃ due, sJ due X.1 X.2.1 X.2.2.1 X.2.2.2.1 X.2.2.2.2.1 Y.2.1 Y.2.2.2.1 Y.2.2.2.2) ∧ tOk n L a X.2.2.2.2.2.1 X.2.2.2.2.2.2 Y.2.1 Y.2.2.1) ∨ (Y.1 = false ∧ tFl X.2.2.2.2.2.1 Y.2.1 ∧ zD X.1))
section SN
variable {n L k v a p C S P on : Nat} {b B : Nat → Nat} {w : List Nat} {nC nP : Nat → List Nat} {st : List Nat} {cd : List aI} {tp tb mt rx rm rp bs s r pa ot nu pe rd sk : Nat → Int32} {wx wm tw rs nm cn pn : Nat → Int64}
theorem sRes_fl {X : s7} {Y : m5} (h1 : mJ rm Y.2.1) (h2 : Y.1 = false) (h3 : tFl X.2.2.2.2.2.1 Y.2.1) (h4 : zD X.1) : sRes n L a rm X Y := ⟨h1, Or.inr ⟨h2, h3, h4⟩⟩
theorem zX_up8 (h : zX st cd on true r pa ot nu pe) : zX st cd (on + 1) true (zup r 8 (r 8 + 1)) pa ot nu pe := by
  obtain ⟨h5, h6, h7, h8, h9, hcd, hpd⟩ := h
  refine ⟨?_, ?_, ?_, ?_, ?_, hcd, hpd⟩
  · rw [zup_n (by omega)]; exact h5
  · rw [zup_n (by omega)]; exact h6
  · rw [zup_n (by omega)]; exact h7
  · rw [zup_s, h8, nI_1]
  · rw [zup_n (by omega)]; exact h9
/-- a plain one is read: the class does the nots ahead of it -/
theorem s_plain {c : aI} {r2 pa2 ot2 nu2 rx2 : Nat → Int32} {wx2 : Nat → Int64} (z : zX st (c :: cd) (on + 1) true r2 pa2 ot2 nu2 pe) (zm : zMo st (c :: cd) (on + 1) false rm rd sk) (I : sI st cd on true) (hon : on < 20) (hc : iOK c) (hc9 : c.1 < 9) :
    ∃ r3 pa3 ot3 nu3, fSn_endOne r2 pa2 ot2 nu2 pe = some (r3, pa3, ot3, nu3) ∧ sJ false r3 pa3 ot3 nu3 pe rm rd sk := by
  obtain ⟨i1, i2, i3, i4, i5, i6, i7, i8⟩ := I
  simp only [if_true] at i1 i6
  have hl : st.length + (c :: cd).length ≤ 40 := by rw [List.length_cons]; omega
  obtain ⟨r3, pa3, ot3, nu3, e1, e2, e3⟩ := x_nots i3 hl z
  refine ⟨r3, pa3, ot3, nu3, e1, _, _, on + 1, st, c :: cd, e2, zm, fun h => absurd h (by decide), fun _ => rfl, ?_⟩
  refine sI_nots st (c :: cd) (on + 1) (by rw [List.length_cons]; omega) (by omega) i3 i4 ?_ ⟨fun h => by omega, fun h => by omega, i7⟩ (iAll_c i8 hc)
  show (if c.1 < 9 then dpC cd + 1 else if c.1 = 20 then dpC cd else dpC cd - 1) = _
  rw [if_pos hc9, i6]
theorem s_pl {T : Nat} (hT : 13 ≤ T ∧ T < 22) (E : tE n L b tp tb mt) (W : wE tw rs) (K : tokR n L rx wx rm wm k v w a p) (TX : tRX C S P B nC nP rp bs cn pn) (TM : tRM 0 8 C S P B nC nP s nm) (z : zX st cd on true r pa ot nu pe) (zm : zMo st cd on true rm rd sk) (hl : cd.length + st.length < 40) :
    ∃ r2 pa2 ot2 nu2 rx2 wx2 Y, fSn_readPlain r pa ot nu rx wx tp tb tw rp cn pn (nI T) = some (r2, pa2, ot2, nu2, rx2, wx2) ∧ mQ mt s rd sk nm rs wm (nI (T - 13)) (zup rm 48 1) = some Y ∧ mJ rm Y.2.1 ∧
      ((Y.1 = true ∧ Y.2.2.2.2 = sk ∧ (∃ c, iOK c ∧ c.1 < 9 ∧ zX st (c :: cd) on true r2 pa2 ot2 nu2 pe ∧ zMo st (c :: cd) on false Y.2.1 Y.2.2.2.1 sk) ∧ ∃ k' v' w' a' p', tokR n L rx2 wx2 Y.2.1 Y.2.2.1 k' v' w' a' p' ∧ a ≤ a') ∨ (Y.1 = false ∧ tFl rx2 Y.2.1 ∧ zD r2)) := by
  obtain ⟨hC, hS, hP, r4, r5, r6, hb, hBC, hX, hXP⟩ := TX
  obtain ⟨h0, h1, h2, h3, hM, hMP⟩ := TM
  have hn := E.1.1
  have hD : zD r := zX_D z (by omega)
  have K15 := tokR_up K (j := 48) (x := 1) (by omega)
  have hJ15 : mJ rm (zup rm 48 1) := mJ_up (fun _ _ => rfl) (by omega)
  have zm15 : zMo st cd on false (zup rm 48 1) rd sk := by
    obtain ⟨q1, q2, q3, q4, q5, q6, q7⟩ := zm
    refine ⟨?_, ?_, ?_, ?_, ?_, q6, q7⟩
    · rw [zup_n (by omega)]; exact q1
    · rw [zup_n (by omega)]; exact q2
    · rw [zup_n (by omega)]; exact q3
    · rw [zup_n (by omega)]; exact q4
    · rw [zup_s]; rfl
  by_cases c3 : T < 16
  · -- alone, ringed, idle
    obtain ⟨r2, pa2, ot2, nu2, x1, x2, x3, x4, x5⟩ := x_add z (by omega) (c := (T - 13, 0, 0)) (x := nI T) (y := -1) (z := 0) ⟨by show nI T = nI (cOp (T - 13)); unfold cOp; rw [if_pos (by omega)]; congr 1; omega, fun h => by rcases h with h | h <;> (have : T - 13 = _ := h; omega), fun h => by have : 5 ≤ T - 13 := h.1; omega⟩
    obtain ⟨rd2, m1, m2⟩ := m_code zm15 (by omega) (c := (T - 13, 0, 0))
    have m1' : fM_code (zup rm 48 1) rd (nI (T - 13)) 0 0 = _ := m1
    have hx : fSn_readPlain r pa ot nu rx wx tp tb tw rp cn pn (nI T) = some (r2, pa2, ot2, nu2, rx, wx) := by
      unfold fSn_readPlain
      rw [if_neg (show ¬ nI T = 16 from fun h => by have := (nI_eq (b := 16) (by omega) (by omega)).mp h; omega), if_neg (show ¬ nI T = 17 from fun h => by have := (nI_eq (b := 17) (by omega) (by omega)).mp h; omega), if_pos (show nI T < 18 from nI_lt (b := 18) (by omega) (by omega)), x1]; rfl
    have hm : mQ mt s rd sk nm rs wm (nI (T - 13)) (zup rm 48 1) = some (true, zup (zup rm 48 1) 44 (nI (cd.length + 1)), wm, rd2, sk) := by
      unfold mQ
      rw [if_neg (zg3 (by omega)), m1']; rfl
    exact ⟨_, _, _, _, _, _, _, hx, hm, mJ_up hJ15 (by omega), Or.inl ⟨rfl, rfl, ⟨(T - 13, 0, 0), ⟨Or.inl (by show T - 13 < 9; omega), by show 0 < 100; omega, by show 0 < 1000; omega, fun h => by have : 5 ≤ T - 13 := h.1; omega⟩, by show T - 13 < 9; omega, x2, m2⟩, k, v, w, a, p, tokR_up K15 (by omega), Nat.le_refl _⟩⟩
  · by_cases c5 : T < 18
    · -- at a corner, after a person
      have key : ∀ (j : Nat), j < 8 → ∀ rx1 wx1 rm1 wm1, fRd_goOn rx wx tp tb = some (rx1, wx1) → fM_next (zup (zup (zup rm 48 1) 18 (nI j)) 44 (nI (cd.length + 1))) wm mt = some (rm1, wm1) → (∃ k' v' w' a' p', tokR n L rx1 wx1 rm1 wm1 k' v' w' a' p' ∧ a < a') → mG (zup (zup (zup rm 48 1) 18 (nI j)) 44 (nI (cd.length + 1))) rm1 →
          ∃ r2 pa2 ot2 nu2 rd2, fSn_addPart r pa ot nu (nI T) (nI j) 0 = some (r2, pa2, ot2, nu2) ∧ mQj mt rd sk wm (nI (T - 13)) (zup (zup rm 48 1) 18 (nI j)) (zb true) = some (true, rm1, wm1, rd2, sk) ∧ mJ rm rm1 ∧ (∃ c, iOK c ∧ c.1 < 9 ∧ zX st (c :: cd) on true r2 pa2 ot2 nu2 pe ∧ zMo st (c :: cd) on false rm1 rd2 sk) ∧ ∃ k' v' w' a' p', tokR n L rx1 wx1 rm1 wm1 k' v' w' a' p' ∧ a ≤ a' := by
        intro j hj rx1 wx1 rm1 wm1 g1 g2 g3 g4
        obtain ⟨r2, pa2, ot2, nu2, x1, x2, x3, x4, x5⟩ := x_add z (by omega) (c := (T - 13, 0, j)) (x := nI T) (y := nI j) (z := 0) ⟨by show nI T = nI (cOp (T - 13)); unfold cOp; rw [if_pos (by omega)]; congr 1; omega, fun _ => rfl, fun h => by have : 5 ≤ T - 13 := h.1; omega⟩
        have zm18 : zMo st cd on false (zup (zup rm 48 1) 18 (nI j)) rd sk := zMo_cong zm15 (fun i h1 h2 => zup_n (by omega))
        obtain ⟨rd2, m1, m2⟩ := m_code zm18 (by omega) (c := (T - 13, 0, j))
        have m1' : fM_code (zup (zup rm 48 1) 18 (nI j)) rd (nI (T - 13)) 0 (nI j) = _ := m1
        have hm : mQj mt rd sk wm (nI (T - 13)) (zup (zup rm 48 1) 18 (nI j)) (zb true) = some (true, rm1, wm1, rd2, sk) := by
          unfold mQj
          rw [if_neg (by decide), zup_s, m1', Option.bind_some]
          show (fM_next (zup (zup (zup rm 48 1) 18 (nI j)) 44 (nI (cd.length + 1))) wm mt).bind _ = _
          rw [g2]; rfl
        obtain ⟨k', v', w', a', p', t1, t2⟩ := g3
        exact ⟨r2, pa2, ot2, nu2, rd2, x1, hm, mJ_trans (mJ_up (mJ_up hJ15 (by omega)) (by omega)) (mJ_of (mG_F g4)), ⟨(T - 13, 0, j), ⟨Or.inl (by show T - 13 < 9; omega), by show 0 < 100; omega, by show j < 1000; omega, fun h => by have : 5 ≤ T - 13 := h.1; omega⟩, by show T - 13 < 9; omega, x2, zMo_cong m2 (fun i h1 h2 => g4 i (by omega))⟩, k', v', w', a', p', t1, by omega⟩
      have hfail : ∀ rx' rm', ¬ rx' 8 = 0 → tFl rx' rm' → ∀ x : Int32, ∃ r2 pa2 ot2 nu2, ((fRd_goOn rx' wx tp tb).bind fun y4 => (fSn_addPart r pa ot nu x (-1) 0).bind fun y5 => some (y5.1, y5.2.1, y5.2.2.1, y5.2.2.2, y4.1, y4.2)) = some (r2, pa2, ot2, nu2, rx', wx) ∧ zD r2 := by
        intro rx' rm' f1 f4 x
        obtain ⟨⟨y1, y2, y3, y4⟩, d1, d2, d3⟩ := x_addD (pa := pa) (ot := ot) (nu := nu) (x := x) (y := -1) (z := 0) hD
        rw [d_go f1, Option.bind_some, d1]
        exact ⟨_, _, _, _, rfl, d2⟩
      by_cases c4 : T = 16
      · rcases t_corner (fr := 0) hn W K15 hC r4 hX (by omega) hM with ⟨j, j1, j2, j3, j4⟩ | ⟨rx', rm', f1, f2, f3, f4, f5⟩
        · have j4' : fM_looksAt (zup rm 48 1) wm nm rs 0 (nI C) = _ := j4
          obtain ⟨rx1, wx1, rm1, wm1, g1, g2, ⟨k', v', w', a', p', K', ha⟩, g4⟩ := t_go E (tokR_up (tokR_up K15 (j := 18) (x := nI j) (by omega)) (j := 44) (x := nI (cd.length + 1)) (by omega)) (Or.inl j2)
          obtain ⟨r2, pa2, ot2, nu2, rd2, y1, y2, y3, y4, y5⟩ := key j (by omega) rx1 wx1 rm1 wm1 g1 g2 ⟨k', v', w', a', p', K', ha⟩ g4
          have hx : fSn_readPlain r pa ot nu rx wx tp tb tw rp cn pn (nI T) = some (r2, pa2, ot2, nu2, rx1, wx1) := by
            unfold fSn_readPlain
            rw [if_pos (show nI T = 16 by rw [c4]; rfl), j3]
            simp only [Option.bind_some, zlet]
            rw [g1, Option.bind_some, y1]; rfl
          have hm : mQ mt s rd sk nm rs wm (nI (T - 13)) (zup rm 48 1) = some (true, rm1, wm1, rd2, sk) := by
            unfold mQ
            rw [if_pos (ze3 (by omega) (by omega)), if_neg (zg5 (by omega)), if_pos (show nI (T - 13) = 3 by rw [c4]; rfl), h0, j4', Option.bind_some]
            exact y2
          exact ⟨_, _, _, _, _, _, _, hx, hm, y3, Or.inl ⟨rfl, rfl, y4, y5⟩⟩
        · have f3' : fM_looksAt (zup rm 48 1) wm nm rs 0 (nI C) = _ := f3
          obtain ⟨r2, pa2, ot2, nu2, y1, y2⟩ := hfail rx' rm' f1 f4 (nI T)
          have hx : fSn_readPlain r pa ot nu rx wx tp tb tw rp cn pn (nI T) = some (r2, pa2, ot2, nu2, rx', wx) := by
            unfold fSn_readPlain
            rw [if_pos (show nI T = 16 by rw [c4]; rfl), f2]
            simp only [Option.bind_some, zlet]
            exact y1
          have hm : mQ mt s rd sk nm rs wm (nI (T - 13)) (zup rm 48 1) = some (false, rm', wm, rd, sk) := by
            unfold mQ
            rw [if_pos (ze3 (by omega) (by omega)), if_neg (zg5 (by omega)), if_pos (show nI (T - 13) = 3 by rw [c4]; rfl), h0, f3', Option.bind_some]
            rfl
          exact ⟨_, _, _, _, _, _, _, hx, hm, mJ_trans hJ15 (mJ_of f5), Or.inr ⟨rfl, f4, y2⟩⟩
      · have c4' : T = 17 := by omega
        rcases t_person (fr := 8) hn W K15 hP r6 hXP (by omega) hMP with ⟨j, j1, j2, j3, j4⟩ | ⟨rx', rm', f1, f2, f3, f4, f5⟩
        · have j4' : fM_looksAt (zup rm 48 1) wm nm rs 8 (nI P) = _ := j4
          obtain ⟨rx1, wx1, rm1, wm1, g1, g2, ⟨k', v', w', a', p', K', ha⟩, g4⟩ := t_go E (tokR_up (tokR_up K15 (j := 18) (x := nI j) (by omega)) (j := 44) (x := nI (cd.length + 1)) (by omega)) (Or.inl j2)
          obtain ⟨r2, pa2, ot2, nu2, rd2, y1, y2, y3, y4, y5⟩ := key j (by omega) rx1 wx1 rm1 wm1 g1 g2 ⟨k', v', w', a', p', K', ha⟩ g4
          have hx : fSn_readPlain r pa ot nu rx wx tp tb tw rp cn pn (nI T) = some (r2, pa2, ot2, nu2, rx1, wx1) := by
            unfold fSn_readPlain
            rw [if_neg (show ¬ nI T = 16 by rw [c4']; decide), if_pos (show nI T = 17 by rw [c4']; rfl), j3]
            simp only [Option.bind_some, zlet]
            rw [g1, Option.bind_some, y1]; rfl
          have hm : mQ mt s rd sk nm rs wm (nI (T - 13)) (zup rm 48 1) = some (true, rm1, wm1, rd2, sk) := by
            unfold mQ
            rw [if_pos (ze3 (by omega) (by omega)), if_neg (zg5 (by omega)), if_neg (show ¬ nI (T - 13) = 3 by rw [c4']; decide), h2, j4', Option.bind_some]
            exact y2
          exact ⟨_, _, _, _, _, _, _, hx, hm, y3, Or.inl ⟨rfl, rfl, y4, y5⟩⟩
        · have f3' : fM_looksAt (zup rm 48 1) wm nm rs 8 (nI P) = _ := f3
          obtain ⟨r2, pa2, ot2, nu2, y1, y2⟩ := hfail rx' rm' f1 f4 (nI T)
          have hx : fSn_readPlain r pa ot nu rx wx tp tb tw rp cn pn (nI T) = some (r2, pa2, ot2, nu2, rx', wx) := by
            unfold fSn_readPlain
            rw [if_neg (show ¬ nI T = 16 by rw [c4']; decide), if_pos (show nI T = 17 by rw [c4']; rfl), f2]
            simp only [Option.bind_some, zlet]
            exact y1
          have hm : mQ mt s rd sk nm rs wm (nI (T - 13)) (zup rm 48 1) = some (false, rm', wm, rd, sk) := by
            unfold mQ
            rw [if_pos (ze3 (by omega) (by omega)), if_neg (zg5 (by omega)), if_neg (show ¬ nI (T - 13) = 3 by rw [c4']; decide), h2, f3', Option.bind_some]
            rfl
          exact ⟨_, _, _, _, _, _, _, hx, hm, mJ_trans hJ15 (mJ_of f5), Or.inr ⟨rfl, f4, y2⟩⟩
    · -- a comparison
      have hxe : fSn_readPlain r pa ot nu rx wx tp tb tw rp cn pn (nI T) = (fRd_takeComparison rx wx tp tb).bind (fun y13 => (fRd_takeNumber y13.2.1 y13.2.2 tp tb 0 999).bind (fun y15 => (fSn_addPart r pa ot nu (nI T) y13.1 y15.1).bind (fun y17 => some (y17.1, y17.2.1, y17.2.2.1, y17.2.2.2, y15.2.1, y15.2.2)))) := by
        unfold fSn_readPlain
        rw [if_neg (show ¬ nI T = 16 from fun h => by have := (nI_eq (b := 16) (by omega) (by omega)).mp h; omega), if_neg (show ¬ nI T = 17 from fun h => by have := (nI_eq (b := 17) (by omega) (by omega)).mp h; omega), if_neg (show ¬ nI T < 18 from nI_nlt (b := 18) (by omega) (by omega))]; rfl
      have hme : mQ mt s rd sk nm rs wm (nI (T - 13)) (zup rm 48 1) = mQc mt rd sk wm (nI (T - 13)) (zup rm 48 1) := by
        unfold mQ
        rw [if_pos (ze3 (by omega) (by omega)), if_pos (ze5 (by omega) (by omega))]
      rw [hxe, hme]
      have hks := (tok_kx K15).2.2.2
      have k60 : rx 5 = 60 ↔ k = 3 ∧ v = 60 := hks 60 (by unfold isSg; omega)
      have k61 : rx 5 = 61 ↔ k = 3 ∧ v = 61 := hks 61 (by unfold isSg; omega)
      have k62 : rx 5 = 62 ↔ k = 3 ∧ v = 62 := hks 62 (by unfold isSg; omega)
      obtain ⟨t1, t2, t3⟩ := tok_11 K15
      by_cases hcm : k = 3 ∧ 60 ≤ v ∧ v ≤ 62
      · have hv14 : zup rm 48 1 14 = nI v ∧ rx 5 = nI v := by
          rcases K15.2.2.2.2.2.2.2.2.2 with ⟨c1, -⟩ | ⟨c1, -⟩ | ⟨c1, -⟩ | ⟨c1, c2, c3, c4, -⟩ | ⟨c1, -⟩
          · omega
          · omega
          · omega
          · exact ⟨c4, c3⟩
          · omega
        obtain ⟨rx1, wx1, rm1, wm1, g1, g2, ⟨k1, v1, w1, a1, p1, K1, ha⟩, g4⟩ := t_go E K15 (Or.inr (Or.inr hcm.1))
        have hcx : fRd_takeComparison rx wx tp tb = some (nI v, rx1, wx1) := by
          unfold fRd_takeComparison
          simp only [zlet]
          rw [g1]
          by_cases e1 : rx 5 = 60
          · rw [if_pos e1, Option.bind_some, hv14.2]
          · rw [if_neg e1]
            by_cases e2 : rx 5 = 61
            · rw [if_pos e2, Option.bind_some, hv14.2]
            · rw [if_neg e2, if_pos (k62.mpr ⟨hcm.1, by
                have : v ≠ 60 := fun h => e1 (k60.mpr ⟨hcm.1, h⟩)
                have : v ≠ 61 := fun h => e2 (k61.mpr ⟨hcm.1, h⟩)
                omega⟩), Option.bind_some, hv14.2]
        have hcm2 : mQc mt rd sk wm (nI (T - 13)) (zup rm 48 1) = if rm1 11 = 2 then (fM_code rm1 rd (nI (T - 13)) (nI v) (rm1 14)).bind (fun y25 => (fM_next y25.1 wm1 mt).bind (fun y26 => some (true, y26.1, y26.2, y25.2, sk))) else (fM_bad rm1 1).bind (fun y27 => some (y27.1, y27.2, wm1, rd, sk)) := by
          unfold mQc
          rw [t2, if_pos (show nI k = 3 from (nI_k3 (by omega)).mpr hcm.1), hv14.1, if_neg (show ¬ nI v < 60 from nI_nlt (b := 60) (by omega) (by omega)), if_pos (show nI v ≤ 62 from nI_le (b := 62) (by omega) (by omega)), g2, Option.bind_some]
        have hJ1 : mJ rm rm1 := mJ_trans hJ15 (mJ_of (mG_F g4))
        have zm1 : zMo st cd on false rm1 rd sk := zMo_cong zm15 (fun i h1 h2 => g4 i (by omega))
        rw [hcx, hcm2, Option.bind_some]
        obtain ⟨u1, u2, u3⟩ := tok_11 K1
        by_cases hk2 : k1 = 2
        · have hv : v1 < 1000 ∧ rx1 7 = nI v1 ∧ rm1 14 = nI v1 := by
            rcases K1.2.2.2.2.2.2.2.2.2 with ⟨c1, -⟩ | ⟨c1, -⟩ | ⟨c1, c2, c3, c4, c5, -⟩ | ⟨c1, -⟩ | ⟨c1, -⟩
            · omega
            · omega
            · exact ⟨c3, c4, c5⟩
            · omega
            · omega
          obtain ⟨r2, pa2, ot2, nu2, x1, x2, x3, x4, x5⟩ := x_add z (by omega) (c := (T - 13, v, v1)) (x := nI T) (y := nI v) (z := nI v1) ⟨by show nI T = nI (cOp (T - 13)); unfold cOp; rw [if_pos (by omega)]; congr 1; omega, fun h => by rcases h with h | h <;> (have : T - 13 = _ := h; omega), fun _ => ⟨rfl, rfl⟩⟩
          obtain ⟨rd2, m1, m2⟩ := m_code zm1 (by omega) (c := (T - 13, v, v1))
          obtain ⟨rx3, wx3, rm3, wm3, y1, y2, ⟨k3, v3, w3, a3, p3, K3, ha3⟩, y4⟩ := t_go E (tokR_up K1 (j := 44) (x := nI (cd.length + 1)) (by omega)) (Or.inr (Or.inl hk2))
          have hnx : fRd_takeNumber rx1 wx1 tp tb 0 999 = some (nI v1, rx3, wx3) := by
            unfold fRd_takeNumber
            simp only [zlet]
            rw [if_pos ((tok_kx K1).2.1.mpr hk2), hv.2.1, if_neg (nI_pos (by omega)), if_pos (show nI v1 ≤ 999 from nI_le (b := 999) (by omega) (by omega)), y1]; rfl
          have hx : (fRd_takeNumber rx1 wx1 tp tb 0 999).bind (fun y15 => (fSn_addPart r pa ot nu (nI T) (nI v) y15.1).bind (fun y17 => some (y17.1, y17.2.1, y17.2.2.1, y17.2.2.2, y15.2.1, y15.2.2))) = some (r2, pa2, ot2, nu2, rx3, wx3) := by
            rw [hnx, Option.bind_some, x1]; rfl
          have hm : (if rm1 11 = 2 then (fM_code rm1 rd (nI (T - 13)) (nI v) (rm1 14)).bind (fun y25 => (fM_next y25.1 wm1 mt).bind (fun y26 => some (true, y26.1, y26.2, y25.2, sk))) else (fM_bad rm1 1).bind (fun y27 => some (y27.1, y27.2, wm1, rd, sk))) = some (true, rm3, wm3, rd2, sk) := by
            have m1' : fM_code rm1 rd (nI (T - 13)) (nI v) (nI v1) = _ := m1
            rw [u2, if_pos ((nI_k2 (by omega)).mpr hk2), hv.2.2, m1', Option.bind_some]
            show (fM_next (zup rm1 44 (nI (cd.length + 1))) wm1 mt).bind _ = _
            rw [y2]; rfl
          exact ⟨_, _, _, _, _, _, _, hx, hm, mJ_trans (mJ_up hJ1 (by omega)) (mJ_of (mG_F y4)), Or.inl ⟨rfl, rfl, ⟨(T - 13, v, v1), ⟨Or.inl (by show T - 13 < 9; omega), by show v < 100; omega, hv.1, fun _ => by show v = 60 ∨ v = 61 ∨ v = 62; omega⟩, by show T - 13 < 9; omega, x2, zMo_cong m2 (fun i h1 h2 => y4 i (by omega))⟩, k3, v3, w3, a3, p3, K3, by omega⟩⟩
        · obtain ⟨⟨q1, q2, q3, q4⟩, d1, d2, d3⟩ := x_addD (pa := pa) (ot := ot) (nu := nu) (x := nI T) (y := nI v) (z := rx1 7) hD
          have hdead : ¬ zup rx1 8 1 8 = 0 := by rw [zup_s]; decide
          have hx : (fRd_takeNumber rx1 wx1 tp tb 0 999).bind (fun y15 => (fSn_addPart r pa ot nu (nI T) (nI v) y15.1).bind (fun y17 => some (y17.1, y17.2.1, y17.2.2.1, y17.2.2.2, y15.2.1, y15.2.2))) = some (q1, q2, q3, q4, zup rx1 8 1, wx1) := by
            unfold fRd_takeNumber
            simp only [zlet]
            rw [if_neg (fun h => hk2 ((tok_kx K1).2.1.mp h)), x_fail (tok_8 K1), Option.bind_some, d_go hdead, Option.bind_some, Option.bind_some, d1]; rfl
          have hm : (if rm1 11 = 2 then (fM_code rm1 rd (nI (T - 13)) (nI v) (rm1 14)).bind (fun y25 => (fM_next y25.1 wm1 mt).bind (fun y26 => some (true, y26.1, y26.2, y25.2, sk))) else (fM_bad rm1 1).bind (fun y27 => some (y27.1, y27.2, wm1, rd, sk))) = some (false, zup (zup rm1 15 1) 16 (zup rm1 15 1 12), wm1, rd, sk) := by
            rw [u2, if_neg (fun h => hk2 ((nI_k2 (by omega)).mp h)), m_bad]; rfl
          exact ⟨_, _, _, _, _, _, _, hx, hm, mJ_trans hJ1 (mJ_of m_badF), Or.inr ⟨rfl, t_fl (kd := 1) (rm0 := rm) K1 hn (by omega) (by omega), d2⟩⟩
      · have hdead : ¬ zup rx 8 1 8 = 0 := by rw [zup_s]; decide
        obtain ⟨⟨q1, q2, q3, q4⟩, d1, d2, d3⟩ := x_addD (pa := pa) (ot := ot) (nu := nu) (x := nI T) (y := rx 5) (z := zup rx 8 1 7) hD
        have hcx : fRd_takeComparison rx wx tp tb = some (rx 5, zup rx 8 1, wx) := by
          unfold fRd_takeComparison
          simp only [zlet]
          rw [if_neg (fun h => hcm (by have := k60.mp h; omega)), if_neg (fun h => hcm (by have := k61.mp h; omega)), if_neg (fun h => hcm (by have := k62.mp h; omega)), x_fail (tok_8 K15), Option.bind_some, d_go hdead]; rfl
        have hx : (fRd_takeComparison rx wx tp tb).bind (fun y13 => (fRd_takeNumber y13.2.1 y13.2.2 tp tb 0 999).bind (fun y15 => (fSn_addPart r pa ot nu (nI T) y13.1 y15.1).bind (fun y17 => some (y17.1, y17.2.1, y17.2.2.1, y17.2.2.2, y15.2.1, y15.2.2)))) = some (q1, q2, q3, q4, zup rx 8 1, wx) := by
          rw [hcx, Option.bind_some]
          show (fRd_takeNumber (zup rx 8 1) wx tp tb 0 999).bind _ = _
          rw [d_number hdead, Option.bind_some, d1]; rfl
        have hm : mQc mt rd sk wm (nI (T - 13)) (zup rm 48 1) = some (false, zup (zup (zup rm 48 1) 15 1) 16 (zup (zup rm 48 1) 15 1 12), wm, rd, sk) := by
          unfold mQc
          rw [t2, m_bad]
          by_cases e : k = 3
          · have hv14 : zup rm 48 1 14 = nI v ∧ isSg v := by
              rcases K15.2.2.2.2.2.2.2.2.2 with ⟨c1, -⟩ | ⟨c1, -⟩ | ⟨c1, -⟩ | ⟨c1, c2, c3, c4, -⟩ | ⟨c1, -⟩
              · omega
              · omega
              · omega
              · exact ⟨c4, c2⟩
              · omega
            have hvb : v < 100 := by have := hv14.2; unfold isSg at this; omega
            rw [if_pos (show nI k = 3 from (nI_k3 (by omega)).mpr e), hv14.1]
            by_cases e6 : v < 60
            · rw [if_pos (show nI v < 60 from nI_lt (b := 60) (by omega) (by omega))]; rfl
            · rw [if_neg (show ¬ nI v < 60 from nI_nlt (b := 60) (by omega) (by omega)), if_neg (show ¬ nI v ≤ 62 from nI_ge (a := 62) (by omega) (by omega))]; rfl
          · rw [if_neg (show ¬ nI k = 3 from fun h => e ((nI_k3 (by omega)).mp h))]; rfl
        exact ⟨_, _, _, _, _, _, _, hx, hm, mJ_trans hJ15 (mJ_of m_badF), Or.inr ⟨rfl, t_fl (kd := 1) (rm0 := rm) K15 hn (by omega) (by omega), d2⟩⟩
theorem s_one (E : tE n L b tp tb mt) (W : wE tw rs) (K : tokR n L rx wx rm wm k v w a p) (TX : tRX C S P B nC nP rp bs cn pn) (TM : tRM 0 8 C S P B nC nP s nm) (z : zX st cd on true r pa ot nu pe) (zm : zMo st cd on true rm rd sk) (I : sI st cd on true) :
    ∃ X Y, fSn_readOne r pa ot nu pe rx wx tp tb tw rp cn pn = some X ∧ fM_operand rm wm mt s rd nm rs sk = some Y ∧ sRes n L a rm X Y := by
  obtain ⟨hC, hS, hP, r4, r5, r6, hb, hBC, hX, hXP⟩ := TX
  obtain ⟨h0, h1, h2, h3, hM, hMP⟩ := TM
  obtain ⟨i1, i2, i3, i4, i5, i6, i7, i8⟩ := id I
  simp only [if_true] at i1 i6
  have ht := tW_le k w
  have hn := E.1.1
  have hD : zD r := zX_D z (by omega)
  have hop := x_isSg K (c := 40) (by unfold isSg; omega)
  have hop' : fRd_isSign rx 40 = decide (k = 3 ∧ v = 40) := hop
  have hom := m_isSg K (c := 40) (by unfold isSg; omega)
  have hom' : fM_isSign rm 40 = decide (k = 3 ∧ v = 40) := hom
  have hnot : fM_isWord rm wm 7237492 = decide (tW k w = 12) := m_isW K (j := 12) (by omega) (by decide)
  have htold := x_told K W.1
  have hleaf := m_leaf K
  have h12 : (12 : Int32) ≤ (if tW k w < 22 then nI (tW k w) else -1) ↔ (12 ≤ tW k w ∧ tW k w < 22) := by
    by_cases e : tW k w < 22
    · rw [if_pos e, show (12 : Int32) = nI 12 from rfl, nI_leI (by omega) (by omega)]; omega
    · rw [if_neg e]; exact ⟨fun h => absurd h (by decide), fun h => by omega⟩
  by_cases hgo : (k = 3 ∧ v = 40) ∨ (12 ≤ tW k w ∧ tW k w < 22)
  · -- an operand begins here
    have hxe : fSn_readOne r pa ot nu pe rx wx tp tb tw rp cn pn = sK1 r pa ot nu pe rx wx tp tb tw rp cn pn (if tW k w < 22 then nI (tW k w) else -1) rx := by
      rw [readOne_eq, htold, Option.bind_some, hop']
      by_cases e : k = 3 ∧ v = 40
      · rw [decide_eq_true e, if_pos rfl]
      · rw [decide_eq_false e, if_neg (by decide), if_pos (h12.mpr (hgo.resolve_left e))]
    have hme : fM_operand rm wm mt s rd nm rs sk = mK rm wm mt s rd nm rs sk := by
      rw [operand_eq, hnot, hom', hleaf]
      by_cases e : tW k w = 12
      · rw [decide_eq_true e, if_pos rfl]
      · rw [decide_eq_false e, if_neg (by decide)]
        by_cases e2 : k = 3 ∧ v = 40
        · rw [decide_eq_true e2, if_pos rfl]
        · have := hgo.resolve_left e2
          rw [decide_eq_false e2, if_neg (by decide), if_pos (show 13 ≤ tW k w ∧ tW k w < 22 by omega), if_pos (nI_pos' (by omega))]
    rw [hxe, hme]
    by_cases hfull : on = 20 ∨ wiC st = 8
    · -- too many
      have hx2 : sK1 r pa ot nu pe rx wx tp tb tw rp cn pn (if tW k w < 22 then nI (tW k w) else -1) rx = sK2 r pa ot nu pe rx wx tp tb tw rp cn pn (if tW k w < 22 then nI (tW k w) else -1) (zup rx 8 4) := by
        unfold sK1
        rw [z.2.2.2.1, z.2.2.1, x_fail (tok_8 K)]
        by_cases e : on = 20
        · rw [if_pos (ze20 (by omega) (by omega))]; rfl
        · rw [if_neg (zg20 (by omega)), if_neg (show ¬ nI (wiC st) < 8 from nI_nlt (b := 8) (by omega) (by omega))]; rfl
      have hm2 : mK rm wm mt s rd nm rs sk = some (false, zup (zup rm 15 4) 16 (zup rm 15 4 12), wm, rd, sk) := by
        unfold mK
        rw [zm.2.1, zm.2.2.2.1, m_bad]
        by_cases e : on = 20
        · rw [if_pos (by rw [e]; rfl)]; rfl
        · rw [if_neg (show ¬ nI on = 20 from fun h => e ((nI_eq (b := 20) (by omega) (by omega)).mp h)), if_neg (show ¬ nI (wiC st + 1) ≤ 8 from nI_ge (a := 8) (by omega) (by omega))]; rfl
      have hdead : ¬ zup rx 8 4 8 = 0 := by rw [zup_s]; decide
      obtain ⟨X, x1, x2, x3⟩ := d_K2 (pa := pa) (ot := ot) (nu := nu) (pe := pe) (rx := rx) (tp := tp) (tb := tb) (rp := rp) (wx := wx) (tw := tw) (cn := cn) (pn := pn) (y1 := if tW k w < 22 then nI (tW k w) else -1) hdead hD
      refine ⟨X, _, hx2.trans x1, hm2, sRes_fl (mJ_of m_badF) rfl ?_ x2⟩
      rw [x3]
      exact t_fl (kd := 4) (rm0 := rm) K hn (by omega) (by omega)
    · have hon : on < 20 := by omega
      have hwi : wiC st < 8 := by omega
      have hk13 : k = 1 ∨ k = 2 ∨ k = 3 := by
        rcases hgo with h | h
        · omega
        · have := tW_1 h.2; omega
      obtain ⟨rx1, wx1, rm1, wm1, g1, g2, ⟨k1, v1, w1, a1, p1, K1, ha⟩, g4⟩ := t_go E (tokR_up K (j := 45) (x := nI (on + 1)) (by omega)) hk13
      have z1 := zX_up8 z
      have zm1 : zMo st cd (on + 1) true rm1 rd sk := by
        have : zMo st cd (on + 1) true (zup rm 45 (nI (on + 1))) rd sk := by
          obtain ⟨q1, q2, q3, q4, q5, q6, q7⟩ := zm
          refine ⟨?_, zup_s, ?_, ?_, ?_, q6, q7⟩
          · rw [zup_n (by omega)]; exact q1
          · rw [zup_n (by omega)]; exact q3
          · rw [zup_n (by omega)]; exact q4
          · rw [zup_n (by omega)]; exact q5
        exact zMo_cong this (fun j hj1 hj2 => g4 j (by omega))
      have hJ1 : mJ rm rm1 := mJ_trans (mJ_up (fun _ _ => rfl) (by omega)) (mJ_of (mG_F g4))
      have hx2 : sK1 r pa ot nu pe rx wx tp tb tw rp cn pn (if tW k w < 22 then nI (tW k w) else -1) rx = sK2 r pa ot nu pe rx wx tp tb tw rp cn pn (if tW k w < 22 then nI (tW k w) else -1) rx := by
        unfold sK1
        rw [z.2.2.2.1, z.2.2.1, if_neg (zg20 (by omega)), if_pos (show nI (wiC st) < 8 from nI_lt (b := 8) (by omega) (by omega))]
      have hm2 : mK rm wm mt s rd nm rs sk = if tW k w = 12 then mP rm wm rd sk rm1 wm1 else if k = 3 ∧ v = 40 then mP rm wm rd sk rm1 wm1 else mQ mt s rd sk nm rs wm1 (fM_leafOf rm wm) (zup rm1 48 1) := by
        unfold mK
        rw [zm.2.1, zm.2.2.2.1, if_neg (show ¬ nI on = 20 from fun h => by have := (nI_eq (b := 20) (by omega) (by omega)).mp h; omega), if_pos (show nI (wiC st + 1) ≤ 8 from nI_le (b := 8) (by omega) (by omega)), nI_1, g2, Option.bind_some, hnot, hom']
        simp only [decide_eq_true_eq]
      rw [hx2, hm2]
      by_cases hno : tW k w = 12 ∨ (k = 3 ∧ v = 40)
      · -- not, or a bracket
        have hxx : sK2 r pa ot nu pe rx wx tp tb tw rp cn pn (if tW k w < 22 then nI (tW k w) else -1) rx = some (zup (zup (zup r 8 (r 8 + 1)) 6 (nI (st.length + 1))) 7 (nI (wiC st + 1)), pa, ot, nu, zup pe st.length (nI (cS (if tW k w = 12 then 0 else 3))), rx1, wx1) := by
          have hpush : (fSn_addWaiting (zup r 8 (r 8 + 1)) pe (if fRd_isSign rx 40 = true then 22 else 12)).bind (fun y8 => some (zup y8.1 7 (y8.1 7 + 1), pa, ot, nu, y8.2, rx1, wx1)) = some (zup (zup (zup r 8 (r 8 + 1)) 6 (nI (st.length + 1))) 7 (nI (wiC st + 1)), pa, ot, nu, zup pe st.length (nI (cS (if tW k w = 12 then 0 else 3))), rx1, wx1) := by
            have hv : (if fRd_isSign rx 40 = true then (22 : Int32) else 12) = nI (cS (if tW k w = 12 then 0 else 3)) := by
              rw [hop']
              by_cases e : tW k w = 12
              · have hk1 := tW_1 (k := k) (w := w) (by omega)
                rw [decide_eq_false (by omega), if_neg (by decide), if_pos e]; rfl
              · rw [decide_eq_true (hno.resolve_left e), if_pos rfl, if_neg e]; rfl
            rw [hv]
            unfold fSn_addWaiting
            rw [z1.2.1, if_neg (zg40 (by omega)), zwr_n (by omega) (by omega)]
            simp only [Option.bind_some, zlet, nI_1]
            rw [zup_n (show 7 ≠ 6 by omega), z1.2.2.1, nI_1]
          unfold sK2
          rw [g1, Option.bind_some, hop']
          by_cases e : k = 3 ∧ v = 40
          · rw [hop', decide_eq_true e] at hpush
            rw [decide_eq_true e, if_pos rfl]; exact hpush
          · rw [hop', decide_eq_false e] at hpush
            rw [decide_eq_false e, if_neg (by decide)]
            have e12 : tW k w = 12 := hno.resolve_right e
            rw [if_pos (show (if tW k w < 22 then nI (tW k w) else -1) = 12 by rw [e12]; rfl)]; exact hpush
        have hmm : (if tW k w = 12 then mP rm wm rd sk rm1 wm1 else if k = 3 ∧ v = 40 then mP rm wm rd sk rm1 wm1 else mQ mt s rd sk nm rs wm1 (fM_leafOf rm wm) (zup rm1 48 1)) = some (true, zup (zup rm1 46 (nI (st.length + 1))) 47 (nI (wiC st + 2)), wm1, rd, zup sk st.length (nI (mS (if tW k w = 12 then 0 else 3)))) := by
          have hp : mP rm wm rd sk rm1 wm1 = some (true, zup (zup rm1 46 (nI (st.length + 1))) 47 (nI (wiC st + 2)), wm1, rd, zup sk st.length (nI (mS (if tW k w = 12 then 0 else 3)))) := by
            unfold mP
            have hv : (if fM_isWord rm wm 7237492 = true then (20 : Int32) else 23) = nI (mS (if tW k w = 12 then 0 else 3)) := by
              rw [hnot]
              by_cases e : tW k w = 12
              · rw [decide_eq_true e, if_pos rfl, if_pos e]; rfl
              · rw [decide_eq_false e, if_neg (by decide), if_neg e]; rfl
            rw [hv, zm1.2.2.1, zwr_n (by omega) (by omega)]
            simp only [Option.bind_some, nI_1]
            rw [zup_n (show 47 ≠ 46 by omega), zm1.2.2.2.1, nI_1]
          by_cases e : tW k w = 12
          · rw [if_pos e]; exact hp
          · rw [if_neg e, if_pos (hno.resolve_left e)]; exact hp
        rw [hxx, hmm]
        refine ⟨_, _, rfl, rfl, mJ_up (mJ_up hJ1 (by omega)) (by omega), Or.inl ⟨rfl, ⟨true, (if tW k w = 12 then 0 else 3) :: st, cd, on + 1, (if tW k w = 12 then 0 else 3) :: st, cd, ?_, ?_, fun _ => ⟨rfl, rfl⟩, fun h => absurd h (by decide), ?_⟩, ⟨k1, v1, w1, a1, p1, tokR_up (tokR_up K1 (by omega)) (by omega), by omega⟩⟩⟩
        · have hwx : wiC ((if tW k w = 12 then 0 else 3) :: st) = wiC st + 1 := by
            rw [wiC, if_pos (show (if tW k w = 12 then 0 else 3) = 0 ∨ 3 ≤ (if tW k w = 12 then 0 else 3) by split <;> omega)]
          obtain ⟨h5, h6, h7, h8, h9, hcd, hpd⟩ := z1
          refine ⟨?_, ?_, ?_, ?_, ?_, hcd, ?_, pdR_up (Nat.le_refl _) hpd⟩
          · show zup (zup (zup r 8 (r 8 + 1)) 6 (nI (st.length + 1))) 7 (nI (wiC st + 1)) 5 = _
            rw [zup_n (by omega), zup_n (by omega)]; exact h5
          · show zup (zup (zup r 8 (r 8 + 1)) 6 (nI (st.length + 1))) 7 (nI (wiC st + 1)) 6 = _
            rw [zup_n (by omega), zup_s]; rfl
          · show zup (zup (zup r 8 (r 8 + 1)) 6 (nI (st.length + 1))) 7 (nI (wiC st + 1)) 7 = _
            rw [zup_s, hwx]
          · show zup (zup (zup r 8 (r 8 + 1)) 6 (nI (st.length + 1))) 7 (nI (wiC st + 1)) 8 = _
            rw [zup_n (by omega), zup_n (by omega)]; exact h8
          · show zup (zup (zup r 8 (r 8 + 1)) 6 (nI (st.length + 1))) 7 (nI (wiC st + 1)) 9 = _
            rw [zup_n (by omega), zup_n (by omega)]; exact h9
          · show zup pe st.length _ st.length = _
            rw [zup_s]
        · have hwx : wiC ((if tW k w = 12 then 0 else 3) :: st) = wiC st + 1 := by
            rw [wiC, if_pos (show (if tW k w = 12 then 0 else 3) = 0 ∨ 3 ≤ (if tW k w = 12 then 0 else 3) by split <;> omega)]
          obtain ⟨q1, q2, q3, q4, q5, q6, q7⟩ := zm1
          refine ⟨?_, ?_, ?_, ?_, ?_, q6, ?_, pdR_up (Nat.le_refl _) q7⟩
          · show zup (zup rm1 46 (nI (st.length + 1))) 47 (nI (wiC st + 2)) 44 = _
            rw [zup_n (by omega), zup_n (by omega)]; exact q1
          · show zup (zup rm1 46 (nI (st.length + 1))) 47 (nI (wiC st + 2)) 45 = _
            rw [zup_n (by omega), zup_n (by omega)]; exact q2
          · show zup (zup rm1 46 (nI (st.length + 1))) 47 (nI (wiC st + 2)) 46 = _
            rw [zup_n (by omega), zup_s]; rfl
          · show zup (zup rm1 46 (nI (st.length + 1))) 47 (nI (wiC st + 2)) 47 = _
            rw [zup_s, hwx]
          · show zup (zup rm1 46 (nI (st.length + 1))) 47 (nI (wiC st + 2)) 48 = _
            rw [zup_n (by omega), zup_n (by omega)]; exact q5
          · show zup sk st.length _ st.length = _
            rw [zup_s]
        · refine ⟨?_, by omega, ?_, ⟨?_, i4⟩, fun h => absurd h (by decide), ?_, i7, i8⟩
          · rw [List.length_cons]; simp only [if_true]; omega
          · rw [wiC, if_pos (show (if tW k w = 12 then 0 else 3) = 0 ∨ 3 ≤ (if tW k w = 12 then 0 else 3) by split <;> omega)]; omega
          · intro h
            exfalso
            revert h
            split <;> omega
          · rw [bnC, if_neg (show ¬ ((if tW k w = 12 then 0 else 3) = 1 ∨ (if tW k w = 12 then 0 else 3) = 2) by split <;> omega)]
            simp only [if_true]; omega
      · -- a plain one
        have hT : 13 ≤ tW k w ∧ tW k w < 22 := by
          rcases hgo with h | h
          · exact absurd (Or.inr h) hno
          · omega
        have hnb : ¬ (k = 3 ∧ v = 40) := fun h => hno (Or.inr h)
        obtain ⟨r2, pa2, ot2, nu2, rx2, wx2, Y, q1, q2, q3, q4⟩ := s_pl hT E W K1 ⟨hC, hS, hP, r4, r5, r6, hb, hBC, hX, hXP⟩ ⟨h0, h1, h2, h3, hM, hMP⟩ z1 zm1 (by omega)
        have hxx : sK2 r pa ot nu pe rx wx tp tb tw rp cn pn (if tW k w < 22 then nI (tW k w) else -1) rx = (fSn_endOne r2 pa2 ot2 nu2 pe).bind (fun y14 => some (y14.1, y14.2.1, y14.2.2.1, y14.2.2.2, pe, rx2, wx2)) := by
          unfold sK2
          rw [g1, Option.bind_some, hop', decide_eq_false hnb, if_neg (by decide), if_pos hT.2, if_neg (show ¬ nI (tW k w) = 12 from fun h => by have := (nI_eq (b := 12) (by omega) (by omega)).mp h; omega)]
          show (fSn_readPlain (zup r 8 (r 8 + 1)) pa ot nu rx1 wx1 tp tb tw rp cn pn (nI (tW k w))).bind _ = _
          rw [q1]; rfl
        have hmm : (if tW k w = 12 then mP rm wm rd sk rm1 wm1 else if k = 3 ∧ v = 40 then mP rm wm rd sk rm1 wm1 else mQ mt s rd sk nm rs wm1 (fM_leafOf rm wm) (zup rm1 48 1)) = some Y := by
          rw [if_neg (by omega), if_neg hnb, hleaf, if_pos hT]; exact q2
        rw [hxx, hmm]
        rcases q4 with ⟨o1, o2, ⟨c, o3, o4, o5, o6⟩, k', v', w', a', p', o7, o8⟩ | ⟨o1, o2, o3⟩
        · obtain ⟨r3, pa3, ot3, nu3, e1, e2⟩ := s_plain (rx2 := rx2) (wx2 := wx2) o5 o6 I hon o3 o4
          rw [e1]
          refine ⟨_, Y, rfl, rfl, mJ_trans hJ1 q3, Or.inl ⟨o1, ⟨false, ?_⟩, ⟨k', v', w', a', p', o7, by omega⟩⟩⟩
          rw [o2]; exact e2
        · obtain ⟨⟨y1, y2, y3, y4⟩, e1, e2⟩ := x_endD (pa := pa2) (ot := ot2) (nu := nu2) (pe := pe) o3
          rw [e1]
          exact ⟨_, Y, rfl, rfl, mJ_trans hJ1 q3, Or.inr ⟨o1, o2, e2⟩⟩
  · -- nothing that may stand here
    have hno : ¬ (k = 3 ∧ v = 40) := fun h => hgo (Or.inl h)
    have hnw : ¬ (12 ≤ tW k w ∧ tW k w < 22) := fun h => hgo (Or.inr h)
    have hdead : ¬ zup rx 8 1 8 = 0 := by rw [zup_s]; decide
    obtain ⟨X, x1, x2, x3⟩ := d_K1 (pa := pa) (ot := ot) (nu := nu) (pe := pe) (rx := rx) (tp := tp) (tb := tb) (rp := rp) (wx := wx) (tw := tw) (cn := cn) (pn := pn) (y1 := if tW k w < 22 then nI (tW k w) else -1) hdead hD
    have hxe : fSn_readOne r pa ot nu pe rx wx tp tb tw rp cn pn = some X := by
      rw [readOne_eq, htold, Option.bind_some, hop', decide_eq_false hno, if_neg (by decide), if_neg (fun h => hnw (h12.mp h)), x_fail (tok_8 K), Option.bind_some]
      exact x1
    have hme : fM_operand rm wm mt s rd nm rs sk = some (false, zup (zup rm 15 1) 16 (zup rm 15 1 12), wm, rd, sk) := by
      rw [operand_eq, hnot, hom', hleaf, decide_eq_false (show ¬ tW k w = 12 by omega), if_neg (by decide), decide_eq_false hno, if_neg (by decide), if_neg (show ¬ (13 ≤ tW k w ∧ tW k w < 22) by omega), if_neg (by decide), m_bad]
      rfl
    refine ⟨X, _, hxe, hme, sRes_fl (mJ_of m_badF) rfl ?_ x2⟩
    rw [x3]
    exact t_fl (kd := 1) (rm0 := rm) K hn (by omega) (by omega)
end SN
