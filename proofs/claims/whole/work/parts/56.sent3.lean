/-! ===== behind a fault a sentence's rows are still rows ===== -/
def zD (r : Nat → Int32) : Prop := ∃ m s, m ≤ 40 ∧ s ≤ 40 ∧ r 5 = nI m ∧ r 6 = nI s
theorem zX_D {st : List Nat} {cd : List aI} {on : Nat} {due : Bool} {r pa ot nu pe : Nat → Int32} (h : zX st cd on due r pa ot nu pe) (hl : cd.length + st.length ≤ 40) : zD r := ⟨cd.length, st.length, by omega, by omega, h.1, h.2.1⟩
theorem zD_up {r : Nat → Int32} (h : zD r) {k : Nat} {v : Int32} (hk : 7 ≤ k) : zD (zup r k v) := by
  obtain ⟨m, s, h1, h2, h3, h4⟩ := h
  exact ⟨m, s, h1, h2, by rw [zup_n (by omega)]; exact h3, by rw [zup_n (by omega)]; exact h4⟩
theorem x_addD {r pa ot nu : Nat → Int32} {x y z : Int32} (h : zD r) : ∃ Y, fSn_addPart r pa ot nu x y z = some Y ∧ zD Y.1 ∧ Y.1 6 = r 6 := by
  obtain ⟨m, s, h1, h2, h3, h4⟩ := id h
  unfold fSn_addPart
  rw [h3]
  by_cases e : m < 40
  · rw [if_neg (zg40 e), zwr_n e (by omega), zwr_n e (by omega), zwr_n e (by omega)]
    refine ⟨_, rfl, ⟨m + 1, s, by omega, h2, ?_, ?_⟩, ?_⟩
    · show zup r 5 (nI m + 1) 5 = _
      rw [zup_s, nI_1]
    · show zup r 5 (nI m + 1) 6 = _
      rw [zup_n (by omega)]; exact h4
    · show zup r 5 (nI m + 1) 6 = _
      rw [zup_n (by omega)]
  · rw [if_pos (ze40 (by omega) (by omega))]
    exact ⟨_, rfl, h, rfl⟩
theorem x_lastD {r pe : Nat → Int32} {s : Nat} (h2 : s ≤ 40) (h4 : r 6 = nI s) : ∃ v, fSn_lastWaiting r pe = some v ∧ (s = 0 → v = -1) := by
  unfold fSn_lastWaiting
  rw [h4]
  by_cases e : s = 0
  · rw [if_pos ((nI_le0 (by omega)).mpr e)]; exact ⟨_, rfl, fun _ => rfl⟩
  · rw [if_neg (nI_nle (by omega) (by omega)), if_neg (show ¬ (40 : Int32) < nI s from nI_nlt (a := 40) (by omega) (by omega)), nI_p1 (by omega), zrd_n (by omega) (by omega)]
    exact ⟨_, rfl, fun h => absurd h e⟩
theorem x_pushD {r pe : Nat → Int32} {x : Int32} (h : zD r) : ∃ Y, fSn_addWaiting r pe x = some Y ∧ zD Y.1 := by
  obtain ⟨m, s, h1, h2, h3, h4⟩ := id h
  unfold fSn_addWaiting
  rw [h4]
  by_cases e : s < 40
  · rw [if_neg (zg40 e), zwr_n e (by omega)]
    refine ⟨_, rfl, m, s + 1, h1, by omega, ?_, ?_⟩
    · show zup r 6 (nI s + 1) 5 = _
      rw [zup_n (by omega)]; exact h3
    · show zup r 6 (nI s + 1) 6 = _
      rw [zup_s, nI_1]
  · rw [if_pos (ze40 (by omega) (by omega))]
    exact ⟨_, rfl, h⟩
theorem x_endD {r pa ot nu pe : Nat → Int32} (h : zD r) : ∃ Y, fSn_endOne r pa ot nu pe = some Y ∧ zD Y.1 := by
  unfold fSn_endOne
  simp only [zlet]
  refine zLP_use (body := fun s : (Nat → Int32) × (Nat → Int32) × (Nat → Int32) × (Nat → Int32) × Int32 => fSn_endOne_L7 pe s.1 s.2.1 s.2.2.1 s.2.2.2.1 s.2.2.2.2) (s := (zup r 9 0, pa, ot, nu, 0)) (fun k t => t.2.2.2.2 = nI k ∧ zD t.1) (fun q => zD q.1) 8 ⟨rfl, zD_up h (by omega)⟩ (fun q h1 h2 => ?_) ?_ ?_
  · rw [h1]; exact ⟨_, rfl, h2⟩
  · rintro k ⟨t1, t2, t3, t4, t5⟩ hk ⟨rfl, hD⟩
    try dsimp only at *
    obtain ⟨m, s, h1, h2, h3, h4⟩ := id hD
    obtain ⟨v, v1, v2⟩ := x_lastD (pe := pe) h2 h4
    unfold fSn_endOne_L7
    rw [if_neg (zg8 hk), v1]
    simp only [Option.bind_some]
    by_cases e : v = 12
    · left
      have hs : s ≠ 0 := fun e2 => by rw [v2 e2] at e; exact absurd e (by decide)
      obtain ⟨⟨y1, y2, y3, y4⟩, a1, ⟨m', s', b1, b2, b3, b4⟩, a3⟩ := x_addD (pa := t2) (ot := t3) (nu := t4) (x := 12) (y := -1) (z := 0) hD
      rw [if_pos e, a1]
      simp only [Option.bind_some, zlet]
      refine ⟨_, rfl, nI_1 k, m', s - 1, b1, by omega, ?_, ?_⟩
      · show zup (zup y1 6 (y1 6 - 1)) 7 (zup y1 6 (y1 6 - 1) 7 - 1) 5 = _
        rw [zup_n (by omega), zup_n (by omega)]; exact b3
      · show zup (zup y1 6 (y1 6 - 1)) 7 (zup y1 6 (y1 6 - 1) 7 - 1) 6 = _
        have a3' : y1 6 = t1 6 := a3
        rw [zup_n (by omega), zup_s, a3', h4, nI_p1 (by omega)]
    · right
      rw [if_neg e]
      exact ⟨_, rfl, hD⟩
  · rintro ⟨t1, t2, t3, t4, t5⟩ ⟨rfl, hD⟩
    try dsimp only at *
    refine ⟨(t1, t2, t3, t4), ?_, hD⟩
    unfold fSn_endOne_L7
    rw [if_pos (by decide)]
theorem x_setD {r pa ot nu pe : Nat → Int32} {wv : Int32} (h : zD r) : ∃ Y, fSn_settleWaiting r pa ot nu pe wv = some Y ∧ zD Y.1 := by
  unfold fSn_settleWaiting
  refine zLP_use (body := fun s : (Nat → Int32) × (Nat → Int32) × (Nat → Int32) × (Nat → Int32) × Int32 => fSn_settleWaiting_L2 pe wv s.1 s.2.1 s.2.2.1 s.2.2.2.1 s.2.2.2.2) (s := (r, pa, ot, nu, 0)) (fun k t => t.2.2.2.2 = nI k ∧ zD t.1) (fun q => zD q.1) 40 ⟨rfl, h⟩ (fun q h1 h2 => ?_) ?_ ?_
  · rw [h1]; exact ⟨_, rfl, h2⟩
  · rintro k ⟨t1, t2, t3, t4, t5⟩ hk ⟨rfl, hD⟩
    try dsimp only at *
    obtain ⟨m, s, h1, h2, h3, h4⟩ := id hD
    obtain ⟨v, v1, v2⟩ := x_lastD (pe := pe) h2 h4
    have hpop : s ≠ 0 → ∃ t', ((fSn_addPart t1 t2 t3 t4 v (-1) 0).bind fun y15 => some (Sum.inl (β := (Nat → Int32) × (Nat → Int32) × (Nat → Int32) × (Nat → Int32)) (zup y15.1 6 (y15.1 6 - 1), y15.2.1, y15.2.2.1, y15.2.2.2, nI k + 1))) = some (.inl t') ∧ t'.2.2.2.2 = nI (k + 1) ∧ zD t'.1 := by
      intro hs
      obtain ⟨⟨y1, y2, y3, y4⟩, a1, ⟨m', s', b1, b2, b3, b4⟩, a3⟩ := x_addD (pa := t2) (ot := t3) (nu := t4) (x := v) (y := -1) (z := 0) hD
      rw [a1]
      refine ⟨_, rfl, nI_1 k, m', s - 1, b1, by omega, ?_, ?_⟩
      · show zup y1 6 (y1 6 - 1) 5 = _
        rw [zup_n (by omega)]; exact b3
      · show zup y1 6 (y1 6 - 1) 6 = _
        have a3' : y1 6 = t1 6 := a3
        rw [zup_s, a3', h4, nI_p1 (by omega)]
    unfold fSn_settleWaiting_L2
    rw [if_neg (zg40 hk), v1]
    simp only [Option.bind_some, zlet]
    by_cases e : v = 11
    · left
      rw [if_pos e]
      exact hpop (fun e2 => by rw [v2 e2] at e; exact absurd e (by decide))
    · rw [if_neg e]
      by_cases e2 : v = 10
      · rw [if_pos e2]
        by_cases e3 : wv = 10
        · left
          rw [if_pos e3]
          exact hpop (fun e4 => by rw [v2 e4] at e2; exact absurd e2 (by decide))
        · right
          rw [if_neg e3]; exact ⟨_, rfl, hD⟩
      · right
        rw [if_neg e2]; exact ⟨_, rfl, hD⟩
  · rintro ⟨t1, t2, t3, t4, t5⟩ ⟨rfl, hD⟩
    try dsimp only at *
    refine ⟨(t1, t2, t3, t4), ?_, hD⟩
    unfold fSn_settleWaiting_L2
    rw [if_pos (by decide)]
abbrev s7 : Type := (Nat → Int32) × (Nat → Int32) × (Nat → Int32) × (Nat → Int32) × (Nat → Int32) × (Nat → Int32) × (Nat → Int64)
noncomputable def sK2 (r0 pa ot nu pe rx : Nat → Int32) (wx : Nat → Int64) (tp tb : Nat → Int32) (tw : Nat → Int64) (rp : Nat → Int32) (cn pn : Nat → Int64) (y1 : Int32) (rz : Nat → Int32) : Option s7 :=
  (fRd_goOn rz wx tp tb).bind (fun y5 => if fRd_isSign rx 40 = true then (fSn_addWaiting (zup r0 8 (r0 8 + 1)) pe (if fRd_isSign rx 40 = true then 22 else 12)).bind (fun y8 => some (zup y8.1 7 (y8.1 7 + 1), pa, ot, nu, y8.2, y5.1, y5.2)) else if y1 = 12 then (fSn_addWaiting (zup r0 8 (r0 8 + 1)) pe (if fRd_isSign rx 40 = true then 22 else 12)).bind (fun y8 => some (zup y8.1 7 (y8.1 7 + 1), pa, ot, nu, y8.2, y5.1, y5.2)) else (fSn_readPlain (zup r0 8 (r0 8 + 1)) pa ot nu y5.1 y5.2 tp tb tw rp cn pn y1).bind (fun y13 => (fSn_endOne y13.1 y13.2.1 y13.2.2.1 y13.2.2.2.1 pe).bind (fun y14 => some (y14.1, y14.2.1, y14.2.2.1, y14.2.2.2, pe, y13.2.2.2.2.1, y13.2.2.2.2.2))))
noncomputable def sK1 (r0 pa ot nu pe rx : Nat → Int32) (wx : Nat → Int64) (tp tb : Nat → Int32) (tw : Nat → Int64) (rp : Nat → Int32) (cn pn : Nat → Int64) (y1 : Int32) (rz : Nat → Int32) : Option s7 :=
  if 20 ≤ r0 8 then (fRd_fail rz 4).bind (fun y => sK2 r0 pa ot nu pe rx wx tp tb tw rp cn pn y1 y) else if r0 7 < 8 then sK2 r0 pa ot nu pe rx wx tp tb tw rp cn pn y1 rz else (fRd_fail rz 4).bind (fun y => sK2 r0 pa ot nu pe rx wx tp tb tw rp cn pn y1 y)
theorem readOne_eq {r0 pa ot nu pe rx tp tb rp : Nat → Int32} {wx tw cn pn : Nat → Int64} : fSn_readOne r0 pa ot nu pe rx wx tp tb tw rp cn pn = (fRd_toldWord rx wx tw).bind (fun y1 => if fRd_isSign rx 40 = true then sK1 r0 pa ot nu pe rx wx tp tb tw rp cn pn y1 rx else if 12 ≤ y1 then sK1 r0 pa ot nu pe rx wx tp tb tw rp cn pn y1 rx else (fRd_fail rx 1).bind (fun y => sK1 r0 pa ot nu pe rx wx tp tb tw rp cn pn y1 y)) := rfl
theorem d_plain {r0 pa ot nu rz tp tb rp : Nat → Int32} {wx tw cn pn : Nat → Int64} {y1 : Int32} (hd : ¬ rz 8 = 0) (hD : zD r0) : ∃ y1' y2 y3 y4, fSn_readPlain r0 pa ot nu rz wx tp tb tw rp cn pn y1 = some (y1', y2, y3, y4, rz, wx) ∧ zD y1' := by
  unfold fSn_readPlain
  rw [d_corner hd, d_person hd, d_comp hd]
  simp only [Option.bind_some, zlet]
  rw [d_go hd, d_number hd]
  simp only [Option.bind_some]
  by_cases e1 : y1 = 16
  · obtain ⟨⟨a1, a2, a3, a4⟩, b1, b2, b3⟩ := x_addD (pa := pa) (ot := ot) (nu := nu) (x := y1) (y := -1) (z := 0) hD
    rw [if_pos e1, b1]; exact ⟨a1, a2, a3, a4, rfl, b2⟩
  · rw [if_neg e1]
    by_cases e2 : y1 = 17
    · obtain ⟨⟨a1, a2, a3, a4⟩, b1, b2, b3⟩ := x_addD (pa := pa) (ot := ot) (nu := nu) (x := y1) (y := -1) (z := 0) hD
      rw [if_pos e2, b1]; exact ⟨a1, a2, a3, a4, rfl, b2⟩
    · rw [if_neg e2]
      by_cases e3 : y1 < 18
      · obtain ⟨⟨a1, a2, a3, a4⟩, b1, b2, b3⟩ := x_addD (pa := pa) (ot := ot) (nu := nu) (x := y1) (y := -1) (z := 0) hD
        rw [if_pos e3, b1]; exact ⟨a1, a2, a3, a4, rfl, b2⟩
      · obtain ⟨⟨a1, a2, a3, a4⟩, b1, b2, b3⟩ := x_addD (pa := pa) (ot := ot) (nu := nu) (x := y1) (y := rz 5) (z := rz 7) hD
        rw [if_neg e3, b1]; exact ⟨a1, a2, a3, a4, rfl, b2⟩
theorem d_K2 {r0 pa ot nu pe rx rz tp tb rp : Nat → Int32} {wx tw cn pn : Nat → Int64} {y1 : Int32} (hd : ¬ rz 8 = 0) (hD : zD r0) : ∃ Y, sK2 r0 pa ot nu pe rx wx tp tb tw rp cn pn y1 rz = some Y ∧ zD Y.1 ∧ Y.2.2.2.2.2.1 = rz := by
  have hD1 : zD (zup r0 8 (r0 8 + 1)) := zD_up hD (by omega)
  unfold sK2
  rw [d_go hd]
  simp only [Option.bind_some]
  by_cases e1 : fRd_isSign rx 40 = true
  · rw [if_pos e1]
    obtain ⟨⟨a1, a2⟩, b1, b2⟩ := x_pushD (pe := pe) (x := if fRd_isSign rx 40 = true then 22 else 12) hD1
    rw [b1]
    exact ⟨_, rfl, zD_up b2 (by omega), rfl⟩
  · rw [if_neg e1]
    by_cases e2 : y1 = 12
    · rw [if_pos e2]
      obtain ⟨⟨a1, a2⟩, b1, b2⟩ := x_pushD (pe := pe) (x := if fRd_isSign rx 40 = true then 22 else 12) hD1
      rw [b1]
      exact ⟨_, rfl, zD_up b2 (by omega), rfl⟩
    · rw [if_neg e2]
      obtain ⟨a1, a2, a3, a4, b1, b2⟩ := d_plain (pa := pa) (ot := ot) (nu := nu) (tp := tp) (tb := tb) (rp := rp) (wx := wx) (tw := tw) (cn := cn) (pn := pn) (y1 := y1) hd hD1
      rw [b1]
      simp only [Option.bind_some]
      obtain ⟨⟨c1, c2, c3, c4⟩, d1, d2⟩ := x_endD (pa := a2) (ot := a3) (nu := a4) (pe := pe) b2
      rw [d1]
      exact ⟨_, rfl, d2, rfl⟩
theorem d_K1 {r0 pa ot nu pe rx rz tp tb rp : Nat → Int32} {wx tw cn pn : Nat → Int64} {y1 : Int32} (hd : ¬ rz 8 = 0) (hD : zD r0) : ∃ Y, sK1 r0 pa ot nu pe rx wx tp tb tw rp cn pn y1 rz = some Y ∧ zD Y.1 ∧ Y.2.2.2.2.2.1 = rz := by
  unfold sK1
  rw [d_fail hd]
  simp only [Option.bind_some]
  have := d_K2 (pa := pa) (ot := ot) (nu := nu) (pe := pe) (rx := rx) (tp := tp) (tb := tb) (rp := rp) (wx := wx) (tw := tw) (cn := cn) (pn := pn) (y1 := y1) hd hD
  by_cases e1 : (20 : Int32) ≤ r0 8
  · rw [if_pos e1]; exact this
  · rw [if_neg e1]
    by_cases e2 : r0 7 < 8
    · rw [if_pos e2]; exact this
    · rw [if_neg e2]; exact this
theorem tokR_cong {n L k v a p : Nat} {w : List Nat} {rx rm rm' : Nat → Int32} {wx wm : Nat → Int64} (h : tokR n L rx wx rm wm k v w a p) (e : ∀ j, j < 17 → rm' j = rm j) : tokR n L rx wx rm' wm k v w a p := by
  unfold tokR at h ⊢
  rw [e 3 (by omega), e 5 (by omega), e 11 (by omega), e 12 (by omega), e 15 (by omega), e 14 (by omega), e 4 (by omega)]
  exact h
theorem m_isSg {n L k v a p c : Nat} {w : List Nat} {rx rm : Nat → Int32} {wx wm : Nat → Int64} (h : tokR n L rx wx rm wm k v w a p) (hc : isSg c) : fM_isSign rm (nI c) = decide (k = 3 ∧ v = c) := by
  obtain ⟨t1, t2, t3⟩ := tok_11 h
  have hc100 : c < 100 := by unfold isSg at hc; omega
  unfold fM_isSign
  rw [t2]
  by_cases e : k = 3
  · rw [if_pos ((nI_k3 (by omega)).mpr e)]
    have hv : isSg v ∧ rm 14 = nI v := by
      rcases h.2.2.2.2.2.2.2.2.2 with ⟨c1, -⟩ | ⟨c1, -⟩ | ⟨c1, -⟩ | ⟨c1, c2, c3, c4, -⟩ | ⟨c1, -⟩
      · omega
      · omega
      · omega
      · exact ⟨c2, c4⟩
      · omega
    rw [hv.2]
    have hv100 : v < 100 := by have := hv.1; unfold isSg at this; omega
    by_cases e2 : v = c
    · rw [if_pos (by rw [e2]), decide_eq_true ⟨e, e2⟩]
    · rw [if_neg (fun h => e2 ((nI_eq (by omega) (by omega)).mp h)), decide_eq_false (fun h => e2 h.2)]
  · rw [if_neg (fun h => e ((nI_k3 (by omega)).mp h)), decide_eq_false (fun h => e h.1)]
theorem x_isSg {n L k v a p c : Nat} {w : List Nat} {rx rm : Nat → Int32} {wx wm : Nat → Int64} (h : tokR n L rx wx rm wm k v w a p) (hc : isSg c) : fRd_isSign rx (nI c) = decide (k = 3 ∧ v = c) := by
  unfold fRd_isSign
  have := (tok_kx h).2.2.2 c hc
  by_cases e : k = 3 ∧ v = c
  · rw [if_pos (this.mpr e), decide_eq_true e]
  · rw [if_neg (fun h => e (this.mp h)), decide_eq_false e]
def mJ (rm rm' : Nat → Int32) : Prop := ∀ j, j < 4 ∨ (19 ≤ j ∧ j < 44) ∨ 48 < j → rm' j = rm j
theorem mJ_of {r s : Nat → Int32} (h : mF r s) : mJ r s := fun j hj => h j (by omega)
theorem mJ_H {r s : Nat → Int32} (h : mH r s) : mJ r s := fun j hj => h j (by omega)
theorem mJ_trans {r s t : Nat → Int32} (h : mJ r s) (g : mJ s t) : mJ r t := fun j hj => (g j hj).trans (h j hj)
theorem mJ_up {r s : Nat → Int32} (h : mJ r s) {k : Nat} {v : Int32} (hk : (4 ≤ k ∧ k < 19) ∨ (44 ≤ k ∧ k ≤ 48)) : mJ r (zup s k v) := fun j hj => by rw [zup_n (by omega)]; exact h j hj
theorem zMo_cong {st : List Nat} {cd : List aI} {on : Nat} {due : Bool} {r r' rd sk : Nat → Int32} (h : zMo st cd on due r rd sk) (e : ∀ j, 44 ≤ j → j ≤ 48 → r' j = r j) : zMo st cd on due r' rd sk := by
  unfold zMo at h ⊢
  rw [e 44 (by omega) (by omega), e 45 (by omega) (by omega), e 46 (by omega) (by omega), e 47 (by omega) (by omega), e 48 (by omega) (by omega)]
  exact h
theorem m_leaf {n L k v a p : Nat} {w : List Nat} {rx rm : Nat → Int32} {wx wm : Nat → Int64} (h : tokR n L rx wx rm wm k v w a p) : fM_leafOf rm wm = if 13 ≤ tW k w ∧ tW k w < 22 then nI (tW k w - 13) else -1 := by
  have ht := tW_le k w
  unfold fM_leafOf
  rw [m_isW h (j := 13) (by omega) (by decide), m_isW h (j := 14) (by omega) (by decide), m_isW h (j := 15) (by omega) (by decide), m_isW h (j := 16) (by omega) (by decide), m_isW h (j := 17) (by omega) (by decide), m_isW h (j := 18) (by omega) (by decide), m_isW h (j := 19) (by omega) (by decide), m_isW h (j := 20) (by omega) (by decide), m_isW h (j := 21) (by omega) (by decide)]
  simp only [decide_eq_true_eq]
  have hA : ∀ T, T ≤ 22 → (if T = 13 then (0 : Int32) else if T = 14 then 1 else if T = 15 then 2 else if T = 16 then 3 else if T = 17 then 4 else if T = 18 then 5 else if T = 19 then 6 else if T = 20 then 7 else if T = 21 then 8 else -1) = if 13 ≤ T ∧ T < 22 then nI (T - 13) else -1 := by decide
  exact hA _ ht
