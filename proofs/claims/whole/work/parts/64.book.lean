/-! ===== a book: its lines (0 goes, 1 drops, 2 leaves, 3 hires, 4 minutes) ===== -/
abbrev aB : Type := Nat × Nat × Nat × Nat
def bX (c : aB) (ac at_ ot nu : Int32) : Prop := ac = nI (5 + c.1) ∧ (c.1 < 4 → at_ = nI c.2.1) ∧ (c.1 = 0 ∨ c.1 = 3 → ot = nI c.2.2.1) ∧ (c.1 = 3 → nu = nI c.2.2.2) ∧ (c.1 = 4 → nu = nI c.2.1)
def bOK (C P : Nat) (c : aB) : Prop := c.1 ≤ 4 ∧ (c.1 < 4 → c.2.1 < P) ∧ (c.1 = 0 → c.2.2.1 < C) ∧ (c.1 = 3 → c.2.2.1 < P ∧ 1 ≤ c.2.2.2 ∧ c.2.2.2 ≤ 5) ∧ (c.1 = 4 → 1 ≤ c.2.1 ∧ c.2.1 ≤ 60)
def lnX : List aB → (Nat → Int32) → (Nat → Int32) → (Nat → Int32) → (Nat → Int32) → Prop
  | [], _, _, _, _ => True
  | c :: t, ac, at_, ot, nu => bX c (ac t.length) (at_ t.length) (ot t.length) (nu t.length) ∧ lnX t ac at_ ot nu
def lnM : List aB → (Nat → Int32) → Prop
  | [], _ => True
  | c :: t, rd => (rd (4 * t.length) = nI c.1 ∧ rd (4 * t.length + 1) = nI c.2.1 ∧ (c.1 = 0 ∨ c.1 = 3 → rd (4 * t.length + 2) = nI c.2.2.1) ∧ (c.1 = 3 → rd (4 * t.length + 3) = nI c.2.2.2)) ∧ lnM t rd
def lnO (C P : Nat) (ln : List aB) : Prop := ∀ c, c ∈ ln → bOK C P c
theorem lnX_cong : ∀ {ln : List aB} {ac at_ ot nu ac' at' ot' nu' : Nat → Int32}, (∀ i, i < ln.length → ac' i = ac i ∧ at' i = at_ i ∧ ot' i = ot i ∧ nu' i = nu i) → lnX ln ac at_ ot nu → lnX ln ac' at' ot' nu'
  | [], _, _, _, _, _, _, _, _, _, _ => trivial
  | c :: t, ac, at_, ot, nu, ac', at', ot', nu', e, h => by
    have hl : (c :: t).length = t.length + 1 := rfl
    obtain ⟨e1, e2, e3, e4⟩ := e t.length (by omega)
    exact ⟨by rw [e1, e2, e3, e4]; exact h.1, lnX_cong (fun i hi => e i (by omega)) h.2⟩
theorem lnM_cong : ∀ {ln : List aB} {rd rd' : Nat → Int32}, (∀ i, i < 4 * ln.length → rd' i = rd i) → lnM ln rd → lnM ln rd'
  | [], _, _, _, _ => trivial
  | c :: t, rd, rd', e, h => by
    have hl : (c :: t).length = t.length + 1 := rfl
    refine ⟨⟨?_, ?_, fun g => ?_, fun g => ?_⟩, lnM_cong (fun i hi => e i (by omega)) h.2⟩
    · rw [e _ (by omega)]; exact h.1.1
    · rw [e _ (by omega)]; exact h.1.2.1
    · rw [e _ (by omega)]; exact h.1.2.2.1 g
    · rw [e _ (by omega)]; exact h.1.2.2.2 g
theorem d_act {bk ot nu rz tp tb rp : Nat → Int32} {wx tw cn pn : Nat → Int64} {m : Nat} {a3 a4 : Int32} (hm : m < 40) (h4 : bk 4 = nI m) (hd : ¬ rz 8 = 0) : ∃ ot' nu', fBk_readAct bk ot nu rz wx tp tb tw rp cn pn a3 a4 = some (ot', nu', rz, wx) := by
  unfold fBk_readAct
  rw [d_go hd, h4, d_number hd, d_fail hd]
  by_cases e5 : a3 = 5
  · rw [if_pos e5, Option.bind_some, d_corner hd, Option.bind_some, zwr_n hm (by omega), Option.bind_some, d_go hd]; exact ⟨_, _, rfl⟩
  · rw [if_neg e5]
    by_cases e6 : a3 = 6
    · rw [if_pos e6]; exact ⟨_, _, rfl⟩
    · rw [if_neg e6]
      by_cases e7 : a3 = 7
      · rw [if_pos e7]; exact ⟨_, _, rfl⟩
      · rw [if_neg e7]
        by_cases e8 : a3 = 8
        · rw [if_pos e8, Option.bind_some, d_person hd, Option.bind_some, zwr_n hm (by omega), Option.bind_some, zrd_n hm (by omega), Option.bind_some, zlet_e]
          by_cases e : zup ot m (-1) m = a4
          · rw [if_pos e, d_fail hd, Option.bind_some]; dsimp only; rw [d_go hd, Option.bind_some, d_number hd, Option.bind_some, zwr_n hm (by omega)]; exact ⟨_, _, rfl⟩
          · rw [if_neg e]; dsimp only; rw [d_go hd, Option.bind_some, d_number hd, Option.bind_some, zwr_n hm (by omega)]; exact ⟨_, _, rfl⟩
        · rw [if_neg e8]
          by_cases e9 : a3 = 9
          · rw [if_pos e9, Option.bind_some, zwr_n hm (by omega)]; exact ⟨_, _, rfl⟩
          · rw [if_neg e9]; exact ⟨_, _, rfl⟩
noncomputable def kJ (bk ac at_ ot nu : Nat → Int32) (wx : Nat → Int64) (tp tb : Nat → Int32) (tw : Nat → Int64) (rp : Nat → Int32) (cn pn : Nat → Int64) (y1 : Int32) (rz : Nat → Int32) (x3 : Int32) : Option ((Nat → Int32) × (Nat → Int32) × (Nat → Int32) × (Nat → Int32) × (Nat → Int32) × (Nat → Int64)) :=
  if bk 4 < 40 then (fRd_goOn rz wx tp tb).bind (fun y5 => if y1 = 9 then (zwr ac 40 (bk 4) y1).bind (fun r7 => (zwr at_ 40 (bk 4) x3).bind (fun r8 => (fBk_readAct bk ot nu y5.1 y5.2 tp tb tw rp cn pn y1 x3).bind (fun y9 => some (r7, r8, y9.1, y9.2.1, y9.2.2.1, y9.2.2.2)))) else (fRd_toldWord y5.1 y5.2 tw).bind (fun y12 => (zwr ac 40 (bk 4) y12).bind (fun r7 => (zwr at_ 40 (bk 4) x3).bind (fun r8 => (fBk_readAct bk ot nu y5.1 y5.2 tp tb tw rp cn pn y12 x3).bind (fun y9 => some (r7, r8, y9.1, y9.2.1, y9.2.2.1, y9.2.2.2)))))) else (fRd_fail rz 4).bind (fun y13 => some (ac, at_, ot, nu, y13, wx))
theorem bkLine_eq {bk ac at_ ot nu rx tp tb rp : Nat → Int32} {wx tw cn pn : Nat → Int64} : fBk_readLine bk ac at_ ot nu rx wx tp tb tw rp cn pn = (fRd_toldWord rx wx tw).bind (fun y1 => if y1 = 9 then kJ bk ac at_ ot nu wx tp tb tw rp cn pn y1 rx (-1) else (fRd_needPerson rx wx tw rp pn).bind (fun y16 => kJ bk ac at_ ot nu wx tp tb tw rp cn pn y1 y16.2 y16.1)) := rfl
theorem d_kJ {bk ac at_ ot nu rz tp tb rp : Nat → Int32} {wx tw cn pn : Nat → Int64} {m : Nat} {y1 x3 : Int32} (hm : m ≤ 40) (h4 : bk 4 = nI m) (hd : ¬ rz 8 = 0) : ∃ ac' at' ot' nu', kJ bk ac at_ ot nu wx tp tb tw rp cn pn y1 rz x3 = some (ac', at', ot', nu', rz, wx) := by
  unfold kJ
  rw [h4]
  by_cases e : m < 40
  · obtain ⟨v, hv⟩ := d_told (rx := rz) (wx := wx) (tw := tw)
    rw [if_pos (show nI m < 40 from nI_lt (b := 40) e (by omega)), d_go hd, Option.bind_some]
    by_cases e9 : y1 = 9
    · obtain ⟨o1, o2, o3⟩ := d_act (ot := ot) (nu := nu) (tp := tp) (tb := tb) (rp := rp) (wx := wx) (tw := tw) (cn := cn) (pn := pn) (a3 := y1) (a4 := x3) e h4 hd
      rw [if_pos e9, zwr_n e (by omega), Option.bind_some, zwr_n e (by omega), Option.bind_some, o3]
      exact ⟨_, _, _, _, rfl⟩
    · obtain ⟨o1, o2, o3⟩ := d_act (ot := ot) (nu := nu) (tp := tp) (tb := tb) (rp := rp) (wx := wx) (tw := tw) (cn := cn) (pn := pn) (a3 := v) (a4 := x3) e h4 hd
      rw [if_neg e9, hv, Option.bind_some, zwr_n e (by omega), Option.bind_some, zwr_n e (by omega), Option.bind_some, o3]
      exact ⟨_, _, _, _, rfl⟩
  · rw [if_neg (show ¬ nI m < 40 from nI_nlt (b := 40) (by omega) (by omega)), d_fail hd]
    exact ⟨_, _, _, _, rfl⟩
abbrev b4 : Type := Bool × (Nat → Int32) × (Nat → Int64) × (Nat → Int32)
noncomputable def kT (mt s rd : Nat → Int32) (nm rs : Nat → Int64) (x1 x5 x17 : Int32) (r6 : Nat → Int32) (w6 : Nat → Int64) : Option b4 :=
  if 0 ≤ x17 then (fM_next r6 w6 mt).bind (fun y19 => (zwr rd 160 x1 x17).bind (fun rd20 => (zwr rd20 160 (x1 + 1) x5).bind (fun rd21 => if x17 = 1 then some (true, y19.1, y19.2, rd21) else if x17 = 2 then some (true, y19.1, y19.2, rd21) else if x17 = 0 then (fM_takesName y19.1 y19.2 mt nm rs 0 (s 0)).bind (fun y25 => if y25.1 = true then (zwr rd21 160 (x1 + 2) (y25.2.1 18)).bind (fun rd27 => some (true, y25.2.1, y25.2.2, rd27)) else some (false, y25.2.1, y25.2.2, rd21)) else (fM_looksAt y19.1 y19.2 nm rs 8 (s 2)).bind (fun y28 => if y28.1 = true then if y28.2 18 = x5 then (fM_bad y28.2 3).bind (fun y31 => some (y31.1, y31.2, y19.2, rd21)) else (zwr rd21 160 (x1 + 2) (y28.2 18)).bind (fun rd32 => (fM_next y28.2 y19.2 mt).bind (fun y33 => (fM_takes y33.1 y33.2 mt 1 5).bind (fun y34 => if y34.1 = true then (zwr rd32 160 (x1 + 3) (y34.2.1 18)).bind (fun rd36 => some (true, y34.2.1, y34.2.2, rd36)) else some (false, y34.2.1, y34.2.2, rd32)))) else some (false, y28.2, y19.2, rd21))))) else (fM_bad r6 1).bind (fun y37 => some (y37.1, y37.2, w6, rd))
noncomputable def kW (r : Nat → Int32) (w : Nat → Int64) : Int32 := if fM_isWord r w 1735353715 = true then (0 : Int32) else (if fM_isWord r w 431416635507 = true then (1 : Int32) else (if fM_isWord r w 119182682645875 = true then (2 : Int32) else (if fM_isWord r w 448445703539 = true then (3 : Int32) else ((-1) : Int32))))
noncomputable def kM (rm : Nat → Int32) (wm : Nat → Int64) (mt s rd : Nat → Int32) (nm rs : Nat → Int64) (r2 : Nat → Int32) : Option b4 :=
  if r2 40 = 40 then (fM_bad r2 4).bind (fun y4 => some (y4.1, y4.2, wm, rd)) else (fM_next r2 wm mt).bind (fun y6 => if fM_isWord rm wm 120299592184933 = true then (zwr rd 160 (4 * rm 40) 4).bind (fun rd8 => (fM_takes y6.1 y6.2 mt 1 60).bind (fun y9 => if y9.1 = true then (zwr rd8 160 (4 * rm 40 + 1) (y9.2.1 18)).bind (fun rd11 => some (true, y9.2.1, y9.2.2, rd11)) else some (false, y9.2.1, y9.2.2, rd8))) else kT mt s rd nm rs (4 * rm 40) (r2 18) (kW y6.1 y6.2) y6.1 y6.2)
theorem bookLine_eq {rm mt s rd : Nat → Int32} {wm nm rs : Nat → Int64} : fM_bookLine rm wm mt s rd nm rs = if fM_isWord rm wm 120299592184933 = true then kM rm wm mt s rd nm rs rm else (fM_looksAt rm wm nm rs 8 (s 2)).bind (fun y40 => if y40.1 = true then kM rm wm mt s rd nm rs y40.2 else some (false, y40.2, wm, rd)) := rfl
theorem k_W {n L k v a p : Nat} {w : List Nat} {rx rm : Nat → Int32} {wx wm : Nat → Int64} (h : tokR n L rx wx rm wm k v w a p) : kW rm wm = if 5 ≤ tW k w ∧ tW k w ≤ 8 then nI (tW k w - 5) else -1 := by
  have ht := tW_le k w
  unfold kW
  rw [m_isW h (j := 5) (by omega) (by decide), m_isW h (j := 6) (by omega) (by decide), m_isW h (j := 7) (by omega) (by decide), m_isW h (j := 8) (by omega) (by decide)]
  simp only [decide_eq_true_eq]
  have hA : ∀ T, T ≤ 22 → (if T = 5 then (0 : Int32) else if T = 6 then 1 else if T = 7 then 2 else if T = 8 then 3 else -1) = if 5 ≤ T ∧ T ≤ 8 then nI (T - 5) else -1 := by decide
  exact hA _ ht
section BL
variable {n L k v a p C S P m : Nat} {b B : Nat → Nat} {w : List Nat} {nC nP : Nat → List Nat} {ln : List aB} {tp tb mt rx rm rp bs s bk ac at_ ot nu rd : Nat → Int32} {wx wm tw rs nm cn pn : Nat → Int64}
/-- the act of a person's line -/
theorem b_act {q : Nat} (hq : q < P) (hm : m < 40) (hlm : ln.length = m) (E : tE n L b tp tb mt) (W : wE tw rs) (K : tokR n L rx wx rm wm k v w a p) (TX : tRX C S P B nC nP rp bs cn pn) (TM : tRM 0 8 C S P B nC nP s nm) (h4 : bk 4 = nI m) (hx : lnX ln ac at_ ot nu) (hmm : lnM ln rd) {y : Int32} (hy : y = if tW k w < 22 then nI (tW k w) else -1) :
    ∃ ot' nu' rx' wx' ok rm' wm' rd', fBk_readAct bk ot nu rx wx tp tb tw rp cn pn y (nI q) = some (ot', nu', rx', wx') ∧ kT mt s rd nm rs (nI (4 * m)) (nI q) (if 5 ≤ tW k w ∧ tW k w ≤ 8 then nI (tW k w - 5) else -1) rm wm = some (ok, rm', wm', rd') ∧ mF rm rm' ∧
      ((ok = true ∧ (∃ k' v' w' a' p', tokR n L rx' wx' rm' wm' k' v' w' a' p' ∧ a < a') ∧ ∃ c, bOK C P c ∧ lnX (c :: ln) (zup ac m y) (zup at_ m (nI q)) ot' nu' ∧ lnM (c :: ln) rd') ∨ (ok = false ∧ tFl rx' rm')) := by
  obtain ⟨hC, hS, hP, r4, r5, r6, hb, hBC, hX, hXP⟩ := TX
  obtain ⟨h0, h1, h2, h3, hM, hMP⟩ := TM
  have hn := E.1.1
  have ht := tW_le k w
  have hkeep : ∀ ot' nu', (∀ i, i < m → ot' i = ot i ∧ nu' i = nu i) → lnX ln (zup ac m y) (zup at_ m (nI q)) ot' nu' := fun ot' nu' e => lnX_cong (fun i hi => ⟨zup_n (by omega), zup_n (by omega), (e i (by omega)).1, (e i (by omega)).2⟩) hx
  have hkm : ∀ rd', (∀ i, i < 4 * m → rd' i = rd i) → lnM ln rd' := fun rd' e => lnM_cong (fun i hi => e i (by omega)) hmm
  have hcell : ∀ c : aB, y = nI (5 + c.1) → c.2.1 = q → c.1 < 4 → ∀ ot' nu' : Nat → Int32, (c.1 = 0 ∨ c.1 = 3 → ot' m = nI c.2.2.1) → (c.1 = 3 → nu' m = nI c.2.2.2) → (∀ i, i < m → ot' i = ot i ∧ nu' i = nu i) → lnX (c :: ln) (zup ac m y) (zup at_ m (nI q)) ot' nu' := fun c c1 c2 c3 ot' nu' c4 c5 e => ⟨by
    rw [hlm, zup_s, zup_s]
    exact ⟨c1, fun _ => by rw [c2], c4, c5, fun h => by omega⟩, hkeep ot' nu' e⟩
  have hcm : ∀ (c : aB) (rd' : Nat → Int32), rd' (4 * m) = nI c.1 → rd' (4 * m + 1) = nI c.2.1 → (c.1 = 0 ∨ c.1 = 3 → rd' (4 * m + 2) = nI c.2.2.1) → (c.1 = 3 → rd' (4 * m + 3) = nI c.2.2.2) → (∀ i, i < 4 * m → rd' i = rd i) → lnM (c :: ln) rd' := fun c rd' c1 c2 c3 c4 e => ⟨by rw [hlm]; exact ⟨c1, c2, c3, c4⟩, hkm rd' e⟩
  by_cases hT : 5 ≤ tW k w ∧ tW k w ≤ 8
  · have hk1 := tW_1 (k := k) (w := w) (by omega)
    rw [if_pos (show tW k w < 22 by omega)] at hy
    rw [if_pos hT]
    obtain ⟨rx1, wx1, rm1, wm1, g1, g2, ⟨k1, v1, w1, a1, p1, K1, ha⟩, g4⟩ := t_go E K (Or.inl hk1)
    have e1 : nI (4 * m) + 1 = nI (4 * m + 1) := nI_1 _
    have e2 : nI (4 * m) + 2 = nI (4 * m + 2) := nI_add _ 2
    have e3 : nI (4 * m) + 3 = nI (4 * m + 3) := nI_add _ 3
    have hkt : ∀ T, T < 4 → kT mt s rd nm rs (nI (4 * m)) (nI q) (nI T) rm wm = if nI T = 1 then some (true, rm1, wm1, zup (zup rd (4 * m) (nI T)) (4 * m + 1) (nI q)) else if nI T = 2 then some (true, rm1, wm1, zup (zup rd (4 * m) (nI T)) (4 * m + 1) (nI q)) else if nI T = 0 then (fM_takesName rm1 wm1 mt nm rs 0 (s 0)).bind (fun y25 => if y25.1 = true then (zwr (zup (zup rd (4 * m) (nI T)) (4 * m + 1) (nI q)) 160 (nI (4 * m) + 2) (y25.2.1 18)).bind (fun rd27 => some (true, y25.2.1, y25.2.2, rd27)) else some (false, y25.2.1, y25.2.2, zup (zup rd (4 * m) (nI T)) (4 * m + 1) (nI q))) else (fM_looksAt rm1 wm1 nm rs 8 (s 2)).bind (fun y28 => if y28.1 = true then if y28.2 18 = nI q then (fM_bad y28.2 3).bind (fun y31 => some (y31.1, y31.2, wm1, zup (zup rd (4 * m) (nI T)) (4 * m + 1) (nI q))) else (zwr (zup (zup rd (4 * m) (nI T)) (4 * m + 1) (nI q)) 160 (nI (4 * m) + 2) (y28.2 18)).bind (fun rd32 => (fM_next y28.2 wm1 mt).bind (fun y33 => (fM_takes y33.1 y33.2 mt 1 5).bind (fun y34 => if y34.1 = true then (zwr rd32 160 (nI (4 * m) + 3) (y34.2.1 18)).bind (fun rd36 => some (true, y34.2.1, y34.2.2, rd36)) else some (false, y34.2.1, y34.2.2, rd32)))) else some (false, y28.2, wm1, zup (zup rd (4 * m) (nI T)) (4 * m + 1) (nI q))) := by
      intro T hT4
      unfold kT
      rw [if_pos (nI_pos' (by omega)), g2, Option.bind_some, zwr_n (by omega) (by omega), Option.bind_some, e1, zwr_n (by omega) (by omega), Option.bind_some]
    rw [hkt _ (by omega)]
    have hT5 : tW k w = 5 ∨ tW k w = 6 ∨ tW k w = 7 ∨ tW k w = 8 := by omega
    rcases hT5 with t | t | t | t
    · -- goes
      rw [t] at hy ⊢
      rw [if_neg (show ¬ nI (5 - 5) = 1 by decide), if_neg (show ¬ nI (5 - 5) = 2 by decide), if_pos (show nI (5 - 5) = 0 from rfl), h0]
      unfold fM_takesName
      have hxe : fBk_readAct bk ot nu rx wx tp tb tw rp cn pn y (nI q) = (fRd_needCorner rx1 wx1 tw rp cn).bind (fun y3 => (zwr ot 40 (nI m) y3.1).bind (fun ot4 => (fRd_goOn y3.2 wx1 tp tb).bind (fun y5 => some (ot4, nu, y5.1, y5.2)))) := by
        unfold fBk_readAct
        rw [if_pos (show y = 5 from hy), g1, Option.bind_some, h4]
      rw [hxe]
      rcases t_corner (fr := 0) hn W K1 hC r4 hX (by omega) hM with ⟨x, x1, x2, x3, x4⟩ | ⟨rx', rm', f1, f2, f3, f4, f5⟩
      · have x4' : fM_looksAt rm1 wm1 nm rs 0 (nI C) = _ := x4
        obtain ⟨rx3, wx3, rm3, wm3, y1, y2, ⟨k3, v3, w3, a3, p3, K3, ha3⟩, y4⟩ := t_go E (tokR_up K1 (j := 18) (x := nI x) (by omega)) (Or.inl x2)
        rw [x3, x4', Option.bind_some, Option.bind_some, zwr_n (by omega) (by omega), Option.bind_some, y1, if_pos rfl, y2, Option.bind_some, Option.bind_some, Option.bind_some, if_pos rfl, e2, zwr_n (by omega) (by omega), Option.bind_some]
        refine ⟨_, _, _, _, _, _, _, _, rfl, rfl, mF_trans (mG_F g4) (mF_trans (mF_up mF_rfl (by omega)) (mG_F y4)), Or.inl ⟨rfl, ⟨k3, v3, w3, a3, p3, K3, by omega⟩, (0, q, x, 0), ⟨by show 0 ≤ 4; omega, fun _ => hq, fun _ => x1, fun h => by simp at h, fun h => by simp at h⟩, hcell (0, q, x, 0) hy rfl (by show 0 < 4; omega) _ _ (fun _ => zup_s) (fun h => by simp at h) (fun i hi => ⟨zup_n (by omega), rfl⟩), hcm (0, q, x, 0) _ ?_ ?_ (fun _ => ?_) (fun h => by simp at h) (fun i hi => ?_)⟩⟩
        · rw [zup_n (by omega), zup_n (by omega), zup_s]
        · rw [zup_n (by omega), zup_s]
        · show zup _ (4 * m + 2) (rm3 18) (4 * m + 2) = nI x
          rw [zup_s, y4 18 (by omega), zup_s]
        · rw [zup_n (by omega), zup_n (by omega), zup_n (by omega)]
      · have f3' : fM_looksAt rm1 wm1 nm rs 0 (nI C) = _ := f3
        rw [f2, f3', Option.bind_some, Option.bind_some, zwr_n (by omega) (by omega), Option.bind_some, d_go f1, if_neg (show ¬ (false, rm').1 = true from (by decide : ¬ false = true)), Option.bind_some, Option.bind_some, if_neg (show ¬ (false, (false, rm').2, wm1).1 = true from (by decide : ¬ false = true))]
        exact ⟨_, _, _, _, _, _, _, _, rfl, rfl, mF_trans (mG_F g4) f5, Or.inr ⟨rfl, f4⟩⟩
    · -- drops
      rw [t] at hy ⊢
      rw [if_pos (show nI (6 - 5) = 1 from rfl)]
      have hxe : fBk_readAct bk ot nu rx wx tp tb tw rp cn pn y (nI q) = some (ot, nu, rx1, wx1) := by
        unfold fBk_readAct
        rw [if_neg (show ¬ y = 5 by rw [hy]; decide), if_pos (show y = 6 from hy), g1]; rfl
      refine ⟨_, _, _, _, _, _, _, _, hxe, rfl, mG_F g4, Or.inl ⟨rfl, ⟨k1, v1, w1, a1, p1, K1, ha⟩, (1, q, 0, 0), ⟨by show 1 ≤ 4; omega, fun _ => hq, fun h => by simp at h, fun h => by simp at h, fun h => by simp at h⟩, hcell (1, q, 0, 0) hy rfl (by show 1 < 4; omega) _ _ (fun h => by simp at h) (fun h => by simp at h) (fun i hi => ⟨rfl, rfl⟩), hcm (1, q, 0, 0) _ ?_ ?_ (fun h => by simp at h) (fun h => by simp at h) (fun i hi => ?_)⟩⟩
      · rw [zup_n (by omega), zup_s]
      · rw [zup_s]
      · rw [zup_n (by omega), zup_n (by omega)]
    · -- leaves
      rw [t] at hy ⊢
      rw [if_neg (show ¬ nI (7 - 5) = 1 by decide), if_pos (show nI (7 - 5) = 2 from rfl)]
      have hxe : fBk_readAct bk ot nu rx wx tp tb tw rp cn pn y (nI q) = some (ot, nu, rx1, wx1) := by
        unfold fBk_readAct
        rw [if_neg (show ¬ y = 5 by rw [hy]; decide), if_neg (show ¬ y = 6 by rw [hy]; decide), if_pos (show y = 7 from hy), g1]; rfl
      refine ⟨_, _, _, _, _, _, _, _, hxe, rfl, mG_F g4, Or.inl ⟨rfl, ⟨k1, v1, w1, a1, p1, K1, ha⟩, (2, q, 0, 0), ⟨by show 2 ≤ 4; omega, fun _ => hq, fun h => by simp at h, fun h => by simp at h, fun h => by simp at h⟩, hcell (2, q, 0, 0) hy rfl (by show 2 < 4; omega) _ _ (fun h => by simp at h) (fun h => by simp at h) (fun i hi => ⟨rfl, rfl⟩), hcm (2, q, 0, 0) _ ?_ ?_ (fun h => by simp at h) (fun h => by simp at h) (fun i hi => ?_)⟩⟩
      · rw [zup_n (by omega), zup_s]
      · rw [zup_s]
      · rw [zup_n (by omega), zup_n (by omega)]
    · -- hires
      rw [t] at hy ⊢
      rw [if_neg (show ¬ nI (8 - 5) = 1 by decide), if_neg (show ¬ nI (8 - 5) = 2 by decide), if_neg (show ¬ nI (8 - 5) = 0 by decide), h2]
      have hxe : fBk_readAct bk ot nu rx wx tp tb tw rp cn pn y (nI q) = (fRd_needPerson rx1 wx1 tw rp pn).bind (fun y12 => (zwr ot 40 (nI m) y12.1).bind (fun ot13 => (zrd ot13 40 (nI m)).bind (fun v14 => if v14 = nI q then (fRd_fail y12.2 3).bind (fun y21 => (fRd_goOn y21 wx1 tp tb).bind (fun y16 => (fRd_takeNumber y16.1 y16.2 tp tb 1 5).bind (fun y17 => (zwr nu 40 (nI m) y17.1).bind (fun nu18 => some (ot13, nu18, y17.2.1, y17.2.2))))) else (fRd_goOn y12.2 wx1 tp tb).bind (fun y16 => (fRd_takeNumber y16.1 y16.2 tp tb 1 5).bind (fun y17 => (zwr nu 40 (nI m) y17.1).bind (fun nu18 => some (ot13, nu18, y17.2.1, y17.2.2))))))) := by
        unfold fBk_readAct
        rw [if_neg (show ¬ y = 5 by rw [hy]; decide), if_neg (show ¬ y = 6 by rw [hy]; decide), if_neg (show ¬ y = 7 by rw [hy]; decide), if_pos (show y = 8 from hy), g1, Option.bind_some, h4]; rfl
      rw [hxe]
      rcases t_person (fr := 8) hn W K1 hP r6 hXP (by omega) hMP with ⟨x, x1, x2, x3, x4⟩ | ⟨rx', rm', f1, f2, f3, f4, f5⟩
      · have x4' : fM_looksAt rm1 wm1 nm rs 8 (nI P) = _ := x4
        have hK2 := tokR_up K1 (j := 18) (x := nI x) (by omega)
        have hF2 : mF rm (zup rm1 18 (nI x)) := mF_trans (mG_F g4) (mF_up mF_rfl (by omega))
        rw [x3, x4', Option.bind_some, Option.bind_some, zwr_n (by omega) (by omega), Option.bind_some, zrd_n (by omega) (by omega), zup_s, Option.bind_some, if_pos rfl]
        dsimp only
        have hE : zup rm1 18 (nI x) 18 = nI x := zup_s
        by_cases eqx : x = q
        · rw [if_pos (show nI x = nI q by rw [eqx]), if_pos (show zup rm1 18 (nI x) 18 = nI q by rw [zup_s, eqx]), x_fail (tok_8 K1), m_bad, Option.bind_some, Option.bind_some]
          have hdead : ¬ zup rx1 8 3 8 = 0 := by rw [zup_s]; decide
          rw [d_go hdead, Option.bind_some, d_number hdead, Option.bind_some, zwr_n (by omega) (by omega), Option.bind_some]
          exact ⟨_, _, _, _, _, _, _, _, rfl, rfl, mF_trans hF2 m_badF, Or.inr ⟨rfl, t_fl (kd := 3) (rm0 := rm) hK2 hn (by omega) (by omega)⟩⟩
        · have hne : ¬ nI x = nI q := fun h => eqx ((nI_eq (by omega) (by omega)).mp h)
          rw [if_neg hne, if_neg (show ¬ zup rm1 18 (nI x) 18 = nI q from fun h => hne (hE.symm.trans h))]
          obtain ⟨rx3, wx3, rm3, wm3, y1, y2, ⟨k3, v3, w3, a3, p3, K3, ha3⟩, y4⟩ := t_go E hK2 (Or.inl x2)
          rw [y1, Option.bind_some, e2, zwr_n (f := zup (zup rd (4 * m) (nI (8 - 5))) (4 * m + 1) (nI q)) (by omega) (by omega), Option.bind_some, y2, Option.bind_some]
          have hF3 : mF rm rm3 := mF_trans hF2 (mG_F y4)
          rcases t_number (lo := 1) (hi := 5) E K3 (by omega) (by omega) with ⟨n1, n2, rx4, wx4, rm4, wm4, n3, n4, n5, ⟨k4, v4, w4, a4, p4, K4, ha4⟩, n7⟩ | ⟨xx, rx', rm', s1, s2, s3, s4, s5⟩
          · have n3' : fRd_takeNumber rx3 wx3 tp tb 1 5 = _ := n3
            have n4' : fM_takes rm3 wm3 mt 1 5 = _ := n4
            rw [n3', n4', Option.bind_some, Option.bind_some, zwr_n (by omega) (by omega), Option.bind_some, if_pos rfl, e3, zwr_n (by omega) (by omega), Option.bind_some]
            refine ⟨_, _, _, _, _, _, _, _, rfl, rfl, mF_trans hF3 n7, Or.inl ⟨rfl, ⟨k4, v4, w4, a4, p4, K4, by omega⟩, (3, q, x, v3), ⟨by show 3 ≤ 4; omega, fun _ => hq, fun h => by simp at h, fun _ => ⟨x1, n1, n2⟩, fun h => by simp at h⟩, hcell (3, q, x, v3) hy rfl (by show 3 < 4; omega) _ _ (fun _ => zup_s) (fun _ => zup_s) (fun i hi => ⟨zup_n (by omega), zup_n (by omega)⟩), hcm (3, q, x, v3) _ ?_ ?_ (fun _ => ?_) (fun _ => ?_) (fun i hi => ?_)⟩⟩
            · rw [zup_n (by omega), zup_n (by omega), zup_n (by omega), zup_s]
            · rw [zup_n (by omega), zup_n (by omega), zup_s]
            · rw [zup_n (by omega), zup_s]; exact hE
            · show zup _ (4 * m + 3) (rm4 18) (4 * m + 3) = nI v3
              rw [zup_s]; exact n5
            · rw [zup_n (by omega), zup_n (by omega), zup_n (by omega), zup_n (by omega)]
          · have s2' : fRd_takeNumber rx3 wx3 tp tb 1 5 = _ := s2
            have s3' : fM_takes rm3 wm3 mt 1 5 = _ := s3
            rw [s2', s3', Option.bind_some, Option.bind_some, zwr_n (by omega) (by omega), Option.bind_some, if_neg (show ¬ (false, rm', wm3).1 = true from (by decide : ¬ false = true))]
            exact ⟨_, _, _, _, _, _, _, _, rfl, rfl, mF_trans hF3 s5, Or.inr ⟨rfl, s4⟩⟩
      · have f3' : fM_looksAt rm1 wm1 nm rs 8 (nI P) = _ := f3
        rw [f2, f3', Option.bind_some, Option.bind_some, zwr_n (by omega) (by omega), Option.bind_some, zrd_n (by omega) (by omega), zup_s, Option.bind_some, if_neg (fun h => nI_nm1 (n := q) (by omega) h.symm), d_go f1, Option.bind_some, d_number f1, Option.bind_some, zwr_n (by omega) (by omega), Option.bind_some, if_neg (show ¬ (false, rm').1 = true from (by decide : ¬ false = true))]
        exact ⟨_, _, _, _, _, _, _, _, rfl, rfl, mF_trans (mG_F g4) f5, Or.inr ⟨rfl, f4⟩⟩
  · -- no act
    have hkt : kT mt s rd nm rs (nI (4 * m)) (nI q) (-1) rm wm = some (false, zup (zup rm 15 1) 16 (zup rm 15 1 12), wm, rd) := by
      unfold kT
      rw [if_neg (by decide), m_bad]; rfl
    rw [if_neg hT, hkt]
    have hdead : ¬ zup rx 8 1 8 = 0 := by rw [zup_s]; decide
    have hfl := t_fl (kd := 1) (rm0 := rm) K hn (by omega) (by omega)
    have hne : ∀ j, 5 ≤ j → j ≤ 8 → ¬ y = nI j := fun j j1 j2 h => by
      by_cases e : tW k w < 22
      · rw [if_pos e] at hy
        have := (nI_eq (by omega) (by omega)).mp (hy.symm.trans h); omega
      · rw [if_neg e] at hy
        exact nI_nm1 (n := j) (by omega) (h.symm.trans hy)
    by_cases e9 : y = 9
    · have hk2 : ¬ rx 5 = 2 := fun h => by
        have hk := (tok_kx K).2.1.mp h
        have : tW k w = 22 := by unfold tW; rw [if_neg (by omega)]
        rw [if_neg (by omega)] at hy
        rw [hy] at e9; exact absurd e9 (by decide)
      have hx1 : fBk_readAct bk ot nu rx wx tp tb tw rp cn pn y (nI q) = some (ot, zup nu m (rx 7), zup rx 8 1, wx) := by
        unfold fBk_readAct fRd_takeNumber
        rw [if_neg (show ¬ y = 5 from hne 5 (by omega) (by omega)), if_neg (show ¬ y = 6 from hne 6 (by omega) (by omega)), if_neg (show ¬ y = 7 from hne 7 (by omega) (by omega)), if_neg (show ¬ y = 8 from hne 8 (by omega) (by omega)), if_pos e9, zlet_e, if_neg hk2, x_fail (tok_8 K), Option.bind_some, d_go hdead, Option.bind_some, Option.bind_some, h4, zwr_n (by omega) (by omega)]; rfl
      exact ⟨_, _, _, _, _, _, _, _, hx1, rfl, m_badF, Or.inr ⟨rfl, hfl⟩⟩
    · have hx1 : fBk_readAct bk ot nu rx wx tp tb tw rp cn pn y (nI q) = some (ot, nu, zup rx 8 1, wx) := by
        unfold fBk_readAct
        rw [if_neg (show ¬ y = 5 from hne 5 (by omega) (by omega)), if_neg (show ¬ y = 6 from hne 6 (by omega) (by omega)), if_neg (show ¬ y = 7 from hne 7 (by omega) (by omega)), if_neg (show ¬ y = 8 from hne 8 (by omega) (by omega)), if_neg e9, x_fail (tok_8 K)]; rfl
      exact ⟨_, _, _, _, _, _, _, _, hx1, rfl, m_badF, Or.inr ⟨rfl, hfl⟩⟩
end BL
