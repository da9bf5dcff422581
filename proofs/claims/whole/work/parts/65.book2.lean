/-! ===== a book: a line, the lines ===== -/
section BK
variable {n L : Nat} {C S P : Nat} {b B : Nat → Nat} {nC nP : Nat → List Nat} {tp tb mt rp bs s : Nat → Int32} {tw rs nm cn pn : Nat → Int64}
theorem nI_4m (m : Nat) : 4 * nI m = nI (4 * m) := nI_mul 4 m
theorem b_line {k v a p m : Nat} {w : List Nat} {ln : List aB} {rx rm bk ac at_ ot nu rd : Nat → Int32} {wx wm : Nat → Int64} (hm : m ≤ 40) (hlm : ln.length = m) (E : tE n L b tp tb mt) (W : wE tw rs) (K : tokR n L rx wx rm wm k v w a p) (TX : tRX C S P B nC nP rp bs cn pn) (TM : tRM 0 8 C S P B nC nP s nm) (h4 : bk 4 = nI m) (h40 : rm 40 = nI m) (hx : lnX ln ac at_ ot nu) (hmm : lnM ln rd) :
    ∃ ac' at' ot' nu' rx' wx' ok rm' wm' rd', fBk_readLine bk ac at_ ot nu rx wx tp tb tw rp cn pn = some (ac', at', ot', nu', rx', wx') ∧ fM_bookLine rm wm mt s rd nm rs = some (ok, rm', wm', rd') ∧ mF rm rm' ∧
      ((ok = true ∧ m < 40 ∧ (∃ k' v' w' a' p', tokR n L rx' wx' rm' wm' k' v' w' a' p' ∧ a < a') ∧ ∃ c, bOK C P c ∧ lnX (c :: ln) ac' at' ot' nu' ∧ lnM (c :: ln) rd') ∨ (ok = false ∧ tFl rx' rm')) := by
  have hn := E.1.1
  have ht := tW_le k w
  rw [bkLine_eq, bookLine_eq, x_told K W.1, Option.bind_some, m_isW K (j := 9) (by omega) (by decide)]
  by_cases t : tW k w = 9
  · have hk1 := tW_1 (k := k) (w := w) (by omega)
    have hw9 : fM_isWord rm wm 120299592184933 = true := by rw [m_isW K (j := 9) (by omega) (by decide), t]; rfl
    rw [if_pos (show tW k w < 22 by omega), t, if_pos (show nI 9 = 9 from rfl), if_pos (by rfl)]
    unfold kJ kM
    rw [h4, h40]
    by_cases e : m < 40
    · obtain ⟨rx1, wx1, rm1, wm1, g1, g2, ⟨k1, v1, w1, a1, p1, K1, ha⟩, g4⟩ := t_go E K (Or.inl hk1)
      rw [if_pos (show nI m < 40 from nI_lt (b := 40) e (by omega)), g1, Option.bind_some, if_pos (show nI 9 = 9 from rfl), zwr_n e (by omega), Option.bind_some, zwr_n e (by omega), Option.bind_some, if_neg (show ¬ nI m = 40 from fun h => by have := (nI_eq (b := 40) (by omega) (by omega)).mp h; omega), g2, Option.bind_some, if_pos hw9, nI_4m, zwr_n (by omega) (by omega), Option.bind_some]
      unfold fBk_readAct
      rw [if_neg (show ¬ nI 9 = 5 by decide), if_neg (show ¬ nI 9 = 6 by decide), if_neg (show ¬ nI 9 = 7 by decide), if_neg (show ¬ nI 9 = 8 by decide), if_pos (show nI 9 = 9 from rfl)]
      rcases t_number (lo := 1) (hi := 60) E K1 (by omega) (by omega) with ⟨n1, n2, rx4, wx4, rm4, wm4, n3, n4, n5, ⟨k4, v4, w4, a4, p4, K4, ha4⟩, n7⟩ | ⟨xx, rx', rm', s1, s2, s3, s4, s5⟩
      · have n3' : fRd_takeNumber rx1 wx1 tp tb 1 60 = _ := n3
        have n4' : fM_takes rm1 wm1 mt 1 60 = _ := n4
        rw [n3', n4', Option.bind_some, Option.bind_some, h4, zwr_n e (by omega), Option.bind_some, Option.bind_some, if_pos rfl, nI_1, zwr_n (by omega) (by omega), Option.bind_some]
        refine ⟨_, _, _, _, _, _, _, _, _, _, rfl, rfl, mF_trans (mG_F g4) n7, Or.inl ⟨rfl, e, ⟨k4, v4, w4, a4, p4, K4, by omega⟩, (4, v1, 0, 0), ⟨by show 4 ≤ 4; omega, fun h => by simp at h, fun h => by simp at h, fun h => by simp at h, fun _ => ⟨n1, n2⟩⟩, ⟨?_, lnX_cong (fun i hi => ⟨zup_n (by omega), zup_n (by omega), rfl, zup_n (by omega)⟩) hx⟩, ⟨?_, lnM_cong (fun i hi => by rw [zup_n (by omega), zup_n (by omega)]) hmm⟩⟩⟩
        · rw [hlm, zup_s, zup_s]
          exact ⟨rfl, fun h => by simp at h, fun h => by simp at h, fun h => by simp at h, fun _ => zup_s⟩
        · rw [hlm]
          refine ⟨?_, ?_, fun h => by simp at h, fun h => by simp at h⟩
          · rw [zup_n (by omega), zup_s]; rfl
          · rw [zup_s]; exact n5
      · have s2' : fRd_takeNumber rx1 wx1 tp tb 1 60 = _ := s2
        have s3' : fM_takes rm1 wm1 mt 1 60 = _ := s3
        rw [s2', s3', Option.bind_some, Option.bind_some, h4, zwr_n e (by omega), Option.bind_some, Option.bind_some, if_neg (show ¬ (false, rm', wm1).1 = true from (by decide : ¬ false = true))]
        exact ⟨_, _, _, _, _, _, _, _, _, _, rfl, rfl, mF_trans (mG_F g4) s5, Or.inr ⟨rfl, s4⟩⟩
    · have e40 : m = 40 := by omega
      rw [if_neg (show ¬ nI m < 40 from nI_nlt (b := 40) (by omega) (by omega)), if_pos (show nI m = 40 by rw [e40]; rfl), x_fail (tok_8 K), m_bad, Option.bind_some, Option.bind_some]
      exact ⟨_, _, _, _, _, _, _, _, _, _, rfl, rfl, m_badF, Or.inr ⟨rfl, t_fl (kd := 4) (rm0 := rm) K hn (by omega) (by omega)⟩⟩
  · have hy9 : ¬ (if tW k w < 22 then nI (tW k w) else -1) = 9 := by
      by_cases e : tW k w < 22
      · rw [if_pos e]; exact fun h => t ((nI_eq (b := 9) (by omega) (by omega)).mp h)
      · rw [if_neg e]; decide
    have hw9 : ¬ fM_isWord rm wm 120299592184933 = true := by rw [m_isW K (j := 9) (by omega) (by decide), decide_eq_false t]; decide
    obtain ⟨hC, hS, hP, r4, r5, r6, hb, hBC, hX, hXP⟩ := id TX
    obtain ⟨h0, h1, h2, h3, hM, hMP⟩ := id TM
    rw [if_neg hy9, decide_eq_false t, if_neg (show ¬ false = true by decide), h2]
    rcases t_person (fr := 8) hn W K hP r6 hXP (by omega) hMP with ⟨x, x1, x2, x3, x4⟩ | ⟨rx', rm', f1, f2, f3, f4, f5⟩
    · have x4' : fM_looksAt rm wm nm rs 8 (nI P) = _ := x4
      have hK2 := tokR_up K (j := 18) (x := nI x) (by omega)
      have hF2 : mF rm (zup rm 18 (nI x)) := mF_up mF_rfl (by omega)
      rw [x3, x4', Option.bind_some, Option.bind_some, if_pos rfl]
      show ∃ ac' at' ot' nu' rx' wx' ok rm' wm' rd', kJ bk ac at_ ot nu wx tp tb tw rp cn pn (if tW k w < 22 then nI (tW k w) else -1) rx (nI x) = some (ac', at', ot', nu', rx', wx') ∧ kM rm wm mt s rd nm rs (zup rm 18 (nI x)) = some (ok, rm', wm', rd') ∧ _
      unfold kJ kM
      rw [h4, h40, zup_n (show (40 : Nat) ≠ 18 by omega), h40]
      by_cases e : m < 40
      · obtain ⟨rx1, wx1, rm1, wm1, g1, g2, ⟨k1, v1, w1, a1, p1, K1, ha⟩, g4⟩ := t_go E hK2 (Or.inl x2)
        rw [if_pos (show nI m < 40 from nI_lt (b := 40) e (by omega)), g1, Option.bind_some, if_neg hy9, x_told K1 W.1, Option.bind_some, zwr_n e (by omega), Option.bind_some, zwr_n e (by omega), Option.bind_some, if_neg (show ¬ nI m = 40 from fun h => by have := (nI_eq (b := 40) (by omega) (by omega)).mp h; omega), g2, Option.bind_some, if_neg hw9, nI_4m, zup_s, k_W K1]
        obtain ⟨ot', nu', rx', wx', ok, rm', wm', rd', q1, q2, q3, q4⟩ := b_act (q := x) (bk := bk) (ac := ac) (at_ := at_) (ot := ot) (nu := nu) (rd := rd) x1 e hlm E W K1 TX TM h4 hx hmm rfl
        rw [q1, q2, Option.bind_some]
        refine ⟨_, _, _, _, _, _, _, _, _, _, rfl, rfl, mF_trans hF2 (mF_trans (mG_F g4) q3), ?_⟩
        rcases q4 with ⟨o1, ⟨k2, v2, w2, a2, p2, K2, ha2⟩, c, o3, o4, o5⟩ | o
        · exact Or.inl ⟨o1, e, ⟨k2, v2, w2, a2, p2, K2, by omega⟩, c, o3, o4, o5⟩
        · exact Or.inr o
      · have e40 : m = 40 := by omega
        rw [if_neg (show ¬ nI m < 40 from nI_nlt (b := 40) (by omega) (by omega)), if_pos (show nI m = 40 by rw [e40]; rfl), x_fail (tok_8 K), m_bad, Option.bind_some, Option.bind_some]
        exact ⟨_, _, _, _, _, _, _, _, _, _, rfl, rfl, mF_trans hF2 m_badF, Or.inr ⟨rfl, t_fl (kd := 4) (rm0 := rm) hK2 hn (by omega) (by omega)⟩⟩
    · have f3' : fM_looksAt rm wm nm rs 8 (nI P) = _ := f3
      obtain ⟨ac', at', ot', nu', hk⟩ := d_kJ (ac := ac) (at_ := at_) (ot := ot) (nu := nu) (tp := tp) (tb := tb) (rp := rp) (wx := wx) (tw := tw) (cn := cn) (pn := pn) (y1 := if tW k w < 22 then nI (tW k w) else -1) (x3 := -1) hm h4 f1
      rw [f2, f3', Option.bind_some, Option.bind_some, if_neg (show ¬ (false, rm').1 = true from (by decide : ¬ false = true))]
      exact ⟨_, _, _, _, _, _, _, _, _, _, hk, rfl, f5, Or.inr ⟨rfl, f4⟩⟩
abbrev bSX : Type := (Nat → Int32) × (Nat → Int32) × (Nat → Int32) × (Nat → Int32) × (Nat → Int32) × (Nat → Int32) × (Nat → Int64) × Int32
abbrev bRX : Type := (Nat → Int32) × (Nat → Int32) × (Nat → Int32) × (Nat → Int32) × (Nat → Int32) × (Nat → Int32) × (Nat → Int64)
abbrev bSM : Type := (Nat → Int32) × (Nat → Int64) × (Nat → Int32)
abbrev bRM : Type := Int32 × (Nat → Int32) × (Nat → Int64) × (Nat → Int32) × (Nat → Int32) × (Nat → Int32) × (Nat → Int32) × (Nat → Int32) × (Nat → Int32)
noncomputable abbrev bBX (tp tb : Nat → Int32) (tw : Nat → Int64) (rp : Nat → Int32) (cn pn : Nat → Int64) : bSX → Option (bSX ⊕ bRX) := fun s => fBk_readFrom_L7 tp tb tw rp cn pn s.1 s.2.1 s.2.2.1 s.2.2.2.1 s.2.2.2.2.1 s.2.2.2.2.2.1 s.2.2.2.2.2.2.1 s.2.2.2.2.2.2.2
noncomputable abbrev bBM (mt s : Nat → Int32) (nm rs : Nat → Int64) (un be tr ta : Nat → Int32) : bSM → Option (bSM ⊕ (bSM ⊕ bRM)) := fun z => fM_book_L39 mt s nm rs un be tr ta z.1 z.2.1 z.2.2
def mF3 (r s : Nat → Int32) : Prop := ∀ j, j < 4 ∨ 19 ≤ j → j ≠ 40 → s j = r j
theorem mF3_of {r s : Nat → Int32} (h : mF r s) : mF3 r s := fun j hj _ => h j hj
theorem mF3_trans {r s t : Nat → Int32} (h : mF3 r s) (g : mF3 s t) : mF3 r t := fun j hj h4 => (g j hj h4).trans (h j hj h4)
theorem mF3_up {r s : Nat → Int32} (h : mF3 r s) {v : Int32} : mF3 r (zup s 40 v) := fun j hj h4 => by rw [zup_n h4]; exact h j hj h4
theorem b_loop {un be tr ta : Nat → Int32} (E : tE n L b tp tb mt) (W : wE tw rs) (TX : tRX C S P B nC nP rp bs cn pn) (TM : tRM 0 8 C S P B nC nP s nm) :
    ∀ fu j k v a p (w : List Nat) (ln : List aB) (rx rm bk ac at_ ot nu rd : Nat → Int32) (wx wm : Nat → Int64), tokR n L rx wx rm wm k v w a p → bk 4 = nI j → rm 40 = nI j → ln.length = j → j ≤ 40 → lnX ln ac at_ ot nu → lnM ln rd → lnO C P ln → 940 < fu + a →
      (∃ X rm' wm' rd' ln', zLP (bBX tp tb tw rp cn pn) (bk, ac, at_, ot, nu, rx, wx, nI j) = some X ∧ zLP (bBM mt s nm rs un be tr ta) (rm, wm, rd) = some (.inl (rm', wm', rd')) ∧ X.2.2.2.2.2.1 8 = 0 ∧ rm' 15 = 0 ∧ mF3 rm rm' ∧ X.1 4 = nI ln'.length ∧ rm' 40 = nI ln'.length ∧ ln'.length ≤ 40 ∧ (∀ i, i ≠ 4 → X.1 i = bk i) ∧ lnX ln' X.2.1 X.2.2.1 X.2.2.2.1 X.2.2.2.2.1 ∧ lnM ln' rd' ∧ lnO C P ln') ∨
      (∃ X rm' wm' rd', zLP (bBX tp tb tw rp cn pn) (bk, ac, at_, ot, nu, rx, wx, nI j) = some X ∧ zLP (bBM mt s nm rs un be tr ta) (rm, wm, rd) = some (.inr ((-2) - rm' 16, rm', wm', s, rd', un, be, tr, ta)) ∧ tFl X.2.2.2.2.2.1 rm' ∧ mF3 rm rm' ∧ ∀ i, i ≠ 4 → X.1 i = bk i) := by
  intro fu
  induction fu with
  | zero =>
    intro j k v a p w ln rx rm bk ac at_ ot nu rd wx wm K h4 h40 hl hj hx hm ho hfu
    have := K.2.2.2.2.2.2.2.2.1
    have := E.1.1
    omega
  | succ fu ih =>
    intro j k v a p w ln rx rm bk ac at_ ot nu rd wx wm K h4 h40 hl hj hx hm ho hfu
    have h11 := (tok_11 K).2.1
    have hk4 := (tok_11 K).1
    by_cases e : k = 0
    · left
      have hb1 : bBX tp tb tw rp cn pn (bk, ac, at_, ot, nu, rx, wx, nI j) = some (.inr (bk, ac, at_, ot, nu, rx, wx)) := by
        show fBk_readFrom_L7 tp tb tw rp cn pn bk ac at_ ot nu rx wx (nI j) = _
        unfold fBk_readFrom_L7
        rw [if_neg (show ¬ (40 : Int32) < nI j from nI_nlt (a := 40) (by omega) (by omega)), tok_good K, if_pos rfl, tok_end K, decide_eq_true e, if_pos rfl]
      have hb2 : bBM mt s nm rs un be tr ta (rm, wm, rd) = some (.inr (.inl (rm, wm, rd))) := by
        show fM_book_L39 mt s nm rs un be tr ta rm wm rd = _
        unfold fM_book_L39
        rw [h11, if_pos ((nI_e0 (by omega)).mpr e)]
      exact ⟨_, rm, wm, rd, ln, zLP_out hb1, zLP_out hb2, tok_8 K, K.2.2.2.2.2.2.2.1, fun _ _ _ => rfl, by rw [hl]; exact h4, by rw [hl]; exact h40, by omega, fun _ _ => rfl, hx, hm, ho⟩
    · obtain ⟨ac', at', ot', nu', rx', wx', ok, rm', wm', rd', q1, q2, q3, q4⟩ := b_line hj hl E W K TX TM h4 h40 hx hm
      have hnk : ¬ rm 11 = 0 := by rw [h11]; exact nI_ne0 (by omega) (by omega)
      have hstep : ∀ rx2 wx2, fRd_takeSign rx' wx' tp tb 59 = some (rx2, wx2) → bBX tp tb tw rp cn pn (bk, ac, at_, ot, nu, rx, wx, nI j) = some (.inl (zup bk 4 (nI (j + 1)), ac', at', ot', nu', rx2, wx2, nI (j + 1))) := fun rx2 wx2 hs => by
        show fBk_readFrom_L7 tp tb tw rp cn pn bk ac at_ ot nu rx wx (nI j) = _
        unfold fBk_readFrom_L7
        rw [if_neg (show ¬ (40 : Int32) < nI j from nI_nlt (a := 40) (by omega) (by omega)), tok_good K, if_pos rfl, tok_end K, decide_eq_false e, if_neg (by decide), q1, Option.bind_some]
        show (fRd_takeSign rx' wx' tp tb 59).bind _ = _
        rw [hs, Option.bind_some, h4, nI_1]; rfl
      have hdead : ∀ rx2 wx2, ¬ rx2 8 = 0 → zLP (bBX tp tb tw rp cn pn) (zup bk 4 (nI (j + 1)), ac', at', ot', nu', rx2, wx2, nI (j + 1)) = some (zup bk 4 (nI (j + 1)), ac', at', ot', nu', rx2, wx2) := fun rx2 wx2 hd => by
        refine zLP_out ?_
        show fBk_readFrom_L7 tp tb tw rp cn pn (zup bk 4 (nI (j + 1))) ac' at' ot' nu' rx2 wx2 (nI (j + 1)) = _
        unfold fBk_readFrom_L7
        rw [d_good hd, if_neg (show ¬ false = true by decide)]
        by_cases e' : (40 : Int32) < nI (j + 1)
        · rw [if_pos e']
        · rw [if_neg e']
      have hbk : ∀ i, i ≠ 4 → zup bk 4 (nI (j + 1)) i = bk i := fun i hi => zup_n hi
      rcases q4 with ⟨o1, o2, ⟨k1, v1, w1, a1, p1, K1, ha1⟩, c, o3, o4, o5⟩ | ⟨o1, o2⟩
      · subst o1
        rcases t_sign (c := 59) E K1 (Or.inl rfl) with ⟨rx2, wx2, rm2, wm2, s1, s2, ⟨k2, v2, w2, a2, p2, K2, ha2⟩, s4⟩ | ⟨rx2, rm2, s0', s1, s2, s3, s4⟩
        · have s1' : fRd_takeSign rx' wx' tp tb 59 = _ := s1
          have s2' : fM_sign rm' wm' mt 59 = _ := s2
          have hb2 : bBM mt s nm rs un be tr ta (rm, wm, rd) = some (.inl (zup rm2 40 (nI (j + 1)), wm2, rd')) := by
            show fM_book_L39 mt s nm rs un be tr ta rm wm rd = _
            unfold fM_book_L39
            rw [if_neg hnk, q2, Option.bind_some, if_pos rfl]
            show (fM_sign rm' wm' mt 59).bind _ = _
            rw [s2', Option.bind_some, if_pos rfl]
            show some (Sum.inl (zup rm2 40 (rm2 40 + 1), wm2, rd')) = _
            rw [s4 40 (by omega), q3 40 (by omega), h40, nI_1]
          have hFF : mF3 rm (zup rm2 40 (nI (j + 1))) := mF3_up (mF3_trans (mF3_of q3) (mF3_of s4))
          have hlc : (c :: ln).length = j + 1 := by rw [List.length_cons, hl]
          have hO : lnO C P (c :: ln) := fun d hd => by
            rcases List.mem_cons.mp hd with h | h
            · rw [h]; exact o3
            · exact ho d h
          rcases ih (j + 1) k2 v2 a2 p2 w2 (c :: ln) rx2 (zup rm2 40 (nI (j + 1))) (zup bk 4 (nI (j + 1))) ac' at' ot' nu' rd' wx2 wm2 (tokR_up K2 (by omega)) zup_s zup_s hlc (by omega) o4 o5 hO (by omega) with hh | hh
          · left
            obtain ⟨X, rm3, wm3, rd3, ln3, t1, t2, t3, t4, t5, t6, t7, t8, t9, t10⟩ := hh
            exact ⟨X, rm3, wm3, rd3, ln3, (zLP_go (hstep rx2 wx2 s1')).trans t1, (zLP_go hb2).trans t2, t3, t4, mF3_trans hFF t5, t6, t7, t8, fun i hi => (t9 i hi).trans (hbk i hi), t10⟩
          · right
            obtain ⟨X, rm3, wm3, rd3, t1, t2, t3, t4, t5⟩ := hh
            exact ⟨X, rm3, wm3, rd3, (zLP_go (hstep rx2 wx2 s1')).trans t1, (zLP_go hb2).trans t2, t3, mF3_trans hFF t4, fun i hi => (t5 i hi).trans (hbk i hi)⟩
        · right
          have s1' : fRd_takeSign rx' wx' tp tb 59 = _ := s1
          have s2' : fM_sign rm' wm' mt 59 = _ := s2
          have hb2 : bBM mt s nm rs un be tr ta (rm, wm, rd) = some (.inr (.inr ((-2) - rm2 16, rm2, wm', s, rd', un, be, tr, ta))) := by
            show fM_book_L39 mt s nm rs un be tr ta rm wm rd = _
            unfold fM_book_L39
            rw [if_neg hnk, q2, Option.bind_some, if_pos rfl]
            show (fM_sign rm' wm' mt 59).bind _ = _
            rw [s2', Option.bind_some, if_neg (show ¬ (false, rm2, wm').1 = true from (by decide : ¬ false = true))]
          exact ⟨_, rm2, wm', rd', (zLP_go (hstep rx2 wx' s1')).trans (hdead rx2 wx' s0'), zLP_out hb2, s3, mF3_trans (mF3_of q3) (mF3_of s4), hbk⟩
      · right
        subst o1
        have hd := tFl_n o2
        have hb2 : bBM mt s nm rs un be tr ta (rm, wm, rd) = some (.inr (.inr ((-2) - rm' 16, rm', wm', s, rd', un, be, tr, ta))) := by
          show fM_book_L39 mt s nm rs un be tr ta rm wm rd = _
          unfold fM_book_L39
          rw [if_neg hnk, q2, Option.bind_some, if_neg (show ¬ (false, rm', wm', rd').1 = true from (by decide : ¬ false = true))]
        exact ⟨_, rm', wm', rd', (zLP_go (hstep rx' wx' (d_sign hd))).trans (hdead rx' wx' hd), zLP_out hb2, o2, mF3_of q3, hbk⟩
end BK
