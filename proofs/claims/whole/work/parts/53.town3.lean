/-! ===== town, call against call ===== -/
theorem t_start {n L : Nat} {b : Nat → Nat} {tp tb mt rd rm : Nat → Int32} {wx wm : Nat → Int64} (E : tE n L b tp tb mt) (m3 : rm 3 = nI n) (m4 : rm 4 = 0) (m5 : rm 5 = nI L) (m15 : rm 15 = 0) :
    ∃ rx' wx' rm' wm', fRd_start rd wx tp tb (nI L) = some (rx', wx') ∧ fM_next rm wm mt = some (rm', wm') ∧ (∃ k v w a p, tokR n L rx' wx' rm' wm' k v w a p) ∧ mG rm rm' := by
  obtain ⟨rx', wx', rm', wm', k, v, w, a, p, e1, e2, e3, e4, e5, e6⟩ := t_next (p := 0) (rx := zup (zup (zup rd 2 (nI L)) 4 0) 8 0) (wx := wx) (wm := wm) E.1 E.2.1 E.2.2 (by rw [zup_n (by omega), zup_n (by omega), zup_s]) (by rw [zup_n (by omega), zup_s]; rfl) zup_s m3 m4 m5 m15 (Nat.zero_le _)
  refine ⟨rx', wx', rm', wm', ?_, e2, ⟨k, v, w, a, p, e3⟩, e5⟩
  unfold fRd_start
  simp only [zlet]
  rw [e1]; rfl
theorem fX_town_ok {r0 tp tb rd rp bs far qp qb qf f pl bu le di wa lf ly pr g1 g2 g3 g4 g5 g6 g7 g8 g9 sn hi : Nat → Int32} {wrd tw cn pn qc qn : Nat → Int64} {y1 : (Nat → Int32) × (Nat → Int64)} {y2 : Int32 × (Nat → Int32) × (Nat → Int64) × (Nat → Int64) × (Nat → Int32) × (Nat → Int32) × (Nat → Int32) × (Nat → Int64) × (Nat → Int32) × (Nat → Int32) × (Nat → Int32) × (Nat → Int32) × (Nat → Int32) × (Nat → Int32) × (Nat → Int32) × (Nat → Int32) × (Nat → Int32)} {y7 : (Nat → Int32) × (Nat → Int64) × (Nat → Int64) × (Nat → Int32) × (Nat → Int32)} {y8 : (Nat → Int32) × (Nat → Int32) × (Nat → Int32) × (Nat → Int32) × (Nat → Int32) × (Nat → Int32) × (Nat → Int32) × (Nat → Int32) × (Nat → Int32)} (e1 : fRd_start rd wrd tp tb 900 = some y1) (e2 : fPl_readFrom qp qc qn qb qf y1.1 y1.2 tp tb tw g1 g2 g3 g4 g5 g6 g7 g8 g9 = some y2) (e3 : y2.2.2.2.2.2.2.1 8 = 0) (e4 : fPl_copyFrom rp cn pn bs far y2.2.1 y2.2.2.1 y2.2.2.2.1 y2.2.2.2.2.1 y2.2.2.2.2.2.1 = some y7) (e5 : fDy_copyFrom f pl bu le di wa lf ly pr y2.2.2.2.2.2.2.2.2.1 y2.2.2.2.2.2.2.2.2.2.1 y2.2.2.2.2.2.2.2.2.2.2.1 y2.2.2.2.2.2.2.2.2.2.2.2.1 y2.2.2.2.2.2.2.2.2.2.2.2.2.1 y2.2.2.2.2.2.2.2.2.2.2.2.2.2.1 y2.2.2.2.2.2.2.2.2.2.2.2.2.2.2.1 y2.2.2.2.2.2.2.2.2.2.2.2.2.2.2.2.1 y2.2.2.2.2.2.2.2.2.2.2.2.2.2.2.2.2 = some y8) :
    fX_town r0 tp tb rd wrd tw rp cn pn bs far qp qc qn qb qf f pl bu le di wa lf ly pr g1 g2 g3 g4 g5 g6 g7 g8 g9 sn hi = some (y2.1, zup r0 16 (y2.2.2.2.2.2.2.1 8), zup tp 1 0, y2.2.2.2.2.2.2.1, y2.2.2.2.2.2.2.2.1, y7.1, y7.2.1, y7.2.2.1, y7.2.2.2.1, y7.2.2.2.2, y2.2.1, y2.2.2.1, y2.2.2.2.1, y2.2.2.2.2.1, y2.2.2.2.2.2.1, y8.1, y8.2.1, y8.2.2.1, y8.2.2.2.1, y8.2.2.2.2.1, y8.2.2.2.2.2.1, y8.2.2.2.2.2.2.1, y8.2.2.2.2.2.2.2.1, y8.2.2.2.2.2.2.2.2, y2.2.2.2.2.2.2.2.2.1, y2.2.2.2.2.2.2.2.2.2.1, y2.2.2.2.2.2.2.2.2.2.2.1, y2.2.2.2.2.2.2.2.2.2.2.2.1, y2.2.2.2.2.2.2.2.2.2.2.2.2.1, y2.2.2.2.2.2.2.2.2.2.2.2.2.2.1, y2.2.2.2.2.2.2.2.2.2.2.2.2.2.2.1, y2.2.2.2.2.2.2.2.2.2.2.2.2.2.2.2.1, y2.2.2.2.2.2.2.2.2.2.2.2.2.2.2.2.2, zup (zup (zup (zup (zup sn 5 0) 6 0) 7 0) 8 0) 10 0, zup hi 2 0) := by
  unfold fX_town
  rw [e1]
  simp only [Option.bind_some]
  rw [e2]
  unfold fRd_faultKind fTp_clear
  simp only [Option.bind_some, zlet]
  rw [if_pos (show zup r0 16 (y2.2.2.2.2.2.2.1 8) 16 = 0 by rw [zup_s]; exact e3), e4, Option.bind_some, e5, Option.bind_some]
  rfl
theorem fX_town_bad {r0 tp tb rd rp bs far qp qb qf f pl bu le di wa lf ly pr g1 g2 g3 g4 g5 g6 g7 g8 g9 sn hi : Nat → Int32} {wrd tw cn pn qc qn : Nat → Int64} {y1 : (Nat → Int32) × (Nat → Int64)} {y2 : Int32 × (Nat → Int32) × (Nat → Int64) × (Nat → Int64) × (Nat → Int32) × (Nat → Int32) × (Nat → Int32) × (Nat → Int64) × (Nat → Int32) × (Nat → Int32) × (Nat → Int32) × (Nat → Int32) × (Nat → Int32) × (Nat → Int32) × (Nat → Int32) × (Nat → Int32) × (Nat → Int32)} (e1 : fRd_start rd wrd tp tb 900 = some y1) (e2 : fPl_readFrom qp qc qn qb qf y1.1 y1.2 tp tb tw g1 g2 g3 g4 g5 g6 g7 g8 g9 = some y2) (e3 : ¬ y2.2.2.2.2.2.2.1 8 = 0) :
    fX_town r0 tp tb rd wrd tw rp cn pn bs far qp qc qn qb qf f pl bu le di wa lf ly pr g1 g2 g3 g4 g5 g6 g7 g8 g9 sn hi = some ((-1) - y2.2.2.2.2.2.2.1 3, zup r0 16 (y2.2.2.2.2.2.2.1 8), zup tp 1 0, y2.2.2.2.2.2.2.1, y2.2.2.2.2.2.2.2.1, rp, cn, pn, bs, far, y2.2.1, y2.2.2.1, y2.2.2.2.1, y2.2.2.2.2.1, y2.2.2.2.2.2.1, f, pl, bu, le, di, wa, lf, ly, pr, y2.2.2.2.2.2.2.2.2.1, y2.2.2.2.2.2.2.2.2.2.1, y2.2.2.2.2.2.2.2.2.2.2.1, y2.2.2.2.2.2.2.2.2.2.2.2.1, y2.2.2.2.2.2.2.2.2.2.2.2.2.1, y2.2.2.2.2.2.2.2.2.2.2.2.2.2.1, y2.2.2.2.2.2.2.2.2.2.2.2.2.2.2.1, y2.2.2.2.2.2.2.2.2.2.2.2.2.2.2.2.1, y2.2.2.2.2.2.2.2.2.2.2.2.2.2.2.2.2, sn, hi) := by
  unfold fX_town
  rw [e1]
  simp only [Option.bind_some]
  rw [e2]
  unfold fRd_faultKind fTp_clear fRd_place
  simp only [Option.bind_some, zlet]
  rw [if_neg (show ¬ zup r0 16 (y2.2.2.2.2.2.2.1 8) 16 = 0 by rw [zup_s]; exact e3)]
theorem c_town {n : Nat} {b : Nat → Nat} {r0 tp tb mt rd rp bs far qp qb qf f pl bu le di wa lf ly pr g1 g2 g3 g4 g5 g6 g7 g8 g9 sn hi rm s h ap : Nat → Int32} {wrd tw cn pn qc qn wm nm rs : Nat → Int64} (hX : tpX n b tp tb) (hT : tpM n b mt) (W : wE tw rs) (hl : rm 2 = nI n) :
    ∃ X Y, fX_town r0 tp tb rd wrd tw rp cn pn bs far qp qc qn qb qf f pl bu le di wa lf ly pr g1 g2 g3 g4 g5 g6 g7 g8 g9 sn hi = some X ∧ fM_town rm wm mt s h nm rs ap = some Y ∧
      X.1 = Y.1 ∧ X.2.2.1 = zup tp 1 0 ∧ Y.2.1 0 = 0 ∧ Y.2.1 2 = 0 ∧ (∀ j, 20 ≤ j → j ≠ 24 → Y.2.1 j = rm j) ∧ (∃ kd, kd ≤ 4 ∧ X.2.1 = zup r0 16 (nI kd) ∧ Y.2.1 15 = nI kd) ∧
      ((∃ C S P B nC nP A, pX C S P B nC nP X.2.2.2.2.2.1 X.2.2.2.2.2.2.2.2.1 X.2.2.2.2.2.2.2.2.2.1 X.2.2.2.2.2.2.1 X.2.2.2.2.2.2.2.1 ∧ pM C S P B nC nP Y.2.2.2.1 Y.2.2.2.2.2.2 Y.2.2.2.2.2.1 ∧ dX P A X.2.2.2.2.2.2.2.2.2.2.2.2.2.2.2.1 X.2.2.2.2.2.2.2.2.2.2.2.2.2.2.2.2.1 X.2.2.2.2.2.2.2.2.2.2.2.2.2.2.2.2.2.1 X.2.2.2.2.2.2.2.2.2.2.2.2.2.2.2.2.2.2.1 X.2.2.2.2.2.2.2.2.2.2.2.2.2.2.2.2.2.2.2.1 X.2.2.2.2.2.2.2.2.2.2.2.2.2.2.2.2.2.2.2.2.1 X.2.2.2.2.2.2.2.2.2.2.2.2.2.2.2.2.2.2.2.2.2.1 X.2.2.2.2.2.2.2.2.2.2.2.2.2.2.2.2.2.2.2.2.2.2.1 X.2.2.2.2.2.2.2.2.2.2.2.2.2.2.2.2.2.2.2.2.2.2.2.1 ∧ sD P A Y.2.2.2.1 ∧ dV C P A ∧ dMi A = 0 ∧ Y.2.2.2.1 216 = 0 ∧ X.2.2.2.2.2.2.2.2.2.2.2.2.2.2.2.2.2.2.2.2.2.2.2.2.2.2.2.2.2.2.2.2.2.1 10 = 0 ∧ X.2.2.2.2.2.2.2.2.2.2.2.2.2.2.2.2.2.2.2.2.2.2.2.2.2.2.2.2.2.2.2.2.2.2 2 = 0 ∧ X.2.2.2.2.2.2.2.2.2.2.2.2.2.2.2.2.2.2.2.2.2.2.2.2.2.2.2.2.2.2.2.2.2.2 1 = hi 1 ∧ Y.2.1 24 = 0) ∨
       (X.2.2.2.2.2.1 = rp ∧ X.2.2.2.2.2.2.1 = cn ∧ X.2.2.2.2.2.2.2.1 = pn ∧ X.2.2.2.2.2.2.2.2.1 = bs ∧ X.2.2.2.2.2.2.2.2.2.1 = far ∧ X.2.2.2.2.2.2.2.2.2.2.2.2.2.2.2.1 = f ∧ X.2.2.2.2.2.2.2.2.2.2.2.2.2.2.2.2.1 = pl ∧ X.2.2.2.2.2.2.2.2.2.2.2.2.2.2.2.2.2.1 = bu ∧ X.2.2.2.2.2.2.2.2.2.2.2.2.2.2.2.2.2.2.1 = le ∧ X.2.2.2.2.2.2.2.2.2.2.2.2.2.2.2.2.2.2.2.1 = di ∧ X.2.2.2.2.2.2.2.2.2.2.2.2.2.2.2.2.2.2.2.2.1 = wa ∧ X.2.2.2.2.2.2.2.2.2.2.2.2.2.2.2.2.2.2.2.2.2.1 = lf ∧ X.2.2.2.2.2.2.2.2.2.2.2.2.2.2.2.2.2.2.2.2.2.2.1 = ly ∧ X.2.2.2.2.2.2.2.2.2.2.2.2.2.2.2.2.2.2.2.2.2.2.2.1 = pr ∧ X.2.2.2.2.2.2.2.2.2.2.2.2.2.2.2.2.2.2.2.2.2.2.2.2.2.2.2.2.2.2.2.2.2.1 = sn ∧ X.2.2.2.2.2.2.2.2.2.2.2.2.2.2.2.2.2.2.2.2.2.2.2.2.2.2.2.2.2.2.2.2.2.2 = hi ∧ Y.2.2.2.1 = s ∧ Y.2.2.2.2.2.2 = ap ∧ Y.2.1 24 = rm 24 ∧ ∀ k, k < 14 → Y.2.2.2.2.2.1 k = nm k)) := by
  have hn := hX.1
  have E : tE n 900 b tp tb mt := ⟨hX, hT, by omega⟩
  -- the reference before its first token
  obtain ⟨h1, c1, c2⟩ := m_clears h
  have m3 : zup (zup (zup (zup (zup (zup (zup rm 0 0) 3 (zup rm 0 0 2)) 2 0) 4 0) 5 900) 15 0) 19 0 3 = nI n := by
    rw [zup_n (by omega), zup_n (by omega), zup_n (by omega), zup_n (by omega), zup_n (by omega), zup_s, zup_n (by omega)]; exact hl
  obtain ⟨rx1, wx1, rm1, wm1, s1, s2, ⟨k, v, w, a, p, K⟩, s4⟩ := t_start (rd := rd) (wx := wrd) (wm := wm) (L := 900) E m3 (by rw [zup_n (by omega), zup_n (by omega), zup_n (by omega), zup_s]) (by rw [zup_n (by omega), zup_n (by omega), zup_s]; rfl) (by rw [zup_n (by omega), zup_s])
  have s1' : fRd_start rd wrd tp tb 900 = some (rx1, wx1) := s1
  have f19 : rm1 19 = nI 0 := by rw [s4 19 (by omega), zup_s]; rfl
  have fF : ∀ j, 20 ≤ j → rm1 j = rm j := fun j hj => by
    rw [s4 j (by omega), zup_n (by omega), zup_n (by omega), zup_n (by omega), zup_n (by omega), zup_n (by omega), zup_n (by omega), zup_n (by omega)]
  have f0 : rm1 0 = 0 := by rw [s4 0 (by omega), zup_n (by omega), zup_n (by omega), zup_n (by omega), zup_n (by omega), zup_n (by omega), zup_n (by omega), zup_s]
  have f2 : rm1 2 = 0 := by rw [s4 2 (by omega), zup_n (by omega), zup_n (by omega), zup_n (by omega), zup_n (by omega), zup_s]
  -- the class before its first line
  obtain ⟨bs1, b1, b2⟩ := p_fill8 qb 0
  have hcl : fPl_clear qp qb = some (zup (zup (zup qp 4 0) 5 0) 6 0, bs1) := by unfold fPl_clear; rw [b1]; rfl
  obtain ⟨y1, y2, y3, y4, y5, y6, y7, y8, d1, d2⟩ := x_dclear g1 g2 g3 g4 g5 g7 g8 g9 g6
  have T := tT_0 (rp := zup (zup (zup qp 4 0) 5 0) 6 0) (cn := qc) (pn := qn) (nm := nm) (by rw [zup_n (by omega), zup_n (by omega), zup_s]) (by rw [zup_n (by omega), zup_s]) zup_s b2 d2 c2
  have htk : fM_taken (zup rm 0 0) 900 = some (zup (zup (zup (zup (zup rm 0 0) 3 (zup rm 0 0 2)) 2 0) 4 0) 5 900) := rfl
  rcases l_loop (s0 := s) (ap := ap) E W y1 y7 y8 941 0 k v a p 0 0 0 w _ _ _ _ rx1 rm1 _ bs1 y2 y3 y4 y5 g6 y6 h1 wx1 wm1 nm qc qn K T (by omega) (by omega) f19 with hh | hh
  · obtain ⟨j', rp3, cn3, pn3, bs3, rx3, wx3, pl3, bu3, le3, di3, wa3, lf3, rm3, wm3, h3, nm3, C3, S3, P3, B3, nC3, nP3, A3, t1, t2, t3, t4, t5, t6, t7⟩ := hh
    have t1' : zLP (fun s : tSX => fPl_readFrom_L15 tp tb tw s.1 s.2.1 s.2.2.1 s.2.2.2.1 s.2.2.2.2.1 s.2.2.2.2.2.1 s.2.2.2.2.2.2.1 s.2.2.2.2.2.2.2.1 s.2.2.2.2.2.2.2.2.1 s.2.2.2.2.2.2.2.2.2.1 s.2.2.2.2.2.2.2.2.2.2.1 s.2.2.2.2.2.2.2.2.2.2.2.1 s.2.2.2.2.2.2.2.2.2.2.2.2) (zup (zup (zup qp 4 0) 5 0) 6 0, qc, qn, bs1, rx1, wx1, y2, y3, y4, y5, g6, y6, 0) = some (rp3, cn3, pn3, bs3, rx3, wx3, pl3, bu3, le3, di3, wa3, lf3, nI j') := t1
    have t2' : zLP (fun q : tSM => fM_town_L30 mt s rs ap q.1 q.2.1 q.2.2.1 q.2.2.2) (rm1, wm1, h1, nm) = some (.inl (rm3, wm3, h3, nm3)) := t2
    have hC3 := t3.1.1
    have hBC3 := t3.1.2.2.2.2.2.2.2.1
    have hBl : ∀ c, c < 8 → B3 c < 256 := fun c hc => p_BC_lt hC3 hBC3 hc
    obtain ⟨far3, m1, m2⟩ := p_measure (far := qf) hC3 t3.1.2.2.2.1 hBl t3.1.2.2.2.2.2.2.1
    obtain ⟨q1, a1, a2, a3⟩ := m_lay1 h3 s
    obtain ⟨n1, bb1, bb2⟩ := m_lay2 nm3
    obtain ⟨q3, cc1, cc2, cc3⟩ := m_lay3 q1
    obtain ⟨q4, dd1, dd2, dd3⟩ := m_lay4 q3
    obtain ⟨e1, e2, e3⟩ := sD_town t3 a2 a3 cc2 cc3 dd2 dd3
    obtain ⟨ap4, w1, w2⟩ := p_laysApart (s := q4) (apart := ap) hBl (fun c hc => by rw [e3 _ (by omega)]; exact t3.2.1.2.2.2.1 c hc)
    have hpx : pX C3 S3 P3 B3 nC3 nP3 rp3 bs3 far3 cn3 pn3 := ⟨t3.1, fun c d hc hd => m2 c d hc (by omega)⟩
    obtain ⟨z1, z2, z3, z4, z5, p1, p2⟩ := x_plcopy (r := rp) (w0 := cn) (w1 := pn) (r2 := bs) (r3 := far) hpx
    obtain ⟨x1, x2, x3, x4, x5, x6, x7, x8, x9, p3, p4⟩ := x_copy (r := f) (f0 := pl) (f1 := bu) (f2 := le) (f3 := di) (f4 := wa) (f5 := lf) (f6 := ly) (f7 := pr) (dV_M t3.2.2.2.2.1) t3.2.2.2.2.2
    have hrd : fPl_readFrom qp qc qn qb qf rx1 wx1 tp tb tw g1 g2 g3 g4 g5 g6 g7 g8 g9 = some (nI j', rp3, cn3, pn3, bs3, far3, rx3, wx3, y1, pl3, bu3, le3, di3, wa3, lf3, y7, y8) := by
      unfold fPl_readFrom
      rw [hcl]
      simp only [Option.bind_some]
      rw [d1]
      simp only [Option.bind_some]
      rw [t1']
      simp only [Option.bind_some]
      rw [m1]
      rfl
    have hx := fX_town_ok (r0 := r0) (rp := rp) (bs := bs) (far := far) (sn := sn) (hi := hi) (cn := cn) (pn := pn) (f := f) (pl := pl) (bu := bu) (le := le) (di := di) (wa := wa) (lf := lf) (ly := ly) (pr := pr) s1' hrd t4 p1 p3
    have hm : fM_town rm wm mt s h nm rs ap = some (nI j', zup rm3 24 0, wm3, q4, h3, n1, ap4) := by
      unfold fM_town
      simp only [zlet]
      rw [htk]
      simp only [Option.bind_some]
      rw [c1]
      simp only [Option.bind_some]
      rw [s2]
      simp only [Option.bind_some]
      rw [t2']
      simp only [Option.bind_some, zsum]
      rw [a1]
      simp only [Option.bind_some]
      rw [bb1]
      simp only [Option.bind_some]
      rw [cc1]
      simp only [Option.bind_some]
      rw [dd1]
      simp only [Option.bind_some]
      rw [w1]
      simp only [Option.bind_some]
      rw [zup_n (show 19 ≠ 24 by omega), t6]
    have hrel := t3.2.1
    refine ⟨_, _, hx, hm, rfl, rfl, ?_, ?_, fun j hj hj2 => ?_, ⟨0, by omega, congrArg (zup r0 16) t4, ?_⟩, Or.inl ⟨C3, S3, P3, B3, nC3, nP3, A3, p2, ⟨⟨?_, ?_, ?_, fun c hc => ?_, fun j hj => ?_, fun j hj => ?_⟩, w2⟩, p4, e1, t3.2.2.2.2.1, t3.2.2.2.1.1, e2, (zup_s : zup (zup (zup (zup (zup sn 5 0) 6 0) 7 0) 8 0) 10 0 10 = 0), (zup_s : zup hi 2 0 2 = 0), ?_, ?_⟩⟩
    · show zup rm3 24 0 0 = 0
      rw [zup_n (by omega), t7 0 (by omega)]; exact f0
    · show zup rm3 24 0 2 = 0
      rw [zup_n (by omega), t7 2 (by omega)]; exact f2
    · show zup rm3 24 0 j = _
      rw [zup_n hj2, t7 j (by omega)]; exact fF j hj
    · show zup rm3 24 0 15 = _
      rw [zup_n (by omega)]; exact t5
    · show q4 0 = _
      rw [e3 _ (by omega)]; exact hrel.1
    · show q4 1 = _
      rw [e3 _ (by omega)]; exact hrel.2.1
    · show q4 2 = _
      rw [e3 _ (by omega)]; exact hrel.2.2.1
    · show q4 (3 + c) = _
      rw [e3 _ (by omega)]; exact hrel.2.2.2.1 c hc
    · show n1 (0 + j) = _
      rw [show 0 + j = j by omega, bb2 j (by omega)]; exact hrel.2.2.2.2.1 j hj
    · have hP3 := t3.1.2.2.1
      show n1 (8 + j) = _
      rw [bb2 _ (by omega), show 14 + (8 + j) = 22 + j by omega]; exact hrel.2.2.2.2.2 j hj
    · show zup hi 2 0 1 = hi 1
      rw [zup_n (by omega)]
    · show zup rm3 24 0 24 = 0
      rw [zup_s]
  · obtain ⟨x, rp3, cn3, pn3, bs3, rx3, wx3, pl3, bu3, le3, di3, wa3, lf3, rm3, wm3, h3, nm3, C3, B3, t1, t2, ⟨kd, a3, k1, k2, k3, k4, k5, k6, k7⟩, t4, t5, t6, t7, t8, t9⟩ := hh
    have t1' : zLP (fun s : tSX => fPl_readFrom_L15 tp tb tw s.1 s.2.1 s.2.2.1 s.2.2.2.1 s.2.2.2.2.1 s.2.2.2.2.2.1 s.2.2.2.2.2.2.1 s.2.2.2.2.2.2.2.1 s.2.2.2.2.2.2.2.2.1 s.2.2.2.2.2.2.2.2.2.1 s.2.2.2.2.2.2.2.2.2.2.1 s.2.2.2.2.2.2.2.2.2.2.2.1 s.2.2.2.2.2.2.2.2.2.2.2.2) (zup (zup (zup qp 4 0) 5 0) 6 0, qc, qn, bs1, rx1, wx1, y2, y3, y4, y5, g6, y6, 0) = some (rp3, cn3, pn3, bs3, rx3, wx3, pl3, bu3, le3, di3, wa3, lf3, x) := t1
    have t2' : zLP (fun q : tSM => fM_town_L30 mt s rs ap q.1 q.2.1 q.2.2.1 q.2.2.2) (rm1, wm1, h1, nm) = some (.inr ((-1) - rm3 16, rm3, wm3, s, h3, nm3, ap)) := t2
    obtain ⟨far3, m1, m2⟩ := p_measure (far := qf) t5 t6 t8 t7
    have hrd : fPl_readFrom qp qc qn qb qf rx1 wx1 tp tb tw g1 g2 g3 g4 g5 g6 g7 g8 g9 = some (x, rp3, cn3, pn3, bs3, far3, rx3, wx3, y1, pl3, bu3, le3, di3, wa3, lf3, y7, y8) := by
      unfold fPl_readFrom
      rw [hcl]
      simp only [Option.bind_some]
      rw [d1]
      simp only [Option.bind_some]
      rw [t1']
      simp only [Option.bind_some]
      rw [m1]
      rfl
    have hx := fX_town_bad (r0 := r0) (rp := rp) (bs := bs) (far := far) (sn := sn) (hi := hi) (cn := cn) (pn := pn) (f := f) (pl := pl) (bu := bu) (le := le) (di := di) (wa := wa) (lf := lf) (ly := ly) (pr := pr) s1' hrd (show ¬ rx3 8 = 0 by rw [k4]; exact nI_ne0 (by omega) (by omega))
    have hm : fM_town rm wm mt s h nm rs ap = some ((-1) - nI a3, rm3, wm3, s, h3, nm3, ap) := by
      unfold fM_town
      simp only [zlet]
      rw [htk]
      simp only [Option.bind_some]
      rw [c1]
      simp only [Option.bind_some]
      rw [s2]
      simp only [Option.bind_some]
      rw [t2']
      simp only [Option.bind_some, zsum, k7]
    refine ⟨_, _, hx, hm, congrArg (fun x => (-1 : Int32) - x) k5, rfl, ?_, ?_, fun j hj hj2 => ?_, ⟨kd, k2, congrArg (zup r0 16) k4, k6⟩, Or.inr ⟨rfl, rfl, rfl, rfl, rfl, rfl, rfl, rfl, rfl, rfl, rfl, rfl, rfl, rfl, rfl, rfl, rfl, rfl, ?_, t9⟩⟩
    · show rm3 0 = 0
      rw [t4 0 (by omega)]; exact f0
    · show rm3 2 = 0
      rw [t4 2 (by omega)]; exact f2
    · show rm3 j = _
      rw [t4 j (by omega)]; exact fF j hj
    · show rm3 24 = _
      rw [t4 24 (by omega)]; exact fF 24 (by omega)
