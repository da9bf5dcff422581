/-! ===== sentence, call against call ===== -/
def qX (cd : List aI) (sn pa ot nu : Nat → Int32) : Prop := sn 10 = 1 ∧ sn 5 = nI cd.length ∧ cdX cd pa ot nu
theorem x_scopy {cd : List aI} {sn pa ot nu r f0 f1 f2 : Nat → Int32} (hl : cd.length ≤ 40) (h : qX cd sn pa ot nu) : ∃ Y, fSn_copyFrom r f0 f1 f2 sn pa ot nu = some Y ∧ qX cd Y.1 Y.2.1 Y.2.2.1 Y.2.2.2 ∧ Y.1 8 = sn 8 := by
  obtain ⟨h1, h2, h3⟩ := h
  unfold fSn_copyFrom
  simp only [zlet]
  rw [if_pos (Or.inr h1)]
  refine ⟨_, rfl, ⟨?_, ?_, cdX_cong (fun i hi => ⟨sb_cpy0 (by omega), sb_cpy0 (by omega), sb_cpy0 (by omega)⟩) h3⟩, ?_⟩
  · show zup (zup (zup r 5 (sn 5)) 8 (sn 8)) 10 (sn 10) 10 = 1
    rw [zup_s]; exact h1
  · show zup (zup (zup r 5 (sn 5)) 8 (sn 8)) 10 (sn 10) 5 = _
    rw [zup_n (by omega), zup_n (by omega), zup_s]; exact h2
  · show zup (zup (zup r 5 (sn 5)) 8 (sn 8)) 10 (sn 10) 8 = _
    rw [zup_n (by omega), zup_s]
theorem x_scopy0 {sn pa ot nu r f0 f1 f2 : Nat → Int32} (h : sn 10 = 0) : ∃ Y, fSn_copyFrom r f0 f1 f2 sn pa ot nu = some Y ∧ Y.1 10 = 0 := by
  unfold fSn_copyFrom
  simp only [zlet]
  rw [if_pos (Or.inl h)]
  refine ⟨_, rfl, ?_⟩
  show zup (zup (zup r 5 (sn 5)) 8 (sn 8)) 10 (sn 10) 10 = 0
  rw [zup_s]; exact h
theorem fX_sen_ok {r0 tp tb rd rp sn pa ot nu u0 u1 u2 u3 u4 : Nat → Int32} {wrd tw cn pn : Nat → Int64} {y1 : (Nat → Int32) × (Nat → Int64)} {y2 : s7} {y6 : (Nat → Int32) × (Nat → Int32) × (Nat → Int32) × (Nat → Int32)} (e1 : fRd_start rd wrd tp tb 200 = some y1) (e2 : fSn_readFrom u0 u1 u2 u3 u4 y1.1 y1.2 tp tb tw rp cn pn = some y2) (e3 : y2.2.2.2.2.2.1 8 = 0) (e4 : fSn_copyFrom sn pa ot nu y2.1 y2.2.1 y2.2.2.1 y2.2.2.2.1 = some y6) :
    fX_sentence r0 tp tb rd wrd tw rp cn pn sn pa ot nu u0 u1 u2 u3 u4 = some (y6.1 8, zup r0 16 (y2.2.2.2.2.2.1 8), zup tp 1 0, y2.2.2.2.2.2.1, y2.2.2.2.2.2.2, y6.1, y6.2.1, y6.2.2.1, y6.2.2.2, y2.1, y2.2.1, y2.2.2.1, y2.2.2.2.1, y2.2.2.2.2.1) := by
  unfold fX_sentence
  rw [e1, Option.bind_some, e2, Option.bind_some]
  unfold fRd_faultKind fTp_clear
  simp only [zlet, Option.bind_some]
  rw [if_pos (show zup r0 16 (y2.2.2.2.2.2.1 8) 16 = 0 by rw [zup_s]; exact e3), e4, Option.bind_some]
  rfl
theorem fX_sen_bad {r0 tp tb rd rp sn pa ot nu u0 u1 u2 u3 u4 : Nat → Int32} {wrd tw cn pn : Nat → Int64} {y1 : (Nat → Int32) × (Nat → Int64)} {y2 : s7} (e1 : fRd_start rd wrd tp tb 200 = some y1) (e2 : fSn_readFrom u0 u1 u2 u3 u4 y1.1 y1.2 tp tb tw rp cn pn = some y2) (e3 : ¬ y2.2.2.2.2.2.1 8 = 0) :
    fX_sentence r0 tp tb rd wrd tw rp cn pn sn pa ot nu u0 u1 u2 u3 u4 = some ((-1) - y2.2.2.2.2.2.1 3, zup r0 16 (y2.2.2.2.2.2.1 8), zup tp 1 0, y2.2.2.2.2.2.1, y2.2.2.2.2.2.2, sn, pa, ot, nu, y2.1, y2.2.1, y2.2.2.1, y2.2.2.2.1, y2.2.2.2.2.1) := by
  unfold fX_sentence
  rw [e1, Option.bind_some, e2, Option.bind_some]
  unfold fRd_faultKind fTp_clear fRd_place
  simp only [zlet, Option.bind_some]
  rw [if_neg (show ¬ zup r0 16 (y2.2.2.2.2.2.1 8) 16 = 0 by rw [zup_s]; exact e3)]
theorem c_sentence {n C S P : Nat} {b B : Nat → Nat} {nC nP : Nat → List Nat} {r0 tp tb rd rp sn pa ot nu u0 u1 u2 u3 u4 : Nat → Int32} {wrd tw cn pn : Nat → Int64} {bs mt rm s sk rr : Nat → Int32} {wm nm rs : Nat → Int64} (hX : tpX n b tp tb) (hT : tpM n b mt) (W : wE tw rs) (hl : rm 2 = nI n) (TX : tRX C S P B nC nP rp bs cn pn) (TM : tRM 0 8 C S P B nC nP s nm) :
    ∃ X Y, fX_sentence r0 tp tb rd wrd tw rp cn pn sn pa ot nu u0 u1 u2 u3 u4 = some X ∧ fM_sentence rm wm mt s rr nm rs sk = some Y ∧
      X.1 = Y.1 ∧ X.2.2.1 = zup tp 1 0 ∧ Y.2.1 0 = 0 ∧ Y.2.1 2 = 0 ∧ (∀ j, 19 ≤ j → j < 44 ∨ 48 < j → Y.2.1 j = rm j) ∧ (∃ kd, kd ≤ 4 ∧ X.2.1 = zup r0 16 (nI kd) ∧ Y.2.1 15 = nI kd) ∧
      ((∃ cd, qX cd X.2.2.2.2.2.1 X.2.2.2.2.2.2.1 X.2.2.2.2.2.2.2.1 X.2.2.2.2.2.2.2.2.1 ∧ qM cd Y.2.2.2.1 ∧ qI cd ∧ ∀ j, j < 216 → Y.2.2.2.1 j = s j) ∨ (X.2.2.2.2.2.1 = sn ∧ X.2.2.2.2.2.2.1 = pa ∧ X.2.2.2.2.2.2.2.1 = ot ∧ X.2.2.2.2.2.2.2.2.1 = nu ∧ Y.2.2.2.1 = s)) := by
  have hn := hX.1
  have E : tE n 200 b tp tb mt := ⟨hX, hT, by omega⟩
  have m3 : zup (zup (zup (zup (zup (zup (zup (zup (zup (zup (zup rm 0 0) 3 (zup rm 0 0 2)) 2 0) 4 0) 5 200) 15 0) 44 0) 45 0) 46 0) 47 1) 48 0 3 = nI n := by
    rw [zup_n (by omega), zup_n (by omega), zup_n (by omega), zup_n (by omega), zup_n (by omega), zup_n (by omega), zup_n (by omega), zup_n (by omega), zup_n (by omega), zup_s, zup_n (by omega)]; exact hl
  obtain ⟨rx1, wx1, rm1, wm1, s1, s2, ⟨k, v, w, a, p, K⟩, s4⟩ := t_start (rd := rd) (wx := wrd) (wm := wm) (L := 200) E m3
    (by rw [zup_n (by omega), zup_n (by omega), zup_n (by omega), zup_n (by omega), zup_n (by omega), zup_n (by omega), zup_n (by omega), zup_s])
    (by rw [zup_n (by omega), zup_n (by omega), zup_n (by omega), zup_n (by omega), zup_n (by omega), zup_n (by omega), zup_s]; rfl)
    (by rw [zup_n (by omega), zup_n (by omega), zup_n (by omega), zup_n (by omega), zup_n (by omega), zup_s])
  have s1' : fRd_start rd wrd tp tb 200 = some (rx1, wx1) := s1
  have fF : ∀ j, 19 ≤ j → j < 44 ∨ 48 < j → rm1 j = rm j := fun j hj hj2 => by
    rw [s4 j (by omega), zup_n (by omega), zup_n (by omega), zup_n (by omega), zup_n (by omega), zup_n (by omega), zup_n (by omega), zup_n (by omega), zup_n (by omega), zup_n (by omega), zup_n (by omega), zup_n (by omega)]
  have f0 : rm1 0 = 0 := by rw [s4 0 (by omega), zup_n (by omega), zup_n (by omega), zup_n (by omega), zup_n (by omega), zup_n (by omega), zup_n (by omega), zup_n (by omega), zup_n (by omega), zup_n (by omega), zup_n (by omega), zup_s]
  have f2 : rm1 2 = 0 := by rw [s4 2 (by omega), zup_n (by omega), zup_n (by omega), zup_n (by omega), zup_n (by omega), zup_n (by omega), zup_n (by omega), zup_n (by omega), zup_n (by omega), zup_s]
  have zm0 : zMo [] [] 0 true rm1 rr sk := by
    refine ⟨?_, ?_, ?_, ?_, ?_, trivial, trivial⟩
    · rw [s4 44 (by omega), zup_n (by omega), zup_n (by omega), zup_n (by omega), zup_n (by omega), zup_s]; rfl
    · rw [s4 45 (by omega), zup_n (by omega), zup_n (by omega), zup_n (by omega), zup_s]; rfl
    · rw [s4 46 (by omega), zup_n (by omega), zup_n (by omega), zup_s]; rfl
    · rw [s4 47 (by omega), zup_n (by omega), zup_s]; rfl
    · rw [s4 48 (by omega), zup_s]; rfl
  have hcl : fSn_clear u0 = some (zup (zup (zup (zup (zup u0 5 0) 6 0) 7 0) 8 0) 10 0) := rfl
  have z0 : zX [] [] 0 true (zup (zup (zup (zup (zup (zup u0 5 0) 6 0) 7 0) 8 0) 10 0) 9 1) u1 u2 u3 u4 := by
    refine ⟨?_, ?_, ?_, ?_, ?_, trivial, trivial⟩
    · rw [zup_n (by omega), zup_n (by omega), zup_n (by omega), zup_n (by omega), zup_n (by omega), zup_s]; rfl
    · rw [zup_n (by omega), zup_n (by omega), zup_n (by omega), zup_n (by omega), zup_s]; rfl
    · rw [zup_n (by omega), zup_n (by omega), zup_n (by omega), zup_s]; rfl
    · rw [zup_n (by omega), zup_n (by omega), zup_s]; rfl
    · rw [zup_s]; rfl
  have J0 : sJ true (zup (zup (zup (zup (zup (zup u0 5 0) 6 0) 7 0) 8 0) 10 0) 9 1) u1 u2 u3 u4 rm1 rr sk := ⟨[], [], 0, [], [], z0, zm0, fun _ => ⟨rfl, rfl⟩, fun h => absurd h (by decide), by decide, by decide, by decide, trivial, fun h => absurd h (by decide), rfl, trivial, fun c hc => by cases hc⟩
  have hme : fM_sentence rm wm mt s rr nm rs sk = zLP (sBM mt nm rs) (rm1, wm1, s, rr, sk, 1) := by
    unfold fM_sentence
    simp only [zlet]
    rw [show fM_taken (zup rm 0 0) 200 = some (zup (zup (zup (zup (zup rm 0 0) 3 (zup rm 0 0 2)) 2 0) 4 0) 5 200) from rfl, Option.bind_some, s2, Option.bind_some]
  rw [hme]
  rcases s_loop E W TX TM 941 0 k v a p w true rx1 rm1 _ u1 u2 u3 u4 rr sk wx1 wm1 K J0 (by omega) (by omega) with hh | hh
  · obtain ⟨X, st, cd, on, rm', wm', s', rd', sk', t1, t2, t3, t4, t5, t6, t7, t8, t9, t10⟩ := hh
    obtain ⟨X1, X2, X3, X4, X5, X6, X7⟩ := X
    try dsimp only at t3 t6
    obtain ⟨j1, j2, j3, j4, j5, j6, j7, j8⟩ := id t7
    simp only [Bool.false_eq_true, if_false] at j1 j6
    obtain ⟨r', pa', ot', nu', x1, x2, x3⟩ := x_join true (wv := 10) rfl (by omega) t6
    have I2 := sI_joins true st cd on t7
    have hlen := (sJoin_len true st cd).1
    rw [t8] at x2 I2 hlen
    have hl40 : (sJoin true st cd).2.length ≤ 40 := by simp only [List.length_nil] at hlen; omega
    have hgd : fRd_isGood X6 = true := by unfold fRd_isGood; rw [if_pos t3]
    have hrf : fSn_readFrom u0 u1 u2 u3 u4 rx1 wx1 tp tb tw rp cn pn = some (zup r' 10 1, pa', ot', nu', X5, X6, X7) := by
      unfold fSn_readFrom
      rw [hcl, Option.bind_some]
      simp only [zlet]
      have t1' : zLP (fun s : sSX => fSn_readFrom_L11 tp tb tw rp cn pn s.1 s.2.1 s.2.2.1 s.2.2.2.1 s.2.2.2.2.1 s.2.2.2.2.2.1 s.2.2.2.2.2.2.1 s.2.2.2.2.2.2.2) (zup (zup (zup (zup (zup (zup u0 5 0) 6 0) 7 0) 8 0) 10 0) 9 1, u1, u2, u3, u4, rx1, wx1, 0) = some (X1, X2, X3, X4, X5, X6, X7) := t1
      rw [t1', Option.bind_some]
      show (fSn_settleWaiting X1 X2 X3 X4 X5 10).bind _ = _
      rw [x1, Option.bind_some]
      show some (zup r' 10 (zb (fRd_isGood X6)), pa', ot', nu', X5, X6, X7) = _
      rw [hgd]; rfl
    have hq : qX (sJoin true st cd).2 (zup r' 10 1) pa' ot' nu' := ⟨zup_s, by rw [zup_n (by omega)]; exact x2.1, x2.2.2.2.2.2.1⟩
    obtain ⟨⟨y1, y2, y3, y4⟩, c1, c2, c3⟩ := x_scopy (r := sn) (f0 := pa) (f1 := ot) (f2 := nu) hl40 hq
    try dsimp only at c2 c3
    have hx := fX_sen_ok (r0 := r0) (sn := sn) (pa := pa) (ot := ot) (nu := nu) s1' hrf t3 c1
    refine ⟨_, _, hx, t2, ?_, rfl, ?_, ?_, fun j hj hj2 => ?_, ⟨0, by omega, congrArg (zup r0 16) t3, t4⟩, Or.inl ⟨(sJoin true st cd).2, c2, t9, ⟨hl40, ?_, I2.2.2.2.2.2.2.1, I2.2.2.2.2.2.2.2⟩, t10⟩⟩
    · show y1 8 = nI on
      rw [c3, zup_n (by omega)]; exact x2.2.2.2.1
    · show rm' 0 = 0
      rw [t5 0 (by omega)]; exact f0
    · show rm' 2 = 0
      rw [t5 2 (by omega)]; exact f2
    · show rm' j = _
      rw [t5 j (by omega)]; exact fF j hj hj2
    · have := I2.2.2.2.2.2.1
      simp only [Bool.false_eq_true, if_false] at this
      exact this
  · obtain ⟨X, rm', wm', rd', sk', t1, t2, ⟨kd, a3, k1, k2, k3, k4, k5, k6, k7⟩, t4, t5⟩ := hh
    obtain ⟨X1, X2, X3, X4, X5, X6, X7⟩ := X
    try dsimp only at k4 k5 t5
    have hd : ¬ X6 8 = 0 := by rw [k4]; exact nI_ne0 (by omega) (by omega)
    obtain ⟨⟨y1, y2, y3, y4⟩, e1, e2⟩ := x_setD (pa := X2) (ot := X3) (nu := X4) (pe := X5) (wv := 10) t5
    have hrf : fSn_readFrom u0 u1 u2 u3 u4 rx1 wx1 tp tb tw rp cn pn = some (zup y1 10 (zb (fRd_isGood X6)), y2, y3, y4, X5, X6, X7) := by
      unfold fSn_readFrom
      rw [hcl, Option.bind_some]
      simp only [zlet]
      have t1' : zLP (fun s : sSX => fSn_readFrom_L11 tp tb tw rp cn pn s.1 s.2.1 s.2.2.1 s.2.2.2.1 s.2.2.2.2.1 s.2.2.2.2.2.1 s.2.2.2.2.2.2.1 s.2.2.2.2.2.2.2) (zup (zup (zup (zup (zup (zup u0 5 0) 6 0) 7 0) 8 0) 10 0) 9 1, u1, u2, u3, u4, rx1, wx1, 0) = some (X1, X2, X3, X4, X5, X6, X7) := t1
      rw [t1', Option.bind_some]
      show (fSn_settleWaiting X1 X2 X3 X4 X5 10).bind _ = _
      rw [e1]; rfl
    have hx := fX_sen_bad (r0 := r0) (sn := sn) (pa := pa) (ot := ot) (nu := nu) s1' hrf hd
    refine ⟨_, _, hx, t2, ?_, rfl, ?_, ?_, fun j hj hj2 => ?_, ⟨kd, k2, congrArg (zup r0 16) k4, k6⟩, Or.inr ⟨rfl, rfl, rfl, rfl, rfl⟩⟩
    · show (-1 : Int32) - X6 3 = (-1) - rm' 16
      rw [k5, k7]
    · show rm' 0 = 0
      rw [t4 0 (by omega)]; exact f0
    · show rm' 2 = 0
      rw [t4 2 (by omega)]; exact f2
    · show rm' j = _
      rw [t4 j (by omega)]; exact fF j hj hj2
