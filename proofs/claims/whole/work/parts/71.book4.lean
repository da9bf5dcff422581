/-! ===== book, call against call ===== -/
theorem c_book {n C S P n0 : Nat} {b B : Nat → Nat} {nC nP : Nat → List Nat} {A : aD} {hs : Nat → aD} {r0 tp tb rd rp bs far f pl bu le di wa lf ly pr g1 g2 g3 g4 g5 g6 g7 g8 g9 co hi bk ac at_ ot nu : Nat → Int32} {wrd tw cn pn : Nat → Int64} {g : zM} {a1 : Int32} {rm mt s rdm ap to u bf ta : Nat → Int32} {wm nm rs : Nat → Int64} (hX : tpX n b tp tb) (hT : tpM n b mt) (W : wE tw rs) (hl : rm 2 = nI n) (TX : tRX C S P B nC nP rp bs cn pn) (TM : tRM 0 8 C S P B nC nP s nm) (G : gX C P B rp bs far) (M : gM C P B s ap) (D : dR C P A f pl bu le di wa lf ly pr s s) (hv : qHv C P n0 hs) (hx : hRx P n0 hs hi g) (hm : hRm P n0 hs (rm 24) u) (hR : tRl bk ta rm) :
    ∃ X Y, fX_book r0 tp tb rd wrd tw rp cn pn bs far f pl bu le di wa lf ly pr g1 g2 g3 g4 g5 g6 g7 g8 g9 co hi bk ac at_ ot nu g a1 = some X ∧ fM_book rm wm mt s rdm nm rs ap to u bf ta a1 = some Y ∧
      X.1 = Y.1 ∧ Y.2.1 0 = 0 ∧ ((X.2.1 = r0 ∧ X.2.2.1 = tp ∧ Y.2.1 2 = rm 2 ∧ Y.2.1 15 = rm 15) ∨ (X.2.2.1 = zup tp 1 0 ∧ Y.2.1 2 = 0 ∧ ∃ kd, kd ≤ 4 ∧ X.2.1 = zup r0 16 (nI kd) ∧ Y.2.1 15 = nI kd)) ∧ (∀ j, 19 ≤ j → j ≠ 24 → j ≠ 40 → j ≠ 42 → Y.2.1 j = rm j) ∧
      (∃ A' n' hs', dR C P A' X.2.2.2.2.2.1 X.2.2.2.2.2.2.1 X.2.2.2.2.2.2.2.1 X.2.2.2.2.2.2.2.2.1 X.2.2.2.2.2.2.2.2.2.1 X.2.2.2.2.2.2.2.2.2.2.1 X.2.2.2.2.2.2.2.2.2.2.2.1 X.2.2.2.2.2.2.2.2.2.2.2.2.1 X.2.2.2.2.2.2.2.2.2.2.2.2.2.1 s Y.2.2.2.1 ∧ qHv C P n' hs' ∧ hRx P n' hs' X.2.2.2.2.2.2.2.2.2.2.2.2.2.2.2.2.2.2.2.2.2.2.2.2.1 X.2.2.2.2.2.2.2.2.2.2.2.2.2.2.2.2.2.2.2.2.2.2.2.2.2.2.2.2.2.2 ∧ hRm P n' hs' (Y.2.1 24) Y.2.2.2.2.2.2.1) ∧ tRl X.2.2.2.2.2.2.2.2.2.2.2.2.2.2.2.2.2.2.2.2.2.2.2.2.2.1 Y.2.2.2.2.2.2.2.2 Y.2.1 := by
  by_cases ha : a1 < 0 ∨ 1 < a1
  · have hmm : fM_book rm wm mt s rdm nm rs ap to u bf ta a1 = some (-1000, zup rm 0 0, wm, s, rdm, to, u, bf, ta) := by
      unfold fM_book fM_isIn
      rw [zlet_e]
      rcases ha with ha | ha
      · rw [if_pos ha, if_neg (by decide)]
      · by_cases h0 : a1 < 0
        · rw [if_pos h0, if_neg (by decide)]
        · rw [if_neg h0, if_pos ha, if_neg (by decide)]
    have hz : ∀ j, j ≠ 0 → zup rm 0 0 j = rm j := fun j h => zup_n h
    refine ⟨_, _, fX_book_no ha, hmm, rfl, (zup_s : zup rm 0 0 0 = 0), Or.inl ⟨rfl, rfl, hz 2 (by omega), hz 15 (by omega)⟩, fun j h1 h2 h3 h4 => hz j (by omega), ⟨A, n0, hs, D, hv, hx, ?_, hm.2⟩, ?_⟩
    · show zup rm 0 0 24 = _
      rw [zup_n (by omega)]; exact hm.1
    · show tRl bk ta (zup rm 0 0)
      unfold tRl
      rw [zup_n (show (42 : Nat) ≠ 0 by omega)]; exact hR
  · have ha' : a1 = 0 ∨ a1 = 1 := i32_01 (fun h => ha (Or.inl h)) (fun h => ha (Or.inr h))
    have hn := hX.1
    have E : tE n 400 b tp tb mt := ⟨hX, hT, by omega⟩
    obtain ⟨rx1, wx1, rm1, wm1, s1, s2, ⟨k, v, w, a, p, K⟩, s4⟩ := t_start (rd := rd) (wx := wrd) (wm := wm) (rm := zup (zup (zup (zup (zup (zup (zup rm 0 0) 3 (zup rm 0 0 2)) 2 0) 4 0) 5 400) 15 0) 40 0) (L := 400) E
      (by rw [zup_n (by omega), zup_n (by omega), zup_n (by omega), zup_n (by omega), zup_n (by omega), zup_s, zup_n (by omega)]; exact hl)
      (by rw [zup_n (by omega), zup_n (by omega), zup_n (by omega), zup_s])
      (by rw [zup_n (by omega), zup_n (by omega), zup_s]; rfl)
      (by rw [zup_n (by omega), zup_s])
    have s1' : fRd_start rd wrd tp tb 400 = some (rx1, wx1) := s1
    have fF : ∀ j, 19 ≤ j → j ≠ 40 → rm1 j = rm j := fun j hj hj2 => by
      rw [s4 j (by omega), zup_n (by omega), zup_n (by omega), zup_n (by omega), zup_n (by omega), zup_n (by omega), zup_n (by omega), zup_n (by omega)]
    have f0 : rm1 0 = 0 := by rw [s4 0 (by omega), zup_n (by omega), zup_n (by omega), zup_n (by omega), zup_n (by omega), zup_n (by omega), zup_n (by omega), zup_s]
    have f2 : rm1 2 = 0 := by rw [s4 2 (by omega), zup_n (by omega), zup_n (by omega), zup_n (by omega), zup_n (by omega), zup_s]
    have f40 : rm1 40 = nI 0 := by rw [s4 40 (by omega), zup_s]; rfl
    have hme := fM_book_eq (s := s) (rd := rdm) (ap := ap) (to := to) (u := u) (bf := bf) (ta := ta) (nm := nm) (rs := rs) ha' s2
    have hrf : ∀ X1 : bRX, zLP (bBX tp tb tw rp cn pn) (zup bk 4 0, ac, at_, ot, nu, rx1, wx1, 0) = some X1 → fBk_readFrom bk ac at_ ot nu rx1 wx1 tp tb tw rp cn pn = some X1 := fun X1 h => by
      unfold fBk_readFrom
      rw [zlet_e]
      have h' : zLP (fun s : bSX => fBk_readFrom_L7 tp tb tw rp cn pn s.1 s.2.1 s.2.2.1 s.2.2.2.1 s.2.2.2.2.1 s.2.2.2.2.2.1 s.2.2.2.2.2.2.1 s.2.2.2.2.2.2.2) (zup bk 4 0, ac, at_, ot, nu, rx1, wx1, 0) = some X1 := h
      rw [h', Option.bind_some]
    rcases b_loop (un := to) (be := u) (tr := bf) (ta := ta) E W TX TM 941 0 k v a p w [] rx1 rm1 (zup bk 4 0) ac at_ ot nu rdm wx1 wm1 K zup_s f40 rfl (by omega) trivial trivial (fun c hc => by cases hc) (by omega) with hh | hh
    · obtain ⟨X1, rm', wm', rd', ln, t1, t2, t3, t4, t5, t6, t7, t8, t9, t10, t11, t12⟩ := hh
      have hr := hrf X1 t1
      obtain ⟨d1, d2, d3, d4, d5⟩ := id D
      obtain ⟨y1, y2, y3, y4, y5, y6, y7, y8, y9, c1, c2⟩ := x_copy (r := g1) (f0 := g2) (f1 := g3) (f2 := g4) (f3 := g5) (f4 := g6) (f5 := g7) (f6 := g8) (f7 := g9) (dV_M d4) d1
      obtain ⟨bf', b1, b2⟩ := m_tries (bf := bf) G.2.1 (dV_M d4) d2
      obtain ⟨bk', A', f', pl', bu', le', di', wa', lf', ly', pr', co', s', to', ta', vv, yy, gg, j1, j2, j3, j4, j5, j6, j7, j8, j9, j10, j11, j12⟩ := b_judge (co := co) (to := to) (ta := ta) (rm := rm') (rd := rd') (bk := X1.1) (ac := X1.2.1) (at_ := X1.2.2.1) (ot := X1.2.2.2.1) (nu := X1.2.2.2.2.1) G M t8 t6 t7 (ln_at t10 t11 t12) (⟨c2, d2, d3, d4, d5⟩ : dR C P A y1 y2 y3 y4 y5 y6 y7 y8 y9 s s)
      obtain ⟨q1, q2, q3, q4, q5⟩ := id j4
      rw [t2, Option.bind_some] at hme
      have hme2 : fM_book rm wm mt s rdm nm rs ap to u bf ta a1 = kC u a1 (rm', wm', rd') bf' (s', to', ta', vv) := by
        rw [hme]
        show (fM_tries s bf).bind _ = _
        rw [b1, Option.bind_some, m_ta0, Option.bind_some]
        show (zLP (jBM ap rm' rd') _).bind _ = _
        rw [j2, Option.bind_some]
      have z42 : ∀ j, 19 ≤ j → j ≠ 24 → j ≠ 40 → j ≠ 42 → zup rm' 42 1 j = rm j := fun j h1 h2 h3 h4 => by rw [zup_n h4, t5 j (by omega) h3]; exact fF j h1 h3
      have z24 : zup rm' 42 1 24 = nI n0 := by rw [zup_n (by omega), t5 24 (by omega) (by omega), fF 24 (by omega) (by omega)]; exact hm.1
      have z0 : zup rm' 42 1 0 = 0 := by rw [zup_n (by omega), t5 0 (by omega) (by omega)]; exact f0
      have z2 : zup rm' 42 1 2 = 0 := by rw [zup_n (by omega), t5 2 (by omega) (by omega)]; exact f2
      have z15 : zup rm' 42 1 15 = nI 0 := by rw [zup_n (by omega)]; exact t4
      have zk : zup r0 16 (X1.2.2.2.2.2.1 8) = zup r0 16 (nI 0) := congrArg (zup r0 16) t3
      have zt : ∀ r : Nat → Int32, r 42 = 1 → tRl bk' (zup (zup ta' 2 (s' 89)) 3 yy) r := fun r h => Or.inr ⟨j5, h, by rw [zup_n (by omega), zup_n (by omega)]; exact j6, by rw [zup_n (by omega), zup_n (by omega), j8]; exact j7, by rw [zup_n (by omega), zup_s]; exact j9, by rw [zup_s]; exact j10⟩
      rcases ha' with rfl | rfl
      · obtain ⟨s'', e1, e2, e3⟩ := m_back (s := s') G.2.1 (dV_M d4) b2
        rw [kC_0 j3 e1] at hme2
        exact ⟨_, _, fX_book_0 (y1 := (rx1, wx1)) rfl s1' hr t3 c1 j1, hme2, rfl, z0, Or.inr ⟨rfl, z2, 0, by omega, zk, z15⟩, z42, ⟨A, n0, hs, ⟨d1, e2, sK_trans q3 e3, d4, d5⟩, hv, hx, z24, hm.2⟩, zt (zup rm' 42 1) zup_s⟩
      · by_cases g0 : gg = 0
        · have hA := j12 g0
          rw [g0] at j7 j8
          rw [kC_1a j3 j8] at hme2
          have hs0 : fX_settle f pl bu le di wa lf ly pr f' pl' bu' le' di' wa' lf' ly' pr' hi g (bk' 7) = some (f, pl, bu, le, di, wa, lf, ly, pr, hi, g) := by rw [j7]; exact x_settle0
          exact ⟨_, _, fX_book_1 (y1 := (rx1, wx1)) rfl s1' hr t3 c1 j1 hs0, hme2, rfl, z0, Or.inr ⟨rfl, z2, 0, by omega, zk, z15⟩, z42, ⟨A, n0, hs, ⟨d1, by rw [← hA]; exact q2, q3, d4, d5⟩, hv, hx, z24, hm.2⟩, zt (zup rm' 42 1) zup_s⟩
        · obtain ⟨w1, w2, w3, w4, w5, w6, w7, w8, w9, hi', g', e1, e2, e3⟩ := x_settle d4 q4 d1 q1 hv hx g0 (x := gg) (by omega)
          obtain ⟨u1, u', k1, k2, k3⟩ := m_keepOver (r := zup rm' 42 1) G.2.1 q4 d4 q2 hv hm.2 z24 b2
          rw [kC_1b j3 j8 g0 (by omega) k1 k2] at hme2
          rw [← j7] at e1
          have hz : ∀ j, j ≠ 24 → zup (zup rm' 42 1) 24 (nI (nxt n0)) j = zup rm' 42 1 j := fun j h => zup_n h
          exact ⟨_, _, fX_book_1 (y1 := (rx1, wx1)) rfl s1' hr t3 c1 j1 e1, hme2, rfl, (hz 0 (by omega)).trans z0, Or.inr ⟨rfl, (hz 2 (by omega)).trans z2, 0, by omega, zk, (hz 15 (by omega)).trans z15⟩, fun j h1 h2 h3 h4 => (hz j h2).trans (z42 j h1 h2 h3 h4), ⟨A', nxt n0, hAdd n0 hs A, ⟨e2, q2, q3, q4, q5⟩, hAdd_V d4 d5 hv, e3, (zup_s : zup (zup rm' 42 1) 24 (nI (nxt n0)) 24 = nI (nxt n0)), k3⟩, zt (zup (zup rm' 42 1) 24 (nI (nxt n0))) ((hz 42 (by omega)).trans zup_s)⟩
    · obtain ⟨X1, rm', wm', rd', t1, t2, ⟨kd, a3, k1, k2, k3, k4, k5, k6, k7⟩, t4, t5⟩ := hh
      have hr := hrf X1 t1
      have hd : ¬ X1.2.2.2.2.2.1 8 = 0 := by rw [k4]; exact nI_ne0 (by omega) (by omega)
      rw [t2, Option.bind_some] at hme
      have hme2 : fM_book rm wm mt s rdm nm rs ap to u bf ta a1 = some ((-2) - rm' 16, rm', wm', s, rd', to, u, bf, ta) := hme
      have hb5 : ∀ i, i ≠ 4 → X1.1 i = bk i := fun i hi => by rw [t5 i hi, zup_n hi]
      refine ⟨_, _, fX_book_bad (y1 := (rx1, wx1)) ha' s1' hr hd, hme2, ?_, ?_, Or.inr ⟨rfl, ?_, kd, k2, congrArg (zup r0 16) k4, k6⟩, fun j h1 h2 h3 h4 => ?_, ⟨A, n0, hs, D, hv, hx, ?_, hm.2⟩, ?_⟩
      · show (-2 : Int32) - X1.2.2.2.2.2.1 3 = (-2) - rm' 16
        rw [k5, k7]
      · show rm' 0 = 0
        rw [t4 0 (by omega) (by omega)]; exact f0
      · show rm' 2 = 0
        rw [t4 2 (by omega) (by omega)]; exact f2
      · show rm' j = rm j
        rw [t4 j (by omega) h3]; exact fF j h1 h3
      · show rm' 24 = _
        rw [t4 24 (by omega) (by omega), fF 24 (by omega) (by omega)]; exact hm.1
      · show tRl X1.1 ta rm'
        unfold tRl
        rw [hb5 5 (by omega), hb5 6 (by omega), hb5 7 (by omega), hb5 8 (by omega), hb5 9 (by omega), t4 42 (by omega) (by omega), fF 42 (by omega) (by omega)]; exact hR
