/-! ===== hire, minutes, undo ===== -/
theorem i32_in {x : Int32} {lo hi : Nat} (hl : lo < 2 ^ 31) (hh : hi < 2 ^ 31) (h1 : ¬ x < nI lo) (h2 : ¬ nI hi < x) : ∃ n, lo ≤ n ∧ n ≤ hi ∧ x = nI n := by
  obtain ⟨j, j1, rfl⟩ := nI_of (x := x) (fun h => h1 (Int32.lt_of_lt_of_le h (nI_pos' hl)))
  refine ⟨j, ?_, ?_, rfl⟩
  · have := mt (nI_ltI j1 hl).mpr h1; omega
  · have := mt (nI_ltI hh j1).mpr h2; omega
section ACT
variable {C P n0 : Nat} {B : Nat → Nat} {A : aD} {hs : Nat → aD} {rp bs far f pl bu le di wa lf ly pr g1 g2 g3 g4 g5 g6 g7 g8 g9 co hi : Nat → Int32} {g : zM} {rm s ap to u : Nat → Int32}
theorem c_hire {a1 a2 a3 : Int32} (G : gX C P B rp bs far) (M : gM C P B s ap) (r6 : rp 6 = nI P) (D : dR C P A f pl bu le di wa lf ly pr s s) (hv : qHv C P n0 hs) (hx : hRx P n0 hs hi g) (hm : hRm P n0 hs (rm 24) u) :
    ∃ X Y, fX_hire rp f pl bu le di wa lf ly pr g1 g2 g3 g4 g5 g6 g7 g8 g9 hi g a1 a2 a3 = some X ∧ fM_hire rm s u a1 a2 a3 = some Y ∧ X.1 = Y.1 ∧ aF C P s rm X.2.1 X.2.2.1 X.2.2.2.1 X.2.2.2.2.1 X.2.2.2.2.2.1 X.2.2.2.2.2.2.1 X.2.2.2.2.2.2.2.1 X.2.2.2.2.2.2.2.2.1 X.2.2.2.2.2.2.2.2.2.1 X.2.2.2.2.2.2.2.2.2.2.2.2.2.2.2.2.2.2.2.1 X.2.2.2.2.2.2.2.2.2.2.2.2.2.2.2.2.2.2.2.2 Y.2.1 Y.2.2.1 Y.2.2.2 := by
  obtain ⟨hC, hP, hr, hB, hb, hf⟩ := id G
  obtain ⟨d1, d2, d3, d4, d5⟩ := id D
  have hno := aF_no (rm := rm) D hv hx hm
  unfold fX_hire fM_hire fM_isIn
  rw [p_hasPerson hP r6, p_hasPerson hP r6, zlet_e, p_isPerson hP M.1, p_isPerson hP M.1, Option.bind_some, Option.bind_some]
  by_cases h1 : p_has P a1 = true
  · rw [if_pos h1, if_pos h1]
    by_cases h2 : p_has P a2 = true
    · rw [if_pos h2, if_pos h2]
      by_cases h3 : a1 = a2
      · rw [if_pos h3, if_pos h3]
        exact ⟨_, _, rfl, rfl, rfl, hno⟩
      · rw [if_neg h3, if_neg h3]
        by_cases h4 : a3 < 1
        · rw [if_pos h4, if_pos h4, if_neg (show ¬ false = true by decide)]
          exact ⟨_, _, rfl, rfl, rfl, hno⟩
        · rw [if_neg h4, if_neg h4]
          by_cases h5 : 5 < a3
          · rw [if_pos h5, if_neg (show ¬ a3 ≤ 5 from Int32.not_le.mpr h5), if_neg (show ¬ false = true by decide)]
            exact ⟨_, _, rfl, rfl, rfl, hno⟩
          · rw [if_neg h5, if_pos (show a3 ≤ 5 from Int32.not_lt.mp h5), if_pos rfl]
            obtain ⟨q, hq, rfl⟩ := p_has_ex (by omega) h1
            obtain ⟨c, hc, rfl⟩ := p_has_ex (by omega) h2
            obtain ⟨n, n1, n5, rfl⟩ := i32_in (lo := 1) (hi := 5) (by omega) (by omega) h4 h5
            obtain ⟨y1, y2, y3, y4, y5, y6, y7, y8, y9, c1, c2⟩ := x_copy (r := g1) (f0 := g2) (f1 := g3) (f2 := g4) (f3 := g5) (f4 := g6) (f5 := g7) (f6 := g8) (f7 := g9) (dV_M d4) d1
            obtain ⟨le', di', lf', e1, e2, e3⟩ := x_hire (n := n) hP d4 c2 hq hc
            have hW : aWhyH A c < 4 := aWhyH_lt
            rw [c1, Option.bind_some, m_whyHire hP d4 d2 hc, Option.bind_some]
            by_cases w : aWhyH A c = 0
            · obtain ⟨s', k1, k2, k3⟩ := m_binds (n := n) hP d4 d2 hq hc
              obtain ⟨z1, z2, z3, z4, z5, z6, z7, z8, z9, hi', g', rm', u', t0, t1, t2, t3⟩ := a_done hP D (⟨e2 w, k2, k3, aHire_V d4 hq hc n1 n5, d5⟩ : dR C P (aHire q c n A) y1 y2 y3 le' di' y6 lf' y8 y9 s s') hv hx hm
              rw [w, if_pos (show nI 0 ≤ 0 by decide), t2, Option.bind_some, k1, Option.bind_some]
              refine ⟨(0, z1, z2, z3, z4, z5, z6, z7, z8, z9, y1, y2, y3, le', di', y6, lf', y8, y9, hi', g'), _, ?_, rfl, rfl, t3⟩
              show (fDy_takesOn y4 y5 y7 (nI q) (nI c) (nI n)).bind _ = _
              rw [e1, Option.bind_some, w]
              show (fX_settleIfDone f pl bu le di wa lf ly pr y1 y2 y3 le' di' y6 lf' y8 y9 hi g 0).bind _ = _
              rw [t1, Option.bind_some]
            · rw [if_neg (show ¬ nI (aWhyH A c) ≤ 0 from nI_ge (b := aWhyH A c) (a := 0) (by omega) (by omega))]
              refine ⟨(nI (aWhyH A c), f, pl, bu, le, di, wa, lf, ly, pr, y1, y2, y3, le', di', y6, lf', y8, y9, hi, g), _, ?_, rfl, rfl, hno⟩
              show (fDy_takesOn y4 y5 y7 (nI q) (nI c) (nI n)).bind _ = _
              rw [e1, Option.bind_some]
              show (fX_settleIfDone f pl bu le di wa lf ly pr y1 y2 y3 le' di' y6 lf' y8 y9 hi g (nI (aWhyH A c))).bind _ = _
              rw [x_sid0 (fun h => w ((nI_e0 (by omega)).mp h)), Option.bind_some]
    · rw [if_neg h2, if_neg h2]
      exact ⟨_, _, rfl, rfl, rfl, hno⟩
  · rw [if_neg h1, if_neg h1]
    exact ⟨_, _, rfl, rfl, rfl, hno⟩
theorem c_minutes {a1 : Int32} (G : gX C P B rp bs far) (M : gM C P B s ap) (r6 : rp 6 = nI P) (D : dR C P A f pl bu le di wa lf ly pr s s) (hv : qHv C P n0 hs) (hx : hRx P n0 hs hi g) (hm : hRm P n0 hs (rm 24) u) :
    ∃ X Y, fX_minutes rp bs far f pl bu le di wa lf ly pr g1 g2 g3 g4 g5 g6 g7 g8 g9 co hi g a1 = some X ∧ fM_minutes rm s ap to u a1 = some Y ∧ X.1 = Y.1 ∧ aF C P s rm X.2.1 X.2.2.1 X.2.2.2.1 X.2.2.2.2.1 X.2.2.2.2.2.1 X.2.2.2.2.2.2.1 X.2.2.2.2.2.2.2.1 X.2.2.2.2.2.2.2.2.1 X.2.2.2.2.2.2.2.2.2.1 X.2.2.2.2.2.2.2.2.2.2.2.2.2.2.2.2.2.2.2.2.1 X.2.2.2.2.2.2.2.2.2.2.2.2.2.2.2.2.2.2.2.2.2 Y.2.1 Y.2.2.1 Y.2.2.2.2 := by
  obtain ⟨hC, hP, hr, hB, hb, hf⟩ := id G
  obtain ⟨d1, d2, d3, d4, d5⟩ := id D
  have hno := aF_no (rm := rm) D hv hx hm
  unfold fX_minutes fM_minutes fM_isIn
  rw [zlet_e]
  by_cases h4 : a1 < 1
  · rw [if_pos h4, if_pos h4, if_neg (show ¬ false = true by decide)]
    exact ⟨_, _, rfl, rfl, rfl, hno⟩
  · rw [if_neg h4, if_neg h4]
    by_cases h5 : 60 < a1
    · rw [if_pos h5, if_neg (show ¬ a1 ≤ 60 from Int32.not_le.mpr h5), if_neg (show ¬ false = true by decide)]
      exact ⟨_, _, rfl, rfl, rfl, hno⟩
    · rw [if_neg h5, if_pos (show a1 ≤ 60 from Int32.not_lt.mp h5), if_pos rfl]
      obtain ⟨n, n1, n5, rfl⟩ := i32_in (lo := 1) (hi := 60) (by omega) (by omega) h4 h5
      obtain ⟨y1, y2, y3, y4, y5, y6, y7, y8, y9, c1, c2⟩ := x_copy (r := g1) (f0 := g2) (f1 := g3) (f2 := g4) (f3 := g5) (f4 := g6) (f5 := g7) (f6 := g8) (f7 := g9) (dV_M d4) d1
      have hl : fDy_minutesLeft y1 = nI (400 - dMi A) := by
        unfold fDy_minutesLeft
        rw [c2.1]; exact nI_sub (a := 400) d5
      have hmin : (if fDy_minutesLeft y1 < nI n then fDy_minutesLeft y1 else nI n) = nI (min n (400 - dMi A)) := by
        rw [hl]
        by_cases e : 400 - dMi A < n
        · rw [if_pos (nI_lt e (by omega)), show min n (400 - dMi A) = 400 - dMi A by omega]
        · rw [if_neg (nI_nlt (by omega) (by omega)), show min n (400 - dMi A) = n by omega]
      obtain ⟨f', pl', bu', wa', lf', ly', pr', co', e1, e2⟩ := x_pass (co := co) hC hP hr hB hb hf d4 c2 (n := min n (400 - dMi A)) (by omega)
      rw [c1, Option.bind_some, zlet_e]
      by_cases w : dMi A = 400
      · rw [if_pos (show s 89 = 400 by rw [d2.1, w]; rfl)]
        have hm0 : min n (400 - dMi A) = 0 := by omega
        refine ⟨(0, f, pl, bu, le, di, wa, lf, ly, pr, f', pl', bu', y4, y5, wa', lf', ly', pr', co', hi, g), _, ?_, rfl, rfl, hno⟩
        show (fDy_passMinutes y1 y2 y3 y4 y5 y6 y7 y8 y9 co rp bs far (if fDy_minutesLeft y1 < nI n then fDy_minutesLeft y1 else nI n)).bind _ = _
        rw [hmin, e1, Option.bind_some]
        show (fX_settle f pl bu le di wa lf ly pr f' pl' bu' y4 y5 wa' lf' ly' pr' hi g (nI (min n (400 - dMi A)))).bind _ = _
        rw [hm0, show nI 0 = 0 from rfl, x_settle0, Option.bind_some]
      · rw [if_neg (show ¬ s 89 = 400 from fun h => w ((nI_eq (b := 400) (by omega) (by omega)).mp (d2.1.symm.trans h)))]
        obtain ⟨s', to', k1, k2, k3⟩ := m_goesOn (to := to) G M d4 d2 d5 n5
        obtain ⟨z1, z2, z3, z4, z5, z6, z7, z8, z9, hi', g', rm', u', t0, t1, t2, t3⟩ := a_done hP D (⟨e2, k2, k3, aMinN_V hC hB hP d4 _, by rw [aMinN_Mi]; omega⟩ : dR C P (aMinN B P (min n (400 - dMi A)) A) f' pl' bu' y4 y5 wa' lf' ly' pr' s s') hv hx hm
        rw [t2, Option.bind_some, k1, Option.bind_some]
        refine ⟨(nI (min n (400 - dMi A)), z1, z2, z3, z4, z5, z6, z7, z8, z9, f', pl', bu', y4, y5, wa', lf', ly', pr', co', hi', g'), _, ?_, rfl, rfl, t3⟩
        show (fDy_passMinutes y1 y2 y3 y4 y5 y6 y7 y8 y9 co rp bs far (if fDy_minutesLeft y1 < nI n then fDy_minutesLeft y1 else nI n)).bind _ = _
        rw [hmin, e1, Option.bind_some]
        show (fX_settle f pl bu le di wa lf ly pr f' pl' bu' y4 y5 wa' lf' ly' pr' hi g (nI (min n (400 - dMi A)))).bind _ = _
        rw [t0 _ (by omega) (by omega), Option.bind_some]
theorem c_undo (hP : P ≤ 6) (D : dR C P A f pl bu le di wa lf ly pr s s) (hv : qHv C P n0 hs) (hx : hRx P n0 hs hi g) (hm : hRm P n0 hs (rm 24) u) :
    ∃ X Y, fX_undo f pl bu le di wa lf ly pr hi g = some X ∧ fM_undo rm s u = some Y ∧ X.1 = Y.1 ∧ aF C P s rm X.2.1 X.2.2.1 X.2.2.2.1 X.2.2.2.2.1 X.2.2.2.2.2.1 X.2.2.2.2.2.2.1 X.2.2.2.2.2.2.2.1 X.2.2.2.2.2.2.2.2.1 X.2.2.2.2.2.2.2.2.2.1 X.2.2.2.2.2.2.2.2.2.2.1 X.2.2.2.2.2.2.2.2.2.2.2 Y.2.1 Y.2.2 u := by
  obtain ⟨d1, d2, d3, d4, d5⟩ := id D
  obtain ⟨nx, x1, x2, x3, x4⟩ := id hx
  have hno := aF_no (rm := rm) D hv hx hm
  have h24 : zup rm 0 0 24 = nI n0 := by rw [zup_n (by omega)]; exact hm.1
  have hn8 := hv.1
  unfold fX_undo fM_undo fHi_length
  rw [zlet_e, h24, x3]
  by_cases w : n0 = 0
  · rw [if_pos ((nI_e0 (by omega)).mpr w), if_pos ((nI_e0 (by omega)).mpr w)]
    exact ⟨_, _, rfl, rfl, rfl, hno⟩
  · rw [if_neg (fun h => w ((nI_e0 (by omega)).mp h)), if_neg (fun h => w ((nI_e0 (by omega)).mp h)), zlet_e]
    have hlast := hv.2 (n0 - 1) (by omega)
    obtain ⟨r', y1, y2, y3, y4, y5, y6, y7, y8, y9, e1, e2, e3, e4⟩ := x_hback (f := f) (pl := pl) (bu := bu) (le := le) (di := di) (wa := wa) (lf := lf) (ly := ly) (pr := pr) (A := hs (n0 - 1)) (dV_M hlast.1) x1 hn8 x2 x3 (by
      have := x4 (n0 - 1) (by omega)
      rw [show (nx + 8 - n0 + (n0 - 1)) % 8 = (nx + 7) % 8 by omega] at this
      exact this)
    have hp : nI n0 - 1 = nI (n0 - 1) := nI_sub (a := n0) (b := 1) (by omega)
    obtain ⟨s', k1, k2, k3⟩ := m_undoL (s := s) (u := u) (r := zup (zup rm 0 0) 24 (nI (n0 - 1))) (n := n0 - 1) (by omega) zup_s
    rw [hp, k1, e1, Option.bind_some, Option.bind_some]
    refine ⟨_, _, rfl, rfl, ?_, ?_, fun j h1 h2 => ?_, hs (n0 - 1), n0 - 1, hs, ⟨e4, ?_, k3, hlast.1, hlast.2⟩, ⟨by omega, fun j hj => hv.2 j (by omega)⟩, ⟨(nx + 7) % 8, Nat.mod_lt _ (by omega), e2, e3, fun j hj => ?_⟩, ?_, fun j hj => hm.2 j (by omega)⟩
    · show r' 2 = zup (zup rm 0 0) 24 (nI (n0 - 1)) 24
      rw [e3, zup_s]
    · show zup (zup rm 0 0) 24 (nI (n0 - 1)) 0 = 0
      rw [zup_n (by omega), zup_s]
    · show zup (zup rm 0 0) 24 (nI (n0 - 1)) j = rm j
      rw [zup_n h2, zup_n h1]
    · exact sD_cong hP (dV_M hlast.1) (hm.2 (n0 - 1) (by omega)) k2
    · have := x4 j (by omega)
      rw [show (nx + 8 - n0 + j) % 8 = ((nx + 7) % 8 + 8 - (n0 - 1) + j) % 8 by omega] at this
      exact this
    · show zup (zup rm 0 0) 24 (nI (n0 - 1)) 24 = _
      exact zup_s
end ACT
