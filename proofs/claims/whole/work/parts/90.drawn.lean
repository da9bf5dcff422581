/-! ===== drawn, odds ===== -/
section DN
variable {C P n0 : Nat} {B : Nat → Nat} {A : aD} {hs : Nat → aD} {rp bs far f pl bu le di wa lf ly pr g1 g2 g3 g4 g5 g6 g7 g8 g9 co hi dr : Nat → Int32} {g : zM} {rm s ap to u bf : Nat → Int32}
theorem m_draws0 {n x : Int32} (h : 400 ≤ s 89) : fM_draws rm s ap to n x = some (0, zup rm 39 x, s, to) := by
  unfold fM_draws
  rw [zlet_e]
  have k : zLP (fun t : (Nat → Int32) × (Nat → Int32) × (Nat → Int32) × Int32 => fM_draws_L7 ap n t.1 t.2.1 t.2.2.1 t.2.2.2) (zup rm 39 x, s, to, 0) = some (zup rm 39 x, s, to, 0) := by
    refine zLP_out ?_
    show fM_draws_L7 ap n (zup rm 39 x) s to 0 = _
    unfold fM_draws_L7
    rw [if_pos h]
    split <;> rfl
  rw [k, Option.bind_some]
theorem aF_39 {z1 z2 z3 z4 z5 z6 z7 z8 z9 hi' rm' rm'' s' u' : Nat → Int32} {g' : zM} (h : aF C P s rm z1 z2 z3 z4 z5 z6 z7 z8 z9 hi' g' rm' s' u') (k : ∀ j, j ≠ 39 → rm'' j = rm' j) : aF C P s (zup rm 39 (rm'' 39)) z1 z2 z3 z4 z5 z6 z7 z8 z9 hi' g' rm'' s' u' := by
  obtain ⟨h1, h2, A', n', hs', h3, h4, h5, h6⟩ := h
  refine ⟨(k 0 (by omega)).trans h1, fun j j0 j24 => ?_, A', n', hs', h3, h4, h5, by rw [k 24 (by omega)]; exact h6⟩
  by_cases e : j = 39
  · rw [e, zup_s]
  · rw [zup_n e, k j e]; exact h2 j j0 j24
theorem c_drawn {a1 a2 : Int32} (G : gX C P B rp bs far) (M : gM C P B s ap) (r6 : rp 6 = nI P) (s0 : s 0 = nI C) (D : dR C P A f pl bu le di wa lf ly pr s s) (hv : qHv C P n0 hs) (hx : hRx P n0 hs hi g) (hm : hRm P n0 hs (rm 24) u) :
    ∃ X Y z, fX_drawn rp bs far f pl bu le di wa lf ly pr g1 g2 g3 g4 g5 g6 g7 g8 g9 co hi dr g a1 a2 = some X ∧ fM_drawn rm s ap to u a1 a2 = some Y ∧ X.1 = Y.1 ∧ aF C P s (zup rm 39 z) X.2.1 X.2.2.1 X.2.2.2.1 X.2.2.2.2.1 X.2.2.2.2.2.1 X.2.2.2.2.2.2.1 X.2.2.2.2.2.2.2.1 X.2.2.2.2.2.2.2.2.1 X.2.2.2.2.2.2.2.2.2.1 X.2.2.2.2.2.2.2.2.2.2.2.2.2.2.2.2.2.2.2.2.1 X.2.2.2.2.2.2.2.2.2.2.2.2.2.2.2.2.2.2.2.2.2.2 Y.2.1 Y.2.2.1 Y.2.2.2.2 := by
  obtain ⟨hC, hP, hr, hB, hb, hf⟩ := id G
  obtain ⟨d1, d2, d3, d4, d5⟩ := id D
  have hno0 := aF_no (rm := rm) D hv hx hm
  have hno := aF_39 (rm'' := zup rm 0 0) hno0 (fun _ _ => rfl)
  unfold fX_drawn fM_drawn fM_isIn
  rw [zlet_e]
  by_cases h4 : a1 < 1
  · rw [if_pos h4, if_pos h4, if_neg (show ¬ false = true by decide)]
    exact ⟨_, _, _, rfl, rfl, rfl, hno⟩
  · rw [if_neg h4, if_neg h4]
    by_cases h5 : 60 < a1
    · rw [if_neg (show ¬ a1 ≤ 60 from Int32.not_le.mpr h5), if_pos h5, if_neg (show ¬ false = true by decide)]
      exact ⟨_, _, _, rfl, rfl, rfl, hno⟩
    · rw [if_pos (show a1 ≤ 60 from Int32.not_lt.mp h5), if_neg h5, if_pos rfl]
      obtain ⟨n, n1, n5, rfl⟩ := i32_in (lo := 1) (hi := 60) (by omega) (by omega) h4 h5
      obtain ⟨y1, y2, y3, y4, y5, y6, y7, y8, y9, c1, c2⟩ := x_copy (r := g1) (f0 := g2) (f1 := g3) (f2 := g4) (f3 := g5) (f4 := g6) (f5 := g7) (f6 := g8) (f7 := g9) (dV_M d4) d1
      rw [c1, Option.bind_some]
      by_cases w : dMi A = 400
      · obtain ⟨dr', f', pl', bu', le', di', wa', lf', ly', pr', co', rm1, s1, to1, e1, -, -, -⟩ := p_days (n := n) (x := a2) (dr := dr) (rm := zup rm 0 0) (co := co) (to := to) G M r6 s0 ⟨c2, d2, d3, d4, d5⟩ n5
        have hm0 : min n (400 - dMi A) = 0 := by omega
        have h89 : 400 ≤ s 89 := by rw [d2.1, w]; decide
        rw [if_pos h89, m_draws0 h89, Option.bind_some]
        refine ⟨(0, f, pl, bu, le, di, wa, lf, ly, pr, f', pl', bu', le', di', wa', lf', ly', pr', co', hi, dr', g), _, _, ?_, rfl, rfl, aF_39 hno0 (fun j hj => zup_n hj)⟩
        show (fDr_passMinutes dr rp bs far y1 y2 y3 y4 y5 y6 y7 y8 y9 co (nI n) a2).bind _ = _
        rw [e1, Option.bind_some, zlet_e, hm0]
        show (fX_settle f pl bu le di wa lf ly pr f' pl' bu' le' di' wa' lf' ly' pr' hi g 0).bind _ = _
        rw [x_settle0, Option.bind_some]; rfl
      · rw [if_neg (show ¬ 400 ≤ s 89 by rw [d2.1]; exact nI_ge (b := 400) (by omega) (by omega))]
        have h24 : ∃ q, q = fM_keep (zup rm 0 0) s u := ⟨_, rfl⟩
        obtain ⟨rk, uk, k1, k2, k3⟩ : ∃ rk uk, fM_keep (zup rm 0 0) s u = some (rk, uk) ∧ True ∧ True := by
          obtain ⟨u', k1, k2⟩ := m_keep (r := zup rm 0 0) hP d4 d2 hv hm.2 (by rw [zup_n (by omega)]; exact hm.1)
          exact ⟨_, u', k1, trivial, trivial⟩
        obtain ⟨dr', f', pl', bu', le', di', wa', lf', ly', pr', co', rm1, s1, to1, e1, e2, e3, A', e4⟩ := p_days (n := n) (x := a2) (dr := dr) (rm := rk) (co := co) (to := to) G M r6 s0 ⟨c2, d2, d3, d4, d5⟩ n5
        obtain ⟨z1, z2, z3, z4, z5, z6, z7, z8, z9, hi', g', rm', u', t0, t1, t2, t3⟩ := a_done hP D e4 hv hx hm
        rw [k1] at t2
        obtain ⟨rfl, rfl⟩ : rk = rm' ∧ uk = u' := ⟨congrArg Prod.fst (Option.some.inj t2), congrArg Prod.snd (Option.some.inj t2)⟩
        rw [k1, Option.bind_some]
        dsimp only
        rw [e2, Option.bind_some]
        refine ⟨(nI (min n (400 - dMi A)), z1, z2, z3, z4, z5, z6, z7, z8, z9, f', pl', bu', le', di', wa', lf', ly', pr', co', hi', dr', g'), _, _, ?_, rfl, rfl, aF_39 t3 e3⟩
        rw [e1, Option.bind_some, zlet_e]
        show (fX_settle f pl bu le di wa lf ly pr f' pl' bu' le' di' wa' lf' ly' pr' hi g (nI (min n (400 - dMi A)))).bind _ = _
        rw [t0 _ (by omega) (by omega), Option.bind_some]
theorem c_odds {a1 a2 a3 : Int32} (G : gX C P B rp bs far) (M : gM C P B s ap) (r6 : rp 6 = nI P) (s0 : s 0 = nI C) (D : dR C P A f pl bu le di wa lf ly pr s s) :
    ∃ X Y, fX_odds rp bs far f pl bu le di wa lf ly pr g1 g2 g3 g4 g5 g6 g7 g8 g9 co dr a1 a2 a3 = some X ∧ fM_odds rm s ap to bf a1 a2 a3 = some Y ∧ X.1 = Y.1 ∧ sD P A Y.2.2.1 ∧ sK s Y.2.2.1 ∧ ∀ j, j ≠ 39 → Y.2.1 j = zup rm 0 0 j := by
  obtain ⟨hC, hP, hr, hB, hb, hf⟩ := id G
  obtain ⟨d1, d2, d3, d4, d5⟩ := id D
  unfold fX_odds fM_odds fM_isIn
  rw [p_hasPerson hP r6, zlet_e, p_isPerson hP M.1, Option.bind_some]
  by_cases h1 : p_has P a1 = true
  · rw [if_pos h1, if_pos h1]
    by_cases h4 : a2 < 1
    · rw [if_pos h4, if_pos h4, if_neg (show ¬ false = true by decide)]
      exact ⟨_, _, rfl, rfl, rfl, d2, sK_rfl, fun _ _ => rfl⟩
    · rw [if_neg h4, if_neg h4]
      by_cases h5 : 30 < a2
      · rw [if_neg (show ¬ a2 ≤ 30 from Int32.not_le.mpr h5), if_pos h5, if_neg (show ¬ false = true by decide)]
        exact ⟨_, _, rfl, rfl, rfl, d2, sK_rfl, fun _ _ => rfl⟩
      · rw [if_pos (show a2 ≤ 30 from Int32.not_lt.mp h5), if_neg h5, if_pos rfl]
        obtain ⟨n, n1, n5, rfl⟩ := i32_in (lo := 1) (hi := 30) (by omega) (by omega) h4 h5
        obtain ⟨q, hq, rfl⟩ := p_has_ex (by omega) h1
        obtain ⟨bf', b1, b2⟩ := m_tries (bf := bf) hP (dV_M d4) d2
        rw [b1, Option.bind_some]
        have key : ∃ (r : (Nat → Int32) × (Nat → Int32) × (Nat → Int32) × (Nat → Int32) × (Nat → Int32) × (Nat → Int32) × (Nat → Int32) × (Nat → Int32) × (Nat → Int32) × (Nat → Int32) × (Nat → Int32) × Int32) (v : (Nat → Int32) × (Nat → Int32) × (Nat → Int32) × Int32), zLP (fun t : (Nat → Int32) × (Nat → Int32) × (Nat → Int32) × (Nat → Int32) × (Nat → Int32) × (Nat → Int32) × (Nat → Int32) × (Nat → Int32) × (Nat → Int32) × (Nat → Int32) × (Nat → Int32) × Int32 × Int32 => fX_odds_L30 rp bs far f pl bu le di wa lf ly pr (nI q) (nI n) a3 t.1 t.2.1 t.2.2.1 t.2.2.2.1 t.2.2.2.2.1 t.2.2.2.2.2.1 t.2.2.2.2.2.2.1 t.2.2.2.2.2.2.2.1 t.2.2.2.2.2.2.2.2.1 t.2.2.2.2.2.2.2.2.2.1 t.2.2.2.2.2.2.2.2.2.2.1 t.2.2.2.2.2.2.2.2.2.2.2.1 t.2.2.2.2.2.2.2.2.2.2.2.2) (g1, g2, g3, g4, g5, g6, g7, g8, g9, co, dr, 0, 0) = some r ∧ zLP (fun t : (Nat → Int32) × (Nat → Int32) × (Nat → Int32) × Int32 × Int32 => fM_odds_L35 ap (nI q) (nI n) a3 bf' t.1 t.2.1 t.2.2.1 t.2.2.2.1 t.2.2.2.2) (zup rm 0 0, s, to, 0, 0) = some v ∧
            (r.2.2.2.2.2.2.2.2.2.2.2 = v.2.2.2 ∧ sD P A v.2.1 ∧ sK s v.2.1 ∧ ∀ j, j ≠ 39 → v.1 j = zup rm 0 0 j) := by
          refine zLP_pair (fun k t w => t.2.2.2.2.2.2.2.2.2.2.2.2 = nI k ∧ w.2.2.2.2 = nI k ∧ t.2.2.2.2.2.2.2.2.2.2.2.1 = w.2.2.2.1 ∧ sD P A w.2.1 ∧ sK s w.2.1 ∧ ∀ j, j ≠ 39 → w.1 j = zup rm 0 0 j) _ n ⟨rfl, rfl, rfl, d2, sK_rfl, fun _ _ => rfl⟩ ?_ ?_
          · rintro k ⟨t1, t2, t3, t4, t5, t6, t7, t8, t9, t10, t11, t12, t13⟩ ⟨w1, w2, w3, w4, w5⟩ hk ⟨e1, e2, e3, e4, e5, e6⟩
            dsimp only at e1 e2 e3 e4 e5 e6
            left
            obtain ⟨y1, y2, y3, y4, y5, y6, y7, y8, y9, c1, c2⟩ := x_copy (r := t1) (f0 := t2) (f1 := t3) (f2 := t4) (f3 := t5) (f4 := t6) (f5 := t7) (f6 := t8) (f7 := t9) (dV_M d4) d1
            have M' := gM_K M e5
            obtain ⟨dr', f', pl', bu', le', di', wa', lf', ly', pr', co', rm1, s1, to1, x1, x2, x3, A', x4⟩ := p_days (n := 10) (x := a3 + nI k) (dr := t11) (rm := w1) (co := t10) (to := w3) G M' r6 ((e5 0 (by omega)).trans s0) ⟨c2, e4, sK_rfl, d4, d5⟩ (by omega)
            obtain ⟨q1, q2, q3, q4, q5⟩ := x4
            have hA6 : ∀ r, r < 6 → dA A' r ≤ 6 := fun r hr => by have := (q4.2.1 r hr).1; omega
            have z1 := x_folOf q1.2.2.2.2.1 (q := q) (by omega) hA6
            have z2 := m_folOf q2 q4 hP ((q3 2 (by omega)).trans M'.1) (q := q) (by omega)
            obtain ⟨s'', v1, v2, v3⟩ := m_back (s := s1) hP (dV_M d4) b2
            refine ⟨(f', pl', bu', le', di', wa', lf', ly', pr', co', dr', t12 + (zb (if nI (dFol A' q) = 0 then false else true)), nI (k + 1)), (rm1, s'', to1, w4 + (zb (if nI (dFol A' q) = 0 then false else true)), nI (k + 1)), ?_, ?_, rfl, rfl, by rw [e3], v2, sK_trans e5 (sK_trans q3 v3), fun j hj => (x3 j hj).trans (e6 j hj)⟩
            · show fX_odds_L30 rp bs far f pl bu le di wa lf ly pr (nI q) (nI n) a3 t1 t2 t3 t4 t5 t6 t7 t8 t9 t10 t11 t12 t13 = _
              unfold fX_odds_L30
              rw [e1, if_neg (nI_ge hk (by omega)), c1, Option.bind_some]
              dsimp only
              have x1' : fDr_passMinutes t11 rp bs far y1 y2 y3 y4 y5 y6 y7 y8 y9 t10 10 (a3 + nI k) = _ := x1
              rw [x1', Option.bind_some]
              dsimp only
              rw [z1, Option.bind_some, zlet_e, zlet_e, zlet_e, nI_1]
              by_cases ef : nI (dFol A' q) = 0
              · rw [if_pos ef, if_pos ef, show t12 + zb false = t12 from Int32.add_zero t12]
              · rw [if_neg ef, if_neg ef]; rfl
            · show fM_odds_L35 ap (nI q) (nI n) a3 bf' w1 w2 w3 w4 w5 = _
              unfold fM_odds_L35
              rw [e2, if_neg (nI_ge hk (by omega))]
              have x2' : fM_draws w1 w2 ap w3 10 (a3 + nI k) = _ := x2
              rw [x2', Option.bind_some]
              dsimp only
              rw [z2, Option.bind_some, zlet_e, v1, Option.bind_some, zlet_e, nI_1]
          · rintro ⟨t1, t2, t3, t4, t5, t6, t7, t8, t9, t10, t11, t12, t13⟩ ⟨w1, w2, w3, w4, w5⟩ ⟨e1, e2, e3, e4, e5, e6⟩
            dsimp only at e1 e2 e3 e4 e5 e6
            refine ⟨(t1, t2, t3, t4, t5, t6, t7, t8, t9, t10, t11, t12), (w1, w2, w3, w4), ?_, ?_, e3, e4, e5, e6⟩
            · show fX_odds_L30 rp bs far f pl bu le di wa lf ly pr (nI q) (nI n) a3 t1 t2 t3 t4 t5 t6 t7 t8 t9 t10 t11 t12 t13 = _
              unfold fX_odds_L30
              rw [e1, if_pos (nI_le (Nat.le_refl _) (by omega))]
            · show fM_odds_L35 ap (nI q) (nI n) a3 bf' w1 w2 w3 w4 w5 = _
              unfold fM_odds_L35
              rw [e2, if_pos (nI_le (Nat.le_refl _) (by omega))]
        obtain ⟨r, v, k1, k2, k3, k4, k5, k6⟩ := key
        rw [k1, k2, Option.bind_some, Option.bind_some]
        exact ⟨_, _, rfl, rfl, k3, k4, k5, k6⟩
  · rw [if_neg h1, if_neg h1]
    exact ⟨_, _, rfl, rfl, rfl, d2, sK_rfl, fun _ _ => rfl⟩
end DN
