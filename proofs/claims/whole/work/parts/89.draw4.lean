/-! ===== drawn minutes ===== -/
abbrev r11 : Type := (Nat → Int32) × (Nat → Int32) × (Nat → Int32) × (Nat → Int32) × (Nat → Int32) × (Nat → Int32) × (Nat → Int32) × (Nat → Int32) × (Nat → Int32) × (Nat → Int32) × (Nat → Int32)
theorem p_days {C P n : Nat} {A : aD} {B : Nat → Nat} {rp bs far f pl bu le di wa lf ly pr co s ap to rm dr : Nat → Int32} {x : Int32} (G : gX C P B rp bs far) (M : gM C P B s ap) (r6 : rp 6 = nI P) (s0 : s 0 = nI C) (D : dR C P A f pl bu le di wa lf ly pr s s) (hn : n ≤ 60) :
    ∃ dr' f' pl' bu' le' di' wa' lf' ly' pr' co' rm' s' to', fDr_passMinutes dr rp bs far f pl bu le di wa lf ly pr co (nI n) x = some (nI (min n (400 - dMi A)), dr', f', pl', bu', le', di', wa', lf', ly', pr', co') ∧ fM_draws rm s ap to (nI n) x = some (nI (min n (400 - dMi A)), rm', s', to') ∧ (∀ j, j ≠ 39 → rm' j = rm j) ∧ ∃ A', dR C P A' f' pl' bu' le' di' wa' lf' ly' pr' s s' := by
  obtain ⟨hC, hP, hr, hB, hb, hf⟩ := id G
  have d5 := D.2.2.2.2
  have hmin : (if fDy_minutesLeft f < nI n then fDy_minutesLeft f else nI n) = nI (min n (400 - dMi A)) := by
    have hl : fDy_minutesLeft f = nI (400 - dMi A) := by
      unfold fDy_minutesLeft
      rw [D.1.1]; exact nI_sub (a := 400) d5
    rw [hl]
    by_cases e : 400 - dMi A < n
    · rw [if_pos (nI_lt e (by omega)), show min n (400 - dMi A) = 400 - dMi A by omega]
    · rw [if_neg (nI_nlt (by omega) (by omega)), show min n (400 - dMi A) = n by omega]
  have key : ∃ (r : r11) (u : (Nat → Int32) × (Nat → Int32) × (Nat → Int32) × Int32), zLP (fun s : (Nat → Int32) × (Nat → Int32) × (Nat → Int32) × (Nat → Int32) × (Nat → Int32) × (Nat → Int32) × (Nat → Int32) × (Nat → Int32) × (Nat → Int32) × (Nat → Int32) × (Nat → Int32) × Int32 => fDr_passMinutes_L19 rp bs far (nI (min n (400 - dMi A))) s.1 s.2.1 s.2.2.1 s.2.2.2.1 s.2.2.2.2.1 s.2.2.2.2.2.1 s.2.2.2.2.2.2.1 s.2.2.2.2.2.2.2.1 s.2.2.2.2.2.2.2.2.1 s.2.2.2.2.2.2.2.2.2.1 s.2.2.2.2.2.2.2.2.2.2.1 s.2.2.2.2.2.2.2.2.2.2.2) (zup dr 0 x, f, pl, bu, le, di, wa, lf, ly, pr, co, 0) = some r ∧ zLP (fun s : (Nat → Int32) × (Nat → Int32) × (Nat → Int32) × Int32 => fM_draws_L7 ap (nI n) s.1 s.2.1 s.2.2.1 s.2.2.2) (zup rm 39 x, s, to, 0) = some u ∧
      (u.2.2.2 = nI (min n (400 - dMi A)) ∧ (∀ j, j ≠ 39 → u.1 j = rm j) ∧ ∃ A', dR C P A' r.2.1 r.2.2.1 r.2.2.2.1 r.2.2.2.2.1 r.2.2.2.2.2.1 r.2.2.2.2.2.2.1 r.2.2.2.2.2.2.2.1 r.2.2.2.2.2.2.2.2.1 r.2.2.2.2.2.2.2.2.2.1 s u.2.1) := by
    refine zLP_pair (fun k t w => t.2.2.2.2.2.2.2.2.2.2.2 = nI k ∧ w.2.2.2 = nI k ∧ t.1 0 = w.1 39 ∧ (∀ j, j ≠ 39 → w.1 j = rm j) ∧ ∃ A', dR C P A' t.2.1 t.2.2.1 t.2.2.2.1 t.2.2.2.2.1 t.2.2.2.2.2.1 t.2.2.2.2.2.2.1 t.2.2.2.2.2.2.2.1 t.2.2.2.2.2.2.2.2.1 t.2.2.2.2.2.2.2.2.2.1 s w.2.1 ∧ dMi A' = dMi A + k) _ (min n (400 - dMi A)) ⟨rfl, rfl, (by show zup dr 0 x 0 = zup rm 39 x 39; rw [zup_s, zup_s]), fun j hj => (zup_n hj : zup rm 39 x j = rm j), A, D, rfl⟩ ?_ ?_
    · rintro k ⟨t1, t2, t3, t4, t5, t6, t7, t8, t9, t10, t11, t12⟩ ⟨w1, w2, w3, w4⟩ hk ⟨e1, e2, e3, e4, A', ⟨a1, a2, a3, a4, a5⟩, e6⟩
      dsimp only at e1 e2 e3 e4 a1 a2 a3
      left
      obtain ⟨⟨p1, p2, p3, p4, p5, p6, p7⟩, ⟨u1, u2⟩, x1, y1, z1, z2, A2, ⟨b1, b2, b3, b4, b5⟩, z4⟩ := p_actL G (gM_K M a3) r6 ((a3 0 (by omega)).trans s0) ⟨a1, a2, sK_rfl, a4, a5⟩ e3
      dsimp only at z1 z2 b1 b2 b3
      obtain ⟨f', pl', bu', wa', lf', ly', pr', co', v1, v2⟩ := x_pass1 (co := t11) hC hP hr hB hb hf b4 b1
      have M2 := gM_K (gM_K M a3) b3
      obtain ⟨s', to', m1, m2, m3⟩ := m_minute (to := w3) hC hP M2.1 hB M2.2.1 M2.2.2 b4 b2
      have hMi : dMi (aMin B P A2) = dMi A2 + 1 := rfl
      refine ⟨(p1, f', pl', bu', p3, p4, wa', lf', ly', pr', co', nI (k + 1)), (u1, s', to', nI (k + 1)), ?_, ?_, rfl, rfl, z1, fun j hj => (z2 j hj).trans (e4 j hj), aMin B P A2, ⟨v2, m2, sK_trans a3 (sK_trans b3 m3), aMin_V hC hB hP b4, by omega⟩, by omega⟩
      · show fDr_passMinutes_L19 rp bs far (nI (min n (400 - dMi A))) t1 t2 t3 t4 t5 t6 t7 t8 t9 t10 t11 t12 = _
        unfold fDr_passMinutes_L19
        rw [e1, if_neg (nI_ge hk (by omega)), x1, Option.bind_some]
        dsimp only
        rw [v1, Option.bind_some, zlet_e, nI_1]
      · show fM_draws_L7 ap (nI n) w1 w2 w3 w4 = _
        unfold fM_draws_L7
        rw [e2, if_neg (nI_ge (by omega) (by omega)), a2.1, if_neg (show ¬ (400 : Int32) ≤ nI (dMi A') from nI_ge (b := 400) (by omega) (by omega)), y1, Option.bind_some]
        dsimp only
        rw [m1, Option.bind_some, zlet_e, nI_1]
    · rintro ⟨t1, t2, t3, t4, t5, t6, t7, t8, t9, t10, t11, t12⟩ ⟨w1, w2, w3, w4⟩ ⟨e1, e2, e3, e4, A', ⟨a1, a2, a3, a4, a5⟩, e6⟩
      dsimp only at e1 e2 e3 e4 a1 a2 a3
      refine ⟨(t1, t2, t3, t4, t5, t6, t7, t8, t9, t10, t11), (w1, w2, w3, w4), ?_, ?_, e2, e4, A', ⟨a1, a2, a3, a4, a5⟩⟩
      · show fDr_passMinutes_L19 rp bs far (nI (min n (400 - dMi A))) t1 t2 t3 t4 t5 t6 t7 t8 t9 t10 t11 t12 = _
        unfold fDr_passMinutes_L19
        rw [e1, if_pos (nI_le (Nat.le_refl _) (by omega))]
      · show fM_draws_L7 ap (nI n) w1 w2 w3 w4 = _
        unfold fM_draws_L7
        by_cases e : n ≤ 400 - dMi A
        · rw [e2, if_pos (nI_le (by omega) (by omega))]
        · rw [e2, if_neg (nI_ge (by omega) (by omega)), a2.1, if_pos (show (400 : Int32) ≤ nI (dMi A') from nI_le (a := 400) (by omega) (by omega))]
  obtain ⟨⟨q1, q2, q3, q4, q5, q6, q7, q8, q9, q10, q11⟩, ⟨u1, u2, u3, u4⟩, k1, k2, k3, k4, A', k5⟩ := key
  dsimp only at k3 k4
  refine ⟨q1, q2, q3, q4, q5, q6, q7, q8, q9, q10, q11, u1, u2, u3, ?_, ?_, k4, A', k5⟩
  · unfold fDr_passMinutes
    rw [zlet_e, zlet_e, hmin, k1, Option.bind_some]
  · unfold fM_draws
    rw [zlet_e, k2, Option.bind_some, ← k3]
