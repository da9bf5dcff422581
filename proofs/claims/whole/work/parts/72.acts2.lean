/-! ===== the acts, call against call ===== -/
def aF (C P : Nat) (s rm f pl bu le di wa lf ly pr hi : Nat → Int32) (g : zM) (rm' s' u' : Nat → Int32) : Prop := rm' 0 = 0 ∧ (∀ j, j ≠ 0 → j ≠ 24 → rm' j = rm j) ∧ ∃ A' n' hs', dR C P A' f pl bu le di wa lf ly pr s s' ∧ qHv C P n' hs' ∧ hRx P n' hs' hi g ∧ hRm P n' hs' (rm' 24) u'
section ACT
variable {C P n0 : Nat} {B : Nat → Nat} {A : aD} {hs : Nat → aD} {rp bs far f pl bu le di wa lf ly pr g1 g2 g3 g4 g5 g6 g7 g8 g9 hi : Nat → Int32} {g : zM} {rm s ap u : Nat → Int32}
theorem aF_no (D : dR C P A f pl bu le di wa lf ly pr s s) (hv : qHv C P n0 hs) (hx : hRx P n0 hs hi g) (hm : hRm P n0 hs (rm 24) u) : aF C P s rm f pl bu le di wa lf ly pr hi g (zup rm 0 0) s u :=
  ⟨zup_s, fun j h1 _ => zup_n h1, A, n0, hs, D, hv, hx, by rw [zup_n (by omega)]; exact hm⟩
theorem x_sid0 {a : Int32} (h : ¬ a = 0) : fX_settleIfDone f pl bu le di wa lf ly pr g1 g2 g3 g4 g5 g6 g7 g8 g9 hi g a = some (a, f, pl, bu, le, di, wa, lf, ly, pr, hi, g) := by
  unfold fX_settleIfDone
  rw [if_neg h, show zb false = 0 from rfl, x_settle0]; rfl
/-- a done act: the class settles, the reference keeps the old day -/
theorem a_done {A' : aD} {s' : Nat → Int32} (hP : P ≤ 6) (D : dR C P A f pl bu le di wa lf ly pr s s) (D' : dR C P A' g1 g2 g3 g4 g5 g6 g7 g8 g9 s s') (hv : qHv C P n0 hs) (hx : hRx P n0 hs hi g) (hm : hRm P n0 hs (rm 24) u) :
    ∃ z1 z2 z3 z4 z5 z6 z7 z8 z9 hi' g' rm' u', (∀ x, x ≠ 0 → x < 2 ^ 31 → fX_settle f pl bu le di wa lf ly pr g1 g2 g3 g4 g5 g6 g7 g8 g9 hi g (nI x) = some (z1, z2, z3, z4, z5, z6, z7, z8, z9, hi', g')) ∧ fX_settleIfDone f pl bu le di wa lf ly pr g1 g2 g3 g4 g5 g6 g7 g8 g9 hi g 0 = some (0, z1, z2, z3, z4, z5, z6, z7, z8, z9, hi', g') ∧ fM_keep (zup rm 0 0) s u = some (rm', u') ∧ aF C P s rm z1 z2 z3 z4 z5 z6 z7 z8 z9 hi' g' rm' s' u' := by
  obtain ⟨d1, d2, d3, d4, d5⟩ := D
  obtain ⟨q1, q2, q3, q4, q5⟩ := D'
  obtain ⟨z1, z2, z3, z4, z5, z6, z7, z8, z9, hi', g', e1, e2, e3⟩ := x_settle d4 q4 d1 q1 hv hx (x := 1) (by omega) (by omega)
  obtain ⟨u', k1, k2⟩ := m_keep (r := zup rm 0 0) hP d4 d2 hv hm.2 (by rw [zup_n (by omega)]; exact hm.1)
  have hall : ∀ x, x ≠ 0 → x < 2 ^ 31 → fX_settle f pl bu le di wa lf ly pr g1 g2 g3 g4 g5 g6 g7 g8 g9 hi g (nI x) = some (z1, z2, z3, z4, z5, z6, z7, z8, z9, hi', g') := fun x h1 h2 => by
    rw [← e1]
    unfold fX_settle
    rw [if_neg (show ¬ nI x ≤ 0 from nI_ge (b := x) (a := 0) (by omega) h2), if_neg (show ¬ nI 1 ≤ 0 by decide)]
  refine ⟨z1, z2, z3, z4, z5, z6, z7, z8, z9, hi', g', _, u', hall, ?_, k1, ?_, fun j h1 h2 => ?_, A', nxt n0, hAdd n0 hs A, ⟨e2, q2, q3, q4, q5⟩, hAdd_V d4 d5 hv, e3, zup_s, k2⟩
  · unfold fX_settleIfDone
    rw [if_pos rfl, show zb true = nI 1 from rfl, e1]; rfl
  · rw [zup_n (by omega), zup_s]
  · rw [zup_n h2, zup_n h1]
theorem c_send {a1 a2 : Int32} (G : gX C P B rp bs far) (M : gM C P B s ap) (r6 : rp 6 = nI P) (s0 : s 0 = nI C) (D : dR C P A f pl bu le di wa lf ly pr s s) (hv : qHv C P n0 hs) (hx : hRx P n0 hs hi g) (hm : hRm P n0 hs (rm 24) u) :
    ∃ X Y, fX_send rp bs f pl bu le di wa lf ly pr g1 g2 g3 g4 g5 g6 g7 g8 g9 hi g a1 a2 = some X ∧ fM_send rm s u a1 a2 = some Y ∧ X.1 = Y.1 ∧ aF C P s rm X.2.1 X.2.2.1 X.2.2.2.1 X.2.2.2.2.1 X.2.2.2.2.2.1 X.2.2.2.2.2.2.1 X.2.2.2.2.2.2.2.1 X.2.2.2.2.2.2.2.2.1 X.2.2.2.2.2.2.2.2.2.1 X.2.2.2.2.2.2.2.2.2.2.2.2.2.2.2.2.2.2.2.1 X.2.2.2.2.2.2.2.2.2.2.2.2.2.2.2.2.2.2.2.2 Y.2.1 Y.2.2.1 Y.2.2.2 := by
  obtain ⟨hC, hP, hr, hB, hb, hf⟩ := id G
  obtain ⟨d1, d2, d3, d4, d5⟩ := id D
  have hno := aF_no (rm := rm) D hv hx hm
  unfold fX_send fM_send
  rw [p_hasPerson hP r6, zlet_e, p_isPerson hP M.1, Option.bind_some]
  by_cases h1 : p_has P a1 = true
  · rw [if_pos h1, if_pos h1, p_hasCorner hC hr, p_isCorner hC s0, Option.bind_some]
    by_cases h2 : p_has C a2 = true
    · obtain ⟨q, hq, rfl⟩ := p_has_ex (by omega) h1
      obtain ⟨c, hc, rfl⟩ := p_has_ex (by omega) h2
      obtain ⟨y1, y2, y3, y4, y5, y6, y7, y8, y9, c1, c2⟩ := x_copy (r := g1) (f0 := g2) (f1 := g3) (f2 := g4) (f3 := g5) (f4 := g6) (f5 := g7) (f6 := g8) (f7 := g9) (dV_M d4) d1
      obtain ⟨wa', lf', e1, e2, e3⟩ := x_send hC hP hr hB hb d4 c2 hq hc
      have hW : aWhyS B A q c < 4 := aWhyS_lt
      rw [if_pos h2, if_pos h2, c1, Option.bind_some, m_whySend hC hP hB M.2.1 d4 d2 hq hc, Option.bind_some]
      by_cases w : aWhyS B A q c = 0
      · have hm8 : dM A q < 8 := by have := dV_M d4 q (by omega); have := aWhyS_M w; omega
        obtain ⟨s', k1, k2, k3⟩ := m_sends (c := c) hP d4 d2 hq hm8
        obtain ⟨z1, z2, z3, z4, z5, z6, z7, z8, z9, hi', g', rm', u', t0, t1, t2, t3⟩ := a_done hP D (⟨e2 w, k2, k3, aSend_V d4 hq hc hm8, d5⟩ : dR C P (aSend q c A) y1 y2 y3 y4 y5 wa' lf' y8 y9 s s') hv hx hm
        rw [w, if_pos (show nI 0 ≤ 0 by decide), t2, Option.bind_some, k1, Option.bind_some]
        refine ⟨(0, z1, z2, z3, z4, z5, z6, z7, z8, z9, y1, y2, y3, y4, y5, wa', lf', y8, y9, hi', g'), _, ?_, rfl, rfl, t3⟩
        show (fDy_goesTo y2 y4 y6 y7 rp bs (nI q) (nI c)).bind _ = _
        rw [e1, Option.bind_some, w]
        show (fX_settleIfDone f pl bu le di wa lf ly pr y1 y2 y3 y4 y5 wa' lf' y8 y9 hi g 0).bind _ = _
        rw [t1, Option.bind_some]
      · rw [if_neg (show ¬ nI (aWhyS B A q c) ≤ 0 from nI_ge (b := aWhyS B A q c) (a := 0) (by omega) (by omega))]
        refine ⟨(nI (aWhyS B A q c), f, pl, bu, le, di, wa, lf, ly, pr, y1, y2, y3, y4, y5, wa', lf', y8, y9, hi, g), _, ?_, rfl, rfl, hno⟩
        show (fDy_goesTo y2 y4 y6 y7 rp bs (nI q) (nI c)).bind _ = _
        rw [e1, Option.bind_some]
        show (fX_settleIfDone f pl bu le di wa lf ly pr y1 y2 y3 y4 y5 wa' lf' y8 y9 hi g (nI (aWhyS B A q c))).bind _ = _
        rw [x_sid0 (fun h => w ((nI_e0 (by omega)).mp h)), Option.bind_some]
    · rw [if_neg h2, if_neg h2]
      exact ⟨_, _, rfl, rfl, rfl, hno⟩
  · rw [if_neg h1, if_neg h1]
    exact ⟨_, _, rfl, rfl, rfl, hno⟩
theorem c_drop {a1 : Int32} (G : gX C P B rp bs far) (M : gM C P B s ap) (r6 : rp 6 = nI P) (s0 : s 0 = nI C) (D : dR C P A f pl bu le di wa lf ly pr s s) (hv : qHv C P n0 hs) (hx : hRx P n0 hs hi g) (hm : hRm P n0 hs (rm 24) u) :
    ∃ X Y, fX_drop rp f pl bu le di wa lf ly pr g1 g2 g3 g4 g5 g6 g7 g8 g9 hi g a1 = some X ∧ fM_drop rm s u a1 = some Y ∧ X.1 = Y.1 ∧ aF C P s rm X.2.1 X.2.2.1 X.2.2.2.1 X.2.2.2.2.1 X.2.2.2.2.2.1 X.2.2.2.2.2.2.1 X.2.2.2.2.2.2.2.1 X.2.2.2.2.2.2.2.2.1 X.2.2.2.2.2.2.2.2.2.1 X.2.2.2.2.2.2.2.2.2.2.2.2.2.2.2.2.2.2.2.1 X.2.2.2.2.2.2.2.2.2.2.2.2.2.2.2.2.2.2.2.2 Y.2.1 Y.2.2.1 Y.2.2.2 := by
  obtain ⟨hC, hP, hr, hB, hb, hf⟩ := id G
  obtain ⟨d1, d2, d3, d4, d5⟩ := id D
  have hno := aF_no (rm := rm) D hv hx hm
  unfold fX_drop fM_drop
  rw [p_hasPerson hP r6, zlet_e, p_isPerson hP M.1, Option.bind_some]
  by_cases h1 : p_has P a1 = true
  · obtain ⟨q, hq, rfl⟩ := p_has_ex (by omega) h1
    obtain ⟨y1, y2, y3, y4, y5, y6, y7, y8, y9, c1, c2⟩ := x_copy (r := g1) (f0 := g2) (f1 := g3) (f2 := g4) (f3 := g5) (f4 := g6) (f5 := g7) (f6 := g8) (f7 := g9) (dV_M d4) d1
    obtain ⟨bu', ly', e1, e2, e3⟩ := x_drop hC hP d4 c2 hq
    have hz : zrd s 397 (127 + nI q) = some (nI (dB A q)) := by
      rw [z_127, zrd_n (by omega) (by omega)]; exact congrArg some (d2.2.2.2.1 q (by omega))
    have hb54 := dV_b d4 (q := q) (by omega)
    rw [if_pos h1, if_pos h1, c1, Option.bind_some, hz, Option.bind_some]
    by_cases w : dB A q = 0
    · have hw : aWhyD A q = 1 := by unfold aWhyD; rw [if_pos w]
      rw [if_pos ((nI_e0 (by omega)).mpr w)]
      refine ⟨(1, f, pl, bu, le, di, wa, lf, ly, pr, y1, y2, bu', y4, y5, y6, y7, ly', y9, hi, g), _, ?_, rfl, rfl, hno⟩
      show (fDy_dropsBun y2 y3 y8 (nI q)).bind _ = _
      rw [e1, Option.bind_some, hw]
      show (fX_settleIfDone f pl bu le di wa lf ly pr y1 y2 bu' y4 y5 y6 y7 ly' y9 hi g 1).bind _ = _
      rw [x_sid0 (by decide), Option.bind_some]
    · have hw : aWhyD A q = 0 := by unfold aWhyD; rw [if_neg w]
      obtain ⟨s', k1, k2, k3⟩ := m_lets hC hP d4 d2 hq w
      obtain ⟨z1, z2, z3, z4, z5, z6, z7, z8, z9, hi', g', rm', u', t0, t1, t2, t3⟩ := a_done hP D (⟨e2 hw, k2, k3, aDrop_V hC d4 hP hq w, d5⟩ : dR C P (aDrop q A) y1 y2 bu' y4 y5 y6 y7 ly' y9 s s') hv hx hm
      rw [if_neg (fun h => w ((nI_e0 (by omega)).mp h)), t2, Option.bind_some, k1, Option.bind_some]
      refine ⟨(0, z1, z2, z3, z4, z5, z6, z7, z8, z9, y1, y2, bu', y4, y5, y6, y7, ly', y9, hi', g'), _, ?_, rfl, rfl, t3⟩
      show (fDy_dropsBun y2 y3 y8 (nI q)).bind _ = _
      rw [e1, Option.bind_some, hw]
      show (fX_settleIfDone f pl bu le di wa lf ly pr y1 y2 bu' y4 y5 y6 y7 ly' y9 hi g 0).bind _ = _
      rw [t1, Option.bind_some]
  · rw [if_neg h1, if_neg h1]
    exact ⟨_, _, rfl, rfl, rfl, hno⟩
theorem c_leave {a1 : Int32} (G : gX C P B rp bs far) (M : gM C P B s ap) (r6 : rp 6 = nI P) (s0 : s 0 = nI C) (D : dR C P A f pl bu le di wa lf ly pr s s) (hv : qHv C P n0 hs) (hx : hRx P n0 hs hi g) (hm : hRm P n0 hs (rm 24) u) :
    ∃ X Y, fX_leave rp f pl bu le di wa lf ly pr g1 g2 g3 g4 g5 g6 g7 g8 g9 hi g a1 = some X ∧ fM_leave rm s u a1 = some Y ∧ X.1 = Y.1 ∧ aF C P s rm X.2.1 X.2.2.1 X.2.2.2.1 X.2.2.2.2.1 X.2.2.2.2.2.1 X.2.2.2.2.2.2.1 X.2.2.2.2.2.2.2.1 X.2.2.2.2.2.2.2.2.1 X.2.2.2.2.2.2.2.2.2.1 X.2.2.2.2.2.2.2.2.2.2.2.2.2.2.2.2.2.2.2.1 X.2.2.2.2.2.2.2.2.2.2.2.2.2.2.2.2.2.2.2.2 Y.2.1 Y.2.2.1 Y.2.2.2 := by
  obtain ⟨hC, hP, hr, hB, hb, hf⟩ := id G
  obtain ⟨d1, d2, d3, d4, d5⟩ := id D
  have hno := aF_no (rm := rm) D hv hx hm
  unfold fX_leave fM_leave
  rw [p_hasPerson hP r6, zlet_e, p_isPerson hP M.1, Option.bind_some]
  by_cases h1 : p_has P a1 = true
  · obtain ⟨q, hq, rfl⟩ := p_has_ex (by omega) h1
    obtain ⟨y1, y2, y3, y4, y5, y6, y7, y8, y9, c1, c2⟩ := x_copy (r := g1) (f0 := g2) (f1 := g3) (f2 := g4) (f3 := g5) (f4 := g6) (f5 := g7) (f6 := g8) (f7 := g9) (dV_M d4) d1
    obtain ⟨le', di', e1, e2, e3⟩ := x_leave hP d4 c2 hq
    have hz : zrd s 397 (133 + nI q) = some (nI (dA A q)) := by
      rw [z_133, zrd_n (by omega) (by omega)]; exact congrArg some (d2.2.2.2.2.1 q (by omega))
    have ha := (d4.2.1 q (by omega)).1
    rw [if_pos h1, if_pos h1, c1, Option.bind_some, hz, Option.bind_some]
    by_cases w : dA A q = 0
    · have hw : aWhyL A q = 1 := by unfold aWhyL; rw [if_pos w]
      rw [if_pos ((nI_e0 (by omega)).mpr w)]
      refine ⟨(1, f, pl, bu, le, di, wa, lf, ly, pr, y1, y2, y3, le', di', y6, y7, y8, y9, hi, g), _, ?_, rfl, rfl, hno⟩
      show (fDy_leavesOff y4 y5 (nI q)).bind _ = _
      rw [e1, Option.bind_some, hw]
      show (fX_settleIfDone f pl bu le di wa lf ly pr y1 y2 y3 le' di' y6 y7 y8 y9 hi g 1).bind _ = _
      rw [x_sid0 (by decide), Option.bind_some]
    · have hw : aWhyL A q = 0 := by unfold aWhyL; rw [if_neg w]
      obtain ⟨s', k1, k2, k3⟩ := m_parts hP d4 d2 hq
      obtain ⟨z1, z2, z3, z4, z5, z6, z7, z8, z9, hi', g', rm', u', t0, t1, t2, t3⟩ := a_done hP D (⟨e2 hw, k2, k3, aLeave_V d4, d5⟩ : dR C P (aLeave q A) y1 y2 y3 le' di' y6 y7 y8 y9 s s') hv hx hm
      rw [if_neg (fun h => w ((nI_e0 (by omega)).mp h)), t2, Option.bind_some, k1, Option.bind_some]
      refine ⟨(0, z1, z2, z3, z4, z5, z6, z7, z8, z9, y1, y2, y3, le', di', y6, y7, y8, y9, hi', g'), _, ?_, rfl, rfl, t3⟩
      show (fDy_leavesOff y4 y5 (nI q)).bind _ = _
      rw [e1, Option.bind_some, hw]
      show (fX_settleIfDone f pl bu le di wa lf ly pr y1 y2 y3 le' di' y6 y7 y8 y9 hi g 0).bind _ = _
      rw [t1, Option.bind_some]
  · rw [if_neg h1, if_neg h1]
    exact ⟨_, _, rfl, rfl, rfl, hno⟩
end ACT
