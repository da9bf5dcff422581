/-! ===== a line done ===== -/
theorem z_doA : ∀ a, a < 4 → ∀ W, W < 4 → (if nI W ≤ 0 then (0 : Int32) else 10 * nI a + nI W) = nI (if W = 0 then 0 else 10 * a + W) := by decide
theorem z_shB : ∀ a, a < 4 → ∀ W, W < 4 → fBk_shifted (nI W) (nI (10 * a)) = nI (if W = 0 then 0 else 10 * a + W) := by decide
theorem aWhyS_lt {B : Nat → Nat} {A : aD} {q c : Nat} : aWhyS B A q c < 4 := by
  unfold aWhyS
  split
  · split
    · omega
    · split <;> omega
  · omega
theorem aWhyH_lt {A : aD} {q : Nat} : aWhyH A q < 4 := by
  unfold aWhyH
  split
  · split <;> omega
  · omega
theorem aWhyS_M {B : Nat → Nat} {A : aD} {q c : Nat} (h : aWhyS B A q c = 0) : dM A q ≠ 8 := fun e => by
  unfold aWhyS at h
  by_cases e0 : dA A q = 0
  · rw [if_pos e0, if_pos e] at h; omega
  · rw [if_neg e0] at h; omega
section DO
variable {C P : Nat} {A : aD} {B : Nat → Nat} {rp bs far s ap to ac at_ ot nu f pl bu le di wa lf ly pr co : Nat → Int32} {v1 v2 v3 v4 : Int32} {j : Nat}
def dR (C P : Nat) (A : aD) (f pl bu le di wa lf ly pr s0 s : Nat → Int32) : Prop := dX P A f pl bu le di wa lf ly pr ∧ sD P A s ∧ sK s0 s ∧ dV C P A ∧ dMi A ≤ 400
theorem b_do {c : aB} (G : gX C P B rp bs far) (M : gM C P B s ap) (D : dR C P A f pl bu le di wa lf ly pr s s) (hj : j < 40) (hO : bOK C P c) (hX : bX c (ac j) (at_ j) (ot j) (nu j)) (hM : bM c v1 v2 v3 v4) :
    ∃ T A' f' pl' bu' le' di' wa' lf' ly' pr' co' s' to', T < 50 ∧ (T ≠ 0 → A' = A) ∧ fBk_doLine ac at_ ot nu rp bs far f pl bu le di wa lf ly pr co (nI j) = some (nI T, f', pl', bu', le', di', wa', lf', ly', pr', co') ∧ fM_does s ap to v1 v2 v3 v4 = some (nI T, s', to') ∧ dR C P A' f' pl' bu' le' di' wa' lf' ly' pr' s s' := by
  obtain ⟨hC, hP, hr, hB, hb, hf⟩ := id G
  obtain ⟨d1, d2, d3, d4, d5⟩ := D
  obtain ⟨c0, q, d, e⟩ := c
  obtain ⟨o1, o2, o3, o4, o5⟩ := hO
  obtain ⟨x1, x2, x3, x4, x5⟩ := hX
  obtain ⟨m1, m2, m3, m4⟩ := hM
  dsimp only at o1 o2 o3 o4 o5 x1 x2 x3 x4 x5 m1 m2 m3 m4
  have h5 : c0 = 0 ∨ c0 = 1 ∨ c0 = 2 ∨ c0 = 3 ∨ c0 = 4 := by omega
  rcases h5 with rfl | rfl | rfl | rfl | rfl
  · -- goes
    have hq := o2 (by omega)
    have hd := o3 rfl
    have a2 := x2 (by omega)
    have a3 := x3 (Or.inl rfl)
    have b3 := m3 (Or.inl rfl)
    subst m1 m2 b3
    have hW : aWhyS B A q d < 4 := aWhyS_lt
    obtain ⟨wa', lf', e1, e2, e3⟩ := x_send hC hP hr hB hb d4 d1 hq hd
    have hx : fBk_doLine ac at_ ot nu rp bs far f pl bu le di wa lf ly pr co (nI j) = some (nI (aWhyS B A q d), f, pl, bu, le, di, wa', lf', ly, pr, co) := by
      unfold fBk_doLine
      rw [zrd_n hj (by omega), Option.bind_some, if_pos (show ac j = 5 from x1), zrd_n hj (by omega), Option.bind_some, zrd_n hj (by omega), Option.bind_some, a2, a3, e1, Option.bind_some]
    by_cases w : aWhyS B A q d = 0
    · have hm8 : dM A q < 8 := by have := dV_M d4 q (by omega); have := aWhyS_M w; omega
      obtain ⟨s', g1, g2, g3⟩ := m_sends (c := d) hP d4 d2 hq hm8
      have hm : fM_does s ap to (nI 0) (nI q) (nI d) v4 = some (nI (aWhyS B A q d), s', to) := by
        unfold fM_does
        rw [if_pos (show nI 0 = 0 from rfl), m_whySend hC hP hB M.2.1 d4 d2 hq hd, Option.bind_some, w, if_pos (show nI 0 = 0 from rfl), g1]; rfl
      exact ⟨_, aSend q d A, _, _, _, _, _, _, _, _, _, _, s', to, by omega, fun h => absurd w h, hx, hm, e2 w, g2, g3, aSend_V d4 hq hd hm8, d5⟩
    · have hm : fM_does s ap to (nI 0) (nI q) (nI d) v4 = some (nI (aWhyS B A q d), s, to) := by
        unfold fM_does
        rw [if_pos (show nI 0 = 0 from rfl), m_whySend hC hP hB M.2.1 d4 d2 hq hd, Option.bind_some, if_neg (fun h => w ((nI_e0 (by omega)).mp h)), z_doA 0 (by omega) _ hW, if_neg w, show 10 * 0 + aWhyS B A q d = aWhyS B A q d by omega]
      obtain ⟨rfl, rfl⟩ := e3 w
      exact ⟨_, A, _, _, _, _, _, _, _, _, _, _, s, to, by omega, fun _ => rfl, hx, hm, d1, d2, d3, d4, d5⟩
  · -- drops
    have hq := o2 (by omega)
    have a2 := x2 (by omega)
    subst m1 m2
    obtain ⟨bu', ly', e1, e2, e3⟩ := x_drop hC hP d4 d1 hq
    have hx : fBk_doLine ac at_ ot nu rp bs far f pl bu le di wa lf ly pr co (nI j) = some (fBk_shifted (nI (aWhyD A q)) 10, f, pl, bu', le, di, wa, lf, ly', pr, co) := by
      unfold fBk_doLine
      rw [zrd_n hj (by omega), Option.bind_some, if_neg (show ¬ ac j = 5 by rw [x1]; decide), if_pos (show ac j = 6 from x1), zrd_n hj (by omega), Option.bind_some, a2, e1, Option.bind_some]
    have hz : zrd s 397 (127 + nI q) = some (nI (dB A q)) := by
      rw [z_127, zrd_n (by omega) (by omega)]; exact congrArg some (d2.2.2.2.1 q (by omega))
    have hb54 := dV_b d4 (q := q) (by omega)
    by_cases w : dB A q = 0
    · have hw : aWhyD A q = 1 := by unfold aWhyD; rw [if_pos w]
      rw [hw] at hx e3
      have hm : fM_does s ap to (nI 1) (nI q) v3 v4 = some (nI 11, s, to) := by
        unfold fM_does
        rw [if_neg (show ¬ nI 1 = 0 by decide), if_pos (show nI 1 = 1 from rfl), hz, Option.bind_some, if_pos ((nI_e0 (by omega)).mpr w), if_pos rfl]; rfl
      obtain ⟨rfl, rfl⟩ := e3 (by omega)
      exact ⟨11, A, _, _, _, _, _, _, _, _, _, _, s, to, by omega, fun _ => rfl, hx, hm, d1, d2, d3, d4, d5⟩
    · have hw : aWhyD A q = 0 := by unfold aWhyD; rw [if_neg w]
      rw [hw] at hx
      obtain ⟨s', g1, g2, g3⟩ := m_lets hC hP d4 d2 hq w
      have hm : fM_does s ap to (nI 1) (nI q) v3 v4 = some (nI 0, s', to) := by
        unfold fM_does
        rw [if_neg (show ¬ nI 1 = 0 by decide), if_pos (show nI 1 = 1 from rfl), hz, Option.bind_some, if_neg (fun h => w ((nI_e0 (by omega)).mp h)), if_neg (by decide), g1]; rfl
      exact ⟨0, aDrop q A, _, _, _, _, _, _, _, _, _, _, s', to, by omega, fun h => absurd rfl h, hx, hm, e2 hw, g2, g3, aDrop_V hC d4 hP hq w, d5⟩
  · -- leaves
    have hq := o2 (by omega)
    have a2 := x2 (by omega)
    subst m1 m2
    obtain ⟨le', di', e1, e2, e3⟩ := x_leave hP d4 d1 hq
    have hx : fBk_doLine ac at_ ot nu rp bs far f pl bu le di wa lf ly pr co (nI j) = some (fBk_shifted (nI (aWhyL A q)) 20, f, pl, bu, le', di', wa, lf, ly, pr, co) := by
      unfold fBk_doLine
      rw [zrd_n hj (by omega), Option.bind_some, if_neg (show ¬ ac j = 5 by rw [x1]; decide), if_neg (show ¬ ac j = 6 by rw [x1]; decide), if_pos (show ac j = 7 from x1), zrd_n hj (by omega), Option.bind_some, a2, e1, Option.bind_some]
    have hz : zrd s 397 (133 + nI q) = some (nI (dA A q)) := by
      rw [z_133, zrd_n (by omega) (by omega)]; exact congrArg some (d2.2.2.2.2.1 q (by omega))
    have ha := (d4.2.1 q (by omega)).1
    obtain ⟨s', g1, g2, g3⟩ := m_parts hP d4 d2 hq
    by_cases w : dA A q = 0
    · have hw : aWhyL A q = 1 := by unfold aWhyL; rw [if_pos w]
      rw [hw] at hx e3
      have hm : fM_does s ap to (nI 2) (nI q) v3 v4 = some (nI 21, s', to) := by
        unfold fM_does
        rw [if_neg (show ¬ nI 2 = 0 by decide), if_neg (show ¬ nI 2 = 1 by decide), if_pos (show nI 2 = 2 from rfl), hz, Option.bind_some, g1, Option.bind_some, if_pos ((nI_e0 (by omega)).mpr w)]; rfl
      obtain ⟨rfl, rfl⟩ := e3 (by omega)
      exact ⟨21, A, _, _, _, _, _, _, _, _, _, _, s', to, by omega, fun _ => rfl, hx, hm, d1, sD_noL w g2, g3, d4, d5⟩
    · have hw : aWhyL A q = 0 := by unfold aWhyL; rw [if_neg w]
      rw [hw] at hx
      have hm : fM_does s ap to (nI 2) (nI q) v3 v4 = some (nI 0, s', to) := by
        unfold fM_does
        rw [if_neg (show ¬ nI 2 = 0 by decide), if_neg (show ¬ nI 2 = 1 by decide), if_pos (show nI 2 = 2 from rfl), hz, Option.bind_some, g1, Option.bind_some, if_neg (fun h => w ((nI_e0 (by omega)).mp h))]; rfl
      exact ⟨0, aLeave q A, _, _, _, _, _, _, _, _, _, _, s', to, by omega, fun h => absurd rfl h, hx, hm, e2 hw, g2, g3, aLeave_V d4, d5⟩
  · -- hires
    have hq := o2 (by omega)
    obtain ⟨hd, h1, h5'⟩ := o4 rfl
    have a2 := x2 (by omega)
    have a3 := x3 (Or.inr rfl)
    have a4 := x4 rfl
    have b3 := m3 (Or.inr rfl)
    have b4 := m4 rfl
    subst m1 m2 b3 b4
    have hW : aWhyH A d < 4 := aWhyH_lt
    obtain ⟨le', di', lf', e1, e2, e3⟩ := x_hire (n := e) hP d4 d1 hq hd
    have hx : fBk_doLine ac at_ ot nu rp bs far f pl bu le di wa lf ly pr co (nI j) = some (nI (if aWhyH A d = 0 then 0 else 10 * 3 + aWhyH A d), f, pl, bu, le', di', wa, lf', ly, pr, co) := by
      unfold fBk_doLine
      rw [zrd_n hj (by omega), Option.bind_some, if_neg (show ¬ ac j = 5 by rw [x1]; decide), if_neg (show ¬ ac j = 6 by rw [x1]; decide), if_neg (show ¬ ac j = 7 by rw [x1]; decide), if_pos (show ac j = 8 from x1), zrd_n hj (by omega), Option.bind_some, zrd_n hj (by omega), Option.bind_some, zrd_n hj (by omega), Option.bind_some, a2, a3, a4, e1, Option.bind_some]
      rw [← z_shB 3 (by omega) _ hW]; rfl
    by_cases w : aWhyH A d = 0
    · obtain ⟨s', g1, g2, g3⟩ := m_binds (n := e) hP d4 d2 hq hd
      have hm : fM_does s ap to (nI 3) (nI q) (nI d) (nI e) = some (nI (if aWhyH A d = 0 then 0 else 10 * 3 + aWhyH A d), s', to) := by
        unfold fM_does
        rw [if_neg (show ¬ nI 3 = 0 by decide), if_neg (show ¬ nI 3 = 1 by decide), if_neg (show ¬ nI 3 = 2 by decide), if_pos (show nI 3 = 3 from rfl), m_whyHire hP d4 d2 hd, Option.bind_some, w, if_pos (show nI 0 = 0 from rfl), g1]; rfl
      exact ⟨_, aHire q d e A, _, _, _, _, _, _, _, _, _, _, s', to, by rw [w]; decide, fun h => absurd (if_pos w) h, hx, hm, e2 w, g2, g3, aHire_V d4 hq hd h1 h5', d5⟩
    · have hm : fM_does s ap to (nI 3) (nI q) (nI d) (nI e) = some (nI (if aWhyH A d = 0 then 0 else 10 * 3 + aWhyH A d), s, to) := by
        unfold fM_does
        rw [if_neg (show ¬ nI 3 = 0 by decide), if_neg (show ¬ nI 3 = 1 by decide), if_neg (show ¬ nI 3 = 2 by decide), if_pos (show nI 3 = 3 from rfl), m_whyHire hP d4 d2 hd, Option.bind_some, if_neg (fun h => w ((nI_e0 (by omega)).mp h)), z_doA 3 (by omega) _ hW]
      obtain ⟨rfl, rfl, rfl⟩ := e3 w
      exact ⟨_, A, _, _, _, _, _, _, _, _, _, _, s, to, by rw [if_neg w]; omega, fun _ => rfl, hx, hm, d1, d2, d3, d4, d5⟩
  · -- minutes
    obtain ⟨h1, h60⟩ := o5 rfl
    have a2 := x5 rfl
    subst m1 m2
    have hl : fDy_minutesLeft f = nI (400 - dMi A) := by
      unfold fDy_minutesLeft
      rw [d1.1]; exact nI_sub (a := 400) d5
    have hsm : s 89 + nI q = nI (dMi A + q) := by rw [d2.1, nI_add]
    by_cases w : dMi A + q ≤ 400
    · obtain ⟨f', pl', bu', wa', lf', ly', pr', co', e1, e2⟩ := x_pass (co := co) hC hP hr hB hb hf d4 d1 (n := q) (by omega)
      obtain ⟨s', to', g1, g2, g3⟩ := m_goesOn (to := to) G M d4 d2 d5 h60
      rw [show min q (400 - dMi A) = q by omega] at g1 g2
      have hx : fBk_doLine ac at_ ot nu rp bs far f pl bu le di wa lf ly pr co (nI j) = some (nI 0, f', pl', bu', le, di, wa', lf', ly', pr', co') := by
        unfold fBk_doLine
        rw [zrd_n hj (by omega), Option.bind_some, if_neg (show ¬ ac j = 5 by rw [x1]; decide), if_neg (show ¬ ac j = 6 by rw [x1]; decide), if_neg (show ¬ ac j = 7 by rw [x1]; decide), if_neg (show ¬ ac j = 8 by rw [x1]; decide), zrd_n hj (by omega), Option.bind_some, hl, a2, if_pos (show nI q ≤ nI (400 - dMi A) from nI_le (by omega) (by omega)), Option.bind_some, e1]; rfl
      have hm : fM_does s ap to (nI 4) (nI q) v3 v4 = some (nI 0, s', to') := by
        unfold fM_does
        rw [if_neg (show ¬ nI 4 = 0 by decide), if_neg (show ¬ nI 4 = 1 by decide), if_neg (show ¬ nI 4 = 2 by decide), if_neg (show ¬ nI 4 = 3 by decide), hsm, if_pos (show nI (dMi A + q) ≤ 400 from nI_le (b := 400) w (by omega)), if_neg (by decide), g1]; rfl
      exact ⟨0, aMinN B P q A, _, _, _, _, _, _, _, _, _, _, s', to', by omega, fun h => absurd rfl h, hx, hm, e2, g2, g3, aMinN_V hC hB hP d4 q, by rw [aMinN_Mi]; exact w⟩
    · have hx : fBk_doLine ac at_ ot nu rp bs far f pl bu le di wa lf ly pr co (nI j) = some (nI 41, f, pl, bu, le, di, wa, lf, ly, pr, co) := by
        unfold fBk_doLine
        rw [zrd_n hj (by omega), Option.bind_some, if_neg (show ¬ ac j = 5 by rw [x1]; decide), if_neg (show ¬ ac j = 6 by rw [x1]; decide), if_neg (show ¬ ac j = 7 by rw [x1]; decide), if_neg (show ¬ ac j = 8 by rw [x1]; decide), zrd_n hj (by omega), Option.bind_some, hl, a2, if_neg (show ¬ nI q ≤ nI (400 - dMi A) from nI_ge (by omega) (by omega))]; rfl
      have hm : fM_does s ap to (nI 4) (nI q) v3 v4 = some (nI 41, s, to) := by
        unfold fM_does
        rw [if_neg (show ¬ nI 4 = 0 by decide), if_neg (show ¬ nI 4 = 1 by decide), if_neg (show ¬ nI 4 = 2 by decide), if_neg (show ¬ nI 4 = 3 by decide), hsm, if_neg (show ¬ nI (dMi A + q) ≤ 400 from nI_ge (b := dMi A + q) (a := 400) (by omega) (by omega)), if_pos rfl]; rfl
      exact ⟨41, A, _, _, _, _, _, _, _, _, _, _, s, to, by omega, fun _ => rfl, hx, hm, d1, d2, d3, d4, d5⟩
end DO
