/-! ===== what a person is drawn to do ===== -/
theorem p_act {C P q : Nat} {A : aD} {B : Nat → Nat} {rp bs far f pl bu le di wa lf ly pr s ap rm dr : Nat → Int32} (G : gX C P B rp bs far) (M : gM C P B s ap) (r6 : rp 6 = nI P) (s0 : s 0 = nI C) (hq : q < P) (D : dR C P A f pl bu le di wa lf ly pr s s) (hd : dr 0 = rm 39) :
    ∃ A' dr' bu' le' di' wa' lf' ly' rm' s', fDr_act dr rp bs pl bu le di wa lf ly (nI q) = some (dr', bu', le', di', wa', lf', ly') ∧ fM_drawPerson rm s (nI q) = some (rm', s') ∧ dr' 0 = rm' 39 ∧ (∀ j, j ≠ 39 → rm' j = rm j) ∧ dR C P A' f pl bu' le' di' wa' lf' ly' pr s s' ∧ dMi A' = dMi A := by
  obtain ⟨hC, hP, hr, hB, hb, hf⟩ := id G
  obtain ⟨d1, d2, d3, d4, d5⟩ := id D
  have hw := d4.1 q 0 hq (by omega)
  obtain ⟨k, z, k8, x1, y1⟩ := p_draw (c := 8) hd (by omega) (by omega)
  have x1' : fDr_draw dr 8 = some (nI k, zup dr 0 z) := x1
  have y1' : fM_draw rm 8 = some (nI k, zup rm 39 z) := y1
  have hz : zup dr 0 z 0 = zup rm 39 z 39 := by rw [zup_s, zup_s]
  have hfr : ∀ j, j ≠ 39 → zup rm 39 z j = rm j := fun j hj => zup_n hj
  unfold fDr_act fM_drawPerson fPl_persons fPl_corners
  rw [x1', y1', Option.bind_some, Option.bind_some, zlet_e, r6, hr, M.1, s0]
  dsimp only
  by_cases e0 : k = 0
  · obtain ⟨c, z2, c1, x2, y2⟩ := p_draw (c := P) hz (by omega) (by omega)
    have hz2 : zup (zup dr 0 z) 0 z2 0 = zup (zup rm 39 z) 39 z2 39 := by rw [zup_s, zup_s]
    obtain ⟨m, z3, c2, x3, y3⟩ := p_draw (c := 5) hz2 (by omega) (by omega)
    have x3' : fDr_draw (zup (zup dr 0 z) 0 z2) 5 = _ := x3
    have y3' : fM_draw (zup (zup rm 39 z) 39 z2) 5 = _ := y3
    have hz3 : zup (zup (zup dr 0 z) 0 z2) 0 z3 0 = zup (zup (zup rm 39 z) 39 z2) 39 z3 39 := by rw [zup_s, zup_s]
    have hfr3 : ∀ j, j ≠ 39 → zup (zup (zup rm 39 z) 39 z2) 39 z3 j = rm j := fun j hj => by rw [zup_n hj, zup_n hj, zup_n hj]
    rw [if_pos ((nI_e0 (by omega)).mpr e0), if_pos ((nI_e0 (by omega)).mpr e0), x2, y2, Option.bind_some, Option.bind_some, zlet_e, zlet_e]
    dsimp only
    rw [x3', y3', Option.bind_some, Option.bind_some, zlet_e, zlet_e]
    dsimp only
    rw [nI_1]
    by_cases eq : c = q
    · rw [if_pos (by rw [eq]), if_pos (by rw [eq])]
      exact ⟨A, _, _, _, _, _, _, _, _, _, rfl, rfl, hz3, hfr3, D, rfl⟩
    · rw [if_neg (fun h => eq ((nI_eq (by omega) (by omega)).mp h.symm)), if_neg (fun h => eq ((nI_eq (by omega) (by omega)).mp h)), m_whyHire hP d4 d2 c1, Option.bind_some]
      obtain ⟨le', di', lf', g1, g2, g3⟩ := x_hire (n := m + 1) hP d4 d1 hq c1
      have hW : aWhyH A c < 4 := aWhyH_lt
      rw [g1, Option.bind_some]
      by_cases w : aWhyH A c = 0
      · obtain ⟨s', t1, t2, t3⟩ := m_binds (n := m + 1) hP d4 d2 hq c1
        rw [if_pos ((nI_e0 (by omega)).mpr w), t1, Option.bind_some]
        exact ⟨aHire q c (m + 1) A, _, _, _, _, _, _, _, _, _, rfl, rfl, hz3, hfr3, ⟨g2 w, t2, t3, aHire_V d4 hq c1 (by omega) (by omega), d5⟩, rfl⟩
      · obtain ⟨rfl, rfl, rfl⟩ := g3 w
        rw [if_neg (fun h => w ((nI_e0 (by omega)).mp h))]
        exact ⟨A, _, _, _, _, _, _, _, _, _, rfl, rfl, hz3, hfr3, D, rfl⟩
  · rw [if_neg (fun h => e0 ((nI_e0 (by omega)).mp h)), if_neg (fun h => e0 ((nI_e0 (by omega)).mp h))]
    by_cases e1 : k = 1
    · obtain ⟨le', di', g1, g2, g3⟩ := x_leave hP d4 d1 hq
      have ha := (d4.2.1 q (by omega)).1
      rw [if_pos ((nI_k1 (by omega)).mpr e1), if_pos ((nI_k1 (by omega)).mpr e1), g1, Option.bind_some, z_133, zrd_n (by omega) (by omega), d2.2.2.2.2.1 q (by omega), Option.bind_some]
      by_cases w : dA A q = 0
      · obtain ⟨rfl, rfl⟩ := g3 (by unfold aWhyL; rw [if_pos w]; omega)
        rw [if_pos (show nI (dA A q) ≤ 0 by rw [w]; decide)]
        exact ⟨A, _, _, _, _, _, _, _, _, _, rfl, rfl, hz, hfr, D, rfl⟩
      · obtain ⟨s', t1, t2, t3⟩ := m_parts hP d4 d2 hq
        rw [if_neg (show ¬ nI (dA A q) ≤ 0 from nI_ge (b := dA A q) (a := 0) (by omega) (by omega)), t1, Option.bind_some]
        exact ⟨aLeave q A, _, _, _, _, _, _, _, _, _, rfl, rfl, hz, hfr, ⟨g2 (by unfold aWhyL; rw [if_neg w]), t2, t3, aLeave_V d4, d5⟩, rfl⟩
    · rw [if_neg (fun h => e1 ((nI_k1 (by omega)).mp h)), if_neg (fun h => e1 ((nI_k1 (by omega)).mp h))]
      by_cases e5 : 5 ≤ k
      · rw [if_pos (show (5 : Int32) ≤ nI k from nI_le (a := 5) e5 (by omega)), if_neg (show ¬ nI k = 2 from fun h => by have := (nI_k2 (by omega)).mp h; omega), if_neg (show ¬ nI k = 3 from fun h => by have := (nI_k3 (by omega)).mp h; omega), if_neg (show ¬ nI k = 4 from fun h => by have := (nI_k4 (by omega)).mp h; omega)]
        by_cases ee : k = 5
        · obtain ⟨bu', ly', g1, g2, g3⟩ := x_drop hC hP d4 d1 hq
          have hb54 := dV_b d4 (q := q) (by omega)
          rw [if_pos ((nI_k5 (by omega)).mpr ee), if_pos ((nI_k5 (by omega)).mpr ee), g1, Option.bind_some, z_127, zrd_n (by omega) (by omega), d2.2.2.2.1 q (by omega), Option.bind_some]
          by_cases w : dB A q = 0
          · obtain ⟨rfl, rfl⟩ := g3 (by unfold aWhyD; rw [if_pos w]; omega)
            rw [if_pos (show nI (dB A q) ≤ 0 by rw [w]; decide)]
            exact ⟨A, _, _, _, _, _, _, _, _, _, rfl, rfl, hz, hfr, D, rfl⟩
          · obtain ⟨s', t1, t2, t3⟩ := m_lets hC hP d4 d2 hq w
            rw [if_neg (show ¬ nI (dB A q) ≤ 0 from nI_ge (b := dB A q) (a := 0) (by omega) (by omega)), t1, Option.bind_some]
            exact ⟨aDrop q A, _, _, _, _, _, _, _, _, _, rfl, rfl, hz, hfr, ⟨g2 (by unfold aWhyD; rw [if_neg w]), t2, t3, aDrop_V hC d4 hP hq w, d5⟩, rfl⟩
        · rw [if_neg (fun h => ee ((nI_k5 (by omega)).mp h)), if_neg (fun h => ee ((nI_k5 (by omega)).mp h))]
          exact ⟨A, _, _, _, _, _, _, _, _, _, rfl, rfl, hz, hfr, D, rfl⟩
      · obtain ⟨c, z2, c1, x2, y2⟩ := p_draw (c := C) hz (by omega) (by omega)
        have hz2 : zup (zup dr 0 z) 0 z2 0 = zup (zup rm 39 z) 39 z2 39 := by rw [zup_s, zup_s]
        have hfr2 : ∀ j, j ≠ 39 → zup (zup rm 39 z) 39 z2 j = rm j := fun j hj => by rw [zup_n hj, zup_n hj]
        obtain ⟨wa', lf', g1, g2, g3⟩ := x_send hC hP hr hB hb d4 d1 hq c1
        have hW : aWhyS B A q c < 4 := aWhyS_lt
        have hx : ∀ α : Type, ∀ t u : α, (if nI k = 2 then t else if nI k = 3 then t else if nI k = 4 then t else u) = t := fun α t u => by
          have : k = 2 ∨ k = 3 ∨ k = 4 := by omega
          rcases this with rfl | rfl | rfl <;> rfl
        rw [hx, if_neg (show ¬ (5 : Int32) ≤ nI k from nI_ge (b := 5) (by omega) (by omega)), x2, y2, Option.bind_some, Option.bind_some, zlet_e]
        dsimp only
        rw [g1, Option.bind_some, m_whySend hC hP hB M.2.1 d4 d2 hq c1, Option.bind_some]
        by_cases w : aWhyS B A q c = 0
        · have hm8 : dM A q < 8 := by have := dV_M d4 q (by omega); have := aWhyS_M w; omega
          obtain ⟨s', t1, t2, t3⟩ := m_sends (c := c) hP d4 d2 hq hm8
          rw [if_pos ((nI_e0 (by omega)).mpr w), t1, Option.bind_some]
          exact ⟨aSend q c A, _, _, _, _, _, _, _, _, _, rfl, rfl, hz2, hfr2, ⟨g2 w, t2, t3, aSend_V d4 hq c1 hm8, d5⟩, rfl⟩
        · obtain ⟨rfl, rfl⟩ := g3 w
          rw [if_neg (fun h => w ((nI_e0 (by omega)).mp h))]
          exact ⟨A, _, _, _, _, _, _, _, _, _, rfl, rfl, hz2, hfr2, D, rfl⟩
