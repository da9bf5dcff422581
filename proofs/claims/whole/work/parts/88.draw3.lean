/-! ===== what all persons are drawn to do in a minute ===== -/
abbrev r7 : Type := (Nat → Int32) × (Nat → Int32) × (Nat → Int32) × (Nat → Int32) × (Nat → Int32) × (Nat → Int32) × (Nat → Int32)
theorem p_actL {C P : Nat} {A : aD} {B : Nat → Nat} {rp bs far f pl bu le di wa lf ly pr s ap rm dr : Nat → Int32} (G : gX C P B rp bs far) (M : gM C P B s ap) (r6 : rp 6 = nI P) (s0 : s 0 = nI C) (D : dR C P A f pl bu le di wa lf ly pr s s) (hd : dr 0 = rm 39) :
    ∃ (r : r7) (u : (Nat → Int32) × (Nat → Int32)), zLP (fun t : (Nat → Int32) × (Nat → Int32) × (Nat → Int32) × (Nat → Int32) × (Nat → Int32) × (Nat → Int32) × (Nat → Int32) × Int32 => fDr_passMinutes_L29 rp bs pl t.1 t.2.1 t.2.2.1 t.2.2.2.1 t.2.2.2.2.1 t.2.2.2.2.2.1 t.2.2.2.2.2.2.1 t.2.2.2.2.2.2.2) (dr, bu, le, di, wa, lf, ly, 0) = some r ∧ zLP (fun t : (Nat → Int32) × (Nat → Int32) × Int32 => fM_draws_L28 t.1 t.2.1 t.2.2) (rm, s, 0) = some u ∧
      (r.1 0 = u.1 39 ∧ (∀ j, j ≠ 39 → u.1 j = rm j) ∧ ∃ A', dR C P A' f pl r.2.1 r.2.2.1 r.2.2.2.1 r.2.2.2.2.1 r.2.2.2.2.2.1 r.2.2.2.2.2.2 pr s u.2 ∧ dMi A' = dMi A) := by
  have hP := G.2.1
  refine zLP_pair (fun k t w => t.2.2.2.2.2.2.2 = nI k ∧ w.2.2 = nI k ∧ t.1 0 = w.1 39 ∧ (∀ j, j ≠ 39 → w.1 j = rm j) ∧ ∃ A', dR C P A' f pl t.2.1 t.2.2.1 t.2.2.2.1 t.2.2.2.2.1 t.2.2.2.2.2.1 t.2.2.2.2.2.2.1 pr s w.2.1 ∧ dMi A' = dMi A) _ P ⟨rfl, rfl, hd, fun _ _ => rfl, A, D, rfl⟩ ?_ ?_
  · rintro k ⟨t1, t2, t3, t4, t5, t6, t7, t8⟩ ⟨w1, w2, w3⟩ hk ⟨e1, e2, e3, e4, A', ⟨a1, a2, a3, a4, a5⟩, e6⟩
    dsimp only at e1 e2 e3 e4 a1 a2 a3
    left
    obtain ⟨A2, dr', bu', le', di', wa', lf', ly', rm', s', x1, y1, q1, q2, ⟨b1, b2, b3, b4, b5⟩, q4⟩ := p_act G (gM_K M a3) r6 ((a3 0 (by omega)).trans s0) hk ⟨a1, a2, sK_rfl, a4, a5⟩ e3
    refine ⟨(dr', bu', le', di', wa', lf', ly', nI (k + 1)), (rm', s', nI (k + 1)), ?_, ?_, rfl, rfl, q1, fun j hj => (q2 j hj).trans (e4 j hj), A2, ⟨b1, b2, sK_trans a3 b3, b4, b5⟩, q4.trans e6⟩
    · show fDr_passMinutes_L29 rp bs pl t1 t2 t3 t4 t5 t6 t7 t8 = _
      unfold fDr_passMinutes_L29 fPl_persons
      rw [e1, r6, if_neg (nI_ge hk (by omega)), x1, Option.bind_some, zlet_e, nI_1]
    · show fM_draws_L28 w1 w2 w3 = _
      unfold fM_draws_L28
      rw [e2, (a3 2 (by omega)).trans M.1, if_neg (nI_ge hk (by omega)), y1, Option.bind_some, zlet_e, nI_1]
  · rintro ⟨t1, t2, t3, t4, t5, t6, t7, t8⟩ ⟨w1, w2, w3⟩ ⟨e1, e2, e3, e4, A', ⟨a1, a2, a3, a4, a5⟩, e6⟩
    dsimp only at e1 e2 e3 e4 a1 a2 a3
    refine ⟨(t1, t2, t3, t4, t5, t6, t7), (w1, w2), ?_, ?_, e3, e4, A', ⟨a1, a2, a3, a4, a5⟩, e6⟩
    · show fDr_passMinutes_L29 rp bs pl t1 t2 t3 t4 t5 t6 t7 t8 = _
      unfold fDr_passMinutes_L29 fPl_persons
      rw [e1, r6, if_pos (nI_le (Nat.le_refl _) (by omega))]
    · show fM_draws_L28 w1 w2 w3 = _
      unfold fM_draws_L28
      rw [e2, (a3 2 (by omega)).trans M.1, if_pos (nI_le (Nat.le_refl _) (by omega))]
