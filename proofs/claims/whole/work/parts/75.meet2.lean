/-! ===== meet, proper ===== -/
section MT
variable {C P : Nat} {B : Nat → Nat} {A : aD} {rp bs far f pl bu le di wa lf ly pr g1 g2 g3 g4 g5 g6 g7 g8 g9 co rm s ap to bf : Nat → Int32} {a1 a2 : Int32}
theorem c_meet (G : gX C P B rp bs far) (M : gM C P B s ap) (r6 : rp 6 = nI P) (D : dR C P A f pl bu le di wa lf ly pr s s) :
    ∃ X s' to' bf', fX_meet rp bs far f pl bu le di wa lf ly pr g1 g2 g3 g4 g5 g6 g7 g8 g9 co a1 a2 = some X ∧ fM_meet rm s ap to bf a1 a2 = some (X.1, zup rm 0 0, s', to', bf') ∧ sD P A s' ∧ sK s s' := by
  obtain ⟨hC, hP, hr, hB, hb, hf⟩ := id G
  obtain ⟨d1, d2, d3, d4, d5⟩ := id D
  unfold fX_meet fM_meet
  rw [p_hasPerson hP r6, p_hasPerson hP r6, zlet_e, p_isPerson hP M.1, p_isPerson hP M.1, Option.bind_some, Option.bind_some]
  by_cases h1 : p_has P a1 = true
  · rw [if_pos h1, if_pos h1]
    by_cases h2 : p_has P a2 = true
    · rw [if_pos h2, if_pos h2]
      by_cases h3 : a1 = a2
      · rw [if_pos h3, if_pos h3]
        exact ⟨_, _, _, _, rfl, rfl, d2, sK_rfl⟩
      · rw [if_neg h3, if_neg h3]
        obtain ⟨q, hq, rfl⟩ := p_has_ex (by omega) h1
        obtain ⟨p, hp, rfl⟩ := p_has_ex (by omega) h2
        obtain ⟨y1, y2, y3, y4, y5, y6, y7, y8, y9, c1, c2⟩ := x_copy (r := g1) (f0 := g2) (f1 := g3) (f2 := g4) (f3 := g5) (f4 := g6) (f5 := g7) (f6 := g8) (f7 := g9) (dV_M d4) d1
        obtain ⟨bf', b1, b2⟩ := m_tries (bf := bf) hP (dV_M d4) d2
        obtain ⟨X, x1, x2⟩ := x_meetL (far := far) hC hP hr hB hb hf d4 hq hp y1 y2 y3 y6 y7 y8 y9 100 0 y1 y2 y3 y6 y7 y8 y9 co rfl c2
        obtain ⟨⟨v1, v2, v3⟩, k1, k2, k3⟩ := m_meetL (ap := ap) hC hP M.1 hB M.2.1 M.2.2 d4 hq hp 100 0 s to rfl d2 sK_rfl
        obtain ⟨s'', e1, e2, e3⟩ := m_back (s := v1) hP (dV_M d4) b2
        dsimp only at k2 k3
        refine ⟨X, s'', v2, bf', ?_, ?_, e2, sK_trans k3 e3⟩
        · rw [c1, Option.bind_some]; exact x1
        · rw [b1, Option.bind_some]
          have k1' : zLP (fun t : (Nat → Int32) × (Nat → Int32) × Int32 × Int32 => fM_meet_L37 ap (nI q) (nI p) t.1 t.2.1 t.2.2.1 t.2.2.2) (s, to, (-1), 0) = some (v1, v2, v3) := k1
          rw [k1', Option.bind_some]
          show (fM_back v1 bf').bind _ = _
          rw [e1, Option.bind_some, x2, ← k2]
    · rw [if_neg h2, if_neg h2]
      exact ⟨_, _, _, _, rfl, rfl, d2, sK_rfl⟩
  · rw [if_neg h1, if_neg h1]
    exact ⟨_, _, _, _, rfl, rfl, d2, sK_rfl⟩
theorem c_proper (G : gX C P B rp bs far) (M : gM C P B s ap) (r6 : rp 6 = nI P) (D : dR C P A f pl bu le di wa lf ly pr s s) :
    ∃ X s' to' bf', fX_proper rp bs far f pl bu le di wa lf ly pr g1 g2 g3 g4 g5 g6 g7 g8 g9 co a1 a2 = some X ∧ fM_proper rm s ap to bf a1 a2 = some (X.1, zup rm 0 0, s', to', bf') ∧ sD P A s' ∧ sK s s' := by
  obtain ⟨hC, hP, hr, hB, hb, hf⟩ := id G
  obtain ⟨d1, d2, d3, d4, d5⟩ := id D
  unfold fX_proper fM_proper
  rw [p_hasPerson hP r6, p_hasPerson hP r6, zlet_e, p_isPerson hP M.1, p_isPerson hP M.1, Option.bind_some, Option.bind_some]
  by_cases h1 : p_has P a1 = true
  · rw [if_pos h1, if_pos h1]
    by_cases h2 : p_has P a2 = true
    · rw [if_pos h2, if_pos h2]
      by_cases h3 : a1 = a2
      · rw [if_pos h3, if_pos h3]
        exact ⟨_, _, _, _, rfl, rfl, d2, sK_rfl⟩
      · rw [if_neg h3, if_neg h3]
        obtain ⟨q, hq, rfl⟩ := p_has_ex (by omega) h1
        obtain ⟨p, hp, rfl⟩ := p_has_ex (by omega) h2
        obtain ⟨bf', b1, b2⟩ := m_tries (bf := bf) hP (dV_M d4) d2
        obtain ⟨X, x1, x2⟩ := x_properL (far := far) hC hP hr hB hb hf d4 d1 hq hp 5 1 g1 g2 g3 g4 g5 g6 g7 g8 g9 co rfl (by omega)
        obtain ⟨⟨v1, v2, v3⟩, k1, k2, k3, k4⟩ := m_properL (ap := ap) (bf := bf') hC hP M.1 hB M.2.1 M.2.2 d4 b2 hq hp 5 s to (by omega) d2 sK_rfl
        dsimp only at k2 k3 k4
        refine ⟨X, v1, v2, bf', x1, ?_, k3, k4⟩
        rw [b1, Option.bind_some]
        have k1' : zLP (fun t : (Nat → Int32) × (Nat → Int32) × Int32 × Int32 => fM_proper_L37 ap (nI q) (nI p) bf' t.1 t.2.1 t.2.2.1 t.2.2.2) (s, to, (-1), 5) = some (v1, v2, v3) := k1
        rw [k1', Option.bind_some, x2, ← k2]
    · rw [if_neg h2, if_neg h2]
      exact ⟨_, _, _, _, rfl, rfl, d2, sK_rfl⟩
  · rw [if_neg h1, if_neg h1]
    exact ⟨_, _, _, _, rfl, rfl, d2, sK_rfl⟩
end MT
