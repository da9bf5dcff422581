/-! ===== person: an answer, or a throw ===== -/
theorem z_throw0 {rm : Nat → Int32} : fM_throwsIf rm (zb false) = some (false, zup rm 0 0) := by
  unfold fM_throwsIf
  rw [zlet_e, show zb false = 0 from rfl, if_pos (Or.inl rfl), if_pos rfl]; rfl
theorem z_throw1 {rm : Nat → Int32} : fM_throwsIf rm (zb true) = some (true, zup rm 0 1) := by
  unfold fM_throwsIf
  rw [zlet_e, show zb true = 1 from rfl, if_pos (Or.inr rfl), if_neg (by decide)]; rfl
theorem c_person {C P : Nat} {A : aD} {rp f pl bu le di wa lf ly pr s rm : Nat → Int32} {a1 a2 : Int32} (hP : P ≤ 6) (r6 : rp 6 = nI P) (s2 : s 2 = nI P) (hV : dV C P A) (hx : dX P A f pl bu le di wa lf ly pr) (h : sD P A s) :
    (∃ v, fX_person rp pl bu le di lf a1 a2 = some v ∧ fM_person rm s a1 a2 = some (v, zup rm 0 0)) ∨ ((fPl_hasPerson rp a1 = true → ¬ a2 < 0 → a2 ≤ 6 → False) ∧ fM_person rm s a1 a2 = some (0, zup rm 0 1)) := by
  obtain ⟨x1, x2, x3, x4, x5, x6, x7, x8, x9, x10⟩ := hx
  unfold fX_person fM_person
  rw [p_hasPerson hP r6, p_isPerson hP s2, Option.bind_some]
  by_cases h1 : p_has P a1 = true
  · rw [if_pos h1, if_pos h1]
    unfold fM_isIn
    by_cases h2 : a2 < 0
    · right
      refine ⟨fun _ g _ => g h2, ?_⟩
      rw [if_pos h2, if_neg (show ¬ false = true by decide), z_throw1, Option.bind_some, if_pos rfl]
    · by_cases h3 : 6 < a2
      · right
        refine ⟨fun _ _ g => absurd g (Int32.not_le.mpr h3), ?_⟩
        rw [if_neg h2, if_pos h3, if_neg (show ¬ false = true by decide), z_throw1, Option.bind_some, if_pos rfl]
      · left
        obtain ⟨q, hq, rfl⟩ := p_has_ex (by omega) h1
        have hA := dV_A hV hP
        have hal := hA q (by omega)
        rw [if_neg h2, if_neg h2, if_neg h3, if_pos (show a2 ≤ 6 from Int32.not_lt.mp h3), if_pos rfl, z_throw0, Option.bind_some, if_neg (show ¬ (false, zup rm 0 0).1 = true from (by decide : ¬ false = true)), x_place x3 hP hq, m_wasQ h hP hq, x_bun (by omega), x4 q (by omega), z_127, zrd_n (by omega) (by omega), h.2.2.2.1 q (by omega), x_fol (by omega), x5 q (by omega), m_whom h (by omega), x_min (by omega), x6 q (by omega), z_133, zrd_n (by omega) (by omega), h.2.2.2.2.1 q (by omega), x_way (by omega), x8 q (by omega), z_145, zrd_n (by omega) (by omega), h.2.2.2.2.2.2.2.1 q (by omega), x_folOf x5 (by omega) hA, m_folOf h hV hP s2 (by omega)]
        by_cases e0 : a2 = 0
        · rw [if_pos e0, if_pos e0]; exact ⟨_, rfl, rfl⟩
        rw [if_neg e0, if_neg e0]
        by_cases e1 : a2 = 1
        · rw [if_pos e1, if_pos e1]; exact ⟨_, rfl, rfl⟩
        rw [if_neg e1, if_neg e1]
        by_cases e2 : a2 = 2
        · rw [if_pos e2, if_pos e2]; exact ⟨_, rfl, rfl⟩
        rw [if_neg e2, if_neg e2]
        by_cases e3 : a2 = 3
        · rw [if_pos e3, if_pos e3, Option.bind_some, Option.bind_some]
          by_cases w : dA A q = 0
          · rw [if_pos w, if_pos (show nI (dA A q) ≤ 0 by rw [w]; decide)]; exact ⟨_, rfl, rfl⟩
          · rw [if_neg w, if_neg (show ¬ nI (dA A q) ≤ 0 from nI_ge (b := dA A q) (a := 0) (by omega) (by omega)), show (139 : Int32) + nI q = nI (139 + q) from nI_add 139 q, zrd_n (by omega) (by omega), h.2.2.2.2.2.1 q (by omega) w]; exact ⟨_, rfl, rfl⟩
        rw [if_neg e3, if_neg e3]
        by_cases e4 : a2 = 4
        · rw [if_pos e4, if_pos e4]; exact ⟨_, rfl, rfl⟩
        rw [if_neg e4, if_neg e4]
        by_cases e5 : a2 = 5
        · rw [if_pos e5, if_pos e5]; exact ⟨_, rfl, rfl⟩
        rw [if_neg e5, if_neg e5]
        obtain ⟨v, v1, v2⟩ := p_last x5 h hV hP (p := q) (by omega)
        rw [v1, v2]; exact ⟨_, rfl, rfl⟩
  · right
    refine ⟨fun g => absurd g h1, ?_⟩
    rw [if_neg h1, z_throw1, Option.bind_some, if_pos rfl]
theorem c_ask {r0 rm : Nat → Int32} (h : (rm 28 = 0 ∧ r0 19 = -1) ∨ (rm 28 = 1 ∧ r0 19 = rm 27)) : fM_ask rm = some (fX_ask r0, zup rm 0 0) := by
  unfold fM_ask fX_ask
  rw [zlet_e, zup_n (show (28 : Nat) ≠ 0 by omega), zup_n (show (27 : Nat) ≠ 0 by omega)]
  rcases h with ⟨h1, h2⟩ | ⟨h1, h2⟩
  · rw [if_pos h1, h2]
  · rw [if_neg (by rw [h1]; decide), h2]
