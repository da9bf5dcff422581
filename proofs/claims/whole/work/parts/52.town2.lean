/-! ===== a town read and laid ===== -/
theorem p_fill6 (r : Nat → Int32) (v : Int32) : ∃ r', fJA_fill_6 r v = some r' ∧ ∀ j, j < 6 → r' j = v := by
  unfold fJA_fill_6
  refine zLP_use (body := fun t : (Nat → Int32) × Int32 => fJA_fill_6_L5 v t.1 t.2) (s := (r, 0)) (fun k t => t.2 = nI k ∧ ∀ j, j < k → t.1 j = v) (fun q => ∀ j, j < 6 → q j = v) 6 ⟨rfl, fun j hj => absurd hj (by omega)⟩ (fun q h1 h2 => ?_) ?_ ?_
  · rw [h1]; exact ⟨q, rfl, h2⟩
  · rintro k ⟨t1, t2⟩ hk ⟨rfl, h2⟩
    try dsimp only at *
    left
    unfold fJA_fill_6_L5
    rw [if_neg (zg6 hk), zwr_n hk (by omega)]
    refine ⟨_, rfl, nI_1 k, fun j hj => ?_⟩
    show zup t1 k v j = v
    by_cases e : j = k
    · subst e; rw [zup_s]
    · rw [zup_n e]; exact h2 j (by omega)
  · rintro ⟨t1, t2⟩ ⟨rfl, h2⟩
    try dsimp only at *
    refine ⟨t1, ?_, h2⟩
    unfold fJA_fill_6_L5
    rw [if_pos (by decide)]
theorem p_fill8 (r : Nat → Int32) (v : Int32) : ∃ r', fJA_fill_8 r v = some r' ∧ ∀ j, j < 8 → r' j = v := by
  unfold fJA_fill_8
  refine zLP_use (body := fun t : (Nat → Int32) × Int32 => fJA_fill_8_L5 v t.1 t.2) (s := (r, 0)) (fun k t => t.2 = nI k ∧ ∀ j, j < k → t.1 j = v) (fun q => ∀ j, j < 8 → q j = v) 8 ⟨rfl, fun j hj => absurd hj (by omega)⟩ (fun q h1 h2 => ?_) ?_ ?_
  · rw [h1]; exact ⟨q, rfl, h2⟩
  · rintro k ⟨t1, t2⟩ hk ⟨rfl, h2⟩
    try dsimp only at *
    left
    unfold fJA_fill_8_L5
    rw [if_neg (zg8 hk), zwr_n hk (by omega)]
    refine ⟨_, rfl, nI_1 k, fun j hj => ?_⟩
    show zup t1 k v j = v
    by_cases e : j = k
    · subst e; rw [zup_s]
    · rw [zup_n e]; exact h2 j (by omega)
  · rintro ⟨t1, t2⟩ ⟨rfl, h2⟩
    try dsimp only at *
    refine ⟨t1, ?_, h2⟩
    unfold fJA_fill_8_L5
    rw [if_pos (by decide)]
theorem p_fill36 (r : Nat → Int32) (v : Int32) : ∃ r', fJA_fill_36 r v = some r' ∧ ∀ j, j < 36 → r' j = v := by
  unfold fJA_fill_36
  refine zLP_use (body := fun t : (Nat → Int32) × Int32 => fJA_fill_36_L5 v t.1 t.2) (s := (r, 0)) (fun k t => t.2 = nI k ∧ ∀ j, j < k → t.1 j = v) (fun q => ∀ j, j < 36 → q j = v) 36 ⟨rfl, fun j hj => absurd hj (by omega)⟩ (fun q h1 h2 => ?_) ?_ ?_
  · rw [h1]; exact ⟨q, rfl, h2⟩
  · rintro k ⟨t1, t2⟩ hk ⟨rfl, h2⟩
    try dsimp only at *
    left
    unfold fJA_fill_36_L5
    rw [if_neg (zg36 hk), zwr_n hk (by omega)]
    refine ⟨_, rfl, nI_1 k, fun j hj => ?_⟩
    show zup t1 k v j = v
    by_cases e : j = k
    · subst e; rw [zup_s]
    · rw [zup_n e]; exact h2 j (by omega)
  · rintro ⟨t1, t2⟩ ⟨rfl, h2⟩
    try dsimp only at *
    refine ⟨t1, ?_, h2⟩
    unfold fJA_fill_36_L5
    rw [if_pos (by decide)]
def aD0 : aD := (0, 0, fun _ _ => 0, fun _ => 0, fun _ => 0, fun _ => 0, fun _ => 0, fun _ _ => 0, fun _ => 0, fun _ => 0)
theorem x_dclear (r pl bu le di lf ly pr : Nat → Int32) (wa : Nat → Int32) : ∃ y1 y2 y3 y4 y5 y6 y7 y8, fDy_clear r pl bu le di lf ly pr = some (y1, y2, y3, y4, y5, y6, y7, y8) ∧ dX 0 aD0 y1 y2 y3 y4 y5 wa y6 y7 y8 := by
  obtain ⟨a1, b1, c1⟩ := p_fill36 pl (-1)
  obtain ⟨a2, b2, c2⟩ := p_fill6 le (-1)
  obtain ⟨a3, b3, c3⟩ := p_fill6 di (-1)
  obtain ⟨a4, b4, c4⟩ := p_fill6 bu 0
  obtain ⟨a5, b5, c5⟩ := p_fill6 lf 0
  obtain ⟨a6, b6, c6⟩ := p_fill8 ly 0
  obtain ⟨a7, b7, c7⟩ := p_fill8 pr 0
  unfold fDy_clear
  rw [b1, b2, b3, b4, b5, b6, b7]
  refine ⟨_, _, _, _, _, _, _, _, rfl, ?_, zup_s, fun q k hq hk => ?_, c4, fun q hq => ?_, fun q hq => ?_, fun q i hq hi => ?_, c5, c6, c7⟩
  · rw [zup_n (by omega), zup_s]; rfl
  · rw [if_neg (by omega)]; exact c1 _ (by omega)
  · rw [c2 q hq]; rfl
  · rw [c3 q hq]; rfl
  · exact absurd hi (Nat.not_lt_zero _)
theorem m_clears (h : Nat → Int32) : ∃ h', fM_clears h = some h' ∧ ∀ j, j < 89 → h' j = 0 := by
  unfold fM_clears
  refine zLP_use (body := fun t : (Nat → Int32) × Int32 => fM_clears_L2 t.1 t.2) (s := (h, 0)) (fun k t => t.2 = nI k ∧ ∀ j, j < k → t.1 j = 0) (fun q => ∀ j, j < 89 → q j = 0) 89 ⟨rfl, fun j hj => absurd hj (by omega)⟩ (fun q h1 h2 => ?_) ?_ ?_
  · rw [h1]; exact ⟨q, rfl, h2⟩
  · rintro k ⟨t1, t2⟩ hk ⟨rfl, h2⟩
    try dsimp only at *
    left
    unfold fM_clears_L2
    rw [if_neg (zg89 hk), zwr_n hk (by omega)]
    refine ⟨_, rfl, nI_1 k, fun j hj => ?_⟩
    show zup t1 k 0 j = 0
    by_cases e : j = k
    · subst e; rw [zup_s]
    · rw [zup_n e]; exact h2 j (by omega)
  · rintro ⟨t1, t2⟩ ⟨rfl, h2⟩
    try dsimp only at *
    refine ⟨t1, ?_, h2⟩
    unfold fM_clears_L2
    rw [if_pos (by decide)]
/-- a plan of the class; a town of the reference -/
def pX (C S P : Nat) (B : Nat → Nat) (nC nP : Nat → List Nat) (rp bs far : Nat → Int32) (cn pn : Nat → Int64) : Prop := tRX C S P B nC nP rp bs cn pn ∧ ∀ c d, c < C → d < C → p_far (-1) B c d (far (8 * c + d))
def pM (C S P : Nat) (B : Nat → Nat) (nC nP : Nat → List Nat) (s ap : Nat → Int32) (nm : Nat → Int64) : Prop := tRM 0 8 C S P B nC nP s nm ∧ ∀ c d, c < 8 → d < 8 → p_far (nI 1000000) B c d (ap (8 * c + d))
theorem x_plcopy {C S P : Nat} {B : Nat → Nat} {nC nP : Nat → List Nat} {rp bs far r r2 r3 : Nat → Int32} {cn pn w0 w1 : Nat → Int64} (h : pX C S P B nC nP rp bs far cn pn) : ∃ y1 y2 y3 y4 y5, fPl_copyFrom r w0 w1 r2 r3 rp cn pn bs far = some (y1, y2, y3, y4, y5) ∧ pX C S P B nC nP y1 y4 y5 y2 y3 := by
  obtain ⟨⟨hC, hS, hP, r4, r5, r6, hb, hBC, hX, hXP⟩, hf⟩ := h
  unfold fPl_copyFrom
  simp only [zlet]
  refine ⟨_, _, _, _, _, rfl, ⟨hC, hS, hP, ?_, ?_, ?_, fun c hc => ?_, hBC, fun j hj => ⟨(hX j hj).1, ?_⟩, fun j hj => ⟨(hXP j hj).1, ?_⟩⟩, fun c d hc hd => ?_⟩
  · rw [zup_n (by omega), zup_n (by omega), zup_s]; exact r4
  · rw [zup_n (by omega), zup_s]; exact r5
  · rw [zup_s]; exact r6
  · rw [sb_cpy0 hc]; exact hb c hc
  · rw [pk_cpy_in (by omega) (by omega)]; rw [show 0 + (j - 0) = j by omega]; exact (hX j hj).2
  · rw [pk_cpy_in (by omega) (by omega)]; rw [show 0 + (j - 0) = j by omega]; exact (hXP j hj).2
  · rw [sb_cpy0 (by omega)]; exact hf c d hc hd
/-! ## the reference lays its town -/
theorem m_lay1 (h s : Nat → Int32) : ∃ s', zLP (fun t : (Nat → Int32) × Int32 => fM_town_L75 h t.1 t.2) (s, 0) = some s' ∧ (∀ j, j < 89 → s' j = h j) ∧ ∀ j, 89 ≤ j → j < 397 → s' j = 0 := by
  refine zLP_inv (fun k t => t.2 = nI k ∧ (∀ j, j < k → j < 89 → t.1 j = h j) ∧ ∀ j, j < k → 89 ≤ j → t.1 j = 0) _ 397 ⟨rfl, fun j hj => absurd hj (by omega), fun j hj => absurd hj (by omega)⟩ ?_ ?_
  · rintro k ⟨t1, t2⟩ hk ⟨rfl, h2, h3⟩
    try dsimp only at *
    left
    unfold fM_town_L75
    rw [if_neg (zg397 hk)]
    by_cases e : k < 89
    · rw [if_neg (zg89 e), zrd_n e (by omega)]
      simp only [Option.bind_some]
      rw [zwr_n hk (by omega)]
      refine ⟨_, rfl, nI_1 k, fun j hj hj2 => ?_, fun j hj hj2 => ?_⟩
      · show zup t1 k (h k) j = _
        by_cases e2 : j = k
        · subst e2; rw [zup_s]
        · rw [zup_n e2]; exact h2 j (by omega) hj2
      · show zup t1 k (h k) j = _
        rw [zup_n (by omega)]; exact h3 j (by omega) hj2
    · rw [if_pos (ze89 (by omega) (by omega)), zwr_n hk (by omega)]
      refine ⟨_, rfl, nI_1 k, fun j hj hj2 => ?_, fun j hj hj2 => ?_⟩
      · show zup t1 k 0 j = _
        rw [zup_n (by omega)]; exact h2 j (by omega) hj2
      · show zup t1 k 0 j = _
        by_cases e2 : j = k
        · subst e2; rw [zup_s]
        · rw [zup_n e2]; exact h3 j (by omega) hj2
  · rintro ⟨t1, t2⟩ ⟨rfl, h2, h3⟩
    try dsimp only at *
    refine ⟨t1, ?_, fun j hj => h2 j (by omega) hj, fun j hj hj2 => h3 j hj2 hj⟩
    unfold fM_town_L75
    rw [if_pos (by decide)]
theorem m_lay2 (nm : Nat → Int64) : ∃ nm', zLP (fun t : (Nat → Int64) × Int32 => fM_town_L112 t.1 t.2) (nm, 0) = some nm' ∧ ∀ j, j < 14 → nm' j = nm (14 + j) := by
  refine zLP_inv (fun k t => t.2 = nI k ∧ (∀ j, j < k → t.1 j = nm (14 + j)) ∧ ∀ j, k ≤ j → t.1 j = nm j) _ 14 ⟨rfl, fun j hj => absurd hj (by omega), fun _ _ => rfl⟩ ?_ ?_
  · rintro k ⟨t1, t2⟩ hk ⟨rfl, h2, h3⟩
    try dsimp only at *
    left
    unfold fM_town_L112
    rw [if_neg (show ¬ (14 : Int32) ≤ nI k from nI_ge (b := 14) hk (by omega)), show (14 : Int32) + nI k = nI (14 + k) from nI_add 14 k, zrd_n (by omega) (by omega)]
    simp only [Option.bind_some]
    rw [zwr_n (by omega) (by omega)]
    refine ⟨_, rfl, nI_1 k, fun j hj => ?_, fun j hj => ?_⟩
    · show zup t1 k _ j = _
      by_cases e2 : j = k
      · subst e2; rw [zup_s]; exact h3 _ (by omega)
      · rw [zup_n e2]; exact h2 j (by omega)
    · show zup t1 k _ j = _
      rw [zup_n (by omega)]; exact h3 j (by omega)
  · rintro ⟨t1, t2⟩ ⟨rfl, h2, h3⟩
    try dsimp only at *
    refine ⟨t1, ?_, h2⟩
    unfold fM_town_L112
    rw [if_pos (by decide)]
theorem m_lay3i (s : Nat → Int32) {x : Nat} (hx : x < 6) : ∃ s', zLP (fun t : (Nat → Int32) × Int32 => fM_town_L149 (nI x) t.1 t.2) (s, 0) = some s' ∧ (∀ i, i < 6 → s' (91 + 6 * i + x) = s (11 + x)) ∧ ∀ j, (∀ i, i < 6 → j ≠ 91 + 6 * i + x) → s' j = s j := by
  refine zLP_inv (fun k t => t.2 = nI k ∧ (∀ i, i < k → t.1 (91 + 6 * i + x) = s (11 + x)) ∧ ∀ j, (∀ i, i < 6 → j ≠ 91 + 6 * i + x) → t.1 j = s j) _ 6 ⟨rfl, fun j hj => absurd hj (by omega), fun _ _ => rfl⟩ ?_ ?_
  · rintro k ⟨t1, t2⟩ hk ⟨rfl, h2, h3⟩
    try dsimp only at *
    left
    unfold fM_town_L149
    rw [if_neg (zg6 hk), show (11 : Int32) + nI x = nI (11 + x) from nI_add 11 x, zrd_n (by omega) (by omega), z_6x, z_91, nI_add]
    simp only [Option.bind_some]
    rw [zwr_n (by omega) (by omega)]
    refine ⟨_, rfl, nI_1 k, fun i hi => ?_, fun j hj => ?_⟩
    · show zup t1 (91 + 6 * k + x) _ (91 + 6 * i + x) = _
      by_cases e2 : i = k
      · subst e2; rw [zup_s]; exact h3 _ (fun i hi => by omega)
      · rw [zup_n (by omega)]; exact h2 i (by omega)
    · show zup t1 (91 + 6 * k + x) _ j = _
      rw [zup_n (hj k hk)]; exact h3 j hj
  · rintro ⟨t1, t2⟩ ⟨rfl, h2, h3⟩
    try dsimp only at *
    refine ⟨t1, ?_, h2, h3⟩
    unfold fM_town_L149
    rw [if_pos (by decide)]
theorem m_lay3 (s : Nat → Int32) : ∃ s', zLP (fun t : (Nat → Int32) × Int32 => fM_town_L141 t.1 t.2) (s, 0) = some s' ∧ (∀ x, x < 6 → (∀ i, i < 6 → s' (91 + 6 * i + x) = s (11 + x)) ∧ s' (127 + x) = s (17 + x) ∧ s' (133 + x) = s (23 + x) ∧ s' (139 + x) = s (29 + x) ∧ s' (145 + x) = s (35 + x)) ∧ ∀ j, j < 91 ∨ 151 ≤ j → s' j = s j := by
  refine zLP_inv (fun k t => t.2 = nI k ∧ (∀ x, x < k → (∀ i, i < 6 → t.1 (91 + 6 * i + x) = s (11 + x)) ∧ t.1 (127 + x) = s (17 + x) ∧ t.1 (133 + x) = s (23 + x) ∧ t.1 (139 + x) = s (29 + x) ∧ t.1 (145 + x) = s (35 + x)) ∧ ∀ j, j < 91 ∨ 151 ≤ j → t.1 j = s j) _ 6 ⟨rfl, fun j hj => absurd hj (by omega), fun _ _ => rfl⟩ ?_ ?_
  · rintro k ⟨t1, t2⟩ hk ⟨rfl, h2, h3⟩
    try dsimp only at *
    left
    obtain ⟨u, u1, u2, u3⟩ := m_lay3i t1 hk
    unfold fM_town_L141
    rw [if_neg (zg6 hk), u1]
    simp only [Option.bind_some]
    rw [show (17 : Int32) + nI k = nI (17 + k) from nI_add 17 k, z_127, zrd_n (by omega) (by omega)]
    simp only [Option.bind_some]
    rw [zwr_n (by omega) (by omega)]
    simp only [Option.bind_some]
    rw [show (23 : Int32) + nI k = nI (23 + k) from nI_add 23 k, z_133, zrd_n (by omega) (by omega)]
    simp only [Option.bind_some]
    rw [zwr_n (by omega) (by omega)]
    simp only [Option.bind_some]
    rw [show (29 : Int32) + nI k = nI (29 + k) from nI_add 29 k, z_139, zrd_n (by omega) (by omega)]
    simp only [Option.bind_some]
    rw [zwr_n (by omega) (by omega)]
    simp only [Option.bind_some]
    rw [show (35 : Int32) + nI k = nI (35 + k) from nI_add 35 k, z_145, zrd_n (by omega) (by omega)]
    simp only [Option.bind_some]
    rw [zwr_n (by omega) (by omega)]
    have hu : ∀ j, j < 91 → u j = s j := fun j hj => (u3 j (fun i hi => by omega)).trans (h3 j (by omega))
    refine ⟨_, rfl, nI_1 k, fun x hx => ?_, fun j hj => ?_⟩
    · dsimp only
      by_cases e : x = k
      · subst e
        refine ⟨fun i hi => ?_, ?_, ?_, ?_, ?_⟩
        · rw [zup_n (by omega), zup_n (by omega), zup_n (by omega), zup_n (by omega), u2 i hi]; exact h3 _ (by omega)
        · rw [zup_n (by omega), zup_n (by omega), zup_n (by omega), zup_s]; exact hu _ (by omega)
        · rw [zup_n (by omega), zup_n (by omega), zup_s, zup_n (by omega)]; exact hu _ (by omega)
        · rw [zup_n (by omega), zup_s, zup_n (by omega), zup_n (by omega)]; exact hu _ (by omega)
        · rw [zup_s, zup_n (by omega), zup_n (by omega), zup_n (by omega)]; exact hu _ (by omega)
      · obtain ⟨g1, g2, g3, g4, g5⟩ := h2 x (by omega)
        refine ⟨fun i hi => ?_, ?_, ?_, ?_, ?_⟩
        · rw [zup_n (by omega), zup_n (by omega), zup_n (by omega), zup_n (by omega), u3 _ (fun i hi => by omega)]; exact g1 i hi
        · rw [zup_n (by omega), zup_n (by omega), zup_n (by omega), zup_n (by omega), u3 _ (fun i hi => by omega)]; exact g2
        · rw [zup_n (by omega), zup_n (by omega), zup_n (by omega), zup_n (by omega), u3 _ (fun i hi => by omega)]; exact g3
        · rw [zup_n (by omega), zup_n (by omega), zup_n (by omega), zup_n (by omega), u3 _ (fun i hi => by omega)]; exact g4
        · rw [zup_n (by omega), zup_n (by omega), zup_n (by omega), zup_n (by omega), u3 _ (fun i hi => by omega)]; exact g5
    · dsimp only
      rw [zup_n (by omega), zup_n (by omega), zup_n (by omega), zup_n (by omega), u3 _ (fun i hi => by omega)]; exact h3 j hj
  · rintro ⟨t1, t2⟩ ⟨rfl, h2, h3⟩
    try dsimp only at *
    refine ⟨t1, ?_, h2, h3⟩
    unfold fM_town_L141
    rw [if_pos (by decide)]
theorem m_lay4 (s : Nat → Int32) : ∃ s', zLP (fun t : (Nat → Int32) × Int32 => fM_town_L267 t.1 t.2) (s, 0) = some s' ∧ (∀ j, j < 48 → s' (151 + j) = s (41 + j)) ∧ ∀ j, j < 151 ∨ 199 ≤ j → s' j = s j := by
  refine zLP_inv (fun k t => t.2 = nI k ∧ (∀ j, j < k → t.1 (151 + j) = s (41 + j)) ∧ ∀ j, j < 151 ∨ 199 ≤ j → t.1 j = s j) _ 48 ⟨rfl, fun j hj => absurd hj (by omega), fun _ _ => rfl⟩ ?_ ?_
  · rintro k ⟨t1, t2⟩ hk ⟨rfl, h2, h3⟩
    try dsimp only at *
    left
    unfold fM_town_L267
    rw [if_neg (zg48 hk), show (41 : Int32) + nI k = nI (41 + k) from nI_add 41 k, z_151, zrd_n (by omega) (by omega)]
    simp only [Option.bind_some]
    rw [zwr_n (by omega) (by omega)]
    refine ⟨_, rfl, nI_1 k, fun j hj => ?_, fun j hj => ?_⟩
    · show zup t1 (151 + k) _ (151 + j) = _
      by_cases e2 : j = k
      · subst e2; rw [zup_s]; exact h3 _ (by omega)
      · rw [zup_n (by omega)]; exact h2 j (by omega)
    · show zup t1 (151 + k) _ j = _
      rw [zup_n (by omega)]; exact h3 j hj
  · rintro ⟨t1, t2⟩ ⟨rfl, h2, h3⟩
    try dsimp only at *
    refine ⟨t1, ?_, h2, h3⟩
    unfold fM_town_L267
    rw [if_pos (by decide)]
theorem tT_0 {rp bs f pl bu le di wa lf ly pr h : Nat → Int32} {cn pn nm : Nat → Int64} (h4 : rp 4 = 0) (h5 : rp 5 = 0) (h6 : rp 6 = 0) (hb : ∀ c, c < 8 → bs c = 0) (hd : dX 0 aD0 f pl bu le di wa lf ly pr) (hh : ∀ j, j < 89 → h j = 0) : tT 0 0 0 (fun _ => 0) (fun _ => []) (fun _ => []) aD0 rp bs cn pn f pl bu le di wa lf ly pr h nm := by
  refine ⟨⟨by omega, by omega, by omega, h4, h5, h6, hb, fun c hc x hx => by simp at hx, fun j hj => absurd hj (by omega), fun j hj => absurd hj (by omega)⟩, ⟨hh _ (by omega), hh _ (by omega), hh _ (by omega), fun c hc => hh _ (by omega), fun j hj => absurd hj (by omega), fun j hj => absurd hj (by omega)⟩, ⟨fun q hq => absurd hq (by omega), fun q hq => hh _ (by omega), fun q hq => hh _ (by omega), fun q hq hn => absurd rfl hn, fun q hq => hh _ (by omega), fun q i hq hi => absurd hi (Nat.not_lt_zero _)⟩, ⟨rfl, rfl, fun q hq => Nat.zero_le _, fun c hc => rfl, fun c hc => rfl, fun q k hq => absurd hq (by omega)⟩, ⟨fun q k hq => absurd hq (by omega), fun q hq => ⟨Nat.le_refl 0, fun h => absurd rfl h⟩, fun q hq => ⟨Nat.zero_le _, fun h => absurd rfl h⟩, fun q i hq hi => absurd hi (Nat.not_lt_zero _), by decide, fun c hc => Nat.zero_le _⟩, hd⟩
theorem sD_town {C S P : Nat} {B : Nat → Nat} {nC nP : Nat → List Nat} {A : aD} {rp bs f pl bu le di wa lf ly pr h s1 s3 s4 : Nat → Int32} {cn pn nm : Nat → Int64} (T : tT C S P B nC nP A rp bs cn pn f pl bu le di wa lf ly pr h nm) (a1 : ∀ j, j < 89 → s1 j = h j) (a2 : ∀ j, 89 ≤ j → j < 397 → s1 j = 0)
    (b1 : ∀ x, x < 6 → (∀ i, i < 6 → s3 (91 + 6 * i + x) = s1 (11 + x)) ∧ s3 (127 + x) = s1 (17 + x) ∧ s3 (133 + x) = s1 (23 + x) ∧ s3 (139 + x) = s1 (29 + x) ∧ s3 (145 + x) = s1 (35 + x)) (b2 : ∀ j, j < 91 ∨ 151 ≤ j → s3 j = s1 j) (c1 : ∀ j, j < 48 → s4 (151 + j) = s3 (41 + j)) (c2 : ∀ j, j < 151 ∨ 199 ≤ j → s4 j = s3 j) : sD P A s4 ∧ s4 216 = 0 ∧ ∀ j, j < 89 → s4 j = h j := by
  obtain ⟨⟨hC, hS, hP, -⟩, -, ⟨z1, z2, z3, z4, z5, z6⟩, ⟨d1, d2, d3, d4, d5, d6⟩, hV, -⟩ := T
  refine ⟨⟨?_, ?_, fun q k hq hk => ?_, fun q hq => ?_, fun q hq => ?_, fun q hq hn => ?_, fun q i hq hi => ?_, fun q hq => ?_, fun c hc => ?_, fun c hc => ?_⟩, ?_, fun j hj => ?_⟩
  · rw [c2 _ (by omega), b2 _ (by omega), a2 _ (by omega) (by omega), d1]; rfl
  · rw [c2 _ (by omega), b2 _ (by omega), a2 _ (by omega) (by omega), d2]; rfl
  · rw [c2 _ (by omega), (b1 q (by omega)).1 k hk, a1 _ (by omega), d6 q k hq hk]; exact z1 q hq
  · rw [c2 _ (by omega), (b1 q hq).2.1, a1 _ (by omega)]; exact z2 q hq
  · rw [c2 _ (by omega), (b1 q hq).2.2.1, a1 _ (by omega)]; exact z3 q hq
  · rw [c2 _ (by omega), (b1 q hq).2.2.2.1, a1 _ (by omega)]; exact z4 q hq hn
  · have := (hV.2.2.1 q hq).1
    rw [show 151 + 8 * q + i = 151 + (8 * q + i) by omega, c1 _ (by omega), b2 _ (by omega), a1 _ (by omega), show 41 + (8 * q + i) = 41 + 8 * q + i by omega]; exact z6 q i hq hi
  · rw [c2 _ (by omega), (b1 q hq).2.2.2.2, a1 _ (by omega)]; exact z5 q hq
  · rw [c2 _ (by omega), b2 _ (by omega), a2 _ (by omega) (by omega), d4 c hc]; rfl
  · rw [c2 _ (by omega), b2 _ (by omega), a2 _ (by omega) (by omega), d5 c hc]; rfl
  · rw [c2 _ (by omega), b2 _ (by omega), a2 _ (by omega) (by omega)]
  · rw [c2 _ (by omega), b2 _ (by omega), a1 j hj]
