/-! ===== a minute of the reference ===== -/
theorem sD_ext {P : Nat} {A A' : aD} {s : Nat → Int32} (h : sD P A s) (e1 : dMi A' = dMi A) (e2 : dFo A' = dFo A) (eW : ∀ q k, q < P → k < 6 → dW A' k q = dW A k q) (eB : ∀ q, q < 6 → dB A' q = dB A q) (eA : ∀ q, q < 6 → dA A' q = dA A q) (eH : ∀ q, q < 6 → dH A' q = dH A q) (eM : ∀ q, q < 6 → dM A' q = dM A q) (eY : ∀ q i, q < 6 → i < dM A q → dY A' q i = dY A q i) (eL : ∀ c, c < 8 → dL A' c = dL A c) (eP : ∀ c, c < 8 → dP A' c = dP A c) : sD P A' s := by
  obtain ⟨h1, h2, h3, h4, h5, h6, h7, h8, h9, h10⟩ := h
  refine ⟨by rw [e1]; exact h1, by rw [e2]; exact h2, fun q k hq hk => by rw [eW q k hq hk]; exact h3 q k hq hk, fun q hq => by rw [eB q hq]; exact h4 q hq, fun q hq => by rw [eA q hq]; exact h5 q hq, fun q hq hn => by rw [eH q hq]; exact h6 q hq (by rw [eA q hq] at hn; exact hn), fun q i hq hi => ?_, fun q hq => by rw [eM q hq]; exact h8 q hq, fun c hc => by rw [eL c hc]; exact h9 c hc, fun c hc => by rw [eP c hc]; exact h10 c hc⟩
  rw [eM q hq] at hi
  rw [eY q i hq hi]; exact h7 q i hq hi
theorem sD_W0 {P : Nat} {A : aD} {s : Nat → Int32} (hP : P ≤ 6) (h : sD P A s) (hM : ∀ q, q < 6 → dM A q ≤ 8) {x0 v : Nat} (hx : x0 < 6) : sD P (sW_ A (fun k q => if k = 0 ∧ q = x0 then v else dW A k q)) (zup s (91 + x0) (nI v)) := by
  obtain ⟨h1, h2, h3, h4, h5, h6, h7, h8, h9, h10⟩ := h
  refine ⟨?_, ?_, ?_, ?_, ?_, ?_, ?_, ?_, ?_, ?_⟩
  · rw [zup_n (by omega)]; exact h1
  · rw [zup_n (by omega)]; exact h2
  · intro q k hq hk
    show zup s (91 + x0) (nI v) (91 + 6 * k + q) = nI (if k = 0 ∧ q = x0 then v else dW A k q)
    by_cases e : k = 0 ∧ q = x0
    · rw [if_pos e, e.1, e.2]; exact zup_s
    · rw [if_neg e, zup_n (by omega)]; exact h3 q k hq hk
  · intro q hq; rw [zup_n (by omega)]; exact h4 q hq
  · intro q hq; rw [zup_n (by omega)]; exact h5 q hq
  · intro q hq hn; rw [zup_n (by omega)]; exact h6 q hq hn
  · intro q i hq hi; have := hM q hq; have hi' : i < dM A q := hi; rw [zup_n (by omega)]; exact h7 q i hq hi
  · intro q hq; rw [zup_n (by omega)]; exact h8 q hq
  · intro c hc; rw [zup_n (by omega)]; exact h9 c hc
  · intro c hc; rw [zup_n (by omega)]; exact h10 c hc
/-- a way's first corner is gone -/
theorem sD_sh {P : Nat} {A : aD} {s s' : Nat → Int32} (hP : P ≤ 6) (h : sD P A s) (hM : ∀ q, q < 6 → dM A q ≤ 8) {x0 : Nat} (hx : x0 < 6) (g1 : ∀ i, i < 7 → s' (151 + 8 * x0 + i) = s (151 + 8 * x0 + i + 1)) (g2 : ∀ j, j < 151 + 8 * x0 ∨ 151 + 8 * x0 + 8 ≤ j → s' j = s j) : sD P (sY_ (sM_ A (zup (dM A) x0 (dM A x0 - 1))) (fun q i => if q = x0 then dY A q (i + 1) else dY A q i)) (zup s' (145 + x0) (nI (dM A x0 - 1))) := by
  obtain ⟨h1, h2, h3, h4, h5, h6, h7, h8, h9, h10⟩ := h
  refine ⟨?_, ?_, ?_, ?_, ?_, ?_, ?_, ?_, ?_, ?_⟩
  · rw [zup_n (by omega), g2 _ (by omega)]; exact h1
  · rw [zup_n (by omega), g2 _ (by omega)]; exact h2
  · intro q k hq hk; rw [zup_n (by omega), g2 _ (by omega)]; exact h3 q k hq hk
  · intro q hq; rw [zup_n (by omega), g2 _ (by omega)]; exact h4 q hq
  · intro q hq; rw [zup_n (by omega), g2 _ (by omega)]; exact h5 q hq
  · intro q hq hn; rw [zup_n (by omega), g2 _ (by omega)]; exact h6 q hq hn
  · intro q i hq hi
    have hi' : i < zup (dM A) x0 (dM A x0 - 1) q := hi
    show zup s' (145 + x0) _ (151 + 8 * q + i) = nI (if q = x0 then dY A q (i + 1) else dY A q i)
    have hm := hM q hq
    by_cases e : q = x0
    · subst e
      rw [zup_s] at hi'
      rw [if_pos rfl, zup_n (by omega), g1 i (by omega), show 151 + 8 * q + i + 1 = 151 + 8 * q + (i + 1) by omega]
      exact h7 q (i + 1) hq (by omega)
    · rw [zup_n e] at hi'
      rw [if_neg e, zup_n (by omega), g2 _ (by omega)]; exact h7 q i hq hi'
  · intro q hq
    show zup s' (145 + x0) _ (145 + q) = nI (zup (dM A) x0 (dM A x0 - 1) q)
    by_cases e : q = x0
    · subst e; rw [zup_s, zup_s]
    · rw [zup_n (by omega), zup_n e, g2 _ (by omega)]; exact h8 q hq
  · intro c hc; rw [zup_n (by omega), g2 _ (by omega)]; exact h9 c hc
  · intro c hc; rw [zup_n (by omega), g2 _ (by omega)]; exact h10 c hc
theorem m_goes {C P : Nat} {A : aD} {B : Nat → Nat} {s ap : Nat → Int32} (hC : C ≤ 8) (hP : P ≤ 6) (hB : p_BC B C) (hs : ∀ c, c < 8 → s (3 + c) = nI (B c)) (hf : ∀ c d, c < C → d < C → p_far (nI 1000000) B c d (ap (8 * c + d))) (hV : dV C P A) (h : sD P A s) {q : Nat} (hq : q < P) :
    fM_goesTo s ap (nI q) = some (nI (aTo B A q)) := by
  obtain ⟨h1, h2, h3, h4, h5, h6, h7, h8, h9, h10⟩ := id h
  have hal := hV.2.1 q (by omega)
  have hml := hV.2.2.1 q (by omega)
  unfold fM_goesTo aTo
  rw [z_145, zrd_n (by omega) (by omega), h8 q (by omega)]
  simp only [Option.bind_some]
  by_cases g1 : dM A q = 0
  · rw [if_pos ((nI_le0 (by omega)).mpr g1), if_pos g1, z_133, zrd_n (by omega) (by omega), h5 q (by omega)]
    simp only [Option.bind_some]
    rw [z_91, zrd_n (by omega) (by omega), show s (91 + q) = nI (dW A 0 q) from h3 q 0 hq (by omega)]
    by_cases g2 : dA A q = 0
    · rw [if_pos ((nI_e0 (by omega)).mpr g2), if_pos g2]; rfl
    · obtain ⟨-, hh1, hh5⟩ := hal.2 g2
      have hW := hV.1 q 0 hq (by omega)
      have hW2 := hV.1 (dA A q - 1) (dH A q - 1) (by omega) (by omega)
      rw [if_neg (fun h => g2 ((nI_e0 (by omega)).mp h)), if_neg g2, z_139, zrd_n (by omega) (by omega), h6 q (by omega) g2]
      simp only [Option.bind_some]
      rw [m_whom h (show q < 6 by omega), nI_p1 hh1, z_6x, z_91]
      simp only [Option.bind_some]
      rw [nI_p1 (n := dA A q) (by omega), nI_add, zrd_n (by omega) (by omega), h3 _ _ (by omega) (by omega)]
      simp only [Option.bind_some]
      rw [z_8mul, zrd_n (by omega) (by omega)]
      simp only [Option.bind_some]
      rcases hf _ _ hW hW2 with ⟨k, k1, k2, k3⟩ | ⟨k2, k3⟩
      · rw [k2, if_pos (show nI k < 1000000 from nI_lt (b := 1000000) (by omega) (by omega)), p_towards hC hB hs hf hW hW2 ⟨k, k3⟩]; rfl
      · rw [k2, if_neg (by decide), p_st_no k3]
  · rw [if_neg (fun h => g1 ((nI_le0 (by omega)).mp h)), z_8x, z_151, zrd_n (by omega) (by omega), show s (151 + 8 * q) = nI (dY A q 0) from h7 q 0 (by omega) (by omega), if_neg g1]; rfl
theorem m_toL {C P : Nat} {A : aD} {B : Nat → Nat} {s ap to : Nat → Int32} (hC : C ≤ 8) (hP : P ≤ 6) (hs2 : s 2 = nI P) (hB : p_BC B C) (hs : ∀ c, c < 8 → s (3 + c) = nI (B c)) (hf : ∀ c d, c < C → d < C → p_far (nI 1000000) B c d (ap (8 * c + d))) (hV : dV C P A) (h : sD P A s) :
    ∃ to', zLP (fun t : (Nat → Int32) × Int32 => fM_minute_L2 s ap t.1 t.2) (to, 0) = some to' ∧ ∀ q, q < P → to' q = nI (aTo B A q) := by
  refine zLP_inv (fun k t => t.2 = nI k ∧ ∀ q, q < k → t.1 q = nI (aTo B A q)) _ P ⟨rfl, fun q hq => absurd hq (by omega)⟩ ?_ ?_
  · rintro k ⟨t1, t2⟩ hk ⟨rfl, h2⟩
    try dsimp only at *
    left
    unfold fM_minute_L2
    rw [hs2, if_neg (nI_ge hk (by omega)), m_goes hC hP hB hs hf hV h hk]
    simp only [Option.bind_some]
    rw [zwr_n (by omega) (by omega)]
    refine ⟨_, rfl, nI_1 k, fun q hq => ?_⟩
    show zup t1 k _ q = _
    by_cases e : q = k
    · subst e; rw [zup_s]
    · rw [zup_n e]; exact h2 q (by omega)
  · rintro ⟨t1, t2⟩ ⟨rfl, h2⟩
    try dsimp only at *
    refine ⟨t1, ?_, h2⟩
    unfold fM_minute_L2
    rw [hs2, if_pos (nI_le (Nat.le_refl _) (by omega))]
theorem m_shiftL {P : Nat} {A : aD} {s : Nat → Int32} {B : Nat → Nat} (hP : P ≤ 6) (h : sD P A s) :
    ∃ s', zLP (fun t : (Nat → Int32) × Int32 => fM_minute_L32 t.1 t.2) (s, 35) = some s' ∧ sD P (aMd B P A 0) s' ∧ sK s s' := by
  have key : ∃ s', zLP (fun t : (Nat → Int32) × Int32 => fM_minute_L32 t.1 t.2) (s, 35) = some s' ∧ (∀ i, 6 ≤ i → i < 36 → s' (91 + i) = s (91 + (i - 6))) ∧ ∀ j, j < 97 ∨ 127 ≤ j → s' j = s j := by
    refine zLP_inv (fun k t => t.2 = nI (35 - k) ∧ (∀ i, 35 - k < i → i < 36 → t.1 (91 + i) = s (91 + (i - 6))) ∧ (∀ i, i ≤ 35 - k → t.1 (91 + i) = s (91 + i)) ∧ ∀ j, j < 97 ∨ 127 ≤ j → t.1 j = s j) _ 30 ⟨rfl, fun i h1 h2 => absurd h2 (by omega), fun _ _ => rfl, fun _ _ => rfl⟩ ?_ ?_
    · rintro k ⟨t1, t2⟩ hk ⟨rfl, h2, h3, h4⟩
      try dsimp only at *
      left
      unfold fM_minute_L32
      rw [if_neg (show ¬ nI (35 - k) < 6 from nI_nlt (b := 6) (by omega) (by omega)), z_91, show nI (91 + (35 - k)) - 6 = nI (91 + (35 - k) - 6) from nI_sub (b := 6) (by omega), zrd_n (by omega) (by omega)]
      simp only [Option.bind_some]
      rw [zwr_n (by omega) (by omega)]
      refine ⟨_, rfl, ?_, fun i h5 h6 => ?_, fun i h5 => ?_, fun j hj => ?_⟩
      · show nI (35 - k) + (-1) = nI (35 - (k + 1))
        rw [show 35 - k = (35 - (k + 1)) + 1 by omega, nI_m1p]
      · show zup t1 (91 + (35 - k)) _ (91 + i) = _
        by_cases e : i = 35 - k
        · rw [e, zup_s, show 91 + (35 - k) - 6 = 91 + (35 - k - 6) by omega]; exact h3 _ (by omega)
        · rw [zup_n (by omega)]; exact h2 i (by omega) h6
      · show zup t1 (91 + (35 - k)) _ (91 + i) = _
        rw [zup_n (by omega)]; exact h3 i (by omega)
      · show zup t1 (91 + (35 - k)) _ j = _
        rw [zup_n (by omega)]; exact h4 j hj
    · rintro ⟨t1, t2⟩ ⟨rfl, h2, h3, h4⟩
      try dsimp only at *
      refine ⟨t1, ?_, fun k h5 h6 => h2 k (by omega) h6, h4⟩
      unfold fM_minute_L32
      rw [if_pos (by decide)]
  obtain ⟨s', k1, k2, k3⟩ := key
  obtain ⟨h1, h2, h3, h4, h5, h6, h7, h8, h9, h10⟩ := h
  refine ⟨s', k1, ⟨?_, ?_, ?_, ?_, ?_, ?_, ?_, ?_, ?_, ?_⟩, fun i hi => k3 i (by omega)⟩
  · rw [k3 _ (by omega)]; exact h1
  · rw [k3 _ (by omega)]; exact h2
  · intro q k hq hk
    show _ = nI (if k = 0 then (if q < 0 then aTo B A q else dW A 0 q) else dW A (k - 1) q)
    by_cases e : k = 0
    · subst e
      rw [if_pos rfl, if_neg (by omega), k3 _ (by omega)]; exact h3 q 0 hq (by omega)
    · rw [if_neg e, show 91 + 6 * k + q = 91 + (6 * k + q) by omega, k2 _ (by omega) (by omega), show 91 + (6 * k + q - 6) = 91 + 6 * (k - 1) + q by omega]
      exact h3 q (k - 1) hq (by omega)
  · intro q hq; rw [k3 _ (by omega)]; exact h4 q hq
  · intro q hq; rw [k3 _ (by omega)]; exact h5 q hq
  · intro q hq hn; rw [k3 _ (by omega)]; exact h6 q hq hn
  · intro q i hq hi
    have hi' : i < (if q < 0 then dM A q - 1 else dM A q) := hi
    rw [if_neg (by omega)] at hi'
    show s' (151 + 8 * q + i) = nI (if q < 0 then dY A q (i + 1) else dY A q i)
    rw [if_neg (by omega), k3 _ (by omega)]; exact h7 q i hq hi'
  · intro q hq
    show s' (145 + q) = nI (if q < 0 then dM A q - 1 else dM A q)
    rw [if_neg (by omega), k3 _ (by omega)]; exact h8 q hq
  · intro c hc; rw [k3 _ (by omega)]; exact h9 c hc
  · intro c hc; rw [k3 _ (by omega)]; exact h10 c hc
theorem m_wayL {s : Nat → Int32} {q : Nat} (hq : q < 6) : ∃ s', zLP (fun t : (Nat → Int32) × Int32 => fM_minute_L166 (nI q) t.1 t.2) (s, 0) = some s' ∧ (∀ i, i < 7 → s' (151 + 8 * q + i) = s (151 + 8 * q + i + 1)) ∧ ∀ j, j < 151 + 8 * q ∨ 151 + 8 * q + 8 ≤ j → s' j = s j := by
  refine zLP_inv (fun k t => t.2 = nI k ∧ (∀ i, i < k → t.1 (151 + 8 * q + i) = s (151 + 8 * q + i + 1)) ∧ (∀ i, k ≤ i → t.1 (151 + 8 * q + i) = s (151 + 8 * q + i)) ∧ ∀ j, j < 151 + 8 * q ∨ 151 + 8 * q + 8 ≤ j → t.1 j = s j) _ 7 ⟨rfl, fun i hi => absurd hi (by omega), fun _ _ => rfl, fun _ _ => rfl⟩ ?_ ?_
  · rintro k ⟨t1, t2⟩ hk ⟨rfl, h2, h3, h4⟩
    try dsimp only at *
    left
    unfold fM_minute_L166
    rw [if_neg (zg7 hk), z_8x, z_151, nI_add, nI_1, zrd_n (by omega) (by omega)]
    simp only [Option.bind_some]
    rw [zwr_n (by omega) (by omega)]
    refine ⟨_, rfl, nI_1 k, fun i hi => ?_, fun i hi => ?_, fun j hj => ?_⟩
    · show zup t1 (151 + 8 * q + k) _ (151 + 8 * q + i) = _
      by_cases e : i = k
      · subst e; rw [zup_s, show 151 + 8 * q + i + 1 = 151 + 8 * q + (i + 1) by omega]; exact h3 (i + 1) (by omega)
      · rw [zup_n (by omega)]; exact h2 i (by omega)
    · show zup t1 (151 + 8 * q + k) _ (151 + 8 * q + i) = _
      rw [zup_n (by omega)]; exact h3 i (by omega)
    · show zup t1 (151 + 8 * q + k) _ j = _
      rw [zup_n (by omega)]; exact h4 j hj
  · rintro ⟨t1, t2⟩ ⟨rfl, h2, h3, h4⟩
    try dsimp only at *
    refine ⟨t1, ?_, h2, h4⟩
    unfold fM_minute_L166
    rw [if_pos (by decide)]
theorem m_goL {C P : Nat} {A : aD} {B : Nat → Nat} {s to : Nat → Int32} (hC : C ≤ 8) (hP : P ≤ 6) (hs2 : s 2 = nI P) (hB : p_BC B C) (hV : dV C P A) (h : sD P (aMd B P A 0) s) (hto : ∀ q, q < P → to q = nI (aTo B A q)) :
    ∃ s', zLP (fun t : (Nat → Int32) × Int32 => fM_minute_L67 to t.1 t.2) (s, 0) = some s' ∧ sD P (aMd B P A 6) s' ∧ sK s s' := by
  have key : ∃ s', zLP (fun t : (Nat → Int32) × Int32 => fM_minute_L67 to t.1 t.2) (s, 0) = some s' ∧ sD P (aMd B P A P) s' ∧ sK s s' := by
    refine zLP_inv (fun k t => t.2 = nI k ∧ sD P (aMd B P A k) t.1 ∧ sK s t.1) _ P ?_ ?_ ?_
    · exact ⟨rfl, h, sK_rfl⟩
    · rintro j ⟨t1, t2⟩ hj ⟨rfl, g, gK⟩
      try dsimp only at *
      left
      have hj6 : j < 6 := by omega
      have hVj := aMd_V hC hB hP hV j
      have hM : ∀ q, q < 6 → dM (aMd B P A j) q ≤ 8 := fun q hq => (hVj.2.2.1 q hq).1
      have hto8 := aTo_lt hC hB hP hV hj
      have hw8 := hV.1 j 0 hj (by omega)
      have hml := (hV.2.2.1 j hj6).1
      have hmj : dM (aMd B P A j) j = dM A j := by show (if j < j then dM A j - 1 else dM A j) = _; rw [if_neg (by omega)]
      have ht2 : t1 2 = nI P := (gK 2 (by omega)).trans hs2
      have hw0 : t1 (91 + j) = nI (dW A 0 j) := by
        have : t1 (91 + j) = nI (if 0 = 0 then (if j < j then aTo B A j else dW A 0 j) else dW A (0 - 1) j) := g.2.2.1 j 0 hj (by omega)
        rw [if_pos rfl, if_neg (by omega)] at this; exact this
      have hcont : ∀ (Aa : aD) (sa : Nat → Int32), sD P Aa sa → sK s sa → (∀ q, q < 6 → dM Aa q ≤ 8) → dMi Aa = dMi A → dFo Aa = dFo A → dW Aa = dW (aMd B P A j) → dB Aa = dB A → dA Aa = dA A → dH Aa = dH A → dM Aa = dM (aMd B P A j) → dY Aa = dY (aMd B P A j) → dL Aa = dL A → dP Aa = aPr B P A (j + 1) →
          ∃ t', ((zrd to 6 (nI j)).bind fun v42 => (zwr sa 397 (91 + nI j) v42).bind fun r0_6v43 => (zrd r0_6v43 397 (145 + nI j)).bind fun v44 => if v44 = 0 then zlet (nI j + 1) (fun x46 => some (.inl (r0_6v43, x46))) else (zLP (fun t : (Nat → Int32) × Int32 => fM_minute_L166 (nI j) t.1 t.2) (r0_6v43, 0)).bind (fun r51 => (zrd r51 397 (145 + nI j)).bind (fun v61 => (zwr r51 397 (145 + nI j) (v61 - 1)).bind (fun r0_6v62 => zlet (nI j + 1) (fun x63 => some (.inl (r0_6v62, x63))))))) = some (Sum.inl (β := Nat → Int32) t') ∧ t'.2 = nI (j + 1) ∧ sD P (aMd B P A (j + 1)) t'.1 ∧ sK s t'.1 := by
        intro Aa sa a1 a2 a3 b1 b2 b3 b4 b5 b6 b7 b8 b9 b10
        have w1 := sD_W0 hP a1 a3 (x0 := j) (v := aTo B A j) hj6
        rw [zrd_n hj6 (by omega), hto j hj]
        simp only [Option.bind_some]
        rw [z_91, zwr_n (by omega) (by omega)]
        simp only [Option.bind_some]
        rw [z_145, zrd_n (by omega) (by omega)]
        simp only [Option.bind_some]
        have hl : zup sa (91 + j) (nI (aTo B A j)) (145 + j) = nI (dM A j) := by
          rw [zup_n (by omega)]
          have := a1.2.2.2.2.2.2.2.1 j hj6
          rw [b7, hmj] at this; exact this
        have hKb : sK s (zup sa (91 + j) (nI (aTo B A j))) := sK_up a2 (by omega)
        have hW' : ∀ q k, q < P → k < 6 → dW (aMd B P A (j + 1)) k q = (fun k q => if k = 0 ∧ q = j then aTo B A j else dW Aa k q) k q := fun q k hq hk => by
          show (if k = 0 then (if q < j + 1 then aTo B A q else dW A 0 q) else dW A (k - 1) q) = (if k = 0 ∧ q = j then aTo B A j else dW Aa k q)
          rw [b3]
          show _ = (if k = 0 ∧ q = j then aTo B A j else if k = 0 then (if q < j then aTo B A q else dW A 0 q) else dW A (k - 1) q)
          by_cases e : k = 0
          · by_cases e2 : q = j
            · subst e2; rw [if_pos e, if_pos (show q < q + 1 by omega), if_pos (show k = 0 ∧ q = q from ⟨e, rfl⟩)]
            · rw [if_pos e, if_neg (show ¬ (k = 0 ∧ q = j) from fun h => e2 h.2), if_pos e]
              by_cases e3 : q < j
              · rw [if_pos e3, if_pos (show q < j + 1 by omega)]
              · rw [if_neg e3, if_neg (show ¬ q < j + 1 by omega)]
          · rw [if_neg e, if_neg (show ¬ (k = 0 ∧ q = j) from fun h => e h.1), if_neg e]
        rw [hl]
        by_cases e0 : dM A j = 0
        · rw [if_pos ((nI_e0 (by omega)).mpr e0)]
          refine ⟨_, rfl, nI_1 j, sD_ext w1 b1.symm b2.symm hW' (fun q _ => by show dB A q = dB Aa q; rw [b4]) (fun q _ => by show dA A q = dA Aa q; rw [b5]) (fun q _ => by show dH A q = dH Aa q; rw [b6]) (fun q _ => ?_) (fun q i hq hi => ?_) (fun q _ => by show dL A q = dL Aa q; rw [b9]) (fun c _ => by show aPr B P A (j + 1) c = dP Aa c; rw [b10]), hKb⟩
          · show (if q < j + 1 then dM A q - 1 else dM A q) = dM Aa q
            rw [b7]
            show _ = (if q < j then dM A q - 1 else dM A q)
            by_cases e : q = j
            · subst e; rw [if_pos (by omega), if_neg (by omega), e0]
            · rw [zlt_s e]
          · have hi' : i < dM Aa q := hi
            rw [b7] at hi'
            have hi'' : i < (if q < j then dM A q - 1 else dM A q) := hi'
            show (if q < j + 1 then dY A q (i + 1) else dY A q i) = dY Aa q i
            rw [b8]
            show _ = (if q < j then dY A q (i + 1) else dY A q i)
            by_cases e : q = j
            · subst e; rw [if_neg (by omega), e0] at hi''; omega
            · rw [zlt_s e]
        · rw [if_neg (fun h => e0 ((nI_e0 (by omega)).mp h))]
          obtain ⟨s3, l1, l2, l3⟩ := m_wayL (s := zup sa (91 + j) (nI (aTo B A j))) hj6
          rw [l1]
          simp only [Option.bind_some]
          rw [zrd_n (by omega) (by omega), l3 _ (by omega), hl]
          simp only [Option.bind_some]
          rw [nI_p1 (by omega), zwr_n (by omega) (by omega)]
          have hMj : dM Aa j = dM A j := by rw [b7, hmj]
          have w2 := sD_sh hP w1 a3 hj6 l2 l3
          have hmm : dM (sW_ Aa (fun k q => if k = 0 ∧ q = j then aTo B A j else dW Aa k q)) j = dM A j := hMj
          rw [hmm] at w2
          refine ⟨_, rfl, nI_1 j, sD_ext w2 b1.symm b2.symm hW' (fun q _ => by show dB A q = dB Aa q; rw [b4]) (fun q _ => by show dA A q = dA Aa q; rw [b5]) (fun q _ => by show dH A q = dH Aa q; rw [b6]) (fun q _ => ?_) (fun q i hq hi => ?_) (fun q _ => by show dL A q = dL Aa q; rw [b9]) (fun c _ => by show aPr B P A (j + 1) c = dP Aa c; rw [b10]), sK_up (fun i hi => (l3 i (by omega)).trans (hKb i hi)) (by omega)⟩
          · show (if q < j + 1 then dM A q - 1 else dM A q) = zup (dM Aa) j (dM A j - 1) q
            by_cases e : q = j
            · subst e; rw [if_pos (by omega), zup_s]
            · rw [zlt_s e, zup_n e, b7]; rfl
          · show (if q < j + 1 then dY A q (i + 1) else dY A q i) = (if q = j then dY Aa q (i + 1) else dY Aa q i)
            rw [b8]
            by_cases e : q = j
            · subst e; rw [if_pos (by omega), if_pos rfl]; show _ = (if q < q then dY A q (i + 1 + 1) else dY A q (i + 1)); rw [if_neg (by omega)]
            · rw [zlt_s e, if_neg e]; rfl
      unfold fM_minute_L67
      rw [ht2, if_neg (nI_ge hj (by omega)), zrd_n hj6 (by omega), hto j hj, z_91 j]
      simp only [Option.bind_some]
      rw [zrd_n (by omega) (by omega), hw0]
      simp only [Option.bind_some, zlet]
      by_cases e : aTo B A j = dW A 0 j
      · rw [if_pos (by rw [e])]
        have hAP : aPr B P A (j + 1) = aPr B P A j := by rw [aPr, if_neg (show ¬ (j < P ∧ aTo B A j ≠ dW A 0 j) from fun h => h.2 e)]
        have := hcont (aMd B P A j) t1 g gK hM rfl rfl rfl rfl rfl rfl rfl rfl rfl hAP.symm
        rw [zrd_n hj6 (by omega), hto j hj, z_91 j] at this
        exact this
      · have hpr := aPr_le (B := B) hV j (aTo B A j) (by omega)
        rw [if_neg (fun h => e ((nI_eq (by omega) (by omega)).mp h))]
        rw [z_207, zrd_n (by omega) (by omega), show t1 (207 + aTo B A j) = nI (aPr B P A j (aTo B A j)) from g.2.2.2.2.2.2.2.2.2 _ (by omega)]
        simp only [Option.bind_some, nI_1]
        have hles : fM_lesser 9999 (nI (aPr B P A j (aTo B A j) + 1)) = nI (if aPr B P A j (aTo B A j) + 1 < 9999 then aPr B P A j (aTo B A j) + 1 else 9999) := by
          unfold fM_lesser
          by_cases e2 : aPr B P A j (aTo B A j) + 1 < 9999
          · rw [if_pos e2]
            first
              | rw [if_neg (show ¬ (9999 : Int32) < nI (aPr B P A j (aTo B A j) + 1) from nI_nlt (a := 9999) (by omega) (by omega))]
              | rw [if_pos (show nI (aPr B P A j (aTo B A j) + 1) ≤ (9999 : Int32) from nI_le (b := 9999) (by omega) (by omega))]
          · rw [if_neg e2]
            have e3 : aPr B P A j (aTo B A j) + 1 = 9999 ∨ aPr B P A j (aTo B A j) + 1 = 10000 := by omega
            rcases e3 with e3 | e3 <;> rw [e3] <;> decide
        rw [hles, zwr_n (by omega) (by omega)]
        simp only [Option.bind_some]
        have hp := sD_P hP g hM (x0 := aTo B A j) (v := if aPr B P A j (aTo B A j) + 1 < 9999 then aPr B P A j (aTo B A j) + 1 else 9999) (by omega)
        have hAP : aPr B P A (j + 1) = zup (aPr B P A j) (aTo B A j) (if aPr B P A j (aTo B A j) + 1 < 9999 then aPr B P A j (aTo B A j) + 1 else 9999) := by rw [aPr, if_pos (show j < P ∧ aTo B A j ≠ dW A 0 j from ⟨hj, e⟩)]
        have := hcont _ _ hp (sK_up gK (by omega)) hM rfl rfl rfl rfl rfl rfl rfl rfl rfl hAP.symm
        rw [zrd_n hj6 (by omega), hto j hj, z_91 j] at this
        simp only [Option.bind_some, zlet, nI_1] at this
        exact this
    · rintro ⟨t1, t2⟩ ⟨rfl, g, gK⟩
      try dsimp only at *
      refine ⟨t1, ?_, g, gK⟩
      unfold fM_minute_L67
      rw [show t1 2 = nI P from (gK 2 (by omega)).trans hs2, if_pos (nI_le (Nat.le_refl _) (by omega))]
  obtain ⟨s', k1, k2, k3⟩ := key
  refine ⟨s', k1, sD_ext k2 rfl rfl (fun q k hq hk => ?_) (fun _ _ => rfl) (fun _ _ => rfl) (fun _ _ => rfl) (fun q hq => ?_) (fun q i hq hi => ?_) (fun _ _ => rfl) (fun c _ => by show aPr B P A 6 c = aPr B P A P c; rw [aPr_more hP]), k3⟩
  · show (if k = 0 then (if q < 6 then aTo B A q else dW A 0 q) else dW A (k - 1) q) = (if k = 0 then (if q < P then aTo B A q else dW A 0 q) else dW A (k - 1) q)
    rw [if_pos (show q < 6 by omega), if_pos hq]
  · show (if q < 6 then dM A q - 1 else dM A q) = (if q < P then dM A q - 1 else dM A q)
    rw [if_pos hq]
    by_cases e : q < P
    · rw [if_pos e]
    · rw [if_neg e]
      have := (hV.2.2.1 q hq).2
      omega
  · have hi' : i < (if q < P then dM A q - 1 else dM A q) := hi
    show (if q < 6 then dY A q (i + 1) else dY A q i) = (if q < P then dY A q (i + 1) else dY A q i)
    rw [if_pos hq]
    by_cases e : q < P
    · rw [if_pos e]
    · rw [if_neg e] at hi'
      have := (hV.2.2.1 q hq).2
      omega
theorem m_bunsL {C P : Nat} {A : aD} {s to : Nat → Int32} (hC : C ≤ 8) (hP : P ≤ 6) (hs2 : s 2 = nI P) (hV : dV C P A) (h : sD P A s) (hto : ∀ q, q < P → to q = nI (dW A 0 q)) :
    ∃ s', zLP (fun t : (Nat → Int32) × Int32 => fM_minute_L232 to t.1 t.2) (s, 0) = some s' ∧ sD P (aBu A 6) s' ∧ sK s s' := by
  rw [aBu_more (A := A) (P := P) (j := 6) hP (fun q h1 h2 => by
    rcases Nat.eq_zero_or_pos (dA A q) with h3 | h3
    · exact h3
    · have := ((hV.2.1 q h2).2 (by omega)).1; omega)]
  refine zLP_inv (fun k t => t.2 = nI k ∧ sD P (aBu A k) t.1 ∧ sK s t.1) _ P ?_ ?_ ?_
  · exact ⟨rfl, h, sK_rfl⟩
  · rintro j ⟨t1, t2⟩ hj ⟨rfl, g, gK⟩
    try dsimp only at *
    left
    have hj6 : j < 6 := by omega
    obtain ⟨e1, e2, e3, e4, e5, e6, e7⟩ := aBu_same A j
    have hVj := aBu_V hC hV (show j ≤ 6 by omega)
    have hM := dV_M hVj
    have hal := hV.2.1 j hj6
    have hw := hV.1 j 0 hj (by omega)
    have hl := dV_l hVj (show dW A 0 j < 8 by omega)
    unfold fM_minute_L232
    rw [show t1 2 = nI P from (gK 2 (by omega)).trans hs2, if_neg (nI_ge hj (by omega)), z_133, zrd_n (by omega) (by omega), g.2.2.2.2.1 j hj6, e3]
    simp only [Option.bind_some]
    by_cases h1 : dA A j = 0
    · rw [if_pos ((nI_e0 (by omega)).mpr h1)]
      refine ⟨_, rfl, nI_1 j, ?_, gK⟩
      rw [aBu, if_pos (Or.inl h1)]; exact g
    · rw [if_neg (fun h => h1 ((nI_e0 (by omega)).mp h)), zrd_n hj6 (by omega), hto j hj]
      simp only [Option.bind_some]
      rw [z_199, zrd_n (by omega) (by omega), g.2.2.2.2.2.2.2.2.1 _ (by omega)]
      simp only [Option.bind_some]
      by_cases h2 : dL (aBu A j) (dW A 0 j) = 0
      · rw [if_pos ((nI_e0 (by omega)).mpr h2)]
        refine ⟨_, rfl, nI_1 j, ?_, gK⟩
        rw [aBu, if_pos (Or.inr h2)]; exact g
      · rw [if_neg (fun h => h2 ((nI_e0 (by omega)).mp h)), nI_p1 (by omega), zwr_n (by omega) (by omega)]
        simp only [Option.bind_some]
        have w1 := sD_L hP g hM (x0 := dW A 0 j) (v := dL (aBu A j) (dW A 0 j) - 1) (by omega)
        rw [z_127, zrd_n (by omega) (by omega), w1.2.2.2.1 j hj6]
        simp only [Option.bind_some]
        rw [nI_1, zwr_n (by omega) (by omega)]
        have w2 := sD_B hP w1 hM (x0 := j) (v := dB (aBu A j) j + 1) hj6
        have w3 := sD_Fo hP w2 hM (v := dFo (aBu A j) + 1)
        simp only [Option.bind_some, zlet]
        refine ⟨_, rfl, nI_1 j, ?_, sK_up (sK_up (sK_up gK (by omega)) (by omega)) (by omega)⟩
        have e90 := w2.2.1
        rw [aBu, if_neg (show ¬ (dA A j = 0 ∨ dL (aBu A j) (dW A 0 j) = 0) from fun h => h.elim h1 h2)]
        dsimp only
        have e90' : zup (zup t1 (199 + dW A 0 j) (nI (dL (aBu A j) (dW A 0 j) - 1))) (127 + j) (nI (dB (aBu A j) j + 1)) 90 + 1 = nI (dFo (aBu A j) + 1) := by
          rw [e90]; exact nI_1 _
        rw [← e90'] at w3
        exact w3
  · rintro ⟨t1, t2⟩ ⟨rfl, g, gK⟩
    try dsimp only at *
    refine ⟨t1, ?_, g, gK⟩
    unfold fM_minute_L232
    rw [show t1 2 = nI P from (gK 2 (by omega)).trans hs2, if_pos (nI_le (Nat.le_refl _) (by omega))]
theorem m_minute {C P : Nat} {A : aD} {B : Nat → Nat} {s ap to : Nat → Int32} (hC : C ≤ 8) (hP : P ≤ 6) (hs2 : s 2 = nI P) (hB : p_BC B C) (hs : ∀ c, c < 8 → s (3 + c) = nI (B c)) (hf : ∀ c d, c < C → d < C → p_far (nI 1000000) B c d (ap (8 * c + d))) (hV : dV C P A) (h : sD P A s) :
    ∃ s' to', fM_minute s ap to = some (s', to') ∧ sD P (aMin B P A) s' ∧ sK s s' := by
  obtain ⟨to', a1, a2⟩ := m_toL (to := to) hC hP hs2 hB hs hf hV h
  obtain ⟨s1, b1, b2, b3⟩ := m_shiftL (B := B) hP h
  obtain ⟨s2, c1, c2, c3⟩ := m_goL hC hP ((b3 2 (by omega)).trans hs2) hB hV b2 a2
  have hV6 := aMd_V hC hB hP hV 6
  obtain ⟨s3, d1, d2, d3⟩ := m_bunsL hC hP ((c3 2 (by omega)).trans ((b3 2 (by omega)).trans hs2)) hV6 c2 (fun q hq => by
    show to' q = nI (if 0 = 0 then (if q < 6 then aTo B A q else dW A 0 q) else dW A (0 - 1) q)
    rw [if_pos rfl, if_pos (by omega)]; exact a2 q hq)
  have w := sD_Mi hP d2 (dV_M (aBu_V hC hV6 (Nat.le_refl 6))) (v := dMi A + 1)
  have e89 : s3 89 + 1 = nI (dMi A + 1) := by rw [d2.1, (aBu_same (aMd B P A 6) 6).1]; exact nI_1 _
  unfold fM_minute
  rw [a1]
  simp only [Option.bind_some]
  rw [b1]
  simp only [Option.bind_some]
  rw [c1]
  simp only [Option.bind_some]
  rw [d1]
  simp only [Option.bind_some, zlet, e89]
  exact ⟨_, _, rfl, w, sK_up (sK_trans b3 (sK_trans c3 d3)) (by omega)⟩
