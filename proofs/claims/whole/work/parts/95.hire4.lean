/-! ===== the reference's choice out of its table; the calls ===== -/
section HP
variable {C P : Nat} {B : Nat → Nat} {A : aD} {rp bs far s ap : Nat → Int32}
theorem k_dd (G : gX C P B rp bs far) (V : dV C P A) {p r : Nat} (h : kOk P A far p r = true) : kDd A far p r ≤ 7 ∧ r < P ∧ p < P := by
  unfold kOk kHq kId at h
  simp only [Bool.and_eq_true, decide_eq_true_eq, Bool.not_eq_true', decide_eq_false_iff_not] at h
  obtain ⟨⟨⟨p1, -, -⟩, ⟨r1, -, -⟩⟩, h2⟩ := h
  refine ⟨?_, r1, p1⟩
  rcases G.2.2.2.2.2 _ _ (V.1 r 0 r1 (by omega)) (V.1 p 0 p1 (by omega)) with ⟨k, k1, k2, k3⟩ | ⟨h3, -⟩
  · unfold kDd; rw [k2, nI_clamp (by omega)]; omega
  · exact absurd h3 h2
theorem hO_ok {ok : Nat → Nat → Bool} {n set r : Nat} (h : hO ok n set r = true) : ok (5 - n) r = true := by
  unfold hO at h; rw [Bool.and_eq_true] at h; exact h.1
theorem m_pick (G : gX C P B rp bs far) (M : gM C P B s ap) (d2 : sD P A s) (V : dV C P A) {wo hr : Nat → Int32} {n set : Nat} (hn : n ≤ 5) (hq : 5 - n < P) (hset : set < 64) (hw : ∀ q set, q ≤ P → set < 64 → wo (64 * q + set) = nI (hW (kOk P A far) (kDd A far) (6 - q) set)) :
    ∃ hr', zLP (fun t : (Nat → Int32) × Int32 => fM_hires_L197 s ap wo (nI set) (nI (5 - n)) (nI (zset (hO (kOk P A far) n set) P)) t.1 t.2) (zup hr (5 - n) (-1), nI P - 1) = some hr' ∧ hr' (5 - n) = hCI (hC (kOk P A far) (kDd A far) n set) ∧ ∀ j, j ≠ 5 - n → hr' j = hr j := by
  have hP := G.2.1
  have hz : zset (hO (kOk P A far) n set) P < 64 := Nat.lt_of_lt_of_le (zset_lt _ _) (Nat.pow_le_pow_right (by omega) hP : 2 ^ P ≤ 2 ^ 6)
  have hWb := hV_le (ok := kOk P A far) (dd := kDd A far) (n + 1) set
  have hVb : ∀ r, hV (kOk P A far) (kDd A far) n set r ≤ 6000 := fun r => by have := hV_le (ok := kOk P A far) (dd := kDd A far) n (set ||| 2 ^ r); unfold hV; omega
  refine zLP_inv (fun k t => t.2 = nI (P - k) - 1 ∧ (∀ j, j ≠ 5 - n → t.1 j = hr j) ∧ ((t.1 (5 - n) = -1 ∧ ∀ r, P - k ≤ r → r < P → hO (kOk P A far) n set r = true → hV (kOk P A far) (kDd A far) n set r ≠ hW (kOk P A far) (kDd A far) (n + 1) set) ∨ ∃ r0, P - k ≤ r0 ∧ r0 < P ∧ hO (kOk P A far) n set r0 = true ∧ hV (kOk P A far) (kDd A far) n set r0 = hW (kOk P A far) (kDd A far) (n + 1) set ∧ (∀ r, P - k ≤ r → r < r0 → hO (kOk P A far) n set r = true → hV (kOk P A far) (kDd A far) n set r ≠ hW (kOk P A far) (kDd A far) (n + 1) set) ∧ t.1 (5 - n) = nI r0)) _ P ⟨rfl, fun j hj => zup_n hj, Or.inl ⟨zup_s, fun r h1 h2 => absurd h1 (by omega)⟩⟩ ?_ ?_
  · rintro k ⟨t1, t2⟩ hk ⟨e1, e2, e3⟩
    dsimp only at e1 e2 e3
    left
    have hwq : wo (64 * (5 - n) + set) = nI (hW (kOk P A far) (kDd A far) (n + 1) set) := by rw [hw _ _ (by omega) hset, show 6 - (5 - n) = n + 1 by omega]
    have skip : (hO (kOk P A far) n set (P - k - 1) = true → hV (kOk P A far) (kDd A far) n set (P - k - 1) ≠ hW (kOk P A far) (kDd A far) (n + 1) set) → ((t1 (5 - n) = -1 ∧ ∀ r, P - (k + 1) ≤ r → r < P → hO (kOk P A far) n set r = true → hV (kOk P A far) (kDd A far) n set r ≠ hW (kOk P A far) (kDd A far) (n + 1) set) ∨ ∃ r0, P - (k + 1) ≤ r0 ∧ r0 < P ∧ hO (kOk P A far) n set r0 = true ∧ hV (kOk P A far) (kDd A far) n set r0 = hW (kOk P A far) (kDd A far) (n + 1) set ∧ (∀ r, P - (k + 1) ≤ r → r < r0 → hO (kOk P A far) n set r = true → hV (kOk P A far) (kDd A far) n set r ≠ hW (kOk P A far) (kDd A far) (n + 1) set) ∧ t1 (5 - n) = nI r0) := fun hs => by
      have hs' : ∀ r, P - (k + 1) ≤ r → ¬ P - k ≤ r → hO (kOk P A far) n set r = true → hV (kOk P A far) (kDd A far) n set r ≠ hW (kOk P A far) (kDd A far) (n + 1) set := fun r h1 h2 => by
        have e : r = P - k - 1 := by omega
        rw [e]; exact hs
      rcases e3 with ⟨a1, a2⟩ | ⟨r0, a1, a2, a3, a4, a5, a6⟩
      · exact Or.inl ⟨a1, fun r h1 h2 => if h : P - k ≤ r then a2 r h h2 else hs' r h1 h⟩
      · exact Or.inr ⟨r0, by omega, a2, a3, a4, fun r h1 h2 => if h : P - k ≤ r then a5 r h h2 else hs' r h1 h, a6⟩
    show ∃ t', fM_hires_L197 s ap wo (nI set) (nI (5 - n)) (nI (zset (hO (kOk P A far) n set) P)) t1 t2 = some (.inl t') ∧ _
    unfold fM_hires_L197
    rw [e1, nI_dn hk, if_neg (nI_pos (by omega)), z_bo (by omega) (by omega), zset_tb, decide_eq_true (show P - k - 1 < P by omega), Bool.true_and]
    by_cases c : hO (kOk P A far) n set (P - k - 1) = true
    · have hwr : wo (64 * (6 - n) + (set ||| 2 ^ (P - k - 1))) = nI (hW (kOk P A far) (kDd A far) n (set ||| 2 ^ (P - k - 1))) := by
        rw [hw (6 - n) _ (by omega) (or_lt64 hset (by omega)), show 6 - (6 - n) = n by omega]
      rw [if_pos c, m_worthR G M d2 V hn hq hset (by omega) c hwr, Option.bind_some, z_64, zrd_n (by omega) (by omega), hwq, Option.bind_some]
      by_cases w : hV (kOk P A far) (kDd A far) n set (P - k - 1) = hW (kOk P A far) (kDd A far) (n + 1) set
      · rw [if_pos (by rw [w]), zwr_n (by omega) (by omega), Option.bind_some, zlet_e, nI_dn1 hk]
        refine ⟨_, rfl, rfl, fun j hj => ?_, Or.inr ⟨P - k - 1, by omega, by omega, c, w, fun r h1 h2 => absurd h1 (by omega), zup_s⟩⟩
        show zup t1 (5 - n) _ j = hr j
        rw [zup_n hj]; exact e2 j hj
      · have := hVb (P - k - 1)
        rw [if_neg (fun h => w ((nI_eq (by omega) (by omega)).mp h)), zlet_e, nI_dn1 hk]
        exact ⟨_, rfl, rfl, e2, skip (fun _ => w)⟩
    · rw [if_neg c, zlet_e, nI_dn1 hk]
      exact ⟨_, rfl, rfl, e2, skip (fun h => absurd h c)⟩
  · rintro ⟨t1, t2⟩ ⟨e1, e2, e3⟩
    dsimp only at e1 e2 e3
    refine ⟨t1, ?_, ?_, e2⟩
    · show fM_hires_L197 s ap wo (nI set) (nI (5 - n)) (nI (zset (hO (kOk P A far) n set) P)) t1 t2 = _
      unfold fM_hires_L197
      rw [e1, show P - P = 0 by omega, if_pos (by decide)]
    · obtain ⟨s1, s2⟩ := hMF_sp (v := hV (kOk P A far) (kDd A far) n set) (o := hO (kOk P A far) n set) 6
      have s1' : ∀ r, r < 6 → hO (kOk P A far) n set r = true → hV (kOk P A far) (kDd A far) n set r ≤ (hX (kOk P A far) (kDd A far) n set).1 := s1
      rw [hW_s] at e3
      unfold hC
      by_cases c : (hX (kOk P A far) (kDd A far) n set).1 = 0 ∨ (hX (kOk P A far) (kDd A far) n set).1 < hW (kOk P A far) (kDd A far) n set
      · rw [if_pos c]
        rcases e3 with ⟨a1, a2⟩ | ⟨r0, a1, a2, a3, a4, a5, a6⟩
        · exact a1
        · have h1 := s1' r0 (by omega) a3
          have h2 := (k_dd G V (hO_ok a3)).1
          have h3 : 0 < hV (kOk P A far) (kDd A far) n set r0 := by unfold hV; omega
          omega
      · obtain ⟨f1, f2, f3, f4⟩ := s2 (fun h => c (Or.inl h))
        have f2' : hO (kOk P A far) n set (hX (kOk P A far) (kDd A far) n set).2 = true := f2
        have f3' : hV (kOk P A far) (kDd A far) n set (hX (kOk P A far) (kDd A far) n set).2 = (hX (kOk P A far) (kDd A far) n set).1 := f3
        have f4' : ∀ r, r < (hX (kOk P A far) (kDd A far) n set).2 → hO (kOk P A far) n set r = true → hV (kOk P A far) (kDd A far) n set r < (hX (kOk P A far) (kDd A far) n set).1 := f4
        have fP := (k_dd G V (hO_ok f2')).2.1
        rw [if_neg c]
        rcases e3 with ⟨a1, a2⟩ | ⟨r0, a1, a2, a3, a4, a5, a6⟩
        · exact absurd (show _ = _ by omega) (a2 _ (by omega) fP f2')
        · rcases Nat.lt_trichotomy r0 (hX (kOk P A far) (kDd A far) n set).2 with e | e | e
          · have := f4' r0 e a3; omega
          · rw [← e]; exact a6
          · exact absurd (show _ = _ by omega) (a5 _ (by omega) e f2')
theorem hC_some {ok : Nat → Nat → Bool} {dd : Nat → Nat → Nat} {n set r : Nat} (h : hC ok dd n set = some r) : r < 6 ∧ hO ok n set r = true ∧ hV ok dd n set r = hW ok dd (n + 1) set := by
  unfold hC at h
  split at h
  · cases h
  · next c =>
    obtain ⟨f1, f2, f3, f4⟩ := (hMF_sp (v := hV ok dd n set) (o := hO ok n set) 6).2 (fun q => c (Or.inl q))
    have e : (hX ok dd n set).2 = r := Option.some.inj h
    rw [← e, hW_s]
    refine ⟨f1, f2, f3.trans ?_⟩
    show (hX ok dd n set).1 = _
    omega
theorem hC_none {ok : Nat → Nat → Bool} {dd : Nat → Nat → Nat} {n set : Nat} (h : hC ok dd n set = none) : hW ok dd (n + 1) set = hW ok dd n set := by
  unfold hC at h
  split at h
  · next c => rw [hW_s]; omega
  · cases h
theorem m_hires (G : gX C P B rp bs far) (M : gM C P B s ap) (d2 : sD P A s) (V : dV C P A) {rm wo hr : Nat → Int32} :
    ∃ rm' wo' hr' a b, fM_hires rm s ap wo hr = some (rm' 35, rm', wo', hr') ∧ rm' 35 = nI a ∧ rm' 36 = nI b ∧ a ≤ 6 ∧ b ≤ 7 * a ∧ 1000 * a - b = hW (kOk P A far) (kDd A far) 6 0 ∧ (∀ i, i < 6 → hr' i = hG (kOk P A far) (kDd A far) 6 0 i) ∧ rm' 0 = 0 ∧ ∀ j, j ≠ 0 → j ≠ 35 → j ≠ 36 → rm' j = rm j := by
  have hP := G.2.1
  have hC8 := G.1
  obtain ⟨w1, w2, t1, t2, t3⟩ := m_table (wo := wo) G M d2 V
  obtain ⟨⟨rm', hr'⟩, k1, k2⟩ : ∃ q, zLP (fun t : (Nat → Int32) × (Nat → Int32) × Int32 × Int32 => fM_hires_L154 s ap w2 t.1 t.2.1 t.2.2.1 t.2.2.2) (zup (zup (zup rm 0 0) 35 0) 36 0, hr, 0, 0) = some q ∧ (∃ a b, q.1 35 = nI a ∧ q.1 36 = nI b ∧ a ≤ 6 ∧ b ≤ 7 * a ∧ 1000 * a - b = hW (kOk P A far) (kDd A far) 6 0 ∧ (∀ i, i < 6 → q.2 i = hG (kOk P A far) (kDd A far) 6 0 i) ∧ ∀ j, j ≠ 35 → j ≠ 36 → q.1 j = zup rm 0 0 j) := by
    refine zLP_inv (fun k t => t.2.2.2 = nI k ∧ ∃ set a b, set < 64 ∧ t.2.2.1 = nI set ∧ t.1 35 = nI a ∧ t.1 36 = nI b ∧ a ≤ k ∧ b ≤ 7 * a ∧ 1000 * a - b + hW (kOk P A far) (kDd A far) (6 - k) set = hW (kOk P A far) (kDd A far) 6 0 ∧ (∀ i, i < k → t.2.1 i = hG (kOk P A far) (kDd A far) 6 0 i) ∧ (∀ i, k ≤ i → i < 6 → hG (kOk P A far) (kDd A far) 6 0 i = hG (kOk P A far) (kDd A far) (6 - k) set i) ∧ ∀ j, j ≠ 35 → j ≠ 36 → t.1 j = zup rm 0 0 j) _ 6 ⟨rfl, 0, 0, 0, by omega, rfl, ?_, ?_, by omega, by omega, by show 1000 * 0 - 0 + hW (kOk P A far) (kDd A far) 6 0 = hW (kOk P A far) (kDd A far) 6 0; omega, fun i hi => absurd hi (by omega), fun _ _ _ => rfl, fun j h1 h2 => ?_⟩ ?_ ?_
    · show zup (zup (zup rm 0 0) 35 0) 36 0 35 = nI 0
      rw [zup_n (by omega), zup_s]; rfl
    · show zup (zup (zup rm 0 0) 35 0) 36 0 36 = nI 0
      rw [zup_s]; rfl
    · show zup (zup (zup rm 0 0) 35 0) 36 0 j = _
      rw [zup_n h2, zup_n h1]
    · rintro k ⟨u1, u2, u3, u4⟩ hk ⟨e1, set, a, b, e2, e3, e4, e5, e6, e7, e8, e9, e10, e11⟩
      dsimp only at e1 e3 e4 e5 e9 e11
      left
      obtain ⟨n, hn, rfl⟩ : ∃ n, n ≤ 5 ∧ 5 - n = k := ⟨5 - k, by omega, by omega⟩
      rw [show 6 - (5 - n) = n + 1 by omega] at e8 e10
      have hG1 : hG (kOk P A far) (kDd A far) 6 0 (5 - n) = hCI (hC (kOk P A far) (kDd A far) n set) := by
        rw [e10 _ (Nat.le_refl _) (by omega), hG, if_pos rfl]
      have hG2 : ∀ i, 5 - n + 1 ≤ i → i < 6 → hG (kOk P A far) (kDd A far) 6 0 i = hG (kOk P A far) (kDd A far) n (hCS set (hC (kOk P A far) (kDd A far) n set)) i := fun i h1 h2 => by
        rw [e10 i (by omega) h2, hG, if_neg (by omega)]
      have hrow : ∀ w : Nat → Int32, w (5 - n) = hCI (hC (kOk P A far) (kDd A far) n set) → (∀ j, j ≠ 5 - n → w j = u2 j) → ∀ i, i < 5 - n + 1 → w i = hG (kOk P A far) (kDd A far) 6 0 i := fun w h1 h2 i hi => by
        by_cases e : i = 5 - n
        · rw [e, h1, hG1]
        · rw [h2 i e]; exact e9 i (by omega)
      have h6 : 6 - (5 - n + 1) = n := by omega
      show ∃ t', fM_hires_L154 s ap w2 u1 u2 u3 u4 = some (.inl t') ∧ _
      unfold fM_hires_L154
      rw [e1, if_neg (zg6 hk), zwr_n (by omega) (by omega), Option.bind_some, M.1, e3]
      by_cases c : 5 - n < P
      · obtain ⟨hr2, p1, p2, p3⟩ := m_pick (hr := u2) G M d2 V hn c e2 t3
        have hz := zrd_n (f := hr2) (n := 6) (k := 5 - n) (by omega) (by omega)
        rw [if_pos (nI_lt c (by omega)), m_could G M d2 V c e2, Option.bind_some, zlet_e, p1, Option.bind_some, hz, Option.bind_some, p2]
        cases hc : hC (kOk P A far) (kDd A far) n set with
        | none =>
          rw [if_neg (show ¬ (0 : Int32) ≤ hCI none by decide), zlet_e, nI_1]
          refine ⟨(u1, hr2, nI set, nI (5 - n + 1)), rfl, rfl, set, a, b, e2, rfl, e4, e5, by omega, e7, ?_, hrow hr2 p2 p3, ?_, e11⟩
          · rw [h6, ← e8, hC_none hc]
          · intro i h1 h2
            rw [h6, hG2 i h1 h2, hc]; rfl
        | some r =>
          obtain ⟨r1, r2, r3⟩ := hC_some hc
          obtain ⟨q1, q2, q3⟩ := k_dd G V (hO_ok r2)
          have v1 := V.1 r 0 q2 (by omega)
          have v2 := V.1 (5 - n) 0 c (by omega)
          have hap : ap (8 * dW A 0 r + dW A 0 (5 - n)) = nI (kDd A far (5 - n) r) := by
            have := hO_ok r2
            unfold kOk at this
            simp only [Bool.and_eq_true, Bool.not_eq_true', decide_eq_false_iff_not] at this
            rcases k_far G M v1 v2 with ⟨f1, f2⟩ | ⟨f1, j, f2, f3, f4⟩
            · exact absurd f1 this.2
            · unfold kDd; rw [f3, f4, nI_clamp (by omega)]
          rw [if_pos (show (0 : Int32) ≤ hCI (some r) from nI_pos' (by omega)), Option.bind_some, zlet_e, zlet_e, Option.bind_some, show hCI (some r) = nI r from rfl, z_91, zrd_n (by omega) (by omega), m_91 d2 q2, Option.bind_some, z_91, zrd_n (by omega) (by omega), m_91 d2 c, Option.bind_some, z_8mul, zrd_n (by omega) (by omega), hap, Option.bind_some, zlet_e, zlet_e, nI_1, z_sh (by omega), z_or]
          have hve : 1000 - kDd A far (5 - n) r + hW (kOk P A far) (kDd A far) n (set ||| 2 ^ r) = hW (kOk P A far) (kDd A far) (n + 1) set := r3
          refine ⟨(zup (zup u1 35 (u1 35 + 1)) 36 (zup u1 35 (u1 35 + 1) 36 + nI (kDd A far (5 - n) r)), hr2, nI (set ||| 2 ^ r), nI (5 - n + 1)), rfl, rfl, set ||| 2 ^ r, a + 1, b + kDd A far (5 - n) r, or_lt64 e2 r1, rfl, ?_, ?_, by omega, by omega, ?_, hrow hr2 p2 p3, ?_, fun j h1 h2 => ?_⟩
          · show zup (zup u1 35 (u1 35 + 1)) 36 (zup u1 35 (u1 35 + 1) 36 + nI (kDd A far (5 - n) r)) 35 = _
            rw [zup_n (by omega), zup_s, e4, nI_1]
          · show zup (zup u1 35 (u1 35 + 1)) 36 (zup u1 35 (u1 35 + 1) 36 + nI (kDd A far (5 - n) r)) 36 = _
            rw [zup_s, zup_n (by omega), e5, nI_add]
          · rw [h6]; omega
          · intro i h1 h2
            rw [h6, hG2 i h1 h2, hc]; rfl
          · show zup (zup u1 35 (u1 35 + 1)) 36 (zup u1 35 (u1 35 + 1) 36 + nI (kDd A far (5 - n) r)) j = _
            rw [zup_n h2, zup_n h1]; exact e11 j h1 h2
      · have hx : hC (kOk P A far) (kDd A far) n set = none := by
          unfold hC
          rw [hX_no (fun r _ => kOk_out (by omega)), if_pos (Or.inl rfl)]
        rw [if_neg (nI_nlt (by omega) (by omega)), zlet_e, nI_1]
        refine ⟨(u1, zup u2 (5 - n) (-1), nI set, nI (5 - n + 1)), rfl, rfl, set, a, b, e2, rfl, e4, e5, by omega, e7, ?_, hrow _ ?_ (fun j hj => zup_n hj), ?_, e11⟩
        · rw [h6, ← e8, hC_none hx]
        · rw [hx]; exact zup_s
        · intro i h1 h2
          rw [h6, hG2 i h1 h2, hx]; rfl
    · rintro ⟨u1, u2, u3, u4⟩ ⟨e1, set, a, b, e2, e3, e4, e5, e6, e7, e8, e9, e10, e11⟩
      dsimp only at e1 e3 e4 e5 e9 e11
      refine ⟨(u1, u2), ?_, a, b, e4, e5, e6, e7, e8, e9, e11⟩
      show fM_hires_L154 s ap w2 u1 u2 u3 u4 = _
      unfold fM_hires_L154
      rw [e1, if_pos (by decide)]
  obtain ⟨a, b, a1, a2, a3, a4, a5, a6, a7⟩ := k2
  dsimp only at a1 a2 a6 a7
  refine ⟨rm', w2, hr', a, b, ?_, a1, a2, a3, a4, a5, a6, ?_, fun j h0 h1 h2 => ?_⟩
  · unfold fM_hires
    rw [zlet_e, t1, Option.bind_some, zlet_e, M.1, t2, Option.bind_some, zlet_e, zlet_e, k1, Option.bind_some]
  · rw [a7 0 (by omega) (by omega), zup_s]
  · rw [a7 j h1 h2, zup_n h0]
end HP
/-- what both hold of the last choice -/
def kR (r0 ch rm hr : Nat → Int32) : Prop := (r0 2 = -1 ∧ r0 3 = -1 ∧ rm 35 = -1 ∧ ∀ i, i < 6 → ch i = -1) ∨ ∃ a b, a ≤ 6 ∧ b ≤ 42 ∧ r0 2 = nI a ∧ r0 3 = nI b ∧ rm 35 = nI a ∧ rm 36 = nI b ∧ ∀ i, i < 6 → ch i = hr i
section HC
variable {C P : Nat} {B : Nat → Nat} {A : aD} {rp bs far f pl bu le di wa lf ly pr r0 tr ch rm s ap wo hr : Nat → Int32}
theorem c_hires (G : gX C P B rp bs far) (M : gM C P B s ap) (r6 : rp 6 = nI P) (D : dR C P A f pl bu le di wa lf ly pr s s) :
    ∃ X Y, fX_hires rp far pl le lf r0 tr ch = some X ∧ fM_hires rm s ap wo hr = some Y ∧ X.1 = Y.1 ∧ kR X.2.1 X.2.2.2 Y.2.1 Y.2.2.2 ∧ Y.2.1 0 = 0 ∧ ∀ j, j ≠ 0 → j ≠ 35 → j ≠ 36 → Y.2.1 j = rm j := by
  obtain ⟨d1, d2, d3, d4, d5⟩ := D
  obtain ⟨r0', tr', ch', x1, x2, x3⟩ := x_hires (r0 := r0) (tr := tr) (ch := ch) G r6 d1 d4
  obtain ⟨rm', wo', hr', a, b, m1, m2, m3, m4, m5, m6, m7, m8, m9⟩ := m_hires (rm := rm) (wo := wo) (hr := hr) G M d2 d4
  rcases x2 with ⟨z1, -⟩ | ⟨a', b', z1, z2, z3, z4, z5⟩
  · omega
  · have ea : a' = a := by omega
    have eb : b' = b := by omega
    subst ea eb
    refine ⟨_, _, x1, m1, z4.trans m2.symm, Or.inr ⟨a', b', m4, by omega, z4, z5, m2, m3, fun i hi => (x3 i hi).trans (m7 i hi).symm⟩, m8, m9⟩
theorem c_hiresFar (K : kR r0 ch rm hr) : fM_hiresFar rm = some (fX_hiresFar r0, zup rm 0 0) := by
  unfold fM_hiresFar fX_hiresFar fPr_farInAll
  rw [zlet_e, zup_n (by omega), zup_n (by omega)]
  rcases K with ⟨h1, h2, h3, h4⟩ | ⟨a, b, h1, h2, h3, h4, h5, h6, h7⟩
  · rw [h3, h2, if_neg (by decide)]
  · rw [h5, h6, h4, if_pos (nI_pos' (by omega))]
theorem c_hiredBy {a1 : Int32} (K : kR r0 ch rm hr) : ∃ v, fX_hiredBy ch a1 = some v ∧ fM_hiredBy rm hr a1 = some (v, zup rm 0 0) := by
  unfold fM_hiredBy fX_hiredBy fPr_chosenFor fM_isIn
  rw [zlet_e, zup_n (by omega)]
  by_cases c1 : a1 < 0
  · rw [if_pos c1, if_pos c1, if_neg (show ¬ false = true by decide)]
    refine ⟨_, rfl, ?_⟩
    split <;> rfl
  · rw [if_neg c1, if_neg c1]
    by_cases c2 : 6 ≤ a1
    · have c3 : 5 < a1 := Int32.lt_of_lt_of_le (show (5 : Int32) < 6 by decide) c2
      rw [if_pos c2, if_pos c3, if_neg (show ¬ false = true by decide)]
      refine ⟨_, rfl, ?_⟩
      split <;> rfl
    · obtain ⟨i, i1, i2, rfl⟩ := i32_in (lo := 0) (hi := 5) (x := a1) (by omega) (by omega) c1 (fun h => c2 (by
        obtain ⟨j, j1, rfl⟩ := nI_of (x := a1) c1
        have := (nI_ltI (a := 5) (b := j) (by omega) j1).mp h
        exact nI_le (a := 6) (by omega) j1))
      rw [if_neg c2, if_neg (show ¬ (5 : Int32) < nI i from nI_nlt (a := 5) i2 (by omega)), if_pos rfl, zrd_n (by omega) (by omega), zrd_n (by omega) (by omega), Option.bind_some, Option.bind_some, Option.bind_some]
      refine ⟨_, rfl, ?_⟩
      rcases K with ⟨h1, h2, h3, h4⟩ | ⟨a, b, h1, h2, h3, h4, h5, h6, h7⟩
      · rw [h3, if_pos (by decide), h4 i (by omega)]
      · rw [h5, if_neg (nI_pos (by omega)), h7 i (by omega)]
end HC
