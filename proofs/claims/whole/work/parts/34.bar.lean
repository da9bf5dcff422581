/-! ===== which corners cut one off ===== -/
def p_wo (B : Nat → Nat) (w c : Nat) : Nat := B c &&& (w ^^^ 4294967295)
theorem p_wo_tb {B : Nat → Nat} {w c d : Nat} (hd : d < 32) : (p_wo B w c).testBit d = ((B c).testBit d && !w.testBit d) := zdf_tb hd
def p_rch (B : Nat → Nat) (w c d : Nat) : Prop := ∃ j, p_wk (p_wo B w) 8 j c d
theorem p_rch8 {B : Nat → Nat} {w c d : Nat} (hc : c < 8) (h : p_rch B w c d) : ∃ j, j ≤ 8 ∧ p_wk (p_wo B w) 8 j c d := by
  obtain ⟨n, hn⟩ := h
  obtain ⟨k, -, hk⟩ := p_D_ex hn
  exact ⟨k, by have := p_D_lt hc hk; omega, hk.1⟩
def p_re (B : Nat → Nat) (w c : Nat) : Nat → Nat
  | 0 => 2 ^ c
  | k + 1 => p_re B w c k ||| (p_ba B (p_re B w c k) 8 &&& (w ^^^ 4294967295))
theorem z_2p {c : Nat} (hc : c < 8) : 2 ^ c < 256 := by have := Nat.pow_lt_pow_right (a := 2) (by omega) hc; omega
theorem p_re_lt {B : Nat → Nat} (hB : ∀ c, c < 8 → B c < 256) {w c k : Nat} (hc : c < 8) : p_re B w c k < 256 := by
  induction k with
  | zero => exact z_2p hc
  | succ k ih =>
    rw [p_re]
    exact Nat.or_lt_two_pow (n := 8) ih (Nat.lt_of_le_of_lt Nat.and_le_left (p_ba_lt hB (Nat.le_refl 8)))
theorem p_re_tb {B : Nat → Nat} {w c k d : Nat} (hc : c < 8) (hd : d < 8) : (p_re B w c k).testBit d = true ↔ ∃ j, j ≤ k ∧ p_wk (p_wo B w) 8 j c d := by
  induction k generalizing d with
  | zero =>
    rw [p_re, Nat.testBit_two_pow, decide_eq_true_eq]
    constructor
    · intro e; exact ⟨0, Nat.le_refl _, e⟩
    · rintro ⟨j, j1, j2⟩
      rw [show j = 0 by omega] at j2; exact j2
  | succ k ih =>
    rw [p_re, Nat.testBit_or, Bool.or_eq_true, ih hd, zdf_tb (by omega), Bool.and_eq_true, p_ba_tb]
    constructor
    · rintro (⟨j, j1, j2⟩ | ⟨⟨e, e1, e2, e3⟩, h4⟩)
      · exact ⟨j, by omega, j2⟩
      · obtain ⟨j, j1, j2⟩ := (ih e1).mp e2
        refine ⟨j + 1, by omega, p_wk_snoc j2 hd ?_⟩
        rw [p_wo_tb (by omega), e3, h4]; rfl
    · rintro ⟨j, j1, j2⟩
      cases j with
      | zero => exact Or.inl ⟨0, by omega, j2⟩
      | succ j =>
        obtain ⟨e, e1, e2, e3, e4⟩ := p_wk_unsnoc hc j2
        rw [p_wo_tb (by omega), Bool.and_eq_true] at e3
        exact Or.inr ⟨⟨e, e1, (ih e1).mpr ⟨j, by omega, e2⟩, e3.1⟩, e3.2⟩
theorem p_reached {bs : Nat → Int32} {B : Nat → Nat} (hB : ∀ c, c < 8 → B c < 256) (hb : ∀ c, c < 8 → bs c = nI (B c)) {c w : Nat} (hc : c < 8) : fPl_reached bs (nI c) (nI w) = some (nI (p_re B w c 8)) := by
  unfold fPl_reached
  rw [z_sh (by omega)]
  simp only [zlet]
  refine Eq.trans (zLP_bcnt (r := nI (p_re B w c 8)) (fun k => (nI (p_re B w c k), nI k)) 8 rfl ?_ ?_) rfl
  · intro k hk
    show fPl_reached_L7 bs (nI w) (nI (p_re B w c k)) (nI k) = _
    unfold fPl_reached_L7
    rw [if_neg (zg8 hk), p_besideAny hb (p_re_lt hB hc)]
    simp only [Option.bind_some, zlet, z_df, z_or, nI_1, p_re]
  · show fPl_reached_L7 bs (nI w) (nI (p_re B w c 8)) (nI 8) = _
    unfold fPl_reached_L7
    rw [if_pos (by decide)]
theorem p_isReached {s : Nat → Int32} {B : Nat → Nat} {C : Nat} (hC : C ≤ 8) (hs0 : s 0 = nI C) (hB : p_BC B C) (hs : ∀ c, c < 8 → s (3 + c) = nI (B c)) {c d w : Nat} (hc : c < 8) (hd : d < 8) :
    ∃ b, fM_isReached s (nI c) (nI d) (nI w) = some b ∧ (b = true ↔ p_rch B w c d) := by
  have hBl : ∀ c, c < 8 → B c < 256 := fun c hc => p_BC_lt hC hB hc
  have inner : ∀ (n r : Nat), n < 256 → (∀ d, d < 8 → n.testBit d = true → p_rch B w c d) → (∀ d, d < 8 → (∃ j, j ≤ r ∧ p_wk (p_wo B w) 8 j c d) → n.testBit d = true) →
      ∃ q, zLP (fun t : Int32 × Int32 => fM_isReached_L18 s (nI w) t.1 t.2) (nI n, 0) = some q ∧ ∃ n', q = nI n' ∧ n' < 256 ∧ (∀ d, d < 8 → n'.testBit d = true → p_rch B w c d) ∧ (∀ d, d < 8 → (∃ j, j ≤ r + 1 ∧ p_wk (p_wo B w) 8 j c d) → n'.testBit d = true) := by
    intro n r hn hsnd hcmp
    refine zLP_inv (fun k t => t.2 = nI k ∧ ∃ n', t.1 = nI n' ∧ n' < 256 ∧ (∀ d, d < 8 → n.testBit d = true → n'.testBit d = true) ∧ (∀ d, d < 8 → n'.testBit d = true → p_rch B w c d) ∧ (∀ e, e < k → n.testBit e = true → ∀ d, d < 8 → (p_wo B w e).testBit d = true → n'.testBit d = true)) _ C ⟨rfl, n, rfl, hn, fun _ _ h => h, hsnd, fun e he => absurd he (by omega)⟩ ?_ ?_
    · rintro k ⟨t1, t2⟩ hk ⟨rfl, n', rfl, a1, a2, a3, a4⟩
      try dsimp only at *
      left
      show ∃ t', fM_isReached_L18 s (nI w) (nI n') (nI k) = _ ∧ _
      unfold fM_isReached_L18
      rw [hs0, if_neg (nI_ge hk (by omega)), z_bo a1 (by omega)]
      cases eb : n'.testBit k with
      | true =>
        rw [if_pos rfl, show (3 : Int32) + nI k = nI (3 + k) by rw [show (3 : Int32) = nI 3 from rfl, nI_add], zrd_n (by omega) (by omega), hs k (by omega)]
        simp only [Option.bind_some, zlet, z_df, z_or, nI_1]
        refine ⟨_, rfl, rfl, _, rfl, Nat.or_lt_two_pow (n := 8) a1 (Nat.lt_of_le_of_lt Nat.and_le_left (hBl k (by omega))), fun d hd h => ?_, fun d hd h => ?_, fun e he h d hd h' => ?_⟩
        · rw [Nat.testBit_or, a2 d hd h, Bool.true_or]
        · rw [Nat.testBit_or, Bool.or_eq_true] at h
          rcases h with h | h
          · exact a3 d hd h
          · obtain ⟨j, hj⟩ := a3 k (by omega) eb
            exact ⟨j + 1, p_wk_snoc hj hd h⟩
        · rw [Nat.testBit_or, Bool.or_eq_true]
          rcases Nat.lt_or_ge e k with h6 | h6
          · exact Or.inl (a4 e h6 h d hd h')
          · rw [show e = k by omega] at h'; exact Or.inr h'
      | false =>
        rw [if_neg (by decide)]
        simp only [zlet, nI_1, show nI n' ||| 0 = nI n' by rw [show (0 : Int32) = nI 0 from rfl, z_or, Nat.or_zero]]
        refine ⟨_, rfl, rfl, n', rfl, a1, a2, a3, fun e he h d hd h' => ?_⟩
        rcases Nat.lt_or_ge e k with h6 | h6
        · exact a4 e h6 h d hd h'
        · have h8 : e = k := by omega
          subst h8
          rw [a2 e (by omega) h] at eb; cases eb
    · rintro ⟨t1, t2⟩ ⟨rfl, n', rfl, a1, a2, a3, a4⟩
      try dsimp only at *
      refine ⟨nI n', ?_, n', rfl, a1, a3, fun d hd h => ?_⟩
      · show fM_isReached_L18 s (nI w) (nI n') (nI C) = _
        unfold fM_isReached_L18
        rw [hs0, if_pos (nI_le (Nat.le_refl _) (by omega))]
      · obtain ⟨j, j1, j2⟩ := h
        rcases Nat.lt_or_ge j (r + 1) with h6 | h6
        · exact a2 d hd (hcmp d hd ⟨j, by omega, j2⟩)
        · have h8 : j = r + 1 := by omega
          subst h8
          obtain ⟨e, e1, e2, e3, -⟩ := p_wk_unsnoc hc j2
          have e3' := e3
          rw [p_wo_tb (by omega), Bool.and_eq_true] at e3'
          exact a4 e (hB e e1 d e3'.1).2 (hcmp e e1 ⟨r, Nat.le_refl _, e2⟩) d hd e3
  unfold fM_isReached
  rw [z_sh (by omega)]
  simp only [zlet]
  refine zLP_use (body := fun t : Int32 × Int32 => fM_isReached_L8 s (nI w) t.1 t.2) (s := (nI (2 ^ c), 0)) (fun k t => t.2 = nI k ∧ ∃ n', t.1 = nI n' ∧ n' < 256 ∧ (∀ d, d < 8 → n'.testBit d = true → p_rch B w c d) ∧ (∀ d, d < 8 → (∃ j, j ≤ k ∧ p_wk (p_wo B w) 8 j c d) → n'.testBit d = true))
    (fun q => ∃ n', q = nI n' ∧ n' < 256 ∧ (∀ d, d < 8 → n'.testBit d = true → p_rch B w c d) ∧ (∀ d, d < 8 → (∃ j, j ≤ 8 ∧ p_wk (p_wo B w) 8 j c d) → n'.testBit d = true)) 8 ⟨rfl, 2 ^ c, rfl, z_2p hc, fun d hd h => ?_, fun d hd h => ?_⟩ (fun q h1 h2 => ?_) ?_ ?_
  · rw [Nat.testBit_two_pow, decide_eq_true_eq] at h
    exact ⟨0, h⟩
  · obtain ⟨j, j1, j2⟩ := h
    rw [show j = 0 by omega] at j2
    rw [Nat.testBit_two_pow, decide_eq_true_eq]; exact j2
  · obtain ⟨n', rfl, a1, a2, a3⟩ := h2
    rw [h1]
    refine ⟨_, rfl, ?_⟩
    rw [z_bo a1 hd]
    exact ⟨a2 d hd, fun h => a3 d hd (p_rch8 hc h)⟩
  · rintro k ⟨t1, t2⟩ hk ⟨rfl, n', rfl, a1, a2, a3⟩
    try dsimp only at *
    left
    obtain ⟨q, q1, n2, rfl, b1, b2, b3⟩ := inner n' k a1 a2 a3
    show ∃ t', fM_isReached_L8 s (nI w) (nI n') (nI k) = _ ∧ _
    unfold fM_isReached_L8
    rw [if_neg (zg8 hk), q1]
    exact ⟨_, rfl, nI_1 k, n2, rfl, b1, b2, b3⟩
  · rintro ⟨t1, t2⟩ ⟨rfl, n', rfl, a1, a2, a3⟩
    try dsimp only at *
    refine ⟨nI n', ?_, n', rfl, a1, a2, a3⟩
    show fM_isReached_L8 s (nI w) (nI n') (nI 8) = _
    unfold fM_isReached_L8
    rw [if_pos (by decide)]
/-- the least bar: class and reference find one set -/
theorem p_bar {r bs s : Nat → Int32} {B : Nat → Nat} {C c d : Nat} (hC : C ≤ 8) (hr : r 4 = nI C) (hs0 : s 0 = nI C) (hB : p_BC B C) (hb : ∀ c, c < 8 → bs c = nI (B c)) (hs : ∀ c, c < 8 → s (3 + c) = nI (B c)) (hc : c < C) (hd : d < C) (hcd : c ≠ d) (hnb : (B c).testBit d = false) :
    ∃ b, b < 256 ∧ fPl_leastBar r bs (nI c) (nI d) = some (nI b) ∧ zLP (fun t : Int32 × Int32 => fM_bar_L42 s (nI c) (nI d) t.1 t.2) ((-1), 0) = some (nI b) := by
  have hBl : ∀ c, c < 8 → B c < 256 := fun c hc => p_BC_lt hC hB hc
  have hC2 : 2 ^ C ≤ 256 := Nat.pow_le_pow_right (n := 2) (by omega) hC
  have H : ∃ q u, zLP (fun t : Int32 × Int32 × Int32 => fPl_leastBar_L16 r bs (nI c) (nI d) t.1 t.2.1 t.2.2) (nI (2 ^ C) - 1, 9, 0) = some q ∧ zLP (fun t : Int32 × Int32 => fM_bar_L42 s (nI c) (nI d) t.1 t.2) ((-1), 0) = some u ∧ ∃ b, b < 256 ∧ q = nI b ∧ u = nI b := by
    refine zLP_pair (fun k x y => x.2.2 = nI k ∧ y.2 = nI k ∧ ((y.1 = -1 ∧ x.2.1 = nI 9 ∧ ∀ w, w < k → w.testBit c = false → w.testBit d = false → p_rch B w c d) ∨ ∃ b, b < 256 ∧ y.1 = nI b ∧ x.1 = nI b ∧ x.2.1 = nI (zpc b))) _ (2 ^ C) ⟨rfl, rfl, Or.inl ⟨rfl, rfl, fun w hw => absurd hw (by omega)⟩⟩ ?_ ?_
    · rintro k ⟨x1, x2, x3⟩ ⟨y1, y2⟩ hk ⟨rfl, rfl, h⟩
      try dsimp only at *
      left
      obtain ⟨b, b1, b2⟩ := p_isReached hC hs0 hB hs (c := c) (d := d) (w := k) (by omega) (by omega)
      have hrx : (p_re B k c 8).testBit d = b := by
        cases b with
        | true => exact (p_re_tb (by omega) (by omega)).mpr (p_rch8 (by omega) (b2.mp rfl))
        | false => exact z_tbB (P := p_rch B k c d) ⟨fun h => let ⟨j, _, j2⟩ := (p_re_tb (by omega) (by omega)).mp h; ⟨j, j2⟩, fun h => (p_re_tb (by omega) (by omega)).mpr (p_rch8 (by omega) h)⟩ (fun h => by cases b2.mpr h)
      show ∃ s' t', fPl_leastBar_L16 r bs (nI c) (nI d) x1 x2 (nI k) = _ ∧ fM_bar_L42 s (nI c) (nI d) y1 (nI k) = _ ∧ _
      unfold fPl_leastBar_L16 fM_bar_L42
      rw [hr, hs0, z_sh (by omega), if_neg (nI_ge hk (by omega)), if_neg (nI_ge hk (by omega)), z_hb (by omega) (by omega), z_hb (by omega) (by omega), z_bo (by omega) (by omega), z_bo (by omega) (by omega), z_bc (by omega), p_reached hBl hb (by omega), z_bits (by omega)]
      simp only [Option.bind_some, zlet, nI_1, z_hb (p_re_lt hBl (show c < 8 by omega)) (show d < 8 by omega), hrx, b1]
      cases e1 : k.testBit c with
      | true =>
        refine ⟨_, _, rfl, rfl, rfl, rfl, ?_⟩
        rcases h with ⟨h1, h2, h3⟩ | h
        · refine Or.inl ⟨h1, h2, fun w hw h4 h5 => ?_⟩
          rcases Nat.lt_or_ge w k with h6 | h6
          · exact h3 w h6 h4 h5
          · rw [show w = k by omega, e1] at h4; cases h4
        · exact Or.inr h
      | false =>
        cases e2 : k.testBit d with
        | true =>
          refine ⟨_, _, rfl, rfl, rfl, rfl, ?_⟩
          rcases h with ⟨h1, h2, h3⟩ | h
          · refine Or.inl ⟨h1, h2, fun w hw h4 h5 => ?_⟩
            rcases Nat.lt_or_ge w k with h6 | h6
            · exact h3 w h6 h4 h5
            · rw [show w = k by omega, e2] at h5; cases h5
          · exact Or.inr h
        | false =>
          simp only [Bool.false_eq_true, if_false, if_true]
          rcases h with ⟨rfl, rfl, h3⟩ | ⟨b', b1', rfl, rfl, rfl⟩
          · rw [if_neg (nI_ge (by have := zpc_le k; omega) (by omega)), if_pos (show (-1 : Int32) < 0 by decide)]
            cases b with
            | true =>
              refine ⟨_, _, rfl, rfl, rfl, rfl, Or.inl ⟨rfl, rfl, fun w hw h4 h5 => ?_⟩⟩
              rcases Nat.lt_or_ge w k with h6 | h6
              · exact h3 w h6 h4 h5
              · rw [show w = k by omega]; exact b2.mp rfl
            | false => exact ⟨_, _, rfl, rfl, rfl, rfl, Or.inr ⟨k, by omega, rfl, rfl, rfl⟩⟩
          · rw [if_neg (nI_pos (by omega)), z_bits b1']
            simp only [Option.bind_some]
            have := zpc_le k
            have := zpc_le b'
            rcases Nat.lt_or_ge (zpc k) (zpc b') with h6 | h6
            · rw [if_neg (nI_ge h6 (by omega)), if_neg (nI_ge h6 (by omega))]
              cases b with
              | true => exact ⟨_, _, rfl, rfl, rfl, rfl, Or.inr ⟨b', b1', rfl, rfl, rfl⟩⟩
              | false => exact ⟨_, _, rfl, rfl, rfl, rfl, Or.inr ⟨k, by omega, rfl, rfl, rfl⟩⟩
            · rw [if_pos (nI_le h6 (by omega)), if_pos (nI_le h6 (by omega))]
              exact ⟨_, _, rfl, rfl, rfl, rfl, Or.inr ⟨b', b1', rfl, rfl, rfl⟩⟩
    · rintro ⟨x1, x2, x3⟩ ⟨y1, y2⟩ ⟨rfl, rfl, h⟩
      try dsimp only at *
      refine ⟨x1, y1, ?_, ?_, ?_⟩
      · show fPl_leastBar_L16 r bs (nI c) (nI d) x1 x2 (nI (2 ^ C)) = _
        unfold fPl_leastBar_L16
        rw [hr, z_sh (by omega), if_pos (nI_le (Nat.le_refl _) (by omega))]
      · show fM_bar_L42 s (nI c) (nI d) y1 (nI (2 ^ C)) = _
        unfold fM_bar_L42
        rw [hs0, z_sh (by omega), if_pos (nI_le (Nat.le_refl _) (by omega))]
      · rcases h with ⟨-, -, h3⟩ | ⟨b, b1, b2, b3, -⟩
        · exfalso
          have hz : (zset (fun e => decide (e ≠ c) && decide (e ≠ d)) C).testBit c = false := by rw [zset_tb]; simp
          have hz' : (zset (fun e => decide (e ≠ c) && decide (e ≠ d)) C).testBit d = false := by rw [zset_tb]; simp
          obtain ⟨j, hj⟩ := h3 _ (zset_lt _ _) hz hz'
          have hstay : ∀ j, p_wk (p_wo B (zset (fun e => decide (e ≠ c) && decide (e ≠ d)) C)) 8 j c d → False := by
            intro j
            induction j with
            | zero => intro h; exact hcd h
            | succ j ih =>
              rintro ⟨e, e1, e2, e3, e4⟩
              rw [p_wo_tb (by omega), Bool.and_eq_true, zset_tb] at e2
              have heC := (hB c (by omega) e e2.1).1
              by_cases h6 : e = c
              · subst h6; exact ih e4
              · by_cases h7 : e = d
                · subst h7; rw [hnb] at e2; cases e2.1
                · have := e2.2
                  simp [heC, h6, h7] at this
          exact hstay j hj
        · exact ⟨b, b1, b3, b2⟩
  obtain ⟨q, u, h1, h2, b, b1, rfl, rfl⟩ := H
  refine ⟨b, b1, ?_, h2⟩
  unfold fPl_leastBar
  rw [hr, z_sh (by omega)]
  simp only [zlet]
  rw [h1]; rfl
