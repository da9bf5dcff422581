/-! ===== rings ===== -/
def p_u (a : Nat → Nat) (p : Nat) : Nat → Nat
  | 0 => p
  | k + 1 => a (p_u a p k) - 1
theorem p_u_add (a : Nat → Nat) (p i k : Nat) : p_u a p (i + k) = p_u a (p_u a p i) k := by
  induction k with
  | zero => rfl
  | succ k ih => rw [← Nat.add_assoc, p_u, p_u, ih]
def p_S1 (a : Nat → Nat) (p : Nat) : Nat → Nat
  | 0 => 0
  | k + 1 => p_S1 a p k ||| 2 ^ (p_u a p (k + 1))
theorem p_S1_tb {a : Nat → Nat} {p n d : Nat} : (p_S1 a p n).testBit d = true ↔ ∃ i, 1 ≤ i ∧ i ≤ n ∧ p_u a p i = d := by
  induction n with
  | zero =>
    rw [p_S1, Nat.zero_testBit]
    exact ⟨fun h => (by cases h), fun ⟨i, h1, h2, _⟩ => by omega⟩
  | succ n ih =>
    rw [p_S1, Nat.testBit_or, Bool.or_eq_true, ih, Nat.testBit_two_pow, decide_eq_true_eq]
    constructor
    · rintro (⟨i, h1, h2, h3⟩ | h)
      · exact ⟨i, h1, by omega, h3⟩
      · exact ⟨n + 1, by omega, by omega, h⟩
    · rintro ⟨i, h1, h2, h3⟩
      rcases Nat.lt_or_ge i (n + 1) with h | h
      · exact Or.inl ⟨i, h1, by omega, h3⟩
      · right; rw [show n + 1 = i by omega]; exact h3
def p_rg (a : Nat → Nat) (p : Nat) : Nat → Nat → Nat → Nat
  | 0, _, _ => 0
  | n + 1, ring, q => if a q = 0 then 0 else if a q - 1 = p then ring ||| 2 ^ (a q - 1) else p_rg a p n (ring ||| 2 ^ (a q - 1)) (a q - 1)
def p_ring (a : Nat → Nat) (p : Nat) : Nat := p_rg a p 6 0 p
/-- the period of one who is in a ring -/
def p_pd (a : Nat → Nat) (p n : Nat) : Prop := 1 ≤ n ∧ (∀ i, i < n → a (p_u a p i) ≠ 0) ∧ p_u a p n = p ∧ ∀ i, 1 ≤ i → i < n → p_u a p i ≠ p
theorem p_rg_go {a : Nat → Nat} {p : Nat} : ∀ {f j : Nat}, (∀ i, i < j → a (p_u a p i) ≠ 0) → (∀ i, 1 ≤ i → i ≤ j → p_u a p i ≠ p) →
    p_rg a p f (p_S1 a p j) (p_u a p j) = 0 ∨ ∃ n, j < n ∧ n ≤ j + f ∧ p_pd a p n ∧ p_rg a p f (p_S1 a p j) (p_u a p j) = p_S1 a p n := by
  intro f
  induction f with
  | zero => intro j _ _; exact Or.inl rfl
  | succ f ih =>
    intro j h1 h2
    rw [p_rg]
    by_cases h3 : a (p_u a p j) = 0
    · rw [if_pos h3]; exact Or.inl rfl
    · rw [if_neg h3]
      have hS : p_S1 a p j ||| 2 ^ (a (p_u a p j) - 1) = p_S1 a p (j + 1) := rfl
      have h1' : ∀ i, i < j + 1 → a (p_u a p i) ≠ 0 := fun i hi => by
        rcases Nat.lt_or_ge i j with h | h
        · exact h1 i h
        · rw [show i = j by omega]; exact h3
      by_cases h4 : a (p_u a p j) - 1 = p
      · rw [if_pos h4, hS]
        refine Or.inr ⟨j + 1, by omega, by omega, ⟨by omega, h1', h4, fun i i1 i2 => h2 i i1 (by omega)⟩, rfl⟩
      · rw [if_neg h4, hS]
        have h2' : ∀ i, 1 ≤ i → i ≤ j + 1 → p_u a p i ≠ p := fun i i1 i2 => by
          rcases Nat.lt_or_ge i (j + 1) with h | h
          · exact h2 i i1 (by omega)
          · rw [show i = j + 1 by omega]; exact h4
        rcases ih h1' h2' with h | ⟨n, n1, n2, n3, n4⟩
        · exact Or.inl h
        · exact Or.inr ⟨n, by omega, by omega, n3, n4⟩
theorem p_rg_un {a : Nat → Nat} {p : Nat} : ∀ {j f : Nat}, (∀ i, i < j → a (p_u a p i) ≠ 0) → (∀ i, 1 ≤ i → i ≤ j → p_u a p i ≠ p) → p_rg a p (f + j) 0 p = p_rg a p f (p_S1 a p j) (p_u a p j) := by
  intro j
  induction j with
  | zero => intro f _ _; rfl
  | succ j ih =>
    intro f h1 h2
    rw [show f + (j + 1) = (f + 1) + j by omega, ih (fun i hi => h1 i (by omega)) (fun i i1 i2 => h2 i i1 (by omega)), p_rg, if_neg (h1 j (by omega)), if_neg (show ¬ a (p_u a p j) - 1 = p from h2 (j + 1) (by omega) (Nat.le_refl _))]
    rfl
theorem p_ring_0 (a : Nat → Nat) (p : Nat) : p_ring a p = 0 ∨ ∃ n, n ≤ 6 ∧ p_pd a p n ∧ p_ring a p = p_S1 a p n := by
  rcases p_rg_go (a := a) (p := p) (f := 6) (j := 0) (fun i hi => absurd hi (by omega)) (fun i i1 i2 => absurd i1 (by omega)) with h | ⟨n, h1, h2, h3, h4⟩
  · exact Or.inl h
  · exact Or.inr ⟨n, by omega, h3, h4⟩
theorem p_ring_pd {a : Nat → Nat} {p n : Nat} (hn : n ≤ 6) (h : p_pd a p n) : p_ring a p = p_S1 a p n := by
  obtain ⟨h1, h2, h3, h4⟩ := h
  obtain ⟨m, rfl⟩ : ∃ m, n = m + 1 := ⟨n - 1, by omega⟩
  unfold p_ring
  rw [show (6 : Nat) = (5 - m + 1) + m by omega, p_rg_un (fun i hi => h2 i (by omega)) (fun i i1 i2 => h4 i i1 (by omega)), p_rg, if_neg (h2 m (by omega)), if_pos (show a (p_u a p m) - 1 = p from h3)]
  rfl
theorem p_u_per {a : Nat → Nat} {p n : Nat} (h : p_u a p n = p) (k : Nat) : p_u a p (n + k) = p_u a p k := by rw [p_u_add, h]
theorem p_pd_move {a : Nat → Nat} {p n i : Nat} (h : p_pd a p n) (hi : i < n) : p_pd a (p_u a p i) n := by
  obtain ⟨h1, h2, h3, h4⟩ := h
  have hmod : ∀ k, k < n + n → ∃ k', k' < n ∧ p_u a p k = p_u a p k' := fun k hk => by
    rcases Nat.lt_or_ge k n with h | h
    · exact ⟨k, h, rfl⟩
    · refine ⟨k - n, by omega, ?_⟩
      have := p_u_per h3 (k - n)
      rw [show n + (k - n) = k by omega] at this
      exact this
  refine ⟨h1, fun k hk => ?_, ?_, fun k k1 k2 hk => ?_⟩
  · rw [← p_u_add]
    obtain ⟨k', k1, k2⟩ := hmod (i + k) (by omega)
    rw [k2]; exact h2 k' k1
  · rw [← p_u_add, Nat.add_comm, p_u_per h3]
  · rw [← p_u_add] at hk
    have e1 : p_u a p (i + k + (n - i)) = p_u a p (i + (n - i)) := by rw [p_u_add, hk, ← p_u_add]
    rw [show i + k + (n - i) = n + k by omega, show i + (n - i) = n by omega, p_u_per h3, h3] at e1
    exact h4 k k1 k2 e1
/-- all who are in one ring have one ring -/
theorem p_ring_same {a : Nat → Nat} {p m : Nat} (h : (p_ring a p).testBit m = true) : ∀ d, (p_ring a m).testBit d = (p_ring a p).testBit d := by
  rcases p_ring_0 a p with h0 | ⟨n, n1, n2, n3⟩
  · rw [h0, Nat.zero_testBit] at h; cases h
  · rw [n3] at h
    obtain ⟨i, i1, i2, rfl⟩ := p_S1_tb.mp h
    have hper := n2.2.2.1
    have hpd : p_pd a (p_u a p i) n := by
      rcases Nat.lt_or_ge i n with h5 | h5
      · exact p_pd_move n2 h5
      · rw [show i = n by omega, hper]; exact n2
    rw [p_ring_pd n1 hpd, n3]
    intro d
    have key : (p_S1 a (p_u a p i) n).testBit d = true ↔ (p_S1 a p n).testBit d = true := by
      rw [p_S1_tb, p_S1_tb]
      constructor
      · rintro ⟨k, k1, k2, k3⟩
        rw [← p_u_add] at k3
        rcases Nat.lt_or_ge n (i + k) with h6 | h6
        · refine ⟨i + k - n, by omega, by omega, ?_⟩
          rw [← k3, ← p_u_per hper (i + k - n), show n + (i + k - n) = i + k by omega]
        · exact ⟨i + k, by omega, h6, k3⟩
      · rintro ⟨k, k1, k2, k3⟩
        rcases Nat.lt_or_ge i k with h6 | h6
        · refine ⟨k - i, by omega, by omega, ?_⟩
          rw [← p_u_add, show i + (k - i) = k by omega]; exact k3
        · refine ⟨n + k - i, by omega, by omega, ?_⟩
          rw [← p_u_add, show i + (n + k - i) = n + k by omega, p_u_per hper]; exact k3
    cases e : (p_S1 a p n).testBit d with
    | true => exact key.mpr e
    | false => exact z_tbB key (by rw [e]; decide)
theorem p_ring_self {a : Nat → Nat} {p : Nat} (h : p_ring a p ≠ 0) : (p_ring a p).testBit p = true := by
  rcases p_ring_0 a p with h0 | ⟨n, n1, n2, n3⟩
  · exact absurd h0 h
  · rw [n3]; exact p_S1_tb.mpr ⟨n, n2.1, Nat.le_refl _, n2.2.2.1⟩
theorem p_S1_lt {a : Nat → Nat} {p n : Nat} (h : ∀ i, 1 ≤ i → i ≤ n → p_u a p i < 6) : p_S1 a p n < 64 := by
  apply Nat.lt_pow_two_of_testBit (n := 6)
  intro i hi
  refine z_tbB p_S1_tb (fun ⟨k, k1, k2, k3⟩ => ?_)
  have := h k k1 k2
  omega
theorem p_ring_lt {a : Nat → Nat} {p : Nat} (ha : ∀ q, q < 6 → a q ≤ 6) (hp : p < 6) : p_ring a p < 64 := by
  rcases p_ring_0 a p with h0 | ⟨n, n1, n2, n3⟩
  · rw [h0]; decide
  · rw [n3]
    apply p_S1_lt
    intro i
    induction i with
    | zero => intro h; omega
    | succ i ih =>
      intro _ hi
      have hl : p_u a p i < 6 := by
        rcases Nat.eq_zero_or_pos i with h | h
        · rw [h]; exact hp
        · exact ih h (by omega)
      have := ha _ hl
      have := n2.2.1 i (by omega)
      rw [p_u]; omega
theorem x_ringGo {A : aD} {le : Nat → Int32} (h : xLe A le) (hA : ∀ r, r < 6 → dA A r ≤ 6) {p : Nat} (hp : p < 6) : ∀ {f k : Nat} {ring q : Nat}, f + k = 6 → q < 6 →
    zLP (fun s : Int32 × Int32 × Int32 => fDy_ringOf_L7 le (nI p) s.1 s.2.1 s.2.2) (nI ring, nI q, nI k) = some (nI (p_rg (dA A) p f ring q)) := by
  intro f
  induction f with
  | zero =>
    intro k ring q hk hq
    refine zLP_out ?_
    show fDy_ringOf_L7 le (nI p) (nI ring) (nI q) (nI k) = _
    unfold fDy_ringOf_L7
    rw [if_pos (ze6 (by omega) (by omega))]; rfl
  | succ f ih =>
    intro k ring q hk hq
    have hq6 := hA q hq
    have hb : fDy_ringOf_L7 le (nI p) (nI ring) (nI q) (nI k) = if dA A q = 0 then some (.inr 0) else if dA A q - 1 = p then some (.inr (nI (ring ||| 2 ^ (dA A q - 1)))) else some (.inl (nI (ring ||| 2 ^ (dA A q - 1)), nI (dA A q - 1), nI (k + 1))) := by
      unfold fDy_ringOf_L7
      rw [if_neg (zg6 (by omega)), x_fol hq, h q hq]
      simp only [Option.bind_some, zlet, nI_1]
      by_cases h1 : dA A q = 0
      · rw [if_pos ((nI_m1 (by omega)).mpr h1), if_pos h1]
      · rw [if_neg (fun h => h1 ((nI_m1 (by omega)).mp h)), if_neg h1, nI_p1 (by omega), z_orb (by omega)]
        by_cases h2 : dA A q - 1 = p
        · rw [if_pos (by rw [h2]), if_pos h2]
        · rw [if_neg (fun h => h2 ((nI_eq (by omega) (by omega)).mp h)), if_neg h2]
    rw [p_rg]
    by_cases h1 : dA A q = 0
    · rw [if_pos h1] at hb ⊢; exact zLP_out hb
    · rw [if_neg h1] at hb ⊢
      by_cases h2 : dA A q - 1 = p
      · rw [if_pos h2] at hb ⊢; exact zLP_out hb
      · rw [if_neg h2] at hb ⊢
        rw [zLP_go (s' := (nI (ring ||| 2 ^ (dA A q - 1)), nI (dA A q - 1), nI (k + 1))) hb]
        exact ih (by omega) (by omega)
theorem x_ring {A : aD} {le : Nat → Int32} (h : xLe A le) (hA : ∀ r, r < 6 → dA A r ≤ 6) {p : Nat} (hp : p < 6) : fDy_ringOf le (nI p) = some (nI (p_ring (dA A) p)) :=
  x_ringGo h hA hp (f := 6) (k := 0) (ring := 0) (q := p) rfl hp
theorem z_pcA : ∀ a, a < 64 → zpc a ≤ 6 ∧ ∀ q, q < 6 → a.testBit q = false → zpc (a ||| 2 ^ q) = zpc a + 1 ∧ (a ||| 2 ^ q) < 64 := by decide +kernel
theorem z_pc1 {q : Nat} (hq : q < 6) : zpc (2 ^ q) = 1 ∧ 2 ^ q < 64 := (by decide +kernel : ∀ q, q < 6 → zpc (2 ^ q) = 1 ∧ 2 ^ q < 64) q hq
theorem m_ring {P : Nat} {A : aD} {s : Nat → Int32} (h : sD P A s) (hA : ∀ r, r < 6 → dA A r ≤ 6) {p : Nat} (hp : p < 6) : fM_ringOf s (nI p) = some (nI (p_ring (dA A) p)) := by
  unfold fM_ringOf
  rw [z_sh (by omega), m_whom h hp]
  simp only [zlet, Option.bind_some]
  refine zLP_use (body := fun t : Int32 × Int32 => fM_ringOf_L10 s t.1 t.2) (s := (nI (2 ^ p), nI (dA A p) - 1))
    (fun j t => ∃ n, t = (nI n, nI (dA A (p_u (dA A) p j)) - 1) ∧ n < 64 ∧ zpc n = j + 1 ∧ (∀ d, n.testBit d = true ↔ d = p ∨ (p_S1 (dA A) p j).testBit d = true) ∧ (∀ i, i < j → dA A (p_u (dA A) p i) ≠ 0) ∧ (∀ i, i ≤ j → p_u (dA A) p i < 6) ∧ (∀ i, 1 ≤ i → i ≤ j → p_u (dA A) p i ≠ p))
    (fun r => (if r.2 = nI p then r.1 else 0) = nI (p_ring (dA A) p)) 6 ⟨2 ^ p, rfl, (z_pc1 hp).2, (z_pc1 hp).1, fun d => by rw [Nat.testBit_two_pow, decide_eq_true_eq, p_S1, Nat.zero_testBit]; exact ⟨fun e => Or.inl e.symm, fun e => e.elim (fun e => e.symm) (fun e => by cases e)⟩, fun i hi => absurd hi (by omega), fun i hi => by rw [show i = 0 by omega]; exact hp, fun i i1 i2 => absurd i1 (by omega)⟩ (fun r h1 h2 => ?_) ?_ ?_
  · rw [h1]
    simp only [Option.bind_some]
    rw [h2]
  · rintro j t hj ⟨n, rfl, n1, n2, n3, h4, h5, h6⟩
    have huj := h5 j (Nat.le_refl _)
    have hal := hA _ huj
    show (∃ t', fM_ringOf_L10 s (nI n) (nI (dA A (p_u (dA A) p j)) - 1) = _ ∧ _) ∨ (∃ r, fM_ringOf_L10 s (nI n) (nI (dA A (p_u (dA A) p j)) - 1) = _ ∧ _)
    unfold fM_ringOf_L10
    by_cases h7 : dA A (p_u (dA A) p j) = 0
    · rw [if_pos ((nI_m1lt (by omega)).mpr h7)]
      refine Or.inr ⟨_, rfl, ?_⟩
      dsimp only
      rw [(nI_m1 (by omega)).mpr h7, if_neg (fun h => nI_nm1 (n := p) (by omega) h.symm)]
      have e : p_ring (dA A) p = 0 := by
        unfold p_ring
        rw [show (6 : Nat) = (5 - j + 1) + j by omega, p_rg_un h4 h6, p_rg, if_pos h7]
      rw [e]; rfl
    · rw [if_neg (fun h => h7 ((nI_m1lt (by omega)).mp h)), nI_p1 (by omega), z_bo (by omega) (by omega)]
      have h4' : ∀ i, i < j + 1 → dA A (p_u (dA A) p i) ≠ 0 := fun i hi => by
        rcases Nat.lt_or_ge i j with h | h
        · exact h4 i h
        · rw [show i = j by omega]; exact h7
      cases eb : n.testBit (dA A (p_u (dA A) p j) - 1) with
      | true =>
        rw [if_pos rfl]
        refine Or.inr ⟨_, rfl, ?_⟩
        dsimp only
        by_cases h8 : dA A (p_u (dA A) p j) - 1 = p
        · rw [if_pos (by rw [h8])]
          have hpd : p_pd (dA A) p (j + 1) := ⟨by omega, h4', h8, fun i i1 i2 => h6 i i1 (by omega)⟩
          rw [p_ring_pd (by omega) hpd]
          congr 1
          refine z_ext (n := 6) n1 (p_S1_lt (fun i i1 i2 => ?_)) (fun d hd => ?_)
          · rcases Nat.lt_or_ge i (j + 1) with h | h
            · exact h5 i (by omega)
            · rw [show i = j + 1 by omega, show p_u (dA A) p (j + 1) = p from h8]; exact hp
          · have key : n.testBit d = true ↔ (p_S1 (dA A) p (j + 1)).testBit d = true := by
              rw [n3 d, p_S1, Nat.testBit_or, Bool.or_eq_true, Nat.testBit_two_pow, decide_eq_true_eq, show p_u (dA A) p (j + 1) = p from h8]
              exact ⟨fun e => e.elim (fun e => Or.inr e.symm) Or.inl, fun e => e.elim Or.inr (fun e => Or.inl e.symm)⟩
            cases e : (p_S1 (dA A) p (j + 1)).testBit d with
            | true => exact key.mpr e
            | false => exact z_tbB key (by rw [e]; decide)
        · rw [if_neg (fun h => h8 ((nI_eq (by omega) (by omega)).mp h))]
          have e0 : p_ring (dA A) p = 0 := by
            rcases p_ring_0 (dA A) p with h | ⟨m, m1, m2, m3⟩
            · exact h
            · exfalso
              have hin := (n3 _).mp eb
              rcases hin with h9 | h9
              · exact h8 h9
              · obtain ⟨i, i1, i2, i3⟩ := p_S1_tb.mp h9
                have hjm : j + 1 ≤ m := by
                  rcases Nat.lt_or_ge m (j + 1) with h | h
                  · exact absurd m2.2.2.1 (h6 m m2.1 (by omega))
                  · exact h
                have e1 : p_u (dA A) p (j + 1 + (m - (j + 1))) = p_u (dA A) p (i + (m - (j + 1))) := by
                  rw [p_u_add, show p_u (dA A) p (j + 1) = dA A (p_u (dA A) p j) - 1 from rfl, ← i3, ← p_u_add]
                rw [show j + 1 + (m - (j + 1)) = m by omega, m2.2.2.1] at e1
                exact m2.2.2.2 _ (by omega) (by omega) e1.symm
          rw [e0]; rfl
      | false =>
        rw [if_neg (by decide), z_orb (by omega), m_whom h (by omega)]
        simp only [zlet, Option.bind_some]
        obtain ⟨a1, a2⟩ := (z_pcA n n1).2 _ (show dA A (p_u (dA A) p j) - 1 < 6 by omega) eb
        refine Or.inl ⟨_, rfl, _, rfl, a2, by rw [a1, n2], fun d => ?_, h4', fun i hi => ?_, fun i i1 i2 => ?_⟩
        · rw [Nat.testBit_or, Bool.or_eq_true, n3 d, p_S1, Nat.testBit_or, Bool.or_eq_true, or_assoc]; rfl
        · rcases Nat.lt_or_ge i (j + 1) with h | h
          · exact h5 i (by omega)
          · rw [show i = j + 1 by omega, p_u]; omega
        · rcases Nat.lt_or_ge i (j + 1) with h | h
          · exact h6 i i1 (by omega)
          · rw [show i = j + 1 by omega, p_u]
            intro h8
            rw [(n3 _).mpr (Or.inl h8)] at eb; cases eb
  · rintro t ⟨n, rfl, n1, n2, -⟩
    have := (z_pcA n n1).1
    omega
