/-! ===== walks in a town ===== -/
def p_wk (B : Nat → Nat) (K : Nat) : Nat → Nat → Nat → Prop
  | 0, c, d => c = d
  | n + 1, c, d => ∃ e, e < 8 ∧ (B c).testBit e = true ∧ (n = 0 ∨ e < K) ∧ p_wk B K n e d
theorem p_wk_app {B : Nat → Nat} {a b c e d : Nat} (h1 : p_wk B 8 a c e) (h2 : p_wk B 8 b e d) : p_wk B 8 (a + b) c d := by
  induction a generalizing c with
  | zero => rw [Nat.zero_add]; have : c = e := h1; rw [this]; exact h2
  | succ a ih =>
    obtain ⟨x, x1, x2, x3, x4⟩ := h1
    rw [show a + 1 + b = (a + b) + 1 by omega]
    exact ⟨x, x1, x2, Or.inr x1, ih x4⟩
theorem p_wk_up {B : Nat → Nat} {K n c d : Nat} (hK : K ≤ 8) (h : p_wk B K n c d) : p_wk B 8 n c d := by
  induction n generalizing c with
  | zero => exact h
  | succ n ih =>
    obtain ⟨x, x1, x2, x3, x4⟩ := h
    exact ⟨x, x1, x2, Or.inr x1, ih x4⟩
theorem p_wk_split {B : Nat → Nat} {K n c d : Nat} (hK : K < 8) (h : p_wk B (K + 1) n c d) : p_wk B K n c d ∨ ∃ a b, a + b ≤ n ∧ p_wk B K a c K ∧ p_wk B K b K d := by
  induction n generalizing c with
  | zero => exact Or.inl h
  | succ n ih =>
    obtain ⟨x, x1, x2, x3, x4⟩ := h
    rcases Nat.lt_trichotomy x K with hx | hx | hx
    · rcases ih x4 with h5 | ⟨a, b, h5, h6, h7⟩
      · exact Or.inl ⟨x, x1, x2, Or.inr hx, h5⟩
      · exact Or.inr ⟨a + 1, b, by omega, ⟨x, x1, x2, Or.inr hx, h6⟩, h7⟩
    · subst hx
      rcases ih x4 with h5 | ⟨a, b, h5, h6, h7⟩
      · exact Or.inr ⟨1, n, by omega, ⟨x, x1, x2, Or.inl rfl, rfl⟩, h5⟩
      · exact Or.inr ⟨1, b, by omega, ⟨x, x1, x2, Or.inl rfl, rfl⟩, h7⟩
    · have hn : n = 0 := by omega
      subst hn
      exact Or.inl ⟨x, x1, x2, Or.inl rfl, x4⟩
theorem p_wk_snoc {B : Nat → Nat} {n c e d : Nat} (h : p_wk B 8 n c e) (hd : d < 8) (hb : (B e).testBit d = true) : p_wk B 8 (n + 1) c d :=
  p_wk_app h ⟨d, hd, hb, Or.inl rfl, rfl⟩
theorem p_wk_unsnoc {B : Nat → Nat} {n c d : Nat} (hc : c < 8) (h : p_wk B 8 (n + 1) c d) : ∃ e, e < 8 ∧ p_wk B 8 n c e ∧ (B e).testBit d = true ∧ d < 8 := by
  induction n generalizing c with
  | zero =>
    obtain ⟨x, x1, x2, x3, x4⟩ := h
    have : x = d := x4
    subst this
    exact ⟨c, hc, rfl, x2, x1⟩
  | succ n ih =>
    obtain ⟨x, x1, x2, x3, x4⟩ := h
    obtain ⟨e, e1, e2, e3, e4⟩ := ih x1 x4
    exact ⟨e, e1, ⟨x, x1, x2, Or.inr x1, e2⟩, e3, e4⟩
theorem p_wk_lt {B : Nat → Nat} {n c d : Nat} (hc : c < 8) (h : p_wk B 8 n c d) : d < 8 := by
  cases n with
  | zero => have : c = d := h; omega
  | succ n => obtain ⟨e, -, -, -, h4⟩ := p_wk_unsnoc hc h; exact h4
/-- the distance -/
def p_D (B : Nat → Nat) (c d k : Nat) : Prop := p_wk B 8 k c d ∧ ∀ j, j < k → ¬ p_wk B 8 j c d
theorem p_D_uni {B : Nat → Nat} {c d k j : Nat} (h1 : p_D B c d k) (h2 : p_D B c d j) : k = j := by
  rcases Nat.lt_trichotomy k j with h | h | h
  · exact absurd h1.1 (h2.2 k h)
  · exact h
  · exact absurd h2.1 (h1.2 j h)
theorem p_D_ex {B : Nat → Nat} {c d : Nat} : ∀ {n : Nat}, p_wk B 8 n c d → ∃ k, k ≤ n ∧ p_D B c d k := by
  intro n
  induction n using Nat.strongRecOn with
  | ind n ih =>
    intro h
    rcases Classical.em (∃ j, j < n ∧ p_wk B 8 j c d) with ⟨j, h1, h2⟩ | hn
    · obtain ⟨k, h3, h4⟩ := ih j h1 h2
      exact ⟨k, by omega, h4⟩
    · exact ⟨n, Nat.le_refl _, h, fun j hj hw => hn ⟨j, hj, hw⟩⟩
theorem p_D_pred {B : Nat → Nat} {c d k : Nat} (hc : c < 8) (h : p_D B c d (k + 1)) : ∃ e, e < 8 ∧ p_D B c e k := by
  obtain ⟨e, e1, e2, e3, e4⟩ := p_wk_unsnoc hc h.1
  exact ⟨e, e1, e2, fun j hj hw => h.2 (j + 1) (by omega) (p_wk_snoc hw e4 e3)⟩
theorem p_D_lev {B : Nat → Nat} {c d k : Nat} (hc : c < 8) (h : p_D B c d k) : ∀ j, j ≤ k → ∃ e, e < 8 ∧ p_D B c e j := by
  induction k generalizing d with
  | zero => intro j hj; rw [show j = 0 by omega]; exact ⟨d, p_wk_lt hc h.1, h⟩
  | succ k ih =>
    intro j hj
    rcases Nat.lt_or_ge j (k + 1) with h1 | h1
    · obtain ⟨e, e1, e2⟩ := p_D_pred hc h
      exact ih e2 j (by omega)
    · rw [show j = k + 1 by omega]; exact ⟨d, p_wk_lt hc h.1, h⟩
noncomputable def p_card (f : Nat → Prop) : Nat → Nat
  | 0 => 0
  | n + 1 => p_card f n + @ite _ (f n) (Classical.propDecidable _) 1 0
theorem p_card_le (f : Nat → Prop) (n : Nat) : p_card f n ≤ n := by
  induction n with
  | zero => exact Nat.le_refl _
  | succ n ih => rw [p_card]; split <;> omega
theorem p_card_mono {f g : Nat → Prop} {n : Nat} (h : ∀ d, d < n → f d → g d) : p_card f n ≤ p_card g n := by
  induction n with
  | zero => exact Nat.le_refl _
  | succ n ih =>
    rw [p_card, p_card]
    have := ih (fun d hd => h d (by omega))
    by_cases hf : f n
    · rw [if_pos hf, if_pos (h n (by omega) hf)]; omega
    · rw [if_neg hf]; omega
theorem p_card_lt {f g : Nat → Prop} {n d0 : Nat} (h : ∀ d, d < n → f d → g d) (hd : d0 < n) (hg : g d0) (hf : ¬ f d0) : p_card f n < p_card g n := by
  induction n with
  | zero => omega
  | succ n ih =>
    rw [p_card, p_card]
    by_cases e : d0 = n
    · subst e
      have := p_card_mono (n := d0) (fun d hd => h d (by omega))
      rw [if_neg hf, if_pos hg]; omega
    · have := ih (fun d hd => h d (by omega)) (by omega)
      by_cases hf : f n
      · rw [if_pos hf, if_pos (h n (by omega) hf)]; omega
      · rw [if_neg hf]; omega
theorem p_D_lt {B : Nat → Nat} {c d k : Nat} (hc : c < 8) (h : p_D B c d k) : k < 8 := by
  have H : ∀ j, j ≤ k → j < p_card (fun e => ∃ i, i ≤ j ∧ p_D B c e i) 8 := by
    intro j
    induction j with
    | zero =>
      intro _
      have h0 := p_card_lt (f := fun _ => False) (g := fun e => ∃ i, i ≤ 0 ∧ p_D B c e i) (n := 8) (d0 := c) (fun _ _ h => h.elim) hc ⟨0, Nat.le_refl _, rfl, fun j hj => absurd hj (by omega)⟩ (fun h => h)
      omega
    | succ j ih =>
      intro hj
      have h1 := ih (by omega)
      obtain ⟨e, e1, e2⟩ := p_D_lev hc h (j + 1) hj
      have h2 := p_card_lt (f := fun e => ∃ i, i ≤ j ∧ p_D B c e i) (g := fun e => ∃ i, i ≤ j + 1 ∧ p_D B c e i) (n := 8) (d0 := e) (fun d _ ⟨i, i1, i2⟩ => ⟨i, by omega, i2⟩) e1 ⟨j + 1, Nat.le_refl _, e2⟩ (fun ⟨i, i1, i2⟩ => by have := p_D_uni i2 e2; omega)
      omega
  have h1 := H k (Nat.le_refl _)
  have h2 := p_card_le (fun e => ∃ i, i ≤ k ∧ p_D B c e i) 8
  omega
theorem p_wk_8 {B : Nat → Nat} {c d : Nat} (hc : c < 8) (h : ∀ j, j < 8 → ¬ p_wk B 8 j c d) (n : Nat) : ¬ p_wk B 8 n c d := fun hw => by
  obtain ⟨k, -, hk⟩ := p_D_ex hw
  exact h k (p_D_lt hc hk) hk.1
/-- what a row of distances says: k, or the word for 'none' -/
def p_far (none : Int32) (B : Nat → Nat) (c d : Nat) (v : Int32) : Prop := (∃ k, k < 8 ∧ v = nI k ∧ p_D B c d k) ∨ (v = none ∧ ∀ n, ¬ p_wk B 8 n c d)
/-! ## the class's distances -/
def p_ba (B : Nat → Nat) (a : Nat) : Nat → Nat
  | 0 => 0
  | n + 1 => p_ba B a n ||| (if a.testBit n then B n else 0)
theorem p_ba_tb {B : Nat → Nat} {a n d : Nat} : (p_ba B a n).testBit d = true ↔ ∃ c, c < n ∧ a.testBit c = true ∧ (B c).testBit d = true := by
  induction n with
  | zero => simp [p_ba]
  | succ n ih =>
    rw [p_ba, Nat.testBit_or, Bool.or_eq_true, ih]
    constructor
    · rintro (⟨c, h1, h2, h3⟩ | h)
      · exact ⟨c, by omega, h2, h3⟩
      · cases e : a.testBit n with
        | true => rw [e] at h; exact ⟨n, by omega, e, h⟩
        | false => rw [e] at h; simp at h
    · rintro ⟨c, h1, h2, h3⟩
      by_cases e : c = n
      · subst e; right; rw [h2]; exact h3
      · left; exact ⟨c, by omega, h2, h3⟩
theorem p_ba_lt {B : Nat → Nat} (hB : ∀ c, c < 8 → B c < 256) {a n : Nat} (hn : n ≤ 8) : p_ba B a n < 256 := by
  induction n with
  | zero => show 0 < 256; omega
  | succ n ih =>
    rw [p_ba]
    exact Nat.or_lt_two_pow (n := 8) (ih (by omega)) (by split; exact hB n (by omega); decide)
theorem p_besideAny {bs : Nat → Int32} {B : Nat → Nat} (hb : ∀ c, c < 8 → bs c = nI (B c)) {a : Nat} (ha : a < 256) : fPl_besideAny bs (nI a) = some (nI (p_ba B a 8)) := by
  unfold fPl_besideAny
  refine Eq.trans (zLP_bcnt (r := nI (p_ba B a 8)) (fun k => (nI (p_ba B a k), nI k)) 8 rfl ?_ ?_) rfl
  · intro k hk
    show fPl_besideAny_L4 bs (nI a) (nI (p_ba B a k)) (nI k) = _
    unfold fPl_besideAny_L4
    rw [if_neg (zg8 hk), z_hb ha hk]
    cases e : a.testBit k with
    | true =>
      rw [if_pos rfl, zrd_n hk (by omega)]
      simp only [Option.bind_some, zlet, hb k hk, z_or, nI_1, p_ba, e, if_true]
    | false =>
      rw [if_neg (by decide)]
      simp only [zlet, nI_1, p_ba, e, Bool.false_eq_true, if_false, Nat.or_zero]
  · show fPl_besideAny_L4 bs (nI a) (nI (p_ba B a 8)) (nI 8) = _
    unfold fPl_besideAny_L4
    rw [if_pos (by decide)]
theorem p_noteFar {far : Nat → Int32} {c e : Nat} (v : Int32) (hc : c < 8) (he : e < 256) : ∃ far', fPl_noteFar far (nI c) (nI e) v = some far' ∧ ∀ c' d, d < 8 → far' (8 * c' + d) = if c' = c ∧ e.testBit d = true then v else far (8 * c' + d) := by
  unfold fPl_noteFar
  refine zLP_use (body := fun s : (Nat → Int32) × Int32 => fPl_noteFar_L3 (nI c) (nI e) v s.1 s.2) (s := (far, 0))
    (fun k t => t.2 = nI k ∧ ∀ c' d, d < 8 → t.1 (8 * c' + d) = if c' = c ∧ d < k ∧ e.testBit d = true then v else far (8 * c' + d))
    (fun r => ∀ c' d, d < 8 → r (8 * c' + d) = if c' = c ∧ e.testBit d = true then v else far (8 * c' + d)) 8 ⟨rfl, fun c' d hd => by simp⟩ (fun r h1 h2 => ?_) ?_ ?_
  · exact ⟨r, by rw [h1]; rfl, h2⟩
  · rintro k ⟨t1, t2⟩ hk ⟨rfl, h2⟩
    try dsimp only at *
    left
    show ∃ t', fPl_noteFar_L3 (nI c) (nI e) v t1 (nI k) = _ ∧ _
    unfold fPl_noteFar_L3
    rw [if_neg (zg8 hk), z_hb he hk]
    cases eb : e.testBit k with
    | true =>
      rw [if_pos rfl, show nI c * 8 + nI k = nI (8 * c + k) by rw [show (8 : Int32) = nI 8 from rfl, nI_mul, nI_add, Nat.mul_comm], zwr_n (by omega) (by omega)]
      refine ⟨_, rfl, nI_1 k, fun c' d hd => ?_⟩
      show zup t1 (8 * c + k) v (8 * c' + d) = _
      by_cases e1 : c' = c ∧ d = k
      · obtain ⟨rfl, rfl⟩ := e1
        rw [zup_s, if_pos ⟨rfl, by omega, eb⟩]
      · rw [zup_n (by omega), h2 c' d hd]
        by_cases e2 : c' = c ∧ d < k ∧ e.testBit d = true
        · rw [if_pos e2, if_pos ⟨e2.1, by omega, e2.2.2⟩]
        · rw [if_neg e2, if_neg (fun h => e2 ⟨h.1, by omega, h.2.2⟩)]
    | false =>
      rw [if_neg (by decide)]
      refine ⟨_, rfl, nI_1 k, fun c' d hd => ?_⟩
      show t1 (8 * c' + d) = _
      rw [h2 c' d hd]
      by_cases e2 : c' = c ∧ d < k ∧ e.testBit d = true
      · rw [if_pos e2, if_pos ⟨e2.1, by omega, e2.2.2⟩]
      · rw [if_neg e2, if_neg (fun h => e2 ⟨h.1, by rcases Nat.lt_or_ge d k with h1 | h1; exact h1; exfalso; have hdk : d = k := (by omega); exact absurd h.2.2 (by rw [hdk, eb]; decide), h.2.2⟩)]
  · rintro ⟨t1, t2⟩ ⟨rfl, h2⟩
    try dsimp only at *
    refine ⟨t1, ?_, fun c' d hd => ?_⟩
    · show fPl_noteFar_L3 (nI c) (nI e) v t1 (nI 8) = _
      unfold fPl_noteFar_L3
      rw [if_pos (by decide)]
    · rw [h2 c' d hd]
      by_cases e2 : c' = c ∧ e.testBit d = true
      · rw [if_pos e2, if_pos ⟨e2.1, hd, e2.2⟩]
      · rw [if_neg e2, if_neg (fun h => e2 ⟨h.1, h.2.2⟩)]
theorem z_tbB {a : Nat} {k : Nat} {P : Prop} (h : a.testBit k = true ↔ P) (hn : ¬ P) : a.testBit k = false := by
  cases e : a.testBit k with
  | false => rfl
  | true => exact absurd (h.mp e) hn
theorem p_measIn {bs far : Nat → Int32} {B : Nat → Nat} (hB : ∀ c, c < 8 → B c < 256) (hb : ∀ c, c < 8 → bs c = nI (B c)) {c : Nat} (hc : c < 8) (hf : ∀ d, d < 8 → far (8 * c + d) = -1) :
    ∃ r, zLP (fun s : (Nat → Int32) × Int32 × Int32 × Int32 => fPl_measure_L33 bs (nI c) s.1 s.2.1 s.2.2.1 s.2.2.2) (far, 0, nI (2 ^ c), 0) = some r ∧ (∀ d, d < 8 → p_far (-1) B c d (r (8 * c + d))) ∧ ∀ c' d, c' ≠ c → d < 8 → r (8 * c' + d) = far (8 * c' + d) := by
  refine zLP_inv (fun k t => t.2.2.2 = nI k ∧ (∃ sn, sn < 256 ∧ t.2.1 = nI sn ∧ ∀ d, d < 8 → (sn.testBit d = true ↔ ∃ j, j < k ∧ p_wk B 8 j c d)) ∧ (∃ eg, eg < 256 ∧ t.2.2.1 = nI eg ∧ ∀ d, d < 8 → (eg.testBit d = true ↔ p_D B c d k)) ∧ (∀ d, d < 8 → (∃ j, j < k ∧ t.1 (8 * c + d) = nI j ∧ p_D B c d j) ∨ (t.1 (8 * c + d) = -1 ∧ ∀ j, j < k → ¬ p_wk B 8 j c d)) ∧ ∀ c' d, c' ≠ c → d < 8 → t.1 (8 * c' + d) = far (8 * c' + d)) _ 8 ?_ ?_ ?_
  · refine ⟨rfl, ⟨0, by decide, rfl, fun d hd => by simp⟩, ⟨2 ^ c, by have := Nat.pow_lt_pow_right (a := 2) (by omega) hc; omega, rfl, fun d hd => ?_⟩, fun d hd => Or.inr ⟨hf d hd, fun j hj => absurd hj (by omega)⟩, fun c' d _ _ => rfl⟩
    rw [Nat.testBit_two_pow, decide_eq_true_eq]
    exact ⟨fun e => ⟨e, fun j hj => absurd hj (by omega)⟩, fun h => h.1⟩
  · rintro k ⟨t1, t2, t3, t4⟩ hk ⟨rfl, ⟨sn, sn1, rfl, sn3⟩, ⟨eg, eg1, rfl, eg3⟩, h4, h5⟩
    try dsimp only at *
    left
    show ∃ t', fPl_measure_L33 bs (nI c) t1 (nI sn) (nI eg) (nI k) = _ ∧ _
    unfold fPl_measure_L33
    rw [if_neg (zg8 hk)]
    obtain ⟨far', f1, f2⟩ := p_noteFar (far := t1) (nI k) hc eg1
    rw [f1]
    simp only [Option.bind_some, zlet, z_or, p_besideAny hb eg1, z_df, nI_1]
    have hsn : ∀ d, d < 8 → ((sn ||| eg).testBit d = true ↔ ∃ j, j < k + 1 ∧ p_wk B 8 j c d) := fun d hd => by
      rw [Nat.testBit_or, Bool.or_eq_true, sn3 d hd, eg3 d hd]
      constructor
      · rintro (⟨j, j1, j2⟩ | h)
        · exact ⟨j, by omega, j2⟩
        · exact ⟨k, by omega, h.1⟩
      · rintro ⟨j, j1, j2⟩
        rcases Classical.em (∃ j, j < k ∧ p_wk B 8 j c d) with h | h
        · exact Or.inl h
        · right
          have : j = k := by
            rcases Nat.lt_or_ge j k with h6 | h6
            · exact absurd ⟨j, h6, j2⟩ h
            · omega
          subst this
          exact ⟨j2, fun i hi hw => h ⟨i, hi, hw⟩⟩
    refine ⟨_, rfl, rfl, ⟨sn ||| eg, Nat.or_lt_two_pow (n := 8) sn1 eg1, rfl, hsn⟩, ⟨_, Nat.lt_of_le_of_lt Nat.and_le_left (p_ba_lt hB (Nat.le_refl 8)), rfl, fun d hd => ?_⟩, fun d hd => ?_, fun c' d h6 h7 => ?_⟩
    · rw [zdf_tb (by omega), Bool.and_eq_true, p_ba_tb, Bool.not_eq_true']
      constructor
      · rintro ⟨⟨e, e1, e2, e3⟩, h7⟩
        have h8 : ¬ ∃ j, j < k + 1 ∧ p_wk B 8 j c d := fun h => by rw [(hsn d hd).mpr h] at h7; cases h7
        exact ⟨p_wk_snoc ((eg3 e e1).mp e2).1 hd e3, fun j hj hw => h8 ⟨j, hj, hw⟩⟩
      · intro h
        obtain ⟨e, e1, e2, e3, -⟩ := p_wk_unsnoc hc h.1
        refine ⟨⟨e, e1, (eg3 e e1).mpr ⟨e2, fun j hj hw => h.2 (j + 1) (by omega) (p_wk_snoc hw hd e3)⟩, e3⟩, z_tbB (hsn d hd) (fun ⟨j, j1, j2⟩ => h.2 j j1 j2)⟩
    · show (∃ j, j < k + 1 ∧ far' (8 * c + d) = nI j ∧ p_D B c d j) ∨ (far' (8 * c + d) = -1 ∧ ∀ j, j < k + 1 → ¬ p_wk B 8 j c d)
      rw [f2 c d hd]
      by_cases he : eg.testBit d = true
      · rw [if_pos ⟨rfl, he⟩]
        exact Or.inl ⟨k, by omega, rfl, (eg3 d hd).mp he⟩
      · rw [if_neg (fun h => he h.2)]
        rcases h4 d hd with ⟨j, j1, j2, j3⟩ | ⟨j1, j2⟩
        · exact Or.inl ⟨j, by omega, j2, j3⟩
        · refine Or.inr ⟨j1, fun j hj hw => ?_⟩
          rcases Nat.lt_or_ge j k with h6 | h6
          · exact j2 j h6 hw
          · have : j = k := by omega
            subst this
            exact he ((eg3 d hd).mpr ⟨hw, j2⟩)
    · show far' (8 * c' + d) = far (8 * c' + d)
      rw [f2 c' d h7, if_neg (fun h => h6 h.1), h5 c' d h6 h7]
  · rintro ⟨t1, t2, t3, t4⟩ ⟨rfl, -, -, h4, h5⟩
    try dsimp only at *
    refine ⟨t1, ?_, fun d hd => ?_, h5⟩
    · show fPl_measure_L33 bs (nI c) t1 t2 t3 (nI 8) = _
      unfold fPl_measure_L33
      rw [if_pos (by decide)]
    · rcases h4 d hd with ⟨j, j1, j2, j3⟩ | ⟨j1, j2⟩
      · exact Or.inl ⟨j, j1, j2, j3⟩
      · exact Or.inr ⟨j1, p_wk_8 hc j2⟩
theorem p_fill64 (far : Nat → Int32) (v : Int32) : ∃ r, fJA_fill_64 far v = some r ∧ ∀ j, j < 64 → r j = v := by
  unfold fJA_fill_64
  refine zLP_use (body := fun s : (Nat → Int32) × Int32 => fJA_fill_64_L5 v s.1 s.2) (s := (far, 0)) (fun k t => t.2 = nI k ∧ ∀ j, j < k → t.1 j = v) (fun r => ∀ j, j < 64 → r j = v) 64 ⟨rfl, fun j hj => absurd hj (by omega)⟩ (fun r h1 h2 => ?_) ?_ ?_
  · exact ⟨r, by rw [h1]; rfl, h2⟩
  · rintro k ⟨t1, t2⟩ hk ⟨rfl, h2⟩
    try dsimp only at *
    left
    show ∃ t', fJA_fill_64_L5 v t1 (nI k) = _ ∧ _
    unfold fJA_fill_64_L5
    rw [if_neg (zg64 hk), zwr_n hk (by omega)]
    refine ⟨_, rfl, nI_1 k, fun j hj => ?_⟩
    show zup t1 k v j = v
    by_cases e : j = k
    · subst e; exact zup_s
    · rw [zup_n e, h2 j (by omega)]
  · rintro ⟨t1, t2⟩ ⟨rfl, h2⟩
    try dsimp only at *
    refine ⟨t1, ?_, h2⟩
    show fJA_fill_64_L5 v t1 (nI 64) = _
    unfold fJA_fill_64_L5
    rw [if_pos (by decide)]
theorem p_measure {r bs far : Nat → Int32} {B : Nat → Nat} {C : Nat} (hC : C ≤ 8) (hr : r 4 = nI C) (hB : ∀ c, c < 8 → B c < 256) (hb : ∀ c, c < 8 → bs c = nI (B c)) :
    ∃ far', fPl_measure r bs far = some far' ∧ ∀ c d, c < C → d < 8 → p_far (-1) B c d (far' (8 * c + d)) := by
  unfold fPl_measure
  obtain ⟨f0, a1, a2⟩ := p_fill64 far (-1)
  rw [a1]
  refine zLP_use (body := fun s : (Nat → Int32) × Int32 => fPl_measure_L10 r bs s.1 s.2) (s := (f0, 0))
    (fun k t => t.2 = nI k ∧ (∀ c d, c < k → d < 8 → p_far (-1) B c d (t.1 (8 * c + d))) ∧ ∀ c d, k ≤ c → c < 8 → d < 8 → t.1 (8 * c + d) = -1)
    (fun q => ∀ c d, c < C → d < 8 → p_far (-1) B c d (q (8 * c + d))) C ⟨rfl, fun c d hc => absurd hc (by omega), fun c d _ hc hd => a2 _ (by omega)⟩ (fun q h1 h2 => ?_) ?_ ?_
  · exact ⟨q, by simp only [Option.bind_some]; rw [h1]; rfl, h2⟩
  · rintro k ⟨t1, t2⟩ hk ⟨rfl, h2, h3⟩
    try dsimp only at *
    left
    show ∃ t', fPl_measure_L10 r bs t1 (nI k) = _ ∧ _
    unfold fPl_measure_L10
    obtain ⟨w, w1, w2, w3⟩ := p_measIn (far := t1) hB hb (c := k) (by omega) (fun d hd => h3 k d (Nat.le_refl _) (by omega) hd)
    rw [hr, if_neg (nI_ge hk (by omega)), if_neg (zg8 (by omega)), z_sh (by omega)]
    simp only [zlet]
    rw [w1]
    refine ⟨_, rfl, nI_1 k, fun c d hc hd => ?_, fun c d hc hc8 hd => ?_⟩
    · show p_far (-1) B c d (w (8 * c + d))
      by_cases e : c = k
      · subst e; exact w2 d hd
      · rw [w3 c d e hd]; exact h2 c d (by omega) hd
    · show w (8 * c + d) = -1
      rw [w3 c d (by omega) hd]; exact h3 c d (by omega) hc8 hd
  · rintro ⟨t1, t2⟩ ⟨rfl, h2, h3⟩
    try dsimp only at *
    refine ⟨t1, ?_, h2⟩
    show fPl_measure_L10 r bs t1 (nI C) = _
    unfold fPl_measure_L10
    rw [hr, if_pos (nI_le (Nat.le_refl _) (by omega))]
/-! ## the reference's distances -/
def p_fw (B : Nat → Nat) (row : Nat → Int32) (K c0 d0 : Nat) : Prop :=
  ∃ m : Nat → Nat → Nat, (∀ c d, c < 8 → d < 8 → row (8 * c + d) = nI (m c d) ∧ m c d ≤ 1000000 ∧ (m c d < 1000000 → p_wk B 8 (m c d) c d) ∧ (∀ n, p_wk B K n c d → m c d ≤ n)) ∧
    ∀ c d, c < 8 → d < 8 → (c < c0 ∨ c = c0 ∧ d < d0) → ∀ n, p_wk B (K + 1) n c d → m c d ≤ n
theorem p_fw_step {B : Nat → Nat} {row : Nat → Int32} {K c0 d0 : Nat} (hK : K < 8) (hc0 : c0 < 8) (hd0 : d0 < 8) (h : p_fw B row K c0 d0) :
    ∃ row', fM_laysApart_L82 (nI K) (nI c0) row (nI d0) = some (.inl (row', nI (d0 + 1))) ∧ p_fw B row' K c0 (d0 + 1) := by
  obtain ⟨m, h1, h2⟩ := h
  obtain ⟨a1, a2, a3, a4⟩ := h1 c0 d0 hc0 hd0
  obtain ⟨b1, b2, b3, b4⟩ := h1 c0 K hc0 hK
  obtain ⟨e1, e2, e3, e4⟩ := h1 K d0 hK hd0
  unfold fM_laysApart_L82
  have i1 : ∀ a b, (8 : Int32) * nI a + nI b = nI (8 * a + b) := fun a b => by rw [show (8 : Int32) = nI 8 from rfl, nI_mul, nI_add]
  rw [if_neg (zg8 hd0), i1, i1, i1, zrd_n (by omega) (by omega), zrd_n (by omega) (by omega), zrd_n (by omega) (by omega)]
  simp only [Option.bind_some]
  rw [zwr_n (by omega) (by omega), a1, b1, e1, nI_add]
  have hl : fM_lesser (nI (m c0 d0)) (nI (m c0 K + m K d0)) = nI (min (m c0 d0) (m c0 K + m K d0)) := by
    unfold fM_lesser
    rcases Nat.lt_or_ge (m c0 d0) (m c0 K + m K d0) with h5 | h5
    · rw [if_neg (nI_ge h5 (by omega)), Nat.min_eq_left (by omega)]
    · rw [if_pos (nI_le h5 (by omega)), Nat.min_eq_right h5]
  rw [hl]
  simp only [Option.bind_some, zlet, nI_1]
  refine ⟨_, rfl, fun c d => if c = c0 ∧ d = d0 then min (m c0 d0) (m c0 K + m K d0) else m c d, fun c d hc hd => ?_, fun c d hc hd hlt n hw => ?_⟩
  · by_cases e : c = c0 ∧ d = d0
    · obtain ⟨rfl, rfl⟩ := e
      simp only [and_self, if_true]
      refine ⟨zup_s, by omega, fun hl => ?_, fun n hw => Nat.le_trans (Nat.min_le_left _ _) (a4 n hw)⟩
      rcases Nat.lt_or_ge (m c d) (m c K + m K d) with h5 | h5
      · rw [Nat.min_eq_left (by omega)] at hl ⊢; exact a3 hl
      · rw [Nat.min_eq_right h5] at hl ⊢; exact p_wk_app (b3 (by omega)) (e3 (by omega))
    · simp only [if_neg e]
      rw [zup_n (by omega)]
      exact h1 c d hc hd
  · by_cases e : c = c0 ∧ d = d0
    · obtain ⟨rfl, rfl⟩ := e
      simp only [and_self, if_true]
      rcases p_wk_split hK hw with h5 | ⟨a, b, h5, h6, h7⟩
      · exact Nat.le_trans (Nat.min_le_left _ _) (a4 n h5)
      · have := b4 a h6
        have := e4 b h7
        omega
    · simp only [if_neg e]
      exact h2 c d hc hd (by omega) n hw
theorem p_fw_row {B : Nat → Nat} {row : Nat → Int32} {K c0 : Nat} (hK : K < 8) (hc0 : c0 < 8) (h : p_fw B row K c0 0) :
    ∃ row', zLP (fun s : (Nat → Int32) × Int32 => fM_laysApart_L82 (nI K) (nI c0) s.1 s.2) (row, 0) = some row' ∧ p_fw B row' K (c0 + 1) 0 := by
  refine zLP_inv (fun k t => t.2 = nI k ∧ p_fw B t.1 K c0 k) _ 8 ⟨rfl, h⟩ ?_ ?_
  · rintro k ⟨t1, t2⟩ hk ⟨rfl, h2⟩
    try dsimp only at *
    left
    obtain ⟨r', r1, r2⟩ := p_fw_step hK hc0 hk h2
    exact ⟨_, r1, rfl, r2⟩
  · rintro ⟨t1, t2⟩ ⟨rfl, m, h1, h2⟩
    try dsimp only at *
    refine ⟨t1, ?_, m, h1, fun c d hc hd hlt => h2 c d hc hd (by omega)⟩
    show fM_laysApart_L82 (nI K) (nI c0) t1 (nI 8) = _
    unfold fM_laysApart_L82
    rw [if_pos (by decide)]
theorem p_fw_rnd {B : Nat → Nat} {row : Nat → Int32} {K : Nat} (hK : K < 8) (h : p_fw B row K 0 0) :
    ∃ row', zLP (fun s : (Nat → Int32) × Int32 => fM_laysApart_L74 (nI K) s.1 s.2) (row, 0) = some row' ∧ p_fw B row' (K + 1) 0 0 := by
  refine zLP_inv (fun k t => t.2 = nI k ∧ p_fw B t.1 K k 0) _ 8 ⟨rfl, h⟩ ?_ ?_
  · rintro k ⟨t1, t2⟩ hk ⟨rfl, h2⟩
    try dsimp only at *
    left
    obtain ⟨r', r1, r2⟩ := p_fw_row hK hk h2
    show ∃ t', fM_laysApart_L74 (nI K) t1 (nI k) = _ ∧ _
    unfold fM_laysApart_L74
    rw [if_neg (zg8 hk), r1]
    exact ⟨_, rfl, nI_1 k, r2⟩
  · rintro ⟨t1, t2⟩ ⟨rfl, m, h1, h2⟩
    try dsimp only at *
    refine ⟨t1, ?_, m, fun c d hc hd => ⟨(h1 c d hc hd).1, (h1 c d hc hd).2.1, (h1 c d hc hd).2.2.1, h2 c d hc hd (by omega)⟩, fun c d hc hd hlt => absurd hlt (by omega)⟩
    show fM_laysApart_L74 (nI K) t1 (nI 8) = _
    unfold fM_laysApart_L74
    rw [if_pos (by decide)]
theorem p_fw_all {B : Nat → Nat} {row : Nat → Int32} (h : p_fw B row 0 0 0) :
    ∃ row', zLP (fun s : (Nat → Int32) × Int32 => fM_laysApart_L66 s.1 s.2) (row, 0) = some row' ∧ ∀ c d, c < 8 → d < 8 → p_far (nI 1000000) B c d (row' (8 * c + d)) := by
  refine zLP_inv (fun k t => t.2 = nI k ∧ p_fw B t.1 k 0 0) _ 8 ⟨rfl, h⟩ ?_ ?_
  · rintro k ⟨t1, t2⟩ hk ⟨rfl, h2⟩
    try dsimp only at *
    left
    obtain ⟨r', r1, r2⟩ := p_fw_rnd hk h2
    show ∃ t', fM_laysApart_L66 t1 (nI k) = _ ∧ _
    unfold fM_laysApart_L66
    rw [if_neg (zg8 hk), r1]
    exact ⟨_, rfl, nI_1 k, r2⟩
  · rintro ⟨t1, t2⟩ ⟨rfl, m, h1, h2⟩
    try dsimp only at *
    refine ⟨t1, ?_, fun c d hc hd => ?_⟩
    · show fM_laysApart_L66 t1 (nI 8) = _
      unfold fM_laysApart_L66
      rw [if_pos (by decide)]
    · obtain ⟨a1, a2, a3, a4⟩ := h1 c d hc hd
      rcases Nat.lt_or_ge (m c d) 1000000 with h5 | h5
      · have hD : p_D B c d (m c d) := ⟨a3 h5, fun j hj hw => by have := a4 j hw; omega⟩
        exact Or.inl ⟨m c d, p_D_lt hc hD, a1, hD⟩
      · refine Or.inr ⟨by rw [a1, show m c d = 1000000 by omega], p_wk_8 hc (fun j hj hw => by have := a4 j hw; omega)⟩
theorem p_isBeside {s : Nat → Int32} {B : Nat → Nat} (hB : ∀ c, c < 8 → B c < 256) (hs : ∀ c, c < 8 → s (3 + c) = nI (B c)) {c d : Nat} (hc : c < 8) (hd : d < 8) : fM_isBeside s (nI c) (nI d) = some ((B c).testBit d) := by
  unfold fM_isBeside
  rw [show (3 : Int32) = nI 3 from rfl, nI_add, zrd_n (by omega) (by omega), hs c hc]
  simp only [Option.bind_some, z_bo (hB c hc) hd]
theorem p_laysApart {s apart : Nat → Int32} {B : Nat → Nat} (hB : ∀ c, c < 8 → B c < 256) (hs : ∀ c, c < 8 → s (3 + c) = nI (B c)) :
    ∃ row, fM_laysApart s apart = some row ∧ ∀ c d, c < 8 → d < 8 → p_far (nI 1000000) B c d (row (8 * c + d)) := by
  unfold fM_laysApart
  have hrow : ∀ (a : Nat → Int32) c, c < 8 → ∃ row, zLP (fun t : (Nat → Int32) × Int32 => fM_laysApart_L10 s (nI c) t.1 t.2) (a, 0) = some row ∧ ∀ c' d, c' < 8 → d < 8 → row (8 * c' + d) = if c' = c then nI (if c = d then 0 else if (B c).testBit d then 1 else 1000000) else a (8 * c' + d) := by
    intro a c hc
    refine zLP_inv (fun k t => t.2 = nI k ∧ ∀ c' d, c' < 8 → d < 8 → t.1 (8 * c' + d) = if c' = c ∧ d < k then nI (if c = d then 0 else if (B c).testBit d then 1 else 1000000) else a (8 * c' + d)) _ 8 ⟨rfl, fun c' d _ _ => by simp⟩ ?_ ?_
    · rintro k ⟨t1, t2⟩ hk ⟨rfl, h2⟩
      try dsimp only at *
      left
      show ∃ t', fM_laysApart_L10 s (nI c) t1 (nI k) = _ ∧ _
      unfold fM_laysApart_L10
      rw [if_neg (zg8 hk), show (8 : Int32) * nI c + nI k = nI (8 * c + k) by rw [show (8 : Int32) = nI 8 from rfl, nI_mul, nI_add], p_isBeside hB hs hc hk]
      have hv : ∀ v, (∀ c' d, c' < 8 → d < 8 → zup t1 (8 * c + k) (nI v) (8 * c' + d) = if c' = c ∧ d < k + 1 then nI (if c = d then 0 else if (B c).testBit d then 1 else 1000000) else a (8 * c' + d)) ↔ nI v = nI (if c = k then 0 else if (B c).testBit k then 1 else 1000000) := fun v => by
        constructor
        · intro h
          have := h c k hc hk
          rw [zup_s, if_pos ⟨rfl, by omega⟩] at this
          exact this
        · intro h c' d hc' hd
          by_cases e : c' = c ∧ d = k
          · obtain ⟨rfl, rfl⟩ := e
            rw [zup_s, if_pos ⟨rfl, by omega⟩]; exact h
          · rw [zup_n (by omega), h2 c' d hc' hd]
            by_cases e2 : c' = c ∧ d < k
            · rw [if_pos e2, if_pos (show c' = c ∧ d < k + 1 from ⟨e2.1, by omega⟩)]
            · rw [if_neg e2, if_neg (show ¬ (c' = c ∧ d < k + 1) by omega)]
      by_cases e : c = k
      · rw [if_pos (by rw [e]), zwr_n (by omega) (by omega)]
        refine ⟨_, rfl, nI_1 k, (hv 0).mpr ?_⟩
        rw [if_pos e]
      · rw [if_neg (fun h => e ((nI_eq (by omega) (by omega)).mp h))]
        simp only [Option.bind_some]
        rw [zwr_n (by omega) (by omega)]
        cases eb : (B c).testBit k with
        | true => exact ⟨_, rfl, nI_1 k, (hv 1).mpr (by rw [if_neg e, eb]; rfl)⟩
        | false => exact ⟨_, rfl, nI_1 k, (hv 1000000).mpr (by rw [if_neg e, eb]; rfl)⟩
    · rintro ⟨t1, t2⟩ ⟨rfl, h2⟩
      try dsimp only at *
      refine ⟨t1, ?_, fun c' d hc' hd => ?_⟩
      · show fM_laysApart_L10 s (nI c) t1 (nI 8) = _
        unfold fM_laysApart_L10
        rw [if_pos (by decide)]
      · rw [h2 c' d hc' hd]
        by_cases e2 : c' = c
        · rw [if_pos e2, if_pos ⟨e2, hd⟩]
        · rw [if_neg e2, if_neg (fun h => e2 h.1)]
  refine zLP_use (body := fun t : (Nat → Int32) × Int32 => fM_laysApart_L2 s t.1 t.2) (s := (apart, 0))
    (fun k t => t.2 = nI k ∧ ∀ c d, c < k → c < 8 → d < 8 → t.1 (8 * c + d) = nI (if c = d then 0 else if (B c).testBit d then 1 else 1000000))
    (fun r => ∀ c d, c < 8 → d < 8 → r (8 * c + d) = nI (if c = d then 0 else if (B c).testBit d then 1 else 1000000)) 8 ⟨rfl, fun c d hc => absurd hc (by omega)⟩ (fun r0 h1 h2 => ?_) ?_ ?_
  · rw [h1]
    have h3 : p_fw B r0 0 0 0 := by
      refine ⟨fun c d => if c = d then 0 else if (B c).testBit d then 1 else 1000000, fun c d hc hd => ⟨h2 c d hc hd, ?_, ?_, ?_⟩, fun c d hc hd hlt => absurd hlt (by omega)⟩
      · dsimp only
        split
        · omega
        · split <;> omega
      · dsimp only
        split
        · next e => intro _; exact e
        · split
          · next e => intro _; exact ⟨d, hd, e, Or.inl rfl, rfl⟩
          · intro h; omega
      · intro n hw
        dsimp only
        split
        · omega
        · next e =>
          cases n with
          | zero => exact absurd hw e
          | succ n =>
            obtain ⟨x, x1, x2, x3, x4⟩ := hw
            have hn : n = 0 := by omega
            subst hn
            have : x = d := x4
            subst this
            rw [if_pos x2]; omega
    obtain ⟨r1, h4, h5⟩ := p_fw_all h3
    exact ⟨r1, by simp only [Option.bind_some]; rw [h4]; rfl, h5⟩
  · rintro k ⟨t1, t2⟩ hk ⟨rfl, h3⟩
    try dsimp only at *
    left
    obtain ⟨r', r1, r2⟩ := hrow t1 k hk
    show ∃ t', fM_laysApart_L2 s t1 (nI k) = _ ∧ _
    unfold fM_laysApart_L2
    rw [if_neg (zg8 hk), r1]
    refine ⟨_, rfl, nI_1 k, fun c d hc hc8 hd => ?_⟩
    show r' (8 * c + d) = _
    rw [r2 c d hc8 hd]
    by_cases e : c = k
    · subst e; rw [if_pos rfl]
    · rw [if_neg e, h3 c d (by omega) hc8 hd]
  · rintro ⟨t1, t2⟩ ⟨rfl, h3⟩
    try dsimp only at *
    refine ⟨t1, ?_, fun c d hc hd => h3 c d hc hc hd⟩
    show fM_laysApart_L2 s t1 (nI 8) = _
    unfold fM_laysApart_L2
    rw [if_pos (by decide)]
