/-! ===== the first corner of a shortest row ===== -/
def p_gd (B : Nat → Nat) (c d k e : Nat) : Prop := e < 8 ∧ (B c).testBit e = true ∧ p_D B e d k
def p_isSt (B : Nat → Nat) (c d e : Nat) : Prop := ((c = d ∨ ∀ n, ¬ p_wk B 8 n c d) ∧ e = c) ∨ (∃ k, p_D B c d (k + 1) ∧ p_gd B c d k e ∧ ∀ e', e' < e → ¬ p_gd B c d k e')
theorem p_isSt_uni {B : Nat → Nat} {c d e e' : Nat} (h : p_isSt B c d e) (h' : p_isSt B c d e') : e = e' := by
  have key : ∀ {k : Nat}, p_D B c d (k + 1) → ¬ (c = d ∨ ∀ n, ¬ p_wk B 8 n c d) := fun {k} hD h => by
    rcases h with h | h
    · exact hD.2 0 (by omega) h
    · exact h _ hD.1
  rcases h with ⟨h1, h2⟩ | ⟨k, h1, h2, h3⟩
  · rcases h' with ⟨h4, h5⟩ | ⟨k, h4, h5, h6⟩
    · rw [h2, h5]
    · exact absurd h1 (key h4)
  · rcases h' with ⟨h4, h5⟩ | ⟨k', h4, h5, h6⟩
    · exact absurd h4 (key h1)
    · have : k = k' := by have := p_D_uni h1 h4; omega
      subst this
      rcases Nat.lt_trichotomy e e' with h | h | h
      · exact absurd h2 (h6 e h)
      · exact h
      · exact absurd h5 (h3 e' h)
noncomputable def p_st (B : Nat → Nat) (c d : Nat) : Nat := @dite _ (∃ e, p_isSt B c d e) (Classical.propDecidable _) (fun h => Classical.choose h) (fun _ => c)
theorem p_st_eq {B : Nat → Nat} {c d e : Nat} (h : p_isSt B c d e) : p_st B c d = e := by
  have hx : ∃ e, p_isSt B c d e := ⟨e, h⟩
  unfold p_st
  rw [dif_pos hx]
  exact p_isSt_uni (Classical.choose_spec hx) h
theorem p_gd_ex {B : Nat → Nat} {c d k : Nat} (h : p_D B c d (k + 1)) : ∃ e, p_gd B c d k e := by
  obtain ⟨e, e1, e2, e3, e4⟩ := h.1
  exact ⟨e, e1, e2, e4, fun j hj hw => h.2 (j + 1) (by omega) ⟨e, e1, e2, Or.inr e1, hw⟩⟩
theorem p_gd_lt {B : Nat → Nat} {c d k e : Nat} (h : p_gd B c d k e) : e < 8 := h.1
/-- corners have streets among themselves alone -/
def p_BC (B : Nat → Nat) (C : Nat) : Prop := ∀ c, c < 8 → ∀ e, (B c).testBit e = true → e < C ∧ c < C
theorem p_BC_lt {B : Nat → Nat} {C : Nat} (hC : C ≤ 8) (h : p_BC B C) {c : Nat} (hc : c < 8) : B c < 256 := by
  apply Nat.lt_pow_two_of_testBit (n := 8)
  intro i hi
  cases e : (B c).testBit i with
  | false => rfl
  | true => have := (h c hc i e).1; omega
theorem p_besideOf {r bs : Nat → Int32} {B : Nat → Nat} {C c : Nat} (hC : C ≤ 8) (hr : r 4 = nI C) (hb : ∀ c, c < 8 → bs c = nI (B c)) (hc : c < C) : fPl_besideOf r bs (nI c) = some (nI (B c)) := by
  unfold fPl_besideOf
  rw [p_hasCorner hC hr, p_has_y (by omega) hc, if_pos rfl, zrd_n (by omega) (by omega), hb c (by omega)]; rfl
theorem p_areBeside {r bs : Nat → Int32} {B : Nat → Nat} {C c d : Nat} (hC : C ≤ 8) (hr : r 4 = nI C) (hb : ∀ c, c < 8 → bs c = nI (B c)) (hB : p_BC B C) (hc : c < C) (hd : d < C) : fPl_areBeside r bs (nI c) (nI d) = some ((B c).testBit d) := by
  unfold fPl_areBeside
  rw [p_hasCorner hC hr, p_has_y (by omega) hd, if_pos rfl, p_besideOf hC hr hb hc]
  simp only [Option.bind_some, z_hb (p_BC_lt hC hB (show c < 8 by omega)) (show d < 8 by omega)]
  cases (B c).testBit d <;> rfl
theorem p_farFrom {r far : Nat → Int32} {C c d : Nat} (hC : C ≤ 8) (hr : r 4 = nI C) (hc : c < C) (hd : d < C) : fPl_farFrom r far (nI c) (nI d) = some (far (8 * c + d)) := by
  unfold fPl_farFrom
  rw [p_hasCorner hC hr, p_hasCorner hC hr, p_has_y (by omega) hc, p_has_y (by omega) hd, if_pos rfl, if_pos rfl, show nI c * 8 + nI d = nI (8 * c + d) by rw [show (8 : Int32) = nI 8 from rfl, nI_mul, nI_add, Nat.mul_comm], zrd_n (by omega) (by omega)]; rfl
theorem p_farNI {B : Nat → Nat} {e d k : Nat} {v : Int32} (h : p_far (-1) B e d v) (hk : k < 8) : v = nI k ↔ p_D B e d k := by
  rcases h with ⟨j, h1, rfl, h2⟩ | ⟨rfl, h2⟩
  · rw [nI_eq (by omega) (by omega)]
    exact ⟨fun e => e ▸ h2, fun h => p_D_uni h2 h⟩
  · constructor
    · intro h
      have := nI_pos' (n := k) (by omega)
      rw [← h] at this
      exact absurd this (by decide)
    · intro h; exact absurd h.1 (h2 _)
theorem p_farNI' {B : Nat → Nat} {e d k : Nat} {v : Int32} (h : p_far (nI 1000000) B e d v) (hk : k < 8) : v = nI k ↔ p_D B e d k := by
  rcases h with ⟨j, h1, rfl, h2⟩ | ⟨rfl, h2⟩
  · rw [nI_eq (by omega) (by omega)]
    exact ⟨fun e => e ▸ h2, fun h => p_D_uni h2 h⟩
  · constructor
    · intro h
      have := (nI_eq (by omega) (by omega)).mp h
      omega
    · intro h; exact absurd h.1 (h2 _)
theorem p_stepX {r bs far : Nat → Int32} {B : Nat → Nat} {C c d : Nat} (hC : C ≤ 8) (hr : r 4 = nI C) (hB : p_BC B C) (hb : ∀ c, c < 8 → bs c = nI (B c)) (hf : ∀ c d, c < C → d < C → p_far (-1) B c d (far (8 * c + d))) (hc : c < C) (hd : d < C) :
    fPl_stepTowards r bs far (nI c) (nI d) = some (nI (p_st B c d)) := by
  unfold fPl_stepTowards
  rw [p_farFrom hC hr hc hd]
  simp only [Option.bind_some]
  rcases hf c d hc hd with ⟨k, k1, k2, k3⟩ | ⟨k2, k3⟩
  · rw [k2]
    cases k with
    | zero =>
      rw [if_pos (by decide), p_st_eq (e := c) (Or.inl ⟨Or.inl k3.1, rfl⟩)]
    | succ k =>
      rw [if_neg (nI_nle (by omega) (by omega))]
      refine zLP_use (body := fun s : Int32 => fPl_stepTowards_L14 r bs far (nI c) (nI d) (nI (k + 1)) s) (s := 0) (fun e t => t = nI e ∧ ∀ e', e' < e → ¬ p_gd B c d k e') (fun q => ∃ e, q = nI e ∧ p_gd B c d k e ∧ ∀ e', e' < e → ¬ p_gd B c d k e') 8 ⟨rfl, fun e' h => absurd h (by omega)⟩ (fun q h1 h2 => ?_) ?_ ?_
      · obtain ⟨e, rfl, h3, h4⟩ := h2
        rw [h1, p_st_eq (e := e) (Or.inr ⟨k, k3, h3, h4⟩)]
      · rintro e t he ⟨rfl, h2⟩
        show (∃ t', fPl_stepTowards_L14 r bs far (nI c) (nI d) (nI (k + 1)) (nI e) = _ ∧ _) ∨ (∃ q, fPl_stepTowards_L14 r bs far (nI c) (nI d) (nI (k + 1)) (nI e) = _ ∧ _)
        have hstep : ¬ p_gd B c d k e → ∀ e', e' < e + 1 → ¬ p_gd B c d k e' := fun hg e' he' => by
          rcases Nat.lt_or_ge e' e with h | h
          · exact h2 e' h
          · rw [show e' = e by omega]; exact hg
        unfold fPl_stepTowards_L14
        rw [if_neg (zg8 he), p_besideOf hC hr hb hc]
        simp only [Option.bind_some, z_hb (p_BC_lt hC hB (show c < 8 by omega)) he]
        cases eb : (B c).testBit e with
        | true =>
          have heC := (hB c (by omega) e eb).1
          rw [if_pos rfl, p_farFrom hC hr heC hd, nI_pred]
          simp only [Option.bind_some]
          by_cases hg : far (8 * e + d) = nI k
          · rw [if_pos hg]
            exact Or.inr ⟨_, rfl, e, rfl, ⟨he, eb, (p_farNI (hf e d heC hd) (by omega)).mp hg⟩, h2⟩
          · rw [if_neg hg]
            exact Or.inl ⟨_, rfl, nI_1 e, hstep (fun h => hg ((p_farNI (hf e d heC hd) (by omega)).mpr h.2.2))⟩
        | false =>
          rw [if_neg (by decide)]
          exact Or.inl ⟨_, rfl, nI_1 e, hstep (fun h => by rw [h.2.1] at eb; cases eb)⟩
      · rintro t ⟨rfl, h2⟩
        obtain ⟨e, he⟩ := p_gd_ex k3
        exact absurd he (h2 e he.1)
  · rw [k2, if_pos (by decide), p_st_eq (e := c) (Or.inl ⟨Or.inr k3, rfl⟩)]
theorem z_8mul (a b : Nat) : (8 : Int32) * nI a + nI b = nI (8 * a + b) := by rw [show (8 : Int32) = nI 8 from rfl, nI_mul, nI_add]
theorem z_mul8 (a b : Nat) : nI a * (8 : Int32) + nI b = nI (8 * a + b) := by rw [show (8 : Int32) = nI 8 from rfl, nI_mul, nI_add, Nat.mul_comm]
theorem z_mul6 (a b : Nat) : nI a * (6 : Int32) + nI b = nI (6 * a + b) := by rw [show (6 : Int32) = nI 6 from rfl, nI_mul, nI_add, Nat.mul_comm]
theorem p_towards {s apart : Nat → Int32} {B : Nat → Nat} {C c d : Nat} (hC : C ≤ 8) (hB : p_BC B C) (hs : ∀ c, c < 8 → s (3 + c) = nI (B c)) (hf : ∀ c d, c < C → d < C → p_far (nI 1000000) B c d (apart (8 * c + d))) (hc : c < C) (hd : d < C) (hw : ∃ k, p_D B c d k) :
    fM_towards s apart (nI c) (nI d) = some (nI (p_st B c d)) := by
  unfold fM_towards
  by_cases hcd : c = d
  · subst hcd
    rw [p_st_eq (e := c) (Or.inl ⟨Or.inl rfl, rfl⟩)]
    have h : (fun s_1 : Int32 => fM_towards_L2 s apart (nI c) (nI c) s_1) 0 = some (.inr 0) := by
      show fM_towards_L2 s apart (nI c) (nI c) 0 = _
      unfold fM_towards_L2
      rw [if_pos rfl]
    rw [zLP_out h]
    simp only [Option.bind_some, if_true]
  · obtain ⟨k, hk⟩ := hw
    have hcd' : ¬ nI c = nI d := fun h => hcd ((nI_eq (by omega) (by omega)).mp h)
    cases k with
    | zero => exact absurd hk.1 hcd
    | succ k =>
      have hk8 := p_D_lt (show c < 8 by omega) hk
      have hv : apart (8 * c + d) = nI (k + 1) := (p_farNI' (hf c d hc hd) hk8).mpr hk
      refine zLP_use (body := fun q : Int32 => fM_towards_L2 s apart (nI c) (nI d) q) (s := 0) (fun e t => t = nI e ∧ ∀ e', e' < e → ¬ p_gd B c d k e') (fun q => ∃ e, q = nI e ∧ p_gd B c d k e ∧ ∀ e', e' < e → ¬ p_gd B c d k e') 8 ⟨rfl, fun e' h => absurd h (by omega)⟩ (fun q h1 h2 => ?_) ?_ ?_
      · obtain ⟨e, rfl, h3, h4⟩ := h2
        rw [h1, p_st_eq (e := e) (Or.inr ⟨k, hk, h3, h4⟩)]
        simp only [Option.bind_some, if_neg hcd']
      · rintro e t he ⟨rfl, h2⟩
        show (∃ t', fM_towards_L2 s apart (nI c) (nI d) (nI e) = _ ∧ _) ∨ (∃ q, fM_towards_L2 s apart (nI c) (nI d) (nI e) = _ ∧ _)
        have hstep : ¬ p_gd B c d k e → ∀ e', e' < e + 1 → ¬ p_gd B c d k e' := fun hg e' he' => by
          rcases Nat.lt_or_ge e' e with h | h
          · exact h2 e' h
          · rw [show e' = e by omega]; exact hg
        unfold fM_towards_L2
        rw [if_neg hcd', p_isBeside (fun c hc => p_BC_lt hC hB hc) hs (by omega) he]
        simp only [Option.bind_some]
        cases eb : (B c).testBit e with
        | true =>
          have heC := (hB c (by omega) e eb).1
          rw [if_pos rfl, z_8mul, z_8mul, zrd_n (by omega) (by omega), zrd_n (by omega) (by omega), hv]
          simp only [Option.bind_some, nI_pred]
          by_cases hg : apart (8 * e + d) = nI k
          · rw [if_pos hg]
            exact Or.inr ⟨_, rfl, e, rfl, ⟨he, eb, (p_farNI' (hf e d heC hd) (by omega)).mp hg⟩, h2⟩
          · rw [if_neg hg]
            exact Or.inl ⟨_, rfl, nI_1 e, hstep (fun h => hg ((p_farNI' (hf e d heC hd) (by omega)).mpr h.2.2))⟩
        | false =>
          rw [if_neg (by decide)]
          exact Or.inl ⟨_, rfl, nI_1 e, hstep (fun h => by rw [h.2.1] at eb; cases eb)⟩
      · rintro t ⟨rfl, h2⟩
        obtain ⟨e, he⟩ := p_gd_ex hk
        exact absurd he (h2 e he.1)
theorem p_st_lt {B : Nat → Nat} {C c d : Nat} (hC : C ≤ 8) (hB : p_BC B C) (hc : c < C) : p_st B c d < C := by
  unfold p_st
  split
  · next h =>
    rcases Classical.choose_spec h with ⟨-, h2⟩ | ⟨k, h1, h2, h3⟩
    · rw [h2]; exact hc
    · exact (hB c (by omega) _ h2.2.1).1
  · exact hc
theorem p_st_no {B : Nat → Nat} {c d : Nat} (h : ∀ n, ¬ p_wk B 8 n c d) : p_st B c d = c := p_st_eq (Or.inl ⟨Or.inr h, rfl⟩)
