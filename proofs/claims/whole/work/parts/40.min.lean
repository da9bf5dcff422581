/-! ===== a minute: where each one goes, and the class's way of it ===== -/
noncomputable def aTo (B : Nat → Nat) (A : aD) (q : Nat) : Nat := if dM A q = 0 then (if dA A q = 0 then dW A 0 q else p_st B (dW A 0 q) (dW A (dH A q - 1) (dA A q - 1))) else dY A q 0
theorem aTo_lt {C P : Nat} {A : aD} {B : Nat → Nat} (hC : C ≤ 8) (hB : p_BC B C) (hP : P ≤ 6) (hV : dV C P A) {q : Nat} (hq : q < P) : aTo B A q < C := by
  unfold aTo
  split
  · split
    · exact hV.1 q 0 hq (by omega)
    · exact p_st_lt hC hB (hV.1 q 0 hq (by omega))
  · next h => exact hV.2.2.2.1 q 0 (by omega) (by omega)
/-- prints behind the first j persons -/
noncomputable def aPr (B : Nat → Nat) (P : Nat) (A : aD) : Nat → Nat → Nat
  | 0 => dP A
  | j + 1 => if j < P ∧ aTo B A j ≠ dW A 0 j then zup (aPr B P A j) (aTo B A j) (if aPr B P A j (aTo B A j) + 1 < 9999 then aPr B P A j (aTo B A j) + 1 else 9999) else aPr B P A j
theorem aPr_le {B : Nat → Nat} {C P : Nat} {A : aD} (hV : dV C P A) (j : Nat) : ∀ c, c < 8 → aPr B P A j c ≤ 9999 := by
  induction j with
  | zero => exact hV.2.2.2.2.2
  | succ j ih =>
    intro c hc
    rw [aPr]
    split
    · by_cases e : c = aTo B A j
      · subst e; rw [zup_s]; split <;> omega
      · rw [zup_n e]; exact ih c hc
    · exact ih c hc
theorem aPr_more {B : Nat → Nat} {P : Nat} {A : aD} {j : Nat} (h : P ≤ j) : aPr B P A j = aPr B P A P := by
  induction j with
  | zero => rw [show P = 0 by omega]
  | succ j ih =>
    rcases Nat.lt_or_ge j P with h1 | h1
    · rw [show P = j + 1 by omega]
    · rw [aPr, if_neg (by omega), ih h1]
/-- all have gone, as far as j -/
noncomputable def aMd (B : Nat → Nat) (P : Nat) (A : aD) (j : Nat) : aD := (dMi A, dFo A, fun k q => if k = 0 then (if q < j then aTo B A q else dW A 0 q) else dW A (k - 1) q, dB A, dA A, dH A, fun q => if q < j then dM A q - 1 else dM A q, fun q i => if q < j then dY A q (i + 1) else dY A q i, dL A, aPr B P A j)
/-- the buns that the first j find -/
def aBu (A : aD) : Nat → aD
  | 0 => A
  | q + 1 => if dA A q = 0 ∨ dL (aBu A q) (dW A 0 q) = 0 then aBu A q else sFo_ (sB_ (sL_ (aBu A q) (zup (dL (aBu A q)) (dW A 0 q) (dL (aBu A q) (dW A 0 q) - 1))) (zup (dB (aBu A q)) q (dB (aBu A q) q + 1))) (dFo (aBu A q) + 1)
noncomputable def aMin (B : Nat → Nat) (P : Nat) (A : aD) : aD := sMi_ (aBu (aMd B P A 6) 6) (dMi A + 1)
theorem aBu_same (A : aD) (j : Nat) : dMi (aBu A j) = dMi A ∧ dW (aBu A j) = dW A ∧ dA (aBu A j) = dA A ∧ dH (aBu A j) = dH A ∧ dM (aBu A j) = dM A ∧ dY (aBu A j) = dY A ∧ dP (aBu A j) = dP A := by
  induction j with
  | zero => exact ⟨rfl, rfl, rfl, rfl, rfl, rfl, rfl⟩
  | succ j ih =>
    rw [aBu]
    split
    · exact ih
    · exact ih
theorem aBu_more {A : aD} {P j : Nat} (h : P ≤ j) (h0 : ∀ q, P ≤ q → q < j → dA A q = 0) : aBu A j = aBu A P := by
  induction j with
  | zero => rw [show P = 0 by omega]
  | succ j ih =>
    rcases Nat.lt_or_ge j P with h1 | h1
    · rw [show P = j + 1 by omega]
    · rw [aBu, if_pos (Or.inl (h0 j h1 (by omega))), ih h1 (fun q a b => h0 q a (by omega))]
theorem aBu_sum {C P : Nat} {A : aD} (hC : C ≤ 8) (hV : dV C P A) {j : Nat} (hj : j ≤ 6) : zsm (dB (aBu A j)) 6 + zsm (dL (aBu A j)) 8 = zsm (dB A) 6 + zsm (dL A) 8 := by
  induction j with
  | zero => rfl
  | succ j ih =>
    have ih := ih (by omega)
    rw [aBu]
    split
    · exact ih
    · next h =>
      have hA : dA A j ≠ 0 := fun e => h (Or.inl e)
      have hL : dL (aBu A j) (dW A 0 j) ≠ 0 := fun e => h (Or.inr e)
      have hq := ((hV.2.1 j (by omega)).2 hA).1
      have hw := hV.1 j 0 hq (by omega)
      show zsm (zup (dB (aBu A j)) j (dB (aBu A j) j + 1)) 6 + zsm (zup (dL (aBu A j)) (dW A 0 j) (dL (aBu A j) (dW A 0 j) - 1)) 8 = _
      have h1 := zsm_up (f := dB (aBu A j)) (n := 6) (k := j) (v := dB (aBu A j) j + 1) (by omega)
      have h2 := zsm_up (f := dL (aBu A j)) (n := 8) (k := dW A 0 j) (v := dL (aBu A j) (dW A 0 j) - 1) (by omega)
      omega
theorem aBu_V {C P : Nat} {A : aD} (hC : C ≤ 8) (hV : dV C P A) {j : Nat} (hj : j ≤ 6) : dV C P (aBu A j) := by
  obtain ⟨-, e2, e3, e4, e5, e6, e7⟩ := aBu_same A j
  have hs := aBu_sum hC hV hj
  obtain ⟨v1, v2, v3, v4, v5, v6⟩ := hV
  unfold dV
  rw [e2, e3, e4, e5, e6, e7, hs]
  exact ⟨v1, v2, v3, v4, v5, v6⟩
theorem aMd_V {C P : Nat} {A : aD} {B : Nat → Nat} (hC : C ≤ 8) (hB : p_BC B C) (hP : P ≤ 6) (hV : dV C P A) (j : Nat) : dV C P (aMd B P A j) := by
  obtain ⟨v1, v2, v3, v4, v5, v6⟩ := id hV
  refine ⟨fun q k hq hk => ?_, v2, fun q hq => ?_, fun q i hq hi => ?_, v5, aPr_le hV j⟩
  · show (if k = 0 then (if q < j then aTo B A q else dW A 0 q) else dW A (k - 1) q) < C
    split
    · split
      · exact aTo_lt hC hB hP hV hq
      · exact v1 q 0 hq (by omega)
    · exact v1 q (k - 1) hq (by omega)
  · show (if q < j then dM A q - 1 else dM A q) ≤ 8 ∧ ((if q < j then dM A q - 1 else dM A q) ≠ 0 → q < P)
    have := v3 q hq
    split
    · exact ⟨by omega, fun h => this.2 (by omega)⟩
    · exact this
  · have hi' : i < (if q < j then dM A q - 1 else dM A q) := hi
    show (if q < j then dY A q (i + 1) else dY A q i) < C
    split
    · next h => rw [if_pos h] at hi'; exact v4 q (i + 1) hq (by omega)
    · next h => rw [if_neg h] at hi'; exact v4 q i hq hi'
theorem aMin_V {C P : Nat} {A : aD} {B : Nat → Nat} (hC : C ≤ 8) (hB : p_BC B C) (hP : P ≤ 6) (hV : dV C P A) : dV C P (aMin B P A) :=
  aBu_V hC (aMd_V hC hB hP hV 6) (Nat.le_refl 6)
theorem aMin_Mi {B : Nat → Nat} {P : Nat} {A : aD} : dMi (aMin B P A) = dMi A + 1 := rfl
/-! ## the class's minute -/
theorem x_next {C P : Nat} {A : aD} {B : Nat → Nat} {r bs far f pl bu le di wa lf ly pr : Nat → Int32} (hC : C ≤ 8) (hP : P ≤ 6) (hr : r 4 = nI C) (hB : p_BC B C) (hb : ∀ c, c < 8 → bs c = nI (B c)) (hf : ∀ c d, c < C → d < C → p_far (-1) B c d (far (8 * c + d))) (hV : dV C P A) (h : dX P A f pl bu le di wa lf ly pr) {q : Nat} (hq : q < 6) :
    fDy_nextPlace pl le di wa lf r bs far (nI q) = some (if q < P then nI (aTo B A q) else -1) := by
  obtain ⟨x1, x2, x3, x4, x5, x6, x7, x8, x9, x10⟩ := h
  have hal := hV.2.1 q hq
  have hml := hV.2.2.1 q hq
  unfold fDy_nextPlace aTo
  rw [zrd_n hq (by omega), x8 q hq]
  simp only [Option.bind_some]
  by_cases h1 : dM A q = 0
  · rw [if_pos ((nI_le0 (by omega)).mpr h1), x_whe hq, zrd_n hq (by omega), x5 q hq, if_pos h1]
    simp only [Option.bind_some]
    have hpl : pl (6 * q) = _ := x3 q 0 hq (by omega)
    by_cases h2 : dA A q = 0
    · rw [if_pos ((nI_m1 (by omega)).mpr h2), if_pos h2, hpl]
    · obtain ⟨hqP, hh1, hh5⟩ := hal.2 h2
      rw [if_neg (fun h => h2 ((nI_m1 (by omega)).mp h)), zrd_n hq (by omega), x6 q hq, if_neg h2, if_neg h2, hpl, if_pos hqP, if_pos hqP]
      simp only [Option.bind_some]
      rw [nI_p1 hh1, nI_p1 (n := dA A q) (by omega), x_was (by omega) (by omega), x3 _ _ (by omega) (by omega), if_pos (by omega)]
      simp only [Option.bind_some]
      rw [p_stepX hC hr hB hb hf (hV.1 q 0 hqP (by omega)) (hV.1 _ _ (by omega) (by omega))]
      rfl
  · rw [if_neg (fun h => h1 ((nI_le0 (by omega)).mp h)), z_x8, zrd_n (by omega) (by omega), show wa (8 * q) = nI (dY A q 0) from x7 q 0 hq (by omega), if_pos (hml.2 h1), if_neg h1]
    rfl
theorem x_coming {C P : Nat} {A : aD} {B : Nat → Nat} {r bs far f pl bu le di wa lf ly pr co : Nat → Int32} (hC : C ≤ 8) (hP : P ≤ 6) (hr : r 4 = nI C) (hB : p_BC B C) (hb : ∀ c, c < 8 → bs c = nI (B c)) (hf : ∀ c d, c < C → d < C → p_far (-1) B c d (far (8 * c + d))) (hV : dV C P A) (h : dX P A f pl bu le di wa lf ly pr) :
    ∃ co', zLP (fun t : (Nat → Int32) × Int32 => fDy_passMinutes_L10 le di r bs far pl wa lf t.1 t.2) (co, 0) = some co' ∧ ∀ q, q < 6 → co' q = if q < P then nI (aTo B A q) else -1 := by
  refine zLP_inv (fun k t => t.2 = nI k ∧ ∀ q, q < k → t.1 q = if q < P then nI (aTo B A q) else -1) _ 6 ⟨rfl, fun q hq => absurd hq (by omega)⟩ ?_ ?_
  · rintro k ⟨t1, t2⟩ hk ⟨rfl, h2⟩
    try dsimp only at *
    left
    unfold fDy_passMinutes_L10
    rw [if_neg (zg6 hk), x_next hC hP hr hB hb hf hV h hk]
    simp only [Option.bind_some]
    rw [zwr_n hk (by omega)]
    refine ⟨_, rfl, nI_1 k, fun q hq => ?_⟩
    show zup t1 k _ q = _
    by_cases e : q = k
    · subst e; rw [zup_s]
    · rw [zup_n e]; exact h2 q (by omega)
  · rintro ⟨t1, t2⟩ ⟨rfl, h2⟩
    try dsimp only at *
    refine ⟨t1, ?_, h2⟩
    unfold fDy_passMinutes_L10
    rw [if_pos (by decide)]
theorem x_short {wa lf : Nat → Int32} {q m : Nat} (hq : q < 6) (hm : lf q = nI m) (hm8 : m ≤ 8) : ∃ wa', fDy_shortenWay wa lf (nI q) = some (wa', if m = 0 then lf else zup lf q (nI (m - 1))) ∧ (∀ i, i + 1 < m → wa' (8 * q + i) = wa (8 * q + i + 1)) ∧ ∀ j, j < 8 * q ∨ 8 * q + 8 ≤ j → wa' j = wa j := by
  unfold fDy_shortenWay
  rw [zrd_n hq (by omega), hm]
  simp only [Option.bind_some]
  by_cases h1 : m = 0
  · rw [if_pos ((nI_le0 (by omega)).mpr h1), if_pos h1]
    exact ⟨wa, rfl, fun i hi => absurd hi (by omega), fun _ _ => rfl⟩
  · rw [if_neg (fun h => h1 ((nI_le0 (by omega)).mp h)), if_neg h1]
    simp only [zlet]
    rw [nI_p1 (by omega), zwr_n hq (by omega), z_x8]
    simp only [Option.bind_some]
    refine zLP_use (body := fun t : (Nat → Int32) × Int32 => fDy_shortenWay_L26 (nI q) (nI (8 * q)) (zup lf q (nI (m - 1))) t.1 t.2) (s := (wa, 0))
      (fun k t => t.2 = nI k ∧ (∀ i, i < k → t.1 (8 * q + i) = wa (8 * q + i + 1)) ∧ (∀ i, k ≤ i → t.1 (8 * q + i) = wa (8 * q + i)) ∧ ∀ j, j < 8 * q ∨ 8 * q + 8 ≤ j → t.1 j = wa j)
      (fun r => (∀ i, i + 1 < m → r (8 * q + i) = wa (8 * q + i + 1)) ∧ ∀ j, j < 8 * q ∨ 8 * q + 8 ≤ j → r j = wa j) (m - 1) ⟨rfl, fun i hi => absurd hi (by omega), fun _ _ => rfl, fun _ _ => rfl⟩ (fun r e1 e2 => ?_) ?_ ?_
    · rw [e1]; exact ⟨r, rfl, e2.1, e2.2⟩
    · rintro k ⟨t1, t2⟩ hk ⟨rfl, h2, h3, h4⟩
      try dsimp only at *
      left
      unfold fDy_shortenWay_L26
      rw [zrd_n hq (by omega), zup_s]
      simp only [Option.bind_some]
      rw [if_neg (nI_ge hk (by omega)), if_neg (zg7 (by omega)), nI_add, nI_1, zrd_n (by omega) (by omega)]
      simp only [Option.bind_some]
      rw [zwr_n (by omega) (by omega)]
      refine ⟨_, rfl, nI_1 k, fun i hi => ?_, fun i hi => ?_, fun j hj => ?_⟩
      · show zup t1 (8 * q + k) _ (8 * q + i) = _
        by_cases e : i = k
        · subst e; rw [zup_s, show 8 * q + i + 1 = 8 * q + (i + 1) by omega]; exact h3 (i + 1) (by omega)
        · rw [zup_n (by omega)]; exact h2 i (by omega)
      · show zup t1 (8 * q + k) _ (8 * q + i) = _
        rw [zup_n (by omega)]; exact h3 i (by omega)
      · show zup t1 (8 * q + k) _ j = _
        rw [zup_n (by omega)]; exact h4 j hj
    · rintro ⟨t1, t2⟩ ⟨rfl, h2, h3, h4⟩
      try dsimp only at *
      refine ⟨t1, ?_, fun i hi => h2 i (by omega), h4⟩
      unfold fDy_shortenWay_L26
      rw [zrd_n hq (by omega), zup_s]
      simp only [Option.bind_some]
      rw [if_pos (nI_le (Nat.le_refl _) (by omega))]
theorem nI_m1p (n : Nat) : nI (n + 1) + (-1) = nI n := by rw [← nI_pred n, Int32.sub_eq_add_neg]
theorem x_moveL {pl : Nat → Int32} {q : Nat} (hq : q < 6) : ∃ pl', zLP (fun t : (Nat → Int32) × Int32 => fDy_move_L25 (nI (6 * q)) t.1 t.2) (pl, 5) = some pl' ∧ (∀ k, 1 ≤ k → k < 6 → pl' (6 * q + k) = pl (6 * q + (k - 1))) ∧ ∀ j, j < 6 * q ∨ 6 * q + 6 ≤ j → pl' j = pl j := by
  refine zLP_inv (fun k t => t.2 = nI (5 - k) ∧ (∀ i, 5 - k < i → i < 6 → t.1 (6 * q + i) = pl (6 * q + (i - 1))) ∧ (∀ i, i ≤ 5 - k → t.1 (6 * q + i) = pl (6 * q + i)) ∧ ∀ j, j < 6 * q ∨ 6 * q + 6 ≤ j → t.1 j = pl j) _ 5 ⟨rfl, fun i h1 h2 => absurd h2 (by omega), fun _ _ => rfl, fun _ _ => rfl⟩ ?_ ?_
  · rintro k ⟨t1, t2⟩ hk ⟨rfl, h2, h3, h4⟩
    try dsimp only at *
    left
    unfold fDy_move_L25
    rw [if_neg (nI_nle (by omega) (by omega)), nI_add, nI_p1 (by omega), zrd_n (by omega) (by omega)]
    simp only [Option.bind_some]
    rw [zwr_n (by omega) (by omega)]
    refine ⟨_, rfl, ?_, fun i h5 h6 => ?_, fun i h5 => ?_, fun j hj => ?_⟩
    · show nI (5 - k) + (-1) = nI (5 - (k + 1))
      rw [show 5 - k = (5 - (k + 1)) + 1 by omega, nI_m1p]
    · show zup t1 (6 * q + (5 - k)) _ (6 * q + i) = _
      by_cases e : i = 5 - k
      · rw [e, zup_s, show 6 * q + (5 - k) - 1 = 6 * q + (5 - k - 1) by omega]; exact h3 _ (by omega)
      · rw [zup_n (by omega)]; exact h2 i (by omega) h6
    · show zup t1 (6 * q + (5 - k)) _ (6 * q + i) = _
      rw [zup_n (by omega)]; exact h3 i (by omega)
    · show zup t1 (6 * q + (5 - k)) _ j = _
      rw [zup_n (by omega)]; exact h4 j hj
  · rintro ⟨t1, t2⟩ ⟨rfl, h2, h3, h4⟩
    try dsimp only at *
    refine ⟨t1, ?_, fun k h5 h6 => h2 k (by omega) h6, h4⟩
    unfold fDy_move_L25
    rw [if_pos (by decide)]
theorem x_move {pl pr : Nat → Int32} {q w c n : Nat} (hq : q < 6) (hw : pl (6 * q) = nI w) (hw8 : w < 8) (hc : c < 8) (hn : pr c = nI n) (hn9 : n ≤ 9999) : ∃ pl', fDy_move pl pr (nI q) (nI c) = some (pl', if c ≠ w then zup pr c (nI (if n + 1 < 9999 then n + 1 else 9999)) else pr) ∧ pl' (6 * q) = nI c ∧ (∀ k, 1 ≤ k → k < 6 → pl' (6 * q + k) = pl (6 * q + (k - 1))) ∧ ∀ j, j < 6 * q ∨ 6 * q + 6 ≤ j → pl' j = pl j := by
  obtain ⟨p1, e1, e2, e3⟩ := x_moveL (pl := pl) hq
  unfold fDy_move
  simp only [zlet]
  rw [z_x6, zrd_n (by omega) (by omega), hw, e1]
  simp only [Option.bind_some]
  rw [zwr_n (by omega) (by omega)]
  simp only [Option.bind_some]
  refine ⟨zup p1 (6 * q) (nI c), ?_, zup_s, fun k h1 h2 => by rw [zup_n (by omega)]; exact e2 k h1 h2, fun j hj => by rw [zup_n (by omega)]; exact e3 j hj⟩
  by_cases e : c = w
  · subst e
    rw [if_pos rfl, if_neg (by decide), if_neg (show ¬ (c ≠ c) from fun h => h rfl)]
  · rw [if_neg (fun h => e ((nI_eq (by omega) (by omega)).mp h).symm), if_pos rfl, if_pos e, p_mayBeCorner, p_has_y (by omega) hc, if_pos rfl, zrd_n hc (by omega), hn]
    simp only [Option.bind_some, nI_1]
    rw [zwr_n hc (by omega)]
    simp only [Option.bind_some]
    congr 3
    by_cases e2 : n + 1 < 9999
    · rw [if_pos e2, if_pos (show nI (n + 1) < 9999 from nI_lt (b := 9999) e2 (by omega))]
    · rw [if_neg e2, if_neg (show ¬ nI (n + 1) < 9999 from nI_nlt (b := 9999) (by omega) (by omega))]; rfl
theorem x_moveN {pl pr : Nat → Int32} {q : Nat} (hq : q < 6) (hw : ∀ k, k < 6 → pl (6 * q + k) = -1) : ∃ pl', fDy_move pl pr (nI q) (-1) = some (pl', pr) ∧ (∀ k, k < 6 → pl' (6 * q + k) = -1) ∧ ∀ j, j < 6 * q ∨ 6 * q + 6 ≤ j → pl' j = pl j := by
  obtain ⟨p1, e1, e2, e3⟩ := x_moveL (pl := pl) hq
  unfold fDy_move
  simp only [zlet]
  rw [z_x6, zrd_n (by omega) (by omega), show pl (6 * q) = -1 from hw 0 (by omega), e1]
  simp only [Option.bind_some]
  rw [zwr_n (by omega) (by omega)]
  simp only [Option.bind_some]
  simp only [if_true, Bool.false_eq_true, if_false]
  refine ⟨zup p1 (6 * q) (-1), rfl, fun k hk => ?_, fun j hj => by rw [zup_n (by omega)]; exact e3 j hj⟩
  by_cases e : k = 0
  · subst e; exact zup_s
  · rw [zup_n (by omega), e2 k (by omega) hk]; exact hw _ (by omega)
