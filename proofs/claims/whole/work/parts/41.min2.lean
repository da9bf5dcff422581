/-! ===== a minute of the class: all go, buns are found ===== -/
theorem zlt_s {q j : Nat} (e : ¬ q = j) {α : Type} (x y : α) : (if q < j + 1 then x else y) = if q < j then x else y := by
  by_cases h : q < j
  · rw [if_pos h, if_pos (show q < j + 1 by omega)]
  · rw [if_neg h, if_neg (show ¬ q < j + 1 by omega)]
theorem x_go {C P : Nat} {A : aD} {B : Nat → Nat} {f pl bu le di wa lf ly pr co : Nat → Int32} (hC : C ≤ 8) (hP : P ≤ 6) (hB : p_BC B C) (hV : dV C P A) (h : dX P A f pl bu le di wa lf ly pr) (hco : ∀ q, q < 6 → co q = if q < P then nI (aTo B A q) else -1) :
    ∃ r, zLP (fun t : (Nat → Int32) × (Nat → Int32) × (Nat → Int32) × (Nat → Int32) × Int32 => fDy_passMinutes_L40 co t.1 t.2.1 t.2.2.1 t.2.2.2.1 t.2.2.2.2) (pl, wa, lf, pr, 0) = some r ∧ dX P (aMd B P A 6) f r.1 bu le di r.2.1 r.2.2.1 ly r.2.2.2 := by
  obtain ⟨x1, x2, x3, x4, x5, x6, x7, x8, x9, x10⟩ := h
  refine zLP_inv (fun j t => t.2.2.2.2 = nI j ∧ (∀ q k, q < 6 → k < 6 → t.1 (6 * q + k) = if q < j then (if q < P then nI (if k = 0 then aTo B A q else dW A (k - 1) q) else -1) else pl (6 * q + k)) ∧ xWa (aMd B P A j) t.2.1 ∧ xN 6 (dM (aMd B P A j)) t.2.2.1 ∧ xN 8 (aPr B P A j) t.2.2.2.1) _ 6 ?_ ?_ ?_
  · refine ⟨rfl, fun q k hq hk => by rw [if_neg (by omega)], fun q i hq hi => ?_, fun q hq => ?_, x10⟩
    · have hi' : i < (if q < 0 then dM A q - 1 else dM A q) := hi
      rw [if_neg (by omega)] at hi'
      show wa (8 * q + i) = nI (if q < 0 then dY A q (i + 1) else dY A q i)
      rw [if_neg (by omega)]; exact x7 q i hq hi'
    · show lf q = nI (if q < 0 then dM A q - 1 else dM A q)
      rw [if_neg (by omega)]; exact x8 q hq
  · rintro j ⟨t1, t2, t3, t4, t5⟩ hj ⟨rfl, g1, g2, g3, g4⟩
    try dsimp only at *
    left
    have hml := hV.2.2.1 j hj
    have g3j : t3 j = nI (dM A j) := by
      rw [g3 j hj]; show nI (if j < j then dM A j - 1 else dM A j) = _; rw [if_neg (by omega)]
    obtain ⟨wa', s1, s2, s3⟩ := x_short (wa := t2) (lf := t3) hj g3j (hml.1)
    have hWa : xWa (aMd B P A (j + 1)) wa' := fun q i hq hi => by
      have hi' : i < (if q < j + 1 then dM A q - 1 else dM A q) := hi
      show wa' (8 * q + i) = nI (if q < j + 1 then dY A q (i + 1) else dY A q i)
      by_cases e : q = j
      · subst e
        rw [if_pos (by omega)] at hi'
        rw [if_pos (by omega), s2 i (by omega), show 8 * q + i + 1 = 8 * q + (i + 1) by omega]
        have := g2 q (i + 1) hq (show i + 1 < (if q < q then dM A q - 1 else dM A q) by rw [if_neg (by omega)]; omega)
        rw [this]; show nI (if q < q then dY A q (i + 1 + 1) else dY A q (i + 1)) = _; rw [if_neg (by omega)]
      · have hmq := (hV.2.2.1 q hq).1
        rw [zlt_s e] at hi' ⊢
        have hi8 : i < 8 := by revert hi'; split <;> intro hi' <;> omega
        rw [s3 _ (by omega)]; exact g2 q i hq hi'
    have hM : xN 6 (dM (aMd B P A (j + 1))) (if dM A j = 0 then t3 else zup t3 j (nI (dM A j - 1))) := fun q hq => by
      show _ = nI (if q < j + 1 then dM A q - 1 else dM A q)
      by_cases e : q = j
      · subst e
        rw [if_pos (show q < q + 1 by omega)]
        by_cases e2 : dM A q = 0
        · rw [if_pos e2, g3j, e2]
        · rw [if_neg e2, zup_s]
      · rw [zlt_s e]
        have := g3 q hq
        by_cases e3 : dM A j = 0
        · rw [if_pos e3]; exact this
        · rw [if_neg e3, zup_n e]; exact this
    unfold fDy_passMinutes_L40
    rw [if_neg (zg6 hj), s1]
    simp only [Option.bind_some]
    rw [zrd_n hj (by omega), hco j hj]
    simp only [Option.bind_some]
    by_cases hjP : j < P
    · rw [if_pos hjP]
      have hto := aTo_lt hC hB hP hV hjP
      have hw := hV.1 j 0 hjP (by omega)
      have h0 : t1 (6 * j) = nI (dW A 0 j) := by
        have := g1 j 0 hj (by omega)
        rw [if_neg (by omega)] at this
        have h3 := x3 j 0 hj (by omega)
        rw [if_pos hjP] at h3
        exact this.trans h3
      obtain ⟨pl', p1, p2, p3, p4⟩ := x_move (pl := t1) (pr := t4) hj h0 (by omega) (show aTo B A j < 8 by omega) (g4 _ (by omega)) (aPr_le hV j _ (by omega))
      rw [p1]
      refine ⟨_, rfl, nI_1 j, fun q k hq hk => ?_, hWa, hM, fun c hc => ?_⟩
      · show pl' (6 * q + k) = _
        by_cases e : q = j
        · subst e
          rw [if_pos (by omega), if_pos hjP]
          by_cases e2 : k = 0
          · subst e2; rw [if_pos rfl]; exact p2
          · rw [if_neg e2, p3 k (by omega) hk, g1 q (k - 1) hq (by omega), if_neg (by omega), x3 q (k - 1) hq (by omega), if_pos hjP]
        · rw [p4 _ (by omega), g1 q k hq hk]
          by_cases e2 : q < j
          · rw [if_pos e2, if_pos (show q < j + 1 by omega)]
          · rw [if_neg e2, if_neg (show ¬ q < j + 1 by omega)]
      · show (if aTo B A j ≠ dW A 0 j then _ else t4) c = nI (aPr B P A (j + 1) c)
        rw [aPr]
        by_cases e : aTo B A j = dW A 0 j
        · rw [if_neg (show ¬ (aTo B A j ≠ dW A 0 j) from fun h => h e), if_neg (show ¬ (j < P ∧ aTo B A j ≠ dW A 0 j) from fun h => h.2 e)]; exact g4 c hc
        · rw [if_pos (show aTo B A j ≠ dW A 0 j from e), if_pos (show j < P ∧ aTo B A j ≠ dW A 0 j from ⟨hjP, e⟩)]
          by_cases e2 : c = aTo B A j
          · subst e2; rw [zup_s, zup_s]
          · rw [zup_n e2, zup_n e2]; exact g4 c hc
    · rw [if_neg hjP]
      obtain ⟨pl', p1, p2, p3⟩ := x_moveN (pl := t1) (pr := t4) hj (fun k hk => by rw [g1 j k hj hk, if_neg (by omega), x3 j k hj hk, if_neg hjP])
      rw [p1]
      refine ⟨_, rfl, nI_1 j, fun q k hq hk => ?_, hWa, hM, fun c hc => ?_⟩
      · show pl' (6 * q + k) = _
        by_cases e : q = j
        · subst e
          rw [if_pos (by omega), if_neg hjP]; exact p2 k hk
        · rw [p3 _ (by omega), g1 q k hq hk]
          by_cases e2 : q < j
          · rw [if_pos e2, if_pos (show q < j + 1 by omega)]
          · rw [if_neg e2, if_neg (show ¬ q < j + 1 by omega)]
      · show t4 c = nI (aPr B P A (j + 1) c)
        rw [aPr, if_neg (show ¬ (j < P ∧ aTo B A j ≠ dW A 0 j) from fun h => hjP h.1)]; exact g4 c hc
  · rintro ⟨t1, t2, t3, t4, t5⟩ ⟨rfl, g1, g2, g3, g4⟩
    try dsimp only at *
    refine ⟨(t1, t2, t3, t4), ?_, x1, x2, fun q k hq hk => ?_, x4, x5, x6, g2, g3, x9, g4⟩
    · unfold fDy_passMinutes_L40
      rw [if_pos (by decide)]
    · show t1 (6 * q + k) = if q < P then nI (if k = 0 then (if q < 6 then aTo B A q else dW A 0 q) else dW A (k - 1) q) else -1
      rw [g1 q k hq hk, if_pos hq, if_pos hq]
theorem x_buns {C P : Nat} {A : aD} {f pl bu le di wa lf ly pr : Nat → Int32} (hC : C ≤ 8) (hP : P ≤ 6) (hV : dV C P A) (h : dX P A f pl bu le di wa lf ly pr) :
    ∃ r, zLP (fun t : (Nat → Int32) × (Nat → Int32) × (Nat → Int32) × Int32 => fDy_passMinutes_L75 le pl t.1 t.2.1 t.2.2.1 t.2.2.2) (f, bu, ly, 0) = some r ∧ dX P (aBu A 6) r.1 pl r.2.1 le di wa lf r.2.2 pr := by
  refine zLP_inv (fun j t => t.2.2.2 = nI j ∧ dX P (aBu A j) t.1 pl t.2.1 le di wa lf t.2.2.1 pr) _ 6 ?_ ?_ ?_
  · exact ⟨rfl, h⟩
  · rintro j ⟨t1, t2, t3, t4⟩ hj ⟨rfl, g⟩
    try dsimp only at *
    left
    obtain ⟨x1, x2, x3, x4, x5, x6, x7, x8, x9, x10⟩ := id g
    obtain ⟨e1, e2, e3, e4, e5, e6, e7⟩ := aBu_same A j
    have hal := hV.2.1 j hj
    have hVj := aBu_V hC hV (show j ≤ 6 by omega)
    unfold fDy_passMinutes_L75 fDy_findBun
    rw [if_neg (zg6 hj), x_whe hj, zrd_n hj (by omega), h.2.2.2.2.1 j hj, show pl (6 * j) = _ from h.2.2.1 j 0 hj (by omega)]
    simp only [Option.bind_some]
    by_cases h1 : dA A j = 0
    · rw [if_pos ((nI_m1 (by omega)).mpr h1)]
      refine ⟨_, rfl, nI_1 j, ?_⟩
      rw [aBu, if_pos (Or.inl h1)]; exact g
    · obtain ⟨hjP, -, -⟩ := hal.2 h1
      have hw := hV.1 j 0 hjP (by omega)
      have hl := dV_l hVj (show dW A 0 j < 8 by omega)
      rw [if_neg (fun h => h1 ((nI_m1 (by omega)).mp h)), if_pos hjP, x_bat (by omega), x9 _ (by omega)]
      simp only [Option.bind_some]
      by_cases h2 : dL (aBu A j) (dW A 0 j) = 0
      · rw [if_pos ((nI_le0 (by omega)).mpr h2)]
        refine ⟨_, rfl, nI_1 j, ?_⟩
        rw [aBu, if_pos (Or.inr h2)]; exact g
      · rw [if_neg (fun h => h2 ((nI_le0 (by omega)).mp h)), p_mayBeCorner, p_has_y (by omega) (show dW A 0 j < 8 by omega), if_pos rfl, zrd_n (by omega) (by omega), x9 _ (by omega)]
        simp only [Option.bind_some]
        rw [nI_p1 (by omega), zwr_n (by omega) (by omega)]
        simp only [Option.bind_some]
        rw [zrd_n hj (by omega), x4 j hj]
        simp only [Option.bind_some, nI_1]
        rw [zwr_n hj (by omega)]
        refine ⟨_, rfl, rfl, ?_⟩
        rw [aBu, if_neg (show ¬ (dA A j = 0 ∨ dL (aBu A j) (dW A 0 j) = 0) from fun h => h.elim h1 h2)]
        refine ⟨?_, ?_, x3, xN_up x4, x5, x6, x7, x8, xN_up x9, x10⟩
        · show zup t1 10 (t1 10 + 1) 9 = _
          rw [zup_n (by omega)]; exact x1
        · show zup t1 10 (t1 10 + 1) 10 = _
          rw [zup_s, x2, nI_1]; rfl
  · rintro ⟨t1, t2, t3, t4⟩ ⟨rfl, g⟩
    try dsimp only at *
    refine ⟨(t1, t2, t3), ?_, g⟩
    unfold fDy_passMinutes_L75
    rw [if_pos (by decide)]
theorem x_min1 {C P : Nat} {A : aD} {B : Nat → Nat} {r bs far f pl bu le di wa lf ly pr co : Nat → Int32} (hC : C ≤ 8) (hP : P ≤ 6) (hr : r 4 = nI C) (hB : p_BC B C) (hb : ∀ c, c < 8 → bs c = nI (B c)) (hf : ∀ c d, c < C → d < C → p_far (-1) B c d (far (8 * c + d))) (hV : dV C P A) (h : dX P A f pl bu le di wa lf ly pr) :
    ∃ f' pl' bu' wa' lf' ly' pr' co', (∀ n x : Int32, ¬ n ≤ x → fDy_passMinutes_L2 le di r bs far n f pl bu wa lf ly pr co x = some (.inl (f', pl', bu', wa', lf', ly', pr', co', x + 1))) ∧ dX P (aMin B P A) f' pl' bu' le di wa' lf' ly' pr' := by
  obtain ⟨co', c1, c2⟩ := x_coming (co := co) hC hP hr hB hb hf hV h
  obtain ⟨⟨r1, r2, r3, r4⟩, g1, g2⟩ := x_go hC hP hB hV h c2
  try dsimp only at g2
  obtain ⟨⟨b1, b2, b3⟩, g3, g4⟩ := x_buns hC hP (aMd_V hC hB hP hV 6) g2
  try dsimp only at g4
  refine ⟨zup b1 9 (b1 9 + 1), r1, b2, r2, r3, b3, r4, co', fun n x hx => ?_, ?_⟩
  · unfold fDy_passMinutes_L2
    rw [if_neg hx, c1]
    simp only [Option.bind_some]
    rw [g1]
    simp only [Option.bind_some]
    rw [g3]
    rfl
  · obtain ⟨y1, y2, y3, y4, y5, y6, y7, y8, y9, y10⟩ := g4
    refine ⟨?_, ?_, y3, y4, y5, y6, y7, y8, y9, y10⟩
    · show zup b1 9 (b1 9 + 1) 9 = nI (dMi A + 1)
      rw [zup_s, y1, nI_1, (aBu_same (aMd B P A 6) 6).1]; rfl
    · show zup b1 9 (b1 9 + 1) 10 = _
      rw [zup_n (by omega)]; exact y2
noncomputable def aMinN (B : Nat → Nat) (P : Nat) : Nat → aD → aD
  | 0, A => A
  | n + 1, A => aMin B P (aMinN B P n A)
theorem aMinN_V {C P : Nat} {A : aD} {B : Nat → Nat} (hC : C ≤ 8) (hB : p_BC B C) (hP : P ≤ 6) (hV : dV C P A) (n : Nat) : dV C P (aMinN B P n A) := by
  induction n with
  | zero => exact hV
  | succ n ih => exact aMin_V hC hB hP ih
theorem aMinN_Mi {P : Nat} {A : aD} {B : Nat → Nat} (n : Nat) : dMi (aMinN B P n A) = dMi A + n := by
  induction n with
  | zero => rfl
  | succ n ih => show dMi (aMinN B P n A) + 1 = _; rw [ih]; omega
theorem x_pass {C P : Nat} {A : aD} {B : Nat → Nat} {r bs far f pl bu le di wa lf ly pr co : Nat → Int32} (hC : C ≤ 8) (hP : P ≤ 6) (hr : r 4 = nI C) (hB : p_BC B C) (hb : ∀ c, c < 8 → bs c = nI (B c)) (hf : ∀ c d, c < C → d < C → p_far (-1) B c d (far (8 * c + d))) (hV : dV C P A) (h : dX P A f pl bu le di wa lf ly pr) {n : Nat} (hn : n < 2 ^ 31) :
    ∃ f' pl' bu' wa' lf' ly' pr' co', fDy_passMinutes f pl bu le di wa lf ly pr co r bs far (nI n) = some (f', pl', bu', wa', lf', ly', pr', co') ∧ dX P (aMinN B P n A) f' pl' bu' le di wa' lf' ly' pr' := by
  have key : ∃ q, zLP (fun t : (Nat → Int32) × (Nat → Int32) × (Nat → Int32) × (Nat → Int32) × (Nat → Int32) × (Nat → Int32) × (Nat → Int32) × (Nat → Int32) × Int32 => fDy_passMinutes_L2 le di r bs far (nI n) t.1 t.2.1 t.2.2.1 t.2.2.2.1 t.2.2.2.2.1 t.2.2.2.2.2.1 t.2.2.2.2.2.2.1 t.2.2.2.2.2.2.2.1 t.2.2.2.2.2.2.2.2) (f, pl, bu, wa, lf, ly, pr, co, 0) = some q ∧ dX P (aMinN B P n A) q.1 q.2.1 q.2.2.1 le di q.2.2.2.1 q.2.2.2.2.1 q.2.2.2.2.2.1 q.2.2.2.2.2.2.1 := by
    refine zLP_inv (fun j t => t.2.2.2.2.2.2.2.2 = nI j ∧ dX P (aMinN B P j A) t.1 t.2.1 t.2.2.1 le di t.2.2.2.1 t.2.2.2.2.1 t.2.2.2.2.2.1 t.2.2.2.2.2.2.1) _ n ?_ ?_ ?_
    · exact ⟨rfl, h⟩
    · rintro j ⟨t1, t2, t3, t4, t5, t6, t7, t8, t9⟩ hj ⟨rfl, g⟩
      try dsimp only at *
      left
      obtain ⟨f', pl', bu', wa', lf', ly', pr', co', e1, e2⟩ := x_min1 (co := t8) hC hP hr hB hb hf (aMinN_V hC hB hP hV j) g
      rw [e1 _ _ (nI_ge hj (by omega))]
      exact ⟨_, rfl, nI_1 j, e2⟩
    · rintro ⟨t1, t2, t3, t4, t5, t6, t7, t8, t9⟩ ⟨rfl, g⟩
      try dsimp only at *
      refine ⟨(t1, t2, t3, t4, t5, t6, t7, t8), ?_, g⟩
      unfold fDy_passMinutes_L2
      rw [if_pos (nI_le (Nat.le_refl _) (by omega))]
  obtain ⟨⟨q1, q2, q3, q4, q5, q6, q7, q8⟩, k1, k2⟩ := key
  unfold fDy_passMinutes
  rw [k1]
  exact ⟨_, _, _, _, _, _, _, _, rfl, k2⟩
