/-! ===== a day changed at one place ===== -/
def sMi_ (A : aD) (f : Nat) : aD := (f, dFo A, dW A, dB A, dA A, dH A, dM A, dY A, dL A, dP A)
def sFo_ (A : aD) (f : Nat) : aD := (dMi A, f, dW A, dB A, dA A, dH A, dM A, dY A, dL A, dP A)
def sW_ (A : aD) (f : Nat → Nat → Nat) : aD := (dMi A, dFo A, f, dB A, dA A, dH A, dM A, dY A, dL A, dP A)
def sB_ (A : aD) (f : Nat → Nat) : aD := (dMi A, dFo A, dW A, f, dA A, dH A, dM A, dY A, dL A, dP A)
def sA_ (A : aD) (f : Nat → Nat) : aD := (dMi A, dFo A, dW A, dB A, f, dH A, dM A, dY A, dL A, dP A)
def sH_ (A : aD) (f : Nat → Nat) : aD := (dMi A, dFo A, dW A, dB A, dA A, f, dM A, dY A, dL A, dP A)
def sM_ (A : aD) (f : Nat → Nat) : aD := (dMi A, dFo A, dW A, dB A, dA A, dH A, f, dY A, dL A, dP A)
def sY_ (A : aD) (f : Nat → Nat → Nat) : aD := (dMi A, dFo A, dW A, dB A, dA A, dH A, dM A, f, dL A, dP A)
def sL_ (A : aD) (f : Nat → Nat) : aD := (dMi A, dFo A, dW A, dB A, dA A, dH A, dM A, dY A, f, dP A)
def sP_ (A : aD) (f : Nat → Nat) : aD := (dMi A, dFo A, dW A, dB A, dA A, dH A, dM A, dY A, dL A, f)
theorem sD_B {P : Nat} {A : aD} {s : Nat → Int32} (hP : P ≤ 6) (h : sD P A s) (hM : ∀ q, q < 6 → dM A q ≤ 8) {x0 v : Nat} (hx : x0 < 6) : sD P (sB_ A (zup (dB A) x0 v)) (zup s (127 + x0) (nI v)) := by
  obtain ⟨h1, h2, h3, h4, h5, h6, h7, h8, h9, h10⟩ := h
  refine ⟨?_, ?_, ?_, ?_, ?_, ?_, ?_, ?_, ?_, ?_⟩
  · rw [zup_n (by omega)]; exact h1
  · rw [zup_n (by omega)]; exact h2
  · intro q k hq hk; rw [zup_n (by omega)]; exact h3 q k hq hk
  · intro q hq
    show zup s (127 + x0) (nI v) (127 + q) = nI (zup (dB A) x0 v q)
    by_cases e : q = x0
    · subst e; rw [zup_s, zup_s]
    · rw [zup_n (by omega), zup_n e]; exact h4 q hq
  · intro q hq; rw [zup_n (by omega)]; exact h5 q hq
  · intro q hq hn; rw [zup_n (by omega)]; exact h6 q hq hn
  · intro q i hq hi; have := hM q hq; have hi' : i < dM A q := hi; rw [zup_n (by omega)]; exact h7 q i hq hi
  · intro q hq; rw [zup_n (by omega)]; exact h8 q hq
  · intro c hc; rw [zup_n (by omega)]; exact h9 c hc
  · intro c hc; rw [zup_n (by omega)]; exact h10 c hc
theorem sD_L {P : Nat} {A : aD} {s : Nat → Int32} (hP : P ≤ 6) (h : sD P A s) (hM : ∀ q, q < 6 → dM A q ≤ 8) {x0 v : Nat} (hx : x0 < 8) : sD P (sL_ A (zup (dL A) x0 v)) (zup s (199 + x0) (nI v)) := by
  obtain ⟨h1, h2, h3, h4, h5, h6, h7, h8, h9, h10⟩ := h
  refine ⟨?_, ?_, ?_, ?_, ?_, ?_, ?_, ?_, ?_, ?_⟩
  · rw [zup_n (by omega)]; exact h1
  · rw [zup_n (by omega)]; exact h2
  · intro q k hq hk; rw [zup_n (by omega)]; exact h3 q k hq hk
  · intro q hq; rw [zup_n (by omega)]; exact h4 q hq
  · intro q hq; rw [zup_n (by omega)]; exact h5 q hq
  · intro q hq hn; rw [zup_n (by omega)]; exact h6 q hq hn
  · intro q i hq hi; have := hM q hq; have hi' : i < dM A q := hi; rw [zup_n (by omega)]; exact h7 q i hq hi
  · intro q hq; rw [zup_n (by omega)]; exact h8 q hq
  · intro c hc
    show zup s (199 + x0) (nI v) (199 + c) = nI (zup (dL A) x0 v c)
    by_cases e : c = x0
    · subst e; rw [zup_s, zup_s]
    · rw [zup_n (by omega), zup_n e]; exact h9 c hc
  · intro c hc; rw [zup_n (by omega)]; exact h10 c hc
theorem sD_P {P : Nat} {A : aD} {s : Nat → Int32} (hP : P ≤ 6) (h : sD P A s) (hM : ∀ q, q < 6 → dM A q ≤ 8) {x0 v : Nat} (hx : x0 < 8) : sD P (sP_ A (zup (dP A) x0 v)) (zup s (207 + x0) (nI v)) := by
  obtain ⟨h1, h2, h3, h4, h5, h6, h7, h8, h9, h10⟩ := h
  refine ⟨?_, ?_, ?_, ?_, ?_, ?_, ?_, ?_, ?_, ?_⟩
  · rw [zup_n (by omega)]; exact h1
  · rw [zup_n (by omega)]; exact h2
  · intro q k hq hk; rw [zup_n (by omega)]; exact h3 q k hq hk
  · intro q hq; rw [zup_n (by omega)]; exact h4 q hq
  · intro q hq; rw [zup_n (by omega)]; exact h5 q hq
  · intro q hq hn; rw [zup_n (by omega)]; exact h6 q hq hn
  · intro q i hq hi; have := hM q hq; have hi' : i < dM A q := hi; rw [zup_n (by omega)]; exact h7 q i hq hi
  · intro q hq; rw [zup_n (by omega)]; exact h8 q hq
  · intro c hc; rw [zup_n (by omega)]; exact h9 c hc
  · intro c hc
    show zup s (207 + x0) (nI v) (207 + c) = nI (zup (dP A) x0 v c)
    by_cases e : c = x0
    · subst e; rw [zup_s, zup_s]
    · rw [zup_n (by omega), zup_n e]; exact h10 c hc
theorem sD_Mi {P : Nat} {A : aD} {s : Nat → Int32} (hP : P ≤ 6) (h : sD P A s) (hM : ∀ q, q < 6 → dM A q ≤ 8) {v : Nat} : sD P (sMi_ A v) (zup s 89 (nI v)) := by
  obtain ⟨h1, h2, h3, h4, h5, h6, h7, h8, h9, h10⟩ := h
  refine ⟨?_, ?_, ?_, ?_, ?_, ?_, ?_, ?_, ?_, ?_⟩
  · exact zup_s
  · rw [zup_n (by omega)]; exact h2
  · intro q k hq hk; rw [zup_n (by omega)]; exact h3 q k hq hk
  · intro q hq; rw [zup_n (by omega)]; exact h4 q hq
  · intro q hq; rw [zup_n (by omega)]; exact h5 q hq
  · intro q hq hn; rw [zup_n (by omega)]; exact h6 q hq hn
  · intro q i hq hi; have := hM q hq; have hi' : i < dM A q := hi; rw [zup_n (by omega)]; exact h7 q i hq hi
  · intro q hq; rw [zup_n (by omega)]; exact h8 q hq
  · intro c hc; rw [zup_n (by omega)]; exact h9 c hc
  · intro c hc; rw [zup_n (by omega)]; exact h10 c hc
theorem sD_Fo {P : Nat} {A : aD} {s : Nat → Int32} (hP : P ≤ 6) (h : sD P A s) (hM : ∀ q, q < 6 → dM A q ≤ 8) {v : Nat} : sD P (sFo_ A v) (zup s 90 (nI v)) := by
  obtain ⟨h1, h2, h3, h4, h5, h6, h7, h8, h9, h10⟩ := h
  refine ⟨?_, ?_, ?_, ?_, ?_, ?_, ?_, ?_, ?_, ?_⟩
  · rw [zup_n (by omega)]; exact h1
  · exact zup_s
  · intro q k hq hk; rw [zup_n (by omega)]; exact h3 q k hq hk
  · intro q hq; rw [zup_n (by omega)]; exact h4 q hq
  · intro q hq; rw [zup_n (by omega)]; exact h5 q hq
  · intro q hq hn; rw [zup_n (by omega)]; exact h6 q hq hn
  · intro q i hq hi; have := hM q hq; have hi' : i < dM A q := hi; rw [zup_n (by omega)]; exact h7 q i hq hi
  · intro q hq; rw [zup_n (by omega)]; exact h8 q hq
  · intro c hc; rw [zup_n (by omega)]; exact h9 c hc
  · intro c hc; rw [zup_n (by omega)]; exact h10 c hc
theorem sD_M {P : Nat} {A : aD} {s : Nat → Int32} (hP : P ≤ 6) (h : sD P A s) (hM : ∀ q, q < 6 → dM A q ≤ 8) {x0 v : Nat} (hx : x0 < 6) (hv : v ≤ dM A x0) : sD P (sM_ A (zup (dM A) x0 v)) (zup s (145 + x0) (nI v)) := by
  obtain ⟨h1, h2, h3, h4, h5, h6, h7, h8, h9, h10⟩ := h
  refine ⟨?_, ?_, ?_, ?_, ?_, ?_, ?_, ?_, ?_, ?_⟩
  · rw [zup_n (by omega)]; exact h1
  · rw [zup_n (by omega)]; exact h2
  · intro q k hq hk; rw [zup_n (by omega)]; exact h3 q k hq hk
  · intro q hq; rw [zup_n (by omega)]; exact h4 q hq
  · intro q hq; rw [zup_n (by omega)]; exact h5 q hq
  · intro q hq hn; rw [zup_n (by omega)]; exact h6 q hq hn
  · intro q i hq hi
    have hi' : i < zup (dM A) x0 v q := hi
    have hlt : i < dM A q := by
      by_cases e : q = x0
      · subst e; rw [zup_s] at hi'; omega
      · rw [zup_n e] at hi'; exact hi'
    rw [zup_n (by omega)]; exact h7 q i hq hlt
  · intro q hq
    show zup s (145 + x0) (nI v) (145 + q) = nI (zup (dM A) x0 v q)
    by_cases e : q = x0
    · subst e; rw [zup_s, zup_s]
    · rw [zup_n (by omega), zup_n e]; exact h8 q hq
  · intro c hc; rw [zup_n (by omega)]; exact h9 c hc
  · intro c hc; rw [zup_n (by omega)]; exact h10 c hc
/-- a corner more at the end of a way -/
theorem sD_MY {P : Nat} {A : aD} {s : Nat → Int32} (hP : P ≤ 6) (h : sD P A s) (hM : ∀ q, q < 6 → dM A q ≤ 8) {x0 c0 : Nat} (hx : x0 < 6) (hm : dM A x0 < 8) : sD P (sY_ (sM_ A (zup (dM A) x0 (dM A x0 + 1))) (fun q i => if q = x0 ∧ i = dM A x0 then c0 else dY A q i)) (zup (zup s (151 + 8 * x0 + dM A x0) (nI c0)) (145 + x0) (nI (dM A x0 + 1))) := by
  obtain ⟨h1, h2, h3, h4, h5, h6, h7, h8, h9, h10⟩ := h
  refine ⟨?_, ?_, ?_, ?_, ?_, ?_, ?_, ?_, ?_, ?_⟩
  · rw [zup_n (by omega), zup_n (by omega)]; exact h1
  · rw [zup_n (by omega), zup_n (by omega)]; exact h2
  · intro q k hq hk; rw [zup_n (by omega), zup_n (by omega)]; exact h3 q k hq hk
  · intro q hq; rw [zup_n (by omega), zup_n (by omega)]; exact h4 q hq
  · intro q hq; rw [zup_n (by omega), zup_n (by omega)]; exact h5 q hq
  · intro q hq hn; rw [zup_n (by omega), zup_n (by omega)]; exact h6 q hq hn
  · intro q i hq hi
    have hi' : i < zup (dM A) x0 (dM A x0 + 1) q := hi
    show zup (zup s (151 + 8 * x0 + dM A x0) (nI c0)) (145 + x0) (nI (dM A x0 + 1)) (151 + 8 * q + i) = nI (if q = x0 ∧ i = dM A x0 then c0 else dY A q i)
    have hm' := hM q hq
    by_cases e : q = x0
    · subst e
      rw [zup_s] at hi'
      by_cases e2 : i = dM A q
      · subst e2
        rw [zup_n (by omega), zup_s, if_pos ⟨rfl, rfl⟩]
      · rw [zup_n (by omega), zup_n (by omega), if_neg (fun h => e2 h.2)]; exact h7 q i hq (by omega)
    · rw [zup_n e] at hi'
      rw [zup_n (by omega), zup_n (by omega), if_neg (fun h => e h.1)]; exact h7 q i hq hi'
  · intro q hq
    show zup (zup s (151 + 8 * x0 + dM A x0) (nI c0)) (145 + x0) (nI (dM A x0 + 1)) (145 + q) = nI (zup (dM A) x0 (dM A x0 + 1) q)
    by_cases e : q = x0
    · subst e; rw [zup_s, zup_s]
    · rw [zup_n (by omega), zup_n (by omega), zup_n e]; exact h8 q hq
  · intro c hc; rw [zup_n (by omega), zup_n (by omega)]; exact h9 c hc
  · intro c hc; rw [zup_n (by omega), zup_n (by omega)]; exact h10 c hc
theorem sD_AH {P : Nat} {A : aD} {s : Nat → Int32} (hP : P ≤ 6) (h : sD P A s) (hM : ∀ q, q < 6 → dM A q ≤ 8) {x0 v n : Nat} (hx : x0 < 6) : sD P (sH_ (sA_ A (zup (dA A) x0 v)) (zup (dH A) x0 n)) (zup (zup s (133 + x0) (nI v)) (139 + x0) (nI n)) := by
  obtain ⟨h1, h2, h3, h4, h5, h6, h7, h8, h9, h10⟩ := h
  refine ⟨?_, ?_, ?_, ?_, ?_, ?_, ?_, ?_, ?_, ?_⟩
  · rw [zup_n (by omega), zup_n (by omega)]; exact h1
  · rw [zup_n (by omega), zup_n (by omega)]; exact h2
  · intro q k hq hk; rw [zup_n (by omega), zup_n (by omega)]; exact h3 q k hq hk
  · intro q hq; rw [zup_n (by omega), zup_n (by omega)]; exact h4 q hq
  · intro q hq
    show zup (zup s (133 + x0) (nI v)) (139 + x0) (nI n) (133 + q) = nI (zup (dA A) x0 v q)
    by_cases e : q = x0
    · subst e; rw [zup_n (by omega), zup_s, zup_s]
    · rw [zup_n (by omega), zup_n (by omega), zup_n e]; exact h5 q hq
  · intro q hq hn
    show zup (zup s (133 + x0) (nI v)) (139 + x0) (nI n) (139 + q) = nI (zup (dH A) x0 n q)
    have hn' : zup (dA A) x0 v q ≠ 0 := hn
    by_cases e : q = x0
    · subst e; rw [zup_s, zup_s]
    · rw [zup_n e] at hn'
      rw [zup_n (by omega), zup_n (by omega), zup_n e]; exact h6 q hq hn'
  · intro q i hq hi; have := hM q hq; have hi' : i < dM A q := hi; rw [zup_n (by omega), zup_n (by omega)]; exact h7 q i hq hi
  · intro q hq; rw [zup_n (by omega), zup_n (by omega)]; exact h8 q hq
  · intro c hc; rw [zup_n (by omega), zup_n (by omega)]; exact h9 c hc
  · intro c hc; rw [zup_n (by omega), zup_n (by omega)]; exact h10 c hc
theorem xN_up {n : Nat} {f : Nat → Nat} {r : Nat → Int32} (h : xN n f r) {k v : Nat} : xN n (zup f k v) (zup r k (nI v)) := fun q hq => by
  by_cases e : q = k
  · subst e; rw [zup_s, zup_s]
  · rw [zup_n e, zup_n e]; exact h q hq
/-- outside the day nothing is other -/
def sK (s s' : Nat → Int32) : Prop := ∀ i, i < 89 ∨ 216 ≤ i → s' i = s i
theorem sK_up {s s' : Nat → Int32} (h : sK s s') {k : Nat} {v : Int32} (hk : 89 ≤ k ∧ k < 216) : sK s (zup s' k v) := fun i hi => by rw [zup_n (by omega)]; exact h i hi
theorem sK_rfl {s : Nat → Int32} : sK s s := fun _ _ => rfl
theorem sK_trans {s s' s'' : Nat → Int32} (h : sK s s') (h' : sK s' s'') : sK s s'' := fun i hi => (h' i hi).trans (h i hi)
