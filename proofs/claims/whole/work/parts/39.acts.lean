/-! ===== the four acts ===== -/
theorem nI_k1 {n : Nat} (h : n < 2 ^ 31) : nI n = 1 ↔ n = 1 := nI_eq (b := 1) h (by decide)
theorem nI_k2 {n : Nat} (h : n < 2 ^ 31) : nI n = 2 ↔ n = 2 := nI_eq (b := 2) h (by decide)
theorem nI_k3 {n : Nat} (h : n < 2 ^ 31) : nI n = 3 ↔ n = 3 := nI_eq (b := 3) h (by decide)
theorem nI_k4 {n : Nat} (h : n < 2 ^ 31) : nI n = 4 ↔ n = 4 := nI_eq (b := 4) h (by decide)
theorem nI_k5 {n : Nat} (h : n < 2 ^ 31) : nI n = 5 ↔ n = 5 := nI_eq (b := 5) h (by decide)
theorem nI_k7 {n : Nat} (h : n < 2 ^ 31) : nI n = 7 ↔ n = 7 := nI_eq (b := 7) h (by decide)
theorem nI_k8 {n : Nat} (h : n < 2 ^ 31) : nI n = 8 ↔ n = 8 := nI_eq (b := 8) h (by decide)
theorem nI_k10 {n : Nat} (h : n < 2 ^ 31) : nI n = 10 ↔ n = 10 := nI_eq (b := 10) h (by decide)
theorem nI_k32 {n : Nat} (h : n < 2 ^ 31) : nI n = 32 ↔ n = 32 := nI_eq (b := 32) h (by decide)
theorem nI_k40 {n : Nat} (h : n < 2 ^ 31) : nI n = 40 ↔ n = 40 := nI_eq (b := 40) h (by decide)
theorem nI_k41 {n : Nat} (h : n < 2 ^ 31) : nI n = 41 ↔ n = 41 := nI_eq (b := 41) h (by decide)
theorem nI_k59 {n : Nat} (h : n < 2 ^ 31) : nI n = 59 ↔ n = 59 := nI_eq (b := 59) h (by decide)
theorem nI_k60 {n : Nat} (h : n < 2 ^ 31) : nI n = 60 ↔ n = 60 := nI_eq (b := 60) h (by decide)
theorem nI_k61 {n : Nat} (h : n < 2 ^ 31) : nI n = 61 ↔ n = 61 := nI_eq (b := 61) h (by decide)
theorem nI_k62 {n : Nat} (h : n < 2 ^ 31) : nI n = 62 ↔ n = 62 := nI_eq (b := 62) h (by decide)
theorem nI_k255 {n : Nat} (h : n < 2 ^ 31) : nI n = 255 ↔ n = 255 := nI_eq (b := 255) h (by decide)
def aSend (q c : Nat) (A : aD) : aD := sY_ (sM_ A (zup (dM A) q (dM A q + 1))) (fun q' i => if q' = q ∧ i = dM A q then c else dY A q' i)
def aDrop (q : Nat) (A : aD) : aD := sL_ (sB_ A (zup (dB A) q (dB A q - 1))) (zup (dL A) (dW A 0 q) (dL A (dW A 0 q) + 1))
def aHire (q r n : Nat) (A : aD) : aD := sH_ (sA_ A (zup (dA A) r (q + 1))) (zup (dH A) r n)
def aLeave (q : Nat) (A : aD) : aD := sH_ (sA_ A (zup (dA A) q 0)) (zup (dH A) q 0)
def aEnd (A : aD) (q : Nat) : Nat := if dM A q = 0 then dW A 0 q else dY A q (dM A q - 1)
def aWhyS (B : Nat → Nat) (A : aD) (q c : Nat) : Nat := if dA A q = 0 then (if dM A q = 8 then 2 else if (B (aEnd A q)).testBit c then 0 else 3) else 1
def aWhyH (A : aD) (q : Nat) : Nat := if dA A q = 0 then (if dM A q = 0 then 0 else 2) else 1
def aWhyD (A : aD) (q : Nat) : Nat := if dB A q = 0 then 1 else 0
def aWhyL (A : aD) (q : Nat) : Nat := if dA A q = 0 then 1 else 0
theorem aEnd_lt {C P : Nat} {A : aD} (hV : dV C P A) {q : Nat} (hP : P ≤ 6) (hq : q < P) : aEnd A q < C := by
  unfold aEnd
  split
  · exact hV.1 q 0 hq (by omega)
  · exact hV.2.2.2.1 q _ (by omega) (by omega)
theorem aSend_V {C P : Nat} {A : aD} (hV : dV C P A) {q c : Nat} (hq : q < P) (hc : c < C) (hm : dM A q < 8) : dV C P (aSend q c A) := by
  obtain ⟨v1, v2, v3, v4, v5, v6⟩ := hV
  refine ⟨v1, v2, fun r hr => ?_, fun r i hr hi => ?_, v5, v6⟩
  · show zup (dM A) q (dM A q + 1) r ≤ 8 ∧ (zup (dM A) q (dM A q + 1) r ≠ 0 → r < P)
    by_cases e : r = q
    · subst e; rw [zup_s]; exact ⟨by omega, fun _ => hq⟩
    · rw [zup_n e]; exact v3 r hr
  · have hi' : i < zup (dM A) q (dM A q + 1) r := hi
    show (if r = q ∧ i = dM A q then c else dY A r i) < C
    split
    · exact hc
    · next e =>
      by_cases e1 : r = q
      · subst e1; rw [zup_s] at hi'; exact v4 r i hr (by omega)
      · rw [zup_n e1] at hi'; exact v4 r i hr hi'
theorem aDrop_V {C P : Nat} {A : aD} (hC : C ≤ 8) (hV : dV C P A) {q : Nat} (hP : P ≤ 6) (hq : q < P) (hb : dB A q ≠ 0) : dV C P (aDrop q A) := by
  obtain ⟨v1, v2, v3, v4, v5, v6⟩ := hV
  refine ⟨v1, v2, v3, v4, ?_, v6⟩
  show zsm (zup (dB A) q (dB A q - 1)) 6 + zsm (zup (dL A) (dW A 0 q) (dL A (dW A 0 q) + 1)) 8 ≤ 54
  have h1 := zsm_up (f := dB A) (n := 6) (k := q) (v := dB A q - 1) (by omega)
  have h2 := zsm_up (f := dL A) (n := 8) (k := dW A 0 q) (v := dL A (dW A 0 q) + 1) (by have := v1 q 0 hq (by omega); omega)
  omega
theorem aHire_V {C P : Nat} {A : aD} (hV : dV C P A) {q r n : Nat} (hq : q < P) (hr : r < P) (h1 : 1 ≤ n) (h5 : n ≤ 5) : dV C P (aHire q r n A) := by
  obtain ⟨v1, v2, v3, v4, v5, v6⟩ := hV
  refine ⟨v1, fun x hx => ?_, v3, v4, v5, v6⟩
  show zup (dA A) r (q + 1) x ≤ P ∧ (zup (dA A) r (q + 1) x ≠ 0 → x < P ∧ 1 ≤ zup (dH A) r n x ∧ zup (dH A) r n x ≤ 5)
  by_cases e : x = r
  · subst e; rw [zup_s, zup_s]; exact ⟨by omega, fun _ => ⟨hr, h1, h5⟩⟩
  · rw [zup_n e, zup_n e]; exact v2 x hx
theorem aLeave_V {C P : Nat} {A : aD} (hV : dV C P A) {q : Nat} : dV C P (aLeave q A) := by
  obtain ⟨v1, v2, v3, v4, v5, v6⟩ := hV
  refine ⟨v1, fun x hx => ?_, v3, v4, v5, v6⟩
  show zup (dA A) q 0 x ≤ P ∧ (zup (dA A) q 0 x ≠ 0 → x < P ∧ 1 ≤ zup (dH A) q 0 x ∧ zup (dH A) q 0 x ≤ 5)
  by_cases e : x = q
  · subst e; rw [zup_s]; exact ⟨by omega, fun h => absurd rfl h⟩
  · rw [zup_n e, zup_n e]; exact v2 x hx
/-! ## the class's acts -/
theorem x_send {C P : Nat} {A : aD} {B : Nat → Nat} {r bs f pl bu le di wa lf ly pr : Nat → Int32} (hC : C ≤ 8) (hP : P ≤ 6) (hr : r 4 = nI C) (hB : p_BC B C) (hb : ∀ c, c < 8 → bs c = nI (B c)) (hV : dV C P A) (h : dX P A f pl bu le di wa lf ly pr) {q c : Nat} (hq : q < P) (hc : c < C) :
    ∃ wa' lf', fDy_goesTo pl le wa lf r bs (nI q) (nI c) = some (nI (aWhyS B A q c), wa', lf') ∧ (aWhyS B A q c = 0 → dX P (aSend q c A) f pl bu le di wa' lf' ly pr) ∧ (aWhyS B A q c ≠ 0 → wa' = wa ∧ lf' = lf) := by
  obtain ⟨x1, x2, x3, x4, x5, x6, x7, x8, x9, x10⟩ := h
  have hal := (hV.2.1 q (by omega)).1
  have hml := (hV.2.2.1 q (by omega)).1
  unfold fDy_goesTo
  rw [x_fol (show q < 6 by omega), x_way (show q < 6 by omega), x_whe (show q < 6 by omega), x5 q (by omega), x8 q (by omega), p_mayBe, p_has_y (by omega) (show q < 6 by omega)]
  have hpl : pl (6 * q) = nI (dW A 0 q) := by have := x3 q 0 (by omega) (by omega); rw [if_pos hq] at this; exact this
  simp only [Option.bind_some, zlet, if_true, hpl]
  unfold aWhyS
  by_cases h1 : dA A q = 0
  · rw [if_pos ((nI_m1 (by omega)).mpr h1), if_pos h1]
    by_cases h2 : dM A q = 8
    · rw [if_neg (show ¬ nI (dM A q) < 8 from nI_nlt (b := 8) (by omega) (by omega)), if_pos h2]
      exact ⟨_, _, rfl, fun h => absurd h (by decide), fun _ => ⟨rfl, rfl⟩⟩
    · rw [if_pos (show nI (dM A q) < 8 from nI_lt (b := 8) (by omega) (by omega)), if_neg h2]
      have hE := aEnd_lt hV hP hq
      have hend : (if nI (dM A q) ≤ 0 then (fPl_areBeside r bs (nI (dW A 0 q)) (nI c)).bind (fun y7 => if y7 = true then (zwr wa 48 (nI q * 8 + nI (dM A q)) (nI c)).bind (fun r0_4v9 => (zwr lf 6 (nI q) (nI (dM A q) + 1)).bind (fun r0_5v10 => some ((0 : Int32), r0_4v9, r0_5v10))) else some (3, wa, lf)) else (zrd wa 48 (nI q * 8 + nI (dM A q) - 1)).bind (fun v14 => (fPl_areBeside r bs v14 (nI c)).bind (fun y7 => if y7 = true then (zwr wa 48 (nI q * 8 + nI (dM A q)) (nI c)).bind (fun r0_4v9 => (zwr lf 6 (nI q) (nI (dM A q) + 1)).bind (fun r0_5v10 => some ((0 : Int32), r0_4v9, r0_5v10))) else some (3, wa, lf)))) = (fPl_areBeside r bs (nI (aEnd A q)) (nI c)).bind (fun y7 => if y7 = true then (zwr wa 48 (nI q * 8 + nI (dM A q)) (nI c)).bind (fun r0_4v9 => (zwr lf 6 (nI q) (nI (dM A q) + 1)).bind (fun r0_5v10 => some ((0 : Int32), r0_4v9, r0_5v10))) else some (3, wa, lf)) := by
        unfold aEnd
        by_cases h3 : dM A q = 0
        · rw [if_pos ((nI_le0 (by omega)).mpr h3), if_pos h3]
        · rw [if_neg (fun h => h3 ((nI_le0 (by omega)).mp h)), if_neg h3, z_mul8, nI_p1 (by omega), zrd_n (by omega) (by omega), show 8 * q + dM A q - 1 = 8 * q + (dM A q - 1) by omega, x7 q (dM A q - 1) (by omega) (by omega)]
          simp only [Option.bind_some]
      rw [hend, p_areBeside hC hr hb hB hE hc]
      simp only [Option.bind_some]
      cases eb : (B (aEnd A q)).testBit c with
      | true =>
        rw [if_pos rfl, if_pos rfl, z_mul8, zwr_n (by omega) (by omega), nI_1]
        simp only [Option.bind_some]
        rw [zwr_n (by omega) (by omega)]
        refine ⟨_, _, rfl, fun _ => ⟨x1, x2, x3, x4, x5, x6, fun r i hr hi => ?_, xN_up x8, x9, x10⟩, fun h => absurd rfl h⟩
        have hi' : i < zup (dM A) q (dM A q + 1) r := hi
        have := (hV.2.2.1 r hr).1
        show zup wa (8 * q + dM A q) (nI c) (8 * r + i) = nI (if r = q ∧ i = dM A q then c else dY A r i)
        by_cases e : r = q
        · subst e
          rw [zup_s] at hi'
          by_cases e2 : i = dM A r
          · subst e2; rw [zup_s, if_pos ⟨rfl, rfl⟩]
          · rw [zup_n (by omega), if_neg (fun h => e2 h.2)]; exact x7 r i hr (by omega)
        · rw [zup_n e] at hi'
          rw [zup_n (by omega), if_neg (fun h => e h.1)]; exact x7 r i hr hi'
      | false =>
        exact ⟨_, _, rfl, fun h => absurd h (by decide), fun _ => ⟨rfl, rfl⟩⟩
  · rw [if_neg (fun h => h1 ((nI_m1 (by omega)).mp h)), if_neg h1]
    exact ⟨_, _, rfl, fun h => absurd h (by decide), fun _ => ⟨rfl, rfl⟩⟩
theorem x_drop {C P : Nat} {A : aD} {f pl bu le di wa lf ly pr : Nat → Int32} (hC : C ≤ 8) (hP : P ≤ 6) (hV : dV C P A) (h : dX P A f pl bu le di wa lf ly pr) {q : Nat} (hq : q < P) :
    ∃ bu' ly', fDy_dropsBun pl bu ly (nI q) = some (nI (aWhyD A q), bu', ly') ∧ (aWhyD A q = 0 → dX P (aDrop q A) f pl bu' le di wa lf ly' pr) ∧ (aWhyD A q ≠ 0 → bu' = bu ∧ ly' = ly) := by
  obtain ⟨x1, x2, x3, x4, x5, x6, x7, x8, x9, x10⟩ := h
  have hbl := dV_b hV (show q < 6 by omega)
  have hw := hV.1 q 0 hq (by omega)
  have hpl : pl (6 * q) = nI (dW A 0 q) := by have := x3 q 0 (by omega) (by omega); rw [if_pos hq] at this; exact this
  unfold fDy_dropsBun aWhyD
  rw [x_whe (show q < 6 by omega), x_bun (show q < 6 by omega), x4 q (by omega), hpl, p_mayBe, p_has_y (by omega) (show q < 6 by omega)]
  simp only [Option.bind_some, if_true]
  by_cases h1 : dB A q = 0
  · rw [h1, if_pos (by decide), if_pos rfl]
    exact ⟨_, _, rfl, fun h => absurd h (by decide), fun _ => ⟨rfl, rfl⟩⟩
  · rw [if_neg (show ¬ nI (dB A q) < 1 from nI_nlt (b := 1) (by omega) (by omega)), if_neg h1, p_mayBeCorner, p_has_y (by omega) (show dW A 0 q < 8 by omega), if_pos rfl, zrd_n (by omega) (by omega), x4 q (by omega)]
    simp only [Option.bind_some]
    rw [nI_p1 (by omega), zwr_n (by omega) (by omega), zrd_n (by omega) (by omega), x9 _ (by omega)]
    simp only [Option.bind_some]
    rw [nI_1, zwr_n (by omega) (by omega)]
    exact ⟨_, _, rfl, fun _ => ⟨x1, x2, x3, xN_up x4, x5, x6, x7, x8, xN_up x9, x10⟩, fun h => absurd rfl h⟩
theorem xLe_up {A : aD} {le : Nat → Int32} (h : xLe A le) {k v : Nat} {n' : Nat → Nat} {x : Int32} (hx : x = nI v - 1) : xLe (sH_ (sA_ A (zup (dA A) k v)) n') (zup le k x) := fun q hq => by
  show zup le k x q = nI (zup (dA A) k v q) - 1
  by_cases e : q = k
  · subst e; rw [zup_s, zup_s, hx]
  · rw [zup_n e, zup_n e]; exact h q hq
theorem xDi_up {A : aD} {di : Nat → Int32} (h : xDi A di) {k v n : Nat} {x : Int32} (hx : x = if v = 0 then -1 else nI n) : xDi (sH_ (sA_ A (zup (dA A) k v)) (zup (dH A) k n)) (zup di k x) := fun q hq => by
  show zup di k x q = if zup (dA A) k v q = 0 then -1 else nI (zup (dH A) k n q)
  by_cases e : q = k
  · subst e; rw [zup_s, zup_s, zup_s, hx]
  · rw [zup_n e, zup_n e, zup_n e]; exact h q hq
theorem x_leave {C P : Nat} {A : aD} {f pl bu le di wa lf ly pr : Nat → Int32} (hP : P ≤ 6) (hV : dV C P A) (h : dX P A f pl bu le di wa lf ly pr) {q : Nat} (hq : q < P) :
    ∃ le' di', fDy_leavesOff le di (nI q) = some (nI (aWhyL A q), le', di') ∧ (aWhyL A q = 0 → dX P (aLeave q A) f pl bu le' di' wa lf ly pr) ∧ (aWhyL A q ≠ 0 → le' = le ∧ di' = di) := by
  obtain ⟨x1, x2, x3, x4, x5, x6, x7, x8, x9, x10⟩ := h
  have hal := (hV.2.1 q (by omega)).1
  unfold fDy_leavesOff aWhyL
  rw [x_fol (show q < 6 by omega), x5 q (by omega), p_mayBe, p_has_y (by omega) (show q < 6 by omega)]
  simp only [Option.bind_some, if_true]
  by_cases h1 : dA A q = 0
  · rw [if_pos ((nI_m1 (by omega)).mpr h1), if_pos h1]
    exact ⟨_, _, rfl, fun h => absurd h (by decide), fun _ => ⟨rfl, rfl⟩⟩
  · rw [if_neg (fun h => h1 ((nI_m1 (by omega)).mp h)), if_neg h1, zwr_n (by omega) (by omega), zwr_n (by omega) (by omega)]
    exact ⟨_, _, rfl, fun _ => ⟨x1, x2, x3, x4, xLe_up x5 rfl, xDi_up x6 rfl, x7, x8, x9, x10⟩, fun h => absurd rfl h⟩
/-- who follows another one instead of what he did -/
def aIns (q r n : Nat) (A : aD) : aD := sM_ (aHire q r n A) (zup (dM A) r 0)
theorem x_instead {C P : Nat} {A : aD} {f pl bu le di wa lf ly pr : Nat → Int32} (hP : P ≤ 6) (h : dX P A f pl bu le di wa lf ly pr) {q r n : Nat} (hq : q < P) (hr : r < P) :
    ∃ le' di' lf', fDy_followsInstead le di lf (nI r) (nI q) (nI n) = some (le', di', lf') ∧ dX P (aIns q r n A) f pl bu le' di' wa lf' ly pr := by
  obtain ⟨x1, x2, x3, x4, x5, x6, x7, x8, x9, x10⟩ := h
  unfold fDy_followsInstead
  rw [p_mayBe, p_mayBe, p_has_y (by omega) (show q < 6 by omega), p_has_y (by omega) (show r < 6 by omega), if_pos rfl, if_pos rfl, zwr_n (by omega) (by omega), zwr_n (by omega) (by omega), zwr_n (by omega) (by omega)]
  refine ⟨_, _, _, rfl, x1, x2, x3, x4, xLe_up (n' := zup (dH A) r n) x5 (nI_pred q).symm, xDi_up x6 (by rw [if_neg (by omega)]), fun x i hx hi => ?_, xN_up x8, x9, x10⟩
  have hi' : i < zup (dM A) r 0 x := hi
  by_cases e : x = r
  · subst e; rw [zup_s] at hi'; omega
  · rw [zup_n e] at hi'; exact x7 x i hx hi'
theorem x_hire {C P : Nat} {A : aD} {f pl bu le di wa lf ly pr : Nat → Int32} (hP : P ≤ 6) (hV : dV C P A) (h : dX P A f pl bu le di wa lf ly pr) {q r n : Nat} (hq : q < P) (hr : r < P) :
    ∃ le' di' lf', fDy_takesOn le di lf (nI q) (nI r) (nI n) = some (nI (aWhyH A r), le', di', lf') ∧ (aWhyH A r = 0 → dX P (aHire q r n A) f pl bu le' di' wa lf' ly pr) ∧ (aWhyH A r ≠ 0 → le' = le ∧ di' = di ∧ lf' = lf) := by
  have hal := (hV.2.1 r (by omega)).1
  have hml := (hV.2.2.1 r (by omega)).1
  unfold fDy_takesOn aWhyH
  rw [x_fol (show r < 6 by omega), x_way (show r < 6 by omega), h.2.2.2.2.1 r (by omega), h.2.2.2.2.2.2.2.1 r (by omega)]
  simp only [Option.bind_some]
  by_cases h1 : dA A r = 0
  · rw [if_pos ((nI_m1 (by omega)).mpr h1), if_pos h1]
    by_cases h2 : dM A r = 0
    · rw [if_pos ((nI_le0 (by omega)).mpr h2), if_pos h2]
      obtain ⟨le', di', lf', e1, e2⟩ := x_instead (C := C) (n := n) hP h hq hr
      rw [e1]
      refine ⟨_, _, _, rfl, fun _ => ?_, fun h => absurd rfl h⟩
      have e3 : zup (dM A) r 0 = dM A := funext fun x => by
        by_cases e : x = r
        · subst e; rw [zup_s, h2]
        · rw [zup_n e]
      have e4 : aIns q r n A = aHire q r n A := by unfold aIns; rw [e3]; rfl
      rw [← e4]; exact e2
    · rw [if_neg (fun h => h2 ((nI_le0 (by omega)).mp h)), if_neg h2]
      exact ⟨_, _, _, rfl, fun h => absurd h (by decide), fun _ => ⟨rfl, rfl, rfl⟩⟩
  · rw [if_neg (fun h => h1 ((nI_m1 (by omega)).mp h)), if_neg h1]
    exact ⟨_, _, _, rfl, fun h => absurd h (by decide), fun _ => ⟨rfl, rfl, rfl⟩⟩
/-! ## the reference's acts -/
theorem m_whySend {C P : Nat} {A : aD} {B : Nat → Nat} {s : Nat → Int32} (hC : C ≤ 8) (hP : P ≤ 6) (hB : p_BC B C) (hs : ∀ c, c < 8 → s (3 + c) = nI (B c)) (hV : dV C P A) (h : sD P A s) {q c : Nat} (hq : q < P) (hc : c < C) : fM_whySend s (nI q) (nI c) = some (nI (aWhyS B A q c)) := by
  obtain ⟨h1, h2, h3, h4, h5, h6, h7, h8, h9, h10⟩ := h
  have hal := (hV.2.1 q (by omega)).1
  have hml := (hV.2.2.1 q (by omega)).1
  have hE := aEnd_lt hV hP hq
  have hBl : ∀ c, c < 8 → B c < 256 := fun c hc => p_BC_lt hC hB hc
  unfold fM_whySend aWhyS
  rw [z_133, z_145, z_91, zrd_n (by omega) (by omega), zrd_n (by omega) (by omega), zrd_n (by omega) (by omega), h5 q (by omega), h8 q (by omega), show s (91 + q) = nI (dW A 0 q) from h3 q 0 hq (by omega), z_8x, z_151]
  simp only [Option.bind_some, nI_add]
  by_cases g1 : dA A q = 0
  · rw [if_pos ((nI_le0 (by omega)).mpr g1), if_pos g1]
    by_cases g2 : dM A q = 8
    · rw [if_pos (by rw [g2]; rfl), if_pos g2]; rfl
    · rw [if_neg (fun h => g2 ((nI_k8 (by omega)).mp h)), if_neg g2]
      by_cases g3 : dM A q = 0
      · have hE' : aEnd A q = dW A 0 q := by unfold aEnd; rw [if_pos g3]
        rw [hE'] at hE
        rw [if_pos ((nI_e0 (by omega)).mpr g3), p_isBeside hBl hs (by omega) (by omega), hE']
        simp only [Option.bind_some]
        cases (B (dW A 0 q)).testBit c <;> rfl
      · have hE' : aEnd A q = dY A q (dM A q - 1) := by unfold aEnd; rw [if_neg g3]
        rw [hE'] at hE
        rw [if_neg (fun h => g3 ((nI_e0 (by omega)).mp h)), nI_p1 (by omega), zrd_n (by omega) (by omega), show 151 + 8 * q + dM A q - 1 = 151 + 8 * q + (dM A q - 1) by omega, h7 q _ (by omega) (by omega), hE']
        simp only [Option.bind_some]
        rw [p_isBeside hBl hs (by omega) (by omega)]
        simp only [Option.bind_some]
        cases (B (dY A q (dM A q - 1))).testBit c <;> rfl
  · rw [if_neg (fun h => g1 ((nI_le0 (by omega)).mp h)), if_neg g1]; rfl
theorem dV_M {C P : Nat} {A : aD} (hV : dV C P A) : ∀ q, q < 6 → dM A q ≤ 8 := fun q hq => (hV.2.2.1 q hq).1
theorem m_sends {C P : Nat} {A : aD} {s : Nat → Int32} (hP : P ≤ 6) (hV : dV C P A) (h : sD P A s) {q c : Nat} (hq : q < P) (hm : dM A q < 8) : ∃ s', fM_sends s (nI q) (nI c) = some s' ∧ sD P (aSend q c A) s' ∧ sK s s' := by
  have h8 := h.2.2.2.2.2.2.2.1 q (by omega)
  unfold fM_sends
  rw [z_145, zrd_n (by omega) (by omega), h8, z_8x, z_151]
  simp only [Option.bind_some]
  rw [nI_add, zwr_n (by omega) (by omega)]
  simp only [Option.bind_some]
  rw [zrd_n (by omega) (by omega), zup_n (by omega), h8]
  simp only [Option.bind_some, nI_1]
  rw [zwr_n (by omega) (by omega)]
  exact ⟨_, rfl, sD_MY hP h (dV_M hV) (by omega) hm, sK_up (sK_up sK_rfl (by omega)) (by omega)⟩
theorem m_lets {C P : Nat} {A : aD} {s : Nat → Int32} (hC : C ≤ 8) (hP : P ≤ 6) (hV : dV C P A) (h : sD P A s) {q : Nat} (hq : q < P) (hb : dB A q ≠ 0) : ∃ s', fM_lets s (nI q) = some s' ∧ sD P (aDrop q A) s' ∧ sK s s' := by
  have hw := hV.1 q 0 hq (by omega)
  have h1 := sD_B hP h (dV_M hV) (x0 := q) (v := dB A q - 1) (by omega)
  have h2 := sD_L hP h1 (show ∀ q, q < 6 → dM A q ≤ 8 from dV_M hV) (x0 := dW A 0 q) (v := dL A (dW A 0 q) + 1) (by omega)
  unfold fM_lets
  rw [z_127, z_91, zrd_n (by omega) (by omega), h.2.2.2.1 q (by omega)]
  simp only [Option.bind_some]
  rw [nI_p1 (by omega), zwr_n (by omega) (by omega)]
  simp only [Option.bind_some]
  rw [zrd_n (by omega) (by omega), zup_n (by omega), show s (91 + q) = nI (dW A 0 q) from h.2.2.1 q 0 hq (by omega)]
  simp only [Option.bind_some]
  rw [z_199, zrd_n (by omega) (by omega), zup_n (by omega), h.2.2.2.2.2.2.2.2.1 _ (by omega)]
  simp only [Option.bind_some, nI_1]
  rw [zwr_n (by omega) (by omega)]
  exact ⟨_, rfl, h2, sK_up (sK_up sK_rfl (by omega)) (by omega)⟩
theorem m_parts {C P : Nat} {A : aD} {s : Nat → Int32} (hP : P ≤ 6) (hV : dV C P A) (h : sD P A s) {q : Nat} (hq : q < P) : ∃ s', fM_parts s (nI q) = some s' ∧ sD P (aLeave q A) s' ∧ sK s s' := by
  unfold fM_parts
  rw [z_133, z_139, zwr_n (by omega) (by omega)]
  simp only [Option.bind_some]
  rw [zwr_n (by omega) (by omega)]
  exact ⟨_, rfl, sD_AH hP h (dV_M hV) (by omega), sK_up (sK_up sK_rfl (by omega)) (by omega)⟩
theorem m_binds {C P : Nat} {A : aD} {s : Nat → Int32} (hP : P ≤ 6) (hV : dV C P A) (h : sD P A s) {q r n : Nat} (hq : q < P) (hr : r < P) : ∃ s', fM_binds s (nI q) (nI r) (nI n) = some s' ∧ sD P (aHire q r n A) s' ∧ sK s s' := by
  unfold fM_binds
  rw [z_133, z_139, nI_1, zwr_n (by omega) (by omega)]
  simp only [Option.bind_some]
  rw [zwr_n (by omega) (by omega)]
  exact ⟨_, rfl, sD_AH hP h (dV_M hV) (by omega), sK_up (sK_up sK_rfl (by omega)) (by omega)⟩
theorem m_whyHire {C P : Nat} {A : aD} {s : Nat → Int32} (hP : P ≤ 6) (hV : dV C P A) (h : sD P A s) {q : Nat} (hq : q < P) : fM_whyHire s (nI q) = some (nI (aWhyH A q)) := by
  have hal := (hV.2.1 q (by omega)).1
  have hml := (hV.2.2.1 q (by omega)).1
  unfold fM_whyHire aWhyH
  rw [z_133, z_145, zrd_n (by omega) (by omega), zrd_n (by omega) (by omega), h.2.2.2.2.1 q (by omega), h.2.2.2.2.2.2.2.1 q (by omega)]
  simp only [Option.bind_some]
  by_cases g1 : dA A q = 0
  · rw [if_pos ((nI_le0 (by omega)).mpr g1), if_pos g1]
    by_cases g2 : dM A q = 0
    · rw [if_pos ((nI_le0 (by omega)).mpr g2), if_pos g2]; rfl
    · rw [if_neg (fun h => g2 ((nI_le0 (by omega)).mp h)), if_neg g2]; rfl
  · rw [if_neg (fun h => g1 ((nI_le0 (by omega)).mp h)), if_neg g1]; rfl
