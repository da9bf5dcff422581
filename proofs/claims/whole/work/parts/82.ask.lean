/-! ===== the best question ===== -/
theorem zsm_trim {f : Nat → Nat} {P : Nat} (h : ∀ q, P ≤ q → f q = 0) : ∀ m, P ≤ m → zsm f m = zsm f P := by
  intro m
  induction m with
  | zero => intro hm; have : P = 0 := by omega
            rw [this]
  | succ m ih =>
    intro hm
    by_cases e : P = m + 1
    · rw [e]
    · rw [zsm, ih (by omega), h m (by omega)]; rfl
theorem zsm_ext {f g : Nat → Nat} {n : Nat} (h : ∀ q, q < n → f q = g q) : zsm f n = zsm g n := by
  induction n with
  | zero => rfl
  | succ n ih => rw [zsm, zsm, ih (fun q hq => h q (by omega)), h n (by omega)]
theorem zpc_setP (g : Nat → Bool) {P : Nat} (hP : P ≤ 6) : zpc (zset g P) = zsm (fun q => if g q then 1 else 0) P := by
  have h1 : zset (fun q => decide (q < P) && g q) 6 = zset g P := by
    rw [zset_more (f := fun q => decide (q < P) && g q) (n := P) (m := 6) hP (fun k h1 h2 => by rw [decide_eq_false (by omega), Bool.false_and])]
    exact zset_ext (fun k hk => by rw [decide_eq_true hk, Bool.true_and])
  rw [← h1, zpc_set, zsm_trim (P := P) (fun q hq => by rw [decide_eq_false (by omega), Bool.false_and]; rfl) 6 hP]
  exact zsm_ext (fun q hq => by rw [decide_eq_true hq, Bool.true_and])
def cNt (A : aD) (P F k c : Nat) : Nat := zpc (F &&& zset (fun q => decide (dW A k q = c)) P)
def lMx (A : aD) (P F k : Nat) : Nat → Nat
  | 0 => 0
  | c + 1 => if lMx A P F k c < cNt A P F k c then cNt A P F k c else lMx A P F k c
def bQ (A : aD) (P F : Nat) : Nat → Nat
  | 0 => 0
  | k + 1 => if lMx A P F (bQ A P F k) 8 ≤ lMx A P F (k + 1) 8 then bQ A P F k else k + 1
theorem zpc_6 : ∀ x, x < 64 → zpc x ≤ 6 := by decide +kernel
theorem zpc_00 : zpc 0 = 0 := by decide
theorem lMx_le {A : aD} {P F k : Nat} (hF : F < 64) (c : Nat) : lMx A P F k c ≤ 6 := by
  induction c with
  | zero => exact Nat.zero_le _
  | succ c ih =>
    rw [lMx]
    split
    · exact zpc_6 _ (Nat.lt_of_le_of_lt Nat.and_le_left hF)
    · exact ih
theorem lMx_more {A : aD} {C P F k : Nat} (hW : ∀ q, q < P → dW A k q < C) : ∀ m, C ≤ m → lMx A P F k m = lMx A P F k C := by
  intro m
  induction m with
  | zero => intro hm; have : C = 0 := by omega
            rw [this]
  | succ m ih =>
    intro hm
    by_cases e : C = m + 1
    · rw [e]
    · have hz : cNt A P F k m = 0 := by
        unfold cNt
        have : zset (fun q => decide (dW A k q = m)) P = 0 := by
          apply Nat.eq_of_testBit_eq
          intro d
          rw [zset_tb, Nat.zero_testBit]
          by_cases hd : d < P
          · have := hW d hd
            rw [decide_eq_false (show ¬ dW A k d = m by omega), Bool.and_false]
          · rw [decide_eq_false hd, Bool.false_and]
        rw [this, Nat.and_zero, zpc_00]
      rw [lMx, hz, if_neg (by omega), ih (by omega)]
theorem bQ_le {A : aD} {P F : Nat} (k : Nat) : bQ A P F k ≤ k := by
  induction k with
  | zero => exact Nat.le_refl _
  | succ k ih =>
    rw [bQ]
    split <;> omega
section AQ
variable {C P F : Nat} {A : aD} {pl s rm : Nat → Int32}
theorem x_inner (hC : C ≤ 8) (hP : P ≤ 6) (hF : F < 64) (hV : dV C P A) (hx : xPl P A pl) {k : Nat} (hk : k < 6) : zLP (fun t : Int32 × Int32 => fX_bestQuestion_L21 pl (nI F) (nI k) t.1 t.2) (0, 0) = some (nI (lMx A P F k 8)) := by
  refine zLP_cnt (fun c => (nI (lMx A P F k c), nI c)) 8 rfl ?_ ?_
  · intro c hc
    have h1 := lMx_le (A := A) (P := P) (k := k) hF c
    have hl : F &&& zset (fun q => decide (dW A k q = c)) P < 64 := Nat.lt_of_le_of_lt Nat.and_le_left hF
    have h2 := zpc_6 _ hl
    show fX_bestQuestion_L21 pl (nI F) (nI k) (nI (lMx A P F k c)) (nI c) = some (.inl (nI (lMx A P F k (c + 1)), nI (c + 1)))
    unfold fX_bestQuestion_L21
    rw [if_neg (show ¬ (8 : Int32) ≤ nI c from nI_ge (b := 8) (by omega) (by omega)), x_whoWas hx hP hc hk (fun q hq => Nat.lt_of_lt_of_le (hV.1 q k hq hk) hC), Option.bind_some, z_and, z_bc (by omega), zlet_e, zlet_e, nI_1]
    show some (Sum.inl ((if nI (lMx A P F k c) < nI (cNt A P F k c) then nI (cNt A P F k c) else nI (lMx A P F k c)), nI (c + 1))) = _
    have h2' : cNt A P F k c ≤ 6 := h2
    rw [lMx]
    by_cases e : lMx A P F k c < cNt A P F k c
    · rw [if_pos e, if_pos (nI_lt e (by omega))]
    · rw [if_neg e, if_neg (nI_nlt (by omega) (by omega))]
  · show fX_bestQuestion_L21 pl (nI F) (nI k) (nI _) (nI 8) = _
    unfold fX_bestQuestion_L21
    rw [if_pos (by decide)]
theorem x_best (hC : C ≤ 8) (hP : P ≤ 6) (hF : F < 64) (hV : dV C P A) (hx : xPl P A pl) : fX_bestQuestion pl (nI F) = some (nI (bQ A P F 5)) := by
  have hL : zLP (fun t : Int32 × Int32 × Int32 => fX_bestQuestion_L8 pl (nI F) t.1 t.2.1 t.2.2) ((-1), 7, 0) = some (nI (bQ A P F 5)) := by
    refine zLP_cnt (fun i => match i with | 0 => ((-1 : Int32), (7 : Int32), (0 : Int32)) | i + 1 => (nI (bQ A P F i), nI (lMx A P F (bQ A P F i) 8), nI (i + 1))) 6 rfl ?_ ?_
    · intro i hi
      match i, hi with
      | 0, _ =>
        have h0 := lMx_le (A := A) (P := P) (k := 0) hF 8
        show fX_bestQuestion_L8 pl (nI F) (-1) 7 0 = some (.inl (nI (bQ A P F 0), nI (lMx A P F (bQ A P F 0) 8), nI (0 + 1)))
        unfold fX_bestQuestion_L8
        rw [if_neg (by decide), show zLP (fun s : Int32 × Int32 => fX_bestQuestion_L21 pl (nI F) 0 s.1 s.2) (0, 0) = _ from x_inner (k := 0) hC hP hF hV hx (by omega), Option.bind_some, if_neg (show ¬ (7 : Int32) ≤ nI (lMx A P F 0 8) from nI_ge (b := 7) (by omega) (by omega))]; rfl
      | i + 1, hi =>
        have h0 := lMx_le (A := A) (P := P) (k := i + 1) hF 8
        have h1 := lMx_le (A := A) (P := P) (k := bQ A P F i) hF 8
        show fX_bestQuestion_L8 pl (nI F) (nI (bQ A P F i)) (nI (lMx A P F (bQ A P F i) 8)) (nI (i + 1)) = some (.inl (nI (bQ A P F (i + 1)), nI (lMx A P F (bQ A P F (i + 1)) 8), nI (i + 1 + 1)))
        unfold fX_bestQuestion_L8
        rw [if_neg (show ¬ (6 : Int32) ≤ nI (i + 1) from nI_ge (b := 6) (by omega) (by omega)), x_inner hC hP hF hV hx (by omega), Option.bind_some, bQ]
        by_cases e : lMx A P F (bQ A P F i) 8 ≤ lMx A P F (i + 1) 8
        · rw [if_pos (nI_le e (by omega)), zlet_e, nI_1, if_pos e]
        · rw [if_neg (nI_ge (by omega) (by omega)), zlet_e, nI_1, if_neg e]
    · show fX_bestQuestion_L8 pl (nI F) (nI (bQ A P F 5)) _ (nI 6) = _
      unfold fX_bestQuestion_L8
      rw [if_pos (by decide)]
  unfold fX_bestQuestion
  rw [hL, Option.bind_some]
end AQ
