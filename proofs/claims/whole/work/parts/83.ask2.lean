/-! ===== the best question: the reference; fits, call against call ===== -/
section AM
variable {n C P F : Nat} {b : Nat → Nat} {A : aD} {pl s rm r0 tp tb mt rp : Nat → Int32}
theorem cNt_eq (hP : P ≤ 6) {k c : Nat} : cNt A P F k c = zsm (fun q => if (F.testBit q && decide (dW A k q = c)) then 1 else 0) P := by
  unfold cNt
  rw [← zpc_setP (fun q => F.testBit q && decide (dW A k q = c)) hP]
  congr 1
  apply Nat.eq_of_testBit_eq
  intro d
  rw [Nat.testBit_and, zset_tb, zset_tb]
  cases F.testBit d <;> cases decide (d < P) <;> simp
theorem zsm_le1 (g : Nat → Bool) (q : Nat) : zsm (fun q => if g q then 1 else 0) q ≤ q := by
  induction q with
  | zero => exact Nat.le_refl _
  | succ q ih =>
    rw [zsm]
    try dsimp only
    split <;> omega
theorem m_cnt (hC : C ≤ 8) (hP : P ≤ 6) (hF : F < 64) (s2 : s 2 = nI P) (hV : dV C P A) (h : sD P A s) {k c : Nat} (hk : k < 6) (hc : c < 8) : zLP (fun t : Int32 × Int32 => fM_leftBy_L22 s (nI F) (nI k) (nI c) t.1 t.2) (0, 0) = some (nI (cNt A P F k c)) := by
  rw [cNt_eq hP]
  refine zLP_cnt (fun q => (nI (zsm (fun q => if (F.testBit q && decide (dW A k q = c)) then 1 else 0) q), nI q)) P rfl ?_ ?_
  · intro q hq
    have hw := hV.1 q k hq hk
    show fM_leftBy_L22 s (nI F) (nI k) (nI c) (nI (zsm (fun q => if (F.testBit q && decide (dW A k q = c)) then 1 else 0) q)) (nI q) = some (.inl (nI (zsm (fun q => if (F.testBit q && decide (dW A k q = c)) then 1 else 0) (q + 1)), nI (q + 1)))
    unfold fM_leftBy_L22
    rw [s2, if_neg (nI_ge hq (by omega)), z_bo (by omega) (by omega), zsm]
    try dsimp only
    by_cases e : F.testBit q = true
    · rw [if_pos e, show (6 : Int32) * nI k = nI (6 * k) from nI_mul 6 k, show (91 : Int32) + nI (6 * k) = nI (91 + 6 * k) from nI_add 91 (6 * k), nI_add, zrd_n (by omega) (by omega), h.2.2.1 q k hq hk, Option.bind_some, zlet_e, zlet_e, nI_1]
      by_cases e2 : dW A k q = c
      · rw [if_pos (by rw [e2]), if_pos (by rw [e, decide_eq_true e2]; rfl), show zb true = nI 1 from rfl, nI_add]
      · rw [if_neg (fun h => e2 ((nI_eq (by omega) (by omega)).mp h)), if_neg (by rw [decide_eq_false e2, Bool.and_false]; decide), show zb false = nI 0 from rfl, nI_add]
    · rw [if_neg e, zlet_e, zlet_e, nI_1, if_neg (by rw [show F.testBit q = false by simpa using e, Bool.false_and]; decide), show (0 : Int32) = nI 0 from rfl, nI_add]
  · show fM_leftBy_L22 s (nI F) (nI k) (nI c) (nI _) (nI P) = _
    unfold fM_leftBy_L22
    rw [s2, if_pos (nI_le (Nat.le_refl _) (by omega))]
theorem m_left (hC : C ≤ 8) (hP : P ≤ 6) (hF : F < 64) (s0 : s 0 = nI C) (s2 : s 2 = nI P) (hV : dV C P A) (h : sD P A s) {k : Nat} (hk : k < 6) : fM_leftBy s (nI F) (nI k) = some (nI (lMx A P F k 8)) := by
  rw [lMx_more (C := C) (fun q hq => hV.1 q k hq hk) 8 hC]
  have hL : zLP (fun t : Int32 × Int32 => fM_leftBy_L5 s (nI F) (nI k) t.1 t.2) (0, 0) = some (nI (lMx A P F k C)) := by
    refine zLP_cnt (fun c => (nI (lMx A P F k c), nI c)) C rfl ?_ ?_
    · intro c hc
      have h1 := lMx_le (A := A) (P := P) (k := k) hF c
      have h2 : cNt A P F k c ≤ 6 := zpc_6 _ (Nat.lt_of_le_of_lt Nat.and_le_left hF)
      show fM_leftBy_L5 s (nI F) (nI k) (nI (lMx A P F k c)) (nI c) = some (.inl (nI (lMx A P F k (c + 1)), nI (c + 1)))
      unfold fM_leftBy_L5 fM_greater
      rw [s0, if_neg (nI_ge hc (by omega)), m_cnt hC hP hF s2 hV h hk (by omega), Option.bind_some, zlet_e, zlet_e, nI_1, lMx]
      by_cases e : lMx A P F k c < cNt A P F k c
      · rw [if_pos e, if_pos (nI_le (by omega) (by omega))]
      · rw [if_neg e]
        by_cases e2 : lMx A P F k c = cNt A P F k c
        · rw [if_pos (nI_le (by omega) (by omega)), e2]
        · rw [if_neg (nI_ge (by omega) (by omega))]
    · show fM_leftBy_L5 s (nI F) (nI k) (nI _) (nI C) = _
      unfold fM_leftBy_L5
      rw [s0, if_pos (nI_le (Nat.le_refl _) (by omega))]
  unfold fM_leftBy
  rw [hL, Option.bind_some]
theorem m_best (hC : C ≤ 8) (hP : P ≤ 6) (hF : F < 64) (s0 : s 0 = nI C) (s2 : s 2 = nI P) (hV : dV C P A) (h : sD P A s) (h27 : rm 27 = 0) : ∃ rm', zLP (fun t : (Nat → Int32) × Int32 => fM_fits_L124 s (nI F) t.1 t.2) (rm, 1) = some rm' ∧ (rm' 27 = nI (bQ A P F 5) ∧ ∀ j, j ≠ 27 → rm' j = rm j) := by
  refine zLP_inv (fun i t => t.2 = nI (i + 1) ∧ t.1 27 = nI (bQ A P F i) ∧ ∀ j, j ≠ 27 → t.1 j = rm j) _ 5 ⟨rfl, h27, fun _ _ => rfl⟩ ?_ ?_
  · rintro i ⟨t1, t2⟩ hi ⟨e1, e2, e3⟩
    dsimp only at e1 e2 e3
    left
    have hb := bQ_le (A := A) (P := P) (F := F) i
    have h1 := lMx_le (A := A) (P := P) (k := i + 1) hF 8
    have h2 := lMx_le (A := A) (P := P) (k := bQ A P F i) hF 8
    have hs : fM_fits_L124 s (nI F) t1 t2 = if nI (lMx A P F (bQ A P F i) 8) ≤ nI (lMx A P F (i + 1) 8) then some (.inl (t1, nI (i + 1 + 1))) else some (.inl (zup t1 27 (nI (i + 1)), nI (i + 1 + 1))) := by
      unfold fM_fits_L124
      rw [e1, if_neg (show ¬ (6 : Int32) ≤ nI (i + 1) from nI_ge (b := 6) (by omega) (by omega)), m_left hC hP hF s0 s2 hV h (by omega), Option.bind_some, e2, m_left hC hP hF s0 s2 hV h (by omega), Option.bind_some, nI_1]; rfl
    by_cases e : lMx A P F (bQ A P F i) 8 ≤ lMx A P F (i + 1) 8
    · rw [if_pos (nI_le e (by omega))] at hs
      refine ⟨(t1, nI (i + 1 + 1)), hs, rfl, ?_, e3⟩
      show t1 27 = nI (bQ A P F (i + 1))
      rw [bQ, if_pos e]; exact e2
    · rw [if_neg (nI_ge (by omega) (by omega))] at hs
      refine ⟨(zup t1 27 (nI (i + 1)), nI (i + 1 + 1)), hs, rfl, ?_, fun j hj => ?_⟩
      · show zup t1 27 (nI (i + 1)) 27 = nI (bQ A P F (i + 1))
        rw [zup_s, bQ, if_neg e]
      · show zup t1 27 (nI (i + 1)) j = rm j
        rw [zup_n hj]; exact e3 j hj
  · rintro ⟨t1, t2⟩ ⟨e1, e2, e3⟩
    dsimp only at e1 e2 e3
    refine ⟨t1, ?_, e2, e3⟩
    show fM_fits_L124 s (nI F) t1 t2 = _
    unfold fM_fits_L124
    rw [e1, if_pos (by decide)]
end AM
