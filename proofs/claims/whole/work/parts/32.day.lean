/-! ===== a town and a day, in numbers ===== -/
def p_has (n : Nat) (v : Int32) : Bool := decide (0 ≤ v) && decide (v < nI n)
theorem p_has_ex {n : Nat} {v : Int32} (hn : n < 2 ^ 31) (h : p_has n v = true) : ∃ q, q < n ∧ v = nI q := by
  simp only [p_has, Bool.and_eq_true, decide_eq_true_eq] at h
  obtain ⟨j, h1, rfl⟩ := nI_of (x := v) (Int32.not_lt.mpr h.1)
  exact ⟨j, (nI_ltI h1 hn).mp h.2, rfl⟩
theorem p_has_n {n q : Nat} (hn : n < 2 ^ 31) (hq : q < 2 ^ 31) : p_has n (nI q) = decide (q < n) := by
  unfold p_has
  rw [decide_eq_true (nI_pos' hq), Bool.true_and]
  exact decide_eq_decide.mpr (nI_ltI hq hn)
theorem p_has_y {n q : Nat} (hn : n < 2 ^ 31) (hq : q < n) : p_has n (nI q) = true := by
  rw [p_has_n hn (by omega), decide_eq_true hq]
theorem p_has_m (n : Nat) : p_has n (-1) = false := by
  unfold p_has
  rw [decide_eq_false (by decide), Bool.false_and]
theorem p_has_lt {n : Nat} {v : Int32} (h : v < 0) : p_has n v = false := by
  unfold p_has
  rw [decide_eq_false (Int32.not_le.mpr h), Bool.false_and]
theorem p_has3 {n N : Nat} {v : Int32} (hn : n ≤ N) (hN : N < 2 ^ 31) : (if v < 0 then false else (if nI n ≤ v then false else (if nI N ≤ v then false else true))) = p_has n v := by
  by_cases h : v < 0
  · rw [if_pos h, p_has_lt h]
  · rw [if_neg h]
    obtain ⟨j, h1, rfl⟩ := nI_of h
    rw [p_has_n (by omega) h1]
    by_cases h2 : j < n
    · rw [if_neg (nI_ge h2 (by omega)), if_neg (nI_ge (by omega) hN), decide_eq_true h2]
    · rw [if_pos (nI_le (by omega) h1), decide_eq_false h2]
theorem p_hasPerson {r : Nat → Int32} {P : Nat} {v : Int32} (hP : P ≤ 6) (hr : r 6 = nI P) : fPl_hasPerson r v = p_has P v := by
  unfold fPl_hasPerson
  rw [hr]
  exact p_has3 hP (by decide)
theorem p_hasCorner {r : Nat → Int32} {C : Nat} {v : Int32} (hC : C ≤ 8) (hr : r 4 = nI C) : fPl_hasCorner r v = p_has C v := by
  unfold fPl_hasCorner
  rw [hr]
  exact p_has3 hC (by decide)
theorem p_isIn {n : Nat} {v : Int32} (hn : n < 2 ^ 31) : fM_isIn v 0 (nI n - 1) = p_has n v := by
  unfold fM_isIn
  by_cases h : v < 0
  · rw [if_pos h, p_has_lt h]
  · rw [if_neg h]
    obtain ⟨j, h1, rfl⟩ := nI_of h
    rw [p_has_n hn h1]
    cases n with
    | zero =>
      rw [if_pos (Int32.lt_of_lt_of_le (by decide) (nI_pos' h1))]; rfl
    | succ n =>
      rw [nI_pred]
      by_cases h2 : j < n + 1
      · rw [if_neg (nI_nlt (by omega) (by omega)), decide_eq_true h2]
      · rw [if_pos (nI_lt (by omega) h1), decide_eq_false h2]
theorem p_isPerson {s : Nat → Int32} {P : Nat} {v : Int32} (hP : P ≤ 6) (hs : s 2 = nI P) : fM_isPerson s v = some (p_has P v) := by
  unfold fM_isPerson; rw [hs, p_isIn (by omega)]
theorem p_isCorner {s : Nat → Int32} {C : Nat} {v : Int32} (hC : C ≤ 8) (hs : s 0 = nI C) : fM_isCorner s v = some (p_has C v) := by
  unfold fM_isCorner; rw [hs, p_isIn (by omega)]
theorem p_mayBe {v : Int32} : fDy_mayBe v = p_has 6 v := by
  have := p_has3 (n := 6) (N := 6) (v := v) (Nat.le_refl _) (by decide)
  rw [← this]
  unfold fDy_mayBe
  by_cases h : v < 0
  · rw [if_pos h, if_pos h]
  · rw [if_neg h, if_neg h]
    by_cases h2 : (6 : Int32) ≤ v
    · rw [if_pos h2, if_pos (show nI 6 ≤ v from h2)]
    · rw [if_neg h2, if_neg (show ¬ nI 6 ≤ v from h2), if_neg (show ¬ nI 6 ≤ v from h2)]
theorem p_mayBeCorner {v : Int32} : fDy_mayBeCorner v = p_has 8 v := by
  have := p_has3 (n := 8) (N := 8) (v := v) (Nat.le_refl _) (by decide)
  rw [← this]
  unfold fDy_mayBeCorner
  by_cases h : v < 0
  · rw [if_pos h, if_pos h]
  · rw [if_neg h, if_neg h]
    by_cases h2 : (8 : Int32) ≤ v
    · rw [if_pos h2, if_pos (show nI 8 ≤ v from h2)]
    · rw [if_neg h2, if_neg (show ¬ nI 8 ≤ v from h2), if_neg (show ¬ nI 8 ≤ v from h2)]
