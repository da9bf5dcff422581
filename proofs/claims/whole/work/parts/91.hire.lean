/-! ===== who should be hired by whom: the best, in numbers; the class's search ===== -/
def hMF (v : Nat → Nat) (o : Nat → Bool) : Nat → Nat × Nat
  | 0 => (0, 0)
  | k + 1 => if o k = true ∧ (hMF v o k).1 < v k then (v k, k) else hMF v o k
theorem hMF_more {v : Nat → Nat} {o : Nat → Bool} {n m : Nat} (hm : n ≤ m) (h : ∀ k, n ≤ k → k < m → o k = false) : hMF v o m = hMF v o n := by
  induction m with
  | zero => rw [show n = 0 by omega]
  | succ m ih =>
    rcases Nat.lt_or_ge n (m + 1) with h1 | h1
    · rw [hMF, ih (by omega) (fun k h2 h3 => h k h2 (by omega)), h m (by omega) (by omega), if_neg (fun q => by simp at q)]
    · rw [show n = m + 1 by omega]
theorem hMF_sp {v : Nat → Nat} {o : Nat → Bool} (k : Nat) : (∀ r, r < k → o r = true → v r ≤ (hMF v o k).1) ∧ ((hMF v o k).1 ≠ 0 → (hMF v o k).2 < k ∧ o (hMF v o k).2 = true ∧ v (hMF v o k).2 = (hMF v o k).1 ∧ ∀ r, r < (hMF v o k).2 → o r = true → v r < (hMF v o k).1) := by
  induction k with
  | zero => exact ⟨fun r hr => absurd hr (by omega), fun h => absurd rfl h⟩
  | succ k ih =>
    obtain ⟨i1, i2⟩ := ih
    by_cases e : o k = true ∧ (hMF v o k).1 < v k
    · have E : hMF v o (k + 1) = (v k, k) := by rw [hMF, if_pos e]
      rw [E]
      refine ⟨fun r hr ho => ?_, fun _ => ⟨by show k < k + 1; omega, e.1, rfl, fun r hr ho => ?_⟩⟩
      · show v r ≤ v k
        by_cases e1 : r = k
        · rw [e1]; exact Nat.le_refl _
        · have := i1 r (by omega) ho; omega
      · show v r < v k
        have := i1 r hr ho; omega
    · have E : hMF v o (k + 1) = hMF v o k := by rw [hMF, if_neg e]
      rw [E]
      refine ⟨fun r hr ho => ?_, fun h => ?_⟩
      · by_cases e1 : r = k
        · subst e1
          have : ¬ (hMF v o r).1 < v r := fun q => e ⟨ho, q⟩
          omega
        · exact i1 r (by omega) ho
      · obtain ⟨j1, j2, j3, j4⟩ := i2 h
        exact ⟨by omega, j2, j3, j4⟩
def hW (ok : Nat → Nat → Bool) (dd : Nat → Nat → Nat) : Nat → Nat → Nat
  | 0, _ => 0
  | n + 1, set => max (hMF (fun r => 1000 - dd (5 - n) r + hW ok dd n (set ||| 2 ^ r)) (fun r => ok (5 - n) r && !set.testBit r) 6).1 (hW ok dd n set)
def hV (ok : Nat → Nat → Bool) (dd : Nat → Nat → Nat) (n set r : Nat) : Nat := 1000 - dd (5 - n) r + hW ok dd n (set ||| 2 ^ r)
def hO (ok : Nat → Nat → Bool) (n set r : Nat) : Bool := ok (5 - n) r && !set.testBit r
def hX (ok : Nat → Nat → Bool) (dd : Nat → Nat → Nat) (n set : Nat) : Nat × Nat := hMF (hV ok dd n set) (hO ok n set) 6
theorem hW_s (ok : Nat → Nat → Bool) (dd : Nat → Nat → Nat) (n set : Nat) : hW ok dd (n + 1) set = max (hX ok dd n set).1 (hW ok dd n set) := rfl
/-- whom p hires: nobody, or the first of the best -/
def hC (ok : Nat → Nat → Bool) (dd : Nat → Nat → Nat) (n set : Nat) : Option Nat := if (hX ok dd n set).1 = 0 ∨ (hX ok dd n set).1 < hW ok dd n set then none else some (hX ok dd n set).2
def hCI (x : Option Nat) : Int32 := match x with
  | none => -1
  | some r => nI r
def hCS (set : Nat) (x : Option Nat) : Nat := match x with
  | none => set
  | some r => set ||| 2 ^ r
def hG (ok : Nat → Nat → Bool) (dd : Nat → Nat → Nat) : Nat → Nat → Nat → Int32
  | 0, _, _ => -1
  | n + 1, set, i => if i = 5 - n then hCI (hC ok dd n set) else hG ok dd n (hCS set (hC ok dd n set)) i
theorem hV_le {ok : Nat → Nat → Bool} {dd : Nat → Nat → Nat} : ∀ n set, hW ok dd n set ≤ 1000 * n := by
  intro n
  induction n with
  | zero => intro set; exact Nat.le_refl _
  | succ n ih =>
    intro set
    have h1 := ih set
    have h2 : (hX ok dd n set).1 ≤ 1000 * (n + 1) := by
      by_cases e : (hX ok dd n set).1 = 0
      · omega
      · have h3 := ((hMF_sp (v := hV ok dd n set) (o := hO ok n set) 6).2 e).2.2.1
        have h4 := ih (set ||| 2 ^ (hX ok dd n set).2)
        have h5 : (hX ok dd n set).1 = 1000 - dd (5 - n) (hX ok dd n set).2 + hW ok dd n (set ||| 2 ^ (hX ok dd n set).2) := h3.symm
        omega
    rw [hW_s]; omega
theorem hO_no {ok : Nat → Nat → Bool} {n set : Nat} (h : ∀ r, r < 6 → ok (5 - n) r = false) : ∀ r, r < 6 → hO ok n set r = false := fun r hr => by
  unfold hO; rw [h r hr, Bool.false_and]
theorem hX_no {ok : Nat → Nat → Bool} {dd : Nat → Nat → Nat} {n set : Nat} (h : ∀ r, r < 6 → ok (5 - n) r = false) : hX ok dd n set = (0, 0) :=
  (hMF_more (Nat.zero_le 6) (fun k _ hk => hO_no h k hk) : hMF _ _ 6 = hMF _ _ 0)
theorem or_lt64 {a r : Nat} (ha : a < 64) (hr : r < 6) : a ||| 2 ^ r < 64 := by
  have h : 2 ^ r < 2 ^ 6 := Nat.pow_lt_pow_right (by omega) hr
  exact Nat.or_lt_two_pow (n := 6) ha h
/-- the best so far, as one number: 0, or by how much it is good, and 1 -/
def bBt (kb : Nat) (r0 : Nat → Int32) : Prop := (kb = 0 ∧ r0 2 = -1) ∨ ∃ a b, a ≤ 6 ∧ b ≤ 7 * a ∧ kb = 1000 * a - b + 1 ∧ r0 2 = nI a ∧ r0 3 = nI b
theorem x_better {kb pairs fr : Nat} {r0 tr ch : Nat → Int32} (hp : pairs ≤ 6) (hf : fr ≤ 7 * pairs) (h : bBt kb r0) :
    ∃ r0' ch', fPr_keepIfBetter r0 tr ch (nI pairs) (nI fr) = some (r0', ch') ∧ ((1000 * pairs - fr < kb ∧ bBt kb r0' ∧ ∀ i, i < 6 → ch' i = ch i) ∨ (kb ≤ 1000 * pairs - fr ∧ bBt (1000 * pairs - fr + 1) r0' ∧ ∀ i, i < 6 → ch' i = tr i)) := by
  have J : bBt (1000 * pairs - fr + 1) (zup (zup r0 2 (nI pairs)) 3 (nI fr)) ∧ ∀ i, i < 6 → va_cpy tr ch 0 0 6 i = tr i := by
    refine ⟨Or.inr ⟨pairs, fr, hp, hf, rfl, ?_, zup_s⟩, fun i hi => ?_⟩
    · rw [zup_n (by omega), zup_s]
    · unfold va_cpy
      rw [if_pos ⟨by omega, by omega⟩]; congr 1; omega
  unfold fPr_keepIfBetter
  rw [zlet_e, zlet_e, zlet_e, zlet_e]
  rcases h with ⟨h1, h2⟩ | ⟨a, b, h1, h2, h3, h4, h5⟩
  · rw [h2, if_pos (show (-1 : Int32) < nI pairs from Int32.lt_of_lt_of_le (by decide) (nI_pos' (by omega)))]
    exact ⟨_, _, rfl, Or.inr ⟨by omega, J⟩⟩
  · rw [h4, h5]
    rcases Nat.lt_trichotomy a pairs with e | e | e
    · rw [if_pos (nI_lt e (by omega))]
      exact ⟨_, _, rfl, Or.inr ⟨by omega, J⟩⟩
    · rw [if_neg (nI_nlt (by omega) (by omega)), if_pos (by rw [e])]
      by_cases w : b ≤ fr
      · rw [if_pos (nI_le w (by omega))]
        exact ⟨_, _, rfl, Or.inl ⟨by omega, Or.inr ⟨a, b, h1, h2, h3, h4, h5⟩, fun _ _ => rfl⟩⟩
      · rw [if_neg (nI_ge (by omega) (by omega))]
        exact ⟨_, _, rfl, Or.inr ⟨by omega, J⟩⟩
    · rw [if_neg (nI_nlt (by omega) (by omega)), if_neg (fun q => by have := (nI_eq (by omega) (by omega)).mp q; omega)]
      exact ⟨_, _, rfl, Or.inl ⟨by omega, Or.inr ⟨a, b, h1, h2, h3, h4, h5⟩, fun _ _ => rfl⟩⟩
/-- what the class asks of its rows -/
def hAsk (ok : Nat → Nat → Bool) (dd : Nat → Nat → Nat) (hq id_ : Nat → Bool) (rp far pl le lf : Nat → Int32) : Prop :=
  (∀ p, p < 6 → ∃ y, fDy_wayLeft lf (nI p) = some y ∧ (y ≤ 0 → hq p = false) ∧ (¬ y ≤ 0 → ∃ z, fDy_followersOf le (nI p) = some z ∧ (z = 0 → hq p = true) ∧ (¬ z = 0 → hq p = false))) ∧
  (∀ p r, p < 6 → r < 6 → hq p = true → id_ r = true → ∃ y1 y2, fDy_whereIs pl (nI r) = some y1 ∧ fDy_whereIs pl (nI p) = some y2 ∧ fPl_farFrom rp far y1 y2 = some (if ok p r then nI (dd p r) else -1)) ∧
  (∀ p r, ok p r = true → hq p = true ∧ id_ r = true ∧ dd p r ≤ 7)
