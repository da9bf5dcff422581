/-! a stretch of cells as one: the kept days, the images -/
def zub (M : zM) (lo hi : Nat) (g : zM) : zM := (fun p => if (Nat.ble lo p && Nat.blt p hi) = true then g.1 p else M.1 p, fun p => if (Nat.ble lo p && Nat.blt p hi) = true then g.2 p else M.2 p)
def zeq (M : zM) (lo hi : Nat) (g : zM) : Prop := ∀ p, (Nat.ble lo p && Nat.blt p hi) = true → M.1 p = g.1 p ∧ M.2 p = g.2 p
section ZB
variable {M N g g1 g2 : zM} {lo hi lo' hi' i j : Nat} {f : Nat → Int32} {w : Nat → Int64}
theorem zr_b (h : (Nat.ble lo j && Nat.blt j hi) = false) (e : M.1 j = f) : (zub M lo hi g).1 j = f := by
  show (if (Nat.ble lo j && Nat.blt j hi) = true then g.1 j else M.1 j) = f
  rw [h]; exact e
theorem zq_b (h : (Nat.ble lo j && Nat.blt j hi) = false) (e : M.2 j = w) : (zub M lo hi g).2 j = w := by
  show (if (Nat.ble lo j && Nat.blt j hi) = true then g.2 j else M.2 j) = w
  rw [h]; exact e
theorem zr_in (h : (Nat.ble lo j && Nat.blt j hi) = true) (e : g.1 j = f) : (zub M lo hi g).1 j = f := by
  show (if (Nat.ble lo j && Nat.blt j hi) = true then g.1 j else M.1 j) = f
  rw [h]; exact e
theorem zr_inl (h : (Nat.ble lo j && Nat.blt j hi) = true) (e : g.2 j = w) : (zub M lo hi g).2 j = w := by
  show (if (Nat.ble lo j && Nat.blt j hi) = true then g.2 j else M.2 j) = w
  rw [h]; exact e
theorem zeq_s : zeq (zub M lo hi g) lo hi g := fun p h => ⟨zr_in h rfl, zr_inl h rfl⟩
theorem zeq_i (h : (Nat.ble lo i && Nat.blt i hi) = false) (e : zeq M lo hi g) : zeq (zui M i f) lo hi g := fun p hp => ⟨(zui_n (fun q => by rw [q, h] at hp; cases hp)).trans (e p hp).1, (e p hp).2⟩
theorem zeq_l (h : (Nat.ble lo i && Nat.blt i hi) = false) (e : zeq M lo hi g) : zeq (zul M i w) lo hi g := fun p hp => ⟨(e p hp).1, (zul_n (fun q => by rw [q, h] at hp; cases hp)).trans (e p hp).2⟩
theorem zdisj (h : (Nat.ble hi lo' || Nat.ble hi' lo) = true) {p : Nat} (hp : (Nat.ble lo p && Nat.blt p hi) = true) : (Nat.ble lo' p && Nat.blt p hi') = false := by
  simp only [Bool.or_eq_true, Bool.and_eq_true, Nat.ble_eq, Nat.blt_eq] at h hp
  cases hb : (Nat.ble lo' p && Nat.blt p hi') with
  | false => rfl
  | true =>
    simp only [Bool.and_eq_true, Nat.ble_eq, Nat.blt_eq] at hb
    omega
theorem zeq_b (h : (Nat.ble hi lo' || Nat.ble hi' lo) = true) (e : zeq M lo hi g) : zeq (zub M lo' hi' g1) lo hi g := fun p hp => ⟨zr_b (zdisj h hp) (e p hp).1, zq_b (zdisj h hp) (e p hp).2⟩
theorem zm_b (h : (Nat.ble lo i && Nat.blt i hi) = false) (e : zui M i f = N) : zui (zub M lo hi g) i f = zub N lo hi g := by
  subst e
  refine Prod.ext (funext fun k => ?_) rfl
  show (if k = i then f else if (Nat.ble lo k && Nat.blt k hi) = true then g.1 k else M.1 k) = if (Nat.ble lo k && Nat.blt k hi) = true then g.1 k else if k = i then f else M.1 k
  by_cases hk : k = i
  · subst hk; rw [h]; simp
  · simp [hk]
theorem zn_b (h : (Nat.ble lo i && Nat.blt i hi) = false) (e : zul M i w = N) : zul (zub M lo hi g) i w = zub N lo hi g := by
  subst e
  refine Prod.ext rfl (funext fun k => ?_)
  show (if k = i then w else if (Nat.ble lo k && Nat.blt k hi) = true then g.2 k else M.2 k) = if (Nat.ble lo k && Nat.blt k hi) = true then g.2 k else if k = i then w else M.2 k
  by_cases hk : k = i
  · subst hk; rw [h]; simp
  · simp [hk]
theorem zm_in (h : (Nat.ble lo i && Nat.blt i hi) = true) (e : zui g i f = g1) : zui (zub M lo hi g) i f = zub M lo hi g1 := by
  subst e
  refine Prod.ext (funext fun k => ?_) rfl
  show (if k = i then f else if (Nat.ble lo k && Nat.blt k hi) = true then g.1 k else M.1 k) = if (Nat.ble lo k && Nat.blt k hi) = true then (if k = i then f else g.1 k) else M.1 k
  by_cases hk : k = i
  · subst hk; rw [h]; simp
  · simp [hk]
theorem zm_inl (h : (Nat.ble lo i && Nat.blt i hi) = true) (e : zul g i w = g1) : zul (zub M lo hi g) i w = zub M lo hi g1 := by
  subst e
  refine Prod.ext rfl (funext fun k => ?_)
  show (if k = i then w else if (Nat.ble lo k && Nat.blt k hi) = true then g.2 k else M.2 k) = if (Nat.ble lo k && Nat.blt k hi) = true then (if k = i then w else g.2 k) else M.2 k
  by_cases hk : k = i
  · subst hk; rw [h]; simp
  · simp [hk]
theorem zk_s : zub (zub M lo hi g) lo hi g1 = zub M lo hi g1 := by
  refine Prod.ext (funext fun k => ?_) (funext fun k => ?_)
  · show (if (Nat.ble lo k && Nat.blt k hi) = true then g1.1 k else if (Nat.ble lo k && Nat.blt k hi) = true then g.1 k else M.1 k) = if (Nat.ble lo k && Nat.blt k hi) = true then g1.1 k else M.1 k
    split <;> rfl
  · show (if (Nat.ble lo k && Nat.blt k hi) = true then g1.2 k else if (Nat.ble lo k && Nat.blt k hi) = true then g.2 k else M.2 k) = if (Nat.ble lo k && Nat.blt k hi) = true then g1.2 k else M.2 k
    split <;> rfl
theorem zk_b (h : (Nat.ble hi lo' || Nat.ble hi' lo) = true) (e : zub M lo hi g = N) : zub (zub M lo' hi' g1) lo hi g = zub N lo' hi' g1 := by
  subst e
  refine Prod.ext (funext fun k => ?_) (funext fun k => ?_)
  · show (if (Nat.ble lo k && Nat.blt k hi) = true then g.1 k else if (Nat.ble lo' k && Nat.blt k hi') = true then g1.1 k else M.1 k) = if (Nat.ble lo' k && Nat.blt k hi') = true then g1.1 k else if (Nat.ble lo k && Nat.blt k hi) = true then g.1 k else M.1 k
    by_cases hk : (Nat.ble lo k && Nat.blt k hi) = true
    · rw [zdisj h hk, hk]; simp
    · simp [hk]
  · show (if (Nat.ble lo k && Nat.blt k hi) = true then g.2 k else if (Nat.ble lo' k && Nat.blt k hi') = true then g1.2 k else M.2 k) = if (Nat.ble lo' k && Nat.blt k hi') = true then g1.2 k else if (Nat.ble lo k && Nat.blt k hi) = true then g.2 k else M.2 k
    by_cases hk : (Nat.ble lo k && Nat.blt k hi) = true
    · rw [zdisj h hk, hk]; simp
    · simp [hk]
theorem zself_h (e : zeq M lo hi g) (h : zub M lo hi g = N) : N = M := by
  subst h
  refine Prod.ext (funext fun k => ?_) (funext fun k => ?_)
  · show (if (Nat.ble lo k && Nat.blt k hi) = true then g.1 k else M.1 k) = M.1 k
    split
    · next hk => exact (e k hk).1.symm
    · rfl
  · show (if (Nat.ble lo k && Nat.blt k hi) = true then g.2 k else M.2 k) = M.2 k
    split
    · next hk => exact (e k hk).2.symm
    · rfl
theorem zch_h {X M1 : zM} (e1 : X = M1) (e2 : zub M1 lo hi g = N) : zub X lo hi g = N := e1 ▸ e2
end ZB
