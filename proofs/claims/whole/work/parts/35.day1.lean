/-! ===== a day in numbers: minute, found, where (k minutes ago, of q), buns, whom (and 1), how far, way's length, way, buns lying, prints ===== -/
abbrev aD : Type := Nat × Nat × (Nat → Nat → Nat) × (Nat → Nat) × (Nat → Nat) × (Nat → Nat) × (Nat → Nat) × (Nat → Nat → Nat) × (Nat → Nat) × (Nat → Nat)
abbrev dMi (A : aD) : Nat := A.1
abbrev dFo (A : aD) : Nat := A.2.1
abbrev dW (A : aD) : Nat → Nat → Nat := A.2.2.1
abbrev dB (A : aD) : Nat → Nat := A.2.2.2.1
abbrev dA (A : aD) : Nat → Nat := A.2.2.2.2.1
abbrev dH (A : aD) : Nat → Nat := A.2.2.2.2.2.1
abbrev dM (A : aD) : Nat → Nat := A.2.2.2.2.2.2.1
abbrev dY (A : aD) : Nat → Nat → Nat := A.2.2.2.2.2.2.2.1
abbrev dL (A : aD) : Nat → Nat := A.2.2.2.2.2.2.2.2.1
abbrev dP (A : aD) : Nat → Nat := A.2.2.2.2.2.2.2.2.2
/-- the class's rows of a day -/
def xPl (P : Nat) (A : aD) (pl : Nat → Int32) : Prop := ∀ q k, q < 6 → k < 6 → pl (6 * q + k) = if q < P then nI (dW A k q) else -1
def xLe (A : aD) (le : Nat → Int32) : Prop := ∀ q, q < 6 → le q = nI (dA A q) - 1
def xDi (A : aD) (di : Nat → Int32) : Prop := ∀ q, q < 6 → di q = if dA A q = 0 then -1 else nI (dH A q)
def xWa (A : aD) (wa : Nat → Int32) : Prop := ∀ q i, q < 6 → i < dM A q → wa (8 * q + i) = nI (dY A q i)
def xN (n : Nat) (f : Nat → Nat) (r : Nat → Int32) : Prop := ∀ q, q < n → r q = nI (f q)
def dX (P : Nat) (A : aD) (f pl bu le di wa lf ly pr : Nat → Int32) : Prop :=
  f 9 = nI (dMi A) ∧ f 10 = nI (dFo A) ∧ xPl P A pl ∧ xN 6 (dB A) bu ∧ xLe A le ∧ xDi A di ∧ xWa A wa ∧ xN 6 (dM A) lf ∧ xN 8 (dL A) ly ∧ xN 8 (dP A) pr
/-- the reference's row of a day -/
def sD (P : Nat) (A : aD) (s : Nat → Int32) : Prop :=
  s 89 = nI (dMi A) ∧ s 90 = nI (dFo A) ∧ (∀ q k, q < P → k < 6 → s (91 + 6 * k + q) = nI (dW A k q)) ∧ (∀ q, q < 6 → s (127 + q) = nI (dB A q)) ∧ (∀ q, q < 6 → s (133 + q) = nI (dA A q)) ∧ (∀ q, q < 6 → dA A q ≠ 0 → s (139 + q) = nI (dH A q)) ∧ (∀ q i, q < 6 → i < dM A q → s (151 + 8 * q + i) = nI (dY A q i)) ∧ (∀ q, q < 6 → s (145 + q) = nI (dM A q)) ∧ (∀ c, c < 8 → s (199 + c) = nI (dL A c)) ∧ (∀ c, c < 8 → s (207 + c) = nI (dP A c))
def zsm (f : Nat → Nat) : Nat → Nat
  | 0 => 0
  | n + 1 => zsm f n + f n
theorem zsm_le {f : Nat → Nat} {n k : Nat} (h : k < n) : f k ≤ zsm f n := by
  induction n with
  | zero => omega
  | succ n ih =>
    rw [zsm]
    by_cases e : k = n
    · subst e; omega
    · have := ih (by omega); omega
theorem zsm_out {f : Nat → Nat} {n k v : Nat} (h : n ≤ k) : zsm (zup f k v) n = zsm f n := by
  induction n with
  | zero => rfl
  | succ n ih => rw [zsm, zsm, ih (by omega), zup_n (by omega)]
theorem zsm_up {f : Nat → Nat} {n k v : Nat} (h : k < n) : zsm (zup f k v) n + f k = zsm f n + v := by
  induction n with
  | zero => omega
  | succ n ih =>
    rw [zsm, zsm]
    by_cases e : k = n
    · subst e; rw [zsm_out (Nat.le_refl _), zup_s]; omega
    · have := ih (by omega)
      rw [zup_n (by omega)]; omega
/-- what holds of every day of a town of C corners and P persons -/
def dV (C P : Nat) (A : aD) : Prop :=
  (∀ q k, q < P → k < 6 → dW A k q < C) ∧ (∀ q, q < 6 → dA A q ≤ P ∧ (dA A q ≠ 0 → q < P ∧ 1 ≤ dH A q ∧ dH A q ≤ 5)) ∧ (∀ q, q < 6 → dM A q ≤ 8 ∧ (dM A q ≠ 0 → q < P)) ∧ (∀ q i, q < 6 → i < dM A q → dY A q i < C) ∧ zsm (dB A) 6 + zsm (dL A) 8 ≤ 54 ∧ (∀ c, c < 8 → dP A c ≤ 9999)
theorem dV_b {C P : Nat} {A : aD} (h : dV C P A) {q : Nat} (hq : q < 6) : dB A q ≤ 54 := by
  have := zsm_le (f := dB A) hq
  have := h.2.2.2.2.1
  omega
theorem dV_l {C P : Nat} {A : aD} (h : dV C P A) {c : Nat} (hc : c < 8) : dL A c ≤ 54 := by
  have := zsm_le (f := dL A) hc
  have := h.2.2.2.2.1
  omega
theorem z_3a (a : Nat) : (3 : Int32) + nI a = nI (3 + a) := nI_add 3 a
theorem z_91 (a : Nat) : (91 : Int32) + nI a = nI (91 + a) := nI_add 91 a
theorem z_127 (a : Nat) : (127 : Int32) + nI a = nI (127 + a) := nI_add 127 a
theorem z_133 (a : Nat) : (133 : Int32) + nI a = nI (133 + a) := nI_add 133 a
theorem z_139 (a : Nat) : (139 : Int32) + nI a = nI (139 + a) := nI_add 139 a
theorem z_145 (a : Nat) : (145 : Int32) + nI a = nI (145 + a) := nI_add 145 a
theorem z_151 (a : Nat) : (151 : Int32) + nI a = nI (151 + a) := nI_add 151 a
theorem z_199 (a : Nat) : (199 : Int32) + nI a = nI (199 + a) := nI_add 199 a
theorem z_207 (a : Nat) : (207 : Int32) + nI a = nI (207 + a) := nI_add 207 a
theorem z_8x (a : Nat) : (8 : Int32) * nI a = nI (8 * a) := nI_mul 8 a
theorem z_6x (a : Nat) : (6 : Int32) * nI a = nI (6 * a) := nI_mul 6 a
theorem z_x8 (a : Nat) : nI a * (8 : Int32) = nI (8 * a) := by rw [Nat.mul_comm]; exact nI_mul a 8
theorem z_x6 (a : Nat) : nI a * (6 : Int32) = nI (6 * a) := by rw [Nat.mul_comm]; exact nI_mul a 6
theorem nI_p1 {n : Nat} (h : 1 ≤ n) : nI n - 1 = nI (n - 1) := nI_sub (b := 1) h
theorem nI_m1 {n : Nat} (hn : n < 2 ^ 31) : nI n - 1 = -1 ↔ n = 0 := by
  cases n with
  | zero => exact ⟨fun _ => rfl, fun _ => rfl⟩
  | succ n =>
    rw [nI_pred]
    constructor
    · intro h
      have := nI_pos' (n := n) (by omega)
      rw [h] at this
      exact absurd this (by decide)
    · intro h; omega
theorem nI_nm1 {n : Nat} (hn : n < 2 ^ 31) : ¬ nI n = -1 := fun h => by
  have := nI_pos' (n := n) (by omega)
  rw [h] at this
  exact absurd this (by decide)
theorem nI_le0 {n : Nat} (hn : n < 2 ^ 31) : nI n ≤ 0 ↔ n = 0 := by
  rw [show (0 : Int32) = nI 0 from rfl, nI_leI hn (by decide)]; omega
theorem nI_e0 {n : Nat} (hn : n < 2 ^ 31) : nI n = 0 ↔ n = 0 := by
  rw [show (0 : Int32) = nI 0 from rfl, nI_eq hn (by decide)]
theorem nI_m1lt {n : Nat} (hn : n < 2 ^ 31) : nI n - 1 < 0 ↔ n = 0 := by
  cases n with
  | zero => exact ⟨fun _ => rfl, fun _ => by decide⟩
  | succ n =>
    rw [nI_pred]
    exact ⟨fun h => absurd h (nI_pos (by omega)), fun h => by omega⟩
/-! ## the class's small questions -/
theorem x_fol {le : Nat → Int32} {q : Nat} (hq : q < 6) : fDy_followedBy le (nI q) = some (le q) := by
  unfold fDy_followedBy
  rw [p_mayBe, p_has_y (by omega) hq, if_pos rfl, zrd_n hq (by omega)]; rfl
theorem x_way {lf : Nat → Int32} {q : Nat} (hq : q < 6) : fDy_wayLeft lf (nI q) = some (lf q) := by
  unfold fDy_wayLeft
  rw [p_mayBe, p_has_y (by omega) hq, if_pos rfl, zrd_n hq (by omega)]; rfl
theorem x_bun {bu : Nat → Int32} {q : Nat} (hq : q < 6) : fDy_bunsOf bu (nI q) = some (bu q) := by
  unfold fDy_bunsOf
  rw [p_mayBe, p_has_y (by omega) hq, if_pos rfl, zrd_n hq (by omega)]; rfl
theorem x_min {di : Nat → Int32} {q : Nat} (hq : q < 6) : fDy_minutesBehind di (nI q) = some (di q) := by
  unfold fDy_minutesBehind
  rw [p_mayBe, p_has_y (by omega) hq, if_pos rfl, zrd_n hq (by omega)]; rfl
theorem x_was {pl : Nat → Int32} {q k : Nat} (hq : q < 6) (hk : k < 6) : fDy_wasAt pl (nI q) (nI k) = some (pl (6 * q + k)) := by
  unfold fDy_wasAt
  rw [p_mayBe, p_has_y (by omega) hq, if_pos rfl, if_neg (nI_pos (by omega)), if_neg (zg6 hk), z_mul6, zrd_n (by omega) (by omega)]; rfl
theorem x_whe {pl : Nat → Int32} {q : Nat} (hq : q < 6) : fDy_whereIs pl (nI q) = some (pl (6 * q)) := by
  unfold fDy_whereIs
  rw [show (0 : Int32) = nI 0 from rfl, x_was hq (by omega)]; rfl
theorem x_bat {ly : Nat → Int32} {c : Nat} (hc : c < 8) : fDy_bunsAt ly (nI c) = some (ly c) := by
  unfold fDy_bunsAt
  rw [p_mayBeCorner, p_has_y (by omega) hc, if_pos rfl, zrd_n hc (by omega)]; rfl
theorem x_pat {pr : Nat → Int32} {c : Nat} (hc : c < 8) : fDy_printsAt pr (nI c) = some (pr c) := by
  unfold fDy_printsAt
  rw [p_mayBeCorner, p_has_y (by omega) hc, if_pos rfl, zrd_n hc (by omega)]; rfl
/-! ## who, as bits -/
theorem z_orb {a k : Nat} (hk : k < 31) : nI a ||| ((1 : Int32) <<< (nI k &&& 31)) = nI (a ||| 2 ^ k) := by rw [z_sh hk, z_or]
theorem z_or0 {a : Nat} : nI a ||| (0 : Int32) = nI a := by rw [show (0 : Int32) = nI 0 from rfl, z_or, Nat.or_zero]
theorem zset_1 {f : Nat → Bool} {n : Nat} (h : f n = true) : zset f (n + 1) = zset f n ||| 2 ^ n := by rw [zset, h]; rfl
theorem zset_0 {f : Nat → Bool} {n : Nat} (h : f n = false) : zset f (n + 1) = zset f n := by rw [zset, h]; simp
theorem x_whoWas {P : Nat} {A : aD} {pl : Nat → Int32} (h : xPl P A pl) (hP : P ≤ 6) {c k : Nat} (hc : c < 8) (hk : k < 6) (hW : ∀ q, q < P → dW A k q < 8) : fDy_whoWasAt pl (nI c) (nI k) = some (nI (zset (fun q => decide (dW A k q = c)) P)) := by
  have e : zset (fun q => decide (q < P) && decide (dW A k q = c)) 6 = zset (fun q => decide (dW A k q = c)) P := by
    rw [zset_more hP (fun q h1 h2 => by rw [decide_eq_false (by omega), Bool.false_and])]
    exact zset_ext (fun q hq => by rw [decide_eq_true hq, Bool.true_and])
  rw [← e]
  unfold fDy_whoWasAt
  refine Eq.trans (zLP_bcnt (r := nI (zset (fun q => decide (q < P) && decide (dW A k q = c)) 6)) (fun q => (nI (zset (fun q => decide (q < P) && decide (dW A k q = c)) q), nI q)) 6 rfl ?_ ?_) rfl
  · intro q hq
    show fDy_whoWasAt_L5 pl (nI c) (nI k) (nI _) (nI q) = _
    unfold fDy_whoWasAt_L5
    rw [if_neg (zg6 hq), x_was hq hk, h q k hq hk]
    simp only [Option.bind_some, zlet, nI_1]
    by_cases h1 : q < P
    · rw [if_pos h1]
      by_cases h2 : dW A k q = c
      · rw [if_pos (by rw [h2]), z_orb (by omega), zset_1 (f := fun q => decide (q < P) && decide (dW A k q = c)) (by rw [decide_eq_true h1, decide_eq_true h2]; rfl)]
      · rw [if_neg (fun h => h2 ((nI_eq (by have := hW q h1; omega) (by omega)).mp h)), zset_0 (f := fun q => decide (q < P) && decide (dW A k q = c)) (by rw [decide_eq_false h2, Bool.and_false])]
    · rw [if_neg h1, if_neg (fun h => nI_nm1 (by omega) h.symm), zset_0 (f := fun q => decide (q < P) && decide (dW A k q = c)) (by rw [decide_eq_false h1, Bool.false_and])]
  · show fDy_whoWasAt_L5 pl (nI c) (nI k) (nI _) (nI 6) = _
    unfold fDy_whoWasAt_L5
    rw [if_pos (by decide)]
theorem m_cornerWho {P : Nat} {A : aD} {s : Nat → Int32} (h : sD P A s) (hP : P ≤ 6) (hs2 : s 2 = nI P) {c : Nat} (hc : c < 8) (hW : ∀ q, q < P → dW A 0 q < 8) : zLP (fun t : Int32 × Int32 => fM_corner_L20 s (nI c) t.1 t.2) (0, 0) = some (nI (zset (fun q => decide (dW A 0 q = c)) P)) := by
  refine zLP_cnt (fun q => (nI (zset (fun q => decide (dW A 0 q = c)) q), nI q)) P rfl ?_ ?_
  · intro q hq
    show fM_corner_L20 s (nI c) (nI _) (nI q) = _
    unfold fM_corner_L20
    rw [hs2, if_neg (nI_ge hq (by omega)), z_91, zrd_n (by omega) (by omega), show s (91 + q) = nI (dW A 0 q) from h.2.2.1 q 0 hq (by omega)]
    simp only [Option.bind_some, zlet, nI_1]
    by_cases h2 : dW A 0 q = c
    · rw [if_pos (by rw [h2]), z_orb (by omega), zset_1 (f := fun q => decide (dW A 0 q = c)) (decide_eq_true h2)]
    · rw [if_neg (fun h => h2 ((nI_eq (by have := hW q hq; omega) (by omega)).mp h)), z_or0, zset_0 (f := fun q => decide (dW A 0 q = c)) (decide_eq_false h2)]
  · show fM_corner_L20 s (nI c) (nI _) (nI P) = _
    unfold fM_corner_L20
    rw [hs2, if_pos (nI_le (Nat.le_refl _) (by omega))]
/-- who follows q, as bits -/
def dFol (A : aD) (q : Nat) : Nat := zset (fun r => decide (dA A r = q + 1)) 6
theorem dFol_lt (A : aD) (q : Nat) : dFol A q < 64 := zset_lt _ 6
theorem x_folOf {A : aD} {le : Nat → Int32} (h : xLe A le) {q : Nat} (hq : q < 6) (hA : ∀ r, r < 6 → dA A r ≤ 6) : fDy_followersOf le (nI q) = some (nI (dFol A q)) := by
  unfold fDy_followersOf
  refine Eq.trans (zLP_bcnt (r := nI (dFol A q)) (fun r => (nI (zset (fun r => decide (dA A r = q + 1)) r), nI r)) 6 rfl ?_ ?_) rfl
  · intro r hr
    show fDy_followersOf_L4 le (nI q) (nI _) (nI r) = _
    unfold fDy_followersOf_L4
    rw [if_neg (zg6 hr), zrd_n hr (by omega), h r hr]
    simp only [Option.bind_some, zlet, nI_1]
    have := hA r hr
    by_cases h2 : dA A r = q + 1
    · rw [if_pos (by rw [h2, nI_pred]), z_orb (by omega), zset_1 (f := fun r => decide (dA A r = q + 1)) (decide_eq_true h2)]
    · rw [if_neg, zset_0 (f := fun r => decide (dA A r = q + 1)) (decide_eq_false h2)]
      intro h3
      rcases Nat.eq_zero_or_pos (dA A r) with h4 | h4
      · rw [h4] at h3; exact nI_nm1 (n := q) (by omega) h3.symm
      · rw [nI_p1 h4, nI_eq (by omega) (by omega)] at h3; omega
  · show fDy_followersOf_L4 le (nI q) (nI _) (nI 6) = _
    unfold fDy_followersOf_L4
    rw [if_pos (by decide)]; rfl
theorem m_whom {P : Nat} {A : aD} {s : Nat → Int32} (h : sD P A s) {q : Nat} (hq : q < 6) : fM_whomBy s (nI q) = some (nI (dA A q) - 1) := by
  unfold fM_whomBy
  rw [z_133, zrd_n (by omega) (by omega), h.2.2.2.2.1 q hq]; rfl
theorem m_folOf {C P : Nat} {A : aD} {s : Nat → Int32} (h : sD P A s) (hV : dV C P A) (hP : P ≤ 6) (hs2 : s 2 = nI P) {q : Nat} (hq : q < 6) : fM_followersOf s (nI q) = some (nI (dFol A q)) := by
  have e : zset (fun r => decide (dA A r = q + 1)) 6 = zset (fun r => decide (dA A r = q + 1)) P :=
    zset_more hP (fun r h1 h2 => decide_eq_false (fun h3 => by have := ((hV.2.1 r h2).2 (by omega)).1; omega))
  unfold fM_followersOf dFol
  rw [e]
  refine Eq.trans (zLP_bcnt (r := nI (zset (fun r => decide (dA A r = q + 1)) P)) (fun r => (nI (zset (fun r => decide (dA A r = q + 1)) r), nI r)) P rfl ?_ ?_) rfl
  · intro r hr
    show fM_followersOf_L4 s (nI q) (nI _) (nI r) = _
    unfold fM_followersOf_L4
    rw [hs2, if_neg (nI_ge hr (by omega)), m_whom h (show r < 6 by omega)]
    simp only [Option.bind_some, zlet, nI_1]
    have := (hV.2.1 r (by omega)).1
    by_cases h2 : dA A r = q + 1
    · rw [if_pos (by rw [h2, nI_pred]), z_orb (by omega), zset_1 (f := fun r => decide (dA A r = q + 1)) (decide_eq_true h2)]
    · rw [if_neg, z_or0, zset_0 (f := fun r => decide (dA A r = q + 1)) (decide_eq_false h2)]
      intro h3
      rcases Nat.eq_zero_or_pos (dA A r) with h4 | h4
      · rw [h4] at h3; exact nI_nm1 (n := q) (by omega) h3.symm
      · rw [nI_p1 h4, nI_eq (by omega) (by omega)] at h3; omega
  · show fM_followersOf_L4 s (nI q) (nI _) (nI P) = _
    unfold fM_followersOf_L4
    rw [hs2, if_pos (nI_le (Nat.le_refl _) (by omega))]
