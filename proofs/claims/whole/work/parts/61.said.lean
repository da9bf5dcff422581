/-! ===== what may be said of whom ===== -/
def aCmp (s v m : Nat) : Bool := if s = 60 then decide (v < m) else if s = 61 then decide (v = m) else decide (m < v)
def aLf (A : aD) (q : Nat) (c : aI) : Bool :=
  if c.1 = 0 then decide (dFol A q = 0) else if c.1 = 1 then decide (p_ring (dA A) q ≠ 0) else if c.1 = 2 then decide (dA A q = 0 ∧ dM A q = 0) else if c.1 = 3 then decide (dW A 0 q = c.2.2) else if c.1 = 4 then decide (dA A q = c.2.2 + 1) else if c.1 = 5 then aCmp c.2.1 (dB A q) c.2.2 else if c.1 = 6 then aCmp c.2.1 (dM A q) c.2.2 else if c.1 = 7 then aCmp c.2.1 (zpc (dFol A q)) c.2.2 else aCmp c.2.1 q c.2.2
def evN : List (Nat → Bool) → List (Nat → Bool)
  | x :: r => (fun q => !x q) :: r
  | [] => []
def evA : List (Nat → Bool) → List (Nat → Bool)
  | y :: x :: r => (fun q => x q && y q) :: r
  | l => l
def evO : List (Nat → Bool) → List (Nat → Bool)
  | y :: x :: r => (fun q => x q || y q) :: r
  | l => l
def evF (A : aD) : List aI → List (Nat → Bool)
  | [] => []
  | c :: t => if c.1 < 9 then (fun q => aLf A q c) :: evF A t else if c.1 = 20 then evN (evF A t) else if c.1 = 21 then evA (evF A t) else evO (evF A t)
theorem evF_len {A : aD} : ∀ {l : List aI}, rpn l → iAll l → (evF A l).length = dpC l
  | [], _, _ => rfl
  | c :: t, h, hi => by
    have ih := evF_len (A := A) (l := t) h.2.2 (fun x hx => hi x (List.mem_cons_of_mem _ hx))
    have hc := (hi c (List.mem_cons_self)).1
    rw [evF, dpC]
    by_cases e : c.1 < 9
    · rw [if_pos e, if_pos e, List.length_cons, ih]
    · rw [if_neg e, if_neg e]
      by_cases e2 : c.1 = 20
      · rw [if_pos e2, if_pos e2, ← ih]
        have := h.1 e2
        rw [← ih] at this
        cases hv : evF A t with
        | nil => rw [hv] at this; simp at this
        | cons x r => rfl
      · rw [if_neg e2, if_neg e2, ← ih]
        have := h.2.1 (by omega)
        rw [← ih] at this
        cases hv : evF A t with
        | nil => rw [hv] at this; simp at this
        | cons y r =>
          cases r with
          | nil => rw [hv] at this; simp at this
          | cons x r => split <;> rfl
theorem dpC_le : ∀ l : List aI, dpC l ≤ l.length
  | [] => Nat.le_refl _
  | c :: t => by
    have := dpC_le t
    rw [dpC, List.length_cons]
    split
    · omega
    · split <;> omega
def hdR (g : (Nat → Bool) → Int32) : List (Nat → Bool) → (Nat → Int32) → Prop
  | [], _ => True
  | x :: t, r => r t.length = g x ∧ hdR g t r
theorem hdR_up {g : (Nat → Bool) → Int32} : ∀ {l : List (Nat → Bool)} {r : Nat → Int32} {k : Nat} {v : Int32}, l.length ≤ k → hdR g l r → hdR g l (zup r k v)
  | [], _, _, _, _, _ => trivial
  | x :: t, r, k, v, hk, h => by
    rw [List.length_cons] at hk
    exact ⟨by rw [zup_n (by omega)]; exact h.1, hdR_up (by omega) h.2⟩
theorem zset_not {f : Nat → Bool} {P : Nat} (hP : P ≤ 6) : (2 ^ P - 1) &&& (zset f P ^^^ 4294967295) = zset (fun q => !f q) P := by
  have h1 := zset_lt f P
  have h6 : 2 ^ P ≤ 2 ^ 6 := Nat.pow_le_pow_right (by omega) hP
  have hp : 0 < 2 ^ P := Nat.pos_of_ne_zero (by simp)
  refine z_ext (n := 6) ?_ (Nat.lt_of_lt_of_le (zset_lt _ P) h6) (fun k hk => ?_)
  · exact Nat.lt_of_le_of_lt Nat.and_le_left (by omega)
  · rw [zdf_tb (by omega), Nat.testBit_two_pow_sub_one, zset_tb, zset_tb]
    by_cases e : k < P
    · rw [decide_eq_true e, Bool.true_and, Bool.true_and, Bool.true_and]
    · rw [decide_eq_false e, Bool.false_and, Bool.false_and]
theorem zset_and {f g : Nat → Bool} {P : Nat} : zset f P &&& zset g P = zset (fun q => f q && g q) P := by
  refine z_ext (n := P) (Nat.lt_of_le_of_lt Nat.and_le_left (zset_lt _ P)) (zset_lt _ P) (fun k hk => ?_)
  rw [Nat.testBit_and, zset_tb, zset_tb, zset_tb, decide_eq_true hk, Bool.true_and, Bool.true_and, Bool.true_and]
theorem zset_or {f g : Nat → Bool} {P : Nat} : zset f P ||| zset g P = zset (fun q => f q || g q) P := by
  refine z_ext (n := P) (Nat.or_lt_two_pow (zset_lt _ P) (zset_lt _ P)) (zset_lt _ P) (fun k hk => ?_)
  rw [Nat.testBit_or, zset_tb, zset_tb, zset_tb, decide_eq_true hk, Bool.true_and, Bool.true_and, Bool.true_and]
theorem x_idle {A : aD} {le lf : Nat → Int32} (h5 : xLe A le) (h8 : xN 6 (dM A) lf) (hA : ∀ r, r < 6 → dA A r ≤ 6) (hM : ∀ r, r < 6 → dM A r ≤ 8) {q : Nat} (hq : q < 6) : fDy_isIdle le lf (nI q) = some (decide (dA A q = 0 ∧ dM A q = 0)) := by
  have h1 := hA q hq
  have h2 := hM q hq
  unfold fDy_isIdle
  rw [x_fol hq, x_way hq, h5 q hq, h8 q hq]
  simp only [Option.bind_some]
  by_cases e : dA A q = 0
  · rw [if_pos ((nI_m1 (by omega)).mpr e)]
    by_cases e2 : dM A q = 0
    · rw [if_pos ((nI_e0 (by omega)).mpr e2), decide_eq_true (show dA A q = 0 ∧ dM A q = 0 from ⟨e, e2⟩)]
    · rw [if_neg (fun h => e2 ((nI_e0 (by omega)).mp h)), decide_eq_false (show ¬ (dA A q = 0 ∧ dM A q = 0) from fun h => e2 h.2)]
  · rw [if_neg (fun h => e ((nI_m1 (by omega)).mp h)), decide_eq_false (show ¬ (dA A q = 0 ∧ dM A q = 0) from fun h => e h.1)]
theorem m_idle {P : Nat} {A : aD} {s : Nat → Int32} (h : sD P A s) (hA : ∀ r, r < 6 → dA A r ≤ 6) (hM : ∀ r, r < 6 → dM A r ≤ 8) {q : Nat} (hq : q < 6) : fM_isIdle s (nI q) = some (decide (dA A q = 0 ∧ dM A q = 0)) := by
  have h1 := hA q hq
  have h2 := hM q hq
  unfold fM_isIdle
  rw [z_133, z_145, zrd_n (by omega) (by omega), zrd_n (by omega) (by omega), h.2.2.2.2.1 q hq, h.2.2.2.2.2.2.2.1 q hq]
  simp only [Option.bind_some]
  by_cases e : dA A q = 0
  · rw [if_pos ((nI_e0 (by omega)).mpr e)]
    by_cases e2 : dM A q = 0
    · rw [if_pos ((nI_e0 (by omega)).mpr e2), decide_eq_true (show dA A q = 0 ∧ dM A q = 0 from ⟨e, e2⟩)]
    · rw [if_neg (fun h => e2 ((nI_e0 (by omega)).mp h)), decide_eq_false (show ¬ (dA A q = 0 ∧ dM A q = 0) from fun h => e2 h.2)]
  · rw [if_neg (fun h => e ((nI_e0 (by omega)).mp h)), decide_eq_false (show ¬ (dA A q = 0 ∧ dM A q = 0) from fun h => e h.1)]
theorem x_cmp {ot nu : Nat → Int32} {i v s m : Nat} (hi : i < 40) (ho : ot i = nI s) (hu : nu i = nI m) (hs : s = 60 ∨ s = 61 ∨ s = 62) (hv : v < 2 ^ 31) (hm : m < 2 ^ 31) : fSn_compares ot nu (nI v) (nI i) = some (aCmp s v m) := by
  unfold fSn_compares aCmp
  rw [zrd_n hi (by omega), zrd_n hi (by omega), ho, hu]
  simp only [Option.bind_some]
  rcases hs with rfl | rfl | rfl
  · rw [if_pos (show nI 60 = 60 from rfl), if_pos (show (60 : Nat) = 60 from rfl)]
    by_cases e : v < m
    · rw [if_neg (nI_ge e hm), decide_eq_true e]
    · rw [if_pos (nI_le (by omega) hv), decide_eq_false e]
  · rw [if_neg (show ¬ nI 61 = 60 by decide), if_pos (show nI 61 = 61 from rfl), if_neg (show ¬ (61 : Nat) = 60 by decide), if_pos (show (61 : Nat) = 61 from rfl)]
    by_cases e : v = m
    · rw [if_pos (by rw [e]), decide_eq_true e]
    · rw [if_neg (fun h => e ((nI_eq hv hm).mp h)), decide_eq_false e]
  · rw [if_neg (show ¬ nI 62 = 60 by decide), if_neg (show ¬ nI 62 = 61 by decide), if_neg (show ¬ (62 : Nat) = 60 by decide), if_neg (show ¬ (62 : Nat) = 61 by decide)]
    by_cases e : m < v
    · rw [if_neg (nI_ge e hv), decide_eq_true e]
    · rw [if_pos (nI_le (by omega) hm), decide_eq_false e]
theorem m_cmp {v s m : Nat} (hs : s = 60 ∨ s = 61 ∨ s = 62) (hv : v < 2 ^ 31) (hm : m < 2 ^ 31) : (if nI s = 60 then (if nI m ≤ nI v then false else true) else (if nI s = 61 then (if nI v = nI m then true else false) else (if nI v ≤ nI m then false else true))) = aCmp s v m := by
  unfold aCmp
  rcases hs with rfl | rfl | rfl
  · rw [if_pos (show nI 60 = 60 from rfl), if_pos (show (60 : Nat) = 60 from rfl)]
    by_cases e : v < m
    · rw [if_neg (nI_ge e hm), decide_eq_true e]
    · rw [if_pos (nI_le (by omega) hv), decide_eq_false e]
  · rw [if_neg (show ¬ nI 61 = 60 by decide), if_pos (show nI 61 = 61 from rfl), if_neg (show ¬ (61 : Nat) = 60 by decide), if_pos (show (61 : Nat) = 61 from rfl)]
    by_cases e : v = m
    · rw [if_pos (by rw [e]), decide_eq_true e]
    · rw [if_neg (fun h => e ((nI_eq hv hm).mp h)), decide_eq_false e]
  · rw [if_neg (show ¬ nI 62 = 60 by decide), if_neg (show ¬ nI 62 = 61 by decide), if_neg (show ¬ (62 : Nat) = 60 by decide), if_neg (show ¬ (62 : Nat) = 61 by decide)]
    by_cases e : m < v
    · rw [if_neg (nI_ge e hv), decide_eq_true e]
    · rw [if_pos (nI_le (by omega) hm), decide_eq_false e]
theorem x_fit {C P : Nat} {A : aD} {f pl bu le di wa lf ly pr pa ot nu : Nat → Int32} (hC : C ≤ 8) (hP : P ≤ 6) (hV : dV C P A) (h : dX P A f pl bu le di wa lf ly pr) {c : aI} {i q : Nat} (hi : i < 40) (hc : cX c (pa i) (ot i) (nu i)) (hk : iOK c) (hc9 : c.1 < 9) (hq : q < P) : fSn_fitsPlain pa ot nu pl bu le lf (nI i) (nI q) = some (aLf A q c) := by
  obtain ⟨x1, x2, x3, x4, x5, x6, x7, x8, x9, x10⟩ := h
  have hA : ∀ r, r < 6 → dA A r ≤ 6 := fun r hr => by have := (hV.2.1 r hr).1; omega
  have hM := dV_M hV
  have hq6 : q < 6 := by omega
  have hw := hV.1 q 0 hq (by omega)
  have hb := dV_b hV hq6
  have hm := hM q hq6
  have ha := hA q hq6
  obtain ⟨o, s, m⟩ := c
  obtain ⟨k1, k2, k3, k4⟩ := hk
  obtain ⟨c1, c2, c3⟩ := hc
  dsimp only at k1 k2 k3 k4 c1 c2 c3 hc9
  have hop : pa i = nI (13 + o) := by rw [c1]; unfold cOp; rw [if_pos hc9]
  unfold fSn_fitsPlain aLf
  rw [zrd_n (f := pa) hi (by omega), hop]
  simp only [Option.bind_some]
  match o, hc9, c2, c3, k4 with
  | 0, _, _, _, _ =>
    rw [if_pos (show nI (13 + 0) = 13 from rfl), if_pos rfl, x_folOf x5 hq6 hA]
    simp only [Option.bind_some]
    have := dFol_lt A q
    by_cases e : dFol A q = 0
    · rw [if_pos ((nI_e0 (by omega)).mpr e), decide_eq_true e]
    · rw [if_neg (fun h => e ((nI_e0 (by omega)).mp h)), decide_eq_false e]
  | 1, _, _, _, _ =>
    rw [if_neg (by decide), if_pos (show nI (13 + 1) = 14 from rfl), if_neg (by decide), if_pos rfl, x_ring x5 hA hq6]
    simp only [Option.bind_some]
    have := p_ring_lt hA hq6
    by_cases e : p_ring (dA A) q = 0
    · rw [if_pos ((nI_e0 (by omega)).mpr e), decide_eq_false (fun h => h e)]
    · rw [if_neg (fun h => e ((nI_e0 (by omega)).mp h)), decide_eq_true e]
  | 2, _, _, _, _ =>
    rw [if_neg (by decide), if_neg (by decide), if_pos (show nI (13 + 2) = 15 from rfl), if_neg (by decide), if_neg (by decide), if_pos rfl, x_idle x5 x8 hA hM hq6]
    rfl
  | 3, _, c2, _, _ =>
    rw [if_neg (by decide), if_neg (by decide), if_neg (by decide), if_pos (show nI (13 + 3) = 16 from rfl), if_neg (by decide), if_neg (by decide), if_neg (by decide), if_pos rfl, x_place x3 hP hq]
    simp only [Option.bind_some]
    rw [zrd_n (f := ot) hi (by omega), c2 (Or.inl rfl)]
    simp only [Option.bind_some]
    by_cases e : dW A 0 q = m
    · rw [if_pos (by rw [e]), decide_eq_true e]
    · rw [if_neg (fun h => e ((nI_eq (by omega) (by omega)).mp h)), decide_eq_false e]
  | 4, _, c2, _, _ =>
    rw [if_neg (by decide), if_neg (by decide), if_neg (by decide), if_neg (by decide), if_pos (show nI (13 + 4) = 17 from rfl), if_neg (by decide), if_neg (by decide), if_neg (by decide), if_neg (by decide), if_pos rfl, x_fol hq6, x5 q hq6]
    simp only [Option.bind_some]
    rw [zrd_n (f := ot) hi (by omega), c2 (Or.inr rfl)]
    simp only [Option.bind_some]
    by_cases e : dA A q = m + 1
    · rw [if_pos (by rw [e, nI_pred]), decide_eq_true e]
    · rw [decide_eq_false e, if_neg]
      intro h3
      rcases Nat.eq_zero_or_pos (dA A q) with h4 | h4
      · rw [h4] at h3; exact nI_nm1 (n := m) (by omega) h3.symm
      · rw [nI_p1 h4, nI_eq (by omega) (by omega)] at h3; omega
  | 5, _, _, c3, k4 =>
    obtain ⟨d1, d2⟩ := c3 ⟨by omega, by omega⟩
    rw [if_neg (by decide), if_neg (by decide), if_neg (by decide), if_neg (by decide), if_neg (by decide), if_pos (show nI (13 + 5) = 18 from rfl), if_neg (by decide), if_neg (by decide), if_neg (by decide), if_neg (by decide), if_neg (by decide), if_pos rfl, x_bun hq6, x4 q hq6]
    simp only [Option.bind_some]
    rw [x_cmp hi d1 d2 (k4 ⟨by omega, by omega⟩) (by omega) (by omega)]; rfl
  | 6, _, _, c3, k4 =>
    obtain ⟨d1, d2⟩ := c3 ⟨by omega, by omega⟩
    rw [if_neg (by decide), if_neg (by decide), if_neg (by decide), if_neg (by decide), if_neg (by decide), if_neg (by decide), if_pos (show nI (13 + 6) = 19 from rfl), if_neg (by decide), if_neg (by decide), if_neg (by decide), if_neg (by decide), if_neg (by decide), if_neg (by decide), if_pos rfl, x_way hq6, x8 q hq6]
    simp only [Option.bind_some]
    rw [x_cmp hi d1 d2 (k4 ⟨by omega, by omega⟩) (by omega) (by omega)]; rfl
  | 7, _, _, c3, k4 =>
    obtain ⟨d1, d2⟩ := c3 ⟨by omega, by omega⟩
    have := dFol_lt A q
    have hz := zpc_le (dFol A q)
    rw [if_neg (by decide), if_neg (by decide), if_neg (by decide), if_neg (by decide), if_neg (by decide), if_neg (by decide), if_neg (by decide), if_pos (show nI (13 + 7) = 20 from rfl), if_neg (by decide), if_neg (by decide), if_neg (by decide), if_neg (by decide), if_neg (by decide), if_neg (by decide), if_neg (by decide), if_pos rfl, x_folOf x5 hq6 hA]
    simp only [Option.bind_some]
    rw [z_bc (by omega), x_cmp hi d1 d2 (k4 ⟨by omega, by omega⟩) (by omega) (by omega)]; rfl
  | 8, _, _, c3, k4 =>
    obtain ⟨d1, d2⟩ := c3 ⟨by omega, by omega⟩
    rw [if_neg (by decide), if_neg (by decide), if_neg (by decide), if_neg (by decide), if_neg (by decide), if_neg (by decide), if_neg (by decide), if_neg (by decide), if_neg (by decide), if_neg (by decide), if_neg (by decide), if_neg (by decide), if_neg (by decide), if_neg (by decide), if_neg (by decide), if_neg (by decide)]
    rw [x_cmp hi d1 d2 (k4 ⟨by omega, by omega⟩) (by omega) (by omega)]; rfl
theorem m_fit {C P : Nat} {A : aD} {s : Nat → Int32} (hC : C ≤ 8) (hP : P ≤ 6) (hs2 : s 2 = nI P) (hV : dV C P A) (h : sD P A s) {c : aI} {q : Nat} (hk : iOK c) (hc9 : c.1 < 9) (hq : q < P) : fM_isLeaf s (nI q) (nI c.1) (nI c.2.1) (nI c.2.2) = some (aLf A q c) := by
  have hA : ∀ r, r < 6 → dA A r ≤ 6 := fun r hr => by have := (hV.2.1 r hr).1; omega
  have hM := dV_M hV
  have hq6 : q < 6 := by omega
  have hw := hV.1 q 0 hq (by omega)
  have hb := dV_b hV hq6
  have hm := hM q hq6
  have ha := hA q hq6
  obtain ⟨o, sg, m⟩ := c
  obtain ⟨k1, k2, k3, k4⟩ := hk
  dsimp only at k1 k2 k3 k4 hc9 ⊢
  unfold fM_isLeaf aLf
  simp only [zlet]
  match o, hc9, k4 with
  | 0, _, _ =>
    rw [if_pos (show nI 0 = 0 from rfl), if_pos rfl, m_folOf h hV hP hs2 hq6]
    simp only [Option.bind_some]
    have := dFol_lt A q
    by_cases e : dFol A q = 0
    · rw [if_pos ((nI_e0 (by omega)).mpr e), decide_eq_true e]
    · rw [if_neg (fun h => e ((nI_e0 (by omega)).mp h)), decide_eq_false e]
  | 1, _, _ =>
    rw [if_neg (by decide), if_pos (show nI 1 = 1 from rfl), if_neg (by decide), if_pos rfl, m_ring h hA hq6]
    simp only [Option.bind_some]
    have := p_ring_lt hA hq6
    by_cases e : p_ring (dA A) q = 0
    · rw [if_pos ((nI_le0 (by omega)).mpr e), decide_eq_false (fun h => h e)]
    · rw [if_neg (fun h => e ((nI_le0 (by omega)).mp h)), decide_eq_true e]
  | 2, _, _ =>
    rw [if_neg (by decide), if_neg (by decide), if_pos (show nI 2 = 2 from rfl), if_neg (by decide), if_neg (by decide), if_pos rfl, m_idle h hA hM hq6]
    rfl
  | 3, _, _ =>
    rw [if_neg (by decide), if_neg (by decide), if_neg (by decide), if_pos (show nI 3 = 3 from rfl), if_neg (by decide), if_neg (by decide), if_neg (by decide), if_pos rfl, m_wasQ h hP hq]
    simp only [Option.bind_some]
    by_cases e : dW A 0 q = m
    · rw [if_pos (by rw [e]), decide_eq_true e]
    · rw [if_neg (fun h => e ((nI_eq (by omega) (by omega)).mp h)), decide_eq_false e]
  | 4, _, _ =>
    rw [if_neg (by decide), if_neg (by decide), if_neg (by decide), if_neg (by decide), if_pos (show nI 4 = 4 from rfl), if_neg (by decide), if_neg (by decide), if_neg (by decide), if_neg (by decide), if_pos rfl, m_whom h hq6]
    simp only [Option.bind_some]
    by_cases e : dA A q = m + 1
    · rw [if_pos (by rw [e, nI_pred]), decide_eq_true e]
    · rw [decide_eq_false e, if_neg]
      intro h3
      rcases Nat.eq_zero_or_pos (dA A q) with h4 | h4
      · rw [h4] at h3; exact nI_nm1 (n := m) (by omega) h3.symm
      · rw [nI_p1 h4, nI_eq (by omega) (by omega)] at h3; omega
  | 5, _, k4 =>
    rw [if_neg (by decide), if_neg (by decide), if_neg (by decide), if_neg (by decide), if_neg (by decide), if_pos (show nI 5 = 5 from rfl), if_neg (by decide), if_neg (by decide), if_neg (by decide), if_neg (by decide), if_neg (by decide), if_pos rfl, z_127, zrd_n (by omega) (by omega), h.2.2.2.1 q hq6]
    simp only [Option.bind_some]
    rw [m_cmp (k4 ⟨by omega, by omega⟩) (by omega) (by omega)]
  | 6, _, k4 =>
    rw [if_neg (by decide), if_neg (by decide), if_neg (by decide), if_neg (by decide), if_neg (by decide), if_neg (by decide), if_pos (show nI 6 = 6 from rfl), if_neg (by decide), if_neg (by decide), if_neg (by decide), if_neg (by decide), if_neg (by decide), if_neg (by decide), if_pos rfl, z_145, zrd_n (by omega) (by omega), h.2.2.2.2.2.2.2.1 q hq6]
    simp only [Option.bind_some]
    rw [m_cmp (k4 ⟨by omega, by omega⟩) (by omega) (by omega)]
  | 7, _, k4 =>
    have := dFol_lt A q
    have hz := zpc_le (dFol A q)
    rw [if_neg (by decide), if_neg (by decide), if_neg (by decide), if_neg (by decide), if_neg (by decide), if_neg (by decide), if_neg (by decide), if_pos (show nI 7 = 7 from rfl), if_neg (by decide), if_neg (by decide), if_neg (by decide), if_neg (by decide), if_neg (by decide), if_neg (by decide), if_neg (by decide), if_pos rfl, m_folOf h hV hP hs2 hq6]
    simp only [Option.bind_some]
    rw [z_bits (by omega)]
    simp only [Option.bind_some]
    rw [m_cmp (k4 ⟨by omega, by omega⟩) (by omega) (by omega)]
  | 8, _, k4 =>
    rw [if_neg (by decide), if_neg (by decide), if_neg (by decide), if_neg (by decide), if_neg (by decide), if_neg (by decide), if_neg (by decide), if_neg (by decide), m_cmp (v := q) (m := m) (k4 ⟨by omega, by omega⟩) (by omega) (by omega)]
    rfl
theorem x_fits {C P : Nat} {A : aD} {rp f pl bu le di wa lf ly pr pa ot nu : Nat → Int32} (hC : C ≤ 8) (hP : P ≤ 6) (hr : rp 6 = nI P) (hV : dV C P A) (h : dX P A f pl bu le di wa lf ly pr) {c : aI} {i : Nat} (hi : i < 40) (hc : cX c (pa i) (ot i) (nu i)) (hk : iOK c) (hc9 : c.1 < 9) : fSn_whoFitsPlain pa ot nu rp pl bu le lf (nI i) = some (nI (zset (fun q => aLf A q c) P)) := by
  unfold fSn_whoFitsPlain
  refine Eq.trans (zLP_bcnt (r := nI (zset (fun q => aLf A q c) P)) (fun q => (nI (zset (fun q => aLf A q c) q), nI q)) P rfl ?_ ?_) rfl
  · intro q hq
    show fSn_whoFitsPlain_L6 pa ot nu rp pl bu le lf (nI i) (nI _) (nI q) = _
    unfold fSn_whoFitsPlain_L6 fPl_persons
    rw [hr, if_neg (nI_ge hq (by omega)), x_fit hC hP hV h hi hc hk hc9 hq]
    simp only [Option.bind_some, zlet, nI_1]
    cases e : aLf A q c with
    | true => rw [if_pos rfl, z_orb (by omega), zset_1 (f := fun q => aLf A q c) e]
    | false => rw [if_neg (by decide), zset_0 (f := fun q => aLf A q c) e]
  · show fSn_whoFitsPlain_L6 pa ot nu rp pl bu le lf (nI i) (nI _) (nI P) = _
    unfold fSn_whoFitsPlain_L6 fPl_persons
    rw [hr, if_pos (nI_le (Nat.le_refl _) (by omega))]
