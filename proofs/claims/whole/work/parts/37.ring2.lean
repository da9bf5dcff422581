/-! ===== the last of a row; all rings ===== -/
theorem p_last {C P : Nat} {A : aD} {s le : Nat → Int32} (hx : xLe A le) (h : sD P A s) (hV : dV C P A) (hP : P ≤ 6) {p : Nat} (hp : p < 6) : ∃ v, fDy_lastOfRow le (nI p) = some v ∧ fM_lastOf s (nI p) = some v := by
  unfold fDy_lastOfRow fM_lastOf
  rw [z_sh (by omega)]
  simp only [zlet]
  have H : ∃ r u, zLP (fun t : Int32 × Int32 × Int32 => fDy_lastOfRow_L9 le t.1 t.2.1 t.2.2) (nI (2 ^ p), nI p, 0) = some r ∧ zLP (fun t : Int32 × Int32 => fM_lastOf_L6 s t.1 t.2) (nI (2 ^ p), nI p) = some u ∧ r = u := by
    refine zLP_pair (fun k x y => ∃ n q, x = (nI n, nI q, nI k) ∧ y = (nI n, nI q) ∧ n < 64 ∧ zpc n = k + 1 ∧ q < 6) _ 6 ⟨2 ^ p, p, rfl, rfl, (z_pc1 hp).2, (z_pc1 hp).1, hp⟩ ?_ ?_
    · rintro k x y hk ⟨n, q, rfl, rfl, n1, n2, hq⟩
      have hal := (hV.2.1 q hq).1
      show (∃ s' t', fDy_lastOfRow_L9 le (nI n) (nI q) (nI k) = _ ∧ fM_lastOf_L6 s (nI n) (nI q) = _ ∧ _) ∨ (∃ r u, fDy_lastOfRow_L9 le (nI n) (nI q) (nI k) = _ ∧ fM_lastOf_L6 s (nI n) (nI q) = _ ∧ _)
      unfold fDy_lastOfRow_L9 fM_lastOf_L6
      rw [if_neg (zg6 hk), x_fol hq, m_whom h hq, hx q hq]
      simp only [zlet, Option.bind_some, nI_1]
      by_cases h7 : dA A q = 0
      · rw [if_pos ((nI_m1lt (by omega)).mpr h7), if_pos ((nI_m1 (by omega)).mpr h7)]
        exact Or.inr ⟨_, _, rfl, rfl, rfl⟩
      · rw [if_neg (fun h => h7 ((nI_m1lt (by omega)).mp h)), if_neg (fun h => h7 ((nI_m1 (by omega)).mp h)), nI_p1 (by omega), z_bo (by omega) (by omega), z_hb (by omega) (by omega)]
        cases eb : n.testBit (dA A q - 1) with
        | true => exact Or.inr ⟨_, _, rfl, rfl, rfl⟩
        | false =>
          obtain ⟨a1, a2⟩ := (z_pcA n n1).2 _ (show dA A q - 1 < 6 by omega) eb
          rw [if_neg (by decide), if_neg (by decide), z_orb (by omega)]
          exact Or.inl ⟨_, _, rfl, rfl, _, _, rfl, rfl, a2, by rw [a1, n2], by omega⟩
    · rintro x y ⟨n, q, rfl, rfl, n1, n2, hq⟩
      have := (z_pcA n n1).1
      omega
  obtain ⟨r, u, h1, h2, rfl⟩ := H
  rw [h1, h2]
  exact ⟨r, rfl, rfl⟩
/-- the least number in a set of persons -/
def zli (a : Nat) : Nat := if a.testBit 0 then 0 else if a.testBit 1 then 1 else if a.testBit 2 then 2 else if a.testBit 3 then 3 else if a.testBit 4 then 4 else 5
theorem z_loA : ∀ a, a < 64 → fJI_lowestOneBit (nI a) = nI (if a = 0 then 0 else 2 ^ zli a) ∧ (a ≠ 0 → a.testBit (zli a) = true) := by decide +kernel
theorem z_shshA : ∀ a, a < 64 → ∀ q, q < 6 → decide (((nI a >>> (nI q &&& 31)) <<< (nI q &&& 31)) = nI a) = (decide (a = 0) || decide (q ≤ zli a)) := by decide +kernel
theorem zli_le {a q : Nat} (ha : a < 64) (hq : q < 6) (h : a.testBit q = true) : zli a ≤ q := (by decide +kernel : ∀ a, a < 64 → ∀ q, q < 6 → a.testBit q = true → zli a ≤ q) a ha q hq h
theorem zli_lt (a : Nat) : zli a < 6 := by
  unfold zli; repeat' split
  all_goals omega
def zor (g : Nat → Nat) : Nat → Nat
  | 0 => 0
  | n + 1 => zor g n ||| g n
theorem zor_tb {g : Nat → Nat} {n d : Nat} : (zor g n).testBit d = true ↔ ∃ p, p < n ∧ (g p).testBit d = true := by
  induction n with
  | zero =>
    rw [zor, Nat.zero_testBit]
    exact ⟨fun h => (by cases h), fun ⟨p, h, _⟩ => by omega⟩
  | succ n ih =>
    rw [zor, Nat.testBit_or, Bool.or_eq_true, ih]
    constructor
    · rintro (⟨p, h1, h2⟩ | h)
      · exact ⟨p, by omega, h2⟩
      · exact ⟨n, by omega, h⟩
    · rintro ⟨p, h1, h2⟩
      rcases Nat.lt_or_ge p n with h | h
      · exact Or.inl ⟨p, h, h2⟩
      · right; rw [show n = p by omega]; exact h2
theorem zor_lt {g : Nat → Nat} {n m : Nat} (h : ∀ p, p < n → g p < 2 ^ m) : zor g n < 2 ^ m := by
  induction n with
  | zero => rw [zor]; exact Nat.two_pow_pos m
  | succ n ih => rw [zor]; exact Nat.or_lt_two_pow (ih (fun p hp => h p (by omega))) (h n (by omega))
theorem zor_more {g : Nat → Nat} {n m : Nat} (hm : n ≤ m) (h : ∀ k, n ≤ k → k < m → g k = 0) : zor g m = zor g n := by
  induction m with
  | zero => rw [show n = 0 by omega]
  | succ m ih =>
    rcases Nat.lt_or_ge n (m + 1) with h1 | h1
    · rw [zor, ih (by omega) (fun k h2 h3 => h k h2 (by omega)), h m (by omega) (by omega), Nat.or_zero]
    · rw [show n = m + 1 by omega]
def p_fst (a : Nat → Nat) (q : Nat) : Bool := decide (p_ring a q ≠ 0) && decide (q ≤ zli (p_ring a q))
theorem p_firsts {a : Nat → Nat} (ha : ∀ q, q < 6 → a q ≤ 6) : zor (fun p => if p_ring a p = 0 then 0 else 2 ^ zli (p_ring a p)) 6 = zset (p_fst a) 6 := by
  refine z_ext (n := 6) (zor_lt (fun p hp => ?_)) (zset_lt _ _) (fun d hd => ?_)
  · split
    · decide
    · exact Nat.pow_lt_pow_right (by omega) (zli_lt _)
  · have key : (zor (fun p => if p_ring a p = 0 then 0 else 2 ^ zli (p_ring a p)) 6).testBit d = true ↔ p_fst a d = true := by
      rw [zor_tb]
      unfold p_fst
      rw [Bool.and_eq_true, decide_eq_true_eq, decide_eq_true_eq]
      constructor
      · rintro ⟨p, hp, h⟩
        by_cases h0 : p_ring a p = 0
        · rw [if_pos h0, Nat.zero_testBit] at h; cases h
        · rw [if_neg h0, Nat.testBit_two_pow, decide_eq_true_eq] at h
          have hlt := p_ring_lt ha hp
          have hin := (z_loA _ hlt).2 h0
          rw [h] at hin
          have hsame : p_ring a d = p_ring a p := z_ext (n := 6) (p_ring_lt ha hd) hlt (fun e _ => p_ring_same hin e)
          rw [hsame]
          exact ⟨h0, by omega⟩
      · rintro ⟨h1, h2⟩
        refine ⟨d, hd, ?_⟩
        have := zli_le (p_ring_lt ha hd) hd (p_ring_self h1)
        rw [if_neg h1, Nat.testBit_two_pow, decide_eq_true_eq]; omega
    rw [zset_tb, decide_eq_true hd, Bool.true_and]
    cases e : p_fst a d with
    | true => exact key.mpr e
    | false => exact z_tbB key (by rw [e]; decide)
theorem x_firsts {A : aD} {le : Nat → Int32} (h : xLe A le) (hA : ∀ r, r < 6 → dA A r ≤ 6) : fDy_firstOfRings le = some (nI (zset (p_fst (dA A)) 6)) := by
  rw [← p_firsts hA]
  unfold fDy_firstOfRings
  refine Eq.trans (zLP_bcnt (r := nI (zor (fun p => if p_ring (dA A) p = 0 then 0 else 2 ^ zli (p_ring (dA A) p)) 6)) (fun q => (nI (zor (fun p => if p_ring (dA A) p = 0 then 0 else 2 ^ zli (p_ring (dA A) p)) q), nI q)) 6 rfl ?_ ?_) rfl
  · intro q hq
    show fDy_firstOfRings_L4 le (nI _) (nI q) = _
    unfold fDy_firstOfRings_L4
    rw [if_neg (zg6 hq), x_ring h hA hq]
    simp only [Option.bind_some, zlet, nI_1, (z_loA _ (p_ring_lt hA hq)).1, z_or, zor]
  · show fDy_firstOfRings_L4 le (nI _) (nI 6) = _
    unfold fDy_firstOfRings_L4
    rw [if_pos (by decide)]
theorem x_ringed {A : aD} {le : Nat → Int32} (h : xLe A le) (hA : ∀ r, r < 6 → dA A r ≤ 6) : fDy_whoIsRinged le = some (nI (zor (p_ring (dA A)) 6)) := by
  unfold fDy_whoIsRinged
  refine Eq.trans (zLP_bcnt (r := nI (zor (p_ring (dA A)) 6)) (fun q => (nI (zor (p_ring (dA A)) q), nI q)) 6 rfl ?_ ?_) rfl
  · intro q hq
    show fDy_whoIsRinged_L4 le (nI _) (nI q) = _
    unfold fDy_whoIsRinged_L4
    rw [if_neg (zg6 hq), x_ring h hA hq]
    simp only [Option.bind_some, zlet, nI_1, z_or, zor]
  · show fDy_whoIsRinged_L4 le (nI _) (nI 6) = _
    unfold fDy_whoIsRinged_L4
    rw [if_pos (by decide)]
theorem x_whoFol {A : aD} {le : Nat → Int32} (h : xLe A le) (hA : ∀ r, r < 6 → dA A r ≤ 6) : fDy_whoFollows le = some (nI (zset (fun q => decide (dA A q ≠ 0)) 6)) := by
  unfold fDy_whoFollows
  refine Eq.trans (zLP_bcnt (r := nI (zset (fun q => decide (dA A q ≠ 0)) 6)) (fun q => (nI (zset (fun q => decide (dA A q ≠ 0)) q), nI q)) 6 rfl ?_ ?_) rfl
  · intro q hq
    show fDy_whoFollows_L4 le (nI _) (nI q) = _
    unfold fDy_whoFollows_L4
    have := hA q hq
    rw [if_neg (zg6 hq), zrd_n hq (by omega), h q hq]
    simp only [Option.bind_some, zlet, nI_1]
    by_cases h2 : dA A q = 0
    · rw [if_pos ((nI_m1 (by omega)).mpr h2), zset_0 (f := fun q => decide (dA A q ≠ 0)) (by simp [h2])]
    · rw [if_neg (fun h => h2 ((nI_m1 (by omega)).mp h)), z_orb (by omega), zset_1 (f := fun q => decide (dA A q ≠ 0)) (by simp [h2])]
  · show fDy_whoFollows_L4 le (nI _) (nI 6) = _
    unfold fDy_whoFollows_L4
    rw [if_pos (by decide)]
theorem x_whoWay {A : aD} {lf : Nat → Int32} (h : xN 6 (dM A) lf) (hM : ∀ r, r < 6 → dM A r ≤ 8) : fDy_whoHasWay lf = some (nI (zset (fun q => decide (dM A q ≠ 0)) 6)) := by
  unfold fDy_whoHasWay
  refine Eq.trans (zLP_bcnt (r := nI (zset (fun q => decide (dM A q ≠ 0)) 6)) (fun q => (nI (zset (fun q => decide (dM A q ≠ 0)) q), nI q)) 6 rfl ?_ ?_) rfl
  · intro q hq
    show fDy_whoHasWay_L4 lf (nI _) (nI q) = _
    unfold fDy_whoHasWay_L4
    have := hM q hq
    rw [if_neg (zg6 hq), zrd_n hq (by omega), h q hq]
    simp only [Option.bind_some, zlet, nI_1]
    by_cases h2 : dM A q = 0
    · rw [if_pos ((nI_le0 (by omega)).mpr h2), zset_0 (f := fun q => decide (dM A q ≠ 0)) (by simp [h2])]
    · rw [if_neg (fun h => h2 ((nI_le0 (by omega)).mp h)), z_orb (by omega), zset_1 (f := fun q => decide (dM A q ≠ 0)) (by simp [h2])]
  · show fDy_whoHasWay_L4 lf (nI _) (nI 6) = _
    unfold fDy_whoHasWay_L4
    rw [if_pos (by decide)]
theorem x_prints {A : aD} {pr : Nat → Int32} (h : xN 8 (dP A) pr) : fDy_allPrints pr = some (nI (zsm (dP A) 8)) := by
  unfold fDy_allPrints
  refine Eq.trans (zLP_bcnt (r := nI (zsm (dP A) 8)) (fun q => (nI (zsm (dP A) q), nI q)) 8 rfl ?_ ?_) rfl
  · intro q hq
    show fDy_allPrints_L4 pr (nI _) (nI q) = _
    unfold fDy_allPrints_L4
    rw [if_neg (zg8 hq), zrd_n hq (by omega), h q hq]
    simp only [Option.bind_some, zlet, nI_1, nI_add, zsm]
  · show fDy_allPrints_L4 pr (nI _) (nI 8) = _
    unfold fDy_allPrints_L4
    rw [if_pos (by decide)]
theorem m_prints {P : Nat} {A : aD} {s : Nat → Int32} (h : sD P A s) : fM_printsInAll s = some (nI (zsm (dP A) 8)) := by
  unfold fM_printsInAll
  refine Eq.trans (zLP_bcnt (r := nI (zsm (dP A) 8)) (fun q => (nI (zsm (dP A) q), nI q)) 8 rfl ?_ ?_) rfl
  · intro q hq
    show fM_printsInAll_L4 s (nI _) (nI q) = _
    unfold fM_printsInAll_L4
    rw [if_neg (zg8 hq), z_207, zrd_n (by omega) (by omega), h.2.2.2.2.2.2.2.2.2 q hq]
    simp only [Option.bind_some, zlet, nI_1, nI_add, zsm]
  · show fM_printsInAll_L4 s (nI _) (nI 8) = _
    unfold fM_printsInAll_L4
    rw [if_pos (by decide)]
theorem p_ring_out {a : Nat → Nat} {p : Nat} (h : a p = 0) : p_ring a p = 0 := by
  unfold p_ring; rw [p_rg, if_pos h]
theorem m_now {C P : Nat} {A : aD} {s : Nat → Int32} (h : sD P A s) (hV : dV C P A) (hP : P ≤ 6) (hs2 : s 2 = nI P) :
    zLP (fun t : Int32 × Int32 × Int32 × Int32 × Int32 => fM_now_L18 s t.1 t.2.1 t.2.2.1 t.2.2.2.1 t.2.2.2.2) (0, 0, 0, 0, 0) = some (nI (zset (fun q => decide (dA A q ≠ 0)) 6), nI (zset (fun q => decide (dM A q ≠ 0)) 6), nI (zor (p_ring (dA A)) 6), nI (zsm (fun q => if p_fst (dA A) q then 1 else 0) 6)) := by
  have hA : ∀ r, r < 6 → dA A r ≤ 6 := fun r hr => Nat.le_trans (hV.2.1 r hr).1 hP
  have h0 : ∀ q, P ≤ q → q < 6 → dA A q = 0 := fun q h1 h2 => by
    rcases Nat.eq_zero_or_pos (dA A q) with h3 | h3
    · exact h3
    · have := ((hV.2.1 q h2).2 (by omega)).1; omega
  have hm0 : ∀ q, P ≤ q → q < 6 → dM A q = 0 := fun q h1 h2 => by
    rcases Nat.eq_zero_or_pos (dM A q) with h3 | h3
    · exact h3
    · have := (hV.2.2.1 q h2).2 (by omega); omega
  rw [zset_more hP (fun q h1 h2 => by simp [h0 q h1 h2]), zset_more hP (fun q h1 h2 => by simp [hm0 q h1 h2]), zor_more hP (fun q h1 h2 => p_ring_out (h0 q h1 h2))]
  have hz : zsm (fun q => if p_fst (dA A) q then 1 else 0) 6 = zsm (fun q => if p_fst (dA A) q then 1 else 0) P := by
    have : ∀ m, m ≤ 6 → P ≤ m → zsm (fun q => if p_fst (dA A) q then 1 else 0) m = zsm (fun q => if p_fst (dA A) q then 1 else 0) P := by
      intro m
      induction m with
      | zero => intro _ h; rw [show P = 0 by omega]
      | succ m ih =>
        intro h1 h2
        rcases Nat.lt_or_ge P (m + 1) with h3 | h3
        · have e : p_fst (dA A) m = false := by unfold p_fst; rw [p_ring_out (h0 m (by omega) (by omega))]; rfl
          rw [zsm, ih (by omega) (by omega), e]; rfl
        · rw [show P = m + 1 by omega]
    exact this 6 (Nat.le_refl _) hP
  rw [hz]
  refine zLP_cnt (fun q => (nI (zset (fun q => decide (dA A q ≠ 0)) q), nI (zset (fun q => decide (dM A q ≠ 0)) q), nI (zor (p_ring (dA A)) q), nI (zsm (fun q => if p_fst (dA A) q then 1 else 0) q), nI q)) P rfl ?_ ?_
  · intro q hq
    show fM_now_L18 s (nI _) (nI _) (nI _) (nI _) (nI q) = _
    unfold fM_now_L18
    have hal := hA q (by omega)
    have hml := (hV.2.2.1 q (by omega)).1
    have hlt := p_ring_lt hA (show q < 6 by omega)
    rw [hs2, if_neg (nI_ge hq (by omega)), m_ring h hA (show q < 6 by omega)]
    simp only [Option.bind_some, zlet, nI_1]
    rw [z_133, z_145, zrd_n (by omega) (by omega), zrd_n (by omega) (by omega), h.2.2.2.2.1 q (by omega), h.2.2.2.2.2.2.2.1 q (by omega)]
    simp only [Option.bind_some, z_or]
    have e1 : nI (zset (fun q => decide (dA A q ≠ 0)) q) ||| (if nI (dA A q) ≤ 0 then (0 : Int32) else ((1 : Int32) <<< (nI q &&& 31))) = nI (zset (fun q => decide (dA A q ≠ 0)) (q + 1)) := by
      by_cases h2 : dA A q = 0
      · rw [if_pos ((nI_le0 (by omega)).mpr h2), z_or0, zset_0 (f := fun q => decide (dA A q ≠ 0)) (by simp [h2])]
      · rw [if_neg (fun h => h2 ((nI_le0 (by omega)).mp h)), z_orb (by omega), zset_1 (f := fun q => decide (dA A q ≠ 0)) (by simp [h2])]
    have e2 : nI (zset (fun q => decide (dM A q ≠ 0)) q) ||| (if nI (dM A q) ≤ 0 then (0 : Int32) else ((1 : Int32) <<< (nI q &&& 31))) = nI (zset (fun q => decide (dM A q ≠ 0)) (q + 1)) := by
      by_cases h2 : dM A q = 0
      · rw [if_pos ((nI_le0 (by omega)).mpr h2), z_or0, zset_0 (f := fun q => decide (dM A q ≠ 0)) (by simp [h2])]
      · rw [if_neg (fun h => h2 ((nI_le0 (by omega)).mp h)), z_orb (by omega), zset_1 (f := fun q => decide (dM A q ≠ 0)) (by simp [h2])]
    have e3 : nI (zsm (fun q => if p_fst (dA A) q then 1 else 0) q) + zb (if nI (p_ring (dA A) q) ≤ 0 then false else if ((nI (p_ring (dA A) q) >>> (nI q &&& 31)) <<< (nI q &&& 31)) = nI (p_ring (dA A) q) then true else false) = nI (zsm (fun q => if p_fst (dA A) q then 1 else 0) (q + 1)) := by
      have hd := z_shshA _ hlt q (by omega)
      rw [zsm, ← nI_add]
      congr 1
      unfold p_fst
      by_cases h2 : p_ring (dA A) q = 0
      · rw [if_pos ((nI_le0 (by omega)).mpr h2), decide_eq_false (fun h => h h2)]; rfl
      · rw [if_neg (fun h => h2 ((nI_le0 (by omega)).mp h)), decide_eq_true h2, Bool.true_and]
        rw [decide_eq_false h2, Bool.false_or] at hd
        rw [← hd]
        by_cases h4 : ((nI (p_ring (dA A) q) >>> (nI q &&& 31)) <<< (nI q &&& 31)) = nI (p_ring (dA A) q)
        · rw [if_pos h4, decide_eq_true h4]; rfl
        · rw [if_neg h4, decide_eq_false h4]; rfl
    rw [e1, e2, e3]
    rfl
  · show fM_now_L18 s (nI _) (nI _) (nI _) (nI _) (nI P) = _
    unfold fM_now_L18
    rw [hs2, if_pos (nI_le (Nat.le_refl _) (by omega))]
theorem zpc_set (f : Nat → Bool) : zpc (zset f 6) = zsm (fun q => if f q then 1 else 0) 6 := by
  unfold zpc
  simp only [zset_tb, zsm]
  simp
theorem m_cut {C P : Nat} {A : aD} {s r : Nat → Int32} (h : sD P A s) (hV : dV C P A) (hP : P ≤ 6) (hs2 : s 2 = nI P) (hr : r 25 = 0) :
    ∃ r', zLP (fun t : (Nat → Int32) × Int32 => fM_cut_L17 s t.1 t.2) (r, 0) = some r' ∧ r' 25 = nI (zset (p_fst (dA A)) 6) ∧ ∀ j, j ≠ 25 → r' j = r j := by
  have hA : ∀ r, r < 6 → dA A r ≤ 6 := fun r hr => Nat.le_trans (hV.2.1 r hr).1 hP
  have h0 : ∀ q, P ≤ q → q < 6 → dA A q = 0 := fun q h1 h2 => by
    rcases Nat.eq_zero_or_pos (dA A q) with h3 | h3
    · exact h3
    · have := ((hV.2.1 q h2).2 (by omega)).1; omega
  rw [zset_more hP (fun q h1 h2 => by unfold p_fst; rw [p_ring_out (h0 q h1 h2)]; rfl)]
  refine zLP_inv (fun q t => t.2 = nI q ∧ t.1 25 = nI (zset (p_fst (dA A)) q) ∧ ∀ j, j ≠ 25 → t.1 j = r j) _ P ⟨rfl, hr, fun _ _ => rfl⟩ ?_ ?_
  · rintro q ⟨t1, t2⟩ hq ⟨rfl, a1, a2⟩
    try dsimp only at *
    left
    have hlt := p_ring_lt hA (show q < 6 by omega)
    show ∃ t', fM_cut_L17 s t1 (nI q) = _ ∧ _
    unfold fM_cut_L17
    rw [hs2, if_neg (nI_ge hq (by omega)), m_ring h hA (show q < 6 by omega)]
    simp only [Option.bind_some, zlet, nI_1, a1]
    have hd := z_shshA _ hlt q (by omega)
    by_cases h2 : p_ring (dA A) q = 0
    · rw [if_pos ((nI_le0 (by omega)).mpr h2), z_or0]
      refine ⟨_, rfl, rfl, ?_, fun j hj => ?_⟩
      · rw [zset_0 (f := p_fst (dA A)) (by unfold p_fst; rw [h2]; rfl)]; dsimp only; exact zup_s
      · show zup t1 25 _ j = _
        rw [zup_n hj, a2 j hj]
    · rw [if_neg (fun h => h2 ((nI_le0 (by omega)).mp h))]
      rw [decide_eq_false h2, Bool.false_or] at hd
      have hf : p_fst (dA A) q = decide (q ≤ zli (p_ring (dA A) q)) := by unfold p_fst; rw [decide_eq_true h2, Bool.true_and]
      rw [← hd] at hf
      by_cases h4 : ((nI (p_ring (dA A) q) >>> (nI q &&& 31)) <<< (nI q &&& 31)) = nI (p_ring (dA A) q)
      · rw [if_pos h4, z_orb (by omega)]
        refine ⟨_, rfl, rfl, ?_, fun j hj => ?_⟩
        · rw [zset_1 (f := p_fst (dA A)) (by rw [hf]; exact decide_eq_true h4)]; dsimp only; exact zup_s
        · show zup t1 25 _ j = _
          rw [zup_n hj, a2 j hj]
      · rw [if_neg h4, z_or0]
        refine ⟨_, rfl, rfl, ?_, fun j hj => ?_⟩
        · rw [zset_0 (f := p_fst (dA A)) (by rw [hf]; exact decide_eq_false h4)]; dsimp only; exact zup_s
        · show zup t1 25 _ j = _
          rw [zup_n hj, a2 j hj]
  · rintro ⟨t1, t2⟩ ⟨rfl, a1, a2⟩
    try dsimp only at *
    refine ⟨t1, ?_, a1, a2⟩
    show fM_cut_L17 s t1 (nI P) = _
    unfold fM_cut_L17
    rw [hs2, if_pos (nI_le (Nat.le_refl _) (by omega))]
