/-! ===== what only reads ===== -/
theorem dV_A {C P : Nat} {A : aD} (hV : dV C P A) (hP : P ≤ 6) : ∀ r, r < 6 → dA A r ≤ 6 := fun r hr => Nat.le_trans (hV.2.1 r hr).1 hP
section RD
variable {C P : Nat} {A : aD} {rp bs far f pl bu le di wa lf ly pr s rm r0 : Nat → Int32} {a1 a2 : Int32}
theorem c_ring (hP : P ≤ 6) (r6 : rp 6 = nI P) (s2 : s 2 = nI P) (hV : dV C P A) (hx : xLe A le) (h : sD P A s) : ∃ v, fX_ring rp le a1 = some v ∧ fM_ring rm s a1 = some (v, zup rm 0 0) := by
  unfold fX_ring fM_ring
  rw [p_hasPerson hP r6, zlet_e, p_isPerson hP s2, Option.bind_some]
  by_cases h1 : p_has P a1 = true
  · obtain ⟨q, hq, rfl⟩ := p_has_ex (by omega) h1
    rw [if_pos h1, if_pos h1, x_ring hx (dV_A hV hP) (by omega), m_ring h (dV_A hV hP) (by omega)]
    exact ⟨_, rfl, rfl⟩
  · rw [if_neg h1, if_neg h1]
    exact ⟨_, rfl, rfl⟩
def cR (r0 rm : Nat → Int32) : Prop := (rm 26 = 0 ∧ r0 17 = -1) ∨ (rm 26 = 1 ∧ r0 17 = rm 25)
theorem c_cut (hP : P ≤ 6) (s2 : s 2 = nI P) (hV : dV C P A) (hx : xLe A le) (h : sD P A s) : ∃ v x rm', fX_cut r0 le = some (v, zup r0 17 x) ∧ fM_cut rm s = some (v, rm') ∧ rm' 0 = 0 ∧ cR (zup r0 17 x) rm' ∧ ∀ j, j ≠ 0 → j ≠ 25 → j ≠ 26 → rm' j = rm j := by
  obtain ⟨r', k1, k2, k3⟩ := m_cut (r := zup (zup (zup rm 0 0) 25 0) 26 1) h hV hP s2 (by rw [zup_n (by omega), zup_s])
  have hl : zset (p_fst (dA A)) 6 < 64 := zset_lt _ 6
  have hx1 : fX_cut r0 le = some (nI (zpc (zset (p_fst (dA A)) 6)), zup r0 17 (nI (zset (p_fst (dA A)) 6))) := by
    unfold fX_cut
    rw [x_firsts hx (dV_A hV hP), Option.bind_some, zlet_e, zup_s, z_bc (by omega)]
  have hm1 : fM_cut rm s = some (nI (zpc (zset (p_fst (dA A)) 6)), r') := by
    unfold fM_cut
    rw [zlet_e, zlet_e, zlet_e, k1, Option.bind_some, k2, z_bits (by omega), Option.bind_some]
  refine ⟨_, _, r', hx1, hm1, ?_, Or.inr ⟨?_, ?_⟩, fun j h1 h2 h3 => ?_⟩
  · rw [k3 0 (by omega), zup_n (by omega), zup_n (by omega), zup_s]
  · rw [k3 26 (by omega), zup_s]
  · rw [zup_s, k2]
  · rw [k3 j h2, zup_n h3, zup_n h2, zup_n h1]
theorem c_cutting (h : cR r0 rm) : fM_cutting rm = some (fX_cutting r0, zup rm 0 0) := by
  unfold fM_cutting fX_cutting
  rw [zlet_e, zup_n (show (26 : Nat) ≠ 0 by omega), zup_n (show (25 : Nat) ≠ 0 by omega)]
  rcases h with ⟨h1, h2⟩ | ⟨h1, h2⟩
  · rw [if_pos h1, h2]
  · rw [if_neg (by rw [h1]; decide), h2]
theorem c_fault (h : r0 16 = rm 15) : fM_fault rm = some (fX_fault r0, zup rm 0 0) := by
  unfold fM_fault fX_fault
  rw [zlet_e, zup_n (show (15 : Nat) ≠ 0 by omega), h]
theorem c_now (hP : P ≤ 6) (s2 : s 2 = nI P) (hV : dV C P A) (hx : dX P A f pl bu le di wa lf ly pr) (h : sD P A s) : ∃ v, fX_now f le lf pr a1 = some v ∧ fM_now rm s a1 = some (v, zup rm 0 0) := by
  obtain ⟨x1, x2, x3, x4, x5, x6, x7, x8, x9, x10⟩ := hx
  have hl : zset (p_fst (dA A)) 6 < 64 := zset_lt _ 6
  have hA := dV_A hV hP
  unfold fX_now fM_now
  rw [zlet_e, m_now h hV hP s2, Option.bind_some, x_whoFol x5 hA, x_whoWay x8 (dV_M hV), x_ringed x5 hA, x_firsts x5 hA, x_prints x10, m_prints h]
  by_cases e0 : a1 = 0
  · rw [if_pos e0, if_pos e0, h.1]; exact ⟨_, congrArg some x1, rfl⟩
  rw [if_neg e0, if_neg e0]
  by_cases e1 : a1 = 1
  · rw [if_pos e1, if_pos e1]; exact ⟨_, rfl, rfl⟩
  rw [if_neg e1, if_neg e1]
  by_cases e2 : a1 = 2
  · rw [if_pos e2, if_pos e2]; exact ⟨_, rfl, rfl⟩
  rw [if_neg e2, if_neg e2]
  by_cases e3 : a1 = 3
  · rw [if_pos e3, if_pos e3]; exact ⟨_, rfl, rfl⟩
  rw [if_neg e3, if_neg e3]
  by_cases e4 : a1 = 4
  · rw [if_pos e4, if_pos e4, Option.bind_some, z_bc (by omega), zpc_set]; exact ⟨_, rfl, rfl⟩
  rw [if_neg e4, if_neg e4]
  by_cases e5 : a1 = 5
  · rw [if_pos e5, if_pos e5]; exact ⟨_, rfl, rfl⟩
  rw [if_neg e5, if_neg e5]
  by_cases e6 : a1 = 6
  · rw [if_pos e6, if_pos e6, h.2.1]; exact ⟨_, congrArg some x2, rfl⟩
  rw [if_neg e6, if_neg e6]
  exact ⟨_, rfl, rfl⟩
theorem c_corner {B : Nat → Nat} (hC : C ≤ 8) (hP : P ≤ 6) (r4 : rp 4 = nI C) (s0 : s 0 = nI C) (s2 : s 2 = nI P) (hb : ∀ c, c < 8 → bs c = nI (B c)) (hs : ∀ c, c < 8 → s (3 + c) = nI (B c)) (hV : dV C P A) (hx : dX P A f pl bu le di wa lf ly pr) (h : sD P A s) : ∃ v, fX_corner rp bs pl ly pr a1 a2 = some v ∧ fM_corner rm s a1 a2 = some (v, zup rm 0 0) := by
  obtain ⟨x1, x2, x3, x4, x5, x6, x7, x8, x9, x10⟩ := hx
  unfold fX_corner fM_corner fPl_besideOf
  rw [p_hasCorner hC r4, zlet_e, p_isCorner hC s0, Option.bind_some]
  by_cases h1 : p_has C a1 = true
  · obtain ⟨c, hc, rfl⟩ := p_has_ex (by omega) h1
    have hW : ∀ q, q < P → dW A 0 q < 8 := fun q hq => Nat.lt_of_lt_of_le (hV.1 q 0 hq (by omega)) hC
    rw [if_pos h1, if_pos h1, if_pos h1, m_cornerWho h hP s2 (by omega) hW, Option.bind_some, zrd_n (by omega) (by omega), Option.bind_some, show fDy_whoWasAt pl (nI c) 0 = _ from x_whoWas (k := 0) x3 hP (by omega) (by omega) hW, x_bat (by omega), x_pat (by omega), z_3a, zrd_n (by omega) (by omega), z_199, zrd_n (by omega) (by omega), z_207, zrd_n (by omega) (by omega)]
    by_cases e0 : a2 = 0
    · rw [if_pos e0, if_pos e0, hb c (by omega), hs c (by omega)]; exact ⟨_, rfl, rfl⟩
    rw [if_neg e0, if_neg e0]
    by_cases e1 : a2 = 1
    · rw [if_pos e1, if_pos e1]; exact ⟨_, rfl, rfl⟩
    rw [if_neg e1, if_neg e1]
    by_cases e2 : a2 = 2
    · rw [if_pos e2, if_pos e2, x9 c (by omega), h.2.2.2.2.2.2.2.2.1 c (by omega)]; exact ⟨_, rfl, rfl⟩
    rw [if_neg e2, if_neg e2]
    by_cases e3 : a2 = 3
    · rw [if_pos e3, if_pos e3, x10 c (by omega), h.2.2.2.2.2.2.2.2.2 c (by omega)]; exact ⟨_, rfl, rfl⟩
    rw [if_neg e3, if_neg e3]
    exact ⟨_, rfl, rfl⟩
  · rw [if_neg h1, if_neg h1]
    exact ⟨_, rfl, rfl⟩
theorem c_was (hP : P ≤ 6) (r6 : rp 6 = nI P) (s2 : s 2 = nI P) (hx : xPl P A pl) (h : sD P A s) : ∃ v, fX_was rp pl a1 a2 = some v ∧ fM_was rm s a1 a2 = some (v, zup rm 0 0) := by
  unfold fX_was fM_was fM_isIn
  rw [p_hasPerson hP r6, zlet_e, p_isPerson hP s2, Option.bind_some]
  by_cases h1 : p_has P a1 = true
  · obtain ⟨q, hq, rfl⟩ := p_has_ex (by omega) h1
    rw [if_pos h1, if_pos h1]
    have hmb : fDy_mayBe (nI q) = true := by rw [p_mayBe]; exact p_has_y (by omega) (by omega)
    by_cases h2 : a2 < 0
    · rw [if_pos h2, if_neg (show ¬ false = true by decide)]
      unfold fDy_wasAt
      rw [if_pos hmb, if_pos h2]
      exact ⟨_, rfl, rfl⟩
    · obtain ⟨k, hk, rfl⟩ := nI_of (x := a2) h2
      rw [if_neg h2]
      by_cases h3 : 5 < k
      · rw [if_pos (show (5 : Int32) < nI k from nI_lt (a := 5) h3 hk), if_neg (show ¬ false = true by decide)]
        unfold fDy_wasAt
        rw [if_pos hmb, if_neg h2, if_pos (show (6 : Int32) ≤ nI k from nI_le (a := 6) (by omega) hk)]
        exact ⟨_, rfl, rfl⟩
      · rw [if_neg (show ¬ (5 : Int32) < nI k from nI_nlt (a := 5) (by omega) (by omega)), if_pos rfl, x_was (by omega) (by omega), Option.bind_some, show (6 : Int32) * nI k = nI (6 * k) from nI_mul 6 k, show (91 : Int32) + nI (6 * k) = nI (91 + 6 * k) from nI_add 91 (6 * k), nI_add, zrd_n (by omega) (by omega), h.2.2.1 q k hq (by omega), hx q k (by omega) (by omega), if_pos hq]
        exact ⟨_, rfl, rfl⟩
  · rw [if_neg h1, if_neg h1]
    exact ⟨_, rfl, rfl⟩
theorem c_count {S n : Nat} {tp : Nat → Int32} (r4 : rp 4 = nI C) (r5 : rp 5 = nI S) (r6 : rp 6 = nI P) (s0 : s 0 = nI C) (s1 : s 1 = nI S) (s2 : s 2 = nI P) (t1 : tp 1 = nI n) (m2 : rm 2 = nI n) : fM_count rm s a1 = some (fX_count tp rp a1, zup rm 0 0) := by
  unfold fM_count fX_count fPl_corners fPl_streets fPl_persons fTp_length
  rw [zlet_e, r4, r5, r6, t1, zup_n (show (2 : Nat) ≠ 0 by omega), m2]
  by_cases e3 : a1 = 3
  · subst e3; rfl
  rw [if_neg e3, if_neg e3]
  unfold fM_isIn
  by_cases h1 : a1 < 0
  · rw [if_pos h1, if_neg (show ¬ false = true by decide), if_neg (fun h => by rw [h] at h1; exact absurd h1 (by decide)), if_neg (fun h => by rw [h] at h1; exact absurd h1 (by decide)), if_neg (fun h => by rw [h] at h1; exact absurd h1 (by decide))]
  · by_cases h2 : 2 < a1
    · rw [if_neg h1, if_pos h2, if_neg (show ¬ false = true by decide), if_neg (fun h => by rw [h] at h2; exact absurd h2 (by decide)), if_neg (fun h => by rw [h] at h2; exact absurd h2 (by decide)), if_neg (fun h => by rw [h] at h2; exact absurd h2 (by decide))]
    · obtain ⟨k, k1, k2, rfl⟩ := i32_in (lo := 0) (hi := 2) (by omega) (by omega) h1 h2
      rw [if_neg h1, if_neg h2, if_pos rfl, zrd_n (by omega) (by omega), Option.bind_some]
      have hk : k = 0 ∨ k = 1 ∨ k = 2 := by omega
      rcases hk with rfl | rfl | rfl
      · rw [if_pos (show nI 0 = 0 from rfl), s0]
      · rw [if_neg (show ¬ nI 1 = 0 by decide), if_pos (show nI 1 = 1 from rfl), s1]
      · rw [if_neg (show ¬ nI 2 = 0 by decide), if_neg (show ¬ nI 2 = 1 by decide), if_pos (show nI 2 = 2 from rfl), s2]
theorem c_told {bk ta : Nat → Int32} (h : tRl bk ta rm) : fM_told rm ta a1 = some (fX_told bk a1, zup rm 0 0) := by
  unfold fM_told fX_told fBk_toldOf fM_isIn
  rw [zlet_e, zup_n (show (42 : Nat) ≠ 0 by omega)]
  rcases h with ⟨h1, h2⟩ | ⟨h1, h2, h6, h7, h8, h9⟩
  · rw [if_pos h2, if_pos h1]
  · rw [if_neg (show ¬ rm 42 = 0 by rw [h2]; decide), if_neg (show ¬ bk 5 = 0 by rw [h1]; decide), h6, h7, h8, h9]
    by_cases g1 : a1 < 0
    · rw [if_pos g1, if_neg (show ¬ false = true by decide), if_neg (fun h => by rw [h] at g1; exact absurd g1 (by decide)), if_neg (fun h => by rw [h] at g1; exact absurd g1 (by decide)), if_neg (fun h => by rw [h] at g1; exact absurd g1 (by decide)), if_neg (fun h => by rw [h] at g1; exact absurd g1 (by decide))]
    · by_cases g2 : 3 < a1
      · rw [if_neg g1, if_pos g2, if_neg (show ¬ false = true by decide), if_neg (fun h => by rw [h] at g2; exact absurd g2 (by decide)), if_neg (fun h => by rw [h] at g2; exact absurd g2 (by decide)), if_neg (fun h => by rw [h] at g2; exact absurd g2 (by decide)), if_neg (fun h => by rw [h] at g2; exact absurd g2 (by decide))]
      · obtain ⟨k, k1, k2, rfl⟩ := i32_in (lo := 0) (hi := 3) (by omega) (by omega) g1 g2
        rw [if_neg g1, if_neg g2, if_pos rfl, zrd_n (by omega) (by omega), Option.bind_some]
        have hk : k = 0 ∨ k = 1 ∨ k = 2 ∨ k = 3 := by omega
        rcases hk with rfl | rfl | rfl | rfl
        · rw [if_pos (show nI 0 = 0 from rfl)]
        · rw [if_neg (show ¬ nI 1 = 0 by decide), if_pos (show nI 1 = 1 from rfl)]
        · rw [if_neg (show ¬ nI 2 = 0 by decide), if_neg (show ¬ nI 2 = 1 by decide), if_pos (show nI 2 = 2 from rfl)]
        · rw [if_neg (show ¬ nI 3 = 0 by decide), if_neg (show ¬ nI 3 = 1 by decide), if_neg (show ¬ nI 3 = 2 by decide), if_pos (show nI 3 = 3 from rfl)]
theorem c_end {n : Nat} {b : Nat → Nat} {tp tb mt : Nat → Int32} (hX : tpX n b tp tb) (hT : tpM n b mt) (m2 : rm 2 = nI n) : ∃ v tp' rm', fX_end tp a1 = some (v, tp') ∧ fM_end rm a1 = some (v, rm') ∧ rm' 0 = 0 ∧ (∀ j, j ≠ 0 → j ≠ 2 → rm' j = rm j) ∧ ∃ n', tpX n' b tp' tb ∧ tpM n' b mt ∧ rm' 2 = nI n' := by
  obtain ⟨h1, h2, h3⟩ := id hX
  have hz : zup rm 0 0 2 = nI n := by rw [zup_n (by omega)]; exact m2
  unfold fX_end fTp_shorten fM_end
  rw [zlet_e, zlet_e, h2, hz]
  by_cases e0 : a1 < 0
  · rw [if_pos e0, if_pos e0]
    exact ⟨_, _, _, rfl, rfl, zup_s, fun j g1 _ => zup_n g1, n, hX, hT, hz⟩
  · rw [if_neg e0, if_neg e0]
    by_cases e1 : a1 ≤ nI n
    · obtain ⟨k, k1, k2, rfl⟩ := i32_in (lo := 0) (hi := n) (by omega) (by omega) e0 (Int32.not_lt.mpr e1)
      rw [if_pos e1, if_pos e1]
      refine ⟨_, zup tp 1 (nI k), zup (zup rm 0 0) 2 (nI k), rfl, rfl, ?_, fun j g1 g2 => ?_, k, ⟨by omega, zup_s, fun i hi => h3 i (by omega)⟩, fun i hi => hT i (by omega), zup_s⟩
      · rw [zup_n (by omega), zup_s]
      · rw [zup_n g2, zup_n g1]
    · rw [if_neg e1, if_neg e1]
      exact ⟨_, _, _, rfl, rfl, zup_s, fun j g1 _ => zup_n g1, n, hX, hT, hz⟩
end RD
