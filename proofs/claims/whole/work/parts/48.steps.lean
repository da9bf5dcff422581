/-! ===== both readers, step by step ===== -/
def mF (rm rm' : Nat → Int32) : Prop := ∀ j, j < 4 ∨ 19 ≤ j → rm' j = rm j
theorem mF_rfl {r : Nat → Int32} : mF r r := fun _ _ => rfl
theorem mF_trans {r s t : Nat → Int32} (h : mF r s) (g : mF s t) : mF r t := fun j hj => (g j hj).trans (h j hj)
theorem mF_up {r s : Nat → Int32} (h : mF r s) {k : Nat} {v : Int32} (hk : 4 ≤ k ∧ k < 19) : mF r (zup s k v) := fun j hj => by rw [zup_n (by omega)]; exact h j hj
theorem mG_F {r s : Nat → Int32} (h : mG r s) : mF r s := fun j hj => h j (by omega)
def tE (n L : Nat) (b : Nat → Nat) (tp tb mt : Nat → Int32) : Prop := tpX n b tp tb ∧ tpM n b mt ∧ L ≤ 940
def wE (tw rs : Nat → Int64) : Prop := (∀ j, j < 22 → tw j = lN (cv (resW j))) ∧ ∀ j, j < 22 → rs j = lN (mv (resW j))
def tFl (rx rm : Nat → Int32) : Prop := ∃ kd a, 1 ≤ kd ∧ kd ≤ 4 ∧ a ≤ 940 ∧ rx 8 = nI kd ∧ rx 3 = nI a ∧ rm 15 = nI kd ∧ rm 16 = nI a
def tOk (n L a0 : Nat) (rx : Nat → Int32) (wx : Nat → Int64) (rm : Nat → Int32) (wm : Nat → Int64) : Prop := ∃ k v w a p, tokR n L rx wx rm wm k v w a p ∧ a0 < a
theorem tFl_n {rx rm : Nat → Int32} (h : tFl rx rm) : ¬ rx 8 = 0 := by
  obtain ⟨kd, a, h1, h2, h3, h4, -⟩ := h
  rw [h4]; exact nI_ne0 (by omega) (by omega)
theorem tokR_up {n L k v a p : Nat} {w : List Nat} {rx rm : Nat → Int32} {wx wm : Nat → Int64} (h : tokR n L rx wx rm wm k v w a p) {j : Nat} {x : Int32} (hj : 17 ≤ j) : tokR n L rx wx (zup rm j x) wm k v w a p := by
  unfold tokR at h ⊢
  rw [zup_n (by omega), zup_n (by omega), zup_n (by omega), zup_n (by omega), zup_n (by omega), zup_n (by omega), zup_n (by omega)]
  exact h
theorem t_go {n L k v a p : Nat} {b : Nat → Nat} {w : List Nat} {tp tb mt rx rm : Nat → Int32} {wx wm : Nat → Int64} (E : tE n L b tp tb mt) (h : tokR n L rx wx rm wm k v w a p) (hk : k = 1 ∨ k = 2 ∨ k = 3) :
    ∃ rx' wx' rm' wm', fRd_goOn rx wx tp tb = some (rx', wx') ∧ fM_next rm wm mt = some (rm', wm') ∧ tOk n L a rx' wx' rm' wm' ∧ mG rm rm' := by
  obtain ⟨h2, h3, h8, m3, m5, m11, m12, m15, ha, hc⟩ := h
  have hp : (a < p ∧ p ≤ n ∧ (n ≤ L ∨ a < L)) ∧ rx 4 = nI p ∧ rm 4 = nI p := by
    rcases hc with ⟨c1, -⟩ | ⟨c1, -, -, -, -, c6⟩ | ⟨c1, -, -, -, -, c6⟩ | ⟨c1, -, -, -, c6⟩ | ⟨c1, -⟩
    · omega
    · exact c6
    · exact c6
    · exact c6
    · omega
  obtain ⟨⟨p1, p2, p3⟩, p4, p5⟩ := hp
  obtain ⟨rx', wx', rm', wm', k', v', w', a', p', e1, e2, e3, e4, e5, e6⟩ := t_next (wx := wx) (wm := wm) E.1 E.2.1 E.2.2 h2 p4 h8 m3 p5 m5 m15 p2
  exact ⟨rx', wx', rm', wm', e1, e2, ⟨k', v', w', a', p', e3, by omega⟩, e5⟩
theorem x_fail {rx : Nat → Int32} {x : Int32} (h : rx 8 = 0) : fRd_fail rx x = some (zup rx 8 x) := by
  unfold fRd_fail
  rw [if_pos h]; rfl
theorem m_bad {rm : Nat → Int32} {x : Int32} : fM_bad rm x = some (false, zup (zup rm 15 x) 16 (zup rm 15 x 12)) := rfl
/-- a fault of kind kd at the token that is read -/
theorem t_fl {n L k v a p kd : Nat} {w : List Nat} {rx rm rm0 : Nat → Int32} {wx wm : Nat → Int64} (h : tokR n L rx wx rm wm k v w a p) (hn : n ≤ 940) (h1 : 1 ≤ kd) (h4 : kd ≤ 4) : tFl (zup rx 8 (nI kd)) (zup (zup rm 15 (nI kd)) 16 (zup rm 15 (nI kd) 12)) := by
  obtain ⟨h2, h3, h8, m3, m5, m11, m12, m15, ha, hc⟩ := h
  refine ⟨kd, a, h1, h4, by omega, zup_s, ?_, ?_, ?_⟩
  · rw [zup_n (by omega)]; exact h3
  · rw [zup_n (by omega), zup_s]
  · rw [zup_s, zup_n (by omega)]; exact m12
theorem m_badF {rm : Nat → Int32} {x : Int32} : mF rm (zup (zup rm 15 x) 16 (zup rm 15 x 12)) := mF_up (mF_up mF_rfl (by omega)) (by omega)
theorem tok_kx {n L k v a p : Nat} {w : List Nat} {rx rm : Nat → Int32} {wx wm : Nat → Int64} (h : tokR n L rx wx rm wm k v w a p) : (rx 5 = 1 ↔ k = 1) ∧ (rx 5 = 2 ↔ k = 2) ∧ (rx 5 = 3 ↔ k = 0) ∧ ∀ s, isSg s → (rx 5 = nI s ↔ (k = 3 ∧ v = s)) := by
  have hs : ∀ s, isSg s → ∀ j, j < 4 → (nI j = nI s) = False := fun s hs j hj => eq_false (fun e => by
    have := (nI_eq (by omega) (by unfold isSg at hs; omega)).mp e
    unfold isSg at hs; omega)
  rcases h.2.2.2.2.2.2.2.2.2 with ⟨c1, c2⟩ | ⟨c1, c2, -⟩ | ⟨c1, c2, -⟩ | ⟨c1, c2, c3, -⟩ | ⟨c1, c2⟩
  · rw [c1, c2]
    refine ⟨by decide, by decide, by decide, fun s h => ?_⟩
    rw [show (3 : Int32) = nI 3 from rfl, hs s h 3 (by omega)]
    exact ⟨fun h => h.elim, fun h => absurd h.1 (by decide)⟩
  · rw [c1, c2]
    refine ⟨by decide, by decide, by decide, fun s h => ?_⟩
    rw [show (1 : Int32) = nI 1 from rfl, hs s h 1 (by omega)]
    exact ⟨fun h => h.elim, fun h => absurd h.1 (by decide)⟩
  · rw [c1, c2]
    refine ⟨by decide, by decide, by decide, fun s h => ?_⟩
    rw [show (2 : Int32) = nI 2 from rfl, hs s h 2 (by omega)]
    exact ⟨fun h => h.elim, fun h => absurd h.1 (by decide)⟩
  · rw [c1, c3]
    have hv : v < 100 ∧ 4 ≤ v := by unfold isSg at c2; omega
    refine ⟨?_, ?_, ?_, fun s h => ?_⟩
    · rw [nI_k1 (by omega)]; omega
    · rw [nI_k2 (by omega)]; omega
    · rw [nI_k3 (by omega)]; omega
    · rw [nI_eq (by omega) (by unfold isSg at h; omega)]
      exact ⟨fun e => ⟨rfl, e⟩, fun e => e.2⟩
  · rw [c1, c2]
    refine ⟨by decide, by decide, by decide, fun s h => ?_⟩
    rw [show (0 : Int32) = nI 0 from rfl, hs s h 0 (by omega)]
    exact ⟨fun h => h.elim, fun h => absurd h.1 (by decide)⟩
theorem tok_8 {n L k v a p : Nat} {w : List Nat} {rx rm : Nat → Int32} {wx wm : Nat → Int64} (h : tokR n L rx wx rm wm k v w a p) : rx 8 = 0 := h.2.2.1
theorem tok_good {n L k v a p : Nat} {w : List Nat} {rx rm : Nat → Int32} {wx wm : Nat → Int64} (h : tokR n L rx wx rm wm k v w a p) : fRd_isGood rx = true := by
  unfold fRd_isGood; rw [if_pos (tok_8 h)]
theorem x_name {n L k v a p : Nat} {w : List Nat} {rx rm : Nat → Int32} {wx wm tw : Nat → Int64} (h : tokR n L rx wx rm wm k v w a p) (hw : ∀ j, j < 22 → tw j = lN (cv (resW j))) : fRd_needName rx wx tw = some (if k = 1 ∧ tW k w = 22 then (true, rx) else (false, zup rx 8 1)) := by
  have hk := (tok_kx h).1
  have ht := tW_le k w
  unfold fRd_needName
  by_cases e : k = 1
  · rw [if_pos (hk.mpr e), x_told h hw]
    simp only [Option.bind_some]
    by_cases e2 : tW k w = 22
    · rw [if_neg (show ¬ tW k w < 22 by omega), if_pos rfl, if_pos (show k = 1 ∧ tW k w = 22 from ⟨e, e2⟩), tok_good h]
    · rw [if_pos (show tW k w < 22 by omega), if_neg (nI_nm1 (by omega)), if_neg (show ¬ (k = 1 ∧ tW k w = 22) from fun h => e2 h.2), x_fail (tok_8 h)]
      simp only [Option.bind_some]
      rw [d_good (by rw [zup_s]; decide)]
  · rw [if_neg (fun h => e (hk.mp h)), if_neg (show ¬ (k = 1 ∧ tW k w = 22) from fun h => e h.1), x_fail (tok_8 h)]
    simp only [Option.bind_some]
    rw [d_good (by rw [zup_s]; decide)]
/-- a name out of a table: where it stands, or a fault -/
theorem t_looks {n L k v a p c fr : Nat} {w : List Nat} {N : Nat → List Nat} {rx rm : Nat → Int32} {wx wm tw rs nm : Nat → Int64} (hn : n ≤ 940) (W : wE tw rs) (h : tokR n L rx wx rm wm k v w a p) (hc : fr + c ≤ 28) (hO : ∀ j, j < c → wOK (N j)) (hN : nM fr c N nm) :
    (∃ j, j < c ∧ k = 1 ∧ tW k w = 22 ∧ ixF N w c 0 = j ∧ fM_looksAt rm wm nm rs (nI fr) (nI c) = some (true, zup rm 18 (nI j))) ∨
    (∃ kd rm', 1 ≤ kd ∧ kd ≤ 4 ∧ ((kd = 1 ∧ ¬ (k = 1 ∧ tW k w = 22)) ∨ (kd = 3 ∧ k = 1 ∧ tW k w = 22 ∧ ¬ ixF N w c 0 < c)) ∧ fM_looksAt rm wm nm rs (nI fr) (nI c) = some (false, rm') ∧ tFl (zup rx 8 (nI kd)) rm' ∧ mF rm rm') := by
  unfold fM_looksAt
  rw [m_isName h W.2]
  simp only [Option.bind_some]
  by_cases e : k = 1 ∧ tW k w = 22
  · rw [decide_eq_true e, if_pos rfl]
    obtain ⟨w1, w2, w3⟩ := (tok_11 h).2.2 e.1
    rw [m_seek hc hO hN w1 w3]
    simp only [Option.bind_some, zlet, zup_s]
    by_cases e2 : ixF N w c 0 < c
    · left
      rw [if_pos e2, if_pos (nI_pos' (by omega))]
      exact ⟨_, e2, e.1, e.2, rfl, rfl⟩
    · right
      rw [if_neg e2, if_neg (by decide), m_bad]
      simp only [Option.bind_some, Bool.false_eq_true, if_false]
      exact ⟨3, _, by omega, by omega, Or.inr ⟨rfl, e.1, e.2, e2⟩, rfl, t_fl (kd := 3) (rm0 := rm) (tokR_up h (by omega)) hn (by omega) (by omega), mF_trans (mF_up mF_rfl (by omega)) m_badF⟩
  · right
    rw [decide_eq_false e, if_neg (by decide), m_bad]
    simp only [Option.bind_some]
    exact ⟨1, _, by omega, by omega, Or.inl ⟨rfl, e⟩, rfl, t_fl (kd := 1) (rm0 := rm) h hn (by omega) (by omega), m_badF⟩
theorem t_corner {n L k v a p C fr : Nat} {w : List Nat} {N : Nat → List Nat} {rx rm rp : Nat → Int32} {wx wm tw rs nm cn : Nat → Int64} (hn : n ≤ 940) (W : wE tw rs) (h : tokR n L rx wx rm wm k v w a p) (hC : C ≤ 8) (hr : rp 4 = nI C) (hX : nX C N cn) (hc : fr + C ≤ 28) (hN : nM fr C N nm) :
    (∃ j, j < C ∧ k = 1 ∧ fRd_needCorner rx wx tw rp cn = some (nI j, rx) ∧ fM_looksAt rm wm nm rs (nI fr) (nI C) = some (true, zup rm 18 (nI j))) ∨
    (∃ rx' rm', ¬ rx' 8 = 0 ∧ fRd_needCorner rx wx tw rp cn = some (-1, rx') ∧ fM_looksAt rm wm nm rs (nI fr) (nI C) = some (false, rm') ∧ tFl rx' rm' ∧ mF rm rm') := by
  unfold fRd_needCorner
  rw [x_name h W.1]
  simp only [Option.bind_some]
  rcases t_looks hn W h hc (fun j hj => (hX j hj).1) hN with ⟨j, j1, j2, j3, j4, j5⟩ | ⟨kd, rm', k1, k2, k3, k4, k5, k6⟩
  · left
    obtain ⟨w1, w2, w3⟩ := (tok_11 h).2.2 j2
    rw [if_pos (show k = 1 ∧ tW k w = 22 from ⟨j2, j3⟩)]
    simp only [if_true]
    rw [w2, x_cornerN hC hr hX w1, j4, if_pos j1]
    simp only [Option.bind_some]
    rw [if_neg (nI_nm1 (by omega))]
    exact ⟨j, j1, j2, rfl, j5⟩
  · right
    refine ⟨_, rm', tFl_n k5, ?_, k4, k5, k6⟩
    rcases k3 with ⟨rfl, e⟩ | ⟨rfl, e1, e2, e3⟩
    · rw [if_neg e]
      simp only [Bool.false_eq_true, if_false, if_true]
      rw [d_fail (by rw [zup_s]; decide)]; rfl
    · obtain ⟨w1, w2, w3⟩ := (tok_11 h).2.2 e1
      rw [if_pos (show k = 1 ∧ tW k w = 22 from ⟨e1, e2⟩)]
      simp only [if_true]
      rw [w2, x_cornerN hC hr hX w1, if_neg e3]
      simp only [Option.bind_some, if_true]
      rw [x_fail (tok_8 h)]; rfl
theorem t_person {n L k v a p P fr : Nat} {w : List Nat} {N : Nat → List Nat} {rx rm rp : Nat → Int32} {wx wm tw rs nm pn : Nat → Int64} (hn : n ≤ 940) (W : wE tw rs) (h : tokR n L rx wx rm wm k v w a p) (hP : P ≤ 6) (hr : rp 6 = nI P) (hX : nX P N pn) (hc : fr + P ≤ 28) (hN : nM fr P N nm) :
    (∃ j, j < P ∧ k = 1 ∧ fRd_needPerson rx wx tw rp pn = some (nI j, rx) ∧ fM_looksAt rm wm nm rs (nI fr) (nI P) = some (true, zup rm 18 (nI j))) ∨
    (∃ rx' rm', ¬ rx' 8 = 0 ∧ fRd_needPerson rx wx tw rp pn = some (-1, rx') ∧ fM_looksAt rm wm nm rs (nI fr) (nI P) = some (false, rm') ∧ tFl rx' rm' ∧ mF rm rm') := by
  unfold fRd_needPerson
  rw [x_name h W.1]
  simp only [Option.bind_some]
  rcases t_looks hn W h hc (fun j hj => (hX j hj).1) hN with ⟨j, j1, j2, j3, j4, j5⟩ | ⟨kd, rm', k1, k2, k3, k4, k5, k6⟩
  · left
    obtain ⟨w1, w2, w3⟩ := (tok_11 h).2.2 j2
    rw [if_pos (show k = 1 ∧ tW k w = 22 from ⟨j2, j3⟩)]
    simp only [if_true]
    rw [w2, x_personN hP hr hX w1, j4, if_pos j1]
    simp only [Option.bind_some]
    rw [if_neg (nI_nm1 (by omega))]
    exact ⟨j, j1, j2, rfl, j5⟩
  · right
    refine ⟨_, rm', tFl_n k5, ?_, k4, k5, k6⟩
    rcases k3 with ⟨rfl, e⟩ | ⟨rfl, e1, e2, e3⟩
    · rw [if_neg e]
      simp only [Bool.false_eq_true, if_false, if_true]
      rw [d_fail (by rw [zup_s]; decide)]; rfl
    · obtain ⟨w1, w2, w3⟩ := (tok_11 h).2.2 e1
      rw [if_pos (show k = 1 ∧ tW k w = 22 from ⟨e1, e2⟩)]
      simp only [if_true]
      rw [w2, x_personN hP hr hX w1, if_neg e3]
      simp only [Option.bind_some, if_true]
      rw [x_fail (tok_8 h)]; rfl
/-- a number between two -/
theorem t_number {n L k v a p lo hi : Nat} {b : Nat → Nat} {w : List Nat} {tp tb mt rx rm : Nat → Int32} {wx wm : Nat → Int64} (E : tE n L b tp tb mt) (h : tokR n L rx wx rm wm k v w a p) (hlo : lo < 2000) (hhi : hi < 2000) :
    (lo ≤ v ∧ v ≤ hi ∧ ∃ rx' wx' rm' wm', fRd_takeNumber rx wx tp tb (nI lo) (nI hi) = some (nI v, rx', wx') ∧ fM_takes rm wm mt (nI lo) (nI hi) = some (true, rm', wm') ∧ rm' 18 = nI v ∧ tOk n L a rx' wx' rm' wm' ∧ mF rm rm') ∨
    (∃ x rx' rm', ¬ rx' 8 = 0 ∧ fRd_takeNumber rx wx tp tb (nI lo) (nI hi) = some (x, rx', wx) ∧ fM_takes rm wm mt (nI lo) (nI hi) = some (false, rm', wm) ∧ tFl rx' rm' ∧ mF rm rm') := by
  have hk := (tok_kx h).2.1
  obtain ⟨t1, t2, t3⟩ := tok_11 h
  have hn := E.1.1
  unfold fRd_takeNumber fM_takes
  simp only [zlet]
  rw [t2]
  by_cases e : k = 2
  · have hv : v < 1000 ∧ rx 7 = nI v ∧ rm 14 = nI v := by
      rcases h.2.2.2.2.2.2.2.2.2 with ⟨c1, -⟩ | ⟨c1, -⟩ | ⟨c1, c2, c3, c4, c5, -⟩ | ⟨c1, -⟩ | ⟨c1, -⟩
      · omega
      · omega
      · exact ⟨c3, c4, c5⟩
      · omega
      · omega
    obtain ⟨v1, v2, v3⟩ := hv
    rw [if_pos (hk.mpr e), if_pos ((nI_k2 (by omega)).mpr e), v2, v3]
    unfold fM_isIn
    by_cases e1 : v < lo
    · right
      rw [if_pos (nI_lt e1 (by omega)), if_pos (nI_lt e1 (by omega)), x_fail (tok_8 h), if_neg (by decide), m_bad]
      simp only [Option.bind_some]
      rw [d_go (by rw [zup_s]; decide)]
      exact ⟨_, zup rx 8 2, _, by rw [zup_s]; decide, rfl, rfl, t_fl (kd := 2) (rm0 := rm) h hn (by omega) (by omega), m_badF⟩
    · rw [if_neg (nI_nlt (by omega) (by omega)), if_neg (nI_nlt (by omega) (by omega))]
      by_cases e2 : v ≤ hi
      · left
        rw [if_pos (nI_le e2 (by omega)), if_neg (nI_nlt (by omega) (by omega)), if_pos rfl]
        obtain ⟨rx', wx', rm', wm', g1, g2, g3, g4⟩ := t_go E (tokR_up h (j := 18) (x := nI v) (by omega)) (Or.inr (Or.inl e))
        rw [g1, g2]
        refine ⟨by omega, e2, rx', wx', rm', wm', rfl, rfl, ?_, g3, mF_trans (mF_up mF_rfl (by omega)) (mG_F g4)⟩
        rw [g4 18 (by omega), zup_s]
      · right
        rw [if_neg (nI_ge (by omega) (by omega)), if_pos (nI_lt (by omega) (by omega)), if_neg (by decide), x_fail (tok_8 h), m_bad]
        simp only [Option.bind_some]
        rw [d_go (by rw [zup_s]; decide)]
        exact ⟨_, zup rx 8 2, _, by rw [zup_s]; decide, rfl, rfl, t_fl (kd := 2) (rm0 := rm) h hn (by omega) (by omega), m_badF⟩
  · right
    rw [if_neg (fun h => e (hk.mp h)), if_neg (fun h => e ((nI_k2 (by omega)).mp h)), x_fail (tok_8 h), m_bad]
    simp only [Option.bind_some]
    rw [d_go (by rw [zup_s]; decide)]
    exact ⟨_, zup rx 8 1, _, by rw [zup_s]; decide, rfl, rfl, t_fl (kd := 1) (rm0 := rm) h hn (by omega) (by omega), m_badF⟩
theorem t_sign {n L k v a p c : Nat} {b : Nat → Nat} {w : List Nat} {tp tb mt rx rm : Nat → Int32} {wx wm : Nat → Int64} (E : tE n L b tp tb mt) (h : tokR n L rx wx rm wm k v w a p) (hc : isSg c) :
    (∃ rx' wx' rm' wm', fRd_takeSign rx wx tp tb (nI c) = some (rx', wx') ∧ fM_sign rm wm mt (nI c) = some (true, rm', wm') ∧ tOk n L a rx' wx' rm' wm' ∧ mF rm rm') ∨
    (∃ rx' rm', ¬ rx' 8 = 0 ∧ fRd_takeSign rx wx tp tb (nI c) = some (rx', wx) ∧ fM_sign rm wm mt (nI c) = some (false, rm', wm) ∧ tFl rx' rm' ∧ mF rm rm') := by
  have hk := (tok_kx h).2.2.2 c hc
  obtain ⟨t1, t2, t3⟩ := tok_11 h
  have hn := E.1.1
  have hc100 : c < 100 := by unfold isSg at hc; omega
  have hms : fM_isSign rm (nI c) = decide (k = 3 ∧ v = c) := by
    unfold fM_isSign
    rw [t2]
    by_cases e : k = 3
    · rw [if_pos ((nI_k3 (by omega)).mpr e)]
      have hv : isSg v ∧ rm 14 = nI v := by
        rcases h.2.2.2.2.2.2.2.2.2 with ⟨c1, -⟩ | ⟨c1, -⟩ | ⟨c1, -⟩ | ⟨c1, c2, c3, c4, -⟩ | ⟨c1, -⟩
        · omega
        · omega
        · omega
        · exact ⟨c2, c4⟩
        · omega
      rw [hv.2]
      have hv100 : v < 100 := by have := hv.1; unfold isSg at this; omega
      by_cases e2 : v = c
      · rw [if_pos (by rw [e2]), decide_eq_true ⟨e, e2⟩]
      · rw [if_neg (fun h => e2 ((nI_eq (by omega) (by omega)).mp h)), decide_eq_false (fun h => e2 h.2)]
    · rw [if_neg (fun h => e ((nI_k3 (by omega)).mp h)), decide_eq_false (fun h => e h.1)]
  unfold fRd_takeSign fM_sign
  rw [hms]
  by_cases e : k = 3 ∧ v = c
  · left
    rw [if_pos (hk.mpr e), decide_eq_true e, if_pos rfl]
    obtain ⟨rx', wx', rm', wm', g1, g2, g3, g4⟩ := t_go E h (Or.inr (Or.inr e.1))
    rw [g1, g2]
    exact ⟨rx', wx', rm', wm', rfl, rfl, g3, mG_F g4⟩
  · right
    rw [if_neg (fun h => e (hk.mp h)), decide_eq_false e, if_neg (by decide), x_fail (tok_8 h), m_bad]
    simp only [Option.bind_some]
    rw [d_go (by rw [zup_s]; decide)]
    exact ⟨zup rx 8 1, _, by rw [zup_s]; decide, rfl, rfl, t_fl (kd := 1) (rm0 := rm) h hn (by omega) (by omega), m_badF⟩
