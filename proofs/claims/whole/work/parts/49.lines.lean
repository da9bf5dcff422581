/-! ===== the lines of a town ===== -/
def tRX (C S P : Nat) (B : Nat → Nat) (nC nP : Nat → List Nat) (rp bs : Nat → Int32) (cn pn : Nat → Int64) : Prop := C ≤ 8 ∧ S ≤ 14 ∧ P ≤ 6 ∧ rp 4 = nI C ∧ rp 5 = nI S ∧ rp 6 = nI P ∧ (∀ c, c < 8 → bs c = nI (B c)) ∧ p_BC B C ∧ nX C nC cn ∧ nX P nP pn
def tRM (fc fp C S P : Nat) (B : Nat → Nat) (nC nP : Nat → List Nat) (h : Nat → Int32) (nm : Nat → Int64) : Prop := h 0 = nI C ∧ h 1 = nI S ∧ h 2 = nI P ∧ (∀ c, c < 8 → h (3 + c) = nI (B c)) ∧ nM fc C nC nm ∧ nM fp P nP nm
def tDM (P : Nat) (A : aD) (h : Nat → Int32) : Prop := (∀ q, q < P → h (11 + q) = nI (dW A 0 q)) ∧ (∀ q, q < 6 → h (17 + q) = nI (dB A q)) ∧ (∀ q, q < 6 → h (23 + q) = nI (dA A q)) ∧ (∀ q, q < 6 → dA A q ≠ 0 → h (29 + q) = nI (dH A q)) ∧ (∀ q, q < 6 → h (35 + q) = nI (dM A q)) ∧ (∀ q i, q < 6 → i < dM A q → h (41 + 8 * q + i) = nI (dY A q i))
def tDB (P : Nat) (A : aD) : Prop := dMi A = 0 ∧ dFo A = 0 ∧ (∀ q, q < 6 → dB A q ≤ 9) ∧ (∀ c, c < 8 → dL A c = 0) ∧ (∀ c, c < 8 → dP A c = 0) ∧ ∀ q k, q < P → k < 6 → dW A k q = dW A 0 q
def tT (C S P : Nat) (B : Nat → Nat) (nC nP : Nat → List Nat) (A : aD) (rp bs : Nat → Int32) (cn pn : Nat → Int64) (f pl bu le di wa lf ly pr h : Nat → Int32) (nm : Nat → Int64) : Prop :=
  tRX C S P B nC nP rp bs cn pn ∧ tRM 14 22 C S P B nC nP h nm ∧ tDM P A h ∧ tDB P A ∧ dV C P A ∧ dX P A f pl bu le di wa lf ly pr
theorem tDM_up {P : Nat} {A : aD} {h : Nat → Int32} (H : tDM P A h) {k : Nat} {x : Int32} (hk : k < 11) : tDM P A (zup h k x) := by
  obtain ⟨a1, a2, a3, a4, a5, a6⟩ := H
  refine ⟨fun q hq => ?_, fun q hq => ?_, fun q hq => ?_, fun q hq hn => ?_, fun q hq => ?_, fun q i hq hi => ?_⟩
  · rw [zup_n (by omega)]; exact a1 q hq
  · rw [zup_n (by omega)]; exact a2 q hq
  · rw [zup_n (by omega)]; exact a3 q hq
  · rw [zup_n (by omega)]; exact a4 q hq hn
  · rw [zup_n (by omega)]; exact a5 q hq
  · rw [zup_n (by omega)]; exact a6 q i hq hi
theorem dV_mono {C P : Nat} {A : aD} (h : dV C P A) : dV (C + 1) P A := by
  obtain ⟨v1, v2, v3, v4, v5, v6⟩ := h
  exact ⟨fun q k hq hk => by have := v1 q k hq hk; omega, v2, v3, fun q i hq hi => by have := v4 q i hq hi; omega, v5, v6⟩
theorem nX_up {c : Nat} {N : Nat → List Nat} {r : Nat → Int64} (h : nX c N r) {w : List Nat} (hw : wOK w) : nX (c + 1) (zup N c w) (zup r c (lN (cv w))) := fun j hj => by
  by_cases e : j = c
  · subst e; rw [zup_s, zup_s]; exact ⟨hw, rfl⟩
  · rw [zup_n e, zup_n e]; exact h j (by omega)
theorem nM_up {fr c : Nat} {N : Nat → List Nat} {r : Nat → Int64} (h : nM fr c N r) {w : List Nat} : nM fr (c + 1) (zup N c w) (zup r (fr + c) (lN (mv w))) := fun j hj => by
  by_cases e : j = c
  · subst e; rw [zup_s, zup_s]
  · rw [zup_n (by omega), zup_n e]; exact h j (by omega)
theorem nM_out {fr c k : Nat} {N : Nat → List Nat} {r : Nat → Int64} {x : Int64} (h : nM fr c N r) (hk : k < fr ∨ fr + c ≤ k) : nM fr c N (zup r k x) := fun j hj => by
  rw [zup_n (by omega)]; exact h j hj
/-- a new name -/
theorem t_fresh {n L k v a p C P : Nat} {w : List Nat} {nC nP : Nat → List Nat} {rx rm rp h mt : Nat → Int32} {wx wm tw rs nm cn pn : Nat → Int64} (hn : n ≤ 940) (W : wE tw rs) (K : tokR n L rx wx rm wm k v w a p) (hC : C ≤ 8) (hP : P ≤ 6) (r4 : rp 4 = nI C) (r6 : rp 6 = nI P) (hX : nX C nC cn) (hXP : nX P nP pn) (h0 : h 0 = nI C) (h2 : h 2 = nI P) (hM : nM 14 C nC nm) (hMP : nM 22 P nP nm) :
    (k = 1 ∧ wOK w ∧ wx 6 = lN (cv w) ∧ fPl_needNewName rp cn pn rx wx tw = some (true, rx) ∧ ∀ to, to < 28 → fM_fresh rm wm mt h nm rs (nI to) = (fM_next rm wm mt).bind (fun y => some (true, y.1, y.2, zup nm to (lN (mv w))))) ∨
    (∃ rx' rm', ¬ rx' 8 = 0 ∧ fPl_needNewName rp cn pn rx wx tw = some (false, rx') ∧ (∀ to, fM_fresh rm wm mt h nm rs to = some (false, rm', wm, nm)) ∧ tFl rx' rm' ∧ mF rm rm') := by
  unfold fPl_needNewName fM_fresh
  rw [x_name K W.1, m_isName K W.2]
  simp only [Option.bind_some, zlet]
  by_cases e : k = 1 ∧ tW k w = 22
  · obtain ⟨w1, w2, w3⟩ := (tok_11 K).2.2 e.1
    rw [if_pos e, decide_eq_true e]
    unfold fRd_wordHere
    simp only [if_true]
    rw [w2, x_cornerN hC r4 hX w1, h0, h2]
    have s1 := m_seek (fr := 14) (c := C) (wm := wm) (by omega) (fun j hj => (hX j hj).1) hM w1 w3
    have s2 := m_seek (fr := 22) (c := P) (wm := wm) (by omega) (fun j hj => (hXP j hj).1) hMP w1 w3
    have s1' : fM_seek wm nm 14 (nI C) = _ := s1
    have s2' : fM_seek wm nm 22 (nI P) = _ := s2
    rw [s1', s2', x_personN hP r6 hXP w1]
    simp only [Option.bind_some]
    by_cases e1 : ixF nC w C 0 < C
    · right
      simp only [if_pos e1, if_neg (nI_nm1 (show ixF nC w C 0 < 2 ^ 31 by omega)), if_pos (nI_pos' (show ixF nC w C 0 < 2 ^ 31 by omega)), x_fail (tok_8 K), m_bad, Option.bind_some]
      rw [d_good (by rw [zup_s]; decide)]
      exact ⟨zup rx 8 3, _, by rw [zup_s]; decide, rfl, fun _ => rfl, t_fl (kd := 3) (rm0 := rm) K hn (by omega) (by omega), m_badF⟩
    · simp only [if_neg e1, if_neg (show ¬ (0 : Int32) ≤ -1 by decide), if_true]
      by_cases e2 : ixF nP w P 0 < P
      · right
        simp only [if_pos e2, if_neg (nI_nm1 (show ixF nP w P 0 < 2 ^ 31 by omega)), if_neg (nI_pos (show ixF nP w P 0 < 2 ^ 31 by omega)), x_fail (tok_8 K), m_bad, Option.bind_some]
        rw [d_good (by rw [zup_s]; decide)]
        exact ⟨zup rx 8 3, _, by rw [zup_s]; decide, rfl, fun _ => rfl, t_fl (kd := 3) (rm0 := rm) K hn (by omega) (by omega), m_badF⟩
      · left
        simp only [if_neg e2, if_true, if_pos (show (-1 : Int32) < 0 by decide), tok_good K]
        refine ⟨e.1, w1, trivial, trivial, fun to hto => ?_⟩
        rw [zwr_n hto (by omega), w3]
        rfl
  · right
    rw [if_neg e, decide_eq_false e, m_bad]
    simp only [Option.bind_some, Bool.false_eq_true, if_false]
    rw [d_good (by rw [zup_s]; decide)]
    exact ⟨zup rx 8 1, _, by rw [zup_s]; decide, rfl, fun _ => rfl, t_fl (kd := 1) (rm0 := rm) K hn (by omega) (by omega), m_badF⟩
theorem x_abm {C : Nat} {rp bs : Nat → Int32} {x : Int32} (hC : C ≤ 8) (r4 : rp 4 = nI C) : fPl_areBeside rp bs x (-1) = some false := by
  unfold fPl_areBeside
  rw [p_hasCorner hC r4, p_has_m, if_neg (by decide)]
theorem x_folm {le : Nat → Int32} : fDy_followedBy le (-1) = some (-1) := by
  unfold fDy_followedBy
  rw [p_mayBe, p_has_m, if_neg (by decide)]
theorem x_waym {lf : Nat → Int32} : fDy_wayLeft lf (-1) = some 0 := by
  unfold fDy_wayLeft
  rw [p_mayBe, p_has_m, if_neg (by decide)]
theorem x_begin {pl bu : Nat → Int32} {q : Nat} {v x : Int32} (hq : q < 6) : ∃ pl', fDy_begin pl bu (nI q) v x = some (pl', zup bu q x) ∧ (∀ k, k < 6 → pl' (6 * q + k) = v) ∧ ∀ j, j < 6 * q ∨ 6 * q + 6 ≤ j → pl' j = pl j := by
  unfold fDy_begin
  rw [p_mayBe, p_has_y (by omega) hq, if_pos rfl]
  refine zLP_use (body := fun t : (Nat → Int32) × Int32 => fDy_begin_L10 (nI q) v t.1 t.2) (s := (pl, 0)) (fun k t => t.2 = nI k ∧ (∀ i, i < k → t.1 (6 * q + i) = v) ∧ ∀ j, j < 6 * q ∨ 6 * q + 6 ≤ j → t.1 j = pl j) (fun r => (∀ i, i < 6 → r (6 * q + i) = v) ∧ ∀ j, j < 6 * q ∨ 6 * q + 6 ≤ j → r j = pl j) 6 ⟨rfl, fun i hi => absurd hi (by omega), fun _ _ => rfl⟩ (fun r h1 h2 => ?_) ?_ ?_
  · rw [h1]
    simp only [Option.bind_some]
    rw [zwr_n hq (by omega)]
    exact ⟨r, rfl, h2.1, h2.2⟩
  · rintro k ⟨t1, t2⟩ hk ⟨rfl, h2, h3⟩
    try dsimp only at *
    left
    unfold fDy_begin_L10
    rw [if_neg (zg6 hk), z_mul6, zwr_n (by omega) (by omega)]
    refine ⟨_, rfl, nI_1 k, fun i hi => ?_, fun j hj => ?_⟩
    · show zup t1 (6 * q + k) v (6 * q + i) = _
      by_cases e : i = k
      · subst e; rw [zup_s]
      · rw [zup_n (by omega)]; exact h2 i (by omega)
    · show zup t1 (6 * q + k) v j = _
      rw [zup_n (by omega)]; exact h3 j hj
  · rintro ⟨t1, t2⟩ ⟨rfl, h2, h3⟩
    try dsimp only at *
    refine ⟨t1, ?_, h2, h3⟩
    unfold fDy_begin_L10
    rw [if_pos (by decide)]
theorem zsm_bd {f : Nat → Nat} {n m : Nat} (h : ∀ k, k < n → f k ≤ m) : zsm f n ≤ n * m := by
  induction n with
  | zero => show 0 ≤ _; omega
  | succ n ih =>
    have h1 := ih (fun k hk => h k (by omega))
    have h2 := h n (by omega)
    rw [zsm, Nat.succ_mul]; omega
def aPer (P c v : Nat) (A : aD) : aD := (dMi A, dFo A, fun k q => if q = P then c else dW A k q, zup (dB A) P v, dA A, dH A, dM A, dY A, dL A, dP A)
theorem aPer_B {P c v : Nat} {A : aD} (h : tDB P A) (hv : v ≤ 9) : tDB (P + 1) (aPer P c v A) := by
  obtain ⟨a1, a2, a3, a4, a5, a6⟩ := h
  refine ⟨a1, a2, fun q hq => ?_, a4, a5, fun q k hq hk => ?_⟩
  · show zup (dB A) P v q ≤ 9
    by_cases e : q = P
    · rw [e, zup_s]; exact hv
    · rw [zup_n e]; exact a3 q hq
  · show (if q = P then c else dW A k q) = (if q = P then c else dW A 0 q)
    by_cases e : q = P
    · rw [if_pos e, if_pos e]
    · rw [if_neg e, if_neg e]; exact a6 q k (by omega) hk
theorem tDB_sum {P : Nat} {A : aD} (h : tDB P A) : zsm (dB A) 6 + zsm (dL A) 8 ≤ 54 := by
  have h1 := zsm_bd (f := dB A) (n := 6) (m := 9) h.2.2.1
  have h2 := zsm_bd (f := dL A) (n := 8) (m := 0) (fun k hk => by rw [h.2.2.2.1 k hk]; exact Nat.le_refl 0)
  omega
theorem aPer_V {C P c v : Nat} {A : aD} (h : dV C P A) (hB : tDB P A) (hc : c < C) (hv : v ≤ 9) : dV C (P + 1) (aPer P c v A) := by
  obtain ⟨v1, v2, v3, v4, v5, v6⟩ := h
  refine ⟨fun q k hq hk => ?_, fun q hq => ?_, fun q hq => ?_, v4, tDB_sum (aPer_B (c := c) hB hv), v6⟩
  · show (if q = P then c else dW A k q) < C
    by_cases e : q = P
    · rw [if_pos e]; exact hc
    · rw [if_neg e]; exact v1 q k (by omega) hk
  · have := v2 q hq
    exact ⟨by show dA A q ≤ P + 1; omega, fun h => by have := this.2 h; exact ⟨by omega, this.2⟩⟩
  · have := v3 q hq
    exact ⟨this.1, fun h => by have := this.2 h; omega⟩
section LN
variable {n L v a p C S P : Nat} {b B : Nat → Nat} {w : List Nat} {nC nP : Nat → List Nat} {A : aD} {tp tb mt rx rm rp bs f pl bu le di wa lf ly pr h : Nat → Int32} {wx wm tw rs nm cn pn : Nat → Int64}
theorem l_corner (E : tE n L b tp tb mt) (W : wE tw rs) (K : tokR n L rx wx rm wm 1 v w a p) (T : tT C S P B nC nP A rp bs cn pn f pl bu le di wa lf ly pr h nm) :
    ∃ rp' cn' rx' wx' ok rm' wm' h' nm', fPl_readCorner rp cn pn rx wx tp tb tw = some (rp', cn', rx', wx') ∧ fM_readCorner rm wm mt h nm rs = some (ok, rm', wm', h', nm') ∧ mF rm rm' ∧ (∀ k, k < 14 → nm' k = nm k) ∧ ((ok = true ∧ tOk n L a rx' wx' rm' wm' ∧ ∃ nC', tT (C + 1) S P B nC' nP A rp' bs cn' pn f pl bu le di wa lf ly pr h' nm') ∨ (ok = false ∧ tFl rx' rm' ∧ rp' = rp)) := by
  obtain ⟨⟨hC, hS, hP, r4, r5, r6, hb, hBC, hX, hXP⟩, ⟨h0, h1, h2, h3, hM, hMP⟩, hD, hDB, hV, hd⟩ := T
  unfold fPl_readCorner fM_readCorner
  simp only [zlet]
  rw [r4, h0]
  by_cases e : C = 8
  · rw [if_neg (show ¬ nI C < 8 from nI_nlt (b := 8) (by omega) (by omega)), if_pos ((nI_k8 (by omega)).mpr e), x_fail (tok_8 K), m_bad]
    simp only [Option.bind_some]
    exact ⟨_, _, _, _, _, _, _, _, _, rfl, rfl, m_badF, fun _ _ => rfl, Or.inr ⟨rfl, t_fl (kd := 4) (rm0 := rm) K E.1.1 (by omega) (by omega), rfl⟩⟩
  · rw [if_pos (show nI C < 8 from nI_lt (b := 8) (by omega) (by omega)), if_neg (fun h => e ((nI_k8 (by omega)).mp h))]
    obtain ⟨rx1, wx1, rm1, wm1, g1, g2, ⟨k1, v1, w1, a1, p1, K1, ha⟩, g4⟩ := t_go E K (Or.inl rfl)
    rw [g1, g2]
    simp only [Option.bind_some]
    rcases t_fresh (mt := mt) E.1.1 W K1 hC hP r4 r6 hX hXP h0 h2 hM hMP with ⟨f1, f2, f3, f4, f5⟩ | ⟨rx', rm', f1, f2, f3, f4, f5⟩
    · obtain ⟨rx2, wx2, rm2, wm2, u1, u2, ⟨k2, v2, w2, a2, p2, K2, ha2⟩, u4⟩ := t_go E K1 (Or.inl f1)
      have f5' := f5 (14 + C) (by omega)
      rw [f4, show (14 : Int32) + nI C = nI (14 + C) from nI_add 14 C, f5', u2]
      unfold fRd_wordHere
      simp only [Option.bind_some, if_true]
      rw [zwr_n (by omega) (by omega), f3]
      simp only [Option.bind_some]
      rw [u1]
      simp only [Option.bind_some, nI_1]
      refine ⟨_, _, _, _, _, _, _, _, _, rfl, rfl, mF_trans (mG_F g4) (mG_F u4), fun k hk => zup_n (by omega), Or.inl ⟨rfl, ⟨k2, v2, w2, a2, p2, K2, by omega⟩, zup nC C w1, ⟨by omega, hS, hP, zup_s, ?_, ?_, hb, fun c hc x hx => ?_, nX_up hX f2, hXP⟩, ⟨zup_s, ?_, ?_, fun c hc => ?_, nM_up hM, nM_out hMP (by omega)⟩, tDM_up hD (by omega), hDB, dV_mono hV, hd⟩⟩
      · rw [zup_n (by omega)]; exact r5
      · rw [zup_n (by omega)]; exact r6
      · have := hBC c hc x hx; omega
      · rw [zup_n (by omega)]; exact h1
      · rw [zup_n (by omega)]; exact h2
      · rw [zup_n (by omega)]; exact h3 c hc
    · rw [f2, f3]
      simp only [Option.bind_some, Bool.false_eq_true, if_false]
      rw [d_go f1]
      exact ⟨_, _, _, _, _, _, _, _, _, rfl, rfl, mF_trans (mG_F g4) f5, fun _ _ => rfl, Or.inr ⟨rfl, f4, rfl⟩⟩
theorem l_street (E : tE n L b tp tb mt) (W : wE tw rs) (K : tokR n L rx wx rm wm 1 v w a p) (T : tT C S P B nC nP A rp bs cn pn f pl bu le di wa lf ly pr h nm) :
    ∃ rp' bs' rx' wx' ok rm' wm' h', fPl_readStreet rp cn bs rx wx tp tb tw = some (rp', bs', rx', wx') ∧ fM_readStreet rm wm mt h nm rs = some (ok, rm', wm', h') ∧ mF rm rm' ∧ ((ok = true ∧ tOk n L a rx' wx' rm' wm' ∧ ∃ B', tT C (S + 1) P B' nC nP A rp' bs' cn pn f pl bu le di wa lf ly pr h' nm) ∨ (ok = false ∧ tFl rx' rm' ∧ rp' = rp ∧ bs' = bs)) := by
  obtain ⟨⟨hC, hS, hP, r4, r5, r6, hb, hBC, hX, hXP⟩, ⟨h0, h1, h2, h3, hM, hMP⟩, hD, hDB, hV, hd⟩ := T
  unfold fPl_readStreet fM_readStreet
  simp only [zlet]
  rw [r5, h1]
  by_cases e : S = 14
  · rw [if_neg (show ¬ nI S < 14 from nI_nlt (b := 14) (by omega) (by omega)), if_pos (by rw [e]; rfl), x_fail (tok_8 K), m_bad]
    simp only [Option.bind_some]
    exact ⟨_, _, _, _, _, _, _, _, rfl, rfl, m_badF, Or.inr ⟨rfl, t_fl (kd := 4) (rm0 := rm) K E.1.1 (by omega) (by omega), rfl, rfl⟩⟩
  · rw [if_pos (show nI S < 14 from nI_lt (b := 14) (by omega) (by omega)), if_neg (show ¬ nI S = 14 from fun h => e ((nI_eq (b := 14) (by omega) (by omega)).mp h))]
    obtain ⟨rx1, wx1, rm1, wm1, g1, g2, ⟨k1, v1, w1, a1, p1, K1, ha⟩, g4⟩ := t_go E K (Or.inl rfl)
    rw [g1, g2, h0]
    simp only [Option.bind_some]
    unfold fM_takesName
    rcases t_corner (fr := 14) E.1.1 W K1 hC r4 hX (by omega) hM with ⟨c, c1, c2, c3, c4⟩ | ⟨rx', rm', f1, f2, f3, f4, f5⟩
    · have c4' : fM_looksAt rm1 wm1 nm rs 14 (nI C) = _ := c4
      rw [c3, c4']
      obtain ⟨rx2, wx2, rm2, wm2, u1, u2, ⟨k2, v2, w2, a2, p2, K2, ha2⟩, u4⟩ := t_go E (tokR_up K1 (j := 18) (x := nI c) (by omega)) (Or.inl c2)
      simp only [Option.bind_some, if_true]
      rw [u1, u2]
      simp only [Option.bind_some, if_true]
      rw [show rm2 18 = nI c by rw [u4 18 (by omega), zup_s]]
      have hF2 : mF rm rm2 := mF_trans (mG_F g4) (mF_trans (mF_up mF_rfl (by omega)) (mG_F u4))
      rcases t_corner (fr := 14) E.1.1 W K2 hC r4 hX (by omega) hM with ⟨d, d1, d2, d3, d4⟩ | ⟨rx', rm', f1, f2, f3, f4, f5⟩
      · have d4' : fM_looksAt rm2 wm2 nm rs 14 (nI C) = _ := d4
        rw [d3, d4']
        simp only [Option.bind_some, if_true, zup_s]
        have hBc := p_BC_lt hC hBC (show c < 8 by omega)
        have hBd := p_BC_lt hC hBC (show d < 8 by omega)
        have hK3 := tokR_up K2 (j := 18) (x := nI d) (by omega)
        have zh : ∀ x, x < 8 → zrd h 89 (3 + nI x) = some (nI (B x)) := fun x hx => by rw [z_3a, zrd_n (by omega) (by omega), h3 x hx]
        have zx : ∀ x, x < 8 → zrd bs 8 (nI x) = some (nI (B x)) := fun x hx => by rw [zrd_n hx (by omega), hb x hx]
        by_cases ecd : c = d
        · rw [if_pos (by rw [ecd]), if_pos (by rw [ecd]), x_fail (tok_8 K2), m_bad]
          simp only [Option.bind_some]
          rw [d_go (by rw [zup_s]; decide)]
          simp only [Option.bind_some]
          rw [d_good (by rw [zup_s]; decide), if_neg (by decide)]
          exact ⟨_, _, _, _, _, _, _, _, rfl, rfl, mF_trans hF2 (mF_trans (mF_up mF_rfl (by omega)) m_badF), Or.inr ⟨rfl, t_fl (kd := 3) (rm0 := rm) hK3 E.1.1 (by omega) (by omega), rfl, rfl⟩⟩
        · rw [if_neg (fun h => ecd ((nI_eq (by omega) (by omega)).mp h)), if_neg (fun h => ecd ((nI_eq (by omega) (by omega)).mp h).symm), p_areBeside hC r4 hb hBC c1 d1, zh c (by omega)]
          simp only [Option.bind_some]
          rw [z_bo hBc (by omega)]
          cases eb : (B c).testBit d with
          | true =>
            rw [if_pos rfl, if_pos rfl, x_fail (tok_8 K2), m_bad]
            simp only [Option.bind_some]
            rw [d_go (by rw [zup_s]; decide)]
            simp only [Option.bind_some]
            rw [d_good (by rw [zup_s]; decide), if_neg (by decide)]
            exact ⟨_, _, _, _, _, _, _, _, rfl, rfl, mF_trans hF2 (mF_trans (mF_up mF_rfl (by omega)) m_badF), Or.inr ⟨rfl, t_fl (kd := 3) (rm0 := rm) hK3 E.1.1 (by omega) (by omega), rfl, rfl⟩⟩
          | false =>
            rw [if_neg (by decide), if_neg (by decide)]
            obtain ⟨rx3, wx3, rm3, wm3, y1, y2, ⟨k3, v3, w3, a3, p3, K3, ha3⟩, y4⟩ := t_go E hK3 (Or.inl d2)
            rw [y1, y2]
            simp only [Option.bind_some]
            rw [tok_good K3, if_pos rfl, p_hasCorner hC r4, p_hasCorner hC r4, p_has_y (by omega) c1, p_has_y (by omega) d1, if_pos rfl, if_pos rfl, zx c (by omega)]
            simp only [Option.bind_some, z_orb (show d < 31 by omega), z_3a]
            rw [zwr_n (f := bs) (by omega) (by omega), zwr_n (f := h) (by omega) (by omega)]
            simp only [Option.bind_some]
            rw [zrd_n (f := zup bs c _) (by omega) (by omega), zrd_n (f := zup h (3 + c) _) (by omega) (by omega), zup_n (fun h => ecd h.symm), zup_n (show 3 + d ≠ 3 + c by omega), hb d (by omega), h3 d (by omega)]
            simp only [Option.bind_some, z_orb (show c < 31 by omega)]
            rw [zwr_n (f := zup bs c _) (by omega) (by omega), zwr_n (f := zup h (3 + c) _) (by omega) (by omega)]
            simp only [Option.bind_some]
            have e1 : zup (zup h (3 + c) (nI (B c ||| 2 ^ d))) (3 + d) (nI (B d ||| 2 ^ c)) 1 = nI S := by rw [zup_n (by omega), zup_n (by omega)]; exact h1
            rw [e1, nI_1]
            refine ⟨_, _, _, _, _, _, _, _, rfl, rfl, mF_trans hF2 (mF_trans (mF_up mF_rfl (by omega)) (mG_F y4)), Or.inl ⟨rfl, ⟨k3, v3, w3, a3, p3, K3, by omega⟩, zup (zup B c (B c ||| 2 ^ d)) d (B d ||| 2 ^ c), ⟨hC, by omega, hP, ?_, zup_s, ?_, fun x hx => ?_, fun x hx y hy => ?_, hX, hXP⟩, ⟨?_, zup_s, ?_, fun x hx => ?_, hM, hMP⟩, tDM_up (tDM_up (tDM_up hD (by omega)) (by omega)) (by omega), hDB, hV, hd⟩⟩
            · rw [zup_n (by omega)]; exact r4
            · rw [zup_n (by omega)]; exact r6
            · by_cases x1 : x = d
              · subst x1; rw [zup_s, zup_s]
              · rw [zup_n x1, zup_n x1]
                by_cases x2 : x = c
                · subst x2; rw [zup_s, zup_s]
                · rw [zup_n x2, zup_n x2]; exact hb x hx
            · by_cases x1 : x = d
              · subst x1
                rw [zup_s, Nat.testBit_or, Bool.or_eq_true, Nat.testBit_two_pow, decide_eq_true_eq] at hy
                rcases hy with hy | hy
                · exact hBC x hx y hy
                · omega
              · rw [zup_n x1] at hy
                by_cases x2 : x = c
                · subst x2
                  rw [zup_s, Nat.testBit_or, Bool.or_eq_true, Nat.testBit_two_pow, decide_eq_true_eq] at hy
                  rcases hy with hy | hy
                  · exact hBC x hx y hy
                  · omega
                · rw [zup_n x2] at hy; exact hBC x hx y hy
            · rw [zup_n (by omega), zup_n (by omega), zup_n (by omega)]; exact h0
            · rw [zup_n (by omega), zup_n (by omega), zup_n (by omega)]; exact h2
            · rw [zup_n (by omega)]
              by_cases x1 : x = d
              · subst x1; rw [zup_s, zup_s]
              · rw [zup_n (by omega), zup_n x1]
                by_cases x2 : x = c
                · subst x2; rw [zup_s, zup_s]
                · rw [zup_n (by omega), zup_n x2]; exact h3 x hx
      · have f3' : fM_looksAt rm2 wm2 nm rs 14 (nI C) = _ := f3
        rw [f2, f3']
        simp only [Option.bind_some, Bool.false_eq_true, if_false]
        rw [if_neg (nI_nm1 (by omega)), x_abm hC r4, d_go f1]
        simp only [Option.bind_some, Bool.false_eq_true, if_false]
        rw [d_good f1, if_neg (by decide)]
        exact ⟨_, _, _, _, _, _, _, _, rfl, rfl, mF_trans hF2 f5, Or.inr ⟨rfl, f4, rfl, rfl⟩⟩
    · have f3' : fM_looksAt rm1 wm1 nm rs 14 (nI C) = _ := f3
      rw [f2, f3']
      simp only [Option.bind_some, Bool.false_eq_true, if_false]
      rw [d_go f1]
      simp only [Option.bind_some]
      rw [d_corner f1]
      simp only [Option.bind_some, if_true]
      rw [d_fail f1]
      simp only [Option.bind_some]
      rw [d_go f1]
      simp only [Option.bind_some]
      rw [d_good f1, if_neg (by decide)]
      exact ⟨_, _, _, _, _, _, _, _, rfl, rfl, mF_trans (mG_F g4) f5, Or.inr ⟨rfl, f4, rfl, rfl⟩⟩
theorem l_person (E : tE n L b tp tb mt) (W : wE tw rs) (K : tokR n L rx wx rm wm 1 v w a p) (T : tT C S P B nC nP A rp bs cn pn f pl bu le di wa lf ly pr h nm) :
    ∃ rp' pn' rx' wx' pl' bu' ok rm' wm' h' nm', fPl_readPerson rp cn pn rx wx tp tb tw pl bu = some (rp', pn', rx', wx', pl', bu') ∧ fM_readPerson rm wm mt h nm rs = some (ok, rm', wm', h', nm') ∧ mF rm rm' ∧ (∀ k, k < 14 → nm' k = nm k) ∧ ((ok = true ∧ tOk n L a rx' wx' rm' wm' ∧ ∃ nP' A', tT C S (P + 1) B nC nP' A' rp' bs cn pn' f pl' bu' le di wa lf ly pr h' nm') ∨ (ok = false ∧ tFl rx' rm' ∧ rp' = rp)) := by
  obtain ⟨⟨hC, hS, hP, r4, r5, r6, hb, hBC, hX, hXP⟩, ⟨h0, h1, h2, h3, hM, hMP⟩, hD, hDB, hV, hd⟩ := T
  unfold fPl_readPerson fM_readPerson
  simp only [zlet]
  rw [r6, h2]
  by_cases e : P = 6
  · rw [if_neg (show ¬ nI P < 6 from nI_nlt (b := 6) (by omega) (by omega)), if_pos (by rw [e]; rfl), x_fail (tok_8 K), m_bad]
    simp only [Option.bind_some]
    exact ⟨_, _, _, _, _, _, _, _, _, _, _, rfl, rfl, m_badF, fun _ _ => rfl, Or.inr ⟨rfl, t_fl (kd := 4) (rm0 := rm) K E.1.1 (by omega) (by omega), rfl⟩⟩
  · have hP5 : P < 6 := by omega
    rw [if_pos (show nI P < 6 from nI_lt (b := 6) (by omega) (by omega)), if_neg (show ¬ nI P = 6 from fun h => e ((nI_eq (b := 6) (by omega) (by omega)).mp h))]
    obtain ⟨rx1, wx1, rm1, wm1, g1, g2, ⟨k1, v1, w1, a1, p1, K1, ha⟩, g4⟩ := t_go E K (Or.inl rfl)
    rw [g1, g2]
    simp only [Option.bind_some]
    rcases t_fresh (mt := mt) E.1.1 W K1 hC hP r4 r6 hX hXP h0 h2 hM hMP with ⟨f1, f2, f3, f4, f5⟩ | ⟨rx', rm', f1, f2, f3, f4, f5⟩
    · obtain ⟨rx2, wx2, rm2, wm2, u1, u2, ⟨k2, v2, w2, a2, p2, K2, ha2⟩, u4⟩ := t_go E K1 (Or.inl f1)
      have f5' := f5 (22 + P) (by omega)
      rw [f4, show (22 : Int32) + nI P = nI (22 + P) from nI_add 22 P, f5', u2]
      unfold fRd_wordHere
      simp only [Option.bind_some, if_true]
      rw [u1]
      simp only [Option.bind_some]
      have hF2 : mF rm rm2 := mF_trans (mG_F g4) (mG_F u4)
      have hM' : nM 14 C nC (zup nm (22 + P) (lN (mv w1))) := nM_out hM (by omega)
      unfold fM_takesName
      rw [h0]
      rcases t_corner (fr := 14) E.1.1 W K2 hC r4 hX (by omega) hM' with ⟨c, c1, c2, c3, c4⟩ | ⟨rx', rm', f1', f2', f3', f4', f5''⟩
      · have c4' : fM_looksAt rm2 wm2 (zup nm (22 + P) (lN (mv w1))) rs 14 (nI C) = _ := c4
        rw [c3, c4']
        obtain ⟨rx3, wx3, rm3, wm3, y1, y2, ⟨k3, v3, w3, a3, p3, K3, ha3⟩, y4⟩ := t_go E (tokR_up K2 (j := 18) (x := nI c) (by omega)) (Or.inl c2)
        simp only [Option.bind_some, if_true]
        rw [y1, y2]
        simp only [Option.bind_some, if_true]
        rw [show rm3 18 = nI c by rw [y4 18 (by omega), zup_s], show (11 : Int32) + nI P = nI (11 + P) from nI_add 11 P, zwr_n (f := h) (by omega) (by omega)]
        simp only [Option.bind_some]
        have hF3 : mF rm rm3 := mF_trans hF2 (mF_trans (mF_up mF_rfl (by omega)) (mG_F y4))
        unfold fM_puts
        rcases t_number (lo := 0) (hi := 9) E K3 (by omega) (by omega) with ⟨n1, n2, rx4, wx4, rm4, wm4, n3, n4, n5, ⟨k4, v4, w4, a4, p4, K4, ha4⟩, n7⟩ | ⟨x, rx', rm', q1, q2, q3, q4, q5⟩
        · have n3' : fRd_takeNumber rx3 wx3 tp tb 0 9 = _ := n3
          have n4' : fM_takes rm3 wm3 mt 0 9 = _ := n4
          rw [n3', n4']
          simp only [Option.bind_some, if_true]
          rw [tok_good K4, if_pos rfl, n5, show (17 : Int32) + nI P = nI (17 + P) from nI_add 17 P, zwr_n (f := zup h (11 + P) (nI c)) (by omega) (by omega), zwr_n (f := pn) (by omega) (by omega), f3]
          simp only [Option.bind_some]
          obtain ⟨pl', b1, b2, b3⟩ := x_begin (pl := pl) (bu := bu) (v := nI c) (x := nI v3) hP5
          rw [b1]
          simp only [Option.bind_some, if_true]
          have e2 : zup (zup h (11 + P) (nI c)) (17 + P) (nI v3) 2 = nI P := by rw [zup_n (by omega), zup_n (by omega)]; exact h2
          rw [e2, nI_1]
          obtain ⟨z1, z2, z3, z4, z5, z6⟩ := hD
          obtain ⟨x1, x2, x3, x4, x5, x6, x7, x8, x9, x10⟩ := hd
          refine ⟨_, _, _, _, _, _, _, _, _, _, _, rfl, rfl, mF_trans hF3 n7, fun k hk => zup_n (by omega), Or.inl ⟨rfl, ⟨k4, v4, w4, a4, p4, K4, by omega⟩, zup nP P w1, aPer P c v3 A, ⟨hC, hS, by omega, ?_, ?_, zup_s, hb, hBC, hX, nX_up hXP f2⟩, ⟨?_, ?_, zup_s, fun c hc => ?_, hM', nM_up hMP⟩, ⟨fun q hq => ?_, fun q hq => ?_, fun q hq => ?_, fun q hq hn => ?_, fun q hq => ?_, fun q i hq hi => ?_⟩, aPer_B hDB n2, aPer_V hV hDB c1 n2, ⟨x1, x2, fun q k hq hk => ?_, xN_up x4, x5, x6, x7, x8, x9, x10⟩⟩⟩
          · rw [zup_n (by omega)]; exact r4
          · rw [zup_n (by omega)]; exact r5
          · rw [zup_n (by omega), zup_n (by omega), zup_n (by omega)]; exact h0
          · rw [zup_n (by omega), zup_n (by omega), zup_n (by omega)]; exact h1
          · rw [zup_n (by omega), zup_n (by omega), zup_n (by omega)]; exact h3 c hc
          · rw [zup_n (by omega), zup_n (by omega)]
            show zup h (11 + P) (nI c) (11 + q) = nI (if q = P then c else dW A 0 q)
            by_cases e : q = P
            · rw [e, zup_s, if_pos rfl]
            · rw [zup_n (by omega), if_neg e]; exact z1 q (by omega)
          · rw [zup_n (by omega)]
            show zup (zup h (11 + P) (nI c)) (17 + P) (nI v3) (17 + q) = nI (zup (dB A) P v3 q)
            by_cases e : q = P
            · rw [e, zup_s, zup_s]
            · rw [zup_n (by omega), zup_n (by omega), zup_n e]; exact z2 q hq
          · rw [zup_n (by omega), zup_n (by omega), zup_n (by omega)]; exact z3 q hq
          · rw [zup_n (by omega), zup_n (by omega), zup_n (by omega)]; exact z4 q hq hn
          · rw [zup_n (by omega), zup_n (by omega), zup_n (by omega)]; exact z5 q hq
          · rw [zup_n (by omega), zup_n (by omega), zup_n (by omega)]; exact z6 q i hq hi
          · show pl' (6 * q + k) = if q < P + 1 then nI (if q = P then c else dW A k q) else -1
            by_cases e : q = P
            · subst e; rw [if_pos (by omega), if_pos rfl]; exact b2 k hk
            · rw [b3 _ (by omega), x3 q k hq hk, zlt_s e]
              by_cases e5 : q < P
              · rw [if_pos e5, if_pos e5, if_neg e]
              · rw [if_neg e5, if_neg e5]
        · have q2' : fRd_takeNumber rx3 wx3 tp tb 0 9 = _ := q2
          have q3' : fM_takes rm3 wm3 mt 0 9 = _ := q3
          rw [q2', q3']
          simp only [Option.bind_some, Bool.false_eq_true, if_false]
          rw [d_good q1, if_neg (by decide)]
          exact ⟨_, _, _, _, _, _, _, _, _, _, _, rfl, rfl, mF_trans hF3 q5, fun k hk => zup_n (by omega), Or.inr ⟨rfl, q4, rfl⟩⟩
      · have f3'' : fM_looksAt rm2 wm2 (zup nm (22 + P) (lN (mv w1))) rs 14 (nI C) = _ := f3'
        rw [f2', f3'']
        simp only [Option.bind_some, Bool.false_eq_true, if_false]
        rw [d_go f1']
        simp only [Option.bind_some]
        rw [d_number f1']
        simp only [Option.bind_some]
        rw [d_good f1', if_neg (by decide)]
        exact ⟨_, _, _, _, _, _, _, _, _, _, _, rfl, rfl, mF_trans hF2 f5'', fun k hk => zup_n (by omega), Or.inr ⟨rfl, f4', rfl⟩⟩
    · rw [f2, f3]
      simp only [Option.bind_some, Bool.false_eq_true, if_false]
      rw [d_go f1]
      simp only [Option.bind_some]
      rw [d_corner f1]
      simp only [Option.bind_some]
      rw [d_go f1]
      simp only [Option.bind_some]
      rw [d_number f1]
      simp only [Option.bind_some]
      rw [d_good f1, if_neg (by decide)]
      exact ⟨_, _, _, _, _, _, _, _, _, _, _, rfl, rfl, mF_trans (mG_F g4) f5, fun _ _ => rfl, Or.inr ⟨rfl, f4, rfl⟩⟩
end LN
