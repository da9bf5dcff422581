/-! ===== a town ===== -/
section LN
variable {n L v a p C S P : Nat} {b B : Nat → Nat} {w : List Nat} {nC nP : Nat → List Nat} {A : aD} {tp tb mt rx rm rp bs f pl bu le di wa lf ly pr h : Nat → Int32} {wx wm tw rs nm cn pn : Nat → Int64}
theorem tW_1 {k : Nat} {w : List Nat} (h : tW k w < 22) : k = 1 := by
  unfold tW at h
  by_cases e : k = 1
  · exact e
  · rw [if_neg e] at h; omega
theorem l_line {k : Nat} (E : tE n L b tp tb mt) (W : wE tw rs) (K : tokR n L rx wx rm wm k v w a p) (T : tT C S P B nC nP A rp bs cn pn f pl bu le di wa lf ly pr h nm) :
    ∃ rp' cn' pn' bs' rx' wx' pl' bu' le' di' wa' lf' ok rm' wm' h' nm', fPl_readLine rp cn pn bs rx wx tp tb tw pl bu le di wa lf = some (rp', cn', pn', bs', rx', wx', pl', bu', le', di', wa', lf') ∧ fM_readLine rm wm mt h nm rs = some (ok, rm', wm', h', nm') ∧ mF rm rm' ∧ (∀ k, k < 14 → nm' k = nm k) ∧ ((ok = true ∧ tOk n L a rx' wx' rm' wm' ∧ ∃ C' S' P' B' nC' nP' A', tT C' S' P' B' nC' nP' A' rp' bs' cn' pn' f pl' bu' le' di' wa' lf' ly pr h' nm') ∨ (ok = false ∧ tFl rx' rm' ∧ rp' = rp ∧ bs' = bs)) := by
  have ht := tW_le k w
  unfold fPl_readLine fM_readLine
  rw [x_told K W.1, m_isW K (j := 0) (by omega) (by decide), m_isW K (j := 1) (by omega) (by decide), m_isW K (j := 2) (by omega) (by decide), m_isW K (j := 3) (by omega) (by decide), m_isW K (j := 4) (by omega) (by decide)]
  simp only [Option.bind_some, decide_eq_true_eq]
  have hx : ∀ j, j < 22 → ((if tW k w < 22 then nI (tW k w) else -1) = nI j ↔ tW k w = j) := fun j hj => by
    by_cases e : tW k w < 22
    · rw [if_pos e, nI_eq (by omega) (by omega)]
    · rw [if_neg e]
      constructor
      · intro h; exact absurd h.symm (nI_nm1 (by omega))
      · intro h; omega
  have hx0 : (if tW k w < 22 then nI (tW k w) else -1) = 0 ↔ tW k w = 0 := hx 0 (by omega)
  have hx1 : (if tW k w < 22 then nI (tW k w) else -1) = 1 ↔ tW k w = 1 := hx 1 (by omega)
  have hx2 : (if tW k w < 22 then nI (tW k w) else -1) = 2 ↔ tW k w = 2 := hx 2 (by omega)
  have hx3 : (if tW k w < 22 then nI (tW k w) else -1) = 3 ↔ tW k w = 3 := hx 3 (by omega)
  have hx4 : (if tW k w < 22 then nI (tW k w) else -1) = 4 ↔ tW k w = 4 := hx 4 (by omega)
  by_cases e0 : tW k w = 0
  · have hk := tW_1 (k := k) (w := w) (by omega)
    rw [if_pos (hx0.mpr e0), if_pos e0]
    subst hk
    obtain ⟨rp', cn', rx', wx', ok, rm', wm', h', nm', q1, q2, q3, q5, q4⟩ := l_corner E W K T
    rw [q1, q2]
    refine ⟨_, _, _, _, _, _, _, _, _, _, _, _, _, _, _, _, _, rfl, rfl, q3, q5, ?_⟩
    rcases q4 with ⟨o1, o2, nC', o3⟩ | ⟨o1, o2, o3⟩
    · exact Or.inl ⟨o1, o2, _, _, _, _, _, _, _, o3⟩
    · exact Or.inr ⟨o1, o2, o3, rfl⟩
  rw [if_neg (fun h => e0 (hx0.mp h)), if_neg e0]
  by_cases e1 : tW k w = 1
  · have hk := tW_1 (k := k) (w := w) (by omega)
    rw [if_pos (hx1.mpr e1), if_pos e1]
    subst hk
    obtain ⟨rp', bs', rx', wx', ok, rm', wm', h', q1, q2, q3, q4⟩ := l_street E W K T
    rw [q1, q2]
    refine ⟨_, _, _, _, _, _, _, _, _, _, _, _, _, _, _, _, _, rfl, rfl, q3, fun _ _ => rfl, ?_⟩
    rcases q4 with ⟨o1, o2, nC', o3⟩ | ⟨o1, o2, o3, o4⟩
    · exact Or.inl ⟨o1, o2, _, _, _, _, _, _, _, o3⟩
    · exact Or.inr ⟨o1, o2, o3, o4⟩
  rw [if_neg (fun h => e1 (hx1.mp h)), if_neg e1]
  by_cases e2 : tW k w = 2
  · have hk := tW_1 (k := k) (w := w) (by omega)
    rw [if_pos (hx2.mpr e2), if_pos e2]
    subst hk
    obtain ⟨rp', pn', rx', wx', pl', bu', ok, rm', wm', h', nm', q1, q2, q3, q5, q4⟩ := l_person E W K T
    rw [q1, q2]
    refine ⟨_, _, _, _, _, _, _, _, _, _, _, _, _, _, _, _, _, rfl, rfl, q3, q5, ?_⟩
    rcases q4 with ⟨o1, o2, nP', A', o3⟩ | ⟨o1, o2, o3⟩
    · exact Or.inl ⟨o1, o2, _, _, _, _, _, _, _, o3⟩
    · exact Or.inr ⟨o1, o2, o3, rfl⟩
  rw [if_neg (fun h => e2 (hx2.mp h)), if_neg e2]
  by_cases e3 : tW k w = 3
  · have hk := tW_1 (k := k) (w := w) (by omega)
    rw [if_pos (hx3.mpr e3), if_pos e3]
    subst hk
    obtain ⟨rx', wx', wa', lf', ok, rm', wm', h', q1, q2, q3, q4⟩ := l_next E W K T
    rw [q1, q2]
    refine ⟨_, _, _, _, _, _, _, _, _, _, _, _, _, _, _, _, _, rfl, rfl, q3, fun _ _ => rfl, ?_⟩
    rcases q4 with ⟨o1, o2, A', o3⟩ | ⟨o1, o2⟩
    · exact Or.inl ⟨o1, o2, _, _, _, _, _, _, _, o3⟩
    · exact Or.inr ⟨o1, o2, rfl, rfl⟩
  rw [if_neg (fun h => e3 (hx3.mp h)), if_neg e3]
  by_cases e4 : tW k w = 4
  · have hk := tW_1 (k := k) (w := w) (by omega)
    rw [if_pos (hx4.mpr e4), if_pos e4]
    subst hk
    obtain ⟨rx', wx', le', di', lf', ok, rm', wm', h', q1, q2, q3, q4⟩ := l_follows E W K T
    rw [q1, q2]
    refine ⟨_, _, _, _, _, _, _, _, _, _, _, _, _, _, _, _, _, rfl, rfl, q3, fun _ _ => rfl, ?_⟩
    rcases q4 with ⟨o1, o2, A', o3⟩ | ⟨o1, o2⟩
    · exact Or.inl ⟨o1, o2, _, _, _, _, _, _, _, o3⟩
    · exact Or.inr ⟨o1, o2, rfl, rfl⟩
  rw [if_neg (fun h => e4 (hx4.mp h)), if_neg e4, x_fail (tok_8 K), m_bad]
  exact ⟨_, _, _, _, _, _, _, _, _, _, _, _, _, _, _, _, _, rfl, rfl, m_badF, fun _ _ => rfl, Or.inr ⟨rfl, t_fl (kd := 1) (rm0 := rm) K E.1.1 (by omega) (by omega), rfl, rfl⟩⟩
end LN
def mF2 (rm rm' : Nat → Int32) : Prop := ∀ j, j < 4 ∨ 20 ≤ j → rm' j = rm j
theorem mF2_of {r s : Nat → Int32} (h : mF r s) : mF2 r s := fun j hj => h j (by omega)
theorem mF2_trans {r s t : Nat → Int32} (h : mF2 r s) (g : mF2 s t) : mF2 r t := fun j hj => (g j hj).trans (h j hj)
theorem mF2_up {r s : Nat → Int32} (h : mF2 r s) {k : Nat} {v : Int32} (hk : 4 ≤ k ∧ k < 20) : mF2 r (zup s k v) := fun j hj => by rw [zup_n (by omega)]; exact h j hj
theorem tok_end {n L k v a p : Nat} {w : List Nat} {rx rm : Nat → Int32} {wx wm : Nat → Int64} (h : tokR n L rx wx rm wm k v w a p) : fRd_atEnd rx = decide (k = 0) := by
  unfold fRd_atEnd
  by_cases e : k = 0
  · rw [if_pos ((tok_kx h).2.2.1.mpr e), decide_eq_true e]
  · rw [if_neg (fun h' => e ((tok_kx h).2.2.1.mp h')), decide_eq_false e]
abbrev tSX : Type := (Nat → Int32) × (Nat → Int64) × (Nat → Int64) × (Nat → Int32) × (Nat → Int32) × (Nat → Int64) × (Nat → Int32) × (Nat → Int32) × (Nat → Int32) × (Nat → Int32) × (Nat → Int32) × (Nat → Int32) × Int32
abbrev tSM : Type := (Nat → Int32) × (Nat → Int64) × (Nat → Int32) × (Nat → Int64)
noncomputable abbrev tBX (tp tb : Nat → Int32) (tw : Nat → Int64) : tSX → Option (tSX ⊕ tSX) := fun s => fPl_readFrom_L15 tp tb tw s.1 s.2.1 s.2.2.1 s.2.2.2.1 s.2.2.2.2.1 s.2.2.2.2.2.1 s.2.2.2.2.2.2.1 s.2.2.2.2.2.2.2.1 s.2.2.2.2.2.2.2.2.1 s.2.2.2.2.2.2.2.2.2.1 s.2.2.2.2.2.2.2.2.2.2.1 s.2.2.2.2.2.2.2.2.2.2.2.1 s.2.2.2.2.2.2.2.2.2.2.2.2
noncomputable abbrev tBM (mt s0 ap : Nat → Int32) (rs : Nat → Int64) : tSM → Option (tSM ⊕ (tSM ⊕ (Int32 × (Nat → Int32) × (Nat → Int64) × (Nat → Int32) × (Nat → Int32) × (Nat → Int64) × (Nat → Int32)))) := fun s => fM_town_L30 mt s0 rs ap s.1 s.2.1 s.2.2.1 s.2.2.2
theorem l_loop {n : Nat} {b : Nat → Nat} {tp tb mt s0 ap : Nat → Int32} {tw rs : Nat → Int64} (E : tE n 900 b tp tb mt) (W : wE tw rs) (f ly pr : Nat → Int32) :
    ∀ fu j k v a p C S P (w : List Nat) (B : Nat → Nat) (nC nP : Nat → List Nat) (A : aD) (rx rm rp bs pl bu le di wa lf h : Nat → Int32) (wx wm nm cn pn : Nat → Int64), tokR n 900 rx wx rm wm k v w a p → tT C S P B nC nP A rp bs cn pn f pl bu le di wa lf ly pr h nm → 2 * j ≤ a → 940 < fu + a → rm 19 = nI j →
      (∃ j' rp' cn' pn' bs' rx' wx' pl' bu' le' di' wa' lf' rm' wm' h' nm' C' S' P' B' nC' nP' A', zLP (tBX tp tb tw) (rp, cn, pn, bs, rx, wx, pl, bu, le, di, wa, lf, nI j) = some (rp', cn', pn', bs', rx', wx', pl', bu', le', di', wa', lf', nI j') ∧ zLP (tBM mt s0 ap rs) (rm, wm, h, nm) = some (.inl (rm', wm', h', nm')) ∧ tT C' S' P' B' nC' nP' A' rp' bs' cn' pn' f pl' bu' le' di' wa' lf' ly pr h' nm' ∧ rx' 8 = 0 ∧ rm' 15 = 0 ∧ rm' 19 = nI j' ∧ mF2 rm rm') ∨
      (∃ x rp' cn' pn' bs' rx' wx' pl' bu' le' di' wa' lf' rm' wm' h' nm' C', ∃ B' : Nat → Nat, zLP (tBX tp tb tw) (rp, cn, pn, bs, rx, wx, pl, bu, le, di, wa, lf, nI j) = some (rp', cn', pn', bs', rx', wx', pl', bu', le', di', wa', lf', x) ∧ zLP (tBM mt s0 ap rs) (rm, wm, h, nm) = some (.inr ((-1) - rm' 16, rm', wm', s0, h', nm', ap)) ∧ tFl rx' rm' ∧ mF2 rm rm' ∧ C' ≤ 8 ∧ rp' 4 = nI C' ∧ (∀ c, c < 8 → bs' c = nI (B' c)) ∧ (∀ c, c < 8 → B' c < 256) ∧ ∀ k, k < 14 → nm' k = nm k) := by
  intro fu
  induction fu with
  | zero =>
    intro j k v a p C S P w B nC nP A rx rm rp bs pl bu le di wa lf h wx wm nm cn pn K T hj hfu h19
    have := K.2.2.2.2.2.2.2.2.1
    have := E.1.1
    omega
  | succ fu ih =>
    intro j k v a p C S P w B nC nP A rx rm rp bs pl bu le di wa lf h wx wm nm cn pn K T hj hfu h19
    have han := K.2.2.2.2.2.2.2.2.1
    have hn := E.1.1
    have h11 := (tok_11 K).2.1
    have hk4 := (tok_11 K).1
    by_cases e : k = 0
    · left
      have hb1 : tBX tp tb tw (rp, cn, pn, bs, rx, wx, pl, bu, le, di, wa, lf, nI j) = some (.inr (rp, cn, pn, bs, rx, wx, pl, bu, le, di, wa, lf, nI j)) := by
        show fPl_readFrom_L15 tp tb tw rp cn pn bs rx wx pl bu le di wa lf (nI j) = _
        unfold fPl_readFrom_L15
        rw [if_neg (show ¬ (900 : Int32) ≤ nI j from nI_ge (b := 900) (by omega) (by omega)), tok_good K, if_pos rfl, tok_end K, decide_eq_true e, if_pos rfl]
      have hb2 : tBM mt s0 ap rs (rm, wm, h, nm) = some (.inr (.inl (rm, wm, h, nm))) := by
        show fM_town_L30 mt s0 rs ap rm wm h nm = _
        unfold fM_town_L30
        rw [h11, if_pos ((nI_e0 (by omega)).mpr e)]
      exact ⟨j, rp, cn, pn, bs, rx, wx, pl, bu, le, di, wa, lf, rm, wm, h, nm, C, S, P, B, nC, nP, A, zLP_out hb1, zLP_out hb2, T, tok_8 K, K.2.2.2.2.2.2.2.1, h19, fun _ _ => rfl⟩
    · obtain ⟨rp', cn', pn', bs', rx', wx', pl', bu', le', di', wa', lf', ok, rm', wm', h', nm', q1, q2, q3, q5, q4⟩ := l_line E W K T
      have hgood := tok_good K
      have hend : fRd_atEnd rx = false := by rw [tok_end K, decide_eq_false e]
      have hj9 : ¬ (900 : Int32) ≤ nI j := nI_ge (b := 900) (by omega) (by omega)
      have hj91 : ¬ (900 : Int32) ≤ nI (j + 1) := nI_ge (b := 900) (by omega) (by omega)
      have hnk : ¬ rm 11 = 0 := by rw [h11]; exact nI_ne0 (by omega) (by omega)
      -- the class's step, when the sign has been read
      have hstep : ∀ rx2 wx2, fRd_takeSign rx' wx' tp tb 59 = some (rx2, wx2) → tBX tp tb tw (rp, cn, pn, bs, rx, wx, pl, bu, le, di, wa, lf, nI j) = some (.inl (rp', cn', pn', bs', rx2, wx2, pl', bu', le', di', wa', lf', nI (j + 1))) := fun rx2 wx2 hs => by
        show fPl_readFrom_L15 tp tb tw rp cn pn bs rx wx pl bu le di wa lf (nI j) = _
        unfold fPl_readFrom_L15
        rw [if_neg hj9, hgood, if_pos rfl, hend, if_neg (by decide), q1]
        simp only [Option.bind_some]
        rw [hs]
        simp only [Option.bind_some, zlet, nI_1]
      have hdead : ∀ rx2 wx2, ¬ rx2 8 = 0 → zLP (tBX tp tb tw) (rp', cn', pn', bs', rx2, wx2, pl', bu', le', di', wa', lf', nI (j + 1)) = some (rp', cn', pn', bs', rx2, wx2, pl', bu', le', di', wa', lf', nI (j + 1)) := fun rx2 wx2 hd => by
        refine zLP_out ?_
        show fPl_readFrom_L15 tp tb tw rp' cn' pn' bs' rx2 wx2 pl' bu' le' di' wa' lf' (nI (j + 1)) = _
        unfold fPl_readFrom_L15
        rw [if_neg hj91, d_good hd, if_neg (by decide)]
      rcases q4 with ⟨o1, ⟨k1, v1, w1, a1, p1, K1, ha1⟩, C', S', P', B', nC', nP', A', o3⟩ | ⟨o1, o2, o3, o4⟩
      · subst o1
        have hnm : nM 14 C nC nm := T.2.1.2.2.2.2.1
        rcases t_sign (c := 59) E K1 (Or.inl rfl) with ⟨rx2, wx2, rm2, wm2, s1, s2, ⟨k2, v2, w2, a2, p2, K2, ha2⟩, s4⟩ | ⟨rx2, rm2, s0', s1, s2, s3, s4⟩
        · have s1' : fRd_takeSign rx' wx' tp tb 59 = _ := s1
          have s2' : fM_sign rm' wm' mt 59 = _ := s2
          have hb2 : tBM mt s0 ap rs (rm, wm, h, nm) = some (.inl (zup rm2 19 (nI (j + 1)), wm2, h', nm')) := by
            show fM_town_L30 mt s0 rs ap rm wm h nm = _
            unfold fM_town_L30
            rw [if_neg hnk, q2]
            simp only [Option.bind_some, if_true]
            rw [s2']
            simp only [Option.bind_some, if_true, zlet]
            rw [s4 19 (by omega), q3 19 (by omega), h19, nI_1]
          have hFF : mF2 rm (zup rm2 19 (nI (j + 1))) := mF2_up (mF2_trans (mF2_of q3) (mF2_of s4)) (by omega)
          rcases ih (j + 1) k2 v2 a2 p2 C' S' P' w2 B' nC' nP' A' rx2 (zup rm2 19 (nI (j + 1))) rp' bs' pl' bu' le' di' wa' lf' h' wx2 wm2 nm' cn' pn' (tokR_up K2 (by omega)) o3 (by omega) (by omega) zup_s with hh | hh
          · left
            obtain ⟨j', rp3, cn3, pn3, bs3, rx3, wx3, pl3, bu3, le3, di3, wa3, lf3, rm3, wm3, h3, nm3, C3, S3, P3, B3, nC3, nP3, A3, t1, t2, t3, t4, t5, t6, t7⟩ := hh
            exact ⟨j', rp3, cn3, pn3, bs3, rx3, wx3, pl3, bu3, le3, di3, wa3, lf3, rm3, wm3, h3, nm3, C3, S3, P3, B3, nC3, nP3, A3, (zLP_go (hstep rx2 wx2 s1')).trans t1, (zLP_go hb2).trans t2, t3, t4, t5, t6, mF2_trans hFF t7⟩
          · right
            obtain ⟨x, rp3, cn3, pn3, bs3, rx3, wx3, pl3, bu3, le3, di3, wa3, lf3, rm3, wm3, h3, nm3, C3, B3, t1, t2, t3, t4, t5, t6, t7, t8, t9⟩ := hh
            exact ⟨x, rp3, cn3, pn3, bs3, rx3, wx3, pl3, bu3, le3, di3, wa3, lf3, rm3, wm3, h3, nm3, C3, B3, (zLP_go (hstep rx2 wx2 s1')).trans t1, (zLP_go hb2).trans t2, t3, mF2_trans hFF t4, t5, t6, t7, t8, fun i hi => (t9 i hi).trans (q5 i hi)⟩
        · right
          have s1' : fRd_takeSign rx' wx' tp tb 59 = _ := s1
          have s2' : fM_sign rm' wm' mt 59 = _ := s2
          have hb2 : tBM mt s0 ap rs (rm, wm, h, nm) = some (.inr (.inr ((-1) - rm2 16, rm2, wm', s0, h', nm', ap))) := by
            show fM_town_L30 mt s0 rs ap rm wm h nm = _
            unfold fM_town_L30
            rw [if_neg hnk, q2]
            simp only [Option.bind_some, if_true]
            rw [s2']
            simp only [Option.bind_some, Bool.false_eq_true, if_false]
          exact ⟨_, rp', cn', pn', bs', rx2, wx', pl', bu', le', di', wa', lf', rm2, wm', h', nm', C', B', (zLP_go (hstep rx2 wx' s1')).trans (hdead rx2 wx' s0'), zLP_out hb2, s3, mF2_trans (mF2_of q3) (mF2_of s4), o3.1.1, o3.1.2.2.2.1, o3.1.2.2.2.2.2.2.1, fun c hc => p_BC_lt o3.1.1 o3.1.2.2.2.2.2.2.2.1 hc, q5⟩
      · right
        subst o1
        have hd := tFl_n o2
        have hb2 : tBM mt s0 ap rs (rm, wm, h, nm) = some (.inr (.inr ((-1) - rm' 16, rm', wm', s0, h', nm', ap))) := by
          show fM_town_L30 mt s0 rs ap rm wm h nm = _
          unfold fM_town_L30
          rw [if_neg hnk, q2]
          simp only [Option.bind_some, Bool.false_eq_true, if_false]
        exact ⟨_, rp', cn', pn', bs', rx', wx', pl', bu', le', di', wa', lf', rm', wm', h', nm', C, B, (zLP_go (hstep rx' wx' (d_sign hd))).trans (hdead rx' wx' hd), zLP_out hb2, o2, mF2_of q3, T.1.1, by rw [o3]; exact T.1.2.2.2.1, fun c hc => by rw [o4]; exact T.1.2.2.2.2.2.2.1 c hc, fun c hc => p_BC_lt T.1.1 T.1.2.2.2.2.2.2.2.1 hc, q5⟩
