/-! ===== the whole sentence ===== -/
abbrev sSX : Type := (Nat → Int32) × (Nat → Int32) × (Nat → Int32) × (Nat → Int32) × (Nat → Int32) × (Nat → Int32) × (Nat → Int64) × Int32
abbrev sSM : Type := (Nat → Int32) × (Nat → Int64) × (Nat → Int32) × (Nat → Int32) × (Nat → Int32) × Int32
noncomputable abbrev sBX (tp tb : Nat → Int32) (tw : Nat → Int64) (rp : Nat → Int32) (cn pn : Nat → Int64) : sSX → Option (sSX ⊕ s7) := fun s => fSn_readFrom_L11 tp tb tw rp cn pn s.1 s.2.1 s.2.2.1 s.2.2.2.1 s.2.2.2.2.1 s.2.2.2.2.2.1 s.2.2.2.2.2.2.1 s.2.2.2.2.2.2.2
noncomputable abbrev sBM (mt : Nat → Int32) (nm rs : Nat → Int64) : sSM → Option (sSM ⊕ (Int32 × (Nat → Int32) × (Nat → Int64) × (Nat → Int32) × (Nat → Int32) × (Nat → Int32))) := fun s => fM_sentence_L48 mt nm rs s.1 s.2.1 s.2.2.1 s.2.2.2.1 s.2.2.2.2.1 s.2.2.2.2.2
/-- what is laid down of a sentence -/
def qM (cd : List aI) (s : Nat → Int32) : Prop := s 216 = nI cd.length ∧ cdM cd (fun i => s (217 + i))
def qI (cd : List aI) : Prop := cd.length ≤ 40 ∧ dpC cd = 1 ∧ rpn cd ∧ iAll cd
theorem cdM_cong : ∀ {cd : List aI} {rd rd' : Nat → Int32}, (∀ i, i < 3 * cd.length → rd' i = rd i) → cdM cd rd → cdM cd rd'
  | [], _, _, _, _ => trivial
  | c :: t, rd, rd', e, h => by
    have hl : (c :: t).length = t.length + 1 := rfl
    refine ⟨⟨?_, ?_, ?_⟩, cdM_cong (fun i hi => e i (by omega)) h.2⟩
    · rw [e _ (by omega)]; exact h.1.1
    · rw [e _ (by omega)]; exact h.1.2.1
    · rw [e _ (by omega)]; exact h.1.2.2
theorem cdX_cong : ∀ {cd : List aI} {pa ot nu pa' ot' nu' : Nat → Int32}, (∀ i, i < cd.length → pa' i = pa i ∧ ot' i = ot i ∧ nu' i = nu i) → cdX cd pa ot nu → cdX cd pa' ot' nu'
  | [], _, _, _, _, _, _, _, _ => trivial
  | c :: t, pa, ot, nu, pa', ot', nu', e, h => by
    have hl : (c :: t).length = t.length + 1 := rfl
    obtain ⟨e1, e2, e3⟩ := e t.length (by omega)
    exact ⟨by rw [e1, e2, e3]; exact h.1, cdX_cong (fun i hi => e i (by omega)) h.2⟩
theorem m_lays {r rd s : Nat → Int32} {m : Nat} (hm : m ≤ 40) (h44 : r 44 = nI m) : ∃ s', zLP (fun t : (Nat → Int32) × Int32 => fM_sentence_L146 r rd t.1 t.2) (s, 0) = some s' ∧ (∀ i, i < 3 * m → s' (217 + i) = rd i) ∧ ∀ j, j < 217 ∨ 217 + 3 * m ≤ j → s' j = s j := by
  refine zLP_inv (fun k t => t.2 = nI k ∧ (∀ i, i < k → t.1 (217 + i) = rd i) ∧ ∀ j, j < 217 ∨ 217 + 3 * m ≤ j → t.1 j = s j) _ (3 * m) ⟨rfl, fun i hi => absurd hi (by omega), fun _ _ => rfl⟩ ?_ ?_
  · rintro k ⟨t1, t2⟩ hk ⟨rfl, h2, h3⟩
    try dsimp only at *
    left
    unfold fM_sentence_L146
    rw [h44, show (3 : Int32) * nI m = nI (3 * m) from nI_mul 3 m, if_neg (nI_ge hk (by omega)), zrd_n (by omega) (by omega), show (217 : Int32) + nI k = nI (217 + k) from nI_add 217 k]
    simp only [Option.bind_some]
    rw [zwr_n (by omega) (by omega)]
    refine ⟨_, rfl, nI_1 k, fun i hi => ?_, fun j hj => ?_⟩
    · show zup t1 (217 + k) _ (217 + i) = _
      by_cases e : i = k
      · subst e; rw [zup_s]
      · rw [zup_n (by omega)]; exact h2 i (by omega)
    · show zup t1 (217 + k) _ j = _
      rw [zup_n (by omega)]; exact h3 j hj
  · rintro ⟨t1, t2⟩ ⟨rfl, h2, h3⟩
    try dsimp only at *
    refine ⟨t1, ?_, h2, h3⟩
    unfold fM_sentence_L146
    rw [h44, show (3 : Int32) * nI m = nI (3 * m) from nI_mul 3 m, if_pos (nI_le (Nat.le_refl _) (by omega))]
theorem s_loop {n C S P : Nat} {b B : Nat → Nat} {nC nP : Nat → List Nat} {tp tb mt rp bs s : Nat → Int32} {tw rs cn pn nm : Nat → Int64} (E : tE n 200 b tp tb mt) (W : wE tw rs) (TX : tRX C S P B nC nP rp bs cn pn) (TM : tRM 0 8 C S P B nC nP s nm) :
    ∀ fu j k v a p (w : List Nat) (due : Bool) (rx rm r pa ot nu pe rd sk : Nat → Int32) (wx wm : Nat → Int64), tokR n 200 rx wx rm wm k v w a p → sJ due r pa ot nu pe rm rd sk → j ≤ a → 940 < fu + a →
      (∃ X st cd on rm' wm' s' rd' sk', zLP (sBX tp tb tw rp cn pn) (r, pa, ot, nu, pe, rx, wx, nI j) = some X ∧ zLP (sBM mt nm rs) (rm, wm, s, rd, sk, 1) = some (nI on, rm', wm', s', rd', sk') ∧ X.2.2.2.2.2.1 8 = 0 ∧ rm' 15 = 0 ∧ mJ rm rm' ∧ zX st cd on false X.1 X.2.1 X.2.2.1 X.2.2.2.1 X.2.2.2.2.1 ∧ sI st cd on false ∧ (sJoin true st cd).1 = [] ∧ qM (sJoin true st cd).2 s' ∧ ∀ j, j < 216 → s' j = s j) ∨
      (∃ X rm' wm' rd' sk', zLP (sBX tp tb tw rp cn pn) (r, pa, ot, nu, pe, rx, wx, nI j) = some X ∧ zLP (sBM mt nm rs) (rm, wm, s, rd, sk, 1) = some ((-1) - rm' 16, rm', wm', s, rd', sk') ∧ tFl X.2.2.2.2.2.1 rm' ∧ mJ rm rm' ∧ zD X.1) := by
  intro fu
  induction fu with
  | zero =>
    intro j k v a p w due rx rm r pa ot nu pe rd sk wx wm K J hj hfu
    have h1 := K.2.2.2.2.2.2.2.2.1
    have h2 := E.1.1
    omega
  | succ fu ih =>
    intro j k v a p w due rx rm r pa ot nu pe rd sk wx wm K J hj hfu
    have han := K.2.2.2.2.2.2.2.2.1
    have hn := E.1.1
    obtain ⟨h4, h11, -⟩ := tok_11 K
    have hgood := tok_good K
    have hend := tok_end K
    have hj2 : ¬ (200 : Int32) < nI j := nI_nlt (a := 200) (by omega) (by omega)
    obtain ⟨st, cd, on, stm, cdm, z, zm, jt, jf, I⟩ := J
    obtain ⟨i1, i2, i3, i4, i5, i6, i7, i8⟩ := id I
    -- one more step on both sides
    have go : ∀ X Y, sRes n 200 a rm X Y → (∀ x : Int32, sBX tp tb tw rp cn pn (r, pa, ot, nu, pe, rx, wx, nI j) = some (.inl (X.1, X.2.1, X.2.2.1, X.2.2.2.1, X.2.2.2.2.1, X.2.2.2.2.2.1, X.2.2.2.2.2.2, nI (j + 1)))) → (sBM mt nm rs (rm, wm, s, rd, sk, 1) = if Y.1 = true then some (.inl (Y.2.1, Y.2.2.1, s, Y.2.2.2.1, Y.2.2.2.2, 1)) else some (.inr ((-1) - Y.2.1 16, Y.2.1, Y.2.2.1, s, Y.2.2.2.1, Y.2.2.2.2))) →
        (∃ X st cd on rm' wm' s' rd' sk', zLP (sBX tp tb tw rp cn pn) (r, pa, ot, nu, pe, rx, wx, nI j) = some X ∧ zLP (sBM mt nm rs) (rm, wm, s, rd, sk, 1) = some (nI on, rm', wm', s', rd', sk') ∧ X.2.2.2.2.2.1 8 = 0 ∧ rm' 15 = 0 ∧ mJ rm rm' ∧ zX st cd on false X.1 X.2.1 X.2.2.1 X.2.2.2.1 X.2.2.2.2.1 ∧ sI st cd on false ∧ (sJoin true st cd).1 = [] ∧ qM (sJoin true st cd).2 s' ∧ ∀ j, j < 216 → s' j = s j) ∨
        (∃ X rm' wm' rd' sk', zLP (sBX tp tb tw rp cn pn) (r, pa, ot, nu, pe, rx, wx, nI j) = some X ∧ zLP (sBM mt nm rs) (rm, wm, s, rd, sk, 1) = some ((-1) - rm' 16, rm', wm', s, rd', sk') ∧ tFl X.2.2.2.2.2.1 rm' ∧ mJ rm rm' ∧ zD X.1) := by
      rintro ⟨X1, X2, X3, X4, X5, X6, X7⟩ ⟨Y1, Y2, Y3, Y4, Y5⟩ ⟨R1, R2⟩ hx hm
      have hx := hx 0
      try dsimp only at R1 R2 hx hm
      rcases R2 with ⟨o1, ⟨due', o2⟩, k', v', w', a', p', o3, o4⟩ | ⟨o1, o2, o3⟩
      · have o1' : Y1 = true := o1
        rw [o1', if_pos rfl] at hm
        rcases ih (j + 1) k' v' a' p' w' due' X6 Y2 X1 X2 X3 X4 X5 Y4 Y5 X7 Y3 o3 o2 (by omega) (by omega) with hh | hh
        · left
          obtain ⟨X, st, cd, on, rm', wm', s', rd', sk', t1, t2, t3, t4, t5, t6⟩ := hh
          exact ⟨X, st, cd, on, rm', wm', s', rd', sk', (zLP_go hx).trans t1, (zLP_go hm).trans t2, t3, t4, mJ_trans R1 t5, t6⟩
        · right
          obtain ⟨X, rm', wm', rd', sk', t1, t2, t3, t4, t5⟩ := hh
          exact ⟨X, rm', wm', rd', sk', (zLP_go hx).trans t1, (zLP_go hm).trans t2, t3, mJ_trans R1 t4, t5⟩
      · right
        have o1' : Y1 = false := o1
        rw [o1', if_neg (by decide)] at hm
        have hd := tFl_n o2
        have hb : sBX tp tb tw rp cn pn (X1, X2, X3, X4, X5, X6, X7, nI (j + 1)) = some (.inr (X1, X2, X3, X4, X5, X6, X7)) := by
          show fSn_readFrom_L11 tp tb tw rp cn pn X1 X2 X3 X4 X5 X6 X7 (nI (j + 1)) = _
          unfold fSn_readFrom_L11
          by_cases e : (200 : Int32) < nI (j + 1)
          · rw [if_pos e]
          · rw [if_neg e, d_good hd, if_neg (by decide)]
        exact ⟨(X1, X2, X3, X4, X5, X6, X7), Y2, Y3, Y4, Y5, (zLP_go hx).trans (zLP_out hb), zLP_out hm, o2, R1, o3⟩
    cases due with
    | true =>
      obtain ⟨e1, e2⟩ := jt rfl
      subst e1 e2
      obtain ⟨X, Y, x1, x2, x3⟩ := s_one E W K TX TM z zm I
      refine go X Y x3 (fun _ => ?_) ?_
      · show fSn_readFrom_L11 tp tb tw rp cn pn r pa ot nu pe rx wx (nI j) = _
        unfold fSn_readFrom_L11
        rw [if_neg hj2, hgood, if_pos rfl]
        simp only [zlet]
        rw [if_neg (show ¬ r 9 = 0 by rw [z.2.2.2.2.1]; decide), if_neg (show ¬ r 9 = 0 by rw [z.2.2.2.2.1]; decide), x1, Option.bind_some, nI_1]
      · show fM_sentence_L48 mt nm rs rm wm s rd sk 1 = _
        unfold fM_sentence_L48
        rw [if_neg (show ¬ (1 : Int32) = 0 by decide)]
        simp only [zlet]
        rw [if_pos (show rm 48 = 0 by rw [zm.2.2.2.2.1]; rfl), if_pos (show rm 48 = 0 by rw [zm.2.2.2.2.1]; rfl), x2, Option.bind_some]
    | false =>
      have hs := jf rfl
      simp only [Bool.false_eq_true, if_false] at i1 i6
      have hr9 : r 9 = 0 := by rw [z.2.2.2.2.1]; rfl
      have h48 : ¬ rm 48 = 0 := by rw [zm.2.2.2.2.1]; decide
      by_cases e0 : k = 0
      · -- the end of the tape
        have hsl := sNot_len stm cdm
        rw [hs] at hsl
        obtain ⟨rm1, rd1, n1, n2, n3⟩ := m_nots stm cdm on false rm rd sk (by have := hsl.1; simp only at this; omega) zm
        rw [hs] at n2
        obtain ⟨rm2, rd2, y1, y2, y3⟩ := m_join true (wv := 22) rfl st cd on false rm1 rd1 sk (by omega) n2
        have I2 := sI_joins true st cd on I
        have hlen := sJoin_len true st cd
        have hhd := sJoin_head st cd on I
        have hJ2 : mJ rm rm2 := mJ_trans (mJ_H n3) (mJ_H y3)
        have K2 : tokR n 200 rx wx rm2 wm k v w a p := tokR_cong K (fun i hi => (y3 i (by omega)).trans (n3 i (by omega)))
        have hme : sBM mt nm rs (rm, wm, s, rd, sk, 1) = if rm2 46 ≤ 0 then some (.inl (rm2, wm, s, rd2, sk, 0)) else (fM_bad rm2 1).bind (fun y50 => some (.inr ((-1) - y50.2 16, y50.2, wm, s, rd2, sk))) := by
          show fM_sentence_L48 mt nm rs rm wm s rd sk 1 = _
          unfold fM_sentence_L48
          rw [if_neg (show ¬ (1 : Int32) = 0 by decide)]
          simp only [zlet]
          rw [if_neg h48, h11, if_pos (show nI k = 0 by rw [e0]; rfl), n1, Option.bind_some]
          show (fM_joins rm1 rd1 sk 22).bind _ = _
          rw [y1, Option.bind_some]
        rcases hhd with e1 | ⟨x, t, e1⟩
        · -- all is closed
          left
          have hwi : wiC st = 0 := by have := hlen.2.2; rw [e1] at this; exact this.symm
          rw [e1] at y2 hlen I2
          have hb : sBX tp tb tw rp cn pn (r, pa, ot, nu, pe, rx, wx, nI j) = some (.inr (r, pa, ot, nu, pe, rx, wx)) := by
            show fSn_readFrom_L11 tp tb tw rp cn pn r pa ot nu pe rx wx (nI j) = _
            unfold fSn_readFrom_L11
            rw [if_neg hj2, hgood, if_pos rfl]
            simp only [zlet]
            rw [if_pos hr9, if_pos (show r 7 = 0 by rw [z.2.2.1, hwi]; rfl), hend, decide_eq_true e0, if_pos rfl]
          have hcl : (sJoin true st cd).2.length ≤ 40 := by have := hlen.1; simp only [List.length_nil] at this; omega
          rw [y2.2.2.1, if_pos (show nI (List.length ([] : List Nat)) ≤ 0 by decide)] at hme
          obtain ⟨s', l1, l2, l3⟩ := m_lays (r := rm2) (rd := rd2) (s := zup s 216 (rm2 44)) (m := (sJoin true st cd).2.length) hcl y2.1
          have hb2 : sBM mt nm rs (rm2, wm, s, rd2, sk, 0) = some (.inr (nI on, rm2, wm, s', rd2, sk)) := by
            show fM_sentence_L48 mt nm rs rm2 wm s rd2 sk 0 = _
            unfold fM_sentence_L48
            rw [if_pos rfl]
            simp only [zlet]
            rw [l1, Option.bind_some, y2.2.1]
          refine ⟨(r, pa, ot, nu, pe, rx, wx), st, cd, on, rm2, wm, s', rd2, sk, zLP_out hb, (zLP_go hme).trans (zLP_out hb2), tok_8 K, K2.2.2.2.2.2.2.2.1, hJ2, z, I, e1, ⟨?_, cdM_cong (fun i hi => l2 i hi) y2.2.2.2.2.2.1⟩, fun i hi => ?_⟩
          · rw [l3 _ (by omega), zup_s]; exact y2.1
          · rw [l3 _ (by omega), zup_n (by omega)]
        · -- a bracket waits
          right
          have hwi : wiC st ≠ 0 := by have := hlen.2.2; rw [e1, wiC, if_pos (by omega)] at this; omega
          rw [e1] at y2
          have hX : fSn_readJoint r pa ot nu pe rx wx tp tb tw = some (r, pa, ot, nu, pe, zup rx 8 1, wx) := by
            have htw : tW k w = 22 := by unfold tW; rw [if_neg (by omega)]
            rw [readJoint_eq, x_told K W.1, Option.bind_some, show (if tW k w < 22 then nI (tW k w) else (-1 : Int32)) = -1 by rw [if_neg (by omega)], if_neg (by decide), if_neg (by decide), show fRd_isSign rx 41 = decide (k = 3 ∧ v = 41) from x_isSg K (c := 41) (by unfold isSg; omega), decide_eq_false (by omega), if_neg (by decide), x_fail (tok_8 K)]; rfl
          have hb : sBX tp tb tw rp cn pn (r, pa, ot, nu, pe, rx, wx, nI j) = some (.inl (r, pa, ot, nu, pe, zup rx 8 1, wx, nI (j + 1))) := by
            show fSn_readFrom_L11 tp tb tw rp cn pn r pa ot nu pe rx wx (nI j) = _
            unfold fSn_readFrom_L11
            rw [if_neg hj2, hgood, if_pos rfl]
            simp only [zlet]
            rw [if_pos hr9, if_neg (show ¬ r 7 = 0 by rw [z.2.2.1]; exact nI_ne0 (by omega) (by omega)), if_pos hr9, hX, Option.bind_some, nI_1]
          have hd : ¬ zup rx 8 1 8 = 0 := by rw [zup_s]; decide
          have hb2 : sBX tp tb tw rp cn pn (r, pa, ot, nu, pe, zup rx 8 1, wx, nI (j + 1)) = some (.inr (r, pa, ot, nu, pe, zup rx 8 1, wx)) := by
            show fSn_readFrom_L11 tp tb tw rp cn pn r pa ot nu pe (zup rx 8 1) wx (nI (j + 1)) = _
            unfold fSn_readFrom_L11
            by_cases e : (200 : Int32) < nI (j + 1)
            · rw [if_pos e]
            · rw [if_neg e, d_good hd, if_neg (by decide)]
          rw [y2.2.2.1, if_neg (show ¬ nI ((x + 3) :: t).length ≤ 0 from nI_nle (by rw [List.length_cons]; omega) (by have := hlen.2.1; rw [e1] at this; omega)), m_bad, Option.bind_some] at hme
          exact ⟨(r, pa, ot, nu, pe, zup rx 8 1, wx), _, wm, rd2, sk, (zLP_go hb).trans (zLP_out hb2), zLP_out hme, t_fl (kd := 1) (rm0 := rm) K2 hn (by omega) (by omega), mJ_trans hJ2 (mJ_of m_badF), zX_D z (by omega)⟩
      · obtain ⟨X, Y, x1, x2, x3⟩ := s_joint E W K z zm hs I
        have hnk : ¬ rm 11 = 0 := by rw [h11]; exact nI_ne0 (by omega) (by omega)
        refine go X Y x3 (fun _ => ?_) ?_
        · show fSn_readFrom_L11 tp tb tw rp cn pn r pa ot nu pe rx wx (nI j) = _
          unfold fSn_readFrom_L11
          rw [if_neg hj2, hgood, if_pos rfl]
          simp only [zlet]
          rw [if_pos hr9, hend, decide_eq_false e0, if_neg (show ¬ false = true by decide), if_pos hr9, x1, Option.bind_some, nI_1]
          split <;> rfl
        · show fM_sentence_L48 mt nm rs rm wm s rd sk 1 = _
          unfold fM_sentence_L48
          rw [if_neg (show ¬ (1 : Int32) = 0 by decide)]
          simp only [zlet]
          rw [if_neg h48, if_neg hnk, if_neg h48, x2, Option.bind_some]
