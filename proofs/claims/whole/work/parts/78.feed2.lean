/-! ===== feed, call against call ===== -/
def tF (n : Nat) (b : Nat → Nat) (tp tb rm mt : Nat → Int32) : Prop := tpX n b tp tb ∧ tpM n b mt ∧ rm 2 = nI n
noncomputable abbrev qBX (a : Int32) : ((Nat → Int32) × (Nat → Int32) × Int32) → Option (((Nat → Int32) × (Nat → Int32) × Int32) ⊕ ((Nat → Int32) × (Nat → Int32))) := fun s => fTp_addNumber_L3 a s.1 s.2.1 s.2.2
noncomputable abbrev qBM (a : Int32) : ((Nat → Int32) × (Nat → Int32) × Int32) → Option (((Nat → Int32) × (Nat → Int32) × Int32) ⊕ ((Nat → Int32) × (Nat → Int32))) := fun s => fM_four_L3 a s.1 s.2.1 s.2.2
theorem f_step {n j : Nat} {b : Nat → Nat} {tp tb rm mt : Nat → Int32} {a : Int32} (hj : j < 4) (hn : n < 940) (h : tF n b tp tb rm mt) :
    ∃ tp' tb' rm' mt' b', qBX a (tp, tb, nI (8 * j)) = some (.inl (tp', tb', nI (8 * j) + (-8))) ∧ qBM a (rm, mt, nI (8 * j)) = some (.inl (rm', mt', nI (8 * j) + (-8))) ∧ tF (n + 1) b' tp' tb' rm' mt' ∧ ∀ i, i ≠ 2 → rm' i = rm i := by
  obtain ⟨⟨h1, h2, h3⟩, h4, h5⟩ := h
  obtain ⟨k, k1, k2⟩ := z_and255 ((Int32.toUInt32 a >>> (Int32.toUInt32 (nI (8 * j)) &&& Int32.toUInt32 31)).toInt32)
  have hb := z_by a j hj
  rw [k2] at hb
  have h0 : ¬ nI (8 * j) < 0 := nI_nlt (a := 8 * j) (b := 0) (by omega) (by omega)
  have hx : qBX a (tp, tb, nI (8 * j)) = some (.inl (zup tp 1 (nI (n + 1)), zup tb n (nI k), nI (8 * j) + (-8))) := by
    show fTp_addNumber_L3 a tp tb (nI (8 * j)) = _
    unfold fTp_addNumber_L3
    rw [if_neg h0, h2, if_neg (show ¬ (940 : Int32) ≤ nI n from nI_ge (b := 940) (by omega) (by omega)), k2, zwr_n (by omega) (by omega), Option.bind_some, nI_1]; rfl
  have hm : qBM a (rm, mt, nI (8 * j)) = some (.inl (zup rm 2 (nI (n + 1)), zup mt n (vp_nar .byte (Int8.toInt32 (Int32.toInt8 (a >>> (nI (8 * j) &&& 31))))), nI (8 * j) + (-8))) := by
    show fM_four_L3 a rm mt (nI (8 * j)) = _
    unfold fM_four_L3
    rw [if_neg h0, h5, zwr_n (by omega) (by omega), Option.bind_some, nI_1]; rfl
  refine ⟨_, _, _, _, zup b n k, hx, hm, ⟨⟨by omega, zup_s, fun i hi => ?_⟩, fun i hi => ?_, zup_s⟩, fun i hi => zup_n hi⟩
  · by_cases e : i = n
    · rw [e, zup_s, zup_s]; exact ⟨rfl, k1⟩
    · rw [zup_n e, zup_n e]; exact h3 i (by omega)
  · by_cases e : i = n
    · rw [e, zup_s, zup_s]; exact hb
    · rw [zup_n e, zup_n e]; exact h4 i (by omega)
theorem f_four {n : Nat} {b : Nat → Nat} {tp tb rm mt : Nat → Int32} {a : Int32} (hn : n + 4 ≤ 940) (h : tF n b tp tb rm mt) :
    ∃ tp' tb' rm' mt' b', fTp_addNumber tp tb a = some (tp', tb') ∧ fM_four rm mt a = some (rm', mt') ∧ tF (n + 4) b' tp' tb' rm' mt' ∧ ∀ i, i ≠ 2 → rm' i = rm i := by
  obtain ⟨p1, q1, r1, m1, b1, x1, y1, t1, e1⟩ := f_step (j := 3) (a := a) (by omega) (by omega) h
  obtain ⟨p2, q2, r2, m2, b2, x2, y2, t2, e2⟩ := f_step (j := 2) (a := a) (by omega) (by omega) t1
  obtain ⟨p3, q3, r3, m3, b3, x3, y3, t3, e3⟩ := f_step (j := 1) (a := a) (by omega) (by omega) t2
  obtain ⟨p4, q4, r4, m4, b4, x4, y4, t4, e4⟩ := f_step (j := 0) (a := a) (by omega) (by omega) t3
  have x5 : qBX a (p4, q4, nI (8 * 0) + (-8)) = some (.inr (p4, q4)) := by
    show fTp_addNumber_L3 a p4 q4 (nI (8 * 0) + (-8)) = _
    unfold fTp_addNumber_L3
    rw [if_pos (by decide)]
  have y5 : qBM a (r4, m4, nI (8 * 0) + (-8)) = some (.inr (r4, m4)) := by
    show fM_four_L3 a r4 m4 (nI (8 * 0) + (-8)) = _
    unfold fM_four_L3
    rw [if_pos (by decide)]
  have hx : zLP (qBX a) (tp, tb, 24) = some (p4, q4) := (zLP_go (s := (tp, tb, nI (8 * 3))) x1).trans ((zLP_go (s := (p1, q1, nI (8 * 2))) x2).trans ((zLP_go (s := (p2, q2, nI (8 * 1))) x3).trans ((zLP_go (s := (p3, q3, nI (8 * 0))) x4).trans (zLP_out x5))))
  have hy : zLP (qBM a) (rm, mt, 24) = some (r4, m4) := (zLP_go (s := (rm, mt, nI (8 * 3))) y1).trans ((zLP_go (s := (r1, m1, nI (8 * 2))) y2).trans ((zLP_go (s := (r2, m2, nI (8 * 1))) y3).trans ((zLP_go (s := (r3, m3, nI (8 * 0))) y4).trans (zLP_out y5))))
  refine ⟨p4, q4, r4, m4, b4, ?_, ?_, t4, fun i hi => by rw [e4 i hi, e3 i hi, e2 i hi, e1 i hi]⟩
  · unfold fTp_addNumber
    have hx' : zLP (fun s : (Nat → Int32) × (Nat → Int32) × Int32 => fTp_addNumber_L3 a s.1 s.2.1 s.2.2) (tp, tb, 24) = some (p4, q4) := hx
    rw [hx', Option.bind_some]
  · unfold fM_four
    have hy' : zLP (fun s : (Nat → Int32) × (Nat → Int32) × Int32 => fM_four_L3 a s.1 s.2.1 s.2.2) (rm, mt, 24) = some (r4, m4) := hy
    rw [hy', Option.bind_some]
theorem c_feed {n : Nat} {b : Nat → Nat} {tp tb rm mt : Nat → Int32} {a1 a2 a3 a4 a5 : Int32} (h : tF n b tp tb rm mt) :
    ∃ v tp' tb' rm' mt' n' b', fX_feed tp tb a1 a2 a3 a4 a5 = some (v, tp', tb') ∧ fM_feed rm mt a1 a2 a3 a4 a5 = some (v, rm', mt') ∧ rm' 0 = 0 ∧ (∀ j, j ≠ 0 → j ≠ 2 → rm' j = rm j) ∧ tF n' b' tp' tb' rm' mt' := by
  have hz : zup rm 0 0 2 = nI n := by rw [zup_n (by omega)]; exact h.2.2
  have h0 : tF n b tp tb (zup rm 0 0) mt := ⟨h.1, h.2.1, hz⟩
  have hn := h.1.1
  have ha : nI n + 20 = nI (n + 20) := nI_add n 20
  unfold fX_feed fM_feed fTp_hasRoom
  rw [zlet_e, h.1.2.1, hz, ha]
  by_cases e : n + 20 ≤ 940
  · obtain ⟨p1, q1, r1, m1, b1, x1, y1, t1, e1⟩ := f_four (a := a1) (by omega) h0
    obtain ⟨p2, q2, r2, m2, b2, x2, y2, t2, e2⟩ := f_four (a := a2) (by omega) t1
    obtain ⟨p3, q3, r3, m3, b3, x3, y3, t3, e3⟩ := f_four (a := a3) (by omega) t2
    obtain ⟨p4, q4, r4, m4, b4, x4, y4, t4, e4⟩ := f_four (a := a4) (by omega) t3
    obtain ⟨p5, q5, r5, m5, b5, x5, y5, t5, e5⟩ := f_four (a := a5) (by omega) t4
    rw [if_neg (show ¬ (940 : Int32) < nI (n + 20) from nI_nlt (a := 940) (by omega) (by omega)), if_pos rfl, if_pos (show nI (n + 20) ≤ 940 from nI_le (b := 940) e (by omega)), x1, y1, Option.bind_some, Option.bind_some]
    dsimp only
    rw [x2, y2, Option.bind_some, Option.bind_some]
    dsimp only
    rw [x3, y3, Option.bind_some, Option.bind_some]
    dsimp only
    rw [x4, y4, Option.bind_some, Option.bind_some]
    dsimp only
    rw [x5, y5, Option.bind_some, Option.bind_some]
    unfold fTp_length
    dsimp only
    rw [t5.1.2.1, t5.2.2]
    refine ⟨_, _, _, _, _, _, b5, rfl, rfl, ?_, fun j g1 g2 => ?_, t5⟩
    · rw [e5 0 (by omega), e4 0 (by omega), e3 0 (by omega), e2 0 (by omega), e1 0 (by omega), zup_s]
    · rw [e5 j g2, e4 j g2, e3 j g2, e2 j g2, e1 j g2, zup_n g1]
  · rw [if_pos (show (940 : Int32) < nI (n + 20) from nI_lt (a := 940) (by omega) (by omega)), if_neg (show ¬ false = true by decide), if_neg (show ¬ nI (n + 20) ≤ 940 from nI_ge (b := n + 20) (a := 940) (by omega) (by omega))]
    exact ⟨_, _, _, _, _, n, b, rfl, rfl, zup_s, fun j g1 _ => zup_n g1, h0⟩
