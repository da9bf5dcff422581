/-! ===== line, byteAt ===== -/
def lR (r0 r rm tx : Nat → Int32) : Prop := ∃ l : List Nat, l.length ≤ 40 ∧ lX l r0 r ∧ lM l rm tx
theorem lR_cong {r0 r rm rm' tx : Nat → Int32} (h : lR r0 r rm tx) (k : rm' 38 = rm 38) : lR r0 r rm' tx := by
  obtain ⟨l, h1, h2, h3⟩ := h
  exact ⟨l, h1, h2, k.trans h3.1, h3.2⟩
section LN
variable {C S P : Nat} {B : Nat → Nat} {nC nP : Nat → List Nat} {A : aD} {rp bs f pl bu le di wa lf ly pr r0 r rm s tx : Nat → Int32} {cn pn nm : Nat → Int64}
theorem x_pName (TX : tRX C S P B nC nP rp bs cn pn) {q : Nat} (hq : q < P) : wOK (nP q) ∧ fPl_personName rp pn (nI q) = some (lN (cv (nP q))) := by
  obtain ⟨t1, t2, t3, t4, t5, t6, t7, t8, t9, t10⟩ := TX
  refine ⟨(t10 q hq).1, ?_⟩
  unfold fPl_personName
  rw [p_hasPerson t3 t6, p_has_y (by omega) hq, if_pos rfl, zrd_n (by omega) (by omega), Option.bind_some, (t10 q hq).2]
theorem x_cName (TX : tRX C S P B nC nP rp bs cn pn) {c : Nat} (hc : c < C) : wOK (nC c) ∧ fPl_cornerName rp cn (nI c) = some (lN (cv (nC c))) := by
  obtain ⟨t1, t2, t3, t4, t5, t6, t7, t8, t9, t10⟩ := TX
  refine ⟨(t9 c hc).1, ?_⟩
  unfold fPl_cornerName
  rw [p_hasCorner t1 t4, p_has_y (by omega) hc, if_pos rfl, zrd_n (by omega) (by omega), Option.bind_some, (t9 c hc).2]
def wStays : List Nat := [115, 121, 97, 116, 115]
theorem wStays_ok : wOK wStays := ⟨fun c hc => (show ∀ c, c ∈ wStays → 97 ≤ c ∧ c ≤ 122 by decide) c hc, by decide⟩
theorem c_line {a1 : Int32} (TX : tRX C S P B nC nP rp bs cn pn) (TM : tRM 0 8 C S P B nC nP s nm) (D : dR C P A f pl bu le di wa lf ly pr s s) (L : lR r0 r rm tx) :
    ∃ X Y, fX_line rp cn pn pl le lf r0 r a1 = some X ∧ fM_line rm s nm tx a1 = some Y ∧ X.1 = Y.1 ∧ lR X.2.1 X.2.2 Y.2.1 Y.2.2 ∧ Y.2.1 0 = 0 ∧ ∀ j, j ≠ 0 → j ≠ 38 → Y.2.1 j = rm j := by
  obtain ⟨d1, d2, d3, d4, d5⟩ := D
  obtain ⟨t1, t2, t3, t4, t5, t6, t7, t8, t9, t10⟩ := id TX
  obtain ⟨m1, m2, m3, m4, m5, m6⟩ := id TM
  unfold fX_line fM_line
  rw [p_hasPerson t3 t6, zlet_e, p_isPerson t3 m3, Option.bind_some]
  by_cases h1 : p_has P a1 = true
  · obtain ⟨q, hq, rfl⟩ := p_has_ex (by omega) h1
    have hA := (d4.2.1 q (by omega)).1
    have hM := (d4.2.2.1 q (by omega)).1
    have hw := d4.1 q 0 hq (by omega)
    obtain ⟨o1, p1⟩ := x_pName TX hq
    obtain ⟨o2, p2⟩ := x_cName TX hw
    have l1 := o1.2
    have l2 := o2.2
    rw [if_pos h1, if_pos h1, zlet_e]
    -- the class: his name, at, where he is
    have z0 : fLn_clear r0 = some (zup r0 1 0) := rfl
    have L0 : lX [] (zup r0 1 0) r := ⟨zup_s, fun i hi => absurd hi (by simp)⟩
    obtain ⟨u1, v1, x1, X1⟩ := x_name_ o1 L0 (by simp only [List.length_nil]; omega)
    obtain ⟨u2, v2, x2, X2⟩ := x_text1 X1 (by simp only [List.length_append, List.length_reverse, List.length_nil]; omega)
    have hpl : pl (6 * q) = nI (dW A 0 q) := by have := d1.2.2.1 q 0 (by omega) (by omega); rw [if_pos hq] at this; exact this
    obtain ⟨u3, v3, x3, X3⟩ := x_name_ o2 X2 (by simp only [List.length_append, List.length_reverse, List.length_nil, List.length_cons]; omega)
    rw [z0, Option.bind_some, p1, Option.bind_some, x1, Option.bind_some]
    dsimp only
    rw [x2, Option.bind_some, x_whe (by omega), Option.bind_some, hpl, p2, Option.bind_some]
    dsimp only
    rw [x3, Option.bind_some, x_fol (by omega), Option.bind_some, d1.2.2.2.2.1 q (by omega)]
    dsimp only
    -- the reference: the same
    have K0 : lM [] (zup (zup rm 0 0) 38 0) tx := ⟨zup_s, fun i hi => absurd hi (by simp)⟩
    obtain ⟨e1, g1, y1, Y1, F1⟩ := m_spells o1 K0 (by simp only [List.length_nil]; omega)
    obtain ⟨e2, g2, y2, Y2, F2⟩ := m_says (resW_ok 16 (by omega)) Y1 (by simp only [List.length_append, List.length_reverse, List.length_nil, resW, List.length_cons]; omega)
    obtain ⟨e3, g3, y3, Y3, F3⟩ := m_says o2 Y2 (by simp only [List.length_append, List.length_reverse, List.length_nil, resW, List.length_cons]; omega)
    have n1 : zrd nm 28 (8 + nI q) = some (lN (mv (nP q))) := by
      rw [show (8 : Int32) = nI 8 from rfl, nI_add, zrd_n (by omega) (by omega), m6 q hq]
    have n2 : zrd nm 28 (nI (dW A 0 q)) = some (lN (mv (nC (dW A 0 q)))) := by
      have := m5 _ hw
      rw [Nat.zero_add] at this
      rw [zrd_n (by omega) (by omega), this]
    have y2' : fM_says e1 g1 (24948 : Int64) = some (e2, g2) := y2
    rw [n1, Option.bind_some, y1, Option.bind_some]
    dsimp only
    rw [y2', Option.bind_some, z_91, zrd_n (by omega) (by omega), m_91 d2 hq, Option.bind_some, n2, Option.bind_some]
    dsimp only
    rw [y3, Option.bind_some, z_133, zrd_n (by omega) (by omega), d2.2.2.2.2.1 q (by omega), Option.bind_some]
    dsimp only
    have hF : ∀ j, j ≠ 0 → j ≠ 38 → e3 j = rm j := fun j h0 h38 => by rw [F3 j h38, F2 j h38, F1 j h38, zup_n h38, zup_n h0]
    have hF0 : e3 0 = 0 := by rw [F3 0 (by omega), F2 0 (by omega), F1 0 (by omega), zup_n (by omega), zup_s]
    have hE : ([] ++ (nP q).reverse ++ [32, 97, 116, 32] ++ (nC (dW A 0 q)).reverse : List Nat) = [] ++ (nP q).reverse ++ 32 :: (resW 16).reverse ++ 32 :: (nC (dW A 0 q)).reverse := by
      simp [resW]
    rw [← hE] at Y3
    generalize hl : ([] ++ (nP q).reverse ++ [32, 97, 116, 32] ++ (nC (dW A 0 q)).reverse : List Nat) = l at X3 Y3
    have hll : l.length ≤ 18 := by
      rw [← hl]; simp only [List.length_append, List.length_reverse, List.length_nil, List.length_cons]; omega
    by_cases h2 : dA A q = 0
    · rw [if_pos ((nI_m1 (by omega)).mpr h2), x_way (by omega), Option.bind_some, d1.2.2.2.2.2.2.2.1 q (by omega), if_pos ((nI_le0 (by omega)).mpr h2), z_145, zrd_n (by omega) (by omega), d2.2.2.2.2.2.2.2.1 q (by omega), Option.bind_some]
      by_cases h3 : dM A q = 0
      · obtain ⟨u4, v4, x4, X4⟩ := x_text4 X3 (by omega)
        obtain ⟨e4, g4, y4, Y4, F4⟩ := m_says wStays_ok Y3 (by show _ + 1 + 5 ≤ 40; omega)
        have y4' : fM_says e3 g3 (495873784179 : Int64) = some (e4, g4) := y4
        rw [if_pos ((nI_le0 (by omega)).mpr h3), if_pos ((nI_le0 (by omega)).mpr h3), x4, Option.bind_some, y4', Option.bind_some]
        refine ⟨_, _, rfl, rfl, X4.1.trans Y4.1.symm, ⟨_, ?_, X4, Y4⟩, (F4 0 (by omega)).trans hF0, fun j h0 h38 => (F4 j h38).trans (hF j h0 h38)⟩
        rw [List.length_append]; show _ + 6 ≤ 40; omega
      · obtain ⟨u4, v4, x4, X4⟩ := x_text3 X3 (by omega)
        obtain ⟨e4, g4, y4, Y4, F4⟩ := m_says (resW_ok 5 (by omega)) Y3 (by show _ + 1 + 4 ≤ 40; omega)
        have y4' : fM_says e3 g3 (1735353715 : Int64) = some (e4, g4) := y4
        obtain ⟨e5, g5, y5, Y5, F5⟩ := m_byte (c := 32) Y4 (by rw [List.length_append]; show _ + 5 < 40; omega) (by omega)
        have hE2 : l ++ 32 :: (resW 5).reverse ++ [32] = l ++ [32, 103, 111, 101, 115, 32] := by simp [resW]
        rw [hE2] at Y5
        have hl2 : (l ++ [32, 103, 111, 101, 115, 32]).length < 40 := by rw [List.length_append]; show _ + 6 < 40; omega
        obtain ⟨u6, v6, x6, X6⟩ := x_byteL (c := 48 + dM A q) X4 hl2
        obtain ⟨e6, g6, y6, Y6, F6⟩ := m_byte (c := 48 + dM A q) Y5 hl2 (by omega)
        have hd : (48 : Int32) + nI (dM A q) = nI (48 + dM A q) := nI_add 48 _
        rw [if_neg (fun h => h3 ((nI_le0 (by omega)).mp h)), if_neg (fun h => h3 ((nI_le0 (by omega)).mp h)), x4, Option.bind_some, Option.bind_some, y4', Option.bind_some]
        dsimp only
        rw [show fM_lays e4 g4 32 = some (e5, g5) from y5, Option.bind_some, Option.bind_some]
        dsimp only
        unfold fLn_addDigit
        rw [hd, x6, y6, Option.bind_some, Option.bind_some, Option.bind_some]
        refine ⟨_, _, rfl, rfl, X6.1.trans Y6.1.symm, ⟨_, ?_, X6, Y6⟩, ?_, fun j h0 h38 => ?_⟩
        · rw [List.length_append, List.length_singleton]; omega
        · show e6 0 = 0
          rw [F6 0 (by omega), F5 0 (by omega), F4 0 (by omega)]; exact hF0
        · show e6 j = rm j
          rw [F6 j h38, F5 j h38, F4 j h38]; exact hF j h0 h38
    · have hq2 : dA A q - 1 < P := by omega
      obtain ⟨o3, p3⟩ := x_pName TX hq2
      have l3 := o3.2
      obtain ⟨u4, v4, x4, X4⟩ := x_text2 X3 (by omega)
      obtain ⟨u5, v5, x5, X5⟩ := x_name_ o3 X4 (by rw [List.length_append]; show _ + 7 + _ ≤ 40; omega)
      obtain ⟨e4, g4, y4, Y4, F4⟩ := m_says (resW_ok 17 (by omega)) Y3 (by show _ + 1 + 5 ≤ 40; omega)
      have y4' : fM_says e3 g3 (418330731890 : Int64) = some (e4, g4) := y4
      obtain ⟨e5, g5, y5, Y5, F5⟩ := m_says o3 Y4 (by rw [List.length_append]; show _ + 6 + 1 + _ ≤ 40; omega)
      have hE2 : l ++ 32 :: (resW 17).reverse ++ 32 :: (nP (dA A q - 1)).reverse = l ++ [32, 97, 102, 116, 101, 114, 32] ++ (nP (dA A q - 1)).reverse := by simp [resW]
      rw [hE2] at Y5
      have n3 : zrd nm 28 (8 + nI (dA A q - 1)) = some (lN (mv (nP (dA A q - 1)))) := by
        rw [show (8 : Int32) = nI 8 from rfl, nI_add, zrd_n (by omega) (by omega), m6 _ hq2]
      have hwb : fM_whomBy s (nI q) = some (nI (dA A q - 1)) := by
        unfold fM_whomBy
        rw [z_133, zrd_n (by omega) (by omega), d2.2.2.2.2.1 q (by omega), Option.bind_some, nI_p1 (by omega)]
      rw [if_neg (fun h => h2 ((nI_m1 (by omega)).mp h)), if_neg (fun h => h2 ((nI_le0 (by omega)).mp h)), x4, Option.bind_some, Option.bind_some, nI_p1 (by omega), p3, Option.bind_some, y4', Option.bind_some, hwb, Option.bind_some, n3, Option.bind_some]
      dsimp only
      rw [x5, y5, Option.bind_some, Option.bind_some]
      refine ⟨_, _, rfl, rfl, X5.1.trans Y5.1.symm, ⟨_, ?_, X5, Y5⟩, ?_, fun j h0 h38 => ?_⟩
      · rw [List.length_append, List.length_append, List.length_reverse]; show _ + 7 + _ ≤ 40; omega
      · show e5 0 = 0
        rw [F5 0 (by omega), F4 0 (by omega)]; exact hF0
      · show e5 j = rm j
        rw [F5 j h38, F4 j h38]; exact hF j h0 h38
  · rw [if_neg h1, if_neg h1]
    refine ⟨(-1, r0, r), (-1, zup rm 0 0, tx), rfl, rfl, rfl, lR_cong L (show zup rm 0 0 38 = rm 38 from zup_n (by omega)), (show zup rm 0 0 0 = 0 from zup_s), fun j h0 _ => (show zup rm 0 0 j = rm j from zup_n h0)⟩
theorem c_byteAt {a1 : Int32} (L : lR r0 r rm tx) : ∃ v, fX_byteAt r0 r a1 = some v ∧ fM_byteAt rm tx a1 = some (v, zup rm 0 0) := by
  obtain ⟨l, h1, h2, h3⟩ := L
  unfold fX_byteAt fLn_byteOf fM_byteAt fM_isIn
  rw [zlet_e, zup_n (by omega), h2.1, h3.1]
  by_cases c1 : a1 < 0
  · rw [if_pos c1, if_pos c1, if_neg (show ¬ false = true by decide)]
    exact ⟨_, rfl, rfl⟩
  · obtain ⟨i, i1, rfl⟩ := nI_of (x := a1) c1
    rw [if_neg c1, if_neg c1]
    by_cases c2 : l.length ≤ i
    · have c3 : nI l.length - 1 < nI i := by
        by_cases e : l.length = 0
        · rw [e]
          exact Int32.lt_of_lt_of_le (show nI 0 - 1 < 0 by decide) (nI_pos' i1)
        · rw [nI_p1 (by omega)]
          exact nI_lt (by omega) i1
      rw [if_pos (nI_le c2 i1), if_pos c3, if_neg (show ¬ false = true by decide)]
      exact ⟨_, rfl, rfl⟩
    · rw [if_neg (nI_ge (by omega) (by omega)), if_neg (zg40 (by omega)), zrd_n (by omega) (by omega), nI_p1 (by omega), if_neg (nI_nlt (by omega) (by omega)), if_pos rfl, zrd_n (by omega) (by omega), h2.2 i (by omega), h3.2 i (by omega)]
      exact ⟨_, rfl, rfl⟩
end LN
