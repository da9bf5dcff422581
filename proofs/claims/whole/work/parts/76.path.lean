/-! ===== bar, path ===== -/
section BP
variable {C P : Nat} {B : Nat → Nat} {A : aD} {rp bs far f pl bu le di wa lf ly pr s ap rm r0 pw pm : Nat → Int32} {a1 a2 : Int32}
def bR (r0 rm : Nat → Int32) : Prop := (rm 32 = 0 ∧ r0 18 = -1) ∨ (rm 32 = 1 ∧ r0 18 = rm 31)
theorem c_barred (h : bR r0 rm) : fM_barred rm = some (fX_barred r0, zup rm 0 0) := by
  unfold fM_barred fX_barred
  rw [zlet_e, zup_n (show (32 : Nat) ≠ 0 by omega), zup_n (show (31 : Nat) ≠ 0 by omega)]
  rcases h with ⟨h1, h2⟩ | ⟨h1, h2⟩
  · rw [if_pos h1, h2]
  · rw [if_neg (by rw [h1]; decide), h2]
theorem c_bar (hC : C ≤ 8) (r4 : rp 4 = nI C) (s0 : s 0 = nI C) (hB : p_BC B C) (hb : ∀ c, c < 8 → bs c = nI (B c)) (hs : ∀ c, c < 8 → s (3 + c) = nI (B c)) (hR : bR r0 rm) :
    ∃ v r0' rm', fX_bar r0 rp bs a1 a2 = some (v, r0') ∧ fM_bar rm s a1 a2 = some (v, rm') ∧ rm' 0 = 0 ∧ bR r0' rm' ∧ (∀ j, j ≠ 18 → r0' j = r0 j) ∧ ∀ j, j ≠ 0 → j ≠ 31 → j ≠ 32 → rm' j = rm j := by
  have hno : (zup rm 0 0) 0 = 0 ∧ bR r0 (zup rm 0 0) ∧ (∀ j, j ≠ 18 → r0 j = r0 j) ∧ ∀ j, j ≠ 0 → j ≠ 31 → j ≠ 32 → zup rm 0 0 j = rm j := ⟨zup_s, by unfold bR; rw [zup_n (show (32 : Nat) ≠ 0 by omega), zup_n (show (31 : Nat) ≠ 0 by omega)]; exact hR, fun _ _ => rfl, fun j h _ _ => zup_n h⟩
  unfold fX_bar fM_bar
  rw [p_hasCorner hC r4, p_hasCorner hC r4, zlet_e, p_isCorner hC s0, p_isCorner hC s0, Option.bind_some, Option.bind_some]
  by_cases h1 : p_has C a1 = true
  · rw [if_pos h1, if_pos h1]
    by_cases h2 : p_has C a2 = true
    · rw [if_pos h2, if_pos h2]
      by_cases h3 : a1 = a2
      · rw [if_pos h3, if_pos h3]
        exact ⟨_, _, _, rfl, rfl, hno⟩
      · rw [if_neg h3, if_neg h3]
        obtain ⟨c, hc, rfl⟩ := p_has_ex (by omega) h1
        obtain ⟨d, hd, rfl⟩ := p_has_ex (by omega) h2
        rw [p_areBeside hC r4 hb hB hc hd, p_isBeside (fun c hc => p_BC_lt hC hB hc) hs (by omega) (by omega), Option.bind_some, Option.bind_some]
        by_cases h4 : (B c).testBit d = true
        · rw [if_pos h4, if_pos h4]
          exact ⟨_, _, _, rfl, rfl, hno⟩
        · obtain ⟨b, b1, b2, b3⟩ := p_bar hC r4 s0 hB hb hs hc hd (fun e => h3 (by rw [e])) (by simpa using h4)
          rw [if_neg h4, if_neg h4, b2, b3, Option.bind_some, Option.bind_some, zlet_e, zlet_e, zlet_e, zup_s, z_bc b1, z_bits b1, Option.bind_some]
          refine ⟨_, _, _, rfl, rfl, ?_, Or.inr ⟨?_, ?_⟩, fun j h => zup_n h, fun j g1 g2 g3 => ?_⟩
          · rw [zup_n (by omega), zup_n (by omega), zup_s]
          · rw [zup_n (by omega), zup_s]
          · rw [zup_s, zup_s]
          · rw [zup_n g2, zup_n g3, zup_n g1]
    · rw [if_neg h2, if_neg h2]
      exact ⟨_, _, _, rfl, rfl, hno⟩
  · rw [if_neg h1, if_neg h1]
    exact ⟨_, _, _, rfl, rfl, hno⟩
theorem p_st_D {B : Nat → Nat} {c d : Nat} (h : ∃ k, p_D B c d k) : ∃ k, p_D B (p_st B c d) d k := by
  unfold p_st
  split
  · next h' =>
    rcases Classical.choose_spec h' with ⟨-, h2⟩ | ⟨k, h1, h2, h3⟩
    · rw [h2]; exact h
    · exact ⟨k, h2.2.2⟩
  · exact h
noncomputable def p_it (B : Nat → Nat) (c d : Nat) : Nat → Nat
  | 0 => c
  | n + 1 => p_st B (p_it B c d n) d
theorem p_it_lt {c d : Nat} (hC : C ≤ 8) (hB : p_BC B C) (hc : c < C) (n : Nat) : p_it B c d n < C := by
  induction n with
  | zero => exact hc
  | succ n ih => exact p_st_lt hC hB ih
theorem p_it_D {c d : Nat} (h : ∃ k, p_D B c d k) (n : Nat) : ∃ k, p_D B (p_it B c d n) d k := by
  induction n with
  | zero => exact h
  | succ n ih => exact p_st_D ih
theorem x_pathL {c d k : Nat} (G : gX C P B rp bs far) (hc : c < C) (hd : d < C) (hk : k < 8) : ∃ pw', zLP (fun t : (Nat → Int32) × Int32 × Int32 => fX_path_L44 rp bs far (nI d) (nI k) t.1 t.2.1 t.2.2) (pw, nI c, 0) = some pw' ∧ ∀ i, i < k → pw' i = nI (p_it B c d (i + 1)) := by
  obtain ⟨hC, hP, hr, hB, hb, hf⟩ := G
  refine zLP_inv (fun n t => t.2.2 = nI n ∧ t.2.1 = nI (p_it B c d n) ∧ ∀ i, i < n → t.1 i = nI (p_it B c d (i + 1))) _ k ⟨rfl, rfl, fun i hi => absurd hi (by omega)⟩ ?_ ?_
  · rintro n ⟨t1, t2, t3⟩ hn ⟨e1, e2, e3⟩
    dsimp only at e1 e2 e3
    left
    refine ⟨(zup t1 n (nI (p_it B c d (n + 1))), nI (p_it B c d (n + 1)), nI (n + 1)), ?_, rfl, rfl, fun i hi => ?_⟩
    · show fX_path_L44 rp bs far (nI d) (nI k) t1 t2 t3 = _
      unfold fX_path_L44
      rw [e1, e2, if_neg (show ¬ nI k ≤ nI n from nI_ge (by omega) (by omega)), if_neg (show ¬ (8 : Int32) ≤ nI n from nI_ge (b := 8) (by omega) (by omega)), p_stepX hC hr hB hb hf (p_it_lt hC hB hc n) hd, Option.bind_some, zwr_n (by omega) (by omega), Option.bind_some, nI_1]; rfl
    · show zup t1 n _ i = _
      by_cases e : i = n
      · rw [e, zup_s]
      · rw [zup_n e]; exact e3 i (by omega)
  · rintro ⟨t1, t2, t3⟩ ⟨e1, e2, e3⟩
    dsimp only at e1 e2 e3
    refine ⟨t1, ?_, e3⟩
    show fX_path_L44 rp bs far (nI d) (nI k) t1 t2 t3 = _
    unfold fX_path_L44
    rw [e1, if_pos (show nI k ≤ nI k from nI_le (by omega) (by omega))]
theorem m_pathL {c d k : Nat} {r : Nat → Int32} (hC : C ≤ 8) (hB : p_BC B C) (M : gM C P B s ap) (hc : c < C) (hd : d < C) (hk : k < 8) (hw : ∃ k, p_D B c d k) (h30 : r 30 = nI k) : ∃ pm', zLP (fun t : (Nat → Int32) × Int32 × Int32 => fM_path_L76 s ap (nI d) r t.1 t.2.1 t.2.2) (pm, nI c, 0) = some pm' ∧ ∀ i, i < k → pm' i = nI (p_it B c d (i + 1)) := by
  refine zLP_inv (fun n t => t.2.2 = nI n ∧ t.2.1 = nI (p_it B c d n) ∧ ∀ i, i < n → t.1 i = nI (p_it B c d (i + 1))) _ k ⟨rfl, rfl, fun i hi => absurd hi (by omega)⟩ ?_ ?_
  · rintro n ⟨t1, t2, t3⟩ hn ⟨e1, e2, e3⟩
    dsimp only at e1 e2 e3
    left
    refine ⟨(zup t1 n (nI (p_it B c d (n + 1))), nI (p_it B c d (n + 1)), nI (n + 1)), ?_, rfl, rfl, fun i hi => ?_⟩
    · show fM_path_L76 s ap (nI d) r t1 t2 t3 = _
      unfold fM_path_L76
      rw [e1, e2, h30, if_neg (show ¬ nI k ≤ nI n from nI_ge (by omega) (by omega)), p_towards hC hB M.2.1 M.2.2 (p_it_lt hC hB hc n) hd (p_it_D hw n), Option.bind_some, zwr_n (by omega) (by omega), Option.bind_some, nI_1]; rfl
    · show zup t1 n _ i = _
      by_cases e : i = n
      · rw [e, zup_s]
      · rw [zup_n e]; exact e3 i (by omega)
  · rintro ⟨t1, t2, t3⟩ ⟨e1, e2, e3⟩
    dsimp only at e1 e2 e3
    refine ⟨t1, ?_, e3⟩
    show fM_path_L76 s ap (nI d) r t1 t2 t3 = _
    unfold fM_path_L76
    rw [e1, h30, if_pos (show nI k ≤ nI k from nI_le (by omega) (by omega))]
def pR (r0 pw rm pm : Nat → Int32) : Prop := ∃ k, k ≤ 8 ∧ r0 15 = nI k ∧ rm 30 = nI k ∧ ∀ i, i < k → pw i = pm i
theorem c_path (G : gX C P B rp bs far) (M : gM C P B s ap) (r6 : rp 6 = nI P) (s0 : s 0 = nI C) (hV : dV C P A) (hx : xPl P A pl) (h : sD P A s) (hR : pR r0 pw rm pm) :
    ∃ v r0' pw' rm' pm', fX_path r0 rp bs far pl pw a1 a2 = some (v, r0', pw') ∧ fM_path rm s ap pm a1 a2 = some (v, rm', pm') ∧ rm' 0 = 0 ∧ pR r0' pw' rm' pm' ∧ (∀ j, j ≠ 15 → r0' j = r0 j) ∧ ∀ j, j ≠ 0 → j ≠ 30 → rm' j = rm j := by
  obtain ⟨hC, hP, hr, hB, hb, hf⟩ := id G
  have hno : (zup rm 0 0) 0 = 0 ∧ pR r0 pw (zup rm 0 0) pm ∧ (∀ j, j ≠ 15 → r0 j = r0 j) ∧ ∀ j, j ≠ 0 → j ≠ 30 → zup rm 0 0 j = rm j := ⟨zup_s, by unfold pR; rw [zup_n (show (30 : Nat) ≠ 0 by omega)]; exact hR, fun _ _ => rfl, fun j h _ => zup_n h⟩
  unfold fX_path fM_path
  rw [p_hasPerson hP r6, zlet_e, p_isPerson hP M.1, p_isCorner hC s0, Option.bind_some, Option.bind_some]
  by_cases h1 : p_has P a1 = true
  · obtain ⟨q, hq, rfl⟩ := p_has_ex (by omega) h1
    have hw := hV.1 q 0 hq (by omega)
    rw [if_pos h1, if_pos h1, x_place hx hP hq, Option.bind_some, m_wasQ h hP hq, Option.bind_some]
    unfold fPl_farFrom
    rw [p_hasCorner hC hr, p_hasCorner hC hr, p_has_y (by omega) hw, if_pos rfl]
    by_cases h2 : p_has C a2 = true
    · obtain ⟨d, hd, rfl⟩ := p_has_ex (by omega) h2
      rw [if_pos h2, if_pos h2, z_mul8, zrd_n (by omega) (by omega), Option.bind_some, Option.bind_some, z_8mul, zrd_n (by omega) (by omega), Option.bind_some]
      rcases hf _ _ hw hd with ⟨k, k1, k2, k3⟩ | ⟨k2, k3⟩
      · have hm : ap (8 * dW A 0 q + d) = nI k := by
          rcases M.2.2 _ _ hw hd with ⟨k', g1, g2, g3⟩ | ⟨g2, g3⟩
          · rw [g2, p_D_uni g3 k3]
          · exact absurd k3.1 (g3 k)
        obtain ⟨pw', x1, x2⟩ := x_pathL (pw := pw) G hw hd k1
        obtain ⟨pm', y1, y2⟩ := m_pathL (pm := pm) (r := zup (zup rm 0 0) 30 (nI k)) hC hB M hw hd k1 ⟨k, k3⟩ zup_s
        rw [k2, hm, if_neg (nI_nm1 (by omega)), if_pos (show nI k < 1000000 from nI_lt (b := 1000000) (by omega) (by omega)), x1, Option.bind_some, zlet_e, Option.bind_some, z_8mul, zrd_n (by omega) (by omega), hm, Option.bind_some, zlet_e, y1, Option.bind_some, zup_s]
        refine ⟨_, _, _, _, _, rfl, rfl, ?_, ⟨k, by omega, zup_s, zup_s, fun i hi => by rw [x2 i hi, y2 i hi]⟩, fun j g => zup_n g, fun j g1 g2 => ?_⟩
        · rw [zup_n (by omega), zup_s]
        · rw [zup_n g2, zup_n g1]
      · have hm : ap (8 * dW A 0 q + d) = nI 1000000 := by
          rcases M.2.2 _ _ hw hd with ⟨k', g1, g2, g3⟩ | ⟨g2, g3⟩
          · exact absurd g3.1 (k3 k')
          · exact g2
        rw [k2, hm, if_pos rfl, if_neg (show ¬ nI 1000000 < 1000000 by decide)]
        exact ⟨_, _, _, _, _, rfl, rfl, hno⟩
    · rw [if_neg h2, if_neg h2, Option.bind_some, if_pos rfl]
      exact ⟨_, _, _, _, _, rfl, rfl, hno⟩
  · rw [if_neg h1, if_neg h1]
    exact ⟨_, _, _, _, _, rfl, rfl, hno⟩
theorem c_pathAt (hR : pR r0 pw rm pm) : ∃ v, fX_pathAt r0 pw a1 = some v ∧ fM_pathAt rm pm a1 = some (v, zup rm 0 0) := by
  obtain ⟨k, k8, h1, h2, h3⟩ := hR
  unfold fX_pathAt fM_pathAt fM_isIn
  rw [zlet_e, zup_n (show (30 : Nat) ≠ 0 by omega), h1, h2]
  by_cases e0 : a1 < 0
  · rw [if_pos e0, if_pos e0, if_neg (show ¬ false = true by decide)]
    exact ⟨_, rfl, rfl⟩
  · rw [if_neg e0, if_neg e0]
    obtain ⟨i, hi, rfl⟩ := nI_of (x := a1) e0
    by_cases e1 : k ≤ i
    · have hlt : nI k - 1 < nI i := by
        by_cases ek : k = 0
        · rw [ek]; exact Int32.lt_of_lt_of_le (by decide) (nI_pos' hi)
        · rw [show nI k - 1 = nI (k - 1) from nI_sub (a := k) (b := 1) (by omega)]; exact nI_lt (by omega) hi
      rw [if_pos (show nI k ≤ nI i from nI_le e1 hi), if_pos hlt, if_neg (show ¬ false = true by decide)]
      exact ⟨_, rfl, rfl⟩
    · have hlt : ¬ nI k - 1 < nI i := by
        rw [show nI k - 1 = nI (k - 1) from nI_sub (a := k) (b := 1) (by omega)]; exact nI_nlt (by omega) (by omega)
      rw [if_neg (show ¬ nI k ≤ nI i from nI_ge (by omega) (by omega)), if_neg (show ¬ (8 : Int32) ≤ nI i from nI_ge (b := 8) (by omega) (by omega)), if_neg hlt, if_pos rfl, zrd_n (by omega) (by omega), zrd_n (by omega) (by omega), h3 i (by omega)]
      exact ⟨_, rfl, rfl⟩
end BP
