/-! ===== a book judged ===== -/
abbrev jSX : Type := (Nat → Int32) × (Nat → Int32) × (Nat → Int32) × (Nat → Int32) × (Nat → Int32) × (Nat → Int32) × (Nat → Int32) × (Nat → Int32) × (Nat → Int32) × (Nat → Int32) × (Nat → Int32) × Int32
noncomputable abbrev jBX (ac at_ ot nu rp bs far : Nat → Int32) : jSX → Option (jSX ⊕ jSX) := fun s => fBk_judge_L15 ac at_ ot nu rp bs far s.1 s.2.1 s.2.2.1 s.2.2.2.1 s.2.2.2.2.1 s.2.2.2.2.2.1 s.2.2.2.2.2.2.1 s.2.2.2.2.2.2.2.1 s.2.2.2.2.2.2.2.2.1 s.2.2.2.2.2.2.2.2.2.1 s.2.2.2.2.2.2.2.2.2.2.1 s.2.2.2.2.2.2.2.2.2.2.2
abbrev jSM : Type := (Nat → Int32) × (Nat → Int32) × (Nat → Int32) × Int32 × Int32
noncomputable abbrev jBM (ap rm rd : Nat → Int32) : jSM → Option (jSM ⊕ ((Nat → Int32) × (Nat → Int32) × (Nat → Int32) × Int32)) := fun s => fM_book_L111 ap rm rd s.1 s.2.1 s.2.2.1 s.2.2.2.1 s.2.2.2.2
theorem b_jloop {C P m : Nat} {A0 : aD} {B : Nat → Nat} {rp bs far s0 ap ac at_ ot nu rd rm : Nat → Int32} (G : gX C P B rp bs far) (M : gM C P B s0 ap) (hm : m ≤ 40) (h40 : rm 40 = nI m) (hL : ∀ j, j < m → ∃ c, bOK C P c ∧ bX c (ac j) (at_ j) (ot j) (nu j) ∧ bM c (rd (4 * j)) (rd (4 * j + 1)) (rd (4 * j + 2)) (rd (4 * j + 3))) :
    ∀ fu k (A : aD) (bk f pl bu le di wa lf ly pr co s to ta : Nat → Int32), k + fu = m → bk 4 = nI m → bk 6 = 0 → bk 7 = nI k → ta 0 = 0 → ta 1 = nI k → (k = 0 → A = A0) → dR C P A f pl bu le di wa lf ly pr s0 s →
      ∃ (bk' : Nat → Int32) (A' : aD) (f' pl' bu' le' di' wa' lf' ly' pr' co' s' to' ta' : Nat → Int32) (v : Int32) (g : Nat), zLP (jBX ac at_ ot nu rp bs far) (bk, f, pl, bu, le, di, wa, lf, ly, pr, co, nI k) = some (bk', f', pl', bu', le', di', wa', lf', ly', pr', co', v) ∧ zLP (jBM ap rm rd) (s, to, ta, -1, nI k) = some (s', to', ta', v) ∧ dR C P A' f' pl' bu' le' di' wa' lf' ly' pr' s0 s' ∧ bk' 6 = ta' 0 ∧ bk' 7 = nI g ∧ ta' 1 = nI g ∧ g ≤ m ∧ (g = 0 → A' = A0) ∧ ∀ i, i ≠ 6 → i ≠ 7 → bk' i = bk i := by
  intro fu
  induction fu with
  | zero =>
    intro k A bk f pl bu le di wa lf ly pr co s to ta hk h4 h6 h7 t0 t1 hA D
    have hb1 : jBX ac at_ ot nu rp bs far (bk, f, pl, bu, le, di, wa, lf, ly, pr, co, nI k) = some (.inr (bk, f, pl, bu, le, di, wa, lf, ly, pr, co, -1)) := by
      show fBk_judge_L15 ac at_ ot nu rp bs far bk f pl bu le di wa lf ly pr co (nI k) = _
      unfold fBk_judge_L15
      rw [h4, if_pos (show nI m ≤ nI k from nI_le (by omega) (by omega))]
    have hb2 : jBM ap rm rd (s, to, ta, -1, nI k) = some (.inr (s, to, ta, -1)) := by
      show fM_book_L111 ap rm rd s to ta (-1) (nI k) = _
      unfold fM_book_L111
      rw [h40, if_pos (show nI m ≤ nI k from nI_le (by omega) (by omega))]
    exact ⟨bk, A, f, pl, bu, le, di, wa, lf, ly, pr, co, s, to, ta, -1, k, zLP_out hb1, zLP_out hb2, D, by rw [h6, t0], h7, t1, by omega, hA, fun _ _ _ => rfl⟩
  | succ fu ih =>
    intro k A bk f pl bu le di wa lf ly pr co s to ta hk h4 h6 h7 t0 t1 hA D
    obtain ⟨d1, d2, d3, d4, d5⟩ := D
    obtain ⟨c, c1, c2, c3⟩ := hL k (by omega)
    obtain ⟨T, A', f', pl', bu', le', di', wa', lf', ly', pr', co', s', to', q0, qA, q1, q2, q3, q4, q5, q6, q7⟩ := b_do (to := to) (co := co) (j := k) G (gM_K M d3) ⟨d1, d2, sK_rfl, d4, d5⟩ (by omega) c1 c2 c3
    have D' : dR C P A' f' pl' bu' le' di' wa' lf' ly' pr' s0 s' := ⟨q3, q4, sK_trans d3 q5, q6, q7⟩
    have e1 : nI (4 * k) + 1 = nI (4 * k + 1) := nI_1 _
    have e2 : nI (4 * k) + 2 = nI (4 * k + 2) := nI_add _ 2
    have e3 : nI (4 * k) + 3 = nI (4 * k + 3) := nI_add _ 3
    have hx : jBX ac at_ ot nu rp bs far (bk, f, pl, bu, le, di, wa, lf, ly, pr, co, nI k) = if zup bk 6 (nI T) 6 = 0 then some (.inl (zup (zup bk 6 (nI T)) 7 (zup bk 6 (nI T) 7 + 1), f', pl', bu', le', di', wa', lf', ly', pr', co', nI k + 1)) else some (.inr (zup bk 6 (nI T), f', pl', bu', le', di', wa', lf', ly', pr', co', nI k)) := by
      show fBk_judge_L15 ac at_ ot nu rp bs far bk f pl bu le di wa lf ly pr co (nI k) = _
      unfold fBk_judge_L15
      rw [h4, if_neg (show ¬ nI m ≤ nI k from nI_ge (by omega) (by omega)), if_neg (show ¬ (40 : Int32) ≤ nI k from nI_ge (b := 40) (by omega) (by omega)), q1, Option.bind_some]; rfl
    have hmo : jBM ap rm rd (s, to, ta, -1, nI k) = if zup ta 0 (nI T) 0 ≤ 0 then some (.inl (s', to', zup (zup ta 0 (nI T)) 1 (zup ta 0 (nI T) 1 + 1), -1, nI k + 1)) else some (.inl (s', to', zup ta 0 (nI T), nI k, nI k + 1)) := by
      show fM_book_L111 ap rm rd s to ta (-1) (nI k) = _
      unfold fM_book_L111
      rw [h40, if_neg (show ¬ nI m ≤ nI k from nI_ge (by omega) (by omega)), if_neg (show ¬ (0 : Int32) ≤ -1 by decide), nI_4m, zrd_n (by omega) (by omega), Option.bind_some, e1, zrd_n (by omega) (by omega), Option.bind_some, e2, zrd_n (by omega) (by omega), Option.bind_some, e3, zrd_n (by omega) (by omega), Option.bind_some, q2, Option.bind_some]; rfl
    by_cases w : T = 0
    · subst w
      rw [if_pos (show zup bk 6 (nI 0) 6 = 0 by rw [zup_s]; rfl), zup_n (show (7 : Nat) ≠ 6 by omega), h7, nI_1] at hx
      rw [if_pos (show zup ta 0 (nI 0) 0 ≤ 0 by rw [zup_s]; decide), zup_n (show (1 : Nat) ≠ 0 by omega), t1, nI_1] at hmo
      obtain ⟨bk2, A2, f2, pl2, bu2, le2, di2, wa2, lf2, ly2, pr2, co2, s2, to2, ta2, v, g, r1, r2, r3, r4, r5, r6, r7, rA, r8⟩ := ih (k + 1) A' (zup (zup bk 6 (nI 0)) 7 (nI (k + 1))) f' pl' bu' le' di' wa' lf' ly' pr' co' s' to' (zup (zup ta 0 (nI 0)) 1 (nI (k + 1))) (by omega) (by rw [zup_n (by omega), zup_n (by omega)]; exact h4) (by rw [zup_n (by omega), zup_s]; rfl) zup_s (by rw [zup_n (by omega), zup_s]; rfl) zup_s (fun h => absurd h (by omega)) D'
      exact ⟨bk2, A2, f2, pl2, bu2, le2, di2, wa2, lf2, ly2, pr2, co2, s2, to2, ta2, v, g, (zLP_go hx).trans r1, (zLP_go hmo).trans r2, r3, r4, r5, r6, r7, rA, fun i h6 h7 => by rw [r8 i h6 h7, zup_n h7, zup_n h6]⟩
    · rw [if_neg (show ¬ zup bk 6 (nI T) 6 = 0 by rw [zup_s]; exact nI_ne0 (by omega) (by omega))] at hx
      rw [if_neg (show ¬ zup ta 0 (nI T) 0 ≤ 0 by rw [zup_s]; exact nI_ge (b := T) (a := 0) (by omega) (by omega)), nI_1] at hmo
      have hmo2 : jBM ap rm rd (s', to', zup ta 0 (nI T), nI k, nI (k + 1)) = some (.inr (s', to', zup ta 0 (nI T), nI k)) := by
        show fM_book_L111 ap rm rd s' to' (zup ta 0 (nI T)) (nI k) (nI (k + 1)) = _
        unfold fM_book_L111
        rw [if_pos (show (0 : Int32) ≤ nI k from nI_le (a := 0) (by omega) (by omega))]
        by_cases e : rm 40 ≤ nI (k + 1)
        · rw [if_pos e]
        · rw [if_neg e]
      exact ⟨zup bk 6 (nI T), A', f', pl', bu', le', di', wa', lf', ly', pr', co', s', to', zup ta 0 (nI T), nI k, k, zLP_out hx, (zLP_go hmo).trans (zLP_out hmo2), D', by rw [zup_s, zup_s], by rw [zup_n (by omega)]; exact h7, by rw [zup_n (by omega)]; exact t1, by omega, fun h => (qA w).trans (hA h), fun i h6 h7 => zup_n h6⟩
theorem m_ta0 {ta : Nat → Int32} : zLP (fun s : (Nat → Int32) × Int32 => fM_book_L89 s.1 s.2) (ta, 0) = some (zup (zup (zup (zup ta 0 0) 1 0) 2 0) 3 0) := by
  refine zLP_cnt (fun k => ((match k with | 0 => ta | 1 => zup ta 0 0 | 2 => zup (zup ta 0 0) 1 0 | 3 => zup (zup (zup ta 0 0) 1 0) 2 0 | _ => zup (zup (zup (zup ta 0 0) 1 0) 2 0) 3 0), nI k)) 4 rfl ?_ ?_
  · intro k hk
    match k, hk with
    | 0, _ => rfl
    | 1, _ => rfl
    | 2, _ => rfl
    | 3, _ => rfl
  · rfl
def tRl (bk ta rm : Nat → Int32) : Prop := (bk 5 = 0 ∧ rm 42 = 0) ∨ (bk 5 = 1 ∧ rm 42 = 1 ∧ bk 6 = ta 0 ∧ bk 7 = ta 1 ∧ bk 8 = ta 2 ∧ bk 9 = ta 3)
theorem b_judge {C P m : Nat} {B : Nat → Nat} {A : aD} {rp bs far s ap ac at_ ot nu rd rm bk f pl bu le di wa lf ly pr co to ta : Nat → Int32} (G : gX C P B rp bs far) (M : gM C P B s ap) (hm : m ≤ 40) (h4 : bk 4 = nI m) (h40 : rm 40 = nI m) (hL : ∀ j, j < m → ∃ c, bOK C P c ∧ bX c (ac j) (at_ j) (ot j) (nu j) ∧ bM c (rd (4 * j)) (rd (4 * j + 1)) (rd (4 * j + 2)) (rd (4 * j + 3))) (D : dR C P A f pl bu le di wa lf ly pr s s) :
    ∃ (bk' : Nat → Int32) (A' : aD) (f' pl' bu' le' di' wa' lf' ly' pr' co' s' to' ta' : Nat → Int32) (v y : Int32) (g : Nat), fBk_judge bk ac at_ ot nu rp bs far f pl bu le di wa lf ly pr co = some (v, bk', f', pl', bu', le', di', wa', lf', ly', pr', co') ∧ zLP (jBM ap rm rd) (s, to, zup (zup (zup (zup ta 0 0) 1 0) 2 0) 3 0, -1, 0) = some (s', to', ta', v) ∧ fM_printsInAll s' = some y ∧ dR C P A' f' pl' bu' le' di' wa' lf' ly' pr' s s' ∧ bk' 5 = 1 ∧ bk' 6 = ta' 0 ∧ bk' 7 = nI g ∧ ta' 1 = nI g ∧ bk' 8 = s' 89 ∧ bk' 9 = y ∧ g ≤ 40 ∧ (g = 0 → A' = A) := by
  obtain ⟨bk', A', f', pl', bu', le', di', wa', lf', ly', pr', co', s', to', ta', v, g, r1, r2, r3, r4, r5, r6, r7, rA, r8⟩ := b_jloop (A0 := A) (rd := rd) (rm := rm) G M hm h40 hL m 0 A (zup (zup bk 6 0) 7 0) f pl bu le di wa lf ly pr co s to (zup (zup (zup (zup ta 0 0) 1 0) 2 0) 3 0) (by omega) (by rw [zup_n (by omega), zup_n (by omega)]; exact h4) (by rw [zup_n (by omega), zup_s]) zup_s (by rw [zup_n (by omega), zup_n (by omega), zup_n (by omega), zup_s]) (by rw [zup_n (by omega), zup_n (by omega), zup_s]; rfl) (fun _ => rfl) D
  have hj : fBk_judge bk ac at_ ot nu rp bs far f pl bu le di wa lf ly pr co = some (v, zup (zup (zup bk' 5 1) 8 (f' 9)) 9 (nI (zsm (dP A') 8)), f', pl', bu', le', di', wa', lf', ly', pr', co') := by
    unfold fBk_judge
    rw [zlet_e, zlet_e]
    have r1' : zLP (fun s : jSX => fBk_judge_L15 ac at_ ot nu rp bs far s.1 s.2.1 s.2.2.1 s.2.2.2.1 s.2.2.2.2.1 s.2.2.2.2.2.1 s.2.2.2.2.2.2.1 s.2.2.2.2.2.2.2.1 s.2.2.2.2.2.2.2.2.1 s.2.2.2.2.2.2.2.2.2.1 s.2.2.2.2.2.2.2.2.2.2.1 s.2.2.2.2.2.2.2.2.2.2.2) (zup (zup bk 6 0) 7 0, f, pl, bu, le, di, wa, lf, ly, pr, co, 0) = some (bk', f', pl', bu', le', di', wa', lf', ly', pr', co', v) := r1
    rw [r1', Option.bind_some, zlet_e, zlet_e]
    show (fDy_allPrints pr').bind _ = _
    rw [x_prints r3.1.2.2.2.2.2.2.2.2.2]; rfl
  refine ⟨_, A', f', pl', bu', le', di', wa', lf', ly', pr', co', s', to', ta', v, _, g, hj, r2, m_prints r3.2.1, r3, ?_, ?_, ?_, r6, ?_, zup_s, by omega, rA⟩
  · rw [zup_n (by omega), zup_n (by omega), zup_s]
  · rw [zup_n (by omega), zup_n (by omega), zup_n (by omega)]; exact r4
  · rw [zup_n (by omega), zup_n (by omega), zup_n (by omega)]; exact r5
  · rw [zup_n (by omega), zup_s, r3.1.1, r3.2.1.1]
