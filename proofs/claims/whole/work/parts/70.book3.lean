/-! ===== book, call against call ===== -/
theorem i32_01 {x : Int32} (h : ¬ x < 0) (h1 : ¬ 1 < x) : x = 0 ∨ x = 1 := by
  rw [Int32.lt_iff_toInt_lt] at h h1
  have a0 : (0 : Int32).toInt = 0 := rfl
  have a1 : (1 : Int32).toInt = 1 := rfl
  have : x.toInt = 0 ∨ x.toInt = 1 := by omega
  rcases this with e | e
  · left; exact Int32.toInt_inj.mp (e.trans a0.symm)
  · right; exact Int32.toInt_inj.mp (e.trans a1.symm)
abbrev d9 : Type := (Nat → Int32) × (Nat → Int32) × (Nat → Int32) × (Nat → Int32) × (Nat → Int32) × (Nat → Int32) × (Nat → Int32) × (Nat → Int32) × (Nat → Int32)
section FB
variable {r0 tp tb rd rp bs far f pl bu le di wa lf ly pr g1 g2 g3 g4 g5 g6 g7 g8 g9 co hi bk ac at_ ot nu : Nat → Int32} {wrd tw cn pn : Nat → Int64} {g : zM} {a1 : Int32} {y1 : (Nat → Int32) × (Nat → Int64)} {y4 : bRX} {y8 : d9} {v : Int32} {bk' f' pl' bu' le' di' wa' lf' ly' pr' co' : Nat → Int32}
theorem fX_book_no (h : a1 < 0 ∨ 1 < a1) : fX_book r0 tp tb rd wrd tw rp cn pn bs far f pl bu le di wa lf ly pr g1 g2 g3 g4 g5 g6 g7 g8 g9 co hi bk ac at_ ot nu g a1 = some (-1000, r0, tp, rd, wrd, f, pl, bu, le, di, wa, lf, ly, pr, g1, g2, g3, g4, g5, g6, g7, g8, g9, co, hi, bk, ac, at_, ot, nu, g) := by
  unfold fX_book
  by_cases e : a1 < 0
  · rw [if_pos e]
  · rw [if_neg e, if_neg (show ¬ a1 ≤ 1 from fun h' => by rcases h with h | h; exact e h; exact absurd h' (Int32.not_le.mpr h))]
theorem fX_book_bad (h : a1 = 0 ∨ a1 = 1) (e1 : fRd_start rd wrd tp tb 400 = some y1) (e2 : fBk_readFrom bk ac at_ ot nu y1.1 y1.2 tp tb tw rp cn pn = some y4) (e3 : ¬ y4.2.2.2.2.2.1 8 = 0) :
    fX_book r0 tp tb rd wrd tw rp cn pn bs far f pl bu le di wa lf ly pr g1 g2 g3 g4 g5 g6 g7 g8 g9 co hi bk ac at_ ot nu g a1 = some ((-2) - y4.2.2.2.2.2.1 3, zup r0 16 (y4.2.2.2.2.2.1 8), zup tp 1 0, y4.2.2.2.2.2.1, y4.2.2.2.2.2.2, f, pl, bu, le, di, wa, lf, ly, pr, g1, g2, g3, g4, g5, g6, g7, g8, g9, co, hi, y4.1, y4.2.1, y4.2.2.1, y4.2.2.2.1, y4.2.2.2.2.1, g) := by
  unfold fX_book
  have h0 : ¬ a1 < 0 := by rcases h with h | h <;> rw [h] <;> decide
  have h1 : a1 ≤ 1 := by rcases h with h | h <;> rw [h] <;> decide
  rw [if_neg h0, if_pos h1, e1, Option.bind_some, e2, Option.bind_some]
  unfold fRd_faultKind fTp_clear fRd_place
  rw [zlet_e, zlet_e, Option.bind_some, if_neg (show ¬ zup r0 16 (y4.2.2.2.2.2.1 8) 16 = 0 by rw [zup_s]; exact e3)]
theorem fX_book_0 (h : a1 = 0) (e1 : fRd_start rd wrd tp tb 400 = some y1) (e2 : fBk_readFrom bk ac at_ ot nu y1.1 y1.2 tp tb tw rp cn pn = some y4) (e3 : y4.2.2.2.2.2.1 8 = 0) (e4 : fDy_copyFrom g1 g2 g3 g4 g5 g6 g7 g8 g9 f pl bu le di wa lf ly pr = some y8) (e5 : fBk_judge y4.1 y4.2.1 y4.2.2.1 y4.2.2.2.1 y4.2.2.2.2.1 rp bs far y8.1 y8.2.1 y8.2.2.1 y8.2.2.2.1 y8.2.2.2.2.1 y8.2.2.2.2.2.1 y8.2.2.2.2.2.2.1 y8.2.2.2.2.2.2.2.1 y8.2.2.2.2.2.2.2.2 co = some (v, bk', f', pl', bu', le', di', wa', lf', ly', pr', co')) :
    fX_book r0 tp tb rd wrd tw rp cn pn bs far f pl bu le di wa lf ly pr g1 g2 g3 g4 g5 g6 g7 g8 g9 co hi bk ac at_ ot nu g a1 = some (v, zup r0 16 (y4.2.2.2.2.2.1 8), zup tp 1 0, y4.2.2.2.2.2.1, y4.2.2.2.2.2.2, f, pl, bu, le, di, wa, lf, ly, pr, f', pl', bu', le', di', wa', lf', ly', pr', co', hi, bk', y4.2.1, y4.2.2.1, y4.2.2.2.1, y4.2.2.2.2.1, g) := by
  unfold fX_book
  subst h
  rw [if_neg (show ¬ (0 : Int32) < 0 by decide), if_pos (show (0 : Int32) ≤ 1 by decide), e1, Option.bind_some, e2, Option.bind_some]
  unfold fRd_faultKind fTp_clear
  rw [zlet_e, zlet_e, Option.bind_some, if_pos (show zup r0 16 (y4.2.2.2.2.2.1 8) 16 = 0 by rw [zup_s]; exact e3), e4, Option.bind_some, e5, Option.bind_some, zlet_e, if_neg (show ¬ (0 : Int32) = 1 by decide)]
theorem fX_book_1 {y12 : (Nat → Int32) × (Nat → Int32) × (Nat → Int32) × (Nat → Int32) × (Nat → Int32) × (Nat → Int32) × (Nat → Int32) × (Nat → Int32) × (Nat → Int32) × (Nat → Int32) × zM} (h : a1 = 1) (e1 : fRd_start rd wrd tp tb 400 = some y1) (e2 : fBk_readFrom bk ac at_ ot nu y1.1 y1.2 tp tb tw rp cn pn = some y4) (e3 : y4.2.2.2.2.2.1 8 = 0) (e4 : fDy_copyFrom g1 g2 g3 g4 g5 g6 g7 g8 g9 f pl bu le di wa lf ly pr = some y8) (e5 : fBk_judge y4.1 y4.2.1 y4.2.2.1 y4.2.2.2.1 y4.2.2.2.2.1 rp bs far y8.1 y8.2.1 y8.2.2.1 y8.2.2.2.1 y8.2.2.2.2.1 y8.2.2.2.2.2.1 y8.2.2.2.2.2.2.1 y8.2.2.2.2.2.2.2.1 y8.2.2.2.2.2.2.2.2 co = some (v, bk', f', pl', bu', le', di', wa', lf', ly', pr', co')) (e6 : fX_settle f pl bu le di wa lf ly pr f' pl' bu' le' di' wa' lf' ly' pr' hi g (bk' 7) = some y12) :
    fX_book r0 tp tb rd wrd tw rp cn pn bs far f pl bu le di wa lf ly pr g1 g2 g3 g4 g5 g6 g7 g8 g9 co hi bk ac at_ ot nu g a1 = some (v, zup r0 16 (y4.2.2.2.2.2.1 8), zup tp 1 0, y4.2.2.2.2.2.1, y4.2.2.2.2.2.2, y12.1, y12.2.1, y12.2.2.1, y12.2.2.2.1, y12.2.2.2.2.1, y12.2.2.2.2.2.1, y12.2.2.2.2.2.2.1, y12.2.2.2.2.2.2.2.1, y12.2.2.2.2.2.2.2.2.1, f', pl', bu', le', di', wa', lf', ly', pr', co', y12.2.2.2.2.2.2.2.2.2.1, bk', y4.2.1, y4.2.2.1, y4.2.2.2.1, y4.2.2.2.2.1, y12.2.2.2.2.2.2.2.2.2.2) := by
  unfold fX_book
  subst h
  rw [if_neg (show ¬ (1 : Int32) < 0 by decide), if_pos (show (1 : Int32) ≤ 1 by decide), e1, Option.bind_some, e2, Option.bind_some]
  unfold fRd_faultKind fTp_clear
  rw [zlet_e, zlet_e, Option.bind_some, if_pos (show zup r0 16 (y4.2.2.2.2.2.1 8) 16 = 0 by rw [zup_s]; exact e3), e4, Option.bind_some, e5, Option.bind_some, zlet_e, if_pos (show (1 : Int32) = 1 from rfl)]
  unfold fBk_goodLines
  dsimp only
  rw [e6, Option.bind_some]
end FB
noncomputable def kC (u : Nat → Int32) (a1 : Int32) (x9 : bSM) (y28 : Nat → Int32) (r49 : (Nat → Int32) × (Nat → Int32) × (Nat → Int32) × Int32) : Option bRM :=
  zlet (zup r49.2.2.1 2 (r49.1 89)) (fun (v70 : Nat → Int32) => (fM_printsInAll r49.1).bind (fun (y71 : Int32) => zlet (zup v70 3 y71) (fun (v72 : Nat → Int32) => zlet (zup x9.1 42 1) (fun (v73 : Nat → Int32) =>
  (if a1 = 1 then
  (if (v72 1) ≤ 0 then
  (if a1 = 0 then
  (fM_back r49.1 y28).bind (fun (y77 : (Nat → Int32)) => some (r49.2.2.2, v73, x9.2.1, y77, x9.2.2, r49.2.1, u, y28, v72))
  else
  some (r49.2.2.2, v73, x9.2.1, r49.1, x9.2.2, r49.2.1, u, y28, v72))
  else
  (fM_keep v73 r49.1 u).bind (fun (y78 : (Nat → Int32) × (Nat → Int32)) =>
  (zLP (fun s => fM_book_L249 y28 y78 s.1 s.2) (y78.2, 0)).bind (fun r83 =>
  (if a1 = 0 then
  (fM_back r49.1 y28).bind (fun (y94 : (Nat → Int32)) => some (r49.2.2.2, y78.1, x9.2.1, y94, x9.2.2, r49.2.1, r83, y28, v72))
  else
  some (r49.2.2.2, y78.1, x9.2.1, r49.1, x9.2.2, r49.2.1, r83, y28, v72)))))
  else
  (if a1 = 0 then
  (fM_back r49.1 y28).bind (fun (y96 : (Nat → Int32)) => some (r49.2.2.2, v73, x9.2.1, y96, x9.2.2, r49.2.1, u, y28, v72))
  else
  some (r49.2.2.2, v73, x9.2.1, r49.1, x9.2.2, r49.2.1, u, y28, v72)))))))
noncomputable def kB (s ap to u bf ta : Nat → Int32) (a1 : Int32) (x9 : bSM) : Option bRM := (fM_tries s bf).bind (fun y28 => (zLP (fun s : (Nat → Int32) × Int32 => fM_book_L89 s.1 s.2) (ta, 0)).bind (fun r33 => (zLP (jBM ap x9.1 x9.2.2) (s, to, r33, (-1), 0)).bind (fun r49 => kC u a1 x9 y28 r49)))
theorem fM_book_eq {rm mt s rd ap to u bf ta : Nat → Int32} {wm nm rs : Nat → Int64} {a1 : Int32} {y6 : (Nat → Int32) × (Nat → Int64)} (h : a1 = 0 ∨ a1 = 1) (h6 : fM_next (zup (zup (zup (zup (zup (zup (zup rm 0 0) 3 (zup rm 0 0 2)) 2 0) 4 0) 5 400) 15 0) 40 0) wm mt = some y6) : fM_book rm wm mt s rd nm rs ap to u bf ta a1 = (zLP (bBM mt s nm rs to u bf ta) (y6.1, y6.2, rd)).bind (fun r12 => zsum r12 (kB s ap to u bf ta a1) (fun q9 => some q9)) := by
  have hi : fM_isIn a1 0 1 = true := by
    unfold fM_isIn
    rcases h with h | h <;> rw [h] <;> decide
  unfold fM_book
  rw [zlet_e, if_pos hi, show fM_taken (zup rm 0 0) 400 = some (zup (zup (zup (zup (zup rm 0 0) 3 (zup rm 0 0 2)) 2 0) 4 0) 5 400) from rfl, Option.bind_some, zlet_e, zlet_e, h6, Option.bind_some]
  rfl
theorem kC_0 {u x1 x3 y28 s to ta s' : Nat → Int32} {x2 : Nat → Int64} {v y : Int32} (h : fM_printsInAll s = some y) (hb : fM_back s y28 = some s') : kC u 0 (x1, x2, x3) y28 (s, to, ta, v) = some (v, zup x1 42 1, x2, s', x3, to, u, y28, zup (zup ta 2 (s 89)) 3 y) := by
  unfold kC
  dsimp only
  rw [zlet_e, h, Option.bind_some, zlet_e, zlet_e, if_neg (show ¬ (0 : Int32) = 1 by decide), if_pos rfl, hb, Option.bind_some]
theorem kC_1a {u x1 x3 y28 s to ta : Nat → Int32} {x2 : Nat → Int64} {v y : Int32} (h : fM_printsInAll s = some y) (hg : ta 1 = 0) : kC u 1 (x1, x2, x3) y28 (s, to, ta, v) = some (v, zup x1 42 1, x2, s, x3, to, u, y28, zup (zup ta 2 (s 89)) 3 y) := by
  unfold kC
  dsimp only
  rw [zlet_e, h, Option.bind_some, zlet_e, zlet_e, if_pos rfl, if_pos (show zup (zup ta 2 (s 89)) 3 y 1 ≤ 0 by rw [zup_n (by omega), zup_n (by omega), hg]; decide), if_neg (show ¬ (1 : Int32) = 0 by decide)]
theorem kC_1b {u x1 x3 y28 s to ta k1 u1 u' : Nat → Int32} {x2 : Nat → Int64} {v y : Int32} {g : Nat} (h : fM_printsInAll s = some y) (hg : ta 1 = nI g) (g0 : g ≠ 0) (gl : g < 2 ^ 31) (hk : fM_keep (zup x1 42 1) s u = some (k1, u1)) (ho : zLP (fun t : (Nat → Int32) × Int32 => fM_book_L249 y28 (k1, u1) t.1 t.2) (u1, 0) = some u') : kC u 1 (x1, x2, x3) y28 (s, to, ta, v) = some (v, k1, x2, s, x3, to, u', y28, zup (zup ta 2 (s 89)) 3 y) := by
  unfold kC
  dsimp only
  rw [zlet_e, h, Option.bind_some, zlet_e, zlet_e, if_pos rfl, if_neg (show ¬ zup (zup ta 2 (s 89)) 3 y 1 ≤ 0 by rw [zup_n (by omega), zup_n (by omega), hg]; exact nI_ge (b := g) (a := 0) (by omega) gl), hk, Option.bind_some]
  dsimp only
  rw [ho, Option.bind_some, if_neg (show ¬ (1 : Int32) = 0 by decide)]
