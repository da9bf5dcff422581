/-! ===== a changed day settled, the old one remembered ===== -/
def nxt (n : Nat) : Nat := if n = 8 then 8 else n + 1
def hRx (P n : Nat) (hs : Nat → aD) (hi : Nat → Int32) (g : zM) : Prop := ∃ nx, nx < 8 ∧ hi 1 = nI nx ∧ hi 2 = nI n ∧ qHx P n hs nx g
def hRm (P n : Nat) (hs : Nat → aD) (x : Int32) (u : Nat → Int32) : Prop := x = nI n ∧ qHm P n hs u
theorem x_settle {C P n : Nat} {A A' : aD} {hs : Nat → aD} {f pl bu le di wa lf ly pr g1 g2 g3 g4 g5 g6 g7 g8 g9 hi : Nat → Int32} {g : zM} (hV : dV C P A) (hV' : dV C P A') (h : dX P A f pl bu le di wa lf ly pr) (h' : dX P A' g1 g2 g3 g4 g5 g6 g7 g8 g9) (hv : qHv C P n hs) (hx : hRx P n hs hi g) {x : Nat} (x0 : x ≠ 0) (xl : x < 2 ^ 31) :
    ∃ y1 y2 y3 y4 y5 y6 y7 y8 y9 hi' g', fX_settle f pl bu le di wa lf ly pr g1 g2 g3 g4 g5 g6 g7 g8 g9 hi g (nI x) = some (y1, y2, y3, y4, y5, y6, y7, y8, y9, hi', g') ∧ dX P A' y1 y2 y3 y4 y5 y6 y7 y8 y9 ∧ hRx P (nxt n) (hAdd n hs A) hi' g' := by
  obtain ⟨nx, n1, n2, n3, n4⟩ := hx
  obtain ⟨r', z1, z2, z3, z4, z5, z6, z7, z8, z9, e1, e2, e3, e4⟩ := x_hadd (g := g) (dV_M hV) h n1 hv.1 n2 n3
  obtain ⟨y1, y2, y3, y4, y5, y6, y7, y8, y9, c1, c2⟩ := x_copy (r := f) (f0 := pl) (f1 := bu) (f2 := le) (f3 := di) (f4 := wa) (f5 := lf) (f6 := ly) (f7 := pr) (dV_M hV') h'
  refine ⟨y1, y2, y3, y4, y5, y6, y7, y8, y9, r', gUp g nx z1 z2 z3 z4 z5 z6 z7 z8 z9, ?_, c2, (nx + 1) % 8, Nat.mod_lt _ (by omega), e2, e3, hAdd_X hv.1 n1 n4 e4⟩
  unfold fX_settle
  rw [if_neg (show ¬ nI x ≤ 0 from nI_ge (b := x) (a := 0) (by omega) xl), e1, Option.bind_some, c1, Option.bind_some]
theorem x_settle0 {f pl bu le di wa lf ly pr g1 g2 g3 g4 g5 g6 g7 g8 g9 hi : Nat → Int32} {g : zM} : fX_settle f pl bu le di wa lf ly pr g1 g2 g3 g4 g5 g6 g7 g8 g9 hi g 0 = some (f, pl, bu, le, di, wa, lf, ly, pr, hi, g) := by
  unfold fX_settle
  rw [if_pos (by decide)]
theorem m_over {bf u r r2 : Nat → Int32} {n : Nat} (hn : n < 8) (hr : r 24 = nI (n + 1)) : ∃ u', zLP (fun t : (Nat → Int32) × Int32 => fM_book_L249 bf (r, r2) t.1 t.2) (u, 0) = some u' ∧ (∀ i, i < 127 → u' (127 * n + i) = bf i) ∧ ∀ j, j < 127 * n ∨ 127 * n + 127 ≤ j → u' j = u j := by
  refine zLP_inv (fun k t => t.2 = nI k ∧ (∀ i, i < k → t.1 (127 * n + i) = bf i) ∧ ∀ j, j < 127 * n ∨ 127 * n + 127 ≤ j → t.1 j = u j) _ 127 ⟨rfl, fun i hi => absurd hi (by omega), fun _ _ => rfl⟩ ?_ ?_
  · rintro k ⟨t1, t2⟩ hk ⟨rfl, h2, h3⟩
    try dsimp only at *
    left
    unfold fM_book_L249
    dsimp only
    rw [if_neg (zg127 hk), zrd_n (by omega) (by omega), hr, nI_pred, show (127 : Int32) * nI n = nI (127 * n) from nI_mul 127 n, nI_add, Option.bind_some, zwr_n (by omega) (by omega)]
    refine ⟨_, rfl, nI_1 k, fun i hi => ?_, fun j hj => ?_⟩
    · show zup t1 (127 * n + k) _ (127 * n + i) = _
      by_cases e : i = k
      · subst e; rw [zup_s]
      · rw [zup_n (by omega)]; exact h2 i (by omega)
    · show zup t1 (127 * n + k) _ j = _
      rw [zup_n (by omega)]; exact h3 j hj
  · rintro ⟨t1, t2⟩ ⟨rfl, h2, h3⟩
    try dsimp only at *
    refine ⟨t1, ?_, h2, h3⟩
    unfold fM_book_L249
    rw [if_pos (by decide)]
theorem nxt_le {n : Nat} (h : n ≤ 8) : 1 ≤ nxt n ∧ nxt n ≤ 8 := by unfold nxt; split <;> omega
/-- the reference keeps the new day and then puts the old one in its place -/
theorem m_keepOver {C P n : Nat} {A A' : aD} {hs : Nat → aD} {s r u bf : Nat → Int32} (hP : P ≤ 6) (hVd : dV C P A') (hV : dV C P A) (h : sD P A' s) (hv : qHv C P n hs) (hu : qHm P n hs u) (hr : r 24 = nI n) (hbf : uD P A bf 0) :
    ∃ u1 u', fM_keep r s u = some (zup r 24 (nI (nxt n)), u1) ∧ zLP (fun t : (Nat → Int32) × Int32 => fM_book_L249 bf (zup r 24 (nI (nxt n)), u1) t.1 t.2) (u1, 0) = some u' ∧ qHm P (nxt n) (hAdd n hs A) u' := by
  obtain ⟨u1, k1, k2⟩ := m_keep hP hVd h hv hu hr
  have hN := nxt_le hv.1
  obtain ⟨u', e1, e2, e3⟩ := m_over (bf := bf) (u := u1) (r := zup r 24 (nI (nxt n))) (r2 := u1) (n := nxt n - 1) (by omega) (by rw [zup_s]; congr 1; omega)
  refine ⟨u1, u', k1, e1, fun j hj => ?_⟩
  by_cases e : j = nxt n - 1
  · have hA : hAdd n hs A j = A := by
      unfold hAdd
      unfold nxt at e
      by_cases e8 : n = 8
      · rw [if_pos e8] at e ⊢; exact if_pos (by omega)
      · rw [if_neg e8] at e ⊢; exact if_pos (by omega)
    rw [hA]
    refine sD_cong hP (dV_M hV) hbf (fun i h1 h2 => ?_)
    show u' (127 * j + (i - 89)) = bf (127 * 0 + (i - 89))
    rw [e, e2 (i - 89) (by omega)]; congr 1; omega
  · have hA : hAdd n hs A j = hAdd n hs A' j := by
      unfold hAdd
      unfold nxt at e hj
      by_cases e8 : n = 8
      · rw [if_pos e8] at e hj ⊢; rw [if_pos e8]; show (if j = 7 then A else hs (j + 1)) = if j = 7 then A' else hs (j + 1); rw [if_neg (by omega), if_neg (by omega)]
      · rw [if_neg e8] at e hj ⊢; rw [if_neg e8]; show (if j = n then A else hs j) = if j = n then A' else hs j; rw [if_neg (by omega), if_neg (by omega)]
    have hj' : j < if n = 8 then 8 else n + 1 := hj
    have hd := k2 j hj'
    have hMj : ∀ q, q < 6 → dM (hAdd n hs A' j) q ≤ 8 := by
      have hlt : j < nxt n - 1 := by omega
      rw [← hA]
      unfold hAdd
      unfold nxt at hlt
      by_cases e8 : n = 8
      · rw [if_pos e8] at hlt ⊢; show ∀ q, q < 6 → dM (if j = 7 then A else hs (j + 1)) q ≤ 8; rw [if_neg (by omega)]; exact dV_M (hv.2 (j + 1) (by omega)).1
      · rw [if_neg e8] at hlt ⊢; show ∀ q, q < 6 → dM (if j = n then A else hs j) q ≤ 8; rw [if_neg (by omega)]; exact dV_M (hv.2 j (by omega)).1
    rw [hA]
    refine sD_cong hP hMj hd (fun i h1 h2 => ?_)
    exact e3 (127 * j + (i - 89)) (by omega)
