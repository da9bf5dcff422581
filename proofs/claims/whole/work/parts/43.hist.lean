/-! ===== copies of a day; the days that an act changed ===== -/
theorem x_copy {P : Nat} {A : aD} {r f0 f1 f2 f3 f4 f5 f6 f7 f pl bu le di wa lf ly pr : Nat → Int32} (hM : ∀ q, q < 6 → dM A q ≤ 8) (h : dX P A f pl bu le di wa lf ly pr) :
    ∃ y1 y2 y3 y4 y5 y6 y7 y8 y9, fDy_copyFrom r f0 f1 f2 f3 f4 f5 f6 f7 f pl bu le di wa lf ly pr = some (y1, y2, y3, y4, y5, y6, y7, y8, y9) ∧ dX P A y1 y2 y3 y4 y5 y6 y7 y8 y9 := by
  obtain ⟨x1, x2, x3, x4, x5, x6, x7, x8, x9, x10⟩ := h
  unfold fDy_copyFrom
  simp only [zlet]
  refine ⟨_, _, _, _, _, _, _, _, _, rfl, ?_, ?_, fun q k hq hk => ?_, fun q hq => ?_, fun q hq => ?_, fun q hq => ?_, fun q i hq hi => ?_, fun q hq => ?_, fun q hq => ?_, fun q hq => ?_⟩
  · show zup (zup r 9 (f 9)) 10 (f 10) 9 = _
    rw [zup_n (by omega), zup_s]; exact x1
  · show zup (zup r 9 (f 9)) 10 (f 10) 10 = _
    rw [zup_s]; exact x2
  · rw [sb_cpy0 (by omega)]; exact x3 q k hq hk
  · rw [sb_cpy0 (by omega)]; exact x4 q hq
  · rw [sb_cpy0 (by omega)]; exact x5 q hq
  · rw [sb_cpy0 (by omega)]; exact x6 q hq
  · have := hM q hq
    rw [sb_cpy0 (by omega)]; exact x7 q i hq hi
  · rw [sb_cpy0 (by omega)]; exact x8 q hq
  · rw [sb_cpy0 (by omega)]; exact x9 q hq
  · rw [sb_cpy0 (by omega)]; exact x10 q hq
/-- a kept day of the class, by its place -/
def gD (P : Nat) (A : aD) (g : zM) (k : Nat) : Prop := dX P A (g.1 (49 + 10 * k)) (g.1 (50 + 10 * k)) (g.1 (51 + 10 * k)) (g.1 (52 + 10 * k)) (g.1 (53 + 10 * k)) (g.1 (54 + 10 * k)) (g.1 (55 + 10 * k)) (g.1 (56 + 10 * k)) (g.1 (57 + 10 * k))
theorem zui_1 {g : zM} {i j : Nat} {f : Nat → Int32} : (zui g i f).1 j = if j = i then f else g.1 j := rfl
def gUp (g : zM) (k : Nat) (y1 y2 y3 y4 y5 y6 y7 y8 y9 : Nat → Int32) : zM := zui (zui (zui (zui (zui (zui (zui (zui (zui g (49 + 10 * k) y1) (50 + 10 * k) y2) (51 + 10 * k) y3) (52 + 10 * k) y4) (53 + 10 * k) y5) (54 + 10 * k) y6) (55 + 10 * k) y7) (56 + 10 * k) y8) (57 + 10 * k) y9
theorem gUp_s {P : Nat} {A : aD} {g : zM} {k : Nat} {y1 y2 y3 y4 y5 y6 y7 y8 y9 : Nat → Int32} (h : dX P A y1 y2 y3 y4 y5 y6 y7 y8 y9) : gD P A (gUp g k y1 y2 y3 y4 y5 y6 y7 y8 y9) k := by
  unfold gD gUp
  simp only [zui_1]
  have e : ∀ a b : Nat, a ≠ b → (a + 10 * k = b + 10 * k) = False := fun a b h => eq_false (by omega)
  simp only [if_true, e 49 50 (by decide), e 49 51 (by decide), e 49 52 (by decide), e 49 53 (by decide), e 49 54 (by decide), e 49 55 (by decide), e 49 56 (by decide), e 49 57 (by decide), e 50 51 (by decide), e 50 52 (by decide), e 50 53 (by decide), e 50 54 (by decide), e 50 55 (by decide), e 50 56 (by decide), e 50 57 (by decide), e 51 52 (by decide), e 51 53 (by decide), e 51 54 (by decide), e 51 55 (by decide), e 51 56 (by decide), e 51 57 (by decide), e 52 53 (by decide), e 52 54 (by decide), e 52 55 (by decide), e 52 56 (by decide), e 52 57 (by decide), e 53 54 (by decide), e 53 55 (by decide), e 53 56 (by decide), e 53 57 (by decide), e 54 55 (by decide), e 54 56 (by decide), e 54 57 (by decide), e 55 56 (by decide), e 55 57 (by decide), e 56 57 (by decide), if_false]
  exact h
theorem gUp_o {g : zM} {k j : Nat} {y1 y2 y3 y4 y5 y6 y7 y8 y9 : Nat → Int32} (h : j < 49 + 10 * k ∨ 58 + 10 * k ≤ j) : (gUp g k y1 y2 y3 y4 y5 y6 y7 y8 y9).1 j = g.1 j := by
  unfold gUp
  simp only [zui_1]
  rw [if_neg (by omega), if_neg (by omega), if_neg (by omega), if_neg (by omega), if_neg (by omega), if_neg (by omega), if_neg (by omega), if_neg (by omega), if_neg (by omega)]
theorem gUp_n {P : Nat} {A : aD} {g : zM} {k i : Nat} {y1 y2 y3 y4 y5 y6 y7 y8 y9 : Nat → Int32} (hn : i ≠ k) (h : gD P A g i) : gD P A (gUp g k y1 y2 y3 y4 y5 y6 y7 y8 y9) i := by
  unfold gD at h ⊢
  rw [gUp_o (by omega), gUp_o (by omega), gUp_o (by omega), gUp_o (by omega), gUp_o (by omega), gUp_o (by omega), gUp_o (by omega), gUp_o (by omega), gUp_o (by omega)]
  exact h
theorem z_nx : ∀ k, k < 8 → (nI k + 1) - (nI k + 1) / 8 * 8 = nI ((k + 1) % 8) ∧ ((nI k + 8) - 1) - ((nI k + 8) - 1) / 8 * 8 = nI ((k + 7) % 8) := by decide +kernel
theorem z_sz : ∀ n, n ≤ 8 → (if nI n + 1 < 8 then nI n + 1 else (8 : Int32)) = nI (if n = 8 then 8 else n + 1) ∧ (if (0 : Int32) < nI n - 1 then nI n - 1 else 0) = nI (n - 1) := by decide +kernel
theorem x_hadd {P : Nat} {A : aD} {r f pl bu le di wa lf ly pr : Nat → Int32} {g : zM} {nx n : Nat} (hM : ∀ q, q < 6 → dM A q ≤ 8) (h : dX P A f pl bu le di wa lf ly pr) (hnx : nx < 8) (hn : n ≤ 8) (h1 : r 1 = nI nx) (h2 : r 2 = nI n) :
    ∃ r' y1 y2 y3 y4 y5 y6 y7 y8 y9, fHi_add r f pl bu le di wa lf ly pr g = some (r', gUp g nx y1 y2 y3 y4 y5 y6 y7 y8 y9) ∧ r' 1 = nI ((nx + 1) % 8) ∧ r' 2 = nI (if n = 8 then 8 else n + 1) ∧ dX P A y1 y2 y3 y4 y5 y6 y7 y8 y9 := by
  have hr : ∀ a b : Int32, a = nI ((nx + 1) % 8) → b = (if zup r 1 a 2 + 1 < (8 : Int32) then zup r 1 a 2 + 1 else 8) → zup (zup r 1 a) 2 b 1 = nI ((nx + 1) % 8) ∧ zup (zup r 1 a) 2 b 2 = nI (if n = 8 then 8 else n + 1) := by
    intro a b ha hb
    rw [zup_n (by omega), h2] at hb
    rw [zup_n (by omega), zup_s, zup_s, hb]
    exact ⟨ha, (z_sz n hn).1⟩
  have hc : ∀ k, nx = k → k < 8 → ((nI k + 1) - (nI k + 1) / 8 * 8) = nI ((nx + 1) % 8) := fun k e hk => by rw [e]; exact (z_nx k hk).1
  unfold fHi_add
  simp only [h1]
  match nx, hnx with
  | 0, _ =>
    obtain ⟨y1, y2, y3, y4, y5, y6, y7, y8, y9, e1, e2⟩ := x_copy (r := g.1 49) (f0 := g.1 50) (f1 := g.1 51) (f2 := g.1 52) (f3 := g.1 53) (f4 := g.1 54) (f5 := g.1 55) (f6 := g.1 56) (f7 := g.1 57) hM h
    rw [if_pos (by decide), e1]
    simp only [Option.bind_some, zlet]
    exact ⟨_, y1, y2, y3, y4, y5, y6, y7, y8, y9, rfl, (hr _ _ ((z_nx 0 (by omega)).1) rfl).1, (hr _ _ ((z_nx 0 (by omega)).1) rfl).2, e2⟩
  | 1, _ =>
    obtain ⟨y1, y2, y3, y4, y5, y6, y7, y8, y9, e1, e2⟩ := x_copy (r := g.1 59) (f0 := g.1 60) (f1 := g.1 61) (f2 := g.1 62) (f3 := g.1 63) (f4 := g.1 64) (f5 := g.1 65) (f6 := g.1 66) (f7 := g.1 67) hM h
    rw [if_neg (by decide)]; rw [if_pos (by decide), e1]
    simp only [Option.bind_some, zlet]
    exact ⟨_, y1, y2, y3, y4, y5, y6, y7, y8, y9, rfl, (hr _ _ ((z_nx 1 (by omega)).1) rfl).1, (hr _ _ ((z_nx 1 (by omega)).1) rfl).2, e2⟩
  | 2, _ =>
    obtain ⟨y1, y2, y3, y4, y5, y6, y7, y8, y9, e1, e2⟩ := x_copy (r := g.1 69) (f0 := g.1 70) (f1 := g.1 71) (f2 := g.1 72) (f3 := g.1 73) (f4 := g.1 74) (f5 := g.1 75) (f6 := g.1 76) (f7 := g.1 77) hM h
    rw [if_neg (by decide)]; rw [if_neg (by decide)]; rw [if_pos (by decide), e1]
    simp only [Option.bind_some, zlet]
    exact ⟨_, y1, y2, y3, y4, y5, y6, y7, y8, y9, rfl, (hr _ _ ((z_nx 2 (by omega)).1) rfl).1, (hr _ _ ((z_nx 2 (by omega)).1) rfl).2, e2⟩
  | 3, _ =>
    obtain ⟨y1, y2, y3, y4, y5, y6, y7, y8, y9, e1, e2⟩ := x_copy (r := g.1 79) (f0 := g.1 80) (f1 := g.1 81) (f2 := g.1 82) (f3 := g.1 83) (f4 := g.1 84) (f5 := g.1 85) (f6 := g.1 86) (f7 := g.1 87) hM h
    rw [if_neg (by decide)]; rw [if_neg (by decide)]; rw [if_neg (by decide)]; rw [if_pos (by decide), e1]
    simp only [Option.bind_some, zlet]
    exact ⟨_, y1, y2, y3, y4, y5, y6, y7, y8, y9, rfl, (hr _ _ ((z_nx 3 (by omega)).1) rfl).1, (hr _ _ ((z_nx 3 (by omega)).1) rfl).2, e2⟩
  | 4, _ =>
    obtain ⟨y1, y2, y3, y4, y5, y6, y7, y8, y9, e1, e2⟩ := x_copy (r := g.1 89) (f0 := g.1 90) (f1 := g.1 91) (f2 := g.1 92) (f3 := g.1 93) (f4 := g.1 94) (f5 := g.1 95) (f6 := g.1 96) (f7 := g.1 97) hM h
    rw [if_neg (by decide)]; rw [if_neg (by decide)]; rw [if_neg (by decide)]; rw [if_neg (by decide)]; rw [if_pos (by decide), e1]
    simp only [Option.bind_some, zlet]
    exact ⟨_, y1, y2, y3, y4, y5, y6, y7, y8, y9, rfl, (hr _ _ ((z_nx 4 (by omega)).1) rfl).1, (hr _ _ ((z_nx 4 (by omega)).1) rfl).2, e2⟩
  | 5, _ =>
    obtain ⟨y1, y2, y3, y4, y5, y6, y7, y8, y9, e1, e2⟩ := x_copy (r := g.1 99) (f0 := g.1 100) (f1 := g.1 101) (f2 := g.1 102) (f3 := g.1 103) (f4 := g.1 104) (f5 := g.1 105) (f6 := g.1 106) (f7 := g.1 107) hM h
    rw [if_neg (by decide)]; rw [if_neg (by decide)]; rw [if_neg (by decide)]; rw [if_neg (by decide)]; rw [if_neg (by decide)]; rw [if_pos (by decide), e1]
    simp only [Option.bind_some, zlet]
    exact ⟨_, y1, y2, y3, y4, y5, y6, y7, y8, y9, rfl, (hr _ _ ((z_nx 5 (by omega)).1) rfl).1, (hr _ _ ((z_nx 5 (by omega)).1) rfl).2, e2⟩
  | 6, _ =>
    obtain ⟨y1, y2, y3, y4, y5, y6, y7, y8, y9, e1, e2⟩ := x_copy (r := g.1 109) (f0 := g.1 110) (f1 := g.1 111) (f2 := g.1 112) (f3 := g.1 113) (f4 := g.1 114) (f5 := g.1 115) (f6 := g.1 116) (f7 := g.1 117) hM h
    rw [if_neg (by decide)]; rw [if_neg (by decide)]; rw [if_neg (by decide)]; rw [if_neg (by decide)]; rw [if_neg (by decide)]; rw [if_neg (by decide)]; rw [if_pos (by decide), e1]
    simp only [Option.bind_some, zlet]
    exact ⟨_, y1, y2, y3, y4, y5, y6, y7, y8, y9, rfl, (hr _ _ ((z_nx 6 (by omega)).1) rfl).1, (hr _ _ ((z_nx 6 (by omega)).1) rfl).2, e2⟩
  | 7, _ =>
    obtain ⟨y1, y2, y3, y4, y5, y6, y7, y8, y9, e1, e2⟩ := x_copy (r := g.1 119) (f0 := g.1 120) (f1 := g.1 121) (f2 := g.1 122) (f3 := g.1 123) (f4 := g.1 124) (f5 := g.1 125) (f6 := g.1 126) (f7 := g.1 127) hM h
    rw [if_neg (by decide)]; rw [if_neg (by decide)]; rw [if_neg (by decide)]; rw [if_neg (by decide)]; rw [if_neg (by decide)]; rw [if_neg (by decide)]; rw [if_neg (by decide)]; rw [if_pos (by decide), e1]
    simp only [Option.bind_some, zlet]
    exact ⟨_, y1, y2, y3, y4, y5, y6, y7, y8, y9, rfl, (hr _ _ ((z_nx 7 (by omega)).1) rfl).1, (hr _ _ ((z_nx 7 (by omega)).1) rfl).2, e2⟩
theorem x_hback {P : Nat} {A : aD} {r f pl bu le di wa lf ly pr : Nat → Int32} {g : zM} {nx n : Nat} (hM : ∀ q, q < 6 → dM A q ≤ 8) (hnx : nx < 8) (hn : n ≤ 8) (h1 : r 1 = nI nx) (h2 : r 2 = nI n) (hg : gD P A g ((nx + 7) % 8)) :
    ∃ r' y1 y2 y3 y4 y5 y6 y7 y8 y9, fHi_takeBack r f pl bu le di wa lf ly pr g = some (r', y1, y2, y3, y4, y5, y6, y7, y8, y9, g) ∧ r' 1 = nI ((nx + 7) % 8) ∧ r' 2 = nI (n - 1) ∧ dX P A y1 y2 y3 y4 y5 y6 y7 y8 y9 := by
  have hr1 : zup (zup r 1 (nI ((nx + 7) % 8))) 2 (if (0 : Int32) < zup r 1 (nI ((nx + 7) % 8)) 2 - 1 then zup r 1 (nI ((nx + 7) % 8)) 2 - 1 else 0) 1 = nI ((nx + 7) % 8) := by rw [zup_n (by omega), zup_s]
  have hr2 : zup (zup r 1 (nI ((nx + 7) % 8))) 2 (if (0 : Int32) < zup r 1 (nI ((nx + 7) % 8)) 2 - 1 then zup r 1 (nI ((nx + 7) % 8)) 2 - 1 else 0) 2 = nI (n - 1) := by rw [zup_s, zup_n (by omega), h2]; exact (z_sz n hn).2
  unfold fHi_takeBack
  simp only [zlet, h1, (z_nx nx hnx).2, hr1]
  have hk8 : (nx + 7) % 8 < 8 := Nat.mod_lt _ (by omega)
  revert hr1 hr2 hg
  generalize (nx + 7) % 8 = k at *
  intro hg hr1 hr2
  match k, hk8 with
  | 0, _ =>
    obtain ⟨y1, y2, y3, y4, y5, y6, y7, y8, y9, e1, e2⟩ := x_copy (r := f) (f0 := pl) (f1 := bu) (f2 := le) (f3 := di) (f4 := wa) (f5 := lf) (f6 := ly) (f7 := pr) hM hg
    have e1 : fDy_copyFrom f pl bu le di wa lf ly pr (g.1 49) (g.1 50) (g.1 51) (g.1 52) (g.1 53) (g.1 54) (g.1 55) (g.1 56) (g.1 57) = some (y1, y2, y3, y4, y5, y6, y7, y8, y9) := e1
    rw [if_pos (by decide), e1]
    simp only [Option.bind_some]
    exact ⟨_, y1, y2, y3, y4, y5, y6, y7, y8, y9, rfl, hr1, hr2, e2⟩
  | 1, _ =>
    obtain ⟨y1, y2, y3, y4, y5, y6, y7, y8, y9, e1, e2⟩ := x_copy (r := f) (f0 := pl) (f1 := bu) (f2 := le) (f3 := di) (f4 := wa) (f5 := lf) (f6 := ly) (f7 := pr) hM hg
    have e1 : fDy_copyFrom f pl bu le di wa lf ly pr (g.1 59) (g.1 60) (g.1 61) (g.1 62) (g.1 63) (g.1 64) (g.1 65) (g.1 66) (g.1 67) = some (y1, y2, y3, y4, y5, y6, y7, y8, y9) := e1
    rw [if_neg (by decide)]; rw [if_pos (by decide), e1]
    simp only [Option.bind_some]
    exact ⟨_, y1, y2, y3, y4, y5, y6, y7, y8, y9, rfl, hr1, hr2, e2⟩
  | 2, _ =>
    obtain ⟨y1, y2, y3, y4, y5, y6, y7, y8, y9, e1, e2⟩ := x_copy (r := f) (f0 := pl) (f1 := bu) (f2 := le) (f3 := di) (f4 := wa) (f5 := lf) (f6 := ly) (f7 := pr) hM hg
    have e1 : fDy_copyFrom f pl bu le di wa lf ly pr (g.1 69) (g.1 70) (g.1 71) (g.1 72) (g.1 73) (g.1 74) (g.1 75) (g.1 76) (g.1 77) = some (y1, y2, y3, y4, y5, y6, y7, y8, y9) := e1
    rw [if_neg (by decide)]; rw [if_neg (by decide)]; rw [if_pos (by decide), e1]
    simp only [Option.bind_some]
    exact ⟨_, y1, y2, y3, y4, y5, y6, y7, y8, y9, rfl, hr1, hr2, e2⟩
  | 3, _ =>
    obtain ⟨y1, y2, y3, y4, y5, y6, y7, y8, y9, e1, e2⟩ := x_copy (r := f) (f0 := pl) (f1 := bu) (f2 := le) (f3 := di) (f4 := wa) (f5 := lf) (f6 := ly) (f7 := pr) hM hg
    have e1 : fDy_copyFrom f pl bu le di wa lf ly pr (g.1 79) (g.1 80) (g.1 81) (g.1 82) (g.1 83) (g.1 84) (g.1 85) (g.1 86) (g.1 87) = some (y1, y2, y3, y4, y5, y6, y7, y8, y9) := e1
    rw [if_neg (by decide)]; rw [if_neg (by decide)]; rw [if_neg (by decide)]; rw [if_pos (by decide), e1]
    simp only [Option.bind_some]
    exact ⟨_, y1, y2, y3, y4, y5, y6, y7, y8, y9, rfl, hr1, hr2, e2⟩
  | 4, _ =>
    obtain ⟨y1, y2, y3, y4, y5, y6, y7, y8, y9, e1, e2⟩ := x_copy (r := f) (f0 := pl) (f1 := bu) (f2 := le) (f3 := di) (f4 := wa) (f5 := lf) (f6 := ly) (f7 := pr) hM hg
    have e1 : fDy_copyFrom f pl bu le di wa lf ly pr (g.1 89) (g.1 90) (g.1 91) (g.1 92) (g.1 93) (g.1 94) (g.1 95) (g.1 96) (g.1 97) = some (y1, y2, y3, y4, y5, y6, y7, y8, y9) := e1
    rw [if_neg (by decide)]; rw [if_neg (by decide)]; rw [if_neg (by decide)]; rw [if_neg (by decide)]; rw [if_pos (by decide), e1]
    simp only [Option.bind_some]
    exact ⟨_, y1, y2, y3, y4, y5, y6, y7, y8, y9, rfl, hr1, hr2, e2⟩
  | 5, _ =>
    obtain ⟨y1, y2, y3, y4, y5, y6, y7, y8, y9, e1, e2⟩ := x_copy (r := f) (f0 := pl) (f1 := bu) (f2 := le) (f3 := di) (f4 := wa) (f5 := lf) (f6 := ly) (f7 := pr) hM hg
    have e1 : fDy_copyFrom f pl bu le di wa lf ly pr (g.1 99) (g.1 100) (g.1 101) (g.1 102) (g.1 103) (g.1 104) (g.1 105) (g.1 106) (g.1 107) = some (y1, y2, y3, y4, y5, y6, y7, y8, y9) := e1
    rw [if_neg (by decide)]; rw [if_neg (by decide)]; rw [if_neg (by decide)]; rw [if_neg (by decide)]; rw [if_neg (by decide)]; rw [if_pos (by decide), e1]
    simp only [Option.bind_some]
    exact ⟨_, y1, y2, y3, y4, y5, y6, y7, y8, y9, rfl, hr1, hr2, e2⟩
  | 6, _ =>
    obtain ⟨y1, y2, y3, y4, y5, y6, y7, y8, y9, e1, e2⟩ := x_copy (r := f) (f0 := pl) (f1 := bu) (f2 := le) (f3 := di) (f4 := wa) (f5 := lf) (f6 := ly) (f7 := pr) hM hg
    have e1 : fDy_copyFrom f pl bu le di wa lf ly pr (g.1 109) (g.1 110) (g.1 111) (g.1 112) (g.1 113) (g.1 114) (g.1 115) (g.1 116) (g.1 117) = some (y1, y2, y3, y4, y5, y6, y7, y8, y9) := e1
    rw [if_neg (by decide)]; rw [if_neg (by decide)]; rw [if_neg (by decide)]; rw [if_neg (by decide)]; rw [if_neg (by decide)]; rw [if_neg (by decide)]; rw [if_pos (by decide), e1]
    simp only [Option.bind_some]
    exact ⟨_, y1, y2, y3, y4, y5, y6, y7, y8, y9, rfl, hr1, hr2, e2⟩
  | 7, _ =>
    obtain ⟨y1, y2, y3, y4, y5, y6, y7, y8, y9, e1, e2⟩ := x_copy (r := f) (f0 := pl) (f1 := bu) (f2 := le) (f3 := di) (f4 := wa) (f5 := lf) (f6 := ly) (f7 := pr) hM hg
    have e1 : fDy_copyFrom f pl bu le di wa lf ly pr (g.1 119) (g.1 120) (g.1 121) (g.1 122) (g.1 123) (g.1 124) (g.1 125) (g.1 126) (g.1 127) = some (y1, y2, y3, y4, y5, y6, y7, y8, y9) := e1
    rw [if_neg (by decide)]; rw [if_neg (by decide)]; rw [if_neg (by decide)]; rw [if_neg (by decide)]; rw [if_neg (by decide)]; rw [if_neg (by decide)]; rw [if_neg (by decide)]; rw [if_pos (by decide), e1]
    simp only [Option.bind_some]
    exact ⟨_, y1, y2, y3, y4, y5, y6, y7, y8, y9, rfl, hr1, hr2, e2⟩
theorem sD_cong {P : Nat} {A : aD} {s s' : Nat → Int32} (hP : P ≤ 6) (hM : ∀ q, q < 6 → dM A q ≤ 8) (h : sD P A s) (e : ∀ i, 89 ≤ i → i < 216 → s' i = s i) : sD P A s' := by
  obtain ⟨h1, h2, h3, h4, h5, h6, h7, h8, h9, h10⟩ := h
  refine ⟨?_, ?_, fun q k hq hk => ?_, fun q hq => ?_, fun q hq => ?_, fun q hq hn => ?_, fun q i hq hi => ?_, fun q hq => ?_, fun c hc => ?_, fun c hc => ?_⟩
  · rw [e _ (by omega) (by omega)]; exact h1
  · rw [e _ (by omega) (by omega)]; exact h2
  · rw [e _ (by omega) (by omega)]; exact h3 q k hq hk
  · rw [e _ (by omega) (by omega)]; exact h4 q hq
  · rw [e _ (by omega) (by omega)]; exact h5 q hq
  · rw [e _ (by omega) (by omega)]; exact h6 q hq hn
  · have := hM q hq
    rw [e _ (by omega) (by omega)]; exact h7 q i hq hi
  · rw [e _ (by omega) (by omega)]; exact h8 q hq
  · rw [e _ (by omega) (by omega)]; exact h9 c hc
  · rw [e _ (by omega) (by omega)]; exact h10 c hc
/-- a kept day of the reference, by its place -/
def uD (P : Nat) (A : aD) (u : Nat → Int32) (k : Nat) : Prop := sD P A (fun i => u (127 * k + (i - 89)))
theorem m_keepL {s r u : Nat → Int32} {n : Nat} (hn : n < 8) (hr : r 24 = nI n) : ∃ u', zLP (fun t : (Nat → Int32) × Int32 => fM_keep_L47 s r t.1 t.2) (u, 0) = some u' ∧ (∀ i, i < 127 → u' (127 * n + i) = s (89 + i)) ∧ ∀ j, j < 127 * n ∨ 127 * n + 127 ≤ j → u' j = u j := by
  refine zLP_inv (fun k t => t.2 = nI k ∧ (∀ i, i < k → t.1 (127 * n + i) = s (89 + i)) ∧ ∀ j, j < 127 * n ∨ 127 * n + 127 ≤ j → t.1 j = u j) _ 127 ⟨rfl, fun i hi => absurd hi (by omega), fun _ _ => rfl⟩ ?_ ?_
  · rintro k ⟨t1, t2⟩ hk ⟨rfl, h2, h3⟩
    try dsimp only at *
    left
    unfold fM_keep_L47
    rw [if_neg (zg127 hk), show (89 : Int32) + nI k = nI (89 + k) from nI_add 89 k, zrd_n (by omega) (by omega), hr, show (127 : Int32) * nI n = nI (127 * n) from nI_mul 127 n, nI_add]
    simp only [Option.bind_some]
    rw [zwr_n (by omega) (by omega)]
    refine ⟨_, rfl, nI_1 k, fun i hi => ?_, fun j hj => ?_⟩
    · show zup t1 (127 * n + k) _ (127 * n + i) = _
      by_cases e : i = k
      · subst e; rw [zup_s]
      · rw [zup_n (by omega)]; exact h2 i (by omega)
    · show zup t1 (127 * n + k) _ j = _
      rw [zup_n (by omega)]; exact h3 j hj
  · rintro ⟨t1, t2⟩ ⟨rfl, h2, h3⟩
    try dsimp only at *
    refine ⟨t1, ?_, h2, h3⟩
    unfold fM_keep_L47
    rw [if_pos (by decide)]
theorem m_keepS {u : Nat → Int32} : ∃ u', zLP (fun t : (Nat → Int32) × Int32 => fM_keep_L11 t.1 t.2) (u, 0) = some u' ∧ ∀ i, i < 889 → u' i = u (i + 127) := by
  refine zLP_inv (fun k t => t.2 = nI k ∧ (∀ i, i < k → t.1 i = u (i + 127)) ∧ ∀ j, k ≤ j → t.1 j = u j) _ 889 ⟨rfl, fun i hi => absurd hi (by omega), fun _ _ => rfl⟩ ?_ ?_
  · rintro k ⟨t1, t2⟩ hk ⟨rfl, h2, h3⟩
    try dsimp only at *
    left
    unfold fM_keep_L11
    rw [if_neg (show ¬ (889 : Int32) ≤ nI k from nI_ge (b := 889) hk (by omega)), show nI k + 127 = nI (k + 127) from nI_add k 127, zrd_n (by omega) (by omega)]
    simp only [Option.bind_some]
    rw [zwr_n (by omega) (by omega)]
    refine ⟨_, rfl, nI_1 k, fun i hi => ?_, fun j hj => ?_⟩
    · show zup t1 k _ i = _
      by_cases e : i = k
      · subst e; rw [zup_s]; exact h3 _ (by omega)
      · rw [zup_n (by omega)]; exact h2 i (by omega)
    · show zup t1 k _ j = _
      rw [zup_n (by omega)]; exact h3 j (by omega)
  · rintro ⟨t1, t2⟩ ⟨rfl, h2, h3⟩
    try dsimp only at *
    refine ⟨t1, ?_, h2⟩
    unfold fM_keep_L11
    rw [if_pos (by decide)]
/-- the days that are kept: n of them, the oldest first -/
def qHm (P n : Nat) (hs : Nat → aD) (u : Nat → Int32) : Prop := ∀ j, j < n → uD P (hs j) u j
def qHx (P n : Nat) (hs : Nat → aD) (nx : Nat) (g : zM) : Prop := ∀ j, j < n → gD P (hs j) g ((nx + 8 - n + j) % 8)
def qHv (C P n : Nat) (hs : Nat → aD) : Prop := n ≤ 8 ∧ ∀ j, j < n → dV C P (hs j) ∧ dMi (hs j) ≤ 400
def hAdd (n : Nat) (hs : Nat → aD) (A : aD) : Nat → aD := if n = 8 then fun j => if j = 7 then A else hs (j + 1) else fun j => if j = n then A else hs j
theorem m_keep {C P n : Nat} {A : aD} {hs : Nat → aD} {s r u : Nat → Int32} (hP : P ≤ 6) (hVd : dV C P A) (h : sD P A s) (hv : qHv C P n hs) (hu : qHm P n hs u) (hr : r 24 = nI n) :
    ∃ u', fM_keep r s u = some (zup r 24 (nI (if n = 8 then 8 else n + 1)), u') ∧ qHm P (if n = 8 then 8 else n + 1) (hAdd n hs A) u' := by
  have hn8 := hv.1
  have hnew : ∀ (m : Nat) (u u' : Nat → Int32), (∀ i, i < 127 → u' (127 * m + i) = s (89 + i)) → uD P A u' m := fun m u u' e =>
    sD_cong hP (dV_M hVd) h (fun i h1 h2 => by rw [e (i - 89) (by omega)]; congr 1; omega)
  unfold fM_keep
  simp only [zlet]
  by_cases e8 : n = 8
  · rw [hr, if_pos (by rw [e8]; rfl)]
    obtain ⟨u1, a1, a2⟩ := m_keepS (u := u)
    rw [a1]
    simp only [Option.bind_some]
    obtain ⟨u2, b1, b2, b3⟩ := m_keepL (s := s) (r := zup r 24 7) (u := u1) (n := 7) (by omega) zup_s
    rw [b1]
    simp only [Option.bind_some]
    refine ⟨u2, ?_, fun j hj => ?_⟩
    · congr 2
      funext i
      rw [if_pos e8]
      by_cases e : i = 24
      · subst e; rw [zup_s, zup_s, zup_s]; rfl
      · rw [zup_n e, zup_n e, zup_n e]
    · rw [if_pos e8] at hj
      unfold hAdd
      rw [if_pos e8]
      show uD P (if j = 7 then A else hs (j + 1)) u2 j
      by_cases e : j = 7
      · rw [if_pos e, e]; exact hnew 7 u1 u2 b2
      · rw [if_neg e]
        exact sD_cong hP (dV_M (hv.2 (j + 1) (by omega)).1) (hu (j + 1) (by omega)) (fun i h1 h2 => by
          show u2 (127 * j + (i - 89)) = u (127 * (j + 1) + (i - 89))
          rw [b3 _ (by omega), a2 _ (by omega)]; congr 1; omega)
  · rw [hr, if_neg (fun h => e8 ((nI_k8 (by omega)).mp h))]
    obtain ⟨u2, b1, b2, b3⟩ := m_keepL (s := s) (r := r) (u := u) (n := n) (by omega) hr
    rw [b1]
    simp only [Option.bind_some]
    refine ⟨u2, ?_, fun j hj => ?_⟩
    · rw [nI_1, if_neg e8]
    · rw [if_neg e8] at hj
      unfold hAdd
      rw [if_neg e8]
      show uD P (if j = n then A else hs j) u2 j
      by_cases e : j = n
      · rw [if_pos e, e]; exact hnew n u u2 b2
      · rw [if_neg e]
        exact sD_cong hP (dV_M (hv.2 j (by omega)).1) (hu j (by omega)) (fun i h1 h2 => b3 _ (by omega))
theorem hAdd_V {C P n : Nat} {A : aD} {hs : Nat → aD} (hVd : dV C P A) (hA : dMi A ≤ 400) (hv : qHv C P n hs) : qHv C P (if n = 8 then 8 else n + 1) (hAdd n hs A) := by
  have := hv.1
  refine ⟨by split <;> omega, fun j hj => ?_⟩
  unfold hAdd
  by_cases e8 : n = 8
  · rw [if_pos e8] at hj ⊢
    by_cases e : j = 7
    · simp only [if_pos e]; exact ⟨hVd, hA⟩
    · simp only [if_neg e]; exact hv.2 _ (by omega)
  · rw [if_neg e8] at hj ⊢
    by_cases e : j = n
    · simp only [if_pos e]; exact ⟨hVd, hA⟩
    · simp only [if_neg e]; exact hv.2 _ (by omega)
theorem hAdd_X {P n nx : Nat} {A : aD} {hs : Nat → aD} {g : zM} {y1 y2 y3 y4 y5 y6 y7 y8 y9 : Nat → Int32} (hn : n ≤ 8) (hnx : nx < 8) (hx : qHx P n hs nx g) (hd : dX P A y1 y2 y3 y4 y5 y6 y7 y8 y9) : qHx P (if n = 8 then 8 else n + 1) (hAdd n hs A) ((nx + 1) % 8) (gUp g nx y1 y2 y3 y4 y5 y6 y7 y8 y9) := by
  intro j hj
  unfold hAdd
  by_cases e8 : n = 8
  · rw [if_pos e8] at hj ⊢
    rw [if_pos e8]
    by_cases e : j = 7
    · simp only [if_pos e]
      have e2 : ((nx + 1) % 8 + 8 - 8 + j) % 8 = nx := by omega
      rw [e2]; exact gUp_s hd
    · simp only [if_neg e]
      have e2 : ((nx + 1) % 8 + 8 - 8 + j) % 8 = (nx + 8 - n + (j + 1)) % 8 := by omega
      rw [e2]; exact gUp_n (by omega) (hx (j + 1) (by omega))
  · rw [if_neg e8] at hj ⊢
    rw [if_neg e8]
    by_cases e : j = n
    · simp only [if_pos e]
      have e2 : ((nx + 1) % 8 + 8 - (n + 1) + j) % 8 = nx := by omega
      rw [e2]; exact gUp_s hd
    · simp only [if_neg e]
      have e2 : ((nx + 1) % 8 + 8 - (n + 1) + j) % 8 = (nx + 8 - n + j) % 8 := by omega
      rw [e2]; exact gUp_n (by omega) (hx j (by omega))
theorem m_undoL {s r u : Nat → Int32} {n : Nat} (hn : n < 8) (hr : r 24 = nI n) : ∃ s', zLP (fun t : (Nat → Int32) × Int32 => fM_undo_L26 u r t.1 t.2) (s, 0) = some s' ∧ (∀ i, 89 ≤ i → i < 216 → s' i = u (127 * n + (i - 89))) ∧ sK s s' := by
  refine zLP_inv (fun k t => t.2 = nI k ∧ (∀ i, 89 ≤ i → i < 89 + k → t.1 i = u (127 * n + (i - 89))) ∧ sK s t.1) _ 127 ⟨rfl, fun i h1 hi => absurd hi (by omega), sK_rfl⟩ ?_ ?_
  · rintro k ⟨t1, t2⟩ hk ⟨rfl, h2, h3⟩
    try dsimp only at *
    left
    unfold fM_undo_L26
    rw [if_neg (zg127 hk), hr, show (127 : Int32) * nI n = nI (127 * n) from nI_mul 127 n, nI_add, zrd_n (by omega) (by omega), show (89 : Int32) + nI k = nI (89 + k) from nI_add 89 k]
    simp only [Option.bind_some]
    rw [zwr_n (by omega) (by omega)]
    refine ⟨_, rfl, nI_1 k, fun i h4 hi => ?_, sK_up h3 (by omega)⟩
    show zup t1 (89 + k) _ i = _
    by_cases e : i = 89 + k
    · rw [e, zup_s]; congr 1; omega
    · rw [zup_n e]; exact h2 i h4 (by omega)
  · rintro ⟨t1, t2⟩ ⟨rfl, h2, h3⟩
    try dsimp only at *
    refine ⟨t1, ?_, fun i h4 hi => h2 i h4 (by omega), h3⟩
    unfold fM_undo_L26
    rw [if_pos (by decide)]
/-! ## days set aside and brought back -/
theorem m_tries {P : Nat} {A : aD} {s bf : Nat → Int32} (hP : P ≤ 6) (hMl : ∀ q, q < 6 → dM A q ≤ 8) (h : sD P A s) : ∃ bf', fM_tries s bf = some bf' ∧ uD P A bf' 0 := by
  unfold fM_tries
  refine zLP_use (body := fun t : (Nat → Int32) × Int32 => fM_tries_L2 s t.1 t.2) (s := (bf, 0)) (fun k t => t.2 = nI k ∧ ∀ i, i < k → t.1 i = s (89 + i)) (fun r => ∀ i, i < 127 → r i = s (89 + i)) 127 ⟨rfl, fun i hi => absurd hi (by omega)⟩ (fun r h1 h2 => ?_) ?_ ?_
  · rw [h1]
    exact ⟨r, rfl, sD_cong hP hMl h (fun i h3 h4 => by show r (127 * 0 + (i - 89)) = s i; rw [show 127 * 0 + (i - 89) = i - 89 by omega, h2 _ (by omega)]; congr 1; omega)⟩
  · rintro k ⟨t1, t2⟩ hk ⟨rfl, h2⟩
    try dsimp only at *
    left
    unfold fM_tries_L2
    rw [if_neg (zg127 hk), show (89 : Int32) + nI k = nI (89 + k) from nI_add 89 k, zrd_n (by omega) (by omega)]
    simp only [Option.bind_some]
    rw [zwr_n (by omega) (by omega)]
    refine ⟨_, rfl, nI_1 k, fun i hi => ?_⟩
    show zup t1 k _ i = _
    by_cases e : i = k
    · subst e; rw [zup_s]
    · rw [zup_n (by omega)]; exact h2 i (by omega)
  · rintro ⟨t1, t2⟩ ⟨rfl, h2⟩
    try dsimp only at *
    refine ⟨t1, ?_, h2⟩
    unfold fM_tries_L2
    rw [if_pos (by decide)]
theorem m_back {P : Nat} {A : aD} {s bf : Nat → Int32} (hP : P ≤ 6) (hMl : ∀ q, q < 6 → dM A q ≤ 8) (h : uD P A bf 0) : ∃ s', fM_back s bf = some s' ∧ sD P A s' ∧ sK s s' := by
  unfold fM_back
  refine zLP_use (body := fun t : (Nat → Int32) × Int32 => fM_back_L2 bf t.1 t.2) (s := (s, 0)) (fun k t => t.2 = nI k ∧ (∀ i, i < k → t.1 (89 + i) = bf i) ∧ sK s t.1) (fun r => (∀ i, i < 127 → r (89 + i) = bf i) ∧ sK s r) 127 ⟨rfl, fun i hi => absurd hi (by omega), sK_rfl⟩ (fun r h1 h2 => ?_) ?_ ?_
  · rw [h1]
    exact ⟨r, rfl, sD_cong hP hMl h (fun i h3 h4 => by show r i = bf (127 * 0 + (i - 89)); rw [show 127 * 0 + (i - 89) = i - 89 by omega, ← h2.1 _ (by omega)]; congr 1; omega), h2.2⟩
  · rintro k ⟨t1, t2⟩ hk ⟨rfl, h2, h3⟩
    try dsimp only at *
    left
    unfold fM_back_L2
    rw [if_neg (zg127 hk), zrd_n (by omega) (by omega), show (89 : Int32) + nI k = nI (89 + k) from nI_add 89 k]
    simp only [Option.bind_some]
    rw [zwr_n (by omega) (by omega)]
    refine ⟨_, rfl, nI_1 k, fun i hi => ?_, sK_up h3 (by omega)⟩
    show zup t1 (89 + k) _ (89 + i) = _
    by_cases e : i = k
    · subst e; rw [zup_s]
    · rw [zup_n (by omega)]; exact h2 i (by omega)
  · rintro ⟨t1, t2⟩ ⟨rfl, h2, h3⟩
    try dsimp only at *
    refine ⟨t1, ?_, h2, h3⟩
    unfold fM_back_L2
    rw [if_pos (by decide)]
