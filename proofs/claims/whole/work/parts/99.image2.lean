/-! ===== image, restore ===== -/
def iK (k : Nat) (k0 : Nat → Int32) (rp : Nat → Int32) (cn : Nat → Int64) (pn : Nat → Int64) (bs : Nat → Int32) (far : Nat → Int32) (f : Nat → Int32) (pl : Nat → Int32) (bu : Nat → Int32) (le : Nat → Int32) (di : Nat → Int32) (wa : Nat → Int32) (lf : Nat → Int32) (ly : Nat → Int32) (pr : Nat → Int32) (sn : Nat → Int32) (pa : Nat → Int32) (ot : Nat → Int32) (nu : Nat → Int32) (im : Nat → Int32) (nk : Nat → Int64) (ak : Nat → Int32) : Prop := (k0 3 = 0 ∧ ak k = 0) ∨ (k0 3 = 1 ∧ ak k = 1 ∧ ∃ C S P B nC nP A, wS C S P B nC nP A rp cn pn bs far f pl bu le di wa lf ly pr sn pa ot nu (fun i => im (397 * k + i)) (fun i => nk (14 * k + i)))
def iR (g : zM) (im : Nat → Int32) (nk : Nat → Int64) (ak : Nat → Int32) : Prop := iK 0 (g.1 130) (g.1 131) (g.2 132) (g.2 133) (g.1 134) (g.1 135) (g.1 136) (g.1 137) (g.1 138) (g.1 139) (g.1 140) (g.1 141) (g.1 142) (g.1 143) (g.1 144) (g.1 146) (g.1 147) (g.1 148) (g.1 149) im nk ak ∧ iK 1 (g.1 152) (g.1 153) (g.2 154) (g.2 155) (g.1 156) (g.1 157) (g.1 158) (g.1 159) (g.1 160) (g.1 161) (g.1 162) (g.1 163) (g.1 164) (g.1 165) (g.1 166) (g.1 168) (g.1 169) (g.1 170) (g.1 171) im nk ak
section IM
variable {C S P : Nat} {B : Nat → Nat} {nC nP : Nat → List Nat} {A : aD} {rp bs far f pl bu le di wa lf ly pr sn pa ot nu s hi rm ap im im' ak ak' k0 : Nat → Int32} {cn pn nm nk nk' : Nat → Int64} {g : zM}
theorem iK_cong {k : Nat} (h : iK k k0 rp cn pn bs far f pl bu le di wa lf ly pr sn pa ot nu im nk ak) (e : ∀ i, i < 397 → im' (397 * k + i) = im (397 * k + i)) (en : ∀ i, i < 14 → nk' (14 * k + i) = nk (14 * k + i)) (ea : ak' k = ak k) : iK k k0 rp cn pn bs far f pl bu le di wa lf ly pr sn pa ot nu im' nk' ak' := by
  rcases h with ⟨h1, h2⟩ | ⟨h1, h2, C, S, P, B, nC, nP, A, h3⟩
  · exact Or.inl ⟨h1, ea.trans h2⟩
  · exact Or.inr ⟨h1, ea.trans h2, C, S, P, B, nC, nP, A, wS_cong h3 e en⟩
theorem vp_nb1 : vp_nar .boolean 1 = 1 := by decide
theorem c_image {a1 : Int32} (h : wS C S P B nC nP A rp cn pn bs far f pl bu le di wa lf ly pr sn pa ot nu s nm) (I : iR g im nk ak) :
    ∃ X Y, fX_image rp cn pn bs far f pl bu le di wa lf ly pr sn pa ot nu g a1 = some X ∧ fM_image rm s nm im nk ak a1 = some Y ∧ X.1 = Y.1 ∧ Y.2.1 = zup rm 0 0 ∧ iR X.2 Y.2.2.1 Y.2.2.2.1 Y.2.2.2.2 := by
  unfold fX_image fM_image fM_isIn
  rw [zlet_e]
  by_cases e0 : a1 = 0
  · subst e0
    obtain ⟨Y, y1, y2, y3⟩ := x_keep (k0 := g.1 130) (o1 := g.1 131) (o2 := g.2 132) (o3 := g.2 133) (o4 := g.1 134) (o5 := g.1 135) (o6 := g.1 136) (o7 := g.1 137) (o8 := g.1 138) (o9 := g.1 139) (o10 := g.1 140) (o11 := g.1 141) (o12 := g.1 142) (o13 := g.1 143) (o14 := g.1 144) (o15 := g.1 146) (o16 := g.1 147) (o17 := g.1 148) (o18 := g.1 149) h
    obtain ⟨q1, a, b, c⟩ := m_im1 (k := 0) (by omega) (s := s) (im := im)
    obtain ⟨q2, a', b', c'⟩ := m_im2 (k := 0) (by omega) (nm := nm) (nk := nk)
    have a0 : zLP (fun t : (Nat → Int32) × Int32 => fM_image_L18 s 0 t.1 t.2) (im, 0) = some q1 := a
    have a0' : zLP (fun t : (Nat → Int64) × Int32 => fM_image_L51 nm 0 t.1 t.2) (nk, 0) = some q2 := a'
    rw [if_pos rfl, y1, Option.bind_some, if_pos (show (if (0 : Int32) < 0 then false else if (1 : Int32) < 0 then false else true) = true by decide), a0, Option.bind_some, a0', Option.bind_some, (show zwr ak 2 (0 : Int32) (vp_nar .boolean 1) = some (zup ak 0 1) by rw [vp_nb1]; exact zwr_n (k := 0) (by omega) (by omega)), Option.bind_some]
    refine ⟨_, _, rfl, rfl, rfl, rfl, ?_, ?_⟩
    · exact Or.inr ⟨y2, (show zup ak 0 1 0 = 1 from zup_s), C, S, P, B, nC, nP, A, wS_cong y3 (fun i hi => b i hi) (fun i hi => b' i hi)⟩
    · exact iK_cong I.2 (fun i hi => c _ (fun j hj => by omega)) (fun i hi => c' _ (fun j hj => by omega)) (show zup ak 0 1 1 = ak 1 from zup_n (by omega))
  · by_cases e1 : a1 = 1
    · subst e1
      obtain ⟨Y, y1, y2, y3⟩ := x_keep (k0 := g.1 152) (o1 := g.1 153) (o2 := g.2 154) (o3 := g.2 155) (o4 := g.1 156) (o5 := g.1 157) (o6 := g.1 158) (o7 := g.1 159) (o8 := g.1 160) (o9 := g.1 161) (o10 := g.1 162) (o11 := g.1 163) (o12 := g.1 164) (o13 := g.1 165) (o14 := g.1 166) (o15 := g.1 168) (o16 := g.1 169) (o17 := g.1 170) (o18 := g.1 171) h
      obtain ⟨q1, a, b, c⟩ := m_im1 (k := 1) (by omega) (s := s) (im := im)
      obtain ⟨q2, a', b', c'⟩ := m_im2 (k := 1) (by omega) (nm := nm) (nk := nk)
      have a0 : zLP (fun t : (Nat → Int32) × Int32 => fM_image_L18 s 1 t.1 t.2) (im, 0) = some q1 := a
      have a0' : zLP (fun t : (Nat → Int64) × Int32 => fM_image_L51 nm 1 t.1 t.2) (nk, 0) = some q2 := a'
      rw [if_neg e0, if_pos rfl, y1, Option.bind_some, if_pos (show (if (1 : Int32) < 0 then false else if (1 : Int32) < 1 then false else true) = true by decide), a0, Option.bind_some, a0', Option.bind_some, (show zwr ak 2 (1 : Int32) (vp_nar .boolean 1) = some (zup ak 1 1) by rw [vp_nb1]; exact zwr_n (k := 1) (by omega) (by omega)), Option.bind_some]
      refine ⟨_, _, rfl, rfl, rfl, rfl, ?_, ?_⟩
      · exact iK_cong I.1 (fun i hi => c _ (fun j hj => by omega)) (fun i hi => c' _ (fun j hj => by omega)) (show zup ak 1 1 0 = ak 0 from zup_n (by omega))
      · exact Or.inr ⟨y2, (show zup ak 1 1 1 = 1 from zup_s), C, S, P, B, nC, nP, A, wS_cong y3 (fun i hi => b i hi) (fun i hi => b' i hi)⟩
    · rw [if_neg e0, if_neg e1]
      have hi : ¬ (if a1 < 0 then false else if 1 < a1 then false else true) = true := by
        by_cases c1 : a1 < 0
        · rw [if_pos c1]; decide
        · rw [if_neg c1]
          by_cases c2 : 1 < a1
          · rw [if_pos c2]; decide
          · obtain ⟨n, n1, n2, rfl⟩ := i32_in (lo := 0) (hi := 1) (by omega) (by omega) c1 c2
            have : n = 0 ∨ n = 1 := by omega
            rcases this with rfl | rfl
            · exact absurd rfl e0
            · exact absurd rfl e1
      rw [if_neg hi]
      exact ⟨_, _, rfl, rfl, rfl, rfl, I⟩
/-- one image given back, in the reference -/
theorem m_give {k : Nat} (hk : k < 2) (h : wS C S P B nC nP A rp cn pn bs far f pl bu le di wa lf ly pr sn pa ot nu (fun i => im (397 * k + i)) (fun i => nk (14 * k + i))) (ha : ak k = 1) :
    ∃ s' nm' ap', (zrd ak 2 (nI k)).bind (fun (v3 : Int32) => (if v3 = 0 then some (false, zup rm 0 0, s, nm, ap) else (zLP (fun t : (Nat → Int32) × Int32 => fM_restore_L27 im (nI k) t.1 t.2) (s, 0)).bind (fun r9 => (zLP (fun t : (Nat → Int64) × Int32 => fM_restore_L60 nk (nI k) t.1 t.2) (nm, 0)).bind (fun r23 => (fM_laysApart r9 ap).bind (fun (y33 : (Nat → Int32)) => zlet (zup (zup rm 0 0) 24 0) (fun (r0v34 : Nat → Int32) => some (true, r0v34, r9, r23, y33))))))) = some (true, zup (zup rm 0 0) 24 0, s', nm', ap') ∧ (∀ i, i < 397 → s' i = im (397 * k + i)) ∧ (∀ i, i < 14 → nm' i = nk (14 * k + i)) ∧ ∀ c d, c < 8 → d < 8 → p_far (nI 1000000) B c d (ap' (8 * c + d)) := by
  obtain ⟨q1, a, b, -⟩ := m_re1 hk (s := s) (im := im)
  obtain ⟨q2, a', b', -⟩ := m_re2 hk (nm := nm) (nk := nk)
  have h' : wS C S P B nC nP A rp cn pn bs far f pl bu le di wa lf ly pr sn pa ot nu q1 q2 := wS_cong h (fun i hi => b i hi) (fun i hi => b' i hi)
  obtain ⟨ap', p1, p2⟩ := p_laysApart (s := q1) (apart := ap) (B := B) (fun c hc => p_BC_lt h'.1.1.1 h'.1.1.2.2.2.2.2.2.2.1 hc) h'.2.1.2.2.2.1
  refine ⟨q1, q2, ap', ?_, b, b', p2⟩
  rw [zrd_n (by omega) (by omega), Option.bind_some, ha, if_neg (by decide), a, Option.bind_some, a', Option.bind_some, p1, Option.bind_some, zlet_e]
theorem x_full {k0 : Nat → Int32} (h : k0 3 = 1) : fKp_isFull k0 = some true := by
  unfold fKp_isFull
  rw [if_pos (Or.inr h), h]; rfl
theorem x_full0 {k0 : Nat → Int32} (h : k0 3 = 0) : fKp_isFull k0 = some false := by
  unfold fKp_isFull
  rw [if_pos (Or.inl h), h]; rfl
theorem c_restore {a1 : Int32} (I : iR g im nk ak) :
    ∃ X Y, fX_restore rp cn pn bs far f pl bu le di wa lf ly pr sn pa ot nu hi g a1 = some X ∧ fM_restore rm s nm ap im nk ak a1 = some Y ∧ X.1 = Y.1 ∧ X.2.2.2.2.2.2.2.2.2.2.2.2.2.2.2.2.2.2.2.2 = g ∧
      ((X.2.1 = rp ∧ X.2.2.1 = cn ∧ X.2.2.2.1 = pn ∧ X.2.2.2.2.1 = bs ∧ X.2.2.2.2.2.1 = far ∧ X.2.2.2.2.2.2.1 = f ∧ X.2.2.2.2.2.2.2.1 = pl ∧ X.2.2.2.2.2.2.2.2.1 = bu ∧ X.2.2.2.2.2.2.2.2.2.1 = le ∧ X.2.2.2.2.2.2.2.2.2.2.1 = di ∧ X.2.2.2.2.2.2.2.2.2.2.2.1 = wa ∧ X.2.2.2.2.2.2.2.2.2.2.2.2.1 = lf ∧ X.2.2.2.2.2.2.2.2.2.2.2.2.2.1 = ly ∧ X.2.2.2.2.2.2.2.2.2.2.2.2.2.2.1 = pr ∧ X.2.2.2.2.2.2.2.2.2.2.2.2.2.2.2.1 = sn ∧ X.2.2.2.2.2.2.2.2.2.2.2.2.2.2.2.2.1 = pa ∧ X.2.2.2.2.2.2.2.2.2.2.2.2.2.2.2.2.2.1 = ot ∧ X.2.2.2.2.2.2.2.2.2.2.2.2.2.2.2.2.2.2.1 = nu ∧ X.2.2.2.2.2.2.2.2.2.2.2.2.2.2.2.2.2.2.2.1 = hi ∧ Y.2.1 = zup rm 0 0 ∧ Y.2.2.1 = s ∧ Y.2.2.2.1 = nm ∧ Y.2.2.2.2 = ap) ∨
       (∃ C S P B nC nP A, wS C S P B nC nP A X.2.1 X.2.2.1 X.2.2.2.1 X.2.2.2.2.1 X.2.2.2.2.2.1 X.2.2.2.2.2.2.1 X.2.2.2.2.2.2.2.1 X.2.2.2.2.2.2.2.2.1 X.2.2.2.2.2.2.2.2.2.1 X.2.2.2.2.2.2.2.2.2.2.1 X.2.2.2.2.2.2.2.2.2.2.2.1 X.2.2.2.2.2.2.2.2.2.2.2.2.1 X.2.2.2.2.2.2.2.2.2.2.2.2.2.1 X.2.2.2.2.2.2.2.2.2.2.2.2.2.2.1 X.2.2.2.2.2.2.2.2.2.2.2.2.2.2.2.1 X.2.2.2.2.2.2.2.2.2.2.2.2.2.2.2.2.1 X.2.2.2.2.2.2.2.2.2.2.2.2.2.2.2.2.2.1 X.2.2.2.2.2.2.2.2.2.2.2.2.2.2.2.2.2.2.1 Y.2.2.1 Y.2.2.2.1 ∧ (∀ c d, c < 8 → d < 8 → p_far (nI 1000000) B c d (Y.2.2.2.2 (8 * c + d))) ∧ X.2.2.2.2.2.2.2.2.2.2.2.2.2.2.2.2.2.2.2.1 = zup hi 2 0 ∧ Y.2.1 = zup (zup rm 0 0) 24 0)) := by
  have hno : ∃ X Y, (some (false, rp, cn, pn, bs, far, f, pl, bu, le, di, wa, lf, ly, pr, sn, pa, ot, nu, hi, g) : Option (Bool × (Nat → Int32) × (Nat → Int64) × (Nat → Int64) × (Nat → Int32) × (Nat → Int32) × (Nat → Int32) × (Nat → Int32) × (Nat → Int32) × (Nat → Int32) × (Nat → Int32) × (Nat → Int32) × (Nat → Int32) × (Nat → Int32) × (Nat → Int32) × (Nat → Int32) × (Nat → Int32) × (Nat → Int32) × (Nat → Int32) × (Nat → Int32) × zM)) = some X ∧ (some (false, zup rm 0 0, s, nm, ap) : Option (Bool × (Nat → Int32) × (Nat → Int32) × (Nat → Int64) × (Nat → Int32))) = some Y ∧ X.1 = Y.1 ∧ X.2.2.2.2.2.2.2.2.2.2.2.2.2.2.2.2.2.2.2.2 = g ∧
      ((X.2.1 = rp ∧ X.2.2.1 = cn ∧ X.2.2.2.1 = pn ∧ X.2.2.2.2.1 = bs ∧ X.2.2.2.2.2.1 = far ∧ X.2.2.2.2.2.2.1 = f ∧ X.2.2.2.2.2.2.2.1 = pl ∧ X.2.2.2.2.2.2.2.2.1 = bu ∧ X.2.2.2.2.2.2.2.2.2.1 = le ∧ X.2.2.2.2.2.2.2.2.2.2.1 = di ∧ X.2.2.2.2.2.2.2.2.2.2.2.1 = wa ∧ X.2.2.2.2.2.2.2.2.2.2.2.2.1 = lf ∧ X.2.2.2.2.2.2.2.2.2.2.2.2.2.1 = ly ∧ X.2.2.2.2.2.2.2.2.2.2.2.2.2.2.1 = pr ∧ X.2.2.2.2.2.2.2.2.2.2.2.2.2.2.2.1 = sn ∧ X.2.2.2.2.2.2.2.2.2.2.2.2.2.2.2.2.1 = pa ∧ X.2.2.2.2.2.2.2.2.2.2.2.2.2.2.2.2.2.1 = ot ∧ X.2.2.2.2.2.2.2.2.2.2.2.2.2.2.2.2.2.2.1 = nu ∧ X.2.2.2.2.2.2.2.2.2.2.2.2.2.2.2.2.2.2.2.1 = hi ∧ Y.2.1 = zup rm 0 0 ∧ Y.2.2.1 = s ∧ Y.2.2.2.1 = nm ∧ Y.2.2.2.2 = ap) ∨
       (∃ C S P B nC nP A, wS C S P B nC nP A X.2.1 X.2.2.1 X.2.2.2.1 X.2.2.2.2.1 X.2.2.2.2.2.1 X.2.2.2.2.2.2.1 X.2.2.2.2.2.2.2.1 X.2.2.2.2.2.2.2.2.1 X.2.2.2.2.2.2.2.2.2.1 X.2.2.2.2.2.2.2.2.2.2.1 X.2.2.2.2.2.2.2.2.2.2.2.1 X.2.2.2.2.2.2.2.2.2.2.2.2.1 X.2.2.2.2.2.2.2.2.2.2.2.2.2.1 X.2.2.2.2.2.2.2.2.2.2.2.2.2.2.1 X.2.2.2.2.2.2.2.2.2.2.2.2.2.2.2.1 X.2.2.2.2.2.2.2.2.2.2.2.2.2.2.2.2.1 X.2.2.2.2.2.2.2.2.2.2.2.2.2.2.2.2.2.1 X.2.2.2.2.2.2.2.2.2.2.2.2.2.2.2.2.2.2.1 Y.2.2.1 Y.2.2.2.1 ∧ (∀ c d, c < 8 → d < 8 → p_far (nI 1000000) B c d (Y.2.2.2.2 (8 * c + d))) ∧ X.2.2.2.2.2.2.2.2.2.2.2.2.2.2.2.2.2.2.2.1 = zup hi 2 0 ∧ Y.2.1 = zup (zup rm 0 0) 24 0)) :=
    ⟨_, _, rfl, rfl, rfl, rfl, Or.inl ⟨rfl, rfl, rfl, rfl, rfl, rfl, rfl, rfl, rfl, rfl, rfl, rfl, rfl, rfl, rfl, rfl, rfl, rfl, rfl, rfl, rfl, rfl, rfl⟩⟩
  unfold fX_restore fM_restore fM_isIn
  rw [zlet_e]
  by_cases e0 : a1 = 0
  · subst e0
    rw [if_pos rfl, if_neg (show ¬ (0 : Int32) < 0 by decide), if_neg (show ¬ (1 : Int32) < 0 by decide), if_pos rfl]
    rcases I.1 with ⟨i1, i2⟩ | ⟨i1, i2, C, S, P, B, nC, nP, A, i3⟩
    · rw [x_full0 i1, Option.bind_some, if_neg (by decide), (show zrd ak 2 (0 : Int32) = some (ak 0) from zrd_n (k := 0) (by omega) (by omega)), Option.bind_some, i2, if_pos rfl]
      exact hno
    · obtain ⟨Z, z1, z2⟩ := x_give (o1 := rp) (o2 := cn) (o3 := pn) (o4 := bs) (o5 := far) (o6 := f) (o7 := pl) (o8 := bu) (o9 := le) (o10 := di) (o11 := wa) (o12 := lf) (o13 := ly) (o14 := pr) (o15 := sn) (o16 := pa) (o17 := ot) (o18 := nu) i3
      obtain ⟨s', nm', ap', m1, m2, m3, m4⟩ := m_give (s := s) (nm := nm) (ap := ap) (rm := rm) (k := 0) (by omega) i3 i2
      have h' := wS_cong z2 (s' := s') (nm' := nm') (fun i hi => m2 i hi) (fun i hi => m3 i hi)
      rw [x_full i1, Option.bind_some, if_pos rfl, z1, Option.bind_some, show fHi_clear hi = some (zup hi 2 0) from rfl, Option.bind_some]
      exact ⟨_, _, rfl, m1, rfl, rfl, Or.inr ⟨C, S, P, B, nC, nP, A, h', m4, rfl, rfl⟩⟩
  · by_cases e1 : a1 = 1
    · subst e1
      rw [if_neg e0, if_pos rfl, if_neg (show ¬ (1 : Int32) < 0 by decide), if_neg (show ¬ (1 : Int32) < 1 by decide), if_pos rfl]
      rcases I.2 with ⟨i1, i2⟩ | ⟨i1, i2, C, S, P, B, nC, nP, A, i3⟩
      · rw [x_full0 i1, Option.bind_some, if_neg (by decide), (show zrd ak 2 (1 : Int32) = some (ak 1) from zrd_n (k := 1) (by omega) (by omega)), Option.bind_some, i2, if_pos rfl]
        exact hno
      · obtain ⟨Z, z1, z2⟩ := x_give (o1 := rp) (o2 := cn) (o3 := pn) (o4 := bs) (o5 := far) (o6 := f) (o7 := pl) (o8 := bu) (o9 := le) (o10 := di) (o11 := wa) (o12 := lf) (o13 := ly) (o14 := pr) (o15 := sn) (o16 := pa) (o17 := ot) (o18 := nu) i3
        obtain ⟨s', nm', ap', m1, m2, m3, m4⟩ := m_give (s := s) (nm := nm) (ap := ap) (rm := rm) (k := 1) (by omega) i3 i2
        have h' := wS_cong z2 (s' := s') (nm' := nm') (fun i hi => m2 i hi) (fun i hi => m3 i hi)
        rw [x_full i1, Option.bind_some, if_pos rfl, z1, Option.bind_some, show fHi_clear hi = some (zup hi 2 0) from rfl, Option.bind_some]
        exact ⟨_, _, rfl, m1, rfl, rfl, Or.inr ⟨C, S, P, B, nC, nP, A, h', m4, rfl, rfl⟩⟩
    · rw [if_neg e0, if_neg e1]
      have hi : ¬ (if a1 < 0 then false else if 1 < a1 then false else true) = true := by
        by_cases c1 : a1 < 0
        · rw [if_pos c1]; decide
        · rw [if_neg c1]
          by_cases c2 : 1 < a1
          · rw [if_pos c2]; decide
          · obtain ⟨n, n1, n2, rfl⟩ := i32_in (lo := 0) (hi := 1) (by omega) (by omega) c1 c2
            have : n = 0 ∨ n = 1 := by omega
            rcases this with rfl | rfl
            · exact absurd rfl e0
            · exact absurd rfl e1
      rw [if_neg hi]
      exact hno
end IM
