/-! ===== a town, its day and its sentence, as both hold them; images ===== -/
def qS (sn pa ot nu s : Nat → Int32) : Prop := (sn 10 = 0 ∧ s 216 = 0) ∨ ∃ cd, qX cd sn pa ot nu ∧ qM cd s ∧ qI cd
def wS (C S P : Nat) (B : Nat → Nat) (nC nP : Nat → List Nat) (A : aD) (rp : Nat → Int32) (cn : Nat → Int64) (pn : Nat → Int64) (bs : Nat → Int32) (far : Nat → Int32) (f : Nat → Int32) (pl : Nat → Int32) (bu : Nat → Int32) (le : Nat → Int32) (di : Nat → Int32) (wa : Nat → Int32) (lf : Nat → Int32) (ly : Nat → Int32) (pr : Nat → Int32) (sn : Nat → Int32) (pa : Nat → Int32) (ot : Nat → Int32) (nu : Nat → Int32) (s : Nat → Int32) (nm : Nat → Int64) : Prop := pX C S P B nC nP rp bs far cn pn ∧ tRM 0 8 C S P B nC nP s nm ∧ dX P A f pl bu le di wa lf ly pr ∧ sD P A s ∧ dV C P A ∧ dMi A ≤ 400 ∧ qS sn pa ot nu s
section WS
variable {C S P : Nat} {B : Nat → Nat} {nC nP : Nat → List Nat} {A : aD} {rp bs far f pl bu le di wa lf ly pr sn pa ot nu s s' : Nat → Int32} {cn pn nm nm' : Nat → Int64}
theorem wS_cong (h : wS C S P B nC nP A rp cn pn bs far f pl bu le di wa lf ly pr sn pa ot nu s nm) (e : ∀ i, i < 397 → s' i = s i) (en : ∀ i, i < 14 → nm' i = nm i) : wS C S P B nC nP A rp cn pn bs far f pl bu le di wa lf ly pr sn pa ot nu s' nm' := by
  obtain ⟨h1, ⟨t1, t2, t3, t4, t5, t6⟩, h3, h4, h5, h6, h7⟩ := h
  have hC := h1.1.1
  have hP := h1.1.2.2.1
  refine ⟨h1, ⟨by rw [e 0 (by omega)]; exact t1, by rw [e 1 (by omega)]; exact t2, by rw [e 2 (by omega)]; exact t3, fun c hc => by rw [e (3 + c) (by omega)]; exact t4 c hc, fun j hj => by rw [en (0 + j) (by omega)]; exact t5 j hj, fun j hj => by rw [en (8 + j) (by omega)]; exact t6 j hj⟩, h3, sD_cong hP (dV_M h5) h4 (fun i _ hi => e i (by omega)), h5, h6, ?_⟩
  rcases h7 with ⟨q1, q2⟩ | ⟨cd, q1, ⟨q2, q3⟩, q4⟩
  · exact Or.inl ⟨q1, by rw [e 216 (by omega)]; exact q2⟩
  · have hl := q4.1
    exact Or.inr ⟨cd, q1, ⟨by rw [e 216 (by omega)]; exact q2, cdM_cong (fun i hi => e (217 + i) (by omega)) q3⟩, q4⟩
theorem x_give {o1 : Nat → Int32} {o2 : Nat → Int64} {o3 : Nat → Int64} {o4 : Nat → Int32} {o5 : Nat → Int32} {o6 : Nat → Int32} {o7 : Nat → Int32} {o8 : Nat → Int32} {o9 : Nat → Int32} {o10 : Nat → Int32} {o11 : Nat → Int32} {o12 : Nat → Int32} {o13 : Nat → Int32} {o14 : Nat → Int32} {o15 : Nat → Int32} {o16 : Nat → Int32} {o17 : Nat → Int32} {o18 : Nat → Int32} (h : wS C S P B nC nP A rp cn pn bs far f pl bu le di wa lf ly pr sn pa ot nu s nm) : ∃ Y, fKp_giveBack rp cn pn bs far f pl bu le di wa lf ly pr sn pa ot nu o1 o2 o3 o4 o5 o6 o7 o8 o9 o10 o11 o12 o13 o14 o15 o16 o17 o18 = some Y ∧ wS C S P B nC nP A Y.1 Y.2.1 Y.2.2.1 Y.2.2.2.1 Y.2.2.2.2.1 Y.2.2.2.2.2.1 Y.2.2.2.2.2.2.1 Y.2.2.2.2.2.2.2.1 Y.2.2.2.2.2.2.2.2.1 Y.2.2.2.2.2.2.2.2.2.1 Y.2.2.2.2.2.2.2.2.2.2.1 Y.2.2.2.2.2.2.2.2.2.2.2.1 Y.2.2.2.2.2.2.2.2.2.2.2.2.1 Y.2.2.2.2.2.2.2.2.2.2.2.2.2.1 Y.2.2.2.2.2.2.2.2.2.2.2.2.2.2.1 Y.2.2.2.2.2.2.2.2.2.2.2.2.2.2.2.1 Y.2.2.2.2.2.2.2.2.2.2.2.2.2.2.2.2.1 Y.2.2.2.2.2.2.2.2.2.2.2.2.2.2.2.2.2 s nm := by
  obtain ⟨h1, h2, h3, h4, h5, h6, h7⟩ := h
  obtain ⟨a1, a2, a3, a4, a5, p1, p2⟩ := x_plcopy (r := o1) (w0 := o2) (w1 := o3) (r2 := o4) (r3 := o5) h1
  obtain ⟨y1, y2, y3, y4, y5, y6, y7, y8, y9, c1, c2⟩ := x_copy (r := o6) (f0 := o7) (f1 := o8) (f2 := o9) (f3 := o10) (f4 := o11) (f5 := o12) (f6 := o13) (f7 := o14) (dV_M h5) h3
  obtain ⟨⟨z1, z2, z3, z4⟩, s1, s2⟩ : ∃ Z, fSn_copyFrom o15 o16 o17 o18 sn pa ot nu = some Z ∧ qS Z.1 Z.2.1 Z.2.2.1 Z.2.2.2 s := by
    rcases h7 with ⟨q1, q2⟩ | ⟨cd, q1, q2, q4⟩
    · obtain ⟨Z, e1, e2⟩ := x_scopy0 (r := o15) (f0 := o16) (f1 := o17) (f2 := o18) (pa := pa) (ot := ot) (nu := nu) q1
      exact ⟨Z, e1, Or.inl ⟨e2, q2⟩⟩
    · obtain ⟨Z, e1, e2, -⟩ := x_scopy (r := o15) (f0 := o16) (f1 := o17) (f2 := o18) q4.1 q1
      exact ⟨Z, e1, Or.inr ⟨cd, e2, q2, q4⟩⟩
  refine ⟨(a1, a2, a3, a4, a5, y1, y2, y3, y4, y5, y6, y7, y8, y9, z1, z2, z3, z4), ?_, p2, h2, c2, h4, h5, h6, s2⟩
  unfold fKp_giveBack
  rw [p1, Option.bind_some, c1, Option.bind_some, s1, Option.bind_some]
theorem x_keep {k0 : Nat → Int32} {o1 : Nat → Int32} {o2 : Nat → Int64} {o3 : Nat → Int64} {o4 : Nat → Int32} {o5 : Nat → Int32} {o6 : Nat → Int32} {o7 : Nat → Int32} {o8 : Nat → Int32} {o9 : Nat → Int32} {o10 : Nat → Int32} {o11 : Nat → Int32} {o12 : Nat → Int32} {o13 : Nat → Int32} {o14 : Nat → Int32} {o15 : Nat → Int32} {o16 : Nat → Int32} {o17 : Nat → Int32} {o18 : Nat → Int32} (h : wS C S P B nC nP A rp cn pn bs far f pl bu le di wa lf ly pr sn pa ot nu s nm) : ∃ Y, fKp_keep k0 o1 o2 o3 o4 o5 o6 o7 o8 o9 o10 o11 o12 o13 o14 o15 o16 o17 o18 rp cn pn bs far f pl bu le di wa lf ly pr sn pa ot nu = some Y ∧ Y.1 3 = 1 ∧ wS C S P B nC nP A Y.2.1 Y.2.2.1 Y.2.2.2.1 Y.2.2.2.2.1 Y.2.2.2.2.2.1 Y.2.2.2.2.2.2.1 Y.2.2.2.2.2.2.2.1 Y.2.2.2.2.2.2.2.2.1 Y.2.2.2.2.2.2.2.2.2.1 Y.2.2.2.2.2.2.2.2.2.2.1 Y.2.2.2.2.2.2.2.2.2.2.2.1 Y.2.2.2.2.2.2.2.2.2.2.2.2.1 Y.2.2.2.2.2.2.2.2.2.2.2.2.2.1 Y.2.2.2.2.2.2.2.2.2.2.2.2.2.2.1 Y.2.2.2.2.2.2.2.2.2.2.2.2.2.2.2.1 Y.2.2.2.2.2.2.2.2.2.2.2.2.2.2.2.2.1 Y.2.2.2.2.2.2.2.2.2.2.2.2.2.2.2.2.2.1 Y.2.2.2.2.2.2.2.2.2.2.2.2.2.2.2.2.2.2 s nm := by
  obtain ⟨h1, h2, h3, h4, h5, h6, h7⟩ := h
  obtain ⟨a1, a2, a3, a4, a5, p1, p2⟩ := x_plcopy (r := o1) (w0 := o2) (w1 := o3) (r2 := o4) (r3 := o5) h1
  obtain ⟨y1, y2, y3, y4, y5, y6, y7, y8, y9, c1, c2⟩ := x_copy (r := o6) (f0 := o7) (f1 := o8) (f2 := o9) (f3 := o10) (f4 := o11) (f5 := o12) (f6 := o13) (f7 := o14) (dV_M h5) h3
  obtain ⟨⟨z1, z2, z3, z4⟩, s1, s2⟩ : ∃ Z, fSn_copyFrom o15 o16 o17 o18 sn pa ot nu = some Z ∧ qS Z.1 Z.2.1 Z.2.2.1 Z.2.2.2 s := by
    rcases h7 with ⟨q1, q2⟩ | ⟨cd, q1, q2, q4⟩
    · obtain ⟨Z, e1, e2⟩ := x_scopy0 (r := o15) (f0 := o16) (f1 := o17) (f2 := o18) (pa := pa) (ot := ot) (nu := nu) q1
      exact ⟨Z, e1, Or.inl ⟨e2, q2⟩⟩
    · obtain ⟨Z, e1, e2, -⟩ := x_scopy (r := o15) (f0 := o16) (f1 := o17) (f2 := o18) q4.1 q1
      exact ⟨Z, e1, Or.inr ⟨cd, e2, q2, q4⟩⟩
  refine ⟨(zup k0 3 1, a1, a2, a3, a4, a5, y1, y2, y3, y4, y5, y6, y7, y8, y9, z1, z2, z3, z4), ?_, (show zup k0 3 1 3 = 1 from zup_s), p2, h2, c2, h4, h5, h6, s2⟩
  unfold fKp_keep
  rw [p1, Option.bind_some, c1, Option.bind_some, s1, Option.bind_some, zlet_e]
end WS
/-! the reference's rows copied -/
theorem m_397 (k i : Nat) : (397 : Int32) * nI k + nI i = nI (397 * k + i) := by rw [show (397 : Int32) = nI 397 from rfl, nI_mul, nI_add]
theorem m_14 (k i : Nat) : (14 : Int32) * nI k + nI i = nI (14 * k + i) := by rw [show (14 : Int32) = nI 14 from rfl, nI_mul, nI_add]
theorem zg14 {k : Nat} (h : k < 14) : ¬ (14 : Int32) ≤ nI k := nI_ge (b := 14) h (by omega)
theorem m_im1 {k : Nat} (hk : k < 2) {s im : Nat → Int32} : ∃ q, zLP (fun t : (Nat → Int32) × Int32 => fM_image_L18 s (nI k) t.1 t.2) (im, 0) = some q ∧ (∀ i, i < 397 → q (397 * k + i) = s (i)) ∧ ∀ j, (∀ i, i < 397 → j ≠ 397 * k + i) → q j = im j := by
  refine zLP_inv (fun m t => t.2 = nI m ∧ (∀ i, i < m → t.1 (397 * k + i) = s (i)) ∧ ∀ j, (∀ i, i < 397 → j ≠ 397 * k + i) → t.1 j = im j) _ 397 ⟨rfl, fun i hi => absurd hi (by omega), fun _ _ => rfl⟩ ?_ ?_
  · rintro m ⟨t1, t2⟩ hm ⟨e1, e2, e3⟩
    dsimp only at e1 e2 e3
    left
    have hz : fM_image_L18 s (nI k) t1 t2 = some (.inl (zup t1 (397 * k + m) (s (m)), nI (m + 1))) := by
      unfold fM_image_L18
      rw [e1, if_neg (zg397 hm), m_397, zrd_n (by omega) (by omega), Option.bind_some, zwr_n (by omega) (by omega), Option.bind_some, zlet_e, nI_1]
    refine ⟨_, hz, rfl, fun i hi => ?_, fun j hj => ?_⟩
    · show zup t1 (397 * k + m) _ (397 * k + i) = _
      by_cases e : i = m
      · rw [e, zup_s]
      · rw [zup_n (by omega)]; exact e2 i (by omega)
    · show zup t1 (397 * k + m) _ j = _
      rw [zup_n (hj m hm)]; exact e3 j hj
  · rintro ⟨t1, t2⟩ ⟨e1, e2, e3⟩
    dsimp only at e1 e2 e3
    refine ⟨t1, ?_, e2, e3⟩
    show fM_image_L18 s (nI k) t1 t2 = _
    unfold fM_image_L18
    rw [e1, if_pos (by decide)]
theorem m_im2 {k : Nat} (hk : k < 2) {nm nk : Nat → Int64} : ∃ q, zLP (fun t : (Nat → Int64) × Int32 => fM_image_L51 nm (nI k) t.1 t.2) (nk, 0) = some q ∧ (∀ i, i < 14 → q (14 * k + i) = nm (i)) ∧ ∀ j, (∀ i, i < 14 → j ≠ 14 * k + i) → q j = nk j := by
  refine zLP_inv (fun m t => t.2 = nI m ∧ (∀ i, i < m → t.1 (14 * k + i) = nm (i)) ∧ ∀ j, (∀ i, i < 14 → j ≠ 14 * k + i) → t.1 j = nk j) _ 14 ⟨rfl, fun i hi => absurd hi (by omega), fun _ _ => rfl⟩ ?_ ?_
  · rintro m ⟨t1, t2⟩ hm ⟨e1, e2, e3⟩
    dsimp only at e1 e2 e3
    left
    have hz : fM_image_L51 nm (nI k) t1 t2 = some (.inl (zup t1 (14 * k + m) (nm (m)), nI (m + 1))) := by
      unfold fM_image_L51
      rw [e1, if_neg (zg14 hm), m_14, zrd_n (by omega) (by omega), Option.bind_some, zwr_n (by omega) (by omega), Option.bind_some, zlet_e, nI_1]
    refine ⟨_, hz, rfl, fun i hi => ?_, fun j hj => ?_⟩
    · show zup t1 (14 * k + m) _ (14 * k + i) = _
      by_cases e : i = m
      · rw [e, zup_s]
      · rw [zup_n (by omega)]; exact e2 i (by omega)
    · show zup t1 (14 * k + m) _ j = _
      rw [zup_n (hj m hm)]; exact e3 j hj
  · rintro ⟨t1, t2⟩ ⟨e1, e2, e3⟩
    dsimp only at e1 e2 e3
    refine ⟨t1, ?_, e2, e3⟩
    show fM_image_L51 nm (nI k) t1 t2 = _
    unfold fM_image_L51
    rw [e1, if_pos (by decide)]
theorem m_re1 {k : Nat} (hk : k < 2) {im s : Nat → Int32} : ∃ q, zLP (fun t : (Nat → Int32) × Int32 => fM_restore_L27 im (nI k) t.1 t.2) (s, 0) = some q ∧ (∀ i, i < 397 → q (i) = im (397 * k + i)) ∧ ∀ j, (∀ i, i < 397 → j ≠ i) → q j = s j := by
  refine zLP_inv (fun m t => t.2 = nI m ∧ (∀ i, i < m → t.1 (i) = im (397 * k + i)) ∧ ∀ j, (∀ i, i < 397 → j ≠ i) → t.1 j = s j) _ 397 ⟨rfl, fun i hi => absurd hi (by omega), fun _ _ => rfl⟩ ?_ ?_
  · rintro m ⟨t1, t2⟩ hm ⟨e1, e2, e3⟩
    dsimp only at e1 e2 e3
    left
    have hz : fM_restore_L27 im (nI k) t1 t2 = some (.inl (zup t1 (m) (im (397 * k + m)), nI (m + 1))) := by
      unfold fM_restore_L27
      rw [e1, if_neg (zg397 hm), m_397, zrd_n (by omega) (by omega), Option.bind_some, zwr_n (by omega) (by omega), Option.bind_some, zlet_e, nI_1]
    refine ⟨_, hz, rfl, fun i hi => ?_, fun j hj => ?_⟩
    · show zup t1 (m) _ (i) = _
      by_cases e : i = m
      · rw [e, zup_s]
      · rw [zup_n (by omega)]; exact e2 i (by omega)
    · show zup t1 (m) _ j = _
      rw [zup_n (hj m hm)]; exact e3 j hj
  · rintro ⟨t1, t2⟩ ⟨e1, e2, e3⟩
    dsimp only at e1 e2 e3
    refine ⟨t1, ?_, e2, e3⟩
    show fM_restore_L27 im (nI k) t1 t2 = _
    unfold fM_restore_L27
    rw [e1, if_pos (by decide)]
theorem m_re2 {k : Nat} (hk : k < 2) {nk nm : Nat → Int64} : ∃ q, zLP (fun t : (Nat → Int64) × Int32 => fM_restore_L60 nk (nI k) t.1 t.2) (nm, 0) = some q ∧ (∀ i, i < 14 → q (i) = nk (14 * k + i)) ∧ ∀ j, (∀ i, i < 14 → j ≠ i) → q j = nm j := by
  refine zLP_inv (fun m t => t.2 = nI m ∧ (∀ i, i < m → t.1 (i) = nk (14 * k + i)) ∧ ∀ j, (∀ i, i < 14 → j ≠ i) → t.1 j = nm j) _ 14 ⟨rfl, fun i hi => absurd hi (by omega), fun _ _ => rfl⟩ ?_ ?_
  · rintro m ⟨t1, t2⟩ hm ⟨e1, e2, e3⟩
    dsimp only at e1 e2 e3
    left
    have hz : fM_restore_L60 nk (nI k) t1 t2 = some (.inl (zup t1 (m) (nk (14 * k + m)), nI (m + 1))) := by
      unfold fM_restore_L60
      rw [e1, if_neg (zg14 hm), m_14, zrd_n (by omega) (by omega), Option.bind_some, zwr_n (by omega) (by omega), Option.bind_some, zlet_e, nI_1]
    refine ⟨_, hz, rfl, fun i hi => ?_, fun j hj => ?_⟩
    · show zup t1 (m) _ (i) = _
      by_cases e : i = m
      · rw [e, zup_s]
      · rw [zup_n (by omega)]; exact e2 i (by omega)
    · show zup t1 (m) _ j = _
      rw [zup_n (hj m hm)]; exact e3 j hj
  · rintro ⟨t1, t2⟩ ⟨e1, e2, e3⟩
    dsimp only at e1 e2 e3
    refine ⟨t1, ?_, e2, e3⟩
    show fM_restore_L60 nk (nI k) t1 t2 = _
    unfold fM_restore_L60
    rw [e1, if_pos (by decide)]
