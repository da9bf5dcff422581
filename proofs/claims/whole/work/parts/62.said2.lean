/-! ===== a sentence is reckoned ===== -/
noncomputable abbrev eBX (sn pa ot nu rp pl bu le lf : Nat → Int32) (all : Int32) : (Nat → Int32) × Int32 × Int32 → Option (((Nat → Int32) × Int32 × Int32) ⊕ ((Nat → Int32) × Int32)) := fun s => fSn_whoFits_L15 sn pa ot nu rp pl bu le lf all s.1 s.2.1 s.2.2
noncomputable abbrev eBM (s : Nat → Int32) (q : Int32) : (Nat → Int32) × Int32 × Int32 → Option (((Nat → Int32) × Int32 × Int32) ⊕ (Nat → Int32)) := fun t => fM_isSaid_L4 s q t.1 t.2.1 t.2.2
theorem iOK_op {c : aI} (h : iOK c) (h9 : ¬ c.1 < 9) : c.1 = 20 ∨ c.1 = 21 ∨ c.1 = 22 := by have := h.1; omega
theorem zlet_e {α β : Type} (e : α) (f : α → β) : zlet e f = f e := rfl
section ST
variable {N i d o : Nat} {sn pa ot nu rp pl bu le lf hd : Nat → Int32} {all u v w : Int32}
theorem x_stL (hN : N ≤ 40) (hsn : sn 5 = nI N) (hi : i < N) (hd4 : d < 40) (ho : o < 9) (hp : pa i = nI (13 + o)) (hw : fSn_whoFitsPlain pa ot nu rp pl bu le lf (nI i) = some w) : fSn_whoFits_L15 sn pa ot nu rp pl bu le lf all hd (nI d) (nI i) = some (.inl (zup hd d w, nI (d + 1), nI (i + 1))) := by
  unfold fSn_whoFits_L15
  rw [hsn, if_neg (nI_ge hi (by omega)), if_neg (zg40 (by omega)), zrd_n (f := pa) (by omega) (by omega), hp, Option.bind_some, zlet_e, if_neg (show ¬ nI (13 + o) = 12 from fun h => by have := (nI_eq (b := 12) (by omega) (by omega)).mp h; omega), zlet_e, zlet_e, if_neg (show ¬ nI (13 + o) = 11 from fun h => by have := (nI_eq (b := 11) (by omega) (by omega)).mp h; omega), if_neg (show ¬ nI (13 + o) = 10 from fun h => by have := (nI_eq (b := 10) (by omega) (by omega)).mp h; omega), if_neg (zg40 (by omega)), hw, Option.bind_some, zwr_n (by omega) (by omega), Option.bind_some, zlet_e, zlet_e, nI_1, nI_1]
theorem x_stN (hN : N ≤ 40) (hsn : sn 5 = nI N) (hi : i < N) (hd4 : d < 40) (hp : pa i = nI 12) (hv : hd d = v) : fSn_whoFits_L15 sn pa ot nu rp pl bu le lf all hd (nI (d + 1)) (nI i) = some (.inl (zup hd d (all &&& (v ^^^ (-1))), nI (d + 1), nI (i + 1))) := by
  unfold fSn_whoFits_L15
  rw [hsn, if_neg (nI_ge hi (by omega)), if_neg (zg40 (by omega)), zrd_n (f := pa) (by omega) (by omega), hp, Option.bind_some, zlet_e, if_pos (show nI 12 = 12 from rfl), if_neg (nI_nle (by omega) (by omega)), nI_pred, zrd_n (f := hd) (by omega) (by omega), hv, Option.bind_some, zwr_n (by omega) (by omega), Option.bind_some, zlet_e, nI_1]
theorem x_stA (hN : N ≤ 40) (hsn : sn 5 = nI N) (hi : i < N) (hd4 : d + 1 < 40) (hp : pa i = nI 11) (hu : hd d = u) (hv : hd (d + 1) = v) : fSn_whoFits_L15 sn pa ot nu rp pl bu le lf all hd (nI (d + 2)) (nI i) = some (.inl (zup hd d (u &&& v), nI (d + 1), nI (i + 1))) := by
  unfold fSn_whoFits_L15
  rw [hsn, if_neg (nI_ge hi (by omega)), if_neg (zg40 (by omega)), zrd_n (f := pa) (by omega) (by omega), hp, Option.bind_some, zlet_e, if_neg (show ¬ nI 11 = 12 by decide), zlet_e, zlet_e, if_pos (show nI 11 = 11 from rfl), if_neg (show ¬ nI (d + 2) ≤ 1 from nI_ge (a := 1) (by omega) (by omega)), zlet_e, if_pos (show nI 11 = 11 from rfl), show nI (d + 2) + (-1) = nI (d + 1) from nI_m1p (d + 1), nI_pred, zrd_n (f := hd) (by omega) (by omega), hu, Option.bind_some, zrd_n (f := hd) (by omega) (by omega), hv, Option.bind_some, zwr_n (by omega) (by omega), Option.bind_some, zlet_e, nI_1]
theorem x_stO (hN : N ≤ 40) (hsn : sn 5 = nI N) (hi : i < N) (hd4 : d + 1 < 40) (hp : pa i = nI 10) (hu : hd d = u) (hv : hd (d + 1) = v) : fSn_whoFits_L15 sn pa ot nu rp pl bu le lf all hd (nI (d + 2)) (nI i) = some (.inl (zup hd d (u ||| v), nI (d + 1), nI (i + 1))) := by
  unfold fSn_whoFits_L15
  rw [hsn, if_neg (nI_ge hi (by omega)), if_neg (zg40 (by omega)), zrd_n (f := pa) (by omega) (by omega), hp, Option.bind_some, zlet_e, if_neg (show ¬ nI 10 = 12 by decide), zlet_e, zlet_e, if_neg (show ¬ nI 10 = 11 by decide), if_pos (show nI 10 = 10 from rfl), if_neg (show ¬ nI (d + 2) ≤ 1 from nI_ge (a := 1) (by omega) (by omega)), zlet_e, if_neg (show ¬ nI 10 = 11 by decide), show nI (d + 2) + (-1) = nI (d + 1) from nI_m1p (d + 1), nI_pred, zrd_n (f := hd) (by omega) (by omega), hu, Option.bind_some, zrd_n (f := hd) (by omega) (by omega), hv, Option.bind_some, zwr_n (by omega) (by omega), Option.bind_some, zlet_e, nI_1]
end ST
theorem x_eval {C P N : Nat} {A : aD} {sn rp f pl bu le di wa lf ly pr pa ot nu hd0 : Nat → Int32} (hC : C ≤ 8) (hP : P ≤ 6) (hr : rp 6 = nI P) (hV : dV C P A) (h : dX P A f pl bu le di wa lf ly pr) (hN : N ≤ 40) (hsn : sn 5 = nI N) (l : List aI) :
    l.length ≤ N → rpn l → iAll l → cdX l pa ot nu → ∃ hd, zLP (eBX sn pa ot nu rp pl bu le lf (nI (2 ^ P - 1))) (hd0, 0, 0) = zLP (eBX sn pa ot nu rp pl bu le lf (nI (2 ^ P - 1))) (hd, nI (evF A l).length, nI l.length) ∧ hdR (fun g => nI (zset g P)) (evF A l) hd := by
  induction l with
  | nil => intro _ _ _ _; exact ⟨hd0, rfl, trivial⟩
  | cons c t ih =>
    intro hl hp hi hc
    rw [List.length_cons] at hl ⊢
    have hit : iAll t := fun x hx => hi x (List.mem_cons_of_mem _ hx)
    have hic := hi c (List.mem_cons_self)
    obtain ⟨hd, e1, e2⟩ := ih (by omega) hp.2.2 hit hc.2
    have hlen := evF_len (A := A) hp.2.2 hit
    have hdp := dpC_le t
    obtain ⟨cx1, cx2, cx3⟩ := id hc.1
    by_cases h9 : c.1 < 9
    · have hop : pa t.length = nI (13 + c.1) := by rw [cx1]; unfold cOp; rw [if_pos h9]
      have hev : evF A (c :: t) = (fun q => aLf A q c) :: evF A t := by rw [evF, if_pos h9]
      rw [hev, List.length_cons]
      have hst := x_stL (all := nI (2 ^ P - 1)) (hd := hd) (d := (evF A t).length) hN hsn (show t.length < N by omega) (by omega) h9 hop (x_fits hC hP hr hV h (by omega) hc.1 hic h9)
      exact ⟨_, e1.trans (zLP_go hst), zup_s, hdR_up (Nat.le_refl _) e2⟩
    · have hop : pa t.length = nI (32 - c.1) := by rw [cx1]; unfold cOp; rw [if_neg h9]
      rcases iOK_op hic h9 with e | e | e
      · have h1 := hp.1 e
        rw [e] at hop
        cases hv : evF A t with
        | nil => rw [hv] at hlen; simp only [List.length_nil] at hlen; omega
        | cons x r =>
          have hev : evF A (c :: t) = (fun q => !x q) :: r := by rw [evF, if_neg h9, if_pos e, hv]; rfl
          rw [hv] at e1 e2
          rw [hev, List.length_cons]
          rw [List.length_cons] at e1
          have hrl : r.length + 1 ≤ 40 := by rw [hv, List.length_cons] at hlen; omega
          have hst := x_stN (ot := ot) (nu := nu) (rp := rp) (pl := pl) (bu := bu) (le := le) (lf := lf) (all := nI (2 ^ P - 1)) (hd := hd) (d := r.length) hN hsn (show t.length < N by omega) (by omega) hop e2.1
          rw [z_df, zset_not hP] at hst
          exact ⟨_, e1.trans (zLP_go hst), zup_s, hdR_up (Nat.le_refl _) e2.2⟩
      · have h2 := hp.2.1 (Or.inl e)
        rw [e] at hop
        cases hv : evF A t with
        | nil => rw [hv] at hlen; simp only [List.length_nil] at hlen; omega
        | cons y r =>
          cases r with
          | nil => rw [hv] at hlen; simp only [List.length_cons, List.length_nil] at hlen; omega
          | cons x r =>
            have hev : evF A (c :: t) = (fun q => x q && y q) :: r := by rw [evF, if_neg h9, if_neg (by omega), if_pos e, hv]; rfl
            rw [hv] at e1 e2
            rw [hev, List.length_cons]
            rw [List.length_cons, List.length_cons] at e1
            have hrl : r.length + 2 ≤ 40 := by rw [hv, List.length_cons, List.length_cons] at hlen; omega
            have hst := x_stA (ot := ot) (nu := nu) (rp := rp) (pl := pl) (bu := bu) (le := le) (lf := lf) (all := nI (2 ^ P - 1)) (hd := hd) (d := r.length) hN hsn (show t.length < N by omega) (by omega) hop e2.2.1 e2.1
            rw [z_and, zset_and] at hst
            exact ⟨_, e1.trans (zLP_go hst), zup_s, hdR_up (Nat.le_refl _) e2.2.2⟩
      · have h2 := hp.2.1 (Or.inr e)
        rw [e] at hop
        cases hv : evF A t with
        | nil => rw [hv] at hlen; simp only [List.length_nil] at hlen; omega
        | cons y r =>
          cases r with
          | nil => rw [hv] at hlen; simp only [List.length_cons, List.length_nil] at hlen; omega
          | cons x r =>
            have hev : evF A (c :: t) = (fun q => x q || y q) :: r := by rw [evF, if_neg h9, if_neg (by omega), if_neg (by omega), hv]; rfl
            rw [hv] at e1 e2
            rw [hev, List.length_cons]
            rw [List.length_cons, List.length_cons] at e1
            have hrl : r.length + 2 ≤ 40 := by rw [hv, List.length_cons, List.length_cons] at hlen; omega
            have hst := x_stO (ot := ot) (nu := nu) (rp := rp) (pl := pl) (bu := bu) (le := le) (lf := lf) (all := nI (2 ^ P - 1)) (hd := hd) (d := r.length) hN hsn (show t.length < N by omega) (by omega) hop e2.2.1 e2.1
            rw [z_or, zset_or] at hst
            exact ⟨_, e1.trans (zLP_go hst), zup_s, hdR_up (Nat.le_refl _) e2.2.2⟩
theorem vp_b (b : Bool) : vp_nar .boolean (zb b) = zb b := by cases b <;> rfl
theorem vp_b0 : vp_nar .boolean 0 = zb false := rfl
theorem vp_b1 : vp_nar .boolean 1 = zb true := rfl
section MT
variable {N i d o : Nat} {s hd : Nat → Int32} {q : Int32}
theorem m_stL {g m : Nat} {b : Bool} (hN : N ≤ 40) (hsn : s 216 = nI N) (hi : i < N) (hd4 : d < 40) (ho : o < 9) (h0 : s (217 + 3 * i) = nI o) (h1 : s (217 + 3 * i + 1) = nI g) (h2 : s (217 + 3 * i + 2) = nI m) (hw : fM_isLeaf s q (nI o) (nI g) (nI m) = some b) : fM_isSaid_L4 s q hd (nI d) (nI i) = some (.inl (zup hd d (zb b), nI (d + 1), nI (i + 1))) := by
  have hx12 : (217 : Int32) + 3 * nI i = nI (217 + 3 * i) := by rw [show (3 : Int32) * nI i = nI (3 * i) from nI_mul 3 _]; exact nI_add 217 _
  have z1 : zrd s 397 (nI (217 + 3 * i)) = some (nI o) := by rw [zrd_n (by omega) (by omega), h0]
  unfold fM_isSaid_L4
  rw [hsn, if_neg (nI_ge hi (by omega)), zlet_e, hx12, z1, Option.bind_some, if_neg (show ¬ nI o = 20 from fun h => by have := (nI_eq (b := 20) (by omega) (by omega)).mp h; omega), Option.bind_some, zlet_e, if_neg (show ¬ nI o = 21 from fun h => by have := (nI_eq (b := 21) (by omega) (by omega)).mp h; omega), Option.bind_some, if_neg (show ¬ nI o = 22 from fun h => by have := (nI_eq (b := 22) (by omega) (by omega)).mp h; omega), Option.bind_some, nI_1, zrd_n (f := s) (by omega) (by omega), h1, Option.bind_some, show nI (217 + 3 * i) + 2 = nI (217 + 3 * i + 2) from nI_add _ 2, zrd_n (f := s) (by omega) (by omega), h2, Option.bind_some, hw, Option.bind_some, vp_b, zwr_n (by omega) (by omega), Option.bind_some, zlet_e, zlet_e, nI_1, nI_1]
theorem m_stN {b : Bool} (hN : N ≤ 40) (hsn : s 216 = nI N) (hi : i < N) (hd4 : d < 40) (h0 : s (217 + 3 * i) = nI 20) (hv : hd d = zb b) : fM_isSaid_L4 s q hd (nI (d + 1)) (nI i) = some (.inl (zup hd d (zb (!b)), nI (d + 1), nI (i + 1))) := by
  have hx12 : (217 : Int32) + 3 * nI i = nI (217 + 3 * i) := by rw [show (3 : Int32) * nI i = nI (3 * i) from nI_mul 3 _]; exact nI_add 217 _
  have z1 : zrd s 397 (nI (217 + 3 * i)) = some (nI 20) := by rw [zrd_n (by omega) (by omega), h0]
  have hb : (if zb b = 0 then true else false) = !b := by cases b <;> rfl
  unfold fM_isSaid_L4
  rw [hsn, if_neg (nI_ge hi (by omega)), zlet_e, hx12, z1, Option.bind_some, if_pos (show nI 20 = 20 from rfl), nI_pred, zrd_n (f := hd) (by omega) (by omega), hv, Option.bind_some, hb, vp_b, zwr_n (by omega) (by omega), Option.bind_some, zlet_e, nI_1]
theorem m_stA {x y : Bool} (hN : N ≤ 40) (hsn : s 216 = nI N) (hi : i < N) (hd4 : d + 1 < 40) (h0 : s (217 + 3 * i) = nI 21) (hu : hd d = zb x) (hv : hd (d + 1) = zb y) : fM_isSaid_L4 s q hd (nI (d + 2)) (nI i) = some (.inl (zup hd d (zb (x && y)), nI (d + 1), nI (i + 1))) := by
  have hx12 : (217 : Int32) + 3 * nI i = nI (217 + 3 * i) := by rw [show (3 : Int32) * nI i = nI (3 * i) from nI_mul 3 _]; exact nI_add 217 _
  have z1 : zrd s 397 (nI (217 + 3 * i)) = some (nI 21) := by rw [zrd_n (by omega) (by omega), h0]
  unfold fM_isSaid_L4
  rw [hsn, if_neg (nI_ge hi (by omega)), zlet_e, hx12, z1, Option.bind_some, if_neg (show ¬ nI 21 = 20 by decide), Option.bind_some, zlet_e, if_pos (show nI 21 = 21 from rfl), zlet_e, Option.bind_some, if_pos (show nI 21 = 21 from rfl), show nI (d + 2) + (-1) = nI (d + 1) from nI_m1p (d + 1), nI_pred, zrd_n (f := hd) (by omega) (by omega), hu, Option.bind_some]
  cases x with
  | false => rw [if_pos (show zb false = 0 from rfl), vp_b0, zwr_n (by omega) (by omega), Option.bind_some, zlet_e, nI_1]; rfl
  | true =>
    have hb : (if zb y = 0 then false else true) = y := by cases y <;> rfl
    rw [if_neg (show ¬ zb true = 0 by decide), zrd_n (f := hd) (by omega) (by omega), hv, Option.bind_some, hb, vp_b, zwr_n (by omega) (by omega), Option.bind_some, zlet_e, nI_1]; rfl
theorem m_stO {x y : Bool} (hN : N ≤ 40) (hsn : s 216 = nI N) (hi : i < N) (hd4 : d + 1 < 40) (h0 : s (217 + 3 * i) = nI 22) (hu : hd d = zb x) (hv : hd (d + 1) = zb y) : fM_isSaid_L4 s q hd (nI (d + 2)) (nI i) = some (.inl (zup hd d (zb (x || y)), nI (d + 1), nI (i + 1))) := by
  have hx12 : (217 : Int32) + 3 * nI i = nI (217 + 3 * i) := by rw [show (3 : Int32) * nI i = nI (3 * i) from nI_mul 3 _]; exact nI_add 217 _
  have z1 : zrd s 397 (nI (217 + 3 * i)) = some (nI 22) := by rw [zrd_n (by omega) (by omega), h0]
  unfold fM_isSaid_L4
  rw [hsn, if_neg (nI_ge hi (by omega)), zlet_e, hx12, z1, Option.bind_some, if_neg (show ¬ nI 22 = 20 by decide), Option.bind_some, zlet_e, if_neg (show ¬ nI 22 = 21 by decide), Option.bind_some, if_pos (show nI 22 = 22 from rfl), zlet_e, Option.bind_some, if_neg (show ¬ nI 22 = 21 by decide), show nI (d + 2) + (-1) = nI (d + 1) from nI_m1p (d + 1), nI_pred, zrd_n (f := hd) (by omega) (by omega), hu, Option.bind_some]
  cases x with
  | false =>
    have hb : (if zb y = 0 then false else true) = y := by cases y <;> rfl
    rw [if_pos (show zb false = 0 from rfl), zrd_n (f := hd) (by omega) (by omega), hv, Option.bind_some, hb, vp_b, zwr_n (by omega) (by omega), Option.bind_some, zlet_e, nI_1]; rfl
  | true => rw [if_neg (show ¬ zb true = 0 by decide), vp_b1, zwr_n (by omega) (by omega), Option.bind_some, zlet_e, nI_1]; rfl
end MT
theorem m_eval {C P N : Nat} {A : aD} {s tr0 : Nat → Int32} {q : Nat} (hC : C ≤ 8) (hP : P ≤ 6) (hs2 : s 2 = nI P) (hV : dV C P A) (h : sD P A s) (hq : q < P) (hN : N ≤ 40) (hsn : s 216 = nI N) (l : List aI) :
    l.length ≤ N → rpn l → iAll l → cdM l (fun i => s (217 + i)) → ∃ hd, zLP (eBM s (nI q)) (tr0, 0, 0) = zLP (eBM s (nI q)) (hd, nI (evF A l).length, nI l.length) ∧ hdR (fun g => zb (g q)) (evF A l) hd := by
  induction l with
  | nil => intro _ _ _ _; exact ⟨tr0, rfl, trivial⟩
  | cons c t ih =>
    intro hl hp hi hc
    rw [List.length_cons] at hl ⊢
    have hit : iAll t := fun x hx => hi x (List.mem_cons_of_mem _ hx)
    have hic := hi c (List.mem_cons_self)
    obtain ⟨hd, e1, e2⟩ := ih (by omega) hp.2.2 hit hc.2
    have hlen := evF_len (A := A) hp.2.2 hit
    have hdp := dpC_le t
    obtain ⟨⟨c1, c2, c3⟩, -⟩ := hc
    have c1' : s (217 + 3 * t.length) = nI c.1 := c1
    have c2' : s (217 + 3 * t.length + 1) = nI c.2.1 := c2
    have c3' : s (217 + 3 * t.length + 2) = nI c.2.2 := c3
    by_cases h9 : c.1 < 9
    · have hev : evF A (c :: t) = (fun q => aLf A q c) :: evF A t := by rw [evF, if_pos h9]
      rw [hev, List.length_cons]
      have hst := m_stL (hd := hd) (d := (evF A t).length) hN hsn (show t.length < N by omega) (by omega) h9 c1' c2' c3' (m_fit hC hP hs2 hV h hic h9 hq)
      exact ⟨_, e1.trans (zLP_go hst), zup_s, hdR_up (Nat.le_refl _) e2⟩
    · rcases iOK_op hic h9 with e | e | e
      · have h1 := hp.1 e
        rw [e] at c1'
        cases hv : evF A t with
        | nil => rw [hv] at hlen; simp only [List.length_nil] at hlen; omega
        | cons x r =>
          have hev : evF A (c :: t) = (fun q => !x q) :: r := by rw [evF, if_neg h9, if_pos e, hv]; rfl
          rw [hv] at e1 e2
          rw [hev, List.length_cons]
          rw [List.length_cons] at e1
          have hrl : r.length + 1 ≤ 40 := by rw [hv, List.length_cons] at hlen; omega
          have hst := m_stN (q := nI q) (hd := hd) (d := r.length) hN hsn (show t.length < N by omega) (by omega) c1' e2.1
          exact ⟨_, e1.trans (zLP_go hst), zup_s, hdR_up (Nat.le_refl _) e2.2⟩
      · have h2 := hp.2.1 (Or.inl e)
        rw [e] at c1'
        cases hv : evF A t with
        | nil => rw [hv] at hlen; simp only [List.length_nil] at hlen; omega
        | cons y r =>
          cases r with
          | nil => rw [hv] at hlen; simp only [List.length_cons, List.length_nil] at hlen; omega
          | cons x r =>
            have hev : evF A (c :: t) = (fun q => x q && y q) :: r := by rw [evF, if_neg h9, if_neg (by omega), if_pos e, hv]; rfl
            rw [hv] at e1 e2
            rw [hev, List.length_cons]
            rw [List.length_cons, List.length_cons] at e1
            have hrl : r.length + 2 ≤ 40 := by rw [hv, List.length_cons, List.length_cons] at hlen; omega
            have hst := m_stA (q := nI q) (hd := hd) (d := r.length) hN hsn (show t.length < N by omega) (by omega) c1' e2.2.1 e2.1
            exact ⟨_, e1.trans (zLP_go hst), zup_s, hdR_up (Nat.le_refl _) e2.2.2⟩
      · have h2 := hp.2.1 (Or.inr e)
        rw [e] at c1'
        cases hv : evF A t with
        | nil => rw [hv] at hlen; simp only [List.length_nil] at hlen; omega
        | cons y r =>
          cases r with
          | nil => rw [hv] at hlen; simp only [List.length_cons, List.length_nil] at hlen; omega
          | cons x r =>
            have hev : evF A (c :: t) = (fun q => x q || y q) :: r := by rw [evF, if_neg h9, if_neg (by omega), if_neg (by omega), hv]; rfl
            rw [hv] at e1 e2
            rw [hev, List.length_cons]
            rw [List.length_cons, List.length_cons] at e1
            have hrl : r.length + 2 ≤ 40 := by rw [hv, List.length_cons, List.length_cons] at hlen; omega
            have hst := m_stO (q := nI q) (hd := hd) (d := r.length) hN hsn (show t.length < N by omega) (by omega) c1' e2.2.1 e2.1
            exact ⟨_, e1.trans (zLP_go hst), zup_s, hdR_up (Nat.le_refl _) e2.2.2⟩
def sd (f : Nat → Bool) (a1 : Int32) : Nat → Nat → Nat → Int32
  | 0, _, _ => -1
  | fu + 1, i, n => if f i = true then (if nI n = a1 then nI i else sd f a1 fu (i + 1) (n + 1)) else sd f a1 fu (i + 1) n
theorem zsm_cnt {f : Nat → Bool} {n : Nat} : zsm (fun q => if f q then 1 else 0) n ≤ n := by
  induction n with
  | zero => exact Nat.le_refl _
  | succ n ih => rw [zsm]; split <;> omega
theorem zpc_P {f : Nat → Bool} {P : Nat} (hP : P ≤ 6) : zpc (zset f P) = zsm (fun q => if f q then 1 else 0) P := by
  have h1 : zset f P = zset (fun q => decide (q < P) && f q) 6 := by
    rw [zset_more hP (fun q h1 h2 => by rw [decide_eq_false (by omega), Bool.false_and])]
    exact zset_ext (fun q hq => by rw [decide_eq_true hq, Bool.true_and])
  rw [h1, zpc_set]
  have h2 : ∀ m, P + m ≤ 6 → zsm (fun q => if (decide (q < P) && f q) = true then 1 else 0) (P + m) = zsm (fun q => if f q = true then 1 else 0) P := by
    intro m
    induction m with
    | zero =>
      intro _
      have : ∀ k, k ≤ P → zsm (fun q => if (decide (q < P) && f q) = true then 1 else 0) k = zsm (fun q => if f q = true then 1 else 0) k := by
        intro k
        induction k with
        | zero => intro _; rfl
        | succ k ih => intro hk; rw [zsm, zsm, ih (by omega), decide_eq_true (show k < P by omega), Bool.true_and]
      exact this P (Nat.le_refl _)
    | succ m ih =>
      intro hm
      rw [show P + (m + 1) = (P + m) + 1 by omega, zsm, ih (by omega), decide_eq_false (by omega), Bool.false_and]
      rfl
  have := h2 (6 - P) (by omega)
  rw [show P + (6 - P) = 6 by omega] at this
  exact this
