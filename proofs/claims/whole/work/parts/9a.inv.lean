/-! ===== what holds between two calls ===== -/
def pQ (r0 pw rm pm : Nat → Int32) : Prop := pR r0 pw rm pm ∨ (r0 15 = -1 ∧ rm 30 = -1)
def Iv (x0 : Nat → Int32) (tp : Nat → Int32) (tb : Nat → Int32) (tw : Nat → Int64) (rp : Nat → Int32) (cn : Nat → Int64) (pn : Nat → Int64) (bs : Nat → Int32) (far : Nat → Int32) (f : Nat → Int32) (pl : Nat → Int32) (bu : Nat → Int32) (le : Nat → Int32) (di : Nat → Int32) (wa : Nat → Int32) (lf : Nat → Int32) (ly : Nat → Int32) (pr : Nat → Int32) (sn : Nat → Int32) (pa : Nat → Int32) (ot : Nat → Int32) (nu : Nat → Int32) (hi : Nat → Int32) (bk : Nat → Int32) (pg : Nat → Int32) (ch : Nat → Int32) (l0 : Nat → Int32) (l1 : Nat → Int32) (pw : Nat → Int32) (rm : Nat → Int32) (mt : Nat → Int32) (s : Nat → Int32) (nm : Nat → Int64) (rs : Nat → Int64) (ap : Nat → Int32) (u : Nat → Int32) (pm : Nat → Int32) (hr : Nat → Int32) (tx : Nat → Int32) (ta : Nat → Int32) (im : Nat → Int32) (nk : Nat → Int64) (ak : Nat → Int32) (g gi : zM) : Prop := ∃ (n : Nat) (b : Nat → Nat) (C S P : Nat) (B : Nat → Nat) (nC nP : Nat → List Nat) (A : aD) (n0 : Nat) (hs : Nat → aD), tF n b tp tb rm mt ∧ wE tw rs ∧ x0 16 = rm 15 ∧ wS C S P B nC nP A rp cn pn bs far f pl bu le di wa lf ly pr sn pa ot nu s nm ∧ (∀ c d, c < C → d < C → p_far (nI 1000000) B c d (ap (8 * c + d))) ∧ qHv C P n0 hs ∧ hRx P n0 hs hi g ∧ hRm P n0 hs (rm 24) u ∧ cR x0 rm ∧ bR x0 rm ∧ aR x0 rm ∧ pQ x0 pw rm pm ∧ kR pg ch rm hr ∧ lR l0 l1 rm tx ∧ tRl bk ta rm ∧ iR gi im nk ak
def Inv (M : zM) : Prop := Iv (M.1 0) (M.1 1) (M.1 2) (M.2 4) (M.1 5) (M.2 6) (M.2 7) (M.1 8) (M.1 9) (M.1 15) (M.1 16) (M.1 17) (M.1 18) (M.1 19) (M.1 20) (M.1 21) (M.1 22) (M.1 23) (M.1 35) (M.1 36) (M.1 37) (M.1 38) (M.1 47) (M.1 174) (M.1 179) (M.1 181) (M.1 183) (M.1 184) (M.1 185) (M.1 186) (M.1 187) (M.1 188) (M.2 191) (M.2 192) (M.1 193) (M.1 195) (M.1 197) (M.1 199) (M.1 200) (M.1 201) (M.1 204) (M.2 205) (M.1 206) M M
theorem hRx_cong {P n : Nat} {hs : Nat → aD} {hi : Nat → Int32} {g g' : zM} (e : zeq g' 49 129 g) (h : hRx P n hs hi g) : hRx P n hs hi g' := by
  obtain ⟨nx, h1, h2, h3, h4⟩ := h
  refine ⟨nx, h1, h2, h3, fun j hj => ?_⟩
  have h5 := h4 j hj
  have hk : (nx + 8 - n + j) % 8 < 8 := Nat.mod_lt _ (by omega)
  generalize (nx + 8 - n + j) % 8 = k at h5 hk ⊢
  have e' : ∀ p, 49 ≤ p → p < 129 → g'.1 p = g.1 p := fun p h1 h2 => (e p (by simp only [Bool.and_eq_true, Nat.ble_eq, Nat.blt_eq]; exact ⟨h1, h2⟩)).1
  unfold gD at h5 ⊢
  rw [e' (49 + 10 * k) (by omega) (by omega), e' (50 + 10 * k) (by omega) (by omega), e' (51 + 10 * k) (by omega) (by omega), e' (52 + 10 * k) (by omega) (by omega), e' (53 + 10 * k) (by omega) (by omega), e' (54 + 10 * k) (by omega) (by omega), e' (55 + 10 * k) (by omega) (by omega), e' (56 + 10 * k) (by omega) (by omega), e' (57 + 10 * k) (by omega) (by omega)]
  exact h5
theorem iR_cong {g g' : zM} {im : Nat → Int32} {nk : Nat → Int64} {ak : Nat → Int32} (e : zeq g' 130 174 g) (h : iR g im nk ak) : iR g' im nk ak := by
  unfold iR at h ⊢
  rw [(e 130 rfl).1, (e 131 rfl).1, (e 132 rfl).2, (e 133 rfl).2, (e 134 rfl).1, (e 135 rfl).1, (e 136 rfl).1, (e 137 rfl).1, (e 138 rfl).1, (e 139 rfl).1, (e 140 rfl).1, (e 141 rfl).1, (e 142 rfl).1, (e 143 rfl).1, (e 144 rfl).1, (e 146 rfl).1, (e 147 rfl).1, (e 148 rfl).1, (e 149 rfl).1, (e 152 rfl).1, (e 153 rfl).1, (e 154 rfl).2, (e 155 rfl).2, (e 156 rfl).1, (e 157 rfl).1, (e 158 rfl).1, (e 159 rfl).1, (e 160 rfl).1, (e 161 rfl).1, (e 162 rfl).1, (e 163 rfl).1, (e 164 rfl).1, (e 165 rfl).1, (e 166 rfl).1, (e 168 rfl).1, (e 169 rfl).1, (e 170 rfl).1, (e 171 rfl).1]
  exact h
theorem zeq_r {M : zM} {lo hi : Nat} : zeq M lo hi M := fun _ _ => ⟨rfl, rfl⟩
section IV
variable {n C S P n0 : Nat} {b B : Nat → Nat} {nC nP : Nat → List Nat} {A A' : aD} {hs : Nat → aD} {x0 tp tb rp bs far f pl bu le di wa lf ly pr sn pa ot nu hi bk pg ch l0 l1 pw rm mt s ap u pm hr tx ta im ak x0' rm' s' f' pl' bu' le' di' wa' lf' ly' pr' : Nat → Int32} {tw cn pn nm rs nk : Nat → Int64}
theorem w_G (h : wS C S P B nC nP A rp cn pn bs far f pl bu le di wa lf ly pr sn pa ot nu s nm) : gX C P B rp bs far := ⟨h.1.1.1, h.1.1.2.2.1, h.1.1.2.2.2.1, h.1.1.2.2.2.2.2.2.2.1, h.1.1.2.2.2.2.2.2.1, h.1.2⟩
theorem w_M (h : wS C S P B nC nP A rp cn pn bs far f pl bu le di wa lf ly pr sn pa ot nu s nm) (k : ∀ c d, c < C → d < C → p_far (nI 1000000) B c d (ap (8 * c + d))) : gM C P B s ap := ⟨h.2.1.2.2.1, h.2.1.2.2.2.1, k⟩
theorem w_D (h : wS C S P B nC nP A rp cn pn bs far f pl bu le di wa lf ly pr sn pa ot nu s nm) : dR C P A f pl bu le di wa lf ly pr s s := ⟨h.2.2.1, h.2.2.2.1, sK_rfl, h.2.2.2.2.1, h.2.2.2.2.2.1⟩
theorem w_act (h : wS C S P B nC nP A rp cn pn bs far f pl bu le di wa lf ly pr sn pa ot nu s nm) (D : dR C P A' f' pl' bu' le' di' wa' lf' ly' pr' s s') : wS C S P B nC nP A' rp cn pn bs far f' pl' bu' le' di' wa' lf' ly' pr' sn pa ot nu s' nm := by
  obtain ⟨h1, ⟨t1, t2, t3, t4, t5, t6⟩, h3, h4, h5, h6, h7⟩ := h
  obtain ⟨d1, d2, d3, d4, d5⟩ := D
  refine ⟨h1, ⟨by rw [d3 0 (by omega)]; exact t1, by rw [d3 1 (by omega)]; exact t2, by rw [d3 2 (by omega)]; exact t3, fun c hc => by rw [d3 (3 + c) (by omega)]; exact t4 c hc, t5, t6⟩, d1, d2, d4, d5, ?_⟩
  rcases h7 with ⟨q1, q2⟩ | ⟨cd, q1, ⟨q2, q3⟩, q4⟩
  · exact Or.inl ⟨q1, by rw [d3 216 (by omega)]; exact q2⟩
  · exact Or.inr ⟨cd, q1, ⟨by rw [d3 216 (by omega)]; exact q2, cdM_cong (fun i _ => d3 (217 + i) (by omega)) q3⟩, q4⟩
theorem tF_rm (h : tF n b tp tb rm mt) (e : rm' 2 = rm 2) : tF n b tp tb rm' mt := ⟨h.1, h.2.1, e.trans h.2.2⟩
theorem cR_e (h : cR x0 rm) (e0 : x0' 17 = x0 17) (e1 : rm' 25 = rm 25) (e2 : rm' 26 = rm 26) : cR x0' rm' := by unfold cR at h ⊢; rw [e0, e1, e2]; exact h
theorem bR_e (h : bR x0 rm) (e0 : x0' 18 = x0 18) (e1 : rm' 31 = rm 31) (e2 : rm' 32 = rm 32) : bR x0' rm' := by unfold bR at h ⊢; rw [e0, e1, e2]; exact h
theorem aR_e (h : aR x0 rm) (e0 : x0' 19 = x0 19) (e1 : rm' 27 = rm 27) (e2 : rm' 28 = rm 28) : aR x0' rm' := by unfold aR at h ⊢; rw [e0, e1, e2]; exact h
theorem pQ_e (h : pQ x0 pw rm pm) (e0 : x0' 15 = x0 15) (e1 : rm' 30 = rm 30) : pQ x0' pw rm' pm := by unfold pQ pR at h ⊢; rw [e0, e1]; exact h
theorem kR_e (h : kR pg ch rm hr) (e1 : rm' 35 = rm 35) (e2 : rm' 36 = rm 36) : kR pg ch rm' hr := by unfold kR at h ⊢; rw [e1, e2]; exact h
theorem tRl_e (h : tRl bk ta rm) (e1 : rm' 42 = rm 42) : tRl bk ta rm' := by unfold tRl at h ⊢; rw [e1]; exact h
theorem hRm_e (h : hRm P n0 hs (rm 24) u) (e1 : rm' 24 = rm 24) : hRm P n0 hs (rm' 24) u := by rw [e1]; exact h
theorem tF_0 (h : tF n b tp tb rm mt) (e : rm' 2 = 0) : tF 0 b (zup tp 1 0) tb rm' mt := ⟨⟨by omega, zup_s, fun i hi => absurd hi (by omega)⟩, fun i hi => absurd hi (by omega), e⟩
end IV
section BP
variable {C P : Nat} {B : Nat → Nat} {A : aD} {rp bs far f pl bu le di wa lf ly pr s ap rm r0 pw pm : Nat → Int32} {a1 a2 : Int32}
theorem c_path2 (G : gX C P B rp bs far) (M : gM C P B s ap) (r6 : rp 6 = nI P) (s0 : s 0 = nI C) (hV : dV C P A) (hx : xPl P A pl) (h : sD P A s) (hR : pQ r0 pw rm pm) :
    ∃ v r0' pw' rm' pm', fX_path r0 rp bs far pl pw a1 a2 = some (v, r0', pw') ∧ fM_path rm s ap pm a1 a2 = some (v, rm', pm') ∧ rm' 0 = 0 ∧ pQ r0' pw' rm' pm' ∧ (∀ j, j ≠ 15 → r0' j = r0 j) ∧ ∀ j, j ≠ 0 → j ≠ 30 → rm' j = rm j := by
  obtain ⟨hC, hP, hr, hB, hb, hf⟩ := id G
  have hno : (zup rm 0 0) 0 = 0 ∧ pQ r0 pw (zup rm 0 0) pm ∧ (∀ j, j ≠ 15 → r0 j = r0 j) ∧ ∀ j, j ≠ 0 → j ≠ 30 → zup rm 0 0 j = rm j := ⟨zup_s, by unfold pQ pR; rw [zup_n (show (30 : Nat) ≠ 0 by omega)]; exact hR, fun _ _ => rfl, fun j h _ => zup_n h⟩
  unfold fX_path fM_path
  rw [p_hasPerson hP r6, zlet_e, p_isPerson hP M.1, p_isCorner hC s0, Option.bind_some, Option.bind_some]
  by_cases h1 : p_has P a1 = true
  · obtain ⟨q, hq, rfl⟩ := p_has_ex (by omega) h1
    have hw := hV.1 q 0 hq (by omega)
    rw [if_pos h1, if_pos h1, x_place hx hP hq, Option.bind_some, m_wasQ h hP hq, Option.bind_some]
    unfold fPl_farFrom
    rw [p_hasCorner hC hr, p_hasCorner hC hr, p_has_y (by omega) hw, if_pos rfl]
    by_cases h2 : p_has C a2 = true
    · obtain ⟨d, hd, rfl⟩ := p_has_ex (by omega) h2
      rw [if_pos h2, if_pos h2, z_mul8, zrd_n (by omega) (by omega), Option.bind_some, Option.bind_some, z_8mul, zrd_n (by omega) (by omega), Option.bind_some]
      rcases hf _ _ hw hd with ⟨k, k1, k2, k3⟩ | ⟨k2, k3⟩
      · have hm : ap (8 * dW A 0 q + d) = nI k := by
          rcases M.2.2 _ _ hw hd with ⟨k', g1, g2, g3⟩ | ⟨g2, g3⟩
          · rw [g2, p_D_uni g3 k3]
          · exact absurd k3.1 (g3 k)
        obtain ⟨pw', x1, x2⟩ := x_pathL (pw := pw) G hw hd k1
        obtain ⟨pm', y1, y2⟩ := m_pathL (pm := pm) (r := zup (zup rm 0 0) 30 (nI k)) hC hB M hw hd k1 ⟨k, k3⟩ zup_s
        rw [k2, hm, if_neg (nI_nm1 (by omega)), if_pos (show nI k < 1000000 from nI_lt (b := 1000000) (by omega) (by omega)), x1, Option.bind_some, zlet_e, Option.bind_some, z_8mul, zrd_n (by omega) (by omega), hm, Option.bind_some, zlet_e, y1, Option.bind_some, zup_s]
        refine ⟨_, _, _, _, _, rfl, rfl, ?_, Or.inl ⟨k, by omega, zup_s, zup_s, fun i hi => by rw [x2 i hi, y2 i hi]⟩, fun j g => zup_n g, fun j g1 g2 => ?_⟩
        · rw [zup_n (by omega), zup_s]
        · rw [zup_n g2, zup_n g1]
      · have hm : ap (8 * dW A 0 q + d) = nI 1000000 := by
          rcases M.2.2 _ _ hw hd with ⟨k', g1, g2, g3⟩ | ⟨g2, g3⟩
          · exact absurd g3.1 (k3 k')
          · exact g2
        rw [k2, hm, if_pos rfl, if_neg (show ¬ nI 1000000 < 1000000 by decide)]
        exact ⟨_, _, _, _, _, rfl, rfl, hno⟩
    · rw [if_neg h2, if_neg h2, Option.bind_some, if_pos rfl]
      exact ⟨_, _, _, _, _, rfl, rfl, hno⟩
  · rw [if_neg h1, if_neg h1]
    exact ⟨_, _, _, _, _, rfl, rfl, hno⟩
theorem c_pathAt2 (hR : pQ r0 pw rm pm) : ∃ v, fX_pathAt r0 pw a1 = some v ∧ fM_pathAt rm pm a1 = some (v, zup rm 0 0) := by
  rcases hR with hR | ⟨h1, h2⟩
  · exact c_pathAt hR
  · unfold fX_pathAt fM_pathAt fM_isIn
    rw [zlet_e, zup_n (show (30 : Nat) ≠ 0 by omega), h1, h2]
    by_cases e0 : a1 < 0
    · rw [if_pos e0, if_pos e0, if_neg (show ¬ false = true by decide)]
      exact ⟨_, rfl, rfl⟩
    · obtain ⟨i, hi, rfl⟩ := nI_of (x := a1) e0
      rw [if_neg e0, if_neg e0, if_pos (show (-1 : Int32) ≤ nI i from Int32.le_trans (by decide) (nI_pos' hi)), if_pos (show (-1 : Int32) - 1 < nI i from Int32.lt_of_lt_of_le (by decide) (nI_pos' hi)), if_neg (show ¬ false = true by decide)]
      exact ⟨_, rfl, rfl⟩
end BP
