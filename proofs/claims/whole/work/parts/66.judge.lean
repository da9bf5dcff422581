/-! ===== a book: its lines done, one after another ===== -/
def gX (C P : Nat) (B : Nat → Nat) (rp bs far : Nat → Int32) : Prop := C ≤ 8 ∧ P ≤ 6 ∧ rp 4 = nI C ∧ p_BC B C ∧ (∀ c, c < 8 → bs c = nI (B c)) ∧ ∀ c d, c < C → d < C → p_far (-1) B c d (far (8 * c + d))
def gM (C P : Nat) (B : Nat → Nat) (s ap : Nat → Int32) : Prop := s 2 = nI P ∧ (∀ c, c < 8 → s (3 + c) = nI (B c)) ∧ ∀ c d, c < C → d < C → p_far (nI 1000000) B c d (ap (8 * c + d))
theorem gM_K {C P : Nat} {B : Nat → Nat} {s s' ap : Nat → Int32} (h : gM C P B s ap) (k : sK s s') : gM C P B s' ap := ⟨(k 2 (by omega)).trans h.1, fun c hc => (k (3 + c) (by omega)).trans (h.2.1 c hc), h.2.2⟩
theorem m_goesOn {C P : Nat} {A : aD} {B : Nat → Nat} {rp bs far s ap to : Nat → Int32} (G : gX C P B rp bs far) (M : gM C P B s ap) (hV : dV C P A) (h : sD P A s) (hMi : dMi A ≤ 400) {n : Nat} (hn : n ≤ 60) :
    ∃ s' to', fM_goesOn s ap to (nI n) = some (nI (min n (400 - dMi A)), s', to') ∧ sD P (aMinN B P (min n (400 - dMi A)) A) s' ∧ sK s s' := by
  obtain ⟨hC, hP, hr, hB, hb, hf⟩ := G
  have key : ∃ q, zLP (fun t : (Nat → Int32) × (Nat → Int32) × Int32 => fM_goesOn_L2 ap (nI n) t.1 t.2.1 t.2.2) (s, to, 0) = some q ∧ (q.2.2 = nI (min n (400 - dMi A)) ∧ sD P (aMinN B P (min n (400 - dMi A)) A) q.1 ∧ sK s q.1) := by
    refine zLP_inv (fun j t => t.2.2 = nI j ∧ sD P (aMinN B P j A) t.1 ∧ sK s t.1) _ (min n (400 - dMi A)) ?_ ?_ ?_
    · exact ⟨rfl, h, sK_rfl⟩
    · rintro k ⟨t1, t2, t3⟩ hk ⟨e1, e2, e3⟩
      dsimp only at e1 e2 e3
      left
      have M' := gM_K M e3
      have hMk := aMinN_Mi (P := P) (A := A) (B := B) k
      obtain ⟨s', to', g1, g2, g3⟩ := m_minute (to := t2) hC hP M'.1 hB M'.2.1 M'.2.2 (aMinN_V hC hB hP hV k) e2
      refine ⟨(s', to', nI (k + 1)), ?_, rfl, g2, sK_trans e3 g3⟩
      show fM_goesOn_L2 ap (nI n) t1 t2 t3 = _
      unfold fM_goesOn_L2
      rw [e1, if_neg (show ¬ nI n ≤ nI k from nI_ge (by omega) (by omega)), e2.1, hMk, if_neg (show ¬ (400 : Int32) ≤ nI (dMi A + k) from nI_ge (b := 400) (by omega) (by omega)), g1, Option.bind_some, nI_1]; rfl
    · rintro ⟨t1, t2, t3⟩ ⟨e1, e2, e3⟩
      dsimp only at e1 e2 e3
      refine ⟨(t1, t2, t3), ?_, e1, e2, e3⟩
      show fM_goesOn_L2 ap (nI n) t1 t2 t3 = _
      unfold fM_goesOn_L2
      have hMk := aMinN_Mi (P := P) (A := A) (B := B) (min n (400 - dMi A))
      by_cases e : n ≤ 400 - dMi A
      · rw [e1, if_pos (show nI n ≤ nI (min n (400 - dMi A)) from nI_le (by omega) (by omega))]
      · rw [e1, if_neg (show ¬ nI n ≤ nI (min n (400 - dMi A)) from nI_ge (by omega) (by omega)), e2.1, hMk, if_pos (show (400 : Int32) ≤ nI (dMi A + min n (400 - dMi A)) from nI_le (a := 400) (by omega) (by omega))]
  obtain ⟨⟨q1, q2, q3⟩, k1, k2, k3, k4⟩ := key
  dsimp only at k2 k3 k4
  refine ⟨q1, q2, ?_, k3, k4⟩
  unfold fM_goesOn
  rw [k1, Option.bind_some, ← k2]
def bM (c : aB) (v1 v2 v3 v4 : Int32) : Prop := v1 = nI c.1 ∧ v2 = nI c.2.1 ∧ (c.1 = 0 ∨ c.1 = 3 → v3 = nI c.2.2.1) ∧ (c.1 = 3 → v4 = nI c.2.2.2)
theorem ln_at {C P : Nat} : ∀ {ln : List aB} {ac at_ ot nu rd : Nat → Int32}, lnX ln ac at_ ot nu → lnM ln rd → lnO C P ln → ∀ j, j < ln.length → ∃ c, bOK C P c ∧ bX c (ac j) (at_ j) (ot j) (nu j) ∧ bM c (rd (4 * j)) (rd (4 * j + 1)) (rd (4 * j + 2)) (rd (4 * j + 3)) := by
  intro ln
  induction ln with
  | nil => intro ac at_ ot nu rd _ _ _ j hj; simp at hj
  | cons c t ih =>
    intro ac at_ ot nu rd hx hm ho j hj
    rw [List.length_cons] at hj
    by_cases e : j = t.length
    · subst e
      exact ⟨c, ho c (List.mem_cons_self ..), hx.1, hm.1⟩
    · exact ih hx.2 hm.2 (fun d hd => ho d (List.mem_cons_of_mem _ hd)) j (by omega)
theorem sD_noL {P : Nat} {A : aD} {s : Nat → Int32} {q : Nat} (hq : dA A q = 0) (h : sD P (aLeave q A) s) : sD P A s := by
  obtain ⟨x1, x2, x3, x4, x5, x6, x7, x8, x9, x10⟩ := h
  have hA : ∀ i, zup (dA A) q 0 i = dA A i := fun i => by
    by_cases e : i = q
    · rw [e, zup_s, hq]
    · rw [zup_n e]
  refine ⟨x1, x2, x3, x4, fun i hi => ?_, fun i hi h0 => ?_, x7, x8, x9, x10⟩
  · exact (x5 i hi).trans (congrArg nI (hA i))
  · have e : i ≠ q := fun e => h0 (by rw [e]; exact hq)
    have := x6 i hi (by show zup (dA A) q 0 i ≠ 0; rw [hA]; exact h0)
    exact this.trans (congrArg nI (zup_n e))
