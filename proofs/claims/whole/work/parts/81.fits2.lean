/-! ===== who fits: the reference ===== -/
noncomputable abbrev wBM (mt s y2 : Nat → Int32) : Int32 → Option (Int32 ⊕ (Unit ⊕ (Int32 × (Nat → Int32)))) := fun t => fM_fits_L29 mt s y2 t
noncomputable abbrev wBF (y2 mt s : Nat → Int32) (q : Nat) : Int32 × Int32 → Option ((Int32 × Int32) ⊕ Int32) := fun t => fM_isFit_L4 y2 mt s (nI q) t.1 t.2
section FM
variable {n C P : Nat} {b : Nat → Nat} {A : aD} {s mt y2 : Nat → Int32}
theorem m_octet (hT : tpM n b mt) (hn : n ≤ 940) {i : Nat} (hi : i < n) : fM_octet mt (nI i) = some (nI (b i)) := by
  unfold fM_octet
  rw [zrd_n (by omega) (by omega), Option.bind_some, hT i hi]
theorem m_okL (hT : tpM n b mt) (hb : ∀ i, i < n → b i < 256) (hn : n ≤ 6) (hC : C ≤ 8) (s0 : s 0 = nI C) (y3 : y2 3 = nI n) :
    ∀ f i, f + i = n → zLP (wBM mt s y2) (nI i) = some (@ite _ (∀ j, i ≤ j → j < n → b j = 255 ∨ b j < C) (Classical.propDecidable _) (Sum.inl ()) (Sum.inr (-1, y2))) := by
  intro f
  induction f with
  | zero =>
    intro i hi
    have : i = n := by omega
    subst this
    rw [if_pos (fun j h1 h2 => absurd h2 (by omega))]
    refine zLP_out ?_
    show fM_fits_L29 mt s y2 (nI i) = _
    unfold fM_fits_L29
    rw [y3, if_pos (nI_le (Nat.le_refl _) (by omega))]
  | succ f ih =>
    intro i hi
    have hbi := hb i (by omega)
    have ho := m_octet (i := i) hT (by omega) (by omega)
    by_cases hc : b i = 255 ∨ b i < C
    · have hstep : wBM mt s y2 (nI i) = some (.inl (nI (i + 1))) := by
        show fM_fits_L29 mt s y2 (nI i) = _
        unfold fM_fits_L29
        rw [y3, if_neg (nI_ge (by omega) (by omega)), ho, Option.bind_some]
        by_cases e : b i = 255
        · rw [if_pos (show nI (b i) = 255 by rw [e]; rfl), zlet_e, nI_1]
        · rw [if_neg (fun h => e ((nI_k255 (by omega)).mp h)), Option.bind_some, p_isCorner hC s0, Option.bind_some, p_has_b hC hbi, decide_eq_true (show b i < C by omega), if_pos rfl, zlet_e, nI_1]
      refine (zLP_go hstep).trans ((ih (i + 1) (by omega)).trans ?_)
      congr 1
      by_cases hh : ∀ j, i ≤ j → j < n → b j = 255 ∨ b j < C
      · rw [if_pos hh, if_pos (fun j h1 h2 => hh j (by omega) h2)]
      · rw [if_neg hh, if_neg (fun g => hh (fun j h1 h2 => by
          by_cases ej : j = i
          · rw [ej]; exact hc
          · exact g j (by omega) h2))]
    · rw [if_neg (fun g => hc (g i (Nat.le_refl _) (by omega)))]
      refine zLP_out ?_
      show fM_fits_L29 mt s y2 (nI i) = _
      unfold fM_fits_L29
      rw [y3, if_neg (nI_ge (by omega) (by omega)), ho, Option.bind_some, if_neg (fun h => hc (Or.inl ((nI_k255 (by omega)).mp h))), Option.bind_some, p_isCorner hC s0, Option.bind_some, p_has_b hC hbi, decide_eq_false (show ¬ b i < C from fun h => hc (Or.inr h)), if_neg (by decide)]
theorem m_isFit (hT : tpM n b mt) (hb : ∀ i, i < n → b i < 256) (hn : n ≤ 6) (hC : C ≤ 8) (hP : P ≤ 6) (y3 : y2 3 = nI n) (hV : dV C P A) (h : sD P A s) {q : Nat} (hq : q < P) : fM_isFit y2 mt s (nI q) = some (fitB b A q n) := by
  have hL : zLP (wBF y2 mt s q) (1, 0) = some (zb (fitB b A q n)) := by
    refine zLP_cnt (fun i => (zb (fitB b A q i), nI i)) n rfl ?_ ?_
    · intro i hi
      have hbi := hb i hi
      have hw := hV.1 q i hq (by omega)
      show fM_isFit_L4 y2 mt s (nI q) (zb (fitB b A q i)) (nI i) = some (.inl (zb (fitB b A q i && (decide (b i = 255) || decide (b i = dW A i q))), nI (i + 1)))
      unfold fM_isFit_L4
      rw [y3, if_neg (nI_ge hi (by omega))]
      cases fitB b A q i with
      | false => rw [if_pos (show zb false = 0 from rfl), zlet_e, nI_1]; rfl
      | true =>
        rw [if_neg (show ¬ zb true = 0 by decide), m_octet hT (by omega) hi, Option.bind_some]
        by_cases e : b i = 255
        · rw [if_pos (show nI (b i) = 255 by rw [e]; rfl), zlet_e, nI_1, decide_eq_true e]; rfl
        · rw [if_neg (fun h => e ((nI_k255 (by omega)).mp h)), Option.bind_some, show (6 : Int32) * nI i = nI (6 * i) from nI_mul 6 i, show (91 : Int32) + nI (6 * i) = nI (91 + 6 * i) from nI_add 91 (6 * i), nI_add, zrd_n (by omega) (by omega), h.2.2.1 q i hq (by omega), Option.bind_some, zlet_e, nI_1, decide_eq_false e]
          by_cases e2 : b i = dW A i q
          · rw [if_pos (by rw [e2]), decide_eq_true e2]; rfl
          · rw [if_neg (fun h => e2 ((nI_eq (by omega) (by omega)).mp h)), decide_eq_false e2]; rfl
    · show fM_isFit_L4 y2 mt s (nI q) (zb (fitB b A q n)) (nI n) = _
      unfold fM_isFit_L4
      rw [y3, if_pos (nI_le (Nat.le_refl _) (by omega))]
  unfold fM_isFit
  have hL' : zLP (fun t : Int32 × Int32 => fM_isFit_L4 y2 mt s (nI q) t.1 t.2) (1, 0) = some (zb (fitB b A q n)) := hL
  rw [hL', Option.bind_some]
  cases fitB b A q n with
  | false => rfl
  | true => rfl
theorem m_fitL (hT : tpM n b mt) (hb : ∀ i, i < n → b i < 256) (hn : n ≤ 6) (hC : C ≤ 8) (hP : P ≤ 6) (y3 : y2 3 = nI n) (s2 : s 2 = nI P) (hV : dV C P A) (h : sD P A s) : zLP (fun t : Int32 × Int32 => fM_fits_L72 mt s y2 t.1 t.2) (0, 0) = some (nI (zset (fun q => fitB b A q n) P)) := by
  refine zLP_cnt (fun q => (nI (zset (fun q => fitB b A q n) q), nI q)) P rfl ?_ ?_
  · intro q hq
    show fM_fits_L72 mt s y2 (nI _) (nI q) = _
    unfold fM_fits_L72
    rw [s2, if_neg (nI_ge hq (by omega)), m_isFit hT hb hn hC hP y3 hV h hq, Option.bind_some, zlet_e, zlet_e, nI_1]
    by_cases e : fitB b A q n = true
    · rw [if_pos e, z_orb (by omega), zset_1 (f := fun q => fitB b A q n) e]
    · rw [if_neg e, z_or0, zset_0 (f := fun q => fitB b A q n) (by simpa using e)]
  · show fM_fits_L72 mt s y2 (nI _) (nI P) = _
    unfold fM_fits_L72
    rw [s2, if_pos (nI_le (Nat.le_refl _) (by omega))]
end FM
