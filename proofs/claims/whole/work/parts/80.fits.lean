/-! ===== who fits ===== -/
def fitB (b : Nat → Nat) (A : aD) (q : Nat) : Nat → Bool
  | 0 => true
  | i + 1 => fitB b A q i && (decide (b i = 255) || decide (b i = dW A i q))
theorem z_full : ∀ P, P ≤ 6 → ((1 : Int32) <<< (nI P &&& 31)) - 1 = nI (zset (fun _ => true) P) := by decide
theorem zset_and2 (f g : Nat → Bool) (n : Nat) : zset f n &&& zset g n = zset (fun q => f q && g q) n := by
  apply Nat.eq_of_testBit_eq
  intro d
  rw [Nat.testBit_and, zset_tb, zset_tb, zset_tb]
  cases decide (d < n) <;> simp
/-- a tape that fits the town: every byte a corner, or 255 -/
def fitOK (C : Nat) (b : Nat → Nat) (n : Nat) : Prop := ∀ i, i < n → b i = 255 ∨ b i < C
noncomputable abbrev wBX (tp tb rp pl : Nat → Int32) (n : Nat) : Int32 × Int32 → Option ((Int32 × Int32) ⊕ Int32) := fun t => fX_whoFitsTape_L35 tp tb rp pl (nI n) t.1 t.2
section FI
variable {n C P : Nat} {b : Nat → Nat} {A : aD} {tp tb rp pl s mt y2 : Nat → Int32}
theorem p_has_b {C v : Nat} (hC : C ≤ 8) (hv : v < 256) : p_has C (nI v) = decide (v < C) := p_has_n (by omega) (by omega)
theorem x_fitL (hX : tpX n b tp tb) (hn : n ≤ 6) (hC : C ≤ 8) (hP : P ≤ 6) (r4 : rp 4 = nI C) (hV : dV C P A) (hx : xPl P A pl) :
    ∀ f i, f + i = n → zLP (wBX tp tb rp pl n) (nI (zset (fun q => fitB b A q i) P), nI i) = some (@ite _ (∀ j, i ≤ j → j < n → b j = 255 ∨ b j < C) (Classical.propDecidable _) (nI (zset (fun q => fitB b A q n) P)) (-1)) := by
  intro f
  induction f with
  | zero =>
    intro i hi
    have : i = n := by omega
    subst this
    rw [if_pos (fun j h1 h2 => absurd h2 (by omega))]
    refine zLP_out ?_
    show fX_whoFitsTape_L35 tp tb rp pl (nI i) _ (nI i) = _
    unfold fX_whoFitsTape_L35
    rw [if_pos (nI_le (Nat.le_refl _) (by omega))]
  | succ f ih =>
    intro i hi
    have hb := (hX.2.2 i (by omega)).2
    by_cases e : b i = 255
    · have hstep : wBX tp tb rp pl n (nI (zset (fun q => fitB b A q i) P), nI i) = some (.inl (nI (zset (fun q => fitB b A q (i + 1)) P), nI (i + 1))) := by
        show fX_whoFitsTape_L35 tp tb rp pl (nI n) (nI (zset (fun q => fitB b A q i) P)) (nI i) = _
        unfold fX_whoFitsTape_L35
        rw [if_neg (nI_ge (by omega) (by omega)), x_byte hX (by omega), Option.bind_some, zlet_e, if_pos (show nI (b i) = 255 by rw [e]; rfl), if_pos (show nI (b i) = 255 by rw [e]; rfl), zlet_e, nI_1, zset_ext (f := fun q => fitB b A q (i + 1)) (g := fun q => fitB b A q i) (fun q hq => by show (fitB b A q i && _) = _; rw [decide_eq_true e, Bool.true_or, Bool.and_true])]
      refine (zLP_go hstep).trans ((ih (i + 1) (by omega)).trans ?_)
      congr 1
      by_cases hh : ∀ j, i ≤ j → j < n → b j = 255 ∨ b j < C
      · rw [if_pos hh, if_pos (fun j h1 h2 => hh j (by omega) h2)]
      · rw [if_neg hh, if_neg (fun g => hh (fun j h1 h2 => by
          by_cases ej : j = i
          · rw [ej]; exact Or.inl e
          · exact g j (by omega) h2))]
    · by_cases ec : b i < C
      · have hne : ¬ nI (b i) = 255 := fun h => e ((nI_k255 (by omega)).mp h)
        have hstep : wBX tp tb rp pl n (nI (zset (fun q => fitB b A q i) P), nI i) = some (.inl (nI (zset (fun q => fitB b A q (i + 1)) P), nI (i + 1))) := by
          show fX_whoFitsTape_L35 tp tb rp pl (nI n) (nI (zset (fun q => fitB b A q i) P)) (nI i) = _
          unfold fX_whoFitsTape_L35
          rw [if_neg (nI_ge (by omega) (by omega)), x_byte hX (by omega), Option.bind_some, zlet_e, if_neg hne, if_neg hne, p_hasCorner hC r4, p_has_b hC hb, decide_eq_true ec, if_pos rfl, x_whoWas hx hP (by omega) (by omega) (fun q hq => Nat.lt_of_lt_of_le (hV.1 q i hq (by omega)) hC), Option.bind_some, zlet_e, zlet_e, nI_1, z_and, zset_and2, zset_ext (f := fun q => fitB b A q (i + 1)) (g := fun q => fitB b A q i && decide (dW A i q = b i)) (fun q hq => by show (fitB b A q i && _) = _; rw [decide_eq_false e, Bool.false_or, decide_eq_decide.mpr (show b i = dW A i q ↔ dW A i q = b i from eq_comm)])]
        refine (zLP_go hstep).trans ((ih (i + 1) (by omega)).trans ?_)
        congr 1
        by_cases hh : ∀ j, i ≤ j → j < n → b j = 255 ∨ b j < C
        · rw [if_pos hh, if_pos (fun j h1 h2 => hh j (by omega) h2)]
        · rw [if_neg hh, if_neg (fun g => hh (fun j h1 h2 => by
            by_cases ej : j = i
            · rw [ej]; exact Or.inr ec
            · exact g j (by omega) h2))]
      · have hne : ¬ nI (b i) = 255 := fun h => e ((nI_k255 (by omega)).mp h)
        rw [if_neg (fun g => by rcases g i (Nat.le_refl _) (by omega) with h | h; exact e h; exact ec h)]
        refine zLP_out ?_
        show fX_whoFitsTape_L35 tp tb rp pl (nI n) _ (nI i) = _
        unfold fX_whoFitsTape_L35
        rw [if_neg (nI_ge (by omega) (by omega)), x_byte hX (by omega), Option.bind_some, zlet_e, if_neg hne, p_hasCorner hC r4, p_has_b hC hb, decide_eq_false ec, if_neg (by decide)]
end FI
