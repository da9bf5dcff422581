/-! ===== mean ===== -/
theorem nI_div {a b : Nat} (ha : a < 2 ^ 31) (hb : b < 2 ^ 31) : nI a / nI b = nI (a / b) := by
  have hd : a / b < 2 ^ 31 := Nat.lt_of_le_of_lt (Nat.div_le_self a b) ha
  apply Int32.toInt_inj.mp
  rw [Int32.toInt_div, nI_toInt ha, nI_toInt hb, nI_toInt hd, ← Int.ofNat_tdiv]
  generalize a / b = m at hd ⊢
  apply Int.bmod_eq_of_le <;> omega
theorem nI_mod {a b : Nat} (ha : a < 2 ^ 31) (hb : b < 2 ^ 31) : nI a - nI a / nI b * nI b = nI (a % b) := by
  rw [nI_div ha hb, nI_mul, nI_sub (Nat.div_mul_le_self a b)]
  congr 1
  have := Nat.div_add_mod a b
  rw [Nat.mul_comm] at this
  omega
theorem m_gcd : ∀ (c a : Nat), a < 2 ^ 31 → c < 2 ^ 31 → zLP (fun t : Int32 × Int32 => fM_mean_L44 t.1 t.2) (nI a, nI c) = some (nI (Nat.gcd c a)) := by
  intro c
  induction c using Nat.strongRecOn with
  | ind c ih =>
    intro a ha hc
    by_cases e : c = 0
    · subst e
      rw [Nat.gcd_zero_left]
      refine zLP_out ?_
      show fM_mean_L44 (nI a) (nI 0) = _
      unfold fM_mean_L44
      rw [if_pos (show nI 0 = 0 from rfl)]
    · have hlt : a % c < c := Nat.mod_lt _ (by omega)
      have hstep : fM_mean_L44 (nI a) (nI c) = some (.inl (nI c, nI (a % c))) := by
        unfold fM_mean_L44
        rw [if_neg (nI_ne0 (by omega) hc), if_neg (nI_ne0 (by omega) hc), nI_mod ha hc, zlet_e]
      refine (zLP_go (body := fun t : Int32 × Int32 => fM_mean_L44 t.1 t.2) (s := (nI a, nI c)) hstep).trans ?_
      rw [ih (a % c) hlt c hc (by omega), Nat.gcd_rec c a]
theorem x_gcd {T P : Nat} (hT : T < 2 ^ 31) (h1 : 1 ≤ P) (h6 : P ≤ 6) : ∀ k, k ≤ 6 → (∀ x, k < x → x ≤ 6 → ¬ (x ∣ T ∧ x ∣ P)) → zLP (fun t : Int32 => fX_commonDivisor_L3 (nI T) (nI P) t) (nI k) = some (nI (Nat.gcd T P)) := by
  have g1 : Nat.gcd T P ∣ T := Nat.gcd_dvd_left T P
  have g2 : Nat.gcd T P ∣ P := Nat.gcd_dvd_right T P
  have g3 : Nat.gcd T P ≤ 6 := Nat.le_trans (Nat.le_of_dvd (by omega) g2) h6
  have g4 : 1 ≤ Nat.gcd T P := Nat.gcd_pos_of_pos_right T (by omega)
  intro k
  induction k with
  | zero =>
    intro _ hn
    exact absurd ⟨g1, g2⟩ (hn _ (by omega) g3)
  | succ k ih =>
    intro hk hn
    by_cases e1 : k = 0
    · subst e1
      have : Nat.gcd T P = 1 := by
        by_cases e : 1 < Nat.gcd T P
        · exact absurd ⟨g1, g2⟩ (hn _ (by omega) g3)
        · omega
      rw [this]
      refine zLP_out ?_
      show fX_commonDivisor_L3 (nI T) (nI P) (nI (0 + 1)) = _
      unfold fX_commonDivisor_L3
      rw [if_pos (by decide)]; rfl
    · have hle : ¬ nI (k + 1) ≤ 1 := nI_ge (b := k + 1) (a := 1) (by omega) (by omega)
      have hne : ¬ nI (k + 1) = 0 := nI_ne0 (by omega) (by omega)
      have hm : nI (k + 1) + (-1) = nI k := nI_m1p k
      have hTm : T % (k + 1) < k + 1 := Nat.mod_lt _ (by omega)
      have hPm : P % (k + 1) < k + 1 := Nat.mod_lt _ (by omega)
      by_cases d1 : T % (k + 1) = 0
      · by_cases d2 : P % (k + 1) = 0
        · have hd : (k + 1) ∣ Nat.gcd T P := Nat.dvd_gcd (Nat.dvd_of_mod_eq_zero d1) (Nat.dvd_of_mod_eq_zero d2)
          have hge := Nat.le_of_dvd (by omega) hd
          have : Nat.gcd T P = k + 1 := by
            by_cases e : k + 1 < Nat.gcd T P
            · exact absurd ⟨g1, g2⟩ (hn _ e g3)
            · omega
          rw [this]
          refine zLP_out ?_
          show fX_commonDivisor_L3 (nI T) (nI P) (nI (k + 1)) = _
          unfold fX_commonDivisor_L3
          rw [if_neg hle, if_neg hne, nI_mod hT (by omega), if_pos (by rw [d1]; rfl), if_neg hne, nI_mod (by omega) (by omega), if_pos (by rw [d2]; rfl)]
        · have hstep : fX_commonDivisor_L3 (nI T) (nI P) (nI (k + 1)) = some (.inl (nI k)) := by
            unfold fX_commonDivisor_L3
            rw [if_neg hle, if_neg hne, nI_mod hT (by omega), if_pos (by rw [d1]; rfl), if_neg hne, nI_mod (by omega) (by omega), if_neg (nI_ne0 (by omega) (by omega)), zlet_e, hm]
          refine (zLP_go (body := fun t : Int32 => fX_commonDivisor_L3 (nI T) (nI P) t) (s := nI (k + 1)) hstep).trans (ih (by omega) (fun x hx hx6 => ?_))
          by_cases ex : x = k + 1
          · rw [ex]; exact fun h => d2 (Nat.mod_eq_zero_of_dvd h.2)
          · exact hn x (by omega) hx6
      · have hstep : fX_commonDivisor_L3 (nI T) (nI P) (nI (k + 1)) = some (.inl (nI k)) := by
          unfold fX_commonDivisor_L3
          rw [if_neg hle, if_neg hne, nI_mod hT (by omega), if_neg (nI_ne0 (by omega) (by omega)), zlet_e, hm]
        refine (zLP_go (body := fun t : Int32 => fX_commonDivisor_L3 (nI T) (nI P) t) (s := nI (k + 1)) hstep).trans (ih (by omega) (fun x hx hx6 => ?_))
        by_cases ex : x = k + 1
        · rw [ex]; exact fun h => d1 (Nat.mod_eq_zero_of_dvd h.1)
        · exact hn x (by omega) hx6
theorem c_mean {C P : Nat} {A : aD} {rp pr s rm : Nat → Int32} {a1 : Int32} (hP : P ≤ 6) (r6 : rp 6 = nI P) (s2 : s 2 = nI P) (hV : dV C P A) (hx : xN 8 (dP A) pr) (h : sD P A s) :
    (∃ v, fX_mean rp pr a1 = some v ∧ fM_mean rm s a1 = some (v, zup rm 0 0)) ∨ ((¬ fPl_persons rp < 1 → ¬ a1 < 0 → a1 ≤ 1 → False) ∧ fM_mean rm s a1 = some (0, zup rm 0 1)) := by
  have hT : zsm (dP A) 8 < 2 ^ 31 := by
    have := hV.2.2.2.2.2
    have h0 := this 0 (by omega); have h1 := this 1 (by omega); have h2 := this 2 (by omega); have h3 := this 3 (by omega); have h4 := this 4 (by omega); have h5 := this 5 (by omega); have h6 := this 6 (by omega); have h7 := this 7 (by omega)
    show 0 + dP A 0 + dP A 1 + dP A 2 + dP A 3 + dP A 4 + dP A 5 + dP A 6 + dP A 7 < 2 ^ 31
    omega
  by_cases p0 : P = 0
  · right
    refine ⟨fun g => absurd (show fPl_persons rp < 1 by unfold fPl_persons; rw [r6, p0]; decide) g, ?_⟩
    unfold fM_mean
    rw [if_pos (show s 2 = 0 by rw [s2, p0]; rfl), z_throw1, Option.bind_some, if_pos rfl]
  · have hs0 : ¬ s 2 = 0 := by rw [s2]; exact nI_ne0 (by omega) (by omega)
    by_cases e0 : a1 < 0
    · right
      refine ⟨fun _ g => absurd e0 g, ?_⟩
      unfold fM_mean fM_isIn
      rw [if_neg hs0, if_pos e0, if_neg (show ¬ false = true by decide), z_throw1, Option.bind_some, if_pos rfl]
    · by_cases e1 : 1 < a1
      · right
        refine ⟨fun _ _ g => absurd g (Int32.not_le.mpr e1), ?_⟩
        unfold fM_mean fM_isIn
        rw [if_neg hs0, if_neg e0, if_pos e1, if_neg (show ¬ false = true by decide), z_throw1, Option.bind_some, if_pos rfl]
      · left
        have hg4 : 1 ≤ Nat.gcd (zsm (dP A) 8) P := Nat.gcd_pos_of_pos_right _ (by omega)
        have hg3 : Nat.gcd (zsm (dP A) 8) P ≤ 6 := Nat.le_trans (Nat.le_of_dvd (by omega) (Nat.gcd_dvd_right _ P)) hP
        have hxg : fX_commonDivisor (nI (zsm (dP A) 8)) (nI P) = some (nI (Nat.gcd (zsm (dP A) 8) P)) := x_gcd hT (by omega) hP 6 (by omega) (fun x g1 g2 => by omega)
        have hmg := m_gcd (zsm (dP A) 8) P (by omega) hT
        unfold fX_mean fM_mean fM_isIn fPl_persons
        rw [zlet_e, r6, if_neg (show ¬ nI P < 1 from nI_nlt (b := 1) (by omega) (by omega)), if_neg e0, if_pos (show a1 ≤ 1 from Int32.not_lt.mp e1), x_prints hx, Option.bind_some, hxg, Option.bind_some, if_pos (show (1 : Int32) ≤ nI (Nat.gcd (zsm (dP A) 8) P) from nI_le (a := 1) hg4 (by omega)), if_neg hs0, if_neg e0, if_neg e1, if_pos rfl, z_throw0, Option.bind_some, if_neg (show ¬ (false, zup rm 0 0).1 = true from (by decide : ¬ false = true)), zlet_e, m_prints h, Option.bind_some, s2, hmg, Option.bind_some, Option.bind_some]
        have hne : ¬ nI (Nat.gcd (zsm (dP A) 8) P) = 0 := nI_ne0 (by omega) (by omega)
        by_cases ea : a1 = 0
        · rw [if_pos ea, if_pos ea, if_neg hne, if_neg hne]; exact ⟨_, rfl, rfl⟩
        · rw [if_neg ea, if_neg ea, if_neg hne, if_neg hne]; exact ⟨_, rfl, rfl⟩
