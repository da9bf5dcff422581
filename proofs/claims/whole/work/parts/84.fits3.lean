/-! ===== fits, call against call ===== -/
def aR (r0 rm : Nat → Int32) : Prop := (rm 28 = 0 ∧ r0 19 = -1) ∨ (rm 28 = 1 ∧ r0 19 = rm 27)
theorem c_fits {n C P : Nat} {b : Nat → Nat} {A : aD} {pl s rm r0 tp tb mt rp : Nat → Int32} (hX : tpX n b tp tb) (hT : tpM n b mt) (m2 : rm 2 = nI n) (hC : C ≤ 8) (hP : P ≤ 6) (r4 : rp 4 = nI C) (r6 : rp 6 = nI P) (s0 : s 0 = nI C) (s2 : s 2 = nI P) (hV : dV C P A) (hx : xPl P A pl) (h : sD P A s) (hR : aR r0 rm) :
    ∃ v r0' rm', fX_fits r0 tp tb rp pl = some (v, r0', zup tp 1 0) ∧ fM_fits rm mt s = some (v, rm') ∧ rm' 0 = 0 ∧ rm' 2 = 0 ∧ aR r0' rm' ∧ (∀ j, j ≠ 19 → r0' j = r0 j) ∧ ∀ j, 6 ≤ j → j ≠ 27 → j ≠ 28 → rm' j = rm j := by
  have hn := hX.1
  have hbb : ∀ i, i < n → b i < 256 := fun i hi => (hX.2.2 i hi).2
  obtain ⟨y2, hy, y3, y0, yb, yf⟩ : ∃ y2, fM_taken (zup rm 0 0) 940 = some y2 ∧ y2 3 = nI n ∧ y2 0 = 0 ∧ y2 2 = 0 ∧ ∀ j, 6 ≤ j → y2 j = rm j := by
    refine ⟨zup (zup (zup (zup (zup rm 0 0) 3 (zup rm 0 0 2)) 2 0) 4 0) 5 940, rfl, ?_, ?_, ?_, fun j hj => ?_⟩
    · rw [zup_n (by omega), zup_n (by omega), zup_n (by omega), zup_s, zup_n (by omega)]; exact m2
    · rw [zup_n (by omega), zup_n (by omega), zup_n (by omega), zup_n (by omega), zup_s]
    · rw [zup_n (by omega), zup_n (by omega), zup_s]
    · rw [zup_n (by omega), zup_n (by omega), zup_n (by omega), zup_n (by omega), zup_n (by omega)]
  have hRy : aR r0 y2 := by unfold aR; rw [yf 28 (by omega), yf 27 (by omega)]; exact hR
  have hcl : fTp_clear tp = some (zup tp 1 0) := rfl
  -- an answer of no fit
  have hbad : ∀ v : Int32, v ≤ 0 → fX_whoFitsTape tp tb rp pl = some v → fM_fits rm mt s = some (v, y2) → ∃ v r0' rm', fX_fits r0 tp tb rp pl = some (v, r0', zup tp 1 0) ∧ fM_fits rm mt s = some (v, rm') ∧ rm' 0 = 0 ∧ rm' 2 = 0 ∧ aR r0' rm' ∧ (∀ j, j ≠ 19 → r0' j = r0 j) ∧ ∀ j, 6 ≤ j → j ≠ 27 → j ≠ 28 → rm' j = rm j := fun v hv e1 e2 => by
    refine ⟨v, r0, y2, ?_, e2, y0, yb, hRy, fun _ _ => rfl, fun j hj _ _ => yf j hj⟩
    unfold fX_fits
    rw [e1, Option.bind_some, hcl, Option.bind_some, if_pos hv]
  by_cases e1 : n < 1
  · refine hbad (-1) (by decide) ?_ ?_
    · unfold fX_whoFitsTape fTp_length
      rw [zlet_e, hX.2.1, if_pos (show nI n < 1 from nI_lt (b := 1) e1 (by omega))]
    · unfold fM_fits fM_isIn
      rw [zlet_e, hy, Option.bind_some, y3, if_pos (show nI n < 1 from nI_lt (b := 1) e1 (by omega)), if_neg (by decide)]
  · by_cases e6 : 6 < n
    · refine hbad (-1) (by decide) ?_ ?_
      · unfold fX_whoFitsTape fTp_length
        rw [zlet_e, hX.2.1, if_neg (show ¬ nI n < 1 from nI_nlt (b := 1) (by omega) (by omega)), if_neg (show ¬ nI n ≤ 6 from nI_ge (b := n) (a := 6) (by omega) (by omega))]
      · unfold fM_fits fM_isIn
        rw [zlet_e, hy, Option.bind_some, y3, if_neg (show ¬ nI n < 1 from nI_nlt (b := 1) (by omega) (by omega)), if_pos (show (6 : Int32) < nI n from nI_lt (a := 6) e6 (by omega)), if_neg (by decide)]
    · have hxw : fX_whoFitsTape tp tb rp pl = zLP (wBX tp tb rp pl n) (nI (zset (fun q => fitB b A q 0) P), nI 0) := by
        unfold fX_whoFitsTape fTp_length fPl_persons
        rw [zlet_e, hX.2.1, if_neg (show ¬ nI n < 1 from nI_nlt (b := 1) (by omega) (by omega)), if_pos (show nI n ≤ 6 from nI_le (b := 6) (by omega) (by omega)), r6, z_full P hP, zlet_e]; rfl
      rw [x_fitL hX (by omega) hC hP r4 hV hx n 0 (by omega)] at hxw
      have hok := m_okL (s := s) (y2 := y2) hT hbb (by omega) hC s0 y3 n 0 (by omega)
      have hme : fM_fits rm mt s = (zLP (wBM mt s y2) 0).bind (fun r7 => zsum r7 (fun _ => (zLP (fun t : Int32 × Int32 => fM_fits_L72 mt s y2 t.1 t.2) (0, 0)).bind (fun r25 => if r25 = 0 then some (0, y2) else zlet (zup y2 28 1) (fun v38 => zlet (zup v38 27 0) (fun v39 => (zLP (fun t : (Nat → Int32) × Int32 => fM_fits_L124 s r25 t.1 t.2) (v39, 1)).bind (fun r44 => some (r25, r44)))))) (fun q9 => some q9)) := by
        unfold fM_fits fM_isIn
        rw [zlet_e, hy, Option.bind_some, y3, if_neg (show ¬ nI n < 1 from nI_nlt (b := 1) (by omega) (by omega)), if_neg (show ¬ (6 : Int32) < nI n from nI_nlt (a := 6) (by omega) (by omega)), if_pos rfl]
      have hok' : zLP (wBM mt s y2) 0 = _ := hok
      rw [hok', Option.bind_some] at hme
      by_cases hf : ∀ j, 0 ≤ j → j < n → b j = 255 ∨ b j < C
      · rw [if_pos hf] at hxw hme
        have hme2 : fM_fits rm mt s = (zLP (fun t : Int32 × Int32 => fM_fits_L72 mt s y2 t.1 t.2) (0, 0)).bind (fun r25 => if r25 = 0 then some (0, y2) else zlet (zup y2 28 1) (fun v38 => zlet (zup v38 27 0) (fun v39 => (zLP (fun t : (Nat → Int32) × Int32 => fM_fits_L124 s r25 t.1 t.2) (v39, 1)).bind (fun r44 => some (r25, r44))))) := hme
        rw [m_fitL hT hbb (by omega) hC hP y3 s2 hV h, Option.bind_some] at hme2
        have hF : zset (fun q => fitB b A q n) P < 64 := Nat.lt_of_lt_of_le (zset_lt _ P) (Nat.pow_le_pow_right (n := 2) (by omega) hP)
        generalize zset (fun q => fitB b A q n) P = F at hxw hme2 hF
        by_cases w : F = 0
        · rw [w, if_pos (show nI 0 = 0 from rfl)] at hme2
          rw [w] at hxw
          exact hbad 0 (by decide) hxw hme2
        · obtain ⟨rm', k1, k2, k3⟩ := m_best (rm := zup (zup y2 28 1) 27 0) hC hP hF s0 s2 hV h zup_s
          rw [if_neg (fun g => w ((nI_e0 (by omega)).mp g)), zlet_e, zlet_e, k1, Option.bind_some] at hme2
          refine ⟨nI F, zup r0 19 (nI (bQ A P F 5)), rm', ?_, hme2, ?_, ?_, Or.inr ⟨?_, ?_⟩, fun j hj => zup_n hj, fun j g1 g2 g3 => ?_⟩
          · unfold fX_fits
            rw [hxw, Option.bind_some, hcl, Option.bind_some, if_neg (show ¬ nI F ≤ 0 from nI_ge (b := F) (a := 0) (by omega) (by omega)), x_best hC hP hF hV hx, Option.bind_some, zlet_e]
          · rw [k3 0 (by omega), zup_n (by omega), zup_n (by omega)]; exact y0
          · rw [k3 2 (by omega), zup_n (by omega), zup_n (by omega)]; exact yb
          · rw [k3 28 (by omega), zup_n (by omega), zup_s]
          · rw [zup_s, k2]
          · rw [k3 j g2, zup_n g2, zup_n g3]; exact yf j g1
      · rw [if_neg hf] at hxw hme
        exact hbad (-1) (by decide) hxw hme
