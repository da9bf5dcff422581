/-! ===== one draw ===== -/
theorem z_shr8 (y : Int32) : ∃ m, m < 2 ^ 24 ∧ (Int32.toUInt32 y >>> (Int32.toUInt32 (8 : Int32) &&& Int32.toUInt32 31)).toInt32 = nI m := by
  refine ⟨(y.toBitVec >>> 8).toNat, ?_, ?_⟩
  · rw [BitVec.toNat_ushiftRight, Nat.shiftRight_eq_div_pow]
    have := y.toBitVec.isLt
    omega
  · apply Int32.toBitVec_inj.mp
    show y.toBitVec >>> 8 = BitVec.ofNat 32 (y.toBitVec >>> 8).toNat
    rw [BitVec.ofNat_toNat, BitVec.setWidth_eq]
theorem p_draw {dr rm : Nat → Int32} {c : Nat} (h : dr 0 = rm 39) (h1 : 1 ≤ c) (hc : c < 2 ^ 31) : ∃ k z, k < c ∧ fDr_draw dr (nI c) = some (nI k, zup dr 0 z) ∧ fM_draw rm (nI c) = some (nI k, zup rm 39 z) := by
  obtain ⟨m, m1, m2⟩ := z_shr8 ((rm 39 * 1103515245) + 12345)
  have hne : ¬ nI c = 0 := nI_ne0 (by omega) hc
  refine ⟨m % c, (rm 39 * 1103515245) + 12345, Nat.mod_lt _ (by omega), ?_, ?_⟩
  · unfold fDr_draw
    rw [zlet_e, h, if_neg (show ¬ nI c ≤ 0 from nI_ge (b := c) (a := 0) (by omega) hc), if_neg hne, zup_s, m2, nI_mod (by omega) hc]
  · unfold fM_draw
    rw [zlet_e, if_neg hne, zup_s, m2, nI_mod (by omega) hc]
