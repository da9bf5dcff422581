/-! ===== feed ===== -/
theorem z_255A : ∀ i, i < 32 → ¬ i < 8 → (255#32).getLsbD i = false := by decide
theorem z_byB (v : BitVec 32) (k : Nat) (hk : k ≤ 24) : (BitVec.signExtend 32 (BitVec.signExtend 8 (BitVec.signExtend 32 (BitVec.signExtend 8 (v.sshiftRight k))))) &&& 255#32 = (v >>> k) &&& 255#32 := by
  apply BitVec.eq_of_getLsbD_eq
  intro i hi
  rw [BitVec.getLsbD_and, BitVec.getLsbD_and, BitVec.getLsbD_ushiftRight]
  by_cases h8 : i < 8
  · rw [BitVec.getLsbD_signExtend, BitVec.getLsbD_signExtend, BitVec.getLsbD_signExtend, BitVec.getLsbD_signExtend, BitVec.getLsbD_sshiftRight]
    simp [h8, hi, show ¬ 32 ≤ i by omega, show k + i < 32 by omega]
  · rw [z_255A i hi h8, Bool.and_false, Bool.and_false]
theorem z_byR {a x : Int32} {u : UInt32} {k : Nat} (hk : k ≤ 24) (h1 : (a >>> x).toBitVec = a.toBitVec.sshiftRight k) (h2 : (Int32.toUInt32 a >>> u).toInt32.toBitVec = a.toBitVec >>> k) : vp_nar .byte (Int8.toInt32 (Int32.toInt8 (a >>> x))) &&& 255 = ((Int32.toUInt32 a >>> u).toInt32) &&& 255 := by
  rw [vp_nar_byte]
  apply Int32.toBitVec_inj.mp
  rw [Int32.toBitVec_and, Int32.toBitVec_and, Int8.toBitVec_toInt32, Int32.toBitVec_toInt8, Int8.toBitVec_toInt32, Int32.toBitVec_toInt8, h1, h2]
  exact z_byB a.toBitVec k hk
theorem z_by (a : Int32) (j : Nat) (hj : j < 4) : vp_nar .byte (Int8.toInt32 (Int32.toInt8 (a >>> (nI (8 * j) &&& 31)))) &&& 255 = ((Int32.toUInt32 a >>> (Int32.toUInt32 (nI (8 * j)) &&& Int32.toUInt32 31)).toInt32) &&& 255 := by
  match j, hj with
  | 0, _ => exact z_byR (k := 0) (by omega) rfl rfl
  | 1, _ => exact z_byR (k := 8) (by omega) rfl rfl
  | 2, _ => exact z_byR (k := 16) (by omega) rfl rfl
  | 3, _ => exact z_byR (k := 24) (by omega) rfl rfl
theorem z_and255 (y : Int32) : ∃ k, k < 256 ∧ y &&& 255 = nI k := by
  refine ⟨(y.toBitVec &&& 255#32).toNat, ?_, ?_⟩
  · rw [BitVec.toNat_and]
    exact Nat.lt_of_le_of_lt Nat.and_le_right (by decide)
  · apply Int32.toBitVec_inj.mp
    rw [Int32.toBitVec_and]
    show y.toBitVec &&& 255#32 = BitVec.ofNat 32 (y.toBitVec &&& 255#32).toNat
    rw [BitVec.ofNat_toNat, BitVec.setWidth_eq]
