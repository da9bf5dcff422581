/-! ===== the words as they are at the start ===== -/
theorem wE_m : ∀ j, j < 22 → zrsv j = lN (mv (resW j)) := by decide +kernel
theorem wE_x : ∀ j, j < 22 → zpw j = lN (cv (resW j)) := by decide +kernel
