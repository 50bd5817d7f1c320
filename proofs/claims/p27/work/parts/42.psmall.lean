/-! ===== small domains, by the kernel ===== -/
/-- a number, or 99 for none (NONE is -1) -/
def p_i (n : Nat) : Int32 := if n = 99 then (-1) else nI n
theorem s_blk : ∀ c, c < 36 → fv_X0_blockOf (nI c) = nI (p_blk c) ∧ True ∧ p_blk c < 9 := by decide +kernel
theorem s_ul : ∀ b, b < 9 → fv_X0_upperLeftOf (nI b) = nI (p_ul b) ∧ p_ul b < 36 ∧ p_blk (p_ul b) = b := by decide +kernel
theorem s_fb : ∀ l, l < 12 → fv_X0_firstBlockOf (nI l) = nI (p_fb l) ∧ True ∧ p_fb l < 9 := by decide +kernel
theorem s_sb : ∀ l, l < 12 → fv_X0_secondBlockOf (nI l) = nI (p_sb l) ∧ True ∧ p_sb l < 9 := by decide +kernel
theorem s_lo : ∀ b, b < 9 → ∀ d, d < 4 → fv_X0_linkOutOf (nI b) (nI d) = p_i (p_lo b d) ∧ (p_lo b d < 12 ∨ p_lo b d = 99) := by decide +kernel
theorem s_cb : ∀ c, c < 36 → ∀ d, d < 4 → fv_X0_cellBeside (nI c) (nI d) = p_i (p_cb c d) ∧ (p_cb c d < 36 ∨ p_cb c d = 99) := by decide +kernel
theorem s_crn : ∀ c, c < 36 → fv_X2_cornerOf (nI c) = nI (p_crn c) ∧ p_crn c < 4 := by decide +kernel
/-- bits of a small mask -/
theorem s_bit : ∀ b, b < 12 → (nI 1) <<< (nI b &&& 31) = nI (2 ^ b) := by decide +kernel
