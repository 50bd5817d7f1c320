/-- what is asked of the functions alone (OPEN) -/
theorem pu_all (L : Nat) (xs : Nat → Int32) (hL : L ≤ 1536) : tk_X2_layOut z_hA ∧ tk_X8_layCycle z_hB ∧ tk_L_law_23 L xs 513 (nI 0) z_hL ∧ fn_L_law_23 L xs 513 (nI 0) z_hL = 1 := by
  sorry
