/-! ===== masks ===== -/
theorem q_bv (n : Nat) : (nI n).toBitVec = BitVec.ofNat 32 n := by
  first
    | rfl
    | simp [nI]
theorem q_and (a b : Nat) : nI a &&& nI b = nI (a &&& b) := by
  rw [← Int32.toBitVec_inj, Int32.toBitVec_and, q_bv, q_bv, q_bv]
  apply BitVec.eq_of_toNat_eq
  simp [BitVec.toNat_and, Nat.and_mod_two_pow]
theorem q_or (a b : Nat) : nI a ||| nI b = nI (a ||| b) := by
  rw [← Int32.toBitVec_inj, Int32.toBitVec_or, q_bv, q_bv, q_bv]
  apply BitVec.eq_of_toNat_eq
  simp [BitVec.toNat_or, Nat.or_mod_two_pow]
theorem q_zero {n : Nat} (hn : n < 2 ^ 31) : nI n = 0 ↔ n = 0 := by
  have := nI_eq (a := n) (b := 0) hn (by decide)
  exact this
