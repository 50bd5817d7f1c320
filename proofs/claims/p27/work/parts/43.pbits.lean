/-! ===== masks ===== -/
theorem q_bv (n : Nat) : (nI n).toBitVec = BitVec.ofNat 32 n := by
  first
    | rfl
    | simp [nI]
theorem q_and (a b : Nat) : nI a &&& nI b = nI (a &&& b) := by
  rw [← Int32.toBitVec_inj, Int32.toBitVec_and, q_bv, q_bv, q_bv]
  apply BitVec.eq_of_toNat_eq
  simp [BitVec.toNat_and, Nat.and_mod_two_pow]
theorem q_or (a b : Nat) : nI a ||| nI b = nI (a ||| b) := by
  rw [← Int32.toBitVec_inj, Int32.toBitVec_or, q_bv, q_bv, q_bv]
  apply BitVec.eq_of_toNat_eq
  simp [BitVec.toNat_or, Nat.or_mod_two_pow]
theorem q_zero {n : Nat} (hn : n < 2 ^ 31) : nI n = 0 ↔ n = 0 := by
  have := nI_eq (a := n) (b := 0) hn (by decide)
  exact this
theorem q_and_pow (m b : Nat) : m &&& 2 ^ b = if m.testBit b then 2 ^ b else 0 := by
  apply Nat.eq_of_testBit_eq
  intro i
  rw [Nat.testBit_and, Nat.testBit_two_pow]
  by_cases h : b = i
  · subst h
    cases hm : m.testBit b <;> simp
  · by_cases hm : m.testBit b = true
    · simp [hm, h, Nat.testBit_two_pow]
    · have : m.testBit b = false := by simpa using hm
      simp [this, h]
/-- is the bit b of the mask set? as the class asks it -/
theorem q_bit {m b : Nat} (hb : b < 12) : (nI m &&& ((nI 1) <<< (nI b &&& 31))) = 0 ↔ m.testBit b = false := by
  rw [s_bit b hb, q_and, q_and_pow]
  cases h : m.testBit b with
  | false => simp [nI_0]
  | true =>
    have h2 : (2 : Nat) ^ b < 2 ^ 31 := Nat.pow_lt_pow_right (by decide) (by omega)
    have h3 : (2 : Nat) ^ b ≠ 0 := Nat.pos_iff_ne_zero.mp (Nat.two_pow_pos b)
    simp [q_zero h2, h3]
