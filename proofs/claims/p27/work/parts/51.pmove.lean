/-! ===== pure: where one can go ===== -/
def p_go (m : Nat) (wt : Nat → Nat) (c d : Nat) : Nat := if p_cb c d = 99 then 99 else if m.testBit (p_blk c) = true then 99 else if m.testBit (p_blk (p_cb c d)) = true then 99 else if p_blk c = p_blk (p_cb c d) then p_cb c d else if wt (p_lo (p_blk c) d) = 99 then 99 else p_cb c d
theorem s_cross : ∀ c, c < 36 → ∀ d, d < 4 → p_cb c d ≠ 99 → p_blk c ≠ p_blk (p_cb c d) → p_lo (p_blk c) d < 12 ∧ p_lk (p_blk c) (p_blk (p_cb c d)) = p_lo (p_blk c) d := by decide +kernel
theorem p_go_cb {m : Nat} {wt : Nat → Nat} {c d : Nat} (h : p_go m wt c d ≠ 99) : p_go m wt c d = p_cb c d := by
  unfold p_go at h ⊢
  repeat' split
  all_goals simp_all
theorem p_go_op {m : Nat} {wt : Nat → Nat} {c d : Nat} (hc : c < 36) (hd : d < 4) (h : p_go m wt c d ≠ 99) : p_op m (p_go m wt c d) := by
  have e := p_go_cb h
  have h2 := (s_cb c hc d hd).2
  rw [e] at h ⊢
  refine ⟨h2.resolve_right h, ?_⟩
  cases hb : m.testBit (p_blk (p_cb c d)) with
  | false => rfl
  | true =>
    exfalso
    apply h
    rw [← e]
    unfold p_go
    rw [if_neg h]
    split
    · rfl
    · first
        | rfl
        | rw [if_pos hb]
theorem p_go_lt {m : Nat} {wt : Nat → Nat} {c d : Nat} (hc : c < 36) (hd : d < 4) : p_go m wt c d < 36 ∨ p_go m wt c d = 99 := by
  by_cases h : p_go m wt c d = 99
  · exact Or.inr h
  · exact Or.inl (p_go_op hc hd h).1
theorem k_go {m : Nat} {wt : Nat → Nat} {h : z_H} (hw : y_wf m wt) (hB : y_BC m wt h) {c d : Nat} (hc : c < 36) (hd : d < 4) : fv_X0_goFrom h (nI c) (nI d) = p_i (p_go m wt c d) := by
  obtain ⟨b1, -, b9⟩ := s_blk _ hc
  obtain ⟨c1, c2⟩ := s_cb _ hc _ hd
  unfold fv_X0_goFrom p_go
  rw [c1, b1]
  by_cases e : p_cb c d = 99
  · rw [if_pos (show p_i (p_cb c d) = (-1) by rw [e]; rfl), if_pos e]; rfl
  · have hlt := c2.resolve_right e
    obtain ⟨d1, -, d9⟩ := s_blk _ hlt
    rw [if_neg (fun z => e ((p_i_m1 (by omega)).mp z)), if_neg e, p_i_n e, d1]
    by_cases w1 : m.testBit (p_blk c) = true
    · rw [if_neg (fun z => by rw [(k_wall0 hB b9).mp z] at w1; cases w1), if_pos w1]; rfl
    · have w1' : m.testBit (p_blk c) = false := by simpa using w1
      rw [if_pos ((k_wall0 hB b9).mpr w1'), if_neg w1]
      by_cases w2 : m.testBit (p_blk (p_cb c d)) = true
      · rw [if_neg (fun z => by rw [(k_wall0 hB d9).mp z] at w2; cases w2), if_pos w2]; rfl
      · have w2' : m.testBit (p_blk (p_cb c d)) = false := by simpa using w2
        rw [if_pos ((k_wall0 hB d9).mpr w2'), if_neg w2]
        by_cases w3 : p_blk c = p_blk (p_cb c d)
        · rw [if_pos (congrArg nI w3), if_pos w3, p_i_n e]
        · rw [if_neg (fun z => w3 ((nI_eq (by omega) (by omega)).mp z)), if_neg w3]
          obtain ⟨x1, x2⟩ := s_cross c hc d hd e w3
          rw [(s_lo _ b9 _ hd).1, p_i_n (by omega), y_atv x1, hB.2 _ x1]
          have := hw.2 _ x1
          by_cases w4 : wt (p_lo (p_blk c) d) = 99
          · rw [if_pos (show p_i _ = (-1) by rw [w4]; rfl), if_pos w4]; rfl
          · rw [if_neg (fun z => w4 ((p_i_m1 (by omega)).mp z)), if_neg w4, p_i_n e]
def p_dr (d : Nat) : Int32 := if d = 0 then (-1) else if d = 2 then nI 1 else nI 0
def p_dc (d : Nat) : Int32 := if d = 1 then nI 1 else if d = 3 then (-1) else nI 0
