/-! ===== pure: where one can go ===== -/
def p_go (m : Nat) (wt : Nat → Nat) (c d : Nat) : Nat := if p_cb c d = 99 then 99 else if m.testBit (p_blk c) = true then 99 else if m.testBit (p_blk (p_cb c d)) = true then 99 else if p_blk c = p_blk (p_cb c d) then p_cb c d else if wt (p_lo (p_blk c) d) = 99 then 99 else p_cb c d
theorem s_cross : ∀ c, c < 36 → ∀ d, d < 4 → p_cb c d ≠ 99 → p_blk c ≠ p_blk (p_cb c d) → p_lo (p_blk c) d < 12 ∧ p_lk (p_blk c) (p_blk (p_cb c d)) = p_lo (p_blk c) d := by decide +kernel
theorem p_go_cb {m : Nat} {wt : Nat → Nat} {c d : Nat} (h : p_go m wt c d ≠ 99) : p_go m wt c d = p_cb c d := by
  unfold p_go at h ⊢
  repeat' split
  all_goals simp_all
theorem p_go_op {m : Nat} {wt : Nat → Nat} {c d : Nat} (hc : c < 36) (hd : d < 4) (h : p_go m wt c d ≠ 99) : p_op m (p_go m wt c d) := by
  have e := p_go_cb h
  have h2 := (s_cb c hc d hd).2
  rw [e] at h ⊢
  refine ⟨h2.resolve_right h, ?_⟩
  cases hb : m.testBit (p_blk (p_cb c d)) with
  | false => rfl
  | true =>
    exfalso
    apply h
    rw [← e]
    unfold p_go
    rw [if_neg h]
    split
    · rfl
    · first
        | rfl
        | rw [if_pos hb]
theorem p_go_lt {m : Nat} {wt : Nat → Nat} {c d : Nat} (hc : c < 36) (hd : d < 4) : p_go m wt c d < 36 ∨ p_go m wt c d = 99 := by
  by_cases h : p_go m wt c d = 99
  · exact Or.inr h
  · exact Or.inl (p_go_op hc hd h).1
theorem k_go {m : Nat} {wt : Nat → Nat} {h : z_H} (hw : y_wf m wt) (hB : y_BC m wt h) {c d : Nat} (hc : c < 36) (hd : d < 4) : fv_X0_goFrom h (nI c) (nI d) = p_i (p_go m wt c d) := by
  obtain ⟨b1, -, b9⟩ := s_blk _ hc
  obtain ⟨c1, c2⟩ := s_cb _ hc _ hd
  unfold fv_X0_goFrom p_go
  rw [c1, b1]
  by_cases e : p_cb c d = 99
  · rw [if_pos (show p_i (p_cb c d) = (-1) by rw [e]; rfl), if_pos e]; rfl
  · have hlt := c2.resolve_right e
    obtain ⟨d1, -, d9⟩ := s_blk _ hlt
    rw [if_neg (fun z => e ((p_i_m1 (by omega)).mp z)), if_neg e, p_i_n e, d1]
    by_cases w1 : m.testBit (p_blk c) = true
    · rw [if_neg (fun z => by rw [(k_wall0 hB b9).mp z] at w1; cases w1), if_pos w1]; rfl
    · have w1' : m.testBit (p_blk c) = false := by simpa using w1
      rw [if_pos ((k_wall0 hB b9).mpr w1'), if_neg w1]
      by_cases w2 : m.testBit (p_blk (p_cb c d)) = true
      · rw [if_neg (fun z => by rw [(k_wall0 hB d9).mp z] at w2; cases w2), if_pos w2]; rfl
      · have w2' : m.testBit (p_blk (p_cb c d)) = false := by simpa using w2
        rw [if_pos ((k_wall0 hB d9).mpr w2'), if_neg w2]
        by_cases w3 : p_blk c = p_blk (p_cb c d)
        · rw [if_pos (congrArg nI w3), if_pos w3, p_i_n e]
        · rw [if_neg (fun z => w3 ((nI_eq (by omega) (by omega)).mp z)), if_neg w3]
          obtain ⟨x1, x2⟩ := s_cross c hc d hd e w3
          rw [(s_lo _ b9 _ hd).1, p_i_n (by omega), y_atv x1, hB.2 _ x1]
          have := hw.2 _ x1
          by_cases w4 : wt (p_lo (p_blk c) d) = 99
          · rw [if_pos (show p_i _ = (-1) by rw [w4]; rfl), if_pos w4]; rfl
          · rw [if_neg (fun z => w4 ((p_i_m1 (by omega)).mp z)), if_neg w4, p_i_n e]
def p_dr (d : Nat) : Int32 := if d = 0 then (-1) else if d = 2 then nI 1 else nI 0
def p_dc (d : Nat) : Int32 := if d = 1 then nI 1 else if d = 3 then (-1) else nI 0
theorem s_bs : ∀ c, c < 36 → ∀ d, d < 4 → if p_cb c d = 99 then fv_X8_in (nI (c / 6) + p_dr d) (nI 0) (nI 5) = 0 ∨ fv_X8_in (nI (c % 6) + p_dc d) (nI 0) (nI 5) = 0 else fv_X8_in (nI (c / 6) + p_dr d) (nI 0) (nI 5) ≠ 0 ∧ fv_X8_in (nI (c % 6) + p_dc d) (nI 0) (nI 5) ≠ 0 ∧ nI 6 * (nI (c / 6) + p_dr d) + (nI (c % 6) + p_dc d) = nI (p_cb c d) := by decide +kernel
theorem r_bs47 {m : Nat} {wt : Nat → Nat} {h : z_H} (hw : y_wf m wt) (hB : y_BM m wt h) {c d : Nat} (hc : c < 36) (hd : d < 4) : y_W (tk_X8_beside_47 h (nI c) (nI (c / 6) + p_dr d) (p_dc d) (nI (c % 6))) (fn_X8_beside_47 h (nI c) (nI (c / 6) + p_dr d) (p_dc d) (nI (c % 6))) (fun r => r = some (.int (p_i (p_go m wt c d)))) := by
  have hs := s_bs c hc d hd
  obtain ⟨-, b1, b9⟩ := s_blk _ hc
  have c2 := (s_cb _ hc _ hd).2
  have n0 : p_go m wt c d = 99 → ∀ a, y_W (tk_X8_beside_140 h a) (fn_X8_beside_140 h a) (fun r => r = some (.int (p_i (p_go m wt c d)))) := by
    intro z a
    unfold tk_X8_beside_140 fn_X8_beside_140 tk_X8_beside_141 fn_X8_beside_141
    rw [z]
    exact y_end (if_pos i0_eq0)
  unfold tk_X8_beside_47 fn_X8_beside_47
  by_cases e : p_cb c d = 99
  · rw [if_pos e] at hs
    have e2 : p_go m wt c d = 99 := by unfold p_go; rw [if_pos e]
    rw [e2]
    refine y_if (fun z => y_end rfl) (fun z => ?_)
    exact y_pos (hs.resolve_left z) (y_end rfl)
  · rw [if_neg e] at hs
    have hlt := c2.resolve_right e
    obtain ⟨-, d1, d9⟩ := s_blk _ hlt
    have n1 : p_go m wt c d = p_cb c d → y_W (tk_X8_beside_136 h (nI (p_cb c d))) (fn_X8_beside_136 h (nI (p_cb c d))) (fun r => r = some (.int (p_i (p_go m wt c d)))) := by
      intro z
      unfold tk_X8_beside_136 fn_X8_beside_136 tk_X8_beside_141 fn_X8_beside_141
      rw [z, p_i_n e]
      exact y_end (if_neg i1_ne0)
    rw [hs.2.2, b1, d1, nI_clamp (by omega), nI_clamp (by omega)]
    refine y_neg hs.1 (y_neg hs.2.1 (y_req (vp_in_nI b9 (by decide)) ?_))
    have gen : p_go m wt c d = if m.testBit (p_blk c) = true then 99 else if m.testBit (p_blk (p_cb c d)) = true then 99 else if p_blk c = p_blk (p_cb c d) then p_cb c d else if wt (p_lo (p_blk c) d) = 99 then 99 else p_cb c d := if_neg e
    refine y_if (fun w1 => ?_) (fun w1 => ?_)
    · have w1' := (y_BM0 hB b9).mp w1
      rw [w1', if_neg (by decide)] at gen
      refine y_req (vp_in_nI d9 (by decide)) ?_
      refine y_if (fun w2 => ?_) (fun w2 => ?_)
      · have w2' := (y_BM0 hB d9).mp w2
        rw [w2', if_neg (by decide)] at gen
        refine y_eq (p_blk c) (p_blk (p_cb c d)) rfl rfl (fun w3 => ?_) (fun w3 => ?_)
        · rw [if_pos w3] at gen; exact n1 gen
        · rw [if_neg w3] at gen
          obtain ⟨x1, x2⟩ := s_cross c hc d hd e w3
          obtain ⟨l1, l2⟩ := r_link h b9 d9
          refine y_req l1 ?_
          rw [l2, x2, p_i_n (by omega : p_lo (p_blk c) d ≠ 99), nI_clamp (by omega), hB.2 _ x1]
          refine y_req (vp_in_nI x1 (by decide)) ?_
          have := hw.2 _ x1
          refine y_none (wt (p_lo (p_blk c) d)) rfl (fun w4 => ?_) (fun w4 => ?_)
          · rw [if_pos w4] at gen; exact n0 gen _
          · rw [if_neg w4] at gen; exact n1 gen
      · have w2' : m.testBit (p_blk (p_cb c d)) = true := by
          cases z : m.testBit (p_blk (p_cb c d)) with
          | true => rfl
          | false => exact absurd ((y_BM0 hB d9).mpr z) w2
        rw [if_pos w2'] at gen; exact n0 gen _
    · have w1' : m.testBit (p_blk c) = true := by
        cases z : m.testBit (p_blk c) with
        | true => rfl
        | false => exact absurd ((y_BM0 hB b9).mpr z) w1
      rw [if_pos w1'] at gen; exact n0 gen _
theorem r_bs {m : Nat} {wt : Nat → Nat} {h : z_H} (hw : y_wf m wt) (hB : y_BM m wt h) {c d : Nat} (hc : c < 36) (hd : d < 4) : y_W (tk_X8_beside (nI c) (nI d) h) (fn_X8_beside (nI c) (nI d) h) (fun r => r = some (.int (p_i (p_go m wt c d)))) := by
  have K := r_bs47 hw hB hc hd
  have h4 : d = 0 ∨ d = 1 ∨ d = 2 ∨ d = 3 := by omega
  unfold tk_X8_beside fn_X8_beside tk_X8_beside_22 fn_X8_beside_22
  rw [pk_rem (by omega) (by decide) (by decide), pk_div (by omega) (by decide) (by decide)]
  rcases h4 with e | e | e | e <;> subst e
  · exact y_pos rfl (y_neg (by decide) (y_neg (by decide) K))
  · exact y_neg (by decide) (y_neg (by decide) (y_pos rfl K))
  · exact y_neg (by decide) (y_pos rfl (y_neg (by decide) (y_neg (by decide) K)))
  · exact y_neg (by decide) (y_neg (by decide) (y_neg (by decide) (y_pos rfl K)))
