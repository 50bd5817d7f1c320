/-! ===== pure: setWall and setLink, on both sides ===== -/
def p_wm (m b : Nat) (yb : Bool) : Nat := if yb = true then m ||| 2 ^ b else m &&& (511 ^^^ 2 ^ b)
theorem s_wm0 : ∀ m, m < 512 → ∀ b, b < 9 → (nI m &&& (((nI 1) <<< (nI b &&& 31)) ^^^ (z_bi (-1)))) = nI (m &&& (511 ^^^ 2 ^ b)) ∧ m &&& (511 ^^^ 2 ^ b) < 512 := by decide +kernel
theorem s_wm1 : ∀ b, b < 9 → ∀ j, j < 9 → (511 ^^^ 2 ^ b).testBit j = !(j == b) := by decide +kernel
theorem p_wm_lt {m b : Nat} {yb : Bool} (hm : m < 512) (hb : b < 9) : p_wm m b yb < 512 := by
  unfold p_wm
  split
  · exact Nat.or_lt_two_pow (n := 9) hm (Nat.pow_lt_pow_right (by decide) hb)
  · exact (s_wm0 m hm b hb).2
theorem p_wm_bit {m b j : Nat} {yb : Bool} (hb : b < 9) (hj : j < 9) : (p_wm m b yb).testBit j = if j = b then yb else m.testBit j := by
  unfold p_wm
  cases yb with
  | true =>
    rw [if_pos rfl, Nat.testBit_or, Nat.testBit_two_pow]
    by_cases e : j = b
    · rw [if_pos e, e]; simp
    · have : ¬ b = j := fun z => e z.symm
      rw [if_neg e]; simp [this]
  | false =>
    rw [if_neg (by decide), Nat.testBit_and, s_wm1 b hb j hj]
    by_cases e : j = b
    · rw [if_pos e, e]; simp
    · rw [if_neg e]; simp [e]
theorem k_put {m : Nat} {wt : Nat → Nat} {h : z_H} (hm : m < 512) (hB : y_BC m wt h) {b : Nat} (hb : b < 9) (yb : Bool) : fh_X0_putWall h (nI b) (if yb = true then nI 1 else nI 0) = z_set h 1 2 (nI (p_wm m b yb)) ∧ y_BC (p_wm m b yb) wt (fh_X0_putWall h (nI b) (if yb = true then nI 1 else nI 0)) := by
  have e : fh_X0_putWall h (nI b) (if yb = true then nI 1 else nI 0) = z_set h 1 2 (nI (p_wm m b yb)) := by
    unfold fh_X0_putWall p_wm
    rw [hB.1]
    cases yb with
    | true =>
      rw [if_neg (show ¬ (if true = true then nI 1 else nI 0 : Int32) = 0 from i1_ne0), if_pos (rfl : true = true), s_bit b (by omega), q_or]
    | false =>
      rw [if_pos (show (if false = true then nI 1 else nI 0 : Int32) = 0 from i0_eq0), if_neg (by decide : ¬ false = true), (s_wm0 m hm b hb).1]
  refine ⟨e, ?_⟩
  rw [e]
  exact ⟨y_sh, fun l hl => by rw [z_set_ne (by decide)]; exact hB.2 l hl⟩
theorem c_oneIn {m : Nat} {wt : Nat → Nat} {s : p_St} {hd f0 : Nat} {h : z_H} (hR : y_RC m wt s hd f0 h) (h40 : s.2.2.length ≤ 40) (hF : ∀ c ∈ s.2.2, c < 36) {b : Nat} (hb : b < 9) : ∀ (j k n : Nat), k + j = s.2.2.length → j < n → (∀ i, i < k → p_blk (s.2.2.getD i 99) ≠ b) → y_W (tk_X3_hasOneIn_2 h n (nI b) (nI k)) (fn_X3_hasOneIn_2 h n (nI b) (nI k)) (fun r => ∃ q : Bool, r = some (.int (if q = true then nI 1 else nI 0)) ∧ (q = true ↔ ∃ i, i < s.2.2.length ∧ p_blk (s.2.2.getD i 99) = b))
  | 0, k, n + 1, hk, hn, hno => by
    have : k = s.2.2.length := by omega
    subst this
    unfold tk_X3_hasOneIn_2 fn_X3_hasOneIn_2
    dsimp only
    rw [hR.2.2.2.2.1]
    exact y_pos (nI_le (Nat.le_refl _) (by omega)) (y_end ⟨false, rfl, fun z => (by cases z), fun ⟨i, h1, h2⟩ => absurd h2 (hno i h1)⟩)
  | j + 1, k, n + 1, hk, hn, hno => by
    have hlt : k < s.2.2.length := by omega
    have hc := hF _ (y_getD_mem hlt)
    obtain ⟨b1, -, b9⟩ := s_blk _ hc
    have f64 := hR.2.2.1
    unfold tk_X3_hasOneIn_2 fn_X3_hasOneIn_2
    dsimp only
    rw [hR.2.2.2.2.1, hR.2.2.2.1, nI_add, y_cl63 (by omega), hR.2.2.2.2.2 k hlt, b1, nI_add]
    refine y_neg (nI_ge hlt (by omega)) ?_
    refine y_eq (p_blk (s.2.2.getD k 99)) b rfl rfl (fun e => y_end ⟨true, rfl, fun _ => ⟨k, hlt, e⟩, fun _ => rfl⟩) (fun e => ?_)
    refine c_oneIn hR h40 hF hb j (k + 1) n (by omega) (by omega) (fun i hi => ?_)
    by_cases z : i = k
    · rw [z]; exact e
    · exact hno i (by omega)
