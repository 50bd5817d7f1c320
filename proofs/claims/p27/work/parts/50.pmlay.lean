/-! ===== pure: the reference's layCycle ===== -/
/-- the link of two blocks; 99: none -/
def p_lk (a b : Nat) : Nat := (List.range 12).foldl (fun f l => if (p_fb l = a ∧ p_sb l = b) ∨ (p_fb l = b ∧ p_sb l = a) then l else f) 99
theorem s_lk : ∀ a, a < 9 → ∀ b, b < 9 → p_lk a b < 12 ∨ p_lk a b = 99 := by decide +kernel
/-- what the next cell rests on, by the corner -/
theorem s_nx0 : ∀ c, c < 36 → p_crn c = 0 → c / 6 % 2 = 0 ∧ c % 2 = 0 ∧ p_cb c 1 = c + 1 ∧ (if p_blk c ≤ 2 then p_lo (p_blk c) 0 = 99 else p_lo (p_blk c) 0 = p_lk (p_blk c) (p_blk c - 3) ∧ p_cb c 0 = c - 6 ∧ 6 ≤ c) := by decide +kernel
theorem s_nx1 : ∀ c, c < 36 → p_crn c = 1 → c / 6 % 2 = 0 ∧ c % 2 = 1 ∧ p_cb c 2 = c + 6 ∧ (if 2 ≤ p_blk c % 3 then p_lo (p_blk c) 1 = 99 else p_lo (p_blk c) 1 = p_lk (p_blk c) (p_blk c + 1) ∧ p_blk c + 1 < 9 ∧ p_cb c 1 = c + 1) := by decide +kernel
theorem s_nx2 : ∀ c, c < 36 → p_crn c = 2 → c / 6 % 2 = 1 ∧ c % 2 = 1 ∧ p_cb c 3 = c - 1 ∧ 1 ≤ c ∧ (if 6 ≤ p_blk c then p_lo (p_blk c) 2 = 99 else p_lo (p_blk c) 2 = p_lk (p_blk c) (p_blk c + 3) ∧ p_cb c 2 = c + 6) := by decide +kernel
theorem s_nx3 : ∀ c, c < 36 → p_crn c = 3 → c / 6 % 2 = 1 ∧ c % 2 = 0 ∧ p_cb c 0 = c - 6 ∧ 6 ≤ c ∧ (if p_blk c % 3 ≤ 0 then p_lo (p_blk c) 3 = 99 else p_lo (p_blk c) 3 = p_lk (p_blk c) (p_blk c - 1) ∧ p_cb c 3 = c - 1 ∧ 1 ≤ p_blk c) := by decide +kernel
theorem i1_ne0 : ¬ nI 1 = 0 := by decide
theorem i0_eq0 : nI 0 = 0 := rfl
theorem r_isv {b : Bool} {v : Int32} (h : v = if b = true then nI 1 else nI 0) {α : Type} {r s q : α} (f : b = false → r = q) (g : b = true → s = q) : (if v = 0 then r else s) = q := by
  subst h
  cases b with
  | true => rw [if_neg (show ¬ (if true = true then nI 1 else nI 0 : Int32) = 0 from i1_ne0)]; exact g rfl
  | false => rw [if_pos (show (if false = true then nI 1 else nI 0 : Int32) = 0 from i0_eq0)]; exact f rfl
def r_Q (m : Nat) (wt : Nat → Nat) (h0 : z_H) (r : z_R) : Prop := y_BM m wt r.2 ∧ y_TM (p_gT m wt) r.2 ∧ y_CM m wt r.2 ∧ y_fr [20, 23, 24, 25, 26] h0 r.2 ∧ ∀ b, b ≠ 7 → r.2.1 20 b = h0.1 20 b
theorem s_ul2 : ∀ b, b < 9 → b / 3 * 2 * 6 + b % 3 * 2 = p_ul b := by decide +kernel
theorem y_bi : z_bi (-1) = (-1) := rfl
theorem y_dec (x : Int32) : x + z_bi (-1) = x - nI 1 := by
  have e : (-1 : Int32) = -nI 1 := by decide
  rw [y_bi, e, Int32.sub_eq_add_neg]
