/-! ===== pure: the reference's layTree ===== -/
def y_TMk (m : Nat) (wt : Nat → Nat) (k : Nat) (h : z_H) : Prop := (∀ b, b < 9 → h.1 24 b = nI ((p_kr m wt k).1 b)) ∧ ∀ l, l < 12 → (wt l = 99 ∧ l < k ∨ wt l ≠ 99 ∧ wt l * 12 + l < k) → h.1 23 l = if (p_kr m wt k).2 l = true then nI 1 else nI 0
def g_Sm (m : Nat) (wt : Nat → Nat) (k : Nat) (h0 h : z_H) : Prop := y_BM m wt h ∧ y_TMk m wt k h ∧ y_fr [23, 24] h0 h
theorem y_BM_fr {m : Nat} {wt : Nat → Nat} {os : List Nat} {h h' : z_H} (hB : y_BM m wt h) (hF : y_fr os h h') (h1 : 21 ∉ os := by decide) (h2 : 22 ∉ os := by decide) : y_BM m wt h' := ⟨fun b hb => by rw [y_fr_at hF 21 h1]; exact hB.1 b hb, fun l hl => by rw [y_fr_at hF 22 h2]; exact hB.2 l hl⟩
theorem y_BM0 {m : Nat} {wt : Nat → Nat} {h : z_H} (hB : y_BM m wt h) {b : Nat} (hb : b < 9) : h.1 21 b = 0 ↔ m.testBit b = false := by
  rw [hB.1 b hb]
  cases m.testBit b with
  | true => exact ⟨fun z => absurd z (by decide), fun z => absurd z (by decide)⟩
  | false => exact ⟨fun _ => rfl, fun _ => rfl⟩
theorem p_kr_s (m : Nat) (wt : Nat → Nat) (k : Nat) : p_kr m wt (k + 1) = p_ks m wt k (p_kr m wt k) := rfl
