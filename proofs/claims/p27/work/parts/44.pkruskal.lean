/-! ===== Kruskal: the class's tree ===== -/
/-- the heap whose groups (the row o) from the block k on are told anew: those of 'gone' are 'kept' -/
def g_rel (o : Nat) (kept gone : Int32) (k : Nat) (h : z_H) : z_H := (fun a b => if a = o ∧ k ≤ b ∧ b < 9 ∧ h.1 o b = gone then kept else h.1 a b, h.2)
theorem g_rel_step {o : Nat} {kept gone : Int32} {k : Nat} {h : z_H} (hk : k < 9) : g_rel o kept gone (k + 1) (if h.1 o k = gone then z_set h o k kept else h) = g_rel o kept gone k h := by
  by_cases hg : h.1 o k = gone
  · rw [if_pos hg]
    unfold g_rel z_set
    refine Prod.ext ?_ rfl
    funext a b
    by_cases ha : a = o
    · subst ha
      by_cases hb : b = k
      · subst hb
        simp [hg, hk]
      · by_cases h1 : k ≤ b
        · have : k + 1 ≤ b := by omega
          simp [hb, h1, this]
        · have : ¬ k + 1 ≤ b := by omega
          simp [hb, h1, this]
    · simp [ha]
  · rw [if_neg hg]
    unfold g_rel
    refine Prod.ext ?_ rfl
    funext a b
    by_cases ha : a = o
    · subst ha
      by_cases hb : b = k
      · subst hb
        simp [hg]
      · by_cases h1 : k ≤ b
        · have : k + 1 ≤ b := by omega
          simp [h1, this]
        · have : ¬ k + 1 ≤ b := by omega
          simp [h1, this]
    · simp [ha]
theorem g_rel_9 {o : Nat} {kept gone : Int32} {h : z_H} : g_rel o kept gone 9 h = h := by
  unfold g_rel
  refine Prod.ext ?_ rfl
  funext a b
  have : ¬ (9 ≤ b ∧ b < 9) := by omega
  by_cases h1 : 9 ≤ b
  · have : ¬ b < 9 := by omega
    simp [this]
  · simp [h1]
theorem g_join_loop (kept gone : Int32) : ∀ (j k : Nat) (h : z_H) (n : Nat), k + j = 9 → j < n → fn_X0_joinBy_69 n kept gone (nI k) h = (none, g_rel 3 kept gone k h) ∧ tk_X0_joinBy_69 n kept gone (nI k) h
  | 0, k, h, n + 1, hk, hn => by
    have : k = 9 := by omega
    subst this
    unfold fn_X0_joinBy_69 tk_X0_joinBy_69
    dsimp only
    rw [if_pos (nI_le (Nat.le_refl 9) (by decide)), g_rel_9]
    exact ⟨rfl, fun _ => trivial, fun h => absurd (nI_le (Nat.le_refl 9) (by decide)) h⟩
  | j + 1, k, h, n + 1, hk, hn => by
    have hlt : k < 9 := by omega
    have h1 : ¬ nI 9 ≤ nI k := nI_ge hlt (by decide)
    have hcl : (nI k).toNatClampNeg = k := nI_clamp (by omega)
    have hin : vp_in (nI k) 9 := vp_in_nI hlt (by decide)
    unfold fn_X0_joinBy_69 tk_X0_joinBy_69
    dsimp only
    rw [if_neg h1, hcl]
    have ih := fun h' => g_join_loop kept gone j (k + 1) h' n (by omega) (by omega)
    rw [← g_rel_step hlt]
    by_cases hg : h.1 3 k = gone
    · simp only [hg, if_true, fn_X0_joinBy_100, tk_X0_joinBy_100, nI_add]
      have := ih (z_set h 3 k kept)
      exact ⟨this.1, fun h => absurd h h1, fun _ => ⟨hin, fun _ => ⟨hin, this.2⟩, fun h => absurd trivial h⟩⟩
    · simp only [hg, if_false, fn_X0_joinBy_100, tk_X0_joinBy_100, nI_add]
      have := ih h
      exact ⟨this.1, fun h => absurd h h1, fun _ => ⟨hin, fun h => absurd h (fun e => e), fun _ => this.2⟩⟩
