/-! ===== pure: the reference's player ===== -/
theorem p_ext_dl {m : Nat} {wt : Nat → Nat} : ∀ (B : List Nat), 2 ≤ B.length → p_ext m wt B.dropLast + p_far m wt (B.getD (B.length - 1) 99) (B.getD (B.length - 2) 99) = p_ext m wt B
  | [], h => by simp at h
  | [_], h => by simp at h
  | [a, b], _ => by
    show p_ext m wt [a] + p_far m wt b a = p_far m wt b a + p_ext m wt [b]
    simp [p_ext]
  | a :: b :: c :: L, _ => by
    have ih := p_ext_dl (m := m) (wt := wt) (b :: c :: L) (by simp)
    show p_ext m wt (a :: b :: (c :: L).dropLast) + p_far m wt ((a :: b :: c :: L).getD ((a :: b :: c :: L).length - 1) 99) ((a :: b :: c :: L).getD ((a :: b :: c :: L).length - 2) 99) = p_far m wt b a + p_ext m wt (b :: c :: L)
    have e1 : (a :: b :: c :: L).getD ((a :: b :: c :: L).length - 1) 99 = (b :: c :: L).getD ((b :: c :: L).length - 1) 99 := by simp
    have e2 : (a :: b :: c :: L).getD ((a :: b :: c :: L).length - 2) 99 = (b :: c :: L).getD ((b :: c :: L).length - 2) 99 := by
      have : (a :: b :: c :: L).length - 2 = ((b :: c :: L).length - 2) + 1 := by simp
      rw [this, List.getD_cons_succ]
    rw [e1, e2, ← ih]
    show p_far m wt b a + p_ext m wt (b :: (c :: L).dropLast) + _ = _
    have e3 : (b :: c :: L).dropLast = b :: (c :: L).dropLast := rfl
    rw [e3]
    omega
/-- the extent behind a step -/
theorem p_ext_adv {m : Nat} {wt : Nat → Nat} {s : p_St} (ws : y_ws m s) (d : Nat) : p_ext m wt (p_adv m wt s d).1 = if s.1.length = 1 ∧ s.2.1 = 0 then 0 else p_ext m wt s.1 - (if 0 < s.2.1 ∨ s.1.length = 1 then 0 else p_far m wt (s.1.getD (s.1.length - 1) 99) (s.1.getD (s.1.length - 2) 99)) + p_far m wt (s.1.getD 0 99) (p_to m wt s d) := by
  have hl := y_ws_len ws
  have hsl := p_st_len s
  show p_ext m wt (p_to m wt s d :: p_st s) = _
  have hcons : ∀ L : List Nat, L ≠ [] → L.getD 0 99 = s.1.getD 0 99 → p_ext m wt (p_to m wt s d :: L) = p_far m wt (s.1.getD 0 99) (p_to m wt s d) + p_ext m wt L := by
    intro L hL he
    cases L with
    | nil => exact absurd rfl hL
    | cons a L => rw [← he]; rfl
  by_cases g : 0 < s.2.1
  · have e : p_st s = s.1 := by unfold p_st; rw [if_pos g]
    rw [if_neg (by omega), if_pos (Or.inl g), e, hcons _ ws.1 rfl]
    omega
  · have e : p_st s = s.1.dropLast := by unfold p_st; rw [if_neg g]
    rw [if_neg g] at hsl
    by_cases l1 : s.1.length = 1
    · rw [if_pos ⟨l1, by omega⟩]
      have : p_st s = [] := List.eq_nil_of_length_eq_zero (by omega)
      rw [this]; rfl
    · rw [if_neg (by omega), if_neg (by omega)]
      have hne : p_st s ≠ [] := fun z => by rw [z] at hsl; simp at hsl; omega
      rw [hcons _ hne (p_st_getD (by omega)), e]
      have := p_ext_dl (m := m) (wt := wt) s.1 (by omega)
      omega
/-! the player's steps -/
def p_play (m : Nat) (wt : Nat → Nat) : Nat → p_St → Nat × p_St
  | 0, s => (0, s)
  | k + 1, s => if p_chs m wt s 4 = 99 then (0, s) else ((p_play m wt k (p_adv m wt s (p_chs m wt s 4))).1 + 1, (p_play m wt k (p_adv m wt s (p_chs m wt s 4))).2)
