/-! ===== pure: the reference's dig ===== -/
/-- what stands still while the trail is dug -/
def r_Dg (m : Nat) (wt : Nat → Nat) (s0 : p_St) (h : z_H) : Prop := y_BM m wt h ∧ h.1 20 12 = nI s0.1.length ∧ h.1 20 8 = nI s0.2.2.length ∧ ∀ i, i < s0.2.2.length → h.1 27 i = nI (s0.2.2.getD i 99)
theorem r_Dg_fz {m : Nat} {wt : Nat → Nat} {s0 : p_St} {l k : Nat} {h h' : z_H} (hD : r_Dg m wt s0 h) (f : r_fz l k h h') : r_Dg m wt s0 h' := ⟨y_BM_fr hD.1 f.2.2.2, by rw [y_fr_at f.2.2.2 20]; exact hD.2.1, by rw [y_fr_at f.2.2.2 20]; exact hD.2.2.1, fun i hi => by rw [y_fr_at f.2.2.2 27]; exact hD.2.2.2 i hi⟩
theorem r_fz33 {l k : Nat} {h : z_H} {v : Int32} : r_fz l k h (z_set h 33 k v) := ⟨fun i _ => by rw [z_set_ne (by decide)], fun i _ => ⟨by rw [z_set_ne (by decide)], by rw [z_set_ne (by decide)], by rw [z_set_ne (by decide)]⟩, fun i hi => y_sk (by omega), y_fr_set y_fr_refl (by decide)⟩
def c_N : Nat → Nat
  | 0 => 1
  | r + 1 => 4 * (1 + c_N r) + 1
theorem p_Df_shift {g : Nat → Nat} {can : Nat → Bool} {c : Nat} : ∀ j z, p_Df (fun d => c + g d) can j (c + z) = c + p_Df g can j z
  | 0, z => rfl
  | j + 1, z => by
    unfold p_Df
    rw [← p_Df_shift j]
    congr 1
    split
    · rw [Nat.add_max_add_left]
    · rfl
theorem p_Df_max {g : Nat → Nat} {can : Nat → Bool} : ∀ j a b, p_Df g can j (max a b) = max a (p_Df g can j b)
  | 0, a, b => rfl
  | j + 1, a, b => by
    unfold p_Df
    rw [← p_Df_max j]
    congr 1
    split
    · rw [Nat.max_assoc]
    · rfl
/-- what is found below a state at the depth k, from the deepest z on -/
def p_Dk (m : Nat) (wt : Nat → Nat) (k r : Nat) (st : p_St) (j z : Nat) : Nat := p_Df (fun d => k + (1 + p_D m wt r (p_adv m wt st d))) (p_can m wt st) j z
theorem p_Dk4 {m : Nat} {wt : Nat → Nat} {k r z : Nat} {st : p_St} (hz : k ≤ z) : p_Dk m wt k r st 4 z = max z (k + p_D m wt (r + 1) st) := by
  unfold p_Dk
  have e : z = max z (k + 0) := by rw [Nat.add_zero, Nat.max_eq_left hz]
  have h1 : p_Df (fun d => k + (1 + p_D m wt r (p_adv m wt st d))) (p_can m wt st) 4 z = p_Df (fun d => k + (1 + p_D m wt r (p_adv m wt st d))) (p_can m wt st) 4 (max z (k + 0)) := by rw [← e]
  rw [h1, p_Df_max, p_Df_shift]
  rfl
theorem p_Dk_le {m : Nat} {wt : Nat → Nat} {k r j z M : Nat} {st : p_St} (hM : k + (r + 1) ≤ M) (hz : z ≤ M) : p_Dk m wt k r st j z ≤ M := p_Df_le (fun d => by have := p_D_le (m := m) (wt := wt) r (p_adv m wt st d); omega) j z hz
theorem p_Dk_top {m : Nat} {wt : Nat → Nat} {k r j M : Nat} {st : p_St} (hM : k + (r + 1) ≤ M) : p_Dk m wt k r st j M = M := p_Df_top (fun d => by have := p_D_le (m := m) (wt := wt) r (p_adv m wt st d); omega) j
