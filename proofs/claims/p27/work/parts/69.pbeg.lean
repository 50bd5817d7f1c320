/-! ===== pure: begin, feed, step on both sides ===== -/
def y_okV (T2 : Prop) (rL rM : z_R) (n : Nat) : Prop := T2 ∧ rM.2.1 20 0 = z_vi rL ∧ y_G (n + 1) rM.2
theorem y_okVE {T2 : Prop} {rL rM : z_R} {k n : Nat} {h : z_H} (hL : rL = (some (.int (nI k)), h)) (hM : y_W T2 rM (fun r => r.2 = z_set h 20 0 (nI k))) (hG : y_G n h) : y_okV T2 rL rM n := by
  obtain ⟨t2, e⟩ := hM
  refine ⟨t2, ?_, ?_⟩
  · rw [e, hL, y_sh]; rfl
  · rw [e]; exact y_G_th hG _
/-! feed -/
