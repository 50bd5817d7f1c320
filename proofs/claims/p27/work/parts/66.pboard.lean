/-! ===== pure: the board's calls, on both sides ===== -/
theorem m_same {m : Nat} {wt : Nat → Nat} {s : p_St} {dd : Bool} {h2 : z_H} (hM2 : y_GM m wt s dd h2) {r : z_R} {v : Int32} (e : r = (some (.int v), z_set h2 20 0 (nI 0))) : r.2.1 20 0 = nI 0 ∧ z_vi r = v ∧ y_GM m wt s dd r.2 ∧ y_fr y_osM h2 r.2 := by
  subst e
  exact ⟨y_sh, rfl, y_GM_th hM2 _, y_fr_set y_fr_refl (by decide)⟩
theorem y_ite_v (b : Bool) : (if (if b = true then nI 1 else nI 0 : Int32) = 0 then nI 0 else nI 1) = (if b = true then nI 1 else nI 0 : Int32) := by
  cases b with
  | true => exact if_neg i1_ne0
  | false => exact if_pos i0_eq0
