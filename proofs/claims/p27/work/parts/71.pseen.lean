/-! ===== pure: what is foreseen, on both sides ===== -/
theorem k_nO_GC {os : List Nat} {m : Nat} {wt : Nat → Nat} {s s' : p_St} {dd : Bool} {hd hd' f0 f0' : Nat} {h h' : z_H} (hC : y_GC m wt s dd hd f0 h) (hR : y_RC m wt s' hd' f0' h') (hn : k_nO os h h') (ho : ∀ a ∈ [1, 3, 4, 5, 6], a ∉ os) : y_GC m wt s' dd hd' f0' h' := ⟨⟨hR, y_CC_fr hC.1.2.1 hn.1 (ho 4 (by decide)) (ho 5 (by decide)) (ho 6 (by decide)), y_TC_fr hC.1.2.2 hn.1 (ho 1 (by decide)) (ho 3 (by decide))⟩, by rw [hn.2 8 (by decide) (by decide) (by decide)]; exact hC.2⟩
/-! calls that never throw -/
theorem B_nums {n : Nat} {h : z_H} (hG : y_G n h) : z_vi0 (fn_X7_length h) = h.1 20 12 ∧ z_vi0 (fn_X7_owed h) = h.1 20 13 ∧ z_vi0 (fn_X7_feeds h) = h.1 20 8 := by
  obtain ⟨m, wt, s, dd, hd, f0, hw, hg, hC, hM⟩ := hG
  obtain ⟨w1, w2, w3, w4, w5⟩ := hM.1.2.2.2.1
  refine ⟨?_, ?_, ?_⟩
  · show h.1 10 5 = _
    rw [w1]; exact hC.1.1.2.1.2.2.1
  · show h.1 10 6 = _
    rw [w2]; exact hC.1.1.2.1.2.2.2.1
  · show h.1 8 2 = _
    rw [w4]; exact hC.1.1.2.2.2.2.1
