/-! ===== pure: the reference's dig for a feed ===== -/
theorem c_N_le : ∀ r, r ≤ 5 → 4 * (1 + c_N r) + 1 ≤ 11000 := by decide +kernel
theorem y_KM_fr {m : Nat} {wt : Nat → Nat} {s : p_St} {os : List Nat} {h h' : z_H} (hK : y_KM m wt s h) (hf : y_fr os h h') (ho : ∀ a ∈ [20, 21, 22, 23, 24, 25, 26, 27, 28], a ∉ os) : y_KM m wt s h' := by
  obtain ⟨⟨k1, k2⟩, ⟨k3, k4, k5⟩, ⟨k6, k7⟩, ⟨w1, w2, w3, w4, w5⟩, k8⟩ := hK
  have o := fun a (ha : a ∈ [20, 21, 22, 23, 24, 25, 26, 27, 28]) => y_fr_at hf a (ho a ha)
  refine ⟨⟨fun b hb => by rw [o 21 (by decide)]; exact k1 b hb, fun l hl => by rw [o 22 (by decide)]; exact k2 l hl⟩, ⟨by rw [o 20 (by decide)]; exact k3, fun p hp => by rw [o 26 (by decide)]; exact k4 p hp, fun c hc => by rw [o 25 (by decide)]; exact k5 c hc⟩, ⟨fun b hb => by rw [o 24 (by decide)]; exact k6 b hb, fun l hl => by rw [o 23 (by decide)]; exact k7 l hl⟩, ⟨by rw [o 20 (by decide)]; exact w1, by rw [o 20 (by decide)]; exact w2, fun i hi => by rw [o 28 (by decide)]; exact w3 i hi, by rw [o 20 (by decide)]; exact w4, fun i hi => by rw [o 27 (by decide)]; exact w5 i hi⟩, by rw [o 20 (by decide)]; exact k8⟩
