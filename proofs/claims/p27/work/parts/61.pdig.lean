/-! ===== pure: the reference's search on the trail ===== -/
/-- a state at a depth of the trail -/
def r_Cf (s0 st : p_St) (k ta ea : Nat) (h : z_H) : Prop := h.1 30 k = nI ta ∧ h.1 31 k = nI st.2.1 ∧ h.1 32 k = nI ea ∧ (∀ i, i < st.1.length → h.1 29 (s0.1.length + k - 1 - i) = nI (st.1.getD i 99)) ∧ ta + st.1.length = s0.1.length + k ∧ st.2.2 = s0.2.2.drop ea ∧ ea ≤ s0.2.2.length
def r_fz (l k : Nat) (h h' : z_H) : Prop := (∀ i, i < l + k → h'.1 29 i = h.1 29 i) ∧ (∀ i, i ≤ k → h'.1 30 i = h.1 30 i ∧ h'.1 31 i = h.1 31 i ∧ h'.1 32 i = h.1 32 i) ∧ (∀ i, i < k → h'.1 33 i = h.1 33 i) ∧ y_fr [29, 30, 31, 32, 33] h h'
theorem r_fz_refl {l k : Nat} {h : z_H} : r_fz l k h h := ⟨fun _ _ => rfl, fun _ _ => ⟨rfl, rfl, rfl⟩, fun _ _ => rfl, y_fr_refl⟩
theorem r_fz_trans {l k : Nat} {h h' h'' : z_H} (f : r_fz l k h h') (g : r_fz l k h' h'') : r_fz l k h h'' := ⟨fun i hi => (g.1 i hi).trans (f.1 i hi), fun i hi => ⟨(g.2.1 i hi).1.trans (f.2.1 i hi).1, (g.2.1 i hi).2.1.trans (f.2.1 i hi).2.1, (g.2.1 i hi).2.2.trans (f.2.1 i hi).2.2⟩, fun i hi => (g.2.2.1 i hi).trans (f.2.2.1 i hi), y_fr_trans f.2.2.2 g.2.2.2⟩
theorem r_fz_up {l k : Nat} {h h' : z_H} (f : r_fz l (k + 1) h h') : r_fz l k h h' := ⟨fun i hi => f.1 i (by omega), fun i hi => f.2.1 i (by omega), fun i hi => f.2.2.1 i (by omega), f.2.2.2⟩
theorem r_Cf_fz {s0 st : p_St} {k ta ea : Nat} {h h' : z_H} (hC : r_Cf s0 st k ta ea h) (hl : 0 < s0.1.length) (f : r_fz s0.1.length k h h') : r_Cf s0 st k ta ea h' := by
  obtain ⟨c1, c2, c3, c4, c5, c6, c7⟩ := hC
  obtain ⟨g1, g2, g3⟩ := f.2.1 k (Nat.le_refl k)
  exact ⟨g1.trans c1, g2.trans c2, g3.trans c3, fun i hi => by rw [f.1 _ (by omega)]; exact c4 i hi, c5, c6, c7⟩
