/-! ===== pure: the reference's worm ===== -/
def y_WM (s : p_St) (h : z_H) : Prop := h.1 20 12 = nI s.1.length ∧ h.1 20 13 = nI s.2.1 ∧ (∀ i, i < s.1.length → h.1 28 i = nI (s.1.getD i 99)) ∧ h.1 20 8 = nI s.2.2.length ∧ ∀ i, i < s.2.2.length → h.1 27 i = nI (s.2.2.getD i 99)
def y_KM (m : Nat) (wt : Nat → Nat) (s : p_St) (h : z_H) : Prop := y_BM m wt h ∧ y_CM m wt h ∧ y_TM (p_gT m wt) h ∧ y_WM s h ∧ h.1 20 10 = if 0 < s.1.length then nI 1 else nI 0
/-- all of the heap but what a step of the reference changes -/
def r_near (h h' : z_H) : Prop := y_fr [20, 27, 28] h h' ∧ ∀ b, b ≠ 8 → b ≠ 12 → b ≠ 13 → h'.1 20 b = h.1 20 b
theorem r_near_refl (h : z_H) : r_near h h := ⟨y_fr_refl, fun _ _ _ _ => rfl⟩
theorem r_near_trans {h h' h'' : z_H} (f : r_near h h') (g : r_near h' h'') : r_near h h'' := ⟨y_fr_trans f.1 g.1, fun b h1 h2 h3 => (g.2 b h1 h2 h3).trans (f.2 b h1 h2 h3)⟩
theorem r_near_K {m : Nat} {wt : Nat → Nat} {s s' : p_St} {h h' : z_H} (hK : y_KM m wt s h) (hl : 0 < s.1.length) (hl' : 0 < s'.1.length) (hn : r_near h h') (hW : y_WM s' h') : y_KM m wt s' h' := by
  obtain ⟨k1, k2, k3, k4, k5⟩ := hK
  refine ⟨y_BM_fr k1 hn.1, ⟨by rw [hn.2 7 (by decide) (by decide) (by decide)]; exact k2.1, fun p hp => by rw [y_fr_at hn.1 26]; exact k2.2.1 p hp, fun c hc => by rw [y_fr_at hn.1 25]; exact k2.2.2 c hc⟩, y_TM_fr k3 hn.1, hW, ?_⟩
  rw [hn.2 10 (by decide) (by decide) (by decide), k5, if_pos hl, if_pos hl']
theorem nI_c0 : (nI 0).toNatClampNeg = 0 := nI_clamp (by decide)
theorem p_st_ex (s : p_St) (t : Nat) : (∃ i, i < (p_st s).length ∧ s.1.getD i 99 = t) ↔ t ∈ p_st s := by
  constructor
  · rintro ⟨i, h1, h2⟩
    rw [← p_st_getD h1] at h2
    rw [← h2]
    exact y_getD_mem h1
  · intro h
    obtain ⟨i, hi, e⟩ := List.getElem_of_mem h
    refine ⟨i, hi, ?_⟩
    rw [← p_st_getD hi, List.getD_eq_getElem?_getD, List.getElem?_eq_getElem hi, e]
    rfl
theorem r_head {m : Nat} {wt : Nat → Nat} {s : p_St} {h : z_H} (hK : y_KM m wt s h) (ws : y_ws m s) : h.1 28 ((nI 0).toNatClampNeg) = nI (s.1.getD 0 99) := by
  rw [nI_c0]
  exact hK.2.2.2.1.2.2.1 0 (y_ws_len ws).1
