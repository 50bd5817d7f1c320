/-! ===== pure: the board's calls, on both sides ===== -/
theorem m_same {m : Nat} {wt : Nat → Nat} {s : p_St} {dd : Bool} {h2 : z_H} (hM2 : y_GM m wt s dd h2) {r : z_R} {v : Int32} (e : r = (some (.int v), z_set h2 20 0 (nI 0))) : r.2.1 20 0 = nI 0 ∧ z_vi r = v ∧ y_GM m wt s dd r.2 ∧ y_fr y_osM h2 r.2 := by
  subst e
  exact ⟨y_sh, rfl, y_GM_th hM2 _, y_fr_set y_fr_refl (by decide)⟩
theorem r_cellE {x : Int32} (hx : x < 0 ∨ nI 36 ≤ x) : fv_X8_isCell x = nI 0 := by
  unfold fv_X8_isCell
  rcases hx with hx | hx
  · exact i_lo hx 35
  · exact i_hi (by decide) hx (by decide)
theorem r_cellO {j : Nat} (hj : j < 36) : fv_X8_isCell (nI j) = nI 1 := i_in (Nat.zero_le j) (by omega) (by decide)
theorem r_rngE {x : Int32} {n : Nat} (hn : n + 1 < 2 ^ 31) (hx : x < 0 ∨ nI (n + 1) ≤ x) : fv_X8_in x (nI 0) (nI n) = nI 0 := by
  rcases hx with hx | hx
  · exact i_lo hx n
  · exact i_hi hn hx (Nat.zero_le n)
theorem y_ite_v (b : Bool) : (if (if b = true then nI 1 else nI 0 : Int32) = 0 then nI 0 else nI 1) = (if b = true then nI 1 else nI 0 : Int32) := by
  cases b with
  | true => exact if_neg i1_ne0
  | false => exact if_pos i0_eq0
theorem B_isWall {n : Nat} {h : z_H} (hG : y_G n h) (x : Int32) : y_okB True (tk_X8_isWall x (fn_L_isWall x h).2) (fn_L_isWall x h) (fn_X8_isWall x (fn_L_isWall x h).2) n := by
  have hG' := hG
  obtain ⟨m, wt, s, dd, hd, f0, hw, hg, hC, hM⟩ := hG
  have err : (x < 0 ∨ nI 36 ≤ x) → y_okB True (tk_X8_isWall x (fn_L_isWall x h).2) (fn_L_isWall x h) (fn_X8_isWall x (fn_L_isWall x h).2) n := by
    intro hx
    have hL : fn_L_isWall x h = (some (.int (nI 1)), h) := by
      unfold fn_L_isWall fn_X7_isWall
      rw [c_cellE hx]; rfl
    refine y_okBE (k := 1) (by decide) (by decide) trivial hL ?_ hG'
    rw [hL]
    unfold tk_X8_isWall fn_X8_isWall tk_X8_isWall_13 fn_X8_isWall_13
    rw [r_cellE hx]
    exact y_pos rfl (gw_ill (by decide) (by decide))
  rcases pk_ix x (n := 36) (by decide) with hx | hx | ⟨j, hj, rfl⟩
  · exact err (Or.inl hx)
  · exact err (Or.inr hx)
  · obtain ⟨b1, b2, b9⟩ := s_blk _ hj
    have hL : fn_L_isWall (nI j) h = (some (.int (nI 0)), z_setL h 35 ((nI 0).toNatClampNeg) (if m.testBit (p_blk j) = true then nI 1 else nI 0 : Int32).toInt64) := by
      unfold fn_L_isWall fn_X7_isWall
      rw [c_cellO hj]
      show (if fv_X0_hasWallOn h (fv_X0_blockOf (nI j)) = 0 then _ else _) = _
      rw [b1, k_wallv hC.1.1.1 b9]
      exact y_bool _ _ _
    refine y_okBO (h1 := h) trivial hL hw (y_wg_s hg) hC hM y_fr_refl (fun h2 hM2 hC2 e => ?_)
    rw [e]
    unfold tk_X8_isWall fn_X8_isWall tk_X8_isWall_13 fn_X8_isWall_13
    rw [r_cellO hj]
    refine y_neg i1_ne0 (gw_well ⟨by rw [b2]; exact vp_in_nI b9 (by decide), m_same hM2 ?_⟩)
    rw [gw_h, z_set_ne (by decide), b2, nI_clamp (by omega), hM2.1.1.1 _ b9]
    cases m.testBit (p_blk j) with
    | true => exact if_neg i1_ne0
    | false => exact if_pos i0_eq0
theorem B_isInTree {n : Nat} {h : z_H} (hG : y_G n h) (x : Int32) : y_okB True (tk_X8_isInTree x (fn_L_isInTree x h).2) (fn_L_isInTree x h) (fn_X8_isInTree x (fn_L_isInTree x h).2) n := by
  have hG' := hG
  obtain ⟨m, wt, s, dd, hd, f0, hw, hg, hC, hM⟩ := hG
  have err : (x < 0 ∨ nI 12 ≤ x) → y_okB True (tk_X8_isInTree x (fn_L_isInTree x h).2) (fn_L_isInTree x h) (fn_X8_isInTree x (fn_L_isInTree x h).2) n := by
    intro hx
    have hL : fn_L_isInTree x h = (some (.int (nI 1)), h) := by
      unfold fn_L_isInTree fn_X7_isInTree
      rw [c_linkE hx]; rfl
    refine y_okBE (k := 1) (by decide) (by decide) trivial hL ?_ hG'
    rw [hL]
    unfold tk_X8_isInTree fn_X8_isInTree tk_X8_isInTree_16 fn_X8_isInTree_16
    rw [r_rngE (n := 11) (by decide) hx]
    exact y_pos rfl (gw_ill (by decide) (by decide))
  rcases pk_ix x (n := 12) (by decide) with hx | hx | ⟨j, hj, rfl⟩
  · exact err (Or.inl hx)
  · exact err (Or.inr hx)
  · have ht := k_tree hC.1.2.2 (Or.inl hj) (p_T99 (m := m) (wt := wt) (by decide : ¬ 99 < 12))
    rw [p_i_n (by omega)] at ht
    have hL : fn_L_isInTree (nI j) h = (some (.int (nI 0)), z_setL h 35 ((nI 0).toNatClampNeg) (if (p_gT m wt).2 j = true then nI 1 else nI 0 : Int32).toInt64) := by
      unfold fn_L_isInTree fn_X7_isInTree
      rw [c_linkO hj]
      show (if fv_X0_treeHas h (nI j) = 0 then _ else _) = _
      rw [ht]
      exact y_bool _ _ _
    refine y_okBO (h1 := h) trivial hL hw (y_wg_s hg) hC hM y_fr_refl (fun h2 hM2 hC2 e => ?_)
    rw [e]
    unfold tk_X8_isInTree fn_X8_isInTree tk_X8_isInTree_16 fn_X8_isInTree_16
    rw [i_in (Nat.zero_le j) (by omega : j ≤ 11) (by decide)]
    refine y_neg i1_ne0 (gw_well ⟨vp_in_nI hj (by decide), m_same hM2 ?_⟩)
    rw [gw_h, z_set_ne (by decide), nI_clamp (by omega), hM2.1.2.2.1.2 _ hj]
    cases (p_gT m wt).2 j with
    | true => exact if_neg i1_ne0
    | false => exact if_pos i0_eq0
theorem B_placeOf {n : Nat} {h : z_H} (hG : y_G n h) (x : Int32) : y_ok True (tk_X8_placeOf x (fn_L_placeOf x h).2) (fn_L_placeOf x h) (fn_X8_placeOf x (fn_L_placeOf x h).2) n := by
  have hG' := hG
  obtain ⟨m, wt, s, dd, hd, f0, hw, hg, hC, hM⟩ := hG
  have hN36 := p_N_le (m := m) (wt := wt)
  have err : (x < 0 ∨ nI 36 ≤ x) → y_ok True (tk_X8_placeOf x (fn_L_placeOf x h).2) (fn_L_placeOf x h) (fn_X8_placeOf x (fn_L_placeOf x h).2) n := by
    intro hx
    have hL : fn_L_placeOf x h = (some (.int (nI 1)), h) := by
      unfold fn_L_placeOf fn_X7_placeOf
      rw [c_cellE hx]
      rfl
    refine y_okE (k := 1) (by decide) (by decide) trivial hL ?_ hG'
    rw [hL]
    unfold tk_X8_placeOf fn_X8_placeOf tk_X8_placeOf_24 fn_X8_placeOf_24
    rw [r_cellE hx]
    exact y_pos rfl (gw_ill (by decide) (by decide))
  rcases pk_ix x (n := 36) (by decide) with hx | hx | ⟨j, hj, rfl⟩
  · exact err (Or.inl hx)
  · exact err (Or.inr hx)
  · by_cases hN : p_N m wt = 0
    · have hL : fn_L_placeOf (nI j) h = (some (.int (nI 2)), h) := by
        unfold fn_L_placeOf fn_X7_placeOf
        rw [c_cellO hj, c_cycE hC.1.2.1 hN]
        rfl
      refine y_okE (k := 2) (by decide) (by decide) trivial hL ?_ hG'
      rw [hL]
      unfold tk_X8_placeOf fn_X8_placeOf tk_X8_placeOf_24 fn_X8_placeOf_24
      rw [r_cellO hj, hM.1.2.1.1, hN]
      exact y_neg i1_ne0 (y_pos rfl (gw_ill (by decide) (by decide)))
    · have hL : fn_L_placeOf (nI j) h = (some (.int (nI 0)), z_setL h 35 ((nI 0).toNatClampNeg) (p_i (p_plc m wt j)).toInt64) := by
        unfold fn_L_placeOf fn_X7_placeOf
        rw [c_cellO hj, c_cycO hC.1.2.1 (by omega)]
        show ((some (.int (nI 0)), z_setL h 35 ((nI 0).toNatClampNeg) (z_atv h 6 36 (nI j)).toInt64) : z_R) = _
        rw [y_atv hj, hC.1.2.1.2.2 _ hj]
      refine y_okO (h1 := h) trivial hL hw (y_wg_s hg) hC hM y_fr_refl (fun h2 hM2 hC2 e => ?_)
      rw [e]
      unfold tk_X8_placeOf fn_X8_placeOf tk_X8_placeOf_24 fn_X8_placeOf_24
      rw [r_cellO hj, hM2.1.2.1.1]
      refine y_neg i1_ne0 (y_neg (nI_ne0 (by omega) (by omega)) (gw_well ⟨vp_in_nI hj (by decide), m_same hM2 ?_⟩))
      rw [gw_h, z_set_ne (by decide), nI_clamp (by omega), hM2.1.2.1.2.2 _ hj]
/-- the reference's cell at a place -/
theorem r_at {m : Nat} {wt : Nat → Nat} {s : p_St} {dd : Bool} {h : z_H} (hM : y_GM m wt s dd h) (x : Int32) : (p_N m wt = 0 → y_W (tk_X8_cellAtByRings x h) (fn_X8_cellAtByRings x h) (fun r => r.2 = z_set h 20 0 (nI 1))) ∧ (0 < p_N m wt → (x < 0 ∨ nI (p_N m wt) ≤ x) → y_W (tk_X8_cellAtByRings x h) (fn_X8_cellAtByRings x h) (fun r => r.2 = z_set h 20 0 (nI 2))) ∧ (∀ j, j < p_N m wt → x = nI j → y_W (tk_X8_cellAtByRings x h) (fn_X8_cellAtByRings x h) (fun r => r = (some (.int (nI (p_ord m wt j))), z_set h 20 0 (nI 0)))) := by
  have hN36 := p_N_le (m := m) (wt := wt)
  unfold tk_X8_cellAtByRings fn_X8_cellAtByRings tk_X8_cellAtByRings_31 fn_X8_cellAtByRings_31
  rw [hM.1.2.1.1]
  refine ⟨fun hN => ?_, fun hN hx => ?_, fun j hj e => ?_⟩
  · rw [hN]
    exact y_pos rfl (gw_ill (by decide) (by decide))
  · rw [pk_sub (by omega)]
    refine y_neg (nI_ne0 hN (by omega)) ?_
    rw [r_rngE (n := p_N m wt - 1) (by omega) (by rw [show p_N m wt - 1 + 1 = p_N m wt by omega]; exact hx)]
    exact y_pos rfl (gw_ill (by decide) (by decide))
  · subst e
    rw [pk_sub (by omega), i_in (Nat.zero_le j) (by omega : j ≤ p_N m wt - 1) (by omega)]
    refine y_neg (nI_ne0 (by omega) (by omega)) (y_neg i1_ne0 (gw_well ⟨vp_in_nI (by omega) (by decide), ?_⟩))
    rw [gw_h, z_set_ne (by decide), nI_clamp (by omega), hM.1.2.1.2.1 _ hj]
theorem B_cellAt {n : Nat} {h : z_H} (hG : y_G n h) (x : Int32) : y_ok True (tk_X8_cellAt x (fn_L_cellAt x h).2) (fn_L_cellAt x h) (fn_X8_cellAt x (fn_L_cellAt x h).2) n := by
  have hG' := hG
  obtain ⟨m, wt, s, dd, hd, f0, hw, hg, hC, hM⟩ := hG
  have hN36 := p_N_le (m := m) (wt := wt)
  unfold tk_X8_cellAt fn_X8_cellAt
  by_cases hN : p_N m wt = 0
  · have hL : fn_L_cellAt x h = (some (.int (nI 1)), h) := by
      unfold fn_L_cellAt fn_X7_cellAt
      rw [c_cycE hC.1.2.1 hN]
      rfl
    refine y_okE (k := 1) (by decide) (by decide) trivial hL ?_ hG'
    rw [hL]
    obtain ⟨t, q⟩ := (r_at hM x).1 hN
    exact ⟨t, q⟩
  · have hN0 : 0 < p_N m wt := by omega
    have err : (x < 0 ∨ nI (p_N m wt) ≤ x) → y_ok True (tk_X8_cellAtByRings x (fn_L_cellAt x h).2) (fn_L_cellAt x h) (some (.int (z_vi (fn_X8_cellAtByRings x (fn_L_cellAt x h).2))), (fn_X8_cellAtByRings x (fn_L_cellAt x h).2).2) n := by
      intro hx
      have hL : fn_L_cellAt x h = (some (.int (nI 2)), h) := by
        unfold fn_L_cellAt fn_X7_cellAt
        rw [c_cycO hC.1.2.1 hN0, c_plcE hC.1.2.1 hx]
        rfl
      refine y_okE (k := 2) (by decide) (by decide) trivial hL ?_ hG'
      rw [hL]
      obtain ⟨t, q⟩ := (r_at hM x).2.1 hN0 hx
      exact ⟨t, q⟩
    rcases pk_ix x (n := p_N m wt) (by omega) with hx | hx | ⟨j, hj, rfl⟩
    · exact err (Or.inl hx)
    · exact err (Or.inr hx)
    · have hL : fn_L_cellAt (nI j) h = (some (.int (nI 0)), z_setL h 35 ((nI 0).toNatClampNeg) (nI (p_ord m wt j)).toInt64) := by
        unfold fn_L_cellAt fn_X7_cellAt
        rw [c_cycO hC.1.2.1 hN0, c_plcO hC.1.2.1 hj]
        show ((some (.int (nI 0)), z_setL h 35 ((nI 0).toNatClampNeg) (z_atv h 5 36 (nI j)).toInt64) : z_R) = _
        rw [y_atv (by omega), hC.1.2.1.2.1 _ hj]
      refine y_okO (h1 := h) trivial hL hw (y_wg_s hg) hC hM y_fr_refl (fun h2 hM2 hC2 e => ?_)
      rw [e]
      obtain ⟨t, q⟩ := (r_at hM2 (nI j)).2.2 j hj rfl
      refine ⟨t, m_same hM2 ?_⟩
      rw [q]; rfl
theorem B_rings {n : Nat} {h : z_H} (hG : y_G n h) (x : Int32) : y_ok (tk_L_cellAtByRings x h) (tk_X8_cellAtByRings x (fn_L_cellAtByRings x h).2) (fn_L_cellAtByRings x h) (fn_X8_cellAtByRings x (fn_L_cellAtByRings x h).2) n := by
  have hG' := hG
  obtain ⟨m, wt, s, dd, hd, f0, hw, hg, hC, hM⟩ := hG
  have hN36 := p_N_le (m := m) (wt := wt)
  by_cases hN : p_N m wt = 0
  · have hL : fn_L_cellAtByRings x h = (some (.int (nI 1)), h) := by
      unfold fn_L_cellAtByRings fn_X7_cellAtByRings
      rw [c_cycE hC.1.2.1 hN]
      rfl
    refine y_okE (k := 1) (by decide) (by decide) (fun rx q => by rw [c_cycE hC.1.2.1 hN] at q; cases q) hL ?_ hG'
    rw [hL]
    exact (r_at hM x).1 hN
  · have hN0 : 0 < p_N m wt := by omega
    have err : (x < 0 ∨ nI (p_N m wt) ≤ x) → y_ok (tk_L_cellAtByRings x h) (tk_X8_cellAtByRings x (fn_L_cellAtByRings x h).2) (fn_L_cellAtByRings x h) (fn_X8_cellAtByRings x (fn_L_cellAtByRings x h).2) n := by
      intro hx
      have hL : fn_L_cellAtByRings x h = (some (.int (nI 2)), h) := by
        unfold fn_L_cellAtByRings fn_X7_cellAtByRings
        rw [c_cycO hC.1.2.1 hN0, c_plcE hC.1.2.1 hx]
        rfl
      refine y_okE (k := 2) (by decide) (by decide) (fun rx q rx2 q2 => by rw [c_plcE hC.1.2.1 hx] at q2; cases q2) hL ?_ hG'
      rw [hL]
      exact (r_at hM x).2.1 hN0 hx
    rcases pk_ix x (n := p_N m wt) (by omega) with hx | hx | ⟨j, hj, rfl⟩
    · exact err (Or.inl hx)
    · exact err (Or.inr hx)
    · obtain ⟨R1, R2, R3⟩ := c_rings hw.1 hj hC.1.1.1 hC.1.2.2
      have hL : fn_L_cellAtByRings (nI j) h = (some (.int (nI 0)), z_setL (fn_X2_cellByRings (nI j) h).2 35 ((nI 0).toNatClampNeg) (nI (p_ord m wt j)).toInt64) := by
        unfold fn_L_cellAtByRings fn_X7_cellAtByRings
        rw [c_cycO hC.1.2.1 hN0, c_plcO hC.1.2.1 hj]
        show ((some (.int (nI 0)), z_setL (fn_X2_cellByRings (nI j) h).2 35 ((nI 0).toNatClampNeg) (z_vi (fn_X2_cellByRings (nI j) h)).toInt64) : z_R) = _
        rw [R2]
      refine y_okO (fun rx q rx2 q2 => R1) hL hw (y_wg_s hg) (y_GC_fr hC R3 (by decide)) hM (y_fr_mono R3 (by decide)) (fun h2 hM2 hC2 e => ?_)
      rw [e]
      exact y_mono ((r_at hM2 (nI j)).2.2 j hj rfl) (fun q => m_same hM2 q)
