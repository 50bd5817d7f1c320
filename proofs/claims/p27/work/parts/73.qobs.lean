/-! ===== p27, pure: what an object of the class shows ===== -/
theorem n_cell {j : Nat} (h : z_H) (hj : j < 36) : tk_X7_checkCell_n (nI j) h := ⟨fun z => absurd z (nI_pos (by omega)), fun _ => ⟨fun _ => trivial, fun z => absurd (nI_lt hj (by decide)) z⟩⟩
theorem n_link {j : Nat} (h : z_H) (hj : j < 12) : tk_X7_checkLink_n (nI j) h := ⟨fun z => absurd z (nI_pos (by omega)), fun _ => ⟨fun _ => trivial, fun z => absurd (nI_lt hj (by decide)) z⟩⟩
theorem n_dir {j : Nat} (h : z_H) (hj : j < 4) : tk_X7_checkDirection_n (nI j) h := ⟨fun z => absurd z (nI_pos (by omega)), fun _ => ⟨fun _ => trivial, fun z => absurd (nI_lt hj (by decide)) z⟩⟩
theorem n_thereC {m : Nat} {wt : Nat → Nat} {h : z_H} (hC : y_CC m wt h) : fv_X2_isThere h = if 0 < p_N m wt then nI 1 else nI 0 := by
  have := p_N_le (m := m) (wt := wt)
  unfold fv_X2_isThere
  rw [hC.1]
  by_cases e : 0 < p_N m wt
  · rw [if_neg (nI_nle e (by omega)), if_pos e]
  · have e0 : p_N m wt = 0 := by omega
    rw [if_neg e, e0]; rfl
theorem n_cyc {m : Nat} {wt : Nat → Nat} {h : z_H} (hC : y_CC m wt h) (hN : 0 < p_N m wt) : tk_X7_checkCycle_n h := by
  unfold tk_X7_checkCycle_n
  rw [n_thereC hC, if_pos hN]
  exact ⟨fun z => absurd z i1_ne0, fun _ => trivial⟩
theorem n_plc {m : Nat} {wt : Nat → Nat} {j : Nat} {h : z_H} (hC : y_CC m wt h) (hj : j < p_N m wt) : tk_X7_checkPlaceOfCycle_n (nI j) h := by
  have := p_N_le (m := m) (wt := wt)
  unfold tk_X7_checkPlaceOfCycle_n
  rw [hC.1]
  exact ⟨fun z => absurd z (nI_pos (by omega)), fun _ => ⟨fun _ => trivial, fun z => absurd (nI_lt hj (by omega)) z⟩⟩
section QO
variable {m : Nat} {wt : Nat → Nat} {s : p_St} {dd : Bool} {hd f0 : Nat} {h : z_H}
theorem n_liv (hG : y_GC m wt s dd hd f0 h) (hl : s.1.length ≤ 36) (hn : 0 < s.1.length ∧ dd = false) : tk_X7_checkLivingWorm_n h := by
  unfold tk_X7_checkLivingWorm_n
  rw [c_living hG hl, if_pos hn]
  exact ⟨fun z => absurd z i1_ne0, fun _ => trivial⟩
theorem O_isWall (hC : y_GC m wt s dd hd f0 h) {c : Nat} (hc : c < 36) : tk_X7_isWall_n (nI c) h ∧ z_vi0 (fn_X7_isWall_n (nI c) h) = if m.testBit (p_blk c) = true then nI 1 else nI 0 := by
  obtain ⟨b1, -, b9⟩ := s_blk _ hc
  refine ⟨n_cell h hc, ?_⟩
  show fv_X0_hasWallOn h (fv_X0_blockOf (nI c)) = _
  rw [b1, k_wallv hC.1.1.1 b9]
theorem O_isInTree (hC : y_GC m wt s dd hd f0 h) {l : Nat} (hl : l < 12) : tk_X7_isInTree_n (nI l) h ∧ z_vi0 (fn_X7_isInTree_n (nI l) h) = if (p_gT m wt).2 l = true then nI 1 else nI 0 := by
  have ht := k_tree hC.1.2.2 (Or.inl hl) (p_T99 (m := m) (wt := wt) (by decide : ¬ 99 < 12))
  rw [p_i_n (by omega)] at ht
  exact ⟨n_link h hl, ht⟩
theorem O_cyc (hC : y_GC m wt s dd hd f0 h) : z_vi0 (fn_X7_hasCycle h) = if 0 < p_N m wt then nI 1 else nI 0 := n_thereC hC.1.2.1
theorem O_alive (hC : y_GC m wt s dd hd f0 h) (hl : s.1.length ≤ 36) : z_vi0 (fn_X7_isAlive h) = if 0 < s.1.length ∧ dd = false then nI 1 else nI 0 := c_living hC hl
theorem O_len (hC : y_GC m wt s dd hd f0 h) : z_vi0 (fn_X7_length h) = nI s.1.length := hC.1.1.2.1.2.2.1
theorem O_owed (hC : y_GC m wt s dd hd f0 h) : z_vi0 (fn_X7_owed h) = nI s.2.1 := hC.1.1.2.1.2.2.2.1
theorem O_feeds (hC : y_GC m wt s dd hd f0 h) : z_vi0 (fn_X7_feeds h) = nI s.2.2.length := hC.1.1.2.2.2.2.1
theorem O_order {n : Nat} (hw : y_wf m wt) (hg : y_wg m s n) (hn : n ≤ 600) (hC : y_GC m wt s dd hd f0 h) : tk_X7_isInOrder h ∧ z_vi0 (fn_X7_isInOrder h) = if p_ordd m wt s.1 = true then nI 1 else nI 0 := by
  have ws : y_ws m s ∨ s.1 = [] := by
    by_cases z : 0 < s.1.length
    · exact Or.inl (y_wg_ws hg hn z)
    · exact Or.inr (List.eq_nil_of_length_eq_zero (by omega))
  obtain ⟨o1, o2⟩ := k_order hw.1 hC.1.2.1 hC.1.1 ws
  refine ⟨o1, ?_⟩
  show z_vi0 (fn_X5_seesOrder h) = _
  rw [o2]
  rfl
theorem O_bodyAt (hC : y_GC m wt s dd hd f0 h) (hl : s.1.length ≤ 36) {j : Nat} (hj : j < s.1.length) : tk_X7_bodyAt_n (nI j) h ∧ z_vi0 (fn_X7_bodyAt_n (nI j) h) = nI (s.1.getD j 99) := by
  have e5 := hC.1.1.2.1.2.2.1
  unfold tk_X7_bodyAt_n fn_X7_bodyAt_n
  rw [e5]
  refine ⟨⟨fun z => absurd z (nI_pos (by omega)), fun _ => ⟨fun _ => trivial, fun z => absurd (nI_lt hj (by omega)) z⟩⟩, ?_⟩
  rw [if_neg (nI_pos (by omega)), if_pos (nI_lt hj (by omega)), k_c0 hC.1.1 (by omega) hj (by omega)]
  rfl
theorem O_cellAt (hC : y_GC m wt s dd hd f0 h) {j : Nat} (hj : j < p_N m wt) : tk_X7_cellAt_n (nI j) h ∧ z_vi0 (fn_X7_cellAt_n (nI j) h) = nI (p_ord m wt j) := by
  have hN := p_N_le (m := m) (wt := wt)
  refine ⟨⟨n_cyc hC.1.2.1 (by omega), n_plc hC.1.2.1 hj⟩, ?_⟩
  show z_atv h 5 36 (nI j) = _
  rw [y_atv (by omega), hC.1.2.1.2.1 _ hj]
theorem O_rings (hw : y_wf m wt) (hC : y_GC m wt s dd hd f0 h) {j : Nat} (hj : j < p_N m wt) : y_W (tk_X7_cellAtByRings_n (nI j) h) (fn_X7_cellAtByRings_n (nI j) h) (fun r => z_vi r = nI (p_ord m wt j) ∧ y_GC m wt s dd hd f0 r.2 ∧ y_fr y_osC h r.2) := by
  obtain ⟨r1, r2, r3⟩ := c_rings hw.1 hj hC.1.1.1 hC.1.2.2
  exact ⟨⟨n_cyc hC.1.2.1 (by omega), n_plc hC.1.2.1 hj, r1⟩, r2, y_GC_fr hC r3 (by decide), y_fr_mono r3 (by decide)⟩
theorem O_placeOf (hC : y_GC m wt s dd hd f0 h) (hN : 0 < p_N m wt) {j : Nat} (hj : j < 36) : tk_L_placeOf_n (nI j) h ∧ z_vi (fn_L_placeOf_n (nI j) h) = p_i (p_plc m wt j) ∧ (fn_L_placeOf_n (nI j) h).2 = h := by
  refine ⟨⟨n_cell h hj, n_cyc hC.1.2.1 hN⟩, ?_, rfl⟩
  show z_atv h 6 36 (nI j) = _
  rw [y_atv hj, hC.1.2.1.2.2 _ hj]
theorem O_placeE {x : Int32} (h : z_H) (hx : x < 0 ∨ nI 36 ≤ x) : fn_L_placeOf x h = (some (.int (z_bi (-3))), h) := by
  unfold fn_L_placeOf fn_X7_placeOf
  rw [c_cellE hx]
  rfl
theorem O_placeN (hC : y_GC m wt s dd hd f0 h) (hN : p_N m wt = 0) {j : Nat} (hj : j < 36) : fn_L_placeOf (nI j) h = (some (.int (z_bi (-2))), h) := by
  unfold fn_L_placeOf fn_X7_placeOf
  rw [c_cellO hj, c_cycE hC.1.2.1 hN]
  rfl
theorem O_reach (hw : y_wf m wt) (ws : y_ws m s) (hC : y_GC m wt s dd hd f0 h) : y_W (tk_X7_reach h) (fn_X7_reach h) (fun r => (∃ k, k + s.1.length ≤ 36 ∧ z_vi r = nI k) ∧ y_GC m wt s dd hd f0 r.2 ∧ y_fr y_osC h r.2) := by
  obtain ⟨C1, ⟨A, C2, C3, C4⟩, C5⟩ := c_reach hw ws hC.1.1
  exact ⟨C1, ⟨A.length - 1, q_reach C2 ws.2.1 (fun c hc => (ws.2.2.1 c hc).1), C4⟩, y_GC_fr hC C5 (by decide), y_fr_mono C5 (by decide)⟩
theorem O_reach0 (hC : y_GC m wt s dd hd f0 h) (hs : s.1.length = 0) : y_W (tk_X7_reach h) (fn_X7_reach h) (fun r => r = (some (.int (nI 0)), h)) := by
  have W : y_W (tk_X4_countReached h) (fn_X4_countReached h) (fun r => r = (some (.int (nI 0)), h)) := by
    unfold tk_X4_countReached fn_X4_countReached
    rw [c_there hC.1.1 (by omega), if_neg (by omega)]
    exact y_pos i0_eq0 (y_end rfl)
  refine ⟨W.1, ?_⟩
  show ((some (Value.int (z_vi (fn_X4_countReached h))), (fn_X4_countReached h).2) : z_R) = _
  rw [W.2]
  rfl
theorem O_lives {n : Nat} (hw : y_wf m wt) (ws : y_ws m s) (hg : y_wg m s n) (hC : y_GC m wt s dd hd f0 h) (hliv : 0 < s.1.length ∧ dd = false) {j : Nat} (hj1 : 1 ≤ j) (hj6 : j ≤ 6) : y_W (tk_X7_livesFor_n (nI j) h) (fn_X7_livesFor_n (nI j) h) (fun r => z_vi r = nI (p_D m wt j s) ∧ y_GC m wt s dd hd f0 r.2 ∧ y_fr y_osC h r.2) := by
  obtain ⟨L1, L2, L3, L4, -⟩ := c_long hw j 8 hj6 (by omega) s hd f0 h hC.1.1 ws
  unfold tk_X7_livesFor_n fn_X7_livesFor_n
  refine y_neg (nI_nlt hj1 (by omega)) (y_pos (nI_le hj6 (by decide)) ⟨⟨n_liv hC (y_wg_len hg) hliv, L1⟩, L2, ?_, y_fr_mono L4.1 (by decide)⟩)
  exact k_near_GC hC L3 L4
theorem O_few {n : Nat} (hw : y_wf m wt) (ws : y_ws m s) (hg : y_wg m s n) (hC : y_GC m wt s dd hd f0 h) (hliv : 0 < s.1.length ∧ dd = false) : y_W (tk_X7_fewest_n h) (fn_X7_fewest_n h) (fun r => z_vi r = p_i (p_fw m wt s 6) ∧ y_GC m wt s dd hd f0 r.2 ∧ y_fr y_osC h r.2) := by
  obtain ⟨F1, F2, F3, F4⟩ := c_few hw ws hC.1.1
  exact ⟨⟨n_liv hC (y_wg_len hg) hliv, F1⟩, F2, k_near_GC hC F3 F4, y_fr_mono F4.1 (by decide)⟩
theorem O_fewB {n : Nat} (hw : y_wf m wt) (ws : y_ws m s) (hg : y_wg m s n) (hC : y_GC m wt s dd hd f0 h) (hliv : 0 < s.1.length ∧ dd = false) : y_W (tk_X7_fewestByBodies_n h) (fn_X7_fewestByBodies_n h) (fun r => z_vi r = p_i (p_fw m wt s 6) ∧ y_GC m wt s dd hd f0 r.2 ∧ y_fr y_osC h r.2) := by
  obtain ⟨F1, F2, F3, F4⟩ := c_levels hw ws hC.1.1
  exact ⟨⟨n_liv hC (y_wg_len hg) hliv, F1⟩, F2, k_nO_GC hC F3 F4 (by decide), y_fr_mono F4.1 (by decide)⟩
theorem O_safe {n : Nat} (hw : y_wf m wt) (ws : y_ws m s) (hg : y_wg m s n) (hC : y_GC m wt s dd hd f0 h) (hliv : 0 < s.1.length ∧ dd = false) {d : Nat} (hd4 : d < 4) : y_W (tk_X7_isSafe_n (nI d) h) (fn_X7_isSafe_n (nI d) h) (fun r => z_vi r = (if p_safe m wt s d = true then nI 1 else nI 0) ∧ y_GC m wt s dd hd f0 r.2 ∧ y_fr y_osC h r.2) := by
  obtain ⟨S1, S2, S3, S4⟩ := k_safe hw hC.1 ws hd4
  exact ⟨⟨n_dir h hd4, n_liv hC (y_wg_len hg) hliv, S1⟩, S2, k_near_GC hC S3.1 S4, y_fr_mono S4.1 (by decide)⟩
end QO
