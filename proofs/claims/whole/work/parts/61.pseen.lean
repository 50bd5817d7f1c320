/-! ===== pure: what is foreseen, on both sides ===== -/
theorem k_nO_GC {os : List Nat} {m : Nat} {wt : Nat → Nat} {s s' : p_St} {dd : Bool} {hd hd' f0 f0' : Nat} {h h' : z_H} (hC : y_GC m wt s dd hd f0 h) (hR : y_RC m wt s' hd' f0' h') (hn : k_nO os h h') (ho : ∀ a ∈ [1, 3, 4, 5, 6], a ∉ os) : y_GC m wt s' dd hd' f0' h' := ⟨⟨hR, y_CC_fr hC.1.2.1 hn.1 (ho 4 (by decide)) (ho 5 (by decide)) (ho 6 (by decide)), y_TC_fr hC.1.2.2 hn.1 (ho 1 (by decide)) (ho 3 (by decide))⟩, by rw [hn.2 8 (by decide) (by decide) (by decide)]; exact hC.2⟩
theorem B_lives {n : Nat} {h : z_H} (hG : y_G n h) (hn : n ≤ 600) (x : Int32) : y_ok (tk_L_livesFor x h) (tk_X8_livesFor x (fn_L_livesFor x h).2) (fn_L_livesFor x h) (fn_X8_livesFor x (fn_L_livesFor x h).2) n := by
  have hG' := hG
  obtain ⟨m, wt, s, dd, hd, f0, hw, hg, hC, hM⟩ := hG
  have hl36 := y_wg_len hg
  have err : (x < nI 1 ∨ nI 7 ≤ x) → y_ok (tk_L_livesFor x h) (tk_X8_livesFor x (fn_L_livesFor x h).2) (fn_L_livesFor x h) (fn_X8_livesFor x (fn_L_livesFor x h).2) n := by
    intro hx
    have W : y_W (tk_X7_livesFor x h) (fn_X7_livesFor x h) (fun r => r = .error z_EA) := by
      unfold tk_X7_livesFor fn_X7_livesFor fn_X7_livesFor_11
      rcases hx with hx | hx
      · exact y_pos hx (y_end rfl)
      · exact y_neg (i_hle (by decide) hx (by decide)).1 (y_neg (i_hle (by decide) hx (by decide)).2 (y_end rfl))
    have hL : fn_L_livesFor x h = (some (.int (nI 1)), h) := by
      unfold fn_L_livesFor
      rw [W.2]; rfl
    refine y_okE (k := 1) (by decide) (by decide) W.1 hL ?_ hG'
    rw [hL]
    unfold tk_X8_livesFor fn_X8_livesFor tk_X8_livesFor_27 fn_X8_livesFor_27
    have : fv_X8_in x (nI 1) (nI 6) = nI 0 := by
      rcases hx with hx | hx
      · exact i_rl hx
      · exact i_hi (by decide) hx (by decide)
    rw [this]
    exact y_pos rfl (gw_ill (by decide) (by decide))
  rcases i_ix1 x (n := 6) (by decide) with hx | hx | ⟨j, hj1, hj6, rfl⟩
  · exact err (Or.inl hx)
  · exact err (Or.inr hx)
  · have rng := i_in hj1 hj6 (by decide)
    by_cases hliv : 0 < s.1.length ∧ dd = false
    · have ws := y_wg_ws hg hn hliv.1
      obtain ⟨D1, D2, D3, D4, D5⟩ := c_long hw j 8 hj6 (by omega) s hd f0 h hC.1.1 ws
      have W : y_W (tk_X7_livesFor (nI j) h) (fn_X7_livesFor (nI j) h) (fun r => r = .ok (some (.int (nI (p_D m wt j s))), (fx_X4_longestFrom 8 (nI j) h).2)) := by
        unfold tk_X7_livesFor fn_X7_livesFor tk_X4_longestWalk fn_X4_longestWalk
        rw [c_livO hC hl36 hliv, D2]
        exact y_neg (nI_nlt hj1 (by omega)) (y_pos (nI_le hj6 (by decide)) ⟨fun rx _ => D1, rfl⟩)
      have hL : fn_L_livesFor (nI j) h = (some (.int (nI 0)), z_setL (fx_X4_longestFrom 8 (nI j) h).2 35 ((nI 0).toNatClampNeg) (nI (p_D m wt j s)).toInt64) := by
        unfold fn_L_livesFor
        rw [W.2]; rfl
      refine y_okO W.1 hL hw (y_wg_s hg) (k_near_GC hC D3 D4) hM (y_fr_mono D4.1 (by decide)) (fun h2 hM2 hC3 e => ?_)
      rw [e]
      obtain ⟨R1, R2, R3⟩ := r_long hw ws (y_GM_th hM2 (nI 0)).1 hj1 hj6
      unfold tk_X8_livesFor fn_X8_livesFor tk_X8_livesFor_27 fn_X8_livesFor_27
      rw [rng, r_lives hM2, if_pos hliv]
      refine y_neg i1_ne0 (y_neg i1_ne0 (gw_well ?_))
      rw [gw_h, R2]
      obtain ⟨q1, q2, q3⟩ := m_keep hM2 R3 (by decide) (by decide)
      exact ⟨R1, q1, rfl, q2, q3⟩
    · have W : y_W (tk_X7_livesFor (nI j) h) (fn_X7_livesFor (nI j) h) (fun r => r = .error z_ES) := by
        unfold tk_X7_livesFor fn_X7_livesFor
        rw [c_livE hC hl36 hliv]
        exact y_neg (nI_nlt hj1 (by omega)) (y_pos (nI_le hj6 (by decide)) ⟨fun rx q => (by cases q), rfl⟩)
      have hL : fn_L_livesFor (nI j) h = (some (.int (nI 2)), h) := by
        unfold fn_L_livesFor
        rw [W.2]; rfl
      refine y_okE (k := 2) (by decide) (by decide) W.1 hL ?_ hG'
      rw [hL]
      unfold tk_X8_livesFor fn_X8_livesFor tk_X8_livesFor_27 fn_X8_livesFor_27
      rw [rng, r_lives hM, if_neg hliv]
      exact y_neg i1_ne0 (y_pos i0_eq0 (gw_ill (by decide) (by decide)))
/-- the reference's search for a feed, from its public door -/
theorem r_fewOk {m : Nat} {wt : Nat → Nat} {s : p_St} {dd : Bool} {h2 : z_H} (hw : y_wf m wt) (ws : y_ws m s) (hM2 : y_GM m wt s dd h2) (hliv : 0 < s.1.length ∧ dd = false) : y_W (tk_X8_fewestByBodies h2) (fn_X8_fewestByBodies h2) (fun r => r.2.1 20 0 = nI 0 ∧ z_vi r = p_i (p_fw m wt s 6) ∧ y_GM m wt s dd r.2 ∧ y_fr y_osM h2 r.2) := by
  obtain ⟨R1, R2, R3⟩ := r_few hw ws (y_GM_th hM2 (nI 0)).1
  unfold tk_X8_fewestByBodies fn_X8_fewestByBodies tk_X8_fewestByBodies_13 fn_X8_fewestByBodies_13
  rw [r_lives hM2, if_pos hliv]
  refine y_neg i1_ne0 (gw_well ?_)
  rw [gw_h]
  obtain ⟨q1, q2, q3⟩ := m_keep hM2 R3 (by decide) (by decide)
  exact ⟨R1, q1, R2, q2, q3⟩
theorem r_fewNo {m : Nat} {wt : Nat → Nat} {s : p_St} {dd : Bool} {h : z_H} (hM : y_GM m wt s dd h) (hliv : ¬ (0 < s.1.length ∧ dd = false)) : y_W (tk_X8_fewestByBodies h) (fn_X8_fewestByBodies h) (fun r => r.2 = z_set h 20 0 (nI 1)) := by
  unfold tk_X8_fewestByBodies fn_X8_fewestByBodies tk_X8_fewestByBodies_13 fn_X8_fewestByBodies_13
  rw [r_lives hM, if_neg hliv]
  exact y_pos i0_eq0 (gw_ill (by decide) (by decide))
theorem B_few {n : Nat} {h : z_H} (hG : y_G n h) (hn : n ≤ 600) : y_ok (tk_L_fewest h) (tk_X8_fewest (fn_L_fewest h).2) (fn_L_fewest h) (fn_X8_fewest (fn_L_fewest h).2) n := by
  have hG' := hG
  obtain ⟨m, wt, s, dd, hd, f0, hw, hg, hC, hM⟩ := hG
  have hl36 := y_wg_len hg
  unfold tk_X8_fewest fn_X8_fewest
  by_cases hliv : 0 < s.1.length ∧ dd = false
  · have ws := y_wg_ws hg hn hliv.1
    obtain ⟨D1, D2, D3, D4⟩ := c_few hw ws hC.1.1
    have hL : fn_L_fewest h = (some (.int (nI 0)), z_setL (fn_X4_fewestByDepths h).2 35 ((nI 0).toNatClampNeg) (p_i (p_fw m wt s 6)).toInt64) := by
      unfold fn_L_fewest fn_X7_fewest
      rw [c_livO hC hl36 hliv, D2]; rfl
    refine y_okO (fun rx _ => D1) hL hw (y_wg_s hg) (k_near_GC hC D3 D4) hM (y_fr_mono D4.1 (by decide)) (fun h2 hM2 hC3 e => ?_)
    rw [e]
    obtain ⟨R1, R2, R3, R4, R5⟩ := r_fewOk hw ws hM2 hliv
    exact ⟨R1, R2, R3, R4, R5⟩
  · have hL : fn_L_fewest h = (some (.int (nI 1)), h) := by
      unfold fn_L_fewest fn_X7_fewest
      rw [c_livE hC hl36 hliv]; rfl
    refine y_okE (k := 1) (by decide) (by decide) (fun rx q => by rw [c_livE hC hl36 hliv] at q; cases q) hL ?_ hG'
    rw [hL]
    obtain ⟨R1, R2⟩ := r_fewNo hM hliv
    exact ⟨R1, R2⟩
theorem B_fewB {n : Nat} {h : z_H} (hG : y_G n h) (hn : n ≤ 600) : y_ok (tk_L_fewestByBodies h) (tk_X8_fewestByBodies (fn_L_fewestByBodies h).2) (fn_L_fewestByBodies h) (fn_X8_fewestByBodies (fn_L_fewestByBodies h).2) n := by
  have hG' := hG
  obtain ⟨m, wt, s, dd, hd, f0, hw, hg, hC, hM⟩ := hG
  have hl36 := y_wg_len hg
  by_cases hliv : 0 < s.1.length ∧ dd = false
  · have ws := y_wg_ws hg hn hliv.1
    obtain ⟨D1, D2, D3, D4⟩ := c_levels hw ws hC.1.1
    have hL : fn_L_fewestByBodies h = (some (.int (nI 0)), z_setL (fn_X4_fewestByLevels h).2 35 ((nI 0).toNatClampNeg) (p_i (p_fw m wt s 6)).toInt64) := by
      unfold fn_L_fewestByBodies fn_X7_fewestByBodies
      rw [c_livO hC hl36 hliv, D2]; rfl
    refine y_okO (fun rx _ => D1) hL hw (y_wg_s hg) (k_nO_GC hC D3 D4 (by decide)) hM (y_fr_mono D4.1 (by decide)) (fun h2 hM2 hC3 e => ?_)
    rw [e]
    exact r_fewOk hw ws hM2 hliv
  · have hL : fn_L_fewestByBodies h = (some (.int (nI 1)), h) := by
      unfold fn_L_fewestByBodies fn_X7_fewestByBodies
      rw [c_livE hC hl36 hliv]; rfl
    refine y_okE (k := 1) (by decide) (by decide) (fun rx q => by rw [c_livE hC hl36 hliv] at q; cases q) hL ?_ hG'
    rw [hL]
    exact r_fewNo hM hliv
/-! calls that never throw -/
theorem B_hasCycle {n : Nat} {h : z_H} (hG : y_G n h) : z_vi0 (fn_X7_hasCycle h) = fv_X8_hasCycle h ∧ y_G (n + 1) (fh_X8_hasCycle h) := by
  have hG' := hG
  obtain ⟨m, wt, s, dd, hd, f0, hw, hg, hC, hM⟩ := hG
  constructor
  · show fv_X2_isThere h = fv_X8_hasCycle h
    unfold fv_X2_isThere fv_X8_hasCycle
    rw [hC.1.2.1.1, hM.1.2.1.1]
  · unfold fh_X8_hasCycle
    split <;> exact y_G_th hG' _
theorem B_alive {n : Nat} {h : z_H} (hG : y_G n h) : z_vi0 (fn_X7_isAlive h) = fv_X8_lives (z_set h 20 0 (nI 0)) := by
  obtain ⟨m, wt, s, dd, hd, f0, hw, hg, hC, hM⟩ := hG
  show fv_X6_isLiving h = _
  rw [c_living hC (y_wg_len hg), r_lives (y_GM_th hM (nI 0))]
theorem B_nums {n : Nat} {h : z_H} (hG : y_G n h) : z_vi0 (fn_X7_length h) = h.1 20 12 ∧ z_vi0 (fn_X7_owed h) = h.1 20 13 ∧ z_vi0 (fn_X7_feeds h) = h.1 20 8 := by
  obtain ⟨m, wt, s, dd, hd, f0, hw, hg, hC, hM⟩ := hG
  obtain ⟨w1, w2, w3, w4, w5⟩ := hM.1.2.2.2.1
  refine ⟨?_, ?_, ?_⟩
  · show h.1 10 5 = _
    rw [w1]; exact hC.1.1.2.1.2.2.1
  · show h.1 10 6 = _
    rw [w2]; exact hC.1.1.2.1.2.2.2.1
  · show h.1 8 2 = _
    rw [w4]; exact hC.1.1.2.2.2.2.1
theorem B_order {n : Nat} {h : z_H} (hG : y_G n h) (hn : n ≤ 600) : tk_X7_isInOrder h ∧ tk_X8_isInOrder h ∧ z_vi0 (fn_X7_isInOrder h) = z_vi (fn_X8_isInOrder h) ∧ y_G (n + 1) (fn_X8_isInOrder h).2 := by
  have hG' := hG
  obtain ⟨m, wt, s, dd, hd, f0, hw, hg, hC, hM⟩ := hG
  have ws : y_ws m s ∨ s.1 = [] := by
    by_cases z : 0 < s.1.length
    · exact Or.inl (y_wg_ws hg hn z)
    · exact Or.inr (List.eq_nil_of_length_eq_zero (by omega))
  obtain ⟨o1, o2⟩ := k_order hw.1 hC.1.2.1 hC.1.1 ws
  obtain ⟨q1, q2⟩ := r_ordered hw.1 (y_GM_th hM (nI 0)).1 ws
  refine ⟨o1, q1, ?_, y_G_th hG' _⟩
  show z_vi0 (fn_X5_seesOrder h) = z_vi0 (fn_X8_isOrdered (z_set h 20 0 (nI 0)))
  rw [o2, q2]
theorem B_reach {n : Nat} {h : z_H} (hG : y_G n h) (hn : n ≤ 600) : tk_X7_reach h ∧ tk_X8_reach (fn_X7_reach h).2 ∧ z_vi (fn_X7_reach h) = z_vi (fn_X8_reach (fn_X7_reach h).2) ∧ y_G (n + 1) (fn_X8_reach (fn_X7_reach h).2).2 := by
  obtain ⟨m, wt, s, dd, hd, f0, hw, hg, hC, hM⟩ := hG
  have hl36 := y_wg_len hg
  by_cases hs : 0 < s.1.length
  · have ws := y_wg_ws hg hn hs
    obtain ⟨C1, ⟨A, C2, C3, C4⟩, C5⟩ := c_reach hw ws hC.1.1
    have hM2 : y_GM m wt s dd (fn_X4_countReached h).2 := y_GM_fr hM C5 (by decide)
    have hC2 := y_GC_fr hC C5 (by decide)
    have hMt := y_GM_th hM2 (nI 0)
    obtain ⟨R1, ⟨A', R2, R3, R4⟩, R5⟩ := r_in9 (h0 := z_set (fn_X4_countReached h).2 20 0 (nI 0)) hw ws hMt.1 36 0 (z_set (fn_X4_countReached h).2 20 0 (nI 0)) 2000 rfl (by decide) (fun c hc => absurd hc (Nat.not_lt_zero c)) y_fr_refl
    obtain ⟨q1, q2, q3⟩ := m_keep hM2 R5 (by decide) (by decide)
    refine ⟨C1, R1, ?_, m, wt, s, dd, hd, f0, hw, y_wg_s hg, y_GC_fr hC2 q3 (by decide), q2⟩
    have e1 : z_vi (fn_X7_reach h) = nI (A.length - 1) := C4
    have e2 : z_vi (fn_X8_reach (fn_X7_reach h).2) = nI (A'.length - 1) := R4
    rw [e1, e2, p_RA_uni C2 C3 R2 R3]
  · have e0 : s.1.length = 0 := by omega
    have W : y_W (tk_X4_countReached h) (fn_X4_countReached h) (fun r => r = (some (.int (nI 0)), h)) := by
      unfold tk_X4_countReached fn_X4_countReached
      rw [c_there hC.1.1 hl36, if_neg hs]
      exact y_pos i0_eq0 (y_end rfl)
    have hMt := y_GM_th hM (nI 0)
    have Z : ∀ (j k : Nat) (h2 : z_H) (f : Nat), k + j = 36 → j < f → y_fr [34] (z_set h 20 0 (nI 0)) h2 → y_W (tk_X8_reach_9 f (nI 0) (nI k) h2) (fn_X8_reach_9 f (nI 0) (nI k) h2) (fun r => z_vi r = nI 0 ∧ y_fr [34] (z_set h 20 0 (nI 0)) r.2) := by
      intro j
      induction j with
      | zero =>
        intro k h2 f hk hf hF
        cases f with
        | zero => omega
        | succ f =>
          have : k = 36 := by omega
          subst this
          unfold tk_X8_reach_9 fn_X8_reach_9
          dsimp only
          refine y_pos (nI_le (Nat.le_refl _) (by decide)) ?_
          have w1 : h2.1 20 12 = nI 0 := by rw [y_fr_at hF 20, hMt.1.2.2.2.1.1, e0]
          have w2 : h2.1 20 10 = nI 0 := by rw [y_fr_at hF 20, hMt.1.2.2.2.2, if_neg hs]
          unfold tk_X8_reach_30 fn_X8_reach_30
          dsimp only
          rw [w1]
          refine y_pos (by decide) ?_
          unfold tk_X8_reach_66 fn_X8_reach_66
          dsimp only
          rw [w2]
          exact y_neg (by decide) (y_pos rfl (y_end ⟨rfl, hF⟩))
      | succ j ih =>
        intro k h2 f hk hf hF
        cases f with
        | zero => omega
        | succ f =>
          have hlt : k < 36 := by omega
          unfold tk_X8_reach_9 fn_X8_reach_9
          dsimp only
          rw [nI_clamp (by omega), nI_add]
          exact y_neg (nI_ge hlt (by decide)) (y_req (vp_in_nI hlt (by decide)) (ih (k + 1) _ f (by omega) (by omega) (y_fr_set hF (by decide))))
    have e1 : (fn_X7_reach h).2 = h := by show (fn_X4_countReached h).2 = h; rw [W.2]
    have e2 : z_vi (fn_X7_reach h) = nI 0 := by show z_vi (fn_X4_countReached h) = nI 0; rw [W.2]; rfl
    obtain ⟨R1, R2, R3⟩ := Z 36 0 (z_set h 20 0 (nI 0)) 2000 rfl (by decide) y_fr_refl
    obtain ⟨q1, q2, q3⟩ := m_keep hM R3 (by decide) (by decide)
    rw [e1, e2]
    exact ⟨W.1, R1, R2.symm, m, wt, s, dd, hd, f0, hw, y_wg_s hg, y_GC_fr hC q3 (by decide), q2⟩
