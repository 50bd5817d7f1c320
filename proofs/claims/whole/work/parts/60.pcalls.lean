/-! ===== pure: the calls of a living worm, on both sides ===== -/
theorem y_wg_of {m : Nat} {s : p_St} {n : Nat} (ws : y_ws m s) (h : s.2.1 + 2 * s.2.2.length ≤ 100 + 2 * n) : y_wg m s n := ⟨ws.2.1, ws.2.2.1, ws.2.2.2.1, ws.2.2.2.2.1, h, fun z => absurd z ws.1⟩
theorem p_adv_bd {m : Nat} {wt : Nat → Nat} {s : p_St} {d B : Nat} (h : s.2.1 + 2 * s.2.2.length ≤ B) : (p_adv m wt s d).2.1 + 2 * (p_adv m wt s d).2.2.length ≤ B := by
  show (s.2.1 - 1) + (if p_eats m wt s d = true then 2 else 0) + 2 * (if p_eats m wt s d = true then s.2.2.tail else s.2.2).length ≤ B
  by_cases e : p_eats m wt s d = true
  · rw [if_pos e, if_pos e, List.length_tail]
    have := (p_eats_iff.mp e).1
    omega
  · rw [if_neg e, if_neg e]; omega
theorem k_near_GC {m : Nat} {wt : Nat → Nat} {s s' : p_St} {dd : Bool} {hd hd' f0 f0' : Nat} {h h' : z_H} (hC : y_GC m wt s dd hd f0 h) (hR : y_RC m wt s' hd' f0' h') (hn : k_near h h') : y_GC m wt s' dd hd' f0' h' := ⟨⟨hR, y_CC_fr hC.1.2.1 hn.1, y_TC_fr hC.1.2.2 hn.1⟩, by rw [hn.2 8 (by decide) (by decide) (by decide)]; exact hC.2⟩
theorem r_near_GM {m : Nat} {wt : Nat → Nat} {s' : p_St} {dd : Bool} {h h' : z_H} (h11 : h.1 20 11 = if dd = true then nI 1 else nI 0) (hK : y_KM m wt s' h') (hn : r_near h h') : y_GM m wt s' dd h' := ⟨hK, by rw [hn.2 11 (by decide) (by decide) (by decide)]; exact h11⟩
theorem m_keep {m : Nat} {wt : Nat → Nat} {s : p_St} {dd : Bool} {h2 h3 : z_H} {os : List Nat} (hM2 : y_GM m wt s dd h2) (hf : y_fr os (z_set h2 20 0 (nI 0)) h3) (ho : ∀ a ∈ [20, 21, 22, 23, 24, 25, 26, 27, 28], a ∉ os) (hos : ∀ a ∈ os, a ∈ y_osM) : h3.1 20 0 = nI 0 ∧ y_GM m wt s dd h3 ∧ y_fr y_osM h2 h3 := by
  refine ⟨by rw [y_fr_at hf 20 (ho 20 (by decide)), y_sh], y_GM_fr (y_GM_th hM2 _) hf ho, y_fr_trans (y_fr_set y_fr_refl (by decide)) (y_fr_mono hf hos)⟩
/-! step -/
theorem B_step {n : Nat} {h : z_H} (hG : y_G n h) (hn : n ≤ 600) (x : Int32) : y_ok True (tk_X8_step x (fn_L_step x h).2) (fn_L_step x h) (fn_X8_step x (fn_L_step x h).2) n := by
  have hG' := hG
  obtain ⟨m, wt, s, dd, hd, f0, hw, hg, hC, hM⟩ := hG
  have hl36 := y_wg_len hg
  have err : (x < 0 ∨ nI 4 ≤ x) → y_ok True (tk_X8_step x (fn_L_step x h).2) (fn_L_step x h) (fn_X8_step x (fn_L_step x h).2) n := by
    intro hx
    have hL : fn_L_step x h = (some (.int (nI 1)), h) := by
      unfold fn_L_step fn_X7_step
      rw [c_dirE hx]; rfl
    refine y_okE (k := 1) (by decide) (by decide) trivial hL ?_ hG'
    rw [hL]
    unfold tk_X8_step fn_X8_step tk_X8_step_24 fn_X8_step_24 fv_X8_isDirection
    rw [r_rngE (n := 3) (by decide) hx]
    exact y_pos rfl (gw_ill (by decide) (by decide))
  rcases pk_ix x (n := 4) (by decide) with hx | hx | ⟨d, hd4, rfl⟩
  · exact err (Or.inl hx)
  · exact err (Or.inr hx)
  · have rng : fv_X8_isDirection (nI d) = nI 1 := i_in (Nat.zero_le d) (by omega : d ≤ 3) (by decide)
    by_cases hliv : 0 < s.1.length ∧ dd = false
    · have ws := y_wg_ws hg hn hliv.1
      obtain ⟨hl0, hdd⟩ := hliv
      subst hdd
      cases hc : p_can m wt s d with
      | false =>
        obtain ⟨n1, n2⟩ := k_advN hw hC.1.1 ws hd4 hc
        have hL : fn_L_step (nI d) h = (some (.int (nI 0)), z_setL (z_set h 10 8 (nI 1)) 35 ((nI 0).toNatClampNeg) (nI 0).toInt64) := by
          unfold fn_L_step fn_X7_step
          rw [c_dirO hd4, c_livO hC hl36 ⟨hl0, rfl⟩, n1, n2]
          rfl
        have hF : y_fr [10] h (z_set h 10 8 (nI 1)) := y_fr_set y_fr_refl (by decide)
        have hC2 : y_GC m wt s true hd f0 (z_set h 10 8 (nI 1)) := by
          obtain ⟨⟨⟨b, v, f⟩, c2, c3⟩, c4⟩ := hC
          obtain ⟨w1, w2, w3, w4, w5, w6⟩ := v
          obtain ⟨f1, f2, f3, f4⟩ := f
          exact ⟨⟨⟨y_BC_fr b hF, ⟨w1, by rw [y_sk (by decide)]; exact w2, by rw [y_sk (by decide)]; exact w3, by rw [y_sk (by decide)]; exact w4, fun i hi => by rw [y_fr_at hF 11]; exact w5 i hi, w6⟩, ⟨f1, by rw [y_fr_at hF 8]; exact f2, by rw [y_fr_at hF 8]; exact f3, fun i hi => by rw [y_fr_at hF 9]; exact f4 i hi⟩⟩, y_CC_fr c2 hF, y_TC_fr c3 hF⟩, y_sh⟩
        refine y_okO trivial hL hw (y_wg_s hg) hC2 hM (y_fr_mono hF (by decide)) (fun h2 hM2 hC3 e => ?_)
        rw [e]
        obtain ⟨d1, d2⟩ := r_deadly hw (y_GM_th hM2 (nI 0)).1 ws hd4
        unfold tk_X8_step fn_X8_step tk_X8_step_24 fn_X8_step_24
        rw [rng, r_lives hM2, if_pos ⟨hl0, rfl⟩]
        refine y_neg i1_ne0 (y_neg i1_ne0 (gw_well ?_))
        rw [gw_h, d2, hc]
        refine y_req d1 (y_neg i1_ne0 (y_end ?_))
        have hF6 : y_fr [20] h2 (z_set (z_set h2 20 0 (nI 0)) 20 11 (nI 1)) := y_fr_set (y_fr_set y_fr_refl (by decide)) (by decide)
        obtain ⟨⟨k1, k2, k3, k4, k5⟩, k6⟩ := hM2
        refine ⟨by simp [z_set], rfl, ⟨⟨y_BM_fr k1 hF6, ⟨?_, fun p hp => ?_, fun a ha => ?_⟩, y_TM_fr k3 hF6, ⟨?_, ?_, fun i hi => ?_, ?_, fun i hi => ?_⟩, ?_⟩, ?_⟩, y_fr_mono hF6 (by decide)⟩
        · rw [← k2.1]; simp [z_set]
        · rw [y_fr_at hF6 26]; exact k2.2.1 p hp
        · rw [y_fr_at hF6 25]; exact k2.2.2 a ha
        · rw [← k4.1]; simp [z_set]
        · rw [← k4.2.1]; simp [z_set]
        · rw [y_fr_at hF6 28]; exact k4.2.2.1 i hi
        · rw [← k4.2.2.2.1]; simp [z_set]
        · rw [y_fr_at hF6 27]; exact k4.2.2.2.2 i hi
        · rw [← k5]; simp [z_set]
        · show _ = nI 1
          simp [z_set]
      | true =>
        obtain ⟨a1, a2, a3, a4⟩ := k_adv hw hC.1.1 ws hd4 hc
        have ws' := y_ws_adv hd4 ws hc
        have hL : fn_L_step (nI d) h = (some (.int (nI 0)), z_setL (fh_X6_advance h (nI d)) 35 ((nI 0).toNatClampNeg) (nI (p_adv m wt s d).1.length).toInt64) := by
          unfold fn_L_step fn_X7_step
          rw [c_dirO hd4, c_livO hC hl36 ⟨hl0, rfl⟩, (k_advY hw hC.1.1 ws hd4 hc).1, a1.2.1.2.2.1]
          rfl
        have hg2 : y_wg m (p_adv m wt s d) (n + 1) := y_wg_of ws' (p_adv_bd (by have := hg.2.2.2.2.1; omega))
        refine y_okO trivial hL hw hg2 (k_near_GC hC a1 a4) hM (y_fr_mono a4.1 (by decide)) (fun h2 hM2 hC3 e => ?_)
        rw [e]
        have hMt := y_GM_th hM2 (nI 0)
        obtain ⟨d1, d2⟩ := r_deadly hw hMt.1 ws hd4
        obtain ⟨G1, G2, G3⟩ := r_goOn hw hMt.1 ws hd4 hc
        unfold tk_X8_step fn_X8_step tk_X8_step_24 fn_X8_step_24
        rw [rng, r_lives hM2, if_pos ⟨hl0, rfl⟩]
        refine y_neg i1_ne0 (y_neg i1_ne0 (gw_well ?_))
        rw [gw_h, d2, hc]
        refine y_req d1 (y_pos rfl ⟨G1, ?_⟩)
        refine ⟨?_, ?_, r_near_GM hMt.2 G2 G3, ?_⟩
        · show (fn_X8_goOn _ _).2.1 20 0 = _
          rw [G3.2 0 (by decide) (by decide) (by decide), y_sh]
        · show (fn_X8_goOn _ _).2.1 20 12 = _
          exact G2.2.2.2.1.1
        · exact y_fr_trans (y_fr_set y_fr_refl (by decide)) (y_fr_mono G3.1 (by decide))
    · have hL : fn_L_step (nI d) h = (some (.int (nI 2)), h) := by
        unfold fn_L_step fn_X7_step
        rw [c_dirO hd4, c_livE hC hl36 hliv]; rfl
      refine y_okE (k := 2) (by decide) (by decide) trivial hL ?_ hG'
      rw [hL]
      unfold tk_X8_step fn_X8_step tk_X8_step_24 fn_X8_step_24
      rw [rng, r_lives hM, if_neg hliv]
      exact y_neg i1_ne0 (y_pos i0_eq0 (gw_ill (by decide) (by decide)))
/-! play -/
theorem c_play {m : Nat} {wt : Nat → Nat} {dd : Bool} {h0 : z_H} (hw : y_wf m wt) : ∀ (j made : Nat) (s : p_St) (hd f0 : Nat) (h : z_H) (n B : Nat), made + j ≤ 50 → j + 1 < n → y_GC m wt s dd hd f0 h → y_ws m s → k_near h0 h → s.2.1 + 2 * s.2.2.length ≤ B →
    y_W (tk_X7_play_27 n (nI (made + j)) (nI made) h) (fn_X7_play_27 n (nI (made + j)) (nI made) h) (fun r => ∃ h', r = .ok (some (.int (nI (made + (p_play m wt j s).1))), h') ∧ (∃ hd' f0', y_GC m wt (p_play m wt j s).2 dd hd' f0' h') ∧ k_near h0 h' ∧ y_ws m (p_play m wt j s).2 ∧ (p_play m wt j s).2.2.1 + 2 * (p_play m wt j s).2.2.2.length ≤ B)
  | 0, made, s, hd, f0, h, n + 1, B, hm, hn, hC, ws, hr, hB => by
    unfold tk_X7_play_27 fn_X7_play_27
    dsimp only
    exact y_pos (nI_le (Nat.le_refl _) (by omega)) (y_end ⟨h, rfl, ⟨hd, f0, hC⟩, hr, ws, hB⟩)
  | j + 1, made, s, hd, f0, h, n + 1, B, hm, hn, hC, ws, hr, hB => by
    have CH := k_choice (h0 := h) hw ws 4 0 h 2000 rfl (by decide) hC.1 (k_near_refl h)
    obtain ⟨c1, c2, c3, c4⟩ := CH
    have c1' : tk_X5_choice h := c1
    have c2' : z_vi (fn_X5_choice h) = p_i (p_chs m wt s 4) := c2
    have c3' : y_K m wt s hd f0 (fn_X5_choice h).2 := c3
    have c4' : k_near h (fn_X5_choice h).2 := c4
    have hch := p_chs_lt (m := m) (wt := wt) (s := s) 4
    unfold tk_X7_play_27 fn_X7_play_27
    dsimp only
    refine y_neg (nI_ge (by omega) (by omega)) (y_req c1' ?_)
    rw [c2']
    have ep0 : p_play m wt (j + 1) s = if p_chs m wt s 4 = 99 then (0, s) else ((p_play m wt j (p_adv m wt s (p_chs m wt s 4))).1 + 1, (p_play m wt j (p_adv m wt s (p_chs m wt s 4))).2) := rfl
    refine y_none (p_chs m wt s 4) rfl (fun e => ?_) (fun e => ?_)
    · rw [if_pos e] at ep0
      rw [ep0]
      exact y_end ⟨_, rfl, ⟨hd, f0, k_near_GC hC c3'.1 c4'⟩, k_near_trans hr c4', ws, hB⟩
    · rw [if_neg e] at ep0
      obtain ⟨hlt, hs⟩ := hch.resolve_right e
      have hc := (of_decide_eq_true hs).2.2.1
      obtain ⟨a1, a2, a3, a4⟩ := k_adv hw c3'.1 ws hlt hc
      have ws' := y_ws_adv hlt ws hc
      rw [p_i_n e, (k_advY hw c3'.1 ws hlt hc).1, nI_add]
      refine y_neg i1_ne0 ?_
      have IH := c_play (h0 := h0) hw j (made + 1) _ _ _ (fh_X6_advance (fn_X5_choice h).2 (nI (p_chs m wt s 4))) n B (by omega) (by omega) (k_near_GC (k_near_GC hC c3'.1 c4') a1 a4) ws' (k_near_trans hr (k_near_trans c4' a4)) (p_adv_bd hB)
      rw [show made + 1 + j = made + (j + 1) by omega] at IH
      refine y_mono IH (fun q => ?_)
      rw [ep0]
      obtain ⟨h', q1, q2⟩ := q
      refine ⟨h', ?_, q2⟩
      rw [q1]
      congr 4
      refine congrArg nI ?_
      show made + 1 + _ = made + (_ + 1)
      omega
theorem i_rl {x : Int32} {n : Nat} (h : x < nI 1) : fv_X8_in x (nI 1) (nI n) = nI 0 := if_pos h
theorem i_ix1 (x : Int32) {n : Nat} (hn : n + 1 < 2 ^ 31) : x < nI 1 ∨ nI (n + 1) ≤ x ∨ ∃ j : Nat, 1 ≤ j ∧ j ≤ n ∧ x = nI j := by
  rcases pk_ix x (n := n + 1) hn with h | h | ⟨j, hj, e⟩
  · refine Or.inl ?_
    rw [Int32.lt_iff_toInt_lt, Int32.toInt_zero] at h
    rw [Int32.lt_iff_toInt_lt, nI_toInt (by decide)]
    omega
  · exact Or.inr (Or.inl h)
  · by_cases z : 1 ≤ j
    · exact Or.inr (Or.inr ⟨j, z, by omega, e⟩)
    · refine Or.inl ?_
      rw [e]
      exact nI_lt (by omega) (by decide)
theorem i_hle {x : Int32} {n : Nat} (hn : n + 1 < 2 ^ 31) (h : nI (n + 1) ≤ x) (h1 : 1 ≤ n) : ¬ x < nI 1 ∧ ¬ x ≤ nI n := by
  rw [Int32.le_iff_toInt_le, nI_toInt hn] at h
  rw [Int32.lt_iff_toInt_lt, Int32.le_iff_toInt_le, nI_toInt (by omega), nI_toInt (by omega)]
  omega
theorem B_play {n : Nat} {h : z_H} (hG : y_G n h) (hn : n ≤ 600) (x : Int32) : y_ok (tk_L_play x h) (tk_X8_play x (fn_L_play x h).2) (fn_L_play x h) (fn_X8_play x (fn_L_play x h).2) n := by
  have hG' := hG
  obtain ⟨m, wt, s, dd, hd, f0, hw, hg, hC, hM⟩ := hG
  have hl36 := y_wg_len hg
  have err : (x < nI 1 ∨ nI 51 ≤ x) → y_ok (tk_L_play x h) (tk_X8_play x (fn_L_play x h).2) (fn_L_play x h) (fn_X8_play x (fn_L_play x h).2) n := by
    intro hx
    have W : y_W (tk_X7_play x h) (fn_X7_play x h) (fun r => r = .error z_EA) := by
      unfold tk_X7_play fn_X7_play fn_X7_play_11
      rcases hx with hx | hx
      · exact y_pos hx (y_end rfl)
      · exact y_neg (i_hle (by decide) hx (by decide)).1 (y_neg (i_hle (by decide) hx (by decide)).2 (y_end rfl))
    have hL : fn_L_play x h = (some (.int (nI 1)), h) := by
      unfold fn_L_play
      rw [W.2]; rfl
    refine y_okE (k := 1) (by decide) (by decide) W.1 hL ?_ hG'
    rw [hL]
    unfold tk_X8_play fn_X8_play tk_X8_play_27 fn_X8_play_27
    have : fv_X8_in x (nI 1) (nI 50) = nI 0 := by
      rcases hx with hx | hx
      · exact i_rl hx
      · exact i_hi (by decide) hx (by decide)
    rw [this]
    exact y_pos rfl (gw_ill (by decide) (by decide))
  rcases i_ix1 x (n := 50) (by decide) with hx | hx | ⟨j, hj1, hj50, rfl⟩
  · exact err (Or.inl hx)
  · exact err (Or.inr hx)
  · have rng := i_in hj1 hj50 (by decide)
    by_cases hliv : 0 < s.1.length ∧ dd = false
    · have ws := y_wg_ws hg hn hliv.1
      obtain ⟨P1, h', P2, ⟨hd', f0', P3⟩, P4, P5, P6⟩ := c_play (h0 := h) hw j 0 s hd f0 h 2000 (100 + 2 * (n + 1)) (by omega) (by omega) hC ws (k_near_refl h) (by have := hg.2.2.2.2.1; omega)
      rw [Nat.zero_add] at P1 P2
      have W : y_W (tk_X7_play (nI j) h) (fn_X7_play (nI j) h) (fun r => r = .ok (some (.int (nI (p_play m wt j s).1)), h')) := by
        unfold tk_X7_play fn_X7_play
        rw [c_livO hC hl36 hliv]
        refine y_neg (nI_nlt hj1 (by omega)) (y_pos (nI_le hj50 (by decide)) ⟨fun rx _ => P1, ?_⟩)
        show fn_X7_play_27 2000 (nI j) (nI 0) h = _
        rw [P2, Nat.zero_add]
      have hL : fn_L_play (nI j) h = (some (.int (nI 0)), z_setL h' 35 ((nI 0).toNatClampNeg) (nI (p_play m wt j s).1).toInt64) := by
        unfold fn_L_play
        rw [W.2]; rfl
      refine y_okO W.1 hL hw (y_wg_of P5 P6) P3 hM (y_fr_mono P4.1 (by decide)) (fun h2 hM2 hC3 e => ?_)
      rw [e]
      have hMt := y_GM_th hM2 (nI 0)
      obtain ⟨G1, G2, G3, G4⟩ := r_play39 (h0 := z_set h2 20 0 (nI 0)) hw j 0 s (z_set h2 20 0 (nI 0)) 2000 (by omega) (by omega) hMt.1 ws (r_near_refl _)
      rw [Nat.zero_add] at G1 G2 G3 G4
      unfold tk_X8_play fn_X8_play tk_X8_play_27 fn_X8_play_27
      rw [rng, r_lives hM2, if_pos hliv]
      refine y_neg i1_ne0 (y_neg i1_ne0 (gw_well ?_))
      rw [gw_h]
      refine ⟨G1, ?_, ?_, r_near_GM hMt.2 G3 G4, y_fr_trans (y_fr_set y_fr_refl (by decide)) (y_fr_mono G4.1 (by decide))⟩
      · rw [G4.2 0 (by decide) (by decide) (by decide), y_sh]
      · rw [G2, Nat.zero_add]
    · have W : y_W (tk_X7_play (nI j) h) (fn_X7_play (nI j) h) (fun r => r = .error z_ES) := by
        unfold tk_X7_play fn_X7_play
        rw [c_livE hC hl36 hliv]
        exact y_neg (nI_nlt hj1 (by omega)) (y_pos (nI_le hj50 (by decide)) ⟨fun rx q => (by cases q), rfl⟩)
      have hL : fn_L_play (nI j) h = (some (.int (nI 2)), h) := by
        unfold fn_L_play
        rw [W.2]; rfl
      refine y_okE (k := 2) (by decide) (by decide) W.1 hL ?_ hG'
      rw [hL]
      unfold tk_X8_play fn_X8_play tk_X8_play_27 fn_X8_play_27
      rw [rng, r_lives hM, if_neg hliv]
      exact y_neg i1_ne0 (y_pos i0_eq0 (gw_ill (by decide) (by decide)))
/-! bodyAt -/
theorem B_bodyAt {n : Nat} {h : z_H} (hG : y_G n h) (x : Int32) : y_ok True (tk_X8_bodyAt x (fn_L_bodyAt x h).2) (fn_L_bodyAt x h) (fn_X8_bodyAt x (fn_L_bodyAt x h).2) n := by
  have hG' := hG
  obtain ⟨m, wt, s, dd, hd, f0, hw, hg, hC, hM⟩ := hG
  have hl36 := y_wg_len hg
  have e5 := hC.1.1.2.1.2.2.1
  have err : (x < 0 ∨ nI s.1.length ≤ x) → y_ok True (tk_X8_bodyAt x (fn_L_bodyAt x h).2) (fn_L_bodyAt x h) (fn_X8_bodyAt x (fn_L_bodyAt x h).2) n := by
    intro hx
    have hL : fn_L_bodyAt x h = (some (.int (nI 1)), h) := by
      unfold fn_L_bodyAt fn_X7_bodyAt fn_X7_bodyAt_15
      rw [e5]
      rcases hx with hx | hx
      · rw [if_pos hx]; rfl
      · rw [if_neg (i_hlt (by omega) hx).2, if_neg (i_hlt (by omega) hx).1]; rfl
    refine y_okE (k := 1) (by decide) (by decide) trivial hL ?_ hG'
    rw [hL]
    unfold tk_X8_bodyAt fn_X8_bodyAt tk_X8_bodyAt_20 fn_X8_bodyAt_20
    have : fv_X8_in x (nI 0) (h.1 20 12 - nI 1) = nI 0 := by
      rw [hM.1.2.2.2.1.1]
      by_cases z : s.1.length = 0
      · rw [z]
        unfold fv_X8_in
        by_cases q : x < nI 0
        · rw [if_pos q]
        · rw [if_neg q, if_pos]
          have q' : ¬ x < 0 := q
          rw [Int32.lt_iff_toInt_lt, Int32.toInt_zero] at q'
          rw [Int32.lt_iff_toInt_lt, show (nI 0 - nI 1).toInt = -1 from by decide]
          omega
      · rw [pk_sub (by omega)]
        exact r_rngE (by omega) (by rw [show s.1.length - 1 + 1 = s.1.length by omega]; exact hx)
    rw [this]
    exact y_pos rfl (gw_ill (by decide) (by decide))
  rcases pk_ix x (n := s.1.length) (by omega) with hx | hx | ⟨j, hj, rfl⟩
  · exact err (Or.inl hx)
  · exact err (Or.inr hx)
  · have hL : fn_L_bodyAt (nI j) h = (some (.int (nI 0)), z_setL h 35 ((nI 0).toNatClampNeg) (nI (s.1.getD j 99)).toInt64) := by
      unfold fn_L_bodyAt fn_X7_bodyAt
      rw [e5, if_neg (nI_pos (by omega)), if_pos (nI_lt hj (by omega)), k_c0 hC.1.1 (by omega) hj (by omega)]
      rfl
    refine y_okO (h1 := h) trivial hL hw (y_wg_s hg) hC hM y_fr_refl (fun h2 hM2 hC2 e => ?_)
    rw [e]
    unfold tk_X8_bodyAt fn_X8_bodyAt tk_X8_bodyAt_20 fn_X8_bodyAt_20
    rw [hM2.1.2.2.2.1.1, pk_sub (by omega), i_in (Nat.zero_le j) (by omega : j ≤ s.1.length - 1) (by omega)]
    refine y_neg i1_ne0 (gw_well ⟨vp_in_nI (by omega) (by decide), m_same hM2 ?_⟩)
    rw [gw_h, z_set_ne (by decide), nI_clamp (by omega), hM2.1.2.2.2.1.2.2.1 j hj]
/-! isSafe -/
theorem B_isSafe {n : Nat} {h : z_H} (hG : y_G n h) (hn : n ≤ 600) (x : Int32) : y_okB (tk_L_isSafe x h) (tk_X8_isSafe x (fn_L_isSafe x h).2) (fn_L_isSafe x h) (fn_X8_isSafe x (fn_L_isSafe x h).2) n := by
  have hG' := hG
  obtain ⟨m, wt, s, dd, hd, f0, hw, hg, hC, hM⟩ := hG
  have hl36 := y_wg_len hg
  have err : (x < 0 ∨ nI 4 ≤ x) → y_okB (tk_L_isSafe x h) (tk_X8_isSafe x (fn_L_isSafe x h).2) (fn_L_isSafe x h) (fn_X8_isSafe x (fn_L_isSafe x h).2) n := by
    intro hx
    have hL : fn_L_isSafe x h = (some (.int (nI 1)), h) := by
      unfold fn_L_isSafe fn_X7_isSafe
      rw [c_dirE hx]; rfl
    refine y_okBE (k := 1) (by decide) (by decide) (fun rx q => by rw [c_dirE hx] at q; cases q) hL ?_ hG'
    rw [hL]
    unfold tk_X8_isSafe fn_X8_isSafe tk_X8_isSafe_24 fn_X8_isSafe_24 fv_X8_isDirection
    rw [r_rngE (n := 3) (by decide) hx]
    exact y_pos rfl (gw_ill (by decide) (by decide))
  rcases pk_ix x (n := 4) (by decide) with hx | hx | ⟨d, hd4, rfl⟩
  · exact err (Or.inl hx)
  · exact err (Or.inr hx)
  · have rng : fv_X8_isDirection (nI d) = nI 1 := i_in (Nat.zero_le d) (by omega : d ≤ 3) (by decide)
    by_cases hliv : 0 < s.1.length ∧ dd = false
    · have ws := y_wg_ws hg hn hliv.1
      obtain ⟨S1, S2, S3, S4⟩ := k_safe hw hC.1 ws hd4
      have hL : fn_L_isSafe (nI d) h = (some (.int (nI 0)), z_setL (fn_X5_seesSafe (nI d) h).2 35 ((nI 0).toNatClampNeg) (if p_safe m wt s d = true then nI 1 else nI 0 : Int32).toInt64) := by
        unfold fn_L_isSafe fn_X7_isSafe
        rw [c_dirO hd4, c_livO hC hl36 hliv, S2]
        exact y_bool _ _ _
      refine y_okBO (fun rx _ rx2 _ => S1) hL hw (y_wg_s hg) (k_near_GC hC S3.1 S4) hM (y_fr_mono S4.1 (by decide)) (fun h2 hM2 hC3 e => ?_)
      rw [e]
      have hMt := y_GM_th hM2 (nI 0)
      obtain ⟨q1, q2⟩ := r_safe hw hMt.1 ws hd4
      unfold tk_X8_isSafe fn_X8_isSafe tk_X8_isSafe_24 fn_X8_isSafe_24
      rw [rng, r_lives hM2, if_pos hliv]
      refine y_neg i1_ne0 (y_neg i1_ne0 (gw_well ?_))
      rw [gw_h, q2]
      refine ⟨q1, m_same hM2 ?_⟩
      cases p_safe m wt s d with
      | true => exact if_neg i1_ne0
      | false => exact if_pos i0_eq0
    · have hL : fn_L_isSafe (nI d) h = (some (.int (nI 2)), h) := by
        unfold fn_L_isSafe fn_X7_isSafe
        rw [c_dirO hd4, c_livE hC hl36 hliv]; rfl
      refine y_okBE (k := 2) (by decide) (by decide) (fun rx _ rx2 q => by rw [c_livE hC hl36 hliv] at q; cases q) hL ?_ hG'
      rw [hL]
      unfold tk_X8_isSafe fn_X8_isSafe tk_X8_isSafe_24 fn_X8_isSafe_24
      rw [rng, r_lives hM, if_neg hliv]
      exact y_neg i1_ne0 (y_pos i0_eq0 (gw_ill (by decide) (by decide)))
