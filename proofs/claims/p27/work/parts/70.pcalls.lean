/-! ===== pure: the calls of a living worm, on both sides ===== -/
theorem y_wg_of {m : Nat} {s : p_St} {n : Nat} (ws : y_ws m s) (h : s.2.1 + 2 * s.2.2.length ≤ 100 + 2 * n) : y_wg m s n := ⟨ws.2.1, ws.2.2.1, ws.2.2.2.1, ws.2.2.2.2.1, h, fun z => absurd z ws.1⟩
theorem p_adv_bd {m : Nat} {wt : Nat → Nat} {s : p_St} {d B : Nat} (h : s.2.1 + 2 * s.2.2.length ≤ B) : (p_adv m wt s d).2.1 + 2 * (p_adv m wt s d).2.2.length ≤ B := by
  show (s.2.1 - 1) + (if p_eats m wt s d = true then 2 else 0) + 2 * (if p_eats m wt s d = true then s.2.2.tail else s.2.2).length ≤ B
  by_cases e : p_eats m wt s d = true
  · rw [if_pos e, if_pos e, List.length_tail]
    have := (p_eats_iff.mp e).1
    omega
  · rw [if_neg e, if_neg e]; omega
theorem k_near_GC {m : Nat} {wt : Nat → Nat} {s s' : p_St} {dd : Bool} {hd hd' f0 f0' : Nat} {h h' : z_H} (hC : y_GC m wt s dd hd f0 h) (hR : y_RC m wt s' hd' f0' h') (hn : k_near h h') : y_GC m wt s' dd hd' f0' h' := ⟨⟨hR, y_CC_fr hC.1.2.1 hn.1, y_TC_fr hC.1.2.2 hn.1⟩, by rw [hn.2 8 (by decide) (by decide) (by decide)]; exact hC.2⟩
theorem r_near_GM {m : Nat} {wt : Nat → Nat} {s' : p_St} {dd : Bool} {h h' : z_H} (h11 : h.1 20 11 = if dd = true then nI 1 else nI 0) (hK : y_KM m wt s' h') (hn : r_near h h') : y_GM m wt s' dd h' := ⟨hK, by rw [hn.2 11 (by decide) (by decide) (by decide)]; exact h11⟩
theorem m_keep {m : Nat} {wt : Nat → Nat} {s : p_St} {dd : Bool} {h2 h3 : z_H} {os : List Nat} (hM2 : y_GM m wt s dd h2) (hf : y_fr os (z_set h2 20 0 (nI 0)) h3) (ho : ∀ a ∈ [20, 21, 22, 23, 24, 25, 26, 27, 28], a ∉ os) (hos : ∀ a ∈ os, a ∈ y_osM) : h3.1 20 0 = nI 0 ∧ y_GM m wt s dd h3 ∧ y_fr y_osM h2 h3 := by
  refine ⟨by rw [y_fr_at hf 20 (ho 20 (by decide)), y_sh], y_GM_fr (y_GM_th hM2 _) hf ho, y_fr_trans (y_fr_set y_fr_refl (by decide)) (y_fr_mono hf hos)⟩
/-! step -/
/-! play -/
theorem c_play {m : Nat} {wt : Nat → Nat} {dd : Bool} {h0 : z_H} (hw : y_wf m wt) : ∀ (j made : Nat) (s : p_St) (hd f0 : Nat) (h : z_H) (n B : Nat), made + j ≤ 50 → j + 1 < n → y_GC m wt s dd hd f0 h → y_ws m s → k_near h0 h → s.2.1 + 2 * s.2.2.length ≤ B →
    y_W (tk_X7_play_27 n (nI (made + j)) (nI made) h) (fn_X7_play_27 n (nI (made + j)) (nI made) h) (fun r => ∃ h', r = .ok (some (.int (nI (made + (p_play m wt j s).1))), h') ∧ (∃ hd' f0', y_GC m wt (p_play m wt j s).2 dd hd' f0' h') ∧ k_near h0 h' ∧ y_ws m (p_play m wt j s).2 ∧ (p_play m wt j s).2.2.1 + 2 * (p_play m wt j s).2.2.2.length ≤ B)
  | 0, made, s, hd, f0, h, n + 1, B, hm, hn, hC, ws, hr, hB => by
    unfold tk_X7_play_27 fn_X7_play_27
    dsimp only
    exact y_pos (nI_le (Nat.le_refl _) (by omega)) (y_end ⟨h, rfl, ⟨hd, f0, hC⟩, hr, ws, hB⟩)
  | j + 1, made, s, hd, f0, h, n + 1, B, hm, hn, hC, ws, hr, hB => by
    have CH := k_choice (h0 := h) hw ws 4 0 h 2000 rfl (by decide) hC.1 (k_near_refl h)
    obtain ⟨c1, c2, c3, c4⟩ := CH
    have c1' : tk_X5_choice h := c1
    have c2' : z_vi (fn_X5_choice h) = p_i (p_chs m wt s 4) := c2
    have c3' : y_K m wt s hd f0 (fn_X5_choice h).2 := c3
    have c4' : k_near h (fn_X5_choice h).2 := c4
    have hch := p_chs_lt (m := m) (wt := wt) (s := s) 4
    unfold tk_X7_play_27 fn_X7_play_27
    dsimp only
    refine y_neg (nI_ge (by omega) (by omega)) (y_req c1' ?_)
    rw [c2']
    have ep0 : p_play m wt (j + 1) s = if p_chs m wt s 4 = 99 then (0, s) else ((p_play m wt j (p_adv m wt s (p_chs m wt s 4))).1 + 1, (p_play m wt j (p_adv m wt s (p_chs m wt s 4))).2) := rfl
    refine y_none (p_chs m wt s 4) rfl (fun e => ?_) (fun e => ?_)
    · rw [if_pos e] at ep0
      rw [ep0]
      exact y_end ⟨_, rfl, ⟨hd, f0, k_near_GC hC c3'.1 c4'⟩, k_near_trans hr c4', ws, hB⟩
    · rw [if_neg e] at ep0
      obtain ⟨hlt, hs⟩ := hch.resolve_right e
      have hc := (of_decide_eq_true hs).2.2.1
      obtain ⟨a1, a2, a3, a4⟩ := k_adv hw c3'.1 ws hlt hc
      have ws' := y_ws_adv hlt ws hc
      rw [p_i_n e, (k_advY hw c3'.1 ws hlt hc).1, nI_add]
      refine y_neg i1_ne0 ?_
      have IH := c_play (h0 := h0) hw j (made + 1) _ _ _ (fh_X6_advance (fn_X5_choice h).2 (nI (p_chs m wt s 4))) n B (by omega) (by omega) (k_near_GC (k_near_GC hC c3'.1 c4') a1 a4) ws' (k_near_trans hr (k_near_trans c4' a4)) (p_adv_bd hB)
      rw [show made + 1 + j = made + (j + 1) by omega] at IH
      refine y_mono IH (fun q => ?_)
      rw [ep0]
      obtain ⟨h', q1, q2⟩ := q
      refine ⟨h', ?_, q2⟩
      rw [q1]
      congr 4
      refine congrArg nI ?_
      show made + 1 + _ = made + (_ + 1)
      omega
theorem i_ix1 (x : Int32) {n : Nat} (hn : n + 1 < 2 ^ 31) : x < nI 1 ∨ nI (n + 1) ≤ x ∨ ∃ j : Nat, 1 ≤ j ∧ j ≤ n ∧ x = nI j := by
  rcases pk_ix x (n := n + 1) hn with h | h | ⟨j, hj, e⟩
  · refine Or.inl ?_
    rw [Int32.lt_iff_toInt_lt, Int32.toInt_zero] at h
    rw [Int32.lt_iff_toInt_lt, nI_toInt (by decide)]
    omega
  · exact Or.inr (Or.inl h)
  · by_cases z : 1 ≤ j
    · exact Or.inr (Or.inr ⟨j, z, by omega, e⟩)
    · refine Or.inl ?_
      rw [e]
      exact nI_lt (by omega) (by decide)
theorem i_hle {x : Int32} {n : Nat} (hn : n + 1 < 2 ^ 31) (h : nI (n + 1) ≤ x) (h1 : 1 ≤ n) : ¬ x < nI 1 ∧ ¬ x ≤ nI n := by
  rw [Int32.le_iff_toInt_le, nI_toInt hn] at h
  rw [Int32.lt_iff_toInt_lt, Int32.le_iff_toInt_le, nI_toInt (by omega), nI_toInt (by omega)]
  omega
/-! bodyAt -/
/-! isSafe -/
