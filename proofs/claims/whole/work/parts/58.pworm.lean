/-! ===== pure: setLink, and the worm's calls, on both sides ===== -/
theorem s_wt : ∀ w, w ≤ 9 → fv_X8_in (nI w) (-1) (nI 9) = nI 1 := by decide +kernel
theorem i_wl {y : Int32} (h0 : y < 0) (h1 : ¬ y = (-1)) : fv_X8_in y (-1) (nI 9) = nI 0 := by
  unfold fv_X8_in
  rw [if_pos]
  rw [Int32.lt_iff_toInt_lt, Int32.toInt_zero] at h0
  rw [Int32.lt_iff_toInt_lt, show ((-1 : Int32)).toInt = -1 from by decide]
  rw [← Int32.toInt_inj, show ((-1 : Int32)).toInt = -1 from by decide] at h1
  omega
theorem i_wh {y : Int32} (h : nI 10 ≤ y) : fv_X8_in y (-1) (nI 9) = nI 0 := by
  unfold fv_X8_in
  rw [Int32.le_iff_toInt_le, nI_toInt (by decide)] at h
  by_cases e : y < (-1)
  · rw [if_pos e]
  · rw [if_neg e, if_pos]
    rw [Int32.lt_iff_toInt_lt, nI_toInt (by decide)]
    omega
theorem B_setLink {n : Nat} {h : z_H} (hG : y_G n h) (x y : Int32) : y_ok (tk_L_setLink x y h) (tk_X8_setLink x y (fn_L_setLink x y h).2) (fn_L_setLink x y h) (fn_X8_setLink x y (fn_L_setLink x y h).2) n := by
  have hG' := hG
  obtain ⟨m, wt, s, dd, hd, f0, hw, hg, hC, hM⟩ := hG
  have hth := c_there hC.1.1 (y_wg_len hg)
  have err : (x < 0 ∨ nI 12 ≤ x) → y_ok (tk_L_setLink x y h) (tk_X8_setLink x y (fn_L_setLink x y h).2) (fn_L_setLink x y h) (fn_X8_setLink x y (fn_L_setLink x y h).2) n := by
    intro hx
    have hL : fn_L_setLink x y h = (some (.int (nI 1)), h) := by
      unfold fn_L_setLink fn_X7_setLink
      rw [c_linkE hx]; rfl
    refine y_okE (k := 1) (by decide) (by decide) (fun rx q => by rw [c_linkE hx] at q; cases q) hL ?_ hG'
    rw [hL]
    unfold tk_X8_setLink fn_X8_setLink tk_X8_setLink_43 fn_X8_setLink_43
    rw [r_rngE (n := 11) (by decide) hx]
    exact y_pos rfl (gw_ill (by decide) (by decide))
  rcases pk_ix x (n := 12) (by decide) with hx | hx | ⟨l, hl, rfl⟩
  · exact err (Or.inl hx)
  · exact err (Or.inr hx)
  · have rng := i_in (Nat.zero_le l) (by omega : l ≤ 11) (by decide)
    -- a weight out of range
    have bad : ¬ y = (-1) → (y < 0 ∨ nI 10 ≤ y) → y_ok (tk_L_setLink (nI l) y h) (tk_X8_setLink (nI l) y (fn_L_setLink (nI l) y h).2) (fn_L_setLink (nI l) y h) (fn_X8_setLink (nI l) y (fn_L_setLink (nI l) y h).2) n := by
      intro hy1 hy
      have W : y_W (((y = (-1)) → (tk_X7_setLink_29 h (nI l) y)) ∧ ((¬ y = (-1)) → (((y < 0) → (True)) ∧ ((¬ y < 0) → (((y ≤ (nI 9)) → (tk_X7_setLink_29 h (nI l) y)) ∧ ((¬ y ≤ (nI 9)) → (True))))))) (if y = (-1) then fn_X7_setLink_29 h (nI l) y else if y < 0 then fn_X7_setLink_19 h else if y ≤ (nI 9) then fn_X7_setLink_29 h (nI l) y else fn_X7_setLink_19 h) (fun r => r = .error z_EA) := by
        unfold fn_X7_setLink_19
        refine y_neg hy1 ?_
        rcases hy with hy | hy
        · exact y_pos hy (y_end rfl)
        · refine y_neg (i_hlt (by decide) hy).2 (y_neg (fun z => ?_) (y_end rfl))
          rw [Int32.le_iff_toInt_le, nI_toInt (by decide)] at hy z
          omega
      have hL : fn_L_setLink (nI l) y h = (some (.int (nI 2)), h) := by
        unfold fn_L_setLink fn_X7_setLink
        rw [c_linkO hl, W.2]; rfl
      refine y_okE (k := 2) (by decide) (by decide) (fun rx q => W.1) hL ?_ hG'
      rw [hL]
      unfold tk_X8_setLink fn_X8_setLink tk_X8_setLink_43 fn_X8_setLink_43
      rw [rng]
      refine y_neg i1_ne0 ?_
      have : fv_X8_in y (-1) (nI 9) = nI 0 := by
        rcases hy with hy | hy
        · exact i_wl hy hy1
        · exact i_wh hy
      rw [this]
      exact y_pos rfl (gw_ill (by decide) (by decide))
    have good : ∀ w, (w ≤ 9 ∨ w = 99) → y_ok (tk_L_setLink (nI l) (p_i w) h) (tk_X8_setLink (nI l) (p_i w) (fn_L_setLink (nI l) (p_i w) h).2) (fn_L_setLink (nI l) (p_i w) h) (fn_X8_setLink (nI l) (p_i w) (fn_L_setLink (nI l) (p_i w) h).2) n := by
      intro w hw9
      have hrw : fv_X8_in (p_i w) (-1) (nI 9) = nI 1 := by
        rcases hw9 with h9 | h9
        · rw [p_i_n (by omega)]; exact s_wt w h9
        · rw [h9]; decide
      have W29 : ∀ (P : z_RX → Prop), y_W (tk_X7_setLink_29 h (nI l) (p_i w)) (fn_X7_setLink_29 h (nI l) (p_i w)) P → y_W (((p_i w = (-1)) → (tk_X7_setLink_29 h (nI l) (p_i w))) ∧ ((¬ p_i w = (-1)) → (((p_i w < 0) → (True)) ∧ ((¬ p_i w < 0) → (((p_i w ≤ (nI 9)) → (tk_X7_setLink_29 h (nI l) (p_i w))) ∧ ((¬ p_i w ≤ (nI 9)) → (True))))))) (if p_i w = (-1) then fn_X7_setLink_29 h (nI l) (p_i w) else if p_i w < 0 then fn_X7_setLink_19 h else if p_i w ≤ (nI 9) then fn_X7_setLink_29 h (nI l) (p_i w) else fn_X7_setLink_19 h) P := by
        intro P f
        rcases hw9 with h9 | h9
        · have e : p_i w = nI w := p_i_n (by omega)
          rw [e] at f ⊢
          exact y_neg (y_m1 _ (by omega)) (y_neg (nI_pos (by omega)) (y_pos (nI_le h9 (by decide)) f))
        · have e : p_i w = (-1) := by rw [h9]; rfl
          rw [e] at f ⊢
          exact y_pos rfl f
      by_cases hs : 0 < s.1.length
      · have W := W29 (fun r => r = .error z_ES) (by
          unfold tk_X7_setLink_29 fn_X7_setLink_29
          rw [hth, if_pos hs]
          exact y_neg i1_ne0 (y_end rfl))
        have hL : fn_L_setLink (nI l) (p_i w) h = (some (.int (nI 3)), h) := by
          unfold fn_L_setLink fn_X7_setLink
          rw [c_linkO hl, W.2]; rfl
        refine y_okE (k := 3) (by decide) (by decide) (fun rx q => W.1) hL ?_ hG'
        rw [hL]
        unfold tk_X8_setLink fn_X8_setLink tk_X8_setLink_43 fn_X8_setLink_43
        rw [rng, hrw, hM.1.2.2.2.2, if_pos hs]
        exact y_neg i1_ne0 (y_neg i1_ne0 (y_neg i1_ne0 (gw_ill (by decide) (by decide))))
      · have hw' : y_wf m (fun a => if a = l then w else wt a) := ⟨hw.1, fun a ha => by
          show (if a = l then w else wt a) ≤ 9 ∨ (if a = l then w else wt a) = 99
          by_cases e : a = l
          · rw [if_pos e]; exact hw9
          · rw [if_neg e]; exact hw.2 a ha⟩
        have hP2 : y_BC m (fun a => if a = l then w else wt a) (z_set h 2 l (p_i w)) := by
          refine ⟨by rw [z_set_ne (by decide)]; exact hC.1.1.1.1, fun a ha => ?_⟩
          rw [y_sif]
          show _ = p_i (if a = l then w else wt a)
          by_cases e : a = l
          · rw [if_pos e, if_pos e]
          · rw [if_neg e, if_neg e]; exact hC.1.1.1.2 a ha
        obtain ⟨L1, L2, L3, L4, L5⟩ := g_layOut hw' hP2
        have hF5 : y_fr [1, 2, 3, 4, 5, 6] h (fn_X2_layOut (z_set h 2 l (p_i w))).2 := y_fr_trans (y_fr_set y_fr_refl (by decide)) (y_fr_mono L5 (by decide))
        have W := W29 (fun r => r = .ok (some (.int (p_i (wt l))), (fn_X2_layOut (z_set h 2 l (p_i w))).2)) (by
          unfold tk_X7_setLink_29 fn_X7_setLink_29
          rw [hth, if_neg hs, y_putv hl, y_atv hl, hC.1.1.1.2 l hl]
          exact y_pos i0_eq0 ⟨L1, rfl⟩)
        have hL : fn_L_setLink (nI l) (p_i w) h = (some (.int (nI 0)), z_setL (fn_X2_layOut (z_set h 2 l (p_i w))).2 35 ((nI 0).toNatClampNeg) (p_i (wt l)).toInt64) := by
          unfold fn_L_setLink fn_X7_setLink
          rw [c_linkO hl, W.2]; rfl
        have hC2 : y_GC m (fun a => if a = l then w else wt a) s dd hd f0 (fn_X2_layOut (z_set h 2 l (p_i w))).2 := by
          obtain ⟨⟨⟨_, v, f⟩, _, _⟩, c4⟩ := hC
          obtain ⟨w1, w2, w3, w4, w5, w6⟩ := v
          obtain ⟨f1, f2, f3, f4⟩ := f
          refine ⟨⟨⟨L2, ⟨w1, ?_, ?_, ?_, fun i hi => ?_, fun hne c hc => ?_⟩, ⟨f1, ?_, ?_, fun i hi => ?_⟩⟩, L4, L3⟩, ?_⟩
          · rw [y_fr_at hF5 10]; exact w2
          · rw [y_fr_at hF5 10]; exact w3
          · rw [y_fr_at hF5 10]; exact w4
          · rw [y_fr_at hF5 11]; exact w5 i hi
          · rw [y_fr_atL hF5 10]; exact w6 hne c hc
          · rw [y_fr_at hF5 8]; exact f2
          · rw [y_fr_at hF5 8]; exact f3
          · rw [y_fr_at hF5 9]; exact f4 i hi
          · rw [y_fr_at hF5 10]; exact c4
        refine y_okO (fun rx q => W.1) hL hw' (y_wg_s hg) hC2 hM (y_fr_mono hF5 (by decide)) (fun h2 hM2 hC3 e => ?_)
        rw [e]
        unfold tk_X8_setLink fn_X8_setLink tk_X8_setLink_43 fn_X8_setLink_43
        rw [rng, hrw, hM2.1.2.2.2.2, if_neg hs]
        refine y_neg i1_ne0 (y_neg i1_ne0 (y_pos i0_eq0 (gw_well ?_)))
        rw [gw_h, nI_clamp (by omega : l < 2 ^ 31), z_set_ne (by decide : 22 ≠ 20), hM2.1.1.2 l hl]
        have hB3 : y_BM m (fun a => if a = l then w else wt a) (z_set (z_set h2 20 0 (nI 0)) 22 l (p_i w)) := by
          refine ⟨fun b hb => by rw [z_set_ne (by decide), z_set_ne (by decide)]; exact hM2.1.1.1 b hb, fun a ha => ?_⟩
          rw [y_sif, z_set_ne (by decide)]
          show _ = p_i (if a = l then w else wt a)
          by_cases z : a = l
          · rw [if_pos z, if_pos z]
          · rw [if_neg z, if_neg z]; exact hM2.1.1.2 a ha
        obtain ⟨M1, M2, M3, M4, M5, M6⟩ := r_layCycle hw' hB3
        refine y_req (vp_in_nI hl (by decide)) (y_req (vp_in_nI hl (by decide)) ⟨M1, ?_⟩)
        have hF6 : y_fr [20, 22, 23, 24, 25, 26] h2 (fn_X8_layCycle (z_set (z_set h2 20 0 (nI 0)) 22 l (p_i w))).2 := y_fr_trans (y_fr_set (y_fr_set y_fr_refl (by decide)) (by decide)) (y_fr_mono M5 (by decide))
        have h20 : ∀ k, k ≠ 7 → k ≠ 0 → (fn_X8_layCycle (z_set (z_set h2 20 0 (nI 0)) 22 l (p_i w))).2.1 20 k = h2.1 20 k := fun k k1 k2 => by
          rw [M6 k k1, z_set_ne (by decide), y_sk k2]
        refine ⟨?_, rfl, ⟨⟨M2, M4, M3, ?_, ?_⟩, ?_⟩, y_fr_mono hF6 (by decide)⟩
        · show (fn_X8_layCycle _).2.1 20 0 = nI 0
          rw [M6 0 (by decide), z_set_ne (by decide), y_sh]
        · obtain ⟨v1, v2, v3, v4, v5⟩ := hM2.1.2.2.2.1
          exact ⟨by rw [h20 12 (by decide) (by decide)]; exact v1, by rw [h20 13 (by decide) (by decide)]; exact v2, fun i hi => by rw [y_fr_at hF6 28]; exact v3 i hi, by rw [h20 8 (by decide) (by decide)]; exact v4, fun i hi => by rw [y_fr_at hF6 27]; exact v5 i hi⟩
        · rw [h20 10 (by decide) (by decide)]; exact hM2.1.2.2.2.2
        · show (fn_X8_layCycle _).2.1 20 11 = _
          rw [h20 11 (by decide) (by decide)]; exact hM2.2
    by_cases hy1 : y = (-1)
    · have := good 99 (Or.inr rfl)
      rw [p_i_99] at this
      rw [hy1]; exact this
    · rcases pk_ix y (n := 10) (by decide) with hy | hy | ⟨w, hw10, rfl⟩
      · exact bad hy1 (Or.inl hy)
      · exact bad hy1 (Or.inr hy)
      · have := good w (Or.inl (by omega))
        rw [p_i_n (by omega)] at this
        exact this
/-! end -/
theorem B_end {n : Nat} {h : z_H} (hG : y_G n h) : y_ok True (tk_X8_end (fn_L_end h).2) (fn_L_end h) (fn_X8_end (fn_L_end h).2) n := by
  have hG' := hG
  obtain ⟨m, wt, s, dd, hd, f0, hw, hg, hC, hM⟩ := hG
  have hl36 := y_wg_len hg
  have hth := c_there hC.1.1 hl36
  by_cases hs : 0 < s.1.length
  · have hL : fn_L_end h = (some (.int (nI 0)), z_setL (z_set (z_set h 10 5 (nI 0)) 10 6 (nI 0)) 35 ((nI 0).toNatClampNeg) (nI s.1.length).toInt64) := by
      unfold fn_L_end fn_X7_end
      rw [hth, if_pos hs, if_neg i1_ne0, hC.1.1.2.1.2.2.1]; rfl
    have hF : y_fr [10] h (z_set (z_set h 10 5 (nI 0)) 10 6 (nI 0)) := y_fr_set (y_fr_set y_fr_refl (by decide)) (by decide)
    have hg2 : y_wg m ([], 0, s.2.2) (n + 1) := ⟨by simp, fun c hc => (by cases hc), hg.2.2.1, hg.2.2.2.1, (by have := hg.2.2.2.2.1; show 0 + 2 * s.2.2.length ≤ _; omega), fun _ => rfl⟩
    have hC2 : y_GC m wt ([], 0, s.2.2) dd hd f0 (z_set (z_set h 10 5 (nI 0)) 10 6 (nI 0)) := by
      obtain ⟨⟨⟨b, w, f⟩, c2, c3⟩, c4⟩ := hC
      obtain ⟨w1, w2, w3, w4, w5, w6⟩ := w
      obtain ⟨f1, f2, f3, f4⟩ := f
      refine ⟨⟨⟨y_BC_fr b hF, ⟨w1, ?_, ?_, ?_, fun i hi => absurd hi (Nat.not_lt_zero i), fun hne => absurd rfl hne⟩, ⟨f1, ?_, ?_, fun i hi => ?_⟩⟩, y_CC_fr c2 hF, y_TC_fr c3 hF⟩, ?_⟩
      · rw [y_sk (by decide), y_sk (by decide)]; exact w2
      · rw [y_sk (by decide), y_sh]; rfl
      · rw [y_sh]
      · rw [y_fr_at hF 8]; exact f2
      · rw [y_fr_at hF 8]; exact f3
      · rw [y_fr_at hF 9]; exact f4 i hi
      · rw [y_sk (by decide), y_sk (by decide)]; exact c4
    refine y_okO trivial hL hw hg2 hC2 hM (y_fr_mono hF (by decide)) (fun h2 hM2 hC3 e => ?_)
    rw [e]
    unfold tk_X8_end fn_X8_end tk_X8_end_13 fn_X8_end_13
    rw [hM2.1.2.2.2.2, if_pos hs]
    refine y_neg i1_ne0 (y_end ?_)
    have e12 : (z_set h2 20 0 (nI 0)).1 20 12 = nI s.1.length := by rw [y_sk (by decide)]; exact hM2.1.2.2.2.1.1
    rw [gw_0, if_neg i1_ne0, gw_h, e12]
    have hF6 : y_fr [20] h2 (z_set (z_set (z_set (z_set h2 20 0 (nI 0)) 20 10 (nI 0)) 20 12 (nI 0)) 20 13 (nI 0)) := y_fr_set (y_fr_set (y_fr_set (y_fr_set y_fr_refl (by decide)) (by decide)) (by decide)) (by decide)
    obtain ⟨⟨k1, k2, k3, k4, k5⟩, k6⟩ := hM2
    refine ⟨?_, rfl, ⟨⟨y_BM_fr k1 hF6, ⟨?_, fun p hp => ?_, fun c hc => ?_⟩, y_TM_fr k3 hF6, ⟨?_, ?_, fun i hi => absurd hi (Nat.not_lt_zero i), ?_, fun i hi => ?_⟩, ?_⟩, ?_⟩, y_fr_mono hF6 (by decide)⟩
    · rw [y_sk (by decide), y_sk (by decide), y_sk (by decide), y_sh]
    · rw [y_sk (by decide), y_sk (by decide), y_sk (by decide), y_sk (by decide)]; exact k2.1
    · rw [y_fr_at hF6 26]; exact k2.2.1 p hp
    · rw [y_fr_at hF6 25]; exact k2.2.2 c hc
    · rw [y_sk (by decide), y_sh]; rfl
    · rw [y_sh]
    · rw [y_sk (by decide), y_sk (by decide), y_sk (by decide), y_sk (by decide)]; exact k4.2.2.2.1
    · rw [y_fr_at hF6 27]; exact k4.2.2.2.2 i hi
    · rw [y_sk (by decide), y_sk (by decide), y_sh]; rfl
    · show (z_set (z_set (z_set (z_set h2 20 0 (nI 0)) 20 10 (nI 0)) 20 12 (nI 0)) 20 13 (nI 0)).1 20 11 = _
      rw [y_sk (by decide), y_sk (by decide), y_sk (by decide), y_sk (by decide)]; exact k6
  · have hL : fn_L_end h = (some (.int (nI 1)), h) := by
      unfold fn_L_end fn_X7_end
      rw [hth, if_neg hs, if_pos i0_eq0]; rfl
    refine y_okE (k := 1) (by decide) (by decide) trivial hL ?_ hG'
    rw [hL]
    unfold tk_X8_end fn_X8_end tk_X8_end_13 fn_X8_end_13
    rw [hM.1.2.2.2.2, if_neg hs]
    refine y_pos i0_eq0 (y_end ?_)
    rw [gw_k h (by decide) (by decide), if_pos i0_eq0, gw_h]
