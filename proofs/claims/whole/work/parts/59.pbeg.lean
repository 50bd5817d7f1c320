/-! ===== pure: begin, feed, step on both sides ===== -/
def y_okV (T2 : Prop) (rL rM : z_R) (n : Nat) : Prop := T2 ∧ rM.2.1 20 0 = z_vi rL ∧ y_G (n + 1) rM.2
theorem y_okVE {T2 : Prop} {rL rM : z_R} {k n : Nat} {h : z_H} (hL : rL = (some (.int (nI k)), h)) (hM : y_W T2 rM (fun r => r.2 = z_set h 20 0 (nI k))) (hG : y_G n h) : y_okV T2 rL rM n := by
  obtain ⟨t2, e⟩ := hM
  refine ⟨t2, ?_, ?_⟩
  · rw [e, hL, y_sh]; rfl
  · rw [e]; exact y_G_th hG _
theorem r_beg67 {h : z_H} {x y : Int32} {k : Nat} (hk : 0 < k) (hk4 : k < 4) : y_W (tk_X8_begin_67 x y (nI k) h) (fn_X8_begin_67 x y (nI k) h) (fun r => r.2 = z_set h 20 0 (nI k)) := by
  unfold tk_X8_begin_67 fn_X8_begin_67
  refine y_end ?_
  rw [gw_k h hk hk4, if_pos i0_eq0]
  exact gw_h h _
theorem B_begin {n : Nat} {h : z_H} (hG : y_G n h) (x y : Int32) : y_okV (tk_X8_begin x y (fn_L_begin x y h).2) (fn_L_begin x y h) (fn_X8_begin x y (fn_L_begin x y h).2) n := by
  have hG' := hG
  obtain ⟨m, wt, s, dd, hd, f0, hw, hg, hC, hM⟩ := hG
  have hl36 := y_wg_len hg
  have hth := c_there hC.1.1 hl36
  have err : (x < 0 ∨ nI 36 ≤ x) → y_okV (tk_X8_begin x y (fn_L_begin x y h).2) (fn_L_begin x y h) (fn_X8_begin x y (fn_L_begin x y h).2) n := by
    intro hx
    have hL : fn_L_begin x y h = (some (.int (nI 1)), h) := by
      unfold fn_L_begin fn_X7_begin
      rw [c_cellE hx]; rfl
    refine y_okVE (k := 1) hL ?_ hG'
    rw [hL]
    unfold tk_X8_begin fn_X8_begin tk_X8_begin_30 fn_X8_begin_30 tk_X8_begin_31 fn_X8_begin_31
    rw [r_cellE hx]
    exact y_pos rfl (y_pos rfl (r_beg67 (by decide) (by decide)))
  rcases pk_ix x (n := 36) (by decide) with hx | hx | ⟨c, hc, rfl⟩
  · exact err (Or.inl hx)
  · exact err (Or.inr hx)
  · obtain ⟨b1, b2, b9⟩ := s_blk _ hc
    -- the reference, up to its last questions
    have r31 : ∀ (h2 : z_H), y_GM m wt s dd h2 → ∀ P : z_R → Prop, (0 < s.1.length ∨ m.testBit (p_blk c) = true → y_W (tk_X8_begin_31 (nI c) y (nI 0) h2) (fn_X8_begin_31 (nI c) y (nI 0) h2) P) → (¬ 0 < s.1.length → m.testBit (p_blk c) = false → y_W (tk_X8_begin_31 (nI c) y (nI 1) h2) (fn_X8_begin_31 (nI c) y (nI 1) h2) P) → y_W (tk_X8_begin (nI c) y h2) (fn_X8_begin (nI c) y h2) P := by
      intro h2 hM2 P f g
      unfold tk_X8_begin fn_X8_begin tk_X8_begin_30 fn_X8_begin_30
      rw [r_cellO hc, hM2.1.2.2.2.2, b2, nI_clamp (by omega : p_blk c < 2 ^ 31)]
      refine y_neg i1_ne0 ?_
      by_cases hs : 0 < s.1.length
      · rw [if_pos hs]
        exact y_neg i1_ne0 (f (Or.inl hs))
      · rw [if_neg hs]
        refine y_pos i0_eq0 (y_req (vp_in_nI b9 (by decide)) (y_if (fun z => g hs ((y_BM0 hM2.1.1 b9).mp z)) (fun z => f (Or.inr ?_))))
        cases e : m.testBit (p_blk c) with
        | true => rfl
        | false => exact absurd ((y_BM0 hM2.1.1 b9).mpr e) z
    have bad : (y < 0 ∨ nI 21 ≤ y) → y_okV (tk_X8_begin (nI c) y (fn_L_begin (nI c) y h).2) (fn_L_begin (nI c) y h) (fn_X8_begin (nI c) y (fn_L_begin (nI c) y h).2) n := by
      intro hy
      have hL : fn_L_begin (nI c) y h = (some (.int (nI 2)), h) := by
        unfold fn_L_begin fn_X7_begin fn_X7_begin_14
        rw [c_cellO hc]
        rcases hy with hy | hy
        · rw [if_pos hy]; rfl
        · have h2 : ¬ y ≤ nI 20 := fun z => by
            rw [Int32.le_iff_toInt_le, nI_toInt (by decide)] at hy z
            omega
          rw [if_neg (i_hlt (by decide) hy).2, if_neg h2]; rfl
      refine y_okVE (k := 2) hL ?_ hG'
      rw [hL]
      have g31 : ∀ v : Int32, y_W (tk_X8_begin_31 (nI c) y v h) (fn_X8_begin_31 (nI c) y v h) (fun r => r.2 = z_set h 20 0 (nI 2)) := by
        intro v
        unfold tk_X8_begin_31 fn_X8_begin_31
        rw [r_cellO hc, r_rngE (n := 20) (by decide) hy]
        exact y_neg i1_ne0 (y_pos rfl (r_beg67 (by decide) (by decide)))
      exact r31 h hM _ (fun _ => g31 _) (fun _ _ => g31 _)
    rcases pk_ix y (n := 21) (by decide) with hy | hy | ⟨w, hw21, rfl⟩
    · exact bad (Or.inl hy)
    · exact bad (Or.inr hy)
    · have rng := i_in (Nat.zero_le w) (by omega : w ≤ 20) (by decide)
      by_cases hok : 0 < s.1.length ∨ m.testBit (p_blk c) = true
      · have hL : fn_L_begin (nI c) (nI w) h = (some (.int (nI 3)), h) := by
          unfold fn_L_begin fn_X7_begin fn_X7_begin_48
          rw [c_cellO hc, if_neg (nI_pos (by omega)), if_pos (nI_le (by omega : w ≤ 20) (by decide)), hth, b1, k_wallv hC.1.1.1 b9]
          by_cases hs : 0 < s.1.length
          · rw [if_pos hs, if_neg i1_ne0]; rfl
          · rw [if_neg hs, if_pos i0_eq0, if_pos (hok.resolve_left hs), if_neg i1_ne0]; rfl
        refine y_okVE (k := 3) hL ?_ hG'
        rw [hL]
        refine r31 h hM _ (fun _ => ?_) (fun z1 z2 => ?_)
        · unfold tk_X8_begin_31 fn_X8_begin_31
          rw [r_cellO hc, rng]
          exact y_neg i1_ne0 (y_neg i1_ne0 (y_pos i0_eq0 (r_beg67 (by decide) (by decide))))
        · rcases hok with z | z
          · exact absurd z z1
          · rw [z2] at z; cases z
      · have hs : ¬ 0 < s.1.length := fun z => hok (Or.inl z)
        have hop : m.testBit (p_blk c) = false := by
          cases e : m.testBit (p_blk c) with
          | false => rfl
          | true => exact absurd (Or.inr e) hok
        have h64 := hC.1.1.2.1.1
        have hL : fn_L_begin (nI c) (nI w) h = (some (.int (nI 0)), z_set (z_setL (z_set (z_set (z_set h 11 hd (nI c)) 10 5 (nI 1)) 10 6 (nI w)) 10 7 (fv_X7_setOf (nI c))) 10 8 (nI 0)) := by
          unfold fn_L_begin fn_X7_begin
          rw [c_cellO hc, if_neg (nI_pos (by omega)), if_pos (nI_le (by omega : w ≤ 20) (by decide)), hth, b1, k_wallv hC.1.1.1 b9, if_neg hs, if_pos i0_eq0, hop, if_neg (by decide : ¬ false = true), if_pos i0_eq0, hC.1.1.2.1.2.1, y_putv h64]
          rfl
        have hF : y_fr [10, 11] h (z_set (z_setL (z_set (z_set (z_set h 11 hd (nI c)) 10 5 (nI 1)) 10 6 (nI w)) 10 7 (fv_X7_setOf (nI c))) 10 8 (nI 0)) := y_fr_set (y_fr_setL (y_fr_set (y_fr_set (y_fr_set y_fr_refl (by decide)) (by decide)) (by decide)) (by decide)) (by decide)
        have hg2 : y_wg m ([c], w, s.2.2) (n + 1) := ⟨by simp, fun a ha => (by rw [List.mem_singleton.mp ha]; exact ⟨hc, hop⟩), hg.2.2.1, hg.2.2.2.1, (by have := hg.2.2.1; show w + 2 * s.2.2.length ≤ _; omega), fun z => (by cases z)⟩
        have hC2 : y_GC m wt ([c], w, s.2.2) false hd f0 (z_set (z_setL (z_set (z_set (z_set h 11 hd (nI c)) 10 5 (nI 1)) 10 6 (nI w)) 10 7 (fv_X7_setOf (nI c))) 10 8 (nI 0)) := by
          obtain ⟨⟨⟨b, v, f⟩, c2, c3⟩, c4⟩ := hC
          obtain ⟨w1, w2, w3, w4, w5, w6⟩ := v
          obtain ⟨f1, f2, f3, f4⟩ := f
          refine ⟨⟨⟨y_BC_fr b hF, ⟨w1, ?_, ?_, ?_, fun i hi => ?_, fun _ a ha => ?_⟩, ⟨f1, ?_, ?_, fun i hi => ?_⟩⟩, y_CC_fr c2 hF, y_TC_fr c3 hF⟩, y_sh⟩
          · rw [← w2]; simp [z_set, z_setL]
          · show _ = nI 1
            simp [z_set, z_setL]
          · show _ = nI w
            simp [z_set, z_setL]
          · have hi : i < 1 := hi
            have : i = 0 := by omega
            subst this
            rw [Nat.add_zero, Nat.mod_eq_of_lt w1]
            show _ = nI c
            simp [z_set, z_setL]
          · show y_bit ((z_set (z_setL (z_set (z_set (z_set h 11 hd (nI c)) 10 5 (nI 1)) 10 6 (nI w)) 10 7 (fv_X7_setOf (nI c))) 10 8 (nI 0)).2 10 7) a = _
            have : (z_set (z_setL (z_set (z_set (z_set h 11 hd (nI c)) 10 5 (nI 1)) 10 6 (nI w)) 10 7 (fv_X7_setOf (nI c))) 10 8 (nI 0)).2 10 7 = fv_X7_setOf (nI c) := by simp [z_set, z_setL]
            rw [this, s_set c hc a (by omega)]
            simp
          · rw [y_fr_at hF 8]; exact f2
          · rw [y_fr_at hF 8]; exact f3
          · rw [y_fr_at hF 9]; exact f4 i hi
        have hM2 := y_GM_fr hM hF (by decide)
        rw [hL]
        show y_okV (tk_X8_begin (nI c) (nI w) _) _ (fn_X8_begin (nI c) (nI w) _) n
        generalize (z_set (z_setL (z_set (z_set (z_set h 11 hd (nI c)) 10 5 (nI 1)) 10 6 (nI w)) 10 7 (fv_X7_setOf (nI c))) 10 8 (nI 0)) = h2 at hC2 hM2
        have W : y_W (tk_X8_begin (nI c) (nI w) h2) (fn_X8_begin (nI c) (nI w) h2) (fun r => r.2.1 20 0 = nI 0 ∧ y_GM m wt ([c], w, s.2.2) false r.2 ∧ y_fr y_osM h2 r.2) := by
          refine r31 h2 hM2 _ (fun z => absurd z hok) (fun _ _ => ?_)
          unfold tk_X8_begin_31 fn_X8_begin_31 tk_X8_begin_67 fn_X8_begin_67
          rw [r_cellO hc, rng]
          refine y_neg i1_ne0 (y_neg i1_ne0 (y_neg i1_ne0 (y_end ?_)))
          rw [gw_0, if_neg i1_ne0, gw_h, nI_c0]
          have hF6 : y_fr [20, 28] h2 (z_set (z_set (z_set (z_set (z_set (z_set h2 20 0 (nI 0)) 20 10 (nI 1)) 20 11 (nI 0)) 20 12 (nI 1)) 28 0 (nI c)) 20 13 (nI w)) := y_fr_set (y_fr_set (y_fr_set (y_fr_set (y_fr_set (y_fr_set y_fr_refl (by decide)) (by decide)) (by decide)) (by decide)) (by decide)) (by decide)
          obtain ⟨⟨k1, k2, k3, k4, k5⟩, k6⟩ := hM2
          refine ⟨by simp [z_set], ⟨⟨y_BM_fr k1 hF6, ⟨?_, fun p hp => ?_, fun a ha => ?_⟩, y_TM_fr k3 hF6, ⟨?_, ?_, fun i hi => ?_, ?_, fun i hi => ?_⟩, ?_⟩, ?_⟩, y_fr_mono hF6 (by decide)⟩
          · rw [← k2.1]; simp [z_set]
          · rw [y_fr_at hF6 26]; exact k2.2.1 p hp
          · rw [y_fr_at hF6 25]; exact k2.2.2 a ha
          · show _ = nI 1
            simp [z_set]
          · show _ = nI w
            simp [z_set]
          · have hi : i < 1 := hi
            have : i = 0 := by omega
            subst this
            show _ = nI c
            simp [z_set]
          · rw [show nI ([c], w, s.2.2).2.2.length = nI s.2.2.length from rfl, ← k4.2.2.2.1]; simp [z_set]
          · rw [y_fr_at hF6 27]; exact k4.2.2.2.2 i hi
          · show _ = nI 1
            simp [z_set]
          · show _ = nI 0
            simp [z_set]
        obtain ⟨W1, W2, W3, W4⟩ := W
        exact ⟨W1, W2, m, wt, ([c], w, s.2.2), false, hd, f0, hw, hg2, y_GC_fr hC2 W4 (by decide), W3⟩
/-! feed -/
theorem B_feed {n : Nat} {h : z_H} (hG : y_G n h) (x : Int32) : y_ok True (tk_X8_feed x (fn_L_feed x h).2) (fn_L_feed x h) (fn_X8_feed x (fn_L_feed x h).2) n := by
  have hG' := hG
  obtain ⟨m, wt, s, dd, hd, f0, hw, hg, hC, hM⟩ := hG
  have err : (x < 0 ∨ nI 36 ≤ x) → y_ok True (tk_X8_feed x (fn_L_feed x h).2) (fn_L_feed x h) (fn_X8_feed x (fn_L_feed x h).2) n := by
    intro hx
    have hL : fn_L_feed x h = (some (.int (nI 1)), h) := by
      unfold fn_L_feed fn_X7_feed
      rw [c_cellE hx]; rfl
    refine y_okE (k := 1) (by decide) (by decide) trivial hL ?_ hG'
    rw [hL]
    unfold tk_X8_feed fn_X8_feed tk_X8_feed_32 fn_X8_feed_32 tk_X8_feed_33 fn_X8_feed_33 tk_X8_feed_55 fn_X8_feed_55
    rw [r_cellE hx]
    exact y_pos rfl (y_pos rfl (gw_ill (by decide) (by decide)))
  rcases pk_ix x (n := 36) (by decide) with hx | hx | ⟨c, hc, rfl⟩
  · exact err (Or.inl hx)
  · exact err (Or.inr hx)
  · obtain ⟨b1, b2, b9⟩ := s_blk _ hc
    have h40 := hg.2.2.1
    by_cases hok : m.testBit (p_blk c) = false ∧ s.2.2.length < 40
    · obtain ⟨o1, o2⟩ := hok
      have hf64 := hC.1.1.2.2.1
      have hL : fn_L_feed (nI c) h = (some (.int (nI 0)), z_setL (z_set (z_set h 9 ((f0 + s.2.2.length) % 64) (nI c)) 8 2 (nI (s.2.2.length + 1))) 35 ((nI 0).toNatClampNeg) (nI (s.2.2.length + 1)).toInt64) := by
        unfold fn_L_feed fn_X7_feed
        rw [c_cellO hc, b1, k_wallv hC.1.1.1 b9, o1, if_neg (by decide : ¬ false = true), if_pos i0_eq0, hC.1.1.2.2.2.2.1, if_pos (nI_lt o2 (by decide)), hC.1.1.2.2.2.1, nI_add, nI_add, y_cl63 (by omega)]
        rfl
      have hF : y_fr [8, 9] h (z_set (z_set h 9 ((f0 + s.2.2.length) % 64) (nI c)) 8 2 (nI (s.2.2.length + 1))) := y_fr_set (y_fr_set y_fr_refl (by decide)) (by decide)
      have hg2 : y_wg m (s.1, s.2.1, s.2.2 ++ [c]) (n + 1) := by
        refine ⟨hg.1, hg.2.1, ?_, fun a ha => ?_, ?_, hg.2.2.2.2.2⟩
        · show (s.2.2 ++ [c]).length ≤ 40
          rw [List.length_append, List.length_singleton]; omega
        · rcases List.mem_append.mp ha with z | z
          · exact hg.2.2.2.1 a z
          · rw [List.mem_singleton.mp z]; exact ⟨hc, o1⟩
        · show s.2.1 + 2 * (s.2.2 ++ [c]).length ≤ _
          have := hg.2.2.2.2.1
          rw [List.length_append, List.length_singleton]; omega
      have hC2 : y_GC m wt (s.1, s.2.1, s.2.2 ++ [c]) dd hd f0 (z_set (z_set h 9 ((f0 + s.2.2.length) % 64) (nI c)) 8 2 (nI (s.2.2.length + 1))) := by
        obtain ⟨⟨⟨b, v, f⟩, c2, c3⟩, c4⟩ := hC
        obtain ⟨w1, w2, w3, w4, w5, w6⟩ := v
        obtain ⟨f1, f2, f3, f4⟩ := f
        refine ⟨⟨⟨y_BC_fr b hF, ⟨w1, ?_, ?_, ?_, fun i hi => ?_, fun hne a ha => ?_⟩, ⟨f1, ?_, ?_, fun i hi => ?_⟩⟩, y_CC_fr c2 hF, y_TC_fr c3 hF⟩, ?_⟩
        · rw [y_fr_at hF 10]; exact w2
        · rw [y_fr_at hF 10]; exact w3
        · rw [y_fr_at hF 10]; exact w4
        · rw [y_fr_at hF 11]; exact w5 i hi
        · rw [y_fr_atL hF 10]; exact w6 hne a ha
        · rw [y_sk (by decide), z_set_ne (by decide)]; exact f2
        · rw [y_sh]
          show _ = nI (s.2.2 ++ [c]).length
          rw [List.length_append, List.length_singleton]
        · have hi : i < (s.2.2 ++ [c]).length := hi
          rw [List.length_append, List.length_singleton] at hi
          rw [z_set_ne (by decide), y_sif]
          show _ = nI ((s.2.2 ++ [c]).getD i 99)
          rw [y_app_getD]
          by_cases z : i = s.2.2.length
          · rw [z, if_pos rfl, if_neg (by omega), if_pos rfl]
          · rw [if_neg (by omega), if_pos (by omega)]; exact f4 i (by omega)
        · rw [y_fr_at hF 10]; exact c4
      refine y_okO trivial hL hw hg2 hC2 hM (y_fr_mono hF (by decide)) (fun h2 hM2 hC3 e => ?_)
      rw [e]
      have w8 := hM2.1.2.2.2.1.2.2.2.1
      unfold tk_X8_feed fn_X8_feed tk_X8_feed_32 fn_X8_feed_32 tk_X8_feed_33 fn_X8_feed_33 tk_X8_feed_55 fn_X8_feed_55
      rw [r_cellO hc, b2, nI_clamp (by omega : p_blk c < 2 ^ 31), w8]
      refine y_neg i1_ne0 (y_req (vp_in_nI b9 (by decide)) (y_pos ((y_BM0 hM2.1.1 b9).mpr o1) (y_neg (nI_ge o2 (by decide)) (y_neg i1_ne0 (y_neg i1_ne0 (gw_well ?_))))))
      have e8 : (z_set h2 20 0 (nI 0)).1 20 8 = nI s.2.2.length := by rw [y_sk (by decide)]; exact w8
      rw [gw_h, e8, nI_clamp (by omega : s.2.2.length < 2 ^ 31), nI_add]
      refine ⟨vp_in_nI o2 (by decide), ?_⟩
      have hF6 : y_fr [20, 27] h2 (z_set (z_set (z_set h2 20 0 (nI 0)) 27 s.2.2.length (nI c)) 20 8 (nI (s.2.2.length + 1))) := y_fr_set (y_fr_set (y_fr_set y_fr_refl (by decide)) (by decide)) (by decide)
      obtain ⟨⟨k1, k2, k3, k4, k5⟩, k6⟩ := hM2
      refine ⟨by simp [z_set], rfl, ⟨⟨y_BM_fr k1 hF6, ⟨?_, fun p hp => ?_, fun a ha => ?_⟩, y_TM_fr k3 hF6, ⟨?_, ?_, fun i hi => ?_, ?_, fun i hi => ?_⟩, ?_⟩, ?_⟩, y_fr_mono hF6 (by decide)⟩
      · rw [← k2.1]; simp [z_set]
      · rw [y_fr_at hF6 26]; exact k2.2.1 p hp
      · rw [y_fr_at hF6 25]; exact k2.2.2 a ha
      · show _ = nI s.1.length
        rw [← k4.1]; simp [z_set]
      · show _ = nI s.2.1
        rw [← k4.2.1]; simp [z_set]
      · rw [y_fr_at hF6 28]; exact k4.2.2.1 i hi
      · rw [y_sh]
        show _ = nI (s.2.2 ++ [c]).length
        rw [List.length_append, List.length_singleton]
      · have hi : i < (s.2.2 ++ [c]).length := hi
        rw [List.length_append, List.length_singleton] at hi
        rw [z_set_ne (by decide), y_sif, z_set_ne (by decide)]
        show _ = nI ((s.2.2 ++ [c]).getD i 99)
        rw [y_app_getD]
        by_cases z : i = s.2.2.length
        · rw [z, if_pos rfl, if_neg (by omega), if_pos rfl]
        · rw [if_neg z, if_pos (by omega)]; exact k4.2.2.2.2 i (by omega)
      · show _ = if 0 < s.1.length then nI 1 else nI 0
        rw [← k5]; simp [z_set]
      · rw [← k6]; simp [z_set]
    · have hL : fn_L_feed (nI c) h = (some (.int (nI 2)), h) := by
        unfold fn_L_feed fn_X7_feed fn_X7_feed_30
        rw [c_cellO hc, b1, k_wallv hC.1.1.1 b9]
        cases e : m.testBit (p_blk c) with
        | true => rw [if_neg (show ¬ (if true = true then nI 1 else nI 0 : Int32) = 0 from i1_ne0)]; rfl
        | false =>
          have : 40 ≤ s.2.2.length := by
            refine Nat.le_of_not_lt (fun z => hok ⟨e, z⟩)
          rw [if_pos (show (if false = true then nI 1 else nI 0 : Int32) = 0 from i0_eq0), hC.1.1.2.2.2.2.1, if_neg (nI_nlt this (by omega))]; rfl
      refine y_okE (k := 2) (by decide) (by decide) trivial hL ?_ hG'
      rw [hL]
      have r33 : y_W (tk_X8_feed_33 (nI c) (nI 0) h) (fn_X8_feed_33 (nI c) (nI 0) h) (fun r => r.2 = z_set h 20 0 (nI 2)) := by
        unfold tk_X8_feed_33 fn_X8_feed_33 tk_X8_feed_55 fn_X8_feed_55
        rw [r_cellO hc]
        exact y_neg i1_ne0 (y_pos i0_eq0 (gw_ill (by decide) (by decide)))
      unfold tk_X8_feed fn_X8_feed tk_X8_feed_32 fn_X8_feed_32
      rw [r_cellO hc, b2, nI_clamp (by omega : p_blk c < 2 ^ 31), hM.1.2.2.2.1.2.2.2.1]
      refine y_neg i1_ne0 (y_req (vp_in_nI b9 (by decide)) (y_if (fun z => ?_) (fun _ => r33)))
      have e := (y_BM0 hM.1.1 b9).mp z
      refine y_pos (nI_le ?_ (by omega)) r33
      exact Nat.le_of_not_lt (fun z => hok ⟨e, z⟩)
