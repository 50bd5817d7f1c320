/-! ===== pure: the law's loop ===== -/
theorem law_int {T1 T2 K : Prop} {rL rM : z_R} {k : Int32} {P : Int32 → Prop} {n : Nat} {d1 : Decidable (rM.2.1 20 0 = z_vi rL)} {d2 : Decidable (z_vi rL = 0)} {d3 : Decidable (lg_cmp (rM.2.2 35 ((nI 0).toNatClampNeg)) (z_vi rM).toInt64 = 0)} (B : y_ok T1 T2 rL rM n) (f : y_W K k P) : y_W ((rM.2.1 20 0 = z_vi rL → ((z_vi rL = 0 → ((lg_cmp (rM.2.2 35 ((nI 0).toNatClampNeg)) (z_vi rM).toInt64 = 0 → K) ∧ (¬ lg_cmp (rM.2.2 35 ((nI 0).toNatClampNeg)) (z_vi rM).toInt64 = 0 → True))) ∧ (¬ z_vi rL = 0 → K))) ∧ (¬ rM.2.1 20 0 = z_vi rL → True)) (@ite Int32 (rM.2.1 20 0 = z_vi rL) d1 (@ite Int32 (z_vi rL = 0) d2 (@ite Int32 (lg_cmp (rM.2.2 35 ((nI 0).toNatClampNeg)) (z_vi rM).toInt64 = 0) d3 k (nI 0)) k) (nI 0)) P := by
  refine y_pos B.2.2.1 (y_if (fun z => y_pos ?_ f) (fun _ => f))
  exact (lg_cmp_eq _ _).mpr (B.2.2.2.1 z)
theorem law_bool {T1 T2 K : Prop} {rL rM : z_R} {k : Int32} {P : Int32 → Prop} {n : Nat} {d1 : Decidable (rM.2.1 20 0 = z_vi rL)} {d2 : Decidable (z_vi rL = 0)} {d3 : Decidable (z_vi rM = 0)} {d4 : Decidable (lg_cmp (rM.2.2 35 ((nI 0).toNatClampNeg)) 0 = 0)} {d5 : Decidable (lg_cmp (rM.2.2 35 ((nI 0).toNatClampNeg)) 1 = 0)} (B : y_okB T1 T2 rL rM n) (f : y_W K k P) : y_W ((rM.2.1 20 0 = z_vi rL → ((z_vi rL = 0 → ((z_vi rM = 0 → ((lg_cmp (rM.2.2 35 ((nI 0).toNatClampNeg)) 0 = 0 → K) ∧ (¬ lg_cmp (rM.2.2 35 ((nI 0).toNatClampNeg)) 0 = 0 → True))) ∧ (¬ z_vi rM = 0 → ((lg_cmp (rM.2.2 35 ((nI 0).toNatClampNeg)) 1 = 0 → K) ∧ (¬ lg_cmp (rM.2.2 35 ((nI 0).toNatClampNeg)) 1 = 0 → True))))) ∧ (¬ z_vi rL = 0 → K))) ∧ (¬ rM.2.1 20 0 = z_vi rL → True)) (@ite Int32 (rM.2.1 20 0 = z_vi rL) d1 (@ite Int32 (z_vi rL = 0) d2 (@ite Int32 (z_vi rM = 0) d3 (@ite Int32 (lg_cmp (rM.2.2 35 ((nI 0).toNatClampNeg)) 0 = 0) d4 k (nI 0)) (@ite Int32 (lg_cmp (rM.2.2 35 ((nI 0).toNatClampNeg)) 1 = 0) d5 k (nI 0))) k) (nI 0)) P := by
  obtain ⟨B, Bb⟩ := B
  refine y_pos B.2.2.1 (y_if (fun z => y_if (fun q => y_pos ?_ f) (fun q => y_pos ?_ f)) (fun _ => f))
  · rw [lg_cmp_eq, B.2.2.2.1 z, q]; rfl
  · rw [lg_cmp_eq, B.2.2.2.1 z]
    rcases Bb z with w | w
    · exact absurd w q
    · rw [w]; rfl
theorem law_void {T2 K : Prop} {rL rM : z_R} {k : Int32} {P : Int32 → Prop} {n : Nat} {d1 : Decidable (rM.2.1 20 0 = z_vi rL)} (B : y_okV T2 rL rM n) (f : y_W K k P) : y_W ((rM.2.1 20 0 = z_vi rL → K) ∧ (¬ rM.2.1 20 0 = z_vi rL → True)) (@ite Int32 (rM.2.1 20 0 = z_vi rL) d1 k (nI 0)) P := y_pos B.2.1 f
theorem y_G_up {n : Nat} {h : z_H} (hG : y_G n h) : y_G (n + 1) h := by
  obtain ⟨m, wt, s, dd, hd, f0, g1, g2, g3, g4⟩ := hG
  exact ⟨m, wt, s, dd, hd, f0, g1, y_wg_s g2, g3, g4⟩
theorem p_law {L : Nat} {xs : Nat → Int32} (hL : L ≤ 1536) : ∀ (j c : Nat) (h : z_H) (n : Nat), c + j = L / 3 → j < n → y_G c h → y_W (tk_L_law_23 L xs n (nI (3 * c)) h) (fn_L_law_23 L xs n (nI (3 * c)) h) (fun r => r = 1)
  | 0, c, h, n + 1, hc, hn, hG => by
    unfold tk_L_law_23 fn_L_law_23
    dsimp only
    refine y_pos ?_ (y_end rfl)
    by_cases e : 3 ≤ L
    · rw [pk_sub e]
      exact nI_lt (by omega) (by omega)
    · have c0 : c = 0 := by omega
      rw [c0]
      exact pk_sneg (by decide) (by omega)
  | j + 1, c, h, n + 1, hc, hn, hG => by
    have h3 : 3 * c + 3 ≤ L := by omega
    have hn6 : c ≤ 600 := by omega
    have hk : ∀ h', y_G (c + 1) h' → y_W (tk_L_law_23 L xs n (nI (3 * c) + nI 3) h') (fn_L_law_23 L xs n (nI (3 * c) + nI 3) h') (fun r => r = 1) := by
      intro h' hG'
      rw [nI_add, show 3 * c + 3 = 3 * (c + 1) by omega]
      exact p_law hL j (c + 1) h' n (by omega) (by omega) hG'
    have v0 : vp_in (nI (3 * c)) L := vp_in_nI (by omega) (by omega)
    have v1 : vp_in (nI (3 * c) + nI 1) L := by rw [nI_add]; exact vp_in_nI (by omega) (by omega)
    have v2 : vp_in (nI (3 * c) + nI 2) L := by rw [nI_add]; exact vp_in_nI (by omega) (by omega)
    unfold tk_L_law_23 fn_L_law_23
    dsimp only
    unfold tk_L_law_169 fn_L_law_169 tk_L_law_196 fn_L_law_196 tk_L_law_230 fn_L_law_230 tk_L_law_361 fn_L_law_361 tk_L_law_424 fn_L_law_424 tk_L_law_1049 fn_L_law_1049
    refine y_neg (by rw [pk_sub (by omega)]; exact nI_nlt (by omega) (by omega)) (y_req v0 ?_)
    generalize xs (nI (3 * c) + nI 1).toNatClampNeg = X1
    generalize xs (nI (3 * c) + nI 2).toNatClampNeg = X2
    generalize (xs (nI (3 * c)).toNatClampNeg &&& nI 31) = op
    -- 0 setWall
    refine y_if (fun _ => y_req v1 (y_req v2 (y_if (fun z => ?_) (fun z => ?_)))) (fun _ => ?_)
    · have B : y_okB (tk_L_setWall X1 (nI 0) h) (tk_X8_setWall X1 (nI 0) (fn_L_setWall X1 (nI 0) h).2) (fn_L_setWall X1 (nI 0) h) (fn_X8_setWall X1 (nI 0) (fn_L_setWall X1 (nI 0) h).2) c := B_setWall hG X1 false
      exact y_req B.1.1 (y_req v1 (y_req v2 (y_pos z (y_req B.1.2.1 (law_bool B (hk _ B.1.2.2.2.2))))))
    · have B : y_okB (tk_L_setWall X1 (nI 1) h) (tk_X8_setWall X1 (nI 1) (fn_L_setWall X1 (nI 1) h).2) (fn_L_setWall X1 (nI 1) h) (fn_X8_setWall X1 (nI 1) (fn_L_setWall X1 (nI 1) h).2) c := B_setWall hG X1 true
      exact y_req B.1.1 (y_req v1 (y_req v2 (y_neg z (y_req B.1.2.1 (law_bool B (hk _ B.1.2.2.2.2))))))
    -- 1 setLink
    refine y_if (fun _ => ?_) (fun _ => ?_)
    · have B := B_setLink hG X1 X2
      exact y_req v1 (y_req v2 (y_req B.1 (y_req v1 (y_req v2 (y_req B.2.1 (law_int B (hk _ B.2.2.2.2)))))))
    -- 2 isWall
    refine y_if (fun _ => ?_) (fun _ => ?_)
    · have B := B_isWall hG X1
      exact y_req v1 (y_req v1 (y_req B.1.2.1 (law_bool B (hk _ B.1.2.2.2.2))))
    -- 3 isInTree
    refine y_if (fun _ => ?_) (fun _ => ?_)
    · have B := B_isInTree hG X1
      exact y_req v1 (y_req v1 (y_req B.1.2.1 (law_bool B (hk _ B.1.2.2.2.2))))
    -- 4 hasCycle
    refine y_if (fun _ => y_pos (B_hasCycle hG).1 (hk _ (B_hasCycle hG).2)) (fun _ => ?_)
    -- 5 placeOf
    refine y_if (fun _ => ?_) (fun _ => ?_)
    · have B := B_placeOf hG X1
      exact y_req v1 (y_req v1 (y_req B.2.1 (law_int B (hk _ B.2.2.2.2))))
    -- 6 cellAt
    refine y_if (fun _ => ?_) (fun _ => ?_)
    · have B := B_cellAt hG X1
      exact y_req v1 (y_req v1 (y_req B.2.1 (law_int B (hk _ B.2.2.2.2))))
    -- 7 cellAtByRings
    refine y_if (fun _ => ?_) (fun _ => ?_)
    · have B := B_rings hG X1
      exact y_req v1 (y_req B.1 (y_req v1 (y_req B.2.1 (law_int B (hk _ B.2.2.2.2)))))
    -- 8 begin
    refine y_if (fun _ => ?_) (fun _ => ?_)
    · have B := B_begin hG X1 X2
      exact y_req v1 (y_req v2 (y_req v1 (y_req v2 (y_req B.1 (law_void B (hk _ B.2.2))))))
    -- 9 end
    refine y_if (fun _ => ?_) (fun _ => ?_)
    · have B := B_end hG
      exact y_req B.2.1 (law_int B (hk _ B.2.2.2.2))
    -- 10 feed
    refine y_if (fun _ => ?_) (fun _ => ?_)
    · have B := B_feed hG X1
      exact y_req v1 (y_req v1 (y_req B.2.1 (law_int B (hk _ B.2.2.2.2))))
    -- 11 step
    refine y_if (fun _ => ?_) (fun _ => ?_)
    · have B := B_step hG hn6 X1
      exact y_req v1 (y_req v1 (y_req B.2.1 (law_int B (hk _ B.2.2.2.2))))
    -- 12 play
    refine y_if (fun _ => ?_) (fun _ => ?_)
    · have B := B_play hG hn6 X1
      exact y_req v1 (y_req B.1 (y_req v1 (y_req B.2.1 (law_int B (hk _ B.2.2.2.2)))))
    -- 13 isAlive
    refine y_if (fun _ => y_pos (B_alive hG) (hk _ (y_G_th hG _))) (fun _ => ?_)
    -- 14 length
    refine y_if (fun _ => y_pos (B_nums hG).1 (hk _ (y_G_th hG _))) (fun _ => ?_)
    -- 15 owed
    refine y_if (fun _ => y_pos (B_nums hG).2.1 (hk _ (y_G_th hG _))) (fun _ => ?_)
    -- 16 bodyAt
    refine y_if (fun _ => ?_) (fun _ => ?_)
    · have B := B_bodyAt hG X1
      exact y_req v1 (y_req v1 (y_req B.2.1 (law_int B (hk _ B.2.2.2.2))))
    -- 17 feeds
    refine y_if (fun _ => y_pos (B_nums hG).2.2 (hk _ (y_G_th hG _))) (fun _ => ?_)
    -- 18 isInOrder
    refine y_if (fun _ => ?_) (fun _ => ?_)
    · have B := B_order hG hn6
      exact y_req B.1 (y_req B.2.1 (y_pos B.2.2.1 (hk _ B.2.2.2)))
    -- 19 isSafe
    refine y_if (fun _ => ?_) (fun _ => ?_)
    · have B := B_isSafe hG hn6 X1
      exact y_req v1 (y_req B.1.1 (y_req v1 (y_req B.1.2.1 (law_bool B (hk _ B.1.2.2.2.2)))))
    -- 20 reach
    refine y_if (fun _ => ?_) (fun _ => ?_)
    · have B := B_reach hG hn6
      exact y_req B.1 (y_req B.2.1 (y_pos B.2.2.1 (hk _ B.2.2.2)))
    -- 21 livesFor
    refine y_if (fun _ => ?_) (fun _ => ?_)
    · have B := B_lives hG hn6 X1
      exact y_req v1 (y_req B.1 (y_req v1 (y_req B.2.1 (law_int B (hk _ B.2.2.2.2)))))
    -- 22 fewest
    refine y_if (fun _ => ?_) (fun _ => ?_)
    · have B := B_few hG hn6
      exact y_req B.1 (y_req B.2.1 (law_int B (hk _ B.2.2.2.2)))
    -- 23 fewestByBodies
    refine y_if (fun _ => ?_) (fun _ => ?_)
    · have B := B_fewB hG hn6
      exact y_req B.1 (y_req B.2.1 (law_int B (hk _ B.2.2.2.2)))
    exact hk _ (y_G_up hG)
/-! the start -/
theorem hA_0 : (∀ a b, z_hA.1 a b = 0) ∧ ∀ a b, z_hA.2 a b = 0 := by
  constructor
  · intro a b; simp [z_hA, z_clr, z_h0]
  · intro a b; simp [z_hA, z_clr, z_h0]
theorem p_wf0 : y_wf 0 (fun _ => 0) := ⟨by decide, fun _ _ => Or.inl (Nat.zero_le 9)⟩
theorem p_startC : y_W (tk_X2_layOut z_hA) (fn_X2_layOut z_hA) (fun r => y_GC 0 (fun _ => 0) ([], 0, []) false 0 0 r.2) := by
  have hB : y_BC 0 (fun _ => 0) z_hA := ⟨hA_0.1 1 2, fun l _ => hA_0.1 2 l⟩
  refine y_mono (g_layOut p_wf0 hB) (fun q => ?_)
  obtain ⟨q1, q2, q3, q4⟩ := q
  refine ⟨⟨⟨q1, ⟨by decide, ?_, ?_, ?_, fun i hi => absurd hi (Nat.not_lt_zero i), fun z => absurd rfl z⟩, ⟨by decide, ?_, ?_, fun i hi => absurd hi (Nat.not_lt_zero i)⟩⟩, q3, q2⟩, ?_⟩
  · rw [y_fr_at q4 10]; exact hA_0.1 10 4
  · rw [y_fr_at q4 10]; exact hA_0.1 10 5
  · rw [y_fr_at q4 10]; exact hA_0.1 10 6
  · rw [y_fr_at q4 8]; exact hA_0.1 8 1
  · rw [y_fr_at q4 8]; exact hA_0.1 8 2
  · rw [y_fr_at q4 10]; exact hA_0.1 10 8
theorem hB_0 : (∀ a, a < 20 → z_hB.1 a = (fn_X2_layOut z_hA).2.1 a ∧ z_hB.2 a = (fn_X2_layOut z_hA).2.2 a) ∧ (∀ b, z_hB.1 20 b = 0) ∧ (∀ b, z_hB.1 21 b = 0) ∧ (∀ b, z_hB.1 22 b = 0) := by
  refine ⟨fun a ha => ⟨?_, ?_⟩, fun b => ?_, fun b => ?_, fun b => ?_⟩
  · funext b
    have h1 : a ≠ 20 := by omega
    have h2 : a ≠ 21 := by omega
    have h3 : a ≠ 22 := by omega
    have h4 : a ≠ 23 := by omega
    have h5 : a ≠ 24 := by omega
    have h6 : a ≠ 25 := by omega
    have h7 : a ≠ 26 := by omega
    have h8 : a ≠ 27 := by omega
    have h9 : a ≠ 28 := by omega
    have i1 : a ≠ 29 := by omega
    have i2 : a ≠ 30 := by omega
    have i3 : a ≠ 31 := by omega
    have i4 : a ≠ 32 := by omega
    have i5 : a ≠ 33 := by omega
    have i6 : a ≠ 34 := by omega
    simp [z_hB, z_clr, z_set, h1, h2, h3, h4, h5, h6, h7, h8, h9, i1, i2, i3, i4, i5, i6]
  · funext b
    have h1 : a ≠ 20 := by omega
    have h2 : a ≠ 21 := by omega
    have h3 : a ≠ 22 := by omega
    have h4 : a ≠ 23 := by omega
    have h5 : a ≠ 24 := by omega
    have h6 : a ≠ 25 := by omega
    have h7 : a ≠ 26 := by omega
    have h8 : a ≠ 27 := by omega
    have h9 : a ≠ 28 := by omega
    have i1 : a ≠ 29 := by omega
    have i2 : a ≠ 30 := by omega
    have i3 : a ≠ 31 := by omega
    have i4 : a ≠ 32 := by omega
    have i5 : a ≠ 33 := by omega
    have i6 : a ≠ 34 := by omega
    simp [z_hB, z_clr, z_set, h1, h2, h3, h4, h5, h6, h7, h8, h9, i1, i2, i3, i4, i5, i6]
  · simp [z_hB, z_clr, z_set]
  · simp [z_hB, z_clr, z_set]
  · simp [z_hB, z_clr, z_set]
theorem p_startM : tk_X8_layCycle z_hB ∧ y_G 0 z_hL := by
  obtain ⟨-, C⟩ := p_startC
  obtain ⟨e1, e2, e3, e4⟩ := hB_0
  have hB : y_BM 0 (fun _ => 0) z_hB := ⟨fun b hb => by rw [e3 b, Nat.zero_testBit]; rfl, fun l _ => e4 l⟩
  obtain ⟨M1, M2, M3, M4, M5, M6⟩ := r_layCycle p_wf0 hB
  refine ⟨M1, 0, fun _ => 0, ([], 0, []), false, 0, 0, p_wf0, ⟨by simp, fun c hc => (by cases hc), Nat.zero_le _, fun c hc => (by cases hc), (show 0 + 2 * 0 ≤ _ by omega), fun _ => rfl⟩, ?_, ?_⟩
  · have hF : y_fr [20, 21, 22, 23, 24, 25, 26, 27, 28, 29, 30, 31, 32, 33, 34, 35] z_hB z_hL := by
      refine y_fr_trans (y_fr_mono M5 (by decide)) (fun a ha => ?_)
      have : a ≠ 35 := fun e => ha (by simp [e])
      exact ⟨z_clr_ne1 this, z_clr_ne2 this⟩
    have hC1 : y_GC 0 (fun _ => 0) ([], 0, []) false 0 0 z_hB := by
      obtain ⟨⟨⟨⟨b1, b2⟩, ⟨w1, w2, w3, w4, w5, w6⟩, ⟨f1, f2, f3, f4⟩⟩, ⟨c1, c2, c3⟩, ⟨t1, t, t2, t3, t4⟩⟩, d⟩ := C
      have o := fun a (ha : a < 20) => (e1 a ha).1
      exact ⟨⟨⟨⟨by rw [o 1 (by decide)]; exact b1, fun l hl => by rw [o 2 (by decide)]; exact b2 l hl⟩, ⟨w1, by rw [o 10 (by decide)]; exact w2, by rw [o 10 (by decide)]; exact w3, by rw [o 10 (by decide)]; exact w4, fun i hi => absurd hi (Nat.not_lt_zero i), fun z => absurd rfl z⟩, ⟨f1, by rw [o 8 (by decide)]; exact f2, by rw [o 8 (by decide)]; exact f3, fun i hi => absurd hi (Nat.not_lt_zero i)⟩⟩, ⟨by rw [o 4 (by decide)]; exact c1, fun p hp => by rw [o 5 (by decide)]; exact c2 p hp, fun c hc => by rw [o 6 (by decide)]; exact c3 c hc⟩, ⟨fun b hb => by rw [o 3 (by decide)]; exact t1 b hb, t, t2, by rw [o 1 (by decide)]; exact t3, t4⟩⟩, by rw [o 10 (by decide)]; exact d⟩
    exact y_GC_fr hC1 hF (by decide)
  · have hG : y_GM 0 (fun _ => 0) ([], 0, []) false (fn_X8_layCycle z_hB).2 := by
      refine ⟨⟨M2, M4, M3, ⟨?_, ?_, fun i hi => absurd hi (Nat.not_lt_zero i), ?_, fun i hi => absurd hi (Nat.not_lt_zero i)⟩, ?_⟩, ?_⟩
      · rw [M6 12 (by decide)]; exact e2 12
      · rw [M6 13 (by decide)]; exact e2 13
      · rw [M6 8 (by decide)]; exact e2 8
      · rw [M6 10 (by decide)]; exact e2 10
      · rw [M6 11 (by decide)]; exact e2 11
    have hF : y_fr [35] (fn_X8_layCycle z_hB).2 z_hL := by
      intro a ha
      have : a ≠ 35 := fun e => ha (by simp [e])
      exact ⟨z_clr_ne1 this, z_clr_ne2 this⟩
    exact y_GM_fr hG hF (by decide)
/-- what is asked of the functions alone -/
theorem pu_all (L : Nat) (xs : Nat → Int32) (hL : L ≤ 1536) : tk_X2_layOut z_hA ∧ tk_X8_layCycle z_hB ∧ tk_L_law_23 L xs 513 (nI 0) z_hL ∧ fn_L_law_23 L xs 513 (nI 0) z_hL = 1 := by
  obtain ⟨M, G⟩ := p_startM
  obtain ⟨T, E⟩ := p_law hL (L / 3) 0 z_hL 513 (xs := xs) (by omega) (by omega) G
  exact ⟨p_startC.1, M, T, E⟩
