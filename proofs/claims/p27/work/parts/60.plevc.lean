/-! ===== pure: the class's levels ===== -/
theorem y_4j {j : Nat} (h : j + 1 ≤ 4) : 4 - j = (3 - j) + 1 := by omega
theorem p_ch4_s {m : Nat} {wt : Nat → Nat} {t : p_St} {w d : Nat} : p_ch4 m wt t w (d + 1) = p_ch4 m wt t w d ++ (if p_can m wt t d = true then [4 * w + d] else []) := by
  unfold p_ch4
  rw [List.range_succ, List.filter_append, List.map_append]
  congr 1
  cases e : p_can m wt t d with
  | true => simp [e]
  | false => simp [e]
theorem s_dir0 : ∀ i, i < 6 → ((((nI 2 * nI i).toUInt32 &&& Int32.toUInt32 31)).toBitVec % 32).toNat = 2 * i := by decide +kernel
theorem y_dir {w i : Nat} (hw : w < 2 ^ 31) (hi : i < 6) : fv_X1_directionIn (nI w) (nI i) = nI (w / 4 ^ i % 4) := by
  unfold fv_X1_directionIn
  rw [pk_ushrN (by omega) _ (2 * i) (s_dir0 i hi)]
  have e : 2 ^ (2 * i) = 4 ^ i := by rw [Nat.pow_mul]
  rw [e, pk_andN (Nat.lt_of_le_of_lt (Nat.div_le_self _ _) (by omega)) 2 (by decide)]
theorem y_pw (w i : Nat) : w / 4 ^ i / 4 = w / 4 ^ (i + 1) := by rw [Nat.pow_succ, Nat.div_div_eq_div_mul]
theorem c_follow4 {w : Nat} (hw : w < 2 ^ 31) (h0 : z_H) (n : Nat) (hn6 : n ≤ 6) : ∀ (i k : Nat) (h : z_H), i ≤ n → i < k → h = k_hs h0 (n - i) (w / 4 ^ i) → tk_X4_follow_4 k (nI w) (nI i - nI 1) h ∧ fn_X4_follow_4 k (nI w) (nI i - nI 1) h = (none, k_hs h0 n w)
  | 0, k + 1, h, hi, hk, e => by
    have W : y_W (tk_X4_follow_4 (k + 1) (nI w) (nI 0 - nI 1) h) (fn_X4_follow_4 (k + 1) (nI w) (nI 0 - nI 1) h) (fun r => r = (none, k_hs h0 n w)) := by
      unfold tk_X4_follow_4 fn_X4_follow_4
      dsimp only
      refine y_pos (by decide) (y_end ?_)
      rw [e, Nat.sub_zero, Nat.pow_zero, Nat.div_one]
    exact W
  | i + 1, k + 1, h, hi, hk, e => by
    have W : y_W (tk_X4_follow_4 (k + 1) (nI w) (nI (i + 1) - nI 1) h) (fn_X4_follow_4 (k + 1) (nI w) (nI (i + 1) - nI 1) h) (fun r => r = (none, k_hs h0 n w)) := by
      unfold tk_X4_follow_4 fn_X4_follow_4
      dsimp only
      rw [pk_sub (Nat.le_add_left 1 i), Nat.add_sub_cancel, y_dec, y_dir hw (by omega)]
      refine y_neg (nI_pos (by omega)) ?_
      refine c_follow4 hw h0 n hn6 i k _ (by omega) (by omega) ?_
      have e1 : n - i = (n - (i + 1)) + 1 := by omega
      rw [e1]
      show fh_X6_advance h _ = fh_X6_advance (k_hs h0 (n - (i + 1)) (w / 4 ^ i / 4)) (nI (w / 4 ^ i % 4))
      rw [y_pw, e]
    exact W
theorem c_follow {w : Nat} (hw : w < 2 ^ 31) (h0 : z_H) {n : Nat} (hn6 : n ≤ 6) (hwn : w < 4 ^ n) : tk_X4_follow (nI w) (nI n) h0 ∧ fn_X4_follow (nI w) (nI n) h0 = (none, k_hs h0 n w) := by
  unfold tk_X4_follow fn_X4_follow
  exact c_follow4 hw h0 n hn6 n 2000 h0 (Nat.le_refl n) (by omega) (by rw [Nat.sub_self]; rfl)
theorem y_rs_fr {hd k : Nat} {os : List Nat} {h h' : z_H} (hF : y_fr os h h') (h11 : 11 ∉ os) (h12 : 12 ∉ os) : y_rs hd k h h' := fun b _ _ => ⟨by rw [y_fr_at hF 11 h11], by rw [y_fr_at hF 12 h12]⟩
theorem y_RC_fr {m : Nat} {wt : Nat → Nat} {s : p_St} {hd f0 : Nat} {os : List Nat} {h h' : z_H} (hR : y_RC m wt s hd f0 h) (hF : y_fr os h h') (hos : ∀ a ∈ [1, 2, 8, 9, 10, 11], a ∉ os) : y_RC m wt s hd f0 h' := by
  obtain ⟨⟨b1, b2⟩, ⟨w1, w2, w3, w4, w5, w6⟩, ⟨f1, f2, f3, f4⟩⟩ := hR
  have o := fun a (ha : a ∈ [1, 2, 8, 9, 10, 11]) => y_fr_at hF a (hos a ha)
  have ol := y_fr_atL hF 10 (hos 10 (by decide))
  refine ⟨⟨by rw [o 1 (by decide)]; exact b1, fun l hl => by rw [o 2 (by decide)]; exact b2 l hl⟩, ⟨w1, by rw [o 10 (by decide)]; exact w2, by rw [o 10 (by decide)]; exact w3, by rw [o 10 (by decide)]; exact w4, fun i hi => by rw [o 11 (by decide)]; exact w5 i hi, fun hne c hc => by rw [ol]; exact w6 hne c hc⟩, ⟨f1, by rw [o 8 (by decide)]; exact f2, by rw [o 8 (by decide)]; exact f3, fun i hi => by rw [o 9 (by decide)]; exact f4 i hi⟩⟩
theorem c_add_18 {L : List Nat} {h : z_H} (hL : y_LB 18 L h) {w d : Nat} (hw : w < 2 ^ 20) (hd : d < 4) : y_LB 18 ((L ++ [4 * w + d]).take 1024) (fh_X1_add_18 h (nI w) (nI d)) ∧ y_fr [18, 19] h (fh_X1_add_18 h (nI w) (nI d)) := by
  obtain ⟨l1, l2, l3⟩ := hL
  unfold fh_X1_add_18
  rw [l2, y_shl hw hd]
  by_cases e : 1024 ≤ L.length
  · have el : (L ++ [4 * w + d]).take 1024 = L := by rw [List.take_append_of_le_length e, List.take_of_length_le l1]
    rw [if_pos (nI_le e (by omega)), el]
    exact ⟨⟨l1, l2, l3⟩, y_fr_refl⟩
  · have el : (L ++ [4 * w + d]).take 1024 = L ++ [4 * w + d] := List.take_of_length_le (by rw [List.length_append, List.length_singleton]; omega)
    rw [if_neg (nI_ge (by omega) (by decide)), y_putv (by omega), el]
    refine ⟨⟨by rw [List.length_append, List.length_singleton]; omega, ?_, fun i hi => ?_⟩, y_fr_set (y_fr_set y_fr_refl (by decide)) (by decide)⟩
    · rw [y_sh, z_set_ne (by decide), l2, nI_add, List.length_append, List.length_singleton]
    · rw [List.length_append, List.length_singleton] at hi
      rw [z_set_ne (by decide), y_sif, y_app_getD]
      by_cases z : i = L.length
      · rw [if_pos z, if_neg (by omega), if_pos z]
      · rw [if_neg z, if_pos (by omega)]; exact l3 i (by omega)
def k_os18 : List Nat := [8, 10, 11, 12, 18, 19]
theorem c_one_18 {m : Nat} {wt : Nat → Nat} {t : p_St} {hd f0 : Nat} {h0 : z_H} {L0 : List Nat} (hw : y_wf m wt) (ws : y_ws m t) {w : Nat} (hw20 : w < 2 ^ 20) : ∀ (j : Nat) (z : Bool) (h : z_H) (n : Nat), j ≤ 4 → j < n → y_RC m wt t hd f0 h → k_nO k_os18 h0 h → y_rs hd 1 h0 h → (z = true ↔ ∃ d, d < 4 - j ∧ p_can m wt t d = true ∧ p_eats m wt t d = true) → (z = false → y_LB 18 ((L0 ++ p_ch4 m wt t w (4 - j)).take 1024) h) →
    y_W (tk_X4_eatsByOneStep_18_5 n (nI w) (if z = true then nI 1 else nI 0) (nI (4 - j)) h) (fn_X4_eatsByOneStep_18_5 n (nI w) (if z = true then nI 1 else nI 0) (nI (4 - j)) h) (fun r => y_RC m wt t hd f0 r.2 ∧ k_nO k_os18 h0 r.2 ∧ y_rs hd 1 h0 r.2 ∧ ((z_vi r = nI 1 ∧ ∃ d, d < 4 ∧ p_can m wt t d = true ∧ p_eats m wt t d = true) ∨ (z_vi r = nI 0 ∧ (¬ ∃ d, d < 4 ∧ p_can m wt t d = true ∧ p_eats m wt t d = true) ∧ y_LB 18 ((L0 ++ p_ch4 m wt t w 4).take 1024) r.2)))
  | 0, z, h, n + 1, hj, hn, hR, hN, hr, hz, hL => by
    unfold tk_X4_eatsByOneStep_18_5 fn_X4_eatsByOneStep_18_5
    dsimp only
    refine y_pos (nI_le (Nat.le_refl 4) (by decide)) ⟨by cases z; exact Or.inl rfl; exact Or.inr rfl, hR, hN, hr, ?_⟩
    cases z with
    | true => exact Or.inl ⟨rfl, hz.mp rfl⟩
    | false => exact Or.inr ⟨rfl, fun q => (by have := hz.mpr q; cases this), hL rfl⟩
  | j + 1, z, h, n + 1, hj, hn, hR, hN, hr, hz, hL => by
    have ed : 4 - (j + 1) = 3 - j := by omega
    have hd4 : 3 - j < 4 := by omega
    have ih := c_one_18 (hd := hd) (f0 := f0) (h0 := h0) (L0 := L0) hw ws hw20 j
    rw [ed] at hz hL
    unfold tk_X4_eatsByOneStep_18_5 fn_X4_eatsByOneStep_18_5 tk_X4_eatsByOneStep_18_49 fn_X4_eatsByOneStep_18_49
    dsimp only
    rw [ed, nI_add, show 3 - j + 1 = 4 - j by omega]
    refine y_neg (nI_ge hd4 (by decide)) ?_
    cases z with
    | true =>
      refine y_neg i1_ne0 ⟨Or.inr rfl, hR, hN, hr, Or.inl ⟨rfl, ?_⟩⟩
      obtain ⟨d, q1, q2⟩ := hz.mp rfl
      exact ⟨d, by omega, q2⟩
    | false =>
      refine y_pos rfl ?_
      have hno : ∀ d, d < 3 - j → p_can m wt t d = true → p_eats m wt t d = true → False := fun d q1 q2 q3 => by have := hz.mpr ⟨d, q1, q2, q3⟩; cases this
      have e4 : 4 - j = (3 - j) + 1 := y_4j hj
      have hch : p_ch4 m wt t w (4 - j) = p_ch4 m wt t w (3 - j) ++ (if p_can m wt t (3 - j) = true then [4 * w + (3 - j)] else []) := by rw [e4]; exact p_ch4_s
      cases hc : p_can m wt t (3 - j) with
      | false =>
        obtain ⟨n1, n2⟩ := k_advN hw hR ws hd4 hc
        rw [n1, n2]
        refine y_pos rfl (ih false h n (by omega) (by omega) hR hN hr ⟨fun q => (by cases q), fun ⟨d, q1, q2, q3⟩ => ?_⟩ (fun _ => ?_))
        · by_cases z2 : d = 3 - j
          · rw [z2, hc] at q2; cases q2
          · exact absurd q3 (fun q3 => hno d (by omega) q2 q3)
        · rw [hch, hc, if_neg (by decide : ¬ false = true), List.append_nil]
          exact hL rfl
      | true =>
        obtain ⟨a1, a2, a3, a4⟩ := k_adv hw hR ws hd4 hc
        rw [(k_advY hw hR ws hd4 hc).1, c_just hw hR ws hd4 hc]
        refine y_neg i1_ne0 ?_
        have hL1 : y_LB 18 ((L0 ++ p_ch4 m wt t w (3 - j)).take 1024) (fh_X6_advance h (nI (3 - j))) := y_LB_fr (hL rfl) a4.1 (by decide) (by decide)
        obtain ⟨l1, l2⟩ := c_add_18 hL1 hw20 hd4
        have hR2 := y_RC_fr a1 l2 (by decide)
        obtain ⟨b1, b2, b3, b4⟩ := k_back3 (os := k_os18) (by decide) (by decide) hw hR ws hd4 hc (k := 0) (by omega) hR2 ⟨y_fr_mono l2 (by decide), fun b _ _ _ => by rw [y_fr_at l2 10]⟩ (y_rs_fr l2 (by decide) (by decide))
        have hL3 : y_LB 18 ((L0 ++ p_ch4 m wt t w (4 - j)).take 1024) (fh_X6_takeBack (fh_X1_add_18 (fh_X6_advance h (nI (3 - j))) (nI w) (nI (3 - j)))) := by
          refine y_LB_fr ?_ b4.1 (by decide) (by decide)
          rw [hch, hc, if_pos rfl, ← List.append_assoc, ← y_take]
          exact l1
        have hz2 : (p_eats m wt t (3 - j) = true ↔ ∃ d, d < 4 - j ∧ p_can m wt t d = true ∧ p_eats m wt t d = true) := by
          constructor
          · intro q; exact ⟨3 - j, by omega, hc, q⟩
          · rintro ⟨d, q1, q2, q3⟩
            by_cases z2 : d = 3 - j
            · rw [← z2]; exact q3
            · exact absurd q3 (fun q3 => hno d (by omega) q2 q3)
        exact ih (p_eats m wt t (3 - j)) _ n (by omega) (by omega) b1 (k_nO_trans hN b2) (y_rs_trans hr b3) hz2 (fun _ => hL3)
/-- back to where the way began -/
theorem c_home_16 {m : Nat} {wt : Nat → Nat} {s : p_St} {hd f0 : Nat} {h0 hs : z_H} (hw : y_wf m wt) (ws : y_ws m s) (hR0 : y_RC m wt s hd f0 h0) (K10 : Int32 → Int32 → Int32 → z_H → Prop) (k10 : Int32 → Int32 → Int32 → z_H → z_R) (P : z_R → Prop) {w n i : Nat} (hn5 : n ≤ 5) (e : Int32) (hk : ∀ h, y_RC m wt s hd f0 h → k_nO k_os18 h0 h → k_near hs h → y_W (K10 (nI n) e (nI (i + 1)) h) (k10 (nI n) e (nI (i + 1)) h) P) :
    ∀ (q x : Nat) (h : z_H) (k : Nat), x + q = n → q < k → p_al m wt s q (w / 4 ^ (n - q)) → y_RC m wt (p_wk m wt s q (w / 4 ^ (n - q))) (k_hd hd q) (k_ff m wt s f0 q (w / 4 ^ (n - q))) h → k_nO k_os18 (k_hs h0 q (w / 4 ^ (n - q))) h → y_rs (k_hd hd q) (n - q + 1) (k_hs h0 q (w / 4 ^ (n - q))) h → k_near hs h →
      y_W (tk_X4_eatsFromOneOf_16_51 K10 k (nI n) e (nI i) (nI x) h) (fn_X4_eatsFromOneOf_16_51 k10 k (nI n) e (nI i) (nI x) h) P
  | 0, x, h, k + 1, hq, hk1, hal, hR, hN, hr, hh => by
    unfold tk_X4_eatsFromOneOf_16_51 fn_X4_eatsFromOneOf_16_51
    dsimp only
    rw [nI_add]
    have e0 : k_hd hd 0 = hd := by unfold k_hd; have := hR0.2.1.1; omega
    rw [e0] at hR
    exact y_pos (nI_le (by omega) (by omega)) (hk h hR hN hh)
  | q + 1, x, h, k + 1, hq, hk1, hal, hR, hN, hr, hh => by
    unfold tk_X4_eatsFromOneOf_16_51 fn_X4_eatsFromOneOf_16_51
    dsimp only
    rw [nI_add, nI_add]
    refine y_neg (nI_ge (by omega) (by omega)) ?_
    have ed : w / 4 ^ (n - (q + 1)) / 4 = w / 4 ^ (n - q) := by rw [y_pw, show n - (q + 1) + 1 = n - q by omega]
    have hal' : p_al m wt s q (w / 4 ^ (n - q)) ∧ p_can m wt (p_wk m wt s q (w / 4 ^ (n - q))) (w / 4 ^ (n - (q + 1)) % 4) = true := by rw [← ed]; exact hal
    obtain ⟨u1, u2⟩ := k_walk hw ws hR0 q (w / 4 ^ (n - q)) hal'.1
    have hR' : y_RC m wt (p_adv m wt (p_wk m wt s q (w / 4 ^ (n - q))) (w / 4 ^ (n - (q + 1)) % 4)) ((k_hd hd q + 63) % 64) (k_f0 m wt (p_wk m wt s q (w / 4 ^ (n - q))) (w / 4 ^ (n - (q + 1)) % 4) (k_ff m wt s f0 q (w / 4 ^ (n - q)))) h := by
      have e3 : (k_hd hd q + 63) % 64 = k_hd hd (q + 1) := by unfold k_hd; omega
      rw [e3, ← ed]; exact hR
    have hN' : k_nO k_os18 (fh_X6_advance (k_hs h0 q (w / 4 ^ (n - q))) (nI (w / 4 ^ (n - (q + 1)) % 4))) h := by rw [← ed]; exact hN
    have hr' : y_rs ((k_hd hd q + 63) % 64) (n - (q + 1) + 1) (fh_X6_advance (k_hs h0 q (w / 4 ^ (n - q))) (nI (w / 4 ^ (n - (q + 1)) % 4))) h := by
      have e3 : (k_hd hd q + 63) % 64 = k_hd hd (q + 1) := by unfold k_hd; omega
      rw [e3, ← ed]; exact hr
    obtain ⟨b1, b2, b3, b4⟩ := k_back3 (os := k_os18) (by decide) (by decide) hw u1 (p_wk_ws ws q _ hal'.1) (Nat.mod_lt _ (by decide)) hal'.2 (by omega) hR' hN' hr'
    rw [show n - (q + 1) + 1 + 1 = n - q + 1 by omega] at b3
    exact c_home_16 hw ws hR0 K10 k10 P hn5 e hk q (x + 1) _ k (by omega) (by omega) hal'.1 b1 b2 b3 (k_near_trans hh b4)
theorem c_from_16 {m : Nat} {wt : Nat → Nat} {s : p_St} {hd f0 : Nat} {h0 : z_H} (hw : y_wf m wt) (ws : y_ws m s) {n : Nat} (hn5 : n ≤ 5) {L : List Nat} (hlen : L.length ≤ 1024) (hL : ∀ w ∈ L, w < 4 ^ n ∧ p_al m wt s n w) : ∀ (j i : Nat) (h : z_H) (k : Nat), i + j = L.length → j < k → y_RC m wt s hd f0 h → k_nO k_os18 h0 h → y_LB 16 L h → y_LB 18 ((p_nxt m wt s n (L.take i)).take 1024) h → (¬ ∃ w, w ∈ L.take i ∧ ∃ d, d < 4 ∧ p_can m wt (p_wk m wt s n w) d = true ∧ p_eats m wt (p_wk m wt s n w) d = true) →
    y_W (tk_X4_eatsFromOneOf_16_10 k (nI n) (nI 0) (nI i) h) (fn_X4_eatsFromOneOf_16_10 k (nI n) (nI 0) (nI i) h) (fun r => y_RC m wt s hd f0 r.2 ∧ k_nO k_os18 h0 r.2 ∧ ((z_vi r = nI 1 ∧ ∃ w, w ∈ L ∧ ∃ d, d < 4 ∧ p_can m wt (p_wk m wt s n w) d = true ∧ p_eats m wt (p_wk m wt s n w) d = true) ∨ (z_vi r = nI 0 ∧ (¬ ∃ w, w ∈ L ∧ ∃ d, d < 4 ∧ p_can m wt (p_wk m wt s n w) d = true ∧ p_eats m wt (p_wk m wt s n w) d = true) ∧ y_LB 18 ((p_nxt m wt s n L).take 1024) r.2)))
  | 0, i, h, k + 1, hi, hk, hR, hN, hA, hB, hno => by
    have : i = L.length := by omega
    subst this
    rw [List.take_length] at hB hno
    unfold tk_X4_eatsFromOneOf_16_10 fn_X4_eatsFromOneOf_16_10
    dsimp only
    rw [hA.2.1]
    exact y_pos (nI_le (Nat.le_refl _) (by omega)) ⟨Or.inl rfl, hR, hN, Or.inr ⟨rfl, hno, hB⟩⟩
  | j + 1, i, h, k + 1, hi, hk, hR, hN, hA, hB, hno => by
    have hlt : i < L.length := by omega
    have hmem : L.getD i 99 ∈ L := y_getD_mem hlt
    obtain ⟨w4, wal⟩ := hL _ hmem
    have h45 : 4 ^ n ≤ 4 ^ 5 := Nat.pow_le_pow_right (by decide) hn5
    have w1024 : L.getD i 99 < 1024 := Nat.lt_of_lt_of_le w4 h45
    obtain ⟨f1, f2⟩ := c_follow (w := L.getD i 99) (by omega) h (n := n) (by omega) w4
    obtain ⟨u1, u2⟩ := k_walk hw ws hR n (L.getD i 99) wal
    have ws' := p_wk_ws ws n _ wal
    have hB' : y_LB 18 ((p_nxt m wt s n (L.take i)).take 1024) (k_hs h n (L.getD i 99)) := y_LB_fr hB u2.1 (by decide) (by decide)
    have hA' : y_LB 16 L (k_hs h n (L.getD i 99)) := y_LB_fr hA u2.1 (by decide) (by decide)
    obtain ⟨o1, o2, o3, o4, o5⟩ := c_one_18 (L0 := (p_nxt m wt s n (L.take i)).take 1024) (h0 := k_hs h n (L.getD i 99)) hw ws' (w := L.getD i 99) (by omega) 4 false (k_hs h n (L.getD i 99)) 2000 (Nat.le_refl 4) (by decide) u1 k_nO_refl y_rs_refl ⟨fun q => (by cases q), fun ⟨d, q, _⟩ => absurd q (Nat.not_lt_zero d)⟩ (fun _ => by
      show y_LB 18 (((p_nxt m wt s n (L.take i)).take 1024 ++ p_ch4 m wt (p_wk m wt s n (L.getD i 99)) (L.getD i 99) 0).take 1024) _
      rw [show p_ch4 m wt (p_wk m wt s n (L.getD i 99)) (L.getD i 99) 0 = [] from rfl, List.append_nil, List.take_take, Nat.min_self]
      exact hB')
    unfold tk_X4_eatsFromOneOf_16_10 fn_X4_eatsFromOneOf_16_10
    dsimp only
    rw [hA.2.1, y_atv (by omega), hA.2.2 i hlt, f2]
    refine y_neg (nI_ge hlt (by omega)) (y_pos rfl (y_req f1 (y_req o1 ?_)))
    have htk : L.take (i + 1) = L.take i ++ [L.getD i 99] := by
      rw [List.take_succ, List.getD_eq_getElem?_getD, List.getElem?_eq_getElem hlt]; rfl
    have hnx : p_nxt m wt s n (L.take (i + 1)) = p_nxt m wt s n (L.take i) ++ p_ch4 m wt (p_wk m wt s n (L.getD i 99)) (L.getD i 99) 4 := by
      rw [htk]
      unfold p_nxt
      rw [List.flatMap_append, List.flatMap_cons, List.flatMap_nil, List.append_nil]
    have hpow : L.getD i 99 / 4 ^ (n - n) = L.getD i 99 := by rw [Nat.sub_self, Nat.pow_zero, Nat.div_one]
    show y_W (tk_X4_eatsFromOneOf_16_51 _ 2000 (nI n) (z_vi (fn_X4_eatsByOneStep_18 (nI (L.getD i 99)) (k_hs h n (L.getD i 99)))) (nI i) (nI 0) _) (fn_X4_eatsFromOneOf_16_51 _ 2000 (nI n) (z_vi (fn_X4_eatsByOneStep_18 (nI (L.getD i 99)) (k_hs h n (L.getD i 99)))) (nI i) (nI 0) _) _
    generalize hge : fn_X4_eatsByOneStep_18 (nI (L.getD i 99)) (k_hs h n (L.getD i 99)) = re
    have hge' : fn_X4_eatsByOneStep_18_5 2000 (nI (L.getD i 99)) (if false = true then nI 1 else nI 0) (nI (4 - 4)) (k_hs h n (L.getD i 99)) = re := hge
    rw [hge'] at o2 o3 o4 o5
    refine c_home_16 (hs := re.2) hw ws hR _ _ _ (w := L.getD i 99) (n := n) (i := i) hn5 (z_vi re) (fun h2 q1 q2 q3 => ?_) n 0 re.2 2000 (Nat.zero_add n) (by omega) (by rw [hpow]; exact wal) (by rw [hpow]; exact o2) (by rw [hpow]; exact o3) (by rw [hpow, Nat.sub_self]; exact o4) (k_near_refl _)
    rcases o5 with ⟨v1, v2⟩ | ⟨v1, v2, v3⟩
    · rw [v1]
      have fin : ∀ kk, y_W (tk_X4_eatsFromOneOf_16_10 (kk + 1) (nI n) (nI 1) (nI (i + 1)) h2) (fn_X4_eatsFromOneOf_16_10 (kk + 1) (nI n) (nI 1) (nI (i + 1)) h2) (fun r => y_RC m wt s hd f0 r.2 ∧ k_nO k_os18 h0 r.2 ∧ ((z_vi r = nI 1 ∧ ∃ w, w ∈ L ∧ ∃ d, d < 4 ∧ p_can m wt (p_wk m wt s n w) d = true ∧ p_eats m wt (p_wk m wt s n w) d = true) ∨ (z_vi r = nI 0 ∧ (¬ ∃ w, w ∈ L ∧ ∃ d, d < 4 ∧ p_can m wt (p_wk m wt s n w) d = true ∧ p_eats m wt (p_wk m wt s n w) d = true) ∧ y_LB 18 ((p_nxt m wt s n L).take 1024) r.2))) := by
        intro kk
        unfold tk_X4_eatsFromOneOf_16_10 fn_X4_eatsFromOneOf_16_10
        dsimp only
        refine y_if (fun _ => ?_) (fun _ => y_neg i1_ne0 ?_)
        · exact ⟨Or.inr rfl, q1, k_nO_trans hN q2, Or.inl ⟨rfl, _, hmem, v2⟩⟩
        · exact ⟨Or.inr rfl, q1, k_nO_trans hN q2, Or.inl ⟨rfl, _, hmem, v2⟩⟩
      cases k with
      | zero => omega
      | succ k => exact fin k
    · rw [v1]
      have hA2 : y_LB 16 L h2 := y_LB_fr (y_LB_fr hA' o3.1 (by decide) (by decide)) q3.1 (by decide) (by decide)
      have hB2 : y_LB 18 ((p_nxt m wt s n (L.take (i + 1))).take 1024) h2 := by
        refine y_LB_fr ?_ q3.1 (by decide) (by decide)
        rw [hnx, ← y_take]
        exact v3
      refine c_from_16 hw ws hn5 hlen hL j (i + 1) h2 k (by omega) (by omega) q1 (k_nO_trans hN q2) hA2 hB2 (fun ⟨w, z1, z2⟩ => ?_)
      rw [htk, List.mem_append] at z1
      rcases z1 with z1 | z1
      · exact hno ⟨w, z1, z2⟩
      · rw [List.mem_singleton.mp z1] at z2
        exact v2 z2
theorem c_lev_16 {m : Nat} {wt : Nat → Nat} {s : p_St} {hd f0 : Nat} {h : z_H} (hw : y_wf m wt) (ws : y_ws m s) {n : Nat} (hn5 : n ≤ 5) (hR : y_RC m wt s hd f0 h) (hA : y_LB 16 (p_Lv m wt s n) h) : y_W (tk_X4_eatsFromOneOf_16 (nI n) h) (fn_X4_eatsFromOneOf_16 (nI n) h) (fun r => y_RC m wt s hd f0 r.2 ∧ k_nO k_os18 h r.2 ∧ ((z_vi r = nI 1 ∧ p_A m wt n s) ∨ (z_vi r = nI 0 ∧ (¬ p_A m wt n s) ∧ (n ≤ 4 → y_LB 18 (p_Lv m wt s (n + 1)) r.2)))) := by
  have h45 : 4 ^ n ≤ 4 ^ 5 := Nat.pow_le_pow_right (by decide) hn5
  have hlen : (p_Lv m wt s n).length ≤ 1024 := Nat.le_trans (p_Lv_len n) h45
  have hF : y_fr [18] h (z_set h 18 1 (nI 0)) := y_fr_set y_fr_refl (by decide)
  unfold tk_X4_eatsFromOneOf_16 fn_X4_eatsFromOneOf_16
  refine y_mono (c_from_16 (h0 := h) hw ws hn5 hlen (fun w q => ⟨((p_Lv_ok n).1 w q).1, ((p_Lv_ok n).1 w q).2.1⟩) (p_Lv m wt s n).length 0 _ 2000 (by omega) (by omega) (y_RC_fr hR hF (by decide)) ⟨y_fr_mono hF (by decide), fun b _ _ _ => by rw [y_fr_at hF 10]⟩ (y_LB_fr hA hF (by decide) (by decide)) ⟨by simp [p_nxt], y_sh, fun i hi => by simp [p_nxt] at hi⟩ (fun ⟨w, q, _⟩ => by simp at q)) (fun q => ?_)
  obtain ⟨q1, q2, q3⟩ := q
  refine ⟨q1, q2, ?_⟩
  rcases q3 with ⟨v1, v2⟩ | ⟨v1, v2, v3⟩
  · exact Or.inl ⟨v1, p_A_Lv.mpr v2⟩
  · refine Or.inr ⟨v1, fun z => v2 (p_A_Lv.mp z), fun hn4 => ?_⟩
    have h44 : 4 ^ (n + 1) ≤ 4 ^ 5 := Nat.pow_le_pow_right (by decide) (by omega)
    have : (p_nxt m wt s n (p_Lv m wt s n)).take 1024 = p_Lv m wt s (n + 1) := List.take_of_length_le (Nat.le_trans (p_Lv_len (m := m) (wt := wt) (s := s) (n + 1)) h44)
    rw [this] at v3
    exact v3
theorem c_add_16 {L : List Nat} {h : z_H} (hL : y_LB 16 L h) {w d : Nat} (hw : w < 2 ^ 20) (hd : d < 4) : y_LB 16 ((L ++ [4 * w + d]).take 1024) (fh_X1_add_16 h (nI w) (nI d)) ∧ y_fr [16, 17] h (fh_X1_add_16 h (nI w) (nI d)) := by
  obtain ⟨l1, l2, l3⟩ := hL
  unfold fh_X1_add_16
  rw [l2, y_shl hw hd]
  by_cases e : 1024 ≤ L.length
  · have el : (L ++ [4 * w + d]).take 1024 = L := by rw [List.take_append_of_le_length e, List.take_of_length_le l1]
    rw [if_pos (nI_le e (by omega)), el]
    exact ⟨⟨l1, l2, l3⟩, y_fr_refl⟩
  · have el : (L ++ [4 * w + d]).take 1024 = L ++ [4 * w + d] := List.take_of_length_le (by rw [List.length_append, List.length_singleton]; omega)
    rw [if_neg (nI_ge (by omega) (by decide)), y_putv (by omega), el]
    refine ⟨⟨by rw [List.length_append, List.length_singleton]; omega, ?_, fun i hi => ?_⟩, y_fr_set (y_fr_set y_fr_refl (by decide)) (by decide)⟩
    · rw [y_sh, z_set_ne (by decide), l2, nI_add, List.length_append, List.length_singleton]
    · rw [List.length_append, List.length_singleton] at hi
      rw [z_set_ne (by decide), y_sif, y_app_getD]
      by_cases z : i = L.length
      · rw [if_pos z, if_neg (by omega), if_pos z]
      · rw [if_neg z, if_pos (by omega)]; exact l3 i (by omega)
def k_os16 : List Nat := [8, 10, 11, 12, 16, 17]
theorem c_one_16 {m : Nat} {wt : Nat → Nat} {t : p_St} {hd f0 : Nat} {h0 : z_H} {L0 : List Nat} (hw : y_wf m wt) (ws : y_ws m t) {w : Nat} (hw20 : w < 2 ^ 20) : ∀ (j : Nat) (z : Bool) (h : z_H) (n : Nat), j ≤ 4 → j < n → y_RC m wt t hd f0 h → k_nO k_os16 h0 h → y_rs hd 1 h0 h → (z = true ↔ ∃ d, d < 4 - j ∧ p_can m wt t d = true ∧ p_eats m wt t d = true) → (z = false → y_LB 16 ((L0 ++ p_ch4 m wt t w (4 - j)).take 1024) h) →
    y_W (tk_X4_eatsByOneStep_16_5 n (nI w) (if z = true then nI 1 else nI 0) (nI (4 - j)) h) (fn_X4_eatsByOneStep_16_5 n (nI w) (if z = true then nI 1 else nI 0) (nI (4 - j)) h) (fun r => y_RC m wt t hd f0 r.2 ∧ k_nO k_os16 h0 r.2 ∧ y_rs hd 1 h0 r.2 ∧ ((z_vi r = nI 1 ∧ ∃ d, d < 4 ∧ p_can m wt t d = true ∧ p_eats m wt t d = true) ∨ (z_vi r = nI 0 ∧ (¬ ∃ d, d < 4 ∧ p_can m wt t d = true ∧ p_eats m wt t d = true) ∧ y_LB 16 ((L0 ++ p_ch4 m wt t w 4).take 1024) r.2)))
  | 0, z, h, n + 1, hj, hn, hR, hN, hr, hz, hL => by
    unfold tk_X4_eatsByOneStep_16_5 fn_X4_eatsByOneStep_16_5
    dsimp only
    refine y_pos (nI_le (Nat.le_refl 4) (by decide)) ⟨by cases z; exact Or.inl rfl; exact Or.inr rfl, hR, hN, hr, ?_⟩
    cases z with
    | true => exact Or.inl ⟨rfl, hz.mp rfl⟩
    | false => exact Or.inr ⟨rfl, fun q => (by have := hz.mpr q; cases this), hL rfl⟩
  | j + 1, z, h, n + 1, hj, hn, hR, hN, hr, hz, hL => by
    have ed : 4 - (j + 1) = 3 - j := by omega
    have hd4 : 3 - j < 4 := by omega
    have ih := c_one_16 (hd := hd) (f0 := f0) (h0 := h0) (L0 := L0) hw ws hw20 j
    rw [ed] at hz hL
    unfold tk_X4_eatsByOneStep_16_5 fn_X4_eatsByOneStep_16_5 tk_X4_eatsByOneStep_16_49 fn_X4_eatsByOneStep_16_49
    dsimp only
    rw [ed, nI_add, show 3 - j + 1 = 4 - j by omega]
    refine y_neg (nI_ge hd4 (by decide)) ?_
    cases z with
    | true =>
      refine y_neg i1_ne0 ⟨Or.inr rfl, hR, hN, hr, Or.inl ⟨rfl, ?_⟩⟩
      obtain ⟨d, q1, q2⟩ := hz.mp rfl
      exact ⟨d, by omega, q2⟩
    | false =>
      refine y_pos rfl ?_
      have hno : ∀ d, d < 3 - j → p_can m wt t d = true → p_eats m wt t d = true → False := fun d q1 q2 q3 => by have := hz.mpr ⟨d, q1, q2, q3⟩; cases this
      have e4 : 4 - j = (3 - j) + 1 := y_4j hj
      have hch : p_ch4 m wt t w (4 - j) = p_ch4 m wt t w (3 - j) ++ (if p_can m wt t (3 - j) = true then [4 * w + (3 - j)] else []) := by rw [e4]; exact p_ch4_s
      cases hc : p_can m wt t (3 - j) with
      | false =>
        obtain ⟨n1, n2⟩ := k_advN hw hR ws hd4 hc
        rw [n1, n2]
        refine y_pos rfl (ih false h n (by omega) (by omega) hR hN hr ⟨fun q => (by cases q), fun ⟨d, q1, q2, q3⟩ => ?_⟩ (fun _ => ?_))
        · by_cases z2 : d = 3 - j
          · rw [z2, hc] at q2; cases q2
          · exact absurd q3 (fun q3 => hno d (by omega) q2 q3)
        · rw [hch, hc, if_neg (by decide : ¬ false = true), List.append_nil]
          exact hL rfl
      | true =>
        obtain ⟨a1, a2, a3, a4⟩ := k_adv hw hR ws hd4 hc
        rw [(k_advY hw hR ws hd4 hc).1, c_just hw hR ws hd4 hc]
        refine y_neg i1_ne0 ?_
        have hL1 : y_LB 16 ((L0 ++ p_ch4 m wt t w (3 - j)).take 1024) (fh_X6_advance h (nI (3 - j))) := y_LB_fr (hL rfl) a4.1 (by decide) (by decide)
        obtain ⟨l1, l2⟩ := c_add_16 hL1 hw20 hd4
        have hR2 := y_RC_fr a1 l2 (by decide)
        obtain ⟨b1, b2, b3, b4⟩ := k_back3 (os := k_os16) (by decide) (by decide) hw hR ws hd4 hc (k := 0) (by omega) hR2 ⟨y_fr_mono l2 (by decide), fun b _ _ _ => by rw [y_fr_at l2 10]⟩ (y_rs_fr l2 (by decide) (by decide))
        have hL3 : y_LB 16 ((L0 ++ p_ch4 m wt t w (4 - j)).take 1024) (fh_X6_takeBack (fh_X1_add_16 (fh_X6_advance h (nI (3 - j))) (nI w) (nI (3 - j)))) := by
          refine y_LB_fr ?_ b4.1 (by decide) (by decide)
          rw [hch, hc, if_pos rfl, ← List.append_assoc, ← y_take]
          exact l1
        have hz2 : (p_eats m wt t (3 - j) = true ↔ ∃ d, d < 4 - j ∧ p_can m wt t d = true ∧ p_eats m wt t d = true) := by
          constructor
          · intro q; exact ⟨3 - j, by omega, hc, q⟩
          · rintro ⟨d, q1, q2, q3⟩
            by_cases z2 : d = 3 - j
            · rw [← z2]; exact q3
            · exact absurd q3 (fun q3 => hno d (by omega) q2 q3)
        exact ih (p_eats m wt t (3 - j)) _ n (by omega) (by omega) b1 (k_nO_trans hN b2) (y_rs_trans hr b3) hz2 (fun _ => hL3)
/-- back to where the way began -/
theorem c_home_18 {m : Nat} {wt : Nat → Nat} {s : p_St} {hd f0 : Nat} {h0 hs : z_H} (hw : y_wf m wt) (ws : y_ws m s) (hR0 : y_RC m wt s hd f0 h0) (K10 : Int32 → Int32 → Int32 → z_H → Prop) (k10 : Int32 → Int32 → Int32 → z_H → z_R) (P : z_R → Prop) {w n i : Nat} (hn5 : n ≤ 5) (e : Int32) (hk : ∀ h, y_RC m wt s hd f0 h → k_nO k_os16 h0 h → k_near hs h → y_W (K10 (nI n) e (nI (i + 1)) h) (k10 (nI n) e (nI (i + 1)) h) P) :
    ∀ (q x : Nat) (h : z_H) (k : Nat), x + q = n → q < k → p_al m wt s q (w / 4 ^ (n - q)) → y_RC m wt (p_wk m wt s q (w / 4 ^ (n - q))) (k_hd hd q) (k_ff m wt s f0 q (w / 4 ^ (n - q))) h → k_nO k_os16 (k_hs h0 q (w / 4 ^ (n - q))) h → y_rs (k_hd hd q) (n - q + 1) (k_hs h0 q (w / 4 ^ (n - q))) h → k_near hs h →
      y_W (tk_X4_eatsFromOneOf_18_51 K10 k (nI n) e (nI i) (nI x) h) (fn_X4_eatsFromOneOf_18_51 k10 k (nI n) e (nI i) (nI x) h) P
  | 0, x, h, k + 1, hq, hk1, hal, hR, hN, hr, hh => by
    unfold tk_X4_eatsFromOneOf_18_51 fn_X4_eatsFromOneOf_18_51
    dsimp only
    rw [nI_add]
    have e0 : k_hd hd 0 = hd := by unfold k_hd; have := hR0.2.1.1; omega
    rw [e0] at hR
    exact y_pos (nI_le (by omega) (by omega)) (hk h hR hN hh)
  | q + 1, x, h, k + 1, hq, hk1, hal, hR, hN, hr, hh => by
    unfold tk_X4_eatsFromOneOf_18_51 fn_X4_eatsFromOneOf_18_51
    dsimp only
    rw [nI_add, nI_add]
    refine y_neg (nI_ge (by omega) (by omega)) ?_
    have ed : w / 4 ^ (n - (q + 1)) / 4 = w / 4 ^ (n - q) := by rw [y_pw, show n - (q + 1) + 1 = n - q by omega]
    have hal' : p_al m wt s q (w / 4 ^ (n - q)) ∧ p_can m wt (p_wk m wt s q (w / 4 ^ (n - q))) (w / 4 ^ (n - (q + 1)) % 4) = true := by rw [← ed]; exact hal
    obtain ⟨u1, u2⟩ := k_walk hw ws hR0 q (w / 4 ^ (n - q)) hal'.1
    have hR' : y_RC m wt (p_adv m wt (p_wk m wt s q (w / 4 ^ (n - q))) (w / 4 ^ (n - (q + 1)) % 4)) ((k_hd hd q + 63) % 64) (k_f0 m wt (p_wk m wt s q (w / 4 ^ (n - q))) (w / 4 ^ (n - (q + 1)) % 4) (k_ff m wt s f0 q (w / 4 ^ (n - q)))) h := by
      have e3 : (k_hd hd q + 63) % 64 = k_hd hd (q + 1) := by unfold k_hd; omega
      rw [e3, ← ed]; exact hR
    have hN' : k_nO k_os16 (fh_X6_advance (k_hs h0 q (w / 4 ^ (n - q))) (nI (w / 4 ^ (n - (q + 1)) % 4))) h := by rw [← ed]; exact hN
    have hr' : y_rs ((k_hd hd q + 63) % 64) (n - (q + 1) + 1) (fh_X6_advance (k_hs h0 q (w / 4 ^ (n - q))) (nI (w / 4 ^ (n - (q + 1)) % 4))) h := by
      have e3 : (k_hd hd q + 63) % 64 = k_hd hd (q + 1) := by unfold k_hd; omega
      rw [e3, ← ed]; exact hr
    obtain ⟨b1, b2, b3, b4⟩ := k_back3 (os := k_os16) (by decide) (by decide) hw u1 (p_wk_ws ws q _ hal'.1) (Nat.mod_lt _ (by decide)) hal'.2 (by omega) hR' hN' hr'
    rw [show n - (q + 1) + 1 + 1 = n - q + 1 by omega] at b3
    exact c_home_18 hw ws hR0 K10 k10 P hn5 e hk q (x + 1) _ k (by omega) (by omega) hal'.1 b1 b2 b3 (k_near_trans hh b4)
theorem c_from_18 {m : Nat} {wt : Nat → Nat} {s : p_St} {hd f0 : Nat} {h0 : z_H} (hw : y_wf m wt) (ws : y_ws m s) {n : Nat} (hn5 : n ≤ 5) {L : List Nat} (hlen : L.length ≤ 1024) (hL : ∀ w ∈ L, w < 4 ^ n ∧ p_al m wt s n w) : ∀ (j i : Nat) (h : z_H) (k : Nat), i + j = L.length → j < k → y_RC m wt s hd f0 h → k_nO k_os16 h0 h → y_LB 18 L h → y_LB 16 ((p_nxt m wt s n (L.take i)).take 1024) h → (¬ ∃ w, w ∈ L.take i ∧ ∃ d, d < 4 ∧ p_can m wt (p_wk m wt s n w) d = true ∧ p_eats m wt (p_wk m wt s n w) d = true) →
    y_W (tk_X4_eatsFromOneOf_18_10 k (nI n) (nI 0) (nI i) h) (fn_X4_eatsFromOneOf_18_10 k (nI n) (nI 0) (nI i) h) (fun r => y_RC m wt s hd f0 r.2 ∧ k_nO k_os16 h0 r.2 ∧ ((z_vi r = nI 1 ∧ ∃ w, w ∈ L ∧ ∃ d, d < 4 ∧ p_can m wt (p_wk m wt s n w) d = true ∧ p_eats m wt (p_wk m wt s n w) d = true) ∨ (z_vi r = nI 0 ∧ (¬ ∃ w, w ∈ L ∧ ∃ d, d < 4 ∧ p_can m wt (p_wk m wt s n w) d = true ∧ p_eats m wt (p_wk m wt s n w) d = true) ∧ y_LB 16 ((p_nxt m wt s n L).take 1024) r.2)))
  | 0, i, h, k + 1, hi, hk, hR, hN, hA, hB, hno => by
    have : i = L.length := by omega
    subst this
    rw [List.take_length] at hB hno
    unfold tk_X4_eatsFromOneOf_18_10 fn_X4_eatsFromOneOf_18_10
    dsimp only
    rw [hA.2.1]
    exact y_pos (nI_le (Nat.le_refl _) (by omega)) ⟨Or.inl rfl, hR, hN, Or.inr ⟨rfl, hno, hB⟩⟩
  | j + 1, i, h, k + 1, hi, hk, hR, hN, hA, hB, hno => by
    have hlt : i < L.length := by omega
    have hmem : L.getD i 99 ∈ L := y_getD_mem hlt
    obtain ⟨w4, wal⟩ := hL _ hmem
    have h45 : 4 ^ n ≤ 4 ^ 5 := Nat.pow_le_pow_right (by decide) hn5
    have w1024 : L.getD i 99 < 1024 := Nat.lt_of_lt_of_le w4 h45
    obtain ⟨f1, f2⟩ := c_follow (w := L.getD i 99) (by omega) h (n := n) (by omega) w4
    obtain ⟨u1, u2⟩ := k_walk hw ws hR n (L.getD i 99) wal
    have ws' := p_wk_ws ws n _ wal
    have hB' : y_LB 16 ((p_nxt m wt s n (L.take i)).take 1024) (k_hs h n (L.getD i 99)) := y_LB_fr hB u2.1 (by decide) (by decide)
    have hA' : y_LB 18 L (k_hs h n (L.getD i 99)) := y_LB_fr hA u2.1 (by decide) (by decide)
    obtain ⟨o1, o2, o3, o4, o5⟩ := c_one_16 (L0 := (p_nxt m wt s n (L.take i)).take 1024) (h0 := k_hs h n (L.getD i 99)) hw ws' (w := L.getD i 99) (by omega) 4 false (k_hs h n (L.getD i 99)) 2000 (Nat.le_refl 4) (by decide) u1 k_nO_refl y_rs_refl ⟨fun q => (by cases q), fun ⟨d, q, _⟩ => absurd q (Nat.not_lt_zero d)⟩ (fun _ => by
      show y_LB 16 (((p_nxt m wt s n (L.take i)).take 1024 ++ p_ch4 m wt (p_wk m wt s n (L.getD i 99)) (L.getD i 99) 0).take 1024) _
      rw [show p_ch4 m wt (p_wk m wt s n (L.getD i 99)) (L.getD i 99) 0 = [] from rfl, List.append_nil, List.take_take, Nat.min_self]
      exact hB')
    unfold tk_X4_eatsFromOneOf_18_10 fn_X4_eatsFromOneOf_18_10
    dsimp only
    rw [hA.2.1, y_atv (by omega), hA.2.2 i hlt, f2]
    refine y_neg (nI_ge hlt (by omega)) (y_pos rfl (y_req f1 (y_req o1 ?_)))
    have htk : L.take (i + 1) = L.take i ++ [L.getD i 99] := by
      rw [List.take_succ, List.getD_eq_getElem?_getD, List.getElem?_eq_getElem hlt]; rfl
    have hnx : p_nxt m wt s n (L.take (i + 1)) = p_nxt m wt s n (L.take i) ++ p_ch4 m wt (p_wk m wt s n (L.getD i 99)) (L.getD i 99) 4 := by
      rw [htk]
      unfold p_nxt
      rw [List.flatMap_append, List.flatMap_cons, List.flatMap_nil, List.append_nil]
    have hpow : L.getD i 99 / 4 ^ (n - n) = L.getD i 99 := by rw [Nat.sub_self, Nat.pow_zero, Nat.div_one]
    show y_W (tk_X4_eatsFromOneOf_18_51 _ 2000 (nI n) (z_vi (fn_X4_eatsByOneStep_16 (nI (L.getD i 99)) (k_hs h n (L.getD i 99)))) (nI i) (nI 0) _) (fn_X4_eatsFromOneOf_18_51 _ 2000 (nI n) (z_vi (fn_X4_eatsByOneStep_16 (nI (L.getD i 99)) (k_hs h n (L.getD i 99)))) (nI i) (nI 0) _) _
    generalize hge : fn_X4_eatsByOneStep_16 (nI (L.getD i 99)) (k_hs h n (L.getD i 99)) = re
    have hge' : fn_X4_eatsByOneStep_16_5 2000 (nI (L.getD i 99)) (if false = true then nI 1 else nI 0) (nI (4 - 4)) (k_hs h n (L.getD i 99)) = re := hge
    rw [hge'] at o2 o3 o4 o5
    refine c_home_18 (hs := re.2) hw ws hR _ _ _ (w := L.getD i 99) (n := n) (i := i) hn5 (z_vi re) (fun h2 q1 q2 q3 => ?_) n 0 re.2 2000 (Nat.zero_add n) (by omega) (by rw [hpow]; exact wal) (by rw [hpow]; exact o2) (by rw [hpow]; exact o3) (by rw [hpow, Nat.sub_self]; exact o4) (k_near_refl _)
    rcases o5 with ⟨v1, v2⟩ | ⟨v1, v2, v3⟩
    · rw [v1]
      have fin : ∀ kk, y_W (tk_X4_eatsFromOneOf_18_10 (kk + 1) (nI n) (nI 1) (nI (i + 1)) h2) (fn_X4_eatsFromOneOf_18_10 (kk + 1) (nI n) (nI 1) (nI (i + 1)) h2) (fun r => y_RC m wt s hd f0 r.2 ∧ k_nO k_os16 h0 r.2 ∧ ((z_vi r = nI 1 ∧ ∃ w, w ∈ L ∧ ∃ d, d < 4 ∧ p_can m wt (p_wk m wt s n w) d = true ∧ p_eats m wt (p_wk m wt s n w) d = true) ∨ (z_vi r = nI 0 ∧ (¬ ∃ w, w ∈ L ∧ ∃ d, d < 4 ∧ p_can m wt (p_wk m wt s n w) d = true ∧ p_eats m wt (p_wk m wt s n w) d = true) ∧ y_LB 16 ((p_nxt m wt s n L).take 1024) r.2))) := by
        intro kk
        unfold tk_X4_eatsFromOneOf_18_10 fn_X4_eatsFromOneOf_18_10
        dsimp only
        refine y_if (fun _ => ?_) (fun _ => y_neg i1_ne0 ?_)
        · exact ⟨Or.inr rfl, q1, k_nO_trans hN q2, Or.inl ⟨rfl, _, hmem, v2⟩⟩
        · exact ⟨Or.inr rfl, q1, k_nO_trans hN q2, Or.inl ⟨rfl, _, hmem, v2⟩⟩
      cases k with
      | zero => omega
      | succ k => exact fin k
    · rw [v1]
      have hA2 : y_LB 18 L h2 := y_LB_fr (y_LB_fr hA' o3.1 (by decide) (by decide)) q3.1 (by decide) (by decide)
      have hB2 : y_LB 16 ((p_nxt m wt s n (L.take (i + 1))).take 1024) h2 := by
        refine y_LB_fr ?_ q3.1 (by decide) (by decide)
        rw [hnx, ← y_take]
        exact v3
      refine c_from_18 hw ws hn5 hlen hL j (i + 1) h2 k (by omega) (by omega) q1 (k_nO_trans hN q2) hA2 hB2 (fun ⟨w, z1, z2⟩ => ?_)
      rw [htk, List.mem_append] at z1
      rcases z1 with z1 | z1
      · exact hno ⟨w, z1, z2⟩
      · rw [List.mem_singleton.mp z1] at z2
        exact v2 z2
theorem c_lev_18 {m : Nat} {wt : Nat → Nat} {s : p_St} {hd f0 : Nat} {h : z_H} (hw : y_wf m wt) (ws : y_ws m s) {n : Nat} (hn5 : n ≤ 5) (hR : y_RC m wt s hd f0 h) (hA : y_LB 18 (p_Lv m wt s n) h) : y_W (tk_X4_eatsFromOneOf_18 (nI n) h) (fn_X4_eatsFromOneOf_18 (nI n) h) (fun r => y_RC m wt s hd f0 r.2 ∧ k_nO k_os16 h r.2 ∧ ((z_vi r = nI 1 ∧ p_A m wt n s) ∨ (z_vi r = nI 0 ∧ (¬ p_A m wt n s) ∧ (n ≤ 4 → y_LB 16 (p_Lv m wt s (n + 1)) r.2)))) := by
  have h45 : 4 ^ n ≤ 4 ^ 5 := Nat.pow_le_pow_right (by decide) hn5
  have hlen : (p_Lv m wt s n).length ≤ 1024 := Nat.le_trans (p_Lv_len n) h45
  have hF : y_fr [16] h (z_set h 16 1 (nI 0)) := y_fr_set y_fr_refl (by decide)
  unfold tk_X4_eatsFromOneOf_18 fn_X4_eatsFromOneOf_18
  refine y_mono (c_from_18 (h0 := h) hw ws hn5 hlen (fun w q => ⟨((p_Lv_ok n).1 w q).1, ((p_Lv_ok n).1 w q).2.1⟩) (p_Lv m wt s n).length 0 _ 2000 (by omega) (by omega) (y_RC_fr hR hF (by decide)) ⟨y_fr_mono hF (by decide), fun b _ _ _ => by rw [y_fr_at hF 10]⟩ (y_LB_fr hA hF (by decide) (by decide)) ⟨by simp [p_nxt], y_sh, fun i hi => by simp [p_nxt] at hi⟩ (fun ⟨w, q, _⟩ => by simp at q)) (fun q => ?_)
  obtain ⟨q1, q2, q3⟩ := q
  refine ⟨q1, q2, ?_⟩
  rcases q3 with ⟨v1, v2⟩ | ⟨v1, v2, v3⟩
  · exact Or.inl ⟨v1, p_A_Lv.mpr v2⟩
  · refine Or.inr ⟨v1, fun z => v2 (p_A_Lv.mp z), fun hn4 => ?_⟩
    have h44 : 4 ^ (n + 1) ≤ 4 ^ 5 := Nat.pow_le_pow_right (by decide) (by omega)
    have : (p_nxt m wt s n (p_Lv m wt s n)).take 1024 = p_Lv m wt s (n + 1) := List.take_of_length_le (Nat.le_trans (p_Lv_len (m := m) (wt := wt) (s := s) (n + 1)) h44)
    rw [this] at v3
    exact v3
theorem p_E_next {m : Nat} {wt : Nat → Nat} {s : p_St} {n : Nat} (h : p_E m wt n s = false) : p_E m wt (n + 1) s = true ↔ p_A m wt n s := by
  constructor
  · intro z
    obtain ⟨k, h1, h2⟩ := (p_E_A (n + 1) s).mp z
    by_cases e : k = n
    · exact e ▸ h2
    · have := (p_E_A n s).mpr ⟨k, by omega, h2⟩
      rw [h] at this; cases this
  · intro z
    exact (p_E_A (n + 1) s).mpr ⟨n, Nat.lt_succ_self n, z⟩
theorem c_lev28 {m : Nat} {wt : Nat → Nat} {s : p_St} {hd f0 : Nat} {h0 : z_H} (hw : y_wf m wt) (ws : y_ws m s) : ∀ (q : Nat) (h : z_H) (k : Nat), q ≤ 3 → q < k → y_RC m wt s hd f0 h → k_nO [8, 10, 11, 12, 16, 17, 18, 19] h0 h → (1 ≤ q → y_LB 16 (p_Lv m wt s (6 - 2 * q)) h) → p_E m wt (6 - 2 * q) s = false →
    y_W (tk_X4_fewestByLevels_28 k (nI (7 - 2 * q)) h) (fn_X4_fewestByLevels_28 k (nI (7 - 2 * q)) h) (fun r => z_vi r = p_i (p_fw m wt s (2 * q)) ∧ y_RC m wt s hd f0 r.2 ∧ k_nO [8, 10, 11, 12, 16, 17, 18, 19] h0 r.2)
  | 0, h, k + 1, hq, hk, hR, hN, hL, hE => by
    unfold tk_X4_fewestByLevels_28 fn_X4_fewestByLevels_28
    dsimp only
    exact y_pos (by decide) (y_end ⟨rfl, hR, hN⟩)
  | q + 1, h, k + 1, hq, hk, hR, hN, hL, hE => by
    have e7 : 7 - 2 * (q + 1) = 5 - 2 * q := by omega
    have e6 : 6 - 2 * (q + 1) = 4 - 2 * q := by omega
    rw [e6] at hL hE
    obtain ⟨r1, r2, r3, r4⟩ := c_lev_16 hw ws (n := 4 - 2 * q) (by omega) hR (hL (by omega))
    have ef1 : p_fw m wt s (2 * (q + 1)) = if p_E m wt (5 - 2 * q) s = true then 5 - 2 * q else p_fw m wt s (2 * q + 1) := by
      show p_fw m wt s ((2 * q + 1) + 1) = _
      unfold p_fw
      rw [show 6 - (2 * q + 1) = 5 - 2 * q by omega]
      rfl
    have ef2 : p_fw m wt s (2 * q + 1) = if p_E m wt (6 - 2 * q) s = true then 6 - 2 * q else p_fw m wt s (2 * q) := rfl
    have n1 := p_E_next hE
    rw [show 4 - 2 * q + 1 = 5 - 2 * q by omega] at n1
    unfold tk_X4_fewestByLevels_28 fn_X4_fewestByLevels_28
    dsimp only
    rw [e7, nI_add, pk_sub (by omega), pk_sub (by omega), show 5 - 2 * q - 1 = 4 - 2 * q by omega, show 5 - 2 * q + 1 - 1 = 5 - 2 * q by omega, show 5 - 2 * q + 1 = 6 - 2 * q by omega, nI_add, show 6 - 2 * q + 1 = 7 - 2 * q by omega, ef1]
    refine y_neg (nI_nlt (by omega) (by omega)) (y_req r1 ?_)
    have hN1 : k_nO [8, 10, 11, 12, 16, 17, 18, 19] h0 (fn_X4_eatsFromOneOf_16 (nI (4 - 2 * q)) h).2 := k_nO_trans hN ⟨y_fr_mono r3.1 (by decide), r3.2⟩
    rcases r4 with ⟨v1, v2⟩ | ⟨v1, v2, v3⟩
    · rw [v1, if_pos (n1.mpr v2)]
      exact y_neg i1_ne0 (y_end ⟨by rw [p_i_n (by omega : 5 - 2 * q ≠ 99)]; rfl, r2, hN1⟩)
    · have hE1 : p_E m wt (5 - 2 * q) s = false := by
        cases z : p_E m wt (5 - 2 * q) s with
        | false => rfl
        | true => exact absurd (n1.mp z) v2
      have n2 := p_E_next hE1
      rw [show 5 - 2 * q + 1 = 6 - 2 * q by omega] at n2
      rw [v1, hE1, if_neg (by decide : ¬ false = true), ef2]
      refine y_pos rfl (y_neg (nI_nlt (by omega) (by omega)) ?_)
      have v3' := v3 (by omega)
      rw [show 4 - 2 * q + 1 = 5 - 2 * q by omega] at v3'
      obtain ⟨t1, t2, t3, t4⟩ := c_lev_18 hw ws (n := 5 - 2 * q) (by omega) r2 v3'
      refine y_req t1 ?_
      have hN2 := k_nO_trans hN1 (show k_nO [8, 10, 11, 12, 16, 17, 18, 19] _ (fn_X4_eatsFromOneOf_18 (nI (5 - 2 * q)) (fn_X4_eatsFromOneOf_16 (nI (4 - 2 * q)) h).2).2 from ⟨y_fr_mono t3.1 (by decide), t3.2⟩)
      rcases t4 with ⟨u1, u2⟩ | ⟨u1, u2, u3⟩
      · rw [u1, if_pos (n2.mpr u2)]
        exact y_neg i1_ne0 (y_end ⟨by rw [p_i_n (by omega : 6 - 2 * q ≠ 99)]; rfl, t2, hN2⟩)
      · have hE2 : p_E m wt (6 - 2 * q) s = false := by
          cases z : p_E m wt (6 - 2 * q) s with
          | false => rfl
          | true => exact absurd (n2.mp z) u2
        rw [u1, hE2, if_neg (by decide : ¬ false = true)]
        refine y_pos rfl (c_lev28 hw ws q _ k (by omega) (by omega) t2 hN2 (fun hq1 => ?_) hE2)
        have := u3 (by omega)
        rw [show 5 - 2 * q + 1 = 6 - 2 * q by omega] at this
        exact this
theorem c_levels {m : Nat} {wt : Nat → Nat} {s : p_St} {hd f0 : Nat} {h : z_H} (hw : y_wf m wt) (ws : y_ws m s) (hR : y_RC m wt s hd f0 h) : y_W (tk_X4_fewestByLevels h) (fn_X4_fewestByLevels h) (fun r => z_vi r = p_i (p_fw m wt s 6) ∧ y_RC m wt s hd f0 r.2 ∧ k_nO [8, 10, 11, 12, 16, 17, 18, 19] h r.2) := by
  unfold tk_X4_fewestByLevels fn_X4_fewestByLevels
  rw [hR.2.2.2.2.1]
  have := ws.2.2.2.1
  refine y_eq s.2.2.length 0 rfl rfl (fun e => y_end ⟨by rw [p_fw_nofeed e]; rfl, hR, k_nO_refl⟩) (fun e => ?_)
  rw [y_putv (by decide : 0 < 1024)]
  have hF : y_fr [16, 17] h (z_set (z_set h 17 0 (nI 0)) 16 1 (nI 1)) := y_fr_set (y_fr_set y_fr_refl (by decide)) (by decide)
  refine c_lev28 hw ws 3 _ 2000 (by decide) (by decide) (y_RC_fr hR hF (by decide)) ⟨y_fr_mono hF (by decide), fun b _ _ _ => by rw [y_fr_at hF 10]⟩ (fun _ => ⟨(show ([0] : List Nat).length ≤ 1024 by decide), y_sh, fun i hi => ?_⟩) rfl
  have hi : i < 1 := hi
  have : i = 0 := by omega
  subst this
  rw [z_set_ne (by decide), y_sh]
  rfl
