/-! ===== pure: setWall and setLink, on both sides ===== -/
def p_wm (m b : Nat) (yb : Bool) : Nat := if yb = true then m ||| 2 ^ b else m &&& (511 ^^^ 2 ^ b)
theorem s_wm0 : ∀ m, m < 512 → ∀ b, b < 9 → (nI m &&& (((nI 1) <<< (nI b &&& 31)) ^^^ (z_bi (-1)))) = nI (m &&& (511 ^^^ 2 ^ b)) ∧ m &&& (511 ^^^ 2 ^ b) < 512 := by decide +kernel
theorem s_wm1 : ∀ b, b < 9 → ∀ j, j < 9 → (511 ^^^ 2 ^ b).testBit j = !(j == b) := by decide +kernel
theorem p_wm_lt {m b : Nat} {yb : Bool} (hm : m < 512) (hb : b < 9) : p_wm m b yb < 512 := by
  unfold p_wm
  split
  · exact Nat.or_lt_two_pow (n := 9) hm (Nat.pow_lt_pow_right (by decide) hb)
  · exact (s_wm0 m hm b hb).2
theorem p_wm_bit {m b j : Nat} {yb : Bool} (hb : b < 9) (hj : j < 9) : (p_wm m b yb).testBit j = if j = b then yb else m.testBit j := by
  unfold p_wm
  cases yb with
  | true =>
    rw [if_pos rfl, Nat.testBit_or, Nat.testBit_two_pow]
    by_cases e : j = b
    · rw [if_pos e, e]; simp
    · have : ¬ b = j := fun z => e z.symm
      rw [if_neg e]; simp [this]
  | false =>
    rw [if_neg (by decide), Nat.testBit_and, s_wm1 b hb j hj]
    by_cases e : j = b
    · rw [if_pos e, e]; simp
    · rw [if_neg e]; simp [e]
theorem k_put {m : Nat} {wt : Nat → Nat} {h : z_H} (hm : m < 512) (hB : y_BC m wt h) {b : Nat} (hb : b < 9) (yb : Bool) : fh_X0_putWall h (nI b) (if yb = true then nI 1 else nI 0) = z_set h 1 2 (nI (p_wm m b yb)) ∧ y_BC (p_wm m b yb) wt (fh_X0_putWall h (nI b) (if yb = true then nI 1 else nI 0)) := by
  have e : fh_X0_putWall h (nI b) (if yb = true then nI 1 else nI 0) = z_set h 1 2 (nI (p_wm m b yb)) := by
    unfold fh_X0_putWall p_wm
    rw [hB.1]
    cases yb with
    | true =>
      rw [if_neg (show ¬ (if true = true then nI 1 else nI 0 : Int32) = 0 from i1_ne0), if_pos (rfl : true = true), s_bit b (by omega), q_or]
    | false =>
      rw [if_pos (show (if false = true then nI 1 else nI 0 : Int32) = 0 from i0_eq0), if_neg (by decide : ¬ false = true), (s_wm0 m hm b hb).1]
  refine ⟨e, ?_⟩
  rw [e]
  exact ⟨y_sh, fun l hl => by rw [z_set_ne (by decide)]; exact hB.2 l hl⟩
theorem c_oneIn {m : Nat} {wt : Nat → Nat} {s : p_St} {hd f0 : Nat} {h : z_H} (hR : y_RC m wt s hd f0 h) (h40 : s.2.2.length ≤ 40) (hF : ∀ c ∈ s.2.2, c < 36) {b : Nat} (hb : b < 9) : ∀ (j k n : Nat), k + j = s.2.2.length → j < n → (∀ i, i < k → p_blk (s.2.2.getD i 99) ≠ b) → y_W (tk_X3_hasOneIn_2 h n (nI b) (nI k)) (fn_X3_hasOneIn_2 h n (nI b) (nI k)) (fun r => ∃ q : Bool, r = some (.int (if q = true then nI 1 else nI 0)) ∧ (q = true ↔ ∃ i, i < s.2.2.length ∧ p_blk (s.2.2.getD i 99) = b))
  | 0, k, n + 1, hk, hn, hno => by
    have : k = s.2.2.length := by omega
    subst this
    unfold tk_X3_hasOneIn_2 fn_X3_hasOneIn_2
    dsimp only
    rw [hR.2.2.2.2.1]
    exact y_pos (nI_le (Nat.le_refl _) (by omega)) (y_end ⟨false, rfl, fun z => (by cases z), fun ⟨i, h1, h2⟩ => absurd h2 (hno i h1)⟩)
  | j + 1, k, n + 1, hk, hn, hno => by
    have hlt : k < s.2.2.length := by omega
    have hc := hF _ (y_getD_mem hlt)
    obtain ⟨b1, -, b9⟩ := s_blk _ hc
    have f64 := hR.2.2.1
    unfold tk_X3_hasOneIn_2 fn_X3_hasOneIn_2
    dsimp only
    rw [hR.2.2.2.2.1, hR.2.2.2.1, nI_add, y_cl63 (by omega), hR.2.2.2.2.2 k hlt, b1, nI_add]
    refine y_neg (nI_ge hlt (by omega)) ?_
    refine y_eq (p_blk (s.2.2.getD k 99)) b rfl rfl (fun e => y_end ⟨true, rfl, fun _ => ⟨k, hlt, e⟩, fun _ => rfl⟩) (fun e => ?_)
    refine c_oneIn hR h40 hF hb j (k + 1) n (by omega) (by omega) (fun i hi => ?_)
    by_cases z : i = k
    · rw [z]; exact e
    · exact hno i (by omega)
theorem r_sw0 {s : p_St} {h : z_H} (hW : y_WM s h) (h40 : s.2.2.length ≤ 40) (x y a3 : Int32) (P : z_R → Prop) (hfin : y_W ((a3 = 0 → tk_X8_setWall_89 x y (nI 1) h) ∧ (¬ a3 = 0 → tk_X8_setWall_89 x y (nI 2) h)) (if a3 = 0 then fn_X8_setWall_89 x y (nI 1) h else fn_X8_setWall_89 x y (nI 2) h) P) : ∀ (j k n : Nat), k + j = s.2.2.length → j < n → y_W (tk_X8_setWall_29 n x y a3 (nI 0) (nI k) h) (fn_X8_setWall_29 n x y a3 (nI 0) (nI k) h) P
  | 0, k, n + 1, hk, hn => by
    have : k = s.2.2.length := by omega
    subst this
    unfold tk_X8_setWall_29 fn_X8_setWall_29
    dsimp only
    rw [hW.2.2.2.1]
    refine y_pos (nI_le (Nat.le_refl _) (by omega)) ?_
    by_cases e : a3 = 0
    · rw [if_pos e] at hfin
      exact y_pos e ⟨hfin.1.1 e, hfin.2⟩
    · rw [if_neg e] at hfin
      exact y_neg e (y_pos i0_eq0 ⟨hfin.1.2 e, hfin.2⟩)
  | j + 1, k, n + 1, hk, hn => by
    unfold tk_X8_setWall_29 fn_X8_setWall_29 tk_X8_setWall_61 fn_X8_setWall_61 tk_X8_setWall_62 fn_X8_setWall_62
    dsimp only
    rw [hW.2.2.2.1, nI_add]
    exact y_neg (nI_ge (by omega) (by omega)) (y_pos i0_eq0 (r_sw0 hW h40 x y a3 P hfin j (k + 1) n (by omega) (by omega)))
theorem r_sw1 {s : p_St} {h : z_H} (hW : y_WM s h) (h40 : s.2.2.length ≤ 40) (hF : ∀ c ∈ s.2.2, c < 36) {b : Nat} (hb : b < 9) (y : Int32) (P : z_R → Prop) (hno : (∀ i, i < s.2.2.length → p_blk (s.2.2.getD i 99) ≠ b) → y_W (tk_X8_setWall_89 (nI b) y (nI 0) h) (fn_X8_setWall_89 (nI b) y (nI 0) h) P) (hyes : (∃ i, i < s.2.2.length ∧ p_blk (s.2.2.getD i 99) = b) → y_W (tk_X8_setWall_89 (nI b) y (nI 2) h) (fn_X8_setWall_89 (nI b) y (nI 2) h) P) : ∀ (j k n : Nat), k + j = s.2.2.length → j < n → (∀ i, i < k → p_blk (s.2.2.getD i 99) ≠ b) → y_W (tk_X8_setWall_29 n (nI b) y (nI 1) (nI 1) (nI k) h) (fn_X8_setWall_29 n (nI b) y (nI 1) (nI 1) (nI k) h) P
  | 0, k, n + 1, hk, hn, hI => by
    have : k = s.2.2.length := by omega
    subst this
    unfold tk_X8_setWall_29 fn_X8_setWall_29
    dsimp only
    rw [hW.2.2.2.1]
    exact y_pos (nI_le (Nat.le_refl _) (by omega)) (y_neg i1_ne0 (y_neg i1_ne0 (hno hI)))
  | j + 1, k, n + 1, hk, hn, hI => by
    have hlt : k < s.2.2.length := by omega
    have hc := hF _ (y_getD_mem hlt)
    obtain ⟨-, b1, b9⟩ := s_blk _ hc
    unfold tk_X8_setWall_29 fn_X8_setWall_29 tk_X8_setWall_61 fn_X8_setWall_61 tk_X8_setWall_62 fn_X8_setWall_62
    dsimp only
    rw [hW.2.2.2.1, nI_clamp (by omega : k < 2 ^ 31), hW.2.2.2.2 k hlt, b1, nI_add]
    refine y_neg (nI_ge hlt (by omega)) (y_neg i1_ne0 (y_req (vp_in_nI (by omega) (by decide)) ?_))
    refine y_eq (p_blk (s.2.2.getD k 99)) b rfl rfl (fun e => ?_) (fun e => ?_)
    · refine r_sw0 hW h40 (nI b) y (nI 1) P ?_ j (k + 1) n (by omega) (by omega)
      exact y_neg i1_ne0 (hyes ⟨k, hlt, e⟩)
    · refine r_sw1 hW h40 hF hb y P hno hyes j (k + 1) n (by omega) (by omega) (fun i hi => ?_)
      by_cases z : i = k
      · rw [z]; exact e
      · exact hI i (by omega)
theorem B_setWall {n : Nat} {h : z_H} (hG : y_G n h) (x : Int32) (yb : Bool) : y_okB (tk_L_setWall x (if yb = true then nI 1 else nI 0) h) (tk_X8_setWall x (if yb = true then nI 1 else nI 0) (fn_L_setWall x (if yb = true then nI 1 else nI 0) h).2) (fn_L_setWall x (if yb = true then nI 1 else nI 0) h) (fn_X8_setWall x (if yb = true then nI 1 else nI 0) (fn_L_setWall x (if yb = true then nI 1 else nI 0) h).2) n := by
  have hG' := hG
  obtain ⟨m, wt, s, dd, hd, f0, hw, hg, hC, hM⟩ := hG
  have h40 := hg.2.2.1
  have hF36 : ∀ c ∈ s.2.2, c < 36 := fun c hc => (hg.2.2.2.1 c hc).1
  have hth := c_there hC.1.1 (y_wg_len hg)
  have err : (x < 0 ∨ nI 9 ≤ x) → y_okB (tk_L_setWall x (if yb = true then nI 1 else nI 0) h) (tk_X8_setWall x (if yb = true then nI 1 else nI 0) (fn_L_setWall x (if yb = true then nI 1 else nI 0) h).2) (fn_L_setWall x (if yb = true then nI 1 else nI 0) h) (fn_X8_setWall x (if yb = true then nI 1 else nI 0) (fn_L_setWall x (if yb = true then nI 1 else nI 0) h).2) n := by
    intro hx
    have W : y_W (tk_X7_setWall x (if yb = true then nI 1 else nI 0) h) (fn_X7_setWall x (if yb = true then nI 1 else nI 0) h) (fun r => r = .error z_EI) := by
      unfold tk_X7_setWall fn_X7_setWall fn_X7_setWall_10
      rcases hx with hx | hx
      · exact y_pos hx (y_end rfl)
      · exact y_neg (i_hlt (by decide) hx).2 (y_neg (i_hlt (by decide) hx).1 (y_end rfl))
    have hL : fn_L_setWall x (if yb = true then nI 1 else nI 0) h = (some (.int (nI 1)), h) := by
      unfold fn_L_setWall
      rw [W.2]; rfl
    refine y_okBE (k := 1) (by decide) (by decide) W.1 hL ?_ hG'
    rw [hL]
    unfold tk_X8_setWall fn_X8_setWall tk_X8_setWall_23 fn_X8_setWall_23 tk_X8_setWall_24 fn_X8_setWall_24
    rw [r_rngE (n := 8) (by decide) hx]
    refine y_pos rfl (r_sw0 hM.1.2.2.2.1 h40 x _ (nI 0) _ ?_ s.2.2.length 0 2000 (by omega) (by omega))
    unfold tk_X8_setWall_89 fn_X8_setWall_89
    exact y_pos i0_eq0 (gw_ill (by decide) (by decide))
  rcases pk_ix x (n := 9) (by decide) with hx | hx | ⟨b, hb, rfl⟩
  · exact err (Or.inl hx)
  · exact err (Or.inr hx)
  · by_cases hs : 0 < s.1.length
    · -- a worm is there
      have W : y_W (tk_X7_setWall (nI b) (if yb = true then nI 1 else nI 0) h) (fn_X7_setWall (nI b) (if yb = true then nI 1 else nI 0) h) (fun r => r = .error z_ES) := by
        unfold tk_X7_setWall fn_X7_setWall fn_X7_setWall_41
        rw [hth, if_pos hs]
        exact y_neg (nI_pos (by omega)) (y_pos (nI_lt hb (by decide)) (y_neg i1_ne0 (y_end rfl)))
      have hL : fn_L_setWall (nI b) (if yb = true then nI 1 else nI 0) h = (some (.int (nI 2)), h) := by
        unfold fn_L_setWall
        rw [W.2]; rfl
      refine y_okBE (k := 2) (by decide) (by decide) W.1 hL ?_ hG'
      rw [hL]
      unfold tk_X8_setWall fn_X8_setWall tk_X8_setWall_23 fn_X8_setWall_23 tk_X8_setWall_24 fn_X8_setWall_24
      rw [i_in (Nat.zero_le b) (by omega : b ≤ 8) (by decide), hM.1.2.2.2.2, if_pos hs]
      refine y_neg i1_ne0 (y_neg i1_ne0 (r_sw0 hM.1.2.2.2.1 h40 (nI b) _ (nI 1) _ ?_ s.2.2.length 0 2000 (by omega) (by omega)))
      unfold tk_X8_setWall_89 fn_X8_setWall_89
      exact y_neg i1_ne0 (gw_ill (by decide) (by decide))
    · obtain ⟨O1, q, O2, O3⟩ := c_oneIn hC.1.1 h40 hF36 hb s.2.2.length 0 2000 (by omega) (by omega) (fun i hi => absurd hi (Nat.not_lt_zero i))
      have O2' : fn_X3_hasOneIn (nI b) h = some (.int (if q = true then nI 1 else nI 0)) := O2
      have hnil : s.1 = [] := List.eq_nil_of_length_eq_zero (by omega)
      cases q with
      | true =>
        have W : y_W (tk_X7_setWall (nI b) (if yb = true then nI 1 else nI 0) h) (fn_X7_setWall (nI b) (if yb = true then nI 1 else nI 0) h) (fun r => r = .error z_ES) := by
          unfold tk_X7_setWall fn_X7_setWall fn_X7_setWall_41
          rw [hth, if_neg hs, O2']
          exact y_neg (nI_pos (by omega)) (y_pos (nI_lt hb (by decide)) (y_pos i0_eq0 (y_req (show tk_X3_hasOneIn (nI b) h from O1) (y_neg i1_ne0 (y_end rfl)))))
        have hL : fn_L_setWall (nI b) (if yb = true then nI 1 else nI 0) h = (some (.int (nI 2)), h) := by
          unfold fn_L_setWall
          rw [W.2]; rfl
        refine y_okBE (k := 2) (by decide) (by decide) W.1 hL ?_ hG'
        rw [hL]
        unfold tk_X8_setWall fn_X8_setWall tk_X8_setWall_23 fn_X8_setWall_23 tk_X8_setWall_24 fn_X8_setWall_24
        rw [i_in (Nat.zero_le b) (by omega : b ≤ 8) (by decide), hM.1.2.2.2.2, if_neg hs]
        refine y_neg i1_ne0 (y_pos i0_eq0 (r_sw1 hM.1.2.2.2.1 h40 hF36 hb _ _ (fun z => ?_) (fun z => ?_) s.2.2.length 0 2000 (by omega) (by omega) (fun i hi => absurd hi (Nat.not_lt_zero i))))
        · obtain ⟨i, h1, h2⟩ := O3.mp rfl
          exact absurd h2 (z i h1)
        · unfold tk_X8_setWall_89 fn_X8_setWall_89
          exact gw_ill (by decide) (by decide)
      | false =>
        have hnof : ∀ i, i < s.2.2.length → p_blk (s.2.2.getD i 99) ≠ b := fun i h1 h2 => by have := O3.mpr ⟨i, h1, h2⟩; cases this
        obtain ⟨P1, P2⟩ := k_put hw.1 hC.1.1.1 hb yb
        have hw' : y_wf (p_wm m b yb) wt := ⟨p_wm_lt hw.1 hb, hw.2⟩
        obtain ⟨L1, L2, L3, L4, L5⟩ := g_layOut hw' P2
        have hF5 : y_fr [1, 3, 4, 5, 6] h (fn_X2_layOut (fh_X0_putWall h (nI b) (if yb = true then nI 1 else nI 0))).2 := by
          refine y_fr_trans ?_ L5
          rw [P1]
          exact y_fr_set y_fr_refl (by decide)
        have W : y_W (tk_X7_setWall (nI b) (if yb = true then nI 1 else nI 0) h) (fn_X7_setWall (nI b) (if yb = true then nI 1 else nI 0) h) (fun r => r = .ok (some (.int (if m.testBit b = true then nI 1 else nI 0)), (fn_X2_layOut (fh_X0_putWall h (nI b) (if yb = true then nI 1 else nI 0))).2)) := by
          unfold tk_X7_setWall fn_X7_setWall
          rw [hth, if_neg hs, O2', k_wallv hC.1.1.1 hb]
          exact y_neg (nI_pos (by omega)) (y_pos (nI_lt hb (by decide)) (y_pos i0_eq0 (y_req (show tk_X3_hasOneIn (nI b) h from O1) (y_pos i0_eq0 ⟨L1, rfl⟩))))
        have hL : fn_L_setWall (nI b) (if yb = true then nI 1 else nI 0) h = (some (.int (nI 0)), z_setL (fn_X2_layOut (fh_X0_putWall h (nI b) (if yb = true then nI 1 else nI 0))).2 35 ((nI 0).toNatClampNeg) (if m.testBit b = true then nI 1 else nI 0 : Int32).toInt64) := by
          unfold fn_L_setWall
          rw [W.2]
          exact y_bool _ _ _
        have hopen : ∀ c, c ∈ s.2.2 → p_op (p_wm m b yb) c := fun c hc => by
          obtain ⟨c1, c2⟩ := hg.2.2.2.1 c hc
          obtain ⟨i, i1, i2⟩ := y_mem_ix hc
          have : p_blk c ≠ b := by rw [← i2]; exact hnof i i1
          exact ⟨c1, by rw [p_wm_bit hb (s_blk c c1).2.2, if_neg this]; exact c2⟩
        have hg2 : y_wg (p_wm m b yb) s (n + 1) := ⟨hg.1, fun c hc => (by rw [hnil] at hc; cases hc), h40, hopen, (by have := hg.2.2.2.2.1; omega), hg.2.2.2.2.2⟩
        have hC2 : y_GC (p_wm m b yb) wt s dd hd f0 (fn_X2_layOut (fh_X0_putWall h (nI b) (if yb = true then nI 1 else nI 0))).2 := by
          obtain ⟨⟨⟨_, w, f⟩, _, _⟩, c4⟩ := hC
          obtain ⟨w1, w2, w3, w4, w5, w6⟩ := w
          obtain ⟨f1, f2, f3, f4⟩ := f
          refine ⟨⟨⟨L2, ⟨w1, ?_, ?_, ?_, fun i hi => ?_, fun hne c hc => ?_⟩, ⟨f1, ?_, ?_, fun i hi => ?_⟩⟩, L4, L3⟩, ?_⟩
          · rw [y_fr_at hF5 10]; exact w2
          · rw [y_fr_at hF5 10]; exact w3
          · rw [y_fr_at hF5 10]; exact w4
          · rw [y_fr_at hF5 11]; exact w5 i hi
          · rw [y_fr_atL hF5 10]; exact w6 hne c hc
          · rw [y_fr_at hF5 8]; exact f2
          · rw [y_fr_at hF5 8]; exact f3
          · rw [y_fr_at hF5 9]; exact f4 i hi
          · rw [y_fr_at hF5 10]; exact c4
        refine y_okBO W.1 hL hw' hg2 hC2 hM (y_fr_mono hF5 (by decide)) (fun h2 hM2 hC3 e => ?_)
        rw [e]
        unfold tk_X8_setWall fn_X8_setWall tk_X8_setWall_23 fn_X8_setWall_23 tk_X8_setWall_24 fn_X8_setWall_24
        rw [i_in (Nat.zero_le b) (by omega : b ≤ 8) (by decide), hM2.1.2.2.2.2, if_neg hs]
        refine y_neg i1_ne0 (y_pos i0_eq0 (r_sw1 hM2.1.2.2.2.1 h40 hF36 hb _ _ (fun _ => ?_) (fun ⟨i, i1, i2⟩ => absurd i2 (hnof i i1)) s.2.2.length 0 2000 (by omega) (by omega) (fun i hi => absurd hi (Nat.not_lt_zero i))))
        unfold tk_X8_setWall_89 fn_X8_setWall_89
        refine gw_well ?_
        rw [gw_h, nI_clamp (by omega : b < 2 ^ 31), z_set_ne (by decide : 21 ≠ 20), hM2.1.1.1 b hb]
        have hB3 : y_BM (p_wm m b yb) wt (z_set (z_set h2 20 0 (nI 0)) 21 b (if yb = true then nI 1 else nI 0)) := by
          refine ⟨fun b' hb' => ?_, fun l hl => ?_⟩
          · rw [y_sif, z_set_ne (by decide), p_wm_bit hb hb', hM2.1.1.1 b' hb']
            by_cases z : b' = b
            · rw [if_pos z, if_pos z]
            · rw [if_neg z, if_neg z]
          · rw [z_set_ne (by decide), z_set_ne (by decide)]; exact hM2.1.1.2 l hl
        obtain ⟨M1, M2, M3, M4, M5, M6⟩ := r_layCycle hw' hB3
        refine y_req (vp_in_nI hb (by decide)) (y_req (vp_in_nI hb (by decide)) (y_req (by cases yb; exact Or.inl rfl; exact Or.inr rfl) (y_req M1 ⟨by cases m.testBit b; exact Or.inl rfl; exact Or.inr rfl, ?_⟩)))
        have hF6 : y_fr [20, 21, 23, 24, 25, 26] h2 (fn_X8_layCycle (z_set (z_set h2 20 0 (nI 0)) 21 b (if yb = true then nI 1 else nI 0))).2 := y_fr_trans (y_fr_set (y_fr_set y_fr_refl (by decide)) (by decide)) (y_fr_mono M5 (by decide))
        have h20 : ∀ k, k ≠ 7 → k ≠ 0 → (fn_X8_layCycle (z_set (z_set h2 20 0 (nI 0)) 21 b (if yb = true then nI 1 else nI 0))).2.1 20 k = h2.1 20 k := fun k k1 k2 => by
          rw [M6 k k1, z_set_ne (by decide), y_sk k2]
        refine ⟨?_, rfl, ⟨⟨M2, M4, M3, ?_, ?_⟩, ?_⟩, y_fr_mono hF6 (by decide)⟩
        · show (fn_X8_layCycle _).2.1 20 0 = nI 0
          rw [M6 0 (by decide), z_set_ne (by decide), y_sh]
        · obtain ⟨v1, v2, v3, v4, v5⟩ := hM2.1.2.2.2.1
          exact ⟨by rw [h20 12 (by decide) (by decide)]; exact v1, by rw [h20 13 (by decide) (by decide)]; exact v2, fun i hi => by rw [y_fr_at hF6 28]; exact v3 i hi, by rw [h20 8 (by decide) (by decide)]; exact v4, fun i hi => by rw [y_fr_at hF6 27]; exact v5 i hi⟩
        · rw [h20 10 (by decide) (by decide)]; exact hM2.1.2.2.2.2
        · show (fn_X8_layCycle _).2.1 20 11 = _
          rw [h20 11 (by decide) (by decide)]; exact hM2.2
