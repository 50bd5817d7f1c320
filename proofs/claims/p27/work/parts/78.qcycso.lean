/-! ===== p27, pure: the cycle is so ===== -/
theorem q_nx {T : Nat → Bool} {c : Nat} (hc : c < 36) : ∃ d, d < 4 ∧ p_nx T c = p_cb c d := by
  have := (s_crn c hc).2
  unfold p_nx
  by_cases e : T (p_lo (p_blk c) (p_crn c)) = true
  · rw [if_pos e]; exact ⟨_, this, rfl⟩
  · rw [if_neg e]; exact ⟨_, Nat.mod_lt _ (by decide), rfl⟩
/-- a place of the cycle, and that behind it -/
theorem q_ord_bs {m : Nat} {wt : Nat → Nat} (hm : m < 512) {p q : Nat} (hp : p < p_N m wt) (hq : q < p_N m wt) (h : p_ord m wt p = p_ord m wt (q + 1)) : q_bs (nI (p_ord m wt p)) (nI (p_ord m wt q)) = nI 1 := by
  obtain ⟨c1, c2, -⟩ := y_cyc hm (p_N_pos (by omega : 0 < p_N m wt))
  have hc := (c2 q hq).1
  obtain ⟨d, hd, e⟩ := q_nx (T := (p_gT m wt).2) hc
  have e2 : p_ord m wt (q + 1) = p_nx (p_gT m wt).2 (p_ord m wt q) := rfl
  have h36 := (c2 p hp).1
  rw [h, e2, e]
  rw [h, e2, e] at h36
  exact (q_bs_ok _ hc d hd (by omega)).2
section QC
variable {m : Nat} {wt : Nat → Nat} {s : p_St} {dd : Bool} {hd f0 : Nat} {h0 : z_H}
def q_cP (m : Nat) (wt : Nat → Nat) (s : p_St) (dd : Bool) (hd f0 : Nat) (h0 : z_H) (r : z_R) : Prop := z_vi r = nI 1 ∧ y_GC m wt s dd hd f0 r.2 ∧ y_fr y_osC h0 r.2
theorem S_122 (hw : y_wf m wt) (hN : 0 < p_N m wt) : ∀ (j p q : Nat) (h : z_H) (n : Nat), p + j = p_N m wt → j < n → q < p_N m wt → (p < p_N m wt → p_ord m wt p = p_ord m wt (q + 1)) → y_GC m wt s dd hd f0 h → y_fr y_osC h0 h →
    y_W (tk_L_isCycleSo_122 n (nI (p_N m wt)) (nI (q_ct (p_gT m wt).2 12)) (nI (p_ord m wt q)) (nI p) h) (fn_L_isCycleSo_122 n (nI (p_N m wt)) (nI (q_ct (p_gT m wt).2 12)) (nI (p_ord m wt q)) (nI p) h) (q_cP m wt s dd hd f0 h0)
  | 0, p, q, h, n + 1, hp, hn, hq, he, hC, hF => by
    have hN36 := p_N_le (m := m) (wt := wt)
    obtain ⟨t1, t2⟩ := (q_tree (wt := wt) hw.1).1 hN
    have hp0 : p = p_N m wt := by omega
    subst hp0
    unfold tk_L_isCycleSo_122 fn_L_isCycleSo_122
    dsimp only
    refine y_pos (nI_le (Nat.le_refl _) (by omega)) (y_end ?_)
    have e1 : nI (q_ct (p_gT m wt).2 12) = nI (p_N m wt) / nI 4 - nI 1 := by
      rw [pk_div (by omega) (by decide) (by decide), pk_sub (by omega)]
      exact congrArg nI (by omega)
    rw [if_pos e1, O_placeE h (Or.inr (nI_le (Nat.le_refl _) (by decide))), if_pos (show z_vi ((some (Value.int (z_bi (-3))), h) : z_R) = z_bi (-3) from rfl)]
    exact ⟨rfl, hC, hF⟩
  | j + 1, p, q, h, n + 1, hp, hn, hq, he, hC, hF => by
    have hN36 := p_N_le (m := m) (wt := wt)
    have hlt : p < p_N m wt := by omega
    obtain ⟨c1, c2, -⟩ := y_cyc hw.1 (p_N_pos hN)
    obtain ⟨o36, oop⟩ := c2 p hlt
    obtain ⟨a1, a2⟩ := O_cellAt hC hlt
    obtain ⟨r1, r2, r3, r4⟩ := O_rings hw hC hlt
    obtain ⟨w1, w2⟩ := O_isWall r3 o36
    obtain ⟨l1, l2, l3⟩ := O_placeOf r3 hN o36
    rw [p_plc_ord hw.1 hlt, p_i_n (by omega)] at l2
    rw [oop, if_neg (by decide : ¬ false = true)] at w2
    have b := q_beside (h := (fn_L_placeOf_n (nI (p_ord m wt p)) (fn_X7_cellAtByRings_n (nI p) h).2).2) (q_ord_bs hw.1 hlt hq (he hlt))
    unfold tk_L_isCycleSo_122 fn_L_isCycleSo_122
    dsimp only
    rw [a2]
    refine y_neg (nI_ge hlt (by omega)) (y_req a1 (y_req r1 (y_pos r2.symm (y_req w1 (y_pos w2 (y_req l1 (y_pos l2 (y_neg ?_ ?_))))))))
    · rw [b]; exact i1_ne0
    · rw [l3, nI_add]
      exact S_122 hw hN j (p + 1) p _ n (by omega) (by omega) hlt (fun _ => rfl) r3 (y_fr_trans hF r4)
theorem S_36 (hw : y_wf m wt) {h : z_H} (hC : y_GC m wt s dd hd f0 h) : ∀ (j k n : Nat), k + j = 12 → j < n → y_W (tk_L_isCycleSo_36 n (nI (4 * q_ct (q_O m) 9)) (nI (q_ct (p_gT m wt).2 k)) (nI k) h) (fn_L_isCycleSo_36 n (nI (4 * q_ct (q_O m) 9)) (nI (q_ct (p_gT m wt).2 k)) (nI k) h) (q_cP m wt s dd hd f0 h)
  | 0, k, n + 1, hk, hn => by
    have hN36 := p_N_le (m := m) (wt := wt)
    have k12 : k = 12 := by omega
    subst k12
    have hO9 := q_ct_le (q_O m) 9
    have hT12 := q_ct_le (p_gT m wt).2 12
    unfold tk_L_isCycleSo_36 fn_L_isCycleSo_36
    dsimp only
    refine y_pos (nI_le (Nat.le_refl _) (by decide)) ?_
    rw [O_cyc hC]
    by_cases hN : 0 < p_N m wt
    · rw [if_pos hN]
      obtain ⟨t1, t2⟩ := (q_tree (wt := wt) hw.1).1 hN
      rw [← t1, pk_sub (by omega)]
      obtain ⟨a1, a2⟩ := O_cellAt hC (j := p_N m wt - 1) (by omega)
      refine y_neg i1_ne0 (y_req a1 ?_)
      rw [a2]
      refine S_122 (h0 := h) hw hN (p_N m wt) 0 (p_N m wt - 1) h 2000 (by omega) (by omega) (by omega) (fun _ => ?_) hC y_fr_refl
      rw [show p_N m wt - 1 + 1 = p_N m wt by omega]
      exact (y_cyc hw.1 (p_N_pos hN)).2.2.1.symm
    · have hN0 : p_N m wt = 0 := by omega
      rw [if_neg hN]
      refine y_pos i0_eq0 (y_end ?_)
      rw [O_placeN hC hN0 (by decide : 0 < 36)]
      rw [if_pos (show z_vi ((some (Value.int (z_bi (-2))), h) : z_R) = z_bi (-2) from rfl)]
      dsimp only
      rw [O_placeE h (Or.inr (nI_le (Nat.le_refl _) (by decide))), if_pos (show z_vi ((some (Value.int (z_bi (-3))), h) : z_R) = z_bi (-3) from rfl)]
      rcases (q_tree (wt := wt) hw.1).2 hN0 with t | t
      · rw [t, if_pos (show nI (4 * 0) = 0 from rfl)]
        exact ⟨rfl, hC, y_fr_refl⟩
      · have e1 : ¬ nI (4 * q_ct (q_O m) 9) / nI 4 - nI 1 ≤ nI (q_ct (p_gT m wt).2 12) := by
          rw [pk_div (by omega) (by decide) (by decide), pk_sub (by omega), nI_leI (by omega) (by omega)]
          omega
        rw [if_neg (nI_ne0 (by omega) (by omega)), if_neg e1]
        exact ⟨rfl, hC, y_fr_refl⟩
  | j + 1, k, n + 1, hk, hn => by
    have hlt : k < 12 := by omega
    obtain ⟨t1, t2⟩ := O_isInTree hC hlt
    unfold tk_L_isCycleSo_36 fn_L_isCycleSo_36
    dsimp only
    rw [t2]
    refine y_neg (nI_ge hlt (by decide)) (y_req t1 ?_)
    have IH := S_36 hw hC j (k + 1) n (by omega) (by omega)
    unfold tk_L_isCycleSo_56 fn_L_isCycleSo_56
    cases e : (p_gT m wt).2 k with
    | false =>
      have e1 : q_ct (p_gT m wt).2 (k + 1) = q_ct (p_gT m wt).2 k + 0 := by
        show q_ct (p_gT m wt).2 k + (if (p_gT m wt).2 k = true then 1 else 0) = _
        rw [e, if_neg (by decide)]
      rw [e1] at IH
      refine y_pos (show (if false = true then nI 1 else nI 0 : Int32) = 0 from rfl) ?_
      rw [nI_add, nI_add]
      exact IH
    | true =>
      have e1 : q_ct (p_gT m wt).2 (k + 1) = q_ct (p_gT m wt).2 k + 1 := by
        show q_ct (p_gT m wt).2 k + (if (p_gT m wt).2 k = true then 1 else 0) = _
        rw [e, if_pos rfl]
      rw [e1] at IH
      refine y_neg (show ¬ (if true = true then nI 1 else nI 0 : Int32) = 0 from i1_ne0) ?_
      rw [nI_add, nI_add]
      exact IH
theorem S_6 (hw : y_wf m wt) {h : z_H} (hC : y_GC m wt s dd hd f0 h) : ∀ (j k n : Nat), k + j = 36 → j < n → y_W (tk_L_isCycleSo_6 n (nI (q_ct (fun c => !m.testBit (p_blk c)) k)) (nI 0) (nI k) h) (fn_L_isCycleSo_6 n (nI (q_ct (fun c => !m.testBit (p_blk c)) k)) (nI 0) (nI k) h) (q_cP m wt s dd hd f0 h)
  | 0, k, n + 1, hk, hn => by
    have k36 : k = 36 := by omega
    subst k36
    unfold tk_L_isCycleSo_6 fn_L_isCycleSo_6
    dsimp only
    rw [(s_open m hw.1).2]
    exact y_pos (nI_le (Nat.le_refl _) (by decide)) (S_36 hw hC 12 0 2000 rfl (by decide))
  | j + 1, k, n + 1, hk, hn => by
    have hlt : k < 36 := by omega
    obtain ⟨w1, w2⟩ := O_isWall hC hlt
    unfold tk_L_isCycleSo_6 fn_L_isCycleSo_6
    dsimp only
    rw [w2]
    refine y_neg (nI_ge hlt (by decide)) (y_req w1 ?_)
    have IH := S_6 hw hC j (k + 1) n (by omega) (by omega)
    unfold tk_L_isCycleSo_26 fn_L_isCycleSo_26
    cases e : m.testBit (p_blk k) with
    | false =>
      have e1 : q_ct (fun c => !m.testBit (p_blk c)) (k + 1) = q_ct (fun c => !m.testBit (p_blk c)) k + 1 := by
        show q_ct (fun c => !m.testBit (p_blk c)) k + (if (!m.testBit (p_blk k)) = true then 1 else 0) = _
        rw [e, if_pos (show (!false) = true from rfl)]
      rw [e1] at IH
      refine y_pos (show (if false = true then nI 1 else nI 0 : Int32) = 0 from rfl) ?_
      rw [nI_add, nI_add]
      exact IH
    | true =>
      have e1 : q_ct (fun c => !m.testBit (p_blk c)) (k + 1) = q_ct (fun c => !m.testBit (p_blk c)) k + 0 := by
        show q_ct (fun c => !m.testBit (p_blk c)) k + (if (!m.testBit (p_blk k)) = true then 1 else 0) = _
        rw [e, if_neg (by decide)]
      rw [e1] at IH
      refine y_neg (show ¬ (if true = true then nI 1 else nI 0 : Int32) = 0 from i1_ne0) ?_
      rw [nI_add, nI_add]
      exact IH
end QC
theorem D_cyc {n : Nat} {a : q_A} (hi : q_inv n a) {h : z_H} (hR : q_R a h) : y_W (tk_L_isCycleSo h) (fn_L_isCycleSo h) (fun r => z_vi r = nI 1 ∧ q_R a r.2 ∧ y_fr y_osC h r.2) := by
  obtain ⟨m, wt, s, dd⟩ := a
  obtain ⟨hw, hg, -⟩ := hi
  obtain ⟨hd, f0, hC⟩ := hR
  obtain ⟨t, r1, r2, r3⟩ := S_6 (m := m) (wt := wt) (s := s) (dd := dd) hw hC 36 0 2000 rfl (by decide)
  exact ⟨t, r1, ⟨hd, f0, r2⟩, r3⟩
