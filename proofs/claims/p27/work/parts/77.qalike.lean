/-! ===== p27, pure: two objects in one state show the same ===== -/
section QL
variable {m : Nat} {wt : Nat → Nat} {s : p_St} {dd : Bool} {hd f0 hd' f0' : Nat} {h : z_H}
theorem L_113 (hC : y_GC m wt s dd hd f0 h) (hS : y_GC m wt s dd hd' f0' (z_sw h)) : ∀ (j k n : Nat), k + j = 12 → j < n → y_W (tk_L_areAlike_113 h n (nI 1) (nI k)) (fn_L_areAlike_113 h n (nI 1) (nI k)) (fun r => r = some (.int (nI 1)))
  | 0, k, n + 1, hk, hn => by
    have : k = 12 := by omega
    subst this
    unfold tk_L_areAlike_113 fn_L_areAlike_113
    dsimp only
    exact y_pos (nI_le (Nat.le_refl _) (by decide)) ⟨Or.inr rfl, rfl⟩
  | j + 1, k, n + 1, hk, hn => by
    have hlt : k < 12 := by omega
    obtain ⟨t1, t2⟩ := O_isInTree hC hlt
    obtain ⟨u1, u2⟩ := O_isInTree hS hlt
    obtain ⟨w1, w2⟩ := O_isWall hC (c := 3 * k) (by omega)
    obtain ⟨z1, z2⟩ := O_isWall hS (c := 3 * k) (by omega)
    unfold tk_L_areAlike_113 fn_L_areAlike_113
    dsimp only
    rw [pk_mul]
    refine y_neg (nI_ge hlt (by decide)) (y_neg i1_ne0 (y_req t1 (y_req u1 (y_pos (t2.trans u2.symm) (y_req w1 (y_req z1 (y_pos (w2.trans z2.symm) ?_)))))))
    unfold tk_L_areAlike_158 fn_L_areAlike_158
    rw [nI_add]
    exact L_113 hC hS j (k + 1) n (by omega) (by omega)
theorem L_74 (hC : y_GC m wt s dd hd f0 h) (hS : y_GC m wt s dd hd' f0' (z_sw h)) (hl : s.1.length ≤ 36) : ∀ (j k n : Nat), k + j = s.1.length → j < n → y_W (tk_L_areAlike_74 h n (nI 1) (nI k)) (fn_L_areAlike_74 h n (nI 1) (nI k)) (fun r => r = some (.int (nI 1)))
  | 0, k, n + 1, hk, hn => by
    unfold tk_L_areAlike_74 fn_L_areAlike_74
    dsimp only
    rw [O_len hC]
    exact y_pos (nI_le (by omega) (by omega)) (L_113 hC hS 12 0 2000 rfl (by decide))
  | j + 1, k, n + 1, hk, hn => by
    have hlt : k < s.1.length := by omega
    obtain ⟨t1, t2⟩ := O_bodyAt hC hl hlt
    obtain ⟨u1, u2⟩ := O_bodyAt hS hl hlt
    unfold tk_L_areAlike_74 fn_L_areAlike_74
    dsimp only
    rw [O_len hC]
    refine y_neg (nI_ge hlt (by omega)) (y_neg i1_ne0 (y_req t1 (y_req u1 (y_pos (t2.trans u2.symm) ?_))))
    unfold tk_L_areAlike_104 fn_L_areAlike_104
    rw [nI_add]
    exact L_74 hC hS hl j (k + 1) n (by omega) (by omega)
end QL
theorem D_alike {n : Nat} {a : q_A} (hi : q_inv n a) (hn : n ≤ 600) {h : z_H} (hR : q_R a h) (hS : q_R a (z_sw h)) : y_W (tk_L_areAlike h) (fn_L_areAlike h) (fun r => r = some (.int (nI 1))) := by
  obtain ⟨m, wt, s, dd⟩ := a
  obtain ⟨hw, hg, -⟩ := hi
  have hw : y_wf m wt := hw
  have hg : y_wg m s n := hg
  obtain ⟨hd, f0, hC⟩ := hR
  obtain ⟨hd', f0', hS⟩ := hS
  have hC : y_GC m wt s dd hd f0 h := hC
  have hS : y_GC m wt s dd hd' f0' (z_sw h) := hS
  have hl := y_wg_len hg
  obtain ⟨o1, o2⟩ := O_order hw hg hn hC
  obtain ⟨p1, p2⟩ := O_order hw hg hn hS
  unfold tk_L_areAlike fn_L_areAlike
  refine y_pos ((O_alive hC hl).trans (O_alive hS hl).symm) (y_pos ((O_len hC).trans (O_len hS).symm) (y_pos ((O_owed hC).trans (O_owed hS).symm) (y_pos ((O_feeds hC).trans (O_feeds hS).symm) (y_pos ((O_cyc hC).trans (O_cyc hS).symm) (y_req o1 (y_req p1 (y_pos (o2.trans p2.symm) ?_)))))))
  exact L_74 hC hS hl s.1.length 0 2000 (by omega) (by omega)
