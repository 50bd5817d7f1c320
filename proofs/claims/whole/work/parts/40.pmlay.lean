/-! ===== pure: the reference's layCycle ===== -/
/-- the link of two blocks; 99: none -/
def p_lk (a b : Nat) : Nat := (List.range 12).foldl (fun f l => if (p_fb l = a ∧ p_sb l = b) ∨ (p_fb l = b ∧ p_sb l = a) then l else f) 99
theorem r_link_h (h h' : z_H) : ∀ (n : Nat) (a0 a1 a2 a3 : Int32), fn_X8_linkOf_4 h n a0 a1 a2 a3 = fn_X8_linkOf_4 h' n a0 a1 a2 a3
  | 0, _, _, _, _ => rfl
  | n + 1, a0, a1, a2, a3 => by
    have ih := r_link_h h h' n
    unfold fn_X8_linkOf_4
    simp only [fn_X8_linkOf_42, fn_X8_linkOf_26, fn_X8_linkOf_46, fn_X8_linkOf_47, fn_X8_linkOf_59, ih]
theorem r_link_tk (h : z_H) : ∀ (j k : Nat) (n : Nat) (a0 a1 a2 : Int32), k + j = 12 → j < n → tk_X8_linkOf_4 h n a0 a1 a2 (nI k)
  | 0, k, n + 1, a0, a1, a2, hk, hn => by
    have : k = 12 := by omega
    subst this
    unfold tk_X8_linkOf_4
    exact ⟨fun _ => trivial, fun z => absurd (nI_le (Nat.le_refl _) (by decide)) z⟩
  | j + 1, k, n + 1, a0, a1, a2, hk, hn => by
    have ih := fun a2 => r_link_tk h j (k + 1) n a0 a1 a2 (by omega) (by omega)
    unfold tk_X8_linkOf_4
    simp only [tk_X8_linkOf_42, tk_X8_linkOf_26, tk_X8_linkOf_46, tk_X8_linkOf_47, tk_X8_linkOf_59, nI_add]
    refine ⟨fun _ => trivial, fun _ => ⟨fun _ => ⟨fun _ => ⟨fun _ => ih _, fun _ => ih _⟩, fun _ => ⟨fun _ => ⟨fun _ => ⟨fun _ => ih _, fun _ => ih _⟩, fun _ => ⟨fun _ => ih _, fun _ => ih _⟩⟩, fun _ => ⟨fun _ => ih _, fun _ => ih _⟩⟩⟩, fun _ => ⟨fun _ => ⟨fun _ => ⟨fun _ => ih _, fun _ => ih _⟩, fun _ => ⟨fun _ => ih _, fun _ => ih _⟩⟩, fun _ => ⟨fun _ => ih _, fun _ => ih _⟩⟩⟩⟩
theorem s_link0 : ∀ a, a < 9 → ∀ b, b < 9 → z_vi0 (fn_X8_linkOf (nI a) (nI b) (fun _ _ => 0, fun _ _ => 0)) = p_i (p_lk a b) := by decide +kernel
theorem s_lk : ∀ a, a < 9 → ∀ b, b < 9 → p_lk a b < 12 ∨ p_lk a b = 99 := by decide +kernel
theorem r_link (h : z_H) {a b : Nat} (ha : a < 9) (hb : b < 9) : tk_X8_linkOf (nI a) (nI b) h ∧ z_vi0 (fn_X8_linkOf (nI a) (nI b) h) = p_i (p_lk a b) := by
  refine ⟨r_link_tk h 12 0 2000 _ _ _ rfl (by decide), ?_⟩
  rw [← s_link0 a ha b hb]
  unfold fn_X8_linkOf
  rw [r_link_h h (fun _ _ => 0, fun _ _ => 0)]
theorem r_isIn {x : (Nat → Nat) × (Nat → Bool)} {h : z_H} (hT : y_TM x h) (h99 : x.2 99 = false) {a b : Nat} (ha : a < 9) (hb : b < 9) : tk_X8_isIn (nI a) (nI b) h ∧ z_vi0 (fn_X8_isIn (nI a) (nI b) h) = if x.2 (p_lk a b) = true then nI 1 else nI 0 := by
  obtain ⟨l1, l2⟩ := r_link h ha hb
  have W : y_W (tk_X8_isIn (nI a) (nI b) h) (fn_X8_isIn (nI a) (nI b) h) (fun r => z_vi0 r = if x.2 (p_lk a b) = true then nI 1 else nI 0) := by
    unfold tk_X8_isIn fn_X8_isIn
    refine y_req l1 ?_
    rw [l2]
    have hl := s_lk a ha b hb
    by_cases e : p_lk a b = 99
    · rw [if_pos (show p_i (p_lk a b) = (-1) by rw [e]; rfl)]
      refine ⟨⟨fun _ => trivial, fun z => absurd (show p_i (p_lk a b) = (-1) by rw [e]; rfl) z⟩, ?_⟩
      rw [e, h99]; rfl
    · have hl2 : p_lk a b < 12 := hl.resolve_right e
      have hne : ¬ p_i (p_lk a b) = (-1) := fun z => e ((p_i_m1 (by omega)).mp z)
      rw [if_neg hne]
      refine ⟨⟨fun z => absurd z hne, fun _ => by rw [p_i_n e]; exact vp_in_nI hl2 (by decide)⟩, ?_⟩
      rw [p_i_n e, nI_clamp (by omega), hT.2 _ hl2]
      cases x.2 (p_lk a b) with
      | true => rw [if_neg (by decide)]; rfl
      | false => rfl
  exact W
/-- what the next cell rests on, by the corner -/
theorem s_nx0 : ∀ c, c < 36 → p_crn c = 0 → c / 6 % 2 = 0 ∧ c % 2 = 0 ∧ p_cb c 1 = c + 1 ∧ (if p_blk c ≤ 2 then p_lo (p_blk c) 0 = 99 else p_lo (p_blk c) 0 = p_lk (p_blk c) (p_blk c - 3) ∧ p_cb c 0 = c - 6 ∧ 6 ≤ c) := by decide +kernel
theorem s_nx1 : ∀ c, c < 36 → p_crn c = 1 → c / 6 % 2 = 0 ∧ c % 2 = 1 ∧ p_cb c 2 = c + 6 ∧ (if 2 ≤ p_blk c % 3 then p_lo (p_blk c) 1 = 99 else p_lo (p_blk c) 1 = p_lk (p_blk c) (p_blk c + 1) ∧ p_blk c + 1 < 9 ∧ p_cb c 1 = c + 1) := by decide +kernel
theorem s_nx2 : ∀ c, c < 36 → p_crn c = 2 → c / 6 % 2 = 1 ∧ c % 2 = 1 ∧ p_cb c 3 = c - 1 ∧ 1 ≤ c ∧ (if 6 ≤ p_blk c then p_lo (p_blk c) 2 = 99 else p_lo (p_blk c) 2 = p_lk (p_blk c) (p_blk c + 3) ∧ p_cb c 2 = c + 6) := by decide +kernel
theorem s_nx3 : ∀ c, c < 36 → p_crn c = 3 → c / 6 % 2 = 1 ∧ c % 2 = 0 ∧ p_cb c 0 = c - 6 ∧ 6 ≤ c ∧ (if p_blk c % 3 ≤ 0 then p_lo (p_blk c) 3 = 99 else p_lo (p_blk c) 3 = p_lk (p_blk c) (p_blk c - 1) ∧ p_cb c 3 = c - 1 ∧ 1 ≤ p_blk c) := by decide +kernel
theorem i1_ne0 : ¬ nI 1 = 0 := by decide
theorem i0_eq0 : nI 0 = 0 := rfl
theorem r_isv {b : Bool} {v : Int32} (h : v = if b = true then nI 1 else nI 0) {α : Type} {r s q : α} (f : b = false → r = q) (g : b = true → s = q) : (if v = 0 then r else s) = q := by
  subst h
  cases b with
  | true => rw [if_neg (show ¬ (if true = true then nI 1 else nI 0 : Int32) = 0 from i1_ne0)]; exact g rfl
  | false => rw [if_pos (show (if false = true then nI 1 else nI 0 : Int32) = 0 from i0_eq0)]; exact f rfl
theorem r_next {x : (Nat → Nat) × (Nat → Bool)} {h : z_H} (hT : y_TM x h) (h99 : x.2 99 = false) {c : Nat} (hc : c < 36) : y_W (tk_X8_next (nI c) h) (fn_X8_next (nI c) h) (fun r => r = some (.int (nI (p_nx x.2 c)))) := by
  obtain ⟨-, b1, b9⟩ := s_blk _ hc
  have e1 : nI c / nI 6 - nI c / nI 6 / nI 2 * nI 2 = nI (c / 6 % 2) := by rw [pk_div (by omega) (by decide) (by decide), pk_rem (by omega) (by decide) (by decide)]
  have e2 : nI c - nI c / nI 2 * nI 2 = nI (c % 2) := pk_rem (by omega) (by decide) (by decide)
  have e3 : nI (p_blk c) - nI (p_blk c) / nI 3 * nI 3 = nI (p_blk c % 3) := pk_rem (by omega) (by decide) (by decide)
  have hm3 := Nat.mod_lt (p_blk c) (show 0 < 3 by decide)
  have hc4 := (s_crn _ hc).2
  unfold tk_X8_next fn_X8_next
  rw [e1, b1]
  unfold p_nx
  have h4 : p_crn c = 0 ∨ p_crn c = 1 ∨ p_crn c = 2 ∨ p_crn c = 3 := by omega
  unfold tk_X8_next_20 fn_X8_next_20
  rw [e2]
  unfold tk_X8_next_33 fn_X8_next_33 tk_X8_next_71 fn_X8_next_71
  rw [e3]
  rcases h4 with hcr | hcr | hcr | hcr
  · obtain ⟨a1, a2, a5, a6⟩ := s_nx0 c hc hcr
    rw [a1, a2, hcr]
    refine y_neg (by decide) (y_neg (by decide) ?_)
    refine y_pos rfl (y_pos rfl ?_)
    refine y_le (p_blk c) 2 rfl rfl (fun z => y_end ?_) (fun z => ?_)
    · rw [if_pos z] at a6
      rw [a6, h99, if_neg (by decide : ¬ false = true), a5, nI_add]
    · rw [if_neg (by omega)] at a6
      rw [pk_sub (by omega)]
      obtain ⟨i1, i2⟩ := r_isIn hT h99 b9 (show p_blk c - 3 < 9 by omega)
      refine ⟨i1, r_isv i2 (fun b => ?_) (fun b => ?_)⟩
      · rw [a6.1, b, if_neg (by decide : ¬ false = true), a5, nI_add]
      · rw [a6.1, b, if_pos rfl, a6.2.1, pk_sub a6.2.2]
  · obtain ⟨a1, a2, a5, a6⟩ := s_nx1 c hc hcr
    rw [a1, a2, hcr]
    refine y_neg (by decide) (y_pos rfl ?_)
    refine y_pos rfl (y_neg (by decide) ?_)
    refine y_pos rfl ?_
    refine y_le 2 (p_blk c % 3) rfl rfl (fun z => y_end ?_) (fun z => ?_)
    · rw [if_pos z] at a6
      rw [a6, h99, if_neg (by decide : ¬ false = true), a5, nI_add]
    · rw [if_neg (by omega)] at a6
      rw [nI_add]
      obtain ⟨i1, i2⟩ := r_isIn hT h99 b9 a6.2.1
      refine ⟨i1, r_isv i2 (fun b => ?_) (fun b => ?_)⟩
      · rw [a6.1, b, if_neg (by decide : ¬ false = true), a5, nI_add]
      · rw [a6.1, b, if_pos rfl, a6.2.2, nI_add]
  · obtain ⟨a1, a2, a5, a7, a6⟩ := s_nx2 c hc hcr
    rw [a1, a2, hcr]
    refine y_pos rfl (y_pos rfl ?_)
    refine y_neg (by decide) ?_
    refine y_neg (by decide) (y_neg (by decide) ?_)
    refine y_le 6 (p_blk c) rfl rfl (fun z => y_end ?_) (fun z => ?_)
    · rw [if_pos z] at a6
      rw [a6, h99, if_neg (by decide : ¬ false = true), a5, pk_sub a7]
    · rw [if_neg (by omega)] at a6
      rw [nI_add]
      obtain ⟨i1, i2⟩ := r_isIn hT h99 b9 (show p_blk c + 3 < 9 by omega)
      refine ⟨i1, r_isv i2 (fun b => ?_) (fun b => ?_)⟩
      · rw [a6.1, b, if_neg (by decide : ¬ false = true), a5, pk_sub a7]
      · rw [a6.1, b, if_pos rfl, a6.2, nI_add]
  · obtain ⟨a1, a2, a5, a7, a6⟩ := s_nx3 c hc hcr
    rw [a1, a2, hcr]
    refine y_pos rfl (y_neg (by decide) ?_)
    refine y_neg (by decide) ?_
    refine y_neg (by decide) (y_pos rfl ?_)
    refine y_le (p_blk c % 3) 0 rfl rfl (fun z => y_end ?_) (fun z => ?_)
    · rw [if_pos z] at a6
      rw [a6, h99, if_neg (by decide : ¬ false = true), a5, pk_sub a7]
    · rw [if_neg (by omega)] at a6
      rw [pk_sub a6.2.2]
      obtain ⟨i1, i2⟩ := r_isIn hT h99 b9 (show p_blk c - 1 < 9 by omega)
      refine ⟨i1, r_isv i2 (fun b => ?_) (fun b => ?_)⟩
      · rw [a6.1, b, if_neg (by decide : ¬ false = true), a5, pk_sub a7]
      · have : 1 ≤ c := by omega
        rw [a6.1, b, if_pos rfl, a6.2.1, pk_sub this]
/-- the loop of the cells -/
theorem r_lay138 {m : Nat} {wt : Nat → Nat} {h0 : z_H} (hm : m < 512) (hN : 0 < p_N m wt) : ∀ (j k : Nat) (h : z_H) (n : Nat), k + j = p_N m wt → j < n → y_BM m wt h → y_TM (p_gT m wt) h → h.1 20 7 = nI k → (∀ p, p < k → h.1 26 p = nI (p_ord m wt p)) → (∀ c, c < 36 → h.1 25 c = p_i (p_fd (p_ord m wt) k c)) → y_fr [20, 23, 24, 25, 26] h0 h → (∀ b, b ≠ 7 → h.1 20 b = h0.1 20 b) →
    y_W (tk_X8_layCycle_138 n (nI (p_ord m wt k)) h) (fn_X8_layCycle_138 n (nI (p_ord m wt k)) h) (fun r => y_BM m wt r.2 ∧ y_TM (p_gT m wt) r.2 ∧ y_CM m wt r.2 ∧ y_fr [20, 23, 24, 25, 26] h0 r.2 ∧ ∀ b, b ≠ 7 → r.2.1 20 b = h0.1 20 b)
  | 0, k, h, n + 1, hk, hn, hB, hT, hs, h5, h6, hF, h20 => by
    have : k = p_N m wt := by omega
    subst this
    have hN36 := p_N_le (m := m) (wt := wt)
    obtain ⟨y1, y2, y3, y4, y5⟩ := y_cyc hm (p_N_pos hN)
    have hop := (y2 0 y1).1
    unfold tk_X8_layCycle_138 fn_X8_layCycle_138
    dsimp only
    rw [y3, nI_clamp (by omega), h6 _ hop]
    refine y_req (vp_in_nI hop (by decide)) ?_
    have hin := p_fd_in (f := p_ord m wt) (n := p_N m wt) ⟨0, y1, rfl⟩
    refine y_none _ rfl (fun z => ?_) (fun _ => y_end ⟨hB, hT, ⟨hs, h5, h6⟩, hF, h20⟩)
    exfalso
    omega
  | j + 1, k, h, n + 1, hk, hn, hB, hT, hs, h5, h6, hF, h20 => by
    have hlt : k < p_N m wt := by omega
    have hN36 := p_N_le (m := m) (wt := wt)
    obtain ⟨y1, y2, y3, y4, y5⟩ := y_cyc hm (p_N_pos hN)
    have hop := (y2 k hlt).1
    have h99 : p_fd (p_ord m wt) k (p_ord m wt k) = 99 := p_fd_99 (fun q hq => y4 q k hq hlt)
    unfold tk_X8_layCycle_138 fn_X8_layCycle_138
    dsimp only
    have hin := vp_in_nI hop (show 36 < 2 ^ 31 by decide)
    refine y_req hin ?_
    rw [nI_clamp (by omega), h6 _ hop, h99, hs, nI_clamp (by omega)]
    refine y_pos p_i_99 (y_req hin (y_req (vp_in_nI (by omega) (by decide)) ?_))
    have hF2 : y_fr [20, 25, 26] h (z_set (z_set (z_set h 25 (p_ord m wt k) (nI k)) 26 k (nI (p_ord m wt k))) 20 7 (nI k + nI 1)) := y_fr_set (y_fr_set (y_fr_set y_fr_refl (by decide)) (by decide)) (by decide)
    generalize hh : z_set (z_set (z_set h 25 (p_ord m wt k) (nI k)) 26 k (nI (p_ord m wt k))) 20 7 (nI k + nI 1) = h2 at hF2 ⊢
    have hT2 := y_TM_fr hT hF2
    obtain ⟨n1, n2⟩ := r_next hT2 (p_T99 (by decide)) hop
    refine y_req n1 ?_
    rw [n2]
    refine r_lay138 hm hN j (k + 1) h2 n (by omega) (by omega) (y_BM_fr hB hF2) hT2 ?_ (fun p hp => ?_) (fun c hc => ?_) (y_fr_trans hF (y_fr_mono hF2 (by decide))) (fun b hb => ?_)
    · rw [← hh, y_sh, nI_add]
    · rw [← hh, z_set_ne (by decide), y_sif, z_set_ne (by decide)]
      by_cases e : p = k
      · rw [if_pos e, e]
      · rw [if_neg e]; exact h5 p (by omega)
    · rw [← hh, z_set_ne (by decide), z_set_ne (by decide), y_sif, p_fd_s (fun q hq => y4 q k hq hlt)]
      by_cases e : c = p_ord m wt k
      · rw [if_pos e, if_pos e, p_i_n (by omega)]
      · rw [if_neg e, if_neg e]; exact h6 c hc
    · rw [← hh, y_sk hb, z_set_ne (by decide), z_set_ne (by decide)]; exact h20 b hb
def r_Q (m : Nat) (wt : Nat → Nat) (h0 : z_H) (r : z_R) : Prop := y_BM m wt r.2 ∧ y_TM (p_gT m wt) r.2 ∧ y_CM m wt r.2 ∧ y_fr [20, 23, 24, 25, 26] h0 r.2 ∧ ∀ b, b ≠ 7 → r.2.1 20 b = h0.1 20 b
theorem s_ul2 : ∀ b, b < 9 → b / 3 * 2 * 6 + b % 3 * 2 = p_ul b := by decide +kernel
theorem r_lay95 {m : Nat} {wt : Nat → Nat} {h0 : z_H} (hm : m < 512) : ∀ (j k : Nat) (h : z_H) (n : Nat), k + j = 36 → j < n → y_BM m wt h → y_TM (p_gT m wt) h → (∀ c, c < k → h.1 25 c = (-1)) → y_fr [20, 23, 24, 25, 26] h0 h → (∀ b, b ≠ 7 → h.1 20 b = h0.1 20 b) →
    y_W (tk_X8_layCycle_95 n (p_i (p_low m)) (if p_jn m (p_gT m wt).1 = true then nI 1 else nI 0) (nI k) h) (fn_X8_layCycle_95 n (p_i (p_low m)) (if p_jn m (p_gT m wt).1 = true then nI 1 else nI 0) (nI k) h) (r_Q m wt h0)
  | 0, k, h, n + 1, hk, hn, hB, hT, h6, hF, h20 => by
    have : k = 36 := by omega
    subst this
    have hF2 : y_fr [20] h (z_set h 20 7 (nI 0)) := y_fr_set y_fr_refl (by decide)
    have hF3 := y_fr_trans hF (y_fr_mono (os' := [20, 23, 24, 25, 26]) hF2 (by decide))
    have h20' : ∀ b, b ≠ 7 → (z_set h 20 7 (nI 0)).1 20 b = h0.1 20 b := fun b hb => by rw [y_sk hb]; exact h20 b hb
    unfold tk_X8_layCycle_95 fn_X8_layCycle_95
    dsimp only
    refine y_pos (nI_le (Nat.le_refl _) (by decide)) ?_
    cases hj : p_jn m (p_gT m wt).1 with
    | false =>
      have hN : p_N m wt = 0 := by unfold p_N; rw [hj]; rfl
      refine y_pos rfl (y_end ⟨y_BM_fr hB hF2, y_TM_fr hT hF2, ⟨?_, fun p hp => ?_, fun c hc => ?_⟩, hF3, h20'⟩)
      · rw [hN]; exact y_sh
      · rw [hN] at hp; exact absurd hp (Nat.not_lt_zero p)
      · show (z_set h 20 7 (nI 0)).1 25 c = _
        rw [z_set_ne (by decide), h6 c hc, p_plc_N0 hN]; rfl
    | true =>
      obtain ⟨y1, y2, y3, y4, y5⟩ := y_cyc hm hj
      obtain ⟨j1, -⟩ := p_jn_iff.mp hj
      obtain ⟨o1, o2, o3⟩ := (s_low m hm).resolve_left (fun z => j1 z.1)
      refine y_neg i1_ne0 ?_
      have e : p_i (p_low m) / nI 3 * nI 2 * nI 6 + (p_i (p_low m) - p_i (p_low m) / nI 3 * nI 3) * nI 2 = nI (p_ord m wt 0) := by
        rw [p_i_n j1, pk_rem (by omega) (by decide) (by decide), pk_div (by omega) (by decide) (by decide), pk_mul, pk_mul, pk_mul, nI_add, s_ul2 _ o1]
        rfl
      rw [e]
      refine r_lay138 hm y1 (p_N m wt) 0 _ 2000 (by omega) (by have := p_N_le (m := m) (wt := wt); omega) (y_BM_fr hB hF2) (y_TM_fr hT hF2) y_sh (fun p hp => absurd hp (Nat.not_lt_zero p)) (fun c hc => ?_) hF3 h20'
      rw [z_set_ne (by decide), h6 c hc]; rfl
  | j + 1, k, h, n + 1, hk, hn, hB, hT, h6, hF, h20 => by
    have hlt : k < 36 := by omega
    have hF2 : y_fr [25] h (z_set h 25 k (-1)) := y_fr_set y_fr_refl (by decide)
    unfold tk_X8_layCycle_95 fn_X8_layCycle_95
    dsimp only
    refine y_neg (nI_ge hlt (by decide)) ?_
    refine y_req (vp_in_nI hlt (by decide)) ?_
    rw [nI_add, nI_clamp (by omega)]
    refine r_lay95 hm j (k + 1) _ n (by omega) (by omega) (y_BM_fr hB hF2) (y_TM_fr hT hF2) (fun c hc => ?_) (y_fr_set hF (by decide)) (fun b hb => ?_)
    · rw [y_sif]
      by_cases e : c = k
      · rw [if_pos e]
      · rw [if_neg e]; exact h6 c (by omega)
    · rw [z_set_ne (by decide)]; exact h20 b hb
/-- the loop that asks whether all are joined -/
theorem r_lay47 {m : Nat} {wt : Nat → Nat} {h0 h : z_H} (hm : m < 512) (hB : y_BM m wt h) (hT : y_TM (p_gT m wt) h) (hF : y_fr [20, 23, 24, 25, 26] h0 h) (h20 : ∀ b, b ≠ 7 → h.1 20 b = h0.1 20 b) : ∀ (j k : Nat) (ok : Bool) (n : Nat), k + j = 9 → j < n → (ok = true ↔ p_low m ≠ 99 ∧ ∀ b, b < k → m.testBit b = false → (p_gT m wt).1 b = (p_gT m wt).1 (p_low m)) →
    y_W (tk_X8_layCycle_47 n (p_i (p_low m)) (if ok = true then nI 1 else nI 0) (nI k) h) (fn_X8_layCycle_47 n (p_i (p_low m)) (if ok = true then nI 1 else nI 0) (nI k) h) (r_Q m wt h0)
  | 0, k, ok, n + 1, hk, hn, hI => by
    have : k = 9 := by omega
    subst this
    unfold tk_X8_layCycle_47 fn_X8_layCycle_47
    dsimp only
    refine y_pos (nI_le (Nat.le_refl _) (by decide)) ?_
    have : ok = p_jn m (p_gT m wt).1 := by
      have := hI.trans p_jn_iff.symm
      cases ok <;> cases hp : p_jn m (p_gT m wt).1 <;> simp_all
    rw [this]
    exact r_lay95 hm 36 0 h 2000 rfl (by decide) hB hT (fun c hc => absurd hc (Nat.not_lt_zero c)) hF h20
  | j + 1, k, ok, n + 1, hk, hn, hI => by
    have hlt : k < 9 := by omega
    have ih := fun ok' => r_lay47 hm hB hT hF h20 j (k + 1) ok' n (by omega) (by omega)
    have hcl : (nI k).toNatClampNeg = k := nI_clamp (by omega)
    have hin : vp_in (nI k) 9 := vp_in_nI hlt (by decide)
    have hx := (p_KIk m wt 120).2.1
    unfold tk_X8_layCycle_47 fn_X8_layCycle_47
    dsimp only
    refine y_neg (nI_ge hlt (by decide)) ?_
    unfold tk_X8_layCycle_81 fn_X8_layCycle_81 tk_X8_layCycle_85 fn_X8_layCycle_85 tk_X8_layCycle_86 fn_X8_layCycle_86
    rw [hcl, nI_add]
    cases ok with
    | false =>
      refine y_pos rfl (ih false ⟨fun z => absurd z (by decide), fun z => ?_⟩)
      exact hI.mpr ⟨z.1, fun b hb => z.2 b (by omega)⟩
    | true =>
      obtain ⟨l1, l2⟩ := hI.mp rfl
      obtain ⟨o1, o2, o3⟩ := (s_low m hm).resolve_left (fun z => l1 z.1)
      refine y_neg i1_ne0 (y_req hin ?_)
      refine y_if (fun c => ?_) (fun c => ih true ⟨fun _ => ⟨l1, fun b hb hmb => ?_⟩, fun _ => rfl⟩)
      · have c' := (y_BM0 hB hlt).mp c
        rw [p_i_n l1]
        refine y_req hin (y_req (vp_in_nI o1 (by decide)) ?_)
        rw [nI_clamp (by omega), hT.1 k hlt, hT.1 _ o1]
        have i1 : (p_gT m wt).1 k < 9 := hx _ hlt
        have i2 : (p_gT m wt).1 (p_low m) < 9 := hx _ o1
        refine y_eq _ _ rfl rfl (fun e => ?_) (fun e => ?_)
        · rw [← p_i_n l1]
          refine ih true ⟨fun _ => ⟨l1, fun b hb hmb => ?_⟩, fun _ => rfl⟩
          by_cases eb : b = k
          · rw [eb, e]
          · exact l2 b (by omega) hmb
        · rw [← p_i_n l1]
          exact ih false ⟨fun z => absurd z (by decide), fun z => absurd (z.2 k (by omega) c') e⟩
      · by_cases eb : b = k
        · rw [eb] at hmb; exact absurd ((y_BM0 hB hlt).mpr hmb) c
        · exact l2 b (by omega) hmb
theorem y_bi : z_bi (-1) = (-1) := rfl
theorem y_dec (x : Int32) : x + z_bi (-1) = x - nI 1 := by
  have e : (-1 : Int32) = -nI 1 := by decide
  rw [y_bi, e, Int32.sub_eq_add_neg]
/-- the loop that seeks the lowest block, downwards -/
theorem r_lay9 {m : Nat} {wt : Nat → Nat} {h0 h : z_H} (hm : m < 512) (hB : y_BM m wt h) (hT : y_TM (p_gT m wt) h) (hF : y_fr [20, 23, 24, 25, 26] h0 h) (h20 : ∀ b, b ≠ 7 → h.1 20 b = h0.1 20 b) : ∀ (k f : Nat) (n : Nat), k < n → k ≤ 9 → (f = 99 ∧ (∀ b, k ≤ b → b < 9 → m.testBit b = true) ∨ f < 9 ∧ m.testBit f = false ∧ k ≤ f ∧ ∀ b, k ≤ b → b < f → m.testBit b = true) →
    y_W (tk_X8_layCycle_9 n (p_i f) (nI k - nI 1) h) (fn_X8_layCycle_9 n (p_i f) (nI k - nI 1) h) (r_Q m wt h0)
  | 0, f, n + 1, hn, hk, hI => by
    unfold tk_X8_layCycle_9 fn_X8_layCycle_9
    dsimp only
    refine y_pos (by decide) ?_
    have hf : f = p_low m := by
      rcases hI with ⟨z1, z2⟩ | ⟨z1, z2, z3, z4⟩
      · rcases s_low m hm with w | ⟨w1, w2, w3⟩
        · rw [z1, w.1]
        · rw [z2 _ (Nat.zero_le _) w1] at w2; cases w2
      · rcases s_low m hm with w | ⟨w1, w2, w3⟩
        · rw [w.2 _ z1] at z2; cases z2
        · rcases Nat.lt_trichotomy f (p_low m) with u | u | u
          · rw [w3 _ u] at z2; cases z2
          · exact u
          · rw [z4 _ (Nat.zero_le _) u] at w2; cases w2
    subst hf
    have h99 : p_low m < 2 ^ 31 := by rcases s_low m hm with z | z <;> omega
    unfold tk_X8_layCycle_44 fn_X8_layCycle_44
    refine y_none _ rfl (fun e => ?_) (fun e => ?_)
    · exact r_lay47 hm hB hT hF h20 9 0 false 2000 rfl (by decide) ⟨fun z => absurd z (by decide), fun z => absurd e z.1⟩
    · exact r_lay47 hm hB hT hF h20 9 0 true 2000 rfl (by decide) ⟨fun _ => ⟨e, fun b hb => absurd hb (Nat.not_lt_zero b)⟩, fun _ => rfl⟩
  | k + 1, f, n + 1, hn, hk, hI => by
    have hlt : k < 9 := by omega
    unfold tk_X8_layCycle_9 fn_X8_layCycle_9
    dsimp only
    rw [pk_sub (by omega), Nat.add_sub_cancel]
    refine y_neg (nI_pos (by omega)) (y_req (vp_in_nI hlt (by decide)) ?_)
    unfold tk_X8_layCycle_27 fn_X8_layCycle_27
    rw [nI_clamp (by omega), y_dec]
    refine y_if (fun c => ?_) (fun c => ?_)
    · have := r_lay9 hm hB hT hF h20 k k n (by omega) (by omega) (Or.inr ⟨hlt, (y_BM0 hB hlt).mp c, Nat.le_refl _, fun b hb hb2 => by omega⟩)
      rw [p_i_n (by omega)] at this
      exact this
    · have c' : m.testBit k = true := by
        cases e : m.testBit k with
        | true => rfl
        | false => exact absurd ((y_BM0 hB hlt).mpr e) c
      refine r_lay9 hm hB hT hF h20 k f n (by omega) (by omega) ?_
      rcases hI with ⟨z1, z2⟩ | ⟨z1, z2, z3, z4⟩
      · refine Or.inl ⟨z1, fun b hb hb9 => ?_⟩
        by_cases e : b = k
        · rw [e]; exact c'
        · exact z2 b (by omega) hb9
      · refine Or.inr ⟨z1, z2, by omega, fun b hb hb9 => ?_⟩
        by_cases e : b = k
        · rw [e]; exact c'
        · exact z4 b (by omega) hb9
theorem r_layCycle {m : Nat} {wt : Nat → Nat} {h : z_H} (hw : y_wf m wt) (hB : y_BM m wt h) : y_W (tk_X8_layCycle h) (fn_X8_layCycle h) (r_Q m wt h) := by
  obtain ⟨G, G1, G2, G3⟩ := g_mtree hw hB
  unfold tk_X8_layCycle fn_X8_layCycle
  refine y_req G ?_
  exact r_lay9 hw.1 G1 G2 (y_fr_mono G3 (by decide)) (fun b _ => by rw [y_fr_at G3 20]) 9 99 2000 (by decide) (by decide) (Or.inl ⟨rfl, fun b h1 h2 => by omega⟩)
