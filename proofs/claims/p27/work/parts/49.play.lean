/-! ===== pure: the class's layOut ===== -/
def y_CC (m : Nat) (wt : Nat → Nat) (h : z_H) : Prop := h.1 4 4 = nI (p_N m wt) ∧ (∀ p, p < p_N m wt → h.1 5 p = nI (p_ord m wt p)) ∧ ∀ c, c < 36 → h.1 6 c = p_i (p_plc m wt c)
def y_CM (m : Nat) (wt : Nat → Nat) (h : z_H) : Prop := h.1 20 7 = nI (p_N m wt) ∧ (∀ p, p < p_N m wt → h.1 26 p = nI (p_ord m wt p)) ∧ ∀ c, c < 36 → h.1 25 c = p_i (p_plc m wt c)
theorem y_BC_fr {m : Nat} {wt : Nat → Nat} {os : List Nat} {h h' : z_H} (hB : y_BC m wt h) (hF : y_fr os h h') (h1 : 1 ∉ os := by decide) (h2 : 2 ∉ os := by decide) : y_BC m wt h' := ⟨by rw [y_fr_at hF 1 h1]; exact hB.1, fun l hl => by rw [y_fr_at hF 2 h2]; exact hB.2 l hl⟩
theorem y_TC_fr {x : (Nat → Nat) × (Nat → Bool)} {os : List Nat} {h h' : z_H} (hT : y_TC x h) (hF : y_fr os h h') (h1 : 1 ∉ os := by decide) (h3 : 3 ∉ os := by decide) : y_TC x h' := by
  obtain ⟨a, t, b⟩ := hT
  refine ⟨fun b hb => by rw [y_fr_at hF 3 h3]; exact a b hb, t, b.1, by rw [y_fr_at hF 1 h1]; exact b.2.1, b.2.2⟩
theorem y_TM_fr {x : (Nat → Nat) × (Nat → Bool)} {os : List Nat} {h h' : z_H} (hT : y_TM x h) (hF : y_fr os h h') (h1 : 23 ∉ os := by decide) (h3 : 24 ∉ os := by decide) : y_TM x h' := ⟨fun b hb => by rw [y_fr_at hF 24 h3]; exact hT.1 b hb, fun l hl => by rw [y_fr_at hF 23 h1]; exact hT.2 l hl⟩
theorem g_joined {m : Nat} {wt : Nat → Nat} {x : (Nat → Nat) × (Nat → Bool)} {h : z_H} (hm : m < 512) (hB : y_BC m wt h) (hT : y_TC x h) (hx : ∀ b, b < 9 → x.1 b < 9) : ∀ (j k f : Nat) (n : Nat), k + j = 9 → j < n → (f = 99 ∧ (∀ b, b < k → m.testBit b = true) ∨ f ≠ 99 ∧ p_low m < k ∧ f = x.1 (p_low m) ∧ ∀ b, b < k → m.testBit b = false → x.1 b = x.1 (p_low m)) →
    y_W (tk_X0_isJoinedWhole_4 h n (p_i f) (nI k)) (fn_X0_isJoinedWhole_4 h n (p_i f) (nI k)) (fun r => r = some (.int (if p_jn m x.1 = true then nI 1 else nI 0)))
  | 0, k, f, n + 1, hk, hn, hI => by
    have : k = 9 := by omega
    subst this
    unfold tk_X0_isJoinedWhole_4 fn_X0_isJoinedWhole_4
    dsimp only
    rcases hI with ⟨f99, hall⟩ | ⟨f99, hl, hf, hall⟩
    · have hj : ¬ p_jn m x.1 = true := fun z => by
        obtain ⟨j1, -⟩ := p_jn_iff.mp z
        obtain ⟨o1, o2, -⟩ := (s_low m hm).resolve_left (fun z => j1 z.1)
        rw [hall _ o1] at o2
        cases o2
      rw [if_pos (nI_le (Nat.le_refl 9) (by decide)), f99, if_pos p_i_99, if_neg hj]
      exact ⟨⟨fun _ => trivial, fun z => absurd (nI_le (Nat.le_refl 9) (by decide)) z⟩, rfl⟩
    · have hj : p_jn m x.1 = true := p_jn_iff.mpr ⟨by omega, hall⟩
      have h99 : f < 2 ^ 31 := by have := hx _ hl; omega
      rw [if_pos (nI_le (Nat.le_refl 9) (by decide)), if_neg (fun z => f99 ((p_i_m1 h99).mp z)), if_pos hj]
      exact ⟨⟨fun _ => trivial, fun z => absurd (nI_le (Nat.le_refl 9) (by decide)) z⟩, rfl⟩
  | j + 1, k, f, n + 1, hk, hn, hI => by
    have hlt : k < 9 := by omega
    have ih := fun f' => g_joined hm hB hT hx j (k + 1) f' n (by omega) (by omega)
    have hcl : (nI k).toNatClampNeg = k := nI_clamp (by omega)
    have hin : vp_in (nI k) 9 := vp_in_nI hlt (by decide)
    have hxk := hx k hlt
    have hgk : h.1 3 k = p_i (x.1 k) := by rw [p_i_n (by omega)]; exact hT.1 k hlt
    have hlow : m.testBit k = false → (∀ b, b < k → m.testBit b = true) → p_low m = k := by
      intro h1 h2
      rcases s_low m hm with z | ⟨o1, o2, o3⟩
      · rw [z.2 k hlt] at h1; cases h1
      · rcases Nat.lt_trichotomy (p_low m) k with z | z | z
        · rw [h2 _ z] at o2; cases o2
        · exact z
        · rw [o3 _ z] at h1; cases h1
    unfold tk_X0_isJoinedWhole_4 fn_X0_isJoinedWhole_4
    dsimp only
    refine y_neg (nI_ge hlt (by decide)) ?_
    unfold tk_X0_isJoinedWhole_41 fn_X0_isJoinedWhole_41 tk_X0_isJoinedWhole_48 fn_X0_isJoinedWhole_48
    rw [hcl, nI_add, hgk]
    have hf31 : f < 2 ^ 31 := by
      rcases hI with z | z
      · omega
      · have := hx _ (show p_low m < 9 by omega); omega
    refine y_if (fun c => ?_) (fun c => ?_)
    · have c' := (k_wall0 hB hlt).mp c
      refine y_none f rfl (fun e => ?_) (fun e => ?_)
      · refine y_req hin (ih _ (Or.inr ⟨by omega, ?_⟩))
        rcases hI with z | z
        · have := hlow c' z.2
          refine ⟨by omega, by rw [this], fun b hb hb2 => ?_⟩
          by_cases eb : b = k
          · rw [eb, this]
          · rw [z.2 b (by omega)] at hb2; cases hb2
        · exact absurd e z.1
      · rcases hI with z | ⟨z1, z2, z3, z4⟩
        · exact absurd z.1 e
        refine y_req hin ?_
        refine y_if (fun d => ?_) (fun d => ?_)
        · have d' : f = x.1 k := (p_i_eq hf31 (by omega)).mp d
          refine y_req hin (ih _ (Or.inr ⟨by omega, by omega, by rw [← d', z3], fun b hb hb2 => ?_⟩))
          by_cases eb : b = k
          · rw [eb, ← d', z3]
          · exact z4 b (by omega) hb2
        · refine y_end ?_
          rw [if_neg]
          intro hj
          have := (p_jn_iff.mp hj).2 k hlt c'
          exact d (by rw [z3, this])
    · have c' : m.testBit k = true := by
        cases e : m.testBit k with
        | true => rfl
        | false => exact absurd ((k_wall0 hB hlt).mpr e) c
      refine ih _ ?_
      rcases hI with ⟨z1, z2⟩ | ⟨z1, z2, z3, z4⟩
      · refine Or.inl ⟨z1, fun b hb => ?_⟩
        by_cases eb : b = k
        · rw [eb]; exact c'
        · exact z2 b (by omega)
      · refine Or.inr ⟨z1, by omega, z3, fun b hb hb2 => ?_⟩
        by_cases eb : b = k
        · rw [eb, c'] at hb2; cases hb2
        · exact z4 b (by omega) hb2
def p_lowc (m : Nat) : Nat := if p_low m = 99 then 99 else p_ul (p_low m)
theorem g_lowest {m : Nat} {wt : Nat → Nat} {h : z_H} (hm : m < 512) (hB : y_BC m wt h) : ∀ (j k : Nat) (n : Nat), k + j = 9 → j < n → (∀ b, b < k → m.testBit b = true) →
    y_W (tk_X0_lowestOpenCell_2 h n (nI k)) (fn_X0_lowestOpenCell_2 h n (nI k)) (fun r => r = some (.int (p_i (p_lowc m))))
  | 0, k, n + 1, hk, hn, hI => by
    have : k = 9 := by omega
    subst this
    unfold tk_X0_lowestOpenCell_2 fn_X0_lowestOpenCell_2
    dsimp only
    refine y_pos (nI_le (Nat.le_refl 9) (by decide)) (y_end ?_)
    rcases s_low m hm with z | ⟨o1, o2, o3⟩
    · unfold p_lowc; rw [if_pos z.1]; rfl
    · rw [hI _ o1] at o2; cases o2
  | j + 1, k, n + 1, hk, hn, hI => by
    have hlt : k < 9 := by omega
    unfold tk_X0_lowestOpenCell_2 fn_X0_lowestOpenCell_2
    dsimp only
    refine y_neg (nI_ge hlt (by decide)) ?_
    rw [nI_add]
    refine y_if (fun c => y_end ?_) (fun c => g_lowest hm hB j (k + 1) n (by omega) (by omega) (fun b hb => ?_))
    · have c' := (k_wall0 hB hlt).mp c
      obtain ⟨u1, u2, -⟩ := s_ul _ hlt
      rcases s_low m hm with z | ⟨o1, o2, o3⟩
      · rw [z.2 k hlt] at c'; cases c'
      · have : p_low m = k := by
          rcases Nat.lt_trichotomy (p_low m) k with z | z | z
          · rw [hI _ z] at o2; cases o2
          · exact z
          · rw [o3 _ z] at c'; cases c'
        unfold p_lowc
        rw [this, if_neg (by omega), p_i_n (by omega), u1]
    · by_cases eb : b = k
      · rw [eb]
        cases e : m.testBit k with
        | true => rfl
        | false => exact absurd ((k_wall0 hB hlt).mpr e) c
      · exact hI b (by omega)
theorem k_tree {x : (Nat → Nat) × (Nat → Bool)} {h : z_H} (hT : y_TC x h) {l : Nat} (hl : l < 12 ∨ l = 99) (h99 : x.2 99 = false) : fv_X0_treeHas h (p_i l) = if x.2 l = true then nI 1 else nI 0 := by
  unfold fv_X0_treeHas
  rcases hl with hl | hl
  · rw [if_neg (fun z => by have := (p_i_m1 (by omega)).mp z; omega), p_i_n (by omega)]
    obtain ⟨-, t, t1, t2, t3⟩ := hT
    rw [t2, ← t3 l hl]
    by_cases c : (nI t &&& ((nI 1) <<< (nI l &&& 31))) = 0
    · rw [if_pos c, (q_bit hl).mp c]; rfl
    · rw [if_neg c]
      have : t.testBit l = true := by
        cases e : t.testBit l with
        | true => rfl
        | false => exact absurd ((q_bit hl).mpr e) c
      rw [this]; rfl
  · subst hl
    rw [if_pos p_i_99, h99]; rfl
theorem k_next {x : (Nat → Nat) × (Nat → Bool)} {h : z_H} (hT : y_TC x h) (h99 : x.2 99 = false) {c : Nat} (hc : c < 36) : fv_X2_nextRoundTree h (nI c) = p_i (p_nx x.2 c) := by
  unfold fv_X2_nextRoundTree p_nx
  obtain ⟨b1, -, b9⟩ := s_blk _ hc
  obtain ⟨c1, c4⟩ := s_crn _ hc
  obtain ⟨l1, l2⟩ := s_lo _ b9 _ c4
  rw [b1, c1, l1, k_tree hT l2 h99, nI_add, pk_rem (by omega) (by decide) (by decide), (s_cb _ hc _ c4).1, (s_cb _ hc _ (Nat.mod_lt _ (by decide))).1]
  cases x.2 (p_lo (p_blk c) (p_crn c)) with
  | true => rw [if_pos rfl, if_neg (by decide), if_pos rfl]
  | false => rw [if_pos (show (if false = true then nI 1 else nI 0 : Int32) = 0 from rfl), if_neg (by decide : ¬ false = true)]
/-- the cycle's loop: places -/
theorem g_lay66 {m : Nat} {wt : Nat → Nat} {h0 : z_H} (hm : m < 512) : ∀ (j k : Nat) (h : z_H) (n : Nat), k + j = p_N m wt → j < n → y_BC m wt h → y_TC (p_gT m wt) h → h.1 4 4 = nI (p_N m wt) → (∀ p, p < k → h.1 5 p = nI (p_ord m wt p)) → (∀ c, c < 36 → h.1 6 c = p_i (p_fd (p_ord m wt) k c)) → y_fr [1, 3, 4, 5, 6] h0 h →
    ∀ a : Int32, (0 < p_N m wt → a = p_i (p_ord m wt k)) → y_W (tk_X2_layOut_66 n a (nI k) h) (fn_X2_layOut_66 n a (nI k) h) (fun r => y_BC m wt r.2 ∧ y_TC (p_gT m wt) r.2 ∧ y_CC m wt r.2 ∧ y_fr [1, 3, 4, 5, 6] h0 r.2)
  | 0, k, h, n + 1, hk, hn, hB, hT, hs, h5, h6, hF, a, ha => by
    have : k = p_N m wt := by omega
    subst this
    have := p_N_le (m := m) (wt := wt)
    unfold tk_X2_layOut_66 fn_X2_layOut_66
    dsimp only
    rw [hs]
    refine y_pos (nI_le (Nat.le_refl _) (by omega)) (y_end ⟨hB, hT, ⟨hs, h5, h6⟩, hF⟩)
  | j + 1, k, h, n + 1, hk, hn, hB, hT, hs, h5, h6, hF, a, ha => by
    have hlt : k < p_N m wt := by omega
    have hN36 := p_N_le (m := m) (wt := wt)
    obtain ⟨y1, y2, y3, y4, y5⟩ := y_cyc hm (p_N_pos (Nat.lt_of_le_of_lt (Nat.zero_le _) hlt))
    have hop := y2 k hlt
    have ea : a = nI (p_ord m wt k) := by rw [ha (by omega), p_i_n (by have := hop.1; omega)]
    subst ea
    unfold tk_X2_layOut_66 fn_X2_layOut_66
    dsimp only
    rw [hs]
    refine y_neg (nI_ge hlt (by omega)) ?_
    rw [y_putv (by omega : k < 36), y_putv hop.1, nI_add]
    have hF2 : y_fr [5, 6] h (z_set (z_set h 5 k (nI (p_ord m wt k))) 6 (p_ord m wt k) (nI k)) := y_fr_set (y_fr_set y_fr_refl (by decide)) (by decide)
    have hT2 := y_TC_fr hT hF2
    rw [k_next hT2 (p_T99 (by decide)) hop.1]
    refine g_lay66 hm j (k + 1) _ n (by omega) (by omega) (y_BC_fr hB hF2) hT2 ?_ (fun p hp => ?_) (fun c hc => ?_) (y_fr_trans hF (y_fr_mono hF2 (by decide))) _ (fun _ => rfl)
    · rw [y_fr_at hF2 4]; exact hs
    · rw [z_set_ne (by decide), y_sif]
      by_cases e : p = k
      · rw [if_pos e, e]
      · rw [if_neg e]; exact h5 p (by omega)
    · rw [y_sif, z_set_ne (by decide), p_fd_s (fun q hq => y4 q k hq hlt)]
      by_cases e : c = p_ord m wt k
      · rw [if_pos e, if_pos e, p_i_n (by omega)]
      · rw [if_neg e, if_neg e]; exact h6 c hc
theorem g_lay34 {m : Nat} {wt : Nat → Nat} {h0 : z_H} (hm : m < 512) : ∀ (j k : Nat) (h : z_H) (n : Nat), k + j = 36 → j < n → y_BC m wt h → y_TC (p_gT m wt) h → h.1 4 4 = nI (p_N m wt) → (∀ c, c < k → h.1 6 c = (-1)) → y_fr [1, 3, 4, 5, 6] h0 h →
    y_W (tk_X2_layOut_34 n (nI k) h) (fn_X2_layOut_34 n (nI k) h) (fun r => y_BC m wt r.2 ∧ y_TC (p_gT m wt) r.2 ∧ y_CC m wt r.2 ∧ y_fr [1, 3, 4, 5, 6] h0 r.2)
  | 0, k, h, n + 1, hk, hn, hB, hT, hs, h6, hF => by
    have : k = 36 := by omega
    subst this
    have hN36 := p_N_le (m := m) (wt := wt)
    unfold tk_X2_layOut_34 fn_X2_layOut_34
    dsimp only
    refine y_pos (nI_le (Nat.le_refl _) (by decide)) ?_
    have L := g_lowest hm hB 9 0 2000 rfl (by decide) (fun b hb => absurd hb (Nat.not_lt_zero b))
    have L2 : fn_X0_lowestOpenCell h = some (.int (p_i (p_lowc m))) := L.2
    refine y_req (show tk_X0_lowestOpenCell h from L.1) ?_
    rw [L2]
    refine g_lay66 hm (p_N m wt) 0 h 2000 (by omega) (by omega) hB hT hs (fun p hp => absurd hp (Nat.not_lt_zero p)) (fun c hc => ?_) hF _ (fun hN => ?_)
    · rw [h6 c hc]; rfl
    · have j1 := (p_jn_iff.mp (p_N_pos hN)).1
      show p_i (p_lowc m) = p_i (p_ul (p_low m))
      unfold p_lowc
      rw [if_neg j1]
  | j + 1, k, h, n + 1, hk, hn, hB, hT, hs, h6, hF => by
    have hlt : k < 36 := by omega
    unfold tk_X2_layOut_34 fn_X2_layOut_34
    dsimp only
    refine y_neg (nI_ge hlt (by decide)) ?_
    refine y_req (vp_in_nI hlt (by decide)) ?_
    rw [nI_add, nI_clamp (by omega)]
    have hF2 : y_fr [6] h (z_set h 6 k (-1)) := y_fr_set y_fr_refl (by decide)
    refine g_lay34 hm j (k + 1) _ n (by omega) (by omega) (y_BC_fr hB hF2) (y_TC_fr hT hF2) ?_ (fun c hc => ?_) (y_fr_set hF (by decide))
    · rw [y_fr_at hF2 4]; exact hs
    · rw [y_sif]
      by_cases e : c = k
      · rw [if_pos e]
      · rw [if_neg e]; exact h6 c (by omega)
theorem g_layOut {m : Nat} {wt : Nat → Nat} {h : z_H} (hw : y_wf m wt) (hB : y_BC m wt h) : y_W (tk_X2_layOut h) (fn_X2_layOut h) (fun r => y_BC m wt r.2 ∧ y_TC (p_gT m wt) r.2 ∧ y_CC m wt r.2 ∧ y_fr [1, 3, 4, 5, 6] h r.2) := by
  obtain ⟨G, G1, G2, G3⟩ := g_grow hw hB
  have J := g_joined hw.1 G1 G2 (p_KIk m wt 120).2.1 9 0 99 2000 rfl (by decide) (Or.inl ⟨rfl, fun b hb => absurd hb (Nat.not_lt_zero b)⟩)
  have J2 : fn_X0_isJoinedWhole (fn_X0_growTree h).2 = some (.int (if p_jn m (p_gT m wt).1 = true then nI 1 else nI 0)) := J.2
  obtain ⟨s1, s2, s3, s4⟩ := s_pop m hw.1
  unfold tk_X2_layOut fn_X2_layOut
  refine y_req G (y_req (show tk_X0_isJoinedWhole (fn_X0_growTree h).2 from J.1) ?_)
  rw [J2, G1.1, s1, pk_mul, pk_sub (by omega)]
  have fin : ∀ s : Nat, s = p_N m wt → y_W (tk_X2_layOut_29 (nI s) (fn_X0_growTree h).2) (fn_X2_layOut_29 (nI s) (fn_X0_growTree h).2) (fun r => y_BC m wt r.2 ∧ y_TC (p_gT m wt) r.2 ∧ y_CC m wt r.2 ∧ y_fr [1, 3, 4, 5, 6] h r.2) := by
    intro s hs
    subst hs
    unfold tk_X2_layOut_29 fn_X2_layOut_29
    have hF2 : y_fr [4] (fn_X0_growTree h).2 (z_set (fn_X0_growTree h).2 4 4 (nI (p_N m wt))) := y_fr_set y_fr_refl (by decide)
    exact g_lay34 hw.1 36 0 _ 2000 rfl (by decide) (y_BC_fr G1 hF2) (y_TC_fr G2 hF2) y_sh (fun c hc => absurd hc (Nat.not_lt_zero c)) (y_fr_trans (y_fr_mono G3 (by decide)) (y_fr_mono hF2 (by decide)))
  cases hj : p_jn m (p_gT m wt).1 with
  | true =>
    refine y_neg (show ¬ (if true = true then nI 1 else nI 0 : Int32) = 0 by decide) (fin _ ?_)
    unfold p_N
    rw [if_pos hj]
  | false =>
    refine y_pos (show (if false = true then nI 1 else nI 0 : Int32) = 0 by rfl) (fin _ ?_)
    unfold p_N
    rw [hj]; rfl
