/-! ===== pure: the cycle by rings ===== -/
theorem p_nx_join {T : Nat → Bool} {l : Nat} (hl : l < 12) (hT : T l = false) : p_nx (fun k => k == l || T k) (p_ov l) = p_nx T (p_bk l) ∧ p_nx (fun k => k == l || T k) (p_bk l) = p_nx T (p_ov l) ∧ ∀ c, c < 36 → c ≠ p_ov l → c ≠ p_bk l → p_nx (fun k => k == l || T k) c = p_nx T c := by
  obtain ⟨k1, k2, k3, k4, k5, k6⟩ := p_links l hl
  have su := (p_shows l hl _ k3).mpr (Or.inl rfl)
  have sv := (p_shows l hl _ k4).mpr (Or.inr rfl)
  have fu : p_nx T (p_ov l) = p_cb (p_ov l) ((p_crn (p_ov l) + 1) % 4) := by unfold p_nx; rw [su, hT]; rfl
  have fv : p_nx T (p_bk l) = p_cb (p_bk l) ((p_crn (p_bk l) + 1) % 4) := by unfold p_nx; rw [sv, hT]; rfl
  refine ⟨?_, ?_, fun c hc h1 h2 => ?_⟩
  · rw [fv, ← k5]; unfold p_nx; rw [su]; simp
  · rw [fu, ← k6]; unfold p_nx; rw [sv]; simp
  · have hne : ¬ p_lo (p_blk c) (p_crn c) = l := fun e => by
      rcases (p_shows l hl c hc).mp e with h | h
      · exact h1 h
      · exact h2 h
    unfold p_nx
    have : (p_lo (p_blk c) (p_crn c) == l) = false := by simp [hne]
    simp only [this, Bool.false_or]
theorem s_ring0 : ∀ c, c < 36 → ((List.range 4).any (fun i => (c == [p_ul (p_blk c), p_ul (p_blk c) + 1, p_ul (p_blk c) + 6 + 1, p_ul (p_blk c) + 6].getD i 99) && (p_nx (fun _ => false) c == [p_ul (p_blk c) + 1, p_ul (p_blk c) + 6 + 1, p_ul (p_blk c) + 6, p_ul (p_blk c)].getD i 99))) = true := by decide +kernel
theorem s_ring (b : Nat) (_ : b < 9) (c : Nat) (hc : c < 36) (hb : p_blk c = b) : (c = p_ul b ∧ p_nx (fun _ => false) c = p_ul b + 1) ∨ (c = p_ul b + 1 ∧ p_nx (fun _ => false) c = p_ul b + 6 + 1) ∨ (c = p_ul b + 6 + 1 ∧ p_nx (fun _ => false) c = p_ul b + 6) ∨ (c = p_ul b + 6 ∧ p_nx (fun _ => false) c = p_ul b) := by
  have := s_ring0 c hc
  rw [hb] at this
  obtain ⟨i, h1, h2⟩ := List.any_eq_true.mp this
  rw [Bool.and_eq_true, beq_iff_eq, beq_iff_eq] at h2
  have h1 := List.mem_range.mp h1
  match i, h1, h2 with
  | 0, _, h2 => exact Or.inl h2
  | 1, _, h2 => exact Or.inr (Or.inl h2)
  | 2, _, h2 => exact Or.inr (Or.inr (Or.inl h2))
  | 3, _, h2 => exact Or.inr (Or.inr (Or.inr h2))
theorem s_ring2 : ∀ b, b < 9 → p_ul b + 6 + 1 < 36 ∧ p_blk (p_ul b) = b ∧ p_blk (p_ul b + 1) = b ∧ p_blk (p_ul b + 6 + 1) = b ∧ p_blk (p_ul b + 6) = b := by decide +kernel
theorem s_ovbk : ∀ l, l < 12 → (if l < 6 then p_ul (p_fb l) + 1 = p_ov l ∧ p_ul (p_sb l) + 6 = p_bk l else p_ul (p_fb l) + 6 + 1 = p_ov l ∧ p_ul (p_sb l) = p_bk l) ∧ p_ov l ≠ p_bk l := by decide +kernel
theorem c_ring73 {m : Nat} {wt : Nat → Nat} {h : z_H} (hm : m < 512) (h7 : ∀ c, p_op m c → h.1 7 c = nI (p_nx (p_gT m wt).2 c)) {p : Nat} (hp : p < p_N m wt) : ∀ (j k n : Nat), k + j = p → j < n → y_W (tk_X2_cellByRings_73 n (nI p) (nI (p_ord m wt k)) (nI k) h) (fn_X2_cellByRings_73 n (nI p) (nI (p_ord m wt k)) (nI k) h) (fun r => z_vi r = nI (p_ord m wt p) ∧ r.2 = h)
  | 0, k, n + 1, hk, hn => by
    have : k = p := by omega
    subst this
    have hN36 := p_N_le (m := m) (wt := wt)
    unfold tk_X2_cellByRings_73 fn_X2_cellByRings_73
    dsimp only
    exact y_pos (nI_le (Nat.le_refl _) (by omega)) (y_end ⟨rfl, rfl⟩)
  | j + 1, k, n + 1, hk, hn => by
    have hN36 := p_N_le (m := m) (wt := wt)
    have hop := (y_cyc hm (p_N_pos (Nat.lt_of_le_of_lt (Nat.zero_le _) hp))).2.1 k (by omega)
    unfold tk_X2_cellByRings_73 fn_X2_cellByRings_73
    dsimp only
    rw [y_atv hop.1, h7 _ hop, nI_add]
    exact y_neg (nI_ge (by omega) (by omega)) (c_ring73 hm h7 hp j (k + 1) n (by omega) (by omega))
theorem c_ring35 {m : Nat} {wt : Nat → Nat} {h0 : z_H} (hm : m < 512) {p : Nat} (hp : p < p_N m wt) : ∀ (j l : Nat) (h : z_H) (n : Nat), l + j = 12 → j < n → y_BC m wt h → y_TC (p_gT m wt) h → y_fr [7] h0 h → (∀ c, p_op m c → h.1 7 c = nI (p_nx (fun k => decide (k < l) && (p_gT m wt).2 k) c)) → y_W (tk_X2_cellByRings_35 n (nI p) (nI l) h) (fn_X2_cellByRings_35 n (nI p) (nI l) h) (fun r => z_vi r = nI (p_ord m wt p) ∧ y_fr [7] h0 r.2)
  | 0, l, h, n + 1, hl, hn, hB, hT, hf, h7 => by
    have : l = 12 := by omega
    subst this
    have hN36 := p_N_le (m := m) (wt := wt)
    have hN : 0 < p_N m wt := by omega
    obtain ⟨j1, -⟩ := p_jn_iff.mp (p_N_pos hN)
    have eT : (fun k => decide (k < 12) && (p_gT m wt).2 k) = (p_gT m wt).2 := by
      funext k
      by_cases e : k < 12
      · simp [e]
      · rw [p_T99 e, Bool.and_false]
    rw [eT] at h7
    unfold tk_X2_cellByRings_35 fn_X2_cellByRings_35
    dsimp only
    have L := g_lowest hm hB 9 0 2000 rfl (by decide) (fun b hb => absurd hb (Nat.not_lt_zero b))
    have L2 : fn_X0_lowestOpenCell h = some (.int (p_i (p_lowc m))) := L.2
    refine y_pos (nI_le (Nat.le_refl _) (by decide)) (y_req (show tk_X0_lowestOpenCell h from L.1) ?_)
    have e0 : z_vi0 (fn_X0_lowestOpenCell h) = nI (p_ord m wt 0) := by
      rw [L2]
      show p_i (p_lowc m) = nI (p_ul (p_low m))
      have hop := ((y_cyc hm (p_N_pos hN)).2.1 0 hN).1
      unfold p_lowc
      rw [if_neg j1, p_i_n]
      have e1 : p_ord m wt 0 = p_ul (p_low m) := rfl
      omega
    rw [e0]
    exact y_mono (c_ring73 hm h7 hp p 0 2000 (by omega) (by omega)) (fun q => ⟨q.1, by rw [q.2]; exact hf⟩)
  | j + 1, l, h, n + 1, hl, hn, hB, hT, hf, h7 => by
    have hlt : l < 12 := by omega
    have ih := fun h' => c_ring35 (h0 := h0) hm hp j (l + 1) h' n (by omega) (by omega)
    unfold tk_X2_cellByRings_35 fn_X2_cellByRings_35 tk_X2_cellByRings_57 fn_X2_cellByRings_57
    dsimp only
    have ht := k_tree hT (Or.inl hlt) (p_T99 (m := m) (wt := wt) (by decide : ¬ 99 < 12))
    rw [p_i_n (by omega)] at ht
    rw [ht, nI_add]
    refine y_neg (nI_ge hlt (by decide)) ?_
    cases hTl : (p_gT m wt).2 l with
    | false =>
      refine y_pos rfl (ih h hB hT hf (fun c hc => ?_))
      rw [h7 c hc]
      congr 2
      funext k
      by_cases e : k < l
      · have : k < l + 1 := by omega
        simp [e, this]
      · by_cases e2 : k = l
        · rw [e2, hTl, Bool.and_false, Bool.and_false]
        · have : ¬ k < l + 1 := by omega
          simp [e, this]
    | true =>
      refine y_neg i1_ne0 ?_
      obtain ⟨f1, -, f9⟩ := s_fb _ hlt
      obtain ⟨e1, -, s9⟩ := s_sb _ hlt
      obtain ⟨u1, -, -⟩ := s_ul _ f9
      obtain ⟨v1, -, -⟩ := s_ul _ s9
      obtain ⟨k1, k2, k3, k4, -, -⟩ := p_links l hlt
      obtain ⟨ob1, ob2⟩ := s_ovbk l hlt
      obtain ⟨-, -, w1, w2⟩ := (p_KIk m wt 120).2.2.2.2 l hTl
      have oov : p_op m (p_ov l) := ⟨k3, by rw [k1]; exact w1⟩
      have obk : p_op m (p_bk l) := ⟨k4, by rw [k2]; exact w2⟩
      have hmk : fh_X2_makeOneOfTwo h (nI l) = z_set (z_set h 7 (p_ov l) (h.1 7 (p_bk l))) 7 (p_bk l) (h.1 7 (p_ov l)) := by
        unfold fh_X2_makeOneOfTwo
        rw [f1, e1, u1, v1]
        by_cases e : l < 6
        · rw [if_pos e] at ob1
          rw [if_pos (nI_lt e (by decide)), nI_add, nI_add, ob1.1, ob1.2, y_atv k3, y_atv k4, y_putv k3, y_putv k4]
        · rw [if_neg e] at ob1
          rw [if_neg (nI_nlt (by omega) (by omega)), nI_add, nI_add, ob1.1, ob1.2, y_atv k3, y_atv k4, y_putv k3, y_putv k4]
      rw [hmk]
      have hF2 : y_fr [7] h (z_set (z_set h 7 (p_ov l) (h.1 7 (p_bk l))) 7 (p_bk l) (h.1 7 (p_ov l))) := y_fr_set (y_fr_set y_fr_refl (by decide)) (by decide)
      refine ih _ (y_BC_fr hB hF2) (y_TC_fr hT hF2) (y_fr_trans hf hF2) (fun c hc => ?_)
      have eT : (fun k => decide (k < l + 1) && (p_gT m wt).2 k) = (fun k => k == l || (decide (k < l) && (p_gT m wt).2 k)) := by
        funext k
        by_cases e : k = l
        · subst e; simp [hTl]
        · by_cases e2 : k < l
          · have : k < l + 1 := by omega
            simp [e, e2, this]
          · have : ¬ k < l + 1 := by omega
            simp [e, e2, this]
      obtain ⟨J1, J2, J3⟩ := p_nx_join (T := fun k => decide (k < l) && (p_gT m wt).2 k) hlt (by simp)
      rw [eT, y_sif, y_sif]
      by_cases c1 : c = p_bk l
      · rw [if_pos c1, c1, J2, h7 _ oov]
      · rw [if_neg c1]
        by_cases c2 : c = p_ov l
        · rw [if_pos c2, c2, J1, h7 _ obk]
        · rw [if_neg c2, J3 c hc.1 c2 c1, h7 c hc]
theorem c_ring2 {m : Nat} {wt : Nat → Nat} {h0 : z_H} (hm : m < 512) {p : Nat} (hp : p < p_N m wt) : ∀ (j k : Nat) (h : z_H) (n : Nat), k + j = 9 → j < n → y_BC m wt h → y_TC (p_gT m wt) h → y_fr [7] h0 h → (∀ c, p_op m c → p_blk c < k → h.1 7 c = nI (p_nx (fun _ => false) c)) → y_W (tk_X2_cellByRings_2 n (nI p) (nI k) h) (fn_X2_cellByRings_2 n (nI p) (nI k) h) (fun r => z_vi r = nI (p_ord m wt p) ∧ y_fr [7] h0 r.2)
  | 0, k, h, n + 1, hk, hn, hB, hT, hf, h7 => by
    have : k = 9 := by omega
    subst this
    unfold tk_X2_cellByRings_2 fn_X2_cellByRings_2
    dsimp only
    refine y_pos (nI_le (Nat.le_refl _) (by decide)) (c_ring35 hm hp 12 0 h 2000 rfl (by decide) hB hT hf (fun c hc => ?_))
    rw [h7 c hc (s_blk _ hc.1).2.2]
    congr 2
  | j + 1, k, h, n + 1, hk, hn, hB, hT, hf, h7 => by
    have hlt : k < 9 := by omega
    have ih := fun h' => c_ring2 (h0 := h0) hm hp j (k + 1) h' n (by omega) (by omega)
    unfold tk_X2_cellByRings_2 fn_X2_cellByRings_2 tk_X2_cellByRings_27 fn_X2_cellByRings_27
    dsimp only
    obtain ⟨u1, u2, -⟩ := s_ul _ hlt
    obtain ⟨q1, q2, q3, q4, q5⟩ := s_ring2 k hlt
    rw [u1, nI_add, nI_add, nI_add, nI_add, y_putv (by omega), y_putv (by omega), y_putv (by omega), y_putv (by omega)]
    refine y_neg (nI_ge hlt (by decide)) ?_
    refine y_if (fun c => ?_) (fun c => ih h hB hT hf (fun x hx hb => ?_))
    · have hF2 : y_fr [7] h (z_set (z_set (z_set (z_set h 7 (p_ul k) (nI (p_ul k + 1))) 7 (p_ul k + 1) (nI (p_ul k + 6 + 1))) 7 (p_ul k + 6 + 1) (nI (p_ul k + 6))) 7 (p_ul k + 6) (nI (p_ul k))) := y_fr_set (y_fr_set (y_fr_set (y_fr_set y_fr_refl (by decide)) (by decide)) (by decide)) (by decide)
      refine ih _ (y_BC_fr hB hF2) (y_TC_fr hT hF2) (y_fr_trans hf hF2) (fun x hx hb => ?_)
      rw [y_sif, y_sif, y_sif, y_sif]
      by_cases e : p_blk x = k
      · rcases s_ring k hlt x hx.1 e with ⟨a, b⟩ | ⟨a, b⟩ | ⟨a, b⟩ | ⟨a, b⟩
        · rw [b, a, if_neg (by omega), if_neg (by omega), if_neg (by omega), if_pos rfl]
        · rw [b, a, if_neg (by omega), if_neg (by omega), if_pos rfl]
        · rw [b, a, if_neg (by omega), if_pos rfl]
        · rw [b, a, if_pos rfl]
      · rw [if_neg (fun z => e (by rw [z]; exact q5)), if_neg (fun z => e (by rw [z]; exact q4)), if_neg (fun z => e (by rw [z]; exact q3)), if_neg (fun z => e (by rw [z]; exact q2))]
        exact h7 x hx (by omega)
    · refine h7 x hx ?_
      have : p_blk x ≠ k := fun z => by
        apply c
        rw [k_wall0 hB hlt, ← z]
        exact hx.2
      omega
theorem c_rings {m : Nat} {wt : Nat → Nat} {h : z_H} (hm : m < 512) {p : Nat} (hp : p < p_N m wt) (hB : y_BC m wt h) (hT : y_TC (p_gT m wt) h) : y_W (tk_X2_cellByRings (nI p) h) (fn_X2_cellByRings (nI p) h) (fun r => z_vi r = nI (p_ord m wt p) ∧ y_fr [7] h r.2) := by
  unfold tk_X2_cellByRings fn_X2_cellByRings
  exact c_ring2 hm hp 9 0 h 2000 rfl (by decide) hB hT y_fr_refl (fun c _ hb => absurd hb (Nat.not_lt_zero _))
