/-! ===== pure: the reference's dig for a feed ===== -/
theorem r_digE {m : Nat} {wt : Nat → Nat} {s0 : p_St} (hw : y_wf m wt) (ws0 : y_ws m s0) {M : Nat} (hM : M ≤ 6) (hM1 : 1 ≤ M) : ∀ (r j k : Nat) (st : p_St) (ta : Nat) (h : z_H) (n : Nat) (P : z_R → Prop), k + (r + 1) = M → j ≤ 4 → y_ws m st → r_Dg m wt s0 h → r_Cf s0 st k ta 0 h → h.1 33 k = nI (4 - j) → j * (1 + c_N r) + 1 ≤ n → p_E m wt r st = false →
    (p_Ef (fun d => p_can m wt st d && (p_eats m wt st d || p_E m wt r (p_adv m wt st d))) j false = true → ∀ h', r_fz s0.1.length k h h' → P (some (.int (nI M)), h')) →
    (p_Ef (fun d => p_can m wt st d && (p_eats m wt st d || p_E m wt r (p_adv m wt st d))) j false = false → ∀ h' n', r_fz s0.1.length k h h' → n ≤ n' + (j * (1 + c_N r) + 1) → y_W (tk_X8_dig_71 n' (nI M) (nI 1) (nI k - nI 1) (nI 0) h') (fn_X8_dig_71 n' (nI M) (nI 1) (nI k - nI 1) (nI 0) h') P) →
    y_W (tk_X8_dig_71 n (nI M) (nI 1) (nI k) (nI 0) h) (fn_X8_dig_71 n (nI M) (nI 1) (nI k) (nI 0) h) P
  | r, 0, k, st, ta, h, n, P, hk, hj, ws, hD, hC, h33, hn, hE0, hE, hP => by
    cases n with
    | zero => omega
    | succ n =>
      unfold tk_X8_dig_71 fn_X8_dig_71
      dsimp only
      rw [nI_clamp (by omega : k < 2 ^ 31), h33]
      refine y_neg (nI_pos (by omega)) (y_neg (nI_ge (by omega) (by omega)) (y_req (vp_in_nI (by omega) (by decide)) (y_pos rfl ?_)))
      unfold tk_X8_dig_96 fn_X8_dig_96
      rw [y_dec]
      exact hP rfl h n r_fz_refl (by omega)
  | r, j + 1, k, st, ta, h, n, P, hk, hj, ws, hD, hC, h33, hn, hE0, hE, hP => by
    cases n with
    | zero => omega
    | succ n =>
      have hl := y_ws_len ws0
      have hd4 : 3 - j < 4 := by omega
      have h33' : h.1 33 k = nI (3 - j) := by rw [h33]; congr 1; omega
      have e33 : 3 - j + 1 = 4 - j := by omega
      have hmul : (j + 1) * (1 + c_N r) = j * (1 + c_N r) + (1 + c_N r) := Nat.succ_mul _ _
      have eqs : p_Ef (fun d => p_can m wt st d && (p_eats m wt st d || p_E m wt r (p_adv m wt st d))) (j + 1) false = p_Ef (fun d => p_can m wt st d && (p_eats m wt st d || p_E m wt r (p_adv m wt st d))) j (false || (p_can m wt st (3 - j) && (p_eats m wt st (3 - j) || p_E m wt r (p_adv m wt st (3 - j))))) := rfl
      rw [eqs, Bool.false_or] at hE hP
      have next : ∀ h' n', r_fz s0.1.length k h h' → h'.1 33 k = nI (3 - j + 1) → n + 1 ≤ n' + (1 + c_N r) → (p_can m wt st (3 - j) && (p_eats m wt st (3 - j) || p_E m wt r (p_adv m wt st (3 - j)))) = false → y_W (tk_X8_dig_71 n' (nI M) (nI 1) (nI k) (nI 0) h') (fn_X8_dig_71 n' (nI M) (nI 1) (nI k) (nI 0) h') P := by
        intro h' n' q3 q4 q5 q6
        rw [q6] at hE hP
        refine r_digE hw ws0 hM hM1 r j k st ta h' n' P hk (by omega) ws (r_Dg_fz hD q3) (r_Cf_fz hC hl.1 q3) (by rw [q4, e33]) (by omega) hE0 (fun w h2 g => hE w h2 (r_fz_trans q3 g)) (fun w h2 n2 g g2 => hP w h2 n2 (r_fz_trans q3 g) (by omega))
      have S := r_step hw ws0 ws (k := k) (ta := ta) (ea := 0) (M := M) (z := 0) (d := 3 - j) hM (by omega) (by omega) hd4 true hD hC h33' n P (fun hc h' f1 f2 => next h' n f1 f2 (by omega) (by rw [hc]; rfl)) (fun hc h' fd f1 f2 f3 f4 f5 => ?_)
      · exact S
      · have ws' := y_ws_adv hd4 ws hc
        rw [hc, Bool.true_and] at hE hP
        unfold tk_X8_dig_175 fn_X8_dig_175 tk_X8_dig_192 fn_X8_dig_192 tk_X8_dig_194 fn_X8_dig_194 tk_X8_dig_207 fn_X8_dig_207
        cases he : p_eats m wt st (3 - j) with
        | true =>
          have hr0 : r = 0 := by
            cases r with
            | zero => rfl
            | succ r =>
              have := (p_E_s (k := r)).mpr ⟨3 - j, hd4, hc, Or.inl he⟩
              rw [hE0] at this; cases this
          have hkM : k + 1 = M := by omega
          have hfd : fd = true := f5.mpr (Or.inr (by rw [he, if_pos rfl]; exact Nat.succ_pos 0))
          rw [hfd]
          rw [he, Bool.true_or, p_Ef_true] at hE
          refine y_neg i1_ne0 (y_neg (nI_nle (Nat.succ_pos k) (by omega)) (y_neg i1_ne0 (y_neg i1_ne0 (y_end ?_))))
          rw [hkM]
          exact hE rfl h' f1
        | false =>
          have hfd : fd = false := by
            cases fd with
            | false => rfl
            | true =>
              have := f5.mp rfl
              rw [he, if_neg (by decide)] at this
              rcases this with w | w
              · cases w
              · omega
          rw [hfd]
          rw [he, if_neg (by decide : ¬ false = true)] at f4
          rw [he, Bool.false_or] at hE hP
          refine y_pos rfl (y_neg i1_ne0 (y_pos rfl ?_))
          cases r with
          | zero =>
            -- a leaf: it pops at once
            have n2 : 2 ≤ n := by
              have : c_N 0 = 1 := rfl
              omega
            have hkM : k + 1 = M := by omega
            cases n with
            | zero => omega
            | succ n =>
              unfold tk_X8_dig_71 fn_X8_dig_71
              dsimp only
              rw [nI_clamp (by omega : k + 1 < 2 ^ 31), f3]
              refine y_neg (nI_pos (by omega)) (y_neg (nI_ge (by omega) (by omega)) (y_req (vp_in_nI (by omega) (by decide)) (y_neg (by decide) (y_pos (by rw [hkM]) ?_))))
              unfold tk_X8_dig_96 fn_X8_dig_96
              rw [y_dec, pk_sub (by omega), Nat.add_sub_cancel]
              have e0 : c_N 0 = 1 := rfl
              exact next h' n f1 f2 (by omega) (by rw [he, hc]; rfl)
          | succ r =>
            have eN : c_N (r + 1) = 4 * (1 + c_N r) + 1 := rfl
            have hE0' : p_E m wt r (p_adv m wt st (3 - j)) = false := by
              cases q : p_E m wt r (p_adv m wt st (3 - j)) with
              | false => rfl
              | true =>
                have := (p_E_s (k := r)).mpr ⟨3 - j, hd4, hc, Or.inr q⟩
                rw [hE0] at this; cases this
            refine r_digE hw ws0 hM hM1 r 4 (k + 1) (p_adv m wt st (3 - j)) _ h' n P (by omega) (Nat.le_refl 4) ws' (r_Dg_fz hD f1) f4 (by rw [f3]) (by omega) hE0' (fun w h2 g => ?_) (fun w h2 n2 g g2 => ?_)
            · have w' : p_E m wt (r + 1) (p_adv m wt st (3 - j)) = true := w
              rw [w', p_Ef_true] at hE
              exact hE rfl h2 (r_fz_trans f1 (r_fz_up g))
            · have w' : p_E m wt (r + 1) (p_adv m wt st (3 - j)) = false := w
              rw [pk_sub (by omega), Nat.add_sub_cancel]
              exact next h2 n2 (r_fz_trans f1 (r_fz_up g)) (by rw [g.2.2.1 k (by omega), f2]) (by omega) (by rw [hc, he, w']; rfl)
  termination_by r j => (r, j)
/-- the trail is laid, tail first -/
theorem r_dig2 {m : Nat} {wt : Nat → Nat} {s : p_St} {h0 : z_H} (ws : y_ws m s) (hK : y_KM m wt s h0) (x y : Int32) (P : z_R → Prop)
    (hk : ∀ h, r_Dg m wt s h → r_Cf s s 0 0 0 h → h.1 33 0 = nI 0 → y_fr [29, 30, 31, 32, 33] h0 h → y_W (tk_X8_dig_71 200000 x y (nI 0) (nI 0) h) (fn_X8_dig_71 200000 x y (nI 0) (nI 0) h) P) : ∀ (j k : Nat) (h : z_H) (n : Nat), k + j = s.1.length → j < n → (∀ i, i < k → h.1 29 i = nI (s.1.getD (s.1.length - 1 - i) 99)) → y_fr [29, 30, 31, 32, 33] h0 h →
      y_W (tk_X8_dig_2 n x y (nI k) h) (fn_X8_dig_2 n x y (nI k) h) P
  | 0, k, h, n + 1, hkj, hn, h29, hf => by
    have hl := y_ws_len ws
    have : k = s.1.length := by omega
    subst this
    obtain ⟨w1, w2, w3, w4, w5⟩ := hK.2.2.2.1
    unfold tk_X8_dig_2 fn_X8_dig_2
    dsimp only
    rw [nI_c0, y_fr_at hf 20, w1, w2]
    refine y_pos (nI_le (Nat.le_refl _) (by omega)) ?_
    have hF2 : y_fr [29, 30, 31, 32, 33] h0 (z_set (z_set (z_set (z_set h 30 0 (nI 0)) 31 0 (nI s.2.1)) 32 0 (nI 0)) 33 0 (nI 0)) := y_fr_set (y_fr_set (y_fr_set (y_fr_set hf (by decide)) (by decide)) (by decide)) (by decide)
    refine hk _ ⟨y_BM_fr hK.1 hF2, by rw [y_fr_at hF2 20]; exact w1, by rw [y_fr_at hF2 20]; exact w4, fun i hi => by rw [y_fr_at hF2 27]; exact w5 i hi⟩ ⟨?_, ?_, ?_, fun i hi => ?_, by omega, rfl, Nat.zero_le _⟩ y_sh hF2
    · rw [z_set_ne (by decide), z_set_ne (by decide), z_set_ne (by decide), y_sh]
    · rw [z_set_ne (by decide), z_set_ne (by decide), y_sh]
    · rw [z_set_ne (by decide), y_sh]
    · rw [z_set_ne (by decide), z_set_ne (by decide), z_set_ne (by decide), z_set_ne (by decide), h29 _ (by omega)]
      congr 2
      omega
  | j + 1, k, h, n + 1, hkj, hn, h29, hf => by
    have hl := y_ws_len ws
    obtain ⟨w1, w2, w3, w4, w5⟩ := hK.2.2.2.1
    unfold tk_X8_dig_2 fn_X8_dig_2
    dsimp only
    rw [y_fr_at hf 20, w1, pk_sub (by omega), pk_sub (by omega), nI_clamp (by omega : k < 2 ^ 31), nI_clamp (by omega : s.1.length - 1 - k < 2 ^ 31), y_fr_at hf 28, w3 _ (by omega), nI_add]
    refine y_neg (nI_ge (by omega) (by omega)) (y_req (vp_in_nI (by omega) (by decide)) (y_req (vp_in_nI (by omega) (by decide)) ?_))
    refine r_dig2 ws hK x y P hk j (k + 1) _ n (by omega) (by omega) (fun i hi => ?_) (y_fr_set hf (by decide))
    rw [y_sif]
    by_cases e : i = k
    · rw [if_pos e, e]
    · rw [if_neg e]; exact h29 i (by omega)
theorem c_N_le : ∀ r, r ≤ 5 → 4 * (1 + c_N r) + 1 ≤ 11000 := by decide +kernel
theorem r_long {m : Nat} {wt : Nat → Nat} {s : p_St} {h : z_H} (hw : y_wf m wt) (ws : y_ws m s) (hK : y_KM m wt s h) {M : Nat} (hM1 : 1 ≤ M) (hM : M ≤ 6) : y_W (tk_X8_dig (nI M) (nI 0) h) (fn_X8_dig (nI M) (nI 0) h) (fun r => z_vi r = nI (p_D m wt M s) ∧ y_fr [29, 30, 31, 32, 33] h r.2) := by
  have hl := y_ws_len ws
  unfold tk_X8_dig fn_X8_dig
  refine r_dig2 ws hK _ _ _ (fun h1 hD hC h33 hf => ?_) s.1.length 0 h 200000 (by omega) (by omega) (fun i hi => absurd hi (Nat.not_lt_zero i)) y_fr_refl
  obtain ⟨r, hr⟩ : ∃ r, M = r + 1 := ⟨M - 1, by omega⟩
  have e4 := p_Dk4 (m := m) (wt := wt) (k := 0) (r := r) (z := 0) (st := s) (Nat.le_refl 0)
  have e5 : max 0 (0 + p_D m wt (r + 1) s) = p_D m wt M s := by rw [hr, Nat.zero_add, Nat.max_eq_right (Nat.zero_le _)]
  rw [e5] at e4
  have hcn := c_N_le r (by omega)
  refine r_digL hw ws hM r 4 0 s 0 0 0 h1 200000 _ (by omega) (Nat.le_refl 4) (Nat.le_refl 0) (by omega) ws hD hC (by rw [h33]) (by omega) (fun w h2 g => ?_) (fun w h2 n2 g g2 => ?_)
  · rw [e4] at w
    exact ⟨by rw [w]; rfl, y_fr_trans hf g.2.2.2⟩
  · rw [e4]
    cases n2 with
    | zero => omega
    | succ n2 =>
      unfold tk_X8_dig_71 fn_X8_dig_71 tk_X8_dig_210 fn_X8_dig_210
      dsimp only
      refine y_pos (by decide) ⟨trivial, ?_⟩
      rw [if_pos i0_eq0]
      exact ⟨rfl, y_fr_trans hf g.2.2.2⟩
theorem r_eat {m : Nat} {wt : Nat → Nat} {s : p_St} {h : z_H} (hw : y_wf m wt) (ws : y_ws m s) (hK : y_KM m wt s h) {r : Nat} (hr : r ≤ 5) (hE : p_E m wt r s = false) : y_W (tk_X8_dig (nI (r + 1)) (nI 1) h) (fn_X8_dig (nI (r + 1)) (nI 1) h) (fun q => z_vi q = (if p_E m wt (r + 1) s = true then nI (r + 1) else (-1)) ∧ y_fr [29, 30, 31, 32, 33] h q.2) := by
  have hl := y_ws_len ws
  unfold tk_X8_dig fn_X8_dig
  refine r_dig2 ws hK _ _ _ (fun h1 hD hC h33 hf => ?_) s.1.length 0 h 200000 (by omega) (by omega) (fun i hi => absurd hi (Nat.not_lt_zero i)) y_fr_refl
  have hcn := c_N_le r hr
  refine r_digE hw ws (by omega) (by omega) r 4 0 s 0 h1 200000 _ (by omega) (Nat.le_refl 4) ws hD hC (by rw [h33]) (by omega) hE (fun w h2 g => ?_) (fun w h2 n2 g g2 => ?_)
  · have w' : p_E m wt (r + 1) s = true := w
    rw [w', if_pos rfl]
    exact ⟨rfl, y_fr_trans hf g.2.2.2⟩
  · have w' : p_E m wt (r + 1) s = false := w
    rw [w', if_neg (by decide : ¬ false = true)]
    cases n2 with
    | zero => omega
    | succ n2 =>
      unfold tk_X8_dig_71 fn_X8_dig_71 tk_X8_dig_210 fn_X8_dig_210
      dsimp only
      refine y_pos (by decide) ⟨trivial, ?_⟩
      rw [if_neg i1_ne0]
      exact ⟨rfl, y_fr_trans hf g.2.2.2⟩
theorem y_KM_fr {m : Nat} {wt : Nat → Nat} {s : p_St} {os : List Nat} {h h' : z_H} (hK : y_KM m wt s h) (hf : y_fr os h h') (ho : ∀ a ∈ [20, 21, 22, 23, 24, 25, 26, 27, 28], a ∉ os) : y_KM m wt s h' := by
  obtain ⟨⟨k1, k2⟩, ⟨k3, k4, k5⟩, ⟨k6, k7⟩, ⟨w1, w2, w3, w4, w5⟩, k8⟩ := hK
  have o := fun a (ha : a ∈ [20, 21, 22, 23, 24, 25, 26, 27, 28]) => y_fr_at hf a (ho a ha)
  refine ⟨⟨fun b hb => by rw [o 21 (by decide)]; exact k1 b hb, fun l hl => by rw [o 22 (by decide)]; exact k2 l hl⟩, ⟨by rw [o 20 (by decide)]; exact k3, fun p hp => by rw [o 26 (by decide)]; exact k4 p hp, fun c hc => by rw [o 25 (by decide)]; exact k5 c hc⟩, ⟨fun b hb => by rw [o 24 (by decide)]; exact k6 b hb, fun l hl => by rw [o 23 (by decide)]; exact k7 l hl⟩, ⟨by rw [o 20 (by decide)]; exact w1, by rw [o 20 (by decide)]; exact w2, fun i hi => by rw [o 28 (by decide)]; exact w3 i hi, by rw [o 20 (by decide)]; exact w4, fun i hi => by rw [o 27 (by decide)]; exact w5 i hi⟩, by rw [o 20 (by decide)]; exact k8⟩
theorem r_few23 {m : Nat} {wt : Nat → Nat} {s : p_St} {h0 : z_H} (hw : y_wf m wt) (ws : y_ws m s) : ∀ (j : Nat) (h : z_H) (n : Nat), j ≤ 6 → j < n → y_KM m wt s h → y_fr [29, 30, 31, 32, 33] h0 h → p_E m wt (6 - j) s = false →
    y_W (tk_X8_fewestByBodies_23 n (nI (7 - j)) h) (fn_X8_fewestByBodies_23 n (nI (7 - j)) h) (fun r => z_vi r = p_i (p_fw m wt s j) ∧ y_fr [29, 30, 31, 32, 33] h0 r.2)
  | 0, h, n + 1, hj, hn, hK, hf, hE => by
    unfold tk_X8_fewestByBodies_23 fn_X8_fewestByBodies_23
    dsimp only
    exact y_pos (by decide) (y_end ⟨rfl, hf⟩)
  | j + 1, h, n + 1, hj, hn, hK, hf, hE => by
    have h6 := ws.2.2.2.1
    have ed : 7 - (j + 1) = 6 - (j + 1) + 1 := by omega
    unfold tk_X8_fewestByBodies_23 fn_X8_fewestByBodies_23
    dsimp only
    rw [hK.2.2.2.1.2.2.2.1, ed]
    refine y_neg (nI_nlt (by omega) (by omega)) ?_
    refine y_le s.2.2.length 0 rfl rfl (fun q => y_end ⟨by rw [p_fw_nofeed (by omega)]; rfl, hf⟩) (fun q => ?_)
    obtain ⟨r1, r2, r3⟩ := r_eat hw ws hK (r := 6 - (j + 1)) (by omega) hE
    have e6 : 6 - (j + 1) + 1 = 6 - j := by omega
    have efw : p_fw m wt s (j + 1) = if p_E m wt (6 - j) s = true then 6 - j else p_fw m wt s j := rfl
    refine y_req r1 ?_
    rw [r2, nI_add, e6, show 6 - j + 1 = 7 - j by omega, efw]
    rw [e6] at r3
    cases hE2 : p_E m wt (6 - j) s with
    | true =>
      rw [if_pos (rfl : true = true), if_pos (rfl : true = true)]
      exact y_neg (y_m1 _ (by omega)) (y_end ⟨by rw [p_i_n (by omega : 6 - j ≠ 99)]; rfl, y_fr_trans hf r3⟩)
    | false =>
      rw [if_neg (by decide : ¬ false = true), if_neg (by decide : ¬ false = true)]
      exact y_pos rfl (r_few23 hw ws j _ n (by omega) (by omega) (y_KM_fr hK r3 (by decide)) (y_fr_trans hf r3) hE2)
theorem r_few {m : Nat} {wt : Nat → Nat} {s : p_St} {h : z_H} (hw : y_wf m wt) (ws : y_ws m s) (hK : y_KM m wt s h) : y_W (tk_X8_fewestByBodies_23 2000 (nI 1) h) (fn_X8_fewestByBodies_23 2000 (nI 1) h) (fun r => z_vi r = p_i (p_fw m wt s 6) ∧ y_fr [29, 30, 31, 32, 33] h r.2) := r_few23 hw ws 6 h 2000 (Nat.le_refl 6) (by decide) hK y_fr_refl rfl
