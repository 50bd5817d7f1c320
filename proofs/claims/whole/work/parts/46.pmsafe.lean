/-! ===== pure: the reference's player ===== -/
theorem r_far {m : Nat} {wt : Nat → Nat} {h : z_H} (hm : m < 512) (hN : 0 < p_N m wt) (hC : y_CM m wt h) {a b : Nat} (ha : p_op m a) (hb : p_op m b) : tk_X8_far (nI a) (nI b) h ∧ fn_X8_far (nI a) (nI b) h = some (.int (nI (p_far m wt a b))) := by
  have h1 := (p_plc_op hm hN ha).1
  have h2 := (p_plc_op hm hN hb).1
  have h3 := p_N_le (m := m) (wt := wt)
  have h36a := ha.1
  have h36b := hb.1
  refine ⟨⟨vp_in_nI hb.1 (by decide), vp_in_nI ha.1 (by decide), by rw [hC.1]; exact nI_ne0 hN (by omega)⟩, ?_⟩
  unfold fn_X8_far
  rw [nI_clamp (by omega), nI_clamp (by omega), hC.2.2 _ ha.1, hC.2.2 _ hb.1, hC.1, p_i_n (by omega), p_i_n (by omega)]
  have e : nI (p_plc m wt b) - nI (p_plc m wt a) + nI (p_N m wt) = nI (p_plc m wt b + p_N m wt - p_plc m wt a) := by
    rw [← pk_sub (by omega), ← nI_add, Int32.sub_eq_add_neg, Int32.sub_eq_add_neg, Int32.add_assoc, Int32.add_assoc, Int32.add_comm (-_) (nI (p_N m wt))]
  rw [e, pk_rem (by omega) hN (by omega)]
  rfl
theorem r_far0 {m : Nat} {wt : Nat → Nat} {h : z_H} (hm : m < 512) (hN : 0 < p_N m wt) (hC : y_CM m wt h) {a b : Nat} (ha : p_op m a) (hb : p_op m b) : z_vi0 (fn_X8_far (nI a) (nI b) h) = nI (p_far m wt a b) := by
  rw [(r_far hm hN hC ha hb).2]; rfl
theorem r_ext4 {m : Nat} {wt : Nat → Nat} {s : p_St} {h : z_H} (hm : m < 512) (hN : 0 < p_N m wt) (hK : y_KM m wt s h) (ws : y_ws m s) : ∀ (j k A n : Nat), k + j = s.1.length → 1 ≤ k → j < n → A + p_ext m wt (s.1.drop (k - 1)) = p_ext m wt s.1 → y_W (tk_X8_extent_4 h n (nI A) (nI k)) (fn_X8_extent_4 h n (nI A) (nI k)) (fun r => r = some (.int (nI (p_ext m wt s.1))))
  | 0, k, A, n + 1, hk, hk1, hn, hA => by
    have hl := y_ws_len ws
    have : k = s.1.length := by omega
    subst this
    rw [p_ext_last] at hA
    unfold tk_X8_extent_4 fn_X8_extent_4
    dsimp only
    rw [hK.2.2.2.1.1]
    refine y_pos (nI_le (Nat.le_refl _) (by omega)) (y_end ?_)
    rw [← hA]; rfl
  | j + 1, k, A, n + 1, hk, hk1, hn, hA => by
    have hl := y_ws_len ws
    have hb := hK.2.2.2.1.2.2.1
    have o1 := ws.2.2.1 _ (y_getD_mem (show k < s.1.length by omega))
    have o2 := ws.2.2.1 _ (y_getD_mem (show k - 1 < s.1.length by omega))
    obtain ⟨f1, f2⟩ := r_far hm hN hK.2.1 o1 o2
    unfold tk_X8_extent_4 fn_X8_extent_4
    dsimp only
    rw [hK.2.2.2.1.1, pk_sub hk1, nI_clamp (by omega : k < 2 ^ 31), nI_clamp (by omega : k - 1 < 2 ^ 31), hb k (by omega), hb (k - 1) (by omega)]
    refine y_neg (nI_ge (by omega) (by omega)) (y_req (vp_in_nI (by omega) (by decide)) (y_req (vp_in_nI (by omega) (by decide)) (y_req f1 ?_)))
    rw [f2]
    show y_W (tk_X8_extent_4 h n (nI A + nI _) (nI k + nI 1)) (fn_X8_extent_4 h n (nI A + nI _) (nI k + nI 1)) _
    rw [nI_add, nI_add]
    refine r_ext4 hm hN hK ws j (k + 1) _ n (by omega) (by omega) (by omega) ?_
    have := p_ext_drop (m := m) (wt := wt) (B := s.1) (k := k - 1) (by omega)
    rw [show k - 1 + 1 = k by omega] at this
    rw [Nat.add_sub_cancel]
    omega
theorem r_ext {m : Nat} {wt : Nat → Nat} {s : p_St} {h : z_H} (hm : m < 512) (hN : 0 < p_N m wt) (hK : y_KM m wt s h) (ws : y_ws m s) : tk_X8_extent h ∧ fn_X8_extent h = some (.int (nI (p_ext m wt s.1))) := by
  have hl := y_ws_len ws
  have := r_ext4 hm hN hK ws (s.1.length - 1) 1 0 2000 (by omega) (Nat.le_refl _) (by omega) (by rw [Nat.zero_add]; rfl)
  exact this
theorem r_ordered {m : Nat} {wt : Nat → Nat} {s : p_St} {h : z_H} (hm : m < 512) (hK : y_KM m wt s h) (ws : y_ws m s ∨ s.1 = []) : tk_X8_isOrdered h ∧ fn_X8_isOrdered h = some (.int (if p_ordd m wt s.1 = true then nI 1 else nI 0)) := by
  have h3 := p_N_le (m := m) (wt := wt)
  have W : y_W (tk_X8_isOrdered h) (fn_X8_isOrdered h) (fun r => r = some (.int (if p_ordd m wt s.1 = true then nI 1 else nI 0))) := by
    unfold tk_X8_isOrdered fn_X8_isOrdered
    rw [hK.2.2.2.2, hK.2.1.1]
    rcases ws with ws | ws
    · have hl := y_ws_len ws
      rw [if_pos hl.1]
      refine y_neg i1_ne0 ?_
      refine y_le (p_N m wt) 0 rfl rfl (fun e => y_end ?_) (fun hN => ?_)
      · rw [if_neg (fun z => by have := (p_ordd_iff.mp z).2.1; omega)]
      · obtain ⟨q1, q2⟩ := r_ext hm hN hK ws
        refine ⟨q1, ?_⟩
        rw [q2]
        have := p_ext_le hN s.1
        show (if nI (p_N m wt) ≤ nI (p_ext m wt s.1) then _ else _) = _
        by_cases e : p_ext m wt s.1 < p_N m wt
        · rw [if_neg (nI_ge e (by omega)), if_pos (p_ordd_iff.mpr ⟨hl.1, hN, e⟩)]
        · rw [if_pos (nI_le (by omega) (by omega)), if_neg (fun z => e (p_ordd_iff.mp z).2.2)]
    · rw [ws]
      refine y_pos rfl (y_end ?_)
      rfl
  exact W
theorem p_ext_dl {m : Nat} {wt : Nat → Nat} : ∀ (B : List Nat), 2 ≤ B.length → p_ext m wt B.dropLast + p_far m wt (B.getD (B.length - 1) 99) (B.getD (B.length - 2) 99) = p_ext m wt B
  | [], h => by simp at h
  | [_], h => by simp at h
  | [a, b], _ => by
    show p_ext m wt [a] + p_far m wt b a = p_far m wt b a + p_ext m wt [b]
    simp [p_ext]
  | a :: b :: c :: L, _ => by
    have ih := p_ext_dl (m := m) (wt := wt) (b :: c :: L) (by simp)
    show p_ext m wt (a :: b :: (c :: L).dropLast) + p_far m wt ((a :: b :: c :: L).getD ((a :: b :: c :: L).length - 1) 99) ((a :: b :: c :: L).getD ((a :: b :: c :: L).length - 2) 99) = p_far m wt b a + p_ext m wt (b :: c :: L)
    have e1 : (a :: b :: c :: L).getD ((a :: b :: c :: L).length - 1) 99 = (b :: c :: L).getD ((b :: c :: L).length - 1) 99 := by simp
    have e2 : (a :: b :: c :: L).getD ((a :: b :: c :: L).length - 2) 99 = (b :: c :: L).getD ((b :: c :: L).length - 2) 99 := by
      have : (a :: b :: c :: L).length - 2 = ((b :: c :: L).length - 2) + 1 := by simp
      rw [this, List.getD_cons_succ]
    rw [e1, e2, ← ih]
    show p_far m wt b a + p_ext m wt (b :: (c :: L).dropLast) + _ = _
    have e3 : (b :: c :: L).dropLast = b :: (c :: L).dropLast := rfl
    rw [e3]
    omega
/-- the extent behind a step -/
theorem p_ext_adv {m : Nat} {wt : Nat → Nat} {s : p_St} (ws : y_ws m s) (d : Nat) : p_ext m wt (p_adv m wt s d).1 = if s.1.length = 1 ∧ s.2.1 = 0 then 0 else p_ext m wt s.1 - (if 0 < s.2.1 ∨ s.1.length = 1 then 0 else p_far m wt (s.1.getD (s.1.length - 1) 99) (s.1.getD (s.1.length - 2) 99)) + p_far m wt (s.1.getD 0 99) (p_to m wt s d) := by
  have hl := y_ws_len ws
  have hsl := p_st_len s
  show p_ext m wt (p_to m wt s d :: p_st s) = _
  have hcons : ∀ L : List Nat, L ≠ [] → L.getD 0 99 = s.1.getD 0 99 → p_ext m wt (p_to m wt s d :: L) = p_far m wt (s.1.getD 0 99) (p_to m wt s d) + p_ext m wt L := by
    intro L hL he
    cases L with
    | nil => exact absurd rfl hL
    | cons a L => rw [← he]; rfl
  by_cases g : 0 < s.2.1
  · have e : p_st s = s.1 := by unfold p_st; rw [if_pos g]
    rw [if_neg (by omega), if_pos (Or.inl g), e, hcons _ ws.1 rfl]
    omega
  · have e : p_st s = s.1.dropLast := by unfold p_st; rw [if_neg g]
    rw [if_neg g] at hsl
    by_cases l1 : s.1.length = 1
    · rw [if_pos ⟨l1, by omega⟩]
      have : p_st s = [] := List.eq_nil_of_length_eq_zero (by omega)
      rw [this]; rfl
    · rw [if_neg (by omega), if_neg (by omega)]
      have hne : p_st s ≠ [] := fun z => by rw [z] at hsl; simp at hsl; omega
      rw [hcons _ hne (p_st_getD (by omega)), e]
      have := p_ext_dl (m := m) (wt := wt) s.1 (by omega)
      omega
theorem r_safeTo {m : Nat} {wt : Nat → Nat} {s : p_St} {h : z_H} (hm : m < 512) (hK : y_KM m wt s h) (ws : y_ws m s) {d : Nat} (hd4 : d < 4) (hf : 0 < s.2.2.length) (ho : p_ordd m wt s.1 = true) (hc : p_can m wt s d = true) : y_W (tk_X8_isSafeTo (nI (p_to m wt s d)) h) (fn_X8_isSafeTo (nI (p_to m wt s d)) h) (fun r => r = some (.int (if p_safe m wt s d = true then nI 1 else nI 0))) := by
  have hl := y_ws_len ws
  have h3 := p_N_le (m := m) (wt := wt)
  obtain ⟨-, hN, hlt⟩ := p_ordd_iff.mp ho
  obtain ⟨c1, c2⟩ := p_can_iff.mp hc
  have ws' := y_ws_adv hd4 ws hc
  have hhd := y_ws_hd ws
  have hto : p_op m (p_to m wt s d) := y_ws_hd ws'
  have hfo := ws.2.2.2.2.1 _ (y_getD_mem hf)
  obtain ⟨w1, w2, w3, w4, w5⟩ := hK.2.2.2.1
  have hC := hK.2.1
  have h6 := ws.2.2.2.2.2
  have hfar := r_far hm hN hC hhd hto
  have hfd := r_far hm hN hC hhd hfo
  have hext := r_ext hm hN hK ws
  have l36 := hto.1
  have hfo36 := hfo.1
  have hA := p_ext_adv (wt := wt) ws d
  have hfl := p_far_lt hN (s.1.getD 0 99) (p_to m wt s d)
  have hsafe : p_safe m wt s d = true ↔ p_ordd m wt (p_adv m wt s d).1 = true ∧ p_far m wt (s.1.getD 0 99) (p_to m wt s d) ≤ (if s.2.2.getD 0 99 = s.1.getD 0 99 then p_N m wt else p_far m wt (s.1.getD 0 99) (s.2.2.getD 0 99)) ∧ (p_adv m wt s d).2.1 + p_ext m wt (p_adv m wt s d).1 + 1 ≤ p_N m wt := by
    unfold p_safe
    rw [decide_eq_true_iff]
    exact ⟨fun z => z.2.2.2, fun z => ⟨hf, ho, hc, z⟩⟩
  -- the last three questions
  have fin : ∀ (fa X g : Nat), fa = (if s.2.2.getD 0 99 = s.1.getD 0 99 then p_N m wt else p_far m wt (s.1.getD 0 99) (s.2.2.getD 0 99)) → X = p_ext m wt (p_adv m wt s d).1 → g = s.2.1 - 1 → y_W (tk_X8_isSafeTo_139 h (nI (p_to m wt s d)) (nI (s.1.getD 0 99)) (nI fa) (nI X) (nI g)) (fn_X8_isSafeTo_139 h (nI (p_to m wt s d)) (nI (s.1.getD 0 99)) (nI fa) (nI X) (nI g)) (fun r => r = some (.int (if p_safe m wt s d = true then nI 1 else nI 0))) := by
    intro fa X g hfa hX hg
    have hfa36 : fa ≤ 36 := by
      rw [hfa]; split
      · exact h3
      · have := p_far_lt hN (s.1.getD 0 99) (s.2.2.getD 0 99); omega
    have hXl : X ≤ 36 * 37 := by
      rw [hX]
      have := p_ext_le hN (p_adv m wt s d).1
      have := (y_ws_len ws').2
      omega
    have last : ∀ e : Nat, (p_adv m wt s d).2.1 = g + e → y_W (tk_X8_isSafeTo_154 h (nI (p_to m wt s d)) (nI (s.1.getD 0 99)) (nI fa) (nI X) (nI e) (nI g)) (fn_X8_isSafeTo_154 h (nI (p_to m wt s d)) (nI (s.1.getD 0 99)) (nI fa) (nI X) (nI e) (nI g)) (fun r => r = some (.int (if p_safe m wt s d = true then nI 1 else nI 0))) := by
      intro e he
      have hg6 := ws'.2.2.2.2.2
      unfold tk_X8_isSafeTo_154 fn_X8_isSafeTo_154
      rw [hC.1]
      refine y_le (p_N m wt) X rfl rfl (fun z => y_end ?_) (fun z => ?_)
      · rw [if_neg]
        intro z2
        have := (p_ordd_iff.mp (hsafe.mp z2).1).2.2
        omega
      · refine ⟨hfar.1, ?_⟩
        rw [hfar.2]
        show (if nI fa < nI (p_far m wt (s.1.getD 0 99) (p_to m wt s d)) then _ else if nI (p_N m wt) - nI X - nI 1 < nI g + nI e then _ else _) = _
        rw [pk_sub (by omega), pk_sub (by omega), nI_add]
        by_cases z2 : fa < p_far m wt (s.1.getD 0 99) (p_to m wt s d)
        · rw [if_pos (nI_lt z2 (by omega)), if_neg]
          intro z3
          have := (hsafe.mp z3).2.1
          rw [← hfa] at this
          omega
        · rw [if_neg (nI_nlt (by omega) (by omega))]
          by_cases z3 : p_N m wt - X - 1 < g + e
          · rw [if_pos (nI_lt z3 (by omega)), if_neg]
            intro z4
            have := (hsafe.mp z4).2.2
            omega
          · rw [if_neg (nI_nlt (by omega) (by omega)), if_pos]
            exact hsafe.mpr ⟨p_ordd_iff.mpr ⟨(y_ws_len ws').1, hN, by omega⟩, by rw [← hfa]; omega, by omega⟩
    have hadv : (p_adv m wt s d).2.1 = (s.2.1 - 1) + (if p_eats m wt s d = true then 2 else 0) := rfl
    unfold tk_X8_isSafeTo_139 fn_X8_isSafeTo_139
    rw [nI_c0, w5 0 hf]
    refine y_eq (p_to m wt s d) (s.2.2.getD 0 99) rfl rfl (fun z => last 2 ?_) (fun z => last 0 ?_)
    · rw [hadv, if_pos (p_eats_iff.mpr ⟨hf, z.symm⟩), hg]
    · rw [hadv, if_neg (fun z2 => z (p_eats_iff.mp z2).2.symm), hg]
  have fin120 : ∀ (fa X : Nat), fa = (if s.2.2.getD 0 99 = s.1.getD 0 99 then p_N m wt else p_far m wt (s.1.getD 0 99) (s.2.2.getD 0 99)) → X = p_ext m wt (p_adv m wt s d).1 → y_W (tk_X8_isSafeTo_120 h (nI (p_to m wt s d)) (nI (s.1.getD 0 99)) (nI fa) (nI X)) (fn_X8_isSafeTo_120 h (nI (p_to m wt s d)) (nI (s.1.getD 0 99)) (nI fa) (nI X)) (fun r => r = some (.int (if p_safe m wt s d = true then nI 1 else nI 0))) := by
    intro fa X hfa hX
    unfold tk_X8_isSafeTo_120 fn_X8_isSafeTo_120
    rw [w2]
    refine y_le s.2.1 0 rfl rfl (fun z => fin fa X 0 hfa hX (by omega)) (fun z => ?_)
    rw [pk_sub (by omega)]
    exact fin fa X _ hfa hX rfl
  -- what is gone
  have fin85 : ∀ (fa gone : Nat), fa = (if s.2.2.getD 0 99 = s.1.getD 0 99 then p_N m wt else p_far m wt (s.1.getD 0 99) (s.2.2.getD 0 99)) → gone = (if 0 < s.2.1 ∨ s.1.length = 1 then 0 else p_far m wt (s.1.getD (s.1.length - 1) 99) (s.1.getD (s.1.length - 2) 99)) → y_W (tk_X8_isSafeTo_85 h (nI (p_to m wt s d)) (nI (s.1.getD 0 99)) (nI fa) (nI gone)) (fn_X8_isSafeTo_85 h (nI (p_to m wt s d)) (nI (s.1.getD 0 99)) (nI fa) (nI gone)) (fun r => r = some (.int (if p_safe m wt s d = true then nI 1 else nI 0))) := by
    intro fa gone hfa hgone
    rw [← hgone] at hA
    have hgl : gone ≤ p_ext m wt s.1 := by
      rw [hgone]
      by_cases z : 0 < s.2.1 ∨ s.1.length = 1
      · rw [if_pos z]; exact Nat.zero_le _
      · rw [if_neg z]
        have := p_ext_dl (m := m) (wt := wt) s.1 (by omega)
        omega
    have go106 : ¬ (s.1.length = 1 ∧ s.2.1 = 0) → y_W (tk_X8_isSafeTo_106 h (nI (p_to m wt s d)) (nI (s.1.getD 0 99)) (nI fa) (nI gone)) (fn_X8_isSafeTo_106 h (nI (p_to m wt s d)) (nI (s.1.getD 0 99)) (nI fa) (nI gone)) (fun r => r = some (.int (if p_safe m wt s d = true then nI 1 else nI 0))) := by
      intro z
      rw [if_neg z] at hA
      unfold tk_X8_isSafeTo_106 fn_X8_isSafeTo_106
      refine y_req hext.1 (y_req hfar.1 ?_)
      rw [hext.2, hfar.2]
      show y_W (tk_X8_isSafeTo_120 h _ _ _ (nI (p_ext m wt s.1) - nI gone + nI _)) (fn_X8_isSafeTo_120 h _ _ _ (nI (p_ext m wt s.1) - nI gone + nI _)) _
      rw [pk_sub hgl, nI_add]
      exact fin120 fa _ hfa hA.symm
    unfold tk_X8_isSafeTo_85 fn_X8_isSafeTo_85
    rw [w1, w2]
    refine y_eq s.1.length 1 rfl rfl (fun z => ?_) (fun z => go106 (fun z2 => z z2.1))
    refine y_eq s.2.1 0 rfl rfl (fun z2 => ?_) (fun z2 => go106 (fun z3 => z2 z3.2))
    rw [if_pos ⟨z, z2⟩] at hA
    exact fin120 fa 0 hfa hA.symm
  have fin39 : ∀ fa : Nat, fa = (if s.2.2.getD 0 99 = s.1.getD 0 99 then p_N m wt else p_far m wt (s.1.getD 0 99) (s.2.2.getD 0 99)) → y_W (tk_X8_isSafeTo_39 h (nI (p_to m wt s d)) (nI (s.1.getD 0 99)) (nI fa)) (fn_X8_isSafeTo_39 h (nI (p_to m wt s d)) (nI (s.1.getD 0 99)) (nI fa)) (fun r => r = some (.int (if p_safe m wt s d = true then nI 1 else nI 0))) := by
    intro fa hfa
    unfold tk_X8_isSafeTo_39 fn_X8_isSafeTo_39 tk_X8_isSafeTo_55 fn_X8_isSafeTo_55
    rw [w1, w2]
    refine y_lt 0 s.2.1 rfl rfl (fun z => fin85 fa 0 hfa (by rw [if_pos (Or.inl z)])) (fun z => ?_)
    refine y_eq s.1.length 1 rfl rfl (fun z2 => fin85 fa 0 hfa (by rw [if_pos (Or.inr z2)])) (fun z2 => ?_)
    rw [pk_sub (by omega), pk_sub (by omega), nI_clamp (by omega : s.1.length - 1 < 2 ^ 31), nI_clamp (by omega : s.1.length - 2 < 2 ^ 31), w3 _ (by omega), w3 _ (by omega)]
    obtain ⟨g1, g2⟩ := r_far hm hN hC (ws.2.2.1 _ (y_getD_mem (show s.1.length - 1 < s.1.length by omega))) (ws.2.2.1 _ (y_getD_mem (show s.1.length - 2 < s.1.length by omega)))
    refine y_req (vp_in_nI (by omega) (by decide)) (y_req (vp_in_nI (by omega) (by decide)) (y_req g1 ?_))
    rw [g2]
    exact fin85 fa _ hfa (by rw [if_neg (by omega)])
  unfold tk_X8_isSafeTo fn_X8_isSafeTo
  rw [r_head hK ws, nI_c0, w5 0 hf, hfd.2, hC.1]
  refine y_req hfd.1 ?_
  have hd0 := p_far_0 hm hN hhd hfo
  have hfl2 := p_far_lt hN (s.1.getD 0 99) (s.2.2.getD 0 99)
  refine y_eq (p_far m wt (s.1.getD 0 99) (s.2.2.getD 0 99)) 0 rfl rfl (fun z => ?_) (fun z => y_req hfd.1 ?_)
  · exact fin39 _ (by rw [if_pos (hd0.mp z).symm])
  · exact fin39 _ (by rw [if_neg (fun z2 => z (hd0.mpr z2.symm))])
theorem r_safe {m : Nat} {wt : Nat → Nat} {s : p_St} {h : z_H} (hw : y_wf m wt) (hK : y_KM m wt s h) (ws : y_ws m s) {d : Nat} (hd4 : d < 4) : tk_X8_isSafeStep (nI d) h ∧ fn_X8_isSafeStep (nI d) h = some (.int (if p_safe m wt s d = true then nI 1 else nI 0)) := by
  obtain ⟨d1, d2⟩ := r_deadly hw hK ws hd4
  obtain ⟨t1, t2⟩ := r_to hw hK ws hd4
  obtain ⟨o1, o2⟩ := r_ordered hw.1 hK (Or.inl ws)
  obtain ⟨w1, w2, w3, w4, w5⟩ := hK.2.2.2.1
  have h6 := ws.2.2.2.2.2
  have W : y_W (tk_X8_isSafeStep (nI d) h) (fn_X8_isSafeStep (nI d) h) (fun r => r = some (.int (if p_safe m wt s d = true then nI 1 else nI 0))) := by
    unfold tk_X8_isSafeStep fn_X8_isSafeStep
    rw [w4]
    refine y_le s.2.2.length 0 rfl rfl (fun z => y_end ?_) (fun hf => y_req o1 ?_)
    · rw [if_neg (fun z2 => by have := (of_decide_eq_true z2).1; omega)]
    · rw [o2]
      cases ho : p_ordd m wt s.1 with
      | false =>
        refine y_pos rfl (y_end ?_)
        rw [if_neg (fun z => by have := (of_decide_eq_true z).2.1; rw [ho] at this; cases this)]
      | true =>
        refine y_neg i1_ne0 (y_req d1 ?_)
        rw [d2]
        cases hc : p_can m wt s d with
        | false =>
          refine y_neg i1_ne0 (y_end ?_)
          rw [if_neg (fun z => by have := (of_decide_eq_true z).2.2.1; rw [hc] at this; cases this)]
        | true =>
          refine y_pos rfl (y_req t1 ?_)
          obtain ⟨c1, c2⟩ := p_can_iff.mp hc
          obtain ⟨S1, S2⟩ := r_safeTo hw.1 hK ws hd4 hf ho hc
          rw [t2, show z_vi0 (some (.int (p_i (p_to m wt s d)))) = nI (p_to m wt s d) from p_i_n c1]
          refine ⟨S1, ?_⟩
          rw [S2]
          cases p_safe m wt s d with
          | true => exact if_neg i1_ne0
          | false => exact if_pos i0_eq0
  exact W
/-! the player's steps -/
def p_play (m : Nat) (wt : Nat → Nat) : Nat → p_St → Nat × p_St
  | 0, s => (0, s)
  | k + 1, s => if p_chs m wt s 4 = 99 then (0, s) else ((p_play m wt k (p_adv m wt s (p_chs m wt s 4))).1 + 1, (p_play m wt k (p_adv m wt s (p_chs m wt s 4))).2)
theorem r_play54 {m : Nat} {wt : Nat → Nat} {s : p_St} {h : z_H} (hw : y_wf m wt) (hK : y_KM m wt s h) (ws : y_ws m s) (K39 : Int32 → Int32 → Int32 → z_H → Prop) (k39 : Int32 → Int32 → Int32 → z_H → z_R) (P : z_R → Prop) (most made : Nat)
    (hno : p_chs m wt s 4 = 99 → y_W (K39 (nI most) (nI made) (nI 0) h) (k39 (nI most) (nI made) (nI 0) h) P)
    (hyes : p_chs m wt s 4 ≠ 99 → ∀ h', y_KM m wt (p_adv m wt s (p_chs m wt s 4)) h' → r_near h h' → y_W (K39 (nI most) (nI (made + 1)) (nI 1) h') (k39 (nI most) (nI (made + 1)) (nI 1) h') P) : ∀ (j k n : Nat), k + j = 4 → j < n → y_W (tk_X8_play_54 K39 n (nI most) (nI made) (p_i (p_chs m wt s k)) (nI k) h) (fn_X8_play_54 k39 n (nI most) (nI made) (p_i (p_chs m wt s k)) (nI k) h) P
  | 0, k, n + 1, hk, hn => by
    have : k = 4 := by omega
    subst this
    have hch := p_chs_lt (m := m) (wt := wt) (s := s) 4
    unfold tk_X8_play_54 fn_X8_play_54 tk_X8_play_169 fn_X8_play_169 tk_X8_play_183 fn_X8_play_183
    dsimp only
    refine y_pos (nI_le (Nat.le_refl 4) (by decide)) ?_
    refine y_none (p_chs m wt s 4) rfl (fun e => ?_) (fun e => ?_)
    · exact y_pos rfl (hno e)
    · refine y_neg i1_ne0 ?_
      obtain ⟨hlt, hs⟩ := hch.resolve_right e
      have hc := (of_decide_eq_true hs).2.2.1
      rw [p_i_n e, nI_add]
      obtain ⟨G1, G2, G3⟩ := r_goOn hw hK ws hlt hc
      exact y_req G1 (hyes e _ G2 G3)
  | j + 1, k, n + 1, hk, hn => by
    have hlt : k < 4 := by omega
    have ih := r_play54 hw hK ws K39 k39 P most made hno hyes j (k + 1) n (by omega) (by omega)
    have hch := p_chs_lt (m := m) (wt := wt) (s := s) k
    obtain ⟨s1, s2⟩ := r_safe hw hK ws hlt
    have eqs : p_chs m wt s (k + 1) = if p_safe m wt s k = true ∧ (p_chs m wt s k = 99 ∨ p_far m wt (s.1.getD 0 99) (p_to m wt s (p_chs m wt s k)) < p_far m wt (s.1.getD 0 99) (p_to m wt s k)) then k else p_chs m wt s k := rfl
    unfold tk_X8_play_54 fn_X8_play_54
    dsimp only
    refine y_neg (nI_ge hlt (by decide)) (y_req s1 ?_)
    unfold tk_X8_play_126 fn_X8_play_126 tk_X8_play_130 fn_X8_play_130 tk_X8_play_131 fn_X8_play_131 tk_X8_play_148 fn_X8_play_148 tk_X8_play_150 fn_X8_play_150
    rw [s2, nI_add]
    refine y_none (p_chs m wt s k) rfl (fun e => ?_) (fun e => ?_)
    · cases hs : p_safe m wt s k with
      | false =>
        rw [hs, if_neg (fun z => by cases z.1)] at eqs
        rw [eqs] at ih
        exact y_pos rfl ih
      | true =>
        rw [if_pos ⟨hs, Or.inl e⟩] at eqs
        rw [eqs, p_i_n (by omega)] at ih
        exact y_neg i1_ne0 (y_neg i1_ne0 ih)
    · obtain ⟨l4, hsb⟩ := hch.resolve_right e
      cases hs : p_safe m wt s k with
      | false =>
        rw [hs, if_neg (fun z => by cases z.1)] at eqs
        rw [eqs] at ih
        exact y_pos rfl (y_pos rfl ih)
      | true =>
        obtain ⟨q1, q2, q3, hN⟩ := p_safe_far hw.1 ws hlt hs
        obtain ⟨u1, u2, u3, -⟩ := p_safe_far hw.1 ws (by omega) hsb
        obtain ⟨t1, t2⟩ := r_to hw hK ws hlt
        obtain ⟨t3, t4⟩ := r_to hw hK ws (show p_chs m wt s k < 4 by omega)
        have hq36 := q1.1
        have hu36 := u1.1
        obtain ⟨f1, f2⟩ := r_far hw.1 hN hK.2.1 (y_ws_hd ws) q1
        obtain ⟨f3, f4⟩ := r_far hw.1 hN hK.2.1 (y_ws_hd ws) u1
        have h3 := p_N_le (m := m) (wt := wt)
        have hf1 := p_far_lt hN (s.1.getD 0 99) (p_to m wt s k)
        have hf2 := p_far_lt hN (s.1.getD 0 99) (p_to m wt s (p_chs m wt s k))
        refine y_neg i1_ne0 (y_req t1 ?_)
        rw [t2, show z_vi0 (some (.int (p_i (p_to m wt s k)))) = nI (p_to m wt s k) from p_i_n (by omega), p_i_n e, r_head hK ws]
        rw [r_head hK ws] at t3 t4
        refine y_req f1 (y_req t3 ?_)
        rw [t4, show z_vi0 (some (.int (p_i (p_to m wt s (p_chs m wt s k))))) = nI (p_to m wt s (p_chs m wt s k)) from p_i_n (by omega)]
        refine y_req f3 ?_
        rw [f2, f4]
        refine y_le (p_far m wt (s.1.getD 0 99) (p_to m wt s k)) (p_far m wt (s.1.getD 0 99) (p_to m wt s (p_chs m wt s k))) rfl rfl (fun z => ?_) (fun z => ?_)
        · rw [if_neg (fun z2 => by rcases z2.2 with z3 | z3; exact e z3; omega)] at eqs
          rw [eqs, p_i_n e] at ih
          exact y_neg i1_ne0 (y_pos rfl ih)
        · rw [if_pos ⟨hs, Or.inr z⟩] at eqs
          rw [eqs, p_i_n (by omega)] at ih
          exact y_neg i1_ne0 (y_neg i1_ne0 ih)
theorem r_play39 {m : Nat} {wt : Nat → Nat} {h0 : z_H} (hw : y_wf m wt) : ∀ (j made : Nat) (s : p_St) (h : z_H) (n : Nat), made + j ≤ 50 → j + 1 < n → y_KM m wt s h → y_ws m s → r_near h0 h →
    y_W (tk_X8_play_39 n (nI (made + j)) (nI made) (nI 1) h) (fn_X8_play_39 n (nI (made + j)) (nI made) (nI 1) h) (fun r => z_vi r = nI (made + (p_play m wt j s).1) ∧ y_KM m wt (p_play m wt j s).2 r.2 ∧ r_near h0 r.2)
  | 0, made, s, h, n + 1, hm, hn, hK, ws, hr => by
    unfold tk_X8_play_39 fn_X8_play_39
    dsimp only
    exact y_neg i1_ne0 (y_pos (nI_le (Nat.le_refl _) (by omega)) (y_end ⟨rfl, hK, hr⟩))
  | j + 1, made, s, h, n + 1, hm, hn, hK, ws, hr => by
    unfold tk_X8_play_39 fn_X8_play_39
    dsimp only
    refine y_neg i1_ne0 (y_neg (nI_ge (by omega) (by omega)) ?_)
    have hch := p_chs_lt (m := m) (wt := wt) (s := s) 4
    refine r_play54 hw hK ws _ _ _ (made + (j + 1)) made (fun e => ?_) (fun e h' hK' hr' => ?_) 4 0 2000 rfl (by decide)
    · have ep : p_play m wt (j + 1) s = (0, s) := by unfold p_play; rw [if_pos e]
      rw [ep]
      cases n with
      | zero => omega
      | succ n =>
        unfold tk_X8_play_39 fn_X8_play_39
        dsimp only
        exact y_pos rfl (y_end ⟨rfl, hK, hr⟩)
    · obtain ⟨hlt, hs⟩ := hch.resolve_right e
      have hc := (of_decide_eq_true hs).2.2.1
      have ep : p_play m wt (j + 1) s = ((p_play m wt j (p_adv m wt s (p_chs m wt s 4))).1 + 1, (p_play m wt j (p_adv m wt s (p_chs m wt s 4))).2) := by
        show (if p_chs m wt s 4 = 99 then (0, s) else _) = _
        rw [if_neg e]
      have := r_play39 hw j (made + 1) _ h' n (by omega) (by omega) hK' (y_ws_adv hlt ws hc) (r_near_trans hr hr')
      rw [show made + 1 + j = made + (j + 1) by omega] at this
      rw [ep]
      refine y_mono this (fun q => ⟨?_, q.2⟩)
      rw [q.1]
      congr 1
      show made + 1 + _ = made + (_ + 1)
      omega
