/-! ===== pure: the reference's dig ===== -/
/-- what stands still while the trail is dug -/
def r_Dg (m : Nat) (wt : Nat → Nat) (s0 : p_St) (h : z_H) : Prop := y_BM m wt h ∧ h.1 20 12 = nI s0.1.length ∧ h.1 20 8 = nI s0.2.2.length ∧ ∀ i, i < s0.2.2.length → h.1 27 i = nI (s0.2.2.getD i 99)
theorem r_Dg_fz {m : Nat} {wt : Nat → Nat} {s0 : p_St} {l k : Nat} {h h' : z_H} (hD : r_Dg m wt s0 h) (f : r_fz l k h h') : r_Dg m wt s0 h' := ⟨y_BM_fr hD.1 f.2.2.2, by rw [y_fr_at f.2.2.2 20]; exact hD.2.1, by rw [y_fr_at f.2.2.2 20]; exact hD.2.2.1, fun i hi => by rw [y_fr_at f.2.2.2 27]; exact hD.2.2.2 i hi⟩
theorem r_fz33 {l k : Nat} {h : z_H} {v : Int32} : r_fz l k h (z_set h 33 k v) := ⟨fun i _ => by rw [z_set_ne (by decide)], fun i _ => ⟨by rw [z_set_ne (by decide)], by rw [z_set_ne (by decide)], by rw [z_set_ne (by decide)]⟩, fun i hi => y_sk (by omega), y_fr_set y_fr_refl (by decide)⟩
/-- one turn of the loop, in the midst of a cell's directions -/
theorem r_step {m : Nat} {wt : Nat → Nat} {s0 st : p_St} (hw : y_wf m wt) (ws0 : y_ws m s0) (ws : y_ws m st) {k ta ea M z d : Nat} (hM : M ≤ 6) (hkM : k < M) (hzM : z < M) (hd4 : d < 4) (ff : Bool) {h : z_H} (hD : r_Dg m wt s0 h) (hC : r_Cf s0 st k ta ea h) (h33 : h.1 33 k = nI d) (n : Nat) (P : z_R → Prop)
    (hno : p_can m wt st d = false → ∀ h', r_fz s0.1.length k h h' → h'.1 33 k = nI (d + 1) → y_W (tk_X8_dig_71 n (nI M) (if ff = true then nI 1 else nI 0) (nI k) (nI z) h') (fn_X8_dig_71 n (nI M) (if ff = true then nI 1 else nI 0) (nI k) (nI z) h') P)
    (hyes : p_can m wt st d = true → ∀ (h' : z_H) (fd : Bool), r_fz s0.1.length k h h' → h'.1 33 k = nI (d + 1) → h'.1 33 (k + 1) = nI 0 → r_Cf s0 (p_adv m wt st d) (k + 1) (ta + if 0 < st.2.1 then 0 else 1) (ea + if p_eats m wt st d = true then 1 else 0) h' → (fd = true ↔ ff = false ∨ 0 < ea + if p_eats m wt st d = true then 1 else 0) → y_W (tk_X8_dig_175 (fun (a1_ : Int32) (a2_ : Int32) (a3_ : Int32) (a4_ : Int32) (h_ : z_H) => tk_X8_dig_71 n a1_ a2_ a3_ a4_ h_) (nI M) (if ff = true then nI 1 else nI 0) (nI (k + 1)) (nI z) (if fd = true then nI 1 else nI 0) h') (fn_X8_dig_175 (fun (a1_ : Int32) (a2_ : Int32) (a3_ : Int32) (a4_ : Int32) (h_ : z_H) => fn_X8_dig_71 n a1_ a2_ a3_ a4_ h_) (nI M) (if ff = true then nI 1 else nI 0) (nI (k + 1)) (nI z) (if fd = true then nI 1 else nI 0) h') P) :
    y_W (tk_X8_dig_71 (n + 1) (nI M) (if ff = true then nI 1 else nI 0) (nI k) (nI z) h) (fn_X8_dig_71 (n + 1) (nI M) (if ff = true then nI 1 else nI 0) (nI k) (nI z) h) P := by
  have hl := y_ws_len ws0
  have hls := y_ws_len ws
  have hhd := y_ws_hd ws
  have i1 : vp_in (nI k) 8 := vp_in_nI (by omega) (by decide)
  have i2 : vp_in (nI (k + 1)) 8 := vp_in_nI (by omega) (by decide)
  have hhead : h.1 29 (s0.1.length - 1 + k) = nI (st.1.getD 0 99) := by
    have := hC.2.2.2.1 0 hls.1
    rw [show s0.1.length + k - 1 - 0 = s0.1.length - 1 + k by omega] at this
    exact this
  obtain ⟨b1, b2⟩ := r_bs hw hD.1 hhd.1 hd4
  have b2' : z_vi0 (fn_X8_beside (nI (st.1.getD 0 99)) (nI d) h) = p_i (p_to m wt st d) := by rw [b2]; rfl
  have hC' := r_Cf_fz hC hl.1 (r_fz33 (l := s0.1.length) (k := k) (h := h) (v := nI (d + 1)))
  have hD' := r_Dg_fz hD (r_fz33 (l := s0.1.length) (k := k) (h := h) (v := nI (d + 1)))
  obtain ⟨n1, n2⟩ := r_can (m := m) (wt := wt) hl.1 hl.2 (by omega) hD'.2.1 hC' ws hd4
  have n2' : z_vi0 (fn_X8_canTread (nI k) (p_i (p_to m wt st d)) (z_set h 33 k (nI (d + 1)))) = if p_can m wt st d = true then nI 1 else nI 0 := by rw [n2]; rfl
  unfold tk_X8_dig_71 fn_X8_dig_71
  dsimp only
  rw [nI_clamp (by omega : k < 2 ^ 31), h33, hD.2.1, pk_sub (by omega), nI_add, nI_clamp (by omega : s0.1.length - 1 + k < 2 ^ 31), hhead, b2', nI_add, n2']
  refine y_neg (nI_pos (by omega)) (y_neg (nI_ge hzM (by omega)) (y_req i1 (y_neg ?_ (y_neg ?_ (y_req (vp_in_nI (by omega) (by decide)) (y_req i1 (y_req b1 (y_req i1 (y_req i1 (y_req n1 ?_))))))))))
  · rw [nI_eq (by omega) (by decide)]; omega
  · rw [nI_eq (by omega) (by omega)]; omega
  · cases hc : p_can m wt st d with
    | false =>
      refine y_pos rfl ?_
      unfold tk_X8_dig_207 fn_X8_dig_207
      exact hno hc _ r_fz33 y_sh
    | true =>
      have x1 := (p_can_iff.mp hc).1
      refine y_neg i1_ne0 ?_
      rw [p_i_n x1]
      obtain ⟨T1, T2, T3, T4, T5⟩ := r_tread hl.1 hl.2 (by omega) hD'.2.1 hD'.2.2.1 hD'.2.2.2 ws0.2.2.2.1 (fun c hc => (ws0.2.2.2.2.1 c hc).1) hC' ws hd4 hc
      refine y_req T1 ?_
      generalize (fn_X8_tread (nI k) (nI (p_to m wt st d)) (z_set h 33 k (nI (d + 1)))).2 = h' at T2 T3 T4 T5 ⊢
      have f1 : r_fz s0.1.length k h h' := r_fz_trans r_fz33 T5
      have f2 : h'.1 33 k = nI (d + 1) := T4.trans y_sh
      rw [nI_add]
      unfold tk_X8_dig_170 fn_X8_dig_170
      cases ff with
      | false =>
        refine y_pos rfl ?_
        exact hyes hc h' true f1 f2 T3 T2 ⟨fun _ => Or.inl rfl, fun _ => rfl⟩
      | true =>
        refine y_neg i1_ne0 (y_req i2 ?_)
        rw [nI_clamp (by omega : k + 1 < 2 ^ 31), T2.2.2.1]
        have he40 := T2.2.2.2.2.2.2
        have hF40 := ws0.2.2.2.1
        refine y_le (ea + if p_eats m wt st d = true then 1 else 0) 0 rfl rfl (fun q => ?_) (fun q => ?_)
        · exact hyes hc h' false f1 f2 T3 T2 ⟨fun w => (by cases w), fun w => by rcases w with w | w; cases w; omega⟩
        · exact hyes hc h' true f1 f2 T3 T2 ⟨fun _ => Or.inr q, fun _ => rfl⟩
def c_N : Nat → Nat
  | 0 => 1
  | r + 1 => 4 * (1 + c_N r) + 1
theorem p_Df_shift {g : Nat → Nat} {can : Nat → Bool} {c : Nat} : ∀ j z, p_Df (fun d => c + g d) can j (c + z) = c + p_Df g can j z
  | 0, z => rfl
  | j + 1, z => by
    unfold p_Df
    rw [← p_Df_shift j]
    congr 1
    split
    · rw [Nat.add_max_add_left]
    · rfl
theorem p_Df_max {g : Nat → Nat} {can : Nat → Bool} : ∀ j a b, p_Df g can j (max a b) = max a (p_Df g can j b)
  | 0, a, b => rfl
  | j + 1, a, b => by
    unfold p_Df
    rw [← p_Df_max j]
    congr 1
    split
    · rw [Nat.max_assoc]
    · rfl
/-- what is found below a state at the depth k, from the deepest z on -/
def p_Dk (m : Nat) (wt : Nat → Nat) (k r : Nat) (st : p_St) (j z : Nat) : Nat := p_Df (fun d => k + (1 + p_D m wt r (p_adv m wt st d))) (p_can m wt st) j z
theorem p_Dk4 {m : Nat} {wt : Nat → Nat} {k r z : Nat} {st : p_St} (hz : k ≤ z) : p_Dk m wt k r st 4 z = max z (k + p_D m wt (r + 1) st) := by
  unfold p_Dk
  have e : z = max z (k + 0) := by rw [Nat.add_zero, Nat.max_eq_left hz]
  have h1 : p_Df (fun d => k + (1 + p_D m wt r (p_adv m wt st d))) (p_can m wt st) 4 z = p_Df (fun d => k + (1 + p_D m wt r (p_adv m wt st d))) (p_can m wt st) 4 (max z (k + 0)) := by rw [← e]
  rw [h1, p_Df_max, p_Df_shift]
  rfl
theorem p_Dk_le {m : Nat} {wt : Nat → Nat} {k r j z M : Nat} {st : p_St} (hM : k + (r + 1) ≤ M) (hz : z ≤ M) : p_Dk m wt k r st j z ≤ M := p_Df_le (fun d => by have := p_D_le (m := m) (wt := wt) r (p_adv m wt st d); omega) j z hz
theorem p_Dk_top {m : Nat} {wt : Nat → Nat} {k r j M : Nat} {st : p_St} (hM : k + (r + 1) ≤ M) : p_Dk m wt k r st j M = M := p_Df_top (fun d => by have := p_D_le (m := m) (wt := wt) r (p_adv m wt st d); omega) j
/-- the loop below a state: the longest walk -/
theorem r_digL {m : Nat} {wt : Nat → Nat} {s0 : p_St} (hw : y_wf m wt) (ws0 : y_ws m s0) {M : Nat} (hM : M ≤ 6) : ∀ (r j k : Nat) (st : p_St) (ta ea z : Nat) (h : z_H) (n : Nat) (P : z_R → Prop), k + (r + 1) = M → j ≤ 4 → k ≤ z → z < M → y_ws m st → r_Dg m wt s0 h → r_Cf s0 st k ta ea h → h.1 33 k = nI (4 - j) → j * (1 + c_N r) + 1 ≤ n →
    (p_Dk m wt k r st j z = M → ∀ h', r_fz s0.1.length k h h' → P (some (.int (nI M)), h')) →
    (p_Dk m wt k r st j z < M → ∀ h' n', r_fz s0.1.length k h h' → n ≤ n' + (j * (1 + c_N r) + 1) → y_W (tk_X8_dig_71 n' (nI M) (nI 0) (nI k - nI 1) (nI (p_Dk m wt k r st j z)) h') (fn_X8_dig_71 n' (nI M) (nI 0) (nI k - nI 1) (nI (p_Dk m wt k r st j z)) h') P) →
    y_W (tk_X8_dig_71 n (nI M) (nI 0) (nI k) (nI z) h) (fn_X8_dig_71 n (nI M) (nI 0) (nI k) (nI z) h) P
  | r, 0, k, st, ta, ea, z, h, n, P, hk, hj, hz, hzM, ws, hD, hC, h33, hn, hE, hP => by
    cases n with
    | zero => omega
    | succ n =>
      unfold tk_X8_dig_71 fn_X8_dig_71
      dsimp only
      rw [nI_clamp (by omega : k < 2 ^ 31), h33]
      refine y_neg (nI_pos (by omega)) (y_neg (nI_ge hzM (by omega)) (y_req (vp_in_nI (by omega) (by decide)) (y_pos rfl ?_)))
      unfold tk_X8_dig_96 fn_X8_dig_96
      rw [y_dec]
      exact hP hzM h n r_fz_refl (by omega)
  | r, j + 1, k, st, ta, ea, z, h, n, P, hk, hj, hz, hzM, ws, hD, hC, h33, hn, hE, hP => by
    cases n with
    | zero => omega
    | succ n =>
      have hl := y_ws_len ws0
      have hd4 : 3 - j < 4 := by omega
      have h33' : h.1 33 k = nI (3 - j) := by rw [h33]; congr 1; omega
      have e33 : 3 - j + 1 = 4 - j := by omega
      have hmul : (j + 1) * (1 + c_N r) = j * (1 + c_N r) + (1 + c_N r) := Nat.succ_mul _ _
      have eqs : p_Dk m wt k r st (j + 1) z = p_Dk m wt k r st j (if p_can m wt st (3 - j) = true then max z (k + (1 + p_D m wt r (p_adv m wt st (3 - j)))) else z) := rfl
      rw [eqs] at hE hP
      -- on with the next direction
      have next : ∀ z' h' n', k ≤ z' → z' < M → r_fz s0.1.length k h h' → h'.1 33 k = nI (3 - j + 1) → n + 1 ≤ n' + (1 + c_N r) → (if p_can m wt st (3 - j) = true then max z (k + (1 + p_D m wt r (p_adv m wt st (3 - j)))) else z) = z' → y_W (tk_X8_dig_71 n' (nI M) (nI 0) (nI k) (nI z') h') (fn_X8_dig_71 n' (nI M) (nI 0) (nI k) (nI z') h') P := by
        intro z' h' n' q1 q2 q3 q4 q5 q6
        rw [q6] at hE hP
        refine r_digL hw ws0 hM r j k st ta ea z' h' n' P hk (by omega) q1 q2 ws (r_Dg_fz hD q3) (r_Cf_fz hC hl.1 q3) (by rw [q4, e33]) (by omega) (fun w h2 g => hE w h2 (r_fz_trans q3 g)) (fun w h2 n2 g g2 => hP w h2 n2 (r_fz_trans q3 g) (by omega))
      have S := r_step hw ws0 ws (k := k) (ta := ta) (ea := ea) (M := M) (z := z) (d := 3 - j) hM (by omega) hzM hd4 false hD hC h33' n P (fun hc h' f1 f2 => next z h' n hz hzM f1 f2 (by omega) (by rw [if_neg (by rw [hc]; decide)])) (fun hc h' fd f1 f2 f3 f4 f5 => ?_)
      · exact S
      · have hfd : fd = true := f5.mpr (Or.inl rfl)
        rw [hfd]
        have ws' := y_ws_adv hd4 ws hc
        have hDr := p_D_le (m := m) (wt := wt) r (p_adv m wt st (3 - j))
        have q6 : (if p_can m wt st (3 - j) = true then max z (k + (1 + p_D m wt r (p_adv m wt st (3 - j)))) else z) = max z (k + (1 + p_D m wt r (p_adv m wt st (3 - j)))) := if_pos hc
        rw [q6] at hE hP
        -- at the child, with the deepest z1
        have child : ∀ z1, z1 = max z (k + 1) → y_W (tk_X8_dig_71 n (nI M) (nI 0) (nI (k + 1)) (nI z1) h') (fn_X8_dig_71 n (nI M) (nI 0) (nI (k + 1)) (nI z1) h') P := by
          intro z1 hz1
          have hz1M : z1 ≤ M := by rw [hz1]; exact Nat.max_le.mpr ⟨by omega, by omega⟩
          have hz1k : k + 1 ≤ z1 := by rw [hz1]; exact Nat.le_max_right _ _
          have hzz : max z (k + (1 + p_D m wt r (p_adv m wt st (3 - j)))) = max z1 (k + 1 + p_D m wt r (p_adv m wt st (3 - j))) := by
            rw [hz1, Nat.max_assoc, Nat.max_eq_right (show k + 1 ≤ k + 1 + p_D m wt r (p_adv m wt st (3 - j)) by omega), Nat.add_assoc]
          by_cases hlast : z1 = M
          · -- as deep as asked
            have htop : max z (k + (1 + p_D m wt r (p_adv m wt st (3 - j)))) = M := by
              rw [hzz, hlast, Nat.max_eq_left (by omega)]
            have hfin : p_Dk m wt k r st j (max z (k + (1 + p_D m wt r (p_adv m wt st (3 - j))))) = M := by rw [htop]; exact p_Dk_top (by omega)
            cases n with
            | zero => omega
            | succ n =>
              unfold tk_X8_dig_71 fn_X8_dig_71 tk_X8_dig_210 fn_X8_dig_210
              dsimp only
              rw [hlast]
              refine y_neg (nI_pos (by omega)) (y_pos (nI_le (Nat.le_refl _) (by omega)) ⟨trivial, ?_⟩)
              rw [if_pos i0_eq0]
              exact hE hfin h' f1
          · -- a child with something below
            cases r with
            | zero =>
              exfalso
              omega
            | succ r =>
              have eN : c_N (r + 1) = 4 * (1 + c_N r) + 1 := rfl
              have e4 := p_Dk4 (m := m) (wt := wt) (k := k + 1) (r := r) (z := z1) (st := p_adv m wt st (3 - j)) hz1k
              refine r_digL hw ws0 hM r 4 (k + 1) (p_adv m wt st (3 - j)) _ _ z1 h' n P (by omega) (Nat.le_refl 4) hz1k (by omega) ws' (r_Dg_fz hD f1) f4 (by rw [f3]) (by omega) (fun w h2 g => ?_) (fun w h2 n2 g g2 => ?_)
              · rw [e4] at w
                refine hE ?_ h2 (r_fz_trans f1 (r_fz_up g))
                rw [hzz, w]; exact p_Dk_top (by omega)
              · rw [e4] at w ⊢
                rw [← hzz] at w ⊢
                rw [pk_sub (by omega), Nat.add_sub_cancel]
                exact next _ h2 n2 (by omega) w (r_fz_trans f1 (r_fz_up g)) (by rw [g.2.2.1 k (by omega), f2]) (by omega) q6
        unfold tk_X8_dig_175 fn_X8_dig_175 tk_X8_dig_192 fn_X8_dig_192 tk_X8_dig_194 fn_X8_dig_194 tk_X8_dig_207 fn_X8_dig_207
        refine y_neg i1_ne0 ?_
        refine y_le (k + 1) z rfl rfl (fun q => y_pos rfl (child z (by rw [Nat.max_eq_left q]))) (fun q => y_pos rfl (child (k + 1) (by rw [Nat.max_eq_right (by omega)])))
  termination_by r j => (r, j)
