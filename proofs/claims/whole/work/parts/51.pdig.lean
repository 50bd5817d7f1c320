/-! ===== pure: the reference's search on the trail ===== -/
/-- a state at a depth of the trail -/
def r_Cf (s0 st : p_St) (k ta ea : Nat) (h : z_H) : Prop := h.1 30 k = nI ta ∧ h.1 31 k = nI st.2.1 ∧ h.1 32 k = nI ea ∧ (∀ i, i < st.1.length → h.1 29 (s0.1.length + k - 1 - i) = nI (st.1.getD i 99)) ∧ ta + st.1.length = s0.1.length + k ∧ st.2.2 = s0.2.2.drop ea ∧ ea ≤ s0.2.2.length
def r_fz (l k : Nat) (h h' : z_H) : Prop := (∀ i, i < l + k → h'.1 29 i = h.1 29 i) ∧ (∀ i, i ≤ k → h'.1 30 i = h.1 30 i ∧ h'.1 31 i = h.1 31 i ∧ h'.1 32 i = h.1 32 i) ∧ (∀ i, i < k → h'.1 33 i = h.1 33 i) ∧ y_fr [29, 30, 31, 32, 33] h h'
theorem r_fz_refl {l k : Nat} {h : z_H} : r_fz l k h h := ⟨fun _ _ => rfl, fun _ _ => ⟨rfl, rfl, rfl⟩, fun _ _ => rfl, y_fr_refl⟩
theorem r_fz_trans {l k : Nat} {h h' h'' : z_H} (f : r_fz l k h h') (g : r_fz l k h' h'') : r_fz l k h h'' := ⟨fun i hi => (g.1 i hi).trans (f.1 i hi), fun i hi => ⟨(g.2.1 i hi).1.trans (f.2.1 i hi).1, (g.2.1 i hi).2.1.trans (f.2.1 i hi).2.1, (g.2.1 i hi).2.2.trans (f.2.1 i hi).2.2⟩, fun i hi => (g.2.2.1 i hi).trans (f.2.2.1 i hi), y_fr_trans f.2.2.2 g.2.2.2⟩
theorem r_fz_up {l k : Nat} {h h' : z_H} (f : r_fz l (k + 1) h h') : r_fz l k h h' := ⟨fun i hi => f.1 i (by omega), fun i hi => f.2.1 i (by omega), fun i hi => f.2.2.1 i (by omega), f.2.2.2⟩
theorem r_Cf_fz {s0 st : p_St} {k ta ea : Nat} {h h' : z_H} (hC : r_Cf s0 st k ta ea h) (hl : 0 < s0.1.length) (f : r_fz s0.1.length k h h') : r_Cf s0 st k ta ea h' := by
  obtain ⟨c1, c2, c3, c4, c5, c6, c7⟩ := hC
  obtain ⟨g1, g2, g3⟩ := f.2.1 k (Nat.le_refl k)
  exact ⟨g1.trans c1, g2.trans c2, g3.trans c3, fun i hi => by rw [f.1 _ (by omega)]; exact c4 i hi, c5, c6, c7⟩
theorem r_can44 {h : z_H} {t hi L : Nat} {v : Nat → Nat} (hv : ∀ i, i ≤ hi → L ≤ i → h.1 29 i = nI (v i)) (hi50 : hi < 50) (ht : t < 2 ^ 31) (hvl : ∀ i, L ≤ i → i ≤ hi → v i < 2 ^ 31) : ∀ (j k : Nat) (f : Bool) (n : Nat), k + j = hi + 1 → j < n → L ≤ k → (f = true ↔ ∀ i, L ≤ i → i < k → v i ≠ t) →
    y_W (tk_X8_canTread_44 h n (nI t) (nI hi) (if f = true then nI 1 else nI 0) (nI k)) (fn_X8_canTread_44 h n (nI t) (nI hi) (if f = true then nI 1 else nI 0) (nI k)) (fun r => ∃ b : Bool, r = some (.int (if b = true then nI 1 else nI 0)) ∧ (b = true ↔ ∀ i, L ≤ i → i ≤ hi → v i ≠ t))
  | 0, k, f, n + 1, hk, hn, hL, hf => by
    have : k = hi + 1 := by omega
    subst this
    unfold tk_X8_canTread_44 fn_X8_canTread_44
    dsimp only
    refine y_pos (nI_lt (by omega) (by omega)) ⟨by cases f; exact Or.inl rfl; exact Or.inr rfl, f, rfl, ?_⟩
    rw [hf]
    exact ⟨fun z i h1 h2 => z i h1 (by omega), fun z i h1 h2 => z i h1 (by omega)⟩
  | j + 1, k, f, n + 1, hk, hn, hL, hf => by
    have ih := fun f' => r_can44 hv hi50 ht hvl j (k + 1) f' n (by omega) (by omega) (by omega)
    unfold tk_X8_canTread_44 fn_X8_canTread_44 tk_X8_canTread_70 fn_X8_canTread_70 tk_X8_canTread_71 fn_X8_canTread_71
    dsimp only
    rw [nI_clamp (by omega : k < 2 ^ 31), hv k (by omega) hL, nI_add]
    refine y_neg (nI_nlt (by omega) (by omega)) ?_
    cases f with
    | false =>
      refine y_pos rfl (ih false ⟨fun z => (by cases z), fun z => ?_⟩)
      exact hf.mpr (fun i h1 h2 => z i h1 (by omega))
    | true =>
      refine y_neg i1_ne0 (y_req (vp_in_nI (by omega) (by decide)) ?_)
      refine y_eq (v k) t rfl rfl (fun e => ?_) (fun e => ?_) (hvl k hL (by omega)) ht
      · exact ih false ⟨fun z => (by cases z), fun z => absurd e (z k hL (by omega))⟩
      · refine ih true ⟨fun _ i h1 h2 => ?_, fun _ => rfl⟩
        by_cases e2 : i = k
        · rw [e2]; exact e
        · exact hf.mp rfl i h1 (by omega)
theorem r_can {m : Nat} {wt : Nat → Nat} {s0 st : p_St} {k ta ea : Nat} {h : z_H} (hl : 0 < s0.1.length) (hl36 : s0.1.length ≤ 36) (hk : k ≤ 6) (h12 : h.1 20 12 = nI s0.1.length) (hC : r_Cf s0 st k ta ea h) (ws : y_ws m st) {d : Nat} (hd4 : d < 4) : tk_X8_canTread (nI k) (p_i (p_to m wt st d)) h ∧ fn_X8_canTread (nI k) (p_i (p_to m wt st d)) h = some (.int (if p_can m wt st d = true then nI 1 else nI 0)) := by
  obtain ⟨c1, c2, c3, c4, c5, c6, c7⟩ := hC
  have hls := y_ws_len ws
  have hsl := p_st_len st
  have h6 := ws.2.2.2.2.2
  have hlt := p_to_lt (wt := wt) ws hd4
  have W : y_W (tk_X8_canTread (nI k) (p_i (p_to m wt st d)) h) (fn_X8_canTread (nI k) (p_i (p_to m wt st d)) h) (fun r => r = some (.int (if p_can m wt st d = true then nI 1 else nI 0))) := by
    unfold tk_X8_canTread fn_X8_canTread
    rw [h12, pk_sub (by omega), nI_add]
    have go : ∀ f : Bool, (f = true ↔ p_to m wt st d ≠ 99) → y_W (tk_X8_canTread_19 h (nI k) (p_i (p_to m wt st d)) (nI (s0.1.length - 1 + k)) (if f = true then nI 1 else nI 0)) (fn_X8_canTread_19 h (nI k) (p_i (p_to m wt st d)) (nI (s0.1.length - 1 + k)) (if f = true then nI 1 else nI 0)) (fun r => r = some (.int (if p_can m wt st d = true then nI 1 else nI 0))) := by
      intro f hf
      have go41 : ∀ e : Nat, e = (if 0 < st.2.1 then 0 else 1) → y_W (tk_X8_canTread_41 h (p_i (p_to m wt st d)) (nI (s0.1.length - 1 + k)) (if f = true then nI 1 else nI 0) (nI e) (nI ta)) (fn_X8_canTread_41 h (p_i (p_to m wt st d)) (nI (s0.1.length - 1 + k)) (if f = true then nI 1 else nI 0) (nI e) (nI ta)) (fun r => r = some (.int (if p_can m wt st d = true then nI 1 else nI 0))) := by
        intro e he
        have hpst : ta + e + (p_st st).length = s0.1.length + k := by
          rw [hsl, he]
          split <;> omega
        unfold tk_X8_canTread_41 fn_X8_canTread_41
        rw [nI_add]
        -- the value at a place of the trail
        have hv : ∀ i, i ≤ s0.1.length - 1 + k → ta + e ≤ i → h.1 29 i = nI (st.1.getD (s0.1.length + k - 1 - i) 99) := by
          intro i h1 h2
          have := c4 (s0.1.length + k - 1 - i) (by omega)
          rw [show s0.1.length + k - 1 - (s0.1.length + k - 1 - i) = i by omega] at this
          exact this
        have hvl : ∀ i, ta + e ≤ i → i ≤ s0.1.length - 1 + k → st.1.getD (s0.1.length + k - 1 - i) 99 < 2 ^ 31 := by
          intro i h1 h2
          have := (ws.2.2.1 _ (y_getD_mem (show s0.1.length + k - 1 - i < st.1.length by omega))).1
          omega
        by_cases e99 : p_to m wt st d = 99
        · -- NONE: the answer stays false
          have hf0 : f = false := by
            cases f with
            | false => rfl
            | true => exact absurd e99 (hf.mp rfl)
          have stay : ∀ (j q n : Nat), q + j = s0.1.length + k → j < n → y_W (tk_X8_canTread_44 h n (p_i (p_to m wt st d)) (nI (s0.1.length - 1 + k)) (nI 0) (nI q)) (fn_X8_canTread_44 h n (p_i (p_to m wt st d)) (nI (s0.1.length - 1 + k)) (nI 0) (nI q)) (fun r => r = some (.int (nI 0))) := by
            intro j
            induction j with
            | zero =>
              intro q n hq hn
              cases n with
              | zero => omega
              | succ n =>
                unfold tk_X8_canTread_44 fn_X8_canTread_44
                dsimp only
                exact y_pos (nI_lt (by omega) (by omega)) ⟨Or.inl rfl, rfl⟩
            | succ j ih =>
              intro q n hq hn
              cases n with
              | zero => omega
              | succ n =>
                unfold tk_X8_canTread_44 fn_X8_canTread_44 tk_X8_canTread_70 fn_X8_canTread_70 tk_X8_canTread_71 fn_X8_canTread_71
                dsimp only
                rw [nI_add]
                exact y_neg (nI_nlt (by omega) (by omega)) (y_pos rfl (ih (q + 1) n (by omega) (by omega)))
          rw [hf0, if_neg (fun z => (p_can_iff.mp z).1 e99)]
          exact stay (s0.1.length + k - (ta + e)) (ta + e) 2000 (by omega) (by omega)
        · have l36 := hlt.resolve_right e99
          have hf1 : f = true := hf.mpr e99
          rw [p_i_n e99, hf1]
          refine y_mono (r_can44 hv (by omega) (by omega) hvl (s0.1.length + k - (ta + e)) (ta + e) true 2000 (by omega) (by omega) (Nat.le_refl _) ⟨fun _ i h1 h2 => by omega, fun _ => rfl⟩) (fun q => ?_)
          obtain ⟨b, q1, q2⟩ := q
          rw [q1]
          have : b = p_can m wt st d := by
            rw [Bool.eq_iff_iff, q2, p_can_iff]
            constructor
            · intro z
              refine ⟨e99, fun w => ?_⟩
              obtain ⟨i, h1, h2⟩ := (p_st_ex st _).mpr w
              refine z (s0.1.length + k - 1 - i) (by omega) (by omega) ?_
              rw [show s0.1.length + k - 1 - (s0.1.length + k - 1 - i) = i by omega]
              exact h2
            · rintro ⟨-, w⟩ i h1 h2 z
              exact w ((p_st_ex st _).mp ⟨s0.1.length + k - 1 - i, by omega, z⟩)
          rw [this]
      unfold tk_X8_canTread_19 fn_X8_canTread_19
      rw [nI_clamp (by omega : k < 2 ^ 31), c1, c2]
      refine y_req (vp_in_nI (by omega) (by decide)) (y_req (vp_in_nI (by omega) (by decide)) ?_)
      refine y_le st.2.1 0 rfl rfl (fun z => go41 1 (by rw [if_neg (by omega)])) (fun z => go41 0 (by rw [if_pos z]))
    refine y_none (p_to m wt st d) rfl (fun e => go false ⟨fun z => (by cases z), fun z => absurd e z⟩) (fun e => go true ⟨fun _ => e, fun _ => rfl⟩)
  exact W
theorem r_tread91 {k ow ea : Nat} {h1 : z_H} (hk : k ≤ 5) (how : ow ≤ 4000) (hea : ea ≤ 40) (h31 : h1.1 31 k = nI ow) (h32 : h1.1 32 k = nI ea) (b : Bool) : y_W (tk_X8_tread_91 (nI k) (if b = true then nI 1 else nI 0) h1) (fn_X8_tread_91 (nI k) (if b = true then nI 1 else nI 0) h1) (fun r => r = (none, z_set (z_set (z_set h1 31 (k + 1) (nI (ow - 1 + if b = true then 2 else 0))) 32 (k + 1) (nI (ea + if b = true then 1 else 0))) 33 (k + 1) (nI 0))) := by
  have i1 : vp_in (nI k) 8 := vp_in_nI (by omega) (by decide)
  have i2 : vp_in (nI (k + 1)) 8 := vp_in_nI (by omega) (by decide)
  have go : ∀ e : Nat, e = (if ow ≤ 0 then 0 else 1) → y_W (tk_X8_tread_119 (nI k) (if b = true then nI 1 else nI 0) (nI e) (nI ow) (nI (k + 1)) h1) (fn_X8_tread_119 (nI k) (if b = true then nI 1 else nI 0) (nI e) (nI ow) (nI (k + 1)) h1) (fun r => r = (none, z_set (z_set (z_set h1 31 (k + 1) (nI (ow - 1 + if b = true then 2 else 0))) 32 (k + 1) (nI (ea + if b = true then 1 else 0))) 33 (k + 1) (nI 0))) := by
    intro e he
    have he2 : e ≤ ow ∧ ow - e = ow - 1 := by
      rw [he]; split <;> omega
    unfold tk_X8_tread_119 fn_X8_tread_119 tk_X8_tread_129 fn_X8_tread_129 tk_X8_tread_153 fn_X8_tread_153
    rw [pk_sub he2.1, he2.2, nI_add, nI_add, nI_add, nI_clamp (by omega : k + 1 < 2 ^ 31), nI_clamp (by omega : k < 2 ^ 31), h32, nI_add, nI_add]
    cases b with
    | false => exact y_pos rfl (y_req i2 (y_req i1 (y_pos rfl ⟨⟨i2, i2⟩, rfl⟩)))
    | true => exact y_neg i1_ne0 (y_req i2 (y_req i1 (y_neg i1_ne0 ⟨⟨i2, i2⟩, rfl⟩)))
  unfold tk_X8_tread_91 fn_X8_tread_91
  rw [nI_clamp (by omega : k < 2 ^ 31), h31, nI_add]
  refine y_req i1 (y_req i1 ?_)
  exact y_le ow 0 rfl rfl (fun z => go 0 (by rw [if_pos z])) (fun z => go 1 (by rw [if_neg (by omega)]))
theorem r_tread {m : Nat} {wt : Nat → Nat} {s0 st : p_St} {k ta ea : Nat} {h : z_H} (hl : 0 < s0.1.length) (hl36 : s0.1.length ≤ 36) (hk : k ≤ 5) (h12 : h.1 20 12 = nI s0.1.length) (h8 : h.1 20 8 = nI s0.2.2.length) (h27 : ∀ i, i < s0.2.2.length → h.1 27 i = nI (s0.2.2.getD i 99)) (hf40 : s0.2.2.length ≤ 40) (hf36 : ∀ c ∈ s0.2.2, c < 36) (hC : r_Cf s0 st k ta ea h) (ws : y_ws m st) {d : Nat} (hd4 : d < 4) (hc : p_can m wt st d = true) :
    y_W (tk_X8_tread (nI k) (nI (p_to m wt st d)) h) (fn_X8_tread (nI k) (nI (p_to m wt st d)) h) (fun r => r_Cf s0 (p_adv m wt st d) (k + 1) (ta + if 0 < st.2.1 then 0 else 1) (ea + if p_eats m wt st d = true then 1 else 0) r.2 ∧ r.2.1 33 (k + 1) = nI 0 ∧ r.2.1 33 k = h.1 33 k ∧ r_fz s0.1.length k h r.2) := by
  obtain ⟨c1, c2, c3, c4, c5, c6, c7⟩ := hC
  have hls := y_ws_len ws
  have hsl := p_st_len st
  have h6 := ws.2.2.2.2.2
  obtain ⟨x1, x2⟩ := p_can_iff.mp hc
  have l36 := (p_to_lt (wt := wt) ws hd4).resolve_right x1
  have hpst : ta + (if 0 < st.2.1 then 0 else 1) + ((p_st st).length + 1) = s0.1.length + (k + 1) := by
    rw [hsl]; split <;> omega
  have hFl : st.2.2.length = s0.2.2.length - ea := by rw [c6, List.length_drop]
  have hF0 : st.2.2.getD 0 99 = s0.2.2.getD ea 99 := by
    rw [c6, List.getD_eq_getElem?_getD, List.getElem?_drop, Nat.add_zero, ← List.getD_eq_getElem?_getD]
  have heats : p_eats m wt st d = true ↔ ea < s0.2.2.length ∧ s0.2.2.getD ea 99 = p_to m wt st d := by
    rw [p_eats_iff, hFl, hF0]
    exact ⟨fun z => ⟨by omega, z.2⟩, fun z => ⟨by omega, z.2⟩⟩
  -- the heap behind all
  have W : ∀ e1 : Nat, e1 = (if 0 < st.2.1 then 0 else 1) → y_W (tk_X8_tread_39 (nI k) (nI (p_to m wt st d)) (nI e1) (nI ta) (nI (k + 1)) (z_set h 29 (s0.1.length + k) (nI (p_to m wt st d)))) (fn_X8_tread_39 (nI k) (nI (p_to m wt st d)) (nI e1) (nI ta) (nI (k + 1)) (z_set h 29 (s0.1.length + k) (nI (p_to m wt st d)))) (fun r => r = (none, z_set (z_set (z_set (z_set (z_set h 29 (s0.1.length + k) (nI (p_to m wt st d))) 30 (k + 1) (nI (ta + e1))) 31 (k + 1) (nI (st.2.1 - 1 + if p_eats m wt st d = true then 2 else 0))) 32 (k + 1) (nI (ea + if p_eats m wt st d = true then 1 else 0))) 33 (k + 1) (nI 0))) := by
    intro e1 he1
    have i1 : vp_in (nI k) 8 := vp_in_nI (by omega) (by decide)
    have i2 : vp_in (nI (k + 1)) 8 := vp_in_nI (by omega) (by decide)
    have g91 := r_tread91 (k := k) (ow := st.2.1) (ea := ea) (h1 := z_set (z_set h 29 (s0.1.length + k) (nI (p_to m wt st d))) 30 (k + 1) (nI (ta + e1))) hk (by omega) (by omega) (by rw [z_set_ne (by decide), z_set_ne (by decide)]; exact c2) (by rw [z_set_ne (by decide), z_set_ne (by decide)]; exact c3)
    have g27 : ∀ i, (z_set (z_set h 29 (s0.1.length + k) (nI (p_to m wt st d))) 30 (k + 1) (nI (ta + e1))).1 27 i = h.1 27 i := fun i => by rw [z_set_ne (by decide), z_set_ne (by decide)]
    unfold tk_X8_tread_39 fn_X8_tread_39 tk_X8_tread_90 fn_X8_tread_90
    rw [nI_clamp (by omega : k < 2 ^ 31), nI_clamp (by omega : k + 1 < 2 ^ 31), z_set_ne (by decide : 20 ≠ 29), z_set_ne (by decide : 32 ≠ 29), h8, c3, nI_add]
    refine y_req i2 (y_req i1 ?_)
    refine y_le s0.2.2.length ea rfl rfl (fun z => ?_) (fun z => ?_)
    · have e0 : p_eats m wt st d = false := by
        cases q : p_eats m wt st d with
        | false => rfl
        | true => have := (heats.mp q).1; omega
      rw [e0]
      exact g91 false
    · refine y_req i1 (y_neg (nI_ge z (by omega)) (y_req i1 ?_))
      unfold tk_X8_tread_81 fn_X8_tread_81 tk_X8_tread_90 fn_X8_tread_90
      rw [nI_clamp (by omega : ea < 2 ^ 31), g27, h27 ea z]
      refine y_req (vp_in_nI (by omega) (by decide)) ?_
      have hfe := hf36 _ (y_getD_mem z)
      refine y_eq (s0.2.2.getD ea 99) (p_to m wt st d) rfl rfl (fun q => ?_) (fun q => ?_)
      · rw [heats.mpr ⟨z, q⟩]
        exact g91 true
      · have e0 : p_eats m wt st d = false := by
          cases w : p_eats m wt st d with
          | false => rfl
          | true => exact absurd (heats.mp w).2 q
        rw [e0]
        exact g91 false
  have fin : ∀ e1 : Nat, e1 = (if 0 < st.2.1 then 0 else 1) → ∀ h' : z_H, h' = z_set (z_set (z_set (z_set (z_set h 29 (s0.1.length + k) (nI (p_to m wt st d))) 30 (k + 1) (nI (ta + e1))) 31 (k + 1) (nI (st.2.1 - 1 + if p_eats m wt st d = true then 2 else 0))) 32 (k + 1) (nI (ea + if p_eats m wt st d = true then 1 else 0))) 33 (k + 1) (nI 0) → r_Cf s0 (p_adv m wt st d) (k + 1) (ta + if 0 < st.2.1 then 0 else 1) (ea + if p_eats m wt st d = true then 1 else 0) h' ∧ h'.1 33 (k + 1) = nI 0 ∧ h'.1 33 k = h.1 33 k ∧ r_fz s0.1.length k h h' := by
    intro e1 he1 h' e
    rw [← he1]
    subst e
    refine ⟨⟨?_, ?_, ?_, fun i hi => ?_, ?_, ?_, ?_⟩, y_sh, ?_, fun i hi => ?_, fun i hi => ⟨?_, ?_, ?_⟩, fun i hi => ?_, ?_⟩
    · rw [z_set_ne (by decide), z_set_ne (by decide), z_set_ne (by decide), y_sh]
    · rw [z_set_ne (by decide), z_set_ne (by decide), y_sh]; rfl
    · rw [z_set_ne (by decide), y_sh]
    · have hi : i < (p_st st).length + 1 := hi
      rw [z_set_ne (by decide), z_set_ne (by decide), z_set_ne (by decide), z_set_ne (by decide), y_sif]
      cases i with
      | zero => rw [if_pos (by omega)]; rfl
      | succ i =>
        have hst : (p_st st).length ≤ st.1.length := by rw [hsl]; split <;> omega
        rw [if_neg (by omega)]
        show _ = nI ((p_st st).getD i 99)
        rw [p_st_getD (by omega), ← c4 i (by omega), show s0.1.length + (k + 1) - 1 - (i + 1) = s0.1.length + k - 1 - i by omega]
    · rw [he1]; exact hpst
    · show (if p_eats m wt st d = true then st.2.2.tail else st.2.2) = _
      by_cases q : p_eats m wt st d = true
      · rw [if_pos q, if_pos q, c6, List.tail_drop]
      · rw [if_neg q, if_neg q, Nat.add_zero, c6]
    · by_cases q : p_eats m wt st d = true
      · rw [if_pos q]; have := (heats.mp q).1; omega
      · rw [if_neg q]; omega
    · rw [y_sk (by omega), z_set_ne (by decide), z_set_ne (by decide), z_set_ne (by decide), z_set_ne (by decide)]
    · rw [z_set_ne (by decide), z_set_ne (by decide), z_set_ne (by decide), z_set_ne (by decide), y_sk (by omega)]
    · rw [z_set_ne (by decide), z_set_ne (by decide), z_set_ne (by decide), y_sk (by omega), z_set_ne (by decide)]
    · rw [z_set_ne (by decide), z_set_ne (by decide), y_sk (by omega), z_set_ne (by decide), z_set_ne (by decide)]
    · rw [z_set_ne (by decide), y_sk (by omega), z_set_ne (by decide), z_set_ne (by decide), z_set_ne (by decide)]
    · rw [y_sk (by omega), z_set_ne (by decide), z_set_ne (by decide), z_set_ne (by decide), z_set_ne (by decide)]
    · exact y_fr_set (y_fr_set (y_fr_set (y_fr_set (y_fr_set y_fr_refl (by decide)) (by decide)) (by decide)) (by decide)) (by decide)
  unfold tk_X8_tread fn_X8_tread
  rw [h12, nI_add, nI_add, nI_clamp (by omega : k < 2 ^ 31), nI_clamp (by omega : s0.1.length + k < 2 ^ 31), c1, c2]
  refine y_req (vp_in_nI (by omega) (by decide)) (y_req (vp_in_nI (by omega) (by decide)) (y_req (vp_in_nI (by omega) (by decide)) ?_))
  refine y_le st.2.1 0 rfl rfl (fun z => ?_) (fun z => ?_)
  · exact y_mono (W 1 (by rw [if_neg (by omega)])) (fun q => by rw [q]; exact fin 1 (by rw [if_neg (by omega)]) _ rfl)
  · exact y_mono (W 0 (by rw [if_pos z])) (fun q => by rw [q]; exact fin 0 (by rw [if_pos z]) _ rfl)
