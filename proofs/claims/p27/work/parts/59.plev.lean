/-! ===== pure: walks, by levels ===== -/
/-- so many living steps lead from a state to another one -/
def p_R (m : Nat) (wt : Nat → Nat) : Nat → p_St → p_St → Prop
  | 0, s, t => t = s
  | n + 1, s, t => ∃ d, d < 4 ∧ p_can m wt s d = true ∧ p_R m wt n (p_adv m wt s d) t
theorem p_R_last {m : Nat} {wt : Nat → Nat} : ∀ n s t, p_R m wt (n + 1) s t ↔ ∃ u d, p_R m wt n s u ∧ d < 4 ∧ p_can m wt u d = true ∧ t = p_adv m wt u d
  | 0, s, t => by
    constructor
    · rintro ⟨d, h1, h2, h3⟩; exact ⟨s, d, rfl, h1, h2, h3⟩
    · rintro ⟨u, d, h1, h2, h3, h4⟩
      have h1 : u = s := h1
      subst h1
      exact ⟨d, h2, h3, h4⟩
  | n + 1, s, t => by
    constructor
    · rintro ⟨d, h1, h2, h3⟩
      obtain ⟨u, e, g1, g2, g3, g4⟩ := (p_R_last n _ t).mp h3
      exact ⟨u, e, ⟨d, h1, h2, g1⟩, g2, g3, g4⟩
    · rintro ⟨u, e, ⟨d, h1, h2, g1⟩, g2, g3, g4⟩
      exact ⟨d, h1, h2, (p_R_last n _ t).mpr ⟨u, e, g1, g2, g3, g4⟩⟩
/-- behind so many living steps, one more can eat -/
def p_A (m : Nat) (wt : Nat → Nat) (n : Nat) (s : p_St) : Prop := ∃ t, p_R m wt n s t ∧ ∃ d, d < 4 ∧ p_can m wt t d = true ∧ p_eats m wt t d = true
theorem p_E_A {m : Nat} {wt : Nat → Nat} : ∀ n s, p_E m wt n s = true ↔ ∃ k, k < n ∧ p_A m wt k s
  | 0, s => ⟨fun h => (by cases h), fun ⟨k, h, _⟩ => absurd h (Nat.not_lt_zero k)⟩
  | n + 1, s => by
    rw [p_E_s]
    constructor
    · rintro ⟨d, h1, h2, h3⟩
      rcases h3 with h3 | h3
      · exact ⟨0, Nat.succ_pos n, s, rfl, d, h1, h2, h3⟩
      · obtain ⟨k, g1, t, g2, g3⟩ := (p_E_A n _).mp h3
        exact ⟨k + 1, by omega, t, ⟨d, h1, h2, g2⟩, g3⟩
    · rintro ⟨k, h1, t, h2, d, h3, h4, h5⟩
      cases k with
      | zero =>
        have h2 : t = s := h2
        subst h2
        exact ⟨d, h3, h4, Or.inl h5⟩
      | succ k =>
        obtain ⟨e, g1, g2, g3⟩ := h2
        exact ⟨e, g1, g2, Or.inr ((p_E_A n _).mpr ⟨k, by omega, t, g3, d, h3, h4, h5⟩)⟩
/-- the state behind a way, two bits a step, the last step lowest -/
def p_wk (m : Nat) (wt : Nat → Nat) (s : p_St) : Nat → Nat → p_St
  | 0, _ => s
  | n + 1, w => p_adv m wt (p_wk m wt s n (w / 4)) (w % 4)
def p_al (m : Nat) (wt : Nat → Nat) (s : p_St) : Nat → Nat → Prop
  | 0, _ => True
  | n + 1, w => p_al m wt s n (w / 4) ∧ p_can m wt (p_wk m wt s n (w / 4)) (w % 4) = true
/-- the ways one step further, directions below some -/
def p_ch4 (m : Nat) (wt : Nat → Nat) (t : p_St) (w j : Nat) : List Nat := ((List.range j).filter (fun d => p_can m wt t d)).map (fun d => 4 * w + d)
def p_nxt (m : Nat) (wt : Nat → Nat) (s : p_St) (n : Nat) (L : List Nat) : List Nat := L.flatMap (fun w => p_ch4 m wt (p_wk m wt s n w) w 4)
def p_Lv (m : Nat) (wt : Nat → Nat) (s : p_St) : Nat → List Nat
  | 0 => [0]
  | n + 1 => p_nxt m wt s n (p_Lv m wt s n)
theorem p_ch4_mem {m : Nat} {wt : Nat → Nat} {t : p_St} {w j x : Nat} : x ∈ p_ch4 m wt t w j ↔ ∃ d, d < j ∧ p_can m wt t d = true ∧ x = 4 * w + d := by
  unfold p_ch4
  rw [List.mem_map]
  constructor
  · rintro ⟨d, h1, h2⟩
    rw [List.mem_filter, List.mem_range] at h1
    exact ⟨d, h1.1, h1.2, h2.symm⟩
  · rintro ⟨d, h1, h2, h3⟩
    exact ⟨d, List.mem_filter.mpr ⟨List.mem_range.mpr h1, h2⟩, h3.symm⟩
theorem p_ch4_len {m : Nat} {wt : Nat → Nat} {t : p_St} {w j : Nat} : (p_ch4 m wt t w j).length ≤ j := by
  unfold p_ch4
  rw [List.length_map]
  exact Nat.le_trans (List.length_filter_le _ _) (by rw [List.length_range]; exact Nat.le_refl j)
theorem p_nxt_len {m : Nat} {wt : Nat → Nat} {s : p_St} {n : Nat} : ∀ L, (p_nxt m wt s n L).length ≤ 4 * L.length
  | [] => Nat.le_refl 0
  | w :: L => by
    have := p_nxt_len (m := m) (wt := wt) (s := s) (n := n) L
    unfold p_nxt at this ⊢
    rw [List.flatMap_cons, List.length_append, List.length_cons]
    have h4 := p_ch4_len (m := m) (wt := wt) (t := p_wk m wt s n w) (w := w) (j := 4)
    omega
theorem p_Lv_len {m : Nat} {wt : Nat → Nat} {s : p_St} : ∀ n, (p_Lv m wt s n).length ≤ 4 ^ n
  | 0 => Nat.le_refl 1
  | n + 1 => by
    have h1 := p_Lv_len (m := m) (wt := wt) (s := s) n
    have h2 := p_nxt_len (m := m) (wt := wt) (s := s) (n := n) (p_Lv m wt s n)
    have : (4 : Nat) ^ (n + 1) = 4 * 4 ^ n := by rw [Nat.pow_succ, Nat.mul_comm]
    show (p_nxt m wt s n (p_Lv m wt s n)).length ≤ _
    omega
theorem p_Lv_ok {m : Nat} {wt : Nat → Nat} {s : p_St} : ∀ n, (∀ w ∈ p_Lv m wt s n, w < 4 ^ n ∧ p_al m wt s n w ∧ p_R m wt n s (p_wk m wt s n w)) ∧ ∀ t, p_R m wt n s t → ∃ w, w ∈ p_Lv m wt s n ∧ p_wk m wt s n w = t
  | 0 => ⟨fun w hw => ⟨by rw [List.mem_singleton.mp hw]; decide, trivial, rfl⟩, fun t ht => ⟨0, List.mem_singleton.mpr rfl, ht.symm⟩⟩
  | n + 1 => by
    obtain ⟨i1, i2⟩ := p_Lv_ok (m := m) (wt := wt) (s := s) n
    have e4 : (4 : Nat) ^ (n + 1) = 4 * 4 ^ n := by rw [Nat.pow_succ, Nat.mul_comm]
    constructor
    · intro x hx
      obtain ⟨w, h1, h2⟩ := List.mem_flatMap.mp hx
      obtain ⟨d, g1, g2, g3⟩ := p_ch4_mem.mp h2
      obtain ⟨j1, j2, j3⟩ := i1 w h1
      have q1 : x / 4 = w := by omega
      have q2 : x % 4 = d := by omega
      refine ⟨by omega, ?_, ?_⟩
      · show p_al m wt s n (x / 4) ∧ p_can m wt (p_wk m wt s n (x / 4)) (x % 4) = true
        rw [q1, q2]; exact ⟨j2, g2⟩
      · refine (p_R_last n s _).mpr ⟨p_wk m wt s n w, d, j3, g1, g2, ?_⟩
        show p_adv m wt (p_wk m wt s n (x / 4)) (x % 4) = _
        rw [q1, q2]
    · intro t ht
      obtain ⟨u, d, g1, g2, g3, g4⟩ := (p_R_last n s t).mp ht
      obtain ⟨w, h1, h2⟩ := i2 u g1
      refine ⟨4 * w + d, List.mem_flatMap.mpr ⟨w, h1, p_ch4_mem.mpr ⟨d, g2, by rw [h2]; exact g3, rfl⟩⟩, ?_⟩
      show p_adv m wt (p_wk m wt s n ((4 * w + d) / 4)) ((4 * w + d) % 4) = t
      rw [show (4 * w + d) / 4 = w by omega, show (4 * w + d) % 4 = d by omega, h2, g4]
theorem p_A_Lv {m : Nat} {wt : Nat → Nat} {s : p_St} {n : Nat} : p_A m wt n s ↔ ∃ w, w ∈ p_Lv m wt s n ∧ ∃ d, d < 4 ∧ p_can m wt (p_wk m wt s n w) d = true ∧ p_eats m wt (p_wk m wt s n w) d = true := by
  obtain ⟨i1, i2⟩ := p_Lv_ok (m := m) (wt := wt) (s := s) n
  constructor
  · rintro ⟨t, h1, h2⟩
    obtain ⟨w, g1, g2⟩ := i2 t h1
    exact ⟨w, g1, by rw [g2]; exact h2⟩
  · rintro ⟨w, h1, h2⟩
    exact ⟨_, (i1 w h1).2.2, h2⟩
theorem p_wk_ws {m : Nat} {wt : Nat → Nat} {s : p_St} (ws : y_ws m s) : ∀ n w, p_al m wt s n w → y_ws m (p_wk m wt s n w)
  | 0, _, _ => ws
  | n + 1, w, h => y_ws_adv (Nat.mod_lt _ (by decide)) (p_wk_ws ws n (w / 4) h.1) h.2
/-! the heaps along a way -/
def k_hs (h : z_H) : Nat → Nat → z_H
  | 0, _ => h
  | n + 1, w => fh_X6_advance (k_hs h n (w / 4)) (nI (w % 4))
def k_hd (hd n : Nat) : Nat := (hd + 63 * n) % 64
def k_ff (m : Nat) (wt : Nat → Nat) (s : p_St) (f0 : Nat) : Nat → Nat → Nat
  | 0, _ => f0
  | n + 1, w => k_f0 m wt (p_wk m wt s n (w / 4)) (w % 4) (k_ff m wt s f0 n (w / 4))
theorem k_walk {m : Nat} {wt : Nat → Nat} {s : p_St} {hd f0 : Nat} {h : z_H} (hw : y_wf m wt) (ws : y_ws m s) (hR : y_RC m wt s hd f0 h) : ∀ n w, p_al m wt s n w → y_RC m wt (p_wk m wt s n w) (k_hd hd n) (k_ff m wt s f0 n w) (k_hs h n w) ∧ k_near h (k_hs h n w)
  | 0, w, _ => ⟨by
      have : k_hd hd 0 = hd := by unfold k_hd; have := hR.2.1.1; omega
      rw [this]; exact hR, k_near_refl h⟩
  | n + 1, w, ha => by
    obtain ⟨i1, i2⟩ := k_walk hw ws hR n (w / 4) ha.1
    obtain ⟨a1, a2, a3, a4⟩ := k_adv hw i1 (p_wk_ws ws n (w / 4) ha.1) (Nat.mod_lt w (show 0 < 4 by decide)) ha.2
    have e : (k_hd hd n + 63) % 64 = k_hd hd (n + 1) := by unfold k_hd; omega
    rw [e] at a1
    exact ⟨a1, k_near_trans i2 a4⟩
/-- near, but for some more objects -/
def k_nO (os : List Nat) (h h' : z_H) : Prop := y_fr os h h' ∧ (∀ b, b ≠ 4 → b ≠ 5 → b ≠ 6 → h'.1 10 b = h.1 10 b)
theorem k_nO_refl {os : List Nat} {h : z_H} : k_nO os h h := ⟨y_fr_refl, fun _ _ _ _ => rfl⟩
theorem k_nO_of {os : List Nat} {h h' : z_H} (f : k_near h h') (hos : ∀ a ∈ [8, 10, 11, 12], a ∈ os) : k_nO os h h' := ⟨y_fr_mono f.1 hos, f.2⟩
theorem k_nO_trans {os : List Nat} {h h' h'' : z_H} (f : k_nO os h h') (g : k_nO os h' h'') : k_nO os h h'' := ⟨y_fr_trans f.1 g.1, fun b h1 h2 h3 => (g.2 b h1 h2 h3).trans (f.2 b h1 h2 h3)⟩
theorem k_back3 {os : List Nat} (hos : ∀ a ∈ [8, 10, 11, 12], a ∈ os) (h9 : 9 ∉ os) {m : Nat} {wt : Nat → Nat} {s : p_St} {hd f0 : Nat} {h h2 : z_H} (hw : y_wf m wt) (hR : y_RC m wt s hd f0 h) (ws : y_ws m s) {d : Nat} (hd4 : d < 4) (hc : p_can m wt s d = true) {k : Nat} (hk : k ≤ 6) (hR2 : y_RC m wt (p_adv m wt s d) ((hd + 63) % 64) (k_f0 m wt s d f0) h2) (hn : k_nO os (fh_X6_advance h (nI d)) h2) (hr : y_rs ((hd + 63) % 64) k (fh_X6_advance h (nI d)) h2) :
    y_RC m wt s hd f0 (fh_X6_takeBack h2) ∧ k_nO os h (fh_X6_takeBack h2) ∧ y_rs hd (k + 1) h (fh_X6_takeBack h2) ∧ k_near h2 (fh_X6_takeBack h2) := by
  obtain ⟨a1, a2, a3, a4⟩ := k_adv hw hR ws hd4 hc
  have hl := y_ws_len ws
  have hd64 := hR.2.1.1
  have hf64 := hR.2.2.1
  have e12 : h2.1 12 ((hd + 63) % 64) = nI (p_deed m wt s d) := by
    rw [(hr _ (Nat.mod_lt _ (by decide)) (fun i hi => by omega)).2]; exact a2
  have htail : h2.1 11 ((hd + (s.1.length - 1)) % 64) = nI (s.1.getD (s.1.length - 1) 99) := by
    rw [(hr _ (Nat.mod_lt _ (by decide)) (fun i hi => by omega)).1, (a3 _ (by omega)).1]
    exact hR.2.1.2.2.2.2.1 _ (by omega)
  have hfd : p_eats m wt s d = true → h2.1 9 f0 = nI (s.2.2.getD 0 99) := fun e => by
    rw [y_fr_at hn.1 9 h9, y_fr_at a4.1 9]
    have := hR.2.2.2.2.2 0 (p_eats_iff.mp e).1
    rw [Nat.add_zero, Nat.mod_eq_of_lt hf64] at this
    exact this
  obtain ⟨b1, b2, b3, b4⟩ := k_back ws hd4 hc hd64 hf64 hR2 e12 htail hfd
  refine ⟨b1, k_nO_trans (k_nO_trans (k_nO_of a4 hos) hn) (k_nO_of b4 hos), fun b hb hw => ?_, b4⟩
  rw [b2, b3]
  have h1 := hw 0 (by omega)
  have h2' := hr b hb (fun i hi => by have := hw (i + 1) (by omega); omega)
  rw [h2'.1, h2'.2]
  exact a3 b (by omega)
/-- the row of ways at the object o -/
def y_LB (o : Nat) (L : List Nat) (h : z_H) : Prop := L.length ≤ 1024 ∧ h.1 o 1 = nI L.length ∧ ∀ i, i < L.length → h.1 (o + 1) i = nI (L.getD i 99)
theorem y_LB_fr {o : Nat} {L : List Nat} {os : List Nat} {h h' : z_H} (hL : y_LB o L h) (hF : y_fr os h h') (h1 : o ∉ os) (h2 : o + 1 ∉ os) : y_LB o L h' := ⟨hL.1, by rw [y_fr_at hF o h1]; exact hL.2.1, fun i hi => by rw [y_fr_at hF (o + 1) h2]; exact hL.2.2 i hi⟩
theorem y_shl {w d : Nat} (hw : w < 2 ^ 20) (hd : d < 4) : (nI w <<< (nI 2 &&& 31)) ||| nI d = nI (4 * w + d) := by
  rw [pk_shlN (nI 2 &&& 31) 2 (by decide) (by omega), q_or]
  congr 1
  have := Nat.two_pow_add_eq_or_of_lt (i := 2) (b := d) (by omega) w
  rw [Nat.mul_comm w, ← this]
theorem y_take {A C : List Nat} : (A.take 1024 ++ C).take 1024 = (A ++ C).take 1024 := by
  by_cases h : A.length ≤ 1024
  · rw [List.take_of_length_le h]
  · have h1 : (A.take 1024).length = 1024 := by rw [List.length_take]; omega
    rw [List.take_append_of_le_length (by omega), List.take_append_of_le_length (by omega), List.take_take, Nat.min_self]
