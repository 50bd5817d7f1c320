/-! ===== pure: walks, by depth ===== -/
def p_Df (g : Nat → Nat) (can : Nat → Bool) : Nat → Nat → Nat
  | 0, z => z
  | j + 1, z => p_Df g can j (if can (3 - j) = true then max z (g (3 - j)) else z)
/-- the longest walk, of at most so many steps -/
def p_D (m : Nat) (wt : Nat → Nat) : Nat → p_St → Nat
  | 0, _ => 0
  | k + 1, s => p_Df (fun d => 1 + p_D m wt k (p_adv m wt s d)) (p_can m wt s) 4 0
theorem p_Df_le {g : Nat → Nat} {can : Nat → Bool} {M : Nat} (hg : ∀ d, g d ≤ M) : ∀ j z, z ≤ M → p_Df g can j z ≤ M
  | 0, z, h => h
  | j + 1, z, h => by
    unfold p_Df
    refine p_Df_le hg j _ ?_
    split
    · exact Nat.max_le.mpr ⟨h, hg _⟩
    · exact h
theorem p_Df_top {g : Nat → Nat} {can : Nat → Bool} {M : Nat} (hg : ∀ d, g d ≤ M) : ∀ j, p_Df g can j M = M
  | 0 => rfl
  | j + 1 => by
    unfold p_Df
    have : (if can (3 - j) = true then max M (g (3 - j)) else M) = M := by
      split
      · exact Nat.max_eq_left (hg _)
      · rfl
    rw [this]
    exact p_Df_top hg j
theorem p_D_le {m : Nat} {wt : Nat → Nat} : ∀ k s, p_D m wt k s ≤ k
  | 0, _ => Nat.le_refl _
  | k + 1, s => by
    unfold p_D
    exact p_Df_le (fun d => by have := p_D_le (m := m) (wt := wt) k (p_adv m wt s d); omega) 4 0 (Nat.zero_le _)
def p_Ef (g : Nat → Bool) : Nat → Bool → Bool
  | 0, z => z
  | j + 1, z => p_Ef g j (z || g (3 - j))
/-- can the first feed be eaten within so many steps? -/
def p_E (m : Nat) (wt : Nat → Nat) : Nat → p_St → Bool
  | 0, _ => false
  | k + 1, s => p_Ef (fun d => p_can m wt s d && (p_eats m wt s d || p_E m wt k (p_adv m wt s d))) 4 false
theorem p_Ef_true {g : Nat → Bool} : ∀ j, p_Ef g j true = true
  | 0 => rfl
  | j + 1 => by unfold p_Ef; exact p_Ef_true j
theorem p_Ef_iff {g : Nat → Bool} : ∀ j z, j ≤ 4 → (p_Ef g j z = true ↔ z = true ∨ ∃ d, 4 - j ≤ d ∧ d < 4 ∧ g d = true)
  | 0, z, _ => ⟨fun h => Or.inl h, fun h => h.resolve_right (fun ⟨d, h1, h2, _⟩ => by omega)⟩
  | j + 1, z, hj => by
    unfold p_Ef
    rw [p_Ef_iff j _ (by omega), Bool.or_eq_true]
    constructor
    · rintro ((h | h) | ⟨d, h1, h2, h3⟩)
      · exact Or.inl h
      · exact Or.inr ⟨3 - j, by omega, by omega, h⟩
      · exact Or.inr ⟨d, by omega, h2, h3⟩
    · rintro (h | ⟨d, h1, h2, h3⟩)
      · exact Or.inl (Or.inl h)
      · by_cases e : d = 3 - j
        · exact Or.inl (Or.inr (e ▸ h3))
        · exact Or.inr ⟨d, by omega, h2, h3⟩
theorem p_E_s {m : Nat} {wt : Nat → Nat} {k : Nat} {s : p_St} : p_E m wt (k + 1) s = true ↔ ∃ d, d < 4 ∧ p_can m wt s d = true ∧ (p_eats m wt s d = true ∨ p_E m wt k (p_adv m wt s d) = true) := by
  show p_Ef (fun d => p_can m wt s d && (p_eats m wt s d || p_E m wt k (p_adv m wt s d))) 4 false = true ↔ _
  rw [p_Ef_iff 4 false (Nat.le_refl 4)]
  constructor
  · rintro (h | ⟨d, h1, h2, h3⟩)
    · cases h
    · rw [Bool.and_eq_true, Bool.or_eq_true] at h3
      exact ⟨d, h2, h3.1, h3.2⟩
  · rintro ⟨d, h1, h2, h3⟩
    exact Or.inr ⟨d, by omega, h1, by rw [Bool.and_eq_true, Bool.or_eq_true]; exact ⟨h2, h3⟩⟩
theorem c_max (a b : Nat) (ha : a < 2 ^ 31) (hb : b < 2 ^ 31) : fv_J9_max_7cf53 (nI a) (nI b) = nI (max a b) := by
  unfold fv_J9_max_7cf53
  by_cases h : a < b
  · rw [if_pos (nI_lt h hb), Nat.max_eq_right (Nat.le_of_lt h)]
  · rw [if_neg (nI_nlt (by omega) ha), Nat.max_eq_left (by omega)]
/-- what a foreseeing call may leave changed -/
def k_seen (m : Nat) (wt : Nat → Nat) (s : p_St) (hd f0 k : Nat) (h h' : z_H) : Prop := y_RC m wt s hd f0 h' ∧ k_near h h' ∧ y_rs hd k h h'
theorem k_seen_trans {m : Nat} {wt : Nat → Nat} {s : p_St} {hd f0 k : Nat} {h h' h'' : z_H} (f : k_seen m wt s hd f0 k h h') (g : k_seen m wt s hd f0 k h' h'') : k_seen m wt s hd f0 k h h'' := ⟨g.1, k_near_trans f.2.1 g.2.1, y_rs_trans f.2.2 g.2.2⟩
theorem k_seen_back {m : Nat} {wt : Nat → Nat} {s : p_St} {hd f0 : Nat} {h h2 : z_H} (hw : y_wf m wt) (hR : y_RC m wt s hd f0 h) (ws : y_ws m s) {d : Nat} (hd4 : d < 4) (hc : p_can m wt s d = true) {k : Nat} (hk : k ≤ 6) (g : k_seen m wt (p_adv m wt s d) ((hd + 63) % 64) (k_f0 m wt s d f0) k (fh_X6_advance h (nI d)) h2) : k_seen m wt s hd f0 (k + 1) h (fh_X6_takeBack h2) := k_back2 hw hR ws hd4 hc hk g.1 g.2.1 g.2.2
def c_longP (m : Nat) (wt : Nat → Nat) (k : Nat) (rf : Int32 → z_H → z_R) (rt : Int32 → z_H → Prop) : Prop := ∀ (s : p_St) (hd f0 : Nat) (h : z_H), y_RC m wt s hd f0 h → y_ws m s → y_W (rt (nI k) h) (rf (nI k) h) (fun r => z_vi r = nI (p_D m wt k s) ∧ k_seen m wt s hd f0 k h r.2)
theorem c_long4 {m : Nat} {wt : Nat → Nat} (hw : y_wf m wt) {k : Nat} (hk6 : k ≤ 5) {rf : Int32 → z_H → z_R} {rt : Int32 → z_H → Prop} (hr : c_longP m wt k rf rt) {s : p_St} (ws : y_ws m s) {hd f0 : Nat} {h0 : z_H} : ∀ (j z : Nat) (h : z_H) (n : Nat), j ≤ 4 → j < n → z ≤ k + 1 → y_RC m wt s hd f0 h → k_seen m wt s hd f0 (k + 1) h0 h →
    y_W (tk_X4_longestFrom_4 rf rt n (nI (k + 1)) (nI z) (nI (4 - j)) h) (fn_X4_longestFrom_4 rf n (nI (k + 1)) (nI z) (nI (4 - j)) h) (fun r => z_vi r = nI (p_Df (fun d => 1 + p_D m wt k (p_adv m wt s d)) (p_can m wt s) j z) ∧ k_seen m wt s hd f0 (k + 1) h0 r.2)
  | 0, z, h, n + 1, hj, hn, hz, hR, hS => by
    unfold tk_X4_longestFrom_4 fn_X4_longestFrom_4
    dsimp only
    exact y_pos (nI_le (Nat.le_refl 4) (by decide)) (y_end ⟨rfl, hS⟩)
  | j + 1, z, h, n + 1, hj, hn, hz, hR, hS => by
    have hg : ∀ d, (fun d => 1 + p_D m wt k (p_adv m wt s d)) d ≤ k + 1 := fun d => by
      have := p_D_le (m := m) (wt := wt) k (p_adv m wt s d)
      show 1 + p_D m wt k (p_adv m wt s d) ≤ k + 1
      omega
    have ed : 4 - (j + 1) = 3 - j := by omega
    have hd4 : 3 - j < 4 := by omega
    have ih := c_long4 hw hk6 hr ws (hd := hd) (f0 := f0) (h0 := h0) j
    unfold tk_X4_longestFrom_4 fn_X4_longestFrom_4 tk_X4_longestFrom_40 fn_X4_longestFrom_40
    dsimp only
    rw [ed, nI_add, show 3 - j + 1 = 4 - j by omega]
    refine y_neg (nI_ge hd4 (by decide)) ?_
    refine y_le (k + 1) z rfl rfl (fun e => y_end ⟨?_, hS⟩) (fun e => ?_)
    · have : z = k + 1 := by omega
      rw [this, p_Df_top hg]; rfl
    · have eqs : p_Df (fun d => 1 + p_D m wt k (p_adv m wt s d)) (p_can m wt s) (j + 1) z = p_Df (fun d => 1 + p_D m wt k (p_adv m wt s d)) (p_can m wt s) j (if p_can m wt s (3 - j) = true then max z (1 + p_D m wt k (p_adv m wt s (3 - j))) else z) := rfl
      rw [eqs]
      cases hc : p_can m wt s (3 - j) with
      | false =>
        obtain ⟨n1, n2⟩ := k_advN hw hR ws hd4 hc
        rw [n1, n2, if_neg (by decide : ¬ false = true)]
        exact y_pos rfl (ih z h n (by omega) (by omega) hz hR hS)
      | true =>
        obtain ⟨a1, a2, a3, a4⟩ := k_adv hw hR ws hd4 hc
        have ws' := y_ws_adv hd4 ws hc
        rw [(k_advY hw hR ws hd4 hc).1, if_pos rfl, show nI (k + 1) - nI 1 = nI k by rw [pk_sub (by omega), Nat.add_sub_cancel]]
        obtain ⟨r1, r2, r3⟩ := hr _ _ _ _ a1 ws'
        refine y_neg i1_ne0 (y_req r1 ?_)
        rw [r2, nI_add]
        have hDk := p_D_le (m := m) (wt := wt) k (p_adv m wt s (3 - j))
        rw [c_max _ _ (by omega) (by omega)]
        have B := k_seen_back hw hR ws hd4 hc (by omega) r3
        exact ih _ _ n (by omega) (by omega) (Nat.max_le.mpr ⟨hz, by omega⟩) B.1 (k_seen_trans hS B)
theorem c_long0 {m : Nat} {wt : Nat → Nat} {rf : Int32 → z_H → z_R} {rt : Int32 → z_H → Prop} : c_longP m wt 0 (fn_X4_longestFrom rf) (tk_X4_longestFrom rf rt) := by
  intro s hd f0 h hR ws
  unfold tk_X4_longestFrom fn_X4_longestFrom tk_X4_longestFrom_4 fn_X4_longestFrom_4
  dsimp only
  exact y_neg (by decide) (y_pos (by decide) (y_end ⟨rfl, hR, k_near_refl h, y_rs_refl⟩))
theorem c_long {m : Nat} {wt : Nat → Nat} (hw : y_wf m wt) : ∀ (k n : Nat), k ≤ 6 → k < n → c_longP m wt k (fx_X4_longestFrom n) (tx_X4_longestFrom n)
  | 0, n + 1, _, _ => c_long0
  | k + 1, n + 1, hk, hn => by
    intro s hd f0 h hR ws
    exact c_long4 hw (by omega) (c_long hw k n (by omega) (by omega)) ws 4 0 h 2000 (Nat.le_refl 4) (by decide) (Nat.zero_le _) hR ⟨hR, k_near_refl h, y_rs_refl⟩
def c_eatP (m : Nat) (wt : Nat → Nat) (k : Nat) (rf : Int32 → z_H → z_R) (rt : Int32 → z_H → Prop) : Prop := ∀ (s : p_St) (hd f0 : Nat) (h : z_H), y_RC m wt s hd f0 h → y_ws m s → y_W (rt (nI k) h) (rf (nI k) h) (fun r => z_vi r = (if p_E m wt k s = true then nI 1 else nI 0) ∧ k_seen m wt s hd f0 k h r.2)
theorem c_just {m : Nat} {wt : Nat → Nat} {s : p_St} {hd f0 : Nat} {h : z_H} (hw : y_wf m wt) (hR : y_RC m wt s hd f0 h) (ws : y_ws m s) {d : Nat} (hd4 : d < 4) (hc : p_can m wt s d = true) : fv_X6_hasJustEaten (fh_X6_advance h (nI d)) = if p_eats m wt s d = true then nI 1 else nI 0 := by
  obtain ⟨a1, a2, a3, a4⟩ := k_adv hw hR ws hd4 hc
  obtain ⟨dl, d1, d2⟩ := p_deed_lt (m := m) (wt := wt) (s := s) (d := d)
  rw [k_eaten a1.2.1.1 a1.2.1.2.1 dl a2]
  by_cases e : p_eats m wt s d = true
  · rw [if_pos (d2.mpr e), if_pos e]
  · rw [if_neg (fun z => e (d2.mp z)), if_neg e]
theorem c_eat4 {m : Nat} {wt : Nat → Nat} (hw : y_wf m wt) {k : Nat} (hk6 : k ≤ 5) {rf : Int32 → z_H → z_R} {rt : Int32 → z_H → Prop} (hr : c_eatP m wt k rf rt) {s : p_St} (ws : y_ws m s) {hd f0 : Nat} {h0 : z_H} : ∀ (j : Nat) (z : Bool) (h : z_H) (n : Nat), j ≤ 4 → j < n → y_RC m wt s hd f0 h → k_seen m wt s hd f0 (k + 1) h0 h →
    y_W (tk_X4_eatsWithin_4 rf rt n (nI (k + 1)) (if z = true then nI 1 else nI 0) (nI (4 - j)) h) (fn_X4_eatsWithin_4 rf n (nI (k + 1)) (if z = true then nI 1 else nI 0) (nI (4 - j)) h) (fun r => z_vi r = (if p_Ef (fun d => p_can m wt s d && (p_eats m wt s d || p_E m wt k (p_adv m wt s d))) j z = true then nI 1 else nI 0) ∧ k_seen m wt s hd f0 (k + 1) h0 r.2)
  | 0, z, h, n + 1, hj, hn, hR, hS => by
    unfold tk_X4_eatsWithin_4 fn_X4_eatsWithin_4
    dsimp only
    exact y_pos (nI_le (Nat.le_refl 4) (by decide)) ⟨by cases z; exact Or.inl rfl; exact Or.inr rfl, rfl, hS⟩
  | j + 1, z, h, n + 1, hj, hn, hR, hS => by
    have ed : 4 - (j + 1) = 3 - j := by omega
    have hd4 : 3 - j < 4 := by omega
    have ih := c_eat4 hw hk6 hr ws (hd := hd) (f0 := f0) (h0 := h0) j
    unfold tk_X4_eatsWithin_4 fn_X4_eatsWithin_4 tk_X4_eatsWithin_42 fn_X4_eatsWithin_42 tk_X4_eatsWithin_47 fn_X4_eatsWithin_47 tk_X4_eatsWithin_52 fn_X4_eatsWithin_52
    dsimp only
    rw [ed, nI_add, show 3 - j + 1 = 4 - j by omega]
    refine y_neg (nI_ge hd4 (by decide)) (y_neg (nI_nle (Nat.succ_pos k) (by omega)) ?_)
    have eqs : p_Ef (fun d => p_can m wt s d && (p_eats m wt s d || p_E m wt k (p_adv m wt s d))) (j + 1) z = p_Ef (fun d => p_can m wt s d && (p_eats m wt s d || p_E m wt k (p_adv m wt s d))) j (z || (p_can m wt s (3 - j) && (p_eats m wt s (3 - j) || p_E m wt k (p_adv m wt s (3 - j))))) := rfl
    rw [eqs]
    cases z with
    | true =>
      rw [Bool.true_or, p_Ef_true]
      exact y_neg i1_ne0 ⟨Or.inr rfl, rfl, hS⟩
    | false =>
      refine y_pos rfl ?_
      cases hc : p_can m wt s (3 - j) with
      | false =>
        obtain ⟨n1, n2⟩ := k_advN hw hR ws hd4 hc
        rw [n1, n2]
        exact y_pos rfl (ih false h n (by omega) (by omega) hR hS)
      | true =>
        obtain ⟨a1, a2, a3, a4⟩ := k_adv hw hR ws hd4 hc
        have ws' := y_ws_adv hd4 ws hc
        rw [(k_advY hw hR ws hd4 hc).1, c_just hw hR ws hd4 hc, show nI (k + 1) - nI 1 = nI k by rw [pk_sub (by omega), Nat.add_sub_cancel]]
        refine y_neg i1_ne0 ?_
        cases he : p_eats m wt s (3 - j) with
        | true =>
          refine y_neg i1_ne0 ?_
          have B := k_seen_back hw hR ws hd4 hc (k := k) (by omega) ⟨a1, k_near_refl _, y_rs_refl⟩
          exact ih true _ n (by omega) (by omega) B.1 (k_seen_trans hS B)
        | false =>
          obtain ⟨r1, r2, r3⟩ := hr _ _ _ _ a1 ws'
          have B := k_seen_back hw hR ws hd4 hc (by omega) r3
          refine y_pos rfl (y_req r1 ?_)
          rw [r2]
          cases hE : p_E m wt k (p_adv m wt s (3 - j)) with
          | true => exact y_neg i1_ne0 (ih true _ n (by omega) (by omega) B.1 (k_seen_trans hS B))
          | false => exact y_pos rfl (ih false _ n (by omega) (by omega) B.1 (k_seen_trans hS B))
theorem c_eat0 {m : Nat} {wt : Nat → Nat} {rf : Int32 → z_H → z_R} {rt : Int32 → z_H → Prop} : c_eatP m wt 0 (fn_X4_eatsWithin rf) (tk_X4_eatsWithin rf rt) := by
  intro s hd f0 h hR ws
  unfold tk_X4_eatsWithin fn_X4_eatsWithin tk_X4_eatsWithin_4 fn_X4_eatsWithin_4
  dsimp only
  exact y_neg (by decide) (y_pos (by decide) ⟨Or.inl rfl, rfl, hR, k_near_refl h, y_rs_refl⟩)
theorem c_eat {m : Nat} {wt : Nat → Nat} (hw : y_wf m wt) : ∀ (k n : Nat), k ≤ 6 → k < n → c_eatP m wt k (fx_X4_eatsWithin n) (tx_X4_eatsWithin n)
  | 0, n + 1, _, _ => c_eat0
  | k + 1, n + 1, hk, hn => by
    intro s hd f0 h hR ws
    exact c_eat4 hw (by omega) (c_eat hw k n (by omega) (by omega)) ws 4 false h 2000 (Nat.le_refl 4) (by decide) hR ⟨hR, k_near_refl h, y_rs_refl⟩
/-- the least number of steps, from a depth on; 99: none -/
def p_fw (m : Nat) (wt : Nat → Nat) (s : p_St) : Nat → Nat
  | 0 => 99
  | j + 1 => if p_E m wt (6 - j) s = true then 6 - j else p_fw m wt s j
theorem p_E_mono {m : Nat} {wt : Nat → Nat} : ∀ k s, p_E m wt k s = true → p_E m wt (k + 1) s = true
  | 0, s, h => by cases h
  | k + 1, s, h => by
    obtain ⟨d, h1, h2, h3⟩ := p_E_s.mp h
    refine p_E_s.mpr ⟨d, h1, h2, ?_⟩
    rcases h3 with h3 | h3
    · exact Or.inl h3
    · exact Or.inr (p_E_mono k _ h3)
theorem p_E_nofeed {m : Nat} {wt : Nat → Nat} : ∀ k s, s.2.2.length = 0 → p_E m wt k s = false
  | 0, s, _ => rfl
  | k + 1, s, h => by
    cases e : p_E m wt (k + 1) s with
    | false => rfl
    | true =>
      obtain ⟨d, h1, h2, h3⟩ := p_E_s.mp e
      have hne : p_eats m wt s d = false := by
        cases e2 : p_eats m wt s d with
        | false => rfl
        | true => have := (p_eats_iff.mp e2).1; omega
      rcases h3 with h3 | h3
      · rw [hne] at h3; cases h3
      · rw [p_E_nofeed k _ (show (if p_eats m wt s d = true then s.2.2.tail else s.2.2).length = 0 by rw [hne]; exact h)] at h3
        cases h3
theorem p_fw_nofeed {m : Nat} {wt : Nat → Nat} {s : p_St} (h : s.2.2.length = 0) : ∀ j, p_fw m wt s j = 99
  | 0 => rfl
  | j + 1 => by unfold p_fw; rw [p_E_nofeed _ _ h, if_neg (by decide)]; exact p_fw_nofeed h j
theorem c_few14 {m : Nat} {wt : Nat → Nat} (hw : y_wf m wt) {s : p_St} (ws : y_ws m s) {hd f0 : Nat} {h0 : z_H} : ∀ (j : Nat) (h : z_H) (n : Nat), j ≤ 6 → j < n → y_RC m wt s hd f0 h → k_near h0 h →
    y_W (tk_X4_fewestByDepths_14 n (nI (7 - j)) h) (fn_X4_fewestByDepths_14 n (nI (7 - j)) h) (fun r => z_vi r = p_i (p_fw m wt s j) ∧ y_RC m wt s hd f0 r.2 ∧ k_near h0 r.2)
  | 0, h, n + 1, hj, hn, hR, hS => by
    unfold tk_X4_fewestByDepths_14 fn_X4_fewestByDepths_14
    dsimp only
    exact y_pos (by decide) (y_end ⟨rfl, hR, hS⟩)
  | j + 1, h, n + 1, hj, hn, hR, hS => by
    have ed : 7 - (j + 1) = 6 - j := by omega
    unfold tk_X4_fewestByDepths_14 fn_X4_fewestByDepths_14
    dsimp only
    rw [ed]
    obtain ⟨r1, r2, r3, r4, r5⟩ := c_eat hw (6 - j) 8 (by omega) (by omega) s hd f0 h hR ws
    refine y_neg (nI_nlt (by omega) (by omega)) (y_req r1 ?_)
    rw [r2, nI_add, show 6 - j + 1 = 7 - j by omega]
    unfold p_fw
    cases hE : p_E m wt (6 - j) s with
    | true =>
      exact y_neg i1_ne0 (y_end ⟨by rw [if_pos (rfl : true = true), p_i_n (by omega : 6 - j ≠ 99)]; rfl, r3, k_near_trans hS r4⟩)
    | false =>
      rw [if_neg (by decide : ¬ false = true)]
      exact y_pos rfl (c_few14 hw ws j _ n (by omega) (by omega) r3 (k_near_trans hS r4))
theorem c_few {m : Nat} {wt : Nat → Nat} (hw : y_wf m wt) {s : p_St} (ws : y_ws m s) {hd f0 : Nat} {h : z_H} (hR : y_RC m wt s hd f0 h) : y_W (tk_X4_fewestByDepths h) (fn_X4_fewestByDepths h) (fun r => z_vi r = p_i (p_fw m wt s 6) ∧ y_RC m wt s hd f0 r.2 ∧ k_near h r.2) := by
  unfold tk_X4_fewestByDepths fn_X4_fewestByDepths
  rw [hR.2.2.2.2.1]
  have := ws.2.2.2.1
  refine y_eq s.2.2.length 0 rfl rfl (fun e => y_end ⟨by rw [p_fw_nofeed e]; rfl, hR, k_near_refl h⟩) (fun e => ?_)
  exact c_few14 hw ws 6 h 2000 (Nat.le_refl 6) (by decide) hR (k_near_refl h)
