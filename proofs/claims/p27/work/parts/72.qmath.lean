/-! ===== p27, pure: what the law asks of trees, walks and bodies ===== -/
def q_ct (f : Nat → Bool) : Nat → Nat
  | 0 => 0
  | k + 1 => q_ct f k + (if f k = true then 1 else 0)
theorem q_ct_le (f : Nat → Bool) : ∀ n, q_ct f n ≤ n
  | 0 => Nat.le_refl _
  | n + 1 => by
    unfold q_ct
    have := q_ct_le f n
    split <;> omega
theorem q_ct_cg {f g : Nat → Bool} : ∀ n, (∀ k, k < n → f k = g k) → q_ct f n = q_ct g n
  | 0, _ => rfl
  | n + 1, h => by
    unfold q_ct
    rw [q_ct_cg n (fun k hk => h k (by omega)), h n (by omega)]
theorem q_ct_add {f g : Nat → Bool} {l : Nat} : ∀ n, l < n → f l = true → g l = false → (∀ k, k < n → k ≠ l → f k = g k) → q_ct f n = q_ct g n + 1
  | 0, h, _, _, _ => absurd h (Nat.not_lt_zero _)
  | n + 1, h, h1, h2, h3 => by
    unfold q_ct
    by_cases e : l = n
    · subst e
      rw [q_ct_cg l (fun k hk => h3 k (by omega) (by omega)), h1, h2, if_pos rfl, if_neg (by decide)]
    · rw [q_ct_add n (by omega) h1 h2 (fun k hk => h3 k (by omega)), h3 n (by omega) (fun z => e z.symm)]
      omega
theorem q_ct_0 {f : Nat → Bool} : ∀ n, (∀ k, k < n → f k = false) → q_ct f n = 0
  | 0, _ => rfl
  | n + 1, h => by
    unfold q_ct
    rw [q_ct_0 n (fun k hk => h k (by omega)), h n (by omega), if_neg (by decide)]
theorem q_ct_pos {f : Nat → Bool} {l n : Nat} (h : l < n) (h1 : f l = true) : 1 ≤ q_ct f n := by
  rw [q_ct_add (g := fun k => f k && !(k == l)) n h h1 (by simp) (fun k _ hk => by simp [hk])]
  omega
theorem q_ct_two {f : Nat → Bool} {l l' n : Nat} (h : l < n) (h' : l' < n) (h1 : f l = true) (h1' : f l' = true) (hne : l' ≠ l) : 2 ≤ q_ct f n := by
  rw [q_ct_add (g := fun k => f k && !(k == l)) n h h1 (by simp) (fun k _ hk => by simp [hk])]
  have := q_ct_pos (f := fun k => f k && !(k == l)) h' (by simp [h1', hne])
  omega
theorem q_ct_one {f : Nat → Bool} {l n : Nat} (h : l < n) (h1 : f l = true) (ho : ∀ k, k < n → f k = true → k = l) : q_ct f n = 1 := by
  rw [q_ct_add (g := fun k => f k && !(k == l)) n h h1 (by simp) (fun k _ hk => by simp [hk]), q_ct_0]
  intro k hk
  cases e : f k with
  | false => simp
  | true => simp [ho k hk e]
/-! the tree: links and blocks -/
def q_O (m : Nat) : Nat → Bool := fun b => !m.testBit b
def q_F (m : Nat) (g : Nat → Nat) : Nat → Bool := fun b => !m.testBit b && g b == b
def q_CI (m : Nat) (x : (Nat → Nat) × (Nat → Bool)) : Prop := (∀ b, b < 9 → x.1 (x.1 b) = x.1 b) ∧ q_ct (q_F m x.1) 9 + q_ct x.2 12 = q_ct (q_O m) 9
theorem q_CI0 (m : Nat) (wt : Nat → Nat) : q_CI m (p_kr m wt 0) := by
  refine ⟨fun b _ => rfl, ?_⟩
  show q_ct (q_F m id) 9 + q_ct (fun _ => false) 12 = _
  rw [q_ct_0 (f := fun _ => false) 12 (fun _ _ => rfl), q_ct_cg (g := q_O m) 9 (fun k _ => by simp [q_F, q_O]), Nat.add_zero]
theorem q_CIs {m : Nat} {wt : Nat → Nat} {k : Nat} {x : (Nat → Nat) × (Nat → Bool)} (hc : q_CI m x) (h : p_KI m wt k x) : q_CI m (p_ks m wt k x) := by
  obtain ⟨hJ, h1, h2, h3, h4⟩ := h
  obtain ⟨i1, i2⟩ := hc
  unfold p_ks p_js
  by_cases hw : wt (k % 12) = k / 12
  · rw [if_pos hw]
    by_cases hc : m.testBit (p_fb (k % 12)) = false ∧ m.testBit (p_sb (k % 12)) = false ∧ x.1 (p_fb (k % 12)) ≠ x.1 (p_sb (k % 12))
    · rw [if_pos hc]
      obtain ⟨c1, c2, c3⟩ := hc
      have hl : k % 12 < 12 := Nat.mod_lt _ (by decide)
      have hT : x.2 (k % 12) = false := by
        cases e : x.2 (k % 12) with
        | false => rfl
        | true => have := (h4 _ e).2.1; rw [hw] at this; omega
      obtain ⟨-, -, f9⟩ := s_fb _ hl
      obtain ⟨-, -, s9⟩ := s_sb _ hl
      have hT2 : q_ct (p_mg x (k % 12)).2 12 = q_ct x.2 12 + 1 := q_ct_add 12 hl (by simp [p_mg]) hT (fun j _ hj => by simp [p_mg, hj])
      have hg : ∀ b, (p_mg x (k % 12)).1 b = if x.1 b = x.1 (p_sb (k % 12)) then x.1 (p_fb (k % 12)) else x.1 b := fun b => rfl
      have iA := i1 _ f9
      have iG := i1 _ s9
      have a9 := h1 _ f9
      have g9 := h1 _ s9
      have go := h3 _ s9 c2
      generalize x.1 (p_fb (k % 12)) = A at *
      generalize x.1 (p_sb (k % 12)) = G at *
      refine ⟨fun b hb => ?_, ?_⟩
      · rw [hg b]
        by_cases e : x.1 b = G
        · rw [if_pos e, hg A, iA, if_neg c3]
        · rw [if_neg e, hg, i1 b hb, if_neg e]
      · rw [hT2]
        have := q_ct_add (f := q_F m x.1) (g := q_F m (p_mg x (k % 12)).1) (l := G) 9 g9 (by simp [q_F, go, iG]) (by
          have : (p_mg x (k % 12)).1 G = A := by rw [hg, iG, if_pos rfl]
          simp [q_F, this, c3]) (fun b hb hne => by
          have : ((x.1 b == b) : Bool) = ((p_mg x (k % 12)).1 b == b) := by
            rw [hg b]
            by_cases e : x.1 b = G
            · rw [if_pos e, e]
              have n1 : G ≠ b := fun z => hne z.symm
              have n2 : A ≠ b := fun z => by
                rw [← z, iA] at e
                exact c3 e
              rw [beq_eq_false_iff_ne.mpr n1, beq_eq_false_iff_ne.mpr n2]
            · rw [if_neg e]
          simp [q_F, this])
        omega
    · rw [if_neg hc]; exact ⟨i1, i2⟩
  · rw [if_neg hw]; exact ⟨i1, i2⟩
theorem q_CIk (m : Nat) (wt : Nat → Nat) : ∀ k, q_CI m (p_kr m wt k)
  | 0 => q_CI0 m wt
  | k + 1 => q_CIs (q_CIk m wt k) (p_KIk m wt k)
theorem s_open : ∀ m, m < 512 → 36 - 4 * p_pop m = 4 * q_ct (q_O m) 9 ∧ q_ct (fun c => !m.testBit (p_blk c)) 36 = 4 * q_ct (q_O m) 9 := by decide +kernel
/-- with a cycle, the tree has a link less than there are blocks; without one, two or more are wanting -/
theorem q_tree {m : Nat} {wt : Nat → Nat} (hm : m < 512) : (0 < p_N m wt → p_N m wt = 4 * q_ct (q_O m) 9 ∧ q_ct (p_gT m wt).2 12 + 1 = q_ct (q_O m) 9) ∧ (p_N m wt = 0 → q_ct (q_O m) 9 = 0 ∨ q_ct (p_gT m wt).2 12 + 2 ≤ q_ct (q_O m) 9) := by
  obtain ⟨hJ, k1, k2, k3, k4⟩ := p_KIk m wt 120
  obtain ⟨i1, i2⟩ := q_CIk m wt 120
  obtain ⟨o1, -⟩ := s_open m hm
  refine ⟨fun hN => ?_, fun hN => ?_⟩
  · have hj := p_N_pos hN
    have hN2 : p_N m wt = 36 - 4 * p_pop m := by unfold p_N; rw [if_pos hj]
    obtain ⟨j1, j2⟩ := p_jn_iff.mp hj
    obtain ⟨l1, l2, -⟩ := (s_low m hm).resolve_left (fun z => j1 z.1)
    have g9 := k1 _ l1
    have go := k3 _ l1 l2
    have : q_ct (q_F m (p_kr m wt 120).1) 9 = 1 := by
      refine q_ct_one (l := (p_kr m wt 120).1 (p_low m)) g9 (by simp [q_F, go, i1 _ l1]) (fun b hb hf => ?_)
      simp only [q_F, Bool.and_eq_true, Bool.not_eq_true', beq_iff_eq] at hf
      rw [← hf.2]
      exact j2 b hb hf.1
    refine ⟨by omega, ?_⟩
    show q_ct (p_kr m wt 120).2 12 + 1 = _
    omega
  · have hj : ¬ p_jn m (p_gT m wt).1 = true := fun z => by
      have := (y_cyc hm z).1
      omega
    rcases s_low m hm with ⟨-, h9⟩ | ⟨l1, l2, -⟩
    · exact Or.inl (q_ct_0 9 (fun b hb => by simp [q_O, h9 b hb]))
    · refine Or.inr ?_
      have : ∃ b, b < 9 ∧ m.testBit b = false ∧ (p_kr m wt 120).1 b ≠ (p_kr m wt 120).1 (p_low m) := by
        refine Classical.byContradiction (fun z => hj (p_jn_iff.mpr ⟨by omega, fun b hb ho => ?_⟩))
        refine Classical.byContradiction (fun q => z ⟨b, hb, ho, q⟩)
      obtain ⟨b, hb, ho, hne⟩ := this
      have := q_ct_two (f := q_F m (p_kr m wt 120).1) (k1 _ l1) (k1 _ hb) (by simp [q_F, k3 _ l1 l2, i1 _ l1]) (by simp [q_F, k3 _ hb ho, i1 _ hb]) hne
      show q_ct (p_kr m wt 120).2 12 + 2 ≤ _
      omega
/-! walks -/
theorem q_Df_min {g g' : Nat → Nat} {can : Nat → Bool} {k : Nat} (h : ∀ d, g d = min k (g' d)) : ∀ j z z', z = min k z' → p_Df g can j z = min k (p_Df g' can j z')
  | 0, z, z', hz => hz
  | j + 1, z, z', hz => by
    unfold p_Df
    refine q_Df_min h j _ _ ?_
    have := h (3 - j)
    split
    · omega
    · exact hz
theorem q_D_min {m : Nat} {wt : Nat → Nat} : ∀ k s, p_D m wt k s = min k (p_D m wt (k + 1) s)
  | 0, s => by show 0 = _; omega
  | k + 1, s => by
    show p_Df (fun d => 1 + p_D m wt k (p_adv m wt s d)) (p_can m wt s) 4 0 = min (k + 1) (p_Df (fun d => 1 + p_D m wt (k + 1) (p_adv m wt s d)) (p_can m wt s) 4 0)
    refine q_Df_min (fun d => ?_) 4 0 0 (by omega)
    have := q_D_min (m := m) (wt := wt) k (p_adv m wt s d)
    omega
theorem q_D_mn {m : Nat} {wt : Nat → Nat} {k : Nat} {s : p_St} : ∀ j, p_D m wt k s = min k (p_D m wt (k + j) s)
  | 0 => by
    have := p_D_le (m := m) (wt := wt) k s
    rw [Nat.add_zero]; omega
  | j + 1 => by
    have h1 := q_D_mn (m := m) (wt := wt) (k := k) (s := s) j
    have h2 := q_D_min (m := m) (wt := wt) (k + j) s
    rw [show k + (j + 1) = k + j + 1 by omega]
    omega
theorem q_D_6 {m : Nat} {wt : Nat → Nat} {k : Nat} {s : p_St} (hk : k ≤ 6) : p_D m wt k s = min k (p_D m wt 6 s) := by
  have := q_D_mn (m := m) (wt := wt) (k := k) (s := s) (6 - k)
  rw [show k + (6 - k) = 6 by omega] at this
  exact this
theorem q_Df_ge {g : Nat → Nat} {can : Nat → Bool} : ∀ j z, z ≤ p_Df g can j z ∧ ∀ d, 4 - j ≤ d → d < 4 → j ≤ 4 → can d = true → g d ≤ p_Df g can j z
  | 0, z => ⟨Nat.le_refl _, fun d h1 h2 _ _ => by omega⟩
  | j + 1, z => by
    have e : p_Df g can (j + 1) z = p_Df g can j (if can (3 - j) = true then max z (g (3 - j)) else z) := rfl
    rw [e]
    obtain ⟨i1, i2⟩ := q_Df_ge (g := g) (can := can) j (if can (3 - j) = true then max z (g (3 - j)) else z)
    refine ⟨Nat.le_trans ?_ i1, fun d h1 h2 h3 h4 => ?_⟩
    · split
      · exact Nat.le_max_left _ _
      · exact Nat.le_refl _
    · by_cases q : d = 3 - j
      · subst q
        refine Nat.le_trans ?_ i1
        rw [if_pos h4]
        exact Nat.le_max_right _ _
      · exact i2 d (by omega) h2 (by omega) h4
theorem q_D_step {m : Nat} {wt : Nat → Nat} {k d : Nat} {s : p_St} (hd : d < 4) (hc : p_can m wt s d = true) : 1 + p_D m wt k (p_adv m wt s d) ≤ p_D m wt (k + 1) s :=
  (q_Df_ge (g := fun d => 1 + p_D m wt k (p_adv m wt s d)) (can := p_can m wt s) 4 0).2 d (by omega) hd (by omega) hc
theorem q_R_D {m : Nat} {wt : Nat → Nat} : ∀ n s t, p_R m wt n s t → p_D m wt n s = n
  | 0, _, _, _ => rfl
  | n + 1, s, t, h => by
    obtain ⟨d, h1, h2, h3⟩ := h
    have a := q_R_D n _ t h3
    have b := q_D_step (k := n) h1 h2
    have c := p_D_le (m := m) (wt := wt) (n + 1) s
    omega
theorem q_fw0 {m : Nat} {wt : Nat → Nat} {s : p_St} : ∀ j, j ≤ 6 → p_E m wt (6 - j) s = false → p_fw m wt s j = 99 ∨ (6 - j < p_fw m wt s j ∧ p_fw m wt s j ≤ 6 ∧ p_E m wt (p_fw m wt s j) s = true ∧ p_E m wt (p_fw m wt s j - 1) s = false)
  | 0, _, _ => Or.inl rfl
  | j + 1, hj, h => by
    unfold p_fw
    by_cases e : p_E m wt (6 - j) s = true
    · rw [if_pos e]
      exact Or.inr ⟨by omega, by omega, e, by rw [show 6 - j - 1 = 6 - (j + 1) by omega]; exact h⟩
    · rw [if_neg e]
      rcases q_fw0 (m := m) (wt := wt) (s := s) j (by omega) (by simpa using e) with h1 | ⟨h1, h2, h3⟩
      · exact Or.inl h1
      · exact Or.inr ⟨by omega, h2, h3⟩
theorem q_fw {m : Nat} {wt : Nat → Nat} {s : p_St} : p_fw m wt s 6 = 99 ∨ (1 ≤ p_fw m wt s 6 ∧ p_fw m wt s 6 ≤ 6 ∧ 0 < s.2.2.length ∧ p_D m wt (p_fw m wt s 6) s = p_fw m wt s 6) := by
  rcases q_fw0 (m := m) (wt := wt) (s := s) 6 (Nat.le_refl _) rfl with h | ⟨h1, h2, h3, h4⟩
  · exact Or.inl h
  · refine Or.inr ⟨by omega, h2, ?_, ?_⟩
    · refine Nat.pos_of_ne_zero (fun z => ?_)
      rw [p_E_nofeed _ s z] at h3
      cases h3
    · obtain ⟨i, i1, i2⟩ := (p_E_A _ s).mp h3
      have hi : i = p_fw m wt s 6 - 1 := by
        refine Classical.byContradiction (fun z => ?_)
        have := (p_E_A (m := m) (wt := wt) (p_fw m wt s 6 - 1) s).mpr ⟨i, by omega, i2⟩
        rw [h4] at this
        cases this
      obtain ⟨t, t1, d, d1, d2, -⟩ := i2
      have := q_R_D _ _ _ ((p_R_last i s _).mpr ⟨t, d, t1, d1, d2, rfl⟩)
      rw [show i + 1 = p_fw m wt s 6 by omega] at this
      exact this
/-! what can be reached -/
theorem q_reach {go : Nat → Nat → Nat} {B A : List Nat} (h : p_RA go B A) (hB : B.Nodup) (h36 : ∀ c ∈ B, c < 36) : A.length - 1 + B.length ≤ 36 := by
  obtain ⟨h1, h2, h3, h4, h5, -⟩ := h
  cases A with
  | nil => exact absurd h2 (Nat.lt_irrefl _)
  | cons a r =>
    have h3 : a = B.getD 0 99 := h3
    obtain ⟨n1, n2⟩ := List.nodup_cons.mp h1
    have := y_len 36 (r ++ B) (List.nodup_append.mpr ⟨n2, hB, fun x hx y hy e => by
      subst e
      rcases h5 x (List.mem_cons_of_mem _ hx) with z | z
      · rw [← h3] at z
        rw [z] at hx
        exact n1 hx
      · exact z hy⟩) (fun x hx => by
      rcases List.mem_append.mp hx with z | z
      · exact h4 x (List.mem_cons_of_mem _ z)
      · exact h36 x z)
    rw [List.length_append] at this
    simp only [List.length_cons]
    omega
/-! bodies -/
def q_adj (B : List Nat) : Prop := ∀ k, k + 1 < B.length → ∃ d, d < 4 ∧ p_cb (B.getD (k + 1) 99) d = B.getD k 99
theorem q_adj_adv {m : Nat} {wt : Nat → Nat} {s : p_St} {d : Nat} (hd : d < 4) (hc : p_can m wt s d = true) (h : q_adj s.1) : q_adj (p_adv m wt s d).1 := by
  intro k hk
  have e : (p_adv m wt s d).1 = p_to m wt s d :: p_st s := rfl
  rw [e] at hk ⊢
  simp only [List.length_cons] at hk
  have hle : (p_st s).length ≤ s.1.length := by
    rw [p_st_len]; split <;> omega
  rw [List.getD_cons_succ, p_st_getD (by omega)]
  match k, hk with
  | 0, hk =>
    refine ⟨d, hd, ?_⟩
    rw [List.getD_cons_zero]
    exact (p_go_cb (p_can_iff.mp hc).1).symm
  | k + 1, hk =>
    rw [List.getD_cons_succ, p_st_getD (by omega)]
    exact h k (by omega)
def q_bs (x y : Int32) : Int32 := (((x / (nI 6)) - (y / (nI 6))) * ((x / (nI 6)) - (y / (nI 6)))) + (((x - x / (nI 6) * (nI 6)) - (y - y / (nI 6) * (nI 6))) * ((x - x / (nI 6) * (nI 6)) - (y - y / (nI 6) * (nI 6))))
theorem q_bs_ok : ∀ c, c < 36 → ∀ d, d < 4 → p_cb c d ≠ 99 → q_bs (nI c) (nI (p_cb c d)) = nI 1 ∧ q_bs (nI (p_cb c d)) (nI c) = nI 1 := by decide +kernel
theorem q_beside {x y : Int32} (h : z_H) (hb : q_bs x y = nI 1) : z_vi0 (fn_L_areBeside x y h) = nI 1 := by
  have e : fn_L_areBeside x y h = if q_bs x y = nI 1 then some (.int (nI 1)) else some (.int (nI 0)) := rfl
  rw [e, if_pos hb]
  rfl
