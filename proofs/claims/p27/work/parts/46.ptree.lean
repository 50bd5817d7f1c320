/-! ===== pure: the board's representations; Kruskal as a fold ===== -/
def y_BC (m : Nat) (wt : Nat → Nat) (h : z_H) : Prop := h.1 1 2 = nI m ∧ ∀ l, l < 12 → h.1 2 l = p_i (wt l)
def y_BM (m : Nat) (wt : Nat → Nat) (h : z_H) : Prop := (∀ b, b < 9 → h.1 21 b = if m.testBit b = true then nI 1 else nI 0) ∧ ∀ l, l < 12 → h.1 22 l = p_i (wt l)
def y_wf (m : Nat) (wt : Nat → Nat) : Prop := m < 512 ∧ ∀ l, l < 12 → wt l ≤ 9 ∨ wt l = 99
def y_TC (x : (Nat → Nat) × (Nat → Bool)) (h : z_H) : Prop := (∀ b, b < 9 → h.1 3 b = nI (x.1 b)) ∧ ∃ t, t < 4096 ∧ h.1 1 3 = nI t ∧ ∀ l, l < 12 → t.testBit l = x.2 l
def y_TM (x : (Nat → Nat) × (Nat → Bool)) (h : z_H) : Prop := (∀ b, b < 9 → h.1 24 b = nI (x.1 b)) ∧ ∀ l, l < 12 → h.1 23 l = if x.2 l = true then nI 1 else nI 0
def p_mg (x : (Nat → Nat) × (Nat → Bool)) (l : Nat) : (Nat → Nat) × (Nat → Bool) := (fun b => if x.1 b = x.1 (p_sb l) then x.1 (p_fb l) else x.1 b, fun j => j == l || x.2 j)
def p_js (m : Nat) (l : Nat) (x : (Nat → Nat) × (Nat → Bool)) : (Nat → Nat) × (Nat → Bool) := if m.testBit (p_fb l) = false ∧ m.testBit (p_sb l) = false ∧ x.1 (p_fb l) ≠ x.1 (p_sb l) then p_mg x l else x
def p_ks (m : Nat) (wt : Nat → Nat) (k : Nat) (x : (Nat → Nat) × (Nat → Bool)) : (Nat → Nat) × (Nat → Bool) := if wt (k % 12) = k / 12 then p_js m (k % 12) x else x
def p_kr (m : Nat) (wt : Nat → Nat) : Nat → (Nat → Nat) × (Nat → Bool)
  | 0 => (id, fun _ => false)
  | k + 1 => p_ks m wt k (p_kr m wt k)
def p_KI (m : Nat) (wt : Nat → Nat) (k : Nat) (x : (Nat → Nat) × (Nat → Bool)) : Prop := p_J x.1 x.2 ∧ (∀ b, b < 9 → x.1 b < 9) ∧ (∀ b, b < 9 → m.testBit b = true → x.1 b = b) ∧ (∀ b, b < 9 → m.testBit b = false → m.testBit (x.1 b) = false) ∧ (∀ j, x.2 j = true → j < 12 ∧ wt j * 12 + j < k ∧ m.testBit (p_fb j) = false ∧ m.testBit (p_sb j) = false)
theorem p_KI0 (m : Nat) (wt : Nat → Nat) : p_KI m wt 0 (p_kr m wt 0) := ⟨p_J0, fun b h => h, fun _ _ _ => rfl, fun b _ h => h, fun j h => by simp [p_kr] at h⟩
theorem p_KIs {m : Nat} {wt : Nat → Nat} {k : Nat} {x : (Nat → Nat) × (Nat → Bool)} (h : p_KI m wt k x) : p_KI m wt (k + 1) (p_ks m wt k x) := by
  obtain ⟨hJ, h1, h2, h3, h4⟩ := h
  have weak : p_KI m wt (k + 1) x := ⟨hJ, h1, h2, h3, fun j hj => ⟨(h4 j hj).1, by have := (h4 j hj).2.1; omega, (h4 j hj).2.2⟩⟩
  unfold p_ks p_js
  by_cases hw : wt (k % 12) = k / 12
  · rw [if_pos hw]
    by_cases hc : m.testBit (p_fb (k % 12)) = false ∧ m.testBit (p_sb (k % 12)) = false ∧ x.1 (p_fb (k % 12)) ≠ x.1 (p_sb (k % 12))
    · rw [if_pos hc]
      obtain ⟨c1, c2, c3⟩ := hc
      have hl : k % 12 < 12 := Nat.mod_lt _ (by decide)
      have hk : k / 12 * 12 + k % 12 = k := by omega
      have hT : x.2 (k % 12) = false := by
        cases e : x.2 (k % 12) with
        | false => rfl
        | true => have := (h4 _ e).2.1; rw [hw] at this; omega
      obtain ⟨-, -, f9⟩ := s_fb _ hl
      obtain ⟨-, -, s9⟩ := s_sb _ hl
      refine ⟨p_Jstep hJ hl hT c3, fun b hb => ?_, fun b hb hm => ?_, fun b hb hm => ?_, fun j hj => ?_⟩
      · show (if x.1 b = x.1 (p_sb (k % 12)) then x.1 (p_fb (k % 12)) else x.1 b) < 9
        split
        · exact h1 _ f9
        · exact h1 _ hb
      · show (if x.1 b = x.1 (p_sb (k % 12)) then x.1 (p_fb (k % 12)) else x.1 b) = b
        have e := h2 b hb hm
        rw [if_neg, e]
        intro z
        have := h3 _ s9 c2
        rw [← z, e, hm] at this
        exact absurd this (by decide)
      · show m.testBit (if x.1 b = x.1 (p_sb (k % 12)) then x.1 (p_fb (k % 12)) else x.1 b) = false
        split
        · exact h3 _ f9 c1
        · exact h3 _ hb hm
      · have hj : (j == k % 12 || x.2 j) = true := hj
        rw [Bool.or_eq_true, beq_iff_eq] at hj
        rcases hj with rfl | hj
        · exact ⟨hl, by rw [hw]; omega, c1, c2⟩
        · exact weak.2.2.2.2 j hj
    · rw [if_neg hc]; exact weak
  · rw [if_neg hw]; exact weak
theorem p_KIk (m : Nat) (wt : Nat → Nat) : ∀ k, p_KI m wt k (p_kr m wt k)
  | 0 => p_KI0 m wt
  | k + 1 => p_KIs (p_KIk m wt k)
/-! the class's growTree -/
theorem k_wall0 {m : Nat} {wt : Nat → Nat} {h : z_H} (hB : y_BC m wt h) {b : Nat} (hb : b < 9) : fv_X0_hasWallOn h (nI b) = 0 ↔ m.testBit b = false := by
  unfold fv_X0_hasWallOn
  rw [hB.1]
  by_cases c : (nI m &&& ((nI 1) <<< (nI b &&& 31))) = 0
  · rw [if_pos c]; exact ⟨fun _ => (q_bit (by omega)).mp c, fun _ => rfl⟩
  · rw [if_neg c]
    exact ⟨fun z => absurd z (by decide), fun z => absurd ((q_bit (by omega)).mpr z) c⟩
theorem k_wallv {m : Nat} {wt : Nat → Nat} {h : z_H} (hB : y_BC m wt h) {b : Nat} (hb : b < 9) : fv_X0_hasWallOn h (nI b) = if m.testBit b = true then nI 1 else nI 0 := by
  unfold fv_X0_hasWallOn
  rw [hB.1]
  by_cases c : (nI m &&& ((nI 1) <<< (nI b &&& 31))) = 0
  · rw [if_pos c, (q_bit (by omega)).mp c]; rfl
  · rw [if_neg c]
    have : m.testBit b = true := by
      cases e : m.testBit b with
      | true => rfl
      | false => exact absurd ((q_bit (by omega)).mpr e) c
    rw [this]; rfl
theorem y_or_bit {t l : Nat} (ht : t < 4096) (hl : l < 12) : (nI t ||| ((nI 1) <<< (nI l &&& 31))) = nI (t ||| 2 ^ l) ∧ t ||| 2 ^ l < 4096 ∧ ∀ j, (t ||| 2 ^ l).testBit j = (j == l || t.testBit j) := by
  refine ⟨by rw [s_bit l hl, q_or], ?_, fun j => ?_⟩
  · exact Nat.or_lt_two_pow (n := 12) ht (Nat.pow_lt_pow_right (by decide) hl)
  · rw [Nat.testBit_or, Nat.testBit_two_pow]
    by_cases e : l = j
    · subst e; simp
    · have : ¬ j = l := fun z => e z.symm
      simp [e, this]
theorem g_rel_ne {o : Nat} {kept gone : Int32} {k : Nat} {h : z_H} {a : Nat} (ha : a ≠ o) : (g_rel o kept gone k h).1 a = h.1 a := by
  funext b
  show (if a = o ∧ k ≤ b ∧ b < 9 ∧ h.1 o b = gone then kept else h.1 a b) = h.1 a b
  rw [if_neg (fun z => ha z.1)]
theorem g_rel_v {o : Nat} {kept gone : Int32} {h : z_H} {b : Nat} (hb : b < 9) : (g_rel o kept gone 0 h).1 o b = if h.1 o b = gone then kept else h.1 o b := by
  show (if o = o ∧ 0 ≤ b ∧ b < 9 ∧ h.1 o b = gone then kept else h.1 o b) = _
  by_cases e : h.1 o b = gone
  · rw [if_pos e, if_pos ⟨rfl, Nat.zero_le _, hb, e⟩]
  · rw [if_neg e, if_neg (fun z => e z.2.2.2)]
theorem g_join {m : Nat} {wt : Nat → Nat} {x : (Nat → Nat) × (Nat → Bool)} {h : z_H} (hx : ∀ b, b < 9 → x.1 b < 9) (hB : y_BC m wt h) (hT : y_TC x h) {l : Nat} (hl : l < 12) : y_W (tk_X0_joinBy (nI l) h) (fn_X0_joinBy (nI l) h) (fun r => y_BC m wt r.2 ∧ y_TC (p_js m l x) r.2 ∧ y_fr [1, 3] h r.2) := by
  obtain ⟨f1, -, f9⟩ := s_fb _ hl
  obtain ⟨e1, -, s9⟩ := s_sb _ hl
  obtain ⟨hg, t, t1, t2, t3⟩ := hT
  unfold tk_X0_joinBy fn_X0_joinBy p_js
  rw [f1, e1, y_atv f9, y_atv s9, hg _ f9, hg _ s9]
  refine y_if (fun c1 => ?_) (fun c1 => ?_)
  · refine y_if (fun c2 => ?_) (fun c2 => ?_)
    · have d1 := (k_wall0 hB f9).mp c1
      have d2 := (k_wall0 hB s9).mp c2
      refine y_eq (x.1 (p_fb l)) (x.1 (p_sb l)) rfl rfl (fun c3 => ?_) (fun c3 => ?_) (by have := hx _ f9; omega) (by have := hx _ s9; omega)
      · rw [if_neg (fun z => z.2.2 c3)]
        exact y_end ⟨hB, ⟨hg, t, t1, t2, t3⟩, y_fr_refl⟩
      · rw [if_pos ⟨d1, d2, c3⟩]
        obtain ⟨q1, q2⟩ := g_join_loop (nI (x.1 (p_fb l))) (nI (x.1 (p_sb l))) 9 0 (z_set h 1 3 (h.1 1 3 ||| nI 1 <<< (nI l &&& 31))) 2000 rfl (by decide)
        refine ⟨q2, ?_⟩
        rw [q1]
        obtain ⟨r1, r2, r3⟩ := y_or_bit t1 hl
        refine ⟨⟨?_, fun j hj => ?_⟩, ⟨fun b hb => ?_, t ||| 2 ^ l, r2, ?_, fun j hj => ?_⟩, fun a ha => ?_⟩
        · show (g_rel 3 _ _ 0 _).1 1 2 = _
          rw [g_rel_ne (by decide), y_sk (by decide)]
          exact hB.1
        · show (g_rel 3 _ _ 0 _).1 2 j = _
          rw [g_rel_ne (by decide), z_set_ne (by decide)]
          exact hB.2 j hj
        · show (g_rel 3 _ _ 0 _).1 3 b = nI (if x.1 b = x.1 (p_sb l) then x.1 (p_fb l) else x.1 b)
          rw [g_rel_v hb, z_set_ne (by decide), hg b hb]
          have i1 := hx _ hb
          have i2 := hx _ s9
          by_cases e : x.1 b = x.1 (p_sb l)
          · rw [if_pos e, if_pos (congrArg nI e)]
          · rw [if_neg e, if_neg (fun z => e ((nI_eq (by omega) (by omega)).mp z))]
        · show (g_rel 3 _ _ 0 _).1 1 3 = _
          rw [g_rel_ne (by decide), y_sh, t2]
          exact r1
        · rw [r3, t3 j hj]; rfl
        · have n1 : a ≠ 1 := fun e => ha (by simp [e])
          have n3 : a ≠ 3 := fun e => ha (by simp [e])
          refine ⟨?_, rfl⟩
          show (g_rel 3 _ _ 0 _).1 a = _
          rw [g_rel_ne n3, z_set_ne n1]
    · rw [if_neg (fun z => c2 ((k_wall0 hB s9).mpr z.2.1))]
      exact y_end ⟨hB, ⟨hg, t, t1, t2, t3⟩, y_fr_refl⟩
  · rw [if_neg (fun z => c1 ((k_wall0 hB f9).mpr z.1))]
    exact y_end ⟨hB, ⟨hg, t, t1, t2, t3⟩, y_fr_refl⟩
def g_St (m : Nat) (wt : Nat → Nat) (k : Nat) (h0 h : z_H) : Prop := y_BC m wt h ∧ y_TC (p_kr m wt k) h ∧ y_fr [1, 3] h0 h
theorem g_links {m : Nat} {wt : Nat → Nat} {h0 : z_H} (hw : y_wf m wt) (K31 : Int32 → z_H → Prop) (k31 : Int32 → z_H → z_R) (P : z_R → Prop) (w : Nat) (hw9 : w ≤ 9) (hk : ∀ h, g_St m wt (12 * (w + 1)) h0 h → y_W (K31 (nI (w + 1)) h) (k31 (nI (w + 1)) h) P) : ∀ (j l : Nat) (h : z_H) (n : Nat), l + j = 12 → j < n → g_St m wt (12 * w + l) h0 h → y_W (tk_X0_growTree_39 K31 n (nI w) (nI l) h) (fn_X0_growTree_39 k31 n (nI w) (nI l) h) P
  | 0, l, h, n + 1, hl, hn, hS => by
    have : l = 12 := by omega
    subst this
    unfold tk_X0_growTree_39 fn_X0_growTree_39
    dsimp only
    refine y_pos (nI_le (Nat.le_refl 12) (by decide)) ?_
    rw [nI_add]
    exact hk h hS
  | j + 1, l, h, n + 1, hl, hn, hS => by
    have hlt : l < 12 := by omega
    have ih := fun h' => g_links hw K31 k31 P w hw9 hk j (l + 1) h' n (by omega) (by omega)
    obtain ⟨hB, hT, hF⟩ := hS
    have e1 : (12 * w + l) % 12 = l := by omega
    have e2 : (12 * w + l) / 12 = w := by omega
    have hkr : p_kr m wt (12 * w + (l + 1)) = if wt l = w then p_js m l (p_kr m wt (12 * w + l)) else p_kr m wt (12 * w + l) := by
      show p_ks m wt (12 * w + l) (p_kr m wt (12 * w + l)) = _
      unfold p_ks
      rw [e1, e2]
    unfold tk_X0_growTree_39 fn_X0_growTree_39
    dsimp only
    refine y_neg (nI_ge hlt (by decide)) ?_
    rw [y_atv hlt, hB.2 l hlt]
    have hwt : wt l < 2 ^ 31 := by rcases hw.2 l hlt with h | h <;> omega
    refine y_if (fun c => ?_) (fun c => ?_)
    · have c' := (p_i_eqn hwt (by omega)).mp c
      have J := g_join (p_KIk m wt _).2.1 hB hT hlt
      refine y_req J.1 ?_
      obtain ⟨j1, j2, j3⟩ := J.2
      unfold tk_X0_growTree_59 fn_X0_growTree_59
      rw [nI_add]
      exact ih _ ⟨j1, by rw [hkr, if_pos c']; exact j2, y_fr_trans hF j3⟩
    · have c' : ¬ wt l = w := fun z => c ((p_i_eqn hwt (by omega)).mpr z)
      unfold tk_X0_growTree_59 fn_X0_growTree_59
      rw [nI_add]
      exact ih _ ⟨hB, by rw [hkr, if_neg c']; exact hT, hF⟩
theorem g_weights {m : Nat} {wt : Nat → Nat} {h0 : z_H} (hw : y_wf m wt) : ∀ (j w : Nat) (h : z_H) (n : Nat), w + j = 10 → j < n → g_St m wt (12 * w) h0 h → y_W (tk_X0_growTree_31 n (nI w) h) (fn_X0_growTree_31 n (nI w) h) (fun r => g_St m wt 120 h0 r.2)
  | 0, w, h, n + 1, hl, hn, hS => by
    have : w = 10 := by omega
    subst this
    unfold tk_X0_growTree_31 fn_X0_growTree_31
    dsimp only
    refine y_pos (nI_lt (by decide) (by decide)) ?_
    exact y_end hS
  | j + 1, w, h, n + 1, hl, hn, hS => by
    unfold tk_X0_growTree_31 fn_X0_growTree_31
    dsimp only
    refine y_neg (nI_nlt (by omega) (by decide)) ?_
    exact g_links hw _ _ _ w (by omega) (fun h' hS' => g_weights hw j (w + 1) h' n (by omega) (by omega) hS') 12 0 h 2000 rfl (by decide) hS
theorem g_init {m : Nat} {wt : Nat → Nat} {h0 : z_H} (hw : y_wf m wt) : ∀ (j k : Nat) (h : z_H) (n : Nat), k + j = 9 → j < n → y_BC m wt h → h.1 1 3 = nI 0 → (∀ b, b < k → h.1 3 b = nI b) → y_fr [1, 3] h0 h → y_W (tk_X0_growTree_7 n (nI k) h) (fn_X0_growTree_7 n (nI k) h) (fun r => g_St m wt 120 h0 r.2)
  | 0, k, h, n + 1, hl, hn, hB, ht, hg, hF => by
    have : k = 9 := by omega
    subst this
    unfold tk_X0_growTree_7 fn_X0_growTree_7
    dsimp only
    refine y_pos (nI_le (Nat.le_refl 9) (by decide)) ?_
    exact g_weights hw 10 0 h 2000 rfl (by decide) ⟨hB, ⟨hg, 0, by decide, ht, fun l hl => Nat.zero_testBit l⟩, hF⟩
  | j + 1, k, h, n + 1, hl, hn, hB, ht, hg, hF => by
    have hlt : k < 9 := by omega
    unfold tk_X0_growTree_7 fn_X0_growTree_7
    dsimp only
    refine y_neg (nI_ge hlt (by decide)) ?_
    refine y_req (vp_in_nI hlt (by decide)) ?_
    rw [nI_add, nI_clamp (by omega)]
    refine g_init hw j (k + 1) _ n (by omega) (by omega) ⟨?_, fun l hl => ?_⟩ ?_ (fun b hb => ?_) (y_fr_set hF (by decide))
    · rw [z_set_ne (by decide)]; exact hB.1
    · rw [z_set_ne (by decide)]; exact hB.2 l hl
    · rw [z_set_ne (by decide)]; exact ht
    · rw [y_sif]
      by_cases e : b = k
      · rw [if_pos e, e]
      · rw [if_neg e]; exact hg b (by omega)
theorem g_grow {m : Nat} {wt : Nat → Nat} {h : z_H} (hw : y_wf m wt) (hB : y_BC m wt h) : y_W (tk_X0_growTree h) (fn_X0_growTree h) (fun r => g_St m wt 120 h r.2) := by
  unfold tk_X0_growTree fn_X0_growTree
  refine g_init hw 9 0 _ 2000 rfl (by decide) ⟨?_, fun l hl => ?_⟩ y_sh (fun b hb => absurd hb (Nat.not_lt_zero b)) (y_fr_set y_fr_refl (by decide))
  · rw [y_sk (by decide)]; exact hB.1
  · rw [z_set_ne (by decide)]; exact hB.2 l hl
