/-! ===== pure: the reference's layTree ===== -/
def y_TMk (m : Nat) (wt : Nat → Nat) (k : Nat) (h : z_H) : Prop := (∀ b, b < 9 → h.1 24 b = nI ((p_kr m wt k).1 b)) ∧ ∀ l, l < 12 → (wt l = 99 ∧ l < k ∨ wt l ≠ 99 ∧ wt l * 12 + l < k) → h.1 23 l = if (p_kr m wt k).2 l = true then nI 1 else nI 0
def g_Sm (m : Nat) (wt : Nat → Nat) (k : Nat) (h0 h : z_H) : Prop := y_BM m wt h ∧ y_TMk m wt k h ∧ y_fr [23, 24] h0 h
theorem y_BM_fr {m : Nat} {wt : Nat → Nat} {os : List Nat} {h h' : z_H} (hB : y_BM m wt h) (hF : y_fr os h h') (h1 : 21 ∉ os := by decide) (h2 : 22 ∉ os := by decide) : y_BM m wt h' := ⟨fun b hb => by rw [y_fr_at hF 21 h1]; exact hB.1 b hb, fun l hl => by rw [y_fr_at hF 22 h2]; exact hB.2 l hl⟩
theorem y_BM0 {m : Nat} {wt : Nat → Nat} {h : z_H} (hB : y_BM m wt h) {b : Nat} (hb : b < 9) : h.1 21 b = 0 ↔ m.testBit b = false := by
  rw [hB.1 b hb]
  cases m.testBit b with
  | true => exact ⟨fun z => absurd z (by decide), fun z => absurd z (by decide)⟩
  | false => exact ⟨fun _ => rfl, fun _ => rfl⟩
/-- the loop over the groups -/
theorem g_mjoin {x : (Nat → Nat) × (Nat → Bool)} {op : Bool} {l k : Nat} (hl : l < 12) (hx : ∀ b, b < 9 → x.1 b < 9) (K23 : Int32 → z_H → Prop) (k23 : Int32 → z_H → z_R) (P : z_R → Prop) (h0 : z_H)
    (hk : ∀ h, (∀ b, b < 9 → h.1 24 b = nI (if op = true ∧ x.1 b = x.1 (p_sb l) then x.1 (p_fb l) else x.1 b)) → y_fr [24] h0 h → y_W (K23 (nI (k + 1)) h) (k23 (nI (k + 1)) h) P) :
    ∀ (j b : Nat) (h : z_H) (n : Nat), b + j = 9 → j < n → (∀ c, c < 9 → h.1 24 c = nI (if c < b ∧ op = true ∧ x.1 c = x.1 (p_sb l) then x.1 (p_fb l) else x.1 c)) → y_fr [24] h0 h →
      y_W (tk_X8_layTree_151 K23 n (nI k) (nI (p_fb l)) (if op = true then nI 1 else nI 0) (nI (x.1 (p_sb l))) (nI b) h) (fn_X8_layTree_151 k23 n (nI k) (nI (p_fb l)) (if op = true then nI 1 else nI 0) (nI (x.1 (p_sb l))) (nI b) h) P
  | 0, b, h, n + 1, hb, hn, hg, hF => by
    have : b = 9 := by omega
    subst this
    unfold tk_X8_layTree_151 fn_X8_layTree_151
    dsimp only
    refine y_pos (nI_le (Nat.le_refl 9) (by decide)) ?_
    rw [nI_add]
    refine hk h (fun c hc => ?_) hF
    rw [hg c hc]
    simp [hc]
  | j + 1, b, h, n + 1, hb, hn, hg, hF => by
    have hlt : b < 9 := by omega
    have ih := fun h' => g_mjoin hl hx K23 k23 P h0 hk j (b + 1) h' n (by omega) (by omega)
    obtain ⟨-, -, f9⟩ := s_fb _ hl
    obtain ⟨-, -, s9⟩ := s_sb _ hl
    have hcl : (nI b).toNatClampNeg = b := nI_clamp (by omega)
    have hin : vp_in (nI b) 9 := vp_in_nI hlt (by decide)
    have hgb : h.1 24 b = nI (x.1 b) := by rw [hg b hlt, if_neg (by omega)]
    have hxb := hx _ hlt
    have hxs := hx _ s9
    unfold tk_X8_layTree_151 fn_X8_layTree_151
    dsimp only
    refine y_neg (nI_ge hlt (by decide)) ?_
    -- a store of the group as it was
    have same : (op = true → ¬ x.1 b = x.1 (p_sb l)) → y_W (tk_X8_layTree_190 K23 (fun (a1_ : Int32) (a3_ : Int32) (a5_ : Int32) (a6_ : Int32) (a7_ : Int32) (h_ : z_H) => tk_X8_layTree_151 K23 n a1_ a3_ a5_ a6_ a7_ h_) (nI k) (nI (p_fb l)) (if op = true then nI 1 else nI 0) (nI (x.1 (p_sb l))) (nI b) (nI b) h) (fn_X8_layTree_190 k23 (fun (a1_ : Int32) (a3_ : Int32) (a5_ : Int32) (a6_ : Int32) (a7_ : Int32) (h_ : z_H) => fn_X8_layTree_151 k23 n a1_ a3_ a5_ a6_ a7_ h_) (nI k) (nI (p_fb l)) (if op = true then nI 1 else nI 0) (nI (x.1 (p_sb l))) (nI b) (nI b) h) P := by
      intro hne
      unfold tk_X8_layTree_190 fn_X8_layTree_190 tk_X8_layTree_197 fn_X8_layTree_197
      rw [hcl, nI_add]
      refine y_req hin (y_req hin ?_)
      refine ih _ (fun c hc => ?_) (y_fr_set hF (by decide))
      rw [y_sif]
      by_cases e : c = b
      · subst e
        rw [if_pos rfl, hgb, if_neg (fun z => hne z.2.1 z.2.2)]
      · rw [if_neg e, hg c hc]
        have : c < b ↔ c < b + 1 := by omega
        simp only [this]
    cases op with
    | false =>
      refine y_pos rfl ?_
      exact same (fun z => absurd z (by decide))
    | true =>
      refine y_neg (by decide) ?_
      refine y_req hin ?_
      rw [hcl, hgb]
      refine y_eq (x.1 b) (x.1 (p_sb l)) rfl rfl (fun e => ?_) (fun e => same (fun _ => e))
      refine y_req (vp_in_nI f9 (by decide)) ?_
      unfold tk_X8_layTree_197 fn_X8_layTree_197
      rw [nI_clamp (by omega : p_fb l < 2 ^ 31), hcl, nI_add]
      refine y_req hin ?_
      refine ih _ (fun c hc => ?_) (y_fr_set hF (by decide))
      have hfb : h.1 24 (p_fb l) = nI (x.1 (p_fb l)) := by
        rw [hg _ f9]
        split
        · rfl
        · rfl
      rw [y_sif, hfb]
      by_cases e2 : c = b
      · subst e2
        rw [if_pos rfl, if_pos ⟨by omega, rfl, e⟩]
      · rw [if_neg e2, hg c hc]
        have : c < b ↔ c < b + 1 := by omega
        simp only [this]
theorem p_kr_s (m : Nat) (wt : Nat → Nat) (k : Nat) : p_kr m wt (k + 1) = p_ks m wt k (p_kr m wt k) := rfl
/-- one step of the reference's loop, from where it is known whether the link is open -/
theorem g_m82 {m : Nat} {wt : Nat → Nat} {h0 : z_H} (hw : y_wf m wt) {k : Nat} (hk120 : k < 120) (K23 : Int32 → z_H → Prop) (k23 : Int32 → z_H → z_R) (P : z_R → Prop) (hk : ∀ h, g_Sm m wt (k + 1) h0 h → y_W (K23 (nI (k + 1)) h) (k23 (nI (k + 1)) h) P) {h : z_H} (hS : g_Sm m wt k h0 h) (op : Bool) (hop : op = true ↔ wt (k % 12) = k / 12 ∧ m.testBit (p_fb (k % 12)) = false ∧ m.testBit (p_sb (k % 12)) = false) :
    y_W (tk_X8_layTree_82 K23 (nI k) (nI (k % 12)) (nI (p_fb (k % 12))) (nI (p_sb (k % 12))) (if op = true then nI 1 else nI 0) h) (fn_X8_layTree_82 k23 (nI k) (nI (k % 12)) (nI (p_fb (k % 12))) (nI (p_sb (k % 12))) (if op = true then nI 1 else nI 0) h) P := by
  have hl : k % 12 < 12 := Nat.mod_lt _ (by decide)
  obtain ⟨hB, ⟨hg, hi⟩, hF⟩ := hS
  have hx : ∀ b, b < 9 → (p_kr m wt k).1 b < 9 := (p_KIk m wt k).2.1
  have hJ4 := (p_KIk m wt k).2.2.2.2
  obtain ⟨-, -, f9⟩ := s_fb _ hl
  obtain ⟨-, -, s9⟩ := s_sb _ hl
  have hcl : (nI (k % 12)).toNatClampNeg = k % 12 := nI_clamp (by omega)
  have hfc : (nI (p_fb (k % 12))).toNatClampNeg = p_fb (k % 12) := nI_clamp (by omega)
  have hsc : (nI (p_sb (k % 12))).toNatClampNeg = p_sb (k % 12) := nI_clamp (by omega)
  have hin : vp_in (nI (k % 12)) 12 := vp_in_nI hl (by decide)
  have hwl : wt (k % 12) < 2 ^ 31 := by rcases hw.2 _ hl with h | h <;> omega
  have hg1 : ∀ b, b < 9 → (p_kr m wt (k + 1)).1 b = if op = true ∧ (p_kr m wt k).1 b = (p_kr m wt k).1 (p_sb (k % 12)) then (p_kr m wt k).1 (p_fb (k % 12)) else (p_kr m wt k).1 b := by
    intro b hb
    rw [p_kr_s]
    unfold p_ks p_js
    by_cases c : op = true
    · obtain ⟨c1, c2, c3⟩ := hop.mp c
      rw [if_pos c1]
      by_cases d : (p_kr m wt k).1 (p_fb (k % 12)) = (p_kr m wt k).1 (p_sb (k % 12))
      · rw [if_neg (fun z => z.2.2 d)]
        split
        · rename_i z; rw [z.2, d]
        · rfl
      · rw [if_pos ⟨c2, c3, d⟩]
        simp only [p_mg, c, true_and]
    · have hn : ¬ (op = true ∧ (p_kr m wt k).1 b = (p_kr m wt k).1 (p_sb (k % 12))) := fun z => c z.1
      rw [if_neg hn]
      by_cases c1 : wt (k % 12) = k / 12
      · rw [if_pos c1, if_neg]
        exact fun z => c (hop.mpr ⟨c1, z.1, z.2.1⟩)
      · rw [if_neg c1]
  -- the rest, behind the mark of the tree
  have rest : ∀ h1 : z_H, (∀ b, b < 9 → h1.1 24 b = nI ((p_kr m wt k).1 b)) → y_BM m wt h1 → y_fr [23, 24] h0 h1 → (∀ l, l < 12 → (wt l = 99 ∧ l < k + 1 ∨ wt l ≠ 99 ∧ wt l * 12 + l < k + 1) → h1.1 23 l = if (p_kr m wt (k + 1)).2 l = true then nI 1 else nI 0) → y_W (tk_X8_layTree_139 K23 (nI k) (nI (p_fb (k % 12))) (nI (p_sb (k % 12))) (if op = true then nI 1 else nI 0) h1) (fn_X8_layTree_139 k23 (nI k) (nI (p_fb (k % 12))) (nI (p_sb (k % 12))) (if op = true then nI 1 else nI 0) h1) P := by
    intro h1 g1 B1 F1 t1
    unfold tk_X8_layTree_139 fn_X8_layTree_139
    refine y_req (vp_in_nI s9 (by decide)) ?_
    rw [hsc, g1 _ s9]
    refine g_mjoin (x := p_kr m wt k) hl hx K23 k23 P h1 (fun h' q1 q2 => hk h' ⟨y_BM_fr B1 q2, ⟨fun b hb => ?_, fun l hl' hp => ?_⟩, y_fr_trans F1 (y_fr_mono q2 (by decide))⟩) 9 0 h1 2000 rfl (by decide) (fun c hc => ?_) y_fr_refl
    · rw [q1 b hb, hg1 b hb]
    · rw [y_fr_at q2 23]; exact t1 l hl' hp
    · rw [g1 c hc, if_neg (by omega)]
  have keep : wt (k % 12) ≠ k / 12 → p_kr m wt (k + 1) = p_kr m wt k := fun c => by rw [p_kr_s]; unfold p_ks; rw [if_neg c]
  have mark : ∀ v : Bool, v = (p_kr m wt (k + 1)).2 (k % 12) → (wt (k % 12) = 99 ∨ wt (k % 12) = k / 12) → y_W (tk_X8_layTree_138 K23 (nI k) (nI (p_fb (k % 12))) (nI (p_sb (k % 12))) (if op = true then nI 1 else nI 0) (if v = true then nI 1 else nI 0) (nI (k % 12)) h) (fn_X8_layTree_138 k23 (nI k) (nI (p_fb (k % 12))) (nI (p_sb (k % 12))) (if op = true then nI 1 else nI 0) (if v = true then nI 1 else nI 0) (nI (k % 12)) h) P := by
    intro v hv hwk
    unfold tk_X8_layTree_138 fn_X8_layTree_138
    refine y_req hin (y_req (by cases v; exact Or.inl rfl; exact Or.inr rfl) ?_)
    rw [hcl]
    refine rest _ (fun b hb => ?_) ⟨fun b hb => ?_, fun l hl' => ?_⟩ (y_fr_set hF (by decide)) (fun l hl' hp => ?_)
    · rw [z_set_ne (by decide)]; exact hg b hb
    · rw [z_set_ne (by decide)]; exact hB.1 b hb
    · rw [z_set_ne (by decide)]; exact hB.2 l hl'
    · rw [y_sif]
      by_cases e : l = k % 12
      · rw [if_pos e, e, hv]
      · rw [if_neg e, hi l hl' (by omega)]
        have : (p_kr m wt (k + 1)).2 l = (p_kr m wt k).2 l := by
          rw [p_kr_s]
          unfold p_ks p_js
          split
          · split
            · simp only [p_mg]
              have : (l == k % 12) = false := by simp [e]
              rw [this, Bool.false_or]
            · rfl
          · rfl
        rw [this]
  have mk107 : (wt (k % 12) = 99 ∨ wt (k % 12) = k / 12) → y_W (tk_X8_layTree_107 K23 (nI k) (nI (k % 12)) (nI (p_fb (k % 12))) (nI (p_sb (k % 12))) (if op = true then nI 1 else nI 0) h) (fn_X8_layTree_107 k23 (nI k) (nI (k % 12)) (nI (p_fb (k % 12))) (nI (p_sb (k % 12))) (if op = true then nI 1 else nI 0) h) P := by
    intro hwk
    have hT : (p_kr m wt k).2 (k % 12) = false := by
      cases e : (p_kr m wt k).2 (k % 12) with
      | false => rfl
      | true => have := (hJ4 _ e).2.1; rcases hwk with h | h <;> omega
    unfold tk_X8_layTree_107 fn_X8_layTree_107
    by_cases c : op = true
    · have e1 : (if op = true then nI 1 else nI 0) = nI 1 := if_pos c
      have hc := hop.mp c
      refine y_neg (by rw [e1]; decide) ?_
      refine y_req (vp_in_nI f9 (by decide)) (y_req (vp_in_nI s9 (by decide)) ?_)
      rw [hfc, hsc, hg _ f9, hg _ s9]
      have i1 := hx _ f9
      have i2 := hx _ s9
      refine y_eq ((p_kr m wt k).1 (p_fb (k % 12))) ((p_kr m wt k).1 (p_sb (k % 12))) rfl rfl (fun d => ?_) (fun d => ?_)
      · refine mark false ?_ hwk
        rw [p_kr_s]; unfold p_ks p_js
        rw [if_pos hc.1, if_neg (fun z => z.2.2 d), hT]
      · refine mark true ?_ hwk
        rw [p_kr_s]; unfold p_ks p_js
        rw [if_pos hc.1, if_pos ⟨hc.2.1, hc.2.2, d⟩]
        simp [p_mg]
    · have e1 : (if op = true then nI 1 else nI 0) = nI 0 := if_neg c
      refine y_pos (by rw [e1]; rfl) ?_
      refine mark false ?_ hwk
      rw [p_kr_s]; unfold p_ks p_js
      split
      · rename_i c1
        rw [if_neg (fun z => c (hop.mpr ⟨c1, z.1, z.2.1⟩)), hT]
      · exact hT.symm
  unfold tk_X8_layTree_82 fn_X8_layTree_82
  refine y_req hin ?_
  rw [hcl, hB.2 _ hl]
  refine y_none (wt (k % 12)) rfl (fun c => mk107 (Or.inl c)) (fun c => ?_)
  refine y_req hin ?_
  rw [pk_div (by omega) (by decide) (by decide)]
  refine y_if (fun d => mk107 (Or.inr ((p_i_eqn hwl (by omega)).mp d))) (fun d => ?_)
  have d' : wt (k % 12) ≠ k / 12 := fun z => d ((p_i_eqn hwl (by omega)).mpr z)
  refine rest h hg hB hF (fun l hl' hp => ?_)
  rw [keep d']
  refine hi l hl' ?_
  rcases hp with ⟨p1, p2⟩ | ⟨p1, p2⟩
  · refine Or.inl ⟨p1, ?_⟩
    by_cases e : l = k
    · exfalso
      have : k % 12 = l := by omega
      exact c (this ▸ p1)
    · omega
  · refine Or.inr ⟨p1, ?_⟩
    by_cases e : wt l * 12 + l = k
    · exfalso
      have e1 : k % 12 = l := by omega
      exact d' (by rw [e1]; omega)
    · omega
theorem g_mloop {m : Nat} {wt : Nat → Nat} {h0 : z_H} (hw : y_wf m wt) : ∀ (j k : Nat) (h : z_H) (n : Nat), k + j = 120 → j < n → g_Sm m wt k h0 h → y_W (tk_X8_layTree_23 n (nI k) h) (fn_X8_layTree_23 n (nI k) h) (fun r => g_Sm m wt 120 h0 r.2)
  | 0, k, h, n + 1, hk, hn, hS => by
    have : k = 120 := by omega
    subst this
    unfold tk_X8_layTree_23 fn_X8_layTree_23
    dsimp only
    exact y_pos (nI_le (Nat.le_refl 120) (by decide)) (y_end hS)
  | j + 1, k, h, n + 1, hk, hn, hS => by
    have hlt : k < 120 := by omega
    have hl : k % 12 < 12 := Nat.mod_lt _ (by decide)
    obtain ⟨-, f1, f9⟩ := s_fb _ hl
    obtain ⟨-, e1, s9⟩ := s_sb _ hl
    have hwl : wt (k % 12) < 2 ^ 31 := by rcases hw.2 _ hl with h | h <;> omega
    have hB := hS.1
    unfold tk_X8_layTree_23 fn_X8_layTree_23
    dsimp only
    refine y_neg (nI_ge hlt (by decide)) ?_
    rw [pk_rem (by omega) (by decide) (by decide), pk_div (by omega) (by decide) (by decide), f1, e1, nI_clamp (by omega : k % 12 < 2 ^ 31), nI_clamp (by omega : p_fb (k % 12) < 2 ^ 31), nI_clamp (by omega : p_sb (k % 12) < 2 ^ 31), hB.2 _ hl]
    refine y_req (vp_in_nI hl (by decide)) ?_
    have go := fun op hop => g_m82 hw hlt _ _ _ (fun h' hS' => g_mloop hw j (k + 1) h' n (by omega) (by omega) hS') hS op hop
    unfold tk_X8_layTree_81 fn_X8_layTree_81
    refine y_if (fun c => ?_) (fun c => go false ⟨fun z => absurd z (by decide), fun z => absurd ((p_i_eqn hwl (by omega)).mpr z.1) c⟩)
    refine y_req (vp_in_nI f9 (by decide)) ?_
    refine y_if (fun c1 => ?_) (fun c1 => go false ⟨fun z => absurd z (by decide), fun z => absurd ((y_BM0 hB f9).mpr z.2.1) c1⟩)
    refine y_req (vp_in_nI s9 (by decide)) ?_
    refine y_if (fun c2 => ?_) (fun c2 => go false ⟨fun z => absurd z (by decide), fun z => absurd ((y_BM0 hB s9).mpr z.2.2) c2⟩)
    exact go true ⟨fun _ => ⟨(p_i_eqn hwl (by omega)).mp c, (y_BM0 hB f9).mp c1, (y_BM0 hB s9).mp c2⟩, fun _ => rfl⟩
theorem g_minit {m : Nat} {wt : Nat → Nat} {h0 : z_H} (hw : y_wf m wt) : ∀ (j k : Nat) (h : z_H) (n : Nat), k + j = 9 → j < n → y_BM m wt h → (∀ b, b < k → h.1 24 b = nI b) → y_fr [23, 24] h0 h → y_W (tk_X8_layTree_2 n (nI k) h) (fn_X8_layTree_2 n (nI k) h) (fun r => g_Sm m wt 120 h0 r.2)
  | 0, k, h, n + 1, hl, hn, hB, hg, hF => by
    have : k = 9 := by omega
    subst this
    unfold tk_X8_layTree_2 fn_X8_layTree_2
    dsimp only
    refine y_pos (nI_le (Nat.le_refl 9) (by decide)) ?_
    exact g_mloop hw 120 0 h 2000 rfl (by decide) ⟨hB, ⟨hg, fun l hl hp => by omega⟩, hF⟩
  | j + 1, k, h, n + 1, hl, hn, hB, hg, hF => by
    have hlt : k < 9 := by omega
    unfold tk_X8_layTree_2 fn_X8_layTree_2
    dsimp only
    refine y_neg (nI_ge hlt (by decide)) ?_
    refine y_req (vp_in_nI hlt (by decide)) ?_
    rw [nI_add, nI_clamp (by omega)]
    refine g_minit hw j (k + 1) _ n (by omega) (by omega) ⟨fun b hb => ?_, fun l hl => ?_⟩ (fun b hb => ?_) (y_fr_set hF (by decide))
    · rw [z_set_ne (by decide)]; exact hB.1 b hb
    · rw [z_set_ne (by decide)]; exact hB.2 l hl
    · rw [y_sif]
      by_cases e : b = k
      · rw [if_pos e, e]
      · rw [if_neg e]; exact hg b (by omega)
theorem g_mtree {m : Nat} {wt : Nat → Nat} {h : z_H} (hw : y_wf m wt) (hB : y_BM m wt h) : y_W (tk_X8_layTree h) (fn_X8_layTree h) (fun r => y_BM m wt r.2 ∧ y_TM (p_kr m wt 120) r.2 ∧ y_fr [23, 24] h r.2) := by
  unfold tk_X8_layTree fn_X8_layTree
  refine y_mono (g_minit hw 9 0 h 2000 rfl (by decide) hB (fun b hb => absurd hb (Nat.not_lt_zero b)) y_fr_refl) (fun q => ?_)
  obtain ⟨q1, ⟨q2, q3⟩, q4⟩ := q
  exact ⟨q1, ⟨q2, fun l hl => q3 l hl (by rcases hw.2 l hl with h | h <;> omega)⟩, q4⟩
