/-! ===== pure: what can be reached ===== -/
theorem y_sub_len : ∀ (A A' : List Nat), A.Nodup → (∀ x ∈ A, x ∈ A') → A.length ≤ A'.length
  | [], A', _, _ => Nat.zero_le _
  | a :: A, A', hn, h => by
    obtain ⟨h1, h2⟩ := List.nodup_cons.mp hn
    have ha := h a List.mem_cons_self
    have := y_sub_len A (A'.erase a) h2 (fun x hx => by
      have hne : x ≠ a := fun e => h1 (e ▸ hx)
      exact (List.mem_erase_of_ne hne).mpr (h x (List.mem_cons_of_mem _ hx)))
    rw [List.length_erase_of_mem ha] at this
    have := List.length_pos_of_mem ha
    rw [List.length_cons]
    omega
def p_cl (go : Nat → Nat → Nat) (B A : List Nat) (c d : Nat) : Prop := go c d = 99 ∨ go c d ∈ A ∨ go c d ∈ B
def p_RA (go : Nat → Nat → Nat) (B A : List Nat) : Prop := A.Nodup ∧ 0 < A.length ∧ A.getD 0 99 = B.getD 0 99 ∧ (∀ c ∈ A, c < 36) ∧ (∀ c ∈ A, c = B.getD 0 99 ∨ c ∉ B) ∧ ∀ k, 0 < k → k < A.length → ∃ k', k' < k ∧ ∃ d, d < 4 ∧ go (A.getD k' 99) d = A.getD k 99
def p_RC (go : Nat → Nat → Nat) (B A : List Nat) : Prop := ∀ c ∈ A, ∀ d, d < 4 → p_cl go B A c d
theorem y_mem_ix {A : List Nat} {c : Nat} (h : c ∈ A) : ∃ k, k < A.length ∧ A.getD k 99 = c := by
  obtain ⟨i, hi, e⟩ := List.getElem_of_mem h
  exact ⟨i, hi, by rw [List.getD_eq_getElem?_getD, List.getElem?_eq_getElem hi, e]; rfl⟩
theorem y_nd_ix {A : List Nat} (hn : A.Nodup) {i j : Nat} (hi : i < A.length) (hj : j < A.length) (h : A.getD i 99 = A.getD j 99) : i = j := by
  rw [List.getD_eq_getElem?_getD, List.getD_eq_getElem?_getD, List.getElem?_eq_getElem hi, List.getElem?_eq_getElem hj] at h
  apply (List.getElem?_inj hi hn).mp
  rw [List.getElem?_eq_getElem hi, List.getElem?_eq_getElem hj]
  exact congrArg some h
theorem p_RA_sub {go : Nat → Nat → Nat} {B A A' : List Nat} (h : p_RA go B A) (h' : p_RA go B A') (hc : p_RC go B A') : ∀ k, k < A.length → A.getD k 99 ∈ A' := by
  obtain ⟨a1, a2, a3, a4, a5, a6⟩ := h
  intro k
  induction k using Nat.strongRecOn with
  | ind k ih =>
    intro hk
    by_cases h0 : k = 0
    · subst h0
      rw [a3, ← h'.2.2.1]
      exact y_getD_mem h'.2.1
    · obtain ⟨k', h1, d, h2, h3⟩ := a6 k (by omega) hk
      have := hc _ (ih k' h1 (by omega)) d h2
      unfold p_cl at this
      rw [h3] at this
      have h36 := a4 _ (y_getD_mem hk)
      rcases this with z | z | z
      · omega
      · exact z
      · rcases a5 _ (y_getD_mem hk) with w | w
        · have := y_nd_ix a1 hk a2 (w.trans a3.symm)
          exact absurd this h0
        · exact absurd z w
theorem p_RA_uni {go : Nat → Nat → Nat} {B A A' : List Nat} (h : p_RA go B A) (hc : p_RC go B A) (h' : p_RA go B A') (hc' : p_RC go B A') : A.length = A'.length := by
  apply Nat.le_antisymm
  · refine y_sub_len A A' h.1 (fun x hx => ?_)
    obtain ⟨k, h1, h2⟩ := y_mem_ix hx
    rw [← h2]
    exact p_RA_sub h h' hc' k h1
  · refine y_sub_len A' A h'.1 (fun x hx => ?_)
    obtain ⟨k, h1, h2⟩ := y_mem_ix hx
    rw [← h2]
    exact p_RA_sub h' h hc k h1
theorem y_app_getD {A : List Nat} {t k : Nat} : (A ++ [t]).getD k 99 = if k < A.length then A.getD k 99 else if k = A.length then t else 99 := by
  rw [List.getD_eq_getElem?_getD, List.getD_eq_getElem?_getD]
  by_cases h : k < A.length
  · rw [if_pos h, List.getElem?_append_left h]
  · rw [if_neg h, List.getElem?_append_right (by omega)]
    by_cases e : k = A.length
    · rw [if_pos e, e, Nat.sub_self]; rfl
    · rw [if_neg e]
      have : k - A.length = (k - A.length - 1) + 1 := by omega
      rw [this]; rfl
theorem p_RA_add {go : Nat → Nat → Nat} {B A : List Nat} (h : p_RA go B A) {c d : Nat} (hc : c ∈ A) (hd : d < 4) (h36 : go c d < 36) (hA : go c d ∉ A) (hB : go c d ∉ B) : p_RA go B (A ++ [go c d]) := by
  obtain ⟨a1, a2, a3, a4, a5, a6⟩ := h
  refine ⟨List.nodup_append.mpr ⟨a1, by simp, fun x hx y hy => ?_⟩, by simp, ?_, fun x hx => ?_, fun x hx => ?_, fun k hk hk2 => ?_⟩
  · rw [List.mem_singleton.mp hy]; intro z; exact hA (z ▸ hx)
  · rw [y_app_getD, if_pos a2]; exact a3
  · rcases List.mem_append.mp hx with hx | hx
    · exact a4 x hx
    · rw [List.mem_singleton.mp hx]; exact h36
  · rcases List.mem_append.mp hx with hx | hx
    · exact a5 x hx
    · rw [List.mem_singleton.mp hx]; exact Or.inr hB
  · rw [List.length_append, List.length_singleton] at hk2
    by_cases e : k = A.length
    · obtain ⟨k', h1, h2⟩ := y_mem_ix hc
      refine ⟨k', by omega, d, hd, ?_⟩
      rw [y_app_getD, if_pos h1, h2, y_app_getD, if_neg (by omega), if_pos e]
    · obtain ⟨k', h1, d', h2, h3⟩ := a6 k hk (by omega)
      refine ⟨k', h1, d', h2, ?_⟩
      rw [y_app_getD, if_pos (by omega), y_app_getD, if_pos (by omega)]
      exact h3
theorem p_cl_mono {go : Nat → Nat → Nat} {B A : List Nat} {c d t : Nat} (h : p_cl go B A c d) : p_cl go B (A ++ [t]) c d := by
  rcases h with h | h | h
  · exact Or.inl h
  · exact Or.inr (Or.inl (List.mem_append_left _ h))
  · exact Or.inr (Or.inr h)
/-! the class -/
def c_In (m : Nat) (wt : Nat → Nat) (s : p_St) (A : List Nat) (sn : Int64) (h : z_H) : Prop := p_RA (p_go m wt) s.1 A ∧ (∀ k, k < A.length → h.1 15 k = nI (A.getD k 99)) ∧ ∀ c, c < 36 → y_bit sn c = decide (c ∈ A)
theorem c_in61 {m : Nat} {wt : Nat → Nat} {s : p_St} {hd f0 : Nat} {h0 : z_H} (hw : y_wf m wt) (ws : y_ws m s) (hR0 : y_RC m wt s hd f0 h0) (K45 : Int64 → Int32 → Int32 → z_H → Prop) (k45 : Int64 → Int32 → Int32 → z_H → z_R) (P : z_R → Prop) (i : Nat)
    (hk : ∀ A sn h, c_In m wt s A sn h → i < A.length → (∀ k, k < i + 1 → ∀ d, d < 4 → p_cl (p_go m wt) s.1 A (A.getD k 99) d) → y_fr [15] h0 h → y_W (K45 sn (nI A.length) (nI (i + 1)) h) (k45 sn (nI A.length) (nI (i + 1)) h) P) :
    ∀ (j d : Nat) (A : List Nat) (sn : Int64) (h : z_H) (n : Nat), d + j = 4 → j < n → c_In m wt s A sn h → i < A.length → i < 36 → (∀ k, k < i → ∀ e, e < 4 → p_cl (p_go m wt) s.1 A (A.getD k 99) e) → (∀ e, e < d → p_cl (p_go m wt) s.1 A (A.getD i 99) e) → y_fr [15] h0 h →
      y_W (tk_X4_countReached_61 K45 n sn (nI A.length) (nI i) (nI d) h) (fn_X4_countReached_61 k45 n sn (nI A.length) (nI i) (nI d) h) P
  | 0, d, A, sn, h, n + 1, hd, hn, hI, hi, hi36, hc1, hc2, hf => by
    have : d = 4 := by omega
    subst this
    unfold tk_X4_countReached_61 fn_X4_countReached_61
    dsimp only
    rw [nI_add]
    refine y_pos (nI_le (Nat.le_refl 4) (by decide)) (hk A sn h hI hi (fun k hk e he => ?_) hf)
    by_cases z : k = i
    · rw [z]; exact hc2 e he
    · exact hc1 k (by omega) e he
  | j + 1, d, A, sn, h, n + 1, hd, hn, hI, hi, hi36, hc1, hc2, hf => by
    have hlt : d < 4 := by omega
    have hIk := hI
    obtain ⟨hA, h15, hsn⟩ := hI
    have ih := c_in61 hw ws hR0 K45 k45 P i hk j (d + 1)
    have hl36 := y_len 36 A hA.1 hA.2.2.2.1
    have hc36 : A.getD i 99 < 36 := hA.2.2.2.1 _ (y_getD_mem hi)
    have hB : y_BC m wt h := y_BC_fr hR0.1 hf
    have hlt2 := p_go_lt (m := m) (wt := wt) hc36 hlt
    have step : ∀ A' sn' h', c_In m wt s A' sn' h' → i < A'.length → (∀ k, k < i → ∀ e, e < 4 → p_cl (p_go m wt) s.1 A' (A'.getD k 99) e) → (∀ e, e < d + 1 → p_cl (p_go m wt) s.1 A' (A'.getD i 99) e) → y_fr [15] h0 h' → y_W (tk_X4_countReached_135 K45 (fun (a1_ : Int64) (a3_ : Int32) (a4_ : Int32) (a5_ : Int32) (h_ : z_H) => tk_X4_countReached_61 K45 n a1_ a3_ a4_ a5_ h_) sn' (nI A'.length) (nI i) (nI d) h') (fn_X4_countReached_135 k45 (fun (a1_ : Int64) (a3_ : Int32) (a4_ : Int32) (a5_ : Int32) (h_ : z_H) => fn_X4_countReached_61 k45 n a1_ a3_ a4_ a5_ h_) sn' (nI A'.length) (nI i) (nI d) h') P := by
      intro A' sn' h' q1 q2 q3 q4 q5
      unfold tk_X4_countReached_135 fn_X4_countReached_135
      rw [nI_add]
      exact ih A' sn' h' n (by omega) (by omega) q1 q2 hi36 q3 q4 q5
    have stay : p_cl (p_go m wt) s.1 A (A.getD i 99) d → y_W (tk_X4_countReached_135 K45 (fun (a1_ : Int64) (a3_ : Int32) (a4_ : Int32) (a5_ : Int32) (h_ : z_H) => tk_X4_countReached_61 K45 n a1_ a3_ a4_ a5_ h_) sn (nI A.length) (nI i) (nI d) h) (fn_X4_countReached_135 k45 (fun (a1_ : Int64) (a3_ : Int32) (a4_ : Int32) (a5_ : Int32) (h_ : z_H) => fn_X4_countReached_61 k45 n a1_ a3_ a4_ a5_ h_) sn (nI A.length) (nI i) (nI d) h) P := fun z => step A sn h hIk hi hc1 (fun e he => by
      by_cases z2 : e = d
      · rw [z2]; exact z
      · exact hc2 e (by omega)) hf
    unfold tk_X4_countReached_61 fn_X4_countReached_61
    dsimp only
    rw [y_atv hi36, h15 i hi, k_go hw hB hc36 hlt]
    refine y_neg (nI_ge hlt (by decide)) ?_
    refine y_none (p_go m wt (A.getD i 99) d) rfl (fun e => stay (Or.inl e)) (fun e => ?_)
    have l36 := hlt2.resolve_right e
    rw [p_i_n e, y_isIn l36, y_isIn l36, hsn _ l36, y_fr_atL hf 10, hR0.2.1.2.2.2.2.2 ws.1 _ l36]
    by_cases zA : p_go m wt (A.getD i 99) d ∈ A
    · rw [if_pos (decide_eq_true zA)]
      exact y_neg i1_ne0 (stay (Or.inr (Or.inl zA)))
    · rw [if_neg (fun z => zA (of_decide_eq_true z))]
      refine y_pos rfl ?_
      by_cases zB : p_go m wt (A.getD i 99) d ∈ s.1
      · rw [if_pos (decide_eq_true zB)]
        exact y_neg i1_ne0 (stay (Or.inr (Or.inr zB)))
      · rw [if_neg (fun z => zB (of_decide_eq_true z))]
        refine y_pos rfl ?_
        have hA' := p_RA_add hA (y_getD_mem hi) hlt l36 zA zB
        have hl36' := y_len 36 _ hA'.1 hA'.2.2.2.1
        have hlen : (A ++ [p_go m wt (A.getD i 99) d]).length = A.length + 1 := by simp
        rw [hlen] at hl36'
        have hgi : (A ++ [p_go m wt (A.getD i 99) d]).getD i 99 = A.getD i 99 := by rw [y_app_getD, if_pos hi]
        rw [nI_add, ← hlen, y_putv (by omega)]
        refine step _ _ _ ⟨hA', fun k hk => ?_, fun c hc => ?_⟩ (by omega) (fun k hk e' he => ?_) (fun e' he => ?_) (y_fr_set hf (by decide))
        · rw [y_sif, y_app_getD]
          by_cases z : k = A.length
          · rw [if_pos z, if_neg (by omega), if_pos z]
          · rw [if_neg z, if_pos (by omega)]; exact h15 k (by omega)
        · rw [y_bit_or, hsn c hc, s_set _ l36 c (by omega), Bool.eq_iff_iff]
          simp only [Bool.or_eq_true, decide_eq_true_iff, List.mem_append, List.mem_singleton]
        · rw [y_app_getD, if_pos (by omega)]
          exact p_cl_mono (hc1 k hk e' he)
        · rw [hgi]
          by_cases z2 : e' = d
          · rw [z2]; exact Or.inr (Or.inl (by simp))
          · exact p_cl_mono (hc2 e' (by omega))
theorem c_in45 {m : Nat} {wt : Nat → Nat} {s : p_St} {hd f0 : Nat} {h0 : z_H} (hw : y_wf m wt) (ws : y_ws m s) (hR0 : y_RC m wt s hd f0 h0) : ∀ (j i : Nat) (A : List Nat) (sn : Int64) (h : z_H) (n : Nat), i + j = 37 → j < n → c_In m wt s A sn h → (∀ k, k < i → k < A.length → ∀ d, d < 4 → p_cl (p_go m wt) s.1 A (A.getD k 99) d) → y_fr [15] h0 h →
      y_W (tk_X4_countReached_45 n sn (nI A.length) (nI i) h) (fn_X4_countReached_45 n sn (nI A.length) (nI i) h) (fun r => (∃ A', p_RA (p_go m wt) s.1 A' ∧ p_RC (p_go m wt) s.1 A' ∧ z_vi r = nI (A'.length - 1)) ∧ y_fr [15] h0 r.2)
  | 0, i, A, sn, h, n + 1, hi, hn, hI, hc, hf => by
    have hl36 := y_len 36 A hI.1.1 hI.1.2.2.2.1
    unfold tk_X4_countReached_45 fn_X4_countReached_45
    dsimp only
    refine y_pos (nI_le (by omega) (by omega)) (y_end ⟨⟨A, hI.1, fun c hc' d hd => ?_, ?_⟩, hf⟩)
    · obtain ⟨k, h1, h2⟩ := y_mem_ix hc'
      rw [← h2]
      exact hc k (by omega) h1 d hd
    · have := hI.1.2.1
      rw [← pk_sub (by omega)]; rfl
  | j + 1, i, A, sn, h, n + 1, hi, hn, hI, hc, hf => by
    have hl36 := y_len 36 A hI.1.1 hI.1.2.2.2.1
    have h0' := hI.1.2.1
    unfold tk_X4_countReached_45 fn_X4_countReached_45
    dsimp only
    refine y_le A.length i rfl rfl (fun e => y_end ⟨⟨A, hI.1, fun c hc' d hd => ?_, ?_⟩, hf⟩) (fun e => ?_)
    · obtain ⟨k, h1, h2⟩ := y_mem_ix hc'
      rw [← h2]
      exact hc k (by omega) h1 d hd
    · rw [← pk_sub (by omega)]; rfl
    · refine y_neg (nI_ge (by omega) (by decide)) ?_
      refine c_in61 hw ws hR0 _ _ _ i (fun A' sn' h' q1 q2 q3 q4 => ?_) 4 0 A sn h 2000 rfl (by decide) hI e (by omega) (fun k hk => hc k hk (by omega)) (fun e he => absurd he (Nat.not_lt_zero e)) hf
      exact c_in45 hw ws hR0 j (i + 1) A' sn' h' n (by omega) (by omega) q1 (fun k hk _ => q3 k hk) q4
theorem c_reach {m : Nat} {wt : Nat → Nat} {s : p_St} {hd f0 : Nat} {h : z_H} (hw : y_wf m wt) (ws : y_ws m s) (hR : y_RC m wt s hd f0 h) : y_W (tk_X4_countReached h) (fn_X4_countReached h) (fun r => (∃ A, p_RA (p_go m wt) s.1 A ∧ p_RC (p_go m wt) s.1 A ∧ z_vi r = nI (A.length - 1)) ∧ y_fr [15] h r.2) := by
  have hl := y_ws_len ws
  have hhd := y_ws_hd ws
  have hF : y_fr [15] h (z_set h 15 0 (nI (s.1.getD 0 99))) := y_fr_set y_fr_refl (by decide)
  unfold tk_X4_countReached fn_X4_countReached fv_X6_isThere
  rw [hR.2.1.2.2.1, if_neg (nI_nle hl.1 (by omega)), k_c0 hR hl.1 hl.1 (by omega), y_putv (by decide : 0 < 36)]
  refine y_neg i1_ne0 ?_
  have e : (z_set h 15 0 (nI (s.1.getD 0 99))).1 11 (((((z_set h 15 0 (nI (s.1.getD 0 99))).1 10 4) + (nI 0)) &&& (nI 63)).toNatClampNeg) = nI (s.1.getD 0 99) := by
    rw [y_fr_at hF 11, y_fr_at hF 10, k_c0 hR hl.1 hl.1 (by omega)]
  rw [e]
  refine c_in45 hw ws hR 37 0 [s.1.getD 0 99] _ _ 2000 rfl (by decide) ⟨⟨by simp, by simp, rfl, fun c hc => ?_, fun c hc => ?_, fun k h1 h2 => ?_⟩, fun k hk => ?_, fun c hc => ?_⟩ (fun k hk => absurd hk (Nat.not_lt_zero k)) hF
  · rw [List.mem_singleton.mp hc]; exact hhd.1
  · exact Or.inl (List.mem_singleton.mp hc)
  · simp at h2; omega
  · have : k = 0 := by simp at hk; exact hk
    subst this
    exact y_sh
  · rw [s_set _ hhd.1 c (by omega)]
    simp
/-! the reference -/
def r_In (m : Nat) (wt : Nat → Nat) (s : p_St) (A : List Nat) (h : z_H) : Prop := p_RA (p_go m wt) s.1 A ∧ ∀ c, c < 36 → h.1 34 c = if decide (c ≠ s.1.getD 0 99 ∧ (c ∈ s.1 ∨ c ∈ A)) = true then nI 1 else nI 0
