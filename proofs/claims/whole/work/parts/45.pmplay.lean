/-! ===== pure: the reference's worm ===== -/
def y_WM (s : p_St) (h : z_H) : Prop := h.1 20 12 = nI s.1.length ∧ h.1 20 13 = nI s.2.1 ∧ (∀ i, i < s.1.length → h.1 28 i = nI (s.1.getD i 99)) ∧ h.1 20 8 = nI s.2.2.length ∧ ∀ i, i < s.2.2.length → h.1 27 i = nI (s.2.2.getD i 99)
def y_KM (m : Nat) (wt : Nat → Nat) (s : p_St) (h : z_H) : Prop := y_BM m wt h ∧ y_CM m wt h ∧ y_TM (p_gT m wt) h ∧ y_WM s h ∧ h.1 20 10 = if 0 < s.1.length then nI 1 else nI 0
/-- all of the heap but what a step of the reference changes -/
def r_near (h h' : z_H) : Prop := y_fr [20, 27, 28] h h' ∧ ∀ b, b ≠ 8 → b ≠ 12 → b ≠ 13 → h'.1 20 b = h.1 20 b
theorem r_near_refl (h : z_H) : r_near h h := ⟨y_fr_refl, fun _ _ _ _ => rfl⟩
theorem r_near_trans {h h' h'' : z_H} (f : r_near h h') (g : r_near h' h'') : r_near h h'' := ⟨y_fr_trans f.1 g.1, fun b h1 h2 h3 => (g.2 b h1 h2 h3).trans (f.2 b h1 h2 h3)⟩
theorem r_near_K {m : Nat} {wt : Nat → Nat} {s s' : p_St} {h h' : z_H} (hK : y_KM m wt s h) (hl : 0 < s.1.length) (hl' : 0 < s'.1.length) (hn : r_near h h') (hW : y_WM s' h') : y_KM m wt s' h' := by
  obtain ⟨k1, k2, k3, k4, k5⟩ := hK
  refine ⟨y_BM_fr k1 hn.1, ⟨by rw [hn.2 7 (by decide) (by decide) (by decide)]; exact k2.1, fun p hp => by rw [y_fr_at hn.1 26]; exact k2.2.1 p hp, fun c hc => by rw [y_fr_at hn.1 25]; exact k2.2.2 c hc⟩, y_TM_fr k3 hn.1, hW, ?_⟩
  rw [hn.2 10 (by decide) (by decide) (by decide), k5, if_pos hl, if_pos hl']
theorem nI_c0 : (nI 0).toNatClampNeg = 0 := nI_clamp (by decide)
theorem r_isOn26 {B : List Nat} {h : z_H} {L t : Nat} (hb : ∀ i, i < L → h.1 28 i = nI (B.getD i 99)) (hL : L ≤ 36) (ht : t < 2 ^ 31) (hB : ∀ i, i < L → B.getD i 99 < 2 ^ 31) : ∀ (j k : Nat) (f : Bool) (n : Nat), k + j = L → j < n → (f = true ↔ ∃ i, i < k ∧ B.getD i 99 = t) →
    y_W (tk_X8_isOn_26 h n (nI t) (nI L) (if f = true then nI 1 else nI 0) (nI k)) (fn_X8_isOn_26 h n (nI t) (nI L) (if f = true then nI 1 else nI 0) (nI k)) (fun r => r = some (.int (if (∃ i, i < L ∧ B.getD i 99 = t) then nI 1 else nI 0)))
  | 0, k, f, n + 1, hk, hn, hf => by
    have : k = L := by omega
    subst this
    unfold tk_X8_isOn_26 fn_X8_isOn_26
    dsimp only
    have e : (if f = true then nI 1 else nI 0 : Int32) = if (∃ i, i < k ∧ B.getD i 99 = t) then nI 1 else nI 0 := by
      by_cases z : f = true
      · rw [if_pos z, if_pos (hf.mp z)]
      · rw [if_neg z, if_neg (fun w => z (hf.mpr w))]
    refine y_pos (nI_le (Nat.le_refl _) (by omega)) ⟨by cases f; exact Or.inl rfl; exact Or.inr rfl, by rw [e]⟩
  | j + 1, k, f, n + 1, hk, hn, hf => by
    have hlt : k < L := by omega
    have ih := fun f' => r_isOn26 hb hL ht hB j (k + 1) f' n (by omega) (by omega)
    unfold tk_X8_isOn_26 fn_X8_isOn_26 tk_X8_isOn_47 fn_X8_isOn_47 tk_X8_isOn_52 fn_X8_isOn_52
    dsimp only
    rw [nI_clamp (by omega), hb k hlt, nI_add]
    refine y_neg (nI_ge hlt (by omega)) ?_
    cases f with
    | true =>
      refine y_neg i1_ne0 (ih true ⟨fun _ => ?_, fun _ => rfl⟩)
      obtain ⟨i, h1, h2⟩ := hf.mp rfl
      exact ⟨i, by omega, h2⟩
    | false =>
      refine y_pos rfl (y_req (vp_in_nI (by omega) (by decide)) ?_)
      refine y_eq (B.getD k 99) t rfl rfl (fun e => ?_) (fun e => ?_) (hB k hlt) ht
      · exact ih true ⟨fun _ => ⟨k, by omega, e⟩, fun _ => rfl⟩
      · refine ih false ⟨fun z => (by cases z), fun z => ?_⟩
        obtain ⟨i, h1, h2⟩ := z
        by_cases e2 : i = k
        · exact absurd (e2 ▸ h2) e
        · have := hf.mpr ⟨i, by omega, h2⟩; cases this
theorem p_st_ex (s : p_St) (t : Nat) : (∃ i, i < (p_st s).length ∧ s.1.getD i 99 = t) ↔ t ∈ p_st s := by
  constructor
  · rintro ⟨i, h1, h2⟩
    rw [← p_st_getD h1] at h2
    rw [← h2]
    exact y_getD_mem h1
  · intro h
    obtain ⟨i, hi, e⟩ := List.getElem_of_mem h
    refine ⟨i, hi, ?_⟩
    rw [← p_st_getD hi, List.getD_eq_getElem?_getD, List.getElem?_eq_getElem hi, e]
    rfl
theorem r_isOn {m : Nat} {wt : Nat → Nat} {s : p_St} {h : z_H} (hK : y_KM m wt s h) (ws : y_ws m s) {t : Nat} (ht : t < 36) : tk_X8_isOn (nI t) h ∧ fn_X8_isOn (nI t) h = some (.int (if t ∈ p_st s then nI 1 else nI 0)) := by
  have hl := y_ws_len ws
  have hsl := p_st_len s
  obtain ⟨-, -, -, ⟨w1, w2, w3, w4, w5⟩, -⟩ := hK
  have h6 := ws.2.2.2.2.2
  have go : ∀ L, L = (p_st s).length → y_W (tk_X8_isOn_20 h (nI t) (nI L)) (fn_X8_isOn_20 h (nI t) (nI L)) (fun r => r = some (.int (if t ∈ p_st s then nI 1 else nI 0))) := by
    intro L hL
    have hle : L ≤ s.1.length := by rw [hL, hsl]; split <;> omega
    unfold tk_X8_isOn_20 fn_X8_isOn_20
    refine y_mono (r_isOn26 (B := s.1) (t := t) (fun i hi => w3 i (by omega)) (by omega) (by omega) (fun i hi => by have := (ws.2.2.1 _ (y_getD_mem (show i < s.1.length by omega))).1; omega) L 0 false 2000 (by omega) (by omega) ⟨fun z => (by cases z), fun ⟨i, z, _⟩ => absurd z (Nat.not_lt_zero i)⟩) (fun q => ?_)
    rw [q]
    subst hL
    by_cases e : t ∈ p_st s
    · rw [if_pos e, if_pos ((p_st_ex s t).mpr e)]
    · rw [if_neg e, if_neg (fun z => e ((p_st_ex s t).mp z))]
  have W : y_W (tk_X8_isOn (nI t) h) (fn_X8_isOn (nI t) h) (fun r => r = some (.int (if t ∈ p_st s then nI 1 else nI 0))) := by
    unfold tk_X8_isOn fn_X8_isOn
    rw [w1, w2, pk_sub (by omega)]
    refine y_le s.2.1 0 rfl rfl (fun e => ?_) (fun e => ?_)
    · exact go _ (by rw [hsl, if_neg (by omega)])
    · exact go _ (by rw [hsl, if_pos e])
  exact W
theorem r_head {m : Nat} {wt : Nat → Nat} {s : p_St} {h : z_H} (hK : y_KM m wt s h) (ws : y_ws m s) : h.1 28 ((nI 0).toNatClampNeg) = nI (s.1.getD 0 99) := by
  rw [nI_c0]
  exact hK.2.2.2.1.2.2.1 0 (y_ws_len ws).1
theorem r_to {m : Nat} {wt : Nat → Nat} {s : p_St} {h : z_H} (hw : y_wf m wt) (hK : y_KM m wt s h) (ws : y_ws m s) {d : Nat} (hd4 : d < 4) : tk_X8_beside (h.1 28 ((nI 0).toNatClampNeg)) (nI d) h ∧ fn_X8_beside (h.1 28 ((nI 0).toNatClampNeg)) (nI d) h = some (.int (p_i (p_to m wt s d))) := by
  rw [r_head hK ws]
  exact r_bs hw hK.1 (y_ws_hd ws).1 hd4
theorem r_deadly {m : Nat} {wt : Nat → Nat} {s : p_St} {h : z_H} (hw : y_wf m wt) (hK : y_KM m wt s h) (ws : y_ws m s) {d : Nat} (hd4 : d < 4) : tk_X8_isDeadly (nI d) h ∧ fn_X8_isDeadly (nI d) h = some (.int (if p_can m wt s d = true then nI 0 else nI 1)) := by
  obtain ⟨t1, t2⟩ := r_to hw hK ws hd4
  have hlt := p_to_lt (wt := wt) ws hd4
  have W : y_W (tk_X8_isDeadly (nI d) h) (fn_X8_isDeadly (nI d) h) (fun r => r = some (.int (if p_can m wt s d = true then nI 0 else nI 1))) := by
    unfold tk_X8_isDeadly fn_X8_isDeadly
    refine y_req t1 ?_
    rw [t2]
    show y_W ((p_i (p_to m wt s d) = (-1) → True) ∧ (¬ p_i (p_to m wt s d) = (-1) → tk_X8_isOn (p_i (p_to m wt s d)) h)) (if p_i (p_to m wt s d) = (-1) then _ else if (z_vi0 (fn_X8_isOn (p_i (p_to m wt s d)) h)) = 0 then _ else _) _
    refine y_none (p_to m wt s d) rfl (fun e => y_end ?_) (fun e => ?_)
    · rw [if_neg (fun z => (p_can_iff.mp z).1 e)]
    · have l36 := hlt.resolve_right e
      rw [p_i_n e]
      obtain ⟨o1, o2⟩ := r_isOn hK ws l36
      refine ⟨o1, ?_⟩
      rw [o2]
      by_cases e2 : p_to m wt s d ∈ p_st s
      · rw [if_pos e2, if_neg (fun z => (p_can_iff.mp z).2 e2)]
        exact if_neg i1_ne0
      · rw [if_neg e2, if_pos (p_can_iff.mpr ⟨e, e2⟩)]
        exact if_pos i0_eq0
  exact W
/-- the row of feeds, one further -/
theorem r_go131 {F : List Nat} {h0 : z_H} (hF0 : 0 < F.length) (hF : F.length ≤ 40) : ∀ (j k : Nat) (h : z_H) (n : Nat), k + j = F.length - 1 → j < n → h.1 20 8 = nI (F.length - 1) → (∀ i, i < k → h.1 27 i = nI (F.getD (i + 1) 99)) → (∀ i, k ≤ i → i < F.length → h.1 27 i = nI (F.getD i 99)) → y_fr [27] h0 h →
    y_W (tk_X8_goOn_131 n (nI k) h) (fn_X8_goOn_131 n (nI k) h) (fun r => (∀ i, i < F.length - 1 → r.2.1 27 i = nI (F.getD (i + 1) 99)) ∧ y_fr [27] h0 r.2)
  | 0, k, h, n + 1, hk, hn, h8, ha, hb, hf => by
    have : k = F.length - 1 := by omega
    subst this
    unfold tk_X8_goOn_131 fn_X8_goOn_131
    dsimp only
    rw [h8]
    exact y_pos (nI_le (Nat.le_refl _) (by omega)) (y_end ⟨ha, hf⟩)
  | j + 1, k, h, n + 1, hk, hn, h8, ha, hb, hf => by
    unfold tk_X8_goOn_131 fn_X8_goOn_131
    dsimp only
    rw [h8, nI_add, nI_clamp (by omega), nI_clamp (by omega)]
    refine y_neg (nI_ge (by omega) (by omega)) (y_req (vp_in_nI (by omega) (by decide)) (y_req (vp_in_nI (by omega) (by decide)) ?_))
    refine r_go131 hF0 hF j (k + 1) _ n (by omega) (by omega) ?_ (fun i hi => ?_) (fun i hi hi2 => ?_) (y_fr_set hf (by decide))
    · rw [z_set_ne (by decide)]; exact h8
    · rw [y_sif]
      by_cases e : i = k
      · rw [if_pos e, hb (k + 1) (by omega) (by omega), e]
      · rw [if_neg e]; exact ha i (by omega)
    · rw [y_sk (by omega)]; exact hb i (by omega) hi2
/-- the body, one further -/
theorem r_go61 {m : Nat} {wt : Nat → Nat} {s : p_St} {h0 : z_H} (ws : y_ws m s) {d : Nat} (hd4 : d < 4) (hc : p_can m wt s d = true) : ∀ (k : Nat) (h : z_H) (n : Nat), k < n → k ≤ (p_st s).length → h.1 20 12 = nI ((p_st s).length + 1) → h.1 20 13 = nI (s.2.1 - 1) → h.1 20 8 = nI s.2.2.length → (∀ i, i < s.2.2.length → h.1 27 i = nI (s.2.2.getD i 99)) → (∀ i, i ≤ k → i < s.1.length → h.1 28 i = nI (s.1.getD i 99)) → (∀ i, k < i → i ≤ (p_st s).length → h.1 28 i = nI (s.1.getD (i - 1) 99)) → r_near h0 h →
    y_W (tk_X8_goOn_61 n (nI (p_to m wt s d)) (nI k) h) (fn_X8_goOn_61 n (nI (p_to m wt s d)) (nI k) h) (fun r => y_WM (p_adv m wt s d) r.2 ∧ r_near h0 r.2)
  | 0, h, n + 1, hn, hk, h12, h13, h8, h27, h28, h28', hf => by
    obtain ⟨c1, c2⟩ := p_can_iff.mp hc
    have l36 := (p_to_lt (wt := wt) ws hd4).resolve_right c1
    have w4 := ws.2.2.2.1
    have h6 := ws.2.2.2.2.2
    have hbody : ∀ h' : z_H, h'.1 28 = (z_set h 28 0 (nI (p_to m wt s d))).1 28 → ∀ i, i < (p_adv m wt s d).1.length → h'.1 28 i = nI ((p_adv m wt s d).1.getD i 99) := by
      intro h' e i hi
      have hi : i < (p_st s).length + 1 := hi
      rw [e, y_sif]
      cases i with
      | zero => rfl
      | succ i =>
        rw [if_neg (by omega), h28' (i + 1) (by omega) (by omega)]
        show _ = nI ((p_st s).getD i 99)
        rw [p_st_getD (by omega)]; rfl
    unfold tk_X8_goOn_61 fn_X8_goOn_61
    dsimp only
    rw [h8, h13, nI_c0]
    refine y_pos (by decide) ?_
    have noeat : ¬ p_eats m wt s d = true → y_WM (p_adv m wt s d) (z_set h 28 0 (nI (p_to m wt s d))) ∧ r_near h0 (z_set h 28 0 (nI (p_to m wt s d))) := by
      intro e
      refine ⟨⟨?_, ?_, hbody _ rfl, ?_, fun i hi => ?_⟩, y_fr_set hf.1 (by decide), fun b h1 h2 h3 => ?_⟩
      · rw [z_set_ne (by decide)]; exact h12
      · rw [z_set_ne (by decide), h13]
        show _ = nI (s.2.1 - 1 + if p_eats m wt s d = true then 2 else 0)
        rw [if_neg e, Nat.add_zero]
      · rw [z_set_ne (by decide), h8]
        show _ = nI (if p_eats m wt s d = true then s.2.2.tail else s.2.2).length
        rw [if_neg e]
      · have hi : i < (if p_eats m wt s d = true then s.2.2.tail else s.2.2).length := hi
        show _ = nI ((if p_eats m wt s d = true then s.2.2.tail else s.2.2).getD i 99)
        rw [if_neg e] at hi ⊢
        rw [z_set_ne (by decide)]; exact h27 i hi
      · rw [z_set_ne (by decide)]; exact hf.2 b h1 h2 h3
    refine y_le s.2.2.length 0 rfl rfl (fun e => y_end (noeat (fun z => by have := (p_eats_iff.mp z).1; omega))) (fun e => ?_)
    rw [h27 0 e]
    have hfo := (ws.2.2.2.2.1 _ (y_getD_mem e)).1
    refine y_eq (s.2.2.getD 0 99) (p_to m wt s d) rfl rfl (fun e2 => ?_) (fun e2 => y_end (noeat (fun z => e2 (p_eats_iff.mp z).2)))
    have he : p_eats m wt s d = true := p_eats_iff.mpr ⟨e, e2⟩
    rw [pk_sub (by omega), nI_add]
    refine y_mono (r_go131 (h0 := z_set (z_set (z_set h 28 0 (nI (p_to m wt s d))) 20 8 (nI (s.2.2.length - 1))) 20 13 (nI (s.2.1 - 1 + 2))) e w4 (s.2.2.length - 1) 0 _ 2000 (by omega) (by omega) ?_ (fun i hi => absurd hi (Nat.not_lt_zero i)) (fun i _ hi => ?_) y_fr_refl) (fun q => ?_)
    · rw [y_sk (by decide), y_sh]
    · rw [z_set_ne (by decide), z_set_ne (by decide), z_set_ne (by decide)]; exact h27 i hi
    · obtain ⟨q1, q2⟩ := q
      generalize (fn_X8_goOn_131 2000 (nI 0) (z_set (z_set (z_set h 28 0 (nI (p_to m wt s d))) 20 8 (nI (s.2.2.length - 1))) 20 13 (nI (s.2.1 - 1 + 2)))) = r at q1 q2 ⊢
      refine ⟨⟨?_, ?_, hbody _ ?_, ?_, fun i hi => ?_⟩, ?_, fun b h1 h2 h3 => ?_⟩
      · rw [y_fr_at q2 20, y_sk (by decide), y_sk (by decide), z_set_ne (by decide)]; exact h12
      · rw [y_fr_at q2 20, y_sh]
        show _ = nI (s.2.1 - 1 + if p_eats m wt s d = true then 2 else 0)
        rw [if_pos he]
      · rw [y_fr_at q2 28, z_set_ne (by decide), z_set_ne (by decide)]
      · rw [y_fr_at q2 20, y_sk (by decide), y_sh]
        show _ = nI (if p_eats m wt s d = true then s.2.2.tail else s.2.2).length
        rw [if_pos he, List.length_tail]
      · have hi : i < (if p_eats m wt s d = true then s.2.2.tail else s.2.2).length := hi
        show _ = nI ((if p_eats m wt s d = true then s.2.2.tail else s.2.2).getD i 99)
        rw [if_pos he] at hi ⊢
        rw [List.length_tail] at hi
        rw [q1 i hi]
        congr 1
        cases s.2.2 with
        | nil => rfl
        | cons a L => rfl
      · refine y_fr_trans (y_fr_set (y_fr_set (y_fr_set hf.1 (o := 28) (by decide)) (o := 20) (by decide)) (o := 20) (by decide)) (y_fr_mono q2 (by decide))
      · rw [y_fr_at q2 20, y_sk h3, y_sk h1, z_set_ne (by decide)]; exact hf.2 b h1 h2 h3
  | k + 1, h, n + 1, hn, hk, h12, h13, h8, h27, h28, h28', hf => by
    have hl := y_ws_len ws
    have hsl : (p_st s).length ≤ s.1.length := by rw [p_st_len]; split <;> omega
    have hnew := y_ws_len (y_ws_adv hd4 ws hc)
    have hnew2 : (p_st s).length + 1 ≤ 36 := hnew.2
    unfold tk_X8_goOn_61 fn_X8_goOn_61
    dsimp only
    rw [y_dec, pk_sub (by omega), Nat.add_sub_cancel, nI_clamp (by omega : k + 1 < 2 ^ 31), nI_clamp (by omega : k < 2 ^ 31)]
    refine y_neg (nI_nle (Nat.succ_pos k) (by omega)) (y_req (vp_in_nI (by omega) (by decide)) (y_req (vp_in_nI (by omega) (by decide)) ?_))
    refine r_go61 ws hd4 hc k _ n (by omega) (by omega) ?_ ?_ ?_ (fun i hi => ?_) (fun i hi hi2 => ?_) (fun i hi hi2 => ?_) ⟨y_fr_set hf.1 (by decide), fun b h1 h2 h3 => ?_⟩
    · rw [z_set_ne (by decide)]; exact h12
    · rw [z_set_ne (by decide)]; exact h13
    · rw [z_set_ne (by decide)]; exact h8
    · rw [z_set_ne (by decide)]; exact h27 i hi
    · rw [y_sk (by omega)]; exact h28 i (by omega) hi2
    · rw [y_sif]
      by_cases e : i = k + 1
      · rw [if_pos e, h28 k (by omega) (by omega), e, Nat.add_sub_cancel]
      · rw [if_neg e]; exact h28' i (by omega) hi2
    · rw [z_set_ne (by decide)]; exact hf.2 b h1 h2 h3
theorem r_goOn {m : Nat} {wt : Nat → Nat} {s : p_St} {h : z_H} (hw : y_wf m wt) (hK : y_KM m wt s h) (ws : y_ws m s) {d : Nat} (hd4 : d < 4) (hc : p_can m wt s d = true) : y_W (tk_X8_goOn (nI d) h) (fn_X8_goOn (nI d) h) (fun r => y_KM m wt (p_adv m wt s d) r.2 ∧ r_near h r.2) := by
  obtain ⟨t1, t2⟩ := r_to hw hK ws hd4
  obtain ⟨c1, c2⟩ := p_can_iff.mp hc
  have hl := y_ws_len ws
  have hsl := p_st_len s
  have h6 := ws.2.2.2.2.2
  obtain ⟨w1, w2, w3, w4, w5⟩ := hK.2.2.2.1
  have fin : ∀ h2 : z_H, h2 = z_set (z_set h 20 12 (nI ((p_st s).length + 1))) 20 13 (nI (s.2.1 - 1)) → y_W (tk_X8_goOn_61 2000 (nI (p_to m wt s d)) (nI (p_st s).length) h2) (fn_X8_goOn_61 2000 (nI (p_to m wt s d)) (nI (p_st s).length) h2) (fun r => y_KM m wt (p_adv m wt s d) r.2 ∧ r_near h r.2) := by
    intro h2 e
    have hst : (p_st s).length ≤ s.1.length := by rw [hsl]; split <;> omega
    subst e
    refine y_mono (r_go61 (h0 := h) ws hd4 hc (p_st s).length _ 2000 (by omega) (Nat.le_refl _) ?_ y_sh ?_ (fun i hi => ?_) (fun i _ hi => ?_) (fun i h1 h2 => by omega) ⟨y_fr_set (y_fr_set y_fr_refl (by decide)) (by decide), fun b h1 h2 h3 => ?_⟩) (fun q => ⟨r_near_K hK hl.1 (Nat.succ_pos _) q.2 q.1, q.2⟩)
    · rw [y_sk (by decide), y_sh]
    · rw [y_sk (by decide), y_sk (by decide)]; exact w4
    · rw [z_set_ne (by decide), z_set_ne (by decide)]; exact w5 i hi
    · rw [z_set_ne (by decide), z_set_ne (by decide)]; exact w3 i hi
    · rw [y_sk h3, y_sk h2]
  unfold tk_X8_goOn fn_X8_goOn
  refine y_req t1 ?_
  rw [t2, show z_vi0 (some (.int (p_i (p_to m wt s d)))) = nI (p_to m wt s d) from p_i_n c1, w1, w2]
  unfold tk_X8_goOn_29 fn_X8_goOn_29
  refine y_le s.2.1 0 rfl rfl (fun e => ?_) (fun e => ?_)
  · rw [w2]
    refine y_pos (nI_le e (by decide)) ?_
    unfold tk_X8_goOn_50 fn_X8_goOn_50
    have e1 : (p_st s).length + 1 = s.1.length + 0 := by rw [hsl, if_neg (by omega)]; omega
    have e2 : (z_set h 20 12 (nI s.1.length + nI 0)).1 20 12 = nI ((p_st s).length + 1) := by rw [y_sh, nI_add, e1]
    rw [e2, pk_sub (by omega), Nat.add_sub_cancel]
    exact fin _ (by rw [nI_add, ← e1, pk_sub (by omega), show s.2.1 - 0 = s.2.1 - 1 by omega])
  · rw [w2]
    refine y_neg (nI_nle e (by omega)) ?_
    unfold tk_X8_goOn_50 fn_X8_goOn_50
    have e1 : (p_st s).length + 1 = s.1.length + 1 := by rw [hsl, if_pos e]
    have e2 : (z_set h 20 12 (nI s.1.length + nI 1)).1 20 12 = nI ((p_st s).length + 1) := by rw [y_sh, nI_add, e1]
    rw [e2, pk_sub (by omega), Nat.add_sub_cancel]
    exact fin _ (by rw [nI_add, ← e1, pk_sub (by omega)])
