/-! ===== pure: sets of cells as longs ===== -/
def y_bit (y : Int64) (c : Nat) : Bool := y.toBitVec.getLsbD c
theorem s_set : ∀ c, c < 36 → ∀ i, i < 64 → y_bit (fv_X7_setOf (nI c)) i = decide (i = c) := by decide +kernel
theorem y_bit_or (a b : Int64) (i : Nat) : y_bit (a ||| b) i = (y_bit a i || y_bit b i) := by
  unfold y_bit
  rw [Int64.toBitVec_or, BitVec.getLsbD_or]
theorem y_bit_and (a b : Int64) (i : Nat) : y_bit (a &&& b) i = (y_bit a i && y_bit b i) := by
  unfold y_bit
  rw [Int64.toBitVec_and, BitVec.getLsbD_and]
theorem y_bit_not (a : Int64) {i : Nat} (hi : i < 64) : y_bit (a ^^^ (-1)) i = !y_bit a i := by
  unfold y_bit
  rw [Int64.toBitVec_xor, BitVec.getLsbD_xor, show ((-1 : Int64)).toBitVec = BitVec.allOnes 64 from by decide +kernel, BitVec.getLsbD_allOnes]
  simp [hi]
theorem y_isIn {y : Int64} {c : Nat} (hc : c < 36) : fv_X7_isIn y (nI c) = if y_bit y c = true then nI 1 else nI 0 := by
  unfold fv_X7_isIn
  have key : y &&& fv_X7_setOf (nI c) = 0 ↔ y_bit y c = false := by
    constructor
    · intro h
      have h2 := y_bit_and y (fv_X7_setOf (nI c)) c
      rw [h, s_set c hc c (by omega)] at h2
      rw [show y_bit 0 c = false from by unfold y_bit; rw [show (0 : Int64).toBitVec = 0#64 from rfl]; exact BitVec.getLsbD_zero] at h2
      simpa using h2.symm
    · intro h
      rw [← Int64.toBitVec_inj]
      apply BitVec.eq_of_getLsbD_eq
      intro i hi
      have h2 := y_bit_and y (fv_X7_setOf (nI c)) i
      rw [s_set c hc i hi] at h2
      show y_bit (y &&& fv_X7_setOf (nI c)) i = (0#64).getLsbD i
      rw [h2, BitVec.getLsbD_zero]
      by_cases e : i = c
      · rw [e, h]; rfl
      · simp [e]
  by_cases e : y_bit y c = true
  · rw [if_pos e, if_neg]
    intro z
    rw [key.mp ((lg_cmp_eq _ _).mp z)] at e
    cases e
  · rw [if_neg e, if_pos]
    exact (lg_cmp_eq _ _).mpr (key.mpr (by simpa using e))
/-! lists -/
theorem y_len : ∀ (n : Nat) (L : List Nat), L.Nodup → (∀ x ∈ L, x < n) → L.length ≤ n
  | 0, L, _, h => by
    cases L with
    | nil => exact Nat.le_refl _
    | cons a L => exact absurd (h a List.mem_cons_self) (Nat.not_lt_zero _)
  | n + 1, L, hn, h => by
    by_cases e : n ∈ L
    · have h1 := y_len n (L.erase n) (hn.erase n) (fun x hx => by
        have := (hn.mem_erase_iff).mp hx
        have := h x this.2
        omega)
      rw [List.length_erase_of_mem e] at h1
      omega
    · have := y_len n L hn (fun x hx => by
        have := h x hx
        by_cases ex : x = n
        · exact absurd (ex ▸ hx) e
        · omega)
      omega
theorem y_dl {L : List Nat} {i : Nat} (h : i < L.length - 1) : L.dropLast.getD i 99 = L.getD i 99 := by
  rw [List.getD_eq_getElem?_getD, List.getD_eq_getElem?_getD, List.getElem?_dropLast, if_pos h]
theorem y_getD_mem {L : List Nat} {i : Nat} (h : i < L.length) : L.getD i 99 ∈ L := by
  rw [List.getD_eq_getElem?_getD, List.getElem?_eq_getElem h]
  exact List.getElem_mem h
theorem y_dl_mem {L : List Nat} (hn : L.Nodup) (hL : L ≠ []) (c : Nat) : c ∈ L.dropLast ↔ c ∈ L ∧ c ≠ L.getD (L.length - 1) 99 := by
  have e := List.dropLast_concat_getLast hL
  have hlast : L.getD (L.length - 1) 99 = L.getLast hL := by
    rw [List.getLast_eq_getElem, List.getD_eq_getElem?_getD, List.getElem?_eq_getElem (by have := List.length_pos_iff.mpr hL; omega)]
    rfl
  rw [hlast]
  have hn2 := hn
  rw [← e, List.nodup_append] at hn2
  constructor
  · intro h
    refine ⟨List.dropLast_subset L h, fun z => ?_⟩
    exact hn2.2.2 c h _ List.mem_cons_self z
  · rintro ⟨h1, h2⟩
    rw [← e, List.mem_append] at h1
    rcases h1 with h1 | h1
    · exact h1
    · exact absurd (List.mem_singleton.mp h1) h2
/-! ===== pure: the worm as lists; a step ===== -/
abbrev p_St : Type := List Nat × Nat × List Nat
def p_st (s : p_St) : List Nat := if 0 < s.2.1 then s.1 else s.1.dropLast
def p_to (m : Nat) (wt : Nat → Nat) (s : p_St) (d : Nat) : Nat := p_go m wt (s.1.getD 0 99) d
def p_can (m : Nat) (wt : Nat → Nat) (s : p_St) (d : Nat) : Bool := decide (p_to m wt s d ≠ 99 ∧ p_to m wt s d ∉ p_st s)
def p_eats (m : Nat) (wt : Nat → Nat) (s : p_St) (d : Nat) : Bool := decide (0 < s.2.2.length ∧ s.2.2.getD 0 99 = p_to m wt s d)
def p_adv (m : Nat) (wt : Nat → Nat) (s : p_St) (d : Nat) : p_St := (p_to m wt s d :: p_st s, (s.2.1 - 1) + (if p_eats m wt s d = true then 2 else 0), if p_eats m wt s d = true then s.2.2.tail else s.2.2)
def y_ws (m : Nat) (s : p_St) : Prop := s.1 ≠ [] ∧ s.1.Nodup ∧ (∀ c ∈ s.1, p_op m c) ∧ s.2.2.length ≤ 40 ∧ (∀ c ∈ s.2.2, p_op m c) ∧ s.2.1 + 2 * s.2.2.length ≤ 3000
theorem y_ws_len {m : Nat} {s : p_St} (h : y_ws m s) : 0 < s.1.length ∧ s.1.length ≤ 36 := ⟨List.length_pos_iff.mpr h.1, y_len 36 _ h.2.1 (fun x hx => (h.2.2.1 x hx).1)⟩
theorem y_ws_hd {m : Nat} {s : p_St} (h : y_ws m s) : p_op m (s.1.getD 0 99) := h.2.2.1 _ (y_getD_mem (y_ws_len h).1)
theorem p_to_lt {m : Nat} {wt : Nat → Nat} {s : p_St} (h : y_ws m s) {d : Nat} (hd : d < 4) : p_to m wt s d < 36 ∨ p_to m wt s d = 99 := p_go_lt (y_ws_hd h).1 hd
theorem p_can_iff {m : Nat} {wt : Nat → Nat} {s : p_St} {d : Nat} : p_can m wt s d = true ↔ p_to m wt s d ≠ 99 ∧ p_to m wt s d ∉ p_st s := by unfold p_can; exact decide_eq_true_iff
theorem p_eats_iff {m : Nat} {wt : Nat → Nat} {s : p_St} {d : Nat} : p_eats m wt s d = true ↔ 0 < s.2.2.length ∧ s.2.2.getD 0 99 = p_to m wt s d := by unfold p_eats; exact decide_eq_true_iff
theorem p_st_mem {m : Nat} {s : p_St} (h : y_ws m s) (c : Nat) : c ∈ p_st s ↔ c ∈ s.1 ∧ (s.2.1 = 0 → c ≠ s.1.getD (s.1.length - 1) 99) := by
  unfold p_st
  by_cases e : 0 < s.2.1
  · rw [if_pos e]
    exact ⟨fun z => ⟨z, fun w => by omega⟩, fun z => z.1⟩
  · rw [if_neg e, y_dl_mem h.2.1 h.1]
    have : s.2.1 = 0 := by omega
    exact ⟨fun z => ⟨z.1, fun _ => z.2⟩, fun z => ⟨z.1, z.2 this⟩⟩
theorem p_st_len (s : p_St) : (p_st s).length = if 0 < s.2.1 then s.1.length else s.1.length - 1 := by
  unfold p_st
  split
  · rfl
  · exact List.length_dropLast
theorem p_st_nd {m : Nat} {s : p_St} (h : y_ws m s) : (p_st s).Nodup := by
  unfold p_st
  split
  · exact h.2.1
  · exact h.2.1.sublist (List.dropLast_sublist _)
theorem p_st_getD {s : p_St} {i : Nat} (hi : i < (p_st s).length) : (p_st s).getD i 99 = s.1.getD i 99 := by
  rw [p_st_len] at hi
  unfold p_st
  split
  · rfl
  · rename_i e
    rw [if_neg e] at hi
    exact y_dl hi
theorem y_ws_adv {m : Nat} {wt : Nat → Nat} {s : p_St} {d : Nat} (hd : d < 4) (h : y_ws m s) (hc : p_can m wt s d = true) : y_ws m (p_adv m wt s d) := by
  obtain ⟨c1, c2⟩ := p_can_iff.mp hc
  obtain ⟨w1, w2, w3, w4, w5, w6⟩ := h
  refine ⟨List.cons_ne_nil _ _, List.nodup_cons.mpr ⟨c2, p_st_nd ⟨w1, w2, w3, w4, w5, w6⟩⟩, fun c hc => ?_, ?_, fun c hc => ?_, ?_⟩
  · rcases List.mem_cons.mp hc with rfl | hc
    · exact p_go_op (y_ws_hd ⟨w1, w2, w3, w4, w5, w6⟩).1 hd c1
    · exact w3 c ((p_st_mem ⟨w1, w2, w3, w4, w5, w6⟩ c).mp hc).1
  · show (if p_eats m wt s d = true then s.2.2.tail else s.2.2).length ≤ 40
    split
    · rw [List.length_tail]; omega
    · exact w4
  · have hc : c ∈ (if p_eats m wt s d = true then s.2.2.tail else s.2.2) := hc
    split at hc
    · exact w5 c (List.mem_of_mem_tail hc)
    · exact w5 c hc
  · show (s.2.1 - 1) + (if p_eats m wt s d = true then 2 else 0) + 2 * (if p_eats m wt s d = true then s.2.2.tail else s.2.2).length ≤ 3000
    by_cases e : p_eats m wt s d = true
    · rw [if_pos e, if_pos e, List.length_tail]
      have := (p_eats_iff.mp e).1
      omega
    · rw [if_neg e, if_neg e]
      omega
/-! the class's heap -/
def y_WC (B : List Nat) (ow hd : Nat) (h : z_H) : Prop := hd < 64 ∧ h.1 10 4 = nI hd ∧ h.1 10 5 = nI B.length ∧ h.1 10 6 = nI ow ∧ (∀ i, i < B.length → h.1 11 ((hd + i) % 64) = nI (B.getD i 99)) ∧ (B ≠ [] → ∀ c, c < 36 → y_bit (h.2 10 7) c = decide (c ∈ B))
def y_FC (F : List Nat) (f0 : Nat) (h : z_H) : Prop := f0 < 64 ∧ h.1 8 1 = nI f0 ∧ h.1 8 2 = nI F.length ∧ ∀ i, i < F.length → h.1 9 ((f0 + i) % 64) = nI (F.getD i 99)
def y_RC (m : Nat) (wt : Nat → Nat) (s : p_St) (hd f0 : Nat) (h : z_H) : Prop := y_BC m wt h ∧ y_WC s.1 s.2.1 hd h ∧ y_FC s.2.2 f0 h
/-- a heap with new numbers in the worm and the row -/
def k_ah (h : z_H) (hd : Nat) (t dd : Int32) (mk : Int64) (sz gr f1 f2 : Int32) : z_H := (fun a b => if a = 10 then (if b = 4 then nI hd else if b = 5 then sz else if b = 6 then gr else h.1 10 b) else if a = 11 then (if b = hd then t else h.1 11 b) else if a = 12 then (if b = hd then dd else h.1 12 b) else if a = 8 then (if b = 1 then f1 else if b = 2 then f2 else h.1 8 b) else h.1 a b, fun a b => if a = 10 then (if b = 7 then mk else h.2 10 b) else h.2 a b)
theorem s_hd : ∀ hd, hd < 64 → ((nI hd - nI 1) &&& nI 63) = nI ((hd + 63) % 64) := by decide +kernel
theorem k_c0 {m : Nat} {wt : Nat → Nat} {s : p_St} {hd f0 : Nat} {h : z_H} (hR : y_RC m wt s hd f0 h) (hs : 0 < s.1.length) {i : Nat} (hi : i < s.1.length) (h36 : s.1.length ≤ 2000) : h.1 11 (((h.1 10 4 + nI i) &&& nI 63).toNatClampNeg) = nI (s.1.getD i 99) := by
  obtain ⟨-, ⟨w1, w2, w3, w4, w5, w6⟩, -⟩ := hR
  rw [w2, nI_add, y_cl63 (by omega)]
  exact w5 i hi
theorem k_to {m : Nat} {wt : Nat → Nat} {s : p_St} {hd f0 : Nat} {h : z_H} (hw : y_wf m wt) (hR : y_RC m wt s hd f0 h) (ws : y_ws m s) {d : Nat} (hd4 : d < 4) : z_advto h (nI d) = p_i (p_to m wt s d) := by
  have l := y_ws_len ws
  unfold z_advto
  rw [k_c0 hR l.1 l.1 (by omega), k_go hw hR.1 (y_ws_hd ws).1 hd4]
  rfl
theorem k_stay {m : Nat} {wt : Nat → Nat} {s : p_St} {hd f0 : Nat} {h : z_H} (hR : y_RC m wt s hd f0 h) (ws : y_ws m s) (h0 : s.2.1 = 0) {c : Nat} (hc : c < 36) : y_bit (z_stay h) c = decide (c ∈ p_st s) := by
  have l := y_ws_len ws
  unfold z_stay
  rw [hR.2.1.2.2.1, pk_sub (by omega), k_c0 hR l.1 (show s.1.length - 1 < s.1.length by omega) (by omega), y_bit_and, y_bit_not _ (by omega), s_set _ (ws.2.2.1 _ (y_getD_mem (by omega))).1 _ (by omega), hR.2.1.2.2.2.2.2 ws.1 c hc]
  have := p_st_mem ws c
  rw [Bool.eq_iff_iff]
  simp only [Bool.and_eq_true, Bool.not_eq_true', decide_eq_true_iff, decide_eq_false_iff_not, this]
  exact ⟨fun z => ⟨z.1, fun _ => z.2⟩, fun z => ⟨z.1, z.2 h0⟩⟩
theorem k_first {F : List Nat} {f0 : Nat} {h : z_H} (hF : y_FC F f0 h) (hl : F.length ≤ 64) : fv_X3_firstCell h = if 0 < F.length then nI (F.getD 0 99) else (-1) := by
  obtain ⟨f1, f2, f3, f4⟩ := hF
  unfold fv_X3_firstCell
  rw [f3, f2, y_atv f1]
  by_cases e : 0 < F.length
  · rw [if_pos e, if_neg (nI_nle e (by omega))]
    have q := f4 0 e
    rw [Nat.add_zero, Nat.mod_eq_of_lt f1] at q
    exact q
  · have : F.length = 0 := by omega
    rw [if_neg e, this, if_pos (by decide)]
theorem k_firstE {m : Nat} {wt : Nat → Nat} {s : p_St} {hd f0 : Nat} {h : z_H} (hR : y_RC m wt s hd f0 h) (ws : y_ws m s) {d : Nat} (hd4 : d < 4) (hc : p_to m wt s d ≠ 99) : fv_X3_firstCell h = nI (p_to m wt s d) ↔ p_eats m wt s d = true := by
  rw [k_first hR.2.2 (by have := ws.2.2.2.1; omega), p_eats_iff]
  have hl := (p_to_lt (wt := wt) ws hd4).resolve_right hc
  by_cases e : 0 < s.2.2.length
  · rw [if_pos e]
    have := (ws.2.2.2.2.1 _ (y_getD_mem e)).1
    rw [nI_eq (by omega) (by omega)]
    exact ⟨fun z => ⟨e, z⟩, fun z => z.2⟩
  · rw [if_neg e]
    exact ⟨fun z => absurd z.symm (y_m1 _ (by omega)), fun z => absurd z.1 e⟩
def p_deed (m : Nat) (wt : Nat → Nat) (s : p_St) (d : Nat) : Nat := (if 0 < s.2.1 then 1 else 0) + (if p_eats m wt s d = true then 2 else 0)
def k_mk (s : p_St) (h : z_H) (t : Nat) : Int64 := (if 0 < s.2.1 then h.2 10 7 else z_stay h) ||| fv_X7_setOf (nI t)
theorem k_advN {m : Nat} {wt : Nat → Nat} {s : p_St} {hd f0 : Nat} {h : z_H} (hw : y_wf m wt) (hR : y_RC m wt s hd f0 h) (ws : y_ws m s) {d : Nat} (hd4 : d < 4) (hc : p_can m wt s d = false) : fv_X6_advance h (nI d) = nI 0 ∧ fh_X6_advance h (nI d) = h := by
  have hto := k_to hw hR ws hd4
  have hlt := p_to_lt (wt := wt) ws hd4
  have how := hR.2.1.2.2.2.1
  have h6 := ws.2.2.2.2.2
  unfold fv_X6_advance fh_X6_advance
  rw [hto, how]
  have hc' : ¬ (p_to m wt s d ≠ 99 ∧ p_to m wt s d ∉ p_st s) := fun z => by rw [p_can_iff.mpr z] at hc; cases hc
  by_cases e : p_to m wt s d = 99
  · have e1 : p_i (p_to m wt s d) = (-1) := by rw [e]; rfl
    simp only [e1, if_true]
    by_cases g : nI s.2.1 ≤ 0 <;> simp only [g, if_true, if_false] <;> exact ⟨trivial, trivial⟩
  · have l36 := hlt.resolve_right e
    have hin : p_to m wt s d ∈ p_st s := Classical.byContradiction (fun z => hc' ⟨e, z⟩)
    have e1 : ¬ nI (p_to m wt s d) = (-1) := y_m1 _ (by omega)
    rw [p_i_n e]
    by_cases g : 0 < s.2.1
    · have g1 : ¬ nI s.2.1 ≤ 0 := nI_nle g (by omega)
      have hin2 : p_to m wt s d ∈ s.1 := ((p_st_mem ws _).mp hin).1
      have i1 : fv_X7_isIn (h.2 10 7) (nI (p_to m wt s d)) = nI 1 := by
        rw [y_isIn l36, hR.2.1.2.2.2.2.2 ws.1 _ l36, if_pos (decide_eq_true hin2)]
      simp only [e1, g1, i1, i1_ne0, if_false]
      exact ⟨trivial, trivial⟩
    · have g0 : s.2.1 = 0 := by omega
      have g1 : nI s.2.1 ≤ 0 := by rw [g0]; decide
      have i1 : fv_X7_isIn (z_stay h) (nI (p_to m wt s d)) = nI 1 := by
        rw [y_isIn l36, k_stay hR ws g0 l36, if_pos (decide_eq_true hin)]
      simp only [e1, g1, i1, i1_ne0, if_false, if_true]
      exact ⟨trivial, trivial⟩
theorem k_advY {m : Nat} {wt : Nat → Nat} {s : p_St} {hd f0 : Nat} {h : z_H} (hw : y_wf m wt) (hR : y_RC m wt s hd f0 h) (ws : y_ws m s) {d : Nat} (hd4 : d < 4) (hc : p_can m wt s d = true) : fv_X6_advance h (nI d) = nI 1 ∧ fh_X6_advance h (nI d) = k_ah h ((hd + 63) % 64) (nI (p_to m wt s d)) (nI (p_deed m wt s d)) (k_mk s h (p_to m wt s d)) (nI (p_adv m wt s d).1.length) (nI (p_adv m wt s d).2.1) (nI (if p_eats m wt s d = true then (f0 + 1) % 64 else f0)) (nI (p_adv m wt s d).2.2.length) := by
  have hto := k_to hw hR ws hd4
  have how := hR.2.1.2.2.2.1
  have h6 := ws.2.2.2.2.2
  have hl := y_ws_len ws
  obtain ⟨c1, c2⟩ := p_can_iff.mp hc
  have l36 := (p_to_lt (wt := wt) ws hd4).resolve_right c1
  have hE := k_firstE hR ws hd4 c1
  have hx : ((h.1 10 4 - nI 1) &&& nI 63) = nI ((hd + 63) % 64) := by rw [hR.2.1.2.1]; exact s_hd hd hR.2.1.1
  have hm64 := Nat.mod_lt (hd + 63) (show 0 < 64 by decide)
  have hf64 := hR.2.2.1
  have hf1 : ((h.1 8 1 + nI 1) &&& nI 63) = nI ((f0 + 1) % 64) := by rw [hR.2.2.2.1, nI_add, y_and63 (by omega)]
  have hlen : (p_adv m wt s d).1.length = (p_st s).length + 1 := rfl
  have h1 := hR.2.1.2.2.1
  have h3 := hR.2.2.2.1
  have h4 := hR.2.2.2.2.1
  have e1 : ¬ nI (p_to m wt s d) = (-1) := y_m1 _ (by omega)
  unfold fv_X6_advance fh_X6_advance
  rw [hto, how, p_i_n c1, hx, nI_clamp (by omega), hf1, hlen, p_st_len]
  unfold p_deed k_mk
  by_cases g : 0 < s.2.1
  · have g1 : ¬ nI s.2.1 ≤ 0 := nI_nle g (by omega)
    have hin2 : p_to m wt s d ∉ s.1 := fun z => c2 ((p_st_mem ws _).mpr ⟨z, fun w => by omega⟩)
    have i1 : fv_X7_isIn (h.2 10 7) (nI (p_to m wt s d)) = nI 0 := by
      rw [y_isIn l36, hR.2.1.2.2.2.2.2 ws.1 _ l36, if_neg (fun z => hin2 (of_decide_eq_true z))]
    simp only [e1, g1, i1, i0_eq0, if_true, if_false, g]
    by_cases e : p_eats m wt s d = true
    · have e2 : fv_X3_firstCell h = nI (p_to m wt s d) := hE.mpr e
      have q1 : nI s.2.1 - nI 1 = nI (s.2.1 - 1) := pk_sub (by omega)
      have q2 : h.1 8 2 - nI 1 = nI (s.2.2.length - 1) := by rw [h4, pk_sub (by have := (p_eats_iff.mp e).1; omega)]
      have q3 : h.1 10 5 + nI 1 = nI (s.1.length + 1) := by rw [h1, nI_add]
      have q4 : nI 1 ||| nI 2 = nI 3 := by decide
      simp only [p_adv, e, e2, if_true, List.length_tail, q1, q2, q3, q4, nI_add, Nat.reduceAdd]
      refine ⟨trivial, Prod.ext (funext fun a => funext fun b => ?_) (funext fun a => funext fun b => ?_)⟩
      · simp only [z_set, z_setL, k_ah]
        by_cases a1 : a = 10
        · subst a1; by_cases b1 : b = 4 <;> by_cases b2 : b = 5 <;> by_cases b3 : b = 6 <;> simp [b1, b2, b3]
        · by_cases a2 : a = 11 <;> by_cases a3 : a = 12 <;> by_cases a4 : a = 8 <;> by_cases b1 : b = 1 <;> by_cases b2 : b = 2 <;> simp_all
      · simp only [z_set, z_setL, k_ah]
        by_cases a1 : a = 10 <;> by_cases b1 : b = 7 <;> simp [a1, b1]
    · have e2 : ¬ fv_X3_firstCell h = nI (p_to m wt s d) := fun z => e (hE.mp z)
      have q1 : nI s.2.1 - nI 1 = nI (s.2.1 - 1) := pk_sub (by omega)
      have q3 : h.1 10 5 + nI 1 = nI (s.1.length + 1) := by rw [h1, nI_add]
      have q4 : nI 1 ||| nI 0 = nI 1 := by decide
      simp only [p_adv, e, e2, if_false, Nat.add_zero, q1, q3, q4, nI_add, Bool.false_eq_true]
      refine ⟨trivial, Prod.ext (funext fun a => funext fun b => ?_) (funext fun a => funext fun b => ?_)⟩
      · simp only [z_set, z_setL, k_ah]
        by_cases a1 : a = 10
        · subst a1; by_cases b1 : b = 4 <;> by_cases b2 : b = 5 <;> by_cases b3 : b = 6 <;> simp [b1, b2, b3]
        · by_cases a2 : a = 11 <;> by_cases a3 : a = 12 <;> by_cases a4 : a = 8 <;> by_cases b1 : b = 1 <;> by_cases b2 : b = 2 <;> simp_all
      · simp only [z_set, z_setL, k_ah]
        by_cases a1 : a = 10 <;> by_cases b1 : b = 7 <;> simp [a1, b1]
  · have g0 : s.2.1 = 0 := by omega
    have g1 : nI s.2.1 ≤ 0 := by rw [g0]; decide
    have i1 : fv_X7_isIn (z_stay h) (nI (p_to m wt s d)) = nI 0 := by
      rw [y_isIn l36, k_stay hR ws g0 l36, if_neg (fun z => c2 (of_decide_eq_true z))]
    have q3 : h.1 10 5 = nI (s.1.length - 1 + 1) := by rw [h1]; congr 1; omega
    simp only [e1, g1, i1, i0_eq0, if_true, if_false, g]
    by_cases e : p_eats m wt s d = true
    · have e2 : fv_X3_firstCell h = nI (p_to m wt s d) := hE.mpr e
      have q2 : h.1 8 2 - nI 1 = nI (s.2.2.length - 1) := by rw [h4, pk_sub (by have := (p_eats_iff.mp e).1; omega)]
      have q4 : (0 : Int32) ||| nI 2 = nI 2 := by decide
      simp only [p_adv, e, e2, if_true, List.length_tail, q2, q4, nI_add, g0]
      refine ⟨trivial, Prod.ext (funext fun a => funext fun b => ?_) (funext fun a => funext fun b => ?_)⟩
      · simp only [z_set, z_setL, k_ah]
        by_cases a1 : a = 10
        · subst a1; by_cases b1 : b = 4 <;> by_cases b2 : b = 5 <;> by_cases b3 : b = 6 <;> simp [b1, b2, b3, q3]
        · by_cases a2 : a = 11 <;> by_cases a3 : a = 12 <;> by_cases a4 : a = 8 <;> by_cases b1 : b = 1 <;> by_cases b2 : b = 2 <;> simp_all
      · simp only [z_set, z_setL, k_ah]
        by_cases a1 : a = 10 <;> by_cases b1 : b = 7 <;> simp [a1, b1]
    · have e2 : ¬ fv_X3_firstCell h = nI (p_to m wt s d) := fun z => e (hE.mp z)
      have q4 : (0 : Int32) ||| 0 = 0 := by decide
      simp only [p_adv, e, e2, if_false, Nat.add_zero, q4, nI_add, g0, Bool.false_eq_true, i0_eq0]
      refine ⟨trivial, Prod.ext (funext fun a => funext fun b => ?_) (funext fun a => funext fun b => ?_)⟩
      · simp only [z_set, z_setL, k_ah]
        by_cases a1 : a = 10
        · subst a1; by_cases b1 : b = 4 <;> by_cases b2 : b = 5 <;> by_cases b3 : b = 6 <;> simp [b1, b2, b3, q3, how, g0, i0_eq0]
        · by_cases a2 : a = 11 <;> by_cases a3 : a = 12 <;> by_cases a4 : a = 8 <;> by_cases b1 : b = 1 <;> by_cases b2 : b = 2 <;> simp_all
      · simp only [z_set, z_setL, k_ah]
        by_cases a1 : a = 10 <;> by_cases b1 : b = 7 <;> simp [a1, b1]
