/-! ===== pure: the cycle of a board, as numbers ===== -/
def p_low (m : Nat) : Nat := ((List.range 9).find? (fun b => !m.testBit b)).getD 99
def p_pop (m : Nat) : Nat := ((List.range 9).filter (fun b => m.testBit b)).length
theorem s_low : ∀ m, m < 512 → (p_low m = 99 ∧ ∀ b, b < 9 → m.testBit b = true) ∨ (p_low m < 9 ∧ m.testBit (p_low m) = false ∧ ∀ b, b < p_low m → m.testBit b = true) := by decide +kernel
theorem s_pop : ∀ m, m < 512 → fv_J6_bitCount_0f7a4 (nI m) = nI (p_pop m) ∧ p_pop m ≤ 9 ∧ ((List.range 9).filter (fun b => !m.testBit b)).length = 9 - p_pop m ∧ (p_low m ≠ 99 → p_pop m < 9) := by decide +kernel
def p_jn (m : Nat) (g : Nat → Nat) : Bool := p_low m != 99 && (List.range 9).all (fun b => m.testBit b || g b == g (p_low m))
theorem p_jn_iff {m : Nat} {g : Nat → Nat} : p_jn m g = true ↔ p_low m ≠ 99 ∧ ∀ b, b < 9 → m.testBit b = false → g b = g (p_low m) := by
  unfold p_jn
  rw [Bool.and_eq_true, List.all_eq_true, bne_iff_ne]
  refine and_congr Iff.rfl ⟨fun h b hb hm => ?_, fun h b hb => ?_⟩
  · have := h b (List.mem_range.mpr hb)
    rw [hm, Bool.false_or, beq_iff_eq] at this
    exact this
  · cases hm : m.testBit b with
    | true => rfl
    | false =>
      rw [Bool.false_or, beq_iff_eq]
      exact h b (List.mem_range.mp hb) hm
def p_itr (f : Nat → Nat) (a : Nat) : Nat → Nat
  | 0 => a
  | n + 1 => f (p_itr f a n)
theorem p_itr_s (f : Nat → Nat) (a : Nat) : ∀ n, p_itr f a (n + 1) = p_itr f (f a) n
  | 0 => rfl
  | n + 1 => congrArg f (p_itr_s f a n)
theorem p_ch_it (f : Nat → Nat) : ∀ (L : List Nat) (a e : Nat), p_ch f a L e → (∀ i, i < (a :: L).length → (a :: L)[i]? = some (p_itr f a i)) ∧ p_itr f a (a :: L).length = e
  | [], a, e, h => ⟨fun i hi => by
      have : i = 0 := by simp at hi; exact hi
      subst this; rfl, h⟩
  | b :: L, a, e, h => by
    obtain ⟨h1, h2⟩ := h
    obtain ⟨i1, i2⟩ := p_ch_it f L b e h2
    refine ⟨fun i hi => ?_, ?_⟩
    · cases i with
      | zero => rfl
      | succ i =>
        rw [p_itr_s, h1]
        exact i1 i (by simp at hi ⊢; omega)
    · rw [List.length_cons, p_itr_s, h1]
      exact i2
/-- where a row comes to a cell; 99: nowhere -/
def p_fd (f : Nat → Nat) (n c : Nat) : Nat := ((List.range n).find? (fun q => f q == c)).getD 99
theorem p_fd_s {f : Nat → Nat} {n c : Nat} (hn : ∀ q, q < n → f q ≠ f n) : p_fd f (n + 1) c = if c = f n then n else p_fd f n c := by
  unfold p_fd
  rw [List.range_succ, List.find?_append]
  by_cases e : c = f n
  · subst e
    have : (List.range n).find? (fun q => f q == f n) = none := by
      rw [List.find?_eq_none]
      intro q hq z
      exact hn q (List.mem_range.mp hq) (by simpa using z)
    rw [this]
    simp
  · have e2 : ¬ f n = c := fun z => e z.symm
    have : [n].find? (fun q => f q == c) = none := by simp [e2]
    rw [this, if_neg e, Option.or_none]
theorem p_fd_99 {f : Nat → Nat} {n c : Nat} (h : ∀ q, q < n → f q ≠ c) : p_fd f n c = 99 := by
  unfold p_fd
  have : (List.range n).find? (fun q => f q == c) = none := by
    rw [List.find?_eq_none]
    intro q hq z
    exact h q (List.mem_range.mp hq) (by simpa using z)
  rw [this]; rfl
theorem p_fd_in {f : Nat → Nat} {n c : Nat} (h : ∃ q, q < n ∧ f q = c) : p_fd f n c < n ∧ f (p_fd f n c) = c := by
  unfold p_fd
  cases e : (List.range n).find? (fun q => f q == c) with
  | none =>
    rw [List.find?_eq_none] at e
    obtain ⟨q, h1, h2⟩ := h
    exact absurd (by simpa using h2) (e q (List.mem_range.mpr h1))
  | some q =>
    have h1 := List.find?_some e
    have h2 := List.mem_of_find?_eq_some e
    exact ⟨List.mem_range.mp h2, by simpa using h1⟩
theorem p_fd_lt {f : Nat → Nat} {n c : Nat} : p_fd f n c < n ∨ p_fd f n c = 99 := by
  by_cases h : ∃ q, q < n ∧ f q = c
  · exact Or.inl (p_fd_in h).1
  · exact Or.inr (p_fd_99 (fun q hq e => h ⟨q, hq, e⟩))
/-! the board's cycle -/
def p_gT (m : Nat) (wt : Nat → Nat) : (Nat → Nat) × (Nat → Bool) := p_kr m wt 120
def p_N (m : Nat) (wt : Nat → Nat) : Nat := if p_jn m (p_gT m wt).1 = true then 36 - 4 * p_pop m else 0
def p_ord (m : Nat) (wt : Nat → Nat) : Nat → Nat := p_itr (p_nx (p_gT m wt).2) (p_ul (p_low m))
def p_plc (m : Nat) (wt : Nat → Nat) : Nat → Nat := p_fd (p_ord m wt) (p_N m wt)
def p_op (m c : Nat) : Prop := c < 36 ∧ m.testBit (p_blk c) = false
theorem p_N_le {m : Nat} {wt : Nat → Nat} : p_N m wt ≤ 36 := by unfold p_N; split <;> omega
theorem y_cyc {m : Nat} {wt : Nat → Nat} (hm : m < 512) (hj : p_jn m (p_gT m wt).1 = true) : 0 < p_N m wt ∧ (∀ i, i < p_N m wt → p_op m (p_ord m wt i)) ∧ p_ord m wt (p_N m wt) = p_ord m wt 0 ∧ (∀ i j, i < j → j < p_N m wt → p_ord m wt i ≠ p_ord m wt j) ∧ (∀ c, p_op m c → ∃ i, i < p_N m wt ∧ p_ord m wt i = c) := by
  obtain ⟨j1, j2⟩ := p_jn_iff.mp hj
  obtain ⟨o1, o2, o3⟩ := (s_low m hm).resolve_left (fun z => j1 z.1)
  obtain ⟨-, u2, u3⟩ := s_ul _ o1
  obtain ⟨kJ, k1, k2, k3, k4⟩ := p_KIk m wt 120
  obtain ⟨L, ch, nd, mem, len⟩ := kJ _ u2
  obtain ⟨-, s2, s3, s4⟩ := s_pop m hm
  have s4 := s4 j1
  rw [u3] at mem len
  have hg : ∀ b, b < 9 → ((p_gT m wt).1 b = (p_gT m wt).1 (p_low m) ↔ m.testBit b = false) := by
    intro b hb
    refine ⟨fun e => ?_, fun e => j2 b hb e⟩
    cases hmb : m.testBit b with
    | false => rfl
    | true =>
      have h1 := k2 b hb hmb
      have h2 := k3 _ o1 o2
      have e' : (p_kr m wt 120).1 b = (p_kr m wt 120).1 (p_low m) := e
      rw [← e', h1, hmb] at h2
      exact h2
  have hN : (p_ul (p_low m) :: L).length = p_N m wt := by
    rw [len]
    unfold p_N p_cnt
    rw [if_pos hj]
    have : (List.range 9).filter (fun b => (p_kr m wt 120).1 b == (p_kr m wt 120).1 (p_low m)) = (List.range 9).filter (fun b => !m.testBit b) := by
      apply List.filter_congr
      intro b hb
      have h1 := hg b (List.mem_range.mp hb)
      cases hmb : m.testBit b with
      | false =>
        have : (p_kr m wt 120).1 b = (p_kr m wt 120).1 (p_low m) := h1.mpr hmb
        simpa using this
      | true =>
        have : ¬ (p_kr m wt 120).1 b = (p_kr m wt 120).1 (p_low m) := fun z => by rw [h1.mp z] at hmb; cases hmb
        simpa using this
    rw [this, s3]
    omega
  obtain ⟨i1, i2⟩ := p_ch_it _ L _ _ ch
  rw [hN] at i1 i2
  have hat : ∀ i, i < p_N m wt → p_ord m wt i ∈ p_ul (p_low m) :: L := fun i hi => List.mem_of_getElem? (i1 i hi)
  refine ⟨by rw [← hN]; exact Nat.succ_pos _, fun i hi => ?_, i2, fun i j hij hjN e => ?_, fun c hc => ?_⟩
  · obtain ⟨c1, c2⟩ := (mem _).mp (hat i hi)
    exact ⟨c1, (hg _ (s_blk _ c1).2.2).mp c2⟩
  · have a1 := i1 i (by omega)
    have a2 := i1 j hjN
    have e' : p_itr (p_nx (p_kr m wt 120).2) (p_ul (p_low m)) i = p_itr (p_nx (p_kr m wt 120).2) (p_ul (p_low m)) j := e
    have e2 : (p_ul (p_low m) :: L)[i]? = (p_ul (p_low m) :: L)[j]? := by
      rw [a1, a2, e']
    have := (List.getElem?_inj (by rw [hN]; omega) nd).mp e2
    omega
  · have := (mem c).mpr ⟨hc.1, (hg _ (s_blk _ hc.1).2.2).mpr hc.2⟩
    obtain ⟨i, hi⟩ := List.mem_iff_getElem?.mp this
    have hlt : i < p_N m wt := by
      rw [← hN]
      exact (List.getElem?_eq_some_iff.mp hi).1
    have := i1 i hlt
    rw [hi] at this
    exact ⟨i, hlt, (Option.some.inj this).symm⟩
theorem p_N_pos {m : Nat} {wt : Nat → Nat} (h : 0 < p_N m wt) : p_jn m (p_gT m wt).1 = true := by
  unfold p_N at h
  split at h
  · assumption
  · exact absurd h (Nat.lt_irrefl 0)
theorem p_plc_op {m : Nat} {wt : Nat → Nat} (hm : m < 512) (hN : 0 < p_N m wt) {c : Nat} (hc : p_op m c) : p_plc m wt c < p_N m wt ∧ p_ord m wt (p_plc m wt c) = c := p_fd_in ((y_cyc hm (p_N_pos hN)).2.2.2.2 c hc)
theorem p_plc_ord {m : Nat} {wt : Nat → Nat} (hm : m < 512) {p : Nat} (hp : p < p_N m wt) : p_plc m wt (p_ord m wt p) = p := by
  have hN : 0 < p_N m wt := by omega
  obtain ⟨h1, h2, h3, h4, h5⟩ := y_cyc hm (p_N_pos hN)
  obtain ⟨a1, a2⟩ := p_plc_op hm hN (h2 p hp)
  rcases Nat.lt_trichotomy (p_plc m wt (p_ord m wt p)) p with h | h | h
  · exact absurd a2 (h4 _ _ h hp)
  · exact h
  · exact absurd a2.symm (h4 _ _ h a1)
theorem p_plc_no {m : Nat} {wt : Nat → Nat} (hm : m < 512) {c : Nat} (hc : ¬ p_op m c) : p_plc m wt c = 99 := by
  refine p_fd_99 (fun q hq e => hc ?_)
  rw [← e]
  exact (y_cyc hm (p_N_pos (by omega))).2.1 q hq
theorem p_plc_N0 {m : Nat} {wt : Nat → Nat} (hN : p_N m wt = 0) {c : Nat} : p_plc m wt c = 99 := by
  refine p_fd_99 (fun q hq e => ?_)
  omega
theorem p_plc_lt {m : Nat} {wt : Nat → Nat} {c : Nat} : p_plc m wt c < p_N m wt ∨ p_plc m wt c = 99 := p_fd_lt
theorem p_plc_inj {m : Nat} {wt : Nat → Nat} (hm : m < 512) (hN : 0 < p_N m wt) {c c' : Nat} (hc : p_op m c) (hc' : p_op m c') (h : p_plc m wt c = p_plc m wt c') : c = c' := by
  rw [← (p_plc_op hm hN hc).2, ← (p_plc_op hm hN hc').2, h]
theorem p_T99 {m : Nat} {wt : Nat → Nat} {j : Nat} (hj : ¬ j < 12) : (p_gT m wt).2 j = false := by
  cases e : (p_gT m wt).2 j with
  | false => rfl
  | true => exact absurd ((p_KIk m wt 120).2.2.2.2 j e).1 hj
