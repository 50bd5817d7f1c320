/-! ===== pure: what a step leaves, and the step back ===== -/
/-- all of the heap but the worm's ring, its marks and its numbers, and the row's numbers -/
def k_near (h h' : z_H) : Prop := y_fr [8, 10, 11, 12] h h' ∧ (∀ b, b ≠ 4 → b ≠ 5 → b ≠ 6 → h'.1 10 b = h.1 10 b)
theorem k_near_refl (h : z_H) : k_near h h := ⟨y_fr_refl, fun _ _ _ _ => rfl⟩
theorem k_near_trans {h h' h'' : z_H} (f : k_near h h') (g : k_near h' h'') : k_near h h'' := ⟨y_fr_trans f.1 g.1, fun b h1 h2 h3 => (g.2 b h1 h2 h3).trans (f.2 b h1 h2 h3)⟩
def k_f0 (m : Nat) (wt : Nat → Nat) (s : p_St) (d f0 : Nat) : Nat := if p_eats m wt s d = true then (f0 + 1) % 64 else f0
theorem k_ah_near (h : z_H) (hd : Nat) (t dd : Int32) (mk : Int64) (sz gr f1 f2 : Int32) : k_near h (k_ah h hd t dd mk sz gr f1 f2) := by
  refine ⟨fun a ha => ?_, fun b h1 h2 h3 => ?_⟩
  · have n1 : a ≠ 8 := fun e => ha (by simp [e])
    have n2 : a ≠ 10 := fun e => ha (by simp [e])
    have n3 : a ≠ 11 := fun e => ha (by simp [e])
    have n4 : a ≠ 12 := fun e => ha (by simp [e])
    constructor
    · funext b; simp [k_ah, n1, n2, n3, n4]
    · funext b; simp [k_ah, n2]
  · simp [k_ah, h1, h2, h3]
theorem k_mk_bit {m : Nat} {wt : Nat → Nat} {s : p_St} {hd f0 : Nat} {h : z_H} (hR : y_RC m wt s hd f0 h) (ws : y_ws m s) {t c : Nat} (ht : t < 36) (hc : c < 36) : y_bit (k_mk s h t) c = decide (c ∈ t :: p_st s) := by
  unfold k_mk
  rw [y_bit_or, s_set t ht c (by omega)]
  have e : y_bit (if 0 < s.2.1 then h.2 10 7 else z_stay h) c = decide (c ∈ p_st s) := by
    by_cases g : 0 < s.2.1
    · rw [if_pos g, hR.2.1.2.2.2.2.2 ws.1 c hc]
      unfold p_st
      rw [if_pos g]
    · rw [if_neg g, k_stay hR ws (by omega) hc]
  rw [e, Bool.eq_iff_iff]
  simp only [Bool.or_eq_true, decide_eq_true_iff, List.mem_cons]
  exact or_comm
theorem k_adv {m : Nat} {wt : Nat → Nat} {s : p_St} {hd f0 : Nat} {h : z_H} (hw : y_wf m wt) (hR : y_RC m wt s hd f0 h) (ws : y_ws m s) {d : Nat} (hd4 : d < 4) (hc : p_can m wt s d = true) :
    y_RC m wt (p_adv m wt s d) ((hd + 63) % 64) (k_f0 m wt s d f0) (fh_X6_advance h (nI d)) ∧ (fh_X6_advance h (nI d)).1 12 ((hd + 63) % 64) = nI (p_deed m wt s d) ∧ (∀ b, b ≠ (hd + 63) % 64 → (fh_X6_advance h (nI d)).1 11 b = h.1 11 b ∧ (fh_X6_advance h (nI d)).1 12 b = h.1 12 b) ∧ k_near h (fh_X6_advance h (nI d)) := by
  obtain ⟨-, E⟩ := k_advY hw hR ws hd4 hc
  rw [E]
  have hN := k_ah_near h ((hd + 63) % 64) (nI (p_to m wt s d)) (nI (p_deed m wt s d)) (k_mk s h (p_to m wt s d)) (nI (p_adv m wt s d).1.length) (nI (p_adv m wt s d).2.1) (nI (if p_eats m wt s d = true then (f0 + 1) % 64 else f0)) (nI (p_adv m wt s d).2.2.length)
  obtain ⟨c1, c2⟩ := p_can_iff.mp hc
  have l36 := (p_to_lt (wt := wt) ws hd4).resolve_right c1
  have hl := y_ws_len ws
  have hlen : (p_adv m wt s d).1.length = (p_st s).length + 1 := rfl
  have hsl := p_st_len s
  obtain ⟨w1, w2, w3, w4, w5, w6⟩ := hR.2.1
  obtain ⟨f1, f2, f3, f4⟩ := hR.2.2
  have hm64 := Nat.mod_lt (hd + 63) (show 0 < 64 by decide)
  have hst : (p_st s).length ≤ s.1.length := by rw [hsl]; split <;> omega
  refine ⟨⟨y_BC_fr hR.1 hN.1, ⟨hm64, by simp [k_ah], by simp [k_ah], by simp [k_ah], fun i hi => ?_, fun _ c hc36 => ?_⟩, ⟨?_, by simp [k_ah, k_f0], by simp [k_ah], fun i hi => ?_⟩⟩, by simp [k_ah], fun b hb => by simp [k_ah, hb], hN⟩
  · have hi : i < (p_st s).length + 1 := hi
    cases i with
    | zero =>
      have e0 : ((hd + 63) % 64 + 0) % 64 = (hd + 63) % 64 := by omega
      rw [e0]
      show (k_ah h _ _ _ _ _ _ _ _).1 11 _ = nI (p_to m wt s d)
      simp [k_ah]
    | succ i =>
      have e1 : ((hd + 63) % 64 + (i + 1)) % 64 = (hd + i) % 64 := by omega
      have e2 : (hd + i) % 64 ≠ (hd + 63) % 64 := by omega
      rw [e1]
      show (k_ah h _ _ _ _ _ _ _ _).1 11 _ = nI ((p_st s).getD i 99)
      rw [p_st_getD (by omega), ← w5 i (by omega)]
      simp [k_ah, e2]
  · show y_bit (k_mk s h (p_to m wt s d)) c = _
    exact k_mk_bit hR ws l36 hc36
  · unfold k_f0
    split <;> omega
  · have e9 : (k_ah h ((hd + 63) % 64) (nI (p_to m wt s d)) (nI (p_deed m wt s d)) (k_mk s h (p_to m wt s d)) (nI (p_adv m wt s d).1.length) (nI (p_adv m wt s d).2.1) (nI (if p_eats m wt s d = true then (f0 + 1) % 64 else f0)) (nI (p_adv m wt s d).2.2.length)).1 9 = h.1 9 := y_fr_at hN.1 9
    rw [e9]
    unfold k_f0
    have hi : i < (if p_eats m wt s d = true then s.2.2.tail else s.2.2).length := hi
    show _ = nI ((if p_eats m wt s d = true then s.2.2.tail else s.2.2).getD i 99)
    by_cases e : p_eats m wt s d = true
    · rw [if_pos e] at hi ⊢
      rw [if_pos e]
      rw [List.length_tail] at hi
      have e1 : ((f0 + 1) % 64 + i) % 64 = (f0 + (i + 1)) % 64 := by omega
      have e3 : s.2.2.tail.getD i 99 = s.2.2.getD (i + 1) 99 := by
        cases s.2.2 with
        | nil => rfl
        | cons a L => rfl
      rw [e1, e3]
      exact f4 (i + 1) (by omega)
    · rw [if_neg e] at hi ⊢
      rw [if_neg e]
      exact f4 i hi
theorem s_dd : ∀ dd, dd < 4 → ((nI dd &&& nI 1 = 0) ↔ dd % 2 = 0) ∧ ((nI dd &&& nI 2 = 0) ↔ dd < 2) := by decide +kernel
theorem k_eaten {h : z_H} {hd dd : Nat} (h64 : hd < 64) (h10 : h.1 10 4 = nI hd) (hdd : dd < 4) (h12 : h.1 12 hd = nI dd) : fv_X6_hasJustEaten h = if 2 ≤ dd then nI 1 else nI 0 := by
  unfold fv_X6_hasJustEaten
  rw [h10, y_atv h64, h12]
  by_cases e : dd < 2
  · rw [if_pos ((s_dd dd hdd).2.mpr e), if_neg (by omega)]
  · rw [if_neg (fun z => e ((s_dd dd hdd).2.mp z)), if_pos (by omega)]
theorem p_deed_lt {m : Nat} {wt : Nat → Nat} {s : p_St} {d : Nat} : p_deed m wt s d < 4 ∧ (p_deed m wt s d % 2 = 0 ↔ ¬ 0 < s.2.1) ∧ (2 ≤ p_deed m wt s d ↔ p_eats m wt s d = true) := by
  unfold p_deed
  by_cases g : 0 < s.2.1 <;> cases e : p_eats m wt s d <;> simp [g]
/-- the step back -/
theorem k_back {m : Nat} {wt : Nat → Nat} {s : p_St} {hd f0 : Nat} {h2 : z_H} (ws : y_ws m s) {d : Nat} (hd4 : d < 4) (hc : p_can m wt s d = true) (hd64 : hd < 64) (hf64 : f0 < 64) (hR : y_RC m wt (p_adv m wt s d) ((hd + 63) % 64) (k_f0 m wt s d f0) h2) (h12 : h2.1 12 ((hd + 63) % 64) = nI (p_deed m wt s d)) (htail : h2.1 11 ((hd + (s.1.length - 1)) % 64) = nI (s.1.getD (s.1.length - 1) 99)) (hfd : p_eats m wt s d = true → h2.1 9 f0 = nI (s.2.2.getD 0 99)) :
    y_RC m wt s hd f0 (fh_X6_takeBack h2) ∧ (fh_X6_takeBack h2).1 11 = h2.1 11 ∧ (fh_X6_takeBack h2).1 12 = h2.1 12 ∧ k_near h2 (fh_X6_takeBack h2) := by
  obtain ⟨c1, c2⟩ := p_can_iff.mp hc
  have l36 := (p_to_lt (wt := wt) ws hd4).resolve_right c1
  have hl := y_ws_len ws
  obtain ⟨dl, d1, d2⟩ := p_deed_lt (m := m) (wt := wt) (s := s) (d := d)
  obtain ⟨hB, ⟨w1, w2, w3, w4, w5, w6⟩, ⟨f1, f2, f3, f4⟩⟩ := hR
  have hsl := p_st_len s
  have w3' : h2.1 10 5 = nI ((p_st s).length + 1) := w3
  have w4' : h2.1 10 6 = nI ((s.2.1 - 1) + (if p_eats m wt s d = true then 2 else 0)) := w4
  have f3' : h2.1 8 2 = nI (if p_eats m wt s d = true then s.2.2.tail else s.2.2).length := f3
  have h6 := ws.2.2.2.2.2
  have hmask : ∀ c, c < 36 → y_bit (h2.2 10 7) c = decide (c ∈ p_to m wt s d :: p_st s) := w6 (List.cons_ne_nil _ _)
  have hE := k_eaten w1 w2 dl h12
  have hat : z_atv h2 12 64 (h2.1 10 4) = nI (p_deed m wt s d) := by rw [w2, y_atv w1, h12]
  have hnew : (h2.1 10 4 + nI 1) &&& nI 63 = nI hd := by
    rw [w2, nI_add, y_and63 (by omega)]; congr 1; omega
  have hto : h2.1 11 (((h2.1 10 4 + nI 0) &&& nI 63).toNatClampNeg) = nI (p_to m wt s d) := by
    rw [w2, nI_add, y_cl63 (by omega)]
    exact w5 0 (Nat.succ_pos _)
  -- the new mask and the new tail
  have hidx : ∀ n : Int32, n = nI (s.1.length - 1) → h2.1 11 (((nI hd + n) &&& nI 63).toNatClampNeg) = nI (s.1.getD (s.1.length - 1) 99) := by
    intro n hn
    rw [hn, nI_add, y_cl63 (by omega)]
    exact htail
  have htl := (ws.2.2.1 _ (y_getD_mem (i := s.1.length - 1) (by omega))).1
  have hbit : ∀ c, c < 36 → y_bit ((h2.2 10 7 &&& (fv_X7_setOf (nI (p_to m wt s d)) ^^^ (-1))) ||| fv_X7_setOf (nI (s.1.getD (s.1.length - 1) 99))) c = decide (c ∈ s.1) := by
    intro c hc36
    rw [y_bit_or, y_bit_and, y_bit_not _ (by omega), s_set _ l36 c (by omega), s_set _ htl c (by omega), hmask c hc36, Bool.eq_iff_iff]
    simp only [Bool.or_eq_true, Bool.and_eq_true, Bool.not_eq_true', decide_eq_true_iff, decide_eq_false_iff_not, List.mem_cons]
    have hm := p_st_mem ws c
    constructor
    · rintro (⟨h1, h2⟩ | h1)
      · exact (hm.mp (h1.resolve_left h2)).1
      · rw [h1]; exact y_getD_mem (by omega)
    · intro h1
      by_cases e : c = s.1.getD (s.1.length - 1) 99
      · exact Or.inr e
      · have h3 := hm.mpr ⟨h1, fun _ => e⟩
        refine Or.inl ⟨Or.inr h3, fun z => c2 (z ▸ h3)⟩
  -- what is owed, by the shape of the heap
  have rest : ∀ h' : z_H, h'.1 10 4 = nI hd → h'.1 10 5 = nI s.1.length → h'.1 10 6 = nI s.2.1 → h'.2 10 7 = ((h2.2 10 7 &&& (fv_X7_setOf (nI (p_to m wt s d)) ^^^ (-1))) ||| fv_X7_setOf (nI (s.1.getD (s.1.length - 1) 99))) → h'.1 8 1 = nI f0 → h'.1 8 2 = nI s.2.2.length → h'.1 11 = h2.1 11 → h'.1 12 = h2.1 12 → k_near h2 h' → y_RC m wt s hd f0 h' ∧ h'.1 11 = h2.1 11 ∧ h'.1 12 = h2.1 12 ∧ k_near h2 h' := by
    intro h' a1 a2 a3 a4 a5 a6 a7 a8 a9
    refine ⟨⟨y_BC_fr hB a9.1, ⟨hd64, a1, a2, a3, fun i hi => ?_, fun _ c hc36 => by rw [a4]; exact hbit c hc36⟩, ⟨hf64, a5, a6, fun i hi => ?_⟩⟩, a7, a8, a9⟩
    · rw [a7]
      by_cases e : i = s.1.length - 1
      · rw [e]; exact htail
      · have hi2 : i < (p_st s).length := by rw [hsl]; split <;> omega
        have := w5 (i + 1) (Nat.succ_lt_succ hi2)
        have e1 : ((hd + 63) % 64 + (i + 1)) % 64 = (hd + i) % 64 := by omega
        rw [e1] at this
        rw [this]
        show nI ((p_st s).getD i 99) = _
        rw [p_st_getD hi2]
    · rw [y_fr_at a9.1 9]
      by_cases e : p_eats m wt s d = true
      · cases i with
        | zero => rw [Nat.add_zero, Nat.mod_eq_of_lt hf64]; exact hfd e
        | succ i =>
          have f4' : ∀ i, i < (if p_eats m wt s d = true then s.2.2.tail else s.2.2).length → h2.1 9 (((if p_eats m wt s d = true then (f0 + 1) % 64 else f0) + i) % 64) = nI ((if p_eats m wt s d = true then s.2.2.tail else s.2.2).getD i 99) := f4
          rw [if_pos e, if_pos e, List.length_tail] at f4'
          have := f4' i (by omega)
          have e1 : ((f0 + 1) % 64 + i) % 64 = (f0 + (i + 1)) % 64 := by omega
          rw [e1] at this
          rw [this]
          congr 1
          cases s.2.2 with
          | nil => rfl
          | cons a L => rfl
      · have f4' : ∀ i, i < (if p_eats m wt s d = true then s.2.2.tail else s.2.2).length → h2.1 9 (((if p_eats m wt s d = true then (f0 + 1) % 64 else f0) + i) % 64) = nI ((if p_eats m wt s d = true then s.2.2.tail else s.2.2).getD i 99) := f4
        rw [if_neg e, if_neg e] at f4'
        exact f4' i hi
  have near : ∀ h' : z_H, (∀ a, a ≠ 8 → a ≠ 10 → h'.1 a = h2.1 a) → (∀ a, a ≠ 10 → h'.2 a = h2.2 a) → (∀ b, b ≠ 4 → b ≠ 5 → b ≠ 6 → h'.1 10 b = h2.1 10 b) → h'.1 11 = h2.1 11 ∧ h'.1 12 = h2.1 12 ∧ k_near h2 h' := by
    intro h' a1 a2 a3
    refine ⟨a1 11 (by decide) (by decide), a1 12 (by decide) (by decide), fun a ha => ⟨a1 a (fun e => ha (by simp [e])) (fun e => ha (by simp [e])), a2 a (fun e => ha (by simp [e]))⟩, a3⟩
  have hlen1 : ¬ 0 < s.2.1 → (p_st s).length + 1 = s.1.length := fun g => by rw [hsl, if_neg g]; omega
  have hlen2 : 0 < s.2.1 → (p_st s).length + 1 = s.1.length + 1 := fun g => by rw [hsl, if_pos g]
  have f2' : h2.1 8 1 = nI (if p_eats m wt s d = true then (f0 + 1) % 64 else f0) := f2
  have hf1 : p_eats m wt s d = true → (h2.1 8 1 - nI 1) &&& nI 63 = nI f0 := fun e => by
    rw [f2', if_pos e, s_hd _ (Nat.mod_lt _ (by decide))]; congr 1; omega
  unfold fh_X6_takeBack
  rw [hat, hnew, hto, hE]
  by_cases g : 0 < s.2.1
  · have g2 : ¬ (nI (p_deed m wt s d) &&& nI 1) = 0 := fun z => (d1.mp ((s_dd _ dl).1.mp z)) g
    have q1 : h2.1 10 5 - nI 1 = nI s.1.length := by rw [w3', hlen2 g, pk_sub (by omega), Nat.add_sub_cancel]
    have q2 := hidx (h2.1 10 5 - nI 1 - nI 1) (by rw [q1, pk_sub (by omega)])
    rw [if_neg g2, q2, q1]
    by_cases e : p_eats m wt s d = true
    · rw [if_neg (by rw [if_pos (d2.mpr e)]; exact i1_ne0)]
      rw [hf1 e]
      rw [if_pos e] at w4' f3'
      have q3 : h2.1 10 6 - nI 2 + nI 1 = nI s.2.1 := by rw [w4', pk_sub (by omega), nI_add]; congr 1; omega
      have q4 : h2.1 8 2 + nI 1 = nI s.2.2.length := by rw [f3', nI_add, List.length_tail]; congr 1; have := (p_eats_iff.mp e).1; omega
      rw [q3, q4]
      refine rest _ ?_ ?_ ?_ ?_ ?_ ?_ (near _ ?_ ?_ ?_).1 (near _ ?_ ?_ ?_).2.1 (near _ ?_ ?_ ?_).2.2
      all_goals first
        | (simp [z_set, z_setL]; done)
        | (intro a a1 a2; funext b; simp [z_set, z_setL, a1, a2]; done)
        | (intro a a1; funext b; simp [z_set, z_setL, a1]; done)
        | (intro b b1 b2 b3; simp [z_set, z_setL, b1, b2, b3]; done)
        | simp [z_set, z_setL]
    · rw [if_pos (by rw [if_neg (fun z => e (d2.mp z))]; rfl)]
      rw [if_neg e] at w4' f3' f2'
      have q3 : h2.1 10 6 + nI 1 = nI s.2.1 := by rw [w4', nI_add]; congr 1; omega
      rw [q3]
      refine rest _ ?_ ?_ ?_ ?_ ?_ ?_ (near _ ?_ ?_ ?_).1 (near _ ?_ ?_ ?_).2.1 (near _ ?_ ?_ ?_).2.2
      all_goals first
        | (simp [z_set, z_setL]; done)
        | (intro a a1 a2; funext b; simp [z_set, z_setL, a1, a2]; done)
        | (intro a a1; funext b; simp [z_set, z_setL, a1]; done)
        | (intro b b1 b2 b3; simp [z_set, z_setL, b1, b2, b3]; done)
        | simp [z_set, z_setL, f2', f3']
  · have g0 : s.2.1 = 0 := by omega
    have g2 : (nI (p_deed m wt s d) &&& nI 1) = 0 := (s_dd _ dl).1.mpr (d1.mpr g)
    have q1 : h2.1 10 5 = nI s.1.length := by rw [w3', hlen1 g]
    have q2 := hidx (h2.1 10 5 - nI 1) (by rw [q1, pk_sub (by omega)])
    rw [if_pos g2, q2]
    by_cases e : p_eats m wt s d = true
    · rw [if_neg (by rw [if_pos (d2.mpr e)]; exact i1_ne0)]
      rw [hf1 e]
      rw [if_pos e] at w4' f3'
      have q3 : h2.1 10 6 - nI 2 = nI s.2.1 := by rw [w4', pk_sub (by omega)]; congr 1; omega
      have q4 : h2.1 8 2 + nI 1 = nI s.2.2.length := by rw [f3', nI_add, List.length_tail]; congr 1; have := (p_eats_iff.mp e).1; omega
      rw [q3, q4]
      refine rest _ ?_ ?_ ?_ ?_ ?_ ?_ (near _ ?_ ?_ ?_).1 (near _ ?_ ?_ ?_).2.1 (near _ ?_ ?_ ?_).2.2
      all_goals first
        | (simp [z_set, z_setL]; done)
        | (intro a a1 a2; funext b; simp [z_set, z_setL, a1, a2]; done)
        | (intro a a1; funext b; simp [z_set, z_setL, a1]; done)
        | (intro b b1 b2 b3; simp [z_set, z_setL, b1, b2, b3]; done)
        | simp [z_set, z_setL, q1]
    · rw [if_pos (by rw [if_neg (fun z => e (d2.mp z))]; rfl)]
      rw [if_neg e] at w4' f3' f2'
      have q3 : h2.1 10 6 = nI s.2.1 := by rw [w4']; congr 1; omega
      refine rest _ ?_ ?_ ?_ ?_ ?_ ?_ (near _ ?_ ?_ ?_).1 (near _ ?_ ?_ ?_).2.1 (near _ ?_ ?_ ?_).2.2
      all_goals first
        | (simp [z_set, z_setL]; done)
        | (intro a a1 a2; funext b; simp [z_set, z_setL, a1, a2]; done)
        | (intro a a1; funext b; simp [z_set, z_setL, a1]; done)
        | (intro b b1 b2 b3; simp [z_set, z_setL, b1, b2, b3]; done)
        | simp [z_set, z_setL, q1, q3, f2', f3']
