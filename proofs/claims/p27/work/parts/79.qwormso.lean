/-! ===== p27, pure: the worm is so ===== -/
theorem s_shr : ∀ c, c < 36 → ((((nI c).toInt64 &&& 63) : Int64).toBitVec.smod 64).toNat = c := by decide +kernel
theorem q_shr (y : Int64) {c : Nat} (hc : c < 36) : (y >>> ((nI c).toInt64 &&& 63)).toBitVec.getLsbD 0 = y_bit y c := by
  rw [Int64.toBitVec_shiftRight, BitVec.sshiftRight', BitVec.getLsbD_sshiftRight, s_shr c hc, if_pos (by omega), Nat.add_zero]
  unfold y_bit
  simp
theorem q_and1 (x : Int64) : x &&& 1 = 1 ↔ x.toBitVec.getLsbD 0 = true := by
  rw [← Int64.toBitVec_inj, Int64.toBitVec_and]
  have e1 : (1 : Int64).toBitVec = 1#64 := rfl
  rw [e1]
  constructor
  · intro h
    have := congrArg (fun b : BitVec 64 => b.getLsbD 0) h
    simpa using this
  · intro h
    apply BitVec.eq_of_getLsbD_eq
    intro i hi
    rw [BitVec.getLsbD_and, BitVec.getLsbD_one]
    by_cases e : i = 0
    · subst e
      simp [h]
    · simp [e]
theorem q_met (y : Int64) {c : Nat} (hc : c < 36) : lg_cmp ((y >>> ((nI c).toInt64 &&& 63)) &&& 1) 1 = 0 ↔ y_bit y c = true := by
  rw [lg_cmp_eq, q_and1, q_shr y hc]
section QW
variable {m : Nat} {wt : Nat → Nat} {s : p_St} {dd : Bool} {hd f0 : Nat} {h0 : z_H} {n0 : Nat}
def q_wP (m : Nat) (wt : Nat → Nat) (s : p_St) (dd : Bool) (hd f0 : Nat) (h0 : z_H) (r : z_R) : Prop := z_vi r = nI 1 ∧ y_GC m wt s dd hd f0 r.2 ∧ y_fr y_osC h0 r.2
/-- the safe steps -/
theorem W_267 (hw : y_wf m wt) (ws : y_ws m s) (hg : y_wg m s n0) (hn0 : n0 ≤ 600) (hliv : 0 < s.1.length ∧ dd = false) {v : Nat} (hv6 : v ≤ 6) (hv : ∀ d, d < 4 → p_can m wt s d = true → 0 < v) : ∀ (j k : Nat) (h : z_H) (n : Nat), k + j = 4 → j < n → y_GC m wt s dd hd f0 h → y_fr y_osC h0 h →
    y_W (tk_L_isWormSo_267 n (nI v) (nI 1) (nI k) h) (fn_L_isWormSo_267 n (nI v) (nI 1) (nI k) h) (q_wP m wt s dd hd f0 h0)
  | 0, k, h, n + 1, hk, hn, hC, hF => by
    have k4 : k = 4 := by omega
    subst k4
    unfold tk_L_isWormSo_267 fn_L_isWormSo_267
    dsimp only
    exact y_pos (nI_le (Nat.le_refl _) (by decide)) ⟨Or.inr rfl, rfl, hC, hF⟩
  | j + 1, k, h, n + 1, hk, hn, hC, hF => by
    have hlt : k < 4 := by omega
    obtain ⟨s1, s2, s3, s4⟩ := O_safe hw ws hg hC hliv hlt
    obtain ⟨o1, o2⟩ := O_order hw hg hn0 s3
    have NX : y_W (tk_L_isWormSo_267 n (nI v) (nI 1) (nI k + nI 1) (fn_X7_isSafe_n (nI k) h).2) (fn_L_isWormSo_267 n (nI v) (nI 1) (nI k + nI 1) (fn_X7_isSafe_n (nI k) h).2) (q_wP m wt s dd hd f0 h0) := by
      rw [nI_add]
      exact W_267 hw ws hg hn0 hliv hv6 hv j (k + 1) _ n (by omega) (by omega) s3 (y_fr_trans hF s4)
    unfold tk_L_isWormSo_267 fn_L_isWormSo_267
    dsimp only
    rw [s2]
    refine y_neg (nI_ge hlt (by decide)) (y_neg i1_ne0 (y_req s1 ?_))
    cases e : p_safe m wt s k with
    | false =>
      exact y_pos (show (if false = true then nI 1 else nI 0 : Int32) = 0 from rfl) NX
    | true =>
      obtain ⟨p1, p2, p3, -⟩ := p_safe_ok e
      have hv0 := hv k hlt p3
      have h40 := hg.2.2.1
      refine y_neg (show ¬ (if true = true then nI 1 else nI 0 : Int32) = 0 from i1_ne0) (y_req o1 ?_)
      rw [o2, if_pos p2, O_feeds s3]
      exact y_neg i1_ne0 (y_neg (nI_nle hv0 (by omega)) (y_neg (nI_nle p1 (by omega)) NX))
/-- the feed, in both ways -/
theorem W_204 (hw : y_wf m wt) (ws : y_ws m s) (hg : y_wg m s n0) (hn0 : n0 ≤ 600) (hliv : 0 < s.1.length ∧ dd = false) {v : Nat} (hv6 : v ≤ 6) (hv : ∀ d, d < 4 → p_can m wt s d = true → 0 < v) {h : z_H} (hC : y_GC m wt s dd hd f0 h) (hF : y_fr y_osC h0 h) :
    y_W (tk_L_isWormSo_204 (nI v) (p_i (p_fw m wt s 6)) (nI 1) h) (fn_L_isWormSo_204 (nI v) (p_i (p_fw m wt s 6)) (nI 1) h) (q_wP m wt s dd hd f0 h0) := by
  obtain ⟨f1, f2, f3, f4⟩ := O_fewB hw ws hg hC hliv
  have h40 := hg.2.2.1
  unfold tk_L_isWormSo_204 fn_L_isWormSo_204
  refine y_neg i1_ne0 (y_req f1 (y_pos f2.symm ?_))
  rcases q_fw (m := m) (wt := wt) (s := s) with e | ⟨e1, e6, e3, e4⟩
  · rw [e]
    exact y_pos rfl (W_267 hw ws hg hn0 hliv hv6 hv 4 0 _ 2000 rfl (by decide) f3 (y_fr_trans hF f4))
  · obtain ⟨l1, l2, l3, l4⟩ := O_lives hw ws hg f3 hliv e1 e6
    rw [e4] at l2
    rw [p_i_n (by omega), O_feeds f3]
    refine y_neg (y_m1 _ (by omega)) (y_neg (nI_nlt e1 (by omega)) (y_neg (nI_nlt e6 (by omega)) (y_neg (nI_nle e3 (by omega)) (y_req l1 (y_pos l2 ?_)))))
    exact W_267 hw ws hg hn0 hliv hv6 hv 4 0 _ 2000 rfl (by decide) l3 (y_fr_trans hF (y_fr_trans f4 l4))
/-- what can be reached -/
theorem W_178 (hw : y_wf m wt) (ws : y_ws m s) (hg : y_wg m s n0) (hn0 : n0 ≤ 600) (hliv : 0 < s.1.length ∧ dd = false) {v : Nat} (hv6 : v ≤ 6) (hv : ∀ d, d < 4 → p_can m wt s d = true → 0 < v) {h : z_H} (hC : y_GC m wt s dd hd f0 h) (hF : y_fr y_osC h0 h) :
    y_W (tk_L_isWormSo_178 (nI v) (p_i (p_fw m wt s 6)) h) (fn_L_isWormSo_178 (nI v) (p_i (p_fw m wt s 6)) h) (q_wP m wt s dd hd f0 h0) := by
  obtain ⟨r1, ⟨k1, k2, k3⟩, r3, r4⟩ := O_reach hw ws hC
  obtain ⟨t1, ⟨i1, i2, i3⟩, t3, t4⟩ := O_reach hw ws r3
  unfold tk_L_isWormSo_178 fn_L_isWormSo_178
  rw [k3, i3, O_len t3, pk_sub (by omega)]
  exact y_req r1 (y_neg (nI_pos (by omega)) (y_req t1 (y_neg (nI_nlt (by omega) (by omega)) (W_204 hw ws hg hn0 hliv hv6 hv t3 (y_fr_trans hF (y_fr_trans r4 t4))))))
theorem W_106 (hw : y_wf m wt) (hg : y_wg m s n0) (hn0 : n0 ≤ 600) {h : z_H} (hC : y_GC m wt s dd hd f0 h) (hF : y_fr y_osC h0 h) : y_W (tk_L_isWormSo_106 h) (fn_L_isWormSo_106 h) (q_wP m wt s dd hd f0 h0) := by
  obtain ⟨o1, o2⟩ := O_order hw hg hn0 hC
  have hl := y_wg_len hg
  unfold tk_L_isWormSo_106 fn_L_isWormSo_106
  refine ⟨o1, ?_⟩
  rw [o2, O_len hC]
  by_cases e : p_ordd m wt s.1 = true
  · have := (p_ordd_iff.mp e).1
    rw [if_pos e, if_neg i1_ne0, if_neg (nI_nle this (by omega))]
    exact ⟨rfl, hC, hF⟩
  · rw [if_neg e, if_pos i0_eq0]
    exact ⟨rfl, hC, hF⟩
/-- what is foreseen -/
theorem W_alive (hw : y_wf m wt) (ws : y_ws m s) (hg : y_wg m s n0) (hn0 : n0 ≤ 600) (hliv : 0 < s.1.length ∧ dd = false) {k : Nat} (hk1 : 1 ≤ k) (hk6 : k ≤ 6) : (∀ d, d < 4 → p_can m wt s d = true → 0 < p_D m wt k s) := by
  intro d hd hc
  have := q_D_step (m := m) (wt := wt) (k := k - 1) hd hc
  rw [show k - 1 + 1 = k by omega] at this
  omega
/-- the body, cell by cell -/
theorem W_5 (hw : y_wf m wt) (hg : y_wg m s n0) (hn0 : n0 ≤ 600) (hadj : q_adj s.1) {k : Nat} (hk1 : 1 ≤ k) (hk6 : k ≤ 6) {h : z_H} (hC : y_GC m wt s dd hd f0 h) : ∀ (j p : Nat) (y : Int64) (n : Nat), p + j = s.1.length → j < n → (∀ c, c < 36 → (y_bit y c = true ↔ ∃ i, i < p ∧ s.1.getD i 99 = c)) →
    y_W (tk_L_isWormSo_5 n (nI k) y (nI p) h) (fn_L_isWormSo_5 n (nI k) y (nI p) h) (q_wP m wt s dd hd f0 h)
  | 0, p, y, n + 1, hp, hn, hy => by
    have hl36 := y_wg_len hg
    unfold tk_L_isWormSo_5 fn_L_isWormSo_5
    dsimp only
    rw [O_len hC, O_alive hC hl36, O_owed hC]
    refine y_pos (nI_le (by omega) (by omega)) ?_
    by_cases hliv : 0 < s.1.length ∧ dd = false
    · have ws := y_wg_ws hg hn0 hliv.1
      rw [if_pos hliv]
      have hv := W_alive (dd := dd) hw ws hg hn0 hliv hk1 hk6
      obtain ⟨a1, a2, a3, a4⟩ := O_lives hw ws hg hC hliv hk1 hk6
      obtain ⟨b1, b2, b3, b4⟩ := O_few hw ws hg a3 hliv
      obtain ⟨c1, c2, c3, c4⟩ := O_lives hw ws hg b3 hliv (by decide : 1 ≤ 6) (Nat.le_refl 6)
      obtain ⟨d1, d2, d3, d4⟩ := O_lives hw ws hg c3 hliv (by decide : 1 ≤ 6) (Nat.le_refl 6)
      have hk := q_D_6 (m := m) (wt := wt) (s := s) hk6
      have h6 := p_D_le (m := m) (wt := wt) 6 s
      rw [a2, b2, c2, d2]
      generalize p_D m wt k s = v at *
      have fb := y_fr_trans a4 b4
      have fc := y_fr_trans fb c4
      have fd := y_fr_trans fc d4
      refine y_neg i1_ne0 (y_req a1 (y_req b1 (y_neg (nI_pos (by omega)) (y_neg (nI_nlt (by omega) (by omega)) (y_req c1 (y_neg (nI_nlt (by omega) (by omega)) ?_))))))
      refine y_if (fun _ => W_178 hw ws hg hn0 hliv (by omega) hv c3 fc) (fun e => y_req d1 (y_pos (congrArg nI ?_) (W_178 hw ws hg hn0 hliv (by omega) hv d3 fd)))
      have : v ≠ k := fun z => e (congrArg nI z)
      omega
    · rw [if_neg hliv]
      refine y_pos i0_eq0 ?_
      by_cases hs : 0 < s.1.length
      · refine y_pos ?_ (W_106 hw hg hn0 hC y_fr_refl)
        rw [Int32.lt_iff_toInt_lt, nI_toInt (by omega), Int32.toInt_zero]
        omega
      · have e0 : s.1.length = 0 := by omega
        obtain ⟨r1, r2⟩ := O_reach0 hC e0
        rw [e0, hg.2.2.2.2.2 (List.eq_nil_of_length_eq_zero e0), r2]
        exact y_neg (by decide) (y_pos i0_eq0 (y_req r1 (y_pos rfl (W_106 hw hg hn0 hC y_fr_refl))))
  | j + 1, p, y, n + 1, hp, hn, hy => by
    have hl36 := y_wg_len hg
    have hlt : p < s.1.length := by omega
    obtain ⟨a1, a2⟩ := O_bodyAt hC hl36 hlt
    obtain ⟨c36, cop⟩ := hg.2.1 _ (y_getD_mem hlt)
    obtain ⟨w1, w2⟩ := O_isWall hC c36
    rw [cop, if_neg (by decide : ¬ false = true)] at w2
    have nb : ¬ y_bit y (s.1.getD p 99) = true := fun z => by
      obtain ⟨i, i1, i2⟩ := (hy _ c36).mp z
      have := y_nd_ix hg.1 (by omega : i < s.1.length) hlt i2
      omega
    have NX : y_W (tk_L_isWormSo_5 n (nI k) (y ||| (1 <<< ((nI (s.1.getD p 99)).toInt64 &&& 63))) (nI p + nI 1) h) (fn_L_isWormSo_5 n (nI k) (y ||| (1 <<< ((nI (s.1.getD p 99)).toInt64 &&& 63))) (nI p + nI 1) h) (q_wP m wt s dd hd f0 h) := by
      rw [nI_add]
      refine W_5 hw hg hn0 hadj hk1 hk6 hC j (p + 1) _ n (by omega) (by omega) (fun c hc => ?_)
      have e1 : y_bit (1 <<< ((nI (s.1.getD p 99)).toInt64 &&& 63)) c = decide (c = s.1.getD p 99) := s_set _ c36 c (by omega)
      rw [y_bit_or, e1, Bool.or_eq_true, hy c hc, decide_eq_true_iff]
      constructor
      · rintro (⟨i, i1, i2⟩ | e)
        · exact ⟨i, by omega, i2⟩
        · exact ⟨p, by omega, e.symm⟩
      · rintro ⟨i, i1, i2⟩
        by_cases e : i = p
        · subst e; exact Or.inr i2.symm
        · exact Or.inl ⟨i, by omega, i2⟩
    unfold tk_L_isWormSo_5 fn_L_isWormSo_5
    dsimp only
    rw [O_len hC, a2]
    refine y_neg (nI_ge hlt (by omega)) (y_req a1 (y_neg (fun z => nb ((q_met y c36).mp z)) (y_req w1 (y_pos w2 ?_))))
    by_cases p0 : p = 0
    · subst p0
      exact y_pos (by decide) NX
    · obtain ⟨d, hd4, e⟩ := hadj (p - 1) (by omega)
      rw [show p - 1 + 1 = p by omega] at e
      obtain ⟨b1, b2⟩ := O_bodyAt hC hl36 (by omega : p - 1 < s.1.length)
      have p36 := (hg.2.1 _ (y_getD_mem (by omega : p - 1 < s.1.length))).1
      have bs := (q_bs_ok _ c36 d hd4 (by omega)).1
      rw [e] at bs
      rw [pk_sub (by omega), b2]
      refine y_neg (nI_nle (by omega) (by omega)) (y_req b1 (y_neg ?_ NX))
      rw [q_beside h bs]
      exact i1_ne0
end QW
theorem D_worm {n : Nat} {a : q_A} (hi : q_inv n a) (hn : n ≤ 600) {h : z_H} (hR : q_R a h) {k : Nat} (hk1 : 1 ≤ k) (hk6 : k ≤ 6) : y_W (tk_L_isWormSo (nI k) h) (fn_L_isWormSo (nI k) h) (fun r => z_vi r = nI 1 ∧ q_R a r.2 ∧ y_fr y_osC h r.2) := by
  obtain ⟨m, wt, s, dd⟩ := a
  obtain ⟨hw, hg, hadj⟩ := hi
  have hg : y_wg m s n := hg
  have hl := y_wg_len hg
  obtain ⟨hd, f0, hC⟩ := hR
  obtain ⟨t, r1, r2, r3⟩ := W_5 (m := m) (wt := wt) (s := s) (dd := dd) hw hg hn hadj hk1 hk6 hC s.1.length 0 0 2000 (by omega) (by omega) (fun c hc => by
    have e : y_bit 0 c = false := by simp [y_bit]
    rw [e]
    exact ⟨fun z => (by cases z), fun ⟨i, i1, _⟩ => absurd i1 (Nat.not_lt_zero i)⟩)
  exact ⟨t, r1, ⟨hd, f0, r2⟩, r3⟩
