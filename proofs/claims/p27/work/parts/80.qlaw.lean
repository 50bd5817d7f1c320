/-! ===== p27, pure: the law's loop, and its start ===== -/
def y_osD : List Nat := [21, 22, 23, 24, 25, 26, 27, 28, 29, 30, 31, 32, 35, 36, 37, 38, 39]
theorem s_osD : ∀ b ∈ y_osC, z_sg b ∈ y_osD := by decide
theorem q_sw_fr {h h' : z_H} (f : y_fr y_osC h h') : y_fr y_osD (z_sw h) (z_sw h') := fun a ha =>
  f (z_sg a) (fun z => ha (by have := s_osD _ z; rw [z_sg2] at this; exact this))
/-- what is done to one object leaves the other one as it was -/
theorem q_R_fr {a : q_A} {h h' : z_H} (hR : q_R a (z_sw h)) (f : y_fr y_osC h h') : q_R a (z_sw h') := by
  obtain ⟨hd, f0, hC⟩ := hR
  exact ⟨hd, f0, y_GC_fr hC (q_sw_fr f) (by decide)⟩
def q_Two (n : Nat) (h : z_H) : Prop := ∃ a, q_inv n a ∧ q_R a h ∧ q_R a (z_sw h)
theorem q_pos31 (x : Int32) : ¬ (x &&& (2147483647)) < 0 := by
  intro z
  rw [Int32.lt_iff_toInt_lt, Int32.toInt_zero] at z
  have h1 : (x &&& (2147483647)).toBitVec.msb = true := by
    rw [BitVec.msb_eq_toInt]
    exact decide_eq_true z
  rw [Int32.toBitVec_and, BitVec.msb_and] at h1
  have h2 : ((2147483647 : Int32)).toBitVec.msb = false := by decide
  rw [h2, Bool.and_false] at h1
  cases h1
theorem q_low6 (x : Int32) : ∃ k, k < 6 ∧ q_low x (nI 6) = nI k := by
  obtain ⟨j, hj, e⟩ := nI_of (q_pos31 x)
  refine ⟨j % 6, Nat.mod_lt _ (by decide), ?_⟩
  unfold q_low
  rw [e, pk_div hj (by decide) (by decide), pk_mul, pk_sub (by omega)]
  exact congrArg nI (by omega)
section QQ
variable {L : Nat} {xs : Nat → Int32} {c : Nat} {K18 : Int32 → z_H → Prop} {k18 : Int32 → z_H → Int32}
theorem p_179 (hk : ∀ h', q_Two (c + 1) h' → y_W (K18 (nI c + nI 1) h') (k18 (nI c + nI 1) h') (fun r => r = 1)) {h : z_H} (hT : q_Two (c + 1) h) : y_W (tk_L_law_179 L xs K18 (nI c) h) (fn_L_law_179 L xs k18 (nI c) h) (fun r => r = 1) := hk h hT
theorem p_150 (hc : c < 90) (hk : ∀ h', q_Two (c + 1) h' → y_W (K18 (nI c + nI 1) h') (k18 (nI c + nI 1) h') (fun r => r = 1)) (v : Int32) {h : z_H} (hT : q_Two (c + 1) h) : y_W (tk_L_law_150 L xs K18 (nI c) v h) (fn_L_law_150 L xs k18 (nI c) v h) (fun r => r = 1) := by
  obtain ⟨k, k6, e⟩ := q_low6 (v >>> ((nI 5) &&& 31))
  obtain ⟨a, i1, i2, i3⟩ := hT
  obtain ⟨w1, w2, w3, w4⟩ := D_worm i1 (by omega) i2 (by omega : 1 ≤ 1 + k) (by omega)
  have e2 : (nI 1) + (z_vi0 (fn_L_low (v >>> ((nI 5) &&& 31)) (nI 6) h)) = nI (1 + k) := by
    rw [q_lowE, e, nI_add]
  unfold tk_L_law_150 fn_L_law_150
  refine y_if (fun _ => y_req (q_lowT _ (by decide) (by decide) h) ?_) (fun _ => p_179 hk ⟨a, i1, i2, i3⟩)
  rw [e2]
  exact y_req w1 (y_neg (by rw [w2]; exact i1_ne0) (p_179 hk ⟨a, i1, w3, q_R_fr i3 w4⟩))
theorem p_134 (hc : c < 90) (hk : ∀ h', q_Two (c + 1) h' → y_W (K18 (nI c + nI 1) h') (k18 (nI c + nI 1) h') (fun r => r = 1)) (v : Int32) {h : z_H} (hT : q_Two (c + 1) h) : y_W (tk_L_law_134 L xs K18 (nI c) v h) (fn_L_law_134 L xs k18 (nI c) v h) (fun r => r = 1) := by
  obtain ⟨a, i1, i2, i3⟩ := hT
  obtain ⟨w1, w2, w3, w4⟩ := D_cyc i1 i2
  unfold tk_L_law_134 fn_L_law_134
  exact y_if (fun _ => y_req w1 (y_neg (by rw [w2]; exact i1_ne0) (p_150 hc hk v ⟨a, i1, w3, q_R_fr i3 w4⟩))) (fun _ => p_150 hc hk v ⟨a, i1, i2, i3⟩)
theorem p_72 (hc : c < 90) (hk : ∀ h', q_Two (c + 1) h' → y_W (K18 (nI c + nI 1) h') (k18 (nI c + nI 1) h') (fun r => r = 1)) (v a5 a6 a7 : Int32) {h : z_H} {a : q_A} (i1 : q_inv (c + 1) a) (i2 : q_R a h) (i3 : q_R a (z_sw h)) (hpl : a7 ≠ -99999 → ¬ a6 ≤ nI 8 → ¬ nI 13 ≤ a6 → q_liv a ∧ (¬ a7 ≤ 0 → a5 ≠ 0) ∧ (a5 ≠ 0 → p_ordd a.1 a.2.1 a.2.2.1.1 = true)) : y_W (tk_L_law_72 L xs K18 (nI c) v a5 a6 a7 h) (fn_L_law_72 L xs k18 (nI c) v a5 a6 a7 h) (fun r => r = 1) := by
  have hT : q_Two (c + 1) h := ⟨a, i1, i2, i3⟩
  have G := p_134 (L := L) (xs := xs) hc hk v hT
  obtain ⟨l1, l2⟩ := D_alike i1 (by omega) i2 i3
  unfold tk_L_law_72 fn_L_law_72
  rw [l2]
  refine y_req l1 (y_neg i1_ne0 (y_if (fun _ => G) (fun n1 => y_if (fun _ => G) (fun n2 => y_if (fun _ => G) (fun n3 => ?_)))))
  obtain ⟨p1, p2, p3⟩ := hpl n1 n2 n3
  have G120 : y_W (tk_L_law_120 L xs K18 (nI c) v a5 h) (fn_L_law_120 L xs k18 (nI c) v a5 h) (fun r => r = 1) := by
    obtain ⟨hd, f0, hC⟩ := i2
    obtain ⟨o1, o2⟩ := O_order i1.1 i1.2.1 (by omega) hC
    unfold tk_L_law_120 fn_L_law_120
    refine y_if (fun _ => G) (fun n4 => y_req o1 ?_)
    rw [o2, if_pos (p3 n4)]
    exact y_neg i1_ne0 G
  refine y_neg (fun z => (q_aliveC i1 h i2).mp z p1) (y_if (fun _ => G120) (fun n4 => y_neg (p2 n4) G120))
end QQ
theorem p_law {L : Nat} {xs : Nat → Int32} : ∀ (j c : Nat) (h : z_H) (n : Nat), c + j = 90 → j < n → q_Two c h → y_W (tk_L_law_18 L xs n (nI c) h) (fn_L_law_18 L xs n (nI c) h) (fun r => r = 1)
  | 0, c, h, n + 1, hc, hn, hT => by
    obtain ⟨a, i1, i2, i3⟩ := hT
    obtain ⟨w1, w2, w3, w4⟩ := D_cyc i1 i2
    have c90 : c = 90 := by omega
    subst c90
    unfold tk_L_law_18 fn_L_law_18
    dsimp only
    refine y_pos (nI_le (Nat.le_refl _) (by decide)) ⟨w1, ?_⟩
    rw [w2]
    rfl
  | j + 1, c, h, n + 1, hc, hn, hT => by
    have hlt : c < 90 := by omega
    have hk : ∀ h', q_Two (c + 1) h' → y_W (tk_L_law_18 L xs n (nI c + nI 1) h') (fn_L_law_18 L xs n (nI c + nI 1) h') (fun r => r = 1) := by
      intro h' hT'
      rw [nI_add]
      exact p_law j (c + 1) h' n (by omega) (by omega) hT'
    obtain ⟨a, i1, i2, i3⟩ := hT
    have hO : tk_X7_isInOrder h ∧ z_vi0 (fn_X7_isInOrder h) = if p_ordd a.1 a.2.1 a.2.2.1.1 = true then nI 1 else nI 0 := by
      obtain ⟨hd, f0, hC⟩ := i2
      exact O_order i1.1 i1.2.1 (by omega) hC
    obtain ⟨o1, o2⟩ := hO
    unfold tk_L_law_18 fn_L_law_18
    dsimp only
    rw [o2]
    generalize p_cell L xs (nI c) = v
    obtain ⟨o, q1, q2, q3⟩ := C_act i1 (by omega) v
    obtain ⟨t1, r1⟩ := q3 h i2
    refine y_neg (nI_ge hlt (by decide)) (y_req (nI_pos (by omega)) (y_req o1 (y_req (q_lowT _ (by decide) (by decide) h) (y_req t1 ?_))))
    cases o with
    | none =>
      obtain ⟨e1, e2⟩ := r1
      rw [e1, e2]
      exact y_pos rfl (p_72 hlt hk v _ _ _ (q_hi_s i1) i2 i3 (fun z => absurd rfl z))
    | some w =>
      obtain ⟨u, a'⟩ := w
      obtain ⟨u1, u2⟩ := q1
      obtain ⟨e1, e2, e3⟩ := r1
      have i3' := q_R_fr i3 e3
      obtain ⟨t2, f1, f2, f3⟩ := q3 _ i3'
      have j2 := q_R_fr (h := z_sw (fn_L_act v h).2) (by rw [z_sw2]; exact e2) f3
      rw [e1]
      refine y_neg u1 (y_req t2 (y_pos f1 (p_72 hlt hk v _ _ _ u2 j2 (by rw [z_sw2]; exact f2) (fun _ n2 n3 => ?_))))
      obtain ⟨p1, p2, p3⟩ := q2 ⟨n2, n3⟩
      refine ⟨p1, fun z => ?_, fun z => ?_⟩
      · rw [if_pos (p2 z)]; exact i1_ne0
      · refine p3 (Classical.byContradiction (fun y => z ?_))
        rw [if_neg y]; rfl
/-! the start -/
theorem p_wf0 : y_wf 0 (fun _ => 0) := ⟨by decide, fun _ _ => Or.inl (Nat.zero_le 9)⟩
def q_a0 : q_A := (0, fun _ => 0, ([], 0, []), false)
theorem q_i0 : q_inv 0 q_a0 := ⟨p_wf0, ⟨by simp [q_a0], fun c hc => (by cases hc), Nat.zero_le _, fun c hc => (by cases hc), (show 0 + 2 * 0 ≤ _ by omega), fun _ => rfl⟩, fun k hk => absurd hk (Nat.not_lt_zero _)⟩
theorem q_new {g : z_H} (z1 : ∀ k, g.1 1 k = 0) (z2 : ∀ k, g.1 2 k = 0) (z8 : ∀ k, g.1 8 k = 0) (z10 : ∀ k, g.1 10 k = 0) : tk_X2_layOut g ∧ q_R q_a0 (fn_X2_layOut g).2 ∧ y_fr y_osC g (fn_X2_layOut g).2 := by
  have hB : y_BC 0 (fun _ => 0) g := ⟨z1 2, fun l _ => z2 l⟩
  obtain ⟨L1, L2, L3, L4, L5⟩ := g_layOut p_wf0 hB
  refine ⟨L1, ⟨0, 0, ?_⟩, y_fr_mono L5 (by decide)⟩
  show y_GC 0 (fun _ => 0) ([], 0, []) false 0 0 _
  refine ⟨⟨⟨L2, ⟨by decide, ?_, ?_, ?_, fun i hi => absurd hi (Nat.not_lt_zero i), fun hne => absurd rfl hne⟩, ⟨by decide, ?_, ?_, fun i hi => absurd hi (Nat.not_lt_zero i)⟩⟩, L4, L3⟩, ?_⟩
  · rw [y_fr_at L5 10]; exact z10 4
  · rw [y_fr_at L5 10]; exact z10 5
  · rw [y_fr_at L5 10]; exact z10 6
  · rw [y_fr_at L5 8]; exact z8 1
  · rw [y_fr_at L5 8]; exact z8 2
  · rw [y_fr_at L5 10]; exact z10 8
theorem y_fr_clr {os : List Nat} {h h' : z_H} {M : Nat} (f : y_fr os h h') (hM : M ∈ os) : y_fr os h (z_clr h' M) := fun a ha => by
  have hne : a ≠ M := fun e => ha (by rw [e]; exact hM)
  exact ⟨(z_clr_ne1 hne).trans (f a ha).1, (z_clr_ne2 hne).trans (f a ha).2⟩
theorem q_newA : tk_X2_layOut z_hA ∧ q_R q_a0 z_h1 := by
  obtain ⟨t, r, -⟩ := q_new (g := z_hA) (fun _ => rfl) (fun _ => rfl) (fun _ => rfl) (fun _ => rfl)
  exact ⟨t, r⟩
set_option maxRecDepth 100000 in
theorem q_hB_fr : y_fr [20, 21, 22, 23, 24, 25, 26, 27, 28, 29, 30, 31, 32, 33, 34, 35, 36, 37, 38, 39] z_h1 z_hB := y_fr_clr (y_fr_clr (y_fr_clr (y_fr_clr (y_fr_clr (y_fr_clr (y_fr_clr (y_fr_clr (y_fr_clr (y_fr_clr (y_fr_clr (y_fr_clr (y_fr_clr (y_fr_clr (y_fr_clr (y_fr_clr (y_fr_clr (y_fr_clr (y_fr_clr (y_fr_clr (y_fr_refl) (by decide)) (by decide)) (by decide)) (by decide)) (by decide)) (by decide)) (by decide)) (by decide)) (by decide)) (by decide)) (by decide)) (by decide)) (by decide)) (by decide)) (by decide)) (by decide)) (by decide)) (by decide)) (by decide)) (by decide)
theorem q_newB : tk_X2_layOut (z_sw z_hB) ∧ q_R q_a0 z_hL ∧ q_R q_a0 (z_sw z_hL) := by
  have hz : ∀ a k, (a = 1 ∨ a = 2 ∨ a = 8 ∨ a = 10) → (z_sw z_hB).1 a k = 0 := by
    generalize z_h1 = h1
    rintro a k (rfl | rfl | rfl | rfl) <;> rfl
  obtain ⟨t, r, f⟩ := q_new (g := z_sw z_hB) (fun k => hz 1 k (by simp)) (fun k => hz 2 k (by simp)) (fun k => hz 8 k (by simp)) (fun k => hz 10 k (by simp))
  have rB : q_R q_a0 z_hB := by
    obtain ⟨hd, f0, hC⟩ := q_newA.2
    exact ⟨hd, f0, y_GC_fr hC q_hB_fr (by decide)⟩
  refine ⟨t, ?_, ?_⟩
  · exact q_R_fr (h := z_sw z_hB) (by rw [z_sw2]; exact rB) f
  · show q_R q_a0 (z_sw (z_sw _))
    rw [z_sw2]
    exact r
/-- what is asked of the functions alone -/
theorem pu_all (L : Nat) (xs : Nat → Int32) : tk_X2_layOut z_hA ∧ tk_X2_layOut (z_sw z_hB) ∧ tk_L_law_18 L xs 100 (nI 0) z_hL ∧ fn_L_law_18 L xs 100 (nI 0) z_hL = 1 := by
  obtain ⟨t, r1, r2⟩ := q_newB
  obtain ⟨T, E⟩ := p_law (L := L) (xs := xs) 90 0 z_hL 100 rfl (by decide) ⟨q_a0, q_i0, r1, r2⟩
  exact ⟨q_newA.1, t, T, E⟩
