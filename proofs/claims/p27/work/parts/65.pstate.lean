/-! ===== pure: both sides together ===== -/
def y_GC (m : Nat) (wt : Nat → Nat) (s : p_St) (dd : Bool) (hd f0 : Nat) (h : z_H) : Prop := y_K m wt s hd f0 h ∧ h.1 10 8 = if dd = true then nI 1 else nI 0
def y_GM (m : Nat) (wt : Nat → Nat) (s : p_St) (dd : Bool) (h : z_H) : Prop := y_KM m wt s h ∧ h.1 20 11 = if dd = true then nI 1 else nI 0
def y_wg (m : Nat) (s : p_St) (n : Nat) : Prop := s.1.Nodup ∧ (∀ c ∈ s.1, p_op m c) ∧ s.2.2.length ≤ 40 ∧ (∀ c ∈ s.2.2, p_op m c) ∧ s.2.1 + 2 * s.2.2.length ≤ 100 + 2 * n ∧ (s.1 = [] → s.2.1 = 0)
def y_G (n : Nat) (h : z_H) : Prop := ∃ (m : Nat) (wt : Nat → Nat) (s : p_St) (dd : Bool) (hd f0 : Nat), y_wf m wt ∧ y_wg m s n ∧ y_GC m wt s dd hd f0 h ∧ y_GM m wt s dd h
theorem y_wg_s {m : Nat} {s : p_St} {n : Nat} (h : y_wg m s n) : y_wg m s (n + 1) := ⟨h.1, h.2.1, h.2.2.1, h.2.2.2.1, by have := h.2.2.2.2.1; omega, h.2.2.2.2.2⟩
theorem y_wg_ws {m : Nat} {s : p_St} {n : Nat} (h : y_wg m s n) (hn : n ≤ 600) (hs : 0 < s.1.length) : y_ws m s := ⟨List.length_pos_iff.mp hs, h.1, h.2.1, h.2.2.1, h.2.2.2.1, by have := h.2.2.2.2.1; omega⟩
def y_osC : List Nat := [1, 2, 3, 4, 5, 6, 7, 8, 9, 10, 11, 12, 15, 16, 17, 18, 19]
def y_osM : List Nat := [20, 21, 22, 23, 24, 25, 26, 27, 28, 29, 30, 31, 32, 33, 34]
theorem y_GC_fr {m : Nat} {wt : Nat → Nat} {s : p_St} {dd : Bool} {hd f0 : Nat} {os : List Nat} {h h' : z_H} (hG : y_GC m wt s dd hd f0 h) (hf : y_fr os h h') (ho : ∀ a ∈ [1, 2, 3, 4, 5, 6, 8, 9, 10, 11], a ∉ os) : y_GC m wt s dd hd f0 h' := by
  obtain ⟨⟨k1, k2, k3⟩, k4⟩ := hG
  refine ⟨⟨y_RC_fr k1 hf (fun a ha => ho a (by revert a; decide)), y_CC_fr k2 hf (ho 4 (by decide)) (ho 5 (by decide)) (ho 6 (by decide)), y_TC_fr k3 hf (ho 1 (by decide)) (ho 3 (by decide))⟩, by rw [y_fr_at hf 10 (ho 10 (by decide))]; exact k4⟩
theorem y_GM_fr {m : Nat} {wt : Nat → Nat} {s : p_St} {dd : Bool} {os : List Nat} {h h' : z_H} (hG : y_GM m wt s dd h) (hf : y_fr os h h') (ho : ∀ a ∈ [20, 21, 22, 23, 24, 25, 26, 27, 28], a ∉ os) : y_GM m wt s dd h' := ⟨y_KM_fr hG.1 hf ho, by rw [y_fr_at hf 20 (ho 20 (by decide))]; exact hG.2⟩
/-- the reference's mark of an exception stands alone -/
theorem y_GM_th {m : Nat} {wt : Nat → Nat} {s : p_St} {dd : Bool} {h : z_H} (hG : y_GM m wt s dd h) (v : Int32) : y_GM m wt s dd (z_set h 20 0 v) := by
  obtain ⟨⟨⟨k1, k2⟩, ⟨k3, k4, k5⟩, ⟨k6, k7⟩, ⟨w1, w2, w3, w4, w5⟩, k8⟩, k9⟩ := hG
  have e : ∀ a, a ≠ 20 → (z_set h 20 0 v).1 a = h.1 a := fun a ha => z_set_ne ha
  have f : ∀ b, b ≠ 0 → (z_set h 20 0 v).1 20 b = h.1 20 b := fun b hb => y_sk hb
  exact ⟨⟨⟨fun b hb => by rw [e 21 (by decide)]; exact k1 b hb, fun l hl => by rw [e 22 (by decide)]; exact k2 l hl⟩, ⟨by rw [f 7 (by decide)]; exact k3, fun p hp => by rw [e 26 (by decide)]; exact k4 p hp, fun c hc => by rw [e 25 (by decide)]; exact k5 c hc⟩, ⟨fun b hb => by rw [e 24 (by decide)]; exact k6 b hb, fun l hl => by rw [e 23 (by decide)]; exact k7 l hl⟩, ⟨by rw [f 12 (by decide)]; exact w1, by rw [f 13 (by decide)]; exact w2, fun i hi => by rw [e 28 (by decide)]; exact w3 i hi, by rw [f 8 (by decide)]; exact w4, fun i hi => by rw [e 27 (by decide)]; exact w5 i hi⟩, by rw [f 10 (by decide)]; exact k8⟩, by rw [f 11 (by decide)]; exact k9⟩
theorem y_G_th {n : Nat} {h : z_H} (hG : y_G n h) (v : Int32) : y_G (n + 1) (z_set h 20 0 v) := by
  obtain ⟨m, wt, s, dd, hd, f0, g1, g2, g3, g4⟩ := hG
  exact ⟨m, wt, s, dd, hd, f0, g1, y_wg_s g2, y_GC_fr g3 (y_fr_set (os := [20]) y_fr_refl (by decide)) (by decide), y_GM_th g4 v⟩
/-- what the law asks of one call -/
def y_ok (T1 T2 : Prop) (rL rM : z_R) (n : Nat) : Prop := T1 ∧ T2 ∧ rM.2.1 20 0 = z_vi rL ∧ (z_vi rL = 0 → rM.2.2 35 ((nI 0).toNatClampNeg) = (z_vi rM).toInt64) ∧ y_G (n + 1) rM.2
theorem y_okE {T1 T2 : Prop} {rL rM : z_R} {k n : Nat} {h : z_H} (hk : 0 < k) (hk4 : k < 4) (t1 : T1) (hL : rL = (some (.int (nI k)), h)) (hM : y_W T2 rM (fun r => r.2 = z_set h 20 0 (nI k))) (hG : y_G n h) : y_ok T1 T2 rL rM n := by
  obtain ⟨t2, e⟩ := hM
  refine ⟨t1, t2, ?_, fun z => ?_, ?_⟩
  · rw [e, hL, y_sh]; rfl
  · rw [hL] at z
    exact absurd z (nI_ne0 hk (by omega))
  · rw [e]; exact y_G_th hG _
theorem y_okO {T1 T2 : Prop} {rL rM : z_R} {n : Nat} {h h1 : z_H} {v : Int32} {m m' : Nat} {wt wt' : Nat → Nat} {s s' : p_St} {dd dd' : Bool} {hd' f0' : Nat} (t1 : T1) (hL : rL = (some (.int (nI 0)), z_setL h1 35 ((nI 0).toNatClampNeg) v.toInt64)) (hw : y_wf m' wt') (hg : y_wg m' s' (n + 1)) (hC : y_GC m' wt' s' dd' hd' f0' h1) (hM0 : y_GM m wt s dd h) (hf : y_fr y_osC h h1) (hM : ∀ h2, y_GM m wt s dd h2 → y_GC m' wt' s' dd' hd' f0' h2 → rL.2 = h2 → y_W T2 rM (fun r => r.2.1 20 0 = nI 0 ∧ z_vi r = v ∧ y_GM m' wt' s' dd' r.2 ∧ y_fr y_osM h2 r.2)) : y_ok T1 T2 rL rM n := by
  have hf2 : y_fr [35] h1 (z_setL h1 35 ((nI 0).toNatClampNeg) v.toInt64) := y_fr_setL y_fr_refl (by decide)
  have hC2 : y_GC m' wt' s' dd' hd' f0' (z_setL h1 35 ((nI 0).toNatClampNeg) v.toInt64) := y_GC_fr hC hf2 (by decide)
  have hM2 : y_GM m wt s dd (z_setL h1 35 ((nI 0).toNatClampNeg) v.toInt64) := y_GM_fr (y_GM_fr hM0 hf (by decide)) hf2 (by decide)
  obtain ⟨t2, q1, q2, q3, q4⟩ := hM _ hM2 hC2 (by rw [hL])
  refine ⟨t1, t2, ?_, fun _ => ?_, m', wt', s', dd', hd', f0', hw, hg, y_GC_fr hC2 q4 (by decide), q3⟩
  · rw [q1, hL]; rfl
  · rw [q2, y_fr_atL q4 35]
    simp [z_setL]
/-- the same, of a call that answers a truth -/
def y_okB (T1 T2 : Prop) (rL rM : z_R) (n : Nat) : Prop := y_ok T1 T2 rL rM n ∧ (z_vi rL = 0 → z_vi rM = nI 0 ∨ z_vi rM = nI 1)
theorem y_okBE {T1 T2 : Prop} {rL rM : z_R} {k n : Nat} {h : z_H} (hk : 0 < k) (hk4 : k < 4) (t1 : T1) (hL : rL = (some (.int (nI k)), h)) (hM : y_W T2 rM (fun r => r.2 = z_set h 20 0 (nI k))) (hG : y_G n h) : y_okB T1 T2 rL rM n := ⟨y_okE hk hk4 t1 hL hM hG, fun z => by
  rw [hL] at z
  exact absurd z (nI_ne0 hk (by omega))⟩
theorem y_okBO {T1 T2 : Prop} {rL rM : z_R} {n : Nat} {h h1 : z_H} {b : Bool} {m m' : Nat} {wt wt' : Nat → Nat} {s s' : p_St} {dd dd' : Bool} {hd' f0' : Nat} (t1 : T1) (hL : rL = (some (.int (nI 0)), z_setL h1 35 ((nI 0).toNatClampNeg) (if b = true then nI 1 else nI 0 : Int32).toInt64)) (hw : y_wf m' wt') (hg : y_wg m' s' (n + 1)) (hC : y_GC m' wt' s' dd' hd' f0' h1) (hM0 : y_GM m wt s dd h) (hf : y_fr y_osC h h1) (hM : ∀ h2, y_GM m wt s dd h2 → y_GC m' wt' s' dd' hd' f0' h2 → rL.2 = h2 → y_W T2 rM (fun r => r.2.1 20 0 = nI 0 ∧ z_vi r = (if b = true then nI 1 else nI 0) ∧ y_GM m' wt' s' dd' r.2 ∧ y_fr y_osM h2 r.2)) : y_okB T1 T2 rL rM n := by
  refine ⟨y_okO t1 hL hw hg hC hM0 hf hM, fun _ => ?_⟩
  have hf2 : y_fr [35] h1 (z_setL h1 35 ((nI 0).toNatClampNeg) (if b = true then nI 1 else nI 0 : Int32).toInt64) := y_fr_setL y_fr_refl (by decide)
  obtain ⟨-, -, q2, -, -⟩ := hM _ (y_GM_fr (y_GM_fr hM0 hf (by decide)) hf2 (by decide)) (y_GC_fr hC hf2 (by decide)) (by rw [hL])
  rw [q2]
  cases b with
  | true => exact Or.inr rfl
  | false => exact Or.inl rfl
/-! ranges -/
theorem i_hlt {x : Int32} {n : Nat} (hn : n < 2 ^ 31) (h : nI n ≤ x) : ¬ x < nI n ∧ ¬ x < 0 := by
  rw [Int32.le_iff_toInt_le, nI_toInt hn] at h
  rw [Int32.lt_iff_toInt_lt, Int32.lt_iff_toInt_lt, nI_toInt hn, Int32.toInt_zero]
  omega
theorem s_str : ¬ z_ES = z_EI ∧ ¬ z_EI = z_ES ∧ ¬ z_EA = z_EI ∧ ¬ z_ES = z_EA := by decide
/-! the class's checks -/
theorem c_cellE {x : Int32} {h : z_H} (hx : x < 0 ∨ nI 36 ≤ x) : fn_X7_checkCell x h = .error z_EI := by
  unfold fn_X7_checkCell fn_X7_checkCell_10
  rcases hx with hx | hx
  · rw [if_pos hx]
  · rw [if_neg (i_hlt (by decide) hx).2, if_neg (i_hlt (by decide) hx).1]
theorem c_cellO {j : Nat} {h : z_H} (hj : j < 36) : fn_X7_checkCell (nI j) h = .ok (none, h) := by
  unfold fn_X7_checkCell
  rw [if_neg (nI_pos (by omega)), if_pos (nI_lt hj (by decide))]
theorem c_linkE {x : Int32} {h : z_H} (hx : x < 0 ∨ nI 12 ≤ x) : fn_X7_checkLink x h = .error z_EI := by
  unfold fn_X7_checkLink fn_X7_checkLink_10
  rcases hx with hx | hx
  · rw [if_pos hx]
  · rw [if_neg (i_hlt (by decide) hx).2, if_neg (i_hlt (by decide) hx).1]
theorem c_linkO {j : Nat} {h : z_H} (hj : j < 12) : fn_X7_checkLink (nI j) h = .ok (none, h) := by
  unfold fn_X7_checkLink
  rw [if_neg (nI_pos (by omega)), if_pos (nI_lt hj (by decide))]
theorem c_dirE {x : Int32} {h : z_H} (hx : x < 0 ∨ nI 4 ≤ x) : fn_X7_checkDirection x h = .error z_EI := by
  unfold fn_X7_checkDirection fn_X7_checkDirection_9
  rcases hx with hx | hx
  · rw [if_pos hx]
  · rw [if_neg (i_hlt (by decide) hx).2, if_neg (i_hlt (by decide) hx).1]
theorem c_dirO {j : Nat} {h : z_H} (hj : j < 4) : fn_X7_checkDirection (nI j) h = .ok (none, h) := by
  unfold fn_X7_checkDirection
  rw [if_neg (nI_pos (by omega)), if_pos (nI_lt hj (by decide))]
theorem c_cycE {m : Nat} {wt : Nat → Nat} {h : z_H} (hC : y_CC m wt h) (hN : p_N m wt = 0) : fn_X7_checkCycle h = .error z_ES := by
  unfold fn_X7_checkCycle fv_X2_isThere
  rw [hC.1, hN]; rfl
theorem c_cycO {m : Nat} {wt : Nat → Nat} {h : z_H} (hC : y_CC m wt h) (hN : 0 < p_N m wt) : fn_X7_checkCycle h = .ok (none, h) := by
  have := p_N_le (m := m) (wt := wt)
  unfold fn_X7_checkCycle fv_X2_isThere
  rw [hC.1, if_neg (nI_nle hN (by omega)), if_neg i1_ne0]
theorem c_plcE {m : Nat} {wt : Nat → Nat} {x : Int32} {h : z_H} (hC : y_CC m wt h) (hx : x < 0 ∨ nI (p_N m wt) ≤ x) : fn_X7_checkPlaceOfCycle x h = .error z_EI := by
  have := p_N_le (m := m) (wt := wt)
  unfold fn_X7_checkPlaceOfCycle fn_X7_checkPlaceOfCycle_15
  rw [hC.1]
  rcases hx with hx | hx
  · rw [if_pos hx]
  · rw [if_neg (i_hlt (by omega) hx).2, if_neg (i_hlt (by omega) hx).1]
theorem c_plcO {m : Nat} {wt : Nat → Nat} {j : Nat} {h : z_H} (hC : y_CC m wt h) (hj : j < p_N m wt) : fn_X7_checkPlaceOfCycle (nI j) h = .ok (none, h) := by
  have := p_N_le (m := m) (wt := wt)
  unfold fn_X7_checkPlaceOfCycle
  rw [hC.1, if_neg (nI_pos (by omega)), if_pos (nI_lt hj (by omega))]
theorem c_there {m : Nat} {wt : Nat → Nat} {s : p_St} {hd f0 : Nat} {h : z_H} (hR : y_RC m wt s hd f0 h) (hl : s.1.length ≤ 36) : fv_X6_isThere h = if 0 < s.1.length then nI 1 else nI 0 := by
  unfold fv_X6_isThere
  rw [hR.2.1.2.2.1]
  by_cases e : 0 < s.1.length
  · rw [if_neg (nI_nle e (by omega)), if_pos e]
  · have e0 : s.1.length = 0 := by omega
    rw [if_neg e, e0]; rfl
theorem c_living {m : Nat} {wt : Nat → Nat} {s : p_St} {dd : Bool} {hd f0 : Nat} {h : z_H} (hG : y_GC m wt s dd hd f0 h) (hl : s.1.length ≤ 36) : fv_X6_isLiving h = if 0 < s.1.length ∧ dd = false then nI 1 else nI 0 := by
  unfold fv_X6_isLiving
  rw [c_there hG.1.1 hl, hG.2]
  by_cases e : 0 < s.1.length
  · rw [if_pos e, if_neg i1_ne0]
    cases dd with
    | true => rw [if_neg (show ¬ (if true = true then nI 1 else nI 0 : Int32) = 0 from i1_ne0), if_neg (show ¬ (0 < s.1.length ∧ true = false) from fun z => by cases z.2)]
    | false => rw [if_pos (show (if false = true then nI 1 else nI 0 : Int32) = 0 from i0_eq0), if_pos (show 0 < s.1.length ∧ false = false from ⟨e, rfl⟩)]
  · rw [if_neg e, if_pos i0_eq0, if_neg (fun z => e z.1)]
theorem c_livE {m : Nat} {wt : Nat → Nat} {s : p_St} {dd : Bool} {hd f0 : Nat} {h : z_H} (hG : y_GC m wt s dd hd f0 h) (hl : s.1.length ≤ 36) (hn : ¬ (0 < s.1.length ∧ dd = false)) : fn_X7_checkLivingWorm h = .error z_ES := by
  unfold fn_X7_checkLivingWorm
  rw [c_living hG hl, if_neg hn, if_pos i0_eq0]
theorem c_livO {m : Nat} {wt : Nat → Nat} {s : p_St} {dd : Bool} {hd f0 : Nat} {h : z_H} (hG : y_GC m wt s dd hd f0 h) (hl : s.1.length ≤ 36) (hn : 0 < s.1.length ∧ dd = false) : fn_X7_checkLivingWorm h = .ok (none, h) := by
  unfold fn_X7_checkLivingWorm
  rw [c_living hG hl, if_pos hn, if_neg i1_ne0]
theorem y_wg_len {m : Nat} {s : p_St} {n : Nat} (h : y_wg m s n) : s.1.length ≤ 36 := y_len 36 _ h.1 (fun x hx => (h.2.1 x hx).1)
/-- a truth into the law's row -/
theorem y_bool (b : Bool) (A : Option Value) (h : z_H) : (if (if b = true then nI 1 else nI 0 : Int32) = 0 then (A, z_setL h 35 ((nI 0).toNatClampNeg) 0) else (A, z_setL h 35 ((nI 0).toNatClampNeg) 1)) = (A, z_setL h 35 ((nI 0).toNatClampNeg) (if b = true then nI 1 else nI 0 : Int32).toInt64) := by
  cases b with
  | true => rw [if_neg (show ¬ (if true = true then nI 1 else nI 0 : Int32) = 0 from i1_ne0)]; rfl
  | false => rw [if_pos (show (if false = true then nI 1 else nI 0 : Int32) = 0 from i0_eq0)]; rfl
