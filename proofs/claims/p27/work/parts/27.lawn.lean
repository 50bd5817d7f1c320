/-! ===== printed by wip/p27/gen: the law, as functions ===== -/
def fn_X7_checkCell_n_10 (h : z_H)   : (Option Value) := none
def tk_X7_checkCell_n_10 (h : z_H)   : Prop := False
def fn_X7_checkCell_n (x : Int32) (h : z_H) : (Option Value) := if x < 0 then fn_X7_checkCell_n_10 h  else if x < (nI 36) then none else fn_X7_checkCell_n_10 h 
def tk_X7_checkCell_n (x : Int32) (h : z_H) : Prop := ((x < 0) → (tk_X7_checkCell_n_10 h )) ∧ ((¬ x < 0) → (((x < (nI 36)) → (True)) ∧ ((¬ x < (nI 36)) → (tk_X7_checkCell_n_10 h ))))
set_option maxHeartbeats 4000000 in
set_option maxRecDepth 100000 in
theorem sp_X7_checkCell_n (l : Launch) (sh : z_Sh)  (h : z_H) (x : Int32)  (T : tk_X7_checkCell_n x h) : z_Sp l 0 yX7_checkCell cX7_checkCell 1 none [.int x] (sh) h (z_QV h (fn_X7_checkCell_n x h)) := by
  refine z_enter ft_X7 (by decide +kernel) fo_X7 (Nat.le_of_ble_eq_true rfl) ?_
  intro p e R s m args below meth c D dA ad hB
  have hC := hB.1
  have hN := hB.2.1
  have hR := hB.2.2.1
  unfold tk_X7_checkCell_n at T; have E : (if x < 0 then fn_X7_checkCell_n_10 h  else if x < (nI 36) then none else fn_X7_checkCell_n_10 h ) = fn_X7_checkCell_n x h := rfl
  generalize fn_X7_checkCell_n x h = RR at E ⊢
  have P10 : tk_X7_checkCell_n_10 h   → fn_X7_checkCell_n_10 h   = RR → z_G p l e R s m args below meth c D dA ad 1 (z_QV h RR) (sh) 10 [none] [] h := by
    intro   T E
    unfold tk_X7_checkCell_n_10 at T; unfold fn_X7_checkCell_n_10 at E
    exact False.elim T
  refine z_go hC (pc' := 1) (ls' := [some (.int x)]) (st' := [.int x]) (h' := h) (cs := []) [.iload_n 0] (by decide +kernel) rfl rfl trivial ?_
  refine z_if_lt hC (off := 9) 10 (by decide +kernel) (by decide) (fun c1 => ?_) (fun c1 => ?_)
  · skip
    have E := (if_pos c1).symm.trans E
    have T := T.1 c1
    refine z_less (ls' := [none]) (by simp [z_sub]) ?_
    exact P10   T E
  · skip
    have E := (if_neg c1).symm.trans E
    have T := T.2 c1
    refine z_go hC (pc' := 7) (ls' := [some (.int x)]) (st' := [.int (nI 36), .int x]) (h' := h) (cs := []) [.iload_n 0, .bipush 36] (by decide +kernel) rfl rfl trivial ?_
    refine z_icmp_lt hC (off := 13) 20 (by decide +kernel) (by decide) (fun c2 => ?_) (fun c2 => ?_)
    · skip
      have E := (if_pos c2).symm.trans E
      have T := T.1 c2
      exact z_ret_v hB rfl (by decide +kernel) ⟨rfl, rfl⟩
    · skip
      have E := (if_neg c2).symm.trans E
      have T := T.2 c2
      refine z_less (ls' := [none]) (by simp [z_sub]) ?_
      exact P10   T E

def fn_X7_checkLink_n_10 (h : z_H)   : (Option Value) := none
def tk_X7_checkLink_n_10 (h : z_H)   : Prop := False
def fn_X7_checkLink_n (x : Int32) (h : z_H) : (Option Value) := if x < 0 then fn_X7_checkLink_n_10 h  else if x < (nI 12) then none else fn_X7_checkLink_n_10 h 
def tk_X7_checkLink_n (x : Int32) (h : z_H) : Prop := ((x < 0) → (tk_X7_checkLink_n_10 h )) ∧ ((¬ x < 0) → (((x < (nI 12)) → (True)) ∧ ((¬ x < (nI 12)) → (tk_X7_checkLink_n_10 h ))))
set_option maxHeartbeats 4000000 in
set_option maxRecDepth 100000 in
theorem sp_X7_checkLink_n (l : Launch) (sh : z_Sh)  (h : z_H) (x : Int32)  (T : tk_X7_checkLink_n x h) : z_Sp l 0 yX7_checkLink cX7_checkLink 1 none [.int x] (sh) h (z_QV h (fn_X7_checkLink_n x h)) := by
  refine z_enter ft_X7 (by decide +kernel) fo_X7 (Nat.le_of_ble_eq_true rfl) ?_
  intro p e R s m args below meth c D dA ad hB
  have hC := hB.1
  have hN := hB.2.1
  have hR := hB.2.2.1
  unfold tk_X7_checkLink_n at T; have E : (if x < 0 then fn_X7_checkLink_n_10 h  else if x < (nI 12) then none else fn_X7_checkLink_n_10 h ) = fn_X7_checkLink_n x h := rfl
  generalize fn_X7_checkLink_n x h = RR at E ⊢
  have P10 : tk_X7_checkLink_n_10 h   → fn_X7_checkLink_n_10 h   = RR → z_G p l e R s m args below meth c D dA ad 1 (z_QV h RR) (sh) 10 [none] [] h := by
    intro   T E
    unfold tk_X7_checkLink_n_10 at T; unfold fn_X7_checkLink_n_10 at E
    exact False.elim T
  refine z_go hC (pc' := 1) (ls' := [some (.int x)]) (st' := [.int x]) (h' := h) (cs := []) [.iload_n 0] (by decide +kernel) rfl rfl trivial ?_
  refine z_if_lt hC (off := 9) 10 (by decide +kernel) (by decide) (fun c1 => ?_) (fun c1 => ?_)
  · skip
    have E := (if_pos c1).symm.trans E
    have T := T.1 c1
    refine z_less (ls' := [none]) (by simp [z_sub]) ?_
    exact P10   T E
  · skip
    have E := (if_neg c1).symm.trans E
    have T := T.2 c1
    refine z_go hC (pc' := 7) (ls' := [some (.int x)]) (st' := [.int (nI 12), .int x]) (h' := h) (cs := []) [.iload_n 0, .bipush 12] (by decide +kernel) rfl rfl trivial ?_
    refine z_icmp_lt hC (off := 13) 20 (by decide +kernel) (by decide) (fun c2 => ?_) (fun c2 => ?_)
    · skip
      have E := (if_pos c2).symm.trans E
      have T := T.1 c2
      exact z_ret_v hB rfl (by decide +kernel) ⟨rfl, rfl⟩
    · skip
      have E := (if_neg c2).symm.trans E
      have T := T.2 c2
      refine z_less (ls' := [none]) (by simp [z_sub]) ?_
      exact P10   T E

def fn_X7_checkDirection_n_9 (h : z_H)   : (Option Value) := none
def tk_X7_checkDirection_n_9 (h : z_H)   : Prop := False
def fn_X7_checkDirection_n (x : Int32) (h : z_H) : (Option Value) := if x < 0 then fn_X7_checkDirection_n_9 h  else if x < (nI 4) then none else fn_X7_checkDirection_n_9 h 
def tk_X7_checkDirection_n (x : Int32) (h : z_H) : Prop := ((x < 0) → (tk_X7_checkDirection_n_9 h )) ∧ ((¬ x < 0) → (((x < (nI 4)) → (True)) ∧ ((¬ x < (nI 4)) → (tk_X7_checkDirection_n_9 h ))))
set_option maxHeartbeats 4000000 in
set_option maxRecDepth 100000 in
theorem sp_X7_checkDirection_n (l : Launch) (sh : z_Sh)  (h : z_H) (x : Int32)  (T : tk_X7_checkDirection_n x h) : z_Sp l 0 yX7_checkDirection cX7_checkDirection 1 none [.int x] (sh) h (z_QV h (fn_X7_checkDirection_n x h)) := by
  refine z_enter ft_X7 (by decide +kernel) fo_X7 (Nat.le_of_ble_eq_true rfl) ?_
  intro p e R s m args below meth c D dA ad hB
  have hC := hB.1
  have hN := hB.2.1
  have hR := hB.2.2.1
  unfold tk_X7_checkDirection_n at T; have E : (if x < 0 then fn_X7_checkDirection_n_9 h  else if x < (nI 4) then none else fn_X7_checkDirection_n_9 h ) = fn_X7_checkDirection_n x h := rfl
  generalize fn_X7_checkDirection_n x h = RR at E ⊢
  have P9 : tk_X7_checkDirection_n_9 h   → fn_X7_checkDirection_n_9 h   = RR → z_G p l e R s m args below meth c D dA ad 1 (z_QV h RR) (sh) 9 [none] [] h := by
    intro   T E
    unfold tk_X7_checkDirection_n_9 at T; unfold fn_X7_checkDirection_n_9 at E
    exact False.elim T
  refine z_go hC (pc' := 1) (ls' := [some (.int x)]) (st' := [.int x]) (h' := h) (cs := []) [.iload_n 0] (by decide +kernel) rfl rfl trivial ?_
  refine z_if_lt hC (off := 8) 9 (by decide +kernel) (by decide) (fun c1 => ?_) (fun c1 => ?_)
  · skip
    have E := (if_pos c1).symm.trans E
    have T := T.1 c1
    refine z_less (ls' := [none]) (by simp [z_sub]) ?_
    exact P9   T E
  · skip
    have E := (if_neg c1).symm.trans E
    have T := T.2 c1
    refine z_go hC (pc' := 6) (ls' := [some (.int x)]) (st' := [.int (nI 4), .int x]) (h' := h) (cs := []) [.iload_n 0, .iconst 4] (by decide +kernel) rfl rfl trivial ?_
    refine z_icmp_lt hC (off := 13) 19 (by decide +kernel) (by decide) (fun c2 => ?_) (fun c2 => ?_)
    · skip
      have E := (if_pos c2).symm.trans E
      have T := T.1 c2
      exact z_ret_v hB rfl (by decide +kernel) ⟨rfl, rfl⟩
    · skip
      have E := (if_neg c2).symm.trans E
      have T := T.2 c2
      refine z_less (ls' := [none]) (by simp [z_sub]) ?_
      exact P9   T E

def fn_X7_checkCycle_n  (h : z_H) : (Option Value) := if (fv_X2_isThere h ) = 0 then none else none
def tk_X7_checkCycle_n  (h : z_H) : Prop := (((fv_X2_isThere h ) = 0) → (False)) ∧ ((¬ (fv_X2_isThere h ) = 0) → (True))
set_option maxHeartbeats 4000000 in
set_option maxRecDepth 100000 in
theorem sp_X7_checkCycle_n (l : Launch) (ext : z_Sh)  (h : z_H)   (T : tk_X7_checkCycle_n  h) : z_Sp l 1 yX7_checkCycle cX7_checkCycle 1 none [.ref 0] (z_c ext) h (z_QV h (fn_X7_checkCycle_n  h)) := by
  refine z_enter ft_X7 (by decide +kernel) fo_X7 (Nat.le_of_ble_eq_true rfl) ?_
  intro p e R s m args below meth c D dA ad hB
  have hC := hB.1
  have hN := hB.2.1
  have hR := hB.2.2.1
  unfold tk_X7_checkCycle_n at T; have E : (if (fv_X2_isThere h ) = 0 then none else none) = fn_X7_checkCycle_n  h := rfl
  generalize fn_X7_checkCycle_n  h = RR at E ⊢
  refine z_go hC (pc' := 4) (ls' := [some (.ref 0)]) (st' := [.ref 4]) (h' := h) (cs := []) [.aload_n 0, .getfield 21] (by decide +kernel) rfl rfl trivial ?_
  refine z_callV hC hN hR (as := []) (rest := []) ok_X7_117 (by decide +kernel) (sp_X2_isThere l _ h ) rfl rfl (Nat.le_of_ble_eq_true rfl) rfl rfl (Nat.le_of_ble_eq_true rfl) ⟨Nat.zero_le _, Nat.zero_le _⟩ (fun r1 h2 q3 => z_fun q3 ?_)
  refine z_if_ne hC (off := 13) 20 (by decide +kernel) (by decide) (fun c4 => ?_) (fun c4 => ?_)
  · skip
    have E := (if_neg c4).symm.trans E
    have T := T.2 c4
    exact z_ret_v hB rfl (by decide +kernel) ⟨rfl, rfl⟩
  · skip
    have E := (if_pos c4).symm.trans E
    have T := T.1 c4
    exact False.elim T

def fn_X7_checkPlaceOfCycle_n_15 (h : z_H)   : (Option Value) := none
def tk_X7_checkPlaceOfCycle_n_15 (h : z_H)   : Prop := False
def fn_X7_checkPlaceOfCycle_n (x : Int32) (h : z_H) : (Option Value) := if x < 0 then fn_X7_checkPlaceOfCycle_n_15 h  else if x < (h.1 4 4) then none else fn_X7_checkPlaceOfCycle_n_15 h 
def tk_X7_checkPlaceOfCycle_n (x : Int32) (h : z_H) : Prop := ((x < 0) → (tk_X7_checkPlaceOfCycle_n_15 h )) ∧ ((¬ x < 0) → (((x < (h.1 4 4)) → (True)) ∧ ((¬ x < (h.1 4 4)) → (tk_X7_checkPlaceOfCycle_n_15 h ))))
set_option maxHeartbeats 4000000 in
set_option maxRecDepth 100000 in
theorem sp_X7_checkPlaceOfCycle_n (l : Launch) (ext : z_Sh)  (h : z_H) (x : Int32)  (T : tk_X7_checkPlaceOfCycle_n x h) : z_Sp l 1 yX7_checkPlaceOfCycle cX7_checkPlaceOfCycle 2 none [.ref 0, .int x] (z_c ext) h (z_QV h (fn_X7_checkPlaceOfCycle_n x h)) := by
  refine z_enter ft_X7 (by decide +kernel) fo_X7 (Nat.le_of_ble_eq_true rfl) ?_
  intro p e R s m args below meth c D dA ad hB
  have hC := hB.1
  have hN := hB.2.1
  have hR := hB.2.2.1
  unfold tk_X7_checkPlaceOfCycle_n at T; have E : (if x < 0 then fn_X7_checkPlaceOfCycle_n_15 h  else if x < (h.1 4 4) then none else fn_X7_checkPlaceOfCycle_n_15 h ) = fn_X7_checkPlaceOfCycle_n x h := rfl
  generalize fn_X7_checkPlaceOfCycle_n x h = RR at E ⊢
  have P15 : tk_X7_checkPlaceOfCycle_n_15 h   → fn_X7_checkPlaceOfCycle_n_15 h   = RR → z_G p l e R s m args below meth c D dA ad 2 (z_QV h RR) (z_c ext) 15 [none, none] [] h := by
    intro   T E
    unfold tk_X7_checkPlaceOfCycle_n_15 at T; unfold fn_X7_checkPlaceOfCycle_n_15 at E
    exact False.elim T
  refine z_go hC (pc' := 1) (ls' := [some (.ref 0), some (.int x)]) (st' := [.int x]) (h' := h) (cs := []) [.iload_n 1] (by decide +kernel) rfl rfl trivial ?_
  refine z_if_lt hC (off := 14) 15 (by decide +kernel) (by decide) (fun c1 => ?_) (fun c1 => ?_)
  · skip
    have E := (if_pos c1).symm.trans E
    have T := T.1 c1
    refine z_less (ls' := [none, none]) (by simp [z_sub]) ?_
    exact P15   T E
  · skip
    have E := (if_neg c1).symm.trans E
    have T := T.2 c1
    refine z_go hC (pc' := 9) (ls' := [some (.ref 0), some (.int x)]) (st' := [.ref 4, .int x]) (h' := h) (cs := []) [.iload_n 1, .aload_n 0, .getfield 21] (by decide +kernel) rfl rfl trivial ?_
    refine z_callV hC hN hR (as := []) (rest := [.int x]) ok_X7_209 (by decide +kernel) (sp_X2_size l _ h ) rfl rfl (Nat.le_of_ble_eq_true rfl) rfl rfl (Nat.le_of_ble_eq_true rfl) ⟨Nat.zero_le _, Nat.zero_le _⟩ (fun r2 h3 q4 => z_fun q4 ?_)
    refine z_icmp_lt hC (off := 13) 25 (by decide +kernel) (by decide) (fun c5 => ?_) (fun c5 => ?_)
    · skip
      have E := (if_pos c5).symm.trans E
      have T := T.1 c5
      exact z_ret_v hB rfl (by decide +kernel) ⟨rfl, rfl⟩
    · skip
      have E := (if_neg c5).symm.trans E
      have T := T.2 c5
      refine z_less (ls' := [none, none]) (by simp [z_sub]) ?_
      exact P15   T E

def fn_X7_checkLivingWorm_n  (h : z_H) : (Option Value) := if (fv_X6_isLiving h ) = 0 then none else none
def tk_X7_checkLivingWorm_n  (h : z_H) : Prop := (((fv_X6_isLiving h ) = 0) → (False)) ∧ ((¬ (fv_X6_isLiving h ) = 0) → (True))
set_option maxHeartbeats 4000000 in
set_option maxRecDepth 100000 in
theorem sp_X7_checkLivingWorm_n (l : Launch) (ext : z_Sh)  (h : z_H)   (T : tk_X7_checkLivingWorm_n  h) : z_Sp l 2 yX7_checkLivingWorm cX7_checkLivingWorm 1 none [.ref 0] (z_c ext) h (z_QV h (fn_X7_checkLivingWorm_n  h)) := by
  refine z_enter ft_X7 (by decide +kernel) fo_X7 (Nat.le_of_ble_eq_true rfl) ?_
  intro p e R s m args below meth c D dA ad hB
  have hC := hB.1
  have hN := hB.2.1
  have hR := hB.2.2.1
  unfold tk_X7_checkLivingWorm_n at T; have E : (if (fv_X6_isLiving h ) = 0 then none else none) = fn_X7_checkLivingWorm_n  h := rfl
  generalize fn_X7_checkLivingWorm_n  h = RR at E ⊢
  refine z_go hC (pc' := 4) (ls' := [some (.ref 0)]) (st' := [.ref 10]) (h' := h) (cs := []) [.aload_n 0, .getfield 37] (by decide +kernel) rfl rfl trivial ?_
  refine z_callV hC hN hR (as := []) (rest := []) ok_X7_172 (by decide +kernel) (sp_X6_isLiving l _ h ) rfl rfl (Nat.le_of_ble_eq_true rfl) rfl rfl (Nat.le_of_ble_eq_true rfl) ⟨Nat.zero_le _, Nat.zero_le _⟩ (fun r1 h2 q3 => z_fun q3 ?_)
  refine z_if_ne hC (off := 13) 20 (by decide +kernel) (by decide) (fun c4 => ?_) (fun c4 => ?_)
  · skip
    have E := (if_neg c4).symm.trans E
    have T := T.2 c4
    exact z_ret_v hB rfl (by decide +kernel) ⟨rfl, rfl⟩
  · skip
    have E := (if_pos c4).symm.trans E
    have T := T.1 c4
    exact False.elim T

def fn_X7_isWall_n (x : Int32) (h : z_H) : (Option Value) := some (.int (fv_X0_hasWallOn h (fv_X0_blockOf x)))
def tk_X7_isWall_n (x : Int32) (h : z_H) : Prop := tk_X7_checkCell_n x h
set_option maxHeartbeats 4000000 in
set_option maxRecDepth 100000 in
theorem sp_X7_isWall_n (l : Launch) (ext : z_Sh)  (h : z_H) (x : Int32)  (T : tk_X7_isWall_n x h) : z_Sp l 1 yX7_isWall cX7_isWall 2 (some .boolean) [.ref 0, .int x] (z_c ext) h (z_QB h (fn_X7_isWall_n x h)) := by
  refine z_enter ft_X7 (by decide +kernel) fo_X7 (Nat.le_of_ble_eq_true rfl) ?_
  intro p e R s m args below meth c D dA ad hB
  have hC := hB.1
  have hN := hB.2.1
  have hR := hB.2.2.1
  unfold tk_X7_isWall_n at T; have E : (some (.int (fv_X0_hasWallOn h (fv_X0_blockOf x)))) = fn_X7_isWall_n x h := rfl
  generalize fn_X7_isWall_n x h = RR at E ⊢
  refine z_go hC (pc' := 1) (ls' := [some (.ref 0), some (.int x)]) (st' := [.int x]) (h' := h) (cs := []) [.iload_n 1] (by decide +kernel) rfl rfl trivial ?_
  have t4 := T
  refine z_callS hC hN hR (as := [.int x]) (rest := []) ok_X7_108 (by decide +kernel) (sp_X7_checkCell_n l _ h x t4) (Nat.le_of_ble_eq_true rfl) rfl rfl (Nat.le_of_ble_eq_true rfl) ⟨Nat.zero_le _, Nat.zero_le _⟩ (fun r1 h2 q3 => z_fun q3 ?_)
  refine z_go hC (pc' := 9) (ls' := [some (.ref 0), some (.int x)]) (st' := [.int x, .ref 1]) (h' := h) (cs := []) [.aload_n 0, .getfield 10, .iload_n 1] (by decide +kernel) rfl rfl trivial ?_
  refine z_callS hC hN hR (as := [.int x]) (rest := [.ref 1]) ok_X7_111 (by decide +kernel) (sp_X0_blockOf l _ h x) (Nat.le_of_ble_eq_true rfl) rfl rfl (Nat.le_of_ble_eq_true rfl) ⟨Nat.zero_le _, Nat.zero_le _⟩ (fun r5 h6 q7 => z_fun q7 ?_)
  refine z_callV hC hN hR (as := [.int (fv_X0_blockOf x)]) (rest := []) ok_X7_82 (by decide +kernel) (sp_X0_hasWallOn l _ h (fv_X0_blockOf x)) rfl rfl (Nat.le_of_ble_eq_true rfl) rfl rfl (Nat.le_of_ble_eq_true rfl) ⟨Nat.zero_le _, Nat.zero_le _⟩ (fun r8 h9 q10 => z_fun q10 ?_)
  exact z_ret_z hB rfl (zb_X0_hasWallOn h (fv_X0_blockOf x)) (by decide +kernel) (z_lfb0 (zb_X0_hasWallOn h (fv_X0_blockOf x)) E)

def fn_X7_isInTree_n (x : Int32) (h : z_H) : (Option Value) := some (.int (fv_X0_treeHas h x))
def tk_X7_isInTree_n (x : Int32) (h : z_H) : Prop := tk_X7_checkLink_n x h
set_option maxHeartbeats 4000000 in
set_option maxRecDepth 100000 in
theorem sp_X7_isInTree_n (l : Launch) (ext : z_Sh)  (h : z_H) (x : Int32)  (T : tk_X7_isInTree_n x h) : z_Sp l 1 yX7_isInTree cX7_isInTree 2 (some .boolean) [.ref 0, .int x] (z_c ext) h (z_QB h (fn_X7_isInTree_n x h)) := by
  refine z_enter ft_X7 (by decide +kernel) fo_X7 (Nat.le_of_ble_eq_true rfl) ?_
  intro p e R s m args below meth c D dA ad hB
  have hC := hB.1
  have hN := hB.2.1
  have hR := hB.2.2.1
  unfold tk_X7_isInTree_n at T; have E : (some (.int (fv_X0_treeHas h x))) = fn_X7_isInTree_n x h := rfl
  generalize fn_X7_isInTree_n x h = RR at E ⊢
  refine z_go hC (pc' := 1) (ls' := [some (.ref 0), some (.int x)]) (st' := [.int x]) (h' := h) (cs := []) [.iload_n 1] (by decide +kernel) rfl rfl trivial ?_
  have t4 := T
  refine z_callS hC hN hR (as := [.int x]) (rest := []) ok_X7_89 (by decide +kernel) (sp_X7_checkLink_n l _ h x t4) (Nat.le_of_ble_eq_true rfl) rfl rfl (Nat.le_of_ble_eq_true rfl) ⟨Nat.zero_le _, Nat.zero_le _⟩ (fun r1 h2 q3 => z_fun q3 ?_)
  refine z_go hC (pc' := 9) (ls' := [some (.ref 0), some (.int x)]) (st' := [.int x, .ref 1]) (h' := h) (cs := []) [.aload_n 0, .getfield 10, .iload_n 1] (by decide +kernel) rfl rfl trivial ?_
  refine z_callV hC hN hR (as := [.int x]) (rest := []) ok_X7_114 (by decide +kernel) (sp_X0_treeHas l _ h x) rfl rfl (Nat.le_of_ble_eq_true rfl) rfl rfl (Nat.le_of_ble_eq_true rfl) ⟨Nat.zero_le _, Nat.zero_le _⟩ (fun r5 h6 q7 => z_fun q7 ?_)
  exact z_ret_z hB rfl (zb_X0_treeHas h x) (by decide +kernel) (z_lfb0 (zb_X0_treeHas h x) E)

def fn_X7_placeOf_n (x : Int32) (h : z_H) : (Option Value) := some (.int (z_atv h 6 36 x))
def tk_X7_placeOf_n (x : Int32) (h : z_H) : Prop := tk_X7_checkCell_n x h ∧ (tk_X7_checkCycle_n  h)
set_option maxHeartbeats 4000000 in
set_option maxRecDepth 100000 in
theorem sp_X7_placeOf_n (l : Launch) (ext : z_Sh)  (h : z_H) (x : Int32)  (T : tk_X7_placeOf_n x h) : z_Sp l 2 yX7_placeOf cX7_placeOf 2 (some .int) [.ref 0, .int x] (z_c ext) h (z_QI h (fn_X7_placeOf_n x h)) := by
  refine z_enter ft_X7 (by decide +kernel) fo_X7 (Nat.le_of_ble_eq_true rfl) ?_
  intro p e R s m args below meth c D dA ad hB
  have hC := hB.1
  have hN := hB.2.1
  have hR := hB.2.2.1
  unfold tk_X7_placeOf_n at T; have E : (some (.int (z_atv h 6 36 x))) = fn_X7_placeOf_n x h := rfl
  generalize fn_X7_placeOf_n x h = RR at E ⊢
  refine z_go hC (pc' := 1) (ls' := [some (.ref 0), some (.int x)]) (st' := [.int x]) (h' := h) (cs := []) [.iload_n 1] (by decide +kernel) rfl rfl trivial ?_
  obtain ⟨t4, T⟩ := T
  refine z_callS hC hN hR (as := [.int x]) (rest := []) ok_X7_108 (by decide +kernel) (sp_X7_checkCell_n l _ h x t4) (Nat.le_of_ble_eq_true rfl) rfl rfl (Nat.le_of_ble_eq_true rfl) ⟨Nat.zero_le _, Nat.zero_le _⟩ (fun r1 h2 q3 => z_fun q3 ?_)
  refine z_go hC (pc' := 5) (ls' := [some (.ref 0), some (.int x)]) (st' := [.ref 0]) (h' := h) (cs := []) [.aload_n 0] (by decide +kernel) rfl rfl trivial ?_
  have t8 := T
  refine z_callV hC hN hR (as := []) (rest := []) ok_X7_118 (by decide +kernel) (sp_X7_checkCycle_n l _ h  t8) rfl rfl (Nat.le_of_ble_eq_true rfl) rfl rfl (Nat.le_of_ble_eq_true rfl) ⟨Nat.zero_le _, Nat.zero_le _⟩ (fun r5 h6 q7 => z_fun q7 ?_)
  refine z_go hC (pc' := 13) (ls' := [some (.ref 0), some (.int x)]) (st' := [.int x, .ref 4]) (h' := h) (cs := []) [.aload_n 0, .getfield 21, .iload_n 1] (by decide +kernel) rfl rfl trivial ?_
  refine z_callV hC hN hR (as := [.int x]) (rest := []) ok_X7_121 (by decide +kernel) (sp_X2_placeWith l _ h x) rfl rfl (Nat.le_of_ble_eq_true rfl) rfl rfl (Nat.le_of_ble_eq_true rfl) ⟨Nat.zero_le _, Nat.zero_le _⟩ (fun r9 h10 q11 => z_fun q11 ?_)
  exact z_ret_i hB rfl (by decide +kernel) (z_lfi0 E)

def fn_X7_cellAt_n (x : Int32) (h : z_H) : (Option Value) := some (.int (z_atv h 5 36 x))
def tk_X7_cellAt_n (x : Int32) (h : z_H) : Prop := tk_X7_checkCycle_n  h ∧ (tk_X7_checkPlaceOfCycle_n x h)
set_option maxHeartbeats 4000000 in
set_option maxRecDepth 100000 in
theorem sp_X7_cellAt_n (l : Launch) (ext : z_Sh)  (h : z_H) (x : Int32)  (T : tk_X7_cellAt_n x h) : z_Sp l 2 yX7_cellAt cX7_cellAt 2 (some .int) [.ref 0, .int x] (z_c ext) h (z_QI h (fn_X7_cellAt_n x h)) := by
  refine z_enter ft_X7 (by decide +kernel) fo_X7 (Nat.le_of_ble_eq_true rfl) ?_
  intro p e R s m args below meth c D dA ad hB
  have hC := hB.1
  have hN := hB.2.1
  have hR := hB.2.2.1
  unfold tk_X7_cellAt_n at T; have E : (some (.int (z_atv h 5 36 x))) = fn_X7_cellAt_n x h := rfl
  generalize fn_X7_cellAt_n x h = RR at E ⊢
  refine z_go hC (pc' := 1) (ls' := [some (.ref 0), some (.int x)]) (st' := [.ref 0]) (h' := h) (cs := []) [.aload_n 0] (by decide +kernel) rfl rfl trivial ?_
  obtain ⟨t4, T⟩ := T
  refine z_callV hC hN hR (as := []) (rest := []) ok_X7_118 (by decide +kernel) (sp_X7_checkCycle_n l _ h  t4) rfl rfl (Nat.le_of_ble_eq_true rfl) rfl rfl (Nat.le_of_ble_eq_true rfl) ⟨Nat.zero_le _, Nat.zero_le _⟩ (fun r1 h2 q3 => z_fun q3 ?_)
  refine z_go hC (pc' := 6) (ls' := [some (.ref 0), some (.int x)]) (st' := [.int x, .ref 0]) (h' := h) (cs := []) [.aload_n 0, .iload_n 1] (by decide +kernel) rfl rfl trivial ?_
  have t8 := T
  refine z_callV hC hN hR (as := [.int x]) (rest := []) ok_X7_124 (by decide +kernel) (sp_X7_checkPlaceOfCycle_n l _ h x t8) rfl rfl (Nat.le_of_ble_eq_true rfl) rfl rfl (Nat.le_of_ble_eq_true rfl) ⟨Nat.zero_le _, Nat.zero_le _⟩ (fun r5 h6 q7 => z_fun q7 ?_)
  refine z_go hC (pc' := 14) (ls' := [some (.ref 0), some (.int x)]) (st' := [.int x, .ref 4]) (h' := h) (cs := []) [.aload_n 0, .getfield 21, .iload_n 1] (by decide +kernel) rfl rfl trivial ?_
  refine z_callV hC hN hR (as := [.int x]) (rest := []) ok_X7_127 (by decide +kernel) (sp_X2_cellWith l _ h x) rfl rfl (Nat.le_of_ble_eq_true rfl) rfl rfl (Nat.le_of_ble_eq_true rfl) ⟨Nat.zero_le _, Nat.zero_le _⟩ (fun r9 h10 q11 => z_fun q11 ?_)
  exact z_ret_i hB rfl (by decide +kernel) (z_lfi0 E)

def fn_X7_cellAtByRings_n (x : Int32) (h : z_H) : z_R := (some (.int (z_vi (fn_X2_cellByRings x h))), (fn_X2_cellByRings x h).2)
def tk_X7_cellAtByRings_n (x : Int32) (h : z_H) : Prop := tk_X7_checkCycle_n  h ∧ (tk_X7_checkPlaceOfCycle_n x h ∧ (tk_X2_cellByRings x h))
set_option maxHeartbeats 4000000 in
set_option maxRecDepth 100000 in
theorem sp_X7_cellAtByRings_n (l : Launch) (ext : z_Sh)  (h : z_H) (x : Int32)  (T : tk_X7_cellAtByRings_n x h) : z_Sp l 4 yX7_cellAtByRings cX7_cellAtByRings 2 (some .int) [.ref 0, .int x] (z_c ext) h (z_PI (fn_X7_cellAtByRings_n x h)) := by
  refine z_enter ft_X7 (by decide +kernel) fo_X7 (Nat.le_of_ble_eq_true rfl) ?_
  intro p e R s m args below meth c D dA ad hB
  have hC := hB.1
  have hN := hB.2.1
  have hR := hB.2.2.1
  unfold tk_X7_cellAtByRings_n at T; have E : ((some (.int (z_vi (fn_X2_cellByRings x h))), (fn_X2_cellByRings x h).2)) = fn_X7_cellAtByRings_n x h := rfl
  generalize fn_X7_cellAtByRings_n x h = RR at E ⊢
  refine z_go hC (pc' := 1) (ls' := [some (.ref 0), some (.int x)]) (st' := [.ref 0]) (h' := h) (cs := []) [.aload_n 0] (by decide +kernel) rfl rfl trivial ?_
  obtain ⟨t4, T⟩ := T
  refine z_callV hC hN hR (as := []) (rest := []) ok_X7_118 (by decide +kernel) (sp_X7_checkCycle_n l _ h  t4) rfl rfl (Nat.le_of_ble_eq_true rfl) rfl rfl (Nat.le_of_ble_eq_true rfl) ⟨Nat.zero_le _, Nat.zero_le _⟩ (fun r1 h2 q3 => z_fun q3 ?_)
  refine z_go hC (pc' := 6) (ls' := [some (.ref 0), some (.int x)]) (st' := [.int x, .ref 0]) (h' := h) (cs := []) [.aload_n 0, .iload_n 1] (by decide +kernel) rfl rfl trivial ?_
  obtain ⟨t8, T⟩ := T
  refine z_callV hC hN hR (as := [.int x]) (rest := []) ok_X7_124 (by decide +kernel) (sp_X7_checkPlaceOfCycle_n l _ h x t8) rfl rfl (Nat.le_of_ble_eq_true rfl) rfl rfl (Nat.le_of_ble_eq_true rfl) ⟨Nat.zero_le _, Nat.zero_le _⟩ (fun r5 h6 q7 => z_fun q7 ?_)
  refine z_go hC (pc' := 14) (ls' := [some (.ref 0), some (.int x)]) (st' := [.int x, .ref 4]) (h' := h) (cs := []) [.aload_n 0, .getfield 21, .iload_n 1] (by decide +kernel) rfl rfl trivial ?_
  have t12 := T
  refine z_callV hC hN hR (as := [.int x]) (rest := []) ok_X7_130 (by decide +kernel) (sp_X2_cellByRings l _ h x t12) rfl rfl (Nat.le_of_ble_eq_true rfl) rfl rfl (Nat.le_of_ble_eq_true rfl) ⟨Nat.zero_le _, Nat.zero_le _⟩ (fun r9 h10 q11 => z_fun q11 ?_)
  exact z_ret_i hB rfl (by decide +kernel) (z_lfi E)

def fn_X7_bodyAt_n_15 (h : z_H)   : (Option Value) := none
def tk_X7_bodyAt_n_15 (h : z_H)   : Prop := False
def fn_X7_bodyAt_n (x : Int32) (h : z_H) : (Option Value) := if x < 0 then fn_X7_bodyAt_n_15 h  else if x < (h.1 10 5) then some (.int (h.1 11 ((((h.1 10 4) + x) &&& (nI 63)).toNatClampNeg))) else fn_X7_bodyAt_n_15 h 
def tk_X7_bodyAt_n (x : Int32) (h : z_H) : Prop := ((x < 0) → (tk_X7_bodyAt_n_15 h )) ∧ ((¬ x < 0) → (((x < (h.1 10 5)) → (True)) ∧ ((¬ x < (h.1 10 5)) → (tk_X7_bodyAt_n_15 h ))))
set_option maxHeartbeats 4000000 in
set_option maxRecDepth 100000 in
theorem sp_X7_bodyAt_n (l : Launch) (ext : z_Sh)  (h : z_H) (x : Int32)  (T : tk_X7_bodyAt_n x h) : z_Sp l 2 yX7_bodyAt cX7_bodyAt 2 (some .int) [.ref 0, .int x] (z_c ext) h (z_QI h (fn_X7_bodyAt_n x h)) := by
  refine z_enter ft_X7 (by decide +kernel) fo_X7 (Nat.le_of_ble_eq_true rfl) ?_
  intro p e R s m args below meth c D dA ad hB
  have hC := hB.1
  have hN := hB.2.1
  have hR := hB.2.2.1
  unfold tk_X7_bodyAt_n at T; have E : (if x < 0 then fn_X7_bodyAt_n_15 h  else if x < (h.1 10 5) then some (.int (h.1 11 ((((h.1 10 4) + x) &&& (nI 63)).toNatClampNeg))) else fn_X7_bodyAt_n_15 h ) = fn_X7_bodyAt_n x h := rfl
  generalize fn_X7_bodyAt_n x h = RR at E ⊢
  have P15 : tk_X7_bodyAt_n_15 h   → fn_X7_bodyAt_n_15 h   = RR → z_G p l e R s m args below meth c D dA ad 2 (z_QI h RR) (z_c ext) 15 [none, none] [] h := by
    intro   T E
    unfold tk_X7_bodyAt_n_15 at T; unfold fn_X7_bodyAt_n_15 at E
    exact False.elim T
  refine z_go hC (pc' := 1) (ls' := [some (.ref 0), some (.int x)]) (st' := [.int x]) (h' := h) (cs := []) [.iload_n 1] (by decide +kernel) rfl rfl trivial ?_
  refine z_if_lt hC (off := 14) 15 (by decide +kernel) (by decide) (fun c1 => ?_) (fun c1 => ?_)
  · skip
    have E := (if_pos c1).symm.trans E
    have T := T.1 c1
    refine z_less (ls' := [none, none]) (by simp [z_sub]) ?_
    exact P15   T E
  · skip
    have E := (if_neg c1).symm.trans E
    have T := T.2 c1
    refine z_go hC (pc' := 9) (ls' := [some (.ref 0), some (.int x)]) (st' := [.ref 10, .int x]) (h' := h) (cs := []) [.iload_n 1, .aload_n 0, .getfield 37] (by decide +kernel) rfl rfl trivial ?_
    refine z_callV hC hN hR (as := []) (rest := [.int x]) ok_X7_142 (by decide +kernel) (sp_X6_size l _ h ) rfl rfl (Nat.le_of_ble_eq_true rfl) rfl rfl (Nat.le_of_ble_eq_true rfl) ⟨Nat.zero_le _, Nat.zero_le _⟩ (fun r2 h3 q4 => z_fun q4 ?_)
    refine z_icmp_lt hC (off := 13) 25 (by decide +kernel) (by decide) (fun c5 => ?_) (fun c5 => ?_)
    · skip
      have E := (if_pos c5).symm.trans E
      have T := T.1 c5
      refine z_go hC (pc' := 30) (ls' := [some (.ref 0), some (.int x)]) (st' := [.int x, .ref 10]) (h' := h) (cs := []) [.aload_n 0, .getfield 37, .iload_n 1] (by decide +kernel) rfl rfl trivial ?_
      refine z_callV hC hN hR (as := [.int x]) (rest := []) ok_X7_180 (by decide +kernel) (sp_X6_cellOf l _ h x) rfl rfl (Nat.le_of_ble_eq_true rfl) rfl rfl (Nat.le_of_ble_eq_true rfl) ⟨Nat.zero_le _, Nat.zero_le _⟩ (fun r6 h7 q8 => z_fun q8 ?_)
      exact z_ret_i hB rfl (by decide +kernel) (z_lfi0 E)
    · skip
      have E := (if_neg c5).symm.trans E
      have T := T.2 c5
      refine z_less (ls' := [none, none]) (by simp [z_sub]) ?_
      exact P15   T E

def fn_X7_isSafe_n (x : Int32) (h : z_H) : z_R := (some (.int (z_vi (fn_X5_seesSafe x h))), (fn_X5_seesSafe x h).2)
def tk_X7_isSafe_n (x : Int32) (h : z_H) : Prop := tk_X7_checkDirection_n x h ∧ (tk_X7_checkLivingWorm_n  h ∧ (tk_X5_seesSafe x h))
set_option maxHeartbeats 4000000 in
set_option maxRecDepth 100000 in
theorem sp_X7_isSafe_n (l : Launch) (ext : z_Sh)  (h : z_H) (x : Int32)  (T : tk_X7_isSafe_n x h) : z_Sp l 5 yX7_isSafe cX7_isSafe 2 (some .boolean) [.ref 0, .int x] (z_c ext) h (z_PB (fn_X7_isSafe_n x h)) := by
  refine z_enter ft_X7 (by decide +kernel) fo_X7 (Nat.le_of_ble_eq_true rfl) ?_
  intro p e R s m args below meth c D dA ad hB
  have hC := hB.1
  have hN := hB.2.1
  have hR := hB.2.2.1
  unfold tk_X7_isSafe_n at T; have E : ((some (.int (z_vi (fn_X5_seesSafe x h))), (fn_X5_seesSafe x h).2)) = fn_X7_isSafe_n x h := rfl
  generalize fn_X7_isSafe_n x h = RR at E ⊢
  refine z_go hC (pc' := 1) (ls' := [some (.ref 0), some (.int x)]) (st' := [.int x]) (h' := h) (cs := []) [.iload_n 1] (by decide +kernel) rfl rfl trivial ?_
  obtain ⟨t4, T⟩ := T
  refine z_callS hC hN hR (as := [.int x]) (rest := []) ok_X7_155 (by decide +kernel) (sp_X7_checkDirection_n l _ h x t4) (Nat.le_of_ble_eq_true rfl) rfl rfl (Nat.le_of_ble_eq_true rfl) ⟨Nat.zero_le _, Nat.zero_le _⟩ (fun r1 h2 q3 => z_fun q3 ?_)
  refine z_go hC (pc' := 5) (ls' := [some (.ref 0), some (.int x)]) (st' := [.ref 0]) (h' := h) (cs := []) [.aload_n 0] (by decide +kernel) rfl rfl trivial ?_
  obtain ⟨t8, T⟩ := T
  refine z_callV hC hN hR (as := []) (rest := []) ok_X7_158 (by decide +kernel) (sp_X7_checkLivingWorm_n l _ h  t8) rfl rfl (Nat.le_of_ble_eq_true rfl) rfl rfl (Nat.le_of_ble_eq_true rfl) ⟨Nat.zero_le _, Nat.zero_le _⟩ (fun r5 h6 q7 => z_fun q7 ?_)
  refine z_go hC (pc' := 13) (ls' := [some (.ref 0), some (.int x)]) (st' := [.int x, .ref 13]) (h' := h) (cs := []) [.aload_n 0, .getfield 46, .iload_n 1] (by decide +kernel) rfl rfl trivial ?_
  have t12 := T
  refine z_callV hC hN hR (as := [.int x]) (rest := []) ok_X7_186 (by decide +kernel) (sp_X5_seesSafe l _ h x t12) rfl rfl (Nat.le_of_ble_eq_true rfl) rfl rfl (Nat.le_of_ble_eq_true rfl) ⟨Nat.zero_le _, Nat.zero_le _⟩ (fun r9 h10 q11 => z_funb q11 (fun z13 => ?_))
  exact z_ret_z hB rfl z13 (by decide +kernel) (z_lfb z13 E)

def fn_X7_livesFor_n_11  (h : z_H) : z_R := (none, h)
def tk_X7_livesFor_n_11  (h : z_H) : Prop := False
def fn_X7_livesFor_n (x : Int32) (h : z_H) : z_R := if x < (nI 1) then fn_X7_livesFor_n_11 h else if x ≤ (nI 6) then (some (.int (z_vi (fn_X4_longestWalk x h))), (fn_X4_longestWalk x h).2) else fn_X7_livesFor_n_11 h
def tk_X7_livesFor_n (x : Int32) (h : z_H) : Prop := ((x < (nI 1)) → (tk_X7_livesFor_n_11 h)) ∧ ((¬ x < (nI 1)) → (((x ≤ (nI 6)) → (tk_X7_checkLivingWorm_n  h ∧ (tk_X4_longestWalk x h))) ∧ ((¬ x ≤ (nI 6)) → (tk_X7_livesFor_n_11 h))))
set_option maxHeartbeats 4000000 in
set_option maxRecDepth 100000 in
theorem sp_X7_livesFor_n (l : Launch) (ext : z_Sh)  (h : z_H) (x : Int32)  (T : tk_X7_livesFor_n x h) : z_Sp l 12 yX7_livesFor cX7_livesFor 2 (some .int) [.ref 0, .int x] (z_c ext) h (z_PI (fn_X7_livesFor_n x h)) := by
  refine z_enter ft_X7 (by decide +kernel) fo_X7 (Nat.le_of_ble_eq_true rfl) ?_
  intro p e R s m args below meth c D dA ad hB
  have hC := hB.1
  have hN := hB.2.1
  have hR := hB.2.2.1
  unfold tk_X7_livesFor_n at T; have E : (if x < (nI 1) then fn_X7_livesFor_n_11 h else if x ≤ (nI 6) then (some (.int (z_vi (fn_X4_longestWalk x h))), (fn_X4_longestWalk x h).2) else fn_X7_livesFor_n_11 h) = fn_X7_livesFor_n x h := rfl
  generalize fn_X7_livesFor_n x h = RR at E ⊢
  have P11 : ∀ (h : z_H), tk_X7_livesFor_n_11  h → fn_X7_livesFor_n_11  h = RR → z_G p l e R s m args below meth c D dA ad 2 (z_PI RR) (z_c ext) 11 [none, none] [] h := by
    intro  h T E
    unfold tk_X7_livesFor_n_11 at T; unfold fn_X7_livesFor_n_11 at E
    exact False.elim T
  refine z_go hC (pc' := 2) (ls' := [some (.ref 0), some (.int x)]) (st' := [.int (nI 1), .int x]) (h' := h) (cs := []) [.iload_n 1, .iconst 1] (by decide +kernel) rfl rfl trivial ?_
  refine z_icmp_lt hC (off := 9) 11 (by decide +kernel) (by decide) (fun c1 => ?_) (fun c1 => ?_)
  · skip
    have E := (if_pos c1).symm.trans E
    have T := T.1 c1
    refine z_less (ls' := [none, none]) (by simp [z_sub]) ?_
    exact P11  h T E
  · skip
    have E := (if_neg c1).symm.trans E
    have T := T.2 c1
    refine z_go hC (pc' := 8) (ls' := [some (.ref 0), some (.int x)]) (st' := [.int (nI 6), .int x]) (h' := h) (cs := []) [.iload_n 1, .bipush 6] (by decide +kernel) rfl rfl trivial ?_
    refine z_icmp_le hC (off := 13) 21 (by decide +kernel) (by decide) (fun c2 => ?_) (fun c2 => ?_)
    · skip
      have E := (if_pos c2).symm.trans E
      have T := T.1 c2
      refine z_go hC (pc' := 22) (ls' := [some (.ref 0), some (.int x)]) (st' := [.ref 0]) (h' := h) (cs := []) [.aload_n 0] (by decide +kernel) rfl rfl trivial ?_
      obtain ⟨t6, T⟩ := T
      refine z_callV hC hN hR (as := []) (rest := []) ok_X7_158 (by decide +kernel) (sp_X7_checkLivingWorm_n l _ h  t6) rfl rfl (Nat.le_of_ble_eq_true rfl) rfl rfl (Nat.le_of_ble_eq_true rfl) ⟨Nat.zero_le _, Nat.zero_le _⟩ (fun r3 h4 q5 => z_fun q5 ?_)
      refine z_go hC (pc' := 30) (ls' := [some (.ref 0), some (.int x)]) (st' := [.int x, .ref 14]) (h' := h) (cs := []) [.aload_n 0, .getfield 55, .iload_n 1] (by decide +kernel) rfl rfl trivial ?_
      have t10 := T
      refine z_callV hC hN hR (as := [.int x]) (rest := []) ok_X7_192 (by decide +kernel) (sp_X4_longestWalk l _ h x t10) rfl rfl (Nat.le_of_ble_eq_true rfl) rfl rfl (Nat.le_of_ble_eq_true rfl) ⟨Nat.zero_le _, Nat.zero_le _⟩ (fun r7 h8 q9 => z_fun q9 ?_)
      exact z_ret_i hB rfl (by decide +kernel) (z_lfi E)
    · skip
      have E := (if_neg c2).symm.trans E
      have T := T.2 c2
      refine z_less (ls' := [none, none]) (by simp [z_sub]) ?_
      exact P11  h T E

def fn_X7_fewest_n  (h : z_H) : z_R := (some (.int (z_vi (fn_X4_fewestByDepths  h))), (fn_X4_fewestByDepths  h).2)
def tk_X7_fewest_n  (h : z_H) : Prop := tk_X7_checkLivingWorm_n  h ∧ (tk_X4_fewestByDepths  h)
set_option maxHeartbeats 4000000 in
set_option maxRecDepth 100000 in
theorem sp_X7_fewest_n (l : Launch) (ext : z_Sh)  (h : z_H)   (T : tk_X7_fewest_n  h) : z_Sp l 12 yX7_fewest cX7_fewest 1 (some .int) [.ref 0] (z_c ext) h (z_PI (fn_X7_fewest_n  h)) := by
  refine z_enter ft_X7 (by decide +kernel) fo_X7 (Nat.le_of_ble_eq_true rfl) ?_
  intro p e R s m args below meth c D dA ad hB
  have hC := hB.1
  have hN := hB.2.1
  have hR := hB.2.2.1
  unfold tk_X7_fewest_n at T; have E : ((some (.int (z_vi (fn_X4_fewestByDepths  h))), (fn_X4_fewestByDepths  h).2)) = fn_X7_fewest_n  h := rfl
  generalize fn_X7_fewest_n  h = RR at E ⊢
  refine z_go hC (pc' := 1) (ls' := [some (.ref 0)]) (st' := [.ref 0]) (h' := h) (cs := []) [.aload_n 0] (by decide +kernel) rfl rfl trivial ?_
  obtain ⟨t4, T⟩ := T
  refine z_callV hC hN hR (as := []) (rest := []) ok_X7_158 (by decide +kernel) (sp_X7_checkLivingWorm_n l _ h  t4) rfl rfl (Nat.le_of_ble_eq_true rfl) rfl rfl (Nat.le_of_ble_eq_true rfl) ⟨Nat.zero_le _, Nat.zero_le _⟩ (fun r1 h2 q3 => z_fun q3 ?_)
  refine z_go hC (pc' := 8) (ls' := [some (.ref 0)]) (st' := [.ref 14]) (h' := h) (cs := []) [.aload_n 0, .getfield 55] (by decide +kernel) rfl rfl trivial ?_
  have t8 := T
  refine z_callV hC hN hR (as := []) (rest := []) ok_X7_195 (by decide +kernel) (sp_X4_fewestByDepths l _ h  t8) rfl rfl (Nat.le_of_ble_eq_true rfl) rfl rfl (Nat.le_of_ble_eq_true rfl) ⟨Nat.zero_le _, Nat.zero_le _⟩ (fun r5 h6 q7 => z_fun q7 ?_)
  exact z_ret_i hB rfl (by decide +kernel) (z_lfi E)

def fn_X7_fewestByBodies_n  (h : z_H) : z_R := (some (.int (z_vi (fn_X4_fewestByLevels  h))), (fn_X4_fewestByLevels  h).2)
def tk_X7_fewestByBodies_n  (h : z_H) : Prop := tk_X7_checkLivingWorm_n  h ∧ (tk_X4_fewestByLevels  h)
set_option maxHeartbeats 4000000 in
set_option maxRecDepth 100000 in
theorem sp_X7_fewestByBodies_n (l : Launch) (ext : z_Sh)  (h : z_H)   (T : tk_X7_fewestByBodies_n  h) : z_Sp l 6 yX7_fewestByBodies cX7_fewestByBodies 1 (some .int) [.ref 0] (z_c ext) h (z_PI (fn_X7_fewestByBodies_n  h)) := by
  refine z_enter ft_X7 (by decide +kernel) fo_X7 (Nat.le_of_ble_eq_true rfl) ?_
  intro p e R s m args below meth c D dA ad hB
  have hC := hB.1
  have hN := hB.2.1
  have hR := hB.2.2.1
  unfold tk_X7_fewestByBodies_n at T; have E : ((some (.int (z_vi (fn_X4_fewestByLevels  h))), (fn_X4_fewestByLevels  h).2)) = fn_X7_fewestByBodies_n  h := rfl
  generalize fn_X7_fewestByBodies_n  h = RR at E ⊢
  refine z_go hC (pc' := 1) (ls' := [some (.ref 0)]) (st' := [.ref 0]) (h' := h) (cs := []) [.aload_n 0] (by decide +kernel) rfl rfl trivial ?_
  obtain ⟨t4, T⟩ := T
  refine z_callV hC hN hR (as := []) (rest := []) ok_X7_158 (by decide +kernel) (sp_X7_checkLivingWorm_n l _ h  t4) rfl rfl (Nat.le_of_ble_eq_true rfl) rfl rfl (Nat.le_of_ble_eq_true rfl) ⟨Nat.zero_le _, Nat.zero_le _⟩ (fun r1 h2 q3 => z_fun q3 ?_)
  refine z_go hC (pc' := 8) (ls' := [some (.ref 0)]) (st' := [.ref 14]) (h' := h) (cs := []) [.aload_n 0, .getfield 55] (by decide +kernel) rfl rfl trivial ?_
  have t8 := T
  refine z_callV hC hN hR (as := []) (rest := []) ok_X7_198 (by decide +kernel) (sp_X4_fewestByLevels l _ h  t8) rfl rfl (Nat.le_of_ble_eq_true rfl) rfl rfl (Nat.le_of_ble_eq_true rfl) ⟨Nat.zero_le _, Nat.zero_le _⟩ (fun r5 h6 q7 => z_fun q7 ?_)
  exact z_ret_i hB rfl (by decide +kernel) (z_lfi E)

def fn_L_low (x : Int32) (y : Int32) (h : z_H) : (Option Value) := some (.int ((x &&& (2147483647)) - (x &&& (2147483647)) / y * y))
def tk_L_low (x : Int32) (y : Int32) (h : z_H) : Prop := ¬ y = 0
set_option maxHeartbeats 4000000 in
set_option maxRecDepth 100000 in
theorem sp_L_low (l : Launch) (sh : z_Sh)  (h : z_H) (x : Int32) (y : Int32)  (T : tk_L_low x y h) : z_Sp l 0 yL_low cL_low 2 (some .int) [.int x, .int y] (sh) h (z_QI h (fn_L_low x y h)) := by
  refine z_enter ft_L (by decide +kernel) fo_L (Nat.le_of_ble_eq_true rfl) ?_
  intro p e R s m args below meth c D dA ad hB
  have hC := hB.1
  have hN := hB.2.1
  have hR := hB.2.2.1
  unfold tk_L_low at T; have E : (some (.int ((x &&& (2147483647)) - (x &&& (2147483647)) / y * y))) = fn_L_low x y h := rfl
  generalize fn_L_low x y h = RR at E ⊢
  refine z_go hC (pc' := 1) (ls' := [some (.int x), some (.int y)]) (st' := [.int x]) (h' := h) (cs := []) [.iload_n 0] (by decide +kernel) rfl rfl trivial ?_
  refine z_ldc hC (idx := 7) (v := 2147483647) (by decide +kernel) (by decide +kernel) ?_
  have t1 := T
  refine z_go hC (pc' := 6) (ls' := [some (.int x), some (.int y)]) (st' := [.int ((x &&& (2147483647)) - (x &&& (2147483647)) / y * y)]) (h' := h) (cs := [¬ y = 0]) [.iand, .iload_n 1, .irem] (by decide +kernel) rfl rfl t1 ?_
  exact z_ret_i hB rfl (by decide +kernel) (z_lfi0 E)

def fn_L_areBeside (x : Int32) (y : Int32) (h : z_H) : (Option Value) := if ((((x / (nI 6)) - (y / (nI 6))) * ((x / (nI 6)) - (y / (nI 6)))) + (((x - x / (nI 6) * (nI 6)) - (y - y / (nI 6) * (nI 6))) * ((x - x / (nI 6) * (nI 6)) - (y - y / (nI 6) * (nI 6))))) = (nI 1) then some (.int (nI 1)) else some (.int (nI 0))
def tk_L_areBeside (x : Int32) (y : Int32) (h : z_H) : Prop := True
set_option maxHeartbeats 4000000 in
set_option maxRecDepth 100000 in
theorem sp_L_areBeside (l : Launch) (sh : z_Sh)  (h : z_H) (x : Int32) (y : Int32)  (T : tk_L_areBeside x y h) : z_Sp l 0 yL_areBeside cL_areBeside 4 (some .boolean) [.int x, .int y] (sh) h (z_QB h (fn_L_areBeside x y h)) := by
  refine z_enter ft_L (by decide +kernel) fo_L (Nat.le_of_ble_eq_true rfl) ?_
  intro p e R s m args below meth c D dA ad hB
  have hC := hB.1
  have hN := hB.2.1
  have hR := hB.2.2.1
  unfold tk_L_areBeside at T; have E : (if ((((x / (nI 6)) - (y / (nI 6))) * ((x / (nI 6)) - (y / (nI 6)))) + (((x - x / (nI 6) * (nI 6)) - (y - y / (nI 6) * (nI 6))) * ((x - x / (nI 6) * (nI 6)) - (y - y / (nI 6) * (nI 6))))) = (nI 1) then some (.int (nI 1)) else some (.int (nI 0))) = fn_L_areBeside x y h := rfl
  generalize fn_L_areBeside x y h = RR at E ⊢
  refine z_go hC (pc' := 28) (ls' := [some (.int x), some (.int y), some (.int ((x / (nI 6)) - (y / (nI 6)))), some (.int ((x - x / (nI 6) * (nI 6)) - (y - y / (nI 6) * (nI 6))))]) (st' := [.int (nI 1), .int ((((x / (nI 6)) - (y / (nI 6))) * ((x / (nI 6)) - (y / (nI 6)))) + (((x - x / (nI 6) * (nI 6)) - (y - y / (nI 6) * (nI 6))) * ((x - x / (nI 6) * (nI 6)) - (y - y / (nI 6) * (nI 6)))))]) (h' := h) (cs := [¬ (nI 6) = 0, ¬ (nI 6) = 0, ¬ (nI 6) = 0, ¬ (nI 6) = 0]) [.iload_n 0, .bipush 6, .idiv, .iload_n 1, .bipush 6, .idiv, .isub, .istore_n 2, .iload_n 0, .bipush 6, .irem, .iload_n 1, .bipush 6, .irem, .isub, .istore_n 3, .iload_n 2, .iload_n 2, .imul, .iload_n 3, .iload_n 3, .imul, .iadd, .iconst 1] (by decide +kernel) rfl rfl ⟨(show ¬ (nI 6) = 0 by decide), (show ¬ (nI 6) = 0 by decide), (show ¬ (nI 6) = 0 by decide), (show ¬ (nI 6) = 0 by decide)⟩ ?_
  refine z_icmp_ne hC (off := 7) 35 (by decide +kernel) (by decide) (fun c1 => ?_) (fun c1 => ?_)
  · skip
    have E := (if_neg c1).symm.trans E
    refine z_go hC (pc' := 36) (ls' := [some (.int x), some (.int y), some (.int ((x / (nI 6)) - (y / (nI 6)))), some (.int ((x - x / (nI 6) * (nI 6)) - (y - y / (nI 6) * (nI 6))))]) (st' := [.int (nI 0)]) (h' := h) (cs := []) [.iconst 0] (by decide +kernel) rfl rfl trivial ?_
    exact z_ret_z hB rfl (show (nI 0 = 0 ∨ nI 0 = 1) by decide) (by decide +kernel) (z_lfb0 (show (nI 0 = 0 ∨ nI 0 = 1) by decide) E)
  · skip
    have E := (if_pos c1).symm.trans E
    refine z_go hC (pc' := 32) (ls' := [some (.int x), some (.int y), some (.int ((x / (nI 6)) - (y / (nI 6)))), some (.int ((x - x / (nI 6) * (nI 6)) - (y - y / (nI 6) * (nI 6))))]) (st' := [.int (nI 1)]) (h' := h) (cs := []) [.iconst 1] (by decide +kernel) rfl rfl trivial ?_
    refine z_goto hC (off := 4) 36 (by decide +kernel) (by decide) ?_
    exact z_ret_z hB rfl (show (nI 1 = 0 ∨ nI 1 = 1) by decide) (by decide +kernel) (z_lfb0 (show (nI 1 = 0 ∨ nI 1 = 1) by decide) E)

def fn_L_placeOf_n (x : Int32) (h : z_H) : z_R := (some (.int (z_vi0 (fn_X7_placeOf_n x h))), h)
def tk_L_placeOf_n (x : Int32) (h : z_H) : Prop := tk_X7_placeOf_n x h
set_option maxHeartbeats 4000000 in
set_option maxRecDepth 100000 in
theorem sp_L_placeOf_n (l : Launch) (hl0 : l.stackTraces = false) (ext : z_Sh) (h : z_H) (x : Int32) (T : tk_L_placeOf_n x h) : z_Spx l 3 yL_placeOf (.codeWith yL_placeOf cL_placeOf 3 (some .int) [(0, 5, 6, 14), (0, 5, 10, 17)]) 0 0 [.ref 0, .int x] (z_c ext) h (z_PI (fn_L_placeOf_n x h)) (fun _ => False) := by
  refine z_enterh ft_L (by decide +kernel) fo_L (Nat.le_of_ble_eq_true rfl) ?_
  intro p e R s m args below meth c D dA ad hB
  have hC := hB.1.1
  have hN := hB.1.2.1
  have hR := hB.1.2.2.1
  refine z_go hC (pc' := 2) (ls' := [some (.ref 0), some (.int x), none]) (st' := [.int x, .ref 0]) (h' := h) (cs := []) [.aload_n 0, .iload_n 1] (by decide +kernel) rfl rfl trivial ?_
  refine z_callV hC hN hR (as := [.int x]) (rest := []) ok_L_43 (by decide +kernel) (sp_X7_placeOf_n l _ h x T) rfl rfl (Nat.le_of_ble_eq_true rfl) rfl rfl (Nat.le_of_ble_eq_true rfl) ⟨Nat.zero_le _, Nat.zero_le _⟩ (fun r1 h2 q3 => z_fun q3 ?_)
  exact z_retx_i hB rfl ⟨Nat.le_of_ble_eq_true rfl, Nat.le_of_ble_eq_true rfl⟩ (by decide +kernel) ⟨rfl, rfl⟩
