/-! ===== printed by wip/p27/gen: methods with loops, as functions ===== -/
def fn_X7_hasCycle  (h : z_H) : (Option Value) := some (.int (fv_X2_isThere h ))
def tk_X7_hasCycle  (h : z_H) : Prop := True
set_option maxHeartbeats 4000000 in
set_option maxRecDepth 100000 in
theorem sp_X7_hasCycle (l : Launch) (ext : z_Sh)  (h : z_H)   (T : tk_X7_hasCycle  h) : z_Sp l 1 yX7_hasCycle cX7_hasCycle 1 (some .boolean) [.ref 0] (z_c ext) h (z_QB h (fn_X7_hasCycle  h)) := by
  refine z_enter ft_X7 (by decide +kernel) fo_X7 (Nat.le_of_ble_eq_true rfl) ?_
  intro p e R s m args below meth c D dA ad hB
  have hC := hB.1
  have hN := hB.2.1
  have hR := hB.2.2.1
  unfold tk_X7_hasCycle at T; have E : (some (.int (fv_X2_isThere h ))) = fn_X7_hasCycle  h := rfl
  generalize fn_X7_hasCycle  h = RR at E ⊢
  refine z_go hC (pc' := 4) (ls' := [some (.ref 0)]) (st' := [.ref 4]) (h' := h) (cs := []) [.aload_n 0, .getfield 21] (by decide +kernel) rfl rfl trivial ?_
  refine z_callV hC hN hR (as := []) (rest := []) ok_X7_117 (by decide +kernel) (sp_X2_isThere l _ h ) rfl rfl (Nat.le_of_ble_eq_true rfl) rfl rfl (Nat.le_of_ble_eq_true rfl) ⟨Nat.zero_le _, Nat.zero_le _⟩ (fun r1 h2 q3 => z_fun q3 ?_)
  exact z_ret_z hB rfl (zb_X2_isThere h ) (by decide +kernel) (z_lfb0 (zb_X2_isThere h ) E)

def fn_X7_isAlive  (h : z_H) : (Option Value) := some (.int (fv_X6_isLiving h ))
def tk_X7_isAlive  (h : z_H) : Prop := True
set_option maxHeartbeats 4000000 in
set_option maxRecDepth 100000 in
theorem sp_X7_isAlive (l : Launch) (ext : z_Sh)  (h : z_H)   (T : tk_X7_isAlive  h) : z_Sp l 2 yX7_isAlive cX7_isAlive 1 (some .boolean) [.ref 0] (z_c ext) h (z_QB h (fn_X7_isAlive  h)) := by
  refine z_enter ft_X7 (by decide +kernel) fo_X7 (Nat.le_of_ble_eq_true rfl) ?_
  intro p e R s m args below meth c D dA ad hB
  have hC := hB.1
  have hN := hB.2.1
  have hR := hB.2.2.1
  unfold tk_X7_isAlive at T; have E : (some (.int (fv_X6_isLiving h ))) = fn_X7_isAlive  h := rfl
  generalize fn_X7_isAlive  h = RR at E ⊢
  refine z_go hC (pc' := 4) (ls' := [some (.ref 0)]) (st' := [.ref 10]) (h' := h) (cs := []) [.aload_n 0, .getfield 37] (by decide +kernel) rfl rfl trivial ?_
  refine z_callV hC hN hR (as := []) (rest := []) ok_X7_172 (by decide +kernel) (sp_X6_isLiving l _ h ) rfl rfl (Nat.le_of_ble_eq_true rfl) rfl rfl (Nat.le_of_ble_eq_true rfl) ⟨Nat.zero_le _, Nat.zero_le _⟩ (fun r1 h2 q3 => z_fun q3 ?_)
  exact z_ret_z hB rfl (zb_X6_isLiving h ) (by decide +kernel) (z_lfb0 (zb_X6_isLiving h ) E)

def fn_X7_length  (h : z_H) : (Option Value) := some (.int (h.1 10 5))
def tk_X7_length  (h : z_H) : Prop := True
set_option maxHeartbeats 4000000 in
set_option maxRecDepth 100000 in
theorem sp_X7_length (l : Launch) (ext : z_Sh)  (h : z_H)   (T : tk_X7_length  h) : z_Sp l 1 yX7_length cX7_length 1 (some .int) [.ref 0] (z_c ext) h (z_QI h (fn_X7_length  h)) := by
  refine z_enter ft_X7 (by decide +kernel) fo_X7 (Nat.le_of_ble_eq_true rfl) ?_
  intro p e R s m args below meth c D dA ad hB
  have hC := hB.1
  have hN := hB.2.1
  have hR := hB.2.2.1
  unfold tk_X7_length at T; have E : (some (.int (h.1 10 5))) = fn_X7_length  h := rfl
  generalize fn_X7_length  h = RR at E ⊢
  refine z_go hC (pc' := 4) (ls' := [some (.ref 0)]) (st' := [.ref 10]) (h' := h) (cs := []) [.aload_n 0, .getfield 37] (by decide +kernel) rfl rfl trivial ?_
  refine z_callV hC hN hR (as := []) (rest := []) ok_X7_142 (by decide +kernel) (sp_X6_size l _ h ) rfl rfl (Nat.le_of_ble_eq_true rfl) rfl rfl (Nat.le_of_ble_eq_true rfl) ⟨Nat.zero_le _, Nat.zero_le _⟩ (fun r1 h2 q3 => z_fun q3 ?_)
  exact z_ret_i hB rfl (by decide +kernel) (z_lfi0 E)

def fn_X7_owed  (h : z_H) : (Option Value) := some (.int (h.1 10 6))
def tk_X7_owed  (h : z_H) : Prop := True
set_option maxHeartbeats 4000000 in
set_option maxRecDepth 100000 in
theorem sp_X7_owed (l : Launch) (ext : z_Sh)  (h : z_H)   (T : tk_X7_owed  h) : z_Sp l 1 yX7_owed cX7_owed 1 (some .int) [.ref 0] (z_c ext) h (z_QI h (fn_X7_owed  h)) := by
  refine z_enter ft_X7 (by decide +kernel) fo_X7 (Nat.le_of_ble_eq_true rfl) ?_
  intro p e R s m args below meth c D dA ad hB
  have hC := hB.1
  have hN := hB.2.1
  have hR := hB.2.2.1
  unfold tk_X7_owed at T; have E : (some (.int (h.1 10 6))) = fn_X7_owed  h := rfl
  generalize fn_X7_owed  h = RR at E ⊢
  refine z_go hC (pc' := 4) (ls' := [some (.ref 0)]) (st' := [.ref 10]) (h' := h) (cs := []) [.aload_n 0, .getfield 37] (by decide +kernel) rfl rfl trivial ?_
  refine z_callV hC hN hR (as := []) (rest := []) ok_X7_175 (by decide +kernel) (sp_X6_growth l _ h ) rfl rfl (Nat.le_of_ble_eq_true rfl) rfl rfl (Nat.le_of_ble_eq_true rfl) ⟨Nat.zero_le _, Nat.zero_le _⟩ (fun r1 h2 q3 => z_fun q3 ?_)
  exact z_ret_i hB rfl (by decide +kernel) (z_lfi0 E)

def fn_X7_feeds  (h : z_H) : (Option Value) := some (.int (h.1 8 2))
def tk_X7_feeds  (h : z_H) : Prop := True
set_option maxHeartbeats 4000000 in
set_option maxRecDepth 100000 in
theorem sp_X7_feeds (l : Launch) (ext : z_Sh)  (h : z_H)   (T : tk_X7_feeds  h) : z_Sp l 1 yX7_feeds cX7_feeds 1 (some .int) [.ref 0] (z_c ext) h (z_QI h (fn_X7_feeds  h)) := by
  refine z_enter ft_X7 (by decide +kernel) fo_X7 (Nat.le_of_ble_eq_true rfl) ?_
  intro p e R s m args below meth c D dA ad hB
  have hC := hB.1
  have hN := hB.2.1
  have hR := hB.2.2.1
  unfold tk_X7_feeds at T; have E : (some (.int (h.1 8 2))) = fn_X7_feeds  h := rfl
  generalize fn_X7_feeds  h = RR at E ⊢
  refine z_go hC (pc' := 4) (ls' := [some (.ref 0)]) (st' := [.ref 8]) (h' := h) (cs := []) [.aload_n 0, .getfield 28] (by decide +kernel) rfl rfl trivial ?_
  refine z_callV hC hN hR (as := []) (rest := []) ok_X7_149 (by decide +kernel) (sp_X3_size l _ h ) rfl rfl (Nat.le_of_ble_eq_true rfl) rfl rfl (Nat.le_of_ble_eq_true rfl) ⟨Nat.zero_le _, Nat.zero_le _⟩ (fun r1 h2 q3 => z_fun q3 ?_)
  exact z_ret_i hB rfl (by decide +kernel) (z_lfi0 E)

def fn_X7_isInOrder  (h : z_H) : (Option Value) := some (.int (z_vi0 (fn_X5_seesOrder  h)))
def tk_X7_isInOrder  (h : z_H) : Prop := tk_X5_seesOrder  h
set_option maxHeartbeats 4000000 in
set_option maxRecDepth 100000 in
theorem sp_X7_isInOrder (l : Launch) (ext : z_Sh)  (h : z_H)   (T : tk_X7_isInOrder  h) : z_Sp l 4 yX7_isInOrder cX7_isInOrder 1 (some .boolean) [.ref 0] (z_c ext) h (z_QB h (fn_X7_isInOrder  h)) := by
  refine z_enter ft_X7 (by decide +kernel) fo_X7 (Nat.le_of_ble_eq_true rfl) ?_
  intro p e R s m args below meth c D dA ad hB
  have hC := hB.1
  have hN := hB.2.1
  have hR := hB.2.2.1
  unfold tk_X7_isInOrder at T; have E : (some (.int (z_vi0 (fn_X5_seesOrder  h)))) = fn_X7_isInOrder  h := rfl
  generalize fn_X7_isInOrder  h = RR at E ⊢
  refine z_go hC (pc' := 4) (ls' := [some (.ref 0)]) (st' := [.ref 13]) (h' := h) (cs := []) [.aload_n 0, .getfield 46] (by decide +kernel) rfl rfl trivial ?_
  have t4 := T
  refine z_callV hC hN hR (as := []) (rest := []) ok_X7_183 (by decide +kernel) (sp_X5_seesOrder l _ h  t4) rfl rfl (Nat.le_of_ble_eq_true rfl) rfl rfl (Nat.le_of_ble_eq_true rfl) ⟨Nat.zero_le _, Nat.zero_le _⟩ (fun r1 h2 q3 => z_funb q3 (fun z5 => ?_))
  exact z_ret_z hB rfl z5 (by decide +kernel) (z_lfb0 z5 E)

def fn_X7_reach  (h : z_H) : z_R := (some (.int (z_vi (fn_X4_countReached  h))), (fn_X4_countReached  h).2)
def tk_X7_reach  (h : z_H) : Prop := tk_X4_countReached  h
set_option maxHeartbeats 4000000 in
set_option maxRecDepth 100000 in
theorem sp_X7_reach (l : Launch) (ext : z_Sh)  (h : z_H)   (T : tk_X7_reach  h) : z_Sp l 4 yX7_reach cX7_reach 1 (some .int) [.ref 0] (z_c ext) h (z_PI (fn_X7_reach  h)) := by
  refine z_enter ft_X7 (by decide +kernel) fo_X7 (Nat.le_of_ble_eq_true rfl) ?_
  intro p e R s m args below meth c D dA ad hB
  have hC := hB.1
  have hN := hB.2.1
  have hR := hB.2.2.1
  unfold tk_X7_reach at T; have E : ((some (.int (z_vi (fn_X4_countReached  h))), (fn_X4_countReached  h).2)) = fn_X7_reach  h := rfl
  generalize fn_X7_reach  h = RR at E ⊢
  refine z_go hC (pc' := 4) (ls' := [some (.ref 0)]) (st' := [.ref 14]) (h' := h) (cs := []) [.aload_n 0, .getfield 55] (by decide +kernel) rfl rfl trivial ?_
  have t4 := T
  refine z_callV hC hN hR (as := []) (rest := []) ok_X7_189 (by decide +kernel) (sp_X4_countReached l _ h  t4) rfl rfl (Nat.le_of_ble_eq_true rfl) rfl rfl (Nat.le_of_ble_eq_true rfl) ⟨Nat.zero_le _, Nat.zero_le _⟩ (fun r1 h2 q3 => z_fun q3 ?_)
  exact z_ret_i hB rfl (by decide +kernel) (z_lfi E)
