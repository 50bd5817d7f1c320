/-! ===== printed by wip/p27/gen: leaf methods of the class, mirrored ===== -/
set_option maxHeartbeats 4000000 in
set_option maxRecDepth 100000 in
theorem sp_X3_size (l : Launch) (ext : z_Sh) (h : z_H)   : z_Sp l 0 yX3_size cX3_size 1 (some .int) [.ref 8] (z_c ext) h (fun rv h' => rv = some (.int (h.1 8 2)) ∧ h' = h) := by
  refine z_enter ft_X3 (by decide +kernel) fo_X3 (Nat.le_of_ble_eq_true rfl) ?_
  intro p e R s m args below meth c D dA ad hB
  have hC := hB.1
  have hN := hB.2.1
  have hR := hB.2.2.1
  refine z_go hC (pc' := 4) (ls' := [some (.ref 8)]) (st' := [.int (h.1 8 2)]) (h' := h) (cs := []) [.aload_n 0, .getfield 15] (by decide +kernel) rfl rfl trivial ?_
  exact z_ret_i hB rfl (by decide +kernel) ⟨rfl, rfl⟩

set_option maxHeartbeats 4000000 in
set_option maxRecDepth 100000 in
theorem sp_X3_cellAfter (l : Launch) (ext : z_Sh) (h : z_H) (x : Int32)  : z_Sp l 1 yX3_cellAfter cX3_cellAfter 2 (some .int) [.ref 8, .int x] (z_c ext) h (fun rv h' => rv = some (.int (h.1 9 ((((h.1 8 1) + x) &&& (nI 63)).toNatClampNeg))) ∧ h' = h) := by
  refine z_enter ft_X3 (by decide +kernel) fo_X3 (Nat.le_of_ble_eq_true rfl) ?_
  intro p e R s m args below meth c D dA ad hB
  have hC := hB.1
  have hN := hB.2.1
  have hR := hB.2.2.1
  refine z_go hC (pc' := 13) (ls' := [some (.ref 8), some (.int x)]) (st' := [.int (((h.1 8 1) + x) &&& (nI 63)), .ref 9]) (h' := h) (cs := []) [.aload_n 0, .getfield 11, .aload_n 0, .getfield 19, .iload_n 1, .iadd, .bipush 63, .iand] (by decide +kernel) rfl rfl trivial ?_
  refine z_callSN hC hN hR (as := [.ref 9, .int (((h.1 8 1) + x) &&& (nI 63))]) (rest := []) ok_X3_22 (by decide +kernel) (sp_X7_atI l _ h 9 64 [] (((h.1 8 1) + x) &&& (nI 63)) rfl (z_in63 _)) (Nat.le_of_ble_eq_true rfl) rfl rfl (Nat.le_of_ble_eq_true rfl) ⟨Nat.zero_le _, Nat.zero_le _⟩ (fun r1 h2 q3 => z_fun q3 ?_)
  exact z_ret_i hB rfl (by decide +kernel) ⟨rfl, rfl⟩

def fv_X3_firstCell (h : z_H)  : Int32 := if (h.1 8 2) ≤ 0 then (-1) else z_atv h 9 64 (h.1 8 1)
set_option maxHeartbeats 4000000 in
set_option maxRecDepth 100000 in
theorem sp_X3_firstCell (l : Launch) (ext : z_Sh) (h : z_H)   : z_Sp l 1 yX3_firstCell cX3_firstCell 1 (some .int) [.ref 8] (z_c ext) h (fun rv h' => rv = some (.int (fv_X3_firstCell h )) ∧ h' = h) := by
  refine z_enter ft_X3 (by decide +kernel) fo_X3 (Nat.le_of_ble_eq_true rfl) ?_
  intro p e R s m args below meth c D dA ad hB
  have hC := hB.1
  have hN := hB.2.1
  have hR := hB.2.2.1
  refine z_go hC (pc' := 4) (ls' := [some (.ref 8)]) (st' := [.int (h.1 8 2)]) (h' := h) (cs := []) [.aload_n 0, .getfield 15] (by decide +kernel) rfl rfl trivial ?_
  refine z_if_le hC (off := 17) 21 (by decide +kernel) (by decide) (fun c1 => ?_) (fun c1 => ?_)
  · skip
    refine z_go hC (pc' := 22) (ls' := [some (.ref 8)]) (st' := [.int (-1)]) (h' := h) (cs := []) [.iconst (-1)] (by decide +kernel) rfl rfl trivial ?_
    exact z_ret_i hB rfl (by decide +kernel) ⟨by rw [fv_X3_firstCell, if_pos c1], rfl⟩
  · skip
    refine z_go hC (pc' := 15) (ls' := [some (.ref 8)]) (st' := [.int (h.1 8 1), .ref 9]) (h' := h) (cs := []) [.aload_n 0, .getfield 11, .aload_n 0, .getfield 19] (by decide +kernel) rfl rfl trivial ?_
    refine z_callSN hC hN hR (as := [.ref 9, .int (h.1 8 1)]) (rest := []) ok_X3_22 (by decide +kernel) (sp_X7_at l _ h 9 64 [] (h.1 8 1) rfl (by decide)) (Nat.le_of_ble_eq_true rfl) rfl rfl (Nat.le_of_ble_eq_true rfl) ⟨Nat.zero_le _, Nat.zero_le _⟩ (fun r2 h3 q4 => z_fun q4 ?_)
    refine z_goto hC (off := 4) 22 (by decide +kernel) (by decide) ?_
    exact z_ret_i hB rfl (by decide +kernel) ⟨by rw [fv_X3_firstCell, if_neg c1], rfl⟩

set_option maxHeartbeats 4000000 in
set_option maxRecDepth 100000 in
theorem sp_X3_add (l : Launch) (ext : z_Sh) (h : z_H) (x : Int32)  : z_Sp l 1 yX3_add cX3_add 2 none [.ref 8, .int x] (z_c ext) h (fun rv h' => rv = none ∧ h' = z_set (z_set h 9 ((((h.1 8 1) + (h.1 8 2)) &&& (nI 63)).toNatClampNeg) x) 8 2 ((h.1 8 2) + (nI 1))) := by
  refine z_enter ft_X3 (by decide +kernel) fo_X3 (Nat.le_of_ble_eq_true rfl) ?_
  intro p e R s m args below meth c D dA ad hB
  have hC := hB.1
  have hN := hB.2.1
  have hR := hB.2.2.1
  refine z_go hC (pc' := 17) (ls' := [some (.ref 8), some (.int x)]) (st' := [.int x, .int (((h.1 8 1) + (h.1 8 2)) &&& (nI 63)), .ref 9]) (h' := h) (cs := []) [.aload_n 0, .getfield 11, .aload_n 0, .getfield 19, .aload_n 0, .getfield 15, .iadd, .bipush 63, .iand, .iload_n 1] (by decide +kernel) rfl rfl trivial ?_
  refine z_callSN hC hN hR (as := [.ref 9, .int (((h.1 8 1) + (h.1 8 2)) &&& (nI 63)), .int x]) (rest := []) ok_X3_35 (by decide +kernel) (sp_X7_putI l _ h 9 64 [] (((h.1 8 1) + (h.1 8 2)) &&& (nI 63)) x rfl (z_in63 _)) (Nat.le_of_ble_eq_true rfl) rfl rfl (Nat.le_of_ble_eq_true rfl) ⟨Nat.zero_le _, Nat.zero_le _⟩ (fun r1 h2 q3 => z_fun q3 ?_)
  refine z_go hC (pc' := 30) (ls' := [some (.ref 8), some (.int x)]) (st' := []) (h' := z_set (z_set h 9 ((((h.1 8 1) + (h.1 8 2)) &&& (nI 63)).toNatClampNeg) x) 8 2 ((h.1 8 2) + (nI 1))) (cs := []) [.aload_n 0, .dup, .getfield 15, .iconst 1, .iadd, .putfield 15] (by decide +kernel) rfl rfl trivial ?_
  exact z_ret_v hB rfl (by decide +kernel) ⟨rfl, rfl⟩

set_option maxHeartbeats 4000000 in
set_option maxRecDepth 100000 in
theorem sp_X3_takeFirst (l : Launch) (ext : z_Sh) (h : z_H)   : z_Sp l 0 yX3_takeFirst cX3_takeFirst 1 none [.ref 8] (z_c ext) h (fun rv h' => rv = none ∧ h' = z_set (z_set h 8 1 (((h.1 8 1) + (nI 1)) &&& (nI 63))) 8 2 ((h.1 8 2) - (nI 1))) := by
  refine z_enter ft_X3 (by decide +kernel) fo_X3 (Nat.le_of_ble_eq_true rfl) ?_
  intro p e R s m args below meth c D dA ad hB
  have hC := hB.1
  have hN := hB.2.1
  have hR := hB.2.2.1
  refine z_go hC (pc' := 23) (ls' := [some (.ref 8)]) (st' := []) (h' := z_set (z_set h 8 1 (((h.1 8 1) + (nI 1)) &&& (nI 63))) 8 2 ((h.1 8 2) - (nI 1))) (cs := []) [.aload_n 0, .aload_n 0, .getfield 19, .iconst 1, .iadd, .bipush 63, .iand, .putfield 19, .aload_n 0, .dup, .getfield 15, .iconst 1, .isub, .putfield 15] (by decide +kernel) rfl rfl trivial ?_
  exact z_ret_v hB rfl (by decide +kernel) ⟨rfl, rfl⟩

set_option maxHeartbeats 4000000 in
set_option maxRecDepth 100000 in
theorem sp_X3_putFirstBack (l : Launch) (ext : z_Sh) (h : z_H)   : z_Sp l 0 yX3_putFirstBack cX3_putFirstBack 1 none [.ref 8] (z_c ext) h (fun rv h' => rv = none ∧ h' = z_set (z_set h 8 1 (((h.1 8 1) - (nI 1)) &&& (nI 63))) 8 2 ((h.1 8 2) + (nI 1))) := by
  refine z_enter ft_X3 (by decide +kernel) fo_X3 (Nat.le_of_ble_eq_true rfl) ?_
  intro p e R s m args below meth c D dA ad hB
  have hC := hB.1
  have hN := hB.2.1
  have hR := hB.2.2.1
  refine z_go hC (pc' := 23) (ls' := [some (.ref 8)]) (st' := []) (h' := z_set (z_set h 8 1 (((h.1 8 1) - (nI 1)) &&& (nI 63))) 8 2 ((h.1 8 2) + (nI 1))) (cs := []) [.aload_n 0, .aload_n 0, .getfield 19, .iconst 1, .isub, .bipush 63, .iand, .putfield 19, .aload_n 0, .dup, .getfield 15, .iconst 1, .iadd, .putfield 15] (by decide +kernel) rfl rfl trivial ?_
  exact z_ret_v hB rfl (by decide +kernel) ⟨rfl, rfl⟩

def fv_X6_isThere (h : z_H)  : Int32 := if (h.1 10 5) ≤ 0 then nI 0 else nI 1
theorem zb_X6_isThere (h : z_H)  : fv_X6_isThere h  = 0 ∨ fv_X6_isThere h  = 1 := by unfold fv_X6_isThere; (repeat' split) <;> first | decide
set_option maxHeartbeats 4000000 in
set_option maxRecDepth 100000 in
theorem sp_X6_isThere (l : Launch) (ext : z_Sh) (h : z_H)   : z_Sp l 0 yX6_isThere cX6_isThere 1 (some .boolean) [.ref 10] (z_c ext) h (fun rv h' => rv = some (.int (fv_X6_isThere h )) ∧ h' = h) := by
  refine z_enter ft_X6 (by decide +kernel) fo_X6 (Nat.le_of_ble_eq_true rfl) ?_
  intro p e R s m args below meth c D dA ad hB
  have hC := hB.1
  have hN := hB.2.1
  have hR := hB.2.2.1
  refine z_go hC (pc' := 4) (ls' := [some (.ref 10)]) (st' := [.int (h.1 10 5)]) (h' := h) (cs := []) [.aload_n 0, .getfield 26] (by decide +kernel) rfl rfl trivial ?_
  refine z_if_le hC (off := 7) 11 (by decide +kernel) (by decide) (fun c1 => ?_) (fun c1 => ?_)
  · skip
    refine z_go hC (pc' := 12) (ls' := [some (.ref 10)]) (st' := [.int (nI 0)]) (h' := h) (cs := []) [.iconst 0] (by decide +kernel) rfl rfl trivial ?_
    exact z_ret_z hB rfl (by decide) (by decide +kernel) ⟨by rw [fv_X6_isThere, if_pos c1], rfl⟩
  · skip
    refine z_go hC (pc' := 8) (ls' := [some (.ref 10)]) (st' := [.int (nI 1)]) (h' := h) (cs := []) [.iconst 1] (by decide +kernel) rfl rfl trivial ?_
    refine z_goto hC (off := 4) 12 (by decide +kernel) (by decide) ?_
    exact z_ret_z hB rfl (by decide) (by decide +kernel) ⟨by rw [fv_X6_isThere, if_neg c1], rfl⟩

def fv_X6_isLiving (h : z_H)  : Int32 := if (fv_X6_isThere h ) = 0 then nI 0 else if (h.1 10 8) = 0 then nI 1 else nI 0
theorem zb_X6_isLiving (h : z_H)  : fv_X6_isLiving h  = 0 ∨ fv_X6_isLiving h  = 1 := by unfold fv_X6_isLiving; (repeat' split) <;> first | decide | exact zb_X6_isThere _
set_option maxHeartbeats 4000000 in
set_option maxRecDepth 100000 in
theorem sp_X6_isLiving (l : Launch) (ext : z_Sh) (h : z_H)   : z_Sp l 1 yX6_isLiving cX6_isLiving 1 (some .boolean) [.ref 10] (z_c ext) h (fun rv h' => rv = some (.int (fv_X6_isLiving h )) ∧ h' = h) := by
  refine z_enter ft_X6 (by decide +kernel) fo_X6 (Nat.le_of_ble_eq_true rfl) ?_
  intro p e R s m args below meth c D dA ad hB
  have hC := hB.1
  have hN := hB.2.1
  have hR := hB.2.2.1
  refine z_go hC (pc' := 1) (ls' := [some (.ref 10)]) (st' := [.ref 10]) (h' := h) (cs := []) [.aload_n 0] (by decide +kernel) rfl rfl trivial ?_
  refine z_callV hC hN hR (as := []) (rest := []) ok_X6_30 (by decide +kernel) (sp_X6_isThere l _ h ) rfl rfl (Nat.le_of_ble_eq_true rfl) rfl rfl (Nat.le_of_ble_eq_true rfl) ⟨Nat.zero_le _, Nat.zero_le _⟩ (fun r1 h2 q3 => z_fun q3 ?_)
  refine z_if_eq hC (off := 14) 18 (by decide +kernel) (by decide) (fun c4 => ?_) (fun c4 => ?_)
  · skip
    refine z_go hC (pc' := 19) (ls' := [some (.ref 10)]) (st' := [.int (nI 0)]) (h' := h) (cs := []) [.iconst 0] (by decide +kernel) rfl rfl trivial ?_
    exact z_ret_z hB rfl (by decide) (by decide +kernel) ⟨by rw [fv_X6_isLiving, if_pos c4], rfl⟩
  · skip
    refine z_go hC (pc' := 11) (ls' := [some (.ref 10)]) (st' := [.int (h.1 10 8)]) (h' := h) (cs := []) [.aload_n 0, .getfield 34] (by decide +kernel) rfl rfl trivial ?_
    refine z_if_ne hC (off := 7) 18 (by decide +kernel) (by decide) (fun c5 => ?_) (fun c5 => ?_)
    · skip
      refine z_go hC (pc' := 19) (ls' := [some (.ref 10)]) (st' := [.int (nI 0)]) (h' := h) (cs := []) [.iconst 0] (by decide +kernel) rfl rfl trivial ?_
      exact z_ret_z hB rfl (by decide) (by decide +kernel) ⟨by rw [fv_X6_isLiving, if_neg c4, if_neg c5], rfl⟩
    · skip
      refine z_go hC (pc' := 15) (ls' := [some (.ref 10)]) (st' := [.int (nI 1)]) (h' := h) (cs := []) [.iconst 1] (by decide +kernel) rfl rfl trivial ?_
      refine z_goto hC (off := 4) 19 (by decide +kernel) (by decide) ?_
      exact z_ret_z hB rfl (by decide) (by decide +kernel) ⟨by rw [fv_X6_isLiving, if_neg c4, if_pos c5], rfl⟩

set_option maxHeartbeats 4000000 in
set_option maxRecDepth 100000 in
theorem sp_X6_size (l : Launch) (ext : z_Sh) (h : z_H)   : z_Sp l 0 yX6_size cX6_size 1 (some .int) [.ref 10] (z_c ext) h (fun rv h' => rv = some (.int (h.1 10 5)) ∧ h' = h) := by
  refine z_enter ft_X6 (by decide +kernel) fo_X6 (Nat.le_of_ble_eq_true rfl) ?_
  intro p e R s m args below meth c D dA ad hB
  have hC := hB.1
  have hN := hB.2.1
  have hR := hB.2.2.1
  refine z_go hC (pc' := 4) (ls' := [some (.ref 10)]) (st' := [.int (h.1 10 5)]) (h' := h) (cs := []) [.aload_n 0, .getfield 26] (by decide +kernel) rfl rfl trivial ?_
  exact z_ret_i hB rfl (by decide +kernel) ⟨rfl, rfl⟩

set_option maxHeartbeats 4000000 in
set_option maxRecDepth 100000 in
theorem sp_X6_growth (l : Launch) (ext : z_Sh) (h : z_H)   : z_Sp l 0 yX6_growth cX6_growth 1 (some .int) [.ref 10] (z_c ext) h (fun rv h' => rv = some (.int (h.1 10 6)) ∧ h' = h) := by
  refine z_enter ft_X6 (by decide +kernel) fo_X6 (Nat.le_of_ble_eq_true rfl) ?_
  intro p e R s m args below meth c D dA ad hB
  have hC := hB.1
  have hN := hB.2.1
  have hR := hB.2.2.1
  refine z_go hC (pc' := 4) (ls' := [some (.ref 10)]) (st' := [.int (h.1 10 6)]) (h' := h) (cs := []) [.aload_n 0, .getfield 38] (by decide +kernel) rfl rfl trivial ?_
  exact z_ret_i hB rfl (by decide +kernel) ⟨rfl, rfl⟩

set_option maxHeartbeats 4000000 in
set_option maxRecDepth 100000 in
theorem sp_X6_cellOf (l : Launch) (ext : z_Sh) (h : z_H) (x : Int32)  : z_Sp l 1 yX6_cellOf cX6_cellOf 2 (some .int) [.ref 10, .int x] (z_c ext) h (fun rv h' => rv = some (.int (h.1 11 ((((h.1 10 4) + x) &&& (nI 63)).toNatClampNeg))) ∧ h' = h) := by
  refine z_enter ft_X6 (by decide +kernel) fo_X6 (Nat.le_of_ble_eq_true rfl) ?_
  intro p e R s m args below meth c D dA ad hB
  have hC := hB.1
  have hN := hB.2.1
  have hR := hB.2.2.1
  refine z_go hC (pc' := 13) (ls' := [some (.ref 10), some (.int x)]) (st' := [.int (((h.1 10 4) + x) &&& (nI 63)), .ref 11]) (h' := h) (cs := []) [.aload_n 0, .getfield 11, .aload_n 0, .getfield 41, .iload_n 1, .iadd, .bipush 63, .iand] (by decide +kernel) rfl rfl trivial ?_
  refine z_callSN hC hN hR (as := [.ref 11, .int (((h.1 10 4) + x) &&& (nI 63))]) (rest := []) ok_X6_44 (by decide +kernel) (sp_X7_atI l _ h 11 64 [] (((h.1 10 4) + x) &&& (nI 63)) rfl (z_in63 _)) (Nat.le_of_ble_eq_true rfl) rfl rfl (Nat.le_of_ble_eq_true rfl) ⟨Nat.zero_le _, Nat.zero_le _⟩ (fun r1 h2 q3 => z_fun q3 ?_)
  exact z_ret_i hB rfl (by decide +kernel) ⟨rfl, rfl⟩

set_option maxHeartbeats 4000000 in
set_option maxRecDepth 100000 in
theorem sp_X6_isOn (l : Launch) (ext : z_Sh) (h : z_H) (x : Int32)  : z_Sp l 2 yX6_isOn cX6_isOn 2 (some .boolean) [.ref 10, .int x] (z_c ext) h (fun rv h' => rv = some (.int (fv_X7_isIn (h.2 10 7) x)) ∧ h' = h) := by
  refine z_enter ft_X6 (by decide +kernel) fo_X6 (Nat.le_of_ble_eq_true rfl) ?_
  intro p e R s m args below meth c D dA ad hB
  have hC := hB.1
  have hN := hB.2.1
  have hR := hB.2.2.1
  refine z_go hC (pc' := 5) (ls' := [some (.ref 10), some (.int x)]) (st' := [.int x, .long (h.2 10 7)]) (h' := h) (cs := []) [.aload_n 0, .getfield 48, .iload_n 1] (by decide +kernel) rfl rfl trivial ?_
  refine z_callSN hC hN hR (as := [.long (h.2 10 7), .int x]) (rest := []) ok_X6_52 (by decide +kernel) (sp_X7_isIn l _ h (h.2 10 7) x) (Nat.le_of_ble_eq_true rfl) rfl rfl (Nat.le_of_ble_eq_true rfl) ⟨Nat.zero_le _, Nat.zero_le _⟩ (fun r1 h2 q3 => z_fun q3 ?_)
  exact z_ret_z hB rfl (zb_X7_isIn (h.2 10 7) x) (by decide +kernel) ⟨rfl, rfl⟩

set_option maxHeartbeats 4000000 in
set_option maxRecDepth 100000 in
theorem sp_X6_lay (l : Launch) (ext : z_Sh) (h : z_H) (x : Int32) (y : Int32)  : z_Sp l 1 yX6_lay cX6_lay 3 none [.ref 10, .int x, .int y] (z_c ext) h (fun rv h' => rv = none ∧ h' = z_set (z_setL (z_set (z_set (z_putv h 11 64 (h.1 10 4) x) 10 5 (nI 1)) 10 6 y) 10 7 (fv_X7_setOf x)) 10 8 (nI 0)) := by
  refine z_enter ft_X6 (by decide +kernel) fo_X6 (Nat.le_of_ble_eq_true rfl) ?_
  intro p e R s m args below meth c D dA ad hB
  have hC := hB.1
  have hN := hB.2.1
  have hR := hB.2.2.1
  refine z_go hC (pc' := 9) (ls' := [some (.ref 10), some (.int x), some (.int y)]) (st' := [.int x, .int (h.1 10 4), .ref 11]) (h' := h) (cs := []) [.aload_n 0, .getfield 11, .aload_n 0, .getfield 41, .iload_n 1] (by decide +kernel) rfl rfl trivial ?_
  refine z_callSN hC hN hR (as := [.ref 11, .int (h.1 10 4), .int x]) (rest := []) ok_X6_56 (by decide +kernel) (sp_X7_put l _ h 11 64 [] (h.1 10 4) x rfl (by decide)) (Nat.le_of_ble_eq_true rfl) rfl rfl (Nat.le_of_ble_eq_true rfl) ⟨Nat.zero_le _, Nat.zero_le _⟩ (fun r1 h2 q3 => z_fun q3 ?_)
  refine z_go hC (pc' := 24) (ls' := [some (.ref 10), some (.int x), some (.int y)]) (st' := [.int x, .ref 10]) (h' := z_set (z_set (z_putv h 11 64 (h.1 10 4) x) 10 5 (nI 1)) 10 6 y) (cs := []) [.aload_n 0, .iconst 1, .putfield 26, .aload_n 0, .iload_n 2, .putfield 38, .aload_n 0, .iload_n 1] (by decide +kernel) rfl rfl trivial ?_
  refine z_callSN hC hN hR (as := [.int x]) (rest := [.ref 10]) ok_X6_60 (by decide +kernel) (sp_X7_setOf l _ (z_set (z_set (z_putv h 11 64 (h.1 10 4) x) 10 5 (nI 1)) 10 6 y) x) (Nat.le_of_ble_eq_true rfl) rfl rfl (Nat.le_of_ble_eq_true rfl) ⟨Nat.zero_le _, Nat.zero_le _⟩ (fun r4 h5 q6 => z_fun q6 ?_)
  refine z_go hC (pc' := 35) (ls' := [some (.ref 10), some (.int x), some (.int y)]) (st' := []) (h' := z_set (z_setL (z_set (z_set (z_putv h 11 64 (h.1 10 4) x) 10 5 (nI 1)) 10 6 y) 10 7 (fv_X7_setOf x)) 10 8 (nI 0)) (cs := [(nI 0 = 0 ∨ nI 0 = 1)]) [.putfield 48, .aload_n 0, .iconst 0, .putfield 34] (by decide +kernel) rfl rfl (show (nI 0 = 0 ∨ nI 0 = 1) by decide) ?_
  exact z_ret_v hB rfl (by decide +kernel) ⟨rfl, rfl⟩

set_option maxHeartbeats 4000000 in
set_option maxRecDepth 100000 in
theorem sp_X6_takeAway (l : Launch) (ext : z_Sh) (h : z_H)   : z_Sp l 0 yX6_takeAway cX6_takeAway 1 none [.ref 10] (z_c ext) h (fun rv h' => rv = none ∧ h' = z_set (z_set h 10 5 (nI 0)) 10 6 (nI 0)) := by
  refine z_enter ft_X6 (by decide +kernel) fo_X6 (Nat.le_of_ble_eq_true rfl) ?_
  intro p e R s m args below meth c D dA ad hB
  have hC := hB.1
  have hN := hB.2.1
  have hR := hB.2.2.1
  refine z_go hC (pc' := 10) (ls' := [some (.ref 10)]) (st' := []) (h' := z_set (z_set h 10 5 (nI 0)) 10 6 (nI 0)) (cs := []) [.aload_n 0, .iconst 0, .putfield 26, .aload_n 0, .iconst 0, .putfield 38] (by decide +kernel) rfl rfl trivial ?_
  exact z_ret_v hB rfl (by decide +kernel) ⟨rfl, rfl⟩

set_option maxHeartbeats 4000000 in
set_option maxRecDepth 100000 in
theorem sp_X6_die (l : Launch) (ext : z_Sh) (h : z_H)   : z_Sp l 0 yX6_die cX6_die 1 none [.ref 10] (z_c ext) h (fun rv h' => rv = none ∧ h' = z_set h 10 8 (nI 1)) := by
  refine z_enter ft_X6 (by decide +kernel) fo_X6 (Nat.le_of_ble_eq_true rfl) ?_
  intro p e R s m args below meth c D dA ad hB
  have hC := hB.1
  have hN := hB.2.1
  have hR := hB.2.2.1
  refine z_go hC (pc' := 5) (ls' := [some (.ref 10)]) (st' := []) (h' := z_set h 10 8 (nI 1)) (cs := [(nI 1 = 0 ∨ nI 1 = 1)]) [.aload_n 0, .iconst 1, .putfield 34] (by decide +kernel) rfl rfl (show (nI 1 = 0 ∨ nI 1 = 1) by decide) ?_
  exact z_ret_v hB rfl (by decide +kernel) ⟨rfl, rfl⟩
