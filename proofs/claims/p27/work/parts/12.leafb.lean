/-! ===== printed by wip/p27/gen: leaf methods of the class, mirrored ===== -/
def fv_X0_hasWallOn (h : z_H) (x : Int32) : Int32 := if ((h.1 1 2) &&& ((nI 1) <<< (x &&& 31))) = 0 then nI 0 else nI 1
theorem zb_X0_hasWallOn (h : z_H) (x : Int32) : fv_X0_hasWallOn h x = 0 ∨ fv_X0_hasWallOn h x = 1 := by unfold fv_X0_hasWallOn; (repeat' split) <;> first | decide
set_option maxHeartbeats 4000000 in
set_option maxRecDepth 100000 in
theorem sp_X0_hasWallOn (l : Launch) (ext : z_Sh) (h : z_H) (x : Int32)  : z_Sp l 0 yX0_hasWallOn cX0_hasWallOn 2 (some .boolean) [.ref 1, .int x] (z_c ext) h (fun rv h' => rv = some (.int (fv_X0_hasWallOn h x)) ∧ h' = h) := by
  refine z_enter ft_X0 (by decide +kernel) fo_X0 (Nat.le_of_ble_eq_true rfl) ?_
  intro p e R s m args below meth c D dA ad hB
  have hC := hB.1
  have hN := hB.2.1
  have hR := hB.2.2.1
  refine z_go hC (pc' := 8) (ls' := [some (.ref 1), some (.int x)]) (st' := [.int ((h.1 1 2) &&& ((nI 1) <<< (x &&& 31)))]) (h' := h) (cs := []) [.aload_n 0, .getfield 22, .iconst 1, .iload_n 1, .ishl, .iand] (by decide +kernel) rfl rfl trivial ?_
  refine z_if_eq hC (off := 7) 15 (by decide +kernel) (by decide) (fun c1 => ?_) (fun c1 => ?_)
  · skip
    refine z_go hC (pc' := 16) (ls' := [some (.ref 1), some (.int x)]) (st' := [.int (nI 0)]) (h' := h) (cs := []) [.iconst 0] (by decide +kernel) rfl rfl trivial ?_
    exact z_ret_z hB rfl (by decide) (by decide +kernel) ⟨by rw [fv_X0_hasWallOn, if_pos c1], rfl⟩
  · skip
    refine z_go hC (pc' := 12) (ls' := [some (.ref 1), some (.int x)]) (st' := [.int (nI 1)]) (h' := h) (cs := []) [.iconst 1] (by decide +kernel) rfl rfl trivial ?_
    refine z_goto hC (off := 4) 16 (by decide +kernel) (by decide) ?_
    exact z_ret_z hB rfl (by decide) (by decide +kernel) ⟨by rw [fv_X0_hasWallOn, if_neg c1], rfl⟩

def fh_X0_putWall (h : z_H) (x : Int32) (y : Int32) : z_H := if y = 0 then z_set h 1 2 ((h.1 1 2) &&& (((nI 1) <<< (x &&& 31)) ^^^ (z_bi (-1)))) else z_set h 1 2 ((h.1 1 2) ||| ((nI 1) <<< (x &&& 31)))
set_option maxHeartbeats 4000000 in
set_option maxRecDepth 100000 in
theorem sp_X0_putWall (l : Launch) (ext : z_Sh) (h : z_H) (x : Int32) (y : Int32)  : z_Sp l 0 yX0_putWall cX0_putWall 3 none [.ref 1, .int x, .int y] (z_c ext) h (fun rv h' => rv = none ∧ h' = fh_X0_putWall h x y) := by
  refine z_enter ft_X0 (by decide +kernel) fo_X0 (Nat.le_of_ble_eq_true rfl) ?_
  intro p e R s m args below meth c D dA ad hB
  have hC := hB.1
  have hN := hB.2.1
  have hR := hB.2.2.1
  refine z_go hC (pc' := 2) (ls' := [some (.ref 1), some (.int x), some (.int y)]) (st' := [.int y, .ref 1]) (h' := h) (cs := []) [.aload_n 0, .iload_n 2] (by decide +kernel) rfl rfl trivial ?_
  refine z_if_eq hC (off := 14) 16 (by decide +kernel) (by decide) (fun c1 => ?_) (fun c1 => ?_)
  · skip
    refine z_go hC (pc' := 29) (ls' := [some (.ref 1), some (.int x), some (.int y)]) (st' := []) (h' := z_set h 1 2 ((h.1 1 2) &&& (((nI 1) <<< (x &&& 31)) ^^^ (z_bi (-1))))) (cs := []) [.aload_n 0, .getfield 22, .iconst 1, .iload_n 1, .ishl, .iconst (-1), .ixor, .iand, .putfield 22] (by decide +kernel) rfl rfl trivial ?_
    exact z_ret_v hB rfl (by decide +kernel) ⟨rfl, by rw [fh_X0_putWall, if_pos c1]⟩
  · skip
    refine z_go hC (pc' := 13) (ls' := [some (.ref 1), some (.int x), some (.int y)]) (st' := [.int ((h.1 1 2) ||| ((nI 1) <<< (x &&& 31))), .ref 1]) (h' := h) (cs := []) [.aload_n 0, .getfield 22, .iconst 1, .iload_n 1, .ishl, .ior] (by decide +kernel) rfl rfl trivial ?_
    refine z_goto hC (off := 13) 26 (by decide +kernel) (by decide) ?_
    refine z_go hC (pc' := 29) (ls' := [some (.ref 1), some (.int x), some (.int y)]) (st' := []) (h' := z_set h 1 2 ((h.1 1 2) ||| ((nI 1) <<< (x &&& 31)))) (cs := []) [.putfield 22] (by decide +kernel) rfl rfl trivial ?_
    exact z_ret_v hB rfl (by decide +kernel) ⟨rfl, by rw [fh_X0_putWall, if_neg c1]⟩

set_option maxHeartbeats 4000000 in
set_option maxRecDepth 100000 in
theorem sp_X0_weightOf (l : Launch) (ext : z_Sh) (h : z_H) (x : Int32)  : z_Sp l 1 yX0_weightOf cX0_weightOf 2 (some .int) [.ref 1, .int x] (z_c ext) h (fun rv h' => rv = some (.int (z_atv h 2 12 x)) ∧ h' = h) := by
  refine z_enter ft_X0 (by decide +kernel) fo_X0 (Nat.le_of_ble_eq_true rfl) ?_
  intro p e R s m args below meth c D dA ad hB
  have hC := hB.1
  have hN := hB.2.1
  have hR := hB.2.2.1
  refine z_go hC (pc' := 5) (ls' := [some (.ref 1), some (.int x)]) (st' := [.int x, .ref 2]) (h' := h) (cs := []) [.aload_n 0, .getfield 9, .iload_n 1] (by decide +kernel) rfl rfl trivial ?_
  refine z_callSN hC hN hR (as := [.ref 2, .int x]) (rest := []) ok_X0_26 (by decide +kernel) (sp_X7_at l _ h 2 12 [] x rfl (by decide)) (Nat.le_of_ble_eq_true rfl) rfl rfl (Nat.le_of_ble_eq_true rfl) ⟨Nat.zero_le _, Nat.zero_le _⟩ (fun r1 h2 q3 => z_fun q3 ?_)
  exact z_ret_i hB rfl (by decide +kernel) ⟨rfl, rfl⟩

set_option maxHeartbeats 4000000 in
set_option maxRecDepth 100000 in
theorem sp_X0_putWeight (l : Launch) (ext : z_Sh) (h : z_H) (x : Int32) (y : Int32)  : z_Sp l 1 yX0_putWeight cX0_putWeight 3 none [.ref 1, .int x, .int y] (z_c ext) h (fun rv h' => rv = none ∧ h' = z_putv h 2 12 x y) := by
  refine z_enter ft_X0 (by decide +kernel) fo_X0 (Nat.le_of_ble_eq_true rfl) ?_
  intro p e R s m args below meth c D dA ad hB
  have hC := hB.1
  have hN := hB.2.1
  have hR := hB.2.2.1
  refine z_go hC (pc' := 6) (ls' := [some (.ref 1), some (.int x), some (.int y)]) (st' := [.int y, .int x, .ref 2]) (h' := h) (cs := []) [.aload_n 0, .getfield 9, .iload_n 1, .iload_n 2] (by decide +kernel) rfl rfl trivial ?_
  refine z_callSN hC hN hR (as := [.ref 2, .int x, .int y]) (rest := []) ok_X0_30 (by decide +kernel) (sp_X7_put l _ h 2 12 [] x y rfl (by decide)) (Nat.le_of_ble_eq_true rfl) rfl rfl (Nat.le_of_ble_eq_true rfl) ⟨Nat.zero_le _, Nat.zero_le _⟩ (fun r1 h2 q3 => z_fun q3 ?_)
  exact z_ret_v hB rfl (by decide +kernel) ⟨rfl, rfl⟩

def fv_X0_treeHas (h : z_H) (x : Int32) : Int32 := if x = (-1) then nI 0 else if ((h.1 1 3) &&& ((nI 1) <<< (x &&& 31))) = 0 then nI 0 else nI 1
theorem zb_X0_treeHas (h : z_H) (x : Int32) : fv_X0_treeHas h x = 0 ∨ fv_X0_treeHas h x = 1 := by unfold fv_X0_treeHas; (repeat' split) <;> first | decide
set_option maxHeartbeats 4000000 in
set_option maxRecDepth 100000 in
theorem sp_X0_treeHas (l : Launch) (ext : z_Sh) (h : z_H) (x : Int32)  : z_Sp l 0 yX0_treeHas cX0_treeHas 2 (some .boolean) [.ref 1, .int x] (z_c ext) h (fun rv h' => rv = some (.int (fv_X0_treeHas h x)) ∧ h' = h) := by
  refine z_enter ft_X0 (by decide +kernel) fo_X0 (Nat.le_of_ble_eq_true rfl) ?_
  intro p e R s m args below meth c D dA ad hB
  have hC := hB.1
  have hN := hB.2.1
  have hR := hB.2.2.1
  refine z_go hC (pc' := 2) (ls' := [some (.ref 1), some (.int x)]) (st' := [.int (-1), .int x]) (h' := h) (cs := []) [.iload_n 1, .iconst (-1)] (by decide +kernel) rfl rfl trivial ?_
  refine z_icmp_eq hC (off := 18) 20 (by decide +kernel) (by decide) (fun c1 => ?_) (fun c1 => ?_)
  · skip
    refine z_go hC (pc' := 21) (ls' := [some (.ref 1), some (.int x)]) (st' := [.int (nI 0)]) (h' := h) (cs := []) [.iconst 0] (by decide +kernel) rfl rfl trivial ?_
    exact z_ret_z hB rfl (by decide) (by decide +kernel) ⟨by rw [fv_X0_treeHas, if_pos c1], rfl⟩
  · skip
    refine z_go hC (pc' := 13) (ls' := [some (.ref 1), some (.int x)]) (st' := [.int ((h.1 1 3) &&& ((nI 1) <<< (x &&& 31)))]) (h' := h) (cs := []) [.aload_n 0, .getfield 34, .iconst 1, .iload_n 1, .ishl, .iand] (by decide +kernel) rfl rfl trivial ?_
    refine z_if_eq hC (off := 7) 20 (by decide +kernel) (by decide) (fun c2 => ?_) (fun c2 => ?_)
    · skip
      refine z_go hC (pc' := 21) (ls' := [some (.ref 1), some (.int x)]) (st' := [.int (nI 0)]) (h' := h) (cs := []) [.iconst 0] (by decide +kernel) rfl rfl trivial ?_
      exact z_ret_z hB rfl (by decide) (by decide +kernel) ⟨by rw [fv_X0_treeHas, if_neg c1, if_pos c2], rfl⟩
    · skip
      refine z_go hC (pc' := 17) (ls' := [some (.ref 1), some (.int x)]) (st' := [.int (nI 1)]) (h' := h) (cs := []) [.iconst 1] (by decide +kernel) rfl rfl trivial ?_
      refine z_goto hC (off := 4) 21 (by decide +kernel) (by decide) ?_
      exact z_ret_z hB rfl (by decide) (by decide +kernel) ⟨by rw [fv_X0_treeHas, if_neg c1, if_neg c2], rfl⟩

def fv_X0_goFrom (h : z_H) (x : Int32) (y : Int32) : Int32 := if (fv_X0_cellBeside x y) = (-1) then (-1) else if (fv_X0_hasWallOn h (fv_X0_blockOf x)) = 0 then if (fv_X0_hasWallOn h (fv_X0_blockOf (fv_X0_cellBeside x y))) = 0 then if (fv_X0_blockOf x) = (fv_X0_blockOf (fv_X0_cellBeside x y)) then fv_X0_cellBeside x y else if (z_atv h 2 12 (fv_X0_linkOutOf (fv_X0_blockOf x) y)) = (-1) then (-1) else fv_X0_cellBeside x y else (-1) else (-1)
set_option maxHeartbeats 4000000 in
set_option maxRecDepth 100000 in
theorem sp_X0_goFrom (l : Launch) (ext : z_Sh) (h : z_H) (x : Int32) (y : Int32)  : z_Sp l 1 yX0_goFrom cX0_goFrom 4 (some .int) [.ref 1, .int x, .int y] (z_c ext) h (fun rv h' => rv = some (.int (fv_X0_goFrom h x y)) ∧ h' = h) := by
  refine z_enter ft_X0 (by decide +kernel) fo_X0 (Nat.le_of_ble_eq_true rfl) ?_
  intro p e R s m args below meth c D dA ad hB
  have hC := hB.1
  have hN := hB.2.1
  have hR := hB.2.2.1
  refine z_go hC (pc' := 2) (ls' := [some (.ref 1), some (.int x), some (.int y), none]) (st' := [.int y, .int x]) (h' := h) (cs := []) [.iload_n 1, .iload_n 2] (by decide +kernel) rfl rfl trivial ?_
  refine z_callS hC hN hR (as := [.int x, .int y]) (rest := []) ok_X0_37 (by decide +kernel) (sp_X0_cellBeside l _ h x y) (Nat.le_of_ble_eq_true rfl) rfl rfl (Nat.le_of_ble_eq_true rfl) ⟨Nat.zero_le _, Nat.zero_le _⟩ (fun r1 h2 q3 => z_fun q3 ?_)
  refine z_go hC (pc' := 8) (ls' := [some (.ref 1), some (.int x), some (.int y), some (.int (fv_X0_cellBeside x y))]) (st' := [.int (-1), .int (fv_X0_cellBeside x y)]) (h' := h) (cs := []) [.istore_n 3, .iload_n 3, .iconst (-1)] (by decide +kernel) rfl rfl trivial ?_
  refine z_icmp_eq hC (off := 25) 33 (by decide +kernel) (by decide) (fun c4 => ?_) (fun c4 => ?_)
  · skip
    refine z_go hC (pc' := 34) (ls' := [some (.ref 1), some (.int x), some (.int y), some (.int (fv_X0_cellBeside x y))]) (st' := [.int (-1)]) (h' := h) (cs := []) [.iconst (-1)] (by decide +kernel) rfl rfl trivial ?_
    exact z_ret_i hB rfl (by decide +kernel) ⟨by rw [fv_X0_goFrom, if_pos c4], rfl⟩
  · skip
    refine z_go hC (pc' := 13) (ls' := [some (.ref 1), some (.int x), some (.int y), some (.int (fv_X0_cellBeside x y))]) (st' := [.int x, .ref 1]) (h' := h) (cs := []) [.aload_n 0, .iload_n 1] (by decide +kernel) rfl rfl trivial ?_
    refine z_callS hC hN hR (as := [.int x]) (rest := [.ref 1]) ok_X0_41 (by decide +kernel) (sp_X0_blockOf l _ h x) (Nat.le_of_ble_eq_true rfl) rfl rfl (Nat.le_of_ble_eq_true rfl) ⟨Nat.zero_le _, Nat.zero_le _⟩ (fun r5 h6 q7 => z_fun q7 ?_)
    refine z_callV hC hN hR (as := [.int (fv_X0_blockOf x)]) (rest := []) ok_X0_44 (by decide +kernel) (sp_X0_hasWallOn l _ h (fv_X0_blockOf x)) rfl rfl (Nat.le_of_ble_eq_true rfl) rfl rfl (Nat.le_of_ble_eq_true rfl) ⟨Nat.zero_le _, Nat.zero_le _⟩ (fun r8 h9 q10 => z_fun q10 ?_)
    refine z_if_ne hC (off := 14) 33 (by decide +kernel) (by decide) (fun c11 => ?_) (fun c11 => ?_)
    · skip
      refine z_go hC (pc' := 34) (ls' := [some (.ref 1), some (.int x), some (.int y), some (.int (fv_X0_cellBeside x y))]) (st' := [.int (-1)]) (h' := h) (cs := []) [.iconst (-1)] (by decide +kernel) rfl rfl trivial ?_
      exact z_ret_i hB rfl (by decide +kernel) ⟨by rw [fv_X0_goFrom, if_neg c4, if_neg c11], rfl⟩
    · skip
      refine z_go hC (pc' := 24) (ls' := [some (.ref 1), some (.int x), some (.int y), some (.int (fv_X0_cellBeside x y))]) (st' := [.int (fv_X0_cellBeside x y), .ref 1]) (h' := h) (cs := []) [.aload_n 0, .iload_n 3] (by decide +kernel) rfl rfl trivial ?_
      refine z_callS hC hN hR (as := [.int (fv_X0_cellBeside x y)]) (rest := [.ref 1]) ok_X0_41 (by decide +kernel) (sp_X0_blockOf l _ h (fv_X0_cellBeside x y)) (Nat.le_of_ble_eq_true rfl) rfl rfl (Nat.le_of_ble_eq_true rfl) ⟨Nat.zero_le _, Nat.zero_le _⟩ (fun r12 h13 q14 => z_fun q14 ?_)
      refine z_callV hC hN hR (as := [.int (fv_X0_blockOf (fv_X0_cellBeside x y))]) (rest := []) ok_X0_44 (by decide +kernel) (sp_X0_hasWallOn l _ h (fv_X0_blockOf (fv_X0_cellBeside x y))) rfl rfl (Nat.le_of_ble_eq_true rfl) rfl rfl (Nat.le_of_ble_eq_true rfl) ⟨Nat.zero_le _, Nat.zero_le _⟩ (fun r15 h16 q17 => z_fun q17 ?_)
      refine z_if_eq hC (off := 5) 35 (by decide +kernel) (by decide) (fun c18 => ?_) (fun c18 => ?_)
      · skip
        refine z_go hC (pc' := 36) (ls' := [some (.ref 1), some (.int x), some (.int y), some (.int (fv_X0_cellBeside x y))]) (st' := [.int x]) (h' := h) (cs := []) [.iload_n 1] (by decide +kernel) rfl rfl trivial ?_
        refine z_callS hC hN hR (as := [.int x]) (rest := []) ok_X0_41 (by decide +kernel) (sp_X0_blockOf l _ h x) (Nat.le_of_ble_eq_true rfl) rfl rfl (Nat.le_of_ble_eq_true rfl) ⟨Nat.zero_le _, Nat.zero_le _⟩ (fun r19 h20 q21 => z_fun q21 ?_)
        refine z_go hC (pc' := 40) (ls' := [some (.ref 1), some (.int x), some (.int y), some (.int (fv_X0_cellBeside x y))]) (st' := [.int (fv_X0_cellBeside x y), .int (fv_X0_blockOf x)]) (h' := h) (cs := []) [.iload_n 3] (by decide +kernel) rfl rfl trivial ?_
        refine z_callS hC hN hR (as := [.int (fv_X0_cellBeside x y)]) (rest := [.int (fv_X0_blockOf x)]) ok_X0_41 (by decide +kernel) (sp_X0_blockOf l _ h (fv_X0_cellBeside x y)) (Nat.le_of_ble_eq_true rfl) rfl rfl (Nat.le_of_ble_eq_true rfl) ⟨Nat.zero_le _, Nat.zero_le _⟩ (fun r22 h23 q24 => z_fun q24 ?_)
        refine z_icmp_ne hC (off := 5) 48 (by decide +kernel) (by decide) (fun c25 => ?_) (fun c25 => ?_)
        · skip
          refine z_go hC (pc' := 53) (ls' := [some (.ref 1), some (.int x), some (.int y), some (.int (fv_X0_cellBeside x y))]) (st' := [.int x, .ref 2]) (h' := h) (cs := []) [.aload_n 0, .getfield 9, .iload_n 1] (by decide +kernel) rfl rfl trivial ?_
          refine z_callS hC hN hR (as := [.int x]) (rest := [.ref 2]) ok_X0_41 (by decide +kernel) (sp_X0_blockOf l _ h x) (Nat.le_of_ble_eq_true rfl) rfl rfl (Nat.le_of_ble_eq_true rfl) ⟨Nat.zero_le _, Nat.zero_le _⟩ (fun r26 h27 q28 => z_fun q28 ?_)
          refine z_go hC (pc' := 57) (ls' := [some (.ref 1), some (.int x), some (.int y), some (.int (fv_X0_cellBeside x y))]) (st' := [.int y, .int (fv_X0_blockOf x), .ref 2]) (h' := h) (cs := []) [.iload_n 2] (by decide +kernel) rfl rfl trivial ?_
          refine z_callS hC hN hR (as := [.int (fv_X0_blockOf x), .int y]) (rest := [.ref 2]) ok_X0_48 (by decide +kernel) (sp_X0_linkOutOf l _ h (fv_X0_blockOf x) y) (Nat.le_of_ble_eq_true rfl) rfl rfl (Nat.le_of_ble_eq_true rfl) ⟨Nat.zero_le _, Nat.zero_le _⟩ (fun r29 h30 q31 => z_fun q31 ?_)
          refine z_callSN hC hN hR (as := [.ref 2, .int (fv_X0_linkOutOf (fv_X0_blockOf x) y)]) (rest := []) ok_X0_26 (by decide +kernel) (sp_X7_at l _ h 2 12 [] (fv_X0_linkOutOf (fv_X0_blockOf x) y) rfl (by decide)) (Nat.le_of_ble_eq_true rfl) rfl rfl (Nat.le_of_ble_eq_true rfl) ⟨Nat.zero_le _, Nat.zero_le _⟩ (fun r32 h33 q34 => z_fun q34 ?_)
          refine z_go hC (pc' := 64) (ls' := [some (.ref 1), some (.int x), some (.int y), some (.int (fv_X0_cellBeside x y))]) (st' := [.int (-1), .int (z_atv h 2 12 (fv_X0_linkOutOf (fv_X0_blockOf x) y))]) (h' := h) (cs := []) [.iconst (-1)] (by decide +kernel) rfl rfl trivial ?_
          refine z_icmp_eq hC (off := 7) 71 (by decide +kernel) (by decide) (fun c35 => ?_) (fun c35 => ?_)
          · skip
            refine z_go hC (pc' := 72) (ls' := [some (.ref 1), some (.int x), some (.int y), some (.int (fv_X0_cellBeside x y))]) (st' := [.int (-1)]) (h' := h) (cs := []) [.iconst (-1)] (by decide +kernel) rfl rfl trivial ?_
            exact z_ret_i hB rfl (by decide +kernel) ⟨by rw [fv_X0_goFrom, if_neg c4, if_pos c11, if_pos c18, if_neg c25, if_pos c35], rfl⟩
          · skip
            refine z_go hC (pc' := 68) (ls' := [some (.ref 1), some (.int x), some (.int y), some (.int (fv_X0_cellBeside x y))]) (st' := [.int (fv_X0_cellBeside x y)]) (h' := h) (cs := []) [.iload_n 3] (by decide +kernel) rfl rfl trivial ?_
            refine z_goto hC (off := 4) 72 (by decide +kernel) (by decide) ?_
            exact z_ret_i hB rfl (by decide +kernel) ⟨by rw [fv_X0_goFrom, if_neg c4, if_pos c11, if_pos c18, if_neg c25, if_neg c35], rfl⟩
        · skip
          refine z_go hC (pc' := 47) (ls' := [some (.ref 1), some (.int x), some (.int y), some (.int (fv_X0_cellBeside x y))]) (st' := [.int (fv_X0_cellBeside x y)]) (h' := h) (cs := []) [.iload_n 3] (by decide +kernel) rfl rfl trivial ?_
          exact z_ret_i hB rfl (by decide +kernel) ⟨by rw [fv_X0_goFrom, if_neg c4, if_pos c11, if_pos c18, if_pos c25], rfl⟩
      · skip
        refine z_go hC (pc' := 34) (ls' := [some (.ref 1), some (.int x), some (.int y), some (.int (fv_X0_cellBeside x y))]) (st' := [.int (-1)]) (h' := h) (cs := []) [.iconst (-1)] (by decide +kernel) rfl rfl trivial ?_
        exact z_ret_i hB rfl (by decide +kernel) ⟨by rw [fv_X0_goFrom, if_neg c4, if_pos c11, if_neg c18], rfl⟩

set_option maxHeartbeats 4000000 in
set_option maxRecDepth 100000 in
theorem sp_X0_countOpenCells (l : Launch) (ext : z_Sh) (h : z_H)   : z_Sp l 1 yX0_countOpenCells cX0_countOpenCells 1 (some .int) [.ref 1] (z_c ext) h (fun rv h' => rv = some (.int ((nI 36) - ((nI 4) * (fv_J6_bitCount_0f7a4 (h.1 1 2))))) ∧ h' = h) := by
  refine z_enter ft_X0 (by decide +kernel) fo_X0 (Nat.le_of_ble_eq_true rfl) ?_
  intro p e R s m args below meth c D dA ad hB
  have hC := hB.1
  have hN := hB.2.1
  have hR := hB.2.2.1
  refine z_go hC (pc' := 7) (ls' := [some (.ref 1)]) (st' := [.int (h.1 1 2), .int (nI 4), .int (nI 36)]) (h' := h) (cs := []) [.bipush 36, .iconst 4, .aload_n 0, .getfield 22] (by decide +kernel) rfl rfl trivial ?_
  refine z_callS hC hN hR (as := [.int (h.1 1 2)]) (rest := [.int (nI 4), .int (nI 36)]) ok_X0_61 (by decide +kernel) (sp_J6_bitCount_0f7a4 l _ h (h.1 1 2)) (Nat.le_of_ble_eq_true rfl) rfl rfl (Nat.le_of_ble_eq_true rfl) ⟨Nat.zero_le _, Nat.zero_le _⟩ (fun r1 h2 q3 => z_fun q3 ?_)
  refine z_go hC (pc' := 12) (ls' := [some (.ref 1)]) (st' := [.int ((nI 36) - ((nI 4) * (fv_J6_bitCount_0f7a4 (h.1 1 2))))]) (h' := h) (cs := []) [.imul, .isub] (by decide +kernel) rfl rfl trivial ?_
  exact z_ret_i hB rfl (by decide +kernel) ⟨rfl, rfl⟩

set_option maxHeartbeats 4000000 in
set_option maxRecDepth 100000 in
theorem sp_X1_size_16 (l : Launch) (ext : z_Sh) (h : z_H)   : z_Sp l 0 yX1_size cX1_size 1 (some .int) [.ref 16] (z_c ext) h (fun rv h' => rv = some (.int (h.1 16 1)) ∧ h' = h) := by
  refine z_enter ft_X1 (by decide +kernel) fo_X1 (Nat.le_of_ble_eq_true rfl) ?_
  intro p e R s m args below meth c D dA ad hB
  have hC := hB.1
  have hN := hB.2.1
  have hR := hB.2.2.1
  refine z_go hC (pc' := 4) (ls' := [some (.ref 16)]) (st' := [.int (h.1 16 1)]) (h' := h) (cs := []) [.aload_n 0, .getfield 15] (by decide +kernel) rfl rfl trivial ?_
  exact z_ret_i hB rfl (by decide +kernel) ⟨rfl, rfl⟩

set_option maxHeartbeats 4000000 in
set_option maxRecDepth 100000 in
theorem sp_X1_wayTo_16 (l : Launch) (ext : z_Sh) (h : z_H) (x : Int32)  : z_Sp l 1 yX1_wayTo cX1_wayTo 2 (some .int) [.ref 16, .int x] (z_c ext) h (fun rv h' => rv = some (.int (z_atv h 17 1024 x)) ∧ h' = h) := by
  refine z_enter ft_X1 (by decide +kernel) fo_X1 (Nat.le_of_ble_eq_true rfl) ?_
  intro p e R s m args below meth c D dA ad hB
  have hC := hB.1
  have hN := hB.2.1
  have hR := hB.2.2.1
  refine z_go hC (pc' := 5) (ls' := [some (.ref 16), some (.int x)]) (st' := [.int x, .ref 17]) (h' := h) (cs := []) [.aload_n 0, .getfield 11, .iload_n 1] (by decide +kernel) rfl rfl trivial ?_
  refine z_callSN hC hN hR (as := [.ref 17, .int x]) (rest := []) ok_X1_19 (by decide +kernel) (sp_X7_at l _ h 17 1024 [] x rfl (by decide)) (Nat.le_of_ble_eq_true rfl) rfl rfl (Nat.le_of_ble_eq_true rfl) ⟨Nat.zero_le _, Nat.zero_le _⟩ (fun r1 h2 q3 => z_fun q3 ?_)
  exact z_ret_i hB rfl (by decide +kernel) ⟨rfl, rfl⟩

set_option maxHeartbeats 4000000 in
set_option maxRecDepth 100000 in
theorem sp_X1_holdNone_16 (l : Launch) (ext : z_Sh) (h : z_H)   : z_Sp l 0 yX1_holdNone cX1_holdNone 1 none [.ref 16] (z_c ext) h (fun rv h' => rv = none ∧ h' = z_set h 16 1 (nI 0)) := by
  refine z_enter ft_X1 (by decide +kernel) fo_X1 (Nat.le_of_ble_eq_true rfl) ?_
  intro p e R s m args below meth c D dA ad hB
  have hC := hB.1
  have hN := hB.2.1
  have hR := hB.2.2.1
  refine z_go hC (pc' := 5) (ls' := [some (.ref 16)]) (st' := []) (h' := z_set h 16 1 (nI 0)) (cs := []) [.aload_n 0, .iconst 0, .putfield 15] (by decide +kernel) rfl rfl trivial ?_
  exact z_ret_v hB rfl (by decide +kernel) ⟨rfl, rfl⟩

set_option maxHeartbeats 4000000 in
set_option maxRecDepth 100000 in
theorem sp_X1_holdFirstAlone_16 (l : Launch) (ext : z_Sh) (h : z_H)   : z_Sp l 1 yX1_holdFirstAlone cX1_holdFirstAlone 1 none [.ref 16] (z_c ext) h (fun rv h' => rv = none ∧ h' = z_set (z_putv h 17 1024 (nI 0) (nI 0)) 16 1 (nI 1)) := by
  refine z_enter ft_X1 (by decide +kernel) fo_X1 (Nat.le_of_ble_eq_true rfl) ?_
  intro p e R s m args below meth c D dA ad hB
  have hC := hB.1
  have hN := hB.2.1
  have hR := hB.2.2.1
  refine z_go hC (pc' := 6) (ls' := [some (.ref 16)]) (st' := [.int (nI 0), .int (nI 0), .ref 17]) (h' := h) (cs := []) [.aload_n 0, .getfield 11, .iconst 0, .iconst 0] (by decide +kernel) rfl rfl trivial ?_
  refine z_callSN hC hN hR (as := [.ref 17, .int (nI 0), .int (nI 0)]) (rest := []) ok_X1_23 (by decide +kernel) (sp_X7_put l _ h 17 1024 [] (nI 0) (nI 0) rfl (by decide)) (Nat.le_of_ble_eq_true rfl) rfl rfl (Nat.le_of_ble_eq_true rfl) ⟨Nat.zero_le _, Nat.zero_le _⟩ (fun r1 h2 q3 => z_fun q3 ?_)
  refine z_go hC (pc' := 14) (ls' := [some (.ref 16)]) (st' := []) (h' := z_set (z_putv h 17 1024 (nI 0) (nI 0)) 16 1 (nI 1)) (cs := []) [.aload_n 0, .iconst 1, .putfield 15] (by decide +kernel) rfl rfl trivial ?_
  exact z_ret_v hB rfl (by decide +kernel) ⟨rfl, rfl⟩

def fh_X1_add_16 (h : z_H) (x : Int32) (y : Int32) : z_H := if (nI 1024) ≤ (h.1 16 1) then h else z_set (z_putv h 17 1024 (h.1 16 1) ((x <<< ((nI 2) &&& 31)) ||| y)) 16 1 (((z_putv h 17 1024 (h.1 16 1) ((x <<< ((nI 2) &&& 31)) ||| y)).1 16 1) + (nI 1))
set_option maxHeartbeats 4000000 in
set_option maxRecDepth 100000 in
theorem sp_X1_add_16 (l : Launch) (ext : z_Sh) (h : z_H) (x : Int32) (y : Int32)  : z_Sp l 1 yX1_add cX1_add 3 none [.ref 16, .int x, .int y] (z_c ext) h (fun rv h' => rv = none ∧ h' = fh_X1_add_16 h x y) := by
  refine z_enter ft_X1 (by decide +kernel) fo_X1 (Nat.le_of_ble_eq_true rfl) ?_
  intro p e R s m args below meth c D dA ad hB
  have hC := hB.1
  have hN := hB.2.1
  have hR := hB.2.2.1
  refine z_go hC (pc' := 7) (ls' := [some (.ref 16), some (.int x), some (.int y)]) (st' := [.int (nI 1024), .int (h.1 16 1)]) (h' := h) (cs := [(Int16.ofInt (Int.ofNat 1024)).toInt32 = nI 1024]) [.aload_n 0, .getfield 15, .sipush 1024] (by decide +kernel) rfl rfl (show (Int16.ofInt (Int.ofNat 1024)).toInt32 = nI 1024 by decide) ?_
  refine z_icmp_ge hC (off := 29) 36 (by decide +kernel) (by decide) (fun c1 => ?_) (fun c1 => ?_)
  · skip
    exact z_ret_v hB rfl (by decide +kernel) ⟨rfl, by rw [fh_X1_add_16, if_pos c1]⟩
  · skip
    refine z_go hC (pc' := 23) (ls' := [some (.ref 16), some (.int x), some (.int y)]) (st' := [.int ((x <<< ((nI 2) &&& 31)) ||| y), .int (h.1 16 1), .ref 17]) (h' := h) (cs := []) [.aload_n 0, .getfield 11, .aload_n 0, .getfield 15, .iload_n 1, .iconst 2, .ishl, .iload_n 2, .ior] (by decide +kernel) rfl rfl trivial ?_
    refine z_callSN hC hN hR (as := [.ref 17, .int (h.1 16 1), .int ((x <<< ((nI 2) &&& 31)) ||| y)]) (rest := []) ok_X1_23 (by decide +kernel) (sp_X7_put l _ h 17 1024 [] (h.1 16 1) ((x <<< ((nI 2) &&& 31)) ||| y) rfl (by decide)) (Nat.le_of_ble_eq_true rfl) rfl rfl (Nat.le_of_ble_eq_true rfl) ⟨Nat.zero_le _, Nat.zero_le _⟩ (fun r2 h3 q4 => z_fun q4 ?_)
    refine z_go hC (pc' := 36) (ls' := [some (.ref 16), some (.int x), some (.int y)]) (st' := []) (h' := z_set (z_putv h 17 1024 (h.1 16 1) ((x <<< ((nI 2) &&& 31)) ||| y)) 16 1 (((z_putv h 17 1024 (h.1 16 1) ((x <<< ((nI 2) &&& 31)) ||| y)).1 16 1) + (nI 1))) (cs := []) [.aload_n 0, .dup, .getfield 15, .iconst 1, .iadd, .putfield 15] (by decide +kernel) rfl rfl trivial ?_
    exact z_ret_v hB rfl (by decide +kernel) ⟨rfl, by rw [fh_X1_add_16, if_neg c1]⟩

set_option maxHeartbeats 4000000 in
set_option maxRecDepth 100000 in
theorem sp_X1_size_18 (l : Launch) (ext : z_Sh) (h : z_H)   : z_Sp l 0 yX1_size cX1_size 1 (some .int) [.ref 18] (z_c ext) h (fun rv h' => rv = some (.int (h.1 18 1)) ∧ h' = h) := by
  refine z_enter ft_X1 (by decide +kernel) fo_X1 (Nat.le_of_ble_eq_true rfl) ?_
  intro p e R s m args below meth c D dA ad hB
  have hC := hB.1
  have hN := hB.2.1
  have hR := hB.2.2.1
  refine z_go hC (pc' := 4) (ls' := [some (.ref 18)]) (st' := [.int (h.1 18 1)]) (h' := h) (cs := []) [.aload_n 0, .getfield 15] (by decide +kernel) rfl rfl trivial ?_
  exact z_ret_i hB rfl (by decide +kernel) ⟨rfl, rfl⟩

set_option maxHeartbeats 4000000 in
set_option maxRecDepth 100000 in
theorem sp_X1_wayTo_18 (l : Launch) (ext : z_Sh) (h : z_H) (x : Int32)  : z_Sp l 1 yX1_wayTo cX1_wayTo 2 (some .int) [.ref 18, .int x] (z_c ext) h (fun rv h' => rv = some (.int (z_atv h 19 1024 x)) ∧ h' = h) := by
  refine z_enter ft_X1 (by decide +kernel) fo_X1 (Nat.le_of_ble_eq_true rfl) ?_
  intro p e R s m args below meth c D dA ad hB
  have hC := hB.1
  have hN := hB.2.1
  have hR := hB.2.2.1
  refine z_go hC (pc' := 5) (ls' := [some (.ref 18), some (.int x)]) (st' := [.int x, .ref 19]) (h' := h) (cs := []) [.aload_n 0, .getfield 11, .iload_n 1] (by decide +kernel) rfl rfl trivial ?_
  refine z_callSN hC hN hR (as := [.ref 19, .int x]) (rest := []) ok_X1_19 (by decide +kernel) (sp_X7_at l _ h 19 1024 [] x rfl (by decide)) (Nat.le_of_ble_eq_true rfl) rfl rfl (Nat.le_of_ble_eq_true rfl) ⟨Nat.zero_le _, Nat.zero_le _⟩ (fun r1 h2 q3 => z_fun q3 ?_)
  exact z_ret_i hB rfl (by decide +kernel) ⟨rfl, rfl⟩

set_option maxHeartbeats 4000000 in
set_option maxRecDepth 100000 in
theorem sp_X1_holdNone_18 (l : Launch) (ext : z_Sh) (h : z_H)   : z_Sp l 0 yX1_holdNone cX1_holdNone 1 none [.ref 18] (z_c ext) h (fun rv h' => rv = none ∧ h' = z_set h 18 1 (nI 0)) := by
  refine z_enter ft_X1 (by decide +kernel) fo_X1 (Nat.le_of_ble_eq_true rfl) ?_
  intro p e R s m args below meth c D dA ad hB
  have hC := hB.1
  have hN := hB.2.1
  have hR := hB.2.2.1
  refine z_go hC (pc' := 5) (ls' := [some (.ref 18)]) (st' := []) (h' := z_set h 18 1 (nI 0)) (cs := []) [.aload_n 0, .iconst 0, .putfield 15] (by decide +kernel) rfl rfl trivial ?_
  exact z_ret_v hB rfl (by decide +kernel) ⟨rfl, rfl⟩

set_option maxHeartbeats 4000000 in
set_option maxRecDepth 100000 in
theorem sp_X1_holdFirstAlone_18 (l : Launch) (ext : z_Sh) (h : z_H)   : z_Sp l 1 yX1_holdFirstAlone cX1_holdFirstAlone 1 none [.ref 18] (z_c ext) h (fun rv h' => rv = none ∧ h' = z_set (z_putv h 19 1024 (nI 0) (nI 0)) 18 1 (nI 1)) := by
  refine z_enter ft_X1 (by decide +kernel) fo_X1 (Nat.le_of_ble_eq_true rfl) ?_
  intro p e R s m args below meth c D dA ad hB
  have hC := hB.1
  have hN := hB.2.1
  have hR := hB.2.2.1
  refine z_go hC (pc' := 6) (ls' := [some (.ref 18)]) (st' := [.int (nI 0), .int (nI 0), .ref 19]) (h' := h) (cs := []) [.aload_n 0, .getfield 11, .iconst 0, .iconst 0] (by decide +kernel) rfl rfl trivial ?_
  refine z_callSN hC hN hR (as := [.ref 19, .int (nI 0), .int (nI 0)]) (rest := []) ok_X1_23 (by decide +kernel) (sp_X7_put l _ h 19 1024 [] (nI 0) (nI 0) rfl (by decide)) (Nat.le_of_ble_eq_true rfl) rfl rfl (Nat.le_of_ble_eq_true rfl) ⟨Nat.zero_le _, Nat.zero_le _⟩ (fun r1 h2 q3 => z_fun q3 ?_)
  refine z_go hC (pc' := 14) (ls' := [some (.ref 18)]) (st' := []) (h' := z_set (z_putv h 19 1024 (nI 0) (nI 0)) 18 1 (nI 1)) (cs := []) [.aload_n 0, .iconst 1, .putfield 15] (by decide +kernel) rfl rfl trivial ?_
  exact z_ret_v hB rfl (by decide +kernel) ⟨rfl, rfl⟩

def fh_X1_add_18 (h : z_H) (x : Int32) (y : Int32) : z_H := if (nI 1024) ≤ (h.1 18 1) then h else z_set (z_putv h 19 1024 (h.1 18 1) ((x <<< ((nI 2) &&& 31)) ||| y)) 18 1 (((z_putv h 19 1024 (h.1 18 1) ((x <<< ((nI 2) &&& 31)) ||| y)).1 18 1) + (nI 1))
set_option maxHeartbeats 4000000 in
set_option maxRecDepth 100000 in
theorem sp_X1_add_18 (l : Launch) (ext : z_Sh) (h : z_H) (x : Int32) (y : Int32)  : z_Sp l 1 yX1_add cX1_add 3 none [.ref 18, .int x, .int y] (z_c ext) h (fun rv h' => rv = none ∧ h' = fh_X1_add_18 h x y) := by
  refine z_enter ft_X1 (by decide +kernel) fo_X1 (Nat.le_of_ble_eq_true rfl) ?_
  intro p e R s m args below meth c D dA ad hB
  have hC := hB.1
  have hN := hB.2.1
  have hR := hB.2.2.1
  refine z_go hC (pc' := 7) (ls' := [some (.ref 18), some (.int x), some (.int y)]) (st' := [.int (nI 1024), .int (h.1 18 1)]) (h' := h) (cs := [(Int16.ofInt (Int.ofNat 1024)).toInt32 = nI 1024]) [.aload_n 0, .getfield 15, .sipush 1024] (by decide +kernel) rfl rfl (show (Int16.ofInt (Int.ofNat 1024)).toInt32 = nI 1024 by decide) ?_
  refine z_icmp_ge hC (off := 29) 36 (by decide +kernel) (by decide) (fun c1 => ?_) (fun c1 => ?_)
  · skip
    exact z_ret_v hB rfl (by decide +kernel) ⟨rfl, by rw [fh_X1_add_18, if_pos c1]⟩
  · skip
    refine z_go hC (pc' := 23) (ls' := [some (.ref 18), some (.int x), some (.int y)]) (st' := [.int ((x <<< ((nI 2) &&& 31)) ||| y), .int (h.1 18 1), .ref 19]) (h' := h) (cs := []) [.aload_n 0, .getfield 11, .aload_n 0, .getfield 15, .iload_n 1, .iconst 2, .ishl, .iload_n 2, .ior] (by decide +kernel) rfl rfl trivial ?_
    refine z_callSN hC hN hR (as := [.ref 19, .int (h.1 18 1), .int ((x <<< ((nI 2) &&& 31)) ||| y)]) (rest := []) ok_X1_23 (by decide +kernel) (sp_X7_put l _ h 19 1024 [] (h.1 18 1) ((x <<< ((nI 2) &&& 31)) ||| y) rfl (by decide)) (Nat.le_of_ble_eq_true rfl) rfl rfl (Nat.le_of_ble_eq_true rfl) ⟨Nat.zero_le _, Nat.zero_le _⟩ (fun r2 h3 q4 => z_fun q4 ?_)
    refine z_go hC (pc' := 36) (ls' := [some (.ref 18), some (.int x), some (.int y)]) (st' := []) (h' := z_set (z_putv h 19 1024 (h.1 18 1) ((x <<< ((nI 2) &&& 31)) ||| y)) 18 1 (((z_putv h 19 1024 (h.1 18 1) ((x <<< ((nI 2) &&& 31)) ||| y)).1 18 1) + (nI 1))) (cs := []) [.aload_n 0, .dup, .getfield 15, .iconst 1, .iadd, .putfield 15] (by decide +kernel) rfl rfl trivial ?_
    exact z_ret_v hB rfl (by decide +kernel) ⟨rfl, by rw [fh_X1_add_18, if_neg c1]⟩

def fv_X2_isThere (h : z_H)  : Int32 := if (h.1 4 4) ≤ 0 then nI 0 else nI 1
theorem zb_X2_isThere (h : z_H)  : fv_X2_isThere h  = 0 ∨ fv_X2_isThere h  = 1 := by unfold fv_X2_isThere; (repeat' split) <;> first | decide
set_option maxHeartbeats 4000000 in
set_option maxRecDepth 100000 in
theorem sp_X2_isThere (l : Launch) (ext : z_Sh) (h : z_H)   : z_Sp l 0 yX2_isThere cX2_isThere 1 (some .boolean) [.ref 4] (z_c ext) h (fun rv h' => rv = some (.int (fv_X2_isThere h )) ∧ h' = h) := by
  refine z_enter ft_X2 (by decide +kernel) fo_X2 (Nat.le_of_ble_eq_true rfl) ?_
  intro p e R s m args below meth c D dA ad hB
  have hC := hB.1
  have hN := hB.2.1
  have hR := hB.2.2.1
  refine z_go hC (pc' := 4) (ls' := [some (.ref 4)]) (st' := [.int (h.1 4 4)]) (h' := h) (cs := []) [.aload_n 0, .getfield 25] (by decide +kernel) rfl rfl trivial ?_
  refine z_if_le hC (off := 7) 11 (by decide +kernel) (by decide) (fun c1 => ?_) (fun c1 => ?_)
  · skip
    refine z_go hC (pc' := 12) (ls' := [some (.ref 4)]) (st' := [.int (nI 0)]) (h' := h) (cs := []) [.iconst 0] (by decide +kernel) rfl rfl trivial ?_
    exact z_ret_z hB rfl (by decide) (by decide +kernel) ⟨by rw [fv_X2_isThere, if_pos c1], rfl⟩
  · skip
    refine z_go hC (pc' := 8) (ls' := [some (.ref 4)]) (st' := [.int (nI 1)]) (h' := h) (cs := []) [.iconst 1] (by decide +kernel) rfl rfl trivial ?_
    refine z_goto hC (off := 4) 12 (by decide +kernel) (by decide) ?_
    exact z_ret_z hB rfl (by decide) (by decide +kernel) ⟨by rw [fv_X2_isThere, if_neg c1], rfl⟩

set_option maxHeartbeats 4000000 in
set_option maxRecDepth 100000 in
theorem sp_X2_size (l : Launch) (ext : z_Sh) (h : z_H)   : z_Sp l 0 yX2_size cX2_size 1 (some .int) [.ref 4] (z_c ext) h (fun rv h' => rv = some (.int (h.1 4 4)) ∧ h' = h) := by
  refine z_enter ft_X2 (by decide +kernel) fo_X2 (Nat.le_of_ble_eq_true rfl) ?_
  intro p e R s m args below meth c D dA ad hB
  have hC := hB.1
  have hN := hB.2.1
  have hR := hB.2.2.1
  refine z_go hC (pc' := 4) (ls' := [some (.ref 4)]) (st' := [.int (h.1 4 4)]) (h' := h) (cs := []) [.aload_n 0, .getfield 25] (by decide +kernel) rfl rfl trivial ?_
  exact z_ret_i hB rfl (by decide +kernel) ⟨rfl, rfl⟩

set_option maxHeartbeats 4000000 in
set_option maxRecDepth 100000 in
theorem sp_X2_placeWith (l : Launch) (ext : z_Sh) (h : z_H) (x : Int32)  : z_Sp l 1 yX2_placeWith cX2_placeWith 2 (some .int) [.ref 4, .int x] (z_c ext) h (fun rv h' => rv = some (.int (z_atv h 6 36 x)) ∧ h' = h) := by
  refine z_enter ft_X2 (by decide +kernel) fo_X2 (Nat.le_of_ble_eq_true rfl) ?_
  intro p e R s m args below meth c D dA ad hB
  have hC := hB.1
  have hN := hB.2.1
  have hR := hB.2.2.1
  refine z_go hC (pc' := 5) (ls' := [some (.ref 4), some (.int x)]) (st' := [.int x, .ref 6]) (h' := h) (cs := []) [.aload_n 0, .getfield 15, .iload_n 1] (by decide +kernel) rfl rfl trivial ?_
  refine z_callSN hC hN hR (as := [.ref 6, .int x]) (rest := []) ok_X2_29 (by decide +kernel) (sp_X7_at l _ h 6 36 [] x rfl (by decide)) (Nat.le_of_ble_eq_true rfl) rfl rfl (Nat.le_of_ble_eq_true rfl) ⟨Nat.zero_le _, Nat.zero_le _⟩ (fun r1 h2 q3 => z_fun q3 ?_)
  exact z_ret_i hB rfl (by decide +kernel) ⟨rfl, rfl⟩

set_option maxHeartbeats 4000000 in
set_option maxRecDepth 100000 in
theorem sp_X2_cellWith (l : Launch) (ext : z_Sh) (h : z_H) (x : Int32)  : z_Sp l 1 yX2_cellWith cX2_cellWith 2 (some .int) [.ref 4, .int x] (z_c ext) h (fun rv h' => rv = some (.int (z_atv h 5 36 x)) ∧ h' = h) := by
  refine z_enter ft_X2 (by decide +kernel) fo_X2 (Nat.le_of_ble_eq_true rfl) ?_
  intro p e R s m args below meth c D dA ad hB
  have hC := hB.1
  have hN := hB.2.1
  have hR := hB.2.2.1
  refine z_go hC (pc' := 5) (ls' := [some (.ref 4), some (.int x)]) (st' := [.int x, .ref 5]) (h' := h) (cs := []) [.aload_n 0, .getfield 9, .iload_n 1] (by decide +kernel) rfl rfl trivial ?_
  refine z_callSN hC hN hR (as := [.ref 5, .int x]) (rest := []) ok_X2_29 (by decide +kernel) (sp_X7_at l _ h 5 36 [] x rfl (by decide)) (Nat.le_of_ble_eq_true rfl) rfl rfl (Nat.le_of_ble_eq_true rfl) ⟨Nat.zero_le _, Nat.zero_le _⟩ (fun r1 h2 q3 => z_fun q3 ?_)
  exact z_ret_i hB rfl (by decide +kernel) ⟨rfl, rfl⟩

def fv_X2_wayBetween (h : z_H) (x : Int32) (y : Int32) : Int32 := if 0 ≤ ((z_atv h 6 36 y) - (z_atv h 6 36 x)) then (z_atv h 6 36 y) - (z_atv h 6 36 x) else ((z_atv h 6 36 y) - (z_atv h 6 36 x)) + (h.1 4 4)
set_option maxHeartbeats 4000000 in
set_option maxRecDepth 100000 in
theorem sp_X2_wayBetween (l : Launch) (ext : z_Sh) (h : z_H) (x : Int32) (y : Int32)  : z_Sp l 1 yX2_wayBetween cX2_wayBetween 4 (some .int) [.ref 4, .int x, .int y] (z_c ext) h (fun rv h' => rv = some (.int (fv_X2_wayBetween h x y)) ∧ h' = h) := by
  refine z_enter ft_X2 (by decide +kernel) fo_X2 (Nat.le_of_ble_eq_true rfl) ?_
  intro p e R s m args below meth c D dA ad hB
  have hC := hB.1
  have hN := hB.2.1
  have hR := hB.2.2.1
  refine z_go hC (pc' := 5) (ls' := [some (.ref 4), some (.int x), some (.int y), none]) (st' := [.int y, .ref 6]) (h' := h) (cs := []) [.aload_n 0, .getfield 15, .iload_n 2] (by decide +kernel) rfl rfl trivial ?_
  refine z_callSN hC hN hR (as := [.ref 6, .int y]) (rest := []) ok_X2_29 (by decide +kernel) (sp_X7_at l _ h 6 36 [] y rfl (by decide)) (Nat.le_of_ble_eq_true rfl) rfl rfl (Nat.le_of_ble_eq_true rfl) ⟨Nat.zero_le _, Nat.zero_le _⟩ (fun r1 h2 q3 => z_fun q3 ?_)
  refine z_go hC (pc' := 13) (ls' := [some (.ref 4), some (.int x), some (.int y), none]) (st' := [.int x, .ref 6, .int (z_atv h 6 36 y)]) (h' := h) (cs := []) [.aload_n 0, .getfield 15, .iload_n 1] (by decide +kernel) rfl rfl trivial ?_
  refine z_callSN hC hN hR (as := [.ref 6, .int x]) (rest := [.int (z_atv h 6 36 y)]) ok_X2_29 (by decide +kernel) (sp_X7_at l _ h 6 36 [] x rfl (by decide)) (Nat.le_of_ble_eq_true rfl) rfl rfl (Nat.le_of_ble_eq_true rfl) ⟨Nat.zero_le _, Nat.zero_le _⟩ (fun r4 h5 q6 => z_fun q6 ?_)
  refine z_go hC (pc' := 19) (ls' := [some (.ref 4), some (.int x), some (.int y), some (.int ((z_atv h 6 36 y) - (z_atv h 6 36 x)))]) (st' := [.int ((z_atv h 6 36 y) - (z_atv h 6 36 x))]) (h' := h) (cs := []) [.isub, .istore_n 3, .iload_n 3] (by decide +kernel) rfl rfl trivial ?_
  refine z_if_ge hC (off := 12) 31 (by decide +kernel) (by decide) (fun c7 => ?_) (fun c7 => ?_)
  · skip
    refine z_go hC (pc' := 32) (ls' := [some (.ref 4), some (.int x), some (.int y), some (.int ((z_atv h 6 36 y) - (z_atv h 6 36 x)))]) (st' := [.int ((z_atv h 6 36 y) - (z_atv h 6 36 x))]) (h' := h) (cs := []) [.iload_n 3] (by decide +kernel) rfl rfl trivial ?_
    exact z_ret_i hB rfl (by decide +kernel) ⟨by rw [fv_X2_wayBetween, if_pos c7], rfl⟩
  · skip
    refine z_go hC (pc' := 28) (ls' := [some (.ref 4), some (.int x), some (.int y), some (.int ((z_atv h 6 36 y) - (z_atv h 6 36 x)))]) (st' := [.int (((z_atv h 6 36 y) - (z_atv h 6 36 x)) + (h.1 4 4))]) (h' := h) (cs := []) [.iload_n 3, .aload_n 0, .getfield 25, .iadd] (by decide +kernel) rfl rfl trivial ?_
    refine z_goto hC (off := 4) 32 (by decide +kernel) (by decide) ?_
    exact z_ret_i hB rfl (by decide +kernel) ⟨by rw [fv_X2_wayBetween, if_neg c7], rfl⟩

def fv_X2_nextRoundTree (h : z_H) (x : Int32) : Int32 := if (fv_X0_treeHas h (fv_X0_linkOutOf (fv_X0_blockOf x) (fv_X2_cornerOf x))) = 0 then fv_X0_cellBeside x (((fv_X2_cornerOf x) + (nI 1)) - ((fv_X2_cornerOf x) + (nI 1)) / (nI 4) * (nI 4)) else fv_X0_cellBeside x (fv_X2_cornerOf x)
set_option maxHeartbeats 4000000 in
set_option maxRecDepth 100000 in
theorem sp_X2_nextRoundTree (l : Launch) (ext : z_Sh) (h : z_H) (x : Int32)  : z_Sp l 1 yX2_nextRoundTree cX2_nextRoundTree 4 (some .int) [.ref 4, .int x] (z_c ext) h (fun rv h' => rv = some (.int (fv_X2_nextRoundTree h x)) ∧ h' = h) := by
  refine z_enter ft_X2 (by decide +kernel) fo_X2 (Nat.le_of_ble_eq_true rfl) ?_
  intro p e R s m args below meth c D dA ad hB
  have hC := hB.1
  have hN := hB.2.1
  have hR := hB.2.2.1
  refine z_go hC (pc' := 1) (ls' := [some (.ref 4), some (.int x), none, none]) (st' := [.int x]) (h' := h) (cs := []) [.iload_n 1] (by decide +kernel) rfl rfl trivial ?_
  refine z_callS hC hN hR (as := [.int x]) (rest := []) ok_X2_57 (by decide +kernel) (sp_X2_cornerOf l _ h x) (Nat.le_of_ble_eq_true rfl) rfl rfl (Nat.le_of_ble_eq_true rfl) ⟨Nat.zero_le _, Nat.zero_le _⟩ (fun r1 h2 q3 => z_fun q3 ?_)
  refine z_go hC (pc' := 10) (ls' := [some (.ref 4), some (.int x), some (.int (fv_X2_cornerOf x)), none]) (st' := [.int x, .ref 1]) (h' := h) (cs := []) [.istore_n 2, .aload_n 0, .getfield 21, .iload_n 1] (by decide +kernel) rfl rfl trivial ?_
  refine z_callS hC hN hR (as := [.int x]) (rest := [.ref 1]) ok_X2_60 (by decide +kernel) (sp_X0_blockOf l _ h x) (Nat.le_of_ble_eq_true rfl) rfl rfl (Nat.le_of_ble_eq_true rfl) ⟨Nat.zero_le _, Nat.zero_le _⟩ (fun r4 h5 q6 => z_fun q6 ?_)
  refine z_go hC (pc' := 14) (ls' := [some (.ref 4), some (.int x), some (.int (fv_X2_cornerOf x)), none]) (st' := [.int (fv_X2_cornerOf x), .int (fv_X0_blockOf x), .ref 1]) (h' := h) (cs := []) [.iload_n 2] (by decide +kernel) rfl rfl trivial ?_
  refine z_callS hC hN hR (as := [.int (fv_X0_blockOf x), .int (fv_X2_cornerOf x)]) (rest := [.ref 1]) ok_X2_63 (by decide +kernel) (sp_X0_linkOutOf l _ h (fv_X0_blockOf x) (fv_X2_cornerOf x)) (Nat.le_of_ble_eq_true rfl) rfl rfl (Nat.le_of_ble_eq_true rfl) ⟨Nat.zero_le _, Nat.zero_le _⟩ (fun r7 h8 q9 => z_fun q9 ?_)
  refine z_callV hC hN hR (as := [.int (fv_X0_linkOutOf (fv_X0_blockOf x) (fv_X2_cornerOf x))]) (rest := []) ok_X2_67 (by decide +kernel) (sp_X0_treeHas l _ h (fv_X0_linkOutOf (fv_X0_blockOf x) (fv_X2_cornerOf x))) rfl rfl (Nat.le_of_ble_eq_true rfl) rfl rfl (Nat.le_of_ble_eq_true rfl) ⟨Nat.zero_le _, Nat.zero_le _⟩ (fun r10 h11 q12 => z_fun q12 ?_)
  refine z_go hC (pc' := 23) (ls' := [some (.ref 4), some (.int x), some (.int (fv_X2_cornerOf x)), some (.int (fv_X0_treeHas h (fv_X0_linkOutOf (fv_X0_blockOf x) (fv_X2_cornerOf x))))]) (st' := [.int (fv_X0_treeHas h (fv_X0_linkOutOf (fv_X0_blockOf x) (fv_X2_cornerOf x))), .int x]) (h' := h) (cs := []) [.istore_n 3, .iload_n 1, .iload_n 3] (by decide +kernel) rfl rfl trivial ?_
  refine z_if_eq hC (off := 7) 30 (by decide +kernel) (by decide) (fun c13 => ?_) (fun c13 => ?_)
  · skip
    refine z_go hC (pc' := 35) (ls' := [some (.ref 4), some (.int x), some (.int (fv_X2_cornerOf x)), some (.int (fv_X0_treeHas h (fv_X0_linkOutOf (fv_X0_blockOf x) (fv_X2_cornerOf x))))]) (st' := [.int (((fv_X2_cornerOf x) + (nI 1)) - ((fv_X2_cornerOf x) + (nI 1)) / (nI 4) * (nI 4)), .int x]) (h' := h) (cs := [¬ (nI 4) = 0]) [.iload_n 2, .iconst 1, .iadd, .iconst 4, .irem] (by decide +kernel) rfl rfl (show ¬ (nI 4) = 0 by decide) ?_
    refine z_callS hC hN hR (as := [.int x, .int (((fv_X2_cornerOf x) + (nI 1)) - ((fv_X2_cornerOf x) + (nI 1)) / (nI 4) * (nI 4))]) (rest := []) ok_X2_71 (by decide +kernel) (sp_X0_cellBeside l _ h x (((fv_X2_cornerOf x) + (nI 1)) - ((fv_X2_cornerOf x) + (nI 1)) / (nI 4) * (nI 4))) (Nat.le_of_ble_eq_true rfl) rfl rfl (Nat.le_of_ble_eq_true rfl) ⟨Nat.zero_le _, Nat.zero_le _⟩ (fun r14 h15 q16 => z_fun q16 ?_)
    exact z_ret_i hB rfl (by decide +kernel) ⟨by rw [fv_X2_nextRoundTree, if_pos c13], rfl⟩
  · skip
    refine z_go hC (pc' := 27) (ls' := [some (.ref 4), some (.int x), some (.int (fv_X2_cornerOf x)), some (.int (fv_X0_treeHas h (fv_X0_linkOutOf (fv_X0_blockOf x) (fv_X2_cornerOf x))))]) (st' := [.int (fv_X2_cornerOf x), .int x]) (h' := h) (cs := []) [.iload_n 2] (by decide +kernel) rfl rfl trivial ?_
    refine z_goto hC (off := 8) 35 (by decide +kernel) (by decide) ?_
    refine z_callS hC hN hR (as := [.int x, .int (fv_X2_cornerOf x)]) (rest := []) ok_X2_71 (by decide +kernel) (sp_X0_cellBeside l _ h x (fv_X2_cornerOf x)) (Nat.le_of_ble_eq_true rfl) rfl rfl (Nat.le_of_ble_eq_true rfl) ⟨Nat.zero_le _, Nat.zero_le _⟩ (fun r17 h18 q19 => z_fun q19 ?_)
    exact z_ret_i hB rfl (by decide +kernel) ⟨by rw [fv_X2_nextRoundTree, if_neg c13], rfl⟩

set_option maxHeartbeats 4000000 in
set_option maxRecDepth 100000 in
theorem sp_X2_makeRing (l : Launch) (ext : z_Sh) (h : z_H) (x : Int32)  : z_Sp l 1 yX2_makeRing cX2_makeRing 5 none [.ref 4, .int x] (z_c ext) h (fun rv h' => rv = none ∧ h' = z_putv (z_putv (z_putv (z_putv h 7 36 x (x + (nI 1))) 7 36 (x + (nI 1)) ((x + (nI 6)) + (nI 1))) 7 36 ((x + (nI 6)) + (nI 1)) (x + (nI 6))) 7 36 (x + (nI 6)) x) := by
  refine z_enter ft_X2 (by decide +kernel) fo_X2 (Nat.le_of_ble_eq_true rfl) ?_
  intro p e R s m args below meth c D dA ad hB
  have hC := hB.1
  have hN := hB.2.1
  have hR := hB.2.2.1
  refine z_go hC (pc' := 20) (ls' := [some (.ref 4), some (.int x), some (.int (x + (nI 1))), some (.int (x + (nI 6))), some (.int ((x + (nI 6)) + (nI 1)))]) (st' := [.int (x + (nI 1)), .int x, .ref 7]) (h' := h) (cs := []) [.iload_n 1, .iconst 1, .iadd, .istore_n 2, .iload_n 1, .bipush 6, .iadd, .istore_n 3, .iload_n 3, .iconst 1, .iadd, .istore 4, .aload_n 0, .getfield 18, .iload_n 1, .iload_n 2] (by decide +kernel) rfl rfl trivial ?_
  refine z_callSN hC hN hR (as := [.ref 7, .int x, .int (x + (nI 1))]) (rest := []) ok_X2_49 (by decide +kernel) (sp_X7_put l _ h 7 36 [] x (x + (nI 1)) rfl (by decide)) (Nat.le_of_ble_eq_true rfl) rfl rfl (Nat.le_of_ble_eq_true rfl) ⟨Nat.zero_le _, Nat.zero_le _⟩ (fun r1 h2 q3 => z_fun q3 ?_)
  refine z_go hC (pc' := 30) (ls' := [some (.ref 4), some (.int x), some (.int (x + (nI 1))), some (.int (x + (nI 6))), some (.int ((x + (nI 6)) + (nI 1)))]) (st' := [.int ((x + (nI 6)) + (nI 1)), .int (x + (nI 1)), .ref 7]) (h' := z_putv h 7 36 x (x + (nI 1))) (cs := []) [.aload_n 0, .getfield 18, .iload_n 2, .iload 4] (by decide +kernel) rfl rfl trivial ?_
  refine z_callSN hC hN hR (as := [.ref 7, .int (x + (nI 1)), .int ((x + (nI 6)) + (nI 1))]) (rest := []) ok_X2_49 (by decide +kernel) (sp_X7_put l _ (z_putv h 7 36 x (x + (nI 1))) 7 36 [] (x + (nI 1)) ((x + (nI 6)) + (nI 1)) rfl (by decide)) (Nat.le_of_ble_eq_true rfl) rfl rfl (Nat.le_of_ble_eq_true rfl) ⟨Nat.zero_le _, Nat.zero_le _⟩ (fun r4 h5 q6 => z_fun q6 ?_)
  refine z_go hC (pc' := 40) (ls' := [some (.ref 4), some (.int x), some (.int (x + (nI 1))), some (.int (x + (nI 6))), some (.int ((x + (nI 6)) + (nI 1)))]) (st' := [.int (x + (nI 6)), .int ((x + (nI 6)) + (nI 1)), .ref 7]) (h' := z_putv (z_putv h 7 36 x (x + (nI 1))) 7 36 (x + (nI 1)) ((x + (nI 6)) + (nI 1))) (cs := []) [.aload_n 0, .getfield 18, .iload 4, .iload_n 3] (by decide +kernel) rfl rfl trivial ?_
  refine z_callSN hC hN hR (as := [.ref 7, .int ((x + (nI 6)) + (nI 1)), .int (x + (nI 6))]) (rest := []) ok_X2_49 (by decide +kernel) (sp_X7_put l _ (z_putv (z_putv h 7 36 x (x + (nI 1))) 7 36 (x + (nI 1)) ((x + (nI 6)) + (nI 1))) 7 36 [] ((x + (nI 6)) + (nI 1)) (x + (nI 6)) rfl (by decide)) (Nat.le_of_ble_eq_true rfl) rfl rfl (Nat.le_of_ble_eq_true rfl) ⟨Nat.zero_le _, Nat.zero_le _⟩ (fun r7 h8 q9 => z_fun q9 ?_)
  refine z_go hC (pc' := 49) (ls' := [some (.ref 4), some (.int x), some (.int (x + (nI 1))), some (.int (x + (nI 6))), some (.int ((x + (nI 6)) + (nI 1)))]) (st' := [.int x, .int (x + (nI 6)), .ref 7]) (h' := z_putv (z_putv (z_putv h 7 36 x (x + (nI 1))) 7 36 (x + (nI 1)) ((x + (nI 6)) + (nI 1))) 7 36 ((x + (nI 6)) + (nI 1)) (x + (nI 6))) (cs := []) [.aload_n 0, .getfield 18, .iload_n 3, .iload_n 1] (by decide +kernel) rfl rfl trivial ?_
  refine z_callSN hC hN hR (as := [.ref 7, .int (x + (nI 6)), .int x]) (rest := []) ok_X2_49 (by decide +kernel) (sp_X7_put l _ (z_putv (z_putv (z_putv h 7 36 x (x + (nI 1))) 7 36 (x + (nI 1)) ((x + (nI 6)) + (nI 1))) 7 36 ((x + (nI 6)) + (nI 1)) (x + (nI 6))) 7 36 [] (x + (nI 6)) x rfl (by decide)) (Nat.le_of_ble_eq_true rfl) rfl rfl (Nat.le_of_ble_eq_true rfl) ⟨Nat.zero_le _, Nat.zero_le _⟩ (fun r10 h11 q12 => z_fun q12 ?_)
  exact z_ret_v hB rfl (by decide +kernel) ⟨rfl, rfl⟩
