/-! ===== printed by wip/p27/gen: leaf methods of the class, mirrored ===== -/
def fv_X7_setOf (x : Int32) : Int64 := 1 <<< (x.toInt64 &&& 63)
set_option maxHeartbeats 4000000 in
set_option maxRecDepth 100000 in
theorem sp_X7_setOf (l : Launch) (sh : z_Sh) (h : z_H) (x : Int32)  : z_Sp l 0 yX7_setOf cX7_setOf 1 (some .long) [.int x] (sh) h (fun rv h' => rv = some (.long (fv_X7_setOf x)) ∧ h' = h) := by
  refine z_enter ft_X7 (by decide +kernel) fo_X7 (Nat.le_of_ble_eq_true rfl) ?_
  intro p e R s m args below meth c D dA ad hB
  have hC := hB.1
  have hN := hB.2.1
  have hR := hB.2.2.1
  refine z_go hC (pc' := 3) (ls' := [some (.int x)]) (st' := [.long (1 <<< (x.toInt64 &&& 63))]) (h' := h) (cs := []) [.lconst 1, .iload_n 0, .lshl] (by decide +kernel) rfl rfl trivial ?_
  exact z_ret_l hB rfl (by decide +kernel) ⟨by rw [fv_X7_setOf], rfl⟩

def fv_X7_isIn (y : Int64) (x : Int32) : Int32 := if (lg_cmp (y &&& (fv_X7_setOf x)) 0) = 0 then nI 0 else nI 1
theorem zb_X7_isIn (y : Int64) (x : Int32) : fv_X7_isIn y x = 0 ∨ fv_X7_isIn y x = 1 := by unfold fv_X7_isIn; (repeat' split) <;> first | decide
set_option maxHeartbeats 4000000 in
set_option maxRecDepth 100000 in
theorem sp_X7_isIn (l : Launch) (sh : z_Sh) (h : z_H) (y : Int64) (x : Int32)  : z_Sp l 1 yX7_isIn cX7_isIn 3 (some .boolean) [.long y, .int x] (sh) h (fun rv h' => rv = some (.int (fv_X7_isIn y x)) ∧ h' = h) := by
  refine z_enter ft_X7 (by decide +kernel) fo_X7 (Nat.le_of_ble_eq_true rfl) ?_
  intro p e R s m args below meth c D dA ad hB
  have hC := hB.1
  have hN := hB.2.1
  have hR := hB.2.2.1
  refine z_go hC (pc' := 2) (ls' := [some (.long y), none, some (.int x)]) (st' := [.int x, .long y]) (h' := h) (cs := []) [.lload_n 0, .iload_n 2] (by decide +kernel) rfl rfl trivial ?_
  refine z_callS hC hN hR (as := [.int x]) (rest := [.long y]) ok_X7_212 (by decide +kernel) (sp_X7_setOf l _ h x) (Nat.le_of_ble_eq_true rfl) rfl rfl (Nat.le_of_ble_eq_true rfl) ⟨Nat.zero_le _, Nat.zero_le _⟩ (fun r1 h2 q3 => z_fun q3 ?_)
  refine z_go hC (pc' := 8) (ls' := [some (.long y), none, some (.int x)]) (st' := [.int (lg_cmp (y &&& (fv_X7_setOf x)) 0)]) (h' := h) (cs := []) [.land, .lconst 0, .lcmp] (by decide +kernel) rfl rfl trivial ?_
  refine z_if_eq hC (off := 7) 15 (by decide +kernel) (by decide) (fun c4 => ?_) (fun c4 => ?_)
  · skip
    refine z_go hC (pc' := 16) (ls' := [some (.long y), none, some (.int x)]) (st' := [.int (nI 0)]) (h' := h) (cs := []) [.iconst 0] (by decide +kernel) rfl rfl trivial ?_
    exact z_ret_z hB rfl (by decide) (by decide +kernel) ⟨by rw [fv_X7_isIn, if_pos c4], rfl⟩
  · skip
    refine z_go hC (pc' := 12) (ls' := [some (.long y), none, some (.int x)]) (st' := [.int (nI 1)]) (h' := h) (cs := []) [.iconst 1] (by decide +kernel) rfl rfl trivial ?_
    refine z_goto hC (off := 4) 16 (by decide +kernel) (by decide) ?_
    exact z_ret_z hB rfl (by decide) (by decide +kernel) ⟨by rw [fv_X7_isIn, if_neg c4], rfl⟩

def fv_X0_blockOf (x : Int32) : Int32 := ((nI 3) * ((x / (nI 6)) / (nI 2))) + ((x - x / (nI 6) * (nI 6)) / (nI 2))
set_option maxHeartbeats 4000000 in
set_option maxRecDepth 100000 in
theorem sp_X0_blockOf (l : Launch) (sh : z_Sh) (h : z_H) (x : Int32)  : z_Sp l 0 yX0_blockOf cX0_blockOf 3 (some .int) [.int x] (sh) h (fun rv h' => rv = some (.int (fv_X0_blockOf x)) ∧ h' = h) := by
  refine z_enter ft_X0 (by decide +kernel) fo_X0 (Nat.le_of_ble_eq_true rfl) ?_
  intro p e R s m args below meth c D dA ad hB
  have hC := hB.1
  have hN := hB.2.1
  have hR := hB.2.2.1
  refine z_go hC (pc' := 19) (ls' := [some (.int x), some (.int ((x / (nI 6)) / (nI 2))), some (.int ((x - x / (nI 6) * (nI 6)) / (nI 2)))]) (st' := [.int (((nI 3) * ((x / (nI 6)) / (nI 2))) + ((x - x / (nI 6) * (nI 6)) / (nI 2)))]) (h' := h) (cs := [¬ (nI 6) = 0, ¬ (nI 2) = 0, ¬ (nI 6) = 0, ¬ (nI 2) = 0]) [.iload_n 0, .bipush 6, .idiv, .iconst 2, .idiv, .istore_n 1, .iload_n 0, .bipush 6, .irem, .iconst 2, .idiv, .istore_n 2, .iconst 3, .iload_n 1, .imul, .iload_n 2, .iadd] (by decide +kernel) rfl rfl ⟨(show ¬ (nI 6) = 0 by decide), (show ¬ (nI 2) = 0 by decide), (show ¬ (nI 6) = 0 by decide), (show ¬ (nI 2) = 0 by decide)⟩ ?_
  exact z_ret_i hB rfl (by decide +kernel) ⟨by rw [fv_X0_blockOf], rfl⟩

def fv_X0_upperLeftOf (x : Int32) : Int32 := ((nI 12) * (x / (nI 3))) + ((nI 2) * (x - x / (nI 3) * (nI 3)))
set_option maxHeartbeats 4000000 in
set_option maxRecDepth 100000 in
theorem sp_X0_upperLeftOf (l : Launch) (sh : z_Sh) (h : z_H) (x : Int32)  : z_Sp l 0 yX0_upperLeftOf cX0_upperLeftOf 3 (some .int) [.int x] (sh) h (fun rv h' => rv = some (.int (fv_X0_upperLeftOf x)) ∧ h' = h) := by
  refine z_enter ft_X0 (by decide +kernel) fo_X0 (Nat.le_of_ble_eq_true rfl) ?_
  intro p e R s m args below meth c D dA ad hB
  have hC := hB.1
  have hN := hB.2.1
  have hR := hB.2.2.1
  refine z_go hC (pc' := 16) (ls' := [some (.int x), some (.int (x / (nI 3))), some (.int (x - x / (nI 3) * (nI 3)))]) (st' := [.int (((nI 12) * (x / (nI 3))) + ((nI 2) * (x - x / (nI 3) * (nI 3))))]) (h' := h) (cs := [¬ (nI 3) = 0, ¬ (nI 3) = 0]) [.iload_n 0, .iconst 3, .idiv, .istore_n 1, .iload_n 0, .iconst 3, .irem, .istore_n 2, .bipush 12, .iload_n 1, .imul, .iconst 2, .iload_n 2, .imul, .iadd] (by decide +kernel) rfl rfl ⟨(show ¬ (nI 3) = 0 by decide), (show ¬ (nI 3) = 0 by decide)⟩ ?_
  exact z_ret_i hB rfl (by decide +kernel) ⟨by rw [fv_X0_upperLeftOf], rfl⟩

def fv_X0_firstBlockOf (x : Int32) : Int32 := if x < (nI 6) then ((nI 3) * (x / (nI 2))) + (x - x / (nI 2) * (nI 2)) else x - (nI 6)
set_option maxHeartbeats 4000000 in
set_option maxRecDepth 100000 in
theorem sp_X0_firstBlockOf (l : Launch) (sh : z_Sh) (h : z_H) (x : Int32)  : z_Sp l 0 yX0_firstBlockOf cX0_firstBlockOf 1 (some .int) [.int x] (sh) h (fun rv h' => rv = some (.int (fv_X0_firstBlockOf x)) ∧ h' = h) := by
  refine z_enter ft_X0 (by decide +kernel) fo_X0 (Nat.le_of_ble_eq_true rfl) ?_
  intro p e R s m args below meth c D dA ad hB
  have hC := hB.1
  have hN := hB.2.1
  have hR := hB.2.2.1
  refine z_go hC (pc' := 3) (ls' := [some (.int x)]) (st' := [.int (nI 6), .int x]) (h' := h) (cs := []) [.iload_n 0, .bipush 6] (by decide +kernel) rfl rfl trivial ?_
  refine z_icmp_lt hC (off := 8) 11 (by decide +kernel) (by decide) (fun c1 => ?_) (fun c1 => ?_)
  · skip
    refine z_go hC (pc' := 20) (ls' := [some (.int x)]) (st' := [.int (((nI 3) * (x / (nI 2))) + (x - x / (nI 2) * (nI 2)))]) (h' := h) (cs := [¬ (nI 2) = 0, ¬ (nI 2) = 0]) [.iconst 3, .iload_n 0, .iconst 2, .idiv, .imul, .iload_n 0, .iconst 2, .irem, .iadd] (by decide +kernel) rfl rfl ⟨(show ¬ (nI 2) = 0 by decide), (show ¬ (nI 2) = 0 by decide)⟩ ?_
    exact z_ret_i hB rfl (by decide +kernel) ⟨by rw [fv_X0_firstBlockOf, if_pos c1], rfl⟩
  · skip
    refine z_go hC (pc' := 10) (ls' := [some (.int x)]) (st' := [.int (x - (nI 6))]) (h' := h) (cs := []) [.iload_n 0, .bipush 6, .isub] (by decide +kernel) rfl rfl trivial ?_
    exact z_ret_i hB rfl (by decide +kernel) ⟨by rw [fv_X0_firstBlockOf, if_neg c1], rfl⟩

def fv_X0_secondBlockOf (x : Int32) : Int32 := if x < (nI 6) then (fv_X0_firstBlockOf x) + (nI 1) else (fv_X0_firstBlockOf x) + (nI 3)
set_option maxHeartbeats 4000000 in
set_option maxRecDepth 100000 in
theorem sp_X0_secondBlockOf (l : Launch) (sh : z_Sh) (h : z_H) (x : Int32)  : z_Sp l 1 yX0_secondBlockOf cX0_secondBlockOf 1 (some .int) [.int x] (sh) h (fun rv h' => rv = some (.int (fv_X0_secondBlockOf x)) ∧ h' = h) := by
  refine z_enter ft_X0 (by decide +kernel) fo_X0 (Nat.le_of_ble_eq_true rfl) ?_
  intro p e R s m args below meth c D dA ad hB
  have hC := hB.1
  have hN := hB.2.1
  have hR := hB.2.2.1
  refine z_go hC (pc' := 1) (ls' := [some (.int x)]) (st' := [.int x]) (h' := h) (cs := []) [.iload_n 0] (by decide +kernel) rfl rfl trivial ?_
  refine z_callS hC hN hR (as := [.int x]) (rest := []) ok_X0_18 (by decide +kernel) (sp_X0_firstBlockOf l _ h x) (Nat.le_of_ble_eq_true rfl) rfl rfl (Nat.le_of_ble_eq_true rfl) ⟨Nat.zero_le _, Nat.zero_le _⟩ (fun r1 h2 q3 => z_fun q3 ?_)
  refine z_go hC (pc' := 7) (ls' := [some (.int x)]) (st' := [.int (nI 6), .int x, .int (fv_X0_firstBlockOf x)]) (h' := h) (cs := []) [.iload_n 0, .bipush 6] (by decide +kernel) rfl rfl trivial ?_
  refine z_icmp_lt hC (off := 7) 14 (by decide +kernel) (by decide) (fun c4 => ?_) (fun c4 => ?_)
  · skip
    refine z_go hC (pc' := 16) (ls' := [some (.int x)]) (st' := [.int ((fv_X0_firstBlockOf x) + (nI 1))]) (h' := h) (cs := []) [.iconst 1, .iadd] (by decide +kernel) rfl rfl trivial ?_
    exact z_ret_i hB rfl (by decide +kernel) ⟨by rw [fv_X0_secondBlockOf, if_pos c4], rfl⟩
  · skip
    refine z_go hC (pc' := 11) (ls' := [some (.int x)]) (st' := [.int (nI 3), .int (fv_X0_firstBlockOf x)]) (h' := h) (cs := []) [.iconst 3] (by decide +kernel) rfl rfl trivial ?_
    refine z_goto hC (off := 4) 15 (by decide +kernel) (by decide) ?_
    refine z_go hC (pc' := 16) (ls' := [some (.int x)]) (st' := [.int ((fv_X0_firstBlockOf x) + (nI 3))]) (h' := h) (cs := []) [.iadd] (by decide +kernel) rfl rfl trivial ?_
    exact z_ret_i hB rfl (by decide +kernel) ⟨by rw [fv_X0_secondBlockOf, if_neg c4], rfl⟩

def fv_X0_linkOutOf (x : Int32) (y : Int32) : Int32 := if y = nI 0 then if (x / (nI 3)) ≤ 0 then (-1) else ((nI 6) + x) - (nI 3) else if y = nI 1 then if (nI 2) ≤ (x - x / (nI 3) * (nI 3)) then (-1) else ((nI 2) * (x / (nI 3))) + (x - x / (nI 3) * (nI 3)) else if y = nI 2 then if (nI 2) ≤ (x / (nI 3)) then (-1) else (nI 6) + x else if (x - x / (nI 3) * (nI 3)) ≤ 0 then (-1) else (((nI 2) * (x / (nI 3))) + (x - x / (nI 3) * (nI 3))) - (nI 1)
set_option maxHeartbeats 4000000 in
set_option maxRecDepth 100000 in
theorem sp_X0_linkOutOf (l : Launch) (sh : z_Sh) (h : z_H) (x : Int32) (y : Int32)  : z_Sp l 0 yX0_linkOutOf cX0_linkOutOf 4 (some .int) [.int x, .int y] (sh) h (fun rv h' => rv = some (.int (fv_X0_linkOutOf x y)) ∧ h' = h) := by
  refine z_enter ft_X0 (by decide +kernel) fo_X0 (Nat.le_of_ble_eq_true rfl) ?_
  intro p e R s m args below meth c D dA ad hB
  have hC := hB.1
  have hN := hB.2.1
  have hR := hB.2.2.1
  refine z_go hC (pc' := 9) (ls' := [some (.int x), some (.int y), some (.int (x / (nI 3))), some (.int (x - x / (nI 3) * (nI 3)))]) (st' := [.int y]) (h' := h) (cs := [¬ (nI 3) = 0, ¬ (nI 3) = 0]) [.iload_n 0, .iconst 3, .idiv, .istore_n 2, .iload_n 0, .iconst 3, .irem, .istore_n 3, .iload_n 1] (by decide +kernel) rfl rfl ⟨(show ¬ (nI 3) = 0 by decide), (show ¬ (nI 3) = 0 by decide)⟩ ?_
  by_cases c1 : y = nI 0
  · skip
    refine z_tabIn hC (dflt := 71) (lo := 0) (hi := 2) (offs := #[27, 42, 57]) (len := 27) (off := 27) 36 (by decide +kernel) (by rw [c1]; decide) (by rw [c1]; decide) (by rw [c1]; rfl) (by decide) ?_
    refine z_go hC (pc' := 37) (ls' := [some (.int x), some (.int y), some (.int (x / (nI 3))), some (.int (x - x / (nI 3) * (nI 3)))]) (st' := [.int (x / (nI 3))]) (h' := h) (cs := []) [.iload_n 2] (by decide +kernel) rfl rfl trivial ?_
    refine z_if_le hC (off := 12) 49 (by decide +kernel) (by decide) (fun c2 => ?_) (fun c2 => ?_)
    · skip
      refine z_go hC (pc' := 50) (ls' := [some (.int x), some (.int y), some (.int (x / (nI 3))), some (.int (x - x / (nI 3) * (nI 3)))]) (st' := [.int (-1)]) (h' := h) (cs := []) [.iconst (-1)] (by decide +kernel) rfl rfl trivial ?_
      exact z_ret_i hB rfl (by decide +kernel) ⟨by rw [fv_X0_linkOutOf, if_pos c1, if_pos c2], rfl⟩
    · skip
      refine z_go hC (pc' := 46) (ls' := [some (.int x), some (.int y), some (.int (x / (nI 3))), some (.int (x - x / (nI 3) * (nI 3)))]) (st' := [.int (((nI 6) + x) - (nI 3))]) (h' := h) (cs := []) [.bipush 6, .iload_n 0, .iadd, .iconst 3, .isub] (by decide +kernel) rfl rfl trivial ?_
      refine z_goto hC (off := 4) 50 (by decide +kernel) (by decide) ?_
      exact z_ret_i hB rfl (by decide +kernel) ⟨by rw [fv_X0_linkOutOf, if_pos c1, if_neg c2], rfl⟩
  by_cases c3 : y = nI 1
  · skip
    refine z_tabIn hC (dflt := 71) (lo := 0) (hi := 2) (offs := #[27, 42, 57]) (len := 27) (off := 42) 51 (by decide +kernel) (by rw [c3]; decide) (by rw [c3]; decide) (by rw [c3]; rfl) (by decide) ?_
    refine z_go hC (pc' := 53) (ls' := [some (.int x), some (.int y), some (.int (x / (nI 3))), some (.int (x - x / (nI 3) * (nI 3)))]) (st' := [.int (nI 2), .int (x - x / (nI 3) * (nI 3))]) (h' := h) (cs := []) [.iload_n 3, .iconst 2] (by decide +kernel) rfl rfl trivial ?_
    refine z_icmp_ge hC (off := 11) 64 (by decide +kernel) (by decide) (fun c4 => ?_) (fun c4 => ?_)
    · skip
      refine z_go hC (pc' := 65) (ls' := [some (.int x), some (.int y), some (.int (x / (nI 3))), some (.int (x - x / (nI 3) * (nI 3)))]) (st' := [.int (-1)]) (h' := h) (cs := []) [.iconst (-1)] (by decide +kernel) rfl rfl trivial ?_
      exact z_ret_i hB rfl (by decide +kernel) ⟨by rw [fv_X0_linkOutOf, if_neg c1, if_pos c3, if_pos c4], rfl⟩
    · skip
      refine z_go hC (pc' := 61) (ls' := [some (.int x), some (.int y), some (.int (x / (nI 3))), some (.int (x - x / (nI 3) * (nI 3)))]) (st' := [.int (((nI 2) * (x / (nI 3))) + (x - x / (nI 3) * (nI 3)))]) (h' := h) (cs := []) [.iconst 2, .iload_n 2, .imul, .iload_n 3, .iadd] (by decide +kernel) rfl rfl trivial ?_
      refine z_goto hC (off := 4) 65 (by decide +kernel) (by decide) ?_
      exact z_ret_i hB rfl (by decide +kernel) ⟨by rw [fv_X0_linkOutOf, if_neg c1, if_pos c3, if_neg c4], rfl⟩
  by_cases c5 : y = nI 2
  · skip
    refine z_tabIn hC (dflt := 71) (lo := 0) (hi := 2) (offs := #[27, 42, 57]) (len := 27) (off := 57) 66 (by decide +kernel) (by rw [c5]; decide) (by rw [c5]; decide) (by rw [c5]; rfl) (by decide) ?_
    refine z_go hC (pc' := 68) (ls' := [some (.int x), some (.int y), some (.int (x / (nI 3))), some (.int (x - x / (nI 3) * (nI 3)))]) (st' := [.int (nI 2), .int (x / (nI 3))]) (h' := h) (cs := []) [.iload_n 2, .iconst 2] (by decide +kernel) rfl rfl trivial ?_
    refine z_icmp_ge hC (off := 10) 78 (by decide +kernel) (by decide) (fun c6 => ?_) (fun c6 => ?_)
    · skip
      refine z_go hC (pc' := 79) (ls' := [some (.int x), some (.int y), some (.int (x / (nI 3))), some (.int (x - x / (nI 3) * (nI 3)))]) (st' := [.int (-1)]) (h' := h) (cs := []) [.iconst (-1)] (by decide +kernel) rfl rfl trivial ?_
      exact z_ret_i hB rfl (by decide +kernel) ⟨by rw [fv_X0_linkOutOf, if_neg c1, if_neg c3, if_pos c5, if_pos c6], rfl⟩
    · skip
      refine z_go hC (pc' := 75) (ls' := [some (.int x), some (.int y), some (.int (x / (nI 3))), some (.int (x - x / (nI 3) * (nI 3)))]) (st' := [.int ((nI 6) + x)]) (h' := h) (cs := []) [.bipush 6, .iload_n 0, .iadd] (by decide +kernel) rfl rfl trivial ?_
      refine z_goto hC (off := 4) 79 (by decide +kernel) (by decide) ?_
      exact z_ret_i hB rfl (by decide +kernel) ⟨by rw [fv_X0_linkOutOf, if_neg c1, if_neg c3, if_pos c5, if_neg c6], rfl⟩
  refine z_tabOut hC (dflt := 71) (lo := 0) (hi := 2) (offs := #[27, 42, 57]) (len := 27) 80 (by decide +kernel) (z_tab3 c1 c3 c5) (by decide) ?_
  refine z_go hC (pc' := 81) (ls' := [some (.int x), some (.int y), some (.int (x / (nI 3))), some (.int (x - x / (nI 3) * (nI 3)))]) (st' := [.int (x - x / (nI 3) * (nI 3))]) (h' := h) (cs := []) [.iload_n 3] (by decide +kernel) rfl rfl trivial ?_
  refine z_if_le hC (off := 13) 94 (by decide +kernel) (by decide) (fun c7 => ?_) (fun c7 => ?_)
  · skip
    refine z_go hC (pc' := 95) (ls' := [some (.int x), some (.int y), some (.int (x / (nI 3))), some (.int (x - x / (nI 3) * (nI 3)))]) (st' := [.int (-1)]) (h' := h) (cs := []) [.iconst (-1)] (by decide +kernel) rfl rfl trivial ?_
    exact z_ret_i hB rfl (by decide +kernel) ⟨by rw [fv_X0_linkOutOf, if_neg c1, if_neg c3, if_neg c5, if_pos c7], rfl⟩
  · skip
    refine z_go hC (pc' := 91) (ls' := [some (.int x), some (.int y), some (.int (x / (nI 3))), some (.int (x - x / (nI 3) * (nI 3)))]) (st' := [.int ((((nI 2) * (x / (nI 3))) + (x - x / (nI 3) * (nI 3))) - (nI 1))]) (h' := h) (cs := []) [.iconst 2, .iload_n 2, .imul, .iload_n 3, .iadd, .iconst 1, .isub] (by decide +kernel) rfl rfl trivial ?_
    refine z_goto hC (off := 4) 95 (by decide +kernel) (by decide) ?_
    exact z_ret_i hB rfl (by decide +kernel) ⟨by rw [fv_X0_linkOutOf, if_neg c1, if_neg c3, if_neg c5, if_neg c7], rfl⟩

def fv_X0_cellBeside (x : Int32) (y : Int32) : Int32 := if y = nI 0 then if x < (nI 6) then (-1) else x - (nI 6) else if y = nI 1 then if (nI 5) ≤ (x - x / (nI 6) * (nI 6)) then (-1) else x + (nI 1) else if y = nI 2 then if (nI 30) ≤ x then (-1) else x + (nI 6) else if (x - x / (nI 6) * (nI 6)) ≤ 0 then (-1) else x - (nI 1)
set_option maxHeartbeats 4000000 in
set_option maxRecDepth 100000 in
theorem sp_X0_cellBeside (l : Launch) (sh : z_Sh) (h : z_H) (x : Int32) (y : Int32)  : z_Sp l 0 yX0_cellBeside cX0_cellBeside 3 (some .int) [.int x, .int y] (sh) h (fun rv h' => rv = some (.int (fv_X0_cellBeside x y)) ∧ h' = h) := by
  refine z_enter ft_X0 (by decide +kernel) fo_X0 (Nat.le_of_ble_eq_true rfl) ?_
  intro p e R s m args below meth c D dA ad hB
  have hC := hB.1
  have hN := hB.2.1
  have hR := hB.2.2.1
  refine z_go hC (pc' := 6) (ls' := [some (.int x), some (.int y), some (.int (x - x / (nI 6) * (nI 6)))]) (st' := [.int y]) (h' := h) (cs := [¬ (nI 6) = 0]) [.iload_n 0, .bipush 6, .irem, .istore_n 2, .iload_n 1] (by decide +kernel) rfl rfl (show ¬ (nI 6) = 0 by decide) ?_
  by_cases c1 : y = nI 0
  · skip
    refine z_tabIn hC (dflt := 69) (lo := 0) (hi := 2) (offs := #[26, 41, 54]) (len := 26) (off := 26) 32 (by decide +kernel) (by rw [c1]; decide) (by rw [c1]; decide) (by rw [c1]; rfl) (by decide) ?_
    refine z_go hC (pc' := 35) (ls' := [some (.int x), some (.int y), some (.int (x - x / (nI 6) * (nI 6)))]) (st' := [.int (nI 6), .int x]) (h' := h) (cs := []) [.iload_n 0, .bipush 6] (by decide +kernel) rfl rfl trivial ?_
    refine z_icmp_lt hC (off := 10) 45 (by decide +kernel) (by decide) (fun c2 => ?_) (fun c2 => ?_)
    · skip
      refine z_go hC (pc' := 46) (ls' := [some (.int x), some (.int y), some (.int (x - x / (nI 6) * (nI 6)))]) (st' := [.int (-1)]) (h' := h) (cs := []) [.iconst (-1)] (by decide +kernel) rfl rfl trivial ?_
      exact z_ret_i hB rfl (by decide +kernel) ⟨by rw [fv_X0_cellBeside, if_pos c1, if_pos c2], rfl⟩
    · skip
      refine z_go hC (pc' := 42) (ls' := [some (.int x), some (.int y), some (.int (x - x / (nI 6) * (nI 6)))]) (st' := [.int (x - (nI 6))]) (h' := h) (cs := []) [.iload_n 0, .bipush 6, .isub] (by decide +kernel) rfl rfl trivial ?_
      refine z_goto hC (off := 4) 46 (by decide +kernel) (by decide) ?_
      exact z_ret_i hB rfl (by decide +kernel) ⟨by rw [fv_X0_cellBeside, if_pos c1, if_neg c2], rfl⟩
  by_cases c3 : y = nI 1
  · skip
    refine z_tabIn hC (dflt := 69) (lo := 0) (hi := 2) (offs := #[26, 41, 54]) (len := 26) (off := 41) 47 (by decide +kernel) (by rw [c3]; decide) (by rw [c3]; decide) (by rw [c3]; rfl) (by decide) ?_
    refine z_go hC (pc' := 49) (ls' := [some (.int x), some (.int y), some (.int (x - x / (nI 6) * (nI 6)))]) (st' := [.int (nI 5), .int (x - x / (nI 6) * (nI 6))]) (h' := h) (cs := []) [.iload_n 2, .iconst 5] (by decide +kernel) rfl rfl trivial ?_
    refine z_icmp_ge hC (off := 9) 58 (by decide +kernel) (by decide) (fun c4 => ?_) (fun c4 => ?_)
    · skip
      refine z_go hC (pc' := 59) (ls' := [some (.int x), some (.int y), some (.int (x - x / (nI 6) * (nI 6)))]) (st' := [.int (-1)]) (h' := h) (cs := []) [.iconst (-1)] (by decide +kernel) rfl rfl trivial ?_
      exact z_ret_i hB rfl (by decide +kernel) ⟨by rw [fv_X0_cellBeside, if_neg c1, if_pos c3, if_pos c4], rfl⟩
    · skip
      refine z_go hC (pc' := 55) (ls' := [some (.int x), some (.int y), some (.int (x - x / (nI 6) * (nI 6)))]) (st' := [.int (x + (nI 1))]) (h' := h) (cs := []) [.iload_n 0, .iconst 1, .iadd] (by decide +kernel) rfl rfl trivial ?_
      refine z_goto hC (off := 4) 59 (by decide +kernel) (by decide) ?_
      exact z_ret_i hB rfl (by decide +kernel) ⟨by rw [fv_X0_cellBeside, if_neg c1, if_pos c3, if_neg c4], rfl⟩
  by_cases c5 : y = nI 2
  · skip
    refine z_tabIn hC (dflt := 69) (lo := 0) (hi := 2) (offs := #[26, 41, 54]) (len := 26) (off := 54) 60 (by decide +kernel) (by rw [c5]; decide) (by rw [c5]; decide) (by rw [c5]; rfl) (by decide) ?_
    refine z_go hC (pc' := 63) (ls' := [some (.int x), some (.int y), some (.int (x - x / (nI 6) * (nI 6)))]) (st' := [.int (nI 30), .int x]) (h' := h) (cs := []) [.iload_n 0, .bipush 30] (by decide +kernel) rfl rfl trivial ?_
    refine z_icmp_ge hC (off := 10) 73 (by decide +kernel) (by decide) (fun c6 => ?_) (fun c6 => ?_)
    · skip
      refine z_go hC (pc' := 74) (ls' := [some (.int x), some (.int y), some (.int (x - x / (nI 6) * (nI 6)))]) (st' := [.int (-1)]) (h' := h) (cs := []) [.iconst (-1)] (by decide +kernel) rfl rfl trivial ?_
      exact z_ret_i hB rfl (by decide +kernel) ⟨by rw [fv_X0_cellBeside, if_neg c1, if_neg c3, if_pos c5, if_pos c6], rfl⟩
    · skip
      refine z_go hC (pc' := 70) (ls' := [some (.int x), some (.int y), some (.int (x - x / (nI 6) * (nI 6)))]) (st' := [.int (x + (nI 6))]) (h' := h) (cs := []) [.iload_n 0, .bipush 6, .iadd] (by decide +kernel) rfl rfl trivial ?_
      refine z_goto hC (off := 4) 74 (by decide +kernel) (by decide) ?_
      exact z_ret_i hB rfl (by decide +kernel) ⟨by rw [fv_X0_cellBeside, if_neg c1, if_neg c3, if_pos c5, if_neg c6], rfl⟩
  refine z_tabOut hC (dflt := 69) (lo := 0) (hi := 2) (offs := #[26, 41, 54]) (len := 26) 75 (by decide +kernel) (z_tab3 c1 c3 c5) (by decide) ?_
  refine z_go hC (pc' := 76) (ls' := [some (.int x), some (.int y), some (.int (x - x / (nI 6) * (nI 6)))]) (st' := [.int (x - x / (nI 6) * (nI 6))]) (h' := h) (cs := []) [.iload_n 2] (by decide +kernel) rfl rfl trivial ?_
  refine z_if_le hC (off := 9) 85 (by decide +kernel) (by decide) (fun c7 => ?_) (fun c7 => ?_)
  · skip
    refine z_go hC (pc' := 86) (ls' := [some (.int x), some (.int y), some (.int (x - x / (nI 6) * (nI 6)))]) (st' := [.int (-1)]) (h' := h) (cs := []) [.iconst (-1)] (by decide +kernel) rfl rfl trivial ?_
    exact z_ret_i hB rfl (by decide +kernel) ⟨by rw [fv_X0_cellBeside, if_neg c1, if_neg c3, if_neg c5, if_pos c7], rfl⟩
  · skip
    refine z_go hC (pc' := 82) (ls' := [some (.int x), some (.int y), some (.int (x - x / (nI 6) * (nI 6)))]) (st' := [.int (x - (nI 1))]) (h' := h) (cs := []) [.iload_n 0, .iconst 1, .isub] (by decide +kernel) rfl rfl trivial ?_
    refine z_goto hC (off := 4) 86 (by decide +kernel) (by decide) ?_
    exact z_ret_i hB rfl (by decide +kernel) ⟨by rw [fv_X0_cellBeside, if_neg c1, if_neg c3, if_neg c5, if_neg c7], rfl⟩

def z_bc1 (x : Int32) : Int32 := x - (((x.toUInt32 >>> ((nI 1).toUInt32 &&& Int32.toUInt32 31)).toInt32) &&& (1431655765))
def z_bc2 (x : Int32) : Int32 := (x &&& (858993459)) + (((x.toUInt32 >>> ((nI 2).toUInt32 &&& Int32.toUInt32 31)).toInt32) &&& (858993459))
def z_bc3 (x : Int32) : Int32 := (x + ((x.toUInt32 >>> ((nI 4).toUInt32 &&& Int32.toUInt32 31)).toInt32)) &&& (252645135)
def z_bc4 (x : Int32) : Int32 := x + ((x.toUInt32 >>> ((nI 8).toUInt32 &&& Int32.toUInt32 31)).toInt32)
def z_bc5 (x : Int32) : Int32 := x + ((x.toUInt32 >>> ((nI 16).toUInt32 &&& Int32.toUInt32 31)).toInt32)
def fv_J6_bitCount_0f7a4 (x : Int32) : Int32 := (z_bc5 (z_bc4 (z_bc3 (z_bc2 (z_bc1 x))))) &&& (nI 63)
set_option maxHeartbeats 4000000 in
set_option maxRecDepth 100000 in
theorem sp_J6_bitCount_0f7a4 (l : Launch) (sh : z_Sh) (h : z_H) (x : Int32)  : z_Sp l 0 yJ6_bitCount_0f7a4 cJ6_bitCount_0f7a4 1 (some .int) [.int x] (sh) h (fun rv h' => rv = some (.int (fv_J6_bitCount_0f7a4 x)) ∧ h' = h) := by
  refine z_enter ft_J6 (by decide +kernel) fo_J6 (Nat.le_of_ble_eq_true rfl) ?_
  intro p e R s m args below meth c D dA ad hB
  have hC := hB.1
  have hN := hB.2.1
  have hR := hB.2.2.1
  refine z_go hC (pc' := 4) (ls' := [some (.int x)]) (st' := [.int ((x.toUInt32 >>> ((nI 1).toUInt32 &&& Int32.toUInt32 31)).toInt32), .int x]) (h' := h) (cs := []) [.iload_n 0, .iload_n 0, .iconst 1, .iushr] (by decide +kernel) rfl rfl trivial ?_
  refine z_ldcw hC (idx := 265) (v := 1431655765) (by decide +kernel) (by decide +kernel) ?_
  refine z_go hC (pc' := 11) (ls' := [some (.int (z_bc1 x))]) (st' := [.int (z_bc1 x)]) (h' := h) (cs := []) [.iand, .isub, .istore_n 0, .iload_n 0] (by decide +kernel) rfl rfl trivial ?_
  refine z_ldcw hC (idx := 266) (v := 858993459) (by decide +kernel) (by decide +kernel) ?_
  refine z_go hC (pc' := 18) (ls' := [some (.int (z_bc1 x))]) (st' := [.int (((z_bc1 x).toUInt32 >>> ((nI 2).toUInt32 &&& Int32.toUInt32 31)).toInt32), .int ((z_bc1 x) &&& (858993459))]) (h' := h) (cs := []) [.iand, .iload_n 0, .iconst 2, .iushr] (by decide +kernel) rfl rfl trivial ?_
  refine z_ldcw hC (idx := 266) (v := 858993459) (by decide +kernel) (by decide +kernel) ?_
  refine z_go hC (pc' := 29) (ls' := [some (.int (z_bc2 (z_bc1 x)))]) (st' := [.int ((z_bc2 (z_bc1 x)) + (((z_bc2 (z_bc1 x)).toUInt32 >>> ((nI 4).toUInt32 &&& Int32.toUInt32 31)).toInt32))]) (h' := h) (cs := []) [.iand, .iadd, .istore_n 0, .iload_n 0, .iload_n 0, .iconst 4, .iushr, .iadd] (by decide +kernel) rfl rfl trivial ?_
  refine z_ldcw hC (idx := 267) (v := 252645135) (by decide +kernel) (by decide +kernel) ?_
  refine z_go hC (pc' := 52) (ls' := [some (.int (z_bc5 (z_bc4 (z_bc3 (z_bc2 (z_bc1 x))))))]) (st' := [.int ((z_bc5 (z_bc4 (z_bc3 (z_bc2 (z_bc1 x))))) &&& (nI 63))]) (h' := h) (cs := []) [.iand, .istore_n 0, .iload_n 0, .iload_n 0, .bipush 8, .iushr, .iadd, .istore_n 0, .iload_n 0, .iload_n 0, .bipush 16, .iushr, .iadd, .istore_n 0, .iload_n 0, .bipush 63, .iand] (by decide +kernel) rfl rfl trivial ?_
  exact z_ret_i hB rfl (by decide +kernel) ⟨by rw [fv_J6_bitCount_0f7a4], rfl⟩

def fv_X1_directionIn (x : Int32) (y : Int32) : Int32 := ((x.toUInt32 >>> (((nI 2) * y).toUInt32 &&& Int32.toUInt32 31)).toInt32) &&& (nI 3)
set_option maxHeartbeats 4000000 in
set_option maxRecDepth 100000 in
theorem sp_X1_directionIn (l : Launch) (sh : z_Sh) (h : z_H) (x : Int32) (y : Int32)  : z_Sp l 0 yX1_directionIn cX1_directionIn 2 (some .int) [.int x, .int y] (sh) h (fun rv h' => rv = some (.int (fv_X1_directionIn x y)) ∧ h' = h) := by
  refine z_enter ft_X1 (by decide +kernel) fo_X1 (Nat.le_of_ble_eq_true rfl) ?_
  intro p e R s m args below meth c D dA ad hB
  have hC := hB.1
  have hN := hB.2.1
  have hR := hB.2.2.1
  refine z_go hC (pc' := 7) (ls' := [some (.int x), some (.int y)]) (st' := [.int (((x.toUInt32 >>> (((nI 2) * y).toUInt32 &&& Int32.toUInt32 31)).toInt32) &&& (nI 3))]) (h' := h) (cs := []) [.iload_n 0, .iconst 2, .iload_n 1, .imul, .iushr, .iconst 3, .iand] (by decide +kernel) rfl rfl trivial ?_
  exact z_ret_i hB rfl (by decide +kernel) ⟨by rw [fv_X1_directionIn], rfl⟩

def fv_X2_cornerOf (x : Int32) : Int32 := if ((x / (nI 6)) - (x / (nI 6)) / (nI 2) * (nI 2)) = 0 then if ((x - x / (nI 6) * (nI 6)) - (x - x / (nI 6) * (nI 6)) / (nI 2) * (nI 2)) = 0 then nI 0 else nI 1 else if ((x - x / (nI 6) * (nI 6)) - (x - x / (nI 6) * (nI 6)) / (nI 2) * (nI 2)) = 0 then nI 3 else nI 2
set_option maxHeartbeats 4000000 in
set_option maxRecDepth 100000 in
theorem sp_X2_cornerOf (l : Launch) (sh : z_Sh) (h : z_H) (x : Int32)  : z_Sp l 0 yX2_cornerOf cX2_cornerOf 3 (some .int) [.int x] (sh) h (fun rv h' => rv = some (.int (fv_X2_cornerOf x)) ∧ h' = h) := by
  refine z_enter ft_X2 (by decide +kernel) fo_X2 (Nat.le_of_ble_eq_true rfl) ?_
  intro p e R s m args below meth c D dA ad hB
  have hC := hB.1
  have hN := hB.2.1
  have hR := hB.2.2.1
  refine z_go hC (pc' := 6) (ls' := [some (.int x), none, none]) (st' := [.int ((x / (nI 6)) - (x / (nI 6)) / (nI 2) * (nI 2))]) (h' := h) (cs := [¬ (nI 6) = 0, ¬ (nI 2) = 0]) [.iload_n 0, .bipush 6, .idiv, .iconst 2, .irem] (by decide +kernel) rfl rfl ⟨(show ¬ (nI 6) = 0 by decide), (show ¬ (nI 2) = 0 by decide)⟩ ?_
  refine z_if_eq hC (off := 7) 13 (by decide +kernel) (by decide) (fun c1 => ?_) (fun c1 => ?_)
  · skip
    refine z_go hC (pc' := 21) (ls' := [some (.int x), some (.int (nI 0)), none]) (st' := [.int ((x - x / (nI 6) * (nI 6)) - (x - x / (nI 6) * (nI 6)) / (nI 2) * (nI 2))]) (h' := h) (cs := [¬ (nI 6) = 0, ¬ (nI 2) = 0]) [.iconst 0, .istore_n 1, .iload_n 0, .bipush 6, .irem, .iconst 2, .irem] (by decide +kernel) rfl rfl ⟨(show ¬ (nI 6) = 0 by decide), (show ¬ (nI 2) = 0 by decide)⟩ ?_
    refine z_if_eq hC (off := 7) 28 (by decide +kernel) (by decide) (fun c2 => ?_) (fun c2 => ?_)
    · skip
      refine z_go hC (pc' := 31) (ls' := [some (.int x), some (.int (nI 0)), some (.int (nI 0))]) (st' := [.int (nI 0)]) (h' := h) (cs := []) [.iconst 0, .istore_n 2, .iload_n 1] (by decide +kernel) rfl rfl trivial ?_
      refine z_if_eq hC (off := 13) 44 (by decide +kernel) (by decide) (fun c3 => ?_) (fun c3 => ?_)
      · skip
        refine z_go hC (pc' := 45) (ls' := [some (.int x), some (.int (nI 0)), some (.int (nI 0))]) (st' := [.int (nI 0)]) (h' := h) (cs := []) [.iload_n 2] (by decide +kernel) rfl rfl trivial ?_
        refine z_if_eq hC (off := 7) 52 (by decide +kernel) (by decide) (fun c4 => ?_) (fun c4 => ?_)
        · skip
          refine z_go hC (pc' := 53) (ls' := [some (.int x), some (.int (nI 0)), some (.int (nI 0))]) (st' := [.int (nI 0)]) (h' := h) (cs := []) [.iconst 0] (by decide +kernel) rfl rfl trivial ?_
          exact z_ret_i hB rfl (by decide +kernel) ⟨by rw [fv_X2_cornerOf, if_pos c1, if_pos c2], rfl⟩
        · skip
          exact absurd c4 (by decide)
      · skip
        exact absurd c3 (by decide)
    · skip
      refine z_go hC (pc' := 25) (ls' := [some (.int x), some (.int (nI 0)), none]) (st' := [.int (nI 1)]) (h' := h) (cs := []) [.iconst 1] (by decide +kernel) rfl rfl trivial ?_
      refine z_goto hC (off := 4) 29 (by decide +kernel) (by decide) ?_
      refine z_go hC (pc' := 31) (ls' := [some (.int x), some (.int (nI 0)), some (.int (nI 1))]) (st' := [.int (nI 0)]) (h' := h) (cs := []) [.istore_n 2, .iload_n 1] (by decide +kernel) rfl rfl trivial ?_
      refine z_if_eq hC (off := 13) 44 (by decide +kernel) (by decide) (fun c5 => ?_) (fun c5 => ?_)
      · skip
        refine z_go hC (pc' := 45) (ls' := [some (.int x), some (.int (nI 0)), some (.int (nI 1))]) (st' := [.int (nI 1)]) (h' := h) (cs := []) [.iload_n 2] (by decide +kernel) rfl rfl trivial ?_
        refine z_if_eq hC (off := 7) 52 (by decide +kernel) (by decide) (fun c6 => ?_) (fun c6 => ?_)
        · skip
          exact absurd c6 (by decide)
        · skip
          refine z_go hC (pc' := 49) (ls' := [some (.int x), some (.int (nI 0)), some (.int (nI 1))]) (st' := [.int (nI 1)]) (h' := h) (cs := []) [.iconst 1] (by decide +kernel) rfl rfl trivial ?_
          refine z_goto hC (off := 4) 53 (by decide +kernel) (by decide) ?_
          exact z_ret_i hB rfl (by decide +kernel) ⟨by rw [fv_X2_cornerOf, if_pos c1, if_neg c2], rfl⟩
      · skip
        exact absurd c5 (by decide)
  · skip
    refine z_go hC (pc' := 10) (ls' := [some (.int x), none, none]) (st' := [.int (nI 1)]) (h' := h) (cs := []) [.iconst 1] (by decide +kernel) rfl rfl trivial ?_
    refine z_goto hC (off := 4) 14 (by decide +kernel) (by decide) ?_
    refine z_go hC (pc' := 21) (ls' := [some (.int x), some (.int (nI 1)), none]) (st' := [.int ((x - x / (nI 6) * (nI 6)) - (x - x / (nI 6) * (nI 6)) / (nI 2) * (nI 2))]) (h' := h) (cs := [¬ (nI 6) = 0, ¬ (nI 2) = 0]) [.istore_n 1, .iload_n 0, .bipush 6, .irem, .iconst 2, .irem] (by decide +kernel) rfl rfl ⟨(show ¬ (nI 6) = 0 by decide), (show ¬ (nI 2) = 0 by decide)⟩ ?_
    refine z_if_eq hC (off := 7) 28 (by decide +kernel) (by decide) (fun c7 => ?_) (fun c7 => ?_)
    · skip
      refine z_go hC (pc' := 31) (ls' := [some (.int x), some (.int (nI 1)), some (.int (nI 0))]) (st' := [.int (nI 1)]) (h' := h) (cs := []) [.iconst 0, .istore_n 2, .iload_n 1] (by decide +kernel) rfl rfl trivial ?_
      refine z_if_eq hC (off := 13) 44 (by decide +kernel) (by decide) (fun c8 => ?_) (fun c8 => ?_)
      · skip
        exact absurd c8 (by decide)
      · skip
        refine z_go hC (pc' := 35) (ls' := [some (.int x), some (.int (nI 1)), some (.int (nI 0))]) (st' := [.int (nI 0)]) (h' := h) (cs := []) [.iload_n 2] (by decide +kernel) rfl rfl trivial ?_
        refine z_if_eq hC (off := 7) 42 (by decide +kernel) (by decide) (fun c9 => ?_) (fun c9 => ?_)
        · skip
          refine z_go hC (pc' := 43) (ls' := [some (.int x), some (.int (nI 1)), some (.int (nI 0))]) (st' := [.int (nI 3)]) (h' := h) (cs := []) [.iconst 3] (by decide +kernel) rfl rfl trivial ?_
          exact z_ret_i hB rfl (by decide +kernel) ⟨by rw [fv_X2_cornerOf, if_neg c1, if_pos c7], rfl⟩
        · skip
          exact absurd c9 (by decide)
    · skip
      refine z_go hC (pc' := 25) (ls' := [some (.int x), some (.int (nI 1)), none]) (st' := [.int (nI 1)]) (h' := h) (cs := []) [.iconst 1] (by decide +kernel) rfl rfl trivial ?_
      refine z_goto hC (off := 4) 29 (by decide +kernel) (by decide) ?_
      refine z_go hC (pc' := 31) (ls' := [some (.int x), some (.int (nI 1)), some (.int (nI 1))]) (st' := [.int (nI 1)]) (h' := h) (cs := []) [.istore_n 2, .iload_n 1] (by decide +kernel) rfl rfl trivial ?_
      refine z_if_eq hC (off := 13) 44 (by decide +kernel) (by decide) (fun c10 => ?_) (fun c10 => ?_)
      · skip
        exact absurd c10 (by decide)
      · skip
        refine z_go hC (pc' := 35) (ls' := [some (.int x), some (.int (nI 1)), some (.int (nI 1))]) (st' := [.int (nI 1)]) (h' := h) (cs := []) [.iload_n 2] (by decide +kernel) rfl rfl trivial ?_
        refine z_if_eq hC (off := 7) 42 (by decide +kernel) (by decide) (fun c11 => ?_) (fun c11 => ?_)
        · skip
          exact absurd c11 (by decide)
        · skip
          refine z_go hC (pc' := 39) (ls' := [some (.int x), some (.int (nI 1)), some (.int (nI 1))]) (st' := [.int (nI 2)]) (h' := h) (cs := []) [.iconst 2] (by decide +kernel) rfl rfl trivial ?_
          refine z_goto hC (off := 4) 43 (by decide +kernel) (by decide) ?_
          exact z_ret_i hB rfl (by decide +kernel) ⟨by rw [fv_X2_cornerOf, if_neg c1, if_neg c7], rfl⟩
