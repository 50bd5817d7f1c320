/-! ===== printed by wip/whole/gen: leaf methods of the class, mirrored ===== -/
def fv_X7_setOf (x : Int32) : Int64 := 1 <<< (x.toInt64 &&& 63)
set_option maxHeartbeats 4000000 in
set_option maxRecDepth 100000 in
theorem sp_X7_setOf (l : Launch) (sh : z_Sh) (h : z_H) (x : Int32)  : z_Sp l 0 yX7_setOf cX7_setOf 1 (some .long) [.int x] (sh) h (fun rv h' => rv = some (.long (fv_X7_setOf x)) ∧ h' = h) := by
  refine z_enter ft_X7 (by decide +kernel) fo_X7 (Nat.le_of_ble_eq_true rfl) ?_
  intro p e R s m args below meth c D dA ad hB
  have hC := hB.1
  have hN := hB.2.1
  have hR := hB.2.2.1
  refine z_go hC (pc' := 3) (ls' := [some (.int x)]) (st' := [.long (1 <<< (x.toInt64 &&& 63))]) (h' := h) (cs := []) [.lconst 1, .iload_n 0, .lshl] (by decide +kernel) rfl rfl trivial ?_
  exact z_ret_l hB rfl (by decide +kernel) ⟨by rw [fv_X7_setOf], rfl⟩

def fv_X7_isIn (y : Int64) (x : Int32) : Int32 := if (lg_cmp (y &&& (fv_X7_setOf x)) 0) = 0 then nI 0 else nI 1
theorem zb_X7_isIn (y : Int64) (x : Int32) : fv_X7_isIn y x = 0 ∨ fv_X7_isIn y x = 1 := by unfold fv_X7_isIn; (repeat (first | (exact Or.inl rfl) | (exact Or.inr rfl) | split))
set_option maxHeartbeats 4000000 in
set_option maxRecDepth 100000 in
theorem sp_X7_isIn (l : Launch) (sh : z_Sh) (h : z_H) (y : Int64) (x : Int32)  : z_Sp l 1 yX7_isIn cX7_isIn 3 (some .boolean) [.long y, .int x] (sh) h (fun rv h' => rv = some (.int (fv_X7_isIn y x)) ∧ h' = h) := by
  refine z_enter ft_X7 (by decide +kernel) fo_X7 (Nat.le_of_ble_eq_true rfl) ?_
  intro p e R s m args below meth c D dA ad hB
  have hC := hB.1
  have hN := hB.2.1
  have hR := hB.2.2.1
  refine z_go hC (pc' := 2) (ls' := [some (.long y), none, some (.int x)]) (st' := [.int x, .long y]) (h' := h) (cs := []) [.lload_n 0, .iload_n 2] (by decide +kernel) rfl rfl trivial ?_
  refine z_callS hC hN hR (as := [.int x]) (rest := [.long y]) ok_X7_212 (by decide +kernel) (sp_X7_setOf l _ h x) (Nat.le_of_ble_eq_true rfl) rfl rfl (Nat.le_of_ble_eq_true rfl) ⟨Nat.zero_le _, Nat.zero_le _⟩ (fun r1 h2 q3 => ?_)
  obtain ⟨rfl, rfl⟩ := q3
  refine z_go hC (pc' := 8) (ls' := [some (.long y), none, some (.int x)]) (st' := [.int (lg_cmp (y &&& (fv_X7_setOf x)) 0)]) (h' := h) (cs := []) [.land, .lconst 0, .lcmp] (by decide +kernel) rfl rfl trivial ?_
  refine z_if_eq hC (off := 7) 15 (by decide +kernel) (by decide) (fun c4 => ?_) (fun c4 => ?_)
  · skip
    refine z_go hC (pc' := 16) (ls' := [some (.long y), none, some (.int x)]) (st' := [.int (nI 0)]) (h' := h) (cs := []) [.iconst 0] (by decide +kernel) rfl rfl trivial ?_
    exact z_ret_z hB rfl (by decide) (by decide +kernel) ⟨by rw [fv_X7_isIn, if_pos c4], rfl⟩
  · skip
    refine z_go hC (pc' := 12) (ls' := [some (.long y), none, some (.int x)]) (st' := [.int (nI 1)]) (h' := h) (cs := []) [.iconst 1] (by decide +kernel) rfl rfl trivial ?_
    refine z_goto hC (off := 4) 16 (by decide +kernel) (by decide) ?_
    exact z_ret_z hB rfl (by decide) (by decide +kernel) ⟨by rw [fv_X7_isIn, if_neg c4], rfl⟩

def fv_X0_blockOf (x : Int32) : Int32 := ((nI 3) * ((x / (nI 6)) / (nI 2))) + ((x - x / (nI 6) * (nI 6)) / (nI 2))
set_option maxHeartbeats 4000000 in
set_option maxRecDepth 100000 in
theorem sp_X0_blockOf (l : Launch) (sh : z_Sh) (h : z_H) (x : Int32)  : z_Sp l 0 yX0_blockOf cX0_blockOf 3 (some .int) [.int x] (sh) h (fun rv h' => rv = some (.int (fv_X0_blockOf x)) ∧ h' = h) := by
  refine z_enter ft_X0 (by decide +kernel) fo_X0 (Nat.le_of_ble_eq_true rfl) ?_
  intro p e R s m args below meth c D dA ad hB
  have hC := hB.1
  have hN := hB.2.1
  have hR := hB.2.2.1
  refine z_go hC (pc' := 19) (ls' := [some (.int x), some (.int ((x / (nI 6)) / (nI 2))), some (.int ((x - x / (nI 6) * (nI 6)) / (nI 2)))]) (st' := [.int (((nI 3) * ((x / (nI 6)) / (nI 2))) + ((x - x / (nI 6) * (nI 6)) / (nI 2)))]) (h' := h) (cs := [¬ (nI 6) = 0, ¬ (nI 2) = 0, ¬ (nI 6) = 0, ¬ (nI 2) = 0]) [.iload_n 0, .bipush 6, .idiv, .iconst 2, .idiv, .istore_n 1, .iload_n 0, .bipush 6, .irem, .iconst 2, .idiv, .istore_n 2, .iconst 3, .iload_n 1, .imul, .iload_n 2, .iadd] (by decide +kernel) rfl rfl ⟨(by decide), (by decide), (by decide), (by decide)⟩ ?_
  exact z_ret_i hB rfl (by decide +kernel) ⟨by rw [fv_X0_blockOf], rfl⟩

def fv_X0_upperLeftOf (x : Int32) : Int32 := ((nI 12) * (x / (nI 3))) + ((nI 2) * (x - x / (nI 3) * (nI 3)))
set_option maxHeartbeats 4000000 in
set_option maxRecDepth 100000 in
theorem sp_X0_upperLeftOf (l : Launch) (sh : z_Sh) (h : z_H) (x : Int32)  : z_Sp l 0 yX0_upperLeftOf cX0_upperLeftOf 3 (some .int) [.int x] (sh) h (fun rv h' => rv = some (.int (fv_X0_upperLeftOf x)) ∧ h' = h) := by
  refine z_enter ft_X0 (by decide +kernel) fo_X0 (Nat.le_of_ble_eq_true rfl) ?_
  intro p e R s m args below meth c D dA ad hB
  have hC := hB.1
  have hN := hB.2.1
  have hR := hB.2.2.1
  refine z_go hC (pc' := 16) (ls' := [some (.int x), some (.int (x / (nI 3))), some (.int (x - x / (nI 3) * (nI 3)))]) (st' := [.int (((nI 12) * (x / (nI 3))) + ((nI 2) * (x - x / (nI 3) * (nI 3))))]) (h' := h) (cs := [¬ (nI 3) = 0, ¬ (nI 3) = 0]) [.iload_n 0, .iconst 3, .idiv, .istore_n 1, .iload_n 0, .iconst 3, .irem, .istore_n 2, .bipush 12, .iload_n 1, .imul, .iconst 2, .iload_n 2, .imul, .iadd] (by decide +kernel) rfl rfl ⟨(by decide), (by decide)⟩ ?_
  exact z_ret_i hB rfl (by decide +kernel) ⟨by rw [fv_X0_upperLeftOf], rfl⟩

def fv_X0_firstBlockOf (x : Int32) : Int32 := if x < (nI 6) then ((nI 3) * (x / (nI 2))) + (x - x / (nI 2) * (nI 2)) else x - (nI 6)
set_option maxHeartbeats 4000000 in
set_option maxRecDepth 100000 in
theorem sp_X0_firstBlockOf (l : Launch) (sh : z_Sh) (h : z_H) (x : Int32)  : z_Sp l 0 yX0_firstBlockOf cX0_firstBlockOf 1 (some .int) [.int x] (sh) h (fun rv h' => rv = some (.int (fv_X0_firstBlockOf x)) ∧ h' = h) := by
  refine z_enter ft_X0 (by decide +kernel) fo_X0 (Nat.le_of_ble_eq_true rfl) ?_
  intro p e R s m args below meth c D dA ad hB
  have hC := hB.1
  have hN := hB.2.1
  have hR := hB.2.2.1
  refine z_go hC (pc' := 3) (ls' := [some (.int x)]) (st' := [.int (nI 6), .int x]) (h' := h) (cs := []) [.iload_n 0, .bipush 6] (by decide +kernel) rfl rfl trivial ?_
  refine z_icmp_lt hC (off := 8) 11 (by decide +kernel) (by decide) (fun c1 => ?_) (fun c1 => ?_)
  · skip
    refine z_go hC (pc' := 20) (ls' := [some (.int x)]) (st' := [.int (((nI 3) * (x / (nI 2))) + (x - x / (nI 2) * (nI 2)))]) (h' := h) (cs := [¬ (nI 2) = 0, ¬ (nI 2) = 0]) [.iconst 3, .iload_n 0, .iconst 2, .idiv, .imul, .iload_n 0, .iconst 2, .irem, .iadd] (by decide +kernel) rfl rfl ⟨(by decide), (by decide)⟩ ?_
    exact z_ret_i hB rfl (by decide +kernel) ⟨by rw [fv_X0_firstBlockOf, if_pos c1], rfl⟩
  · skip
    refine z_go hC (pc' := 10) (ls' := [some (.int x)]) (st' := [.int (x - (nI 6))]) (h' := h) (cs := []) [.iload_n 0, .bipush 6, .isub] (by decide +kernel) rfl rfl trivial ?_
    exact z_ret_i hB rfl (by decide +kernel) ⟨by rw [fv_X0_firstBlockOf, if_neg c1], rfl⟩

def fv_X0_secondBlockOf (x : Int32) : Int32 := if x < (nI 6) then (fv_X0_firstBlockOf x) + (nI 1) else (fv_X0_firstBlockOf x) + (nI 3)
set_option maxHeartbeats 4000000 in
set_option maxRecDepth 100000 in
theorem sp_X0_secondBlockOf (l : Launch) (sh : z_Sh) (h : z_H) (x : Int32)  : z_Sp l 1 yX0_secondBlockOf cX0_secondBlockOf 1 (some .int) [.int x] (sh) h (fun rv h' => rv = some (.int (fv_X0_secondBlockOf x)) ∧ h' = h) := by
  refine z_enter ft_X0 (by decide +kernel) fo_X0 (Nat.le_of_ble_eq_true rfl) ?_
  intro p e R s m args below meth c D dA ad hB
  have hC := hB.1
  have hN := hB.2.1
  have hR := hB.2.2.1
  refine z_go hC (pc' := 1) (ls' := [some (.int x)]) (st' := [.int x]) (h' := h) (cs := []) [.iload_n 0] (by decide +kernel) rfl rfl trivial ?_
  refine z_callS hC hN hR (as := [.int x]) (rest := []) ok_X0_18 (by decide +kernel) (sp_X0_firstBlockOf l _ h x) (Nat.le_of_ble_eq_true rfl) rfl rfl (Nat.le_of_ble_eq_true rfl) ⟨Nat.zero_le _, Nat.zero_le _⟩ (fun r1 h2 q3 => ?_)
  obtain ⟨rfl, rfl⟩ := q3
  refine z_go hC (pc' := 7) (ls' := [some (.int x)]) (st' := [.int (nI 6), .int x, .int (fv_X0_firstBlockOf x)]) (h' := h) (cs := []) [.iload_n 0, .bipush 6] (by decide +kernel) rfl rfl trivial ?_
  refine z_icmp_lt hC (off := 7) 14 (by decide +kernel) (by decide) (fun c4 => ?_) (fun c4 => ?_)
  · skip
    refine z_go hC (pc' := 16) (ls' := [some (.int x)]) (st' := [.int ((fv_X0_firstBlockOf x) + (nI 1))]) (h' := h) (cs := []) [.iconst 1, .iadd] (by decide +kernel) rfl rfl trivial ?_
    exact z_ret_i hB rfl (by decide +kernel) ⟨by rw [fv_X0_secondBlockOf, if_pos c4], rfl⟩
  · skip
    refine z_go hC (pc' := 11) (ls' := [some (.int x)]) (st' := [.int (nI 3), .int (fv_X0_firstBlockOf x)]) (h' := h) (cs := []) [.iconst 3] (by decide +kernel) rfl rfl trivial ?_
    refine z_goto hC (off := 4) 15 (by decide +kernel) (by decide) ?_
    refine z_go hC (pc' := 16) (ls' := [some (.int x)]) (st' := [.int ((fv_X0_firstBlockOf x) + (nI 3))]) (h' := h) (cs := []) [.iadd] (by decide +kernel) rfl rfl trivial ?_
    exact z_ret_i hB rfl (by decide +kernel) ⟨by rw [fv_X0_secondBlockOf, if_neg c4], rfl⟩

def fv_X0_linkOutOf (x : Int32) (y : Int32) : Int32 := if y = nI 0 then if (x / (nI 3)) ≤ 0 then (-1) else ((nI 6) + x) - (nI 3) else if y = nI 1 then if (nI 2) ≤ (x - x / (nI 3) * (nI 3)) then (-1) else ((nI 2) * (x / (nI 3))) + (x - x / (nI 3) * (nI 3)) else if y = nI 2 then if (nI 2) ≤ (x / (nI 3)) then (-1) else (nI 6) + x else if (x - x / (nI 3) * (nI 3)) ≤ 0 then (-1) else (((nI 2) * (x / (nI 3))) + (x - x / (nI 3) * (nI 3))) - (nI 1)
set_option maxHeartbeats 4000000 in
set_option maxRecDepth 100000 in
theorem sp_X0_linkOutOf (l : Launch) (sh : z_Sh) (h : z_H) (x : Int32) (y : Int32)  : z_Sp l 0 yX0_linkOutOf cX0_linkOutOf 4 (some .int) [.int x, .int y] (sh) h (fun rv h' => rv = some (.int (fv_X0_linkOutOf x y)) ∧ h' = h) := by
  refine z_enter ft_X0 (by decide +kernel) fo_X0 (Nat.le_of_ble_eq_true rfl) ?_
  intro p e R s m args below meth c D dA ad hB
  have hC := hB.1
  have hN := hB.2.1
  have hR := hB.2.2.1
  refine z_go hC (pc' := 9) (ls' := [some (.int x), some (.int y), some (.int (x / (nI 3))), some (.int (x - x / (nI 3) * (nI 3)))]) (st' := [.int y]) (h' := h) (cs := [¬ (nI 3) = 0, ¬ (nI 3) = 0]) [.iload_n 0, .iconst 3, .idiv, .istore_n 2, .iload_n 0, .iconst 3, .irem, .istore_n 3, .iload_n 1] (by decide +kernel) rfl rfl ⟨(by decide), (by decide)⟩ ?_
  by_cases c1 : y = nI 0
  · skip
    refine z_tabIn hC (off := 27) 36 (by decide +kernel) (by rw [c1]; decide) (by rw [c1]; decide) (by rw [c1]; rfl) (by decide) ?_
    refine z_go hC (pc' := 37) (ls' := [some (.int x), some (.int y), some (.int (x / (nI 3))), some (.int (x - x / (nI 3) * (nI 3)))]) (st' := [.int (x / (nI 3))]) (h' := h) (cs := []) [.iload_n 2] (by decide +kernel) rfl rfl trivial ?_
    refine z_if_le hC (off := 12) 49 (by decide +kernel) (by decide) (fun c2 => ?_) (fun c2 => ?_)
    · skip
      refine z_go hC (pc' := 50) (ls' := [some (.int x), some (.int y), some (.int (x / (nI 3))), some (.int (x - x / (nI 3) * (nI 3)))]) (st' := [.int (-1)]) (h' := h) (cs := []) [.iconst (-1)] (by decide +kernel) rfl rfl trivial ?_
      exact z_ret_i hB rfl (by decide +kernel) ⟨by rw [fv_X0_linkOutOf, if_pos c1, if_pos c2], rfl⟩
    · skip
      refine z_go hC (pc' := 46) (ls' := [some (.int x), some (.int y), some (.int (x / (nI 3))), some (.int (x - x / (nI 3) * (nI 3)))]) (st' := [.int (((nI 6) + x) - (nI 3))]) (h' := h) (cs := []) [.bipush 6, .iload_n 0, .iadd, .iconst 3, .isub] (by decide +kernel) rfl rfl trivial ?_
      refine z_goto hC (off := 4) 50 (by decide +kernel) (by decide) ?_
      exact z_ret_i hB rfl (by decide +kernel) ⟨by rw [fv_X0_linkOutOf, if_pos c1, if_neg c2], rfl⟩
  by_cases c3 : y = nI 1
  · skip
    refine z_tabIn hC (off := 42) 51 (by decide +kernel) (by rw [c3]; decide) (by rw [c3]; decide) (by rw [c3]; rfl) (by decide) ?_
    refine z_go hC (pc' := 53) (ls' := [some (.int x), some (.int y), some (.int (x / (nI 3))), some (.int (x - x / (nI 3) * (nI 3)))]) (st' := [.int (nI 2), .int (x - x / (nI 3) * (nI 3))]) (h' := h) (cs := []) [.iload_n 3, .iconst 2] (by decide +kernel) rfl rfl trivial ?_
    refine z_icmp_ge hC (off := 11) 64 (by decide +kernel) (by decide) (fun c4 => ?_) (fun c4 => ?_)
    · skip
      refine z_go hC (pc' := 65) (ls' := [some (.int x), some (.int y), some (.int (x / (nI 3))), some (.int (x - x / (nI 3) * (nI 3)))]) (st' := [.int (-1)]) (h' := h) (cs := []) [.iconst (-1)] (by decide +kernel) rfl rfl trivial ?_
      exact z_ret_i hB rfl (by decide +kernel) ⟨by rw [fv_X0_linkOutOf, if_neg c1, if_pos c3, if_pos c4], rfl⟩
    · skip
      refine z_go hC (pc' := 61) (ls' := [some (.int x), some (.int y), some (.int (x / (nI 3))), some (.int (x - x / (nI 3) * (nI 3)))]) (st' := [.int (((nI 2) * (x / (nI 3))) + (x - x / (nI 3) * (nI 3)))]) (h' := h) (cs := []) [.iconst 2, .iload_n 2, .imul, .iload_n 3, .iadd] (by decide +kernel) rfl rfl trivial ?_
      refine z_goto hC (off := 4) 65 (by decide +kernel) (by decide) ?_
      exact z_ret_i hB rfl (by decide +kernel) ⟨by rw [fv_X0_linkOutOf, if_neg c1, if_pos c3, if_neg c4], rfl⟩
  by_cases c5 : y = nI 2
  · skip
    refine z_tabIn hC (off := 57) 66 (by decide +kernel) (by rw [c5]; decide) (by rw [c5]; decide) (by rw [c5]; rfl) (by decide) ?_
    refine z_go hC (pc' := 68) (ls' := [some (.int x), some (.int y), some (.int (x / (nI 3))), some (.int (x - x / (nI 3) * (nI 3)))]) (st' := [.int (nI 2), .int (x / (nI 3))]) (h' := h) (cs := []) [.iload_n 2, .iconst 2] (by decide +kernel) rfl rfl trivial ?_
    refine z_icmp_ge hC (off := 10) 78 (by decide +kernel) (by decide) (fun c6 => ?_) (fun c6 => ?_)
    · skip
      refine z_go hC (pc' := 79) (ls' := [some (.int x), some (.int y), some (.int (x / (nI 3))), some (.int (x - x / (nI 3) * (nI 3)))]) (st' := [.int (-1)]) (h' := h) (cs := []) [.iconst (-1)] (by decide +kernel) rfl rfl trivial ?_
      exact z_ret_i hB rfl (by decide +kernel) ⟨by rw [fv_X0_linkOutOf, if_neg c1, if_neg c3, if_pos c5, if_pos c6], rfl⟩
    · skip
      refine z_go hC (pc' := 75) (ls' := [some (.int x), some (.int y), some (.int (x / (nI 3))), some (.int (x - x / (nI 3) * (nI 3)))]) (st' := [.int ((nI 6) + x)]) (h' := h) (cs := []) [.bipush 6, .iload_n 0, .iadd] (by decide +kernel) rfl rfl trivial ?_
      refine z_goto hC (off := 4) 79 (by decide +kernel) (by decide) ?_
      exact z_ret_i hB rfl (by decide +kernel) ⟨by rw [fv_X0_linkOutOf, if_neg c1, if_neg c3, if_pos c5, if_neg c6], rfl⟩
  refine z_tabOut hC 80 (by decide +kernel) (z_tab3 c1 c3 c5) (by decide) ?_
  refine z_go hC (pc' := 81) (ls' := [some (.int x), some (.int y), some (.int (x / (nI 3))), some (.int (x - x / (nI 3) * (nI 3)))]) (st' := [.int (x - x / (nI 3) * (nI 3))]) (h' := h) (cs := []) [.iload_n 3] (by decide +kernel) rfl rfl trivial ?_
  refine z_if_le hC (off := 13) 94 (by decide +kernel) (by decide) (fun c7 => ?_) (fun c7 => ?_)
  · skip
    refine z_go hC (pc' := 95) (ls' := [some (.int x), some (.int y), some (.int (x / (nI 3))), some (.int (x - x / (nI 3) * (nI 3)))]) (st' := [.int (-1)]) (h' := h) (cs := []) [.iconst (-1)] (by decide +kernel) rfl rfl trivial ?_
    exact z_ret_i hB rfl (by decide +kernel) ⟨by rw [fv_X0_linkOutOf, if_neg c1, if_neg c3, if_neg c5, if_pos c7], rfl⟩
  · skip
    refine z_go hC (pc' := 91) (ls' := [some (.int x), some (.int y), some (.int (x / (nI 3))), some (.int (x - x / (nI 3) * (nI 3)))]) (st' := [.int ((((nI 2) * (x / (nI 3))) + (x - x / (nI 3) * (nI 3))) - (nI 1))]) (h' := h) (cs := []) [.iconst 2, .iload_n 2, .imul, .iload_n 3, .iadd, .iconst 1, .isub] (by decide +kernel) rfl rfl trivial ?_
    refine z_goto hC (off := 4) 95 (by decide +kernel) (by decide) ?_
    exact z_ret_i hB rfl (by decide +kernel) ⟨by rw [fv_X0_linkOutOf, if_neg c1, if_neg c3, if_neg c5, if_neg c7], rfl⟩

def fv_X0_cellBeside (x : Int32) (y : Int32) : Int32 := if y = nI 0 then if x < (nI 6) then (-1) else x - (nI 6) else if y = nI 1 then if (nI 5) ≤ (x - x / (nI 6) * (nI 6)) then (-1) else x + (nI 1) else if y = nI 2 then if (nI 30) ≤ x then (-1) else x + (nI 6) else if (x - x / (nI 6) * (nI 6)) ≤ 0 then (-1) else x - (nI 1)
set_option maxHeartbeats 4000000 in
set_option maxRecDepth 100000 in
theorem sp_X0_cellBeside (l : Launch) (sh : z_Sh) (h : z_H) (x : Int32) (y : Int32)  : z_Sp l 0 yX0_cellBeside cX0_cellBeside 3 (some .int) [.int x, .int y] (sh) h (fun rv h' => rv = some (.int (fv_X0_cellBeside x y)) ∧ h' = h) := by
  refine z_enter ft_X0 (by decide +kernel) fo_X0 (Nat.le_of_ble_eq_true rfl) ?_
  intro p e R s m args below meth c D dA ad hB
  have hC := hB.1
  have hN := hB.2.1
  have hR := hB.2.2.1
  refine z_go hC (pc' := 6) (ls' := [some (.int x), some (.int y), some (.int (x - x / (nI 6) * (nI 6)))]) (st' := [.int y]) (h' := h) (cs := [¬ (nI 6) = 0]) [.iload_n 0, .bipush 6, .irem, .istore_n 2, .iload_n 1] (by decide +kernel) rfl rfl (by decide) ?_
  by_cases c1 : y = nI 0
  · skip
    refine z_tabIn hC (off := 26) 32 (by decide +kernel) (by rw [c1]; decide) (by rw [c1]; decide) (by rw [c1]; rfl) (by decide) ?_
    refine z_go hC (pc' := 35) (ls' := [some (.int x), some (.int y), some (.int (x - x / (nI 6) * (nI 6)))]) (st' := [.int (nI 6), .int x]) (h' := h) (cs := []) [.iload_n 0, .bipush 6] (by decide +kernel) rfl rfl trivial ?_
    refine z_icmp_lt hC (off := 10) 45 (by decide +kernel) (by decide) (fun c2 => ?_) (fun c2 => ?_)
    · skip
      refine z_go hC (pc' := 46) (ls' := [some (.int x), some (.int y), some (.int (x - x / (nI 6) * (nI 6)))]) (st' := [.int (-1)]) (h' := h) (cs := []) [.iconst (-1)] (by decide +kernel) rfl rfl trivial ?_
      exact z_ret_i hB rfl (by decide +kernel) ⟨by rw [fv_X0_cellBeside, if_pos c1, if_pos c2], rfl⟩
    · skip
      refine z_go hC (pc' := 42) (ls' := [some (.int x), some (.int y), some (.int (x - x / (nI 6) * (nI 6)))]) (st' := [.int (x - (nI 6))]) (h' := h) (cs := []) [.iload_n 0, .bipush 6, .isub] (by decide +kernel) rfl rfl trivial ?_
      refine z_goto hC (off := 4) 46 (by decide +kernel) (by decide) ?_
      exact z_ret_i hB rfl (by decide +kernel) ⟨by rw [fv_X0_cellBeside, if_pos c1, if_neg c2], rfl⟩
  by_cases c3 : y = nI 1
  · skip
    refine z_tabIn hC (off := 41) 47 (by decide +kernel) (by rw [c3]; decide) (by rw [c3]; decide) (by rw [c3]; rfl) (by decide) ?_
    refine z_go hC (pc' := 49) (ls' := [some (.int x), some (.int y), some (.int (x - x / (nI 6) * (nI 6)))]) (st' := [.int (nI 5), .int (x - x / (nI 6) * (nI 6))]) (h' := h) (cs := []) [.iload_n 2, .iconst 5] (by decide +kernel) rfl rfl trivial ?_
    refine z_icmp_ge hC (off := 9) 58 (by decide +kernel) (by decide) (fun c4 => ?_) (fun c4 => ?_)
    · skip
      refine z_go hC (pc' := 59) (ls' := [some (.int x), some (.int y), some (.int (x - x / (nI 6) * (nI 6)))]) (st' := [.int (-1)]) (h' := h) (cs := []) [.iconst (-1)] (by decide +kernel) rfl rfl trivial ?_
      exact z_ret_i hB rfl (by decide +kernel) ⟨by rw [fv_X0_cellBeside, if_neg c1, if_pos c3, if_pos c4], rfl⟩
    · skip
      refine z_go hC (pc' := 55) (ls' := [some (.int x), some (.int y), some (.int (x - x / (nI 6) * (nI 6)))]) (st' := [.int (x + (nI 1))]) (h' := h) (cs := []) [.iload_n 0, .iconst 1, .iadd] (by decide +kernel) rfl rfl trivial ?_
      refine z_goto hC (off := 4) 59 (by decide +kernel) (by decide) ?_
      exact z_ret_i hB rfl (by decide +kernel) ⟨by rw [fv_X0_cellBeside, if_neg c1, if_pos c3, if_neg c4], rfl⟩
  by_cases c5 : y = nI 2
  · skip
    refine z_tabIn hC (off := 54) 60 (by decide +kernel) (by rw [c5]; decide) (by rw [c5]; decide) (by rw [c5]; rfl) (by decide) ?_
    refine z_go hC (pc' := 63) (ls' := [some (.int x), some (.int y), some (.int (x - x / (nI 6) * (nI 6)))]) (st' := [.int (nI 30), .int x]) (h' := h) (cs := []) [.iload_n 0, .bipush 30] (by decide +kernel) rfl rfl trivial ?_
    refine z_icmp_ge hC (off := 10) 73 (by decide +kernel) (by decide) (fun c6 => ?_) (fun c6 => ?_)
    · skip
      refine z_go hC (pc' := 74) (ls' := [some (.int x), some (.int y), some (.int (x - x / (nI 6) * (nI 6)))]) (st' := [.int (-1)]) (h' := h) (cs := []) [.iconst (-1)] (by decide +kernel) rfl rfl trivial ?_
      exact z_ret_i hB rfl (by decide +kernel) ⟨by rw [fv_X0_cellBeside, if_neg c1, if_neg c3, if_pos c5, if_pos c6], rfl⟩
    · skip
      refine z_go hC (pc' := 70) (ls' := [some (.int x), some (.int y), some (.int (x - x / (nI 6) * (nI 6)))]) (st' := [.int (x + (nI 6))]) (h' := h) (cs := []) [.iload_n 0, .bipush 6, .iadd] (by decide +kernel) rfl rfl trivial ?_
      refine z_goto hC (off := 4) 74 (by decide +kernel) (by decide) ?_
      exact z_ret_i hB rfl (by decide +kernel) ⟨by rw [fv_X0_cellBeside, if_neg c1, if_neg c3, if_pos c5, if_neg c6], rfl⟩
  refine z_tabOut hC 75 (by decide +kernel) (z_tab3 c1 c3 c5) (by decide) ?_
  refine z_go hC (pc' := 76) (ls' := [some (.int x), some (.int y), some (.int (x - x / (nI 6) * (nI 6)))]) (st' := [.int (x - x / (nI 6) * (nI 6))]) (h' := h) (cs := []) [.iload_n 2] (by decide +kernel) rfl rfl trivial ?_
  refine z_if_le hC (off := 9) 85 (by decide +kernel) (by decide) (fun c7 => ?_) (fun c7 => ?_)
  · skip
    refine z_go hC (pc' := 86) (ls' := [some (.int x), some (.int y), some (.int (x - x / (nI 6) * (nI 6)))]) (st' := [.int (-1)]) (h' := h) (cs := []) [.iconst (-1)] (by decide +kernel) rfl rfl trivial ?_
    exact z_ret_i hB rfl (by decide +kernel) ⟨by rw [fv_X0_cellBeside, if_neg c1, if_neg c3, if_neg c5, if_pos c7], rfl⟩
  · skip
    refine z_go hC (pc' := 82) (ls' := [some (.int x), some (.int y), some (.int (x - x / (nI 6) * (nI 6)))]) (st' := [.int (x - (nI 1))]) (h' := h) (cs := []) [.iload_n 0, .iconst 1, .isub] (by decide +kernel) rfl rfl trivial ?_
    refine z_goto hC (off := 4) 86 (by decide +kernel) (by decide) ?_
    exact z_ret_i hB rfl (by decide +kernel) ⟨by rw [fv_X0_cellBeside, if_neg c1, if_neg c3, if_neg c5, if_neg c7], rfl⟩

def fv_J6_bitCount_0f7a4 (x : Int32) : Int32 := (((((((x - (((x.toUInt32 >>> ((nI 1).toUInt32 &&& Int32.toUInt32 31)).toInt32) &&& (1431655765))) &&& (858993459)) + ((((x - (((x.toUInt32 >>> ((nI 1).toUInt32 &&& Int32.toUInt32 31)).toInt32) &&& (1431655765))).toUInt32 >>> ((nI 2).toUInt32 &&& Int32.toUInt32 31)).toInt32) &&& (858993459))) + (((((x - (((x.toUInt32 >>> ((nI 1).toUInt32 &&& Int32.toUInt32 31)).toInt32) &&& (1431655765))) &&& (858993459)) + ((((x - (((x.toUInt32 >>> ((nI 1).toUInt32 &&& Int32.toUInt32 31)).toInt32) &&& (1431655765))).toUInt32 >>> ((nI 2).toUInt32 &&& Int32.toUInt32 31)).toInt32) &&& (858993459))).toUInt32 >>> ((nI 4).toUInt32 &&& Int32.toUInt32 31)).toInt32)) &&& (252645135)) + (((((((x - (((x.toUInt32 >>> ((nI 1).toUInt32 &&& Int32.toUInt32 31)).toInt32) &&& (1431655765))) &&& (858993459)) + ((((x - (((x.toUInt32 >>> ((nI 1).toUInt32 &&& Int32.toUInt32 31)).toInt32) &&& (1431655765))).toUInt32 >>> ((nI 2).toUInt32 &&& Int32.toUInt32 31)).toInt32) &&& (858993459))) + (((((x - (((x.toUInt32 >>> ((nI 1).toUInt32 &&& Int32.toUInt32 31)).toInt32) &&& (1431655765))) &&& (858993459)) + ((((x - (((x.toUInt32 >>> ((nI 1).toUInt32 &&& Int32.toUInt32 31)).toInt32) &&& (1431655765))).toUInt32 >>> ((nI 2).toUInt32 &&& Int32.toUInt32 31)).toInt32) &&& (858993459))).toUInt32 >>> ((nI 4).toUInt32 &&& Int32.toUInt32 31)).toInt32)) &&& (252645135)).toUInt32 >>> ((nI 8).toUInt32 &&& Int32.toUInt32 31)).toInt32)) + ((((((((x - (((x.toUInt32 >>> ((nI 1).toUInt32 &&& Int32.toUInt32 31)).toInt32) &&& (1431655765))) &&& (858993459)) + ((((x - (((x.toUInt32 >>> ((nI 1).toUInt32 &&& Int32.toUInt32 31)).toInt32) &&& (1431655765))).toUInt32 >>> ((nI 2).toUInt32 &&& Int32.toUInt32 31)).toInt32) &&& (858993459))) + (((((x - (((x.toUInt32 >>> ((nI 1).toUInt32 &&& Int32.toUInt32 31)).toInt32) &&& (1431655765))) &&& (858993459)) + ((((x - (((x.toUInt32 >>> ((nI 1).toUInt32 &&& Int32.toUInt32 31)).toInt32) &&& (1431655765))).toUInt32 >>> ((nI 2).toUInt32 &&& Int32.toUInt32 31)).toInt32) &&& (858993459))).toUInt32 >>> ((nI 4).toUInt32 &&& Int32.toUInt32 31)).toInt32)) &&& (252645135)) + (((((((x - (((x.toUInt32 >>> ((nI 1).toUInt32 &&& Int32.toUInt32 31)).toInt32) &&& (1431655765))) &&& (858993459)) + ((((x - (((x.toUInt32 >>> ((nI 1).toUInt32 &&& Int32.toUInt32 31)).toInt32) &&& (1431655765))).toUInt32 >>> ((nI 2).toUInt32 &&& Int32.toUInt32 31)).toInt32) &&& (858993459))) + (((((x - (((x.toUInt32 >>> ((nI 1).toUInt32 &&& Int32.toUInt32 31)).toInt32) &&& (1431655765))) &&& (858993459)) + ((((x - (((x.toUInt32 >>> ((nI 1).toUInt32 &&& Int32.toUInt32 31)).toInt32) &&& (1431655765))).toUInt32 >>> ((nI 2).toUInt32 &&& Int32.toUInt32 31)).toInt32) &&& (858993459))).toUInt32 >>> ((nI 4).toUInt32 &&& Int32.toUInt32 31)).toInt32)) &&& (252645135)).toUInt32 >>> ((nI 8).toUInt32 &&& Int32.toUInt32 31)).toInt32)).toUInt32 >>> ((nI 16).toUInt32 &&& Int32.toUInt32 31)).toInt32)) &&& (nI 63)
set_option maxHeartbeats 4000000 in
set_option maxRecDepth 100000 in
theorem sp_J6_bitCount_0f7a4 (l : Launch) (sh : z_Sh) (h : z_H) (x : Int32)  : z_Sp l 0 yJ6_bitCount_0f7a4 cJ6_bitCount_0f7a4 1 (some .int) [.int x] (sh) h (fun rv h' => rv = some (.int (fv_J6_bitCount_0f7a4 x)) ∧ h' = h) := by
  refine z_enter ft_J6 (by decide +kernel) fo_J6 (Nat.le_of_ble_eq_true rfl) ?_
  intro p e R s m args below meth c D dA ad hB
  have hC := hB.1
  have hN := hB.2.1
  have hR := hB.2.2.1
  refine z_go hC (pc' := 4) (ls' := [some (.int x)]) (st' := [.int ((x.toUInt32 >>> ((nI 1).toUInt32 &&& Int32.toUInt32 31)).toInt32), .int x]) (h' := h) (cs := []) [.iload_n 0, .iload_n 0, .iconst 1, .iushr] (by decide +kernel) rfl rfl trivial ?_
  refine z_ldcw hC (v := 1431655765) (by decide +kernel) (by decide +kernel) ?_
  refine z_go hC (pc' := 11) (ls' := [some (.int (x - (((x.toUInt32 >>> ((nI 1).toUInt32 &&& Int32.toUInt32 31)).toInt32) &&& (1431655765))))]) (st' := [.int (x - (((x.toUInt32 >>> ((nI 1).toUInt32 &&& Int32.toUInt32 31)).toInt32) &&& (1431655765)))]) (h' := h) (cs := []) [.iand, .isub, .istore_n 0, .iload_n 0] (by decide +kernel) rfl rfl trivial ?_
  refine z_ldcw hC (v := 858993459) (by decide +kernel) (by decide +kernel) ?_
  refine z_go hC (pc' := 18) (ls' := [some (.int (x - (((x.toUInt32 >>> ((nI 1).toUInt32 &&& Int32.toUInt32 31)).toInt32) &&& (1431655765))))]) (st' := [.int (((x - (((x.toUInt32 >>> ((nI 1).toUInt32 &&& Int32.toUInt32 31)).toInt32) &&& (1431655765))).toUInt32 >>> ((nI 2).toUInt32 &&& Int32.toUInt32 31)).toInt32), .int ((x - (((x.toUInt32 >>> ((nI 1).toUInt32 &&& Int32.toUInt32 31)).toInt32) &&& (1431655765))) &&& (858993459))]) (h' := h) (cs := []) [.iand, .iload_n 0, .iconst 2, .iushr] (by decide +kernel) rfl rfl trivial ?_
  refine z_ldcw hC (v := 858993459) (by decide +kernel) (by decide +kernel) ?_
  refine z_go hC (pc' := 29) (ls' := [some (.int (((x - (((x.toUInt32 >>> ((nI 1).toUInt32 &&& Int32.toUInt32 31)).toInt32) &&& (1431655765))) &&& (858993459)) + ((((x - (((x.toUInt32 >>> ((nI 1).toUInt32 &&& Int32.toUInt32 31)).toInt32) &&& (1431655765))).toUInt32 >>> ((nI 2).toUInt32 &&& Int32.toUInt32 31)).toInt32) &&& (858993459))))]) (st' := [.int ((((x - (((x.toUInt32 >>> ((nI 1).toUInt32 &&& Int32.toUInt32 31)).toInt32) &&& (1431655765))) &&& (858993459)) + ((((x - (((x.toUInt32 >>> ((nI 1).toUInt32 &&& Int32.toUInt32 31)).toInt32) &&& (1431655765))).toUInt32 >>> ((nI 2).toUInt32 &&& Int32.toUInt32 31)).toInt32) &&& (858993459))) + (((((x - (((x.toUInt32 >>> ((nI 1).toUInt32 &&& Int32.toUInt32 31)).toInt32) &&& (1431655765))) &&& (858993459)) + ((((x - (((x.toUInt32 >>> ((nI 1).toUInt32 &&& Int32.toUInt32 31)).toInt32) &&& (1431655765))).toUInt32 >>> ((nI 2).toUInt32 &&& Int32.toUInt32 31)).toInt32) &&& (858993459))).toUInt32 >>> ((nI 4).toUInt32 &&& Int32.toUInt32 31)).toInt32))]) (h' := h) (cs := []) [.iand, .iadd, .istore_n 0, .iload_n 0, .iload_n 0, .iconst 4, .iushr, .iadd] (by decide +kernel) rfl rfl trivial ?_
  refine z_ldcw hC (v := 252645135) (by decide +kernel) (by decide +kernel) ?_
  refine z_go hC (pc' := 52) (ls' := [some (.int (((((((x - (((x.toUInt32 >>> ((nI 1).toUInt32 &&& Int32.toUInt32 31)).toInt32) &&& (1431655765))) &&& (858993459)) + ((((x - (((x.toUInt32 >>> ((nI 1).toUInt32 &&& Int32.toUInt32 31)).toInt32) &&& (1431655765))).toUInt32 >>> ((nI 2).toUInt32 &&& Int32.toUInt32 31)).toInt32) &&& (858993459))) + (((((x - (((x.toUInt32 >>> ((nI 1).toUInt32 &&& Int32.toUInt32 31)).toInt32) &&& (1431655765))) &&& (858993459)) + ((((x - (((x.toUInt32 >>> ((nI 1).toUInt32 &&& Int32.toUInt32 31)).toInt32) &&& (1431655765))).toUInt32 >>> ((nI 2).toUInt32 &&& Int32.toUInt32 31)).toInt32) &&& (858993459))).toUInt32 >>> ((nI 4).toUInt32 &&& Int32.toUInt32 31)).toInt32)) &&& (252645135)) + (((((((x - (((x.toUInt32 >>> ((nI 1).toUInt32 &&& Int32.toUInt32 31)).toInt32) &&& (1431655765))) &&& (858993459)) + ((((x - (((x.toUInt32 >>> ((nI 1).toUInt32 &&& Int32.toUInt32 31)).toInt32) &&& (1431655765))).toUInt32 >>> ((nI 2).toUInt32 &&& Int32.toUInt32 31)).toInt32) &&& (858993459))) + (((((x - (((x.toUInt32 >>> ((nI 1).toUInt32 &&& Int32.toUInt32 31)).toInt32) &&& (1431655765))) &&& (858993459)) + ((((x - (((x.toUInt32 >>> ((nI 1).toUInt32 &&& Int32.toUInt32 31)).toInt32) &&& (1431655765))).toUInt32 >>> ((nI 2).toUInt32 &&& Int32.toUInt32 31)).toInt32) &&& (858993459))).toUInt32 >>> ((nI 4).toUInt32 &&& Int32.toUInt32 31)).toInt32)) &&& (252645135)).toUInt32 >>> ((nI 8).toUInt32 &&& Int32.toUInt32 31)).toInt32)) + ((((((((x - (((x.toUInt32 >>> ((nI 1).toUInt32 &&& Int32.toUInt32 31)).toInt32) &&& (1431655765))) &&& (858993459)) + ((((x - (((x.toUInt32 >>> ((nI 1).toUInt32 &&& Int32.toUInt32 31)).toInt32) &&& (1431655765))).toUInt32 >>> ((nI 2).toUInt32 &&& Int32.toUInt32 31)).toInt32) &&& (858993459))) + (((((x - (((x.toUInt32 >>> ((nI 1).toUInt32 &&& Int32.toUInt32 31)).toInt32) &&& (1431655765))) &&& (858993459)) + ((((x - (((x.toUInt32 >>> ((nI 1).toUInt32 &&& Int32.toUInt32 31)).toInt32) &&& (1431655765))).toUInt32 >>> ((nI 2).toUInt32 &&& Int32.toUInt32 31)).toInt32) &&& (858993459))).toUInt32 >>> ((nI 4).toUInt32 &&& Int32.toUInt32 31)).toInt32)) &&& (252645135)) + (((((((x - (((x.toUInt32 >>> ((nI 1).toUInt32 &&& Int32.toUInt32 31)).toInt32) &&& (1431655765))) &&& (858993459)) + ((((x - (((x.toUInt32 >>> ((nI 1).toUInt32 &&& Int32.toUInt32 31)).toInt32) &&& (1431655765))).toUInt32 >>> ((nI 2).toUInt32 &&& Int32.toUInt32 31)).toInt32) &&& (858993459))) + (((((x - (((x.toUInt32 >>> ((nI 1).toUInt32 &&& Int32.toUInt32 31)).toInt32) &&& (1431655765))) &&& (858993459)) + ((((x - (((x.toUInt32 >>> ((nI 1).toUInt32 &&& Int32.toUInt32 31)).toInt32) &&& (1431655765))).toUInt32 >>> ((nI 2).toUInt32 &&& Int32.toUInt32 31)).toInt32) &&& (858993459))).toUInt32 >>> ((nI 4).toUInt32 &&& Int32.toUInt32 31)).toInt32)) &&& (252645135)).toUInt32 >>> ((nI 8).toUInt32 &&& Int32.toUInt32 31)).toInt32)).toUInt32 >>> ((nI 16).toUInt32 &&& Int32.toUInt32 31)).toInt32)))]) (st' := [.int ((((((((x - (((x.toUInt32 >>> ((nI 1).toUInt32 &&& Int32.toUInt32 31)).toInt32) &&& (1431655765))) &&& (858993459)) + ((((x - (((x.toUInt32 >>> ((nI 1).toUInt32 &&& Int32.toUInt32 31)).toInt32) &&& (1431655765))).toUInt32 >>> ((nI 2).toUInt32 &&& Int32.toUInt32 31)).toInt32) &&& (858993459))) + (((((x - (((x.toUInt32 >>> ((nI 1).toUInt32 &&& Int32.toUInt32 31)).toInt32) &&& (1431655765))) &&& (858993459)) + ((((x - (((x.toUInt32 >>> ((nI 1).toUInt32 &&& Int32.toUInt32 31)).toInt32) &&& (1431655765))).toUInt32 >>> ((nI 2).toUInt32 &&& Int32.toUInt32 31)).toInt32) &&& (858993459))).toUInt32 >>> ((nI 4).toUInt32 &&& Int32.toUInt32 31)).toInt32)) &&& (252645135)) + (((((((x - (((x.toUInt32 >>> ((nI 1).toUInt32 &&& Int32.toUInt32 31)).toInt32) &&& (1431655765))) &&& (858993459)) + ((((x - (((x.toUInt32 >>> ((nI 1).toUInt32 &&& Int32.toUInt32 31)).toInt32) &&& (1431655765))).toUInt32 >>> ((nI 2).toUInt32 &&& Int32.toUInt32 31)).toInt32) &&& (858993459))) + (((((x - (((x.toUInt32 >>> ((nI 1).toUInt32 &&& Int32.toUInt32 31)).toInt32) &&& (1431655765))) &&& (858993459)) + ((((x - (((x.toUInt32 >>> ((nI 1).toUInt32 &&& Int32.toUInt32 31)).toInt32) &&& (1431655765))).toUInt32 >>> ((nI 2).toUInt32 &&& Int32.toUInt32 31)).toInt32) &&& (858993459))).toUInt32 >>> ((nI 4).toUInt32 &&& Int32.toUInt32 31)).toInt32)) &&& (252645135)).toUInt32 >>> ((nI 8).toUInt32 &&& Int32.toUInt32 31)).toInt32)) + ((((((((x - (((x.toUInt32 >>> ((nI 1).toUInt32 &&& Int32.toUInt32 31)).toInt32) &&& (1431655765))) &&& (858993459)) + ((((x - (((x.toUInt32 >>> ((nI 1).toUInt32 &&& Int32.toUInt32 31)).toInt32) &&& (1431655765))).toUInt32 >>> ((nI 2).toUInt32 &&& Int32.toUInt32 31)).toInt32) &&& (858993459))) + (((((x - (((x.toUInt32 >>> ((nI 1).toUInt32 &&& Int32.toUInt32 31)).toInt32) &&& (1431655765))) &&& (858993459)) + ((((x - (((x.toUInt32 >>> ((nI 1).toUInt32 &&& Int32.toUInt32 31)).toInt32) &&& (1431655765))).toUInt32 >>> ((nI 2).toUInt32 &&& Int32.toUInt32 31)).toInt32) &&& (858993459))).toUInt32 >>> ((nI 4).toUInt32 &&& Int32.toUInt32 31)).toInt32)) &&& (252645135)) + (((((((x - (((x.toUInt32 >>> ((nI 1).toUInt32 &&& Int32.toUInt32 31)).toInt32) &&& (1431655765))) &&& (858993459)) + ((((x - (((x.toUInt32 >>> ((nI 1).toUInt32 &&& Int32.toUInt32 31)).toInt32) &&& (1431655765))).toUInt32 >>> ((nI 2).toUInt32 &&& Int32.toUInt32 31)).toInt32) &&& (858993459))) + (((((x - (((x.toUInt32 >>> ((nI 1).toUInt32 &&& Int32.toUInt32 31)).toInt32) &&& (1431655765))) &&& (858993459)) + ((((x - (((x.toUInt32 >>> ((nI 1).toUInt32 &&& Int32.toUInt32 31)).toInt32) &&& (1431655765))).toUInt32 >>> ((nI 2).toUInt32 &&& Int32.toUInt32 31)).toInt32) &&& (858993459))).toUInt32 >>> ((nI 4).toUInt32 &&& Int32.toUInt32 31)).toInt32)) &&& (252645135)).toUInt32 >>> ((nI 8).toUInt32 &&& Int32.toUInt32 31)).toInt32)).toUInt32 >>> ((nI 16).toUInt32 &&& Int32.toUInt32 31)).toInt32)) &&& (nI 63))]) (h' := h) (cs := []) [.iand, .istore_n 0, .iload_n 0, .iload_n 0, .bipush 8, .iushr, .iadd, .istore_n 0, .iload_n 0, .iload_n 0, .bipush 16, .iushr, .iadd, .istore_n 0, .iload_n 0, .bipush 63, .iand] (by decide +kernel) rfl rfl trivial ?_
  exact z_ret_i hB rfl (by decide +kernel) ⟨by rw [fv_J6_bitCount_0f7a4], rfl⟩

def fv_X0_hasWallOn (h : z_H) (x : Int32) : Int32 := if ((h.1 1 2) &&& ((nI 1) <<< (x &&& 31))) = 0 then nI 0 else nI 1
theorem zb_X0_hasWallOn (h : z_H) (x : Int32) : fv_X0_hasWallOn h x = 0 ∨ fv_X0_hasWallOn h x = 1 := by unfold fv_X0_hasWallOn; (repeat (first | (exact Or.inl rfl) | (exact Or.inr rfl) | split))
set_option maxHeartbeats 4000000 in
set_option maxRecDepth 100000 in
theorem sp_X0_hasWallOn (l : Launch) (ext : z_Sh) (h : z_H) (x : Int32)  : z_Sp l 0 yX0_hasWallOn cX0_hasWallOn 2 (some .boolean) [.ref 1, .int x] (z_c ext) h (fun rv h' => rv = some (.int (fv_X0_hasWallOn h x)) ∧ h' = h) := by
  refine z_enter ft_X0 (by decide +kernel) fo_X0 (Nat.le_of_ble_eq_true rfl) ?_
  intro p e R s m args below meth c D dA ad hB
  have hC := hB.1
  have hN := hB.2.1
  have hR := hB.2.2.1
  refine z_go hC (pc' := 8) (ls' := [some (.ref 1), some (.int x)]) (st' := [.int ((h.1 1 2) &&& ((nI 1) <<< (x &&& 31)))]) (h' := h) (cs := []) [.aload_n 0, .getfield 22, .iconst 1, .iload_n 1, .ishl, .iand] (by decide +kernel) rfl rfl trivial ?_
  refine z_if_eq hC (off := 7) 15 (by decide +kernel) (by decide) (fun c1 => ?_) (fun c1 => ?_)
  · skip
    refine z_go hC (pc' := 16) (ls' := [some (.ref 1), some (.int x)]) (st' := [.int (nI 0)]) (h' := h) (cs := []) [.iconst 0] (by decide +kernel) rfl rfl trivial ?_
    exact z_ret_z hB rfl (by decide) (by decide +kernel) ⟨by rw [fv_X0_hasWallOn, if_pos c1], rfl⟩
  · skip
    refine z_go hC (pc' := 12) (ls' := [some (.ref 1), some (.int x)]) (st' := [.int (nI 1)]) (h' := h) (cs := []) [.iconst 1] (by decide +kernel) rfl rfl trivial ?_
    refine z_goto hC (off := 4) 16 (by decide +kernel) (by decide) ?_
    exact z_ret_z hB rfl (by decide) (by decide +kernel) ⟨by rw [fv_X0_hasWallOn, if_neg c1], rfl⟩

def fh_X0_putWall (h : z_H) (x : Int32) (y : Int32) : z_H := if y = 0 then z_set h 1 2 ((h.1 1 2) &&& (((nI 1) <<< (x &&& 31)) ^^^ (-1))) else z_set h 1 2 ((h.1 1 2) ||| ((nI 1) <<< (x &&& 31)))
set_option maxHeartbeats 4000000 in
set_option maxRecDepth 100000 in
theorem sp_X0_putWall (l : Launch) (ext : z_Sh) (h : z_H) (x : Int32) (y : Int32)  : z_Sp l 0 yX0_putWall cX0_putWall 3 none [.ref 1, .int x, .int y] (z_c ext) h (fun rv h' => rv = none ∧ h' = fh_X0_putWall h x y) := by
  refine z_enter ft_X0 (by decide +kernel) fo_X0 (Nat.le_of_ble_eq_true rfl) ?_
  intro p e R s m args below meth c D dA ad hB
  have hC := hB.1
  have hN := hB.2.1
  have hR := hB.2.2.1
  refine z_go hC (pc' := 2) (ls' := [some (.ref 1), some (.int x), some (.int y)]) (st' := [.int y, .ref 1]) (h' := h) (cs := []) [.aload_n 0, .iload_n 2] (by decide +kernel) rfl rfl trivial ?_
  refine z_if_eq hC (off := 14) 16 (by decide +kernel) (by decide) (fun c1 => ?_) (fun c1 => ?_)
  · skip
    refine z_go hC (pc' := 29) (ls' := [some (.ref 1), some (.int x), some (.int y)]) (st' := []) (h' := z_set h 1 2 ((h.1 1 2) &&& (((nI 1) <<< (x &&& 31)) ^^^ (-1)))) (cs := []) [.aload_n 0, .getfield 22, .iconst 1, .iload_n 1, .ishl, .iconst (-1), .ixor, .iand, .putfield 22] (by decide +kernel) rfl rfl trivial ?_
    exact z_ret_v hB rfl (by decide +kernel) ⟨rfl, by rw [fh_X0_putWall, if_pos c1]⟩
  · skip
    refine z_go hC (pc' := 13) (ls' := [some (.ref 1), some (.int x), some (.int y)]) (st' := [.int ((h.1 1 2) ||| ((nI 1) <<< (x &&& 31))), .ref 1]) (h' := h) (cs := []) [.aload_n 0, .getfield 22, .iconst 1, .iload_n 1, .ishl, .ior] (by decide +kernel) rfl rfl trivial ?_
    refine z_goto hC (off := 13) 26 (by decide +kernel) (by decide) ?_
    refine z_go hC (pc' := 29) (ls' := [some (.ref 1), some (.int x), some (.int y)]) (st' := []) (h' := z_set h 1 2 ((h.1 1 2) ||| ((nI 1) <<< (x &&& 31)))) (cs := []) [.putfield 22] (by decide +kernel) rfl rfl trivial ?_
    exact z_ret_v hB rfl (by decide +kernel) ⟨rfl, by rw [fh_X0_putWall, if_neg c1]⟩

set_option maxHeartbeats 4000000 in
set_option maxRecDepth 100000 in
theorem sp_X0_weightOf (l : Launch) (ext : z_Sh) (h : z_H) (x : Int32)  : z_Sp l 1 yX0_weightOf cX0_weightOf 2 (some .int) [.ref 1, .int x] (z_c ext) h (fun rv h' => rv = some (.int (z_atv h 2 12 x)) ∧ h' = h) := by
  refine z_enter ft_X0 (by decide +kernel) fo_X0 (Nat.le_of_ble_eq_true rfl) ?_
  intro p e R s m args below meth c D dA ad hB
  have hC := hB.1
  have hN := hB.2.1
  have hR := hB.2.2.1
  refine z_go hC (pc' := 5) (ls' := [some (.ref 1), some (.int x)]) (st' := [.int x, .ref 2]) (h' := h) (cs := []) [.aload_n 0, .getfield 9, .iload_n 1] (by decide +kernel) rfl rfl trivial ?_
  refine z_callSN hC hN hR (as := [.ref 2, .int x]) (rest := []) ok_X0_26 (by decide +kernel) (sp_X7_at l _ h 2 12 [] x rfl (by decide)) (Nat.le_of_ble_eq_true rfl) rfl rfl (Nat.le_of_ble_eq_true rfl) ⟨Nat.zero_le _, Nat.zero_le _⟩ (fun r1 h2 q3 => ?_)
  obtain ⟨rfl, rfl⟩ := q3
  exact z_ret_i hB rfl (by decide +kernel) ⟨rfl, rfl⟩

set_option maxHeartbeats 4000000 in
set_option maxRecDepth 100000 in
theorem sp_X0_putWeight (l : Launch) (ext : z_Sh) (h : z_H) (x : Int32) (y : Int32)  : z_Sp l 1 yX0_putWeight cX0_putWeight 3 none [.ref 1, .int x, .int y] (z_c ext) h (fun rv h' => rv = none ∧ h' = z_putv h 2 12 x y) := by
  refine z_enter ft_X0 (by decide +kernel) fo_X0 (Nat.le_of_ble_eq_true rfl) ?_
  intro p e R s m args below meth c D dA ad hB
  have hC := hB.1
  have hN := hB.2.1
  have hR := hB.2.2.1
  refine z_go hC (pc' := 6) (ls' := [some (.ref 1), some (.int x), some (.int y)]) (st' := [.int y, .int x, .ref 2]) (h' := h) (cs := []) [.aload_n 0, .getfield 9, .iload_n 1, .iload_n 2] (by decide +kernel) rfl rfl trivial ?_
  refine z_callSN hC hN hR (as := [.ref 2, .int x, .int y]) (rest := []) ok_X0_30 (by decide +kernel) (sp_X7_put l _ h 2 12 [] x y rfl (by decide)) (Nat.le_of_ble_eq_true rfl) rfl rfl (Nat.le_of_ble_eq_true rfl) ⟨Nat.zero_le _, Nat.zero_le _⟩ (fun r1 h2 q3 => ?_)
  obtain ⟨rfl, rfl⟩ := q3
  exact z_ret_v hB rfl (by decide +kernel) ⟨rfl, rfl⟩

def fv_X0_treeHas (h : z_H) (x : Int32) : Int32 := if x = (-1) then nI 0 else if ((h.1 1 3) &&& ((nI 1) <<< (x &&& 31))) = 0 then nI 0 else nI 1
theorem zb_X0_treeHas (h : z_H) (x : Int32) : fv_X0_treeHas h x = 0 ∨ fv_X0_treeHas h x = 1 := by unfold fv_X0_treeHas; (repeat (first | (exact Or.inl rfl) | (exact Or.inr rfl) | split))
set_option maxHeartbeats 4000000 in
set_option maxRecDepth 100000 in
theorem sp_X0_treeHas (l : Launch) (ext : z_Sh) (h : z_H) (x : Int32)  : z_Sp l 0 yX0_treeHas cX0_treeHas 2 (some .boolean) [.ref 1, .int x] (z_c ext) h (fun rv h' => rv = some (.int (fv_X0_treeHas h x)) ∧ h' = h) := by
  refine z_enter ft_X0 (by decide +kernel) fo_X0 (Nat.le_of_ble_eq_true rfl) ?_
  intro p e R s m args below meth c D dA ad hB
  have hC := hB.1
  have hN := hB.2.1
  have hR := hB.2.2.1
  refine z_go hC (pc' := 2) (ls' := [some (.ref 1), some (.int x)]) (st' := [.int (-1), .int x]) (h' := h) (cs := []) [.iload_n 1, .iconst (-1)] (by decide +kernel) rfl rfl trivial ?_
  refine z_icmp_eq hC (off := 18) 20 (by decide +kernel) (by decide) (fun c1 => ?_) (fun c1 => ?_)
  · skip
    refine z_go hC (pc' := 21) (ls' := [some (.ref 1), some (.int x)]) (st' := [.int (nI 0)]) (h' := h) (cs := []) [.iconst 0] (by decide +kernel) rfl rfl trivial ?_
    exact z_ret_z hB rfl (by decide) (by decide +kernel) ⟨by rw [fv_X0_treeHas, if_pos c1], rfl⟩
  · skip
    refine z_go hC (pc' := 13) (ls' := [some (.ref 1), some (.int x)]) (st' := [.int ((h.1 1 3) &&& ((nI 1) <<< (x &&& 31)))]) (h' := h) (cs := []) [.aload_n 0, .getfield 34, .iconst 1, .iload_n 1, .ishl, .iand] (by decide +kernel) rfl rfl trivial ?_
    refine z_if_eq hC (off := 7) 20 (by decide +kernel) (by decide) (fun c2 => ?_) (fun c2 => ?_)
    · skip
      refine z_go hC (pc' := 21) (ls' := [some (.ref 1), some (.int x)]) (st' := [.int (nI 0)]) (h' := h) (cs := []) [.iconst 0] (by decide +kernel) rfl rfl trivial ?_
      exact z_ret_z hB rfl (by decide) (by decide +kernel) ⟨by rw [fv_X0_treeHas, if_neg c1, if_pos c2], rfl⟩
    · skip
      refine z_go hC (pc' := 17) (ls' := [some (.ref 1), some (.int x)]) (st' := [.int (nI 1)]) (h' := h) (cs := []) [.iconst 1] (by decide +kernel) rfl rfl trivial ?_
      refine z_goto hC (off := 4) 21 (by decide +kernel) (by decide) ?_
      exact z_ret_z hB rfl (by decide) (by decide +kernel) ⟨by rw [fv_X0_treeHas, if_neg c1, if_neg c2], rfl⟩

def fv_X0_goFrom (h : z_H) (x : Int32) (y : Int32) : Int32 := if (fv_X0_cellBeside x y) = (-1) then (-1) else if (fv_X0_hasWallOn h (fv_X0_blockOf x)) = 0 then if (fv_X0_hasWallOn h (fv_X0_blockOf (fv_X0_cellBeside x y))) = 0 then if (fv_X0_blockOf x) = (fv_X0_blockOf (fv_X0_cellBeside x y)) then fv_X0_cellBeside x y else if (z_atv h 2 12 (fv_X0_linkOutOf (fv_X0_blockOf x) y)) = (-1) then (-1) else fv_X0_cellBeside x y else (-1) else (-1)
set_option maxHeartbeats 4000000 in
set_option maxRecDepth 100000 in
theorem sp_X0_goFrom (l : Launch) (ext : z_Sh) (h : z_H) (x : Int32) (y : Int32)  : z_Sp l 1 yX0_goFrom cX0_goFrom 4 (some .int) [.ref 1, .int x, .int y] (z_c ext) h (fun rv h' => rv = some (.int (fv_X0_goFrom h x y)) ∧ h' = h) := by
  refine z_enter ft_X0 (by decide +kernel) fo_X0 (Nat.le_of_ble_eq_true rfl) ?_
  intro p e R s m args below meth c D dA ad hB
  have hC := hB.1
  have hN := hB.2.1
  have hR := hB.2.2.1
  refine z_go hC (pc' := 2) (ls' := [some (.ref 1), some (.int x), some (.int y), none]) (st' := [.int y, .int x]) (h' := h) (cs := []) [.iload_n 1, .iload_n 2] (by decide +kernel) rfl rfl trivial ?_
  refine z_callS hC hN hR (as := [.int x, .int y]) (rest := []) ok_X0_37 (by decide +kernel) (sp_X0_cellBeside l _ h x y) (Nat.le_of_ble_eq_true rfl) rfl rfl (Nat.le_of_ble_eq_true rfl) ⟨Nat.zero_le _, Nat.zero_le _⟩ (fun r1 h2 q3 => ?_)
  obtain ⟨rfl, rfl⟩ := q3
  refine z_go hC (pc' := 8) (ls' := [some (.ref 1), some (.int x), some (.int y), some (.int (fv_X0_cellBeside x y))]) (st' := [.int (-1), .int (fv_X0_cellBeside x y)]) (h' := h) (cs := []) [.istore_n 3, .iload_n 3, .iconst (-1)] (by decide +kernel) rfl rfl trivial ?_
  refine z_icmp_eq hC (off := 25) 33 (by decide +kernel) (by decide) (fun c4 => ?_) (fun c4 => ?_)
  · skip
    refine z_go hC (pc' := 34) (ls' := [some (.ref 1), some (.int x), some (.int y), some (.int (fv_X0_cellBeside x y))]) (st' := [.int (-1)]) (h' := h) (cs := []) [.iconst (-1)] (by decide +kernel) rfl rfl trivial ?_
    exact z_ret_i hB rfl (by decide +kernel) ⟨by rw [fv_X0_goFrom, if_pos c4], rfl⟩
  · skip
    refine z_go hC (pc' := 13) (ls' := [some (.ref 1), some (.int x), some (.int y), some (.int (fv_X0_cellBeside x y))]) (st' := [.int x, .ref 1]) (h' := h) (cs := []) [.aload_n 0, .iload_n 1] (by decide +kernel) rfl rfl trivial ?_
    refine z_callS hC hN hR (as := [.int x]) (rest := [.ref 1]) ok_X0_41 (by decide +kernel) (sp_X0_blockOf l _ h x) (Nat.le_of_ble_eq_true rfl) rfl rfl (Nat.le_of_ble_eq_true rfl) ⟨Nat.zero_le _, Nat.zero_le _⟩ (fun r5 h6 q7 => ?_)
    obtain ⟨rfl, rfl⟩ := q7
    refine z_callV hC hN hR (as := [.int (fv_X0_blockOf x)]) (rest := []) ok_X0_44 (by decide +kernel) (sp_X0_hasWallOn l _ h (fv_X0_blockOf x)) rfl rfl (Nat.le_of_ble_eq_true rfl) rfl rfl (Nat.le_of_ble_eq_true rfl) ⟨Nat.zero_le _, Nat.zero_le _⟩ (fun r8 h9 q10 => ?_)
    obtain ⟨rfl, rfl⟩ := q10
    refine z_if_ne hC (off := 14) 33 (by decide +kernel) (by decide) (fun c11 => ?_) (fun c11 => ?_)
    · skip
      refine z_go hC (pc' := 34) (ls' := [some (.ref 1), some (.int x), some (.int y), some (.int (fv_X0_cellBeside x y))]) (st' := [.int (-1)]) (h' := h) (cs := []) [.iconst (-1)] (by decide +kernel) rfl rfl trivial ?_
      exact z_ret_i hB rfl (by decide +kernel) ⟨by rw [fv_X0_goFrom, if_neg c4, if_neg c11], rfl⟩
    · skip
      refine z_go hC (pc' := 24) (ls' := [some (.ref 1), some (.int x), some (.int y), some (.int (fv_X0_cellBeside x y))]) (st' := [.int (fv_X0_cellBeside x y), .ref 1]) (h' := h) (cs := []) [.aload_n 0, .iload_n 3] (by decide +kernel) rfl rfl trivial ?_
      refine z_callS hC hN hR (as := [.int (fv_X0_cellBeside x y)]) (rest := [.ref 1]) ok_X0_41 (by decide +kernel) (sp_X0_blockOf l _ h (fv_X0_cellBeside x y)) (Nat.le_of_ble_eq_true rfl) rfl rfl (Nat.le_of_ble_eq_true rfl) ⟨Nat.zero_le _, Nat.zero_le _⟩ (fun r12 h13 q14 => ?_)
      obtain ⟨rfl, rfl⟩ := q14
      refine z_callV hC hN hR (as := [.int (fv_X0_blockOf (fv_X0_cellBeside x y))]) (rest := []) ok_X0_44 (by decide +kernel) (sp_X0_hasWallOn l _ h (fv_X0_blockOf (fv_X0_cellBeside x y))) rfl rfl (Nat.le_of_ble_eq_true rfl) rfl rfl (Nat.le_of_ble_eq_true rfl) ⟨Nat.zero_le _, Nat.zero_le _⟩ (fun r15 h16 q17 => ?_)
      obtain ⟨rfl, rfl⟩ := q17
      refine z_if_eq hC (off := 5) 35 (by decide +kernel) (by decide) (fun c18 => ?_) (fun c18 => ?_)
      · skip
        refine z_go hC (pc' := 36) (ls' := [some (.ref 1), some (.int x), some (.int y), some (.int (fv_X0_cellBeside x y))]) (st' := [.int x]) (h' := h) (cs := []) [.iload_n 1] (by decide +kernel) rfl rfl trivial ?_
        refine z_callS hC hN hR (as := [.int x]) (rest := []) ok_X0_41 (by decide +kernel) (sp_X0_blockOf l _ h x) (Nat.le_of_ble_eq_true rfl) rfl rfl (Nat.le_of_ble_eq_true rfl) ⟨Nat.zero_le _, Nat.zero_le _⟩ (fun r19 h20 q21 => ?_)
        obtain ⟨rfl, rfl⟩ := q21
        refine z_go hC (pc' := 40) (ls' := [some (.ref 1), some (.int x), some (.int y), some (.int (fv_X0_cellBeside x y))]) (st' := [.int (fv_X0_cellBeside x y), .int (fv_X0_blockOf x)]) (h' := h) (cs := []) [.iload_n 3] (by decide +kernel) rfl rfl trivial ?_
        refine z_callS hC hN hR (as := [.int (fv_X0_cellBeside x y)]) (rest := [.int (fv_X0_blockOf x)]) ok_X0_41 (by decide +kernel) (sp_X0_blockOf l _ h (fv_X0_cellBeside x y)) (Nat.le_of_ble_eq_true rfl) rfl rfl (Nat.le_of_ble_eq_true rfl) ⟨Nat.zero_le _, Nat.zero_le _⟩ (fun r22 h23 q24 => ?_)
        obtain ⟨rfl, rfl⟩ := q24
        refine z_icmp_ne hC (off := 5) 48 (by decide +kernel) (by decide) (fun c25 => ?_) (fun c25 => ?_)
        · skip
          refine z_go hC (pc' := 53) (ls' := [some (.ref 1), some (.int x), some (.int y), some (.int (fv_X0_cellBeside x y))]) (st' := [.int x, .ref 2]) (h' := h) (cs := []) [.aload_n 0, .getfield 9, .iload_n 1] (by decide +kernel) rfl rfl trivial ?_
          refine z_callS hC hN hR (as := [.int x]) (rest := [.ref 2]) ok_X0_41 (by decide +kernel) (sp_X0_blockOf l _ h x) (Nat.le_of_ble_eq_true rfl) rfl rfl (Nat.le_of_ble_eq_true rfl) ⟨Nat.zero_le _, Nat.zero_le _⟩ (fun r26 h27 q28 => ?_)
          obtain ⟨rfl, rfl⟩ := q28
          refine z_go hC (pc' := 57) (ls' := [some (.ref 1), some (.int x), some (.int y), some (.int (fv_X0_cellBeside x y))]) (st' := [.int y, .int (fv_X0_blockOf x), .ref 2]) (h' := h) (cs := []) [.iload_n 2] (by decide +kernel) rfl rfl trivial ?_
          refine z_callS hC hN hR (as := [.int (fv_X0_blockOf x), .int y]) (rest := [.ref 2]) ok_X0_48 (by decide +kernel) (sp_X0_linkOutOf l _ h (fv_X0_blockOf x) y) (Nat.le_of_ble_eq_true rfl) rfl rfl (Nat.le_of_ble_eq_true rfl) ⟨Nat.zero_le _, Nat.zero_le _⟩ (fun r29 h30 q31 => ?_)
          obtain ⟨rfl, rfl⟩ := q31
          refine z_callSN hC hN hR (as := [.ref 2, .int (fv_X0_linkOutOf (fv_X0_blockOf x) y)]) (rest := []) ok_X0_26 (by decide +kernel) (sp_X7_at l _ h 2 12 [] (fv_X0_linkOutOf (fv_X0_blockOf x) y) rfl (by decide)) (Nat.le_of_ble_eq_true rfl) rfl rfl (Nat.le_of_ble_eq_true rfl) ⟨Nat.zero_le _, Nat.zero_le _⟩ (fun r32 h33 q34 => ?_)
          obtain ⟨rfl, rfl⟩ := q34
          refine z_go hC (pc' := 64) (ls' := [some (.ref 1), some (.int x), some (.int y), some (.int (fv_X0_cellBeside x y))]) (st' := [.int (-1), .int (z_atv h 2 12 (fv_X0_linkOutOf (fv_X0_blockOf x) y))]) (h' := h) (cs := []) [.iconst (-1)] (by decide +kernel) rfl rfl trivial ?_
          refine z_icmp_eq hC (off := 7) 71 (by decide +kernel) (by decide) (fun c35 => ?_) (fun c35 => ?_)
          · skip
            refine z_go hC (pc' := 72) (ls' := [some (.ref 1), some (.int x), some (.int y), some (.int (fv_X0_cellBeside x y))]) (st' := [.int (-1)]) (h' := h) (cs := []) [.iconst (-1)] (by decide +kernel) rfl rfl trivial ?_
            exact z_ret_i hB rfl (by decide +kernel) ⟨by rw [fv_X0_goFrom, if_neg c4, if_pos c11, if_pos c18, if_neg c25, if_pos c35], rfl⟩
          · skip
            refine z_go hC (pc' := 68) (ls' := [some (.ref 1), some (.int x), some (.int y), some (.int (fv_X0_cellBeside x y))]) (st' := [.int (fv_X0_cellBeside x y)]) (h' := h) (cs := []) [.iload_n 3] (by decide +kernel) rfl rfl trivial ?_
            refine z_goto hC (off := 4) 72 (by decide +kernel) (by decide) ?_
            exact z_ret_i hB rfl (by decide +kernel) ⟨by rw [fv_X0_goFrom, if_neg c4, if_pos c11, if_pos c18, if_neg c25, if_neg c35], rfl⟩
        · skip
          refine z_go hC (pc' := 47) (ls' := [some (.ref 1), some (.int x), some (.int y), some (.int (fv_X0_cellBeside x y))]) (st' := [.int (fv_X0_cellBeside x y)]) (h' := h) (cs := []) [.iload_n 3] (by decide +kernel) rfl rfl trivial ?_
          exact z_ret_i hB rfl (by decide +kernel) ⟨by rw [fv_X0_goFrom, if_neg c4, if_pos c11, if_pos c18, if_pos c25], rfl⟩
      · skip
        refine z_go hC (pc' := 34) (ls' := [some (.ref 1), some (.int x), some (.int y), some (.int (fv_X0_cellBeside x y))]) (st' := [.int (-1)]) (h' := h) (cs := []) [.iconst (-1)] (by decide +kernel) rfl rfl trivial ?_
        exact z_ret_i hB rfl (by decide +kernel) ⟨by rw [fv_X0_goFrom, if_neg c4, if_pos c11, if_neg c18], rfl⟩

set_option maxHeartbeats 4000000 in
set_option maxRecDepth 100000 in
theorem sp_X0_countOpenCells (l : Launch) (ext : z_Sh) (h : z_H)   : z_Sp l 1 yX0_countOpenCells cX0_countOpenCells 1 (some .int) [.ref 1] (z_c ext) h (fun rv h' => rv = some (.int ((nI 36) - ((nI 4) * (fv_J6_bitCount_0f7a4 (h.1 1 2))))) ∧ h' = h) := by
  refine z_enter ft_X0 (by decide +kernel) fo_X0 (Nat.le_of_ble_eq_true rfl) ?_
  intro p e R s m args below meth c D dA ad hB
  have hC := hB.1
  have hN := hB.2.1
  have hR := hB.2.2.1
  refine z_go hC (pc' := 7) (ls' := [some (.ref 1)]) (st' := [.int (h.1 1 2), .int (nI 4), .int (nI 36)]) (h' := h) (cs := []) [.bipush 36, .iconst 4, .aload_n 0, .getfield 22] (by decide +kernel) rfl rfl trivial ?_
  refine z_callS hC hN hR (as := [.int (h.1 1 2)]) (rest := [.int (nI 4), .int (nI 36)]) ok_X0_61 (by decide +kernel) (sp_J6_bitCount_0f7a4 l _ h (h.1 1 2)) (Nat.le_of_ble_eq_true rfl) rfl rfl (Nat.le_of_ble_eq_true rfl) ⟨Nat.zero_le _, Nat.zero_le _⟩ (fun r1 h2 q3 => ?_)
  obtain ⟨rfl, rfl⟩ := q3
  refine z_go hC (pc' := 12) (ls' := [some (.ref 1)]) (st' := [.int ((nI 36) - ((nI 4) * (fv_J6_bitCount_0f7a4 (h.1 1 2))))]) (h' := h) (cs := []) [.imul, .isub] (by decide +kernel) rfl rfl trivial ?_
  exact z_ret_i hB rfl (by decide +kernel) ⟨rfl, rfl⟩

def fv_X1_directionIn (x : Int32) (y : Int32) : Int32 := ((x.toUInt32 >>> (((nI 2) * y).toUInt32 &&& Int32.toUInt32 31)).toInt32) &&& (nI 3)
set_option maxHeartbeats 4000000 in
set_option maxRecDepth 100000 in
theorem sp_X1_directionIn (l : Launch) (sh : z_Sh) (h : z_H) (x : Int32) (y : Int32)  : z_Sp l 0 yX1_directionIn cX1_directionIn 2 (some .int) [.int x, .int y] (sh) h (fun rv h' => rv = some (.int (fv_X1_directionIn x y)) ∧ h' = h) := by
  refine z_enter ft_X1 (by decide +kernel) fo_X1 (Nat.le_of_ble_eq_true rfl) ?_
  intro p e R s m args below meth c D dA ad hB
  have hC := hB.1
  have hN := hB.2.1
  have hR := hB.2.2.1
  refine z_go hC (pc' := 7) (ls' := [some (.int x), some (.int y)]) (st' := [.int (((x.toUInt32 >>> (((nI 2) * y).toUInt32 &&& Int32.toUInt32 31)).toInt32) &&& (nI 3))]) (h' := h) (cs := []) [.iload_n 0, .iconst 2, .iload_n 1, .imul, .iushr, .iconst 3, .iand] (by decide +kernel) rfl rfl trivial ?_
  exact z_ret_i hB rfl (by decide +kernel) ⟨by rw [fv_X1_directionIn], rfl⟩

set_option maxHeartbeats 4000000 in
set_option maxRecDepth 100000 in
theorem sp_X1_size_16 (l : Launch) (ext : z_Sh) (h : z_H)   : z_Sp l 0 yX1_size cX1_size 1 (some .int) [.ref 16] (z_c ext) h (fun rv h' => rv = some (.int (h.1 16 1)) ∧ h' = h) := by
  refine z_enter ft_X1 (by decide +kernel) fo_X1 (Nat.le_of_ble_eq_true rfl) ?_
  intro p e R s m args below meth c D dA ad hB
  have hC := hB.1
  have hN := hB.2.1
  have hR := hB.2.2.1
  refine z_go hC (pc' := 4) (ls' := [some (.ref 16)]) (st' := [.int (h.1 16 1)]) (h' := h) (cs := []) [.aload_n 0, .getfield 15] (by decide +kernel) rfl rfl trivial ?_
  exact z_ret_i hB rfl (by decide +kernel) ⟨rfl, rfl⟩

set_option maxHeartbeats 4000000 in
set_option maxRecDepth 100000 in
theorem sp_X1_wayTo_16 (l : Launch) (ext : z_Sh) (h : z_H) (x : Int32)  : z_Sp l 1 yX1_wayTo cX1_wayTo 2 (some .int) [.ref 16, .int x] (z_c ext) h (fun rv h' => rv = some (.int (z_atv h 17 1024 x)) ∧ h' = h) := by
  refine z_enter ft_X1 (by decide +kernel) fo_X1 (Nat.le_of_ble_eq_true rfl) ?_
  intro p e R s m args below meth c D dA ad hB
  have hC := hB.1
  have hN := hB.2.1
  have hR := hB.2.2.1
  refine z_go hC (pc' := 5) (ls' := [some (.ref 16), some (.int x)]) (st' := [.int x, .ref 17]) (h' := h) (cs := []) [.aload_n 0, .getfield 11, .iload_n 1] (by decide +kernel) rfl rfl trivial ?_
  refine z_callSN hC hN hR (as := [.ref 17, .int x]) (rest := []) ok_X1_19 (by decide +kernel) (sp_X7_at l _ h 17 1024 [] x rfl (by decide)) (Nat.le_of_ble_eq_true rfl) rfl rfl (Nat.le_of_ble_eq_true rfl) ⟨Nat.zero_le _, Nat.zero_le _⟩ (fun r1 h2 q3 => ?_)
  obtain ⟨rfl, rfl⟩ := q3
  exact z_ret_i hB rfl (by decide +kernel) ⟨rfl, rfl⟩

set_option maxHeartbeats 4000000 in
set_option maxRecDepth 100000 in
theorem sp_X1_holdNone_16 (l : Launch) (ext : z_Sh) (h : z_H)   : z_Sp l 0 yX1_holdNone cX1_holdNone 1 none [.ref 16] (z_c ext) h (fun rv h' => rv = none ∧ h' = z_set h 16 1 (nI 0)) := by
  refine z_enter ft_X1 (by decide +kernel) fo_X1 (Nat.le_of_ble_eq_true rfl) ?_
  intro p e R s m args below meth c D dA ad hB
  have hC := hB.1
  have hN := hB.2.1
  have hR := hB.2.2.1
  refine z_go hC (pc' := 5) (ls' := [some (.ref 16)]) (st' := []) (h' := z_set h 16 1 (nI 0)) (cs := []) [.aload_n 0, .iconst 0, .putfield 15] (by decide +kernel) rfl rfl trivial ?_
  exact z_ret_v hB rfl (by decide +kernel) ⟨rfl, rfl⟩

set_option maxHeartbeats 4000000 in
set_option maxRecDepth 100000 in
theorem sp_X1_holdFirstAlone_16 (l : Launch) (ext : z_Sh) (h : z_H)   : z_Sp l 1 yX1_holdFirstAlone cX1_holdFirstAlone 1 none [.ref 16] (z_c ext) h (fun rv h' => rv = none ∧ h' = z_set (z_putv h 17 1024 (nI 0) (nI 0)) 16 1 (nI 1)) := by
  refine z_enter ft_X1 (by decide +kernel) fo_X1 (Nat.le_of_ble_eq_true rfl) ?_
  intro p e R s m args below meth c D dA ad hB
  have hC := hB.1
  have hN := hB.2.1
  have hR := hB.2.2.1
  refine z_go hC (pc' := 6) (ls' := [some (.ref 16)]) (st' := [.int (nI 0), .int (nI 0), .ref 17]) (h' := h) (cs := []) [.aload_n 0, .getfield 11, .iconst 0, .iconst 0] (by decide +kernel) rfl rfl trivial ?_
  refine z_callSN hC hN hR (as := [.ref 17, .int (nI 0), .int (nI 0)]) (rest := []) ok_X1_23 (by decide +kernel) (sp_X7_put l _ h 17 1024 [] (nI 0) (nI 0) rfl (by decide)) (Nat.le_of_ble_eq_true rfl) rfl rfl (Nat.le_of_ble_eq_true rfl) ⟨Nat.zero_le _, Nat.zero_le _⟩ (fun r1 h2 q3 => ?_)
  obtain ⟨rfl, rfl⟩ := q3
  refine z_go hC (pc' := 14) (ls' := [some (.ref 16)]) (st' := []) (h' := z_set (z_putv h 17 1024 (nI 0) (nI 0)) 16 1 (nI 1)) (cs := []) [.aload_n 0, .iconst 1, .putfield 15] (by decide +kernel) rfl rfl trivial ?_
  exact z_ret_v hB rfl (by decide +kernel) ⟨rfl, rfl⟩

def fh_X1_add_16 (h : z_H) (x : Int32) (y : Int32) : z_H := if (nI 1024) ≤ (h.1 16 1) then h else z_set (z_putv h 17 1024 (h.1 16 1) ((x <<< ((nI 2) &&& 31)) ||| y)) 16 1 (((z_putv h 17 1024 (h.1 16 1) ((x <<< ((nI 2) &&& 31)) ||| y)).1 16 1) + (nI 1))
set_option maxHeartbeats 4000000 in
set_option maxRecDepth 100000 in
theorem sp_X1_add_16 (l : Launch) (ext : z_Sh) (h : z_H) (x : Int32) (y : Int32)  : z_Sp l 1 yX1_add cX1_add 3 none [.ref 16, .int x, .int y] (z_c ext) h (fun rv h' => rv = none ∧ h' = fh_X1_add_16 h x y) := by
  refine z_enter ft_X1 (by decide +kernel) fo_X1 (Nat.le_of_ble_eq_true rfl) ?_
  intro p e R s m args below meth c D dA ad hB
  have hC := hB.1
  have hN := hB.2.1
  have hR := hB.2.2.1
  refine z_go hC (pc' := 7) (ls' := [some (.ref 16), some (.int x), some (.int y)]) (st' := [.int (nI 1024), .int (h.1 16 1)]) (h' := h) (cs := [(Int16.ofInt (Int.ofNat 1024)).toInt32 = nI 1024]) [.aload_n 0, .getfield 15, .sipush 1024] (by decide +kernel) rfl rfl (by decide) ?_
  refine z_icmp_ge hC (off := 29) 36 (by decide +kernel) (by decide) (fun c1 => ?_) (fun c1 => ?_)
  · skip
    exact z_ret_v hB rfl (by decide +kernel) ⟨rfl, by rw [fh_X1_add_16, if_pos c1]⟩
  · skip
    refine z_go hC (pc' := 23) (ls' := [some (.ref 16), some (.int x), some (.int y)]) (st' := [.int ((x <<< ((nI 2) &&& 31)) ||| y), .int (h.1 16 1), .ref 17]) (h' := h) (cs := []) [.aload_n 0, .getfield 11, .aload_n 0, .getfield 15, .iload_n 1, .iconst 2, .ishl, .iload_n 2, .ior] (by decide +kernel) rfl rfl trivial ?_
    refine z_callSN hC hN hR (as := [.ref 17, .int (h.1 16 1), .int ((x <<< ((nI 2) &&& 31)) ||| y)]) (rest := []) ok_X1_23 (by decide +kernel) (sp_X7_put l _ h 17 1024 [] (h.1 16 1) ((x <<< ((nI 2) &&& 31)) ||| y) rfl (by decide)) (Nat.le_of_ble_eq_true rfl) rfl rfl (Nat.le_of_ble_eq_true rfl) ⟨Nat.zero_le _, Nat.zero_le _⟩ (fun r2 h3 q4 => ?_)
    obtain ⟨rfl, rfl⟩ := q4
    refine z_go hC (pc' := 36) (ls' := [some (.ref 16), some (.int x), some (.int y)]) (st' := []) (h' := z_set (z_putv h 17 1024 (h.1 16 1) ((x <<< ((nI 2) &&& 31)) ||| y)) 16 1 (((z_putv h 17 1024 (h.1 16 1) ((x <<< ((nI 2) &&& 31)) ||| y)).1 16 1) + (nI 1))) (cs := []) [.aload_n 0, .dup, .getfield 15, .iconst 1, .iadd, .putfield 15] (by decide +kernel) rfl rfl trivial ?_
    exact z_ret_v hB rfl (by decide +kernel) ⟨rfl, by rw [fh_X1_add_16, if_neg c1]⟩

set_option maxHeartbeats 4000000 in
set_option maxRecDepth 100000 in
theorem sp_X1_size_18 (l : Launch) (ext : z_Sh) (h : z_H)   : z_Sp l 0 yX1_size cX1_size 1 (some .int) [.ref 18] (z_c ext) h (fun rv h' => rv = some (.int (h.1 18 1)) ∧ h' = h) := by
  refine z_enter ft_X1 (by decide +kernel) fo_X1 (Nat.le_of_ble_eq_true rfl) ?_
  intro p e R s m args below meth c D dA ad hB
  have hC := hB.1
  have hN := hB.2.1
  have hR := hB.2.2.1
  refine z_go hC (pc' := 4) (ls' := [some (.ref 18)]) (st' := [.int (h.1 18 1)]) (h' := h) (cs := []) [.aload_n 0, .getfield 15] (by decide +kernel) rfl rfl trivial ?_
  exact z_ret_i hB rfl (by decide +kernel) ⟨rfl, rfl⟩

set_option maxHeartbeats 4000000 in
set_option maxRecDepth 100000 in
theorem sp_X1_wayTo_18 (l : Launch) (ext : z_Sh) (h : z_H) (x : Int32)  : z_Sp l 1 yX1_wayTo cX1_wayTo 2 (some .int) [.ref 18, .int x] (z_c ext) h (fun rv h' => rv = some (.int (z_atv h 19 1024 x)) ∧ h' = h) := by
  refine z_enter ft_X1 (by decide +kernel) fo_X1 (Nat.le_of_ble_eq_true rfl) ?_
  intro p e R s m args below meth c D dA ad hB
  have hC := hB.1
  have hN := hB.2.1
  have hR := hB.2.2.1
  refine z_go hC (pc' := 5) (ls' := [some (.ref 18), some (.int x)]) (st' := [.int x, .ref 19]) (h' := h) (cs := []) [.aload_n 0, .getfield 11, .iload_n 1] (by decide +kernel) rfl rfl trivial ?_
  refine z_callSN hC hN hR (as := [.ref 19, .int x]) (rest := []) ok_X1_19 (by decide +kernel) (sp_X7_at l _ h 19 1024 [] x rfl (by decide)) (Nat.le_of_ble_eq_true rfl) rfl rfl (Nat.le_of_ble_eq_true rfl) ⟨Nat.zero_le _, Nat.zero_le _⟩ (fun r1 h2 q3 => ?_)
  obtain ⟨rfl, rfl⟩ := q3
  exact z_ret_i hB rfl (by decide +kernel) ⟨rfl, rfl⟩

set_option maxHeartbeats 4000000 in
set_option maxRecDepth 100000 in
theorem sp_X1_holdNone_18 (l : Launch) (ext : z_Sh) (h : z_H)   : z_Sp l 0 yX1_holdNone cX1_holdNone 1 none [.ref 18] (z_c ext) h (fun rv h' => rv = none ∧ h' = z_set h 18 1 (nI 0)) := by
  refine z_enter ft_X1 (by decide +kernel) fo_X1 (Nat.le_of_ble_eq_true rfl) ?_
  intro p e R s m args below meth c D dA ad hB
  have hC := hB.1
  have hN := hB.2.1
  have hR := hB.2.2.1
  refine z_go hC (pc' := 5) (ls' := [some (.ref 18)]) (st' := []) (h' := z_set h 18 1 (nI 0)) (cs := []) [.aload_n 0, .iconst 0, .putfield 15] (by decide +kernel) rfl rfl trivial ?_
  exact z_ret_v hB rfl (by decide +kernel) ⟨rfl, rfl⟩

set_option maxHeartbeats 4000000 in
set_option maxRecDepth 100000 in
theorem sp_X1_holdFirstAlone_18 (l : Launch) (ext : z_Sh) (h : z_H)   : z_Sp l 1 yX1_holdFirstAlone cX1_holdFirstAlone 1 none [.ref 18] (z_c ext) h (fun rv h' => rv = none ∧ h' = z_set (z_putv h 19 1024 (nI 0) (nI 0)) 18 1 (nI 1)) := by
  refine z_enter ft_X1 (by decide +kernel) fo_X1 (Nat.le_of_ble_eq_true rfl) ?_
  intro p e R s m args below meth c D dA ad hB
  have hC := hB.1
  have hN := hB.2.1
  have hR := hB.2.2.1
  refine z_go hC (pc' := 6) (ls' := [some (.ref 18)]) (st' := [.int (nI 0), .int (nI 0), .ref 19]) (h' := h) (cs := []) [.aload_n 0, .getfield 11, .iconst 0, .iconst 0] (by decide +kernel) rfl rfl trivial ?_
  refine z_callSN hC hN hR (as := [.ref 19, .int (nI 0), .int (nI 0)]) (rest := []) ok_X1_23 (by decide +kernel) (sp_X7_put l _ h 19 1024 [] (nI 0) (nI 0) rfl (by decide)) (Nat.le_of_ble_eq_true rfl) rfl rfl (Nat.le_of_ble_eq_true rfl) ⟨Nat.zero_le _, Nat.zero_le _⟩ (fun r1 h2 q3 => ?_)
  obtain ⟨rfl, rfl⟩ := q3
  refine z_go hC (pc' := 14) (ls' := [some (.ref 18)]) (st' := []) (h' := z_set (z_putv h 19 1024 (nI 0) (nI 0)) 18 1 (nI 1)) (cs := []) [.aload_n 0, .iconst 1, .putfield 15] (by decide +kernel) rfl rfl trivial ?_
  exact z_ret_v hB rfl (by decide +kernel) ⟨rfl, rfl⟩

def fh_X1_add_18 (h : z_H) (x : Int32) (y : Int32) : z_H := if (nI 1024) ≤ (h.1 18 1) then h else z_set (z_putv h 19 1024 (h.1 18 1) ((x <<< ((nI 2) &&& 31)) ||| y)) 18 1 (((z_putv h 19 1024 (h.1 18 1) ((x <<< ((nI 2) &&& 31)) ||| y)).1 18 1) + (nI 1))
set_option maxHeartbeats 4000000 in
set_option maxRecDepth 100000 in
theorem sp_X1_add_18 (l : Launch) (ext : z_Sh) (h : z_H) (x : Int32) (y : Int32)  : z_Sp l 1 yX1_add cX1_add 3 none [.ref 18, .int x, .int y] (z_c ext) h (fun rv h' => rv = none ∧ h' = fh_X1_add_18 h x y) := by
  refine z_enter ft_X1 (by decide +kernel) fo_X1 (Nat.le_of_ble_eq_true rfl) ?_
  intro p e R s m args below meth c D dA ad hB
  have hC := hB.1
  have hN := hB.2.1
  have hR := hB.2.2.1
  refine z_go hC (pc' := 7) (ls' := [some (.ref 18), some (.int x), some (.int y)]) (st' := [.int (nI 1024), .int (h.1 18 1)]) (h' := h) (cs := [(Int16.ofInt (Int.ofNat 1024)).toInt32 = nI 1024]) [.aload_n 0, .getfield 15, .sipush 1024] (by decide +kernel) rfl rfl (by decide) ?_
  refine z_icmp_ge hC (off := 29) 36 (by decide +kernel) (by decide) (fun c1 => ?_) (fun c1 => ?_)
  · skip
    exact z_ret_v hB rfl (by decide +kernel) ⟨rfl, by rw [fh_X1_add_18, if_pos c1]⟩
  · skip
    refine z_go hC (pc' := 23) (ls' := [some (.ref 18), some (.int x), some (.int y)]) (st' := [.int ((x <<< ((nI 2) &&& 31)) ||| y), .int (h.1 18 1), .ref 19]) (h' := h) (cs := []) [.aload_n 0, .getfield 11, .aload_n 0, .getfield 15, .iload_n 1, .iconst 2, .ishl, .iload_n 2, .ior] (by decide +kernel) rfl rfl trivial ?_
    refine z_callSN hC hN hR (as := [.ref 19, .int (h.1 18 1), .int ((x <<< ((nI 2) &&& 31)) ||| y)]) (rest := []) ok_X1_23 (by decide +kernel) (sp_X7_put l _ h 19 1024 [] (h.1 18 1) ((x <<< ((nI 2) &&& 31)) ||| y) rfl (by decide)) (Nat.le_of_ble_eq_true rfl) rfl rfl (Nat.le_of_ble_eq_true rfl) ⟨Nat.zero_le _, Nat.zero_le _⟩ (fun r2 h3 q4 => ?_)
    obtain ⟨rfl, rfl⟩ := q4
    refine z_go hC (pc' := 36) (ls' := [some (.ref 18), some (.int x), some (.int y)]) (st' := []) (h' := z_set (z_putv h 19 1024 (h.1 18 1) ((x <<< ((nI 2) &&& 31)) ||| y)) 18 1 (((z_putv h 19 1024 (h.1 18 1) ((x <<< ((nI 2) &&& 31)) ||| y)).1 18 1) + (nI 1))) (cs := []) [.aload_n 0, .dup, .getfield 15, .iconst 1, .iadd, .putfield 15] (by decide +kernel) rfl rfl trivial ?_
    exact z_ret_v hB rfl (by decide +kernel) ⟨rfl, by rw [fh_X1_add_18, if_neg c1]⟩

def fv_X2_cornerOf (x : Int32) : Int32 := if ((x / (nI 6)) - (x / (nI 6)) / (nI 2) * (nI 2)) = 0 then if ((x - x / (nI 6) * (nI 6)) - (x - x / (nI 6) * (nI 6)) / (nI 2) * (nI 2)) = 0 then nI 0 else nI 1 else if ((x - x / (nI 6) * (nI 6)) - (x - x / (nI 6) * (nI 6)) / (nI 2) * (nI 2)) = 0 then nI 3 else nI 2
set_option maxHeartbeats 4000000 in
set_option maxRecDepth 100000 in
theorem sp_X2_cornerOf (l : Launch) (sh : z_Sh) (h : z_H) (x : Int32)  : z_Sp l 0 yX2_cornerOf cX2_cornerOf 3 (some .int) [.int x] (sh) h (fun rv h' => rv = some (.int (fv_X2_cornerOf x)) ∧ h' = h) := by
  refine z_enter ft_X2 (by decide +kernel) fo_X2 (Nat.le_of_ble_eq_true rfl) ?_
  intro p e R s m args below meth c D dA ad hB
  have hC := hB.1
  have hN := hB.2.1
  have hR := hB.2.2.1
  refine z_go hC (pc' := 6) (ls' := [some (.int x), none, none]) (st' := [.int ((x / (nI 6)) - (x / (nI 6)) / (nI 2) * (nI 2))]) (h' := h) (cs := [¬ (nI 6) = 0, ¬ (nI 2) = 0]) [.iload_n 0, .bipush 6, .idiv, .iconst 2, .irem] (by decide +kernel) rfl rfl ⟨(by decide), (by decide)⟩ ?_
  refine z_if_eq hC (off := 7) 13 (by decide +kernel) (by decide) (fun c1 => ?_) (fun c1 => ?_)
  · skip
    refine z_go hC (pc' := 21) (ls' := [some (.int x), some (.int (nI 0)), none]) (st' := [.int ((x - x / (nI 6) * (nI 6)) - (x - x / (nI 6) * (nI 6)) / (nI 2) * (nI 2))]) (h' := h) (cs := [¬ (nI 6) = 0, ¬ (nI 2) = 0]) [.iconst 0, .istore_n 1, .iload_n 0, .bipush 6, .irem, .iconst 2, .irem] (by decide +kernel) rfl rfl ⟨(by decide), (by decide)⟩ ?_
    refine z_if_eq hC (off := 7) 28 (by decide +kernel) (by decide) (fun c2 => ?_) (fun c2 => ?_)
    · skip
      refine z_go hC (pc' := 31) (ls' := [some (.int x), some (.int (nI 0)), some (.int (nI 0))]) (st' := [.int (nI 0)]) (h' := h) (cs := []) [.iconst 0, .istore_n 2, .iload_n 1] (by decide +kernel) rfl rfl trivial ?_
      refine z_if_eq hC (off := 13) 44 (by decide +kernel) (by decide) (fun c3 => ?_) (fun c3 => ?_)
      · skip
        refine z_go hC (pc' := 45) (ls' := [some (.int x), some (.int (nI 0)), some (.int (nI 0))]) (st' := [.int (nI 0)]) (h' := h) (cs := []) [.iload_n 2] (by decide +kernel) rfl rfl trivial ?_
        refine z_if_eq hC (off := 7) 52 (by decide +kernel) (by decide) (fun c4 => ?_) (fun c4 => ?_)
        · skip
          refine z_go hC (pc' := 53) (ls' := [some (.int x), some (.int (nI 0)), some (.int (nI 0))]) (st' := [.int (nI 0)]) (h' := h) (cs := []) [.iconst 0] (by decide +kernel) rfl rfl trivial ?_
          exact z_ret_i hB rfl (by decide +kernel) ⟨by rw [fv_X2_cornerOf, if_pos c1, if_pos c2], rfl⟩
        · skip
          exact absurd c4 (by decide)
      · skip
        exact absurd c3 (by decide)
    · skip
      refine z_go hC (pc' := 25) (ls' := [some (.int x), some (.int (nI 0)), none]) (st' := [.int (nI 1)]) (h' := h) (cs := []) [.iconst 1] (by decide +kernel) rfl rfl trivial ?_
      refine z_goto hC (off := 4) 29 (by decide +kernel) (by decide) ?_
      refine z_go hC (pc' := 31) (ls' := [some (.int x), some (.int (nI 0)), some (.int (nI 1))]) (st' := [.int (nI 0)]) (h' := h) (cs := []) [.istore_n 2, .iload_n 1] (by decide +kernel) rfl rfl trivial ?_
      refine z_if_eq hC (off := 13) 44 (by decide +kernel) (by decide) (fun c5 => ?_) (fun c5 => ?_)
      · skip
        refine z_go hC (pc' := 45) (ls' := [some (.int x), some (.int (nI 0)), some (.int (nI 1))]) (st' := [.int (nI 1)]) (h' := h) (cs := []) [.iload_n 2] (by decide +kernel) rfl rfl trivial ?_
        refine z_if_eq hC (off := 7) 52 (by decide +kernel) (by decide) (fun c6 => ?_) (fun c6 => ?_)
        · skip
          exact absurd c6 (by decide)
        · skip
          refine z_go hC (pc' := 49) (ls' := [some (.int x), some (.int (nI 0)), some (.int (nI 1))]) (st' := [.int (nI 1)]) (h' := h) (cs := []) [.iconst 1] (by decide +kernel) rfl rfl trivial ?_
          refine z_goto hC (off := 4) 53 (by decide +kernel) (by decide) ?_
          exact z_ret_i hB rfl (by decide +kernel) ⟨by rw [fv_X2_cornerOf, if_pos c1, if_neg c2], rfl⟩
      · skip
        exact absurd c5 (by decide)
  · skip
    refine z_go hC (pc' := 10) (ls' := [some (.int x), none, none]) (st' := [.int (nI 1)]) (h' := h) (cs := []) [.iconst 1] (by decide +kernel) rfl rfl trivial ?_
    refine z_goto hC (off := 4) 14 (by decide +kernel) (by decide) ?_
    refine z_go hC (pc' := 21) (ls' := [some (.int x), some (.int (nI 1)), none]) (st' := [.int ((x - x / (nI 6) * (nI 6)) - (x - x / (nI 6) * (nI 6)) / (nI 2) * (nI 2))]) (h' := h) (cs := [¬ (nI 6) = 0, ¬ (nI 2) = 0]) [.istore_n 1, .iload_n 0, .bipush 6, .irem, .iconst 2, .irem] (by decide +kernel) rfl rfl ⟨(by decide), (by decide)⟩ ?_
    refine z_if_eq hC (off := 7) 28 (by decide +kernel) (by decide) (fun c7 => ?_) (fun c7 => ?_)
    · skip
      refine z_go hC (pc' := 31) (ls' := [some (.int x), some (.int (nI 1)), some (.int (nI 0))]) (st' := [.int (nI 1)]) (h' := h) (cs := []) [.iconst 0, .istore_n 2, .iload_n 1] (by decide +kernel) rfl rfl trivial ?_
      refine z_if_eq hC (off := 13) 44 (by decide +kernel) (by decide) (fun c8 => ?_) (fun c8 => ?_)
      · skip
        exact absurd c8 (by decide)
      · skip
        refine z_go hC (pc' := 35) (ls' := [some (.int x), some (.int (nI 1)), some (.int (nI 0))]) (st' := [.int (nI 0)]) (h' := h) (cs := []) [.iload_n 2] (by decide +kernel) rfl rfl trivial ?_
        refine z_if_eq hC (off := 7) 42 (by decide +kernel) (by decide) (fun c9 => ?_) (fun c9 => ?_)
        · skip
          refine z_go hC (pc' := 43) (ls' := [some (.int x), some (.int (nI 1)), some (.int (nI 0))]) (st' := [.int (nI 3)]) (h' := h) (cs := []) [.iconst 3] (by decide +kernel) rfl rfl trivial ?_
          exact z_ret_i hB rfl (by decide +kernel) ⟨by rw [fv_X2_cornerOf, if_neg c1, if_pos c7], rfl⟩
        · skip
          exact absurd c9 (by decide)
    · skip
      refine z_go hC (pc' := 25) (ls' := [some (.int x), some (.int (nI 1)), none]) (st' := [.int (nI 1)]) (h' := h) (cs := []) [.iconst 1] (by decide +kernel) rfl rfl trivial ?_
      refine z_goto hC (off := 4) 29 (by decide +kernel) (by decide) ?_
      refine z_go hC (pc' := 31) (ls' := [some (.int x), some (.int (nI 1)), some (.int (nI 1))]) (st' := [.int (nI 1)]) (h' := h) (cs := []) [.istore_n 2, .iload_n 1] (by decide +kernel) rfl rfl trivial ?_
      refine z_if_eq hC (off := 13) 44 (by decide +kernel) (by decide) (fun c10 => ?_) (fun c10 => ?_)
      · skip
        exact absurd c10 (by decide)
      · skip
        refine z_go hC (pc' := 35) (ls' := [some (.int x), some (.int (nI 1)), some (.int (nI 1))]) (st' := [.int (nI 1)]) (h' := h) (cs := []) [.iload_n 2] (by decide +kernel) rfl rfl trivial ?_
        refine z_if_eq hC (off := 7) 42 (by decide +kernel) (by decide) (fun c11 => ?_) (fun c11 => ?_)
        · skip
          exact absurd c11 (by decide)
        · skip
          refine z_go hC (pc' := 39) (ls' := [some (.int x), some (.int (nI 1)), some (.int (nI 1))]) (st' := [.int (nI 2)]) (h' := h) (cs := []) [.iconst 2] (by decide +kernel) rfl rfl trivial ?_
          refine z_goto hC (off := 4) 43 (by decide +kernel) (by decide) ?_
          exact z_ret_i hB rfl (by decide +kernel) ⟨by rw [fv_X2_cornerOf, if_neg c1, if_neg c7], rfl⟩

def fv_X2_isThere (h : z_H)  : Int32 := if (h.1 4 4) ≤ 0 then nI 0 else nI 1
theorem zb_X2_isThere (h : z_H)  : fv_X2_isThere h  = 0 ∨ fv_X2_isThere h  = 1 := by unfold fv_X2_isThere; (repeat (first | (exact Or.inl rfl) | (exact Or.inr rfl) | split))
set_option maxHeartbeats 4000000 in
set_option maxRecDepth 100000 in
theorem sp_X2_isThere (l : Launch) (ext : z_Sh) (h : z_H)   : z_Sp l 0 yX2_isThere cX2_isThere 1 (some .boolean) [.ref 4] (z_c ext) h (fun rv h' => rv = some (.int (fv_X2_isThere h )) ∧ h' = h) := by
  refine z_enter ft_X2 (by decide +kernel) fo_X2 (Nat.le_of_ble_eq_true rfl) ?_
  intro p e R s m args below meth c D dA ad hB
  have hC := hB.1
  have hN := hB.2.1
  have hR := hB.2.2.1
  refine z_go hC (pc' := 4) (ls' := [some (.ref 4)]) (st' := [.int (h.1 4 4)]) (h' := h) (cs := []) [.aload_n 0, .getfield 25] (by decide +kernel) rfl rfl trivial ?_
  refine z_if_le hC (off := 7) 11 (by decide +kernel) (by decide) (fun c1 => ?_) (fun c1 => ?_)
  · skip
    refine z_go hC (pc' := 12) (ls' := [some (.ref 4)]) (st' := [.int (nI 0)]) (h' := h) (cs := []) [.iconst 0] (by decide +kernel) rfl rfl trivial ?_
    exact z_ret_z hB rfl (by decide) (by decide +kernel) ⟨by rw [fv_X2_isThere, if_pos c1], rfl⟩
  · skip
    refine z_go hC (pc' := 8) (ls' := [some (.ref 4)]) (st' := [.int (nI 1)]) (h' := h) (cs := []) [.iconst 1] (by decide +kernel) rfl rfl trivial ?_
    refine z_goto hC (off := 4) 12 (by decide +kernel) (by decide) ?_
    exact z_ret_z hB rfl (by decide) (by decide +kernel) ⟨by rw [fv_X2_isThere, if_neg c1], rfl⟩

set_option maxHeartbeats 4000000 in
set_option maxRecDepth 100000 in
theorem sp_X2_size (l : Launch) (ext : z_Sh) (h : z_H)   : z_Sp l 0 yX2_size cX2_size 1 (some .int) [.ref 4] (z_c ext) h (fun rv h' => rv = some (.int (h.1 4 4)) ∧ h' = h) := by
  refine z_enter ft_X2 (by decide +kernel) fo_X2 (Nat.le_of_ble_eq_true rfl) ?_
  intro p e R s m args below meth c D dA ad hB
  have hC := hB.1
  have hN := hB.2.1
  have hR := hB.2.2.1
  refine z_go hC (pc' := 4) (ls' := [some (.ref 4)]) (st' := [.int (h.1 4 4)]) (h' := h) (cs := []) [.aload_n 0, .getfield 25] (by decide +kernel) rfl rfl trivial ?_
  exact z_ret_i hB rfl (by decide +kernel) ⟨rfl, rfl⟩

set_option maxHeartbeats 4000000 in
set_option maxRecDepth 100000 in
theorem sp_X2_placeWith (l : Launch) (ext : z_Sh) (h : z_H) (x : Int32)  : z_Sp l 1 yX2_placeWith cX2_placeWith 2 (some .int) [.ref 4, .int x] (z_c ext) h (fun rv h' => rv = some (.int (z_atv h 6 36 x)) ∧ h' = h) := by
  refine z_enter ft_X2 (by decide +kernel) fo_X2 (Nat.le_of_ble_eq_true rfl) ?_
  intro p e R s m args below meth c D dA ad hB
  have hC := hB.1
  have hN := hB.2.1
  have hR := hB.2.2.1
  refine z_go hC (pc' := 5) (ls' := [some (.ref 4), some (.int x)]) (st' := [.int x, .ref 6]) (h' := h) (cs := []) [.aload_n 0, .getfield 15, .iload_n 1] (by decide +kernel) rfl rfl trivial ?_
  refine z_callSN hC hN hR (as := [.ref 6, .int x]) (rest := []) ok_X2_29 (by decide +kernel) (sp_X7_at l _ h 6 36 [] x rfl (by decide)) (Nat.le_of_ble_eq_true rfl) rfl rfl (Nat.le_of_ble_eq_true rfl) ⟨Nat.zero_le _, Nat.zero_le _⟩ (fun r1 h2 q3 => ?_)
  obtain ⟨rfl, rfl⟩ := q3
  exact z_ret_i hB rfl (by decide +kernel) ⟨rfl, rfl⟩

set_option maxHeartbeats 4000000 in
set_option maxRecDepth 100000 in
theorem sp_X2_cellWith (l : Launch) (ext : z_Sh) (h : z_H) (x : Int32)  : z_Sp l 1 yX2_cellWith cX2_cellWith 2 (some .int) [.ref 4, .int x] (z_c ext) h (fun rv h' => rv = some (.int (z_atv h 5 36 x)) ∧ h' = h) := by
  refine z_enter ft_X2 (by decide +kernel) fo_X2 (Nat.le_of_ble_eq_true rfl) ?_
  intro p e R s m args below meth c D dA ad hB
  have hC := hB.1
  have hN := hB.2.1
  have hR := hB.2.2.1
  refine z_go hC (pc' := 5) (ls' := [some (.ref 4), some (.int x)]) (st' := [.int x, .ref 5]) (h' := h) (cs := []) [.aload_n 0, .getfield 9, .iload_n 1] (by decide +kernel) rfl rfl trivial ?_
  refine z_callSN hC hN hR (as := [.ref 5, .int x]) (rest := []) ok_X2_29 (by decide +kernel) (sp_X7_at l _ h 5 36 [] x rfl (by decide)) (Nat.le_of_ble_eq_true rfl) rfl rfl (Nat.le_of_ble_eq_true rfl) ⟨Nat.zero_le _, Nat.zero_le _⟩ (fun r1 h2 q3 => ?_)
  obtain ⟨rfl, rfl⟩ := q3
  exact z_ret_i hB rfl (by decide +kernel) ⟨rfl, rfl⟩

def fv_X2_wayBetween (h : z_H) (x : Int32) (y : Int32) : Int32 := if 0 ≤ ((z_atv h 6 36 y) - (z_atv h 6 36 x)) then (z_atv h 6 36 y) - (z_atv h 6 36 x) else ((z_atv h 6 36 y) - (z_atv h 6 36 x)) + (h.1 4 4)
set_option maxHeartbeats 4000000 in
set_option maxRecDepth 100000 in
theorem sp_X2_wayBetween (l : Launch) (ext : z_Sh) (h : z_H) (x : Int32) (y : Int32)  : z_Sp l 1 yX2_wayBetween cX2_wayBetween 4 (some .int) [.ref 4, .int x, .int y] (z_c ext) h (fun rv h' => rv = some (.int (fv_X2_wayBetween h x y)) ∧ h' = h) := by
  refine z_enter ft_X2 (by decide +kernel) fo_X2 (Nat.le_of_ble_eq_true rfl) ?_
  intro p e R s m args below meth c D dA ad hB
  have hC := hB.1
  have hN := hB.2.1
  have hR := hB.2.2.1
  refine z_go hC (pc' := 5) (ls' := [some (.ref 4), some (.int x), some (.int y), none]) (st' := [.int y, .ref 6]) (h' := h) (cs := []) [.aload_n 0, .getfield 15, .iload_n 2] (by decide +kernel) rfl rfl trivial ?_
  refine z_callSN hC hN hR (as := [.ref 6, .int y]) (rest := []) ok_X2_29 (by decide +kernel) (sp_X7_at l _ h 6 36 [] y rfl (by decide)) (Nat.le_of_ble_eq_true rfl) rfl rfl (Nat.le_of_ble_eq_true rfl) ⟨Nat.zero_le _, Nat.zero_le _⟩ (fun r1 h2 q3 => ?_)
  obtain ⟨rfl, rfl⟩ := q3
  refine z_go hC (pc' := 13) (ls' := [some (.ref 4), some (.int x), some (.int y), none]) (st' := [.int x, .ref 6, .int (z_atv h 6 36 y)]) (h' := h) (cs := []) [.aload_n 0, .getfield 15, .iload_n 1] (by decide +kernel) rfl rfl trivial ?_
  refine z_callSN hC hN hR (as := [.ref 6, .int x]) (rest := [.int (z_atv h 6 36 y)]) ok_X2_29 (by decide +kernel) (sp_X7_at l _ h 6 36 [] x rfl (by decide)) (Nat.le_of_ble_eq_true rfl) rfl rfl (Nat.le_of_ble_eq_true rfl) ⟨Nat.zero_le _, Nat.zero_le _⟩ (fun r4 h5 q6 => ?_)
  obtain ⟨rfl, rfl⟩ := q6
  refine z_go hC (pc' := 19) (ls' := [some (.ref 4), some (.int x), some (.int y), some (.int ((z_atv h 6 36 y) - (z_atv h 6 36 x)))]) (st' := [.int ((z_atv h 6 36 y) - (z_atv h 6 36 x))]) (h' := h) (cs := []) [.isub, .istore_n 3, .iload_n 3] (by decide +kernel) rfl rfl trivial ?_
  refine z_if_ge hC (off := 12) 31 (by decide +kernel) (by decide) (fun c7 => ?_) (fun c7 => ?_)
  · skip
    refine z_go hC (pc' := 32) (ls' := [some (.ref 4), some (.int x), some (.int y), some (.int ((z_atv h 6 36 y) - (z_atv h 6 36 x)))]) (st' := [.int ((z_atv h 6 36 y) - (z_atv h 6 36 x))]) (h' := h) (cs := []) [.iload_n 3] (by decide +kernel) rfl rfl trivial ?_
    exact z_ret_i hB rfl (by decide +kernel) ⟨by rw [fv_X2_wayBetween, if_pos c7], rfl⟩
  · skip
    refine z_go hC (pc' := 28) (ls' := [some (.ref 4), some (.int x), some (.int y), some (.int ((z_atv h 6 36 y) - (z_atv h 6 36 x)))]) (st' := [.int (((z_atv h 6 36 y) - (z_atv h 6 36 x)) + (h.1 4 4))]) (h' := h) (cs := []) [.iload_n 3, .aload_n 0, .getfield 25, .iadd] (by decide +kernel) rfl rfl trivial ?_
    refine z_goto hC (off := 4) 32 (by decide +kernel) (by decide) ?_
    exact z_ret_i hB rfl (by decide +kernel) ⟨by rw [fv_X2_wayBetween, if_neg c7], rfl⟩

def fv_X2_nextRoundTree (h : z_H) (x : Int32) : Int32 := if (fv_X0_treeHas h (fv_X0_linkOutOf (fv_X0_blockOf x) (fv_X2_cornerOf x))) = 0 then fv_X0_cellBeside x (((fv_X2_cornerOf x) + (nI 1)) - ((fv_X2_cornerOf x) + (nI 1)) / (nI 4) * (nI 4)) else fv_X0_cellBeside x (fv_X2_cornerOf x)
set_option maxHeartbeats 4000000 in
set_option maxRecDepth 100000 in
theorem sp_X2_nextRoundTree (l : Launch) (ext : z_Sh) (h : z_H) (x : Int32)  : z_Sp l 1 yX2_nextRoundTree cX2_nextRoundTree 4 (some .int) [.ref 4, .int x] (z_c ext) h (fun rv h' => rv = some (.int (fv_X2_nextRoundTree h x)) ∧ h' = h) := by
  refine z_enter ft_X2 (by decide +kernel) fo_X2 (Nat.le_of_ble_eq_true rfl) ?_
  intro p e R s m args below meth c D dA ad hB
  have hC := hB.1
  have hN := hB.2.1
  have hR := hB.2.2.1
  refine z_go hC (pc' := 1) (ls' := [some (.ref 4), some (.int x), none, none]) (st' := [.int x]) (h' := h) (cs := []) [.iload_n 1] (by decide +kernel) rfl rfl trivial ?_
  refine z_callS hC hN hR (as := [.int x]) (rest := []) ok_X2_57 (by decide +kernel) (sp_X2_cornerOf l _ h x) (Nat.le_of_ble_eq_true rfl) rfl rfl (Nat.le_of_ble_eq_true rfl) ⟨Nat.zero_le _, Nat.zero_le _⟩ (fun r1 h2 q3 => ?_)
  obtain ⟨rfl, rfl⟩ := q3
  refine z_go hC (pc' := 10) (ls' := [some (.ref 4), some (.int x), some (.int (fv_X2_cornerOf x)), none]) (st' := [.int x, .ref 1]) (h' := h) (cs := []) [.istore_n 2, .aload_n 0, .getfield 21, .iload_n 1] (by decide +kernel) rfl rfl trivial ?_
  refine z_callS hC hN hR (as := [.int x]) (rest := [.ref 1]) ok_X2_60 (by decide +kernel) (sp_X0_blockOf l _ h x) (Nat.le_of_ble_eq_true rfl) rfl rfl (Nat.le_of_ble_eq_true rfl) ⟨Nat.zero_le _, Nat.zero_le _⟩ (fun r4 h5 q6 => ?_)
  obtain ⟨rfl, rfl⟩ := q6
  refine z_go hC (pc' := 14) (ls' := [some (.ref 4), some (.int x), some (.int (fv_X2_cornerOf x)), none]) (st' := [.int (fv_X2_cornerOf x), .int (fv_X0_blockOf x), .ref 1]) (h' := h) (cs := []) [.iload_n 2] (by decide +kernel) rfl rfl trivial ?_
  refine z_callS hC hN hR (as := [.int (fv_X0_blockOf x), .int (fv_X2_cornerOf x)]) (rest := [.ref 1]) ok_X2_63 (by decide +kernel) (sp_X0_linkOutOf l _ h (fv_X0_blockOf x) (fv_X2_cornerOf x)) (Nat.le_of_ble_eq_true rfl) rfl rfl (Nat.le_of_ble_eq_true rfl) ⟨Nat.zero_le _, Nat.zero_le _⟩ (fun r7 h8 q9 => ?_)
  obtain ⟨rfl, rfl⟩ := q9
  refine z_callV hC hN hR (as := [.int (fv_X0_linkOutOf (fv_X0_blockOf x) (fv_X2_cornerOf x))]) (rest := []) ok_X2_67 (by decide +kernel) (sp_X0_treeHas l _ h (fv_X0_linkOutOf (fv_X0_blockOf x) (fv_X2_cornerOf x))) rfl rfl (Nat.le_of_ble_eq_true rfl) rfl rfl (Nat.le_of_ble_eq_true rfl) ⟨Nat.zero_le _, Nat.zero_le _⟩ (fun r10 h11 q12 => ?_)
  obtain ⟨rfl, rfl⟩ := q12
  refine z_go hC (pc' := 23) (ls' := [some (.ref 4), some (.int x), some (.int (fv_X2_cornerOf x)), some (.int (fv_X0_treeHas h (fv_X0_linkOutOf (fv_X0_blockOf x) (fv_X2_cornerOf x))))]) (st' := [.int (fv_X0_treeHas h (fv_X0_linkOutOf (fv_X0_blockOf x) (fv_X2_cornerOf x))), .int x]) (h' := h) (cs := []) [.istore_n 3, .iload_n 1, .iload_n 3] (by decide +kernel) rfl rfl trivial ?_
  refine z_if_eq hC (off := 7) 30 (by decide +kernel) (by decide) (fun c13 => ?_) (fun c13 => ?_)
  · skip
    refine z_go hC (pc' := 35) (ls' := [some (.ref 4), some (.int x), some (.int (fv_X2_cornerOf x)), some (.int (fv_X0_treeHas h (fv_X0_linkOutOf (fv_X0_blockOf x) (fv_X2_cornerOf x))))]) (st' := [.int (((fv_X2_cornerOf x) + (nI 1)) - ((fv_X2_cornerOf x) + (nI 1)) / (nI 4) * (nI 4)), .int x]) (h' := h) (cs := [¬ (nI 4) = 0]) [.iload_n 2, .iconst 1, .iadd, .iconst 4, .irem] (by decide +kernel) rfl rfl (by decide) ?_
    refine z_callS hC hN hR (as := [.int x, .int (((fv_X2_cornerOf x) + (nI 1)) - ((fv_X2_cornerOf x) + (nI 1)) / (nI 4) * (nI 4))]) (rest := []) ok_X2_71 (by decide +kernel) (sp_X0_cellBeside l _ h x (((fv_X2_cornerOf x) + (nI 1)) - ((fv_X2_cornerOf x) + (nI 1)) / (nI 4) * (nI 4))) (Nat.le_of_ble_eq_true rfl) rfl rfl (Nat.le_of_ble_eq_true rfl) ⟨Nat.zero_le _, Nat.zero_le _⟩ (fun r14 h15 q16 => ?_)
    obtain ⟨rfl, rfl⟩ := q16
    exact z_ret_i hB rfl (by decide +kernel) ⟨by rw [fv_X2_nextRoundTree, if_pos c13], rfl⟩
  · skip
    refine z_go hC (pc' := 27) (ls' := [some (.ref 4), some (.int x), some (.int (fv_X2_cornerOf x)), some (.int (fv_X0_treeHas h (fv_X0_linkOutOf (fv_X0_blockOf x) (fv_X2_cornerOf x))))]) (st' := [.int (fv_X2_cornerOf x), .int x]) (h' := h) (cs := []) [.iload_n 2] (by decide +kernel) rfl rfl trivial ?_
    refine z_goto hC (off := 8) 35 (by decide +kernel) (by decide) ?_
    refine z_callS hC hN hR (as := [.int x, .int (fv_X2_cornerOf x)]) (rest := []) ok_X2_71 (by decide +kernel) (sp_X0_cellBeside l _ h x (fv_X2_cornerOf x)) (Nat.le_of_ble_eq_true rfl) rfl rfl (Nat.le_of_ble_eq_true rfl) ⟨Nat.zero_le _, Nat.zero_le _⟩ (fun r17 h18 q19 => ?_)
    obtain ⟨rfl, rfl⟩ := q19
    exact z_ret_i hB rfl (by decide +kernel) ⟨by rw [fv_X2_nextRoundTree, if_neg c13], rfl⟩

set_option maxHeartbeats 4000000 in
set_option maxRecDepth 100000 in
theorem sp_X2_makeRing (l : Launch) (ext : z_Sh) (h : z_H) (x : Int32)  : z_Sp l 1 yX2_makeRing cX2_makeRing 5 none [.ref 4, .int x] (z_c ext) h (fun rv h' => rv = none ∧ h' = z_putv (z_putv (z_putv (z_putv h 7 36 x (x + (nI 1))) 7 36 (x + (nI 1)) ((x + (nI 6)) + (nI 1))) 7 36 ((x + (nI 6)) + (nI 1)) (x + (nI 6))) 7 36 (x + (nI 6)) x) := by
  refine z_enter ft_X2 (by decide +kernel) fo_X2 (Nat.le_of_ble_eq_true rfl) ?_
  intro p e R s m args below meth c D dA ad hB
  have hC := hB.1
  have hN := hB.2.1
  have hR := hB.2.2.1
  refine z_go hC (pc' := 20) (ls' := [some (.ref 4), some (.int x), some (.int (x + (nI 1))), some (.int (x + (nI 6))), some (.int ((x + (nI 6)) + (nI 1)))]) (st' := [.int (x + (nI 1)), .int x, .ref 7]) (h' := h) (cs := []) [.iload_n 1, .iconst 1, .iadd, .istore_n 2, .iload_n 1, .bipush 6, .iadd, .istore_n 3, .iload_n 3, .iconst 1, .iadd, .istore 4, .aload_n 0, .getfield 18, .iload_n 1, .iload_n 2] (by decide +kernel) rfl rfl trivial ?_
  refine z_callSN hC hN hR (as := [.ref 7, .int x, .int (x + (nI 1))]) (rest := []) ok_X2_49 (by decide +kernel) (sp_X7_put l _ h 7 36 [] x (x + (nI 1)) rfl (by decide)) (Nat.le_of_ble_eq_true rfl) rfl rfl (Nat.le_of_ble_eq_true rfl) ⟨Nat.zero_le _, Nat.zero_le _⟩ (fun r1 h2 q3 => ?_)
  obtain ⟨rfl, rfl⟩ := q3
  refine z_go hC (pc' := 30) (ls' := [some (.ref 4), some (.int x), some (.int (x + (nI 1))), some (.int (x + (nI 6))), some (.int ((x + (nI 6)) + (nI 1)))]) (st' := [.int ((x + (nI 6)) + (nI 1)), .int (x + (nI 1)), .ref 7]) (h' := z_putv h 7 36 x (x + (nI 1))) (cs := []) [.aload_n 0, .getfield 18, .iload_n 2, .iload 4] (by decide +kernel) rfl rfl trivial ?_
  refine z_callSN hC hN hR (as := [.ref 7, .int (x + (nI 1)), .int ((x + (nI 6)) + (nI 1))]) (rest := []) ok_X2_49 (by decide +kernel) (sp_X7_put l _ (z_putv h 7 36 x (x + (nI 1))) 7 36 [] (x + (nI 1)) ((x + (nI 6)) + (nI 1)) rfl (by decide)) (Nat.le_of_ble_eq_true rfl) rfl rfl (Nat.le_of_ble_eq_true rfl) ⟨Nat.zero_le _, Nat.zero_le _⟩ (fun r4 h5 q6 => ?_)
  obtain ⟨rfl, rfl⟩ := q6
  refine z_go hC (pc' := 40) (ls' := [some (.ref 4), some (.int x), some (.int (x + (nI 1))), some (.int (x + (nI 6))), some (.int ((x + (nI 6)) + (nI 1)))]) (st' := [.int (x + (nI 6)), .int ((x + (nI 6)) + (nI 1)), .ref 7]) (h' := z_putv (z_putv h 7 36 x (x + (nI 1))) 7 36 (x + (nI 1)) ((x + (nI 6)) + (nI 1))) (cs := []) [.aload_n 0, .getfield 18, .iload 4, .iload_n 3] (by decide +kernel) rfl rfl trivial ?_
  refine z_callSN hC hN hR (as := [.ref 7, .int ((x + (nI 6)) + (nI 1)), .int (x + (nI 6))]) (rest := []) ok_X2_49 (by decide +kernel) (sp_X7_put l _ (z_putv (z_putv h 7 36 x (x + (nI 1))) 7 36 (x + (nI 1)) ((x + (nI 6)) + (nI 1))) 7 36 [] ((x + (nI 6)) + (nI 1)) (x + (nI 6)) rfl (by decide)) (Nat.le_of_ble_eq_true rfl) rfl rfl (Nat.le_of_ble_eq_true rfl) ⟨Nat.zero_le _, Nat.zero_le _⟩ (fun r7 h8 q9 => ?_)
  obtain ⟨rfl, rfl⟩ := q9
  refine z_go hC (pc' := 49) (ls' := [some (.ref 4), some (.int x), some (.int (x + (nI 1))), some (.int (x + (nI 6))), some (.int ((x + (nI 6)) + (nI 1)))]) (st' := [.int x, .int (x + (nI 6)), .ref 7]) (h' := z_putv (z_putv (z_putv h 7 36 x (x + (nI 1))) 7 36 (x + (nI 1)) ((x + (nI 6)) + (nI 1))) 7 36 ((x + (nI 6)) + (nI 1)) (x + (nI 6))) (cs := []) [.aload_n 0, .getfield 18, .iload_n 3, .iload_n 1] (by decide +kernel) rfl rfl trivial ?_
  refine z_callSN hC hN hR (as := [.ref 7, .int (x + (nI 6)), .int x]) (rest := []) ok_X2_49 (by decide +kernel) (sp_X7_put l _ (z_putv (z_putv (z_putv h 7 36 x (x + (nI 1))) 7 36 (x + (nI 1)) ((x + (nI 6)) + (nI 1))) 7 36 ((x + (nI 6)) + (nI 1)) (x + (nI 6))) 7 36 [] (x + (nI 6)) x rfl (by decide)) (Nat.le_of_ble_eq_true rfl) rfl rfl (Nat.le_of_ble_eq_true rfl) ⟨Nat.zero_le _, Nat.zero_le _⟩ (fun r10 h11 q12 => ?_)
  obtain ⟨rfl, rfl⟩ := q12
  exact z_ret_v hB rfl (by decide +kernel) ⟨rfl, rfl⟩

def fh_X2_makeOneOfTwo (h : z_H) (x : Int32) : z_H := if x < (nI 6) then z_putv (z_putv h 7 36 ((fv_X0_upperLeftOf (fv_X0_firstBlockOf x)) + (nI 1)) (z_atv h 7 36 ((fv_X0_upperLeftOf (fv_X0_secondBlockOf x)) + (nI 6)))) 7 36 ((fv_X0_upperLeftOf (fv_X0_secondBlockOf x)) + (nI 6)) (z_atv h 7 36 ((fv_X0_upperLeftOf (fv_X0_firstBlockOf x)) + (nI 1))) else z_putv (z_putv h 7 36 (((fv_X0_upperLeftOf (fv_X0_firstBlockOf x)) + (nI 6)) + (nI 1)) (z_atv h 7 36 (fv_X0_upperLeftOf (fv_X0_secondBlockOf x)))) 7 36 (fv_X0_upperLeftOf (fv_X0_secondBlockOf x)) (z_atv h 7 36 (((fv_X0_upperLeftOf (fv_X0_firstBlockOf x)) + (nI 6)) + (nI 1)))
set_option maxHeartbeats 4000000 in
set_option maxRecDepth 100000 in
theorem sp_X2_makeOneOfTwo (l : Launch) (ext : z_Sh) (h : z_H) (x : Int32)  : z_Sp l 2 yX2_makeOneOfTwo cX2_makeOneOfTwo 8 none [.ref 4, .int x] (z_c ext) h (fun rv h' => rv = none ∧ h' = fh_X2_makeOneOfTwo h x) := by
  refine z_enter ft_X2 (by decide +kernel) fo_X2 (Nat.le_of_ble_eq_true rfl) ?_
  intro p e R s m args below meth c D dA ad hB
  have hC := hB.1
  have hN := hB.2.1
  have hR := hB.2.2.1
  refine z_go hC (pc' := 1) (ls' := [some (.ref 4), some (.int x), none, none, none, none, none, none]) (st' := [.int x]) (h' := h) (cs := []) [.iload_n 1] (by decide +kernel) rfl rfl trivial ?_
  refine z_callS hC hN hR (as := [.int x]) (rest := []) ok_X2_87 (by decide +kernel) (sp_X0_firstBlockOf l _ h x) (Nat.le_of_ble_eq_true rfl) rfl rfl (Nat.le_of_ble_eq_true rfl) ⟨Nat.zero_le _, Nat.zero_le _⟩ (fun r1 h2 q3 => ?_)
  obtain ⟨rfl, rfl⟩ := q3
  refine z_callS hC hN hR (as := [.int (fv_X0_firstBlockOf x)]) (rest := []) ok_X2_77 (by decide +kernel) (sp_X0_upperLeftOf l _ h (fv_X0_firstBlockOf x)) (Nat.le_of_ble_eq_true rfl) rfl rfl (Nat.le_of_ble_eq_true rfl) ⟨Nat.zero_le _, Nat.zero_le _⟩ (fun r4 h5 q6 => ?_)
  obtain ⟨rfl, rfl⟩ := q6
  refine z_go hC (pc' := 9) (ls' := [some (.ref 4), some (.int x), some (.int (fv_X0_upperLeftOf (fv_X0_firstBlockOf x))), none, none, none, none, none]) (st' := [.int x]) (h' := h) (cs := []) [.istore_n 2, .iload_n 1] (by decide +kernel) rfl rfl trivial ?_
  refine z_callS hC hN hR (as := [.int x]) (rest := []) ok_X2_90 (by decide +kernel) (sp_X0_secondBlockOf l _ h x) (Nat.le_of_ble_eq_true rfl) rfl rfl (Nat.le_of_ble_eq_true rfl) ⟨Nat.zero_le _, Nat.zero_le _⟩ (fun r7 h8 q9 => ?_)
  obtain ⟨rfl, rfl⟩ := q9
  refine z_callS hC hN hR (as := [.int (fv_X0_secondBlockOf x)]) (rest := []) ok_X2_77 (by decide +kernel) (sp_X0_upperLeftOf l _ h (fv_X0_secondBlockOf x)) (Nat.le_of_ble_eq_true rfl) rfl rfl (Nat.le_of_ble_eq_true rfl) ⟨Nat.zero_le _, Nat.zero_le _⟩ (fun r10 h11 q12 => ?_)
  obtain ⟨rfl, rfl⟩ := q12
  refine z_go hC (pc' := 19) (ls' := [some (.ref 4), some (.int x), some (.int (fv_X0_upperLeftOf (fv_X0_firstBlockOf x))), some (.int (fv_X0_upperLeftOf (fv_X0_secondBlockOf x))), none, none, none, none]) (st' := [.int (nI 6), .int x]) (h' := h) (cs := []) [.istore_n 3, .iload_n 1, .bipush 6] (by decide +kernel) rfl rfl trivial ?_
  refine z_icmp_lt hC (off := 7) 26 (by decide +kernel) (by decide) (fun c13 => ?_) (fun c13 => ?_)
  · skip
    refine z_go hC (pc' := 31) (ls' := [some (.ref 4), some (.int x), some (.int (fv_X0_upperLeftOf (fv_X0_firstBlockOf x))), some (.int (fv_X0_upperLeftOf (fv_X0_secondBlockOf x))), some (.int (nI 0)), none, none, none]) (st' := [.int (nI 0)]) (h' := h) (cs := []) [.iconst 0, .istore 4, .iload 4] (by decide +kernel) rfl rfl trivial ?_
    refine z_if_eq hC (off := 12) 43 (by decide +kernel) (by decide) (fun c14 => ?_) (fun c14 => ?_)
    · skip
      refine z_go hC (pc' := 50) (ls' := [some (.ref 4), some (.int x), some (.int (fv_X0_upperLeftOf (fv_X0_firstBlockOf x))), some (.int (fv_X0_upperLeftOf (fv_X0_secondBlockOf x))), some (.int (nI 0)), some (.int ((fv_X0_upperLeftOf (fv_X0_firstBlockOf x)) + (nI 1))), none, none]) (st' := [.int (nI 0)]) (h' := h) (cs := []) [.iload_n 2, .iconst 1, .iadd, .istore 5, .iload 4] (by decide +kernel) rfl rfl trivial ?_
      refine z_if_eq hC (off := 7) 57 (by decide +kernel) (by decide) (fun c15 => ?_) (fun c15 => ?_)
      · skip
        refine z_go hC (pc' := 69) (ls' := [some (.ref 4), some (.int x), some (.int (fv_X0_upperLeftOf (fv_X0_firstBlockOf x))), some (.int (fv_X0_upperLeftOf (fv_X0_secondBlockOf x))), some (.int (nI 0)), some (.int ((fv_X0_upperLeftOf (fv_X0_firstBlockOf x)) + (nI 1))), some (.int ((fv_X0_upperLeftOf (fv_X0_secondBlockOf x)) + (nI 6))), none]) (st' := [.int ((fv_X0_upperLeftOf (fv_X0_firstBlockOf x)) + (nI 1)), .ref 7]) (h' := h) (cs := []) [.iload_n 3, .bipush 6, .iadd, .istore 6, .aload_n 0, .getfield 18, .iload 5] (by decide +kernel) rfl rfl trivial ?_
        refine z_callSN hC hN hR (as := [.ref 7, .int ((fv_X0_upperLeftOf (fv_X0_firstBlockOf x)) + (nI 1))]) (rest := []) ok_X2_29 (by decide +kernel) (sp_X7_at l _ h 7 36 [] ((fv_X0_upperLeftOf (fv_X0_firstBlockOf x)) + (nI 1)) rfl (by decide)) (Nat.le_of_ble_eq_true rfl) rfl rfl (Nat.le_of_ble_eq_true rfl) ⟨Nat.zero_le _, Nat.zero_le _⟩ (fun r16 h17 q18 => ?_)
        obtain ⟨rfl, rfl⟩ := q18
        refine z_go hC (pc' := 86) (ls' := [some (.ref 4), some (.int x), some (.int (fv_X0_upperLeftOf (fv_X0_firstBlockOf x))), some (.int (fv_X0_upperLeftOf (fv_X0_secondBlockOf x))), some (.int (nI 0)), some (.int ((fv_X0_upperLeftOf (fv_X0_firstBlockOf x)) + (nI 1))), some (.int ((fv_X0_upperLeftOf (fv_X0_secondBlockOf x)) + (nI 6))), some (.int (z_atv h 7 36 ((fv_X0_upperLeftOf (fv_X0_firstBlockOf x)) + (nI 1))))]) (st' := [.int ((fv_X0_upperLeftOf (fv_X0_secondBlockOf x)) + (nI 6)), .ref 7, .int ((fv_X0_upperLeftOf (fv_X0_firstBlockOf x)) + (nI 1)), .ref 7]) (h' := h) (cs := []) [.istore 7, .aload_n 0, .getfield 18, .iload 5, .aload_n 0, .getfield 18, .iload 6] (by decide +kernel) rfl rfl trivial ?_
        refine z_callSN hC hN hR (as := [.ref 7, .int ((fv_X0_upperLeftOf (fv_X0_secondBlockOf x)) + (nI 6))]) (rest := [.int ((fv_X0_upperLeftOf (fv_X0_firstBlockOf x)) + (nI 1)), .ref 7]) ok_X2_29 (by decide +kernel) (sp_X7_at l _ h 7 36 [] ((fv_X0_upperLeftOf (fv_X0_secondBlockOf x)) + (nI 6)) rfl (by decide)) (Nat.le_of_ble_eq_true rfl) rfl rfl (Nat.le_of_ble_eq_true rfl) ⟨Nat.zero_le _, Nat.zero_le _⟩ (fun r19 h20 q21 => ?_)
        obtain ⟨rfl, rfl⟩ := q21
        refine z_callSN hC hN hR (as := [.ref 7, .int ((fv_X0_upperLeftOf (fv_X0_firstBlockOf x)) + (nI 1)), .int (z_atv h 7 36 ((fv_X0_upperLeftOf (fv_X0_secondBlockOf x)) + (nI 6)))]) (rest := []) ok_X2_49 (by decide +kernel) (sp_X7_put l _ h 7 36 [] ((fv_X0_upperLeftOf (fv_X0_firstBlockOf x)) + (nI 1)) (z_atv h 7 36 ((fv_X0_upperLeftOf (fv_X0_secondBlockOf x)) + (nI 6))) rfl (by decide)) (Nat.le_of_ble_eq_true rfl) rfl rfl (Nat.le_of_ble_eq_true rfl) ⟨Nat.zero_le _, Nat.zero_le _⟩ (fun r22 h23 q24 => ?_)
        obtain ⟨rfl, rfl⟩ := q24
        refine z_go hC (pc' := 100) (ls' := [some (.ref 4), some (.int x), some (.int (fv_X0_upperLeftOf (fv_X0_firstBlockOf x))), some (.int (fv_X0_upperLeftOf (fv_X0_secondBlockOf x))), some (.int (nI 0)), some (.int ((fv_X0_upperLeftOf (fv_X0_firstBlockOf x)) + (nI 1))), some (.int ((fv_X0_upperLeftOf (fv_X0_secondBlockOf x)) + (nI 6))), some (.int (z_atv h 7 36 ((fv_X0_upperLeftOf (fv_X0_firstBlockOf x)) + (nI 1))))]) (st' := [.int (z_atv h 7 36 ((fv_X0_upperLeftOf (fv_X0_firstBlockOf x)) + (nI 1))), .int ((fv_X0_upperLeftOf (fv_X0_secondBlockOf x)) + (nI 6)), .ref 7]) (h' := z_putv h 7 36 ((fv_X0_upperLeftOf (fv_X0_firstBlockOf x)) + (nI 1)) (z_atv h 7 36 ((fv_X0_upperLeftOf (fv_X0_secondBlockOf x)) + (nI 6)))) (cs := []) [.aload_n 0, .getfield 18, .iload 6, .iload 7] (by decide +kernel) rfl rfl trivial ?_
        refine z_callSN hC hN hR (as := [.ref 7, .int ((fv_X0_upperLeftOf (fv_X0_secondBlockOf x)) + (nI 6)), .int (z_atv h 7 36 ((fv_X0_upperLeftOf (fv_X0_firstBlockOf x)) + (nI 1)))]) (rest := []) ok_X2_49 (by decide +kernel) (sp_X7_put l _ (z_putv h 7 36 ((fv_X0_upperLeftOf (fv_X0_firstBlockOf x)) + (nI 1)) (z_atv h 7 36 ((fv_X0_upperLeftOf (fv_X0_secondBlockOf x)) + (nI 6)))) 7 36 [] ((fv_X0_upperLeftOf (fv_X0_secondBlockOf x)) + (nI 6)) (z_atv h 7 36 ((fv_X0_upperLeftOf (fv_X0_firstBlockOf x)) + (nI 1))) rfl (by decide)) (Nat.le_of_ble_eq_true rfl) rfl rfl (Nat.le_of_ble_eq_true rfl) ⟨Nat.zero_le _, Nat.zero_le _⟩ (fun r25 h26 q27 => ?_)
        obtain ⟨rfl, rfl⟩ := q27
        exact z_ret_v hB rfl (by decide +kernel) ⟨rfl, by rw [fh_X2_makeOneOfTwo, if_pos c13]⟩
      · skip
        exact absurd c15 (by decide)
    · skip
      exact absurd c14 (by decide)
  · skip
    refine z_go hC (pc' := 23) (ls' := [some (.ref 4), some (.int x), some (.int (fv_X0_upperLeftOf (fv_X0_firstBlockOf x))), some (.int (fv_X0_upperLeftOf (fv_X0_secondBlockOf x))), none, none, none, none]) (st' := [.int (nI 1)]) (h' := h) (cs := []) [.iconst 1] (by decide +kernel) rfl rfl trivial ?_
    refine z_goto hC (off := 4) 27 (by decide +kernel) (by decide) ?_
    refine z_go hC (pc' := 31) (ls' := [some (.ref 4), some (.int x), some (.int (fv_X0_upperLeftOf (fv_X0_firstBlockOf x))), some (.int (fv_X0_upperLeftOf (fv_X0_secondBlockOf x))), some (.int (nI 1)), none, none, none]) (st' := [.int (nI 1)]) (h' := h) (cs := []) [.istore 4, .iload 4] (by decide +kernel) rfl rfl trivial ?_
    refine z_if_eq hC (off := 12) 43 (by decide +kernel) (by decide) (fun c28 => ?_) (fun c28 => ?_)
    · skip
      exact absurd c28 (by decide)
    · skip
      refine z_go hC (pc' := 40) (ls' := [some (.ref 4), some (.int x), some (.int (fv_X0_upperLeftOf (fv_X0_firstBlockOf x))), some (.int (fv_X0_upperLeftOf (fv_X0_secondBlockOf x))), some (.int (nI 1)), none, none, none]) (st' := [.int (((fv_X0_upperLeftOf (fv_X0_firstBlockOf x)) + (nI 6)) + (nI 1))]) (h' := h) (cs := []) [.iload_n 2, .bipush 6, .iadd, .iconst 1, .iadd] (by decide +kernel) rfl rfl trivial ?_
      refine z_goto hC (off := 6) 46 (by decide +kernel) (by decide) ?_
      refine z_go hC (pc' := 50) (ls' := [some (.ref 4), some (.int x), some (.int (fv_X0_upperLeftOf (fv_X0_firstBlockOf x))), some (.int (fv_X0_upperLeftOf (fv_X0_secondBlockOf x))), some (.int (nI 1)), some (.int (((fv_X0_upperLeftOf (fv_X0_firstBlockOf x)) + (nI 6)) + (nI 1))), none, none]) (st' := [.int (nI 1)]) (h' := h) (cs := []) [.istore 5, .iload 4] (by decide +kernel) rfl rfl trivial ?_
      refine z_if_eq hC (off := 7) 57 (by decide +kernel) (by decide) (fun c29 => ?_) (fun c29 => ?_)
      · skip
        exact absurd c29 (by decide)
      · skip
        refine z_go hC (pc' := 54) (ls' := [some (.ref 4), some (.int x), some (.int (fv_X0_upperLeftOf (fv_X0_firstBlockOf x))), some (.int (fv_X0_upperLeftOf (fv_X0_secondBlockOf x))), some (.int (nI 1)), some (.int (((fv_X0_upperLeftOf (fv_X0_firstBlockOf x)) + (nI 6)) + (nI 1))), none, none]) (st' := [.int (fv_X0_upperLeftOf (fv_X0_secondBlockOf x))]) (h' := h) (cs := []) [.iload_n 3] (by decide +kernel) rfl rfl trivial ?_
        refine z_goto hC (off := 7) 61 (by decide +kernel) (by decide) ?_
        refine z_go hC (pc' := 69) (ls' := [some (.ref 4), some (.int x), some (.int (fv_X0_upperLeftOf (fv_X0_firstBlockOf x))), some (.int (fv_X0_upperLeftOf (fv_X0_secondBlockOf x))), some (.int (nI 1)), some (.int (((fv_X0_upperLeftOf (fv_X0_firstBlockOf x)) + (nI 6)) + (nI 1))), some (.int (fv_X0_upperLeftOf (fv_X0_secondBlockOf x))), none]) (st' := [.int (((fv_X0_upperLeftOf (fv_X0_firstBlockOf x)) + (nI 6)) + (nI 1)), .ref 7]) (h' := h) (cs := []) [.istore 6, .aload_n 0, .getfield 18, .iload 5] (by decide +kernel) rfl rfl trivial ?_
        refine z_callSN hC hN hR (as := [.ref 7, .int (((fv_X0_upperLeftOf (fv_X0_firstBlockOf x)) + (nI 6)) + (nI 1))]) (rest := []) ok_X2_29 (by decide +kernel) (sp_X7_at l _ h 7 36 [] (((fv_X0_upperLeftOf (fv_X0_firstBlockOf x)) + (nI 6)) + (nI 1)) rfl (by decide)) (Nat.le_of_ble_eq_true rfl) rfl rfl (Nat.le_of_ble_eq_true rfl) ⟨Nat.zero_le _, Nat.zero_le _⟩ (fun r30 h31 q32 => ?_)
        obtain ⟨rfl, rfl⟩ := q32
        refine z_go hC (pc' := 86) (ls' := [some (.ref 4), some (.int x), some (.int (fv_X0_upperLeftOf (fv_X0_firstBlockOf x))), some (.int (fv_X0_upperLeftOf (fv_X0_secondBlockOf x))), some (.int (nI 1)), some (.int (((fv_X0_upperLeftOf (fv_X0_firstBlockOf x)) + (nI 6)) + (nI 1))), some (.int (fv_X0_upperLeftOf (fv_X0_secondBlockOf x))), some (.int (z_atv h 7 36 (((fv_X0_upperLeftOf (fv_X0_firstBlockOf x)) + (nI 6)) + (nI 1))))]) (st' := [.int (fv_X0_upperLeftOf (fv_X0_secondBlockOf x)), .ref 7, .int (((fv_X0_upperLeftOf (fv_X0_firstBlockOf x)) + (nI 6)) + (nI 1)), .ref 7]) (h' := h) (cs := []) [.istore 7, .aload_n 0, .getfield 18, .iload 5, .aload_n 0, .getfield 18, .iload 6] (by decide +kernel) rfl rfl trivial ?_
        refine z_callSN hC hN hR (as := [.ref 7, .int (fv_X0_upperLeftOf (fv_X0_secondBlockOf x))]) (rest := [.int (((fv_X0_upperLeftOf (fv_X0_firstBlockOf x)) + (nI 6)) + (nI 1)), .ref 7]) ok_X2_29 (by decide +kernel) (sp_X7_at l _ h 7 36 [] (fv_X0_upperLeftOf (fv_X0_secondBlockOf x)) rfl (by decide)) (Nat.le_of_ble_eq_true rfl) rfl rfl (Nat.le_of_ble_eq_true rfl) ⟨Nat.zero_le _, Nat.zero_le _⟩ (fun r33 h34 q35 => ?_)
        obtain ⟨rfl, rfl⟩ := q35
        refine z_callSN hC hN hR (as := [.ref 7, .int (((fv_X0_upperLeftOf (fv_X0_firstBlockOf x)) + (nI 6)) + (nI 1)), .int (z_atv h 7 36 (fv_X0_upperLeftOf (fv_X0_secondBlockOf x)))]) (rest := []) ok_X2_49 (by decide +kernel) (sp_X7_put l _ h 7 36 [] (((fv_X0_upperLeftOf (fv_X0_firstBlockOf x)) + (nI 6)) + (nI 1)) (z_atv h 7 36 (fv_X0_upperLeftOf (fv_X0_secondBlockOf x))) rfl (by decide)) (Nat.le_of_ble_eq_true rfl) rfl rfl (Nat.le_of_ble_eq_true rfl) ⟨Nat.zero_le _, Nat.zero_le _⟩ (fun r36 h37 q38 => ?_)
        obtain ⟨rfl, rfl⟩ := q38
        refine z_go hC (pc' := 100) (ls' := [some (.ref 4), some (.int x), some (.int (fv_X0_upperLeftOf (fv_X0_firstBlockOf x))), some (.int (fv_X0_upperLeftOf (fv_X0_secondBlockOf x))), some (.int (nI 1)), some (.int (((fv_X0_upperLeftOf (fv_X0_firstBlockOf x)) + (nI 6)) + (nI 1))), some (.int (fv_X0_upperLeftOf (fv_X0_secondBlockOf x))), some (.int (z_atv h 7 36 (((fv_X0_upperLeftOf (fv_X0_firstBlockOf x)) + (nI 6)) + (nI 1))))]) (st' := [.int (z_atv h 7 36 (((fv_X0_upperLeftOf (fv_X0_firstBlockOf x)) + (nI 6)) + (nI 1))), .int (fv_X0_upperLeftOf (fv_X0_secondBlockOf x)), .ref 7]) (h' := z_putv h 7 36 (((fv_X0_upperLeftOf (fv_X0_firstBlockOf x)) + (nI 6)) + (nI 1)) (z_atv h 7 36 (fv_X0_upperLeftOf (fv_X0_secondBlockOf x)))) (cs := []) [.aload_n 0, .getfield 18, .iload 6, .iload 7] (by decide +kernel) rfl rfl trivial ?_
        refine z_callSN hC hN hR (as := [.ref 7, .int (fv_X0_upperLeftOf (fv_X0_secondBlockOf x)), .int (z_atv h 7 36 (((fv_X0_upperLeftOf (fv_X0_firstBlockOf x)) + (nI 6)) + (nI 1)))]) (rest := []) ok_X2_49 (by decide +kernel) (sp_X7_put l _ (z_putv h 7 36 (((fv_X0_upperLeftOf (fv_X0_firstBlockOf x)) + (nI 6)) + (nI 1)) (z_atv h 7 36 (fv_X0_upperLeftOf (fv_X0_secondBlockOf x)))) 7 36 [] (fv_X0_upperLeftOf (fv_X0_secondBlockOf x)) (z_atv h 7 36 (((fv_X0_upperLeftOf (fv_X0_firstBlockOf x)) + (nI 6)) + (nI 1))) rfl (by decide)) (Nat.le_of_ble_eq_true rfl) rfl rfl (Nat.le_of_ble_eq_true rfl) ⟨Nat.zero_le _, Nat.zero_le _⟩ (fun r39 h40 q41 => ?_)
        obtain ⟨rfl, rfl⟩ := q41
        exact z_ret_v hB rfl (by decide +kernel) ⟨rfl, by rw [fh_X2_makeOneOfTwo, if_neg c13]⟩

set_option maxHeartbeats 4000000 in
set_option maxRecDepth 100000 in
theorem sp_X3_size (l : Launch) (ext : z_Sh) (h : z_H)   : z_Sp l 0 yX3_size cX3_size 1 (some .int) [.ref 8] (z_c ext) h (fun rv h' => rv = some (.int (h.1 8 2)) ∧ h' = h) := by
  refine z_enter ft_X3 (by decide +kernel) fo_X3 (Nat.le_of_ble_eq_true rfl) ?_
  intro p e R s m args below meth c D dA ad hB
  have hC := hB.1
  have hN := hB.2.1
  have hR := hB.2.2.1
  refine z_go hC (pc' := 4) (ls' := [some (.ref 8)]) (st' := [.int (h.1 8 2)]) (h' := h) (cs := []) [.aload_n 0, .getfield 15] (by decide +kernel) rfl rfl trivial ?_
  exact z_ret_i hB rfl (by decide +kernel) ⟨rfl, rfl⟩

set_option maxHeartbeats 4000000 in
set_option maxRecDepth 100000 in
theorem sp_X3_cellAfter (l : Launch) (ext : z_Sh) (h : z_H) (x : Int32)  : z_Sp l 1 yX3_cellAfter cX3_cellAfter 2 (some .int) [.ref 8, .int x] (z_c ext) h (fun rv h' => rv = some (.int (h.1 9 ((((h.1 8 1) + x) &&& (nI 63)).toNatClampNeg))) ∧ h' = h) := by
  refine z_enter ft_X3 (by decide +kernel) fo_X3 (Nat.le_of_ble_eq_true rfl) ?_
  intro p e R s m args below meth c D dA ad hB
  have hC := hB.1
  have hN := hB.2.1
  have hR := hB.2.2.1
  refine z_go hC (pc' := 13) (ls' := [some (.ref 8), some (.int x)]) (st' := [.int (((h.1 8 1) + x) &&& (nI 63)), .ref 9]) (h' := h) (cs := []) [.aload_n 0, .getfield 11, .aload_n 0, .getfield 23, .iload_n 1, .iadd, .bipush 63, .iand] (by decide +kernel) rfl rfl trivial ?_
  refine z_callSN hC hN hR (as := [.ref 9, .int (((h.1 8 1) + x) &&& (nI 63))]) (rest := []) ok_X3_26 (by decide +kernel) (sp_X7_atI l _ h 9 64 [] (((h.1 8 1) + x) &&& (nI 63)) rfl (z_in63 _)) (Nat.le_of_ble_eq_true rfl) rfl rfl (Nat.le_of_ble_eq_true rfl) ⟨Nat.zero_le _, Nat.zero_le _⟩ (fun r1 h2 q3 => ?_)
  obtain ⟨rfl, rfl⟩ := q3
  exact z_ret_i hB rfl (by decide +kernel) ⟨rfl, rfl⟩

def fv_X3_firstCell (h : z_H)  : Int32 := if (h.1 8 2) ≤ 0 then (-1) else h.1 9 ((((h.1 8 1) + (nI 0)) &&& (nI 63)).toNatClampNeg)
set_option maxHeartbeats 4000000 in
set_option maxRecDepth 100000 in
theorem sp_X3_firstCell (l : Launch) (ext : z_Sh) (h : z_H)   : z_Sp l 2 yX3_firstCell cX3_firstCell 1 (some .int) [.ref 8] (z_c ext) h (fun rv h' => rv = some (.int (fv_X3_firstCell h )) ∧ h' = h) := by
  refine z_enter ft_X3 (by decide +kernel) fo_X3 (Nat.le_of_ble_eq_true rfl) ?_
  intro p e R s m args below meth c D dA ad hB
  have hC := hB.1
  have hN := hB.2.1
  have hR := hB.2.2.1
  refine z_go hC (pc' := 4) (ls' := [some (.ref 8)]) (st' := [.int (h.1 8 2)]) (h' := h) (cs := []) [.aload_n 0, .getfield 15] (by decide +kernel) rfl rfl trivial ?_
  refine z_if_le hC (off := 11) 15 (by decide +kernel) (by decide) (fun c1 => ?_) (fun c1 => ?_)
  · skip
    refine z_go hC (pc' := 16) (ls' := [some (.ref 8)]) (st' := [.int (-1)]) (h' := h) (cs := []) [.iconst (-1)] (by decide +kernel) rfl rfl trivial ?_
    exact z_ret_i hB rfl (by decide +kernel) ⟨by rw [fv_X3_firstCell, if_pos c1], rfl⟩
  · skip
    refine z_go hC (pc' := 9) (ls' := [some (.ref 8)]) (st' := [.int (nI 0), .ref 8]) (h' := h) (cs := []) [.aload_n 0, .iconst 0] (by decide +kernel) rfl rfl trivial ?_
    refine z_callV hC hN hR (as := [.int (nI 0)]) (rest := []) ok_X3_19 (by decide +kernel) (sp_X3_cellAfter l _ h (nI 0)) rfl rfl (Nat.le_of_ble_eq_true rfl) rfl rfl (Nat.le_of_ble_eq_true rfl) ⟨Nat.zero_le _, Nat.zero_le _⟩ (fun r2 h3 q4 => ?_)
    obtain ⟨rfl, rfl⟩ := q4
    refine z_goto hC (off := 4) 16 (by decide +kernel) (by decide) ?_
    exact z_ret_i hB rfl (by decide +kernel) ⟨by rw [fv_X3_firstCell, if_neg c1], rfl⟩

set_option maxHeartbeats 4000000 in
set_option maxRecDepth 100000 in
theorem sp_X3_add (l : Launch) (ext : z_Sh) (h : z_H) (x : Int32)  : z_Sp l 1 yX3_add cX3_add 2 none [.ref 8, .int x] (z_c ext) h (fun rv h' => rv = none ∧ h' = z_set (z_set h 9 ((((h.1 8 1) + (h.1 8 2)) &&& (nI 63)).toNatClampNeg) x) 8 2 ((h.1 8 2) + (nI 1))) := by
  refine z_enter ft_X3 (by decide +kernel) fo_X3 (Nat.le_of_ble_eq_true rfl) ?_
  intro p e R s m args below meth c D dA ad hB
  have hC := hB.1
  have hN := hB.2.1
  have hR := hB.2.2.1
  refine z_go hC (pc' := 17) (ls' := [some (.ref 8), some (.int x)]) (st' := [.int x, .int (((h.1 8 1) + (h.1 8 2)) &&& (nI 63)), .ref 9]) (h' := h) (cs := []) [.aload_n 0, .getfield 11, .aload_n 0, .getfield 23, .aload_n 0, .getfield 15, .iadd, .bipush 63, .iand, .iload_n 1] (by decide +kernel) rfl rfl trivial ?_
  refine z_callSN hC hN hR (as := [.ref 9, .int (((h.1 8 1) + (h.1 8 2)) &&& (nI 63)), .int x]) (rest := []) ok_X3_35 (by decide +kernel) (sp_X7_putI l _ h 9 64 [] (((h.1 8 1) + (h.1 8 2)) &&& (nI 63)) x rfl (z_in63 _)) (Nat.le_of_ble_eq_true rfl) rfl rfl (Nat.le_of_ble_eq_true rfl) ⟨Nat.zero_le _, Nat.zero_le _⟩ (fun r1 h2 q3 => ?_)
  obtain ⟨rfl, rfl⟩ := q3
  refine z_go hC (pc' := 30) (ls' := [some (.ref 8), some (.int x)]) (st' := []) (h' := z_set (z_set h 9 ((((h.1 8 1) + (h.1 8 2)) &&& (nI 63)).toNatClampNeg) x) 8 2 ((h.1 8 2) + (nI 1))) (cs := []) [.aload_n 0, .dup, .getfield 15, .iconst 1, .iadd, .putfield 15] (by decide +kernel) rfl rfl trivial ?_
  exact z_ret_v hB rfl (by decide +kernel) ⟨rfl, rfl⟩

set_option maxHeartbeats 4000000 in
set_option maxRecDepth 100000 in
theorem sp_X3_takeFirst (l : Launch) (ext : z_Sh) (h : z_H)   : z_Sp l 0 yX3_takeFirst cX3_takeFirst 1 none [.ref 8] (z_c ext) h (fun rv h' => rv = none ∧ h' = z_set (z_set h 8 1 (((h.1 8 1) + (nI 1)) &&& (nI 63))) 8 2 ((h.1 8 2) - (nI 1))) := by
  refine z_enter ft_X3 (by decide +kernel) fo_X3 (Nat.le_of_ble_eq_true rfl) ?_
  intro p e R s m args below meth c D dA ad hB
  have hC := hB.1
  have hN := hB.2.1
  have hR := hB.2.2.1
  refine z_go hC (pc' := 23) (ls' := [some (.ref 8)]) (st' := []) (h' := z_set (z_set h 8 1 (((h.1 8 1) + (nI 1)) &&& (nI 63))) 8 2 ((h.1 8 2) - (nI 1))) (cs := []) [.aload_n 0, .aload_n 0, .getfield 23, .iconst 1, .iadd, .bipush 63, .iand, .putfield 23, .aload_n 0, .dup, .getfield 15, .iconst 1, .isub, .putfield 15] (by decide +kernel) rfl rfl trivial ?_
  exact z_ret_v hB rfl (by decide +kernel) ⟨rfl, rfl⟩

set_option maxHeartbeats 4000000 in
set_option maxRecDepth 100000 in
theorem sp_X3_putFirstBack (l : Launch) (ext : z_Sh) (h : z_H)   : z_Sp l 0 yX3_putFirstBack cX3_putFirstBack 1 none [.ref 8] (z_c ext) h (fun rv h' => rv = none ∧ h' = z_set (z_set h 8 1 (((h.1 8 1) - (nI 1)) &&& (nI 63))) 8 2 ((h.1 8 2) + (nI 1))) := by
  refine z_enter ft_X3 (by decide +kernel) fo_X3 (Nat.le_of_ble_eq_true rfl) ?_
  intro p e R s m args below meth c D dA ad hB
  have hC := hB.1
  have hN := hB.2.1
  have hR := hB.2.2.1
  refine z_go hC (pc' := 23) (ls' := [some (.ref 8)]) (st' := []) (h' := z_set (z_set h 8 1 (((h.1 8 1) - (nI 1)) &&& (nI 63))) 8 2 ((h.1 8 2) + (nI 1))) (cs := []) [.aload_n 0, .aload_n 0, .getfield 23, .iconst 1, .isub, .bipush 63, .iand, .putfield 23, .aload_n 0, .dup, .getfield 15, .iconst 1, .iadd, .putfield 15] (by decide +kernel) rfl rfl trivial ?_
  exact z_ret_v hB rfl (by decide +kernel) ⟨rfl, rfl⟩

def fv_X6_isThere (h : z_H)  : Int32 := if (h.1 10 5) ≤ 0 then nI 0 else nI 1
theorem zb_X6_isThere (h : z_H)  : fv_X6_isThere h  = 0 ∨ fv_X6_isThere h  = 1 := by unfold fv_X6_isThere; (repeat (first | (exact Or.inl rfl) | (exact Or.inr rfl) | split))
set_option maxHeartbeats 4000000 in
set_option maxRecDepth 100000 in
theorem sp_X6_isThere (l : Launch) (ext : z_Sh) (h : z_H)   : z_Sp l 0 yX6_isThere cX6_isThere 1 (some .boolean) [.ref 10] (z_c ext) h (fun rv h' => rv = some (.int (fv_X6_isThere h )) ∧ h' = h) := by
  refine z_enter ft_X6 (by decide +kernel) fo_X6 (Nat.le_of_ble_eq_true rfl) ?_
  intro p e R s m args below meth c D dA ad hB
  have hC := hB.1
  have hN := hB.2.1
  have hR := hB.2.2.1
  refine z_go hC (pc' := 4) (ls' := [some (.ref 10)]) (st' := [.int (h.1 10 5)]) (h' := h) (cs := []) [.aload_n 0, .getfield 26] (by decide +kernel) rfl rfl trivial ?_
  refine z_if_le hC (off := 7) 11 (by decide +kernel) (by decide) (fun c1 => ?_) (fun c1 => ?_)
  · skip
    refine z_go hC (pc' := 12) (ls' := [some (.ref 10)]) (st' := [.int (nI 0)]) (h' := h) (cs := []) [.iconst 0] (by decide +kernel) rfl rfl trivial ?_
    exact z_ret_z hB rfl (by decide) (by decide +kernel) ⟨by rw [fv_X6_isThere, if_pos c1], rfl⟩
  · skip
    refine z_go hC (pc' := 8) (ls' := [some (.ref 10)]) (st' := [.int (nI 1)]) (h' := h) (cs := []) [.iconst 1] (by decide +kernel) rfl rfl trivial ?_
    refine z_goto hC (off := 4) 12 (by decide +kernel) (by decide) ?_
    exact z_ret_z hB rfl (by decide) (by decide +kernel) ⟨by rw [fv_X6_isThere, if_neg c1], rfl⟩

def fv_X6_isLiving (h : z_H)  : Int32 := if (fv_X6_isThere h ) = 0 then nI 0 else if (h.1 10 8) = 0 then nI 1 else nI 0
theorem zb_X6_isLiving (h : z_H)  : fv_X6_isLiving h  = 0 ∨ fv_X6_isLiving h  = 1 := by unfold fv_X6_isLiving; (repeat (first | (exact Or.inl rfl) | (exact Or.inr rfl) | split))
set_option maxHeartbeats 4000000 in
set_option maxRecDepth 100000 in
theorem sp_X6_isLiving (l : Launch) (ext : z_Sh) (h : z_H)   : z_Sp l 1 yX6_isLiving cX6_isLiving 1 (some .boolean) [.ref 10] (z_c ext) h (fun rv h' => rv = some (.int (fv_X6_isLiving h )) ∧ h' = h) := by
  refine z_enter ft_X6 (by decide +kernel) fo_X6 (Nat.le_of_ble_eq_true rfl) ?_
  intro p e R s m args below meth c D dA ad hB
  have hC := hB.1
  have hN := hB.2.1
  have hR := hB.2.2.1
  refine z_go hC (pc' := 1) (ls' := [some (.ref 10)]) (st' := [.ref 10]) (h' := h) (cs := []) [.aload_n 0] (by decide +kernel) rfl rfl trivial ?_
  refine z_callV hC hN hR (as := []) (rest := []) ok_X6_30 (by decide +kernel) (sp_X6_isThere l _ h ) rfl rfl (Nat.le_of_ble_eq_true rfl) rfl rfl (Nat.le_of_ble_eq_true rfl) ⟨Nat.zero_le _, Nat.zero_le _⟩ (fun r1 h2 q3 => ?_)
  obtain ⟨rfl, rfl⟩ := q3
  refine z_if_eq hC (off := 14) 18 (by decide +kernel) (by decide) (fun c4 => ?_) (fun c4 => ?_)
  · skip
    refine z_go hC (pc' := 19) (ls' := [some (.ref 10)]) (st' := [.int (nI 0)]) (h' := h) (cs := []) [.iconst 0] (by decide +kernel) rfl rfl trivial ?_
    exact z_ret_z hB rfl (by decide) (by decide +kernel) ⟨by rw [fv_X6_isLiving, if_pos c4], rfl⟩
  · skip
    refine z_go hC (pc' := 11) (ls' := [some (.ref 10)]) (st' := [.int (h.1 10 8)]) (h' := h) (cs := []) [.aload_n 0, .getfield 34] (by decide +kernel) rfl rfl trivial ?_
    refine z_if_ne hC (off := 7) 18 (by decide +kernel) (by decide) (fun c5 => ?_) (fun c5 => ?_)
    · skip
      refine z_go hC (pc' := 19) (ls' := [some (.ref 10)]) (st' := [.int (nI 0)]) (h' := h) (cs := []) [.iconst 0] (by decide +kernel) rfl rfl trivial ?_
      exact z_ret_z hB rfl (by decide) (by decide +kernel) ⟨by rw [fv_X6_isLiving, if_neg c4, if_neg c5], rfl⟩
    · skip
      refine z_go hC (pc' := 15) (ls' := [some (.ref 10)]) (st' := [.int (nI 1)]) (h' := h) (cs := []) [.iconst 1] (by decide +kernel) rfl rfl trivial ?_
      refine z_goto hC (off := 4) 19 (by decide +kernel) (by decide) ?_
      exact z_ret_z hB rfl (by decide) (by decide +kernel) ⟨by rw [fv_X6_isLiving, if_neg c4, if_pos c5], rfl⟩

set_option maxHeartbeats 4000000 in
set_option maxRecDepth 100000 in
theorem sp_X6_size (l : Launch) (ext : z_Sh) (h : z_H)   : z_Sp l 0 yX6_size cX6_size 1 (some .int) [.ref 10] (z_c ext) h (fun rv h' => rv = some (.int (h.1 10 5)) ∧ h' = h) := by
  refine z_enter ft_X6 (by decide +kernel) fo_X6 (Nat.le_of_ble_eq_true rfl) ?_
  intro p e R s m args below meth c D dA ad hB
  have hC := hB.1
  have hN := hB.2.1
  have hR := hB.2.2.1
  refine z_go hC (pc' := 4) (ls' := [some (.ref 10)]) (st' := [.int (h.1 10 5)]) (h' := h) (cs := []) [.aload_n 0, .getfield 26] (by decide +kernel) rfl rfl trivial ?_
  exact z_ret_i hB rfl (by decide +kernel) ⟨rfl, rfl⟩

set_option maxHeartbeats 4000000 in
set_option maxRecDepth 100000 in
theorem sp_X6_growth (l : Launch) (ext : z_Sh) (h : z_H)   : z_Sp l 0 yX6_growth cX6_growth 1 (some .int) [.ref 10] (z_c ext) h (fun rv h' => rv = some (.int (h.1 10 6)) ∧ h' = h) := by
  refine z_enter ft_X6 (by decide +kernel) fo_X6 (Nat.le_of_ble_eq_true rfl) ?_
  intro p e R s m args below meth c D dA ad hB
  have hC := hB.1
  have hN := hB.2.1
  have hR := hB.2.2.1
  refine z_go hC (pc' := 4) (ls' := [some (.ref 10)]) (st' := [.int (h.1 10 6)]) (h' := h) (cs := []) [.aload_n 0, .getfield 38] (by decide +kernel) rfl rfl trivial ?_
  exact z_ret_i hB rfl (by decide +kernel) ⟨rfl, rfl⟩

set_option maxHeartbeats 4000000 in
set_option maxRecDepth 100000 in
theorem sp_X6_cellOf (l : Launch) (ext : z_Sh) (h : z_H) (x : Int32)  : z_Sp l 1 yX6_cellOf cX6_cellOf 2 (some .int) [.ref 10, .int x] (z_c ext) h (fun rv h' => rv = some (.int (h.1 11 ((((h.1 10 4) + x) &&& (nI 63)).toNatClampNeg))) ∧ h' = h) := by
  refine z_enter ft_X6 (by decide +kernel) fo_X6 (Nat.le_of_ble_eq_true rfl) ?_
  intro p e R s m args below meth c D dA ad hB
  have hC := hB.1
  have hN := hB.2.1
  have hR := hB.2.2.1
  refine z_go hC (pc' := 13) (ls' := [some (.ref 10), some (.int x)]) (st' := [.int (((h.1 10 4) + x) &&& (nI 63)), .ref 11]) (h' := h) (cs := []) [.aload_n 0, .getfield 11, .aload_n 0, .getfield 41, .iload_n 1, .iadd, .bipush 63, .iand] (by decide +kernel) rfl rfl trivial ?_
  refine z_callSN hC hN hR (as := [.ref 11, .int (((h.1 10 4) + x) &&& (nI 63))]) (rest := []) ok_X6_44 (by decide +kernel) (sp_X7_atI l _ h 11 64 [] (((h.1 10 4) + x) &&& (nI 63)) rfl (z_in63 _)) (Nat.le_of_ble_eq_true rfl) rfl rfl (Nat.le_of_ble_eq_true rfl) ⟨Nat.zero_le _, Nat.zero_le _⟩ (fun r1 h2 q3 => ?_)
  obtain ⟨rfl, rfl⟩ := q3
  exact z_ret_i hB rfl (by decide +kernel) ⟨rfl, rfl⟩

set_option maxHeartbeats 4000000 in
set_option maxRecDepth 100000 in
theorem sp_X6_isOn (l : Launch) (ext : z_Sh) (h : z_H) (x : Int32)  : z_Sp l 2 yX6_isOn cX6_isOn 2 (some .boolean) [.ref 10, .int x] (z_c ext) h (fun rv h' => rv = some (.int (fv_X7_isIn (h.2 10 7) x)) ∧ h' = h) := by
  refine z_enter ft_X6 (by decide +kernel) fo_X6 (Nat.le_of_ble_eq_true rfl) ?_
  intro p e R s m args below meth c D dA ad hB
  have hC := hB.1
  have hN := hB.2.1
  have hR := hB.2.2.1
  refine z_go hC (pc' := 5) (ls' := [some (.ref 10), some (.int x)]) (st' := [.int x, .long (h.2 10 7)]) (h' := h) (cs := []) [.aload_n 0, .getfield 48, .iload_n 1] (by decide +kernel) rfl rfl trivial ?_
  refine z_callSN hC hN hR (as := [.long (h.2 10 7), .int x]) (rest := []) ok_X6_52 (by decide +kernel) (sp_X7_isIn l _ h (h.2 10 7) x) (Nat.le_of_ble_eq_true rfl) rfl rfl (Nat.le_of_ble_eq_true rfl) ⟨Nat.zero_le _, Nat.zero_le _⟩ (fun r1 h2 q3 => ?_)
  obtain ⟨rfl, rfl⟩ := q3
  exact z_ret_z hB rfl (zb_X7_isIn (h.2 10 7) x) (by decide +kernel) ⟨rfl, rfl⟩

set_option maxHeartbeats 4000000 in
set_option maxRecDepth 100000 in
theorem sp_X6_lay (l : Launch) (ext : z_Sh) (h : z_H) (x : Int32) (y : Int32)  : z_Sp l 1 yX6_lay cX6_lay 3 none [.ref 10, .int x, .int y] (z_c ext) h (fun rv h' => rv = none ∧ h' = z_set (z_setL (z_set (z_set (z_putv h 11 64 (h.1 10 4) x) 10 5 (nI 1)) 10 6 y) 10 7 (fv_X7_setOf x)) 10 8 (nI 0)) := by
  refine z_enter ft_X6 (by decide +kernel) fo_X6 (Nat.le_of_ble_eq_true rfl) ?_
  intro p e R s m args below meth c D dA ad hB
  have hC := hB.1
  have hN := hB.2.1
  have hR := hB.2.2.1
  refine z_go hC (pc' := 9) (ls' := [some (.ref 10), some (.int x), some (.int y)]) (st' := [.int x, .int (h.1 10 4), .ref 11]) (h' := h) (cs := []) [.aload_n 0, .getfield 11, .aload_n 0, .getfield 41, .iload_n 1] (by decide +kernel) rfl rfl trivial ?_
  refine z_callSN hC hN hR (as := [.ref 11, .int (h.1 10 4), .int x]) (rest := []) ok_X6_56 (by decide +kernel) (sp_X7_put l _ h 11 64 [] (h.1 10 4) x rfl (by decide)) (Nat.le_of_ble_eq_true rfl) rfl rfl (Nat.le_of_ble_eq_true rfl) ⟨Nat.zero_le _, Nat.zero_le _⟩ (fun r1 h2 q3 => ?_)
  obtain ⟨rfl, rfl⟩ := q3
  refine z_go hC (pc' := 24) (ls' := [some (.ref 10), some (.int x), some (.int y)]) (st' := [.int x, .ref 10]) (h' := z_set (z_set (z_putv h 11 64 (h.1 10 4) x) 10 5 (nI 1)) 10 6 y) (cs := []) [.aload_n 0, .iconst 1, .putfield 26, .aload_n 0, .iload_n 2, .putfield 38, .aload_n 0, .iload_n 1] (by decide +kernel) rfl rfl trivial ?_
  refine z_callSN hC hN hR (as := [.int x]) (rest := [.ref 10]) ok_X6_60 (by decide +kernel) (sp_X7_setOf l _ (z_set (z_set (z_putv h 11 64 (h.1 10 4) x) 10 5 (nI 1)) 10 6 y) x) (Nat.le_of_ble_eq_true rfl) rfl rfl (Nat.le_of_ble_eq_true rfl) ⟨Nat.zero_le _, Nat.zero_le _⟩ (fun r4 h5 q6 => ?_)
  obtain ⟨rfl, rfl⟩ := q6
  refine z_go hC (pc' := 35) (ls' := [some (.ref 10), some (.int x), some (.int y)]) (st' := []) (h' := z_set (z_setL (z_set (z_set (z_putv h 11 64 (h.1 10 4) x) 10 5 (nI 1)) 10 6 y) 10 7 (fv_X7_setOf x)) 10 8 (nI 0)) (cs := [(nI 0 = 0 ∨ nI 0 = 1)]) [.putfield 48, .aload_n 0, .iconst 0, .putfield 34] (by decide +kernel) rfl rfl (by decide) ?_
  exact z_ret_v hB rfl (by decide +kernel) ⟨rfl, rfl⟩

set_option maxHeartbeats 4000000 in
set_option maxRecDepth 100000 in
theorem sp_X6_takeAway (l : Launch) (ext : z_Sh) (h : z_H)   : z_Sp l 0 yX6_takeAway cX6_takeAway 1 none [.ref 10] (z_c ext) h (fun rv h' => rv = none ∧ h' = z_set (z_set h 10 5 (nI 0)) 10 6 (nI 0)) := by
  refine z_enter ft_X6 (by decide +kernel) fo_X6 (Nat.le_of_ble_eq_true rfl) ?_
  intro p e R s m args below meth c D dA ad hB
  have hC := hB.1
  have hN := hB.2.1
  have hR := hB.2.2.1
  refine z_go hC (pc' := 10) (ls' := [some (.ref 10)]) (st' := []) (h' := z_set (z_set h 10 5 (nI 0)) 10 6 (nI 0)) (cs := []) [.aload_n 0, .iconst 0, .putfield 26, .aload_n 0, .iconst 0, .putfield 38] (by decide +kernel) rfl rfl trivial ?_
  exact z_ret_v hB rfl (by decide +kernel) ⟨rfl, rfl⟩

set_option maxHeartbeats 4000000 in
set_option maxRecDepth 100000 in
theorem sp_X6_die (l : Launch) (ext : z_Sh) (h : z_H)   : z_Sp l 0 yX6_die cX6_die 1 none [.ref 10] (z_c ext) h (fun rv h' => rv = none ∧ h' = z_set h 10 8 (nI 1)) := by
  refine z_enter ft_X6 (by decide +kernel) fo_X6 (Nat.le_of_ble_eq_true rfl) ?_
  intro p e R s m args below meth c D dA ad hB
  have hC := hB.1
  have hN := hB.2.1
  have hR := hB.2.2.1
  refine z_go hC (pc' := 5) (ls' := [some (.ref 10)]) (st' := []) (h' := z_set h 10 8 (nI 1)) (cs := [(nI 1 = 0 ∨ nI 1 = 1)]) [.aload_n 0, .iconst 1, .putfield 34] (by decide +kernel) rfl rfl (by decide) ?_
  exact z_ret_v hB rfl (by decide +kernel) ⟨rfl, rfl⟩

def fv_X6_advance (h : z_H) (x : Int32) : Int32 := if (h.1 10 6) ≤ 0 then if (fv_X0_goFrom h (h.1 11 ((((h.1 10 4) + (nI 0)) &&& (nI 63)).toNatClampNeg)) x) = (-1) then nI 0 else if (fv_X7_isIn ((h.2 10 7) &&& ((fv_X7_setOf (h.1 11 ((((h.1 10 4) + ((h.1 10 5) - (nI 1))) &&& (nI 63)).toNatClampNeg))) ^^^ (-1))) (fv_X0_goFrom h (h.1 11 ((((h.1 10 4) + (nI 0)) &&& (nI 63)).toNatClampNeg)) x)) = 0 then if (fv_X3_firstCell h ) = (fv_X0_goFrom h (h.1 11 ((((h.1 10 4) + (nI 0)) &&& (nI 63)).toNatClampNeg)) x) then nI 1 else nI 1 else nI 0 else if (fv_X0_goFrom h (h.1 11 ((((h.1 10 4) + (nI 0)) &&& (nI 63)).toNatClampNeg)) x) = (-1) then nI 0 else if (fv_X7_isIn (h.2 10 7) (fv_X0_goFrom h (h.1 11 ((((h.1 10 4) + (nI 0)) &&& (nI 63)).toNatClampNeg)) x)) = 0 then if (fv_X3_firstCell h ) = (fv_X0_goFrom h (h.1 11 ((((h.1 10 4) + (nI 0)) &&& (nI 63)).toNatClampNeg)) x) then nI 1 else nI 1 else nI 0
def fh_X6_advance (h : z_H) (x : Int32) : z_H := if (h.1 10 6) ≤ 0 then if (fv_X0_goFrom h (h.1 11 ((((h.1 10 4) + (nI 0)) &&& (nI 63)).toNatClampNeg)) x) = (-1) then h else if (fv_X7_isIn ((h.2 10 7) &&& ((fv_X7_setOf (h.1 11 ((((h.1 10 4) + ((h.1 10 5) - (nI 1))) &&& (nI 63)).toNatClampNeg))) ^^^ (-1))) (fv_X0_goFrom h (h.1 11 ((((h.1 10 4) + (nI 0)) &&& (nI 63)).toNatClampNeg)) x)) = 0 then if (fv_X3_firstCell h ) = (fv_X0_goFrom h (h.1 11 ((((h.1 10 4) + (nI 0)) &&& (nI 63)).toNatClampNeg)) x) then z_set (z_set (z_set (z_setL (z_set (z_set (z_set h 10 4 (((h.1 10 4) - (nI 1)) &&& (nI 63))) 11 ((((h.1 10 4) - (nI 1)) &&& (nI 63)).toNatClampNeg) (fv_X0_goFrom h (h.1 11 ((((h.1 10 4) + (nI 0)) &&& (nI 63)).toNatClampNeg)) x)) 12 ((((h.1 10 4) - (nI 1)) &&& (nI 63)).toNatClampNeg) ((nI 0) ||| (nI 2))) 10 7 (((h.2 10 7) &&& ((fv_X7_setOf (h.1 11 ((((h.1 10 4) + ((h.1 10 5) - (nI 1))) &&& (nI 63)).toNatClampNeg))) ^^^ (-1))) ||| (fv_X7_setOf (fv_X0_goFrom h (h.1 11 ((((h.1 10 4) + (nI 0)) &&& (nI 63)).toNatClampNeg)) x)))) 8 1 (((h.1 8 1) + (nI 1)) &&& (nI 63))) 8 2 ((h.1 8 2) - (nI 1))) 10 6 ((h.1 10 6) + (nI 2)) else z_setL (z_set (z_set (z_set h 10 4 (((h.1 10 4) - (nI 1)) &&& (nI 63))) 11 ((((h.1 10 4) - (nI 1)) &&& (nI 63)).toNatClampNeg) (fv_X0_goFrom h (h.1 11 ((((h.1 10 4) + (nI 0)) &&& (nI 63)).toNatClampNeg)) x)) 12 ((((h.1 10 4) - (nI 1)) &&& (nI 63)).toNatClampNeg) ((nI 0) ||| (nI 0))) 10 7 (((h.2 10 7) &&& ((fv_X7_setOf (h.1 11 ((((h.1 10 4) + ((h.1 10 5) - (nI 1))) &&& (nI 63)).toNatClampNeg))) ^^^ (-1))) ||| (fv_X7_setOf (fv_X0_goFrom h (h.1 11 ((((h.1 10 4) + (nI 0)) &&& (nI 63)).toNatClampNeg)) x))) else h else if (fv_X0_goFrom h (h.1 11 ((((h.1 10 4) + (nI 0)) &&& (nI 63)).toNatClampNeg)) x) = (-1) then h else if (fv_X7_isIn (h.2 10 7) (fv_X0_goFrom h (h.1 11 ((((h.1 10 4) + (nI 0)) &&& (nI 63)).toNatClampNeg)) x)) = 0 then if (fv_X3_firstCell h ) = (fv_X0_goFrom h (h.1 11 ((((h.1 10 4) + (nI 0)) &&& (nI 63)).toNatClampNeg)) x) then z_set (z_set (z_set (z_set (z_set (z_setL (z_set (z_set (z_set h 10 4 (((h.1 10 4) - (nI 1)) &&& (nI 63))) 11 ((((h.1 10 4) - (nI 1)) &&& (nI 63)).toNatClampNeg) (fv_X0_goFrom h (h.1 11 ((((h.1 10 4) + (nI 0)) &&& (nI 63)).toNatClampNeg)) x)) 12 ((((h.1 10 4) - (nI 1)) &&& (nI 63)).toNatClampNeg) ((nI 1) ||| (nI 2))) 10 7 ((h.2 10 7) ||| (fv_X7_setOf (fv_X0_goFrom h (h.1 11 ((((h.1 10 4) + (nI 0)) &&& (nI 63)).toNatClampNeg)) x)))) 10 5 ((h.1 10 5) + (nI 1))) 10 6 ((h.1 10 6) - (nI 1))) 8 1 (((h.1 8 1) + (nI 1)) &&& (nI 63))) 8 2 ((h.1 8 2) - (nI 1))) 10 6 (((h.1 10 6) - (nI 1)) + (nI 2)) else z_set (z_set (z_setL (z_set (z_set (z_set h 10 4 (((h.1 10 4) - (nI 1)) &&& (nI 63))) 11 ((((h.1 10 4) - (nI 1)) &&& (nI 63)).toNatClampNeg) (fv_X0_goFrom h (h.1 11 ((((h.1 10 4) + (nI 0)) &&& (nI 63)).toNatClampNeg)) x)) 12 ((((h.1 10 4) - (nI 1)) &&& (nI 63)).toNatClampNeg) ((nI 1) ||| (nI 0))) 10 7 ((h.2 10 7) ||| (fv_X7_setOf (fv_X0_goFrom h (h.1 11 ((((h.1 10 4) + (nI 0)) &&& (nI 63)).toNatClampNeg)) x)))) 10 5 ((h.1 10 5) + (nI 1))) 10 6 ((h.1 10 6) - (nI 1)) else h
theorem zb_X6_advance (h : z_H) (x : Int32) : fv_X6_advance h x = 0 ∨ fv_X6_advance h x = 1 := by unfold fv_X6_advance; (repeat (first | (exact Or.inl rfl) | (exact Or.inr rfl) | split))
set_option maxHeartbeats 4000000 in
set_option maxRecDepth 100000 in
theorem sp_X6_advance (l : Launch) (ext : z_Sh) (h : z_H) (x : Int32)  : z_Sp l 3 yX6_advance cX6_advance 7 (some .boolean) [.ref 10, .int x] (z_c ext) h (fun rv h' => rv = some (.int (fv_X6_advance h x)) ∧ h' = fh_X6_advance h x) := by
  refine z_enter ft_X6 (by decide +kernel) fo_X6 (Nat.le_of_ble_eq_true rfl) ?_
  intro p e R s m args below meth c D dA ad hB
  have hC := hB.1
  have hN := hB.2.1
  have hR := hB.2.2.1
  refine z_go hC (pc' := 6) (ls' := [some (.ref 10), some (.int x), none, none, none, none, none]) (st' := [.int (nI 0), .ref 10, .ref 1]) (h' := h) (cs := []) [.aload_n 0, .getfield 18, .aload_n 0, .iconst 0] (by decide +kernel) rfl rfl trivial ?_
  refine z_callV hC hN hR (as := [.int (nI 0)]) (rest := [.ref 1]) ok_X6_64 (by decide +kernel) (sp_X6_cellOf l _ h (nI 0)) rfl rfl (Nat.le_of_ble_eq_true rfl) rfl rfl (Nat.le_of_ble_eq_true rfl) ⟨Nat.zero_le _, Nat.zero_le _⟩ (fun r1 h2 q3 => ?_)
  obtain ⟨rfl, rfl⟩ := q3
  refine z_go hC (pc' := 10) (ls' := [some (.ref 10), some (.int x), none, none, none, none, none]) (st' := [.int x, .int (h.1 11 ((((h.1 10 4) + (nI 0)) &&& (nI 63)).toNatClampNeg)), .ref 1]) (h' := h) (cs := []) [.iload_n 1] (by decide +kernel) rfl rfl trivial ?_
  refine z_callV hC hN hR (as := [.int (h.1 11 ((((h.1 10 4) + (nI 0)) &&& (nI 63)).toNatClampNeg)), .int x]) (rest := []) ok_X6_68 (by decide +kernel) (sp_X0_goFrom l _ h (h.1 11 ((((h.1 10 4) + (nI 0)) &&& (nI 63)).toNatClampNeg)) x) rfl rfl (Nat.le_of_ble_eq_true rfl) rfl rfl (Nat.le_of_ble_eq_true rfl) ⟨Nat.zero_le _, Nat.zero_le _⟩ (fun r4 h5 q6 => ?_)
  obtain ⟨rfl, rfl⟩ := q6
  refine z_go hC (pc' := 18) (ls' := [some (.ref 10), some (.int x), some (.int (fv_X0_goFrom h (h.1 11 ((((h.1 10 4) + (nI 0)) &&& (nI 63)).toNatClampNeg)) x)), none, none, none, none]) (st' := [.int (h.1 10 6)]) (h' := h) (cs := []) [.istore_n 2, .aload_n 0, .getfield 38] (by decide +kernel) rfl rfl trivial ?_
  refine z_if_le hC (off := 7) 25 (by decide +kernel) (by decide) (fun c7 => ?_) (fun c7 => ?_)
  · skip
    refine z_go hC (pc' := 28) (ls' := [some (.ref 10), some (.int x), some (.int (fv_X0_goFrom h (h.1 11 ((((h.1 10 4) + (nI 0)) &&& (nI 63)).toNatClampNeg)) x)), some (.int (nI 0)), none, none, none]) (st' := [.int (nI 0)]) (h' := h) (cs := []) [.iconst 0, .istore_n 3, .iload_n 3] (by decide +kernel) rfl rfl trivial ?_
    refine z_if_eq hC (off := 10) 38 (by decide +kernel) (by decide) (fun c8 => ?_) (fun c8 => ?_)
    · skip
      refine z_go hC (pc' := 49) (ls' := [some (.ref 10), some (.int x), some (.int (fv_X0_goFrom h (h.1 11 ((((h.1 10 4) + (nI 0)) &&& (nI 63)).toNatClampNeg)) x)), some (.int (nI 0)), none, none, none]) (st' := [.int ((h.1 10 5) - (nI 1)), .ref 10, .long (h.2 10 7)]) (h' := h) (cs := []) [.aload_n 0, .getfield 48, .aload_n 0, .aload_n 0, .getfield 26, .iconst 1, .isub] (by decide +kernel) rfl rfl trivial ?_
      refine z_callV hC hN hR (as := [.int ((h.1 10 5) - (nI 1))]) (rest := [.long (h.2 10 7)]) ok_X6_64 (by decide +kernel) (sp_X6_cellOf l _ h ((h.1 10 5) - (nI 1))) rfl rfl (Nat.le_of_ble_eq_true rfl) rfl rfl (Nat.le_of_ble_eq_true rfl) ⟨Nat.zero_le _, Nat.zero_le _⟩ (fun r9 h10 q11 => ?_)
      obtain ⟨rfl, rfl⟩ := q11
      refine z_callSN hC hN hR (as := [.int (h.1 11 ((((h.1 10 4) + ((h.1 10 5) - (nI 1))) &&& (nI 63)).toNatClampNeg))]) (rest := [.long (h.2 10 7)]) ok_X6_60 (by decide +kernel) (sp_X7_setOf l _ h (h.1 11 ((((h.1 10 4) + ((h.1 10 5) - (nI 1))) &&& (nI 63)).toNatClampNeg))) (Nat.le_of_ble_eq_true rfl) rfl rfl (Nat.le_of_ble_eq_true rfl) ⟨Nat.zero_le _, Nat.zero_le _⟩ (fun r12 h13 q14 => ?_)
      obtain ⟨rfl, rfl⟩ := q14
      refine z_ldc2 hC (v := -1) (by decide +kernel) (by decide +kernel) ?_
      refine z_go hC (pc' := 64) (ls' := [some (.ref 10), some (.int x), some (.int (fv_X0_goFrom h (h.1 11 ((((h.1 10 4) + (nI 0)) &&& (nI 63)).toNatClampNeg)) x)), some (.int (nI 0)), some (.long ((h.2 10 7) &&& ((fv_X7_setOf (h.1 11 ((((h.1 10 4) + ((h.1 10 5) - (nI 1))) &&& (nI 63)).toNatClampNeg))) ^^^ (-1)))), none, none]) (st' := [.int (-1), .int (fv_X0_goFrom h (h.1 11 ((((h.1 10 4) + (nI 0)) &&& (nI 63)).toNatClampNeg)) x)]) (h' := h) (cs := []) [.lxor, .land, .lstore 4, .iload_n 2, .iconst (-1)] (by decide +kernel) rfl rfl trivial ?_
      refine z_icmp_eq hC (off := 12) 76 (by decide +kernel) (by decide) (fun c15 => ?_) (fun c15 => ?_)
      · skip
        refine z_go hC (pc' := 77) (ls' := [some (.ref 10), some (.int x), some (.int (fv_X0_goFrom h (h.1 11 ((((h.1 10 4) + (nI 0)) &&& (nI 63)).toNatClampNeg)) x)), some (.int (nI 0)), some (.long ((h.2 10 7) &&& ((fv_X7_setOf (h.1 11 ((((h.1 10 4) + ((h.1 10 5) - (nI 1))) &&& (nI 63)).toNatClampNeg))) ^^^ (-1)))), none, none]) (st' := [.int (nI 0)]) (h' := h) (cs := []) [.iconst 0] (by decide +kernel) rfl rfl trivial ?_
        exact z_ret_z hB rfl (by decide) (by decide +kernel) ⟨by rw [fv_X6_advance, if_pos c7, if_pos c15], by rw [fh_X6_advance, if_pos c7, if_pos c15]⟩
      · skip
        refine z_go hC (pc' := 70) (ls' := [some (.ref 10), some (.int x), some (.int (fv_X0_goFrom h (h.1 11 ((((h.1 10 4) + (nI 0)) &&& (nI 63)).toNatClampNeg)) x)), some (.int (nI 0)), some (.long ((h.2 10 7) &&& ((fv_X7_setOf (h.1 11 ((((h.1 10 4) + ((h.1 10 5) - (nI 1))) &&& (nI 63)).toNatClampNeg))) ^^^ (-1)))), none, none]) (st' := [.int (fv_X0_goFrom h (h.1 11 ((((h.1 10 4) + (nI 0)) &&& (nI 63)).toNatClampNeg)) x), .long ((h.2 10 7) &&& ((fv_X7_setOf (h.1 11 ((((h.1 10 4) + ((h.1 10 5) - (nI 1))) &&& (nI 63)).toNatClampNeg))) ^^^ (-1)))]) (h' := h) (cs := []) [.lload 4, .iload_n 2] (by decide +kernel) rfl rfl trivial ?_
        refine z_callSN hC hN hR (as := [.long ((h.2 10 7) &&& ((fv_X7_setOf (h.1 11 ((((h.1 10 4) + ((h.1 10 5) - (nI 1))) &&& (nI 63)).toNatClampNeg))) ^^^ (-1))), .int (fv_X0_goFrom h (h.1 11 ((((h.1 10 4) + (nI 0)) &&& (nI 63)).toNatClampNeg)) x)]) (rest := []) ok_X6_52 (by decide +kernel) (sp_X7_isIn l _ h ((h.2 10 7) &&& ((fv_X7_setOf (h.1 11 ((((h.1 10 4) + ((h.1 10 5) - (nI 1))) &&& (nI 63)).toNatClampNeg))) ^^^ (-1))) (fv_X0_goFrom h (h.1 11 ((((h.1 10 4) + (nI 0)) &&& (nI 63)).toNatClampNeg)) x)) (Nat.le_of_ble_eq_true rfl) rfl rfl (Nat.le_of_ble_eq_true rfl) ⟨Nat.zero_le _, Nat.zero_le _⟩ (fun r16 h17 q18 => ?_)
        obtain ⟨rfl, rfl⟩ := q18
        refine z_if_eq hC (off := 5) 78 (by decide +kernel) (by decide) (fun c19 => ?_) (fun c19 => ?_)
        · skip
          refine z_go hC (pc' := 82) (ls' := [some (.ref 10), some (.int x), some (.int (fv_X0_goFrom h (h.1 11 ((((h.1 10 4) + (nI 0)) &&& (nI 63)).toNatClampNeg)) x)), some (.int (nI 0)), some (.long ((h.2 10 7) &&& ((fv_X7_setOf (h.1 11 ((((h.1 10 4) + ((h.1 10 5) - (nI 1))) &&& (nI 63)).toNatClampNeg))) ^^^ (-1)))), none, none]) (st' := [.ref 8]) (h' := h) (cs := []) [.aload_n 0, .getfield 22] (by decide +kernel) rfl rfl trivial ?_
          refine z_callV hC hN hR (as := []) (rest := []) ok_X6_76 (by decide +kernel) (sp_X3_firstCell l _ h ) rfl rfl (Nat.le_of_ble_eq_true rfl) rfl rfl (Nat.le_of_ble_eq_true rfl) ⟨Nat.zero_le _, Nat.zero_le _⟩ (fun r20 h21 q22 => ?_)
          obtain ⟨rfl, rfl⟩ := q22
          refine z_go hC (pc' := 86) (ls' := [some (.ref 10), some (.int x), some (.int (fv_X0_goFrom h (h.1 11 ((((h.1 10 4) + (nI 0)) &&& (nI 63)).toNatClampNeg)) x)), some (.int (nI 0)), some (.long ((h.2 10 7) &&& ((fv_X7_setOf (h.1 11 ((((h.1 10 4) + ((h.1 10 5) - (nI 1))) &&& (nI 63)).toNatClampNeg))) ^^^ (-1)))), none, none]) (st' := [.int (fv_X0_goFrom h (h.1 11 ((((h.1 10 4) + (nI 0)) &&& (nI 63)).toNatClampNeg)) x), .int (fv_X3_firstCell h )]) (h' := h) (cs := []) [.iload_n 2] (by decide +kernel) rfl rfl trivial ?_
          refine z_icmp_ne hC (off := 7) 93 (by decide +kernel) (by decide) (fun c23 => ?_) (fun c23 => ?_)
          · skip
            refine z_go hC (pc' := 118) (ls' := [some (.ref 10), some (.int x), some (.int (fv_X0_goFrom h (h.1 11 ((((h.1 10 4) + (nI 0)) &&& (nI 63)).toNatClampNeg)) x)), some (.int (nI 0)), some (.long ((h.2 10 7) &&& ((fv_X7_setOf (h.1 11 ((((h.1 10 4) + ((h.1 10 5) - (nI 1))) &&& (nI 63)).toNatClampNeg))) ^^^ (-1)))), none, some (.int (nI 0))]) (st' := [.int (fv_X0_goFrom h (h.1 11 ((((h.1 10 4) + (nI 0)) &&& (nI 63)).toNatClampNeg)) x), .int (((h.1 10 4) - (nI 1)) &&& (nI 63)), .ref 11]) (h' := z_set h 10 4 (((h.1 10 4) - (nI 1)) &&& (nI 63))) (cs := []) [.iconst 0, .istore 6, .aload_n 0, .aload_n 0, .getfield 41, .iconst 1, .isub, .bipush 63, .iand, .putfield 41, .aload_n 0, .getfield 11, .aload_n 0, .getfield 41, .iload_n 2] (by decide +kernel) rfl rfl trivial ?_
            refine z_callSN hC hN hR (as := [.ref 11, .int (((h.1 10 4) - (nI 1)) &&& (nI 63)), .int (fv_X0_goFrom h (h.1 11 ((((h.1 10 4) + (nI 0)) &&& (nI 63)).toNatClampNeg)) x)]) (rest := []) ok_X6_56 (by decide +kernel) (sp_X7_putI l _ (z_set h 10 4 (((h.1 10 4) - (nI 1)) &&& (nI 63))) 11 64 [] (((h.1 10 4) - (nI 1)) &&& (nI 63)) (fv_X0_goFrom h (h.1 11 ((((h.1 10 4) + (nI 0)) &&& (nI 63)).toNatClampNeg)) x) rfl (z_in63 _)) (Nat.le_of_ble_eq_true rfl) rfl rfl (Nat.le_of_ble_eq_true rfl) ⟨Nat.zero_le _, Nat.zero_le _⟩ (fun r24 h25 q26 => ?_)
            obtain ⟨rfl, rfl⟩ := q26
            refine z_go hC (pc' := 130) (ls' := [some (.ref 10), some (.int x), some (.int (fv_X0_goFrom h (h.1 11 ((((h.1 10 4) + (nI 0)) &&& (nI 63)).toNatClampNeg)) x)), some (.int (nI 0)), some (.long ((h.2 10 7) &&& ((fv_X7_setOf (h.1 11 ((((h.1 10 4) + ((h.1 10 5) - (nI 1))) &&& (nI 63)).toNatClampNeg))) ^^^ (-1)))), none, some (.int (nI 0))]) (st' := [.int (nI 0), .int (((h.1 10 4) - (nI 1)) &&& (nI 63)), .ref 12]) (h' := z_set (z_set h 10 4 (((h.1 10 4) - (nI 1)) &&& (nI 63))) 11 ((((h.1 10 4) - (nI 1)) &&& (nI 63)).toNatClampNeg) (fv_X0_goFrom h (h.1 11 ((((h.1 10 4) + (nI 0)) &&& (nI 63)).toNatClampNeg)) x)) (cs := []) [.aload_n 0, .getfield 15, .aload_n 0, .getfield 41, .iload_n 3] (by decide +kernel) rfl rfl trivial ?_
            refine z_if_eq hC (off := 7) 137 (by decide +kernel) (by decide) (fun c27 => ?_) (fun c27 => ?_)
            · skip
              refine z_go hC (pc' := 140) (ls' := [some (.ref 10), some (.int x), some (.int (fv_X0_goFrom h (h.1 11 ((((h.1 10 4) + (nI 0)) &&& (nI 63)).toNatClampNeg)) x)), some (.int (nI 0)), some (.long ((h.2 10 7) &&& ((fv_X7_setOf (h.1 11 ((((h.1 10 4) + ((h.1 10 5) - (nI 1))) &&& (nI 63)).toNatClampNeg))) ^^^ (-1)))), none, some (.int (nI 0))]) (st' := [.int (nI 0), .int (nI 0), .int (((h.1 10 4) - (nI 1)) &&& (nI 63)), .ref 12]) (h' := z_set (z_set h 10 4 (((h.1 10 4) - (nI 1)) &&& (nI 63))) 11 ((((h.1 10 4) - (nI 1)) &&& (nI 63)).toNatClampNeg) (fv_X0_goFrom h (h.1 11 ((((h.1 10 4) + (nI 0)) &&& (nI 63)).toNatClampNeg)) x)) (cs := []) [.iconst 0, .iload 6] (by decide +kernel) rfl rfl trivial ?_
              refine z_if_eq hC (off := 7) 147 (by decide +kernel) (by decide) (fun c28 => ?_) (fun c28 => ?_)
              · skip
                refine z_go hC (pc' := 149) (ls' := [some (.ref 10), some (.int x), some (.int (fv_X0_goFrom h (h.1 11 ((((h.1 10 4) + (nI 0)) &&& (nI 63)).toNatClampNeg)) x)), some (.int (nI 0)), some (.long ((h.2 10 7) &&& ((fv_X7_setOf (h.1 11 ((((h.1 10 4) + ((h.1 10 5) - (nI 1))) &&& (nI 63)).toNatClampNeg))) ^^^ (-1)))), none, some (.int (nI 0))]) (st' := [.int ((nI 0) ||| (nI 0)), .int (((h.1 10 4) - (nI 1)) &&& (nI 63)), .ref 12]) (h' := z_set (z_set h 10 4 (((h.1 10 4) - (nI 1)) &&& (nI 63))) 11 ((((h.1 10 4) - (nI 1)) &&& (nI 63)).toNatClampNeg) (fv_X0_goFrom h (h.1 11 ((((h.1 10 4) + (nI 0)) &&& (nI 63)).toNatClampNeg)) x)) (cs := []) [.iconst 0, .ior] (by decide +kernel) rfl rfl trivial ?_
                refine z_callSN hC hN hR (as := [.ref 12, .int (((h.1 10 4) - (nI 1)) &&& (nI 63)), .int ((nI 0) ||| (nI 0))]) (rest := []) ok_X6_56 (by decide +kernel) (sp_X7_putI l _ (z_set (z_set h 10 4 (((h.1 10 4) - (nI 1)) &&& (nI 63))) 11 ((((h.1 10 4) - (nI 1)) &&& (nI 63)).toNatClampNeg) (fv_X0_goFrom h (h.1 11 ((((h.1 10 4) + (nI 0)) &&& (nI 63)).toNatClampNeg)) x)) 12 64 [] (((h.1 10 4) - (nI 1)) &&& (nI 63)) ((nI 0) ||| (nI 0)) rfl (z_in63 _)) (Nat.le_of_ble_eq_true rfl) rfl rfl (Nat.le_of_ble_eq_true rfl) ⟨Nat.zero_le _, Nat.zero_le _⟩ (fun r29 h30 q31 => ?_)
                obtain ⟨rfl, rfl⟩ := q31
                refine z_go hC (pc' := 156) (ls' := [some (.ref 10), some (.int x), some (.int (fv_X0_goFrom h (h.1 11 ((((h.1 10 4) + (nI 0)) &&& (nI 63)).toNatClampNeg)) x)), some (.int (nI 0)), some (.long ((h.2 10 7) &&& ((fv_X7_setOf (h.1 11 ((((h.1 10 4) + ((h.1 10 5) - (nI 1))) &&& (nI 63)).toNatClampNeg))) ^^^ (-1)))), none, some (.int (nI 0))]) (st' := [.int (fv_X0_goFrom h (h.1 11 ((((h.1 10 4) + (nI 0)) &&& (nI 63)).toNatClampNeg)) x), .long ((h.2 10 7) &&& ((fv_X7_setOf (h.1 11 ((((h.1 10 4) + ((h.1 10 5) - (nI 1))) &&& (nI 63)).toNatClampNeg))) ^^^ (-1))), .ref 10]) (h' := z_set (z_set (z_set h 10 4 (((h.1 10 4) - (nI 1)) &&& (nI 63))) 11 ((((h.1 10 4) - (nI 1)) &&& (nI 63)).toNatClampNeg) (fv_X0_goFrom h (h.1 11 ((((h.1 10 4) + (nI 0)) &&& (nI 63)).toNatClampNeg)) x)) 12 ((((h.1 10 4) - (nI 1)) &&& (nI 63)).toNatClampNeg) ((nI 0) ||| (nI 0))) (cs := []) [.aload_n 0, .lload 4, .iload_n 2] (by decide +kernel) rfl rfl trivial ?_
                refine z_callSN hC hN hR (as := [.int (fv_X0_goFrom h (h.1 11 ((((h.1 10 4) + (nI 0)) &&& (nI 63)).toNatClampNeg)) x)]) (rest := [.long ((h.2 10 7) &&& ((fv_X7_setOf (h.1 11 ((((h.1 10 4) + ((h.1 10 5) - (nI 1))) &&& (nI 63)).toNatClampNeg))) ^^^ (-1))), .ref 10]) ok_X6_60 (by decide +kernel) (sp_X7_setOf l _ (z_set (z_set (z_set h 10 4 (((h.1 10 4) - (nI 1)) &&& (nI 63))) 11 ((((h.1 10 4) - (nI 1)) &&& (nI 63)).toNatClampNeg) (fv_X0_goFrom h (h.1 11 ((((h.1 10 4) + (nI 0)) &&& (nI 63)).toNatClampNeg)) x)) 12 ((((h.1 10 4) - (nI 1)) &&& (nI 63)).toNatClampNeg) ((nI 0) ||| (nI 0))) (fv_X0_goFrom h (h.1 11 ((((h.1 10 4) + (nI 0)) &&& (nI 63)).toNatClampNeg)) x)) (Nat.le_of_ble_eq_true rfl) rfl rfl (Nat.le_of_ble_eq_true rfl) ⟨Nat.zero_le _, Nat.zero_le _⟩ (fun r32 h33 q34 => ?_)
                obtain ⟨rfl, rfl⟩ := q34
                refine z_go hC (pc' := 164) (ls' := [some (.ref 10), some (.int x), some (.int (fv_X0_goFrom h (h.1 11 ((((h.1 10 4) + (nI 0)) &&& (nI 63)).toNatClampNeg)) x)), some (.int (nI 0)), some (.long ((h.2 10 7) &&& ((fv_X7_setOf (h.1 11 ((((h.1 10 4) + ((h.1 10 5) - (nI 1))) &&& (nI 63)).toNatClampNeg))) ^^^ (-1)))), none, some (.int (nI 0))]) (st' := [.int (nI 0)]) (h' := z_setL (z_set (z_set (z_set h 10 4 (((h.1 10 4) - (nI 1)) &&& (nI 63))) 11 ((((h.1 10 4) - (nI 1)) &&& (nI 63)).toNatClampNeg) (fv_X0_goFrom h (h.1 11 ((((h.1 10 4) + (nI 0)) &&& (nI 63)).toNatClampNeg)) x)) 12 ((((h.1 10 4) - (nI 1)) &&& (nI 63)).toNatClampNeg) ((nI 0) ||| (nI 0))) 10 7 (((h.2 10 7) &&& ((fv_X7_setOf (h.1 11 ((((h.1 10 4) + ((h.1 10 5) - (nI 1))) &&& (nI 63)).toNatClampNeg))) ^^^ (-1))) ||| (fv_X7_setOf (fv_X0_goFrom h (h.1 11 ((((h.1 10 4) + (nI 0)) &&& (nI 63)).toNatClampNeg)) x)))) (cs := []) [.lor, .putfield 48, .iload_n 3] (by decide +kernel) rfl rfl trivial ?_
                refine z_if_eq hC (off := 23) 187 (by decide +kernel) (by decide) (fun c35 => ?_) (fun c35 => ?_)
                · skip
                  refine z_go hC (pc' := 189) (ls' := [some (.ref 10), some (.int x), some (.int (fv_X0_goFrom h (h.1 11 ((((h.1 10 4) + (nI 0)) &&& (nI 63)).toNatClampNeg)) x)), some (.int (nI 0)), some (.long ((h.2 10 7) &&& ((fv_X7_setOf (h.1 11 ((((h.1 10 4) + ((h.1 10 5) - (nI 1))) &&& (nI 63)).toNatClampNeg))) ^^^ (-1)))), none, some (.int (nI 0))]) (st' := [.int (nI 0)]) (h' := z_setL (z_set (z_set (z_set h 10 4 (((h.1 10 4) - (nI 1)) &&& (nI 63))) 11 ((((h.1 10 4) - (nI 1)) &&& (nI 63)).toNatClampNeg) (fv_X0_goFrom h (h.1 11 ((((h.1 10 4) + (nI 0)) &&& (nI 63)).toNatClampNeg)) x)) 12 ((((h.1 10 4) - (nI 1)) &&& (nI 63)).toNatClampNeg) ((nI 0) ||| (nI 0))) 10 7 (((h.2 10 7) &&& ((fv_X7_setOf (h.1 11 ((((h.1 10 4) + ((h.1 10 5) - (nI 1))) &&& (nI 63)).toNatClampNeg))) ^^^ (-1))) ||| (fv_X7_setOf (fv_X0_goFrom h (h.1 11 ((((h.1 10 4) + (nI 0)) &&& (nI 63)).toNatClampNeg)) x)))) (cs := []) [.iload 6] (by decide +kernel) rfl rfl trivial ?_
                  refine z_if_eq hC (off := 20) 209 (by decide +kernel) (by decide) (fun c36 => ?_) (fun c36 => ?_)
                  · skip
                    refine z_go hC (pc' := 210) (ls' := [some (.ref 10), some (.int x), some (.int (fv_X0_goFrom h (h.1 11 ((((h.1 10 4) + (nI 0)) &&& (nI 63)).toNatClampNeg)) x)), some (.int (nI 0)), some (.long ((h.2 10 7) &&& ((fv_X7_setOf (h.1 11 ((((h.1 10 4) + ((h.1 10 5) - (nI 1))) &&& (nI 63)).toNatClampNeg))) ^^^ (-1)))), none, some (.int (nI 0))]) (st' := [.int (nI 1)]) (h' := z_setL (z_set (z_set (z_set h 10 4 (((h.1 10 4) - (nI 1)) &&& (nI 63))) 11 ((((h.1 10 4) - (nI 1)) &&& (nI 63)).toNatClampNeg) (fv_X0_goFrom h (h.1 11 ((((h.1 10 4) + (nI 0)) &&& (nI 63)).toNatClampNeg)) x)) 12 ((((h.1 10 4) - (nI 1)) &&& (nI 63)).toNatClampNeg) ((nI 0) ||| (nI 0))) 10 7 (((h.2 10 7) &&& ((fv_X7_setOf (h.1 11 ((((h.1 10 4) + ((h.1 10 5) - (nI 1))) &&& (nI 63)).toNatClampNeg))) ^^^ (-1))) ||| (fv_X7_setOf (fv_X0_goFrom h (h.1 11 ((((h.1 10 4) + (nI 0)) &&& (nI 63)).toNatClampNeg)) x)))) (cs := []) [.iconst 1] (by decide +kernel) rfl rfl trivial ?_
                    exact z_ret_z hB rfl (by decide) (by decide +kernel) ⟨by rw [fv_X6_advance, if_pos c7, if_neg c15, if_pos c19, if_neg c23], by rw [fh_X6_advance, if_pos c7, if_neg c15, if_pos c19, if_neg c23]⟩
                  · skip
                    exact absurd c36 (by decide)
                · skip
                  exact absurd c35 (by decide)
              · skip
                exact absurd c28 (by decide)
            · skip
              exact absurd c27 (by decide)
          · skip
            refine z_go hC (pc' := 90) (ls' := [some (.ref 10), some (.int x), some (.int (fv_X0_goFrom h (h.1 11 ((((h.1 10 4) + (nI 0)) &&& (nI 63)).toNatClampNeg)) x)), some (.int (nI 0)), some (.long ((h.2 10 7) &&& ((fv_X7_setOf (h.1 11 ((((h.1 10 4) + ((h.1 10 5) - (nI 1))) &&& (nI 63)).toNatClampNeg))) ^^^ (-1)))), none, none]) (st' := [.int (nI 1)]) (h' := h) (cs := []) [.iconst 1] (by decide +kernel) rfl rfl trivial ?_
            refine z_goto hC (off := 4) 94 (by decide +kernel) (by decide) ?_
            refine z_go hC (pc' := 118) (ls' := [some (.ref 10), some (.int x), some (.int (fv_X0_goFrom h (h.1 11 ((((h.1 10 4) + (nI 0)) &&& (nI 63)).toNatClampNeg)) x)), some (.int (nI 0)), some (.long ((h.2 10 7) &&& ((fv_X7_setOf (h.1 11 ((((h.1 10 4) + ((h.1 10 5) - (nI 1))) &&& (nI 63)).toNatClampNeg))) ^^^ (-1)))), none, some (.int (nI 1))]) (st' := [.int (fv_X0_goFrom h (h.1 11 ((((h.1 10 4) + (nI 0)) &&& (nI 63)).toNatClampNeg)) x), .int (((h.1 10 4) - (nI 1)) &&& (nI 63)), .ref 11]) (h' := z_set h 10 4 (((h.1 10 4) - (nI 1)) &&& (nI 63))) (cs := []) [.istore 6, .aload_n 0, .aload_n 0, .getfield 41, .iconst 1, .isub, .bipush 63, .iand, .putfield 41, .aload_n 0, .getfield 11, .aload_n 0, .getfield 41, .iload_n 2] (by decide +kernel) rfl rfl trivial ?_
            refine z_callSN hC hN hR (as := [.ref 11, .int (((h.1 10 4) - (nI 1)) &&& (nI 63)), .int (fv_X0_goFrom h (h.1 11 ((((h.1 10 4) + (nI 0)) &&& (nI 63)).toNatClampNeg)) x)]) (rest := []) ok_X6_56 (by decide +kernel) (sp_X7_putI l _ (z_set h 10 4 (((h.1 10 4) - (nI 1)) &&& (nI 63))) 11 64 [] (((h.1 10 4) - (nI 1)) &&& (nI 63)) (fv_X0_goFrom h (h.1 11 ((((h.1 10 4) + (nI 0)) &&& (nI 63)).toNatClampNeg)) x) rfl (z_in63 _)) (Nat.le_of_ble_eq_true rfl) rfl rfl (Nat.le_of_ble_eq_true rfl) ⟨Nat.zero_le _, Nat.zero_le _⟩ (fun r37 h38 q39 => ?_)
            obtain ⟨rfl, rfl⟩ := q39
            refine z_go hC (pc' := 130) (ls' := [some (.ref 10), some (.int x), some (.int (fv_X0_goFrom h (h.1 11 ((((h.1 10 4) + (nI 0)) &&& (nI 63)).toNatClampNeg)) x)), some (.int (nI 0)), some (.long ((h.2 10 7) &&& ((fv_X7_setOf (h.1 11 ((((h.1 10 4) + ((h.1 10 5) - (nI 1))) &&& (nI 63)).toNatClampNeg))) ^^^ (-1)))), none, some (.int (nI 1))]) (st' := [.int (nI 0), .int (((h.1 10 4) - (nI 1)) &&& (nI 63)), .ref 12]) (h' := z_set (z_set h 10 4 (((h.1 10 4) - (nI 1)) &&& (nI 63))) 11 ((((h.1 10 4) - (nI 1)) &&& (nI 63)).toNatClampNeg) (fv_X0_goFrom h (h.1 11 ((((h.1 10 4) + (nI 0)) &&& (nI 63)).toNatClampNeg)) x)) (cs := []) [.aload_n 0, .getfield 15, .aload_n 0, .getfield 41, .iload_n 3] (by decide +kernel) rfl rfl trivial ?_
            refine z_if_eq hC (off := 7) 137 (by decide +kernel) (by decide) (fun c40 => ?_) (fun c40 => ?_)
            · skip
              refine z_go hC (pc' := 140) (ls' := [some (.ref 10), some (.int x), some (.int (fv_X0_goFrom h (h.1 11 ((((h.1 10 4) + (nI 0)) &&& (nI 63)).toNatClampNeg)) x)), some (.int (nI 0)), some (.long ((h.2 10 7) &&& ((fv_X7_setOf (h.1 11 ((((h.1 10 4) + ((h.1 10 5) - (nI 1))) &&& (nI 63)).toNatClampNeg))) ^^^ (-1)))), none, some (.int (nI 1))]) (st' := [.int (nI 1), .int (nI 0), .int (((h.1 10 4) - (nI 1)) &&& (nI 63)), .ref 12]) (h' := z_set (z_set h 10 4 (((h.1 10 4) - (nI 1)) &&& (nI 63))) 11 ((((h.1 10 4) - (nI 1)) &&& (nI 63)).toNatClampNeg) (fv_X0_goFrom h (h.1 11 ((((h.1 10 4) + (nI 0)) &&& (nI 63)).toNatClampNeg)) x)) (cs := []) [.iconst 0, .iload 6] (by decide +kernel) rfl rfl trivial ?_
              refine z_if_eq hC (off := 7) 147 (by decide +kernel) (by decide) (fun c41 => ?_) (fun c41 => ?_)
              · skip
                exact absurd c41 (by decide)
              · skip
                refine z_go hC (pc' := 144) (ls' := [some (.ref 10), some (.int x), some (.int (fv_X0_goFrom h (h.1 11 ((((h.1 10 4) + (nI 0)) &&& (nI 63)).toNatClampNeg)) x)), some (.int (nI 0)), some (.long ((h.2 10 7) &&& ((fv_X7_setOf (h.1 11 ((((h.1 10 4) + ((h.1 10 5) - (nI 1))) &&& (nI 63)).toNatClampNeg))) ^^^ (-1)))), none, some (.int (nI 1))]) (st' := [.int (nI 2), .int (nI 0), .int (((h.1 10 4) - (nI 1)) &&& (nI 63)), .ref 12]) (h' := z_set (z_set h 10 4 (((h.1 10 4) - (nI 1)) &&& (nI 63))) 11 ((((h.1 10 4) - (nI 1)) &&& (nI 63)).toNatClampNeg) (fv_X0_goFrom h (h.1 11 ((((h.1 10 4) + (nI 0)) &&& (nI 63)).toNatClampNeg)) x)) (cs := []) [.iconst 2] (by decide +kernel) rfl rfl trivial ?_
                refine z_goto hC (off := 4) 148 (by decide +kernel) (by decide) ?_
                refine z_go hC (pc' := 149) (ls' := [some (.ref 10), some (.int x), some (.int (fv_X0_goFrom h (h.1 11 ((((h.1 10 4) + (nI 0)) &&& (nI 63)).toNatClampNeg)) x)), some (.int (nI 0)), some (.long ((h.2 10 7) &&& ((fv_X7_setOf (h.1 11 ((((h.1 10 4) + ((h.1 10 5) - (nI 1))) &&& (nI 63)).toNatClampNeg))) ^^^ (-1)))), none, some (.int (nI 1))]) (st' := [.int ((nI 0) ||| (nI 2)), .int (((h.1 10 4) - (nI 1)) &&& (nI 63)), .ref 12]) (h' := z_set (z_set h 10 4 (((h.1 10 4) - (nI 1)) &&& (nI 63))) 11 ((((h.1 10 4) - (nI 1)) &&& (nI 63)).toNatClampNeg) (fv_X0_goFrom h (h.1 11 ((((h.1 10 4) + (nI 0)) &&& (nI 63)).toNatClampNeg)) x)) (cs := []) [.ior] (by decide +kernel) rfl rfl trivial ?_
                refine z_callSN hC hN hR (as := [.ref 12, .int (((h.1 10 4) - (nI 1)) &&& (nI 63)), .int ((nI 0) ||| (nI 2))]) (rest := []) ok_X6_56 (by decide +kernel) (sp_X7_putI l _ (z_set (z_set h 10 4 (((h.1 10 4) - (nI 1)) &&& (nI 63))) 11 ((((h.1 10 4) - (nI 1)) &&& (nI 63)).toNatClampNeg) (fv_X0_goFrom h (h.1 11 ((((h.1 10 4) + (nI 0)) &&& (nI 63)).toNatClampNeg)) x)) 12 64 [] (((h.1 10 4) - (nI 1)) &&& (nI 63)) ((nI 0) ||| (nI 2)) rfl (z_in63 _)) (Nat.le_of_ble_eq_true rfl) rfl rfl (Nat.le_of_ble_eq_true rfl) ⟨Nat.zero_le _, Nat.zero_le _⟩ (fun r42 h43 q44 => ?_)
                obtain ⟨rfl, rfl⟩ := q44
                refine z_go hC (pc' := 156) (ls' := [some (.ref 10), some (.int x), some (.int (fv_X0_goFrom h (h.1 11 ((((h.1 10 4) + (nI 0)) &&& (nI 63)).toNatClampNeg)) x)), some (.int (nI 0)), some (.long ((h.2 10 7) &&& ((fv_X7_setOf (h.1 11 ((((h.1 10 4) + ((h.1 10 5) - (nI 1))) &&& (nI 63)).toNatClampNeg))) ^^^ (-1)))), none, some (.int (nI 1))]) (st' := [.int (fv_X0_goFrom h (h.1 11 ((((h.1 10 4) + (nI 0)) &&& (nI 63)).toNatClampNeg)) x), .long ((h.2 10 7) &&& ((fv_X7_setOf (h.1 11 ((((h.1 10 4) + ((h.1 10 5) - (nI 1))) &&& (nI 63)).toNatClampNeg))) ^^^ (-1))), .ref 10]) (h' := z_set (z_set (z_set h 10 4 (((h.1 10 4) - (nI 1)) &&& (nI 63))) 11 ((((h.1 10 4) - (nI 1)) &&& (nI 63)).toNatClampNeg) (fv_X0_goFrom h (h.1 11 ((((h.1 10 4) + (nI 0)) &&& (nI 63)).toNatClampNeg)) x)) 12 ((((h.1 10 4) - (nI 1)) &&& (nI 63)).toNatClampNeg) ((nI 0) ||| (nI 2))) (cs := []) [.aload_n 0, .lload 4, .iload_n 2] (by decide +kernel) rfl rfl trivial ?_
                refine z_callSN hC hN hR (as := [.int (fv_X0_goFrom h (h.1 11 ((((h.1 10 4) + (nI 0)) &&& (nI 63)).toNatClampNeg)) x)]) (rest := [.long ((h.2 10 7) &&& ((fv_X7_setOf (h.1 11 ((((h.1 10 4) + ((h.1 10 5) - (nI 1))) &&& (nI 63)).toNatClampNeg))) ^^^ (-1))), .ref 10]) ok_X6_60 (by decide +kernel) (sp_X7_setOf l _ (z_set (z_set (z_set h 10 4 (((h.1 10 4) - (nI 1)) &&& (nI 63))) 11 ((((h.1 10 4) - (nI 1)) &&& (nI 63)).toNatClampNeg) (fv_X0_goFrom h (h.1 11 ((((h.1 10 4) + (nI 0)) &&& (nI 63)).toNatClampNeg)) x)) 12 ((((h.1 10 4) - (nI 1)) &&& (nI 63)).toNatClampNeg) ((nI 0) ||| (nI 2))) (fv_X0_goFrom h (h.1 11 ((((h.1 10 4) + (nI 0)) &&& (nI 63)).toNatClampNeg)) x)) (Nat.le_of_ble_eq_true rfl) rfl rfl (Nat.le_of_ble_eq_true rfl) ⟨Nat.zero_le _, Nat.zero_le _⟩ (fun r45 h46 q47 => ?_)
                obtain ⟨rfl, rfl⟩ := q47
                refine z_go hC (pc' := 164) (ls' := [some (.ref 10), some (.int x), some (.int (fv_X0_goFrom h (h.1 11 ((((h.1 10 4) + (nI 0)) &&& (nI 63)).toNatClampNeg)) x)), some (.int (nI 0)), some (.long ((h.2 10 7) &&& ((fv_X7_setOf (h.1 11 ((((h.1 10 4) + ((h.1 10 5) - (nI 1))) &&& (nI 63)).toNatClampNeg))) ^^^ (-1)))), none, some (.int (nI 1))]) (st' := [.int (nI 0)]) (h' := z_setL (z_set (z_set (z_set h 10 4 (((h.1 10 4) - (nI 1)) &&& (nI 63))) 11 ((((h.1 10 4) - (nI 1)) &&& (nI 63)).toNatClampNeg) (fv_X0_goFrom h (h.1 11 ((((h.1 10 4) + (nI 0)) &&& (nI 63)).toNatClampNeg)) x)) 12 ((((h.1 10 4) - (nI 1)) &&& (nI 63)).toNatClampNeg) ((nI 0) ||| (nI 2))) 10 7 (((h.2 10 7) &&& ((fv_X7_setOf (h.1 11 ((((h.1 10 4) + ((h.1 10 5) - (nI 1))) &&& (nI 63)).toNatClampNeg))) ^^^ (-1))) ||| (fv_X7_setOf (fv_X0_goFrom h (h.1 11 ((((h.1 10 4) + (nI 0)) &&& (nI 63)).toNatClampNeg)) x)))) (cs := []) [.lor, .putfield 48, .iload_n 3] (by decide +kernel) rfl rfl trivial ?_
                refine z_if_eq hC (off := 23) 187 (by decide +kernel) (by decide) (fun c48 => ?_) (fun c48 => ?_)
                · skip
                  refine z_go hC (pc' := 189) (ls' := [some (.ref 10), some (.int x), some (.int (fv_X0_goFrom h (h.1 11 ((((h.1 10 4) + (nI 0)) &&& (nI 63)).toNatClampNeg)) x)), some (.int (nI 0)), some (.long ((h.2 10 7) &&& ((fv_X7_setOf (h.1 11 ((((h.1 10 4) + ((h.1 10 5) - (nI 1))) &&& (nI 63)).toNatClampNeg))) ^^^ (-1)))), none, some (.int (nI 1))]) (st' := [.int (nI 1)]) (h' := z_setL (z_set (z_set (z_set h 10 4 (((h.1 10 4) - (nI 1)) &&& (nI 63))) 11 ((((h.1 10 4) - (nI 1)) &&& (nI 63)).toNatClampNeg) (fv_X0_goFrom h (h.1 11 ((((h.1 10 4) + (nI 0)) &&& (nI 63)).toNatClampNeg)) x)) 12 ((((h.1 10 4) - (nI 1)) &&& (nI 63)).toNatClampNeg) ((nI 0) ||| (nI 2))) 10 7 (((h.2 10 7) &&& ((fv_X7_setOf (h.1 11 ((((h.1 10 4) + ((h.1 10 5) - (nI 1))) &&& (nI 63)).toNatClampNeg))) ^^^ (-1))) ||| (fv_X7_setOf (fv_X0_goFrom h (h.1 11 ((((h.1 10 4) + (nI 0)) &&& (nI 63)).toNatClampNeg)) x)))) (cs := []) [.iload 6] (by decide +kernel) rfl rfl trivial ?_
                  refine z_if_eq hC (off := 20) 209 (by decide +kernel) (by decide) (fun c49 => ?_) (fun c49 => ?_)
                  · skip
                    exact absurd c49 (by decide)
                  · skip
                    refine z_go hC (pc' := 196) (ls' := [some (.ref 10), some (.int x), some (.int (fv_X0_goFrom h (h.1 11 ((((h.1 10 4) + (nI 0)) &&& (nI 63)).toNatClampNeg)) x)), some (.int (nI 0)), some (.long ((h.2 10 7) &&& ((fv_X7_setOf (h.1 11 ((((h.1 10 4) + ((h.1 10 5) - (nI 1))) &&& (nI 63)).toNatClampNeg))) ^^^ (-1)))), none, some (.int (nI 1))]) (st' := [.ref 8]) (h' := z_setL (z_set (z_set (z_set h 10 4 (((h.1 10 4) - (nI 1)) &&& (nI 63))) 11 ((((h.1 10 4) - (nI 1)) &&& (nI 63)).toNatClampNeg) (fv_X0_goFrom h (h.1 11 ((((h.1 10 4) + (nI 0)) &&& (nI 63)).toNatClampNeg)) x)) 12 ((((h.1 10 4) - (nI 1)) &&& (nI 63)).toNatClampNeg) ((nI 0) ||| (nI 2))) 10 7 (((h.2 10 7) &&& ((fv_X7_setOf (h.1 11 ((((h.1 10 4) + ((h.1 10 5) - (nI 1))) &&& (nI 63)).toNatClampNeg))) ^^^ (-1))) ||| (fv_X7_setOf (fv_X0_goFrom h (h.1 11 ((((h.1 10 4) + (nI 0)) &&& (nI 63)).toNatClampNeg)) x)))) (cs := []) [.aload_n 0, .getfield 22] (by decide +kernel) rfl rfl trivial ?_
                    refine z_callV hC hN hR (as := []) (rest := []) ok_X6_82 (by decide +kernel) (sp_X3_takeFirst l _ (z_setL (z_set (z_set (z_set h 10 4 (((h.1 10 4) - (nI 1)) &&& (nI 63))) 11 ((((h.1 10 4) - (nI 1)) &&& (nI 63)).toNatClampNeg) (fv_X0_goFrom h (h.1 11 ((((h.1 10 4) + (nI 0)) &&& (nI 63)).toNatClampNeg)) x)) 12 ((((h.1 10 4) - (nI 1)) &&& (nI 63)).toNatClampNeg) ((nI 0) ||| (nI 2))) 10 7 (((h.2 10 7) &&& ((fv_X7_setOf (h.1 11 ((((h.1 10 4) + ((h.1 10 5) - (nI 1))) &&& (nI 63)).toNatClampNeg))) ^^^ (-1))) ||| (fv_X7_setOf (fv_X0_goFrom h (h.1 11 ((((h.1 10 4) + (nI 0)) &&& (nI 63)).toNatClampNeg)) x)))) ) rfl rfl (Nat.le_of_ble_eq_true rfl) rfl rfl (Nat.le_of_ble_eq_true rfl) ⟨Nat.zero_le _, Nat.zero_le _⟩ (fun r50 h51 q52 => ?_)
                    obtain ⟨rfl, rfl⟩ := q52
                    refine z_go hC (pc' := 210) (ls' := [some (.ref 10), some (.int x), some (.int (fv_X0_goFrom h (h.1 11 ((((h.1 10 4) + (nI 0)) &&& (nI 63)).toNatClampNeg)) x)), some (.int (nI 0)), some (.long ((h.2 10 7) &&& ((fv_X7_setOf (h.1 11 ((((h.1 10 4) + ((h.1 10 5) - (nI 1))) &&& (nI 63)).toNatClampNeg))) ^^^ (-1)))), none, some (.int (nI 1))]) (st' := [.int (nI 1)]) (h' := z_set (z_set (z_set (z_setL (z_set (z_set (z_set h 10 4 (((h.1 10 4) - (nI 1)) &&& (nI 63))) 11 ((((h.1 10 4) - (nI 1)) &&& (nI 63)).toNatClampNeg) (fv_X0_goFrom h (h.1 11 ((((h.1 10 4) + (nI 0)) &&& (nI 63)).toNatClampNeg)) x)) 12 ((((h.1 10 4) - (nI 1)) &&& (nI 63)).toNatClampNeg) ((nI 0) ||| (nI 2))) 10 7 (((h.2 10 7) &&& ((fv_X7_setOf (h.1 11 ((((h.1 10 4) + ((h.1 10 5) - (nI 1))) &&& (nI 63)).toNatClampNeg))) ^^^ (-1))) ||| (fv_X7_setOf (fv_X0_goFrom h (h.1 11 ((((h.1 10 4) + (nI 0)) &&& (nI 63)).toNatClampNeg)) x)))) 8 1 (((h.1 8 1) + (nI 1)) &&& (nI 63))) 8 2 ((h.1 8 2) - (nI 1))) 10 6 ((h.1 10 6) + (nI 2))) (cs := []) [.aload_n 0, .dup, .getfield 38, .iconst 2, .iadd, .putfield 38, .iconst 1] (by decide +kernel) rfl rfl trivial ?_
                    exact z_ret_z hB rfl (by decide) (by decide +kernel) ⟨by rw [fv_X6_advance, if_pos c7, if_neg c15, if_pos c19, if_pos c23], by rw [fh_X6_advance, if_pos c7, if_neg c15, if_pos c19, if_pos c23]⟩
                · skip
                  exact absurd c48 (by decide)
            · skip
              exact absurd c40 (by decide)
        · skip
          refine z_go hC (pc' := 77) (ls' := [some (.ref 10), some (.int x), some (.int (fv_X0_goFrom h (h.1 11 ((((h.1 10 4) + (nI 0)) &&& (nI 63)).toNatClampNeg)) x)), some (.int (nI 0)), some (.long ((h.2 10 7) &&& ((fv_X7_setOf (h.1 11 ((((h.1 10 4) + ((h.1 10 5) - (nI 1))) &&& (nI 63)).toNatClampNeg))) ^^^ (-1)))), none, none]) (st' := [.int (nI 0)]) (h' := h) (cs := []) [.iconst 0] (by decide +kernel) rfl rfl trivial ?_
          exact z_ret_z hB rfl (by decide) (by decide +kernel) ⟨by rw [fv_X6_advance, if_pos c7, if_neg c15, if_neg c19], by rw [fh_X6_advance, if_pos c7, if_neg c15, if_neg c19]⟩
    · skip
      exact absurd c8 (by decide)
  · skip
    refine z_go hC (pc' := 22) (ls' := [some (.ref 10), some (.int x), some (.int (fv_X0_goFrom h (h.1 11 ((((h.1 10 4) + (nI 0)) &&& (nI 63)).toNatClampNeg)) x)), none, none, none, none]) (st' := [.int (nI 1)]) (h' := h) (cs := []) [.iconst 1] (by decide +kernel) rfl rfl trivial ?_
    refine z_goto hC (off := 4) 26 (by decide +kernel) (by decide) ?_
    refine z_go hC (pc' := 28) (ls' := [some (.ref 10), some (.int x), some (.int (fv_X0_goFrom h (h.1 11 ((((h.1 10 4) + (nI 0)) &&& (nI 63)).toNatClampNeg)) x)), some (.int (nI 1)), none, none, none]) (st' := [.int (nI 1)]) (h' := h) (cs := []) [.istore_n 3, .iload_n 3] (by decide +kernel) rfl rfl trivial ?_
    refine z_if_eq hC (off := 10) 38 (by decide +kernel) (by decide) (fun c53 => ?_) (fun c53 => ?_)
    · skip
      exact absurd c53 (by decide)
    · skip
      refine z_go hC (pc' := 35) (ls' := [some (.ref 10), some (.int x), some (.int (fv_X0_goFrom h (h.1 11 ((((h.1 10 4) + (nI 0)) &&& (nI 63)).toNatClampNeg)) x)), some (.int (nI 1)), none, none, none]) (st' := [.long (h.2 10 7)]) (h' := h) (cs := []) [.aload_n 0, .getfield 48] (by decide +kernel) rfl rfl trivial ?_
      refine z_goto hC (off := 25) 60 (by decide +kernel) (by decide) ?_
      refine z_go hC (pc' := 64) (ls' := [some (.ref 10), some (.int x), some (.int (fv_X0_goFrom h (h.1 11 ((((h.1 10 4) + (nI 0)) &&& (nI 63)).toNatClampNeg)) x)), some (.int (nI 1)), some (.long (h.2 10 7)), none, none]) (st' := [.int (-1), .int (fv_X0_goFrom h (h.1 11 ((((h.1 10 4) + (nI 0)) &&& (nI 63)).toNatClampNeg)) x)]) (h' := h) (cs := []) [.lstore 4, .iload_n 2, .iconst (-1)] (by decide +kernel) rfl rfl trivial ?_
      refine z_icmp_eq hC (off := 12) 76 (by decide +kernel) (by decide) (fun c54 => ?_) (fun c54 => ?_)
      · skip
        refine z_go hC (pc' := 77) (ls' := [some (.ref 10), some (.int x), some (.int (fv_X0_goFrom h (h.1 11 ((((h.1 10 4) + (nI 0)) &&& (nI 63)).toNatClampNeg)) x)), some (.int (nI 1)), some (.long (h.2 10 7)), none, none]) (st' := [.int (nI 0)]) (h' := h) (cs := []) [.iconst 0] (by decide +kernel) rfl rfl trivial ?_
        exact z_ret_z hB rfl (by decide) (by decide +kernel) ⟨by rw [fv_X6_advance, if_neg c7, if_pos c54], by rw [fh_X6_advance, if_neg c7, if_pos c54]⟩
      · skip
        refine z_go hC (pc' := 70) (ls' := [some (.ref 10), some (.int x), some (.int (fv_X0_goFrom h (h.1 11 ((((h.1 10 4) + (nI 0)) &&& (nI 63)).toNatClampNeg)) x)), some (.int (nI 1)), some (.long (h.2 10 7)), none, none]) (st' := [.int (fv_X0_goFrom h (h.1 11 ((((h.1 10 4) + (nI 0)) &&& (nI 63)).toNatClampNeg)) x), .long (h.2 10 7)]) (h' := h) (cs := []) [.lload 4, .iload_n 2] (by decide +kernel) rfl rfl trivial ?_
        refine z_callSN hC hN hR (as := [.long (h.2 10 7), .int (fv_X0_goFrom h (h.1 11 ((((h.1 10 4) + (nI 0)) &&& (nI 63)).toNatClampNeg)) x)]) (rest := []) ok_X6_52 (by decide +kernel) (sp_X7_isIn l _ h (h.2 10 7) (fv_X0_goFrom h (h.1 11 ((((h.1 10 4) + (nI 0)) &&& (nI 63)).toNatClampNeg)) x)) (Nat.le_of_ble_eq_true rfl) rfl rfl (Nat.le_of_ble_eq_true rfl) ⟨Nat.zero_le _, Nat.zero_le _⟩ (fun r55 h56 q57 => ?_)
        obtain ⟨rfl, rfl⟩ := q57
        refine z_if_eq hC (off := 5) 78 (by decide +kernel) (by decide) (fun c58 => ?_) (fun c58 => ?_)
        · skip
          refine z_go hC (pc' := 82) (ls' := [some (.ref 10), some (.int x), some (.int (fv_X0_goFrom h (h.1 11 ((((h.1 10 4) + (nI 0)) &&& (nI 63)).toNatClampNeg)) x)), some (.int (nI 1)), some (.long (h.2 10 7)), none, none]) (st' := [.ref 8]) (h' := h) (cs := []) [.aload_n 0, .getfield 22] (by decide +kernel) rfl rfl trivial ?_
          refine z_callV hC hN hR (as := []) (rest := []) ok_X6_76 (by decide +kernel) (sp_X3_firstCell l _ h ) rfl rfl (Nat.le_of_ble_eq_true rfl) rfl rfl (Nat.le_of_ble_eq_true rfl) ⟨Nat.zero_le _, Nat.zero_le _⟩ (fun r59 h60 q61 => ?_)
          obtain ⟨rfl, rfl⟩ := q61
          refine z_go hC (pc' := 86) (ls' := [some (.ref 10), some (.int x), some (.int (fv_X0_goFrom h (h.1 11 ((((h.1 10 4) + (nI 0)) &&& (nI 63)).toNatClampNeg)) x)), some (.int (nI 1)), some (.long (h.2 10 7)), none, none]) (st' := [.int (fv_X0_goFrom h (h.1 11 ((((h.1 10 4) + (nI 0)) &&& (nI 63)).toNatClampNeg)) x), .int (fv_X3_firstCell h )]) (h' := h) (cs := []) [.iload_n 2] (by decide +kernel) rfl rfl trivial ?_
          refine z_icmp_ne hC (off := 7) 93 (by decide +kernel) (by decide) (fun c62 => ?_) (fun c62 => ?_)
          · skip
            refine z_go hC (pc' := 118) (ls' := [some (.ref 10), some (.int x), some (.int (fv_X0_goFrom h (h.1 11 ((((h.1 10 4) + (nI 0)) &&& (nI 63)).toNatClampNeg)) x)), some (.int (nI 1)), some (.long (h.2 10 7)), none, some (.int (nI 0))]) (st' := [.int (fv_X0_goFrom h (h.1 11 ((((h.1 10 4) + (nI 0)) &&& (nI 63)).toNatClampNeg)) x), .int (((h.1 10 4) - (nI 1)) &&& (nI 63)), .ref 11]) (h' := z_set h 10 4 (((h.1 10 4) - (nI 1)) &&& (nI 63))) (cs := []) [.iconst 0, .istore 6, .aload_n 0, .aload_n 0, .getfield 41, .iconst 1, .isub, .bipush 63, .iand, .putfield 41, .aload_n 0, .getfield 11, .aload_n 0, .getfield 41, .iload_n 2] (by decide +kernel) rfl rfl trivial ?_
            refine z_callSN hC hN hR (as := [.ref 11, .int (((h.1 10 4) - (nI 1)) &&& (nI 63)), .int (fv_X0_goFrom h (h.1 11 ((((h.1 10 4) + (nI 0)) &&& (nI 63)).toNatClampNeg)) x)]) (rest := []) ok_X6_56 (by decide +kernel) (sp_X7_putI l _ (z_set h 10 4 (((h.1 10 4) - (nI 1)) &&& (nI 63))) 11 64 [] (((h.1 10 4) - (nI 1)) &&& (nI 63)) (fv_X0_goFrom h (h.1 11 ((((h.1 10 4) + (nI 0)) &&& (nI 63)).toNatClampNeg)) x) rfl (z_in63 _)) (Nat.le_of_ble_eq_true rfl) rfl rfl (Nat.le_of_ble_eq_true rfl) ⟨Nat.zero_le _, Nat.zero_le _⟩ (fun r63 h64 q65 => ?_)
            obtain ⟨rfl, rfl⟩ := q65
            refine z_go hC (pc' := 130) (ls' := [some (.ref 10), some (.int x), some (.int (fv_X0_goFrom h (h.1 11 ((((h.1 10 4) + (nI 0)) &&& (nI 63)).toNatClampNeg)) x)), some (.int (nI 1)), some (.long (h.2 10 7)), none, some (.int (nI 0))]) (st' := [.int (nI 1), .int (((h.1 10 4) - (nI 1)) &&& (nI 63)), .ref 12]) (h' := z_set (z_set h 10 4 (((h.1 10 4) - (nI 1)) &&& (nI 63))) 11 ((((h.1 10 4) - (nI 1)) &&& (nI 63)).toNatClampNeg) (fv_X0_goFrom h (h.1 11 ((((h.1 10 4) + (nI 0)) &&& (nI 63)).toNatClampNeg)) x)) (cs := []) [.aload_n 0, .getfield 15, .aload_n 0, .getfield 41, .iload_n 3] (by decide +kernel) rfl rfl trivial ?_
            refine z_if_eq hC (off := 7) 137 (by decide +kernel) (by decide) (fun c66 => ?_) (fun c66 => ?_)
            · skip
              exact absurd c66 (by decide)
            · skip
              refine z_go hC (pc' := 134) (ls' := [some (.ref 10), some (.int x), some (.int (fv_X0_goFrom h (h.1 11 ((((h.1 10 4) + (nI 0)) &&& (nI 63)).toNatClampNeg)) x)), some (.int (nI 1)), some (.long (h.2 10 7)), none, some (.int (nI 0))]) (st' := [.int (nI 1), .int (((h.1 10 4) - (nI 1)) &&& (nI 63)), .ref 12]) (h' := z_set (z_set h 10 4 (((h.1 10 4) - (nI 1)) &&& (nI 63))) 11 ((((h.1 10 4) - (nI 1)) &&& (nI 63)).toNatClampNeg) (fv_X0_goFrom h (h.1 11 ((((h.1 10 4) + (nI 0)) &&& (nI 63)).toNatClampNeg)) x)) (cs := []) [.iconst 1] (by decide +kernel) rfl rfl trivial ?_
              refine z_goto hC (off := 4) 138 (by decide +kernel) (by decide) ?_
              refine z_go hC (pc' := 140) (ls' := [some (.ref 10), some (.int x), some (.int (fv_X0_goFrom h (h.1 11 ((((h.1 10 4) + (nI 0)) &&& (nI 63)).toNatClampNeg)) x)), some (.int (nI 1)), some (.long (h.2 10 7)), none, some (.int (nI 0))]) (st' := [.int (nI 0), .int (nI 1), .int (((h.1 10 4) - (nI 1)) &&& (nI 63)), .ref 12]) (h' := z_set (z_set h 10 4 (((h.1 10 4) - (nI 1)) &&& (nI 63))) 11 ((((h.1 10 4) - (nI 1)) &&& (nI 63)).toNatClampNeg) (fv_X0_goFrom h (h.1 11 ((((h.1 10 4) + (nI 0)) &&& (nI 63)).toNatClampNeg)) x)) (cs := []) [.iload 6] (by decide +kernel) rfl rfl trivial ?_
              refine z_if_eq hC (off := 7) 147 (by decide +kernel) (by decide) (fun c67 => ?_) (fun c67 => ?_)
              · skip
                refine z_go hC (pc' := 149) (ls' := [some (.ref 10), some (.int x), some (.int (fv_X0_goFrom h (h.1 11 ((((h.1 10 4) + (nI 0)) &&& (nI 63)).toNatClampNeg)) x)), some (.int (nI 1)), some (.long (h.2 10 7)), none, some (.int (nI 0))]) (st' := [.int ((nI 1) ||| (nI 0)), .int (((h.1 10 4) - (nI 1)) &&& (nI 63)), .ref 12]) (h' := z_set (z_set h 10 4 (((h.1 10 4) - (nI 1)) &&& (nI 63))) 11 ((((h.1 10 4) - (nI 1)) &&& (nI 63)).toNatClampNeg) (fv_X0_goFrom h (h.1 11 ((((h.1 10 4) + (nI 0)) &&& (nI 63)).toNatClampNeg)) x)) (cs := []) [.iconst 0, .ior] (by decide +kernel) rfl rfl trivial ?_
                refine z_callSN hC hN hR (as := [.ref 12, .int (((h.1 10 4) - (nI 1)) &&& (nI 63)), .int ((nI 1) ||| (nI 0))]) (rest := []) ok_X6_56 (by decide +kernel) (sp_X7_putI l _ (z_set (z_set h 10 4 (((h.1 10 4) - (nI 1)) &&& (nI 63))) 11 ((((h.1 10 4) - (nI 1)) &&& (nI 63)).toNatClampNeg) (fv_X0_goFrom h (h.1 11 ((((h.1 10 4) + (nI 0)) &&& (nI 63)).toNatClampNeg)) x)) 12 64 [] (((h.1 10 4) - (nI 1)) &&& (nI 63)) ((nI 1) ||| (nI 0)) rfl (z_in63 _)) (Nat.le_of_ble_eq_true rfl) rfl rfl (Nat.le_of_ble_eq_true rfl) ⟨Nat.zero_le _, Nat.zero_le _⟩ (fun r68 h69 q70 => ?_)
                obtain ⟨rfl, rfl⟩ := q70
                refine z_go hC (pc' := 156) (ls' := [some (.ref 10), some (.int x), some (.int (fv_X0_goFrom h (h.1 11 ((((h.1 10 4) + (nI 0)) &&& (nI 63)).toNatClampNeg)) x)), some (.int (nI 1)), some (.long (h.2 10 7)), none, some (.int (nI 0))]) (st' := [.int (fv_X0_goFrom h (h.1 11 ((((h.1 10 4) + (nI 0)) &&& (nI 63)).toNatClampNeg)) x), .long (h.2 10 7), .ref 10]) (h' := z_set (z_set (z_set h 10 4 (((h.1 10 4) - (nI 1)) &&& (nI 63))) 11 ((((h.1 10 4) - (nI 1)) &&& (nI 63)).toNatClampNeg) (fv_X0_goFrom h (h.1 11 ((((h.1 10 4) + (nI 0)) &&& (nI 63)).toNatClampNeg)) x)) 12 ((((h.1 10 4) - (nI 1)) &&& (nI 63)).toNatClampNeg) ((nI 1) ||| (nI 0))) (cs := []) [.aload_n 0, .lload 4, .iload_n 2] (by decide +kernel) rfl rfl trivial ?_
                refine z_callSN hC hN hR (as := [.int (fv_X0_goFrom h (h.1 11 ((((h.1 10 4) + (nI 0)) &&& (nI 63)).toNatClampNeg)) x)]) (rest := [.long (h.2 10 7), .ref 10]) ok_X6_60 (by decide +kernel) (sp_X7_setOf l _ (z_set (z_set (z_set h 10 4 (((h.1 10 4) - (nI 1)) &&& (nI 63))) 11 ((((h.1 10 4) - (nI 1)) &&& (nI 63)).toNatClampNeg) (fv_X0_goFrom h (h.1 11 ((((h.1 10 4) + (nI 0)) &&& (nI 63)).toNatClampNeg)) x)) 12 ((((h.1 10 4) - (nI 1)) &&& (nI 63)).toNatClampNeg) ((nI 1) ||| (nI 0))) (fv_X0_goFrom h (h.1 11 ((((h.1 10 4) + (nI 0)) &&& (nI 63)).toNatClampNeg)) x)) (Nat.le_of_ble_eq_true rfl) rfl rfl (Nat.le_of_ble_eq_true rfl) ⟨Nat.zero_le _, Nat.zero_le _⟩ (fun r71 h72 q73 => ?_)
                obtain ⟨rfl, rfl⟩ := q73
                refine z_go hC (pc' := 164) (ls' := [some (.ref 10), some (.int x), some (.int (fv_X0_goFrom h (h.1 11 ((((h.1 10 4) + (nI 0)) &&& (nI 63)).toNatClampNeg)) x)), some (.int (nI 1)), some (.long (h.2 10 7)), none, some (.int (nI 0))]) (st' := [.int (nI 1)]) (h' := z_setL (z_set (z_set (z_set h 10 4 (((h.1 10 4) - (nI 1)) &&& (nI 63))) 11 ((((h.1 10 4) - (nI 1)) &&& (nI 63)).toNatClampNeg) (fv_X0_goFrom h (h.1 11 ((((h.1 10 4) + (nI 0)) &&& (nI 63)).toNatClampNeg)) x)) 12 ((((h.1 10 4) - (nI 1)) &&& (nI 63)).toNatClampNeg) ((nI 1) ||| (nI 0))) 10 7 ((h.2 10 7) ||| (fv_X7_setOf (fv_X0_goFrom h (h.1 11 ((((h.1 10 4) + (nI 0)) &&& (nI 63)).toNatClampNeg)) x)))) (cs := []) [.lor, .putfield 48, .iload_n 3] (by decide +kernel) rfl rfl trivial ?_
                refine z_if_eq hC (off := 23) 187 (by decide +kernel) (by decide) (fun c74 => ?_) (fun c74 => ?_)
                · skip
                  exact absurd c74 (by decide)
                · skip
                  refine z_go hC (pc' := 189) (ls' := [some (.ref 10), some (.int x), some (.int (fv_X0_goFrom h (h.1 11 ((((h.1 10 4) + (nI 0)) &&& (nI 63)).toNatClampNeg)) x)), some (.int (nI 1)), some (.long (h.2 10 7)), none, some (.int (nI 0))]) (st' := [.int (nI 0)]) (h' := z_set (z_set (z_setL (z_set (z_set (z_set h 10 4 (((h.1 10 4) - (nI 1)) &&& (nI 63))) 11 ((((h.1 10 4) - (nI 1)) &&& (nI 63)).toNatClampNeg) (fv_X0_goFrom h (h.1 11 ((((h.1 10 4) + (nI 0)) &&& (nI 63)).toNatClampNeg)) x)) 12 ((((h.1 10 4) - (nI 1)) &&& (nI 63)).toNatClampNeg) ((nI 1) ||| (nI 0))) 10 7 ((h.2 10 7) ||| (fv_X7_setOf (fv_X0_goFrom h (h.1 11 ((((h.1 10 4) + (nI 0)) &&& (nI 63)).toNatClampNeg)) x)))) 10 5 ((h.1 10 5) + (nI 1))) 10 6 ((h.1 10 6) - (nI 1))) (cs := []) [.aload_n 0, .dup, .getfield 26, .iconst 1, .iadd, .putfield 26, .aload_n 0, .dup, .getfield 38, .iconst 1, .isub, .putfield 38, .iload 6] (by decide +kernel) rfl rfl trivial ?_
                  refine z_if_eq hC (off := 20) 209 (by decide +kernel) (by decide) (fun c75 => ?_) (fun c75 => ?_)
                  · skip
                    refine z_go hC (pc' := 210) (ls' := [some (.ref 10), some (.int x), some (.int (fv_X0_goFrom h (h.1 11 ((((h.1 10 4) + (nI 0)) &&& (nI 63)).toNatClampNeg)) x)), some (.int (nI 1)), some (.long (h.2 10 7)), none, some (.int (nI 0))]) (st' := [.int (nI 1)]) (h' := z_set (z_set (z_setL (z_set (z_set (z_set h 10 4 (((h.1 10 4) - (nI 1)) &&& (nI 63))) 11 ((((h.1 10 4) - (nI 1)) &&& (nI 63)).toNatClampNeg) (fv_X0_goFrom h (h.1 11 ((((h.1 10 4) + (nI 0)) &&& (nI 63)).toNatClampNeg)) x)) 12 ((((h.1 10 4) - (nI 1)) &&& (nI 63)).toNatClampNeg) ((nI 1) ||| (nI 0))) 10 7 ((h.2 10 7) ||| (fv_X7_setOf (fv_X0_goFrom h (h.1 11 ((((h.1 10 4) + (nI 0)) &&& (nI 63)).toNatClampNeg)) x)))) 10 5 ((h.1 10 5) + (nI 1))) 10 6 ((h.1 10 6) - (nI 1))) (cs := []) [.iconst 1] (by decide +kernel) rfl rfl trivial ?_
                    exact z_ret_z hB rfl (by decide) (by decide +kernel) ⟨by rw [fv_X6_advance, if_neg c7, if_neg c54, if_pos c58, if_neg c62], by rw [fh_X6_advance, if_neg c7, if_neg c54, if_pos c58, if_neg c62]⟩
                  · skip
                    exact absurd c75 (by decide)
              · skip
                exact absurd c67 (by decide)
          · skip
            refine z_go hC (pc' := 90) (ls' := [some (.ref 10), some (.int x), some (.int (fv_X0_goFrom h (h.1 11 ((((h.1 10 4) + (nI 0)) &&& (nI 63)).toNatClampNeg)) x)), some (.int (nI 1)), some (.long (h.2 10 7)), none, none]) (st' := [.int (nI 1)]) (h' := h) (cs := []) [.iconst 1] (by decide +kernel) rfl rfl trivial ?_
            refine z_goto hC (off := 4) 94 (by decide +kernel) (by decide) ?_
            refine z_go hC (pc' := 118) (ls' := [some (.ref 10), some (.int x), some (.int (fv_X0_goFrom h (h.1 11 ((((h.1 10 4) + (nI 0)) &&& (nI 63)).toNatClampNeg)) x)), some (.int (nI 1)), some (.long (h.2 10 7)), none, some (.int (nI 1))]) (st' := [.int (fv_X0_goFrom h (h.1 11 ((((h.1 10 4) + (nI 0)) &&& (nI 63)).toNatClampNeg)) x), .int (((h.1 10 4) - (nI 1)) &&& (nI 63)), .ref 11]) (h' := z_set h 10 4 (((h.1 10 4) - (nI 1)) &&& (nI 63))) (cs := []) [.istore 6, .aload_n 0, .aload_n 0, .getfield 41, .iconst 1, .isub, .bipush 63, .iand, .putfield 41, .aload_n 0, .getfield 11, .aload_n 0, .getfield 41, .iload_n 2] (by decide +kernel) rfl rfl trivial ?_
            refine z_callSN hC hN hR (as := [.ref 11, .int (((h.1 10 4) - (nI 1)) &&& (nI 63)), .int (fv_X0_goFrom h (h.1 11 ((((h.1 10 4) + (nI 0)) &&& (nI 63)).toNatClampNeg)) x)]) (rest := []) ok_X6_56 (by decide +kernel) (sp_X7_putI l _ (z_set h 10 4 (((h.1 10 4) - (nI 1)) &&& (nI 63))) 11 64 [] (((h.1 10 4) - (nI 1)) &&& (nI 63)) (fv_X0_goFrom h (h.1 11 ((((h.1 10 4) + (nI 0)) &&& (nI 63)).toNatClampNeg)) x) rfl (z_in63 _)) (Nat.le_of_ble_eq_true rfl) rfl rfl (Nat.le_of_ble_eq_true rfl) ⟨Nat.zero_le _, Nat.zero_le _⟩ (fun r76 h77 q78 => ?_)
            obtain ⟨rfl, rfl⟩ := q78
            refine z_go hC (pc' := 130) (ls' := [some (.ref 10), some (.int x), some (.int (fv_X0_goFrom h (h.1 11 ((((h.1 10 4) + (nI 0)) &&& (nI 63)).toNatClampNeg)) x)), some (.int (nI 1)), some (.long (h.2 10 7)), none, some (.int (nI 1))]) (st' := [.int (nI 1), .int (((h.1 10 4) - (nI 1)) &&& (nI 63)), .ref 12]) (h' := z_set (z_set h 10 4 (((h.1 10 4) - (nI 1)) &&& (nI 63))) 11 ((((h.1 10 4) - (nI 1)) &&& (nI 63)).toNatClampNeg) (fv_X0_goFrom h (h.1 11 ((((h.1 10 4) + (nI 0)) &&& (nI 63)).toNatClampNeg)) x)) (cs := []) [.aload_n 0, .getfield 15, .aload_n 0, .getfield 41, .iload_n 3] (by decide +kernel) rfl rfl trivial ?_
            refine z_if_eq hC (off := 7) 137 (by decide +kernel) (by decide) (fun c79 => ?_) (fun c79 => ?_)
            · skip
              exact absurd c79 (by decide)
            · skip
              refine z_go hC (pc' := 134) (ls' := [some (.ref 10), some (.int x), some (.int (fv_X0_goFrom h (h.1 11 ((((h.1 10 4) + (nI 0)) &&& (nI 63)).toNatClampNeg)) x)), some (.int (nI 1)), some (.long (h.2 10 7)), none, some (.int (nI 1))]) (st' := [.int (nI 1), .int (((h.1 10 4) - (nI 1)) &&& (nI 63)), .ref 12]) (h' := z_set (z_set h 10 4 (((h.1 10 4) - (nI 1)) &&& (nI 63))) 11 ((((h.1 10 4) - (nI 1)) &&& (nI 63)).toNatClampNeg) (fv_X0_goFrom h (h.1 11 ((((h.1 10 4) + (nI 0)) &&& (nI 63)).toNatClampNeg)) x)) (cs := []) [.iconst 1] (by decide +kernel) rfl rfl trivial ?_
              refine z_goto hC (off := 4) 138 (by decide +kernel) (by decide) ?_
              refine z_go hC (pc' := 140) (ls' := [some (.ref 10), some (.int x), some (.int (fv_X0_goFrom h (h.1 11 ((((h.1 10 4) + (nI 0)) &&& (nI 63)).toNatClampNeg)) x)), some (.int (nI 1)), some (.long (h.2 10 7)), none, some (.int (nI 1))]) (st' := [.int (nI 1), .int (nI 1), .int (((h.1 10 4) - (nI 1)) &&& (nI 63)), .ref 12]) (h' := z_set (z_set h 10 4 (((h.1 10 4) - (nI 1)) &&& (nI 63))) 11 ((((h.1 10 4) - (nI 1)) &&& (nI 63)).toNatClampNeg) (fv_X0_goFrom h (h.1 11 ((((h.1 10 4) + (nI 0)) &&& (nI 63)).toNatClampNeg)) x)) (cs := []) [.iload 6] (by decide +kernel) rfl rfl trivial ?_
              refine z_if_eq hC (off := 7) 147 (by decide +kernel) (by decide) (fun c80 => ?_) (fun c80 => ?_)
              · skip
                exact absurd c80 (by decide)
              · skip
                refine z_go hC (pc' := 144) (ls' := [some (.ref 10), some (.int x), some (.int (fv_X0_goFrom h (h.1 11 ((((h.1 10 4) + (nI 0)) &&& (nI 63)).toNatClampNeg)) x)), some (.int (nI 1)), some (.long (h.2 10 7)), none, some (.int (nI 1))]) (st' := [.int (nI 2), .int (nI 1), .int (((h.1 10 4) - (nI 1)) &&& (nI 63)), .ref 12]) (h' := z_set (z_set h 10 4 (((h.1 10 4) - (nI 1)) &&& (nI 63))) 11 ((((h.1 10 4) - (nI 1)) &&& (nI 63)).toNatClampNeg) (fv_X0_goFrom h (h.1 11 ((((h.1 10 4) + (nI 0)) &&& (nI 63)).toNatClampNeg)) x)) (cs := []) [.iconst 2] (by decide +kernel) rfl rfl trivial ?_
                refine z_goto hC (off := 4) 148 (by decide +kernel) (by decide) ?_
                refine z_go hC (pc' := 149) (ls' := [some (.ref 10), some (.int x), some (.int (fv_X0_goFrom h (h.1 11 ((((h.1 10 4) + (nI 0)) &&& (nI 63)).toNatClampNeg)) x)), some (.int (nI 1)), some (.long (h.2 10 7)), none, some (.int (nI 1))]) (st' := [.int ((nI 1) ||| (nI 2)), .int (((h.1 10 4) - (nI 1)) &&& (nI 63)), .ref 12]) (h' := z_set (z_set h 10 4 (((h.1 10 4) - (nI 1)) &&& (nI 63))) 11 ((((h.1 10 4) - (nI 1)) &&& (nI 63)).toNatClampNeg) (fv_X0_goFrom h (h.1 11 ((((h.1 10 4) + (nI 0)) &&& (nI 63)).toNatClampNeg)) x)) (cs := []) [.ior] (by decide +kernel) rfl rfl trivial ?_
                refine z_callSN hC hN hR (as := [.ref 12, .int (((h.1 10 4) - (nI 1)) &&& (nI 63)), .int ((nI 1) ||| (nI 2))]) (rest := []) ok_X6_56 (by decide +kernel) (sp_X7_putI l _ (z_set (z_set h 10 4 (((h.1 10 4) - (nI 1)) &&& (nI 63))) 11 ((((h.1 10 4) - (nI 1)) &&& (nI 63)).toNatClampNeg) (fv_X0_goFrom h (h.1 11 ((((h.1 10 4) + (nI 0)) &&& (nI 63)).toNatClampNeg)) x)) 12 64 [] (((h.1 10 4) - (nI 1)) &&& (nI 63)) ((nI 1) ||| (nI 2)) rfl (z_in63 _)) (Nat.le_of_ble_eq_true rfl) rfl rfl (Nat.le_of_ble_eq_true rfl) ⟨Nat.zero_le _, Nat.zero_le _⟩ (fun r81 h82 q83 => ?_)
                obtain ⟨rfl, rfl⟩ := q83
                refine z_go hC (pc' := 156) (ls' := [some (.ref 10), some (.int x), some (.int (fv_X0_goFrom h (h.1 11 ((((h.1 10 4) + (nI 0)) &&& (nI 63)).toNatClampNeg)) x)), some (.int (nI 1)), some (.long (h.2 10 7)), none, some (.int (nI 1))]) (st' := [.int (fv_X0_goFrom h (h.1 11 ((((h.1 10 4) + (nI 0)) &&& (nI 63)).toNatClampNeg)) x), .long (h.2 10 7), .ref 10]) (h' := z_set (z_set (z_set h 10 4 (((h.1 10 4) - (nI 1)) &&& (nI 63))) 11 ((((h.1 10 4) - (nI 1)) &&& (nI 63)).toNatClampNeg) (fv_X0_goFrom h (h.1 11 ((((h.1 10 4) + (nI 0)) &&& (nI 63)).toNatClampNeg)) x)) 12 ((((h.1 10 4) - (nI 1)) &&& (nI 63)).toNatClampNeg) ((nI 1) ||| (nI 2))) (cs := []) [.aload_n 0, .lload 4, .iload_n 2] (by decide +kernel) rfl rfl trivial ?_
                refine z_callSN hC hN hR (as := [.int (fv_X0_goFrom h (h.1 11 ((((h.1 10 4) + (nI 0)) &&& (nI 63)).toNatClampNeg)) x)]) (rest := [.long (h.2 10 7), .ref 10]) ok_X6_60 (by decide +kernel) (sp_X7_setOf l _ (z_set (z_set (z_set h 10 4 (((h.1 10 4) - (nI 1)) &&& (nI 63))) 11 ((((h.1 10 4) - (nI 1)) &&& (nI 63)).toNatClampNeg) (fv_X0_goFrom h (h.1 11 ((((h.1 10 4) + (nI 0)) &&& (nI 63)).toNatClampNeg)) x)) 12 ((((h.1 10 4) - (nI 1)) &&& (nI 63)).toNatClampNeg) ((nI 1) ||| (nI 2))) (fv_X0_goFrom h (h.1 11 ((((h.1 10 4) + (nI 0)) &&& (nI 63)).toNatClampNeg)) x)) (Nat.le_of_ble_eq_true rfl) rfl rfl (Nat.le_of_ble_eq_true rfl) ⟨Nat.zero_le _, Nat.zero_le _⟩ (fun r84 h85 q86 => ?_)
                obtain ⟨rfl, rfl⟩ := q86
                refine z_go hC (pc' := 164) (ls' := [some (.ref 10), some (.int x), some (.int (fv_X0_goFrom h (h.1 11 ((((h.1 10 4) + (nI 0)) &&& (nI 63)).toNatClampNeg)) x)), some (.int (nI 1)), some (.long (h.2 10 7)), none, some (.int (nI 1))]) (st' := [.int (nI 1)]) (h' := z_setL (z_set (z_set (z_set h 10 4 (((h.1 10 4) - (nI 1)) &&& (nI 63))) 11 ((((h.1 10 4) - (nI 1)) &&& (nI 63)).toNatClampNeg) (fv_X0_goFrom h (h.1 11 ((((h.1 10 4) + (nI 0)) &&& (nI 63)).toNatClampNeg)) x)) 12 ((((h.1 10 4) - (nI 1)) &&& (nI 63)).toNatClampNeg) ((nI 1) ||| (nI 2))) 10 7 ((h.2 10 7) ||| (fv_X7_setOf (fv_X0_goFrom h (h.1 11 ((((h.1 10 4) + (nI 0)) &&& (nI 63)).toNatClampNeg)) x)))) (cs := []) [.lor, .putfield 48, .iload_n 3] (by decide +kernel) rfl rfl trivial ?_
                refine z_if_eq hC (off := 23) 187 (by decide +kernel) (by decide) (fun c87 => ?_) (fun c87 => ?_)
                · skip
                  exact absurd c87 (by decide)
                · skip
                  refine z_go hC (pc' := 189) (ls' := [some (.ref 10), some (.int x), some (.int (fv_X0_goFrom h (h.1 11 ((((h.1 10 4) + (nI 0)) &&& (nI 63)).toNatClampNeg)) x)), some (.int (nI 1)), some (.long (h.2 10 7)), none, some (.int (nI 1))]) (st' := [.int (nI 1)]) (h' := z_set (z_set (z_setL (z_set (z_set (z_set h 10 4 (((h.1 10 4) - (nI 1)) &&& (nI 63))) 11 ((((h.1 10 4) - (nI 1)) &&& (nI 63)).toNatClampNeg) (fv_X0_goFrom h (h.1 11 ((((h.1 10 4) + (nI 0)) &&& (nI 63)).toNatClampNeg)) x)) 12 ((((h.1 10 4) - (nI 1)) &&& (nI 63)).toNatClampNeg) ((nI 1) ||| (nI 2))) 10 7 ((h.2 10 7) ||| (fv_X7_setOf (fv_X0_goFrom h (h.1 11 ((((h.1 10 4) + (nI 0)) &&& (nI 63)).toNatClampNeg)) x)))) 10 5 ((h.1 10 5) + (nI 1))) 10 6 ((h.1 10 6) - (nI 1))) (cs := []) [.aload_n 0, .dup, .getfield 26, .iconst 1, .iadd, .putfield 26, .aload_n 0, .dup, .getfield 38, .iconst 1, .isub, .putfield 38, .iload 6] (by decide +kernel) rfl rfl trivial ?_
                  refine z_if_eq hC (off := 20) 209 (by decide +kernel) (by decide) (fun c88 => ?_) (fun c88 => ?_)
                  · skip
                    exact absurd c88 (by decide)
                  · skip
                    refine z_go hC (pc' := 196) (ls' := [some (.ref 10), some (.int x), some (.int (fv_X0_goFrom h (h.1 11 ((((h.1 10 4) + (nI 0)) &&& (nI 63)).toNatClampNeg)) x)), some (.int (nI 1)), some (.long (h.2 10 7)), none, some (.int (nI 1))]) (st' := [.ref 8]) (h' := z_set (z_set (z_setL (z_set (z_set (z_set h 10 4 (((h.1 10 4) - (nI 1)) &&& (nI 63))) 11 ((((h.1 10 4) - (nI 1)) &&& (nI 63)).toNatClampNeg) (fv_X0_goFrom h (h.1 11 ((((h.1 10 4) + (nI 0)) &&& (nI 63)).toNatClampNeg)) x)) 12 ((((h.1 10 4) - (nI 1)) &&& (nI 63)).toNatClampNeg) ((nI 1) ||| (nI 2))) 10 7 ((h.2 10 7) ||| (fv_X7_setOf (fv_X0_goFrom h (h.1 11 ((((h.1 10 4) + (nI 0)) &&& (nI 63)).toNatClampNeg)) x)))) 10 5 ((h.1 10 5) + (nI 1))) 10 6 ((h.1 10 6) - (nI 1))) (cs := []) [.aload_n 0, .getfield 22] (by decide +kernel) rfl rfl trivial ?_
                    refine z_callV hC hN hR (as := []) (rest := []) ok_X6_82 (by decide +kernel) (sp_X3_takeFirst l _ (z_set (z_set (z_setL (z_set (z_set (z_set h 10 4 (((h.1 10 4) - (nI 1)) &&& (nI 63))) 11 ((((h.1 10 4) - (nI 1)) &&& (nI 63)).toNatClampNeg) (fv_X0_goFrom h (h.1 11 ((((h.1 10 4) + (nI 0)) &&& (nI 63)).toNatClampNeg)) x)) 12 ((((h.1 10 4) - (nI 1)) &&& (nI 63)).toNatClampNeg) ((nI 1) ||| (nI 2))) 10 7 ((h.2 10 7) ||| (fv_X7_setOf (fv_X0_goFrom h (h.1 11 ((((h.1 10 4) + (nI 0)) &&& (nI 63)).toNatClampNeg)) x)))) 10 5 ((h.1 10 5) + (nI 1))) 10 6 ((h.1 10 6) - (nI 1))) ) rfl rfl (Nat.le_of_ble_eq_true rfl) rfl rfl (Nat.le_of_ble_eq_true rfl) ⟨Nat.zero_le _, Nat.zero_le _⟩ (fun r89 h90 q91 => ?_)
                    obtain ⟨rfl, rfl⟩ := q91
                    refine z_go hC (pc' := 210) (ls' := [some (.ref 10), some (.int x), some (.int (fv_X0_goFrom h (h.1 11 ((((h.1 10 4) + (nI 0)) &&& (nI 63)).toNatClampNeg)) x)), some (.int (nI 1)), some (.long (h.2 10 7)), none, some (.int (nI 1))]) (st' := [.int (nI 1)]) (h' := z_set (z_set (z_set (z_set (z_set (z_setL (z_set (z_set (z_set h 10 4 (((h.1 10 4) - (nI 1)) &&& (nI 63))) 11 ((((h.1 10 4) - (nI 1)) &&& (nI 63)).toNatClampNeg) (fv_X0_goFrom h (h.1 11 ((((h.1 10 4) + (nI 0)) &&& (nI 63)).toNatClampNeg)) x)) 12 ((((h.1 10 4) - (nI 1)) &&& (nI 63)).toNatClampNeg) ((nI 1) ||| (nI 2))) 10 7 ((h.2 10 7) ||| (fv_X7_setOf (fv_X0_goFrom h (h.1 11 ((((h.1 10 4) + (nI 0)) &&& (nI 63)).toNatClampNeg)) x)))) 10 5 ((h.1 10 5) + (nI 1))) 10 6 ((h.1 10 6) - (nI 1))) 8 1 (((h.1 8 1) + (nI 1)) &&& (nI 63))) 8 2 ((h.1 8 2) - (nI 1))) 10 6 (((h.1 10 6) - (nI 1)) + (nI 2))) (cs := []) [.aload_n 0, .dup, .getfield 38, .iconst 2, .iadd, .putfield 38, .iconst 1] (by decide +kernel) rfl rfl trivial ?_
                    exact z_ret_z hB rfl (by decide) (by decide +kernel) ⟨by rw [fv_X6_advance, if_neg c7, if_neg c54, if_pos c58, if_pos c62], by rw [fh_X6_advance, if_neg c7, if_neg c54, if_pos c58, if_pos c62]⟩
        · skip
          refine z_go hC (pc' := 77) (ls' := [some (.ref 10), some (.int x), some (.int (fv_X0_goFrom h (h.1 11 ((((h.1 10 4) + (nI 0)) &&& (nI 63)).toNatClampNeg)) x)), some (.int (nI 1)), some (.long (h.2 10 7)), none, none]) (st' := [.int (nI 0)]) (h' := h) (cs := []) [.iconst 0] (by decide +kernel) rfl rfl trivial ?_
          exact z_ret_z hB rfl (by decide) (by decide +kernel) ⟨by rw [fv_X6_advance, if_neg c7, if_neg c54, if_neg c58], by rw [fh_X6_advance, if_neg c7, if_neg c54, if_neg c58]⟩

def fv_X6_hasJustEaten (h : z_H)  : Int32 := if ((z_atv h 12 64 (h.1 10 4)) &&& (nI 2)) = 0 then nI 0 else nI 1
theorem zb_X6_hasJustEaten (h : z_H)  : fv_X6_hasJustEaten h  = 0 ∨ fv_X6_hasJustEaten h  = 1 := by unfold fv_X6_hasJustEaten; (repeat (first | (exact Or.inl rfl) | (exact Or.inr rfl) | split))
set_option maxHeartbeats 4000000 in
set_option maxRecDepth 100000 in
theorem sp_X6_hasJustEaten (l : Launch) (ext : z_Sh) (h : z_H)   : z_Sp l 1 yX6_hasJustEaten cX6_hasJustEaten 1 (some .boolean) [.ref 10] (z_c ext) h (fun rv h' => rv = some (.int (fv_X6_hasJustEaten h )) ∧ h' = h) := by
  refine z_enter ft_X6 (by decide +kernel) fo_X6 (Nat.le_of_ble_eq_true rfl) ?_
  intro p e R s m args below meth c D dA ad hB
  have hC := hB.1
  have hN := hB.2.1
  have hR := hB.2.2.1
  refine z_go hC (pc' := 8) (ls' := [some (.ref 10)]) (st' := [.int (h.1 10 4), .ref 12]) (h' := h) (cs := []) [.aload_n 0, .getfield 15, .aload_n 0, .getfield 41] (by decide +kernel) rfl rfl trivial ?_
  refine z_callSN hC hN hR (as := [.ref 12, .int (h.1 10 4)]) (rest := []) ok_X6_44 (by decide +kernel) (sp_X7_at l _ h 12 64 [] (h.1 10 4) rfl (by decide)) (Nat.le_of_ble_eq_true rfl) rfl rfl (Nat.le_of_ble_eq_true rfl) ⟨Nat.zero_le _, Nat.zero_le _⟩ (fun r1 h2 q3 => ?_)
  obtain ⟨rfl, rfl⟩ := q3
  refine z_go hC (pc' := 13) (ls' := [some (.ref 10)]) (st' := [.int ((z_atv h 12 64 (h.1 10 4)) &&& (nI 2))]) (h' := h) (cs := []) [.iconst 2, .iand] (by decide +kernel) rfl rfl trivial ?_
  refine z_if_eq hC (off := 7) 20 (by decide +kernel) (by decide) (fun c4 => ?_) (fun c4 => ?_)
  · skip
    refine z_go hC (pc' := 21) (ls' := [some (.ref 10)]) (st' := [.int (nI 0)]) (h' := h) (cs := []) [.iconst 0] (by decide +kernel) rfl rfl trivial ?_
    exact z_ret_z hB rfl (by decide) (by decide +kernel) ⟨by rw [fv_X6_hasJustEaten, if_pos c4], rfl⟩
  · skip
    refine z_go hC (pc' := 17) (ls' := [some (.ref 10)]) (st' := [.int (nI 1)]) (h' := h) (cs := []) [.iconst 1] (by decide +kernel) rfl rfl trivial ?_
    refine z_goto hC (off := 4) 21 (by decide +kernel) (by decide) ?_
    exact z_ret_z hB rfl (by decide) (by decide +kernel) ⟨by rw [fv_X6_hasJustEaten, if_neg c4], rfl⟩

def fh_X6_takeBack (h : z_H)  : z_H := if ((z_atv h 12 64 (h.1 10 4)) &&& (nI 1)) = 0 then if (fv_X6_hasJustEaten h ) = 0 then z_setL (z_set (z_setL h 10 7 ((h.2 10 7) &&& ((fv_X7_setOf (h.1 11 ((((h.1 10 4) + (nI 0)) &&& (nI 63)).toNatClampNeg))) ^^^ (-1)))) 10 4 (((h.1 10 4) + (nI 1)) &&& (nI 63))) 10 7 (((h.2 10 7) &&& ((fv_X7_setOf (h.1 11 ((((h.1 10 4) + (nI 0)) &&& (nI 63)).toNatClampNeg))) ^^^ (-1))) ||| (fv_X7_setOf (h.1 11 ((((((h.1 10 4) + (nI 1)) &&& (nI 63)) + ((h.1 10 5) - (nI 1))) &&& (nI 63)).toNatClampNeg)))) else z_setL (z_set (z_setL (z_set (z_set (z_set h 8 1 (((h.1 8 1) - (nI 1)) &&& (nI 63))) 8 2 ((h.1 8 2) + (nI 1))) 10 6 ((h.1 10 6) - (nI 2))) 10 7 ((h.2 10 7) &&& ((fv_X7_setOf (h.1 11 ((((h.1 10 4) + (nI 0)) &&& (nI 63)).toNatClampNeg))) ^^^ (-1)))) 10 4 (((h.1 10 4) + (nI 1)) &&& (nI 63))) 10 7 (((h.2 10 7) &&& ((fv_X7_setOf (h.1 11 ((((h.1 10 4) + (nI 0)) &&& (nI 63)).toNatClampNeg))) ^^^ (-1))) ||| (fv_X7_setOf (h.1 11 ((((((h.1 10 4) + (nI 1)) &&& (nI 63)) + ((h.1 10 5) - (nI 1))) &&& (nI 63)).toNatClampNeg)))) else if (fv_X6_hasJustEaten h ) = 0 then z_setL (z_set (z_set (z_set (z_setL h 10 7 ((h.2 10 7) &&& ((fv_X7_setOf (h.1 11 ((((h.1 10 4) + (nI 0)) &&& (nI 63)).toNatClampNeg))) ^^^ (-1)))) 10 4 (((h.1 10 4) + (nI 1)) &&& (nI 63))) 10 5 ((h.1 10 5) - (nI 1))) 10 6 ((h.1 10 6) + (nI 1))) 10 7 (((h.2 10 7) &&& ((fv_X7_setOf (h.1 11 ((((h.1 10 4) + (nI 0)) &&& (nI 63)).toNatClampNeg))) ^^^ (-1))) ||| (fv_X7_setOf (h.1 11 ((((((h.1 10 4) + (nI 1)) &&& (nI 63)) + (((h.1 10 5) - (nI 1)) - (nI 1))) &&& (nI 63)).toNatClampNeg)))) else z_setL (z_set (z_set (z_set (z_setL (z_set (z_set (z_set h 8 1 (((h.1 8 1) - (nI 1)) &&& (nI 63))) 8 2 ((h.1 8 2) + (nI 1))) 10 6 ((h.1 10 6) - (nI 2))) 10 7 ((h.2 10 7) &&& ((fv_X7_setOf (h.1 11 ((((h.1 10 4) + (nI 0)) &&& (nI 63)).toNatClampNeg))) ^^^ (-1)))) 10 4 (((h.1 10 4) + (nI 1)) &&& (nI 63))) 10 5 ((h.1 10 5) - (nI 1))) 10 6 (((h.1 10 6) - (nI 2)) + (nI 1))) 10 7 (((h.2 10 7) &&& ((fv_X7_setOf (h.1 11 ((((h.1 10 4) + (nI 0)) &&& (nI 63)).toNatClampNeg))) ^^^ (-1))) ||| (fv_X7_setOf (h.1 11 ((((((h.1 10 4) + (nI 1)) &&& (nI 63)) + (((h.1 10 5) - (nI 1)) - (nI 1))) &&& (nI 63)).toNatClampNeg))))
set_option maxHeartbeats 4000000 in
set_option maxRecDepth 100000 in
theorem sp_X6_takeBack (l : Launch) (ext : z_Sh) (h : z_H)   : z_Sp l 2 yX6_takeBack cX6_takeBack 2 none [.ref 10] (z_c ext) h (fun rv h' => rv = none ∧ h' = fh_X6_takeBack h ) := by
  refine z_enter ft_X6 (by decide +kernel) fo_X6 (Nat.le_of_ble_eq_true rfl) ?_
  intro p e R s m args below meth c D dA ad hB
  have hC := hB.1
  have hN := hB.2.1
  have hR := hB.2.2.1
  refine z_go hC (pc' := 8) (ls' := [some (.ref 10), none]) (st' := [.int (h.1 10 4), .ref 12]) (h' := h) (cs := []) [.aload_n 0, .getfield 15, .aload_n 0, .getfield 41] (by decide +kernel) rfl rfl trivial ?_
  refine z_callSN hC hN hR (as := [.ref 12, .int (h.1 10 4)]) (rest := []) ok_X6_44 (by decide +kernel) (sp_X7_at l _ h 12 64 [] (h.1 10 4) rfl (by decide)) (Nat.le_of_ble_eq_true rfl) rfl rfl (Nat.le_of_ble_eq_true rfl) ⟨Nat.zero_le _, Nat.zero_le _⟩ (fun r1 h2 q3 => ?_)
  obtain ⟨rfl, rfl⟩ := q3
  refine z_go hC (pc' := 13) (ls' := [some (.ref 10), none]) (st' := [.int ((z_atv h 12 64 (h.1 10 4)) &&& (nI 1))]) (h' := h) (cs := []) [.iconst 1, .iand] (by decide +kernel) rfl rfl trivial ?_
  refine z_if_eq hC (off := 7) 20 (by decide +kernel) (by decide) (fun c4 => ?_) (fun c4 => ?_)
  · skip
    refine z_go hC (pc' := 23) (ls' := [some (.ref 10), some (.int (nI 0))]) (st' := [.ref 10]) (h' := h) (cs := []) [.iconst 0, .istore_n 1, .aload_n 0] (by decide +kernel) rfl rfl trivial ?_
    refine z_callV hC hN hR (as := []) (rest := []) ok_X6_85 (by decide +kernel) (sp_X6_hasJustEaten l _ h ) rfl rfl (Nat.le_of_ble_eq_true rfl) rfl rfl (Nat.le_of_ble_eq_true rfl) ⟨Nat.zero_le _, Nat.zero_le _⟩ (fun r5 h6 q7 => ?_)
    obtain ⟨rfl, rfl⟩ := q7
    refine z_if_eq hC (off := 20) 46 (by decide +kernel) (by decide) (fun c8 => ?_) (fun c8 => ?_)
    · skip
      refine z_go hC (pc' := 53) (ls' := [some (.ref 10), some (.int (nI 0))]) (st' := [.int (nI 0), .ref 10, .long (h.2 10 7), .ref 10]) (h' := h) (cs := []) [.aload_n 0, .dup, .getfield 48, .aload_n 0, .iconst 0] (by decide +kernel) rfl rfl trivial ?_
      refine z_callV hC hN hR (as := [.int (nI 0)]) (rest := [.long (h.2 10 7), .ref 10]) ok_X6_64 (by decide +kernel) (sp_X6_cellOf l _ h (nI 0)) rfl rfl (Nat.le_of_ble_eq_true rfl) rfl rfl (Nat.le_of_ble_eq_true rfl) ⟨Nat.zero_le _, Nat.zero_le _⟩ (fun r9 h10 q11 => ?_)
      obtain ⟨rfl, rfl⟩ := q11
      refine z_callSN hC hN hR (as := [.int (h.1 11 ((((h.1 10 4) + (nI 0)) &&& (nI 63)).toNatClampNeg))]) (rest := [.long (h.2 10 7), .ref 10]) ok_X6_60 (by decide +kernel) (sp_X7_setOf l _ h (h.1 11 ((((h.1 10 4) + (nI 0)) &&& (nI 63)).toNatClampNeg))) (Nat.le_of_ble_eq_true rfl) rfl rfl (Nat.le_of_ble_eq_true rfl) ⟨Nat.zero_le _, Nat.zero_le _⟩ (fun r12 h13 q14 => ?_)
      obtain ⟨rfl, rfl⟩ := q14
      refine z_ldc2 hC (v := -1) (by decide +kernel) (by decide +kernel) ?_
      refine z_go hC (pc' := 81) (ls' := [some (.ref 10), some (.int (nI 0))]) (st' := [.int (nI 0)]) (h' := z_set (z_setL h 10 7 ((h.2 10 7) &&& ((fv_X7_setOf (h.1 11 ((((h.1 10 4) + (nI 0)) &&& (nI 63)).toNatClampNeg))) ^^^ (-1)))) 10 4 (((h.1 10 4) + (nI 1)) &&& (nI 63))) (cs := []) [.lxor, .land, .putfield 48, .aload_n 0, .aload_n 0, .getfield 41, .iconst 1, .iadd, .bipush 63, .iand, .putfield 41, .iload_n 1] (by decide +kernel) rfl rfl trivial ?_
      refine z_if_eq hC (off := 23) 104 (by decide +kernel) (by decide) (fun c15 => ?_) (fun c15 => ?_)
      · skip
        refine z_go hC (pc' := 116) (ls' := [some (.ref 10), some (.int (nI 0))]) (st' := [.int ((h.1 10 5) - (nI 1)), .ref 10, .long ((h.2 10 7) &&& ((fv_X7_setOf (h.1 11 ((((h.1 10 4) + (nI 0)) &&& (nI 63)).toNatClampNeg))) ^^^ (-1))), .ref 10]) (h' := z_set (z_setL h 10 7 ((h.2 10 7) &&& ((fv_X7_setOf (h.1 11 ((((h.1 10 4) + (nI 0)) &&& (nI 63)).toNatClampNeg))) ^^^ (-1)))) 10 4 (((h.1 10 4) + (nI 1)) &&& (nI 63))) (cs := []) [.aload_n 0, .dup, .getfield 48, .aload_n 0, .aload_n 0, .getfield 26, .iconst 1, .isub] (by decide +kernel) rfl rfl trivial ?_
        refine z_callV hC hN hR (as := [.int ((h.1 10 5) - (nI 1))]) (rest := [.long ((h.2 10 7) &&& ((fv_X7_setOf (h.1 11 ((((h.1 10 4) + (nI 0)) &&& (nI 63)).toNatClampNeg))) ^^^ (-1))), .ref 10]) ok_X6_64 (by decide +kernel) (sp_X6_cellOf l _ (z_set (z_setL h 10 7 ((h.2 10 7) &&& ((fv_X7_setOf (h.1 11 ((((h.1 10 4) + (nI 0)) &&& (nI 63)).toNatClampNeg))) ^^^ (-1)))) 10 4 (((h.1 10 4) + (nI 1)) &&& (nI 63))) ((h.1 10 5) - (nI 1))) rfl rfl (Nat.le_of_ble_eq_true rfl) rfl rfl (Nat.le_of_ble_eq_true rfl) ⟨Nat.zero_le _, Nat.zero_le _⟩ (fun r16 h17 q18 => ?_)
        obtain ⟨rfl, rfl⟩ := q18
        refine z_callSN hC hN hR (as := [.int (h.1 11 ((((((h.1 10 4) + (nI 1)) &&& (nI 63)) + ((h.1 10 5) - (nI 1))) &&& (nI 63)).toNatClampNeg))]) (rest := [.long ((h.2 10 7) &&& ((fv_X7_setOf (h.1 11 ((((h.1 10 4) + (nI 0)) &&& (nI 63)).toNatClampNeg))) ^^^ (-1))), .ref 10]) ok_X6_60 (by decide +kernel) (sp_X7_setOf l _ (z_set (z_setL h 10 7 ((h.2 10 7) &&& ((fv_X7_setOf (h.1 11 ((((h.1 10 4) + (nI 0)) &&& (nI 63)).toNatClampNeg))) ^^^ (-1)))) 10 4 (((h.1 10 4) + (nI 1)) &&& (nI 63))) (h.1 11 ((((((h.1 10 4) + (nI 1)) &&& (nI 63)) + ((h.1 10 5) - (nI 1))) &&& (nI 63)).toNatClampNeg))) (Nat.le_of_ble_eq_true rfl) rfl rfl (Nat.le_of_ble_eq_true rfl) ⟨Nat.zero_le _, Nat.zero_le _⟩ (fun r19 h20 q21 => ?_)
        obtain ⟨rfl, rfl⟩ := q21
        refine z_go hC (pc' := 126) (ls' := [some (.ref 10), some (.int (nI 0))]) (st' := []) (h' := z_setL (z_set (z_setL h 10 7 ((h.2 10 7) &&& ((fv_X7_setOf (h.1 11 ((((h.1 10 4) + (nI 0)) &&& (nI 63)).toNatClampNeg))) ^^^ (-1)))) 10 4 (((h.1 10 4) + (nI 1)) &&& (nI 63))) 10 7 (((h.2 10 7) &&& ((fv_X7_setOf (h.1 11 ((((h.1 10 4) + (nI 0)) &&& (nI 63)).toNatClampNeg))) ^^^ (-1))) ||| (fv_X7_setOf (h.1 11 ((((((h.1 10 4) + (nI 1)) &&& (nI 63)) + ((h.1 10 5) - (nI 1))) &&& (nI 63)).toNatClampNeg))))) (cs := []) [.lor, .putfield 48] (by decide +kernel) rfl rfl trivial ?_
        exact z_ret_v hB rfl (by decide +kernel) ⟨rfl, by rw [fh_X6_takeBack, if_pos c4, if_pos c8]⟩
      · skip
        exact absurd c15 (by decide)
    · skip
      refine z_go hC (pc' := 33) (ls' := [some (.ref 10), some (.int (nI 0))]) (st' := [.ref 8]) (h' := h) (cs := []) [.aload_n 0, .getfield 22] (by decide +kernel) rfl rfl trivial ?_
      refine z_callV hC hN hR (as := []) (rest := []) ok_X6_88 (by decide +kernel) (sp_X3_putFirstBack l _ h ) rfl rfl (Nat.le_of_ble_eq_true rfl) rfl rfl (Nat.le_of_ble_eq_true rfl) ⟨Nat.zero_le _, Nat.zero_le _⟩ (fun r22 h23 q24 => ?_)
      obtain ⟨rfl, rfl⟩ := q24
      refine z_go hC (pc' := 53) (ls' := [some (.ref 10), some (.int (nI 0))]) (st' := [.int (nI 0), .ref 10, .long (h.2 10 7), .ref 10]) (h' := z_set (z_set (z_set h 8 1 (((h.1 8 1) - (nI 1)) &&& (nI 63))) 8 2 ((h.1 8 2) + (nI 1))) 10 6 ((h.1 10 6) - (nI 2))) (cs := []) [.aload_n 0, .dup, .getfield 38, .iconst 2, .isub, .putfield 38, .aload_n 0, .dup, .getfield 48, .aload_n 0, .iconst 0] (by decide +kernel) rfl rfl trivial ?_
      refine z_callV hC hN hR (as := [.int (nI 0)]) (rest := [.long (h.2 10 7), .ref 10]) ok_X6_64 (by decide +kernel) (sp_X6_cellOf l _ (z_set (z_set (z_set h 8 1 (((h.1 8 1) - (nI 1)) &&& (nI 63))) 8 2 ((h.1 8 2) + (nI 1))) 10 6 ((h.1 10 6) - (nI 2))) (nI 0)) rfl rfl (Nat.le_of_ble_eq_true rfl) rfl rfl (Nat.le_of_ble_eq_true rfl) ⟨Nat.zero_le _, Nat.zero_le _⟩ (fun r25 h26 q27 => ?_)
      obtain ⟨rfl, rfl⟩ := q27
      refine z_callSN hC hN hR (as := [.int (h.1 11 ((((h.1 10 4) + (nI 0)) &&& (nI 63)).toNatClampNeg))]) (rest := [.long (h.2 10 7), .ref 10]) ok_X6_60 (by decide +kernel) (sp_X7_setOf l _ (z_set (z_set (z_set h 8 1 (((h.1 8 1) - (nI 1)) &&& (nI 63))) 8 2 ((h.1 8 2) + (nI 1))) 10 6 ((h.1 10 6) - (nI 2))) (h.1 11 ((((h.1 10 4) + (nI 0)) &&& (nI 63)).toNatClampNeg))) (Nat.le_of_ble_eq_true rfl) rfl rfl (Nat.le_of_ble_eq_true rfl) ⟨Nat.zero_le _, Nat.zero_le _⟩ (fun r28 h29 q30 => ?_)
      obtain ⟨rfl, rfl⟩ := q30
      refine z_ldc2 hC (v := -1) (by decide +kernel) (by decide +kernel) ?_
      refine z_go hC (pc' := 81) (ls' := [some (.ref 10), some (.int (nI 0))]) (st' := [.int (nI 0)]) (h' := z_set (z_setL (z_set (z_set (z_set h 8 1 (((h.1 8 1) - (nI 1)) &&& (nI 63))) 8 2 ((h.1 8 2) + (nI 1))) 10 6 ((h.1 10 6) - (nI 2))) 10 7 ((h.2 10 7) &&& ((fv_X7_setOf (h.1 11 ((((h.1 10 4) + (nI 0)) &&& (nI 63)).toNatClampNeg))) ^^^ (-1)))) 10 4 (((h.1 10 4) + (nI 1)) &&& (nI 63))) (cs := []) [.lxor, .land, .putfield 48, .aload_n 0, .aload_n 0, .getfield 41, .iconst 1, .iadd, .bipush 63, .iand, .putfield 41, .iload_n 1] (by decide +kernel) rfl rfl trivial ?_
      refine z_if_eq hC (off := 23) 104 (by decide +kernel) (by decide) (fun c31 => ?_) (fun c31 => ?_)
      · skip
        refine z_go hC (pc' := 116) (ls' := [some (.ref 10), some (.int (nI 0))]) (st' := [.int ((h.1 10 5) - (nI 1)), .ref 10, .long ((h.2 10 7) &&& ((fv_X7_setOf (h.1 11 ((((h.1 10 4) + (nI 0)) &&& (nI 63)).toNatClampNeg))) ^^^ (-1))), .ref 10]) (h' := z_set (z_setL (z_set (z_set (z_set h 8 1 (((h.1 8 1) - (nI 1)) &&& (nI 63))) 8 2 ((h.1 8 2) + (nI 1))) 10 6 ((h.1 10 6) - (nI 2))) 10 7 ((h.2 10 7) &&& ((fv_X7_setOf (h.1 11 ((((h.1 10 4) + (nI 0)) &&& (nI 63)).toNatClampNeg))) ^^^ (-1)))) 10 4 (((h.1 10 4) + (nI 1)) &&& (nI 63))) (cs := []) [.aload_n 0, .dup, .getfield 48, .aload_n 0, .aload_n 0, .getfield 26, .iconst 1, .isub] (by decide +kernel) rfl rfl trivial ?_
        refine z_callV hC hN hR (as := [.int ((h.1 10 5) - (nI 1))]) (rest := [.long ((h.2 10 7) &&& ((fv_X7_setOf (h.1 11 ((((h.1 10 4) + (nI 0)) &&& (nI 63)).toNatClampNeg))) ^^^ (-1))), .ref 10]) ok_X6_64 (by decide +kernel) (sp_X6_cellOf l _ (z_set (z_setL (z_set (z_set (z_set h 8 1 (((h.1 8 1) - (nI 1)) &&& (nI 63))) 8 2 ((h.1 8 2) + (nI 1))) 10 6 ((h.1 10 6) - (nI 2))) 10 7 ((h.2 10 7) &&& ((fv_X7_setOf (h.1 11 ((((h.1 10 4) + (nI 0)) &&& (nI 63)).toNatClampNeg))) ^^^ (-1)))) 10 4 (((h.1 10 4) + (nI 1)) &&& (nI 63))) ((h.1 10 5) - (nI 1))) rfl rfl (Nat.le_of_ble_eq_true rfl) rfl rfl (Nat.le_of_ble_eq_true rfl) ⟨Nat.zero_le _, Nat.zero_le _⟩ (fun r32 h33 q34 => ?_)
        obtain ⟨rfl, rfl⟩ := q34
        refine z_callSN hC hN hR (as := [.int (h.1 11 ((((((h.1 10 4) + (nI 1)) &&& (nI 63)) + ((h.1 10 5) - (nI 1))) &&& (nI 63)).toNatClampNeg))]) (rest := [.long ((h.2 10 7) &&& ((fv_X7_setOf (h.1 11 ((((h.1 10 4) + (nI 0)) &&& (nI 63)).toNatClampNeg))) ^^^ (-1))), .ref 10]) ok_X6_60 (by decide +kernel) (sp_X7_setOf l _ (z_set (z_setL (z_set (z_set (z_set h 8 1 (((h.1 8 1) - (nI 1)) &&& (nI 63))) 8 2 ((h.1 8 2) + (nI 1))) 10 6 ((h.1 10 6) - (nI 2))) 10 7 ((h.2 10 7) &&& ((fv_X7_setOf (h.1 11 ((((h.1 10 4) + (nI 0)) &&& (nI 63)).toNatClampNeg))) ^^^ (-1)))) 10 4 (((h.1 10 4) + (nI 1)) &&& (nI 63))) (h.1 11 ((((((h.1 10 4) + (nI 1)) &&& (nI 63)) + ((h.1 10 5) - (nI 1))) &&& (nI 63)).toNatClampNeg))) (Nat.le_of_ble_eq_true rfl) rfl rfl (Nat.le_of_ble_eq_true rfl) ⟨Nat.zero_le _, Nat.zero_le _⟩ (fun r35 h36 q37 => ?_)
        obtain ⟨rfl, rfl⟩ := q37
        refine z_go hC (pc' := 126) (ls' := [some (.ref 10), some (.int (nI 0))]) (st' := []) (h' := z_setL (z_set (z_setL (z_set (z_set (z_set h 8 1 (((h.1 8 1) - (nI 1)) &&& (nI 63))) 8 2 ((h.1 8 2) + (nI 1))) 10 6 ((h.1 10 6) - (nI 2))) 10 7 ((h.2 10 7) &&& ((fv_X7_setOf (h.1 11 ((((h.1 10 4) + (nI 0)) &&& (nI 63)).toNatClampNeg))) ^^^ (-1)))) 10 4 (((h.1 10 4) + (nI 1)) &&& (nI 63))) 10 7 (((h.2 10 7) &&& ((fv_X7_setOf (h.1 11 ((((h.1 10 4) + (nI 0)) &&& (nI 63)).toNatClampNeg))) ^^^ (-1))) ||| (fv_X7_setOf (h.1 11 ((((((h.1 10 4) + (nI 1)) &&& (nI 63)) + ((h.1 10 5) - (nI 1))) &&& (nI 63)).toNatClampNeg))))) (cs := []) [.lor, .putfield 48] (by decide +kernel) rfl rfl trivial ?_
        exact z_ret_v hB rfl (by decide +kernel) ⟨rfl, by rw [fh_X6_takeBack, if_pos c4, if_neg c8]⟩
      · skip
        exact absurd c31 (by decide)
  · skip
    refine z_go hC (pc' := 17) (ls' := [some (.ref 10), none]) (st' := [.int (nI 1)]) (h' := h) (cs := []) [.iconst 1] (by decide +kernel) rfl rfl trivial ?_
    refine z_goto hC (off := 4) 21 (by decide +kernel) (by decide) ?_
    refine z_go hC (pc' := 23) (ls' := [some (.ref 10), some (.int (nI 1))]) (st' := [.ref 10]) (h' := h) (cs := []) [.istore_n 1, .aload_n 0] (by decide +kernel) rfl rfl trivial ?_
    refine z_callV hC hN hR (as := []) (rest := []) ok_X6_85 (by decide +kernel) (sp_X6_hasJustEaten l _ h ) rfl rfl (Nat.le_of_ble_eq_true rfl) rfl rfl (Nat.le_of_ble_eq_true rfl) ⟨Nat.zero_le _, Nat.zero_le _⟩ (fun r38 h39 q40 => ?_)
    obtain ⟨rfl, rfl⟩ := q40
    refine z_if_eq hC (off := 20) 46 (by decide +kernel) (by decide) (fun c41 => ?_) (fun c41 => ?_)
    · skip
      refine z_go hC (pc' := 53) (ls' := [some (.ref 10), some (.int (nI 1))]) (st' := [.int (nI 0), .ref 10, .long (h.2 10 7), .ref 10]) (h' := h) (cs := []) [.aload_n 0, .dup, .getfield 48, .aload_n 0, .iconst 0] (by decide +kernel) rfl rfl trivial ?_
      refine z_callV hC hN hR (as := [.int (nI 0)]) (rest := [.long (h.2 10 7), .ref 10]) ok_X6_64 (by decide +kernel) (sp_X6_cellOf l _ h (nI 0)) rfl rfl (Nat.le_of_ble_eq_true rfl) rfl rfl (Nat.le_of_ble_eq_true rfl) ⟨Nat.zero_le _, Nat.zero_le _⟩ (fun r42 h43 q44 => ?_)
      obtain ⟨rfl, rfl⟩ := q44
      refine z_callSN hC hN hR (as := [.int (h.1 11 ((((h.1 10 4) + (nI 0)) &&& (nI 63)).toNatClampNeg))]) (rest := [.long (h.2 10 7), .ref 10]) ok_X6_60 (by decide +kernel) (sp_X7_setOf l _ h (h.1 11 ((((h.1 10 4) + (nI 0)) &&& (nI 63)).toNatClampNeg))) (Nat.le_of_ble_eq_true rfl) rfl rfl (Nat.le_of_ble_eq_true rfl) ⟨Nat.zero_le _, Nat.zero_le _⟩ (fun r45 h46 q47 => ?_)
      obtain ⟨rfl, rfl⟩ := q47
      refine z_ldc2 hC (v := -1) (by decide +kernel) (by decide +kernel) ?_
      refine z_go hC (pc' := 81) (ls' := [some (.ref 10), some (.int (nI 1))]) (st' := [.int (nI 1)]) (h' := z_set (z_setL h 10 7 ((h.2 10 7) &&& ((fv_X7_setOf (h.1 11 ((((h.1 10 4) + (nI 0)) &&& (nI 63)).toNatClampNeg))) ^^^ (-1)))) 10 4 (((h.1 10 4) + (nI 1)) &&& (nI 63))) (cs := []) [.lxor, .land, .putfield 48, .aload_n 0, .aload_n 0, .getfield 41, .iconst 1, .iadd, .bipush 63, .iand, .putfield 41, .iload_n 1] (by decide +kernel) rfl rfl trivial ?_
      refine z_if_eq hC (off := 23) 104 (by decide +kernel) (by decide) (fun c48 => ?_) (fun c48 => ?_)
      · skip
        exact absurd c48 (by decide)
      · skip
        refine z_go hC (pc' := 116) (ls' := [some (.ref 10), some (.int (nI 1))]) (st' := [.int (((h.1 10 5) - (nI 1)) - (nI 1)), .ref 10, .long ((h.2 10 7) &&& ((fv_X7_setOf (h.1 11 ((((h.1 10 4) + (nI 0)) &&& (nI 63)).toNatClampNeg))) ^^^ (-1))), .ref 10]) (h' := z_set (z_set (z_set (z_setL h 10 7 ((h.2 10 7) &&& ((fv_X7_setOf (h.1 11 ((((h.1 10 4) + (nI 0)) &&& (nI 63)).toNatClampNeg))) ^^^ (-1)))) 10 4 (((h.1 10 4) + (nI 1)) &&& (nI 63))) 10 5 ((h.1 10 5) - (nI 1))) 10 6 ((h.1 10 6) + (nI 1))) (cs := []) [.aload_n 0, .dup, .getfield 26, .iconst 1, .isub, .putfield 26, .aload_n 0, .dup, .getfield 38, .iconst 1, .iadd, .putfield 38, .aload_n 0, .dup, .getfield 48, .aload_n 0, .aload_n 0, .getfield 26, .iconst 1, .isub] (by decide +kernel) rfl rfl trivial ?_
        refine z_callV hC hN hR (as := [.int (((h.1 10 5) - (nI 1)) - (nI 1))]) (rest := [.long ((h.2 10 7) &&& ((fv_X7_setOf (h.1 11 ((((h.1 10 4) + (nI 0)) &&& (nI 63)).toNatClampNeg))) ^^^ (-1))), .ref 10]) ok_X6_64 (by decide +kernel) (sp_X6_cellOf l _ (z_set (z_set (z_set (z_setL h 10 7 ((h.2 10 7) &&& ((fv_X7_setOf (h.1 11 ((((h.1 10 4) + (nI 0)) &&& (nI 63)).toNatClampNeg))) ^^^ (-1)))) 10 4 (((h.1 10 4) + (nI 1)) &&& (nI 63))) 10 5 ((h.1 10 5) - (nI 1))) 10 6 ((h.1 10 6) + (nI 1))) (((h.1 10 5) - (nI 1)) - (nI 1))) rfl rfl (Nat.le_of_ble_eq_true rfl) rfl rfl (Nat.le_of_ble_eq_true rfl) ⟨Nat.zero_le _, Nat.zero_le _⟩ (fun r49 h50 q51 => ?_)
        obtain ⟨rfl, rfl⟩ := q51
        refine z_callSN hC hN hR (as := [.int (h.1 11 ((((((h.1 10 4) + (nI 1)) &&& (nI 63)) + (((h.1 10 5) - (nI 1)) - (nI 1))) &&& (nI 63)).toNatClampNeg))]) (rest := [.long ((h.2 10 7) &&& ((fv_X7_setOf (h.1 11 ((((h.1 10 4) + (nI 0)) &&& (nI 63)).toNatClampNeg))) ^^^ (-1))), .ref 10]) ok_X6_60 (by decide +kernel) (sp_X7_setOf l _ (z_set (z_set (z_set (z_setL h 10 7 ((h.2 10 7) &&& ((fv_X7_setOf (h.1 11 ((((h.1 10 4) + (nI 0)) &&& (nI 63)).toNatClampNeg))) ^^^ (-1)))) 10 4 (((h.1 10 4) + (nI 1)) &&& (nI 63))) 10 5 ((h.1 10 5) - (nI 1))) 10 6 ((h.1 10 6) + (nI 1))) (h.1 11 ((((((h.1 10 4) + (nI 1)) &&& (nI 63)) + (((h.1 10 5) - (nI 1)) - (nI 1))) &&& (nI 63)).toNatClampNeg))) (Nat.le_of_ble_eq_true rfl) rfl rfl (Nat.le_of_ble_eq_true rfl) ⟨Nat.zero_le _, Nat.zero_le _⟩ (fun r52 h53 q54 => ?_)
        obtain ⟨rfl, rfl⟩ := q54
        refine z_go hC (pc' := 126) (ls' := [some (.ref 10), some (.int (nI 1))]) (st' := []) (h' := z_setL (z_set (z_set (z_set (z_setL h 10 7 ((h.2 10 7) &&& ((fv_X7_setOf (h.1 11 ((((h.1 10 4) + (nI 0)) &&& (nI 63)).toNatClampNeg))) ^^^ (-1)))) 10 4 (((h.1 10 4) + (nI 1)) &&& (nI 63))) 10 5 ((h.1 10 5) - (nI 1))) 10 6 ((h.1 10 6) + (nI 1))) 10 7 (((h.2 10 7) &&& ((fv_X7_setOf (h.1 11 ((((h.1 10 4) + (nI 0)) &&& (nI 63)).toNatClampNeg))) ^^^ (-1))) ||| (fv_X7_setOf (h.1 11 ((((((h.1 10 4) + (nI 1)) &&& (nI 63)) + (((h.1 10 5) - (nI 1)) - (nI 1))) &&& (nI 63)).toNatClampNeg))))) (cs := []) [.lor, .putfield 48] (by decide +kernel) rfl rfl trivial ?_
        exact z_ret_v hB rfl (by decide +kernel) ⟨rfl, by rw [fh_X6_takeBack, if_neg c4, if_pos c41]⟩
    · skip
      refine z_go hC (pc' := 33) (ls' := [some (.ref 10), some (.int (nI 1))]) (st' := [.ref 8]) (h' := h) (cs := []) [.aload_n 0, .getfield 22] (by decide +kernel) rfl rfl trivial ?_
      refine z_callV hC hN hR (as := []) (rest := []) ok_X6_88 (by decide +kernel) (sp_X3_putFirstBack l _ h ) rfl rfl (Nat.le_of_ble_eq_true rfl) rfl rfl (Nat.le_of_ble_eq_true rfl) ⟨Nat.zero_le _, Nat.zero_le _⟩ (fun r55 h56 q57 => ?_)
      obtain ⟨rfl, rfl⟩ := q57
      refine z_go hC (pc' := 53) (ls' := [some (.ref 10), some (.int (nI 1))]) (st' := [.int (nI 0), .ref 10, .long (h.2 10 7), .ref 10]) (h' := z_set (z_set (z_set h 8 1 (((h.1 8 1) - (nI 1)) &&& (nI 63))) 8 2 ((h.1 8 2) + (nI 1))) 10 6 ((h.1 10 6) - (nI 2))) (cs := []) [.aload_n 0, .dup, .getfield 38, .iconst 2, .isub, .putfield 38, .aload_n 0, .dup, .getfield 48, .aload_n 0, .iconst 0] (by decide +kernel) rfl rfl trivial ?_
      refine z_callV hC hN hR (as := [.int (nI 0)]) (rest := [.long (h.2 10 7), .ref 10]) ok_X6_64 (by decide +kernel) (sp_X6_cellOf l _ (z_set (z_set (z_set h 8 1 (((h.1 8 1) - (nI 1)) &&& (nI 63))) 8 2 ((h.1 8 2) + (nI 1))) 10 6 ((h.1 10 6) - (nI 2))) (nI 0)) rfl rfl (Nat.le_of_ble_eq_true rfl) rfl rfl (Nat.le_of_ble_eq_true rfl) ⟨Nat.zero_le _, Nat.zero_le _⟩ (fun r58 h59 q60 => ?_)
      obtain ⟨rfl, rfl⟩ := q60
      refine z_callSN hC hN hR (as := [.int (h.1 11 ((((h.1 10 4) + (nI 0)) &&& (nI 63)).toNatClampNeg))]) (rest := [.long (h.2 10 7), .ref 10]) ok_X6_60 (by decide +kernel) (sp_X7_setOf l _ (z_set (z_set (z_set h 8 1 (((h.1 8 1) - (nI 1)) &&& (nI 63))) 8 2 ((h.1 8 2) + (nI 1))) 10 6 ((h.1 10 6) - (nI 2))) (h.1 11 ((((h.1 10 4) + (nI 0)) &&& (nI 63)).toNatClampNeg))) (Nat.le_of_ble_eq_true rfl) rfl rfl (Nat.le_of_ble_eq_true rfl) ⟨Nat.zero_le _, Nat.zero_le _⟩ (fun r61 h62 q63 => ?_)
      obtain ⟨rfl, rfl⟩ := q63
      refine z_ldc2 hC (v := -1) (by decide +kernel) (by decide +kernel) ?_
      refine z_go hC (pc' := 81) (ls' := [some (.ref 10), some (.int (nI 1))]) (st' := [.int (nI 1)]) (h' := z_set (z_setL (z_set (z_set (z_set h 8 1 (((h.1 8 1) - (nI 1)) &&& (nI 63))) 8 2 ((h.1 8 2) + (nI 1))) 10 6 ((h.1 10 6) - (nI 2))) 10 7 ((h.2 10 7) &&& ((fv_X7_setOf (h.1 11 ((((h.1 10 4) + (nI 0)) &&& (nI 63)).toNatClampNeg))) ^^^ (-1)))) 10 4 (((h.1 10 4) + (nI 1)) &&& (nI 63))) (cs := []) [.lxor, .land, .putfield 48, .aload_n 0, .aload_n 0, .getfield 41, .iconst 1, .iadd, .bipush 63, .iand, .putfield 41, .iload_n 1] (by decide +kernel) rfl rfl trivial ?_
      refine z_if_eq hC (off := 23) 104 (by decide +kernel) (by decide) (fun c64 => ?_) (fun c64 => ?_)
      · skip
        exact absurd c64 (by decide)
      · skip
        refine z_go hC (pc' := 116) (ls' := [some (.ref 10), some (.int (nI 1))]) (st' := [.int (((h.1 10 5) - (nI 1)) - (nI 1)), .ref 10, .long ((h.2 10 7) &&& ((fv_X7_setOf (h.1 11 ((((h.1 10 4) + (nI 0)) &&& (nI 63)).toNatClampNeg))) ^^^ (-1))), .ref 10]) (h' := z_set (z_set (z_set (z_setL (z_set (z_set (z_set h 8 1 (((h.1 8 1) - (nI 1)) &&& (nI 63))) 8 2 ((h.1 8 2) + (nI 1))) 10 6 ((h.1 10 6) - (nI 2))) 10 7 ((h.2 10 7) &&& ((fv_X7_setOf (h.1 11 ((((h.1 10 4) + (nI 0)) &&& (nI 63)).toNatClampNeg))) ^^^ (-1)))) 10 4 (((h.1 10 4) + (nI 1)) &&& (nI 63))) 10 5 ((h.1 10 5) - (nI 1))) 10 6 (((h.1 10 6) - (nI 2)) + (nI 1))) (cs := []) [.aload_n 0, .dup, .getfield 26, .iconst 1, .isub, .putfield 26, .aload_n 0, .dup, .getfield 38, .iconst 1, .iadd, .putfield 38, .aload_n 0, .dup, .getfield 48, .aload_n 0, .aload_n 0, .getfield 26, .iconst 1, .isub] (by decide +kernel) rfl rfl trivial ?_
        refine z_callV hC hN hR (as := [.int (((h.1 10 5) - (nI 1)) - (nI 1))]) (rest := [.long ((h.2 10 7) &&& ((fv_X7_setOf (h.1 11 ((((h.1 10 4) + (nI 0)) &&& (nI 63)).toNatClampNeg))) ^^^ (-1))), .ref 10]) ok_X6_64 (by decide +kernel) (sp_X6_cellOf l _ (z_set (z_set (z_set (z_setL (z_set (z_set (z_set h 8 1 (((h.1 8 1) - (nI 1)) &&& (nI 63))) 8 2 ((h.1 8 2) + (nI 1))) 10 6 ((h.1 10 6) - (nI 2))) 10 7 ((h.2 10 7) &&& ((fv_X7_setOf (h.1 11 ((((h.1 10 4) + (nI 0)) &&& (nI 63)).toNatClampNeg))) ^^^ (-1)))) 10 4 (((h.1 10 4) + (nI 1)) &&& (nI 63))) 10 5 ((h.1 10 5) - (nI 1))) 10 6 (((h.1 10 6) - (nI 2)) + (nI 1))) (((h.1 10 5) - (nI 1)) - (nI 1))) rfl rfl (Nat.le_of_ble_eq_true rfl) rfl rfl (Nat.le_of_ble_eq_true rfl) ⟨Nat.zero_le _, Nat.zero_le _⟩ (fun r65 h66 q67 => ?_)
        obtain ⟨rfl, rfl⟩ := q67
        refine z_callSN hC hN hR (as := [.int (h.1 11 ((((((h.1 10 4) + (nI 1)) &&& (nI 63)) + (((h.1 10 5) - (nI 1)) - (nI 1))) &&& (nI 63)).toNatClampNeg))]) (rest := [.long ((h.2 10 7) &&& ((fv_X7_setOf (h.1 11 ((((h.1 10 4) + (nI 0)) &&& (nI 63)).toNatClampNeg))) ^^^ (-1))), .ref 10]) ok_X6_60 (by decide +kernel) (sp_X7_setOf l _ (z_set (z_set (z_set (z_setL (z_set (z_set (z_set h 8 1 (((h.1 8 1) - (nI 1)) &&& (nI 63))) 8 2 ((h.1 8 2) + (nI 1))) 10 6 ((h.1 10 6) - (nI 2))) 10 7 ((h.2 10 7) &&& ((fv_X7_setOf (h.1 11 ((((h.1 10 4) + (nI 0)) &&& (nI 63)).toNatClampNeg))) ^^^ (-1)))) 10 4 (((h.1 10 4) + (nI 1)) &&& (nI 63))) 10 5 ((h.1 10 5) - (nI 1))) 10 6 (((h.1 10 6) - (nI 2)) + (nI 1))) (h.1 11 ((((((h.1 10 4) + (nI 1)) &&& (nI 63)) + (((h.1 10 5) - (nI 1)) - (nI 1))) &&& (nI 63)).toNatClampNeg))) (Nat.le_of_ble_eq_true rfl) rfl rfl (Nat.le_of_ble_eq_true rfl) ⟨Nat.zero_le _, Nat.zero_le _⟩ (fun r68 h69 q70 => ?_)
        obtain ⟨rfl, rfl⟩ := q70
        refine z_go hC (pc' := 126) (ls' := [some (.ref 10), some (.int (nI 1))]) (st' := []) (h' := z_setL (z_set (z_set (z_set (z_setL (z_set (z_set (z_set h 8 1 (((h.1 8 1) - (nI 1)) &&& (nI 63))) 8 2 ((h.1 8 2) + (nI 1))) 10 6 ((h.1 10 6) - (nI 2))) 10 7 ((h.2 10 7) &&& ((fv_X7_setOf (h.1 11 ((((h.1 10 4) + (nI 0)) &&& (nI 63)).toNatClampNeg))) ^^^ (-1)))) 10 4 (((h.1 10 4) + (nI 1)) &&& (nI 63))) 10 5 ((h.1 10 5) - (nI 1))) 10 6 (((h.1 10 6) - (nI 2)) + (nI 1))) 10 7 (((h.2 10 7) &&& ((fv_X7_setOf (h.1 11 ((((h.1 10 4) + (nI 0)) &&& (nI 63)).toNatClampNeg))) ^^^ (-1))) ||| (fv_X7_setOf (h.1 11 ((((((h.1 10 4) + (nI 1)) &&& (nI 63)) + (((h.1 10 5) - (nI 1)) - (nI 1))) &&& (nI 63)).toNatClampNeg))))) (cs := []) [.lor, .putfield 48] (by decide +kernel) rfl rfl trivial ?_
        exact z_ret_v hB rfl (by decide +kernel) ⟨rfl, by rw [fh_X6_takeBack, if_neg c4, if_neg c41]⟩
