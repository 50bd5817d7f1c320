/-! ===== printed by wip/whole/gen: methods with loops, as functions ===== -/
def fv_X8_in (x : Int32) (y : Int32) (z : Int32) : Int32 := if x < y then nI 0 else if z < x then nI 0 else nI 1
theorem zb_X8_in (x : Int32) (y : Int32) (z : Int32) : fv_X8_in x y z = 0 ∨ fv_X8_in x y z = 1 := by unfold fv_X8_in; (repeat' split) <;> first | decide
set_option maxHeartbeats 4000000 in
set_option maxRecDepth 100000 in
theorem sp_X8_in (l : Launch) (sh : z_Sh) (h : z_H) (x : Int32) (y : Int32) (z : Int32)  : z_Sp l 0 yX8_in cX8_in 3 (some .boolean) [.int x, .int y, .int z] (sh) h (fun rv h' => rv = some (.int (fv_X8_in x y z)) ∧ h' = h) := by
  refine z_enter ft_X8 (by decide +kernel) fo_X8 (Nat.le_of_ble_eq_true rfl) ?_
  intro p e R s m args below meth c D dA ad hB
  have hC := hB.1
  have hN := hB.2.1
  have hR := hB.2.2.1
  refine z_go hC (pc' := 2) (ls' := [some (.int x), some (.int y), some (.int z)]) (st' := [.int y, .int x]) (h' := h) (cs := []) [.iload_n 0, .iload_n 1] (by decide +kernel) rfl rfl trivial ?_
  refine z_icmp_lt hC (off := 12) 14 (by decide +kernel) (by decide) (fun c1 => ?_) (fun c1 => ?_)
  · skip
    refine z_go hC (pc' := 15) (ls' := [some (.int x), some (.int y), some (.int z)]) (st' := [.int (nI 0)]) (h' := h) (cs := []) [.iconst 0] (by decide +kernel) rfl rfl trivial ?_
    exact z_ret_z hB rfl (by decide) (by decide +kernel) ⟨by rw [fv_X8_in, if_pos c1], rfl⟩
  · skip
    refine z_go hC (pc' := 7) (ls' := [some (.int x), some (.int y), some (.int z)]) (st' := [.int z, .int x]) (h' := h) (cs := []) [.iload_n 0, .iload_n 2] (by decide +kernel) rfl rfl trivial ?_
    refine z_icmp_gt hC (off := 7) 14 (by decide +kernel) (by decide) (fun c2 => ?_) (fun c2 => ?_)
    · skip
      refine z_go hC (pc' := 15) (ls' := [some (.int x), some (.int y), some (.int z)]) (st' := [.int (nI 0)]) (h' := h) (cs := []) [.iconst 0] (by decide +kernel) rfl rfl trivial ?_
      exact z_ret_z hB rfl (by decide) (by decide +kernel) ⟨by rw [fv_X8_in, if_neg c1, if_pos c2], rfl⟩
    · skip
      refine z_go hC (pc' := 11) (ls' := [some (.int x), some (.int y), some (.int z)]) (st' := [.int (nI 1)]) (h' := h) (cs := []) [.iconst 1] (by decide +kernel) rfl rfl trivial ?_
      refine z_goto hC (off := 4) 15 (by decide +kernel) (by decide) ?_
      exact z_ret_z hB rfl (by decide) (by decide +kernel) ⟨by rw [fv_X8_in, if_neg c1, if_neg c2], rfl⟩

def fv_X8_blockOf (x : Int32) : Int32 := ((nI 3) * ((x / (nI 6)) / (nI 2))) + ((x - x / (nI 6) * (nI 6)) / (nI 2))
set_option maxHeartbeats 4000000 in
set_option maxRecDepth 100000 in
theorem sp_X8_blockOf (l : Launch) (sh : z_Sh) (h : z_H) (x : Int32)  : z_Sp l 0 yX8_blockOf cX8_blockOf 1 (some .int) [.int x] (sh) h (fun rv h' => rv = some (.int (fv_X8_blockOf x)) ∧ h' = h) := by
  refine z_enter ft_X8 (by decide +kernel) fo_X8 (Nat.le_of_ble_eq_true rfl) ?_
  intro p e R s m args below meth c D dA ad hB
  have hC := hB.1
  have hN := hB.2.1
  have hR := hB.2.2.1
  refine z_go hC (pc' := 15) (ls' := [some (.int x)]) (st' := [.int (((nI 3) * ((x / (nI 6)) / (nI 2))) + ((x - x / (nI 6) * (nI 6)) / (nI 2)))]) (h' := h) (cs := [¬ (nI 6) = 0, ¬ (nI 2) = 0, ¬ (nI 6) = 0, ¬ (nI 2) = 0]) [.iconst 3, .iload_n 0, .bipush 6, .idiv, .iconst 2, .idiv, .imul, .iload_n 0, .bipush 6, .irem, .iconst 2, .idiv, .iadd] (by decide +kernel) rfl rfl ⟨(show ¬ (nI 6) = 0 by decide), (show ¬ (nI 2) = 0 by decide), (show ¬ (nI 6) = 0 by decide), (show ¬ (nI 2) = 0 by decide)⟩ ?_
  exact z_ret_i hB rfl (by decide +kernel) ⟨by rw [fv_X8_blockOf], rfl⟩

def fv_X8_firstOf (x : Int32) : Int32 := if (nI 6) ≤ x then x - (nI 6) else ((nI 3) * (x / (nI 2))) + (x - x / (nI 2) * (nI 2))
set_option maxHeartbeats 4000000 in
set_option maxRecDepth 100000 in
theorem sp_X8_firstOf (l : Launch) (sh : z_Sh) (h : z_H) (x : Int32)  : z_Sp l 0 yX8_firstOf cX8_firstOf 1 (some .int) [.int x] (sh) h (fun rv h' => rv = some (.int (fv_X8_firstOf x)) ∧ h' = h) := by
  refine z_enter ft_X8 (by decide +kernel) fo_X8 (Nat.le_of_ble_eq_true rfl) ?_
  intro p e R s m args below meth c D dA ad hB
  have hC := hB.1
  have hN := hB.2.1
  have hR := hB.2.2.1
  refine z_go hC (pc' := 3) (ls' := [some (.int x)]) (st' := [.int (nI 6), .int x]) (h' := h) (cs := []) [.iload_n 0, .bipush 6] (by decide +kernel) rfl rfl trivial ?_
  refine z_icmp_ge hC (off := 15) 18 (by decide +kernel) (by decide) (fun c1 => ?_) (fun c1 => ?_)
  · skip
    refine z_go hC (pc' := 22) (ls' := [some (.int x)]) (st' := [.int (x - (nI 6))]) (h' := h) (cs := []) [.iload_n 0, .bipush 6, .isub] (by decide +kernel) rfl rfl trivial ?_
    exact z_ret_i hB rfl (by decide +kernel) ⟨by rw [fv_X8_firstOf, if_pos c1], rfl⟩
  · skip
    refine z_go hC (pc' := 15) (ls' := [some (.int x)]) (st' := [.int (((nI 3) * (x / (nI 2))) + (x - x / (nI 2) * (nI 2)))]) (h' := h) (cs := [¬ (nI 2) = 0, ¬ (nI 2) = 0]) [.iconst 3, .iload_n 0, .iconst 2, .idiv, .imul, .iload_n 0, .iconst 2, .irem, .iadd] (by decide +kernel) rfl rfl ⟨(show ¬ (nI 2) = 0 by decide), (show ¬ (nI 2) = 0 by decide)⟩ ?_
    refine z_goto hC (off := 7) 22 (by decide +kernel) (by decide) ?_
    exact z_ret_i hB rfl (by decide +kernel) ⟨by rw [fv_X8_firstOf, if_neg c1], rfl⟩

def fv_X8_secondOf (x : Int32) : Int32 := if (nI 6) ≤ x then x - (nI 3) else (fv_X8_firstOf x) + (nI 1)
set_option maxHeartbeats 4000000 in
set_option maxRecDepth 100000 in
theorem sp_X8_secondOf (l : Launch) (sh : z_Sh) (h : z_H) (x : Int32)  : z_Sp l 1 yX8_secondOf cX8_secondOf 1 (some .int) [.int x] (sh) h (fun rv h' => rv = some (.int (fv_X8_secondOf x)) ∧ h' = h) := by
  refine z_enter ft_X8 (by decide +kernel) fo_X8 (Nat.le_of_ble_eq_true rfl) ?_
  intro p e R s m args below meth c D dA ad hB
  have hC := hB.1
  have hN := hB.2.1
  have hR := hB.2.2.1
  refine z_go hC (pc' := 3) (ls' := [some (.int x)]) (st' := [.int (nI 6), .int x]) (h' := h) (cs := []) [.iload_n 0, .bipush 6] (by decide +kernel) rfl rfl trivial ?_
  refine z_icmp_ge hC (off := 12) 15 (by decide +kernel) (by decide) (fun c1 => ?_) (fun c1 => ?_)
  · skip
    refine z_go hC (pc' := 18) (ls' := [some (.int x)]) (st' := [.int (x - (nI 3))]) (h' := h) (cs := []) [.iload_n 0, .iconst 3, .isub] (by decide +kernel) rfl rfl trivial ?_
    exact z_ret_i hB rfl (by decide +kernel) ⟨by rw [fv_X8_secondOf, if_pos c1], rfl⟩
  · skip
    refine z_go hC (pc' := 7) (ls' := [some (.int x)]) (st' := [.int x]) (h' := h) (cs := []) [.iload_n 0] (by decide +kernel) rfl rfl trivial ?_
    refine z_callS hC hN hR (as := [.int x]) (rest := []) ok_X8_60 (by decide +kernel) (sp_X8_firstOf l _ h x) (Nat.le_of_ble_eq_true rfl) rfl rfl (Nat.le_of_ble_eq_true rfl) ⟨Nat.zero_le _, Nat.zero_le _⟩ (fun r2 h3 q4 => z_fun q4 ?_)
    refine z_go hC (pc' := 12) (ls' := [some (.int x)]) (st' := [.int ((fv_X8_firstOf x) + (nI 1))]) (h' := h) (cs := []) [.iconst 1, .iadd] (by decide +kernel) rfl rfl trivial ?_
    refine z_goto hC (off := 6) 18 (by decide +kernel) (by decide) ?_
    exact z_ret_i hB rfl (by decide +kernel) ⟨by rw [fv_X8_secondOf, if_neg c1], rfl⟩

def fv_X8_isCell (x : Int32) : Int32 := fv_X8_in x (nI 0) (nI 35)
theorem zb_X8_isCell (x : Int32) : fv_X8_isCell x = 0 ∨ fv_X8_isCell x = 1 := by unfold fv_X8_isCell; (repeat' split) <;> first | decide | exact zb_X8_in _ _ _
set_option maxHeartbeats 4000000 in
set_option maxRecDepth 100000 in
theorem sp_X8_isCell (l : Launch) (sh : z_Sh) (h : z_H) (x : Int32)  : z_Sp l 1 yX8_isCell cX8_isCell 1 (some .boolean) [.int x] (sh) h (fun rv h' => rv = some (.int (fv_X8_isCell x)) ∧ h' = h) := by
  refine z_enter ft_X8 (by decide +kernel) fo_X8 (Nat.le_of_ble_eq_true rfl) ?_
  intro p e R s m args below meth c D dA ad hB
  have hC := hB.1
  have hN := hB.2.1
  have hR := hB.2.2.1
  refine z_go hC (pc' := 4) (ls' := [some (.int x)]) (st' := [.int (nI 35), .int (nI 0), .int x]) (h' := h) (cs := []) [.iload_n 0, .iconst 0, .bipush 35] (by decide +kernel) rfl rfl trivial ?_
  refine z_callS hC hN hR (as := [.int x, .int (nI 0), .int (nI 35)]) (rest := []) ok_X8_87 (by decide +kernel) (sp_X8_in l _ h x (nI 0) (nI 35)) (Nat.le_of_ble_eq_true rfl) rfl rfl (Nat.le_of_ble_eq_true rfl) ⟨Nat.zero_le _, Nat.zero_le _⟩ (fun r1 h2 q3 => z_fun q3 ?_)
  exact z_ret_z hB rfl (zb_X8_in x (nI 0) (nI 35)) (by decide +kernel) ⟨by rw [fv_X8_isCell], rfl⟩

def fv_X8_isDirection (x : Int32) : Int32 := fv_X8_in x (nI 0) (nI 3)
theorem zb_X8_isDirection (x : Int32) : fv_X8_isDirection x = 0 ∨ fv_X8_isDirection x = 1 := by unfold fv_X8_isDirection; (repeat' split) <;> first | decide | exact zb_X8_in _ _ _
set_option maxHeartbeats 4000000 in
set_option maxRecDepth 100000 in
theorem sp_X8_isDirection (l : Launch) (sh : z_Sh) (h : z_H) (x : Int32)  : z_Sp l 1 yX8_isDirection cX8_isDirection 1 (some .boolean) [.int x] (sh) h (fun rv h' => rv = some (.int (fv_X8_isDirection x)) ∧ h' = h) := by
  refine z_enter ft_X8 (by decide +kernel) fo_X8 (Nat.le_of_ble_eq_true rfl) ?_
  intro p e R s m args below meth c D dA ad hB
  have hC := hB.1
  have hN := hB.2.1
  have hR := hB.2.2.1
  refine z_go hC (pc' := 3) (ls' := [some (.int x)]) (st' := [.int (nI 3), .int (nI 0), .int x]) (h' := h) (cs := []) [.iload_n 0, .iconst 0, .iconst 3] (by decide +kernel) rfl rfl trivial ?_
  refine z_callS hC hN hR (as := [.int x, .int (nI 0), .int (nI 3)]) (rest := []) ok_X8_87 (by decide +kernel) (sp_X8_in l _ h x (nI 0) (nI 3)) (Nat.le_of_ble_eq_true rfl) rfl rfl (Nat.le_of_ble_eq_true rfl) ⟨Nat.zero_le _, Nat.zero_le _⟩ (fun r1 h2 q3 => z_fun q3 ?_)
  exact z_ret_z hB rfl (zb_X8_in x (nI 0) (nI 3)) (by decide +kernel) ⟨by rw [fv_X8_isDirection], rfl⟩

def fn_X8_linkOf_59 (h : z_H) (k4 : Int32 → Int32 → Int32 → Int32 → (Option Value)) (a0 : Int32) (a1 : Int32) (a3 : Int32) (s0 : Int32) : (Option Value) := k4 a0 a1 s0 (a3 + (nI 1))
def tk_X8_linkOf_59 (h : z_H) (K4 : Int32 → Int32 → Int32 → Int32 → Prop) (a0 : Int32) (a1 : Int32) (a3 : Int32) (s0 : Int32) : Prop := K4 a0 a1 s0 (a3 + (nI 1))
def fn_X8_linkOf_47 (h : z_H) (k4 : Int32 → Int32 → Int32 → Int32 → (Option Value)) (a0 : Int32) (a1 : Int32) (a2 : Int32) (a3 : Int32) (s0 : Int32) : (Option Value) := if s0 = 0 then fn_X8_linkOf_59 h k4 a0 a1 a3 a2 else fn_X8_linkOf_59 h k4 a0 a1 a3 a3
def tk_X8_linkOf_47 (h : z_H) (K4 : Int32 → Int32 → Int32 → Int32 → Prop) (a0 : Int32) (a1 : Int32) (a2 : Int32) (a3 : Int32) (s0 : Int32) : Prop := ((s0 = 0) → (tk_X8_linkOf_59 h K4 a0 a1 a3 a2)) ∧ ((¬ s0 = 0) → (tk_X8_linkOf_59 h K4 a0 a1 a3 a3))
def fn_X8_linkOf_42 (h : z_H) (k4 : Int32 → Int32 → Int32 → Int32 → (Option Value)) (a0 : Int32) (a1 : Int32) (a2 : Int32) (a3 : Int32) : (Option Value) := fn_X8_linkOf_47 h k4 a0 a1 a2 a3 (nI 1)
def tk_X8_linkOf_42 (h : z_H) (K4 : Int32 → Int32 → Int32 → Int32 → Prop) (a0 : Int32) (a1 : Int32) (a2 : Int32) (a3 : Int32) : Prop := tk_X8_linkOf_47 h K4 a0 a1 a2 a3 (nI 1)
def fn_X8_linkOf_46 (h : z_H) (k4 : Int32 → Int32 → Int32 → Int32 → (Option Value)) (a0 : Int32) (a1 : Int32) (a2 : Int32) (a3 : Int32) : (Option Value) := fn_X8_linkOf_47 h k4 a0 a1 a2 a3 (nI 0)
def tk_X8_linkOf_46 (h : z_H) (K4 : Int32 → Int32 → Int32 → Int32 → Prop) (a0 : Int32) (a1 : Int32) (a2 : Int32) (a3 : Int32) : Prop := tk_X8_linkOf_47 h K4 a0 a1 a2 a3 (nI 0)
def fn_X8_linkOf_26 (h : z_H) (k4 : Int32 → Int32 → Int32 → Int32 → (Option Value)) (a0 : Int32) (a1 : Int32) (a2 : Int32) (a3 : Int32) : (Option Value) := if (fv_X8_firstOf a3) = a1 then if (fv_X8_secondOf a3) = a0 then fn_X8_linkOf_42 h k4 a0 a1 a2 a3 else fn_X8_linkOf_46 h k4 a0 a1 a2 a3 else fn_X8_linkOf_46 h k4 a0 a1 a2 a3
def tk_X8_linkOf_26 (h : z_H) (K4 : Int32 → Int32 → Int32 → Int32 → Prop) (a0 : Int32) (a1 : Int32) (a2 : Int32) (a3 : Int32) : Prop := (((fv_X8_firstOf a3) = a1) → ((((fv_X8_secondOf a3) = a0) → (tk_X8_linkOf_42 h K4 a0 a1 a2 a3)) ∧ ((¬ (fv_X8_secondOf a3) = a0) → (tk_X8_linkOf_46 h K4 a0 a1 a2 a3)))) ∧ ((¬ (fv_X8_firstOf a3) = a1) → (tk_X8_linkOf_46 h K4 a0 a1 a2 a3))
def fn_X8_linkOf_4 (h : z_H)  : Nat → Int32 → Int32 → Int32 → Int32 → (Option Value)
  | 0, _, _, _, _ => none
  | n + 1, a0, a1, a2, a3 => let k4 := fun (a0_ : Int32) (a1_ : Int32) (a2_ : Int32) (a3_ : Int32) => fn_X8_linkOf_4 h  n a0_ a1_ a2_ a3_; if (nI 12) ≤ a3 then some (.int a2) else if (fv_X8_firstOf a3) = a0 then if (fv_X8_secondOf a3) = a1 then fn_X8_linkOf_42 h k4 a0 a1 a2 a3 else fn_X8_linkOf_26 h k4 a0 a1 a2 a3 else fn_X8_linkOf_26 h k4 a0 a1 a2 a3
def tk_X8_linkOf_4 (h : z_H)  : Nat → Int32 → Int32 → Int32 → Int32 → Prop
  | 0, _, _, _, _ => False
  | n + 1, a0, a1, a2, a3 => let K4 := fun (a0_ : Int32) (a1_ : Int32) (a2_ : Int32) (a3_ : Int32) => tk_X8_linkOf_4 h  n a0_ a1_ a2_ a3_; (((nI 12) ≤ a3) → (True)) ∧ ((¬ (nI 12) ≤ a3) → ((((fv_X8_firstOf a3) = a0) → ((((fv_X8_secondOf a3) = a1) → (tk_X8_linkOf_42 h K4 a0 a1 a2 a3)) ∧ ((¬ (fv_X8_secondOf a3) = a1) → (tk_X8_linkOf_26 h K4 a0 a1 a2 a3)))) ∧ ((¬ (fv_X8_firstOf a3) = a0) → (tk_X8_linkOf_26 h K4 a0 a1 a2 a3))))
def fn_X8_linkOf (x : Int32) (y : Int32) (h : z_H) : (Option Value) := fn_X8_linkOf_4 h 2000 x y (-1) (nI 0)
def tk_X8_linkOf (x : Int32) (y : Int32) (h : z_H) : Prop := tk_X8_linkOf_4 h 2000 x y (-1) (nI 0)
set_option maxHeartbeats 4000000 in
set_option maxRecDepth 100000 in
theorem sp_X8_linkOf (l : Launch) (sh : z_Sh)  (h : z_H) (x : Int32) (y : Int32)  (T : tk_X8_linkOf x y h) : z_Sp l 2 yX8_linkOf cX8_linkOf 5 (some .int) [.int x, .int y] (sh) h (z_QI h (fn_X8_linkOf x y h)) := by
  refine z_enter ft_X8 (by decide +kernel) fo_X8 (Nat.le_of_ble_eq_true rfl) ?_
  intro p e R s m args below meth c D dA ad hB
  have hC := hB.1
  have hN := hB.2.1
  have hR := hB.2.2.1
  unfold tk_X8_linkOf at T; have E : (fn_X8_linkOf_4 h 2000 x y (-1) (nI 0)) = fn_X8_linkOf x y h := rfl
  generalize fn_X8_linkOf x y h = RR at E ⊢
  have P59 : ∀ (k4 : Int32 → Int32 → Int32 → Int32 → (Option Value)) (K4 : Int32 → Int32 → Int32 → Int32 → Prop) (hk4 : ∀ (a0 : Int32) (a1 : Int32) (a2 : Int32) (a3 : Int32), K4 a0 a1 a2 a3 → k4 a0 a1 a2 a3 = RR → z_G p l e R s m args below meth c D dA ad 5 (z_QI h RR) (sh) 4 [some (.int a0), some (.int a1), some (.int a2), some (.int a3), none] [] h), ∀ (a0 : Int32) (a1 : Int32) (a3 : Int32) (s0 : Int32), tk_X8_linkOf_59 h K4 a0 a1 a3 s0 → fn_X8_linkOf_59 h k4 a0 a1 a3 s0 = RR → z_G p l e R s m args below meth c D dA ad 5 (z_QI h RR) (sh) 59 [some (.int a0), some (.int a1), none, some (.int a3), none] [.int s0] h := by
    intro k4 K4 hk4 a0 a1 a3 s0 T E
    unfold tk_X8_linkOf_59 at T; unfold fn_X8_linkOf_59 at E
    refine z_go hC (pc' := 63) (ls' := [some (.int a0), some (.int a1), some (.int s0), some (.int (a3 + (nI 1))), none]) (st' := []) (h' := h) (cs := []) [.istore_n 2, .iinc 3 1] (by decide +kernel) rfl rfl trivial ?_
    refine z_goto hC (off := -59) 4 (by decide +kernel) (by decide) ?_
    exact hk4 a0 a1 s0 (a3 + (nI 1)) T E
  have P47 : ∀ (k4 : Int32 → Int32 → Int32 → Int32 → (Option Value)) (K4 : Int32 → Int32 → Int32 → Int32 → Prop) (hk4 : ∀ (a0 : Int32) (a1 : Int32) (a2 : Int32) (a3 : Int32), K4 a0 a1 a2 a3 → k4 a0 a1 a2 a3 = RR → z_G p l e R s m args below meth c D dA ad 5 (z_QI h RR) (sh) 4 [some (.int a0), some (.int a1), some (.int a2), some (.int a3), none] [] h), ∀ (a0 : Int32) (a1 : Int32) (a2 : Int32) (a3 : Int32) (s0 : Int32), tk_X8_linkOf_47 h K4 a0 a1 a2 a3 s0 → fn_X8_linkOf_47 h k4 a0 a1 a2 a3 s0 = RR → z_G p l e R s m args below meth c D dA ad 5 (z_QI h RR) (sh) 47 [some (.int a0), some (.int a1), some (.int a2), some (.int a3), none] [.int s0] h := by
    intro k4 K4 hk4 a0 a1 a2 a3 s0 T E
    unfold tk_X8_linkOf_47 at T; unfold fn_X8_linkOf_47 at E
    refine z_go hC (pc' := 51) (ls' := [some (.int a0), some (.int a1), some (.int a2), some (.int a3), some (.int s0)]) (st' := [.int s0]) (h' := h) (cs := []) [.istore 4, .iload 4] (by decide +kernel) rfl rfl trivial ?_
    refine z_if_eq hC (off := 7) 58 (by decide +kernel) (by decide) (fun c1 => ?_) (fun c1 => ?_)
    · skip
      have E := (if_pos c1).symm.trans E
      have T := T.1 c1
      refine z_go hC (pc' := 59) (ls' := [some (.int a0), some (.int a1), some (.int a2), some (.int a3), some (.int s0)]) (st' := [.int a2]) (h' := h) (cs := []) [.iload_n 2] (by decide +kernel) rfl rfl trivial ?_
      refine z_less (ls' := [some (.int a0), some (.int a1), none, some (.int a3), none]) (by simp [z_sub]) ?_
      exact P59 _ _ hk4 a0 a1 a3 a2 T E
    · skip
      have E := (if_neg c1).symm.trans E
      have T := T.2 c1
      refine z_go hC (pc' := 55) (ls' := [some (.int a0), some (.int a1), some (.int a2), some (.int a3), some (.int s0)]) (st' := [.int a3]) (h' := h) (cs := []) [.iload_n 3] (by decide +kernel) rfl rfl trivial ?_
      refine z_goto hC (off := 4) 59 (by decide +kernel) (by decide) ?_
      refine z_less (ls' := [some (.int a0), some (.int a1), none, some (.int a3), none]) (by simp [z_sub]) ?_
      exact P59 _ _ hk4 a0 a1 a3 a3 T E
  have P42 : ∀ (k4 : Int32 → Int32 → Int32 → Int32 → (Option Value)) (K4 : Int32 → Int32 → Int32 → Int32 → Prop) (hk4 : ∀ (a0 : Int32) (a1 : Int32) (a2 : Int32) (a3 : Int32), K4 a0 a1 a2 a3 → k4 a0 a1 a2 a3 = RR → z_G p l e R s m args below meth c D dA ad 5 (z_QI h RR) (sh) 4 [some (.int a0), some (.int a1), some (.int a2), some (.int a3), none] [] h), ∀ (a0 : Int32) (a1 : Int32) (a2 : Int32) (a3 : Int32), tk_X8_linkOf_42 h K4 a0 a1 a2 a3 → fn_X8_linkOf_42 h k4 a0 a1 a2 a3 = RR → z_G p l e R s m args below meth c D dA ad 5 (z_QI h RR) (sh) 42 [some (.int a0), some (.int a1), some (.int a2), some (.int a3), none] [] h := by
    intro k4 K4 hk4 a0 a1 a2 a3 T E
    unfold tk_X8_linkOf_42 at T; unfold fn_X8_linkOf_42 at E
    refine z_go hC (pc' := 43) (ls' := [some (.int a0), some (.int a1), some (.int a2), some (.int a3), none]) (st' := [.int (nI 1)]) (h' := h) (cs := []) [.iconst 1] (by decide +kernel) rfl rfl trivial ?_
    refine z_goto hC (off := 4) 47 (by decide +kernel) (by decide) ?_
    exact P47 _ _ hk4 a0 a1 a2 a3 (nI 1) T E
  have P46 : ∀ (k4 : Int32 → Int32 → Int32 → Int32 → (Option Value)) (K4 : Int32 → Int32 → Int32 → Int32 → Prop) (hk4 : ∀ (a0 : Int32) (a1 : Int32) (a2 : Int32) (a3 : Int32), K4 a0 a1 a2 a3 → k4 a0 a1 a2 a3 = RR → z_G p l e R s m args below meth c D dA ad 5 (z_QI h RR) (sh) 4 [some (.int a0), some (.int a1), some (.int a2), some (.int a3), none] [] h), ∀ (a0 : Int32) (a1 : Int32) (a2 : Int32) (a3 : Int32), tk_X8_linkOf_46 h K4 a0 a1 a2 a3 → fn_X8_linkOf_46 h k4 a0 a1 a2 a3 = RR → z_G p l e R s m args below meth c D dA ad 5 (z_QI h RR) (sh) 46 [some (.int a0), some (.int a1), some (.int a2), some (.int a3), none] [] h := by
    intro k4 K4 hk4 a0 a1 a2 a3 T E
    unfold tk_X8_linkOf_46 at T; unfold fn_X8_linkOf_46 at E
    refine z_go hC (pc' := 47) (ls' := [some (.int a0), some (.int a1), some (.int a2), some (.int a3), none]) (st' := [.int (nI 0)]) (h' := h) (cs := []) [.iconst 0] (by decide +kernel) rfl rfl trivial ?_
    exact P47 _ _ hk4 a0 a1 a2 a3 (nI 0) T E
  have P26 : ∀ (k4 : Int32 → Int32 → Int32 → Int32 → (Option Value)) (K4 : Int32 → Int32 → Int32 → Int32 → Prop) (hk4 : ∀ (a0 : Int32) (a1 : Int32) (a2 : Int32) (a3 : Int32), K4 a0 a1 a2 a3 → k4 a0 a1 a2 a3 = RR → z_G p l e R s m args below meth c D dA ad 5 (z_QI h RR) (sh) 4 [some (.int a0), some (.int a1), some (.int a2), some (.int a3), none] [] h), ∀ (a0 : Int32) (a1 : Int32) (a2 : Int32) (a3 : Int32), tk_X8_linkOf_26 h K4 a0 a1 a2 a3 → fn_X8_linkOf_26 h k4 a0 a1 a2 a3 = RR → z_G p l e R s m args below meth c D dA ad 5 (z_QI h RR) (sh) 26 [some (.int a0), some (.int a1), some (.int a2), some (.int a3), none] [] h := by
    intro k4 K4 hk4 a0 a1 a2 a3 T E
    unfold tk_X8_linkOf_26 at T; unfold fn_X8_linkOf_26 at E
    refine z_go hC (pc' := 27) (ls' := [some (.int a0), some (.int a1), some (.int a2), some (.int a3), none]) (st' := [.int a3]) (h' := h) (cs := []) [.iload_n 3] (by decide +kernel) rfl rfl trivial ?_
    refine z_callS hC hN hR (as := [.int a3]) (rest := []) ok_X8_60 (by decide +kernel) (sp_X8_firstOf l _ h a3) (Nat.le_of_ble_eq_true rfl) rfl rfl (Nat.le_of_ble_eq_true rfl) ⟨Nat.zero_le _, Nat.zero_le _⟩ (fun r2 h3 q4 => z_fun q4 ?_)
    refine z_go hC (pc' := 31) (ls' := [some (.int a0), some (.int a1), some (.int a2), some (.int a3), none]) (st' := [.int a1, .int (fv_X8_firstOf a3)]) (h' := h) (cs := []) [.iload_n 1] (by decide +kernel) rfl rfl trivial ?_
    refine z_icmp_ne hC (off := 15) 46 (by decide +kernel) (by decide) (fun c5 => ?_) (fun c5 => ?_)
    · skip
      have E := (if_neg c5).symm.trans E
      have T := T.2 c5
      exact P46 _ _ hk4 a0 a1 a2 a3 T E
    · skip
      have E := (if_pos c5).symm.trans E
      have T := T.1 c5
      refine z_go hC (pc' := 35) (ls' := [some (.int a0), some (.int a1), some (.int a2), some (.int a3), none]) (st' := [.int a3]) (h' := h) (cs := []) [.iload_n 3] (by decide +kernel) rfl rfl trivial ?_
      refine z_callS hC hN hR (as := [.int a3]) (rest := []) ok_X8_64 (by decide +kernel) (sp_X8_secondOf l _ h a3) (Nat.le_of_ble_eq_true rfl) rfl rfl (Nat.le_of_ble_eq_true rfl) ⟨Nat.zero_le _, Nat.zero_le _⟩ (fun r6 h7 q8 => z_fun q8 ?_)
      refine z_go hC (pc' := 39) (ls' := [some (.int a0), some (.int a1), some (.int a2), some (.int a3), none]) (st' := [.int a0, .int (fv_X8_secondOf a3)]) (h' := h) (cs := []) [.iload_n 0] (by decide +kernel) rfl rfl trivial ?_
      refine z_icmp_ne hC (off := 7) 46 (by decide +kernel) (by decide) (fun c9 => ?_) (fun c9 => ?_)
      · skip
        have E := (if_neg c9).symm.trans E
        have T := T.2 c9
        exact P46 _ _ hk4 a0 a1 a2 a3 T E
      · skip
        have E := (if_pos c9).symm.trans E
        have T := T.1 c9
        exact P42 _ _ hk4 a0 a1 a2 a3 T E
  have P4 : ∀ (n : Nat), ∀ (a0 : Int32) (a1 : Int32) (a2 : Int32) (a3 : Int32), tk_X8_linkOf_4 h  n a0 a1 a2 a3 → fn_X8_linkOf_4 h  n a0 a1 a2 a3 = RR → z_G p l e R s m args below meth c D dA ad 5 (z_QI h RR) (sh) 4 [some (.int a0), some (.int a1), some (.int a2), some (.int a3), none] [] h := by
    intro  n
    induction n with
    | zero => intro a0 a1 a2 a3 T E; exact False.elim T
    | succ n ih =>
      intro a0 a1 a2 a3 T E
      unfold tk_X8_linkOf_4 at T; unfold fn_X8_linkOf_4 at E; dsimp only at T E
      have hk4 := ih
      refine z_go hC (pc' := 7) (ls' := [some (.int a0), some (.int a1), some (.int a2), some (.int a3), none]) (st' := [.int (nI 12), .int a3]) (h' := h) (cs := []) [.iload_n 3, .bipush 12] (by decide +kernel) rfl rfl trivial ?_
      refine z_icmp_ge hC (off := 59) 66 (by decide +kernel) (by decide) (fun c10 => ?_) (fun c10 => ?_)
      · skip
        have E := (if_pos c10).symm.trans E
        have T := T.1 c10
        refine z_go hC (pc' := 67) (ls' := [some (.int a0), some (.int a1), some (.int a2), some (.int a3), none]) (st' := [.int a2]) (h' := h) (cs := []) [.iload_n 2] (by decide +kernel) rfl rfl trivial ?_
        exact z_ret_i hB rfl (by decide +kernel) (z_lfi0 E)
      · skip
        have E := (if_neg c10).symm.trans E
        have T := T.2 c10
        refine z_go hC (pc' := 11) (ls' := [some (.int a0), some (.int a1), some (.int a2), some (.int a3), none]) (st' := [.int a3]) (h' := h) (cs := []) [.iload_n 3] (by decide +kernel) rfl rfl trivial ?_
        refine z_callS hC hN hR (as := [.int a3]) (rest := []) ok_X8_60 (by decide +kernel) (sp_X8_firstOf l _ h a3) (Nat.le_of_ble_eq_true rfl) rfl rfl (Nat.le_of_ble_eq_true rfl) ⟨Nat.zero_le _, Nat.zero_le _⟩ (fun r11 h12 q13 => z_fun q13 ?_)
        refine z_go hC (pc' := 15) (ls' := [some (.int a0), some (.int a1), some (.int a2), some (.int a3), none]) (st' := [.int a0, .int (fv_X8_firstOf a3)]) (h' := h) (cs := []) [.iload_n 0] (by decide +kernel) rfl rfl trivial ?_
        refine z_icmp_ne hC (off := 11) 26 (by decide +kernel) (by decide) (fun c14 => ?_) (fun c14 => ?_)
        · skip
          have E := (if_neg c14).symm.trans E
          have T := T.2 c14
          exact P26 _ _ hk4 a0 a1 a2 a3 T E
        · skip
          have E := (if_pos c14).symm.trans E
          have T := T.1 c14
          refine z_go hC (pc' := 19) (ls' := [some (.int a0), some (.int a1), some (.int a2), some (.int a3), none]) (st' := [.int a3]) (h' := h) (cs := []) [.iload_n 3] (by decide +kernel) rfl rfl trivial ?_
          refine z_callS hC hN hR (as := [.int a3]) (rest := []) ok_X8_64 (by decide +kernel) (sp_X8_secondOf l _ h a3) (Nat.le_of_ble_eq_true rfl) rfl rfl (Nat.le_of_ble_eq_true rfl) ⟨Nat.zero_le _, Nat.zero_le _⟩ (fun r15 h16 q17 => z_fun q17 ?_)
          refine z_go hC (pc' := 23) (ls' := [some (.int a0), some (.int a1), some (.int a2), some (.int a3), none]) (st' := [.int a1, .int (fv_X8_secondOf a3)]) (h' := h) (cs := []) [.iload_n 1] (by decide +kernel) rfl rfl trivial ?_
          refine z_icmp_eq hC (off := 19) 42 (by decide +kernel) (by decide) (fun c18 => ?_) (fun c18 => ?_)
          · skip
            have E := (if_pos c18).symm.trans E
            have T := T.1 c18
            exact P42 _ _ hk4 a0 a1 a2 a3 T E
          · skip
            have E := (if_neg c18).symm.trans E
            have T := T.2 c18
            exact P26 _ _ hk4 a0 a1 a2 a3 T E
  refine z_go hC (pc' := 4) (ls' := [some (.int x), some (.int y), some (.int (-1)), some (.int (nI 0)), none]) (st' := []) (h' := h) (cs := []) [.iconst (-1), .istore_n 2, .iconst 0, .istore_n 3] (by decide +kernel) rfl rfl trivial ?_
  exact P4 2000 x y (-1) (nI 0) T E

set_option maxHeartbeats 4000000 in
set_option maxRecDepth 100000 in
theorem sp_X8_thrown (l : Launch) (ext : z_Sh) (h : z_H)   : z_Sp l 0 yX8_thrown cX8_thrown 1 (some .int) [.ref 20] (z_m ext) h (fun rv h' => rv = some (.int (h.1 20 0)) ∧ h' = h) := by
  refine z_enter ft_X8 (by decide +kernel) fo_X8 (Nat.le_of_ble_eq_true rfl) ?_
  intro p e R s m args below meth c D dA ad hB
  have hC := hB.1
  have hN := hB.2.1
  have hR := hB.2.2.1
  refine z_go hC (pc' := 4) (ls' := [some (.ref 20)]) (st' := [.int (h.1 20 0)]) (h' := h) (cs := []) [.aload_n 0, .getfield 56] (by decide +kernel) rfl rfl trivial ?_
  exact z_ret_i hB rfl (by decide +kernel) ⟨rfl, rfl⟩

def fv_X8_goesWell (h : z_H) (x : Int32) : Int32 := if x = 0 then nI 1 else nI 0
def fh_X8_goesWell (h : z_H) (x : Int32) : z_H := if x = 0 then z_set h 20 0 x else z_set h 20 0 x
theorem zb_X8_goesWell (h : z_H) (x : Int32) : fv_X8_goesWell h x = 0 ∨ fv_X8_goesWell h x = 1 := by unfold fv_X8_goesWell; (repeat' split) <;> first | decide
set_option maxHeartbeats 4000000 in
set_option maxRecDepth 100000 in
theorem sp_X8_goesWell (l : Launch) (ext : z_Sh) (h : z_H) (x : Int32)  : z_Sp l 0 yX8_goesWell cX8_goesWell 2 (some .boolean) [.ref 20, .int x] (z_m ext) h (fun rv h' => rv = some (.int (fv_X8_goesWell h x)) ∧ h' = fh_X8_goesWell h x) := by
  refine z_enter ft_X8 (by decide +kernel) fo_X8 (Nat.le_of_ble_eq_true rfl) ?_
  intro p e R s m args below meth c D dA ad hB
  have hC := hB.1
  have hN := hB.2.1
  have hR := hB.2.2.1
  refine z_go hC (pc' := 6) (ls' := [some (.ref 20), some (.int x)]) (st' := [.int x]) (h' := z_set h 20 0 x) (cs := []) [.aload_n 0, .iload_n 1, .putfield 56, .iload_n 1] (by decide +kernel) rfl rfl trivial ?_
  refine z_if_ne hC (off := 7) 13 (by decide +kernel) (by decide) (fun c1 => ?_) (fun c1 => ?_)
  · skip
    refine z_go hC (pc' := 14) (ls' := [some (.ref 20), some (.int x)]) (st' := [.int (nI 0)]) (h' := z_set h 20 0 x) (cs := []) [.iconst 0] (by decide +kernel) rfl rfl trivial ?_
    exact z_ret_z hB rfl (by decide) (by decide +kernel) ⟨by rw [fv_X8_goesWell, if_neg c1], by rw [fh_X8_goesWell, if_neg c1]⟩
  · skip
    refine z_go hC (pc' := 10) (ls' := [some (.ref 20), some (.int x)]) (st' := [.int (nI 1)]) (h' := z_set h 20 0 x) (cs := []) [.iconst 1] (by decide +kernel) rfl rfl trivial ?_
    refine z_goto hC (off := 4) 14 (by decide +kernel) (by decide) ?_
    exact z_ret_z hB rfl (by decide) (by decide +kernel) ⟨by rw [fv_X8_goesWell, if_pos c1], by rw [fh_X8_goesWell, if_pos c1]⟩

def fn_X8_isIn (x : Int32) (y : Int32) (h : z_H) : (Option Value) := if (z_vi0 (fn_X8_linkOf x y h)) = (-1) then some (.int (nI 0)) else if (h.1 23 ((z_vi0 (fn_X8_linkOf x y h)).toNatClampNeg)) = 0 then some (.int (nI 0)) else some (.int (nI 1))
def tk_X8_isIn (x : Int32) (y : Int32) (h : z_H) : Prop := tk_X8_linkOf x y h ∧ ((((z_vi0 (fn_X8_linkOf x y h)) = (-1)) → (True)) ∧ ((¬ (z_vi0 (fn_X8_linkOf x y h)) = (-1)) → (vp_in (z_vi0 (fn_X8_linkOf x y h)) 12)))
set_option maxHeartbeats 4000000 in
set_option maxRecDepth 100000 in
theorem sp_X8_isIn (l : Launch) (ext : z_Sh)  (h : z_H) (x : Int32) (y : Int32)  (T : tk_X8_isIn x y h) : z_Sp l 3 yX8_isIn cX8_isIn 4 (some .boolean) [.ref 20, .int x, .int y] (z_m ext) h (z_QB h (fn_X8_isIn x y h)) := by
  refine z_enter ft_X8 (by decide +kernel) fo_X8 (Nat.le_of_ble_eq_true rfl) ?_
  intro p e R s m args below meth c D dA ad hB
  have hC := hB.1
  have hN := hB.2.1
  have hR := hB.2.2.1
  unfold tk_X8_isIn at T; have E : (if (z_vi0 (fn_X8_linkOf x y h)) = (-1) then some (.int (nI 0)) else if (h.1 23 ((z_vi0 (fn_X8_linkOf x y h)).toNatClampNeg)) = 0 then some (.int (nI 0)) else some (.int (nI 1))) = fn_X8_isIn x y h := rfl
  generalize fn_X8_isIn x y h = RR at E ⊢
  refine z_go hC (pc' := 2) (ls' := [some (.ref 20), some (.int x), some (.int y), none]) (st' := [.int y, .int x]) (h' := h) (cs := []) [.iload_n 1, .iload_n 2] (by decide +kernel) rfl rfl trivial ?_
  obtain ⟨t4, T⟩ := T
  refine z_callS hC hN hR (as := [.int x, .int y]) (rest := []) ok_X8_67 (by decide +kernel) (sp_X8_linkOf l _ h x y t4) (Nat.le_of_ble_eq_true rfl) rfl rfl (Nat.le_of_ble_eq_true rfl) ⟨Nat.zero_le _, Nat.zero_le _⟩ (fun r1 h2 q3 => z_fun q3 ?_)
  refine z_go hC (pc' := 8) (ls' := [some (.ref 20), some (.int x), some (.int y), some (.int (z_vi0 (fn_X8_linkOf x y h)))]) (st' := [.int (-1), .int (z_vi0 (fn_X8_linkOf x y h))]) (h' := h) (cs := []) [.istore_n 3, .iload_n 3, .iconst (-1)] (by decide +kernel) rfl rfl trivial ?_
  refine z_icmp_eq hC (off := 16) 24 (by decide +kernel) (by decide) (fun c5 => ?_) (fun c5 => ?_)
  · skip
    have E := (if_pos c5).symm.trans E
    have T := T.1 c5
    refine z_go hC (pc' := 25) (ls' := [some (.ref 20), some (.int x), some (.int y), some (.int (z_vi0 (fn_X8_linkOf x y h)))]) (st' := [.int (nI 0)]) (h' := h) (cs := []) [.iconst 0] (by decide +kernel) rfl rfl trivial ?_
    exact z_ret_z hB rfl (show (nI 0 = 0 ∨ nI 0 = 1) by decide) (by decide +kernel) (z_lfb0 (show (nI 0 = 0 ∨ nI 0 = 1) by decide) E)
  · skip
    have E := (if_neg c5).symm.trans E
    have T := T.2 c5
    have t6 := T
    refine z_go hC (pc' := 17) (ls' := [some (.ref 20), some (.int x), some (.int y), some (.int (z_vi0 (fn_X8_linkOf x y h)))]) (st' := [.int (h.1 23 ((z_vi0 (fn_X8_linkOf x y h)).toNatClampNeg))]) (h' := h) (cs := [vp_in (z_vi0 (fn_X8_linkOf x y h)) 12]) [.aload_n 0, .getfield 17, .iload_n 3, .baload] (by decide +kernel) rfl rfl t6 ?_
    refine z_if_eq hC (off := 7) 24 (by decide +kernel) (by decide) (fun c7 => ?_) (fun c7 => ?_)
    · skip
      have E := (if_pos c7).symm.trans E
      refine z_go hC (pc' := 25) (ls' := [some (.ref 20), some (.int x), some (.int y), some (.int (z_vi0 (fn_X8_linkOf x y h)))]) (st' := [.int (nI 0)]) (h' := h) (cs := []) [.iconst 0] (by decide +kernel) rfl rfl trivial ?_
      exact z_ret_z hB rfl (show (nI 0 = 0 ∨ nI 0 = 1) by decide) (by decide +kernel) (z_lfb0 (show (nI 0 = 0 ∨ nI 0 = 1) by decide) E)
    · skip
      have E := (if_neg c7).symm.trans E
      refine z_go hC (pc' := 21) (ls' := [some (.ref 20), some (.int x), some (.int y), some (.int (z_vi0 (fn_X8_linkOf x y h)))]) (st' := [.int (nI 1)]) (h' := h) (cs := []) [.iconst 1] (by decide +kernel) rfl rfl trivial ?_
      refine z_goto hC (off := 4) 25 (by decide +kernel) (by decide) ?_
      exact z_ret_z hB rfl (show (nI 1 = 0 ∨ nI 1 = 1) by decide) (by decide +kernel) (z_lfb0 (show (nI 1 = 0 ∨ nI 1 = 1) by decide) E)

def fn_X8_layTree_197 (k23 : Int32 → z_H → z_R) (k151 : Int32 → Int32 → Int32 → Int32 → Int32 → z_H → z_R) (a1 : Int32) (a3 : Int32) (a5 : Int32) (a6 : Int32) (a7 : Int32) (s0 : Int32) (s1 : Int32) (h : z_H) : z_R := k151 a1 a3 a5 a6 (a7 + (nI 1)) (z_set h 24 s1.toNatClampNeg s0)
def tk_X8_layTree_197 (K23 : Int32 → z_H → Prop) (K151 : Int32 → Int32 → Int32 → Int32 → Int32 → z_H → Prop) (a1 : Int32) (a3 : Int32) (a5 : Int32) (a6 : Int32) (a7 : Int32) (s0 : Int32) (s1 : Int32) (h : z_H) : Prop := vp_in s1 9 ∧ (K151 a1 a3 a5 a6 (a7 + (nI 1)) (z_set h 24 s1.toNatClampNeg s0))
def fn_X8_layTree_190 (k23 : Int32 → z_H → z_R) (k151 : Int32 → Int32 → Int32 → Int32 → Int32 → z_H → z_R) (a1 : Int32) (a3 : Int32) (a5 : Int32) (a6 : Int32) (a7 : Int32) (s0 : Int32) (h : z_H) : z_R := fn_X8_layTree_197 k23 k151 a1 a3 a5 a6 a7 (h.1 24 a7.toNatClampNeg) s0 h
def tk_X8_layTree_190 (K23 : Int32 → z_H → Prop) (K151 : Int32 → Int32 → Int32 → Int32 → Int32 → z_H → Prop) (a1 : Int32) (a3 : Int32) (a5 : Int32) (a6 : Int32) (a7 : Int32) (s0 : Int32) (h : z_H) : Prop := vp_in a7 9 ∧ (tk_X8_layTree_197 K23 K151 a1 a3 a5 a6 a7 (h.1 24 a7.toNatClampNeg) s0 h)
def fn_X8_layTree_151 (k23 : Int32 → z_H → z_R) : Nat → Int32 → Int32 → Int32 → Int32 → Int32 → z_H → z_R
  | 0, _, _, _, _, _, h => (none, h)
  | n + 1, a1, a3, a5, a6, a7, h => let k151 := fun (a1_ : Int32) (a3_ : Int32) (a5_ : Int32) (a6_ : Int32) (a7_ : Int32) (h_ : z_H) => fn_X8_layTree_151 k23 n a1_ a3_ a5_ a6_ a7_ h_; if (nI 9) ≤ a7 then k23 (a1 + (nI 1)) h else if a5 = 0 then fn_X8_layTree_190 k23 k151 a1 a3 a5 a6 a7 a7 h else if (h.1 24 a7.toNatClampNeg) = a6 then fn_X8_layTree_197 k23 k151 a1 a3 a5 a6 a7 (h.1 24 a3.toNatClampNeg) a7 h else fn_X8_layTree_190 k23 k151 a1 a3 a5 a6 a7 a7 h
def tk_X8_layTree_151 (K23 : Int32 → z_H → Prop) : Nat → Int32 → Int32 → Int32 → Int32 → Int32 → z_H → Prop
  | 0, _, _, _, _, _, _ => False
  | n + 1, a1, a3, a5, a6, a7, h => let K151 := fun (a1_ : Int32) (a3_ : Int32) (a5_ : Int32) (a6_ : Int32) (a7_ : Int32) (h_ : z_H) => tk_X8_layTree_151 K23 n a1_ a3_ a5_ a6_ a7_ h_; (((nI 9) ≤ a7) → (K23 (a1 + (nI 1)) h)) ∧ ((¬ (nI 9) ≤ a7) → (((a5 = 0) → (tk_X8_layTree_190 K23 K151 a1 a3 a5 a6 a7 a7 h)) ∧ ((¬ a5 = 0) → (vp_in a7 9 ∧ ((((h.1 24 a7.toNatClampNeg) = a6) → (vp_in a3 9 ∧ (tk_X8_layTree_197 K23 K151 a1 a3 a5 a6 a7 (h.1 24 a3.toNatClampNeg) a7 h))) ∧ ((¬ (h.1 24 a7.toNatClampNeg) = a6) → (tk_X8_layTree_190 K23 K151 a1 a3 a5 a6 a7 a7 h)))))))
def fn_X8_layTree_139 (k23 : Int32 → z_H → z_R) (a1 : Int32) (a3 : Int32) (a4 : Int32) (a5 : Int32) (h : z_H) : z_R := fn_X8_layTree_151 k23 2000 a1 a3 a5 (h.1 24 a4.toNatClampNeg) (nI 0) h
def tk_X8_layTree_139 (K23 : Int32 → z_H → Prop) (a1 : Int32) (a3 : Int32) (a4 : Int32) (a5 : Int32) (h : z_H) : Prop := vp_in a4 9 ∧ (tk_X8_layTree_151 K23 2000 a1 a3 a5 (h.1 24 a4.toNatClampNeg) (nI 0) h)
def fn_X8_layTree_138 (k23 : Int32 → z_H → z_R) (a1 : Int32) (a3 : Int32) (a4 : Int32) (a5 : Int32) (s0 : Int32) (s1 : Int32) (h : z_H) : z_R := fn_X8_layTree_139 k23 a1 a3 a4 a5 (z_set h 23 s1.toNatClampNeg s0)
def tk_X8_layTree_138 (K23 : Int32 → z_H → Prop) (a1 : Int32) (a3 : Int32) (a4 : Int32) (a5 : Int32) (s0 : Int32) (s1 : Int32) (h : z_H) : Prop := vp_in s1 12 ∧ (s0 = 0 ∨ s0 = 1) ∧ (tk_X8_layTree_139 K23 a1 a3 a4 a5 (z_set h 23 s1.toNatClampNeg s0))
def fn_X8_layTree_137 (k23 : Int32 → z_H → z_R) (a1 : Int32) (a3 : Int32) (a4 : Int32) (a5 : Int32) (s0 : Int32) (h : z_H) : z_R := fn_X8_layTree_138 k23 a1 a3 a4 a5 (nI 0) s0 h
def tk_X8_layTree_137 (K23 : Int32 → z_H → Prop) (a1 : Int32) (a3 : Int32) (a4 : Int32) (a5 : Int32) (s0 : Int32) (h : z_H) : Prop := tk_X8_layTree_138 K23 a1 a3 a4 a5 (nI 0) s0 h
def fn_X8_layTree_107 (k23 : Int32 → z_H → z_R) (a1 : Int32) (a2 : Int32) (a3 : Int32) (a4 : Int32) (a5 : Int32) (h : z_H) : z_R := if a5 = 0 then fn_X8_layTree_137 k23 a1 a3 a4 a5 a2 h else if (h.1 24 a3.toNatClampNeg) = (h.1 24 a4.toNatClampNeg) then fn_X8_layTree_137 k23 a1 a3 a4 a5 a2 h else fn_X8_layTree_138 k23 a1 a3 a4 a5 (nI 1) a2 h
def tk_X8_layTree_107 (K23 : Int32 → z_H → Prop) (a1 : Int32) (a2 : Int32) (a3 : Int32) (a4 : Int32) (a5 : Int32) (h : z_H) : Prop := ((a5 = 0) → (tk_X8_layTree_137 K23 a1 a3 a4 a5 a2 h)) ∧ ((¬ a5 = 0) → (vp_in a3 9 ∧ vp_in a4 9 ∧ ((((h.1 24 a3.toNatClampNeg) = (h.1 24 a4.toNatClampNeg)) → (tk_X8_layTree_137 K23 a1 a3 a4 a5 a2 h)) ∧ ((¬ (h.1 24 a3.toNatClampNeg) = (h.1 24 a4.toNatClampNeg)) → (tk_X8_layTree_138 K23 a1 a3 a4 a5 (nI 1) a2 h)))))
def fn_X8_layTree_82 (k23 : Int32 → z_H → z_R) (a1 : Int32) (a2 : Int32) (a3 : Int32) (a4 : Int32) (s0 : Int32) (h : z_H) : z_R := if (h.1 22 a2.toNatClampNeg) = (-1) then fn_X8_layTree_107 k23 a1 a2 a3 a4 s0 h else if (h.1 22 a2.toNatClampNeg) = (a1 / (nI 12)) then fn_X8_layTree_107 k23 a1 a2 a3 a4 s0 h else fn_X8_layTree_139 k23 a1 a3 a4 s0 h
def tk_X8_layTree_82 (K23 : Int32 → z_H → Prop) (a1 : Int32) (a2 : Int32) (a3 : Int32) (a4 : Int32) (s0 : Int32) (h : z_H) : Prop := vp_in a2 12 ∧ ((((h.1 22 a2.toNatClampNeg) = (-1)) → (tk_X8_layTree_107 K23 a1 a2 a3 a4 s0 h)) ∧ ((¬ (h.1 22 a2.toNatClampNeg) = (-1)) → (vp_in a2 12 ∧ ((((h.1 22 a2.toNatClampNeg) = (a1 / (nI 12))) → (tk_X8_layTree_107 K23 a1 a2 a3 a4 s0 h)) ∧ ((¬ (h.1 22 a2.toNatClampNeg) = (a1 / (nI 12))) → (tk_X8_layTree_139 K23 a1 a3 a4 s0 h))))))
def fn_X8_layTree_81 (k23 : Int32 → z_H → z_R) (a1 : Int32) (a2 : Int32) (a3 : Int32) (a4 : Int32) (h : z_H) : z_R := fn_X8_layTree_82 k23 a1 a2 a3 a4 (nI 0) h
def tk_X8_layTree_81 (K23 : Int32 → z_H → Prop) (a1 : Int32) (a2 : Int32) (a3 : Int32) (a4 : Int32) (h : z_H) : Prop := tk_X8_layTree_82 K23 a1 a2 a3 a4 (nI 0) h
def fn_X8_layTree_23  : Nat → Int32 → z_H → z_R
  | 0, _, h => (none, h)
  | n + 1, a1, h => let k23 := fun (a1_ : Int32) (h_ : z_H) => fn_X8_layTree_23  n a1_ h_; if (nI 120) ≤ a1 then (none, h) else if (h.1 22 ((a1 - a1 / (nI 12) * (nI 12)).toNatClampNeg)) = (a1 / (nI 12)) then if (h.1 21 ((fv_X8_firstOf (a1 - a1 / (nI 12) * (nI 12))).toNatClampNeg)) = 0 then if (h.1 21 ((fv_X8_secondOf (a1 - a1 / (nI 12) * (nI 12))).toNatClampNeg)) = 0 then fn_X8_layTree_82 k23 a1 (a1 - a1 / (nI 12) * (nI 12)) (fv_X8_firstOf (a1 - a1 / (nI 12) * (nI 12))) (fv_X8_secondOf (a1 - a1 / (nI 12) * (nI 12))) (nI 1) h else fn_X8_layTree_81 k23 a1 (a1 - a1 / (nI 12) * (nI 12)) (fv_X8_firstOf (a1 - a1 / (nI 12) * (nI 12))) (fv_X8_secondOf (a1 - a1 / (nI 12) * (nI 12))) h else fn_X8_layTree_81 k23 a1 (a1 - a1 / (nI 12) * (nI 12)) (fv_X8_firstOf (a1 - a1 / (nI 12) * (nI 12))) (fv_X8_secondOf (a1 - a1 / (nI 12) * (nI 12))) h else fn_X8_layTree_81 k23 a1 (a1 - a1 / (nI 12) * (nI 12)) (fv_X8_firstOf (a1 - a1 / (nI 12) * (nI 12))) (fv_X8_secondOf (a1 - a1 / (nI 12) * (nI 12))) h
def tk_X8_layTree_23  : Nat → Int32 → z_H → Prop
  | 0, _, _ => False
  | n + 1, a1, h => let K23 := fun (a1_ : Int32) (h_ : z_H) => tk_X8_layTree_23  n a1_ h_; (((nI 120) ≤ a1) → (True)) ∧ ((¬ (nI 120) ≤ a1) → (vp_in (a1 - a1 / (nI 12) * (nI 12)) 12 ∧ ((((h.1 22 ((a1 - a1 / (nI 12) * (nI 12)).toNatClampNeg)) = (a1 / (nI 12))) → (vp_in (fv_X8_firstOf (a1 - a1 / (nI 12) * (nI 12))) 9 ∧ ((((h.1 21 ((fv_X8_firstOf (a1 - a1 / (nI 12) * (nI 12))).toNatClampNeg)) = 0) → (vp_in (fv_X8_secondOf (a1 - a1 / (nI 12) * (nI 12))) 9 ∧ ((((h.1 21 ((fv_X8_secondOf (a1 - a1 / (nI 12) * (nI 12))).toNatClampNeg)) = 0) → (tk_X8_layTree_82 K23 a1 (a1 - a1 / (nI 12) * (nI 12)) (fv_X8_firstOf (a1 - a1 / (nI 12) * (nI 12))) (fv_X8_secondOf (a1 - a1 / (nI 12) * (nI 12))) (nI 1) h)) ∧ ((¬ (h.1 21 ((fv_X8_secondOf (a1 - a1 / (nI 12) * (nI 12))).toNatClampNeg)) = 0) → (tk_X8_layTree_81 K23 a1 (a1 - a1 / (nI 12) * (nI 12)) (fv_X8_firstOf (a1 - a1 / (nI 12) * (nI 12))) (fv_X8_secondOf (a1 - a1 / (nI 12) * (nI 12))) h))))) ∧ ((¬ (h.1 21 ((fv_X8_firstOf (a1 - a1 / (nI 12) * (nI 12))).toNatClampNeg)) = 0) → (tk_X8_layTree_81 K23 a1 (a1 - a1 / (nI 12) * (nI 12)) (fv_X8_firstOf (a1 - a1 / (nI 12) * (nI 12))) (fv_X8_secondOf (a1 - a1 / (nI 12) * (nI 12))) h))))) ∧ ((¬ (h.1 22 ((a1 - a1 / (nI 12) * (nI 12)).toNatClampNeg)) = (a1 / (nI 12))) → (tk_X8_layTree_81 K23 a1 (a1 - a1 / (nI 12) * (nI 12)) (fv_X8_firstOf (a1 - a1 / (nI 12) * (nI 12))) (fv_X8_secondOf (a1 - a1 / (nI 12) * (nI 12))) h)))))
def fn_X8_layTree_2  : Nat → Int32 → z_H → z_R
  | 0, _, h => (none, h)
  | n + 1, a1, h => let k2 := fun (a1_ : Int32) (h_ : z_H) => fn_X8_layTree_2  n a1_ h_; if (nI 9) ≤ a1 then fn_X8_layTree_23 2000 (nI 0) h else k2 (a1 + (nI 1)) (z_set h 24 a1.toNatClampNeg a1)
def tk_X8_layTree_2  : Nat → Int32 → z_H → Prop
  | 0, _, _ => False
  | n + 1, a1, h => let K2 := fun (a1_ : Int32) (h_ : z_H) => tk_X8_layTree_2  n a1_ h_; (((nI 9) ≤ a1) → (tk_X8_layTree_23 2000 (nI 0) h)) ∧ ((¬ (nI 9) ≤ a1) → (vp_in a1 9 ∧ (K2 (a1 + (nI 1)) (z_set h 24 a1.toNatClampNeg a1))))
def fn_X8_layTree  (h : z_H) : z_R := fn_X8_layTree_2 2000 (nI 0) h
def tk_X8_layTree  (h : z_H) : Prop := tk_X8_layTree_2 2000 (nI 0) h
set_option maxHeartbeats 4000000 in
set_option maxRecDepth 100000 in
theorem sp_X8_layTree (l : Launch) (ext : z_Sh)  (h : z_H)   (T : tk_X8_layTree  h) : z_Sp l 2 yX8_layTree cX8_layTree 8 none [.ref 20] (z_m ext) h (z_PV (fn_X8_layTree  h)) := by
  refine z_enter ft_X8 (by decide +kernel) fo_X8 (Nat.le_of_ble_eq_true rfl) ?_
  intro p e R s m args below meth c D dA ad hB
  have hC := hB.1
  have hN := hB.2.1
  have hR := hB.2.2.1
  unfold tk_X8_layTree at T; have E : (fn_X8_layTree_2 2000 (nI 0) h) = fn_X8_layTree  h := rfl
  generalize fn_X8_layTree  h = RR at E ⊢
  have P197 : ∀ (k23 : Int32 → z_H → z_R) (K23 : Int32 → z_H → Prop) (hk23 : ∀ (a1 : Int32) (h : z_H), K23 a1 h → k23 a1 h = RR → z_G p l e R s m args below meth c D dA ad 8 (z_PV RR) (z_m ext) 23 [some (.ref 20), some (.int a1), none, none, none, none, none, none] [] h), ∀ (k151 : Int32 → Int32 → Int32 → Int32 → Int32 → z_H → z_R) (K151 : Int32 → Int32 → Int32 → Int32 → Int32 → z_H → Prop) (hk151 : ∀ (a1 : Int32) (a3 : Int32) (a5 : Int32) (a6 : Int32) (a7 : Int32) (h : z_H), K151 a1 a3 a5 a6 a7 h → k151 a1 a3 a5 a6 a7 h = RR → z_G p l e R s m args below meth c D dA ad 8 (z_PV RR) (z_m ext) 151 [some (.ref 20), some (.int a1), none, some (.int a3), none, some (.int a5), some (.int a6), some (.int a7)] [] h), ∀ (a1 : Int32) (a3 : Int32) (a5 : Int32) (a6 : Int32) (a7 : Int32) (s0 : Int32) (s1 : Int32) (h : z_H), tk_X8_layTree_197 K23 K151 a1 a3 a5 a6 a7 s0 s1 h → fn_X8_layTree_197 k23 k151 a1 a3 a5 a6 a7 s0 s1 h = RR → z_G p l e R s m args below meth c D dA ad 8 (z_PV RR) (z_m ext) 197 [some (.ref 20), some (.int a1), none, some (.int a3), none, some (.int a5), some (.int a6), some (.int a7)] [.int s0, .int s1, .ref 24] h := by
    intro k23 K23 hk23 k151 K151 hk151 a1 a3 a5 a6 a7 s0 s1 h T E
    unfold tk_X8_layTree_197 at T; unfold fn_X8_layTree_197 at E
    obtain ⟨t1, T⟩ := T
    refine z_go hC (pc' := 201) (ls' := [some (.ref 20), some (.int a1), none, some (.int a3), none, some (.int a5), some (.int a6), some (.int (a7 + (nI 1)))]) (st' := []) (h' := z_set h 24 s1.toNatClampNeg s0) (cs := [vp_in s1 9]) [.iastore, .iinc 7 1] (by decide +kernel) rfl rfl t1 ?_
    refine z_goto hC (off := -50) 151 (by decide +kernel) (by decide) ?_
    exact hk151 a1 a3 a5 a6 (a7 + (nI 1)) (z_set h 24 s1.toNatClampNeg s0) T E
  have P190 : ∀ (k23 : Int32 → z_H → z_R) (K23 : Int32 → z_H → Prop) (hk23 : ∀ (a1 : Int32) (h : z_H), K23 a1 h → k23 a1 h = RR → z_G p l e R s m args below meth c D dA ad 8 (z_PV RR) (z_m ext) 23 [some (.ref 20), some (.int a1), none, none, none, none, none, none] [] h), ∀ (k151 : Int32 → Int32 → Int32 → Int32 → Int32 → z_H → z_R) (K151 : Int32 → Int32 → Int32 → Int32 → Int32 → z_H → Prop) (hk151 : ∀ (a1 : Int32) (a3 : Int32) (a5 : Int32) (a6 : Int32) (a7 : Int32) (h : z_H), K151 a1 a3 a5 a6 a7 h → k151 a1 a3 a5 a6 a7 h = RR → z_G p l e R s m args below meth c D dA ad 8 (z_PV RR) (z_m ext) 151 [some (.ref 20), some (.int a1), none, some (.int a3), none, some (.int a5), some (.int a6), some (.int a7)] [] h), ∀ (a1 : Int32) (a3 : Int32) (a5 : Int32) (a6 : Int32) (a7 : Int32) (s0 : Int32) (h : z_H), tk_X8_layTree_190 K23 K151 a1 a3 a5 a6 a7 s0 h → fn_X8_layTree_190 k23 k151 a1 a3 a5 a6 a7 s0 h = RR → z_G p l e R s m args below meth c D dA ad 8 (z_PV RR) (z_m ext) 190 [some (.ref 20), some (.int a1), none, some (.int a3), none, some (.int a5), some (.int a6), some (.int a7)] [.int s0, .ref 24] h := by
    intro k23 K23 hk23 k151 K151 hk151 a1 a3 a5 a6 a7 s0 h T E
    unfold tk_X8_layTree_190 at T; unfold fn_X8_layTree_190 at E
    obtain ⟨t2, T⟩ := T
    refine z_go hC (pc' := 197) (ls' := [some (.ref 20), some (.int a1), none, some (.int a3), none, some (.int a5), some (.int a6), some (.int a7)]) (st' := [.int (h.1 24 a7.toNatClampNeg), .int s0, .ref 24]) (h' := h) (cs := [vp_in a7 9]) [.aload_n 0, .getfield 20, .iload 7, .iaload] (by decide +kernel) rfl rfl t2 ?_
    exact P197 _ _ hk23 _ _ hk151 a1 a3 a5 a6 a7 (h.1 24 a7.toNatClampNeg) s0 h T E
  have P151 : ∀ (k23 : Int32 → z_H → z_R) (K23 : Int32 → z_H → Prop) (hk23 : ∀ (a1 : Int32) (h : z_H), K23 a1 h → k23 a1 h = RR → z_G p l e R s m args below meth c D dA ad 8 (z_PV RR) (z_m ext) 23 [some (.ref 20), some (.int a1), none, none, none, none, none, none] [] h), ∀ (n : Nat), ∀ (a1 : Int32) (a3 : Int32) (a5 : Int32) (a6 : Int32) (a7 : Int32) (h : z_H), tk_X8_layTree_151 K23 n a1 a3 a5 a6 a7 h → fn_X8_layTree_151 k23 n a1 a3 a5 a6 a7 h = RR → z_G p l e R s m args below meth c D dA ad 8 (z_PV RR) (z_m ext) 151 [some (.ref 20), some (.int a1), none, some (.int a3), none, some (.int a5), some (.int a6), some (.int a7)] [] h := by
    intro k23 K23 hk23 n
    induction n with
    | zero => intro a1 a3 a5 a6 a7 h T E; exact False.elim T
    | succ n ih =>
      intro a1 a3 a5 a6 a7 h T E
      unfold tk_X8_layTree_151 at T; unfold fn_X8_layTree_151 at E; dsimp only at T E
      have hk151 := ih
      refine z_go hC (pc' := 155) (ls' := [some (.ref 20), some (.int a1), none, some (.int a3), none, some (.int a5), some (.int a6), some (.int a7)]) (st' := [.int (nI 9), .int a7]) (h' := h) (cs := []) [.iload 7, .bipush 9] (by decide +kernel) rfl rfl trivial ?_
      refine z_icmp_ge hC (off := 49) 204 (by decide +kernel) (by decide) (fun c3 => ?_) (fun c3 => ?_)
      · skip
        have E := (if_pos c3).symm.trans E
        have T := T.1 c3
        refine z_go hC (pc' := 207) (ls' := [some (.ref 20), some (.int (a1 + (nI 1))), none, some (.int a3), none, some (.int a5), some (.int a6), some (.int a7)]) (st' := []) (h' := h) (cs := []) [.iinc 1 1] (by decide +kernel) rfl rfl trivial ?_
        refine z_goto hC (off := -184) 23 (by decide +kernel) (by decide) ?_
        refine z_less (ls' := [some (.ref 20), some (.int (a1 + (nI 1))), none, none, none, none, none, none]) (by simp [z_sub]) ?_
        exact hk23 (a1 + (nI 1)) h T E
      · skip
        have E := (if_neg c3).symm.trans E
        have T := T.2 c3
        refine z_go hC (pc' := 166) (ls' := [some (.ref 20), some (.int a1), none, some (.int a3), none, some (.int a5), some (.int a6), some (.int a7)]) (st' := [.int a5, .int a7, .ref 24]) (h' := h) (cs := []) [.aload_n 0, .getfield 20, .iload 7, .iload 5] (by decide +kernel) rfl rfl trivial ?_
        refine z_if_eq hC (off := 24) 190 (by decide +kernel) (by decide) (fun c4 => ?_) (fun c4 => ?_)
        · skip
          have E := (if_pos c4).symm.trans E
          have T := T.1 c4
          exact P190 _ _ hk23 _ _ hk151 a1 a3 a5 a6 a7 a7 h T E
        · skip
          have E := (if_neg c4).symm.trans E
          have T := T.2 c4
          obtain ⟨t5, T⟩ := T
          refine z_go hC (pc' := 178) (ls' := [some (.ref 20), some (.int a1), none, some (.int a3), none, some (.int a5), some (.int a6), some (.int a7)]) (st' := [.int a6, .int (h.1 24 a7.toNatClampNeg), .int a7, .ref 24]) (h' := h) (cs := [vp_in a7 9]) [.aload_n 0, .getfield 20, .iload 7, .iaload, .iload 6] (by decide +kernel) rfl rfl t5 ?_
          refine z_icmp_ne hC (off := 12) 190 (by decide +kernel) (by decide) (fun c6 => ?_) (fun c6 => ?_)
          · skip
            have E := (if_neg c6).symm.trans E
            have T := T.2 c6
            exact P190 _ _ hk23 _ _ hk151 a1 a3 a5 a6 a7 a7 h T E
          · skip
            have E := (if_pos c6).symm.trans E
            have T := T.1 c6
            obtain ⟨t7, T⟩ := T
            refine z_go hC (pc' := 187) (ls' := [some (.ref 20), some (.int a1), none, some (.int a3), none, some (.int a5), some (.int a6), some (.int a7)]) (st' := [.int (h.1 24 a3.toNatClampNeg), .int a7, .ref 24]) (h' := h) (cs := [vp_in a3 9]) [.aload_n 0, .getfield 20, .iload_n 3, .iaload] (by decide +kernel) rfl rfl t7 ?_
            refine z_goto hC (off := 10) 197 (by decide +kernel) (by decide) ?_
            exact P197 _ _ hk23 _ _ hk151 a1 a3 a5 a6 a7 (h.1 24 a3.toNatClampNeg) a7 h T E
  have P139 : ∀ (k23 : Int32 → z_H → z_R) (K23 : Int32 → z_H → Prop) (hk23 : ∀ (a1 : Int32) (h : z_H), K23 a1 h → k23 a1 h = RR → z_G p l e R s m args below meth c D dA ad 8 (z_PV RR) (z_m ext) 23 [some (.ref 20), some (.int a1), none, none, none, none, none, none] [] h), ∀ (a1 : Int32) (a3 : Int32) (a4 : Int32) (a5 : Int32) (h : z_H), tk_X8_layTree_139 K23 a1 a3 a4 a5 h → fn_X8_layTree_139 k23 a1 a3 a4 a5 h = RR → z_G p l e R s m args below meth c D dA ad 8 (z_PV RR) (z_m ext) 139 [some (.ref 20), some (.int a1), none, some (.int a3), some (.int a4), some (.int a5), none, none] [] h := by
    intro k23 K23 hk23 a1 a3 a4 a5 h T E
    unfold tk_X8_layTree_139 at T; unfold fn_X8_layTree_139 at E
    obtain ⟨t8, T⟩ := T
    refine z_go hC (pc' := 151) (ls' := [some (.ref 20), some (.int a1), none, some (.int a3), some (.int a4), some (.int a5), some (.int (h.1 24 a4.toNatClampNeg)), some (.int (nI 0))]) (st' := []) (h' := h) (cs := [vp_in a4 9]) [.aload_n 0, .getfield 20, .iload 4, .iaload, .istore 6, .iconst 0, .istore 7] (by decide +kernel) rfl rfl t8 ?_
    refine z_less (ls' := [some (.ref 20), some (.int a1), none, some (.int a3), none, some (.int a5), some (.int (h.1 24 a4.toNatClampNeg)), some (.int (nI 0))]) (by simp [z_sub]) ?_
    exact P151 _ _ hk23 2000 a1 a3 a5 (h.1 24 a4.toNatClampNeg) (nI 0) h T E
  have P138 : ∀ (k23 : Int32 → z_H → z_R) (K23 : Int32 → z_H → Prop) (hk23 : ∀ (a1 : Int32) (h : z_H), K23 a1 h → k23 a1 h = RR → z_G p l e R s m args below meth c D dA ad 8 (z_PV RR) (z_m ext) 23 [some (.ref 20), some (.int a1), none, none, none, none, none, none] [] h), ∀ (a1 : Int32) (a3 : Int32) (a4 : Int32) (a5 : Int32) (s0 : Int32) (s1 : Int32) (h : z_H), tk_X8_layTree_138 K23 a1 a3 a4 a5 s0 s1 h → fn_X8_layTree_138 k23 a1 a3 a4 a5 s0 s1 h = RR → z_G p l e R s m args below meth c D dA ad 8 (z_PV RR) (z_m ext) 138 [some (.ref 20), some (.int a1), none, some (.int a3), some (.int a4), some (.int a5), none, none] [.int s0, .int s1, .ref 23] h := by
    intro k23 K23 hk23 a1 a3 a4 a5 s0 s1 h T E
    unfold tk_X8_layTree_138 at T; unfold fn_X8_layTree_138 at E
    obtain ⟨t9, t10, T⟩ := T
    refine z_go hC (pc' := 139) (ls' := [some (.ref 20), some (.int a1), none, some (.int a3), some (.int a4), some (.int a5), none, none]) (st' := []) (h' := z_set h 23 s1.toNatClampNeg s0) (cs := [vp_in s1 12, (s0 = 0 ∨ s0 = 1)]) [.bastore] (by decide +kernel) rfl rfl ⟨t9, t10⟩ ?_
    exact P139 _ _ hk23 a1 a3 a4 a5 (z_set h 23 s1.toNatClampNeg s0) T E
  have P137 : ∀ (k23 : Int32 → z_H → z_R) (K23 : Int32 → z_H → Prop) (hk23 : ∀ (a1 : Int32) (h : z_H), K23 a1 h → k23 a1 h = RR → z_G p l e R s m args below meth c D dA ad 8 (z_PV RR) (z_m ext) 23 [some (.ref 20), some (.int a1), none, none, none, none, none, none] [] h), ∀ (a1 : Int32) (a3 : Int32) (a4 : Int32) (a5 : Int32) (s0 : Int32) (h : z_H), tk_X8_layTree_137 K23 a1 a3 a4 a5 s0 h → fn_X8_layTree_137 k23 a1 a3 a4 a5 s0 h = RR → z_G p l e R s m args below meth c D dA ad 8 (z_PV RR) (z_m ext) 137 [some (.ref 20), some (.int a1), none, some (.int a3), some (.int a4), some (.int a5), none, none] [.int s0, .ref 23] h := by
    intro k23 K23 hk23 a1 a3 a4 a5 s0 h T E
    unfold tk_X8_layTree_137 at T; unfold fn_X8_layTree_137 at E
    refine z_go hC (pc' := 138) (ls' := [some (.ref 20), some (.int a1), none, some (.int a3), some (.int a4), some (.int a5), none, none]) (st' := [.int (nI 0), .int s0, .ref 23]) (h' := h) (cs := []) [.iconst 0] (by decide +kernel) rfl rfl trivial ?_
    exact P138 _ _ hk23 a1 a3 a4 a5 (nI 0) s0 h T E
  have P107 : ∀ (k23 : Int32 → z_H → z_R) (K23 : Int32 → z_H → Prop) (hk23 : ∀ (a1 : Int32) (h : z_H), K23 a1 h → k23 a1 h = RR → z_G p l e R s m args below meth c D dA ad 8 (z_PV RR) (z_m ext) 23 [some (.ref 20), some (.int a1), none, none, none, none, none, none] [] h), ∀ (a1 : Int32) (a2 : Int32) (a3 : Int32) (a4 : Int32) (a5 : Int32) (h : z_H), tk_X8_layTree_107 K23 a1 a2 a3 a4 a5 h → fn_X8_layTree_107 k23 a1 a2 a3 a4 a5 h = RR → z_G p l e R s m args below meth c D dA ad 8 (z_PV RR) (z_m ext) 107 [some (.ref 20), some (.int a1), some (.int a2), some (.int a3), some (.int a4), some (.int a5), none, none] [] h := by
    intro k23 K23 hk23 a1 a2 a3 a4 a5 h T E
    unfold tk_X8_layTree_107 at T; unfold fn_X8_layTree_107 at E
    refine z_go hC (pc' := 114) (ls' := [some (.ref 20), some (.int a1), some (.int a2), some (.int a3), some (.int a4), some (.int a5), none, none]) (st' := [.int a5, .int a2, .ref 23]) (h' := h) (cs := []) [.aload_n 0, .getfield 17, .iload_n 2, .iload 5] (by decide +kernel) rfl rfl trivial ?_
    refine z_if_eq hC (off := 23) 137 (by decide +kernel) (by decide) (fun c11 => ?_) (fun c11 => ?_)
    · skip
      have E := (if_pos c11).symm.trans E
      have T := T.1 c11
      refine z_less (ls' := [some (.ref 20), some (.int a1), none, some (.int a3), some (.int a4), some (.int a5), none, none]) (by simp [z_sub]) ?_
      exact P137 _ _ hk23 a1 a3 a4 a5 a2 h T E
    · skip
      have E := (if_neg c11).symm.trans E
      have T := T.2 c11
      obtain ⟨t12, t13, T⟩ := T
      refine z_go hC (pc' := 130) (ls' := [some (.ref 20), some (.int a1), some (.int a2), some (.int a3), some (.int a4), some (.int a5), none, none]) (st' := [.int (h.1 24 a4.toNatClampNeg), .int (h.1 24 a3.toNatClampNeg), .int a2, .ref 23]) (h' := h) (cs := [vp_in a3 9, vp_in a4 9]) [.aload_n 0, .getfield 20, .iload_n 3, .iaload, .aload_n 0, .getfield 20, .iload 4, .iaload] (by decide +kernel) rfl rfl ⟨t12, t13⟩ ?_
      refine z_icmp_eq hC (off := 7) 137 (by decide +kernel) (by decide) (fun c14 => ?_) (fun c14 => ?_)
      · skip
        have E := (if_pos c14).symm.trans E
        have T := T.1 c14
        refine z_less (ls' := [some (.ref 20), some (.int a1), none, some (.int a3), some (.int a4), some (.int a5), none, none]) (by simp [z_sub]) ?_
        exact P137 _ _ hk23 a1 a3 a4 a5 a2 h T E
      · skip
        have E := (if_neg c14).symm.trans E
        have T := T.2 c14
        refine z_go hC (pc' := 134) (ls' := [some (.ref 20), some (.int a1), some (.int a2), some (.int a3), some (.int a4), some (.int a5), none, none]) (st' := [.int (nI 1), .int a2, .ref 23]) (h' := h) (cs := []) [.iconst 1] (by decide +kernel) rfl rfl trivial ?_
        refine z_goto hC (off := 4) 138 (by decide +kernel) (by decide) ?_
        refine z_less (ls' := [some (.ref 20), some (.int a1), none, some (.int a3), some (.int a4), some (.int a5), none, none]) (by simp [z_sub]) ?_
        exact P138 _ _ hk23 a1 a3 a4 a5 (nI 1) a2 h T E
  have P82 : ∀ (k23 : Int32 → z_H → z_R) (K23 : Int32 → z_H → Prop) (hk23 : ∀ (a1 : Int32) (h : z_H), K23 a1 h → k23 a1 h = RR → z_G p l e R s m args below meth c D dA ad 8 (z_PV RR) (z_m ext) 23 [some (.ref 20), some (.int a1), none, none, none, none, none, none] [] h), ∀ (a1 : Int32) (a2 : Int32) (a3 : Int32) (a4 : Int32) (s0 : Int32) (h : z_H), tk_X8_layTree_82 K23 a1 a2 a3 a4 s0 h → fn_X8_layTree_82 k23 a1 a2 a3 a4 s0 h = RR → z_G p l e R s m args below meth c D dA ad 8 (z_PV RR) (z_m ext) 82 [some (.ref 20), some (.int a1), some (.int a2), some (.int a3), some (.int a4), none, none, none] [.int s0] h := by
    intro k23 K23 hk23 a1 a2 a3 a4 s0 h T E
    unfold tk_X8_layTree_82 at T; unfold fn_X8_layTree_82 at E
    obtain ⟨t15, T⟩ := T
    refine z_go hC (pc' := 91) (ls' := [some (.ref 20), some (.int a1), some (.int a2), some (.int a3), some (.int a4), some (.int s0), none, none]) (st' := [.int (-1), .int (h.1 22 a2.toNatClampNeg)]) (h' := h) (cs := [vp_in a2 12]) [.istore 5, .aload_n 0, .getfield 13, .iload_n 2, .iaload, .iconst (-1)] (by decide +kernel) rfl rfl t15 ?_
    refine z_icmp_eq hC (off := 16) 107 (by decide +kernel) (by decide) (fun c16 => ?_) (fun c16 => ?_)
    · skip
      have E := (if_pos c16).symm.trans E
      have T := T.1 c16
      exact P107 _ _ hk23 a1 a2 a3 a4 s0 h T E
    · skip
      have E := (if_neg c16).symm.trans E
      have T := T.2 c16
      obtain ⟨t17, T⟩ := T
      refine z_go hC (pc' := 104) (ls' := [some (.ref 20), some (.int a1), some (.int a2), some (.int a3), some (.int a4), some (.int s0), none, none]) (st' := [.int (a1 / (nI 12)), .int (h.1 22 a2.toNatClampNeg)]) (h' := h) (cs := [vp_in a2 12, ¬ (nI 12) = 0]) [.aload_n 0, .getfield 13, .iload_n 2, .iaload, .iload_n 1, .bipush 12, .idiv] (by decide +kernel) rfl rfl ⟨t17, (show ¬ (nI 12) = 0 by decide)⟩ ?_
      refine z_icmp_ne hC (off := 35) 139 (by decide +kernel) (by decide) (fun c18 => ?_) (fun c18 => ?_)
      · skip
        have E := (if_neg c18).symm.trans E
        have T := T.2 c18
        refine z_less (ls' := [some (.ref 20), some (.int a1), none, some (.int a3), some (.int a4), some (.int s0), none, none]) (by simp [z_sub]) ?_
        exact P139 _ _ hk23 a1 a3 a4 s0 h T E
      · skip
        have E := (if_pos c18).symm.trans E
        have T := T.1 c18
        exact P107 _ _ hk23 a1 a2 a3 a4 s0 h T E
  have P81 : ∀ (k23 : Int32 → z_H → z_R) (K23 : Int32 → z_H → Prop) (hk23 : ∀ (a1 : Int32) (h : z_H), K23 a1 h → k23 a1 h = RR → z_G p l e R s m args below meth c D dA ad 8 (z_PV RR) (z_m ext) 23 [some (.ref 20), some (.int a1), none, none, none, none, none, none] [] h), ∀ (a1 : Int32) (a2 : Int32) (a3 : Int32) (a4 : Int32) (h : z_H), tk_X8_layTree_81 K23 a1 a2 a3 a4 h → fn_X8_layTree_81 k23 a1 a2 a3 a4 h = RR → z_G p l e R s m args below meth c D dA ad 8 (z_PV RR) (z_m ext) 81 [some (.ref 20), some (.int a1), some (.int a2), some (.int a3), some (.int a4), none, none, none] [] h := by
    intro k23 K23 hk23 a1 a2 a3 a4 h T E
    unfold tk_X8_layTree_81 at T; unfold fn_X8_layTree_81 at E
    refine z_go hC (pc' := 82) (ls' := [some (.ref 20), some (.int a1), some (.int a2), some (.int a3), some (.int a4), none, none, none]) (st' := [.int (nI 0)]) (h' := h) (cs := []) [.iconst 0] (by decide +kernel) rfl rfl trivial ?_
    exact P82 _ _ hk23 a1 a2 a3 a4 (nI 0) h T E
  have P23 : ∀ (n : Nat), ∀ (a1 : Int32) (h : z_H), tk_X8_layTree_23  n a1 h → fn_X8_layTree_23  n a1 h = RR → z_G p l e R s m args below meth c D dA ad 8 (z_PV RR) (z_m ext) 23 [some (.ref 20), some (.int a1), none, none, none, none, none, none] [] h := by
    intro  n
    induction n with
    | zero => intro a1 h T E; exact False.elim T
    | succ n ih =>
      intro a1 h T E
      unfold tk_X8_layTree_23 at T; unfold fn_X8_layTree_23 at E; dsimp only at T E
      have hk23 := ih
      refine z_go hC (pc' := 26) (ls' := [some (.ref 20), some (.int a1), none, none, none, none, none, none]) (st' := [.int (nI 120), .int a1]) (h' := h) (cs := []) [.iload_n 1, .bipush 120] (by decide +kernel) rfl rfl trivial ?_
      refine z_icmp_ge hC (off := 184) 210 (by decide +kernel) (by decide) (fun c19 => ?_) (fun c19 => ?_)
      · skip
        have E := (if_pos c19).symm.trans E
        have T := T.1 c19
        exact z_ret_v hB rfl (by decide +kernel) (z_lfv E)
      · skip
        have E := (if_neg c19).symm.trans E
        have T := T.2 c19
        refine z_go hC (pc' := 35) (ls' := [some (.ref 20), some (.int a1), some (.int (a1 - a1 / (nI 12) * (nI 12))), none, none, none, none, none]) (st' := [.int (a1 - a1 / (nI 12) * (nI 12))]) (h' := h) (cs := [¬ (nI 12) = 0]) [.iload_n 1, .bipush 12, .irem, .istore_n 2, .iload_n 2] (by decide +kernel) rfl rfl (show ¬ (nI 12) = 0 by decide) ?_
        refine z_callS hC hN hR (as := [.int (a1 - a1 / (nI 12) * (nI 12))]) (rest := []) ok_X8_60 (by decide +kernel) (sp_X8_firstOf l _ h (a1 - a1 / (nI 12) * (nI 12))) (Nat.le_of_ble_eq_true rfl) rfl rfl (Nat.le_of_ble_eq_true rfl) ⟨Nat.zero_le _, Nat.zero_le _⟩ (fun r20 h21 q22 => z_fun q22 ?_)
        refine z_go hC (pc' := 40) (ls' := [some (.ref 20), some (.int a1), some (.int (a1 - a1 / (nI 12) * (nI 12))), some (.int (fv_X8_firstOf (a1 - a1 / (nI 12) * (nI 12)))), none, none, none, none]) (st' := [.int (a1 - a1 / (nI 12) * (nI 12))]) (h' := h) (cs := []) [.istore_n 3, .iload_n 2] (by decide +kernel) rfl rfl trivial ?_
        refine z_callS hC hN hR (as := [.int (a1 - a1 / (nI 12) * (nI 12))]) (rest := []) ok_X8_64 (by decide +kernel) (sp_X8_secondOf l _ h (a1 - a1 / (nI 12) * (nI 12))) (Nat.le_of_ble_eq_true rfl) rfl rfl (Nat.le_of_ble_eq_true rfl) ⟨Nat.zero_le _, Nat.zero_le _⟩ (fun r23 h24 q25 => z_fun q25 ?_)
        obtain ⟨t26, T⟩ := T
        refine z_go hC (pc' := 55) (ls' := [some (.ref 20), some (.int a1), some (.int (a1 - a1 / (nI 12) * (nI 12))), some (.int (fv_X8_firstOf (a1 - a1 / (nI 12) * (nI 12)))), some (.int (fv_X8_secondOf (a1 - a1 / (nI 12) * (nI 12)))), none, none, none]) (st' := [.int (a1 / (nI 12)), .int (h.1 22 ((a1 - a1 / (nI 12) * (nI 12)).toNatClampNeg))]) (h' := h) (cs := [vp_in (a1 - a1 / (nI 12) * (nI 12)) 12, ¬ (nI 12) = 0]) [.istore 4, .aload_n 0, .getfield 13, .iload_n 2, .iaload, .iload_n 1, .bipush 12, .idiv] (by decide +kernel) rfl rfl ⟨t26, (show ¬ (nI 12) = 0 by decide)⟩ ?_
        refine z_icmp_ne hC (off := 26) 81 (by decide +kernel) (by decide) (fun c27 => ?_) (fun c27 => ?_)
        · skip
          have E := (if_neg c27).symm.trans E
          have T := T.2 c27
          exact P81 _ _ hk23 a1 (a1 - a1 / (nI 12) * (nI 12)) (fv_X8_firstOf (a1 - a1 / (nI 12) * (nI 12))) (fv_X8_secondOf (a1 - a1 / (nI 12) * (nI 12))) h T E
        · skip
          have E := (if_pos c27).symm.trans E
          have T := T.1 c27
          obtain ⟨t28, T⟩ := T
          refine z_go hC (pc' := 64) (ls' := [some (.ref 20), some (.int a1), some (.int (a1 - a1 / (nI 12) * (nI 12))), some (.int (fv_X8_firstOf (a1 - a1 / (nI 12) * (nI 12)))), some (.int (fv_X8_secondOf (a1 - a1 / (nI 12) * (nI 12)))), none, none, none]) (st' := [.int (h.1 21 ((fv_X8_firstOf (a1 - a1 / (nI 12) * (nI 12))).toNatClampNeg))]) (h' := h) (cs := [vp_in (fv_X8_firstOf (a1 - a1 / (nI 12) * (nI 12))) 9]) [.aload_n 0, .getfield 7, .iload_n 3, .baload] (by decide +kernel) rfl rfl t28 ?_
          refine z_if_ne hC (off := 17) 81 (by decide +kernel) (by decide) (fun c29 => ?_) (fun c29 => ?_)
          · skip
            have E := (if_neg c29).symm.trans E
            have T := T.2 c29
            exact P81 _ _ hk23 a1 (a1 - a1 / (nI 12) * (nI 12)) (fv_X8_firstOf (a1 - a1 / (nI 12) * (nI 12))) (fv_X8_secondOf (a1 - a1 / (nI 12) * (nI 12))) h T E
          · skip
            have E := (if_pos c29).symm.trans E
            have T := T.1 c29
            obtain ⟨t30, T⟩ := T
            refine z_go hC (pc' := 74) (ls' := [some (.ref 20), some (.int a1), some (.int (a1 - a1 / (nI 12) * (nI 12))), some (.int (fv_X8_firstOf (a1 - a1 / (nI 12) * (nI 12)))), some (.int (fv_X8_secondOf (a1 - a1 / (nI 12) * (nI 12)))), none, none, none]) (st' := [.int (h.1 21 ((fv_X8_secondOf (a1 - a1 / (nI 12) * (nI 12))).toNatClampNeg))]) (h' := h) (cs := [vp_in (fv_X8_secondOf (a1 - a1 / (nI 12) * (nI 12))) 9]) [.aload_n 0, .getfield 7, .iload 4, .baload] (by decide +kernel) rfl rfl t30 ?_
            refine z_if_ne hC (off := 7) 81 (by decide +kernel) (by decide) (fun c31 => ?_) (fun c31 => ?_)
            · skip
              have E := (if_neg c31).symm.trans E
              have T := T.2 c31
              exact P81 _ _ hk23 a1 (a1 - a1 / (nI 12) * (nI 12)) (fv_X8_firstOf (a1 - a1 / (nI 12) * (nI 12))) (fv_X8_secondOf (a1 - a1 / (nI 12) * (nI 12))) h T E
            · skip
              have E := (if_pos c31).symm.trans E
              have T := T.1 c31
              refine z_go hC (pc' := 78) (ls' := [some (.ref 20), some (.int a1), some (.int (a1 - a1 / (nI 12) * (nI 12))), some (.int (fv_X8_firstOf (a1 - a1 / (nI 12) * (nI 12)))), some (.int (fv_X8_secondOf (a1 - a1 / (nI 12) * (nI 12)))), none, none, none]) (st' := [.int (nI 1)]) (h' := h) (cs := []) [.iconst 1] (by decide +kernel) rfl rfl trivial ?_
              refine z_goto hC (off := 4) 82 (by decide +kernel) (by decide) ?_
              exact P82 _ _ hk23 a1 (a1 - a1 / (nI 12) * (nI 12)) (fv_X8_firstOf (a1 - a1 / (nI 12) * (nI 12))) (fv_X8_secondOf (a1 - a1 / (nI 12) * (nI 12))) (nI 1) h T E
  have P2 : ∀ (n : Nat), ∀ (a1 : Int32) (h : z_H), tk_X8_layTree_2  n a1 h → fn_X8_layTree_2  n a1 h = RR → z_G p l e R s m args below meth c D dA ad 8 (z_PV RR) (z_m ext) 2 [some (.ref 20), some (.int a1), none, none, none, none, none, none] [] h := by
    intro  n
    induction n with
    | zero => intro a1 h T E; exact False.elim T
    | succ n ih =>
      intro a1 h T E
      unfold tk_X8_layTree_2 at T; unfold fn_X8_layTree_2 at E; dsimp only at T E
      have hk2 := ih
      refine z_go hC (pc' := 5) (ls' := [some (.ref 20), some (.int a1), none, none, none, none, none, none]) (st' := [.int (nI 9), .int a1]) (h' := h) (cs := []) [.iload_n 1, .bipush 9] (by decide +kernel) rfl rfl trivial ?_
      refine z_icmp_ge hC (off := 16) 21 (by decide +kernel) (by decide) (fun c32 => ?_) (fun c32 => ?_)
      · skip
        have E := (if_pos c32).symm.trans E
        have T := T.1 c32
        refine z_go hC (pc' := 23) (ls' := [some (.ref 20), some (.int (nI 0)), none, none, none, none, none, none]) (st' := []) (h' := h) (cs := []) [.iconst 0, .istore_n 1] (by decide +kernel) rfl rfl trivial ?_
        exact P23 2000 (nI 0) h T E
      · skip
        have E := (if_neg c32).symm.trans E
        have T := T.2 c32
        obtain ⟨t33, T⟩ := T
        refine z_go hC (pc' := 18) (ls' := [some (.ref 20), some (.int (a1 + (nI 1))), none, none, none, none, none, none]) (st' := []) (h' := z_set h 24 a1.toNatClampNeg a1) (cs := [vp_in a1 9]) [.aload_n 0, .getfield 20, .iload_n 1, .iload_n 1, .iastore, .iinc 1 1] (by decide +kernel) rfl rfl t33 ?_
        refine z_goto hC (off := -16) 2 (by decide +kernel) (by decide) ?_
        exact hk2 (a1 + (nI 1)) (z_set h 24 a1.toNatClampNeg a1) T E
  refine z_go hC (pc' := 2) (ls' := [some (.ref 20), some (.int (nI 0)), none, none, none, none, none, none]) (st' := []) (h' := h) (cs := []) [.iconst 0, .istore_n 1] (by decide +kernel) rfl rfl trivial ?_
  exact P2 2000 (nI 0) h T E

def fn_X8_next_71 (h : z_H)  (a1 : Int32) (a2 : Int32) (a3 : Int32) (a4 : Int32) : (Option Value) := if a3 = 0 then if (nI 2) ≤ (a2 - a2 / (nI 3) * (nI 3)) then some (.int (a1 + (nI 6))) else if (z_vi0 (fn_X8_isIn a2 (a2 + (nI 1)) h)) = 0 then some (.int (a1 + (nI 6))) else some (.int (a1 + (nI 1))) else if a4 = 0 then if (a2 - a2 / (nI 3) * (nI 3)) ≤ 0 then some (.int (a1 - (nI 6))) else if (z_vi0 (fn_X8_isIn a2 (a2 - (nI 1)) h)) = 0 then some (.int (a1 - (nI 6))) else some (.int (a1 - (nI 1))) else if (nI 6) ≤ a2 then some (.int (a1 - (nI 1))) else if (z_vi0 (fn_X8_isIn a2 (a2 + (nI 3)) h)) = 0 then some (.int (a1 - (nI 1))) else some (.int (a1 + (nI 6)))
def tk_X8_next_71 (h : z_H)  (a1 : Int32) (a2 : Int32) (a3 : Int32) (a4 : Int32) : Prop := ((a3 = 0) → ((((nI 2) ≤ (a2 - a2 / (nI 3) * (nI 3))) → (True)) ∧ ((¬ (nI 2) ≤ (a2 - a2 / (nI 3) * (nI 3))) → (tk_X8_isIn a2 (a2 + (nI 1)) h)))) ∧ ((¬ a3 = 0) → (((a4 = 0) → ((((a2 - a2 / (nI 3) * (nI 3)) ≤ 0) → (True)) ∧ ((¬ (a2 - a2 / (nI 3) * (nI 3)) ≤ 0) → (tk_X8_isIn a2 (a2 - (nI 1)) h)))) ∧ ((¬ a4 = 0) → ((((nI 6) ≤ a2) → (True)) ∧ ((¬ (nI 6) ≤ a2) → (tk_X8_isIn a2 (a2 + (nI 3)) h))))))
def fn_X8_next_33 (h : z_H)  (a1 : Int32) (a2 : Int32) (a3 : Int32) (s0 : Int32) : (Option Value) := if a3 = 0 then if s0 = 0 then if a2 ≤ (nI 2) then some (.int (a1 + (nI 1))) else if (z_vi0 (fn_X8_isIn a2 (a2 - (nI 3)) h)) = 0 then some (.int (a1 + (nI 1))) else some (.int (a1 - (nI 6))) else fn_X8_next_71 h a1 a2 a3 s0 else fn_X8_next_71 h a1 a2 a3 s0
def tk_X8_next_33 (h : z_H)  (a1 : Int32) (a2 : Int32) (a3 : Int32) (s0 : Int32) : Prop := ((a3 = 0) → (((s0 = 0) → (((a2 ≤ (nI 2)) → (True)) ∧ ((¬ a2 ≤ (nI 2)) → (tk_X8_isIn a2 (a2 - (nI 3)) h)))) ∧ ((¬ s0 = 0) → (tk_X8_next_71 h a1 a2 a3 s0)))) ∧ ((¬ a3 = 0) → (tk_X8_next_71 h a1 a2 a3 s0))
def fn_X8_next_20 (h : z_H)  (a1 : Int32) (a2 : Int32) (s0 : Int32) : (Option Value) := if (a1 - a1 / (nI 2) * (nI 2)) = (nI 1) then fn_X8_next_33 h a1 a2 s0 (nI 1) else fn_X8_next_33 h a1 a2 s0 (nI 0)
def tk_X8_next_20 (h : z_H)  (a1 : Int32) (a2 : Int32) (s0 : Int32) : Prop := (((a1 - a1 / (nI 2) * (nI 2)) = (nI 1)) → (tk_X8_next_33 h a1 a2 s0 (nI 1))) ∧ ((¬ (a1 - a1 / (nI 2) * (nI 2)) = (nI 1)) → (tk_X8_next_33 h a1 a2 s0 (nI 0)))
def fn_X8_next (x : Int32) (h : z_H) : (Option Value) := if ((x / (nI 6)) - (x / (nI 6)) / (nI 2) * (nI 2)) = (nI 1) then fn_X8_next_20 h x (fv_X8_blockOf x) (nI 1) else fn_X8_next_20 h x (fv_X8_blockOf x) (nI 0)
def tk_X8_next (x : Int32) (h : z_H) : Prop := ((((x / (nI 6)) - (x / (nI 6)) / (nI 2) * (nI 2)) = (nI 1)) → (tk_X8_next_20 h x (fv_X8_blockOf x) (nI 1))) ∧ ((¬ ((x / (nI 6)) - (x / (nI 6)) / (nI 2) * (nI 2)) = (nI 1)) → (tk_X8_next_20 h x (fv_X8_blockOf x) (nI 0)))
set_option maxHeartbeats 4000000 in
set_option maxRecDepth 100000 in
theorem sp_X8_next (l : Launch) (ext : z_Sh)  (h : z_H) (x : Int32)  (T : tk_X8_next x h) : z_Sp l 4 yX8_next cX8_next 5 (some .int) [.ref 20, .int x] (z_m ext) h (z_QI h (fn_X8_next x h)) := by
  refine z_enter ft_X8 (by decide +kernel) fo_X8 (Nat.le_of_ble_eq_true rfl) ?_
  intro p e R s m args below meth c D dA ad hB
  have hC := hB.1
  have hN := hB.2.1
  have hR := hB.2.2.1
  unfold tk_X8_next at T; have E : (if ((x / (nI 6)) - (x / (nI 6)) / (nI 2) * (nI 2)) = (nI 1) then fn_X8_next_20 h x (fv_X8_blockOf x) (nI 1) else fn_X8_next_20 h x (fv_X8_blockOf x) (nI 0)) = fn_X8_next x h := rfl
  generalize fn_X8_next x h = RR at E ⊢
  have P71 : ∀ (a1 : Int32) (a2 : Int32) (a3 : Int32) (a4 : Int32), tk_X8_next_71 h  a1 a2 a3 a4 → fn_X8_next_71 h  a1 a2 a3 a4 = RR → z_G p l e R s m args below meth c D dA ad 5 (z_QI h RR) (z_m ext) 71 [some (.ref 20), some (.int a1), some (.int a2), some (.int a3), some (.int a4)] [] h := by
    intro  a1 a2 a3 a4 T E
    unfold tk_X8_next_71 at T; unfold fn_X8_next_71 at E
    refine z_go hC (pc' := 72) (ls' := [some (.ref 20), some (.int a1), some (.int a2), some (.int a3), some (.int a4)]) (st' := [.int a3]) (h' := h) (cs := []) [.iload_n 3] (by decide +kernel) rfl rfl trivial ?_
    refine z_if_ne hC (off := 32) 104 (by decide +kernel) (by decide) (fun c1 => ?_) (fun c1 => ?_)
    · skip
      have E := (if_neg c1).symm.trans E
      have T := T.2 c1
      refine z_go hC (pc' := 106) (ls' := [some (.ref 20), some (.int a1), some (.int a2), some (.int a3), some (.int a4)]) (st' := [.int a4]) (h' := h) (cs := []) [.iload 4] (by decide +kernel) rfl rfl trivial ?_
      refine z_if_eq hC (off := 31) 137 (by decide +kernel) (by decide) (fun c2 => ?_) (fun c2 => ?_)
      · skip
        have E := (if_pos c2).symm.trans E
        have T := T.1 c2
        refine z_go hC (pc' := 140) (ls' := [some (.ref 20), some (.int a1), some (.int a2), some (.int a3), some (.int a4)]) (st' := [.int (a2 - a2 / (nI 3) * (nI 3))]) (h' := h) (cs := [¬ (nI 3) = 0]) [.iload_n 2, .iconst 3, .irem] (by decide +kernel) rfl rfl (show ¬ (nI 3) = 0 by decide) ?_
        refine z_if_le hC (off := 20) 160 (by decide +kernel) (by decide) (fun c3 => ?_) (fun c3 => ?_)
        · skip
          have E := (if_pos c3).symm.trans E
          have T := T.1 c3
          refine z_go hC (pc' := 164) (ls' := [some (.ref 20), some (.int a1), some (.int a2), some (.int a3), some (.int a4)]) (st' := [.int (a1 - (nI 6))]) (h' := h) (cs := []) [.iload_n 1, .bipush 6, .isub] (by decide +kernel) rfl rfl trivial ?_
          exact z_ret_i hB rfl (by decide +kernel) (z_lfi0 E)
        · skip
          have E := (if_neg c3).symm.trans E
          have T := T.2 c3
          refine z_go hC (pc' := 148) (ls' := [some (.ref 20), some (.int a1), some (.int a2), some (.int a3), some (.int a4)]) (st' := [.int (a2 - (nI 1)), .int a2, .ref 20]) (h' := h) (cs := []) [.aload_n 0, .iload_n 2, .iload_n 2, .iconst 1, .isub] (by decide +kernel) rfl rfl trivial ?_
          have t7 := T
          refine z_callV hC hN hR (as := [.int a2, .int (a2 - (nI 1))]) (rest := []) ok_X8_74 (by decide +kernel) (sp_X8_isIn l _ h a2 (a2 - (nI 1)) t7) rfl rfl (Nat.le_of_ble_eq_true rfl) rfl rfl (Nat.le_of_ble_eq_true rfl) ⟨Nat.zero_le _, Nat.zero_le _⟩ (fun r4 h5 q6 => z_funb q6 (fun z8 => ?_))
          refine z_if_eq hC (off := 9) 160 (by decide +kernel) (by decide) (fun c9 => ?_) (fun c9 => ?_)
          · skip
            have E := (if_pos c9).symm.trans E
            refine z_go hC (pc' := 164) (ls' := [some (.ref 20), some (.int a1), some (.int a2), some (.int a3), some (.int a4)]) (st' := [.int (a1 - (nI 6))]) (h' := h) (cs := []) [.iload_n 1, .bipush 6, .isub] (by decide +kernel) rfl rfl trivial ?_
            exact z_ret_i hB rfl (by decide +kernel) (z_lfi0 E)
          · skip
            have E := (if_neg c9).symm.trans E
            refine z_go hC (pc' := 157) (ls' := [some (.ref 20), some (.int a1), some (.int a2), some (.int a3), some (.int a4)]) (st' := [.int (a1 - (nI 1))]) (h' := h) (cs := []) [.iload_n 1, .iconst 1, .isub] (by decide +kernel) rfl rfl trivial ?_
            refine z_goto hC (off := 7) 164 (by decide +kernel) (by decide) ?_
            exact z_ret_i hB rfl (by decide +kernel) (z_lfi0 E)
      · skip
        have E := (if_neg c2).symm.trans E
        have T := T.2 c2
        refine z_go hC (pc' := 112) (ls' := [some (.ref 20), some (.int a1), some (.int a2), some (.int a3), some (.int a4)]) (st' := [.int (nI 6), .int a2]) (h' := h) (cs := []) [.iload_n 2, .bipush 6] (by decide +kernel) rfl rfl trivial ?_
        refine z_icmp_ge hC (off := 21) 133 (by decide +kernel) (by decide) (fun c10 => ?_) (fun c10 => ?_)
        · skip
          have E := (if_pos c10).symm.trans E
          have T := T.1 c10
          refine z_go hC (pc' := 136) (ls' := [some (.ref 20), some (.int a1), some (.int a2), some (.int a3), some (.int a4)]) (st' := [.int (a1 - (nI 1))]) (h' := h) (cs := []) [.iload_n 1, .iconst 1, .isub] (by decide +kernel) rfl rfl trivial ?_
          exact z_ret_i hB rfl (by decide +kernel) (z_lfi0 E)
        · skip
          have E := (if_neg c10).symm.trans E
          have T := T.2 c10
          refine z_go hC (pc' := 120) (ls' := [some (.ref 20), some (.int a1), some (.int a2), some (.int a3), some (.int a4)]) (st' := [.int (a2 + (nI 3)), .int a2, .ref 20]) (h' := h) (cs := []) [.aload_n 0, .iload_n 2, .iload_n 2, .iconst 3, .iadd] (by decide +kernel) rfl rfl trivial ?_
          have t14 := T
          refine z_callV hC hN hR (as := [.int a2, .int (a2 + (nI 3))]) (rest := []) ok_X8_74 (by decide +kernel) (sp_X8_isIn l _ h a2 (a2 + (nI 3)) t14) rfl rfl (Nat.le_of_ble_eq_true rfl) rfl rfl (Nat.le_of_ble_eq_true rfl) ⟨Nat.zero_le _, Nat.zero_le _⟩ (fun r11 h12 q13 => z_funb q13 (fun z15 => ?_))
          refine z_if_eq hC (off := 10) 133 (by decide +kernel) (by decide) (fun c16 => ?_) (fun c16 => ?_)
          · skip
            have E := (if_pos c16).symm.trans E
            refine z_go hC (pc' := 136) (ls' := [some (.ref 20), some (.int a1), some (.int a2), some (.int a3), some (.int a4)]) (st' := [.int (a1 - (nI 1))]) (h' := h) (cs := []) [.iload_n 1, .iconst 1, .isub] (by decide +kernel) rfl rfl trivial ?_
            exact z_ret_i hB rfl (by decide +kernel) (z_lfi0 E)
          · skip
            have E := (if_neg c16).symm.trans E
            refine z_go hC (pc' := 130) (ls' := [some (.ref 20), some (.int a1), some (.int a2), some (.int a3), some (.int a4)]) (st' := [.int (a1 + (nI 6))]) (h' := h) (cs := []) [.iload_n 1, .bipush 6, .iadd] (by decide +kernel) rfl rfl trivial ?_
            refine z_goto hC (off := 6) 136 (by decide +kernel) (by decide) ?_
            exact z_ret_i hB rfl (by decide +kernel) (z_lfi0 E)
    · skip
      have E := (if_pos c1).symm.trans E
      have T := T.1 c1
      refine z_go hC (pc' := 79) (ls' := [some (.ref 20), some (.int a1), some (.int a2), some (.int a3), some (.int a4)]) (st' := [.int (nI 2), .int (a2 - a2 / (nI 3) * (nI 3))]) (h' := h) (cs := [¬ (nI 3) = 0]) [.iload_n 2, .iconst 3, .irem, .iconst 2] (by decide +kernel) rfl rfl (show ¬ (nI 3) = 0 by decide) ?_
      refine z_icmp_ge hC (off := 20) 99 (by decide +kernel) (by decide) (fun c17 => ?_) (fun c17 => ?_)
      · skip
        have E := (if_pos c17).symm.trans E
        have T := T.1 c17
        refine z_go hC (pc' := 103) (ls' := [some (.ref 20), some (.int a1), some (.int a2), some (.int a3), some (.int a4)]) (st' := [.int (a1 + (nI 6))]) (h' := h) (cs := []) [.iload_n 1, .bipush 6, .iadd] (by decide +kernel) rfl rfl trivial ?_
        exact z_ret_i hB rfl (by decide +kernel) (z_lfi0 E)
      · skip
        have E := (if_neg c17).symm.trans E
        have T := T.2 c17
        refine z_go hC (pc' := 87) (ls' := [some (.ref 20), some (.int a1), some (.int a2), some (.int a3), some (.int a4)]) (st' := [.int (a2 + (nI 1)), .int a2, .ref 20]) (h' := h) (cs := []) [.aload_n 0, .iload_n 2, .iload_n 2, .iconst 1, .iadd] (by decide +kernel) rfl rfl trivial ?_
        have t21 := T
        refine z_callV hC hN hR (as := [.int a2, .int (a2 + (nI 1))]) (rest := []) ok_X8_74 (by decide +kernel) (sp_X8_isIn l _ h a2 (a2 + (nI 1)) t21) rfl rfl (Nat.le_of_ble_eq_true rfl) rfl rfl (Nat.le_of_ble_eq_true rfl) ⟨Nat.zero_le _, Nat.zero_le _⟩ (fun r18 h19 q20 => z_funb q20 (fun z22 => ?_))
        refine z_if_eq hC (off := 9) 99 (by decide +kernel) (by decide) (fun c23 => ?_) (fun c23 => ?_)
        · skip
          have E := (if_pos c23).symm.trans E
          refine z_go hC (pc' := 103) (ls' := [some (.ref 20), some (.int a1), some (.int a2), some (.int a3), some (.int a4)]) (st' := [.int (a1 + (nI 6))]) (h' := h) (cs := []) [.iload_n 1, .bipush 6, .iadd] (by decide +kernel) rfl rfl trivial ?_
          exact z_ret_i hB rfl (by decide +kernel) (z_lfi0 E)
        · skip
          have E := (if_neg c23).symm.trans E
          refine z_go hC (pc' := 96) (ls' := [some (.ref 20), some (.int a1), some (.int a2), some (.int a3), some (.int a4)]) (st' := [.int (a1 + (nI 1))]) (h' := h) (cs := []) [.iload_n 1, .iconst 1, .iadd] (by decide +kernel) rfl rfl trivial ?_
          refine z_goto hC (off := 7) 103 (by decide +kernel) (by decide) ?_
          exact z_ret_i hB rfl (by decide +kernel) (z_lfi0 E)
  have P33 : ∀ (a1 : Int32) (a2 : Int32) (a3 : Int32) (s0 : Int32), tk_X8_next_33 h  a1 a2 a3 s0 → fn_X8_next_33 h  a1 a2 a3 s0 = RR → z_G p l e R s m args below meth c D dA ad 5 (z_QI h RR) (z_m ext) 33 [some (.ref 20), some (.int a1), some (.int a2), some (.int a3), none] [.int s0] h := by
    intro  a1 a2 a3 s0 T E
    unfold tk_X8_next_33 at T; unfold fn_X8_next_33 at E
    refine z_go hC (pc' := 36) (ls' := [some (.ref 20), some (.int a1), some (.int a2), some (.int a3), some (.int s0)]) (st' := [.int a3]) (h' := h) (cs := []) [.istore 4, .iload_n 3] (by decide +kernel) rfl rfl trivial ?_
    refine z_if_ne hC (off := 35) 71 (by decide +kernel) (by decide) (fun c24 => ?_) (fun c24 => ?_)
    · skip
      have E := (if_neg c24).symm.trans E
      have T := T.2 c24
      exact P71  a1 a2 a3 s0 T E
    · skip
      have E := (if_pos c24).symm.trans E
      have T := T.1 c24
      refine z_go hC (pc' := 41) (ls' := [some (.ref 20), some (.int a1), some (.int a2), some (.int a3), some (.int s0)]) (st' := [.int s0]) (h' := h) (cs := []) [.iload 4] (by decide +kernel) rfl rfl trivial ?_
      refine z_if_ne hC (off := 30) 71 (by decide +kernel) (by decide) (fun c25 => ?_) (fun c25 => ?_)
      · skip
        have E := (if_neg c25).symm.trans E
        have T := T.2 c25
        exact P71  a1 a2 a3 s0 T E
      · skip
        have E := (if_pos c25).symm.trans E
        have T := T.1 c25
        refine z_go hC (pc' := 46) (ls' := [some (.ref 20), some (.int a1), some (.int a2), some (.int a3), some (.int s0)]) (st' := [.int (nI 2), .int a2]) (h' := h) (cs := []) [.iload_n 2, .iconst 2] (by decide +kernel) rfl rfl trivial ?_
        refine z_icmp_le hC (off := 21) 67 (by decide +kernel) (by decide) (fun c26 => ?_) (fun c26 => ?_)
        · skip
          have E := (if_pos c26).symm.trans E
          have T := T.1 c26
          refine z_go hC (pc' := 70) (ls' := [some (.ref 20), some (.int a1), some (.int a2), some (.int a3), some (.int s0)]) (st' := [.int (a1 + (nI 1))]) (h' := h) (cs := []) [.iload_n 1, .iconst 1, .iadd] (by decide +kernel) rfl rfl trivial ?_
          exact z_ret_i hB rfl (by decide +kernel) (z_lfi0 E)
        · skip
          have E := (if_neg c26).symm.trans E
          have T := T.2 c26
          refine z_go hC (pc' := 54) (ls' := [some (.ref 20), some (.int a1), some (.int a2), some (.int a3), some (.int s0)]) (st' := [.int (a2 - (nI 3)), .int a2, .ref 20]) (h' := h) (cs := []) [.aload_n 0, .iload_n 2, .iload_n 2, .iconst 3, .isub] (by decide +kernel) rfl rfl trivial ?_
          have t30 := T
          refine z_callV hC hN hR (as := [.int a2, .int (a2 - (nI 3))]) (rest := []) ok_X8_74 (by decide +kernel) (sp_X8_isIn l _ h a2 (a2 - (nI 3)) t30) rfl rfl (Nat.le_of_ble_eq_true rfl) rfl rfl (Nat.le_of_ble_eq_true rfl) ⟨Nat.zero_le _, Nat.zero_le _⟩ (fun r27 h28 q29 => z_funb q29 (fun z31 => ?_))
          refine z_if_eq hC (off := 10) 67 (by decide +kernel) (by decide) (fun c32 => ?_) (fun c32 => ?_)
          · skip
            have E := (if_pos c32).symm.trans E
            refine z_go hC (pc' := 70) (ls' := [some (.ref 20), some (.int a1), some (.int a2), some (.int a3), some (.int s0)]) (st' := [.int (a1 + (nI 1))]) (h' := h) (cs := []) [.iload_n 1, .iconst 1, .iadd] (by decide +kernel) rfl rfl trivial ?_
            exact z_ret_i hB rfl (by decide +kernel) (z_lfi0 E)
          · skip
            have E := (if_neg c32).symm.trans E
            refine z_go hC (pc' := 64) (ls' := [some (.ref 20), some (.int a1), some (.int a2), some (.int a3), some (.int s0)]) (st' := [.int (a1 - (nI 6))]) (h' := h) (cs := []) [.iload_n 1, .bipush 6, .isub] (by decide +kernel) rfl rfl trivial ?_
            refine z_goto hC (off := 6) 70 (by decide +kernel) (by decide) ?_
            exact z_ret_i hB rfl (by decide +kernel) (z_lfi0 E)
  have P20 : ∀ (a1 : Int32) (a2 : Int32) (s0 : Int32), tk_X8_next_20 h  a1 a2 s0 → fn_X8_next_20 h  a1 a2 s0 = RR → z_G p l e R s m args below meth c D dA ad 5 (z_QI h RR) (z_m ext) 20 [some (.ref 20), some (.int a1), some (.int a2), none, none] [.int s0] h := by
    intro  a1 a2 s0 T E
    unfold tk_X8_next_20 at T; unfold fn_X8_next_20 at E
    refine z_go hC (pc' := 25) (ls' := [some (.ref 20), some (.int a1), some (.int a2), some (.int s0), none]) (st' := [.int (nI 1), .int (a1 - a1 / (nI 2) * (nI 2))]) (h' := h) (cs := [¬ (nI 2) = 0]) [.istore_n 3, .iload_n 1, .iconst 2, .irem, .iconst 1] (by decide +kernel) rfl rfl (show ¬ (nI 2) = 0 by decide) ?_
    refine z_icmp_ne hC (off := 7) 32 (by decide +kernel) (by decide) (fun c33 => ?_) (fun c33 => ?_)
    · skip
      have E := (if_neg c33).symm.trans E
      have T := T.2 c33
      refine z_go hC (pc' := 33) (ls' := [some (.ref 20), some (.int a1), some (.int a2), some (.int s0), none]) (st' := [.int (nI 0)]) (h' := h) (cs := []) [.iconst 0] (by decide +kernel) rfl rfl trivial ?_
      exact P33  a1 a2 s0 (nI 0) T E
    · skip
      have E := (if_pos c33).symm.trans E
      have T := T.1 c33
      refine z_go hC (pc' := 29) (ls' := [some (.ref 20), some (.int a1), some (.int a2), some (.int s0), none]) (st' := [.int (nI 1)]) (h' := h) (cs := []) [.iconst 1] (by decide +kernel) rfl rfl trivial ?_
      refine z_goto hC (off := 4) 33 (by decide +kernel) (by decide) ?_
      exact P33  a1 a2 s0 (nI 1) T E
  refine z_go hC (pc' := 1) (ls' := [some (.ref 20), some (.int x), none, none, none]) (st' := [.int x]) (h' := h) (cs := []) [.iload_n 1] (by decide +kernel) rfl rfl trivial ?_
  refine z_callS hC hN hR (as := [.int x]) (rest := []) ok_X8_71 (by decide +kernel) (sp_X8_blockOf l _ h x) (Nat.le_of_ble_eq_true rfl) rfl rfl (Nat.le_of_ble_eq_true rfl) ⟨Nat.zero_le _, Nat.zero_le _⟩ (fun r34 h35 q36 => z_fun q36 ?_)
  refine z_go hC (pc' := 12) (ls' := [some (.ref 20), some (.int x), some (.int (fv_X8_blockOf x)), none, none]) (st' := [.int (nI 1), .int ((x / (nI 6)) - (x / (nI 6)) / (nI 2) * (nI 2))]) (h' := h) (cs := [¬ (nI 6) = 0, ¬ (nI 2) = 0]) [.istore_n 2, .iload_n 1, .bipush 6, .idiv, .iconst 2, .irem, .iconst 1] (by decide +kernel) rfl rfl ⟨(show ¬ (nI 6) = 0 by decide), (show ¬ (nI 2) = 0 by decide)⟩ ?_
  refine z_icmp_ne hC (off := 7) 19 (by decide +kernel) (by decide) (fun c37 => ?_) (fun c37 => ?_)
  · skip
    have E := (if_neg c37).symm.trans E
    have T := T.2 c37
    refine z_go hC (pc' := 20) (ls' := [some (.ref 20), some (.int x), some (.int (fv_X8_blockOf x)), none, none]) (st' := [.int (nI 0)]) (h' := h) (cs := []) [.iconst 0] (by decide +kernel) rfl rfl trivial ?_
    exact P20  x (fv_X8_blockOf x) (nI 0) T E
  · skip
    have E := (if_pos c37).symm.trans E
    have T := T.1 c37
    refine z_go hC (pc' := 16) (ls' := [some (.ref 20), some (.int x), some (.int (fv_X8_blockOf x)), none, none]) (st' := [.int (nI 1)]) (h' := h) (cs := []) [.iconst 1] (by decide +kernel) rfl rfl trivial ?_
    refine z_goto hC (off := 4) 20 (by decide +kernel) (by decide) ?_
    exact P20  x (fv_X8_blockOf x) (nI 1) T E

def fn_X8_layCycle_27 (k9 : Int32 → Int32 → z_H → z_R) (a2 : Int32) (s0 : Int32) (h : z_H) : z_R := k9 s0 (a2 + (z_bi (-1))) h
def tk_X8_layCycle_27 (K9 : Int32 → Int32 → z_H → Prop) (a2 : Int32) (s0 : Int32) (h : z_H) : Prop := K9 s0 (a2 + (z_bi (-1))) h
def fn_X8_layCycle_86 (k47 : Int32 → Int32 → Int32 → z_H → z_R) (a1 : Int32) (a3 : Int32) (s0 : Int32) (h : z_H) : z_R := k47 a1 s0 (a3 + (nI 1)) h
def tk_X8_layCycle_86 (K47 : Int32 → Int32 → Int32 → z_H → Prop) (a1 : Int32) (a3 : Int32) (s0 : Int32) (h : z_H) : Prop := K47 a1 s0 (a3 + (nI 1)) h
def fn_X8_layCycle_81 (k47 : Int32 → Int32 → Int32 → z_H → z_R) (a1 : Int32) (a3 : Int32) (h : z_H) : z_R := fn_X8_layCycle_86 k47 a1 a3 (nI 1) h
def tk_X8_layCycle_81 (K47 : Int32 → Int32 → Int32 → z_H → Prop) (a1 : Int32) (a3 : Int32) (h : z_H) : Prop := tk_X8_layCycle_86 K47 a1 a3 (nI 1) h
def fn_X8_layCycle_85 (k47 : Int32 → Int32 → Int32 → z_H → z_R) (a1 : Int32) (a3 : Int32) (h : z_H) : z_R := fn_X8_layCycle_86 k47 a1 a3 (nI 0) h
def tk_X8_layCycle_85 (K47 : Int32 → Int32 → Int32 → z_H → Prop) (a1 : Int32) (a3 : Int32) (h : z_H) : Prop := tk_X8_layCycle_86 K47 a1 a3 (nI 0) h
def fn_X8_layCycle_138  : Nat → Int32 → z_H → z_R
  | 0, _, h => (none, h)
  | n + 1, a3, h => let k138 := fun (a3_ : Int32) (h_ : z_H) => fn_X8_layCycle_138  n a3_ h_; if (h.1 25 a3.toNatClampNeg) = (-1) then k138 (z_vi0 (fn_X8_next a3 (z_set (z_set (z_set h 25 a3.toNatClampNeg (h.1 20 7)) 26 ((h.1 20 7).toNatClampNeg) a3) 20 7 ((h.1 20 7) + (nI 1))))) (z_set (z_set (z_set h 25 a3.toNatClampNeg (h.1 20 7)) 26 ((h.1 20 7).toNatClampNeg) a3) 20 7 ((h.1 20 7) + (nI 1))) else (none, h)
def tk_X8_layCycle_138  : Nat → Int32 → z_H → Prop
  | 0, _, _ => False
  | n + 1, a3, h => let K138 := fun (a3_ : Int32) (h_ : z_H) => tk_X8_layCycle_138  n a3_ h_; vp_in a3 36 ∧ ((((h.1 25 a3.toNatClampNeg) = (-1)) → (vp_in a3 36 ∧ vp_in (h.1 20 7) 36 ∧ (tk_X8_next a3 (z_set (z_set (z_set h 25 a3.toNatClampNeg (h.1 20 7)) 26 ((h.1 20 7).toNatClampNeg) a3) 20 7 ((h.1 20 7) + (nI 1))) ∧ (K138 (z_vi0 (fn_X8_next a3 (z_set (z_set (z_set h 25 a3.toNatClampNeg (h.1 20 7)) 26 ((h.1 20 7).toNatClampNeg) a3) 20 7 ((h.1 20 7) + (nI 1))))) (z_set (z_set (z_set h 25 a3.toNatClampNeg (h.1 20 7)) 26 ((h.1 20 7).toNatClampNeg) a3) 20 7 ((h.1 20 7) + (nI 1))))))) ∧ ((¬ (h.1 25 a3.toNatClampNeg) = (-1)) → (True)))
def fn_X8_layCycle_95  : Nat → Int32 → Int32 → Int32 → z_H → z_R
  | 0, _, _, _, h => (none, h)
  | n + 1, a1, a2, a3, h => let k95 := fun (a1_ : Int32) (a2_ : Int32) (a3_ : Int32) (h_ : z_H) => fn_X8_layCycle_95  n a1_ a2_ a3_ h_; if (nI 36) ≤ a3 then if a2 = 0 then (none, z_set h 20 7 (nI 0)) else fn_X8_layCycle_138 2000 ((((a1 / (nI 3)) * (nI 2)) * (nI 6)) + ((a1 - a1 / (nI 3) * (nI 3)) * (nI 2))) (z_set h 20 7 (nI 0)) else k95 a1 a2 (a3 + (nI 1)) (z_set h 25 a3.toNatClampNeg (-1))
def tk_X8_layCycle_95  : Nat → Int32 → Int32 → Int32 → z_H → Prop
  | 0, _, _, _, _ => False
  | n + 1, a1, a2, a3, h => let K95 := fun (a1_ : Int32) (a2_ : Int32) (a3_ : Int32) (h_ : z_H) => tk_X8_layCycle_95  n a1_ a2_ a3_ h_; (((nI 36) ≤ a3) → (((a2 = 0) → (True)) ∧ ((¬ a2 = 0) → (tk_X8_layCycle_138 2000 ((((a1 / (nI 3)) * (nI 2)) * (nI 6)) + ((a1 - a1 / (nI 3) * (nI 3)) * (nI 2))) (z_set h 20 7 (nI 0)))))) ∧ ((¬ (nI 36) ≤ a3) → (vp_in a3 36 ∧ (K95 a1 a2 (a3 + (nI 1)) (z_set h 25 a3.toNatClampNeg (-1)))))
def fn_X8_layCycle_47  : Nat → Int32 → Int32 → Int32 → z_H → z_R
  | 0, _, _, _, h => (none, h)
  | n + 1, a1, a2, a3, h => let k47 := fun (a1_ : Int32) (a2_ : Int32) (a3_ : Int32) (h_ : z_H) => fn_X8_layCycle_47  n a1_ a2_ a3_ h_; if (nI 9) ≤ a3 then fn_X8_layCycle_95 2000 a1 a2 (nI 0) h else if a2 = 0 then fn_X8_layCycle_85 k47 a1 a3 h else if (h.1 21 a3.toNatClampNeg) = 0 then if (h.1 24 a3.toNatClampNeg) = (h.1 24 a1.toNatClampNeg) then fn_X8_layCycle_81 k47 a1 a3 h else fn_X8_layCycle_85 k47 a1 a3 h else fn_X8_layCycle_81 k47 a1 a3 h
def tk_X8_layCycle_47  : Nat → Int32 → Int32 → Int32 → z_H → Prop
  | 0, _, _, _, _ => False
  | n + 1, a1, a2, a3, h => let K47 := fun (a1_ : Int32) (a2_ : Int32) (a3_ : Int32) (h_ : z_H) => tk_X8_layCycle_47  n a1_ a2_ a3_ h_; (((nI 9) ≤ a3) → (tk_X8_layCycle_95 2000 a1 a2 (nI 0) h)) ∧ ((¬ (nI 9) ≤ a3) → (((a2 = 0) → (tk_X8_layCycle_85 K47 a1 a3 h)) ∧ ((¬ a2 = 0) → (vp_in a3 9 ∧ ((((h.1 21 a3.toNatClampNeg) = 0) → (vp_in a3 9 ∧ vp_in a1 9 ∧ ((((h.1 24 a3.toNatClampNeg) = (h.1 24 a1.toNatClampNeg)) → (tk_X8_layCycle_81 K47 a1 a3 h)) ∧ ((¬ (h.1 24 a3.toNatClampNeg) = (h.1 24 a1.toNatClampNeg)) → (tk_X8_layCycle_85 K47 a1 a3 h))))) ∧ ((¬ (h.1 21 a3.toNatClampNeg) = 0) → (tk_X8_layCycle_81 K47 a1 a3 h)))))))
def fn_X8_layCycle_44  (a1 : Int32) (s0 : Int32) (h : z_H) : z_R := fn_X8_layCycle_47 2000 a1 s0 (nI 0) h
def tk_X8_layCycle_44  (a1 : Int32) (s0 : Int32) (h : z_H) : Prop := tk_X8_layCycle_47 2000 a1 s0 (nI 0) h
def fn_X8_layCycle_9  : Nat → Int32 → Int32 → z_H → z_R
  | 0, _, _, h => (none, h)
  | n + 1, a1, a2, h => let k9 := fun (a1_ : Int32) (a2_ : Int32) (h_ : z_H) => fn_X8_layCycle_9  n a1_ a2_ h_; if a2 < 0 then if a1 = (-1) then fn_X8_layCycle_44 a1 (nI 0) h else fn_X8_layCycle_44 a1 (nI 1) h else if (h.1 21 a2.toNatClampNeg) = 0 then fn_X8_layCycle_27 k9 a2 a2 h else fn_X8_layCycle_27 k9 a2 a1 h
def tk_X8_layCycle_9  : Nat → Int32 → Int32 → z_H → Prop
  | 0, _, _, _ => False
  | n + 1, a1, a2, h => let K9 := fun (a1_ : Int32) (a2_ : Int32) (h_ : z_H) => tk_X8_layCycle_9  n a1_ a2_ h_; ((a2 < 0) → (((a1 = (-1)) → (tk_X8_layCycle_44 a1 (nI 0) h)) ∧ ((¬ a1 = (-1)) → (tk_X8_layCycle_44 a1 (nI 1) h)))) ∧ ((¬ a2 < 0) → (vp_in a2 9 ∧ ((((h.1 21 a2.toNatClampNeg) = 0) → (tk_X8_layCycle_27 K9 a2 a2 h)) ∧ ((¬ (h.1 21 a2.toNatClampNeg) = 0) → (tk_X8_layCycle_27 K9 a2 a1 h)))))
def fn_X8_layCycle  (h : z_H) : z_R := fn_X8_layCycle_9 2000 (-1) (nI 8) ((fn_X8_layTree  h).2)
def tk_X8_layCycle  (h : z_H) : Prop := tk_X8_layTree  h ∧ (tk_X8_layCycle_9 2000 (-1) (nI 8) ((fn_X8_layTree  h).2))
set_option maxHeartbeats 4000000 in
set_option maxRecDepth 100000 in
theorem sp_X8_layCycle (l : Launch) (ext : z_Sh)  (h : z_H)   (T : tk_X8_layCycle  h) : z_Sp l 5 yX8_layCycle cX8_layCycle 4 none [.ref 20] (z_m ext) h (z_PV (fn_X8_layCycle  h)) := by
  refine z_enter ft_X8 (by decide +kernel) fo_X8 (Nat.le_of_ble_eq_true rfl) ?_
  intro p e R s m args below meth c D dA ad hB
  have hC := hB.1
  have hN := hB.2.1
  have hR := hB.2.2.1
  unfold tk_X8_layCycle at T; have E : (fn_X8_layCycle_9 2000 (-1) (nI 8) ((fn_X8_layTree  h).2)) = fn_X8_layCycle  h := rfl
  generalize fn_X8_layCycle  h = RR at E ⊢
  have P27 : ∀ (k9 : Int32 → Int32 → z_H → z_R) (K9 : Int32 → Int32 → z_H → Prop) (hk9 : ∀ (a1 : Int32) (a2 : Int32) (h : z_H), K9 a1 a2 h → k9 a1 a2 h = RR → z_G p l e R s m args below meth c D dA ad 4 (z_PV RR) (z_m ext) 9 [some (.ref 20), some (.int a1), some (.int a2), none] [] h), ∀ (a2 : Int32) (s0 : Int32) (h : z_H), tk_X8_layCycle_27 K9 a2 s0 h → fn_X8_layCycle_27 k9 a2 s0 h = RR → z_G p l e R s m args below meth c D dA ad 4 (z_PV RR) (z_m ext) 27 [some (.ref 20), none, some (.int a2), none] [.int s0] h := by
    intro k9 K9 hk9 a2 s0 h T E
    unfold tk_X8_layCycle_27 at T; unfold fn_X8_layCycle_27 at E
    refine z_go hC (pc' := 31) (ls' := [some (.ref 20), some (.int s0), some (.int (a2 + (z_bi (-1)))), none]) (st' := []) (h' := h) (cs := []) [.istore_n 1, .iinc 2 (-1)] (by decide +kernel) rfl rfl trivial ?_
    refine z_goto hC (off := -22) 9 (by decide +kernel) (by decide) ?_
    exact hk9 s0 (a2 + (z_bi (-1))) h T E
  have P86 : ∀ (k47 : Int32 → Int32 → Int32 → z_H → z_R) (K47 : Int32 → Int32 → Int32 → z_H → Prop) (hk47 : ∀ (a1 : Int32) (a2 : Int32) (a3 : Int32) (h : z_H), K47 a1 a2 a3 h → k47 a1 a2 a3 h = RR → z_G p l e R s m args below meth c D dA ad 4 (z_PV RR) (z_m ext) 47 [some (.ref 20), some (.int a1), some (.int a2), some (.int a3)] [] h), ∀ (a1 : Int32) (a3 : Int32) (s0 : Int32) (h : z_H), tk_X8_layCycle_86 K47 a1 a3 s0 h → fn_X8_layCycle_86 k47 a1 a3 s0 h = RR → z_G p l e R s m args below meth c D dA ad 4 (z_PV RR) (z_m ext) 86 [some (.ref 20), some (.int a1), none, some (.int a3)] [.int s0] h := by
    intro k47 K47 hk47 a1 a3 s0 h T E
    unfold tk_X8_layCycle_86 at T; unfold fn_X8_layCycle_86 at E
    refine z_go hC (pc' := 90) (ls' := [some (.ref 20), some (.int a1), some (.int s0), some (.int (a3 + (nI 1)))]) (st' := []) (h' := h) (cs := []) [.istore_n 2, .iinc 3 1] (by decide +kernel) rfl rfl trivial ?_
    refine z_goto hC (off := -43) 47 (by decide +kernel) (by decide) ?_
    exact hk47 a1 s0 (a3 + (nI 1)) h T E
  have P81 : ∀ (k47 : Int32 → Int32 → Int32 → z_H → z_R) (K47 : Int32 → Int32 → Int32 → z_H → Prop) (hk47 : ∀ (a1 : Int32) (a2 : Int32) (a3 : Int32) (h : z_H), K47 a1 a2 a3 h → k47 a1 a2 a3 h = RR → z_G p l e R s m args below meth c D dA ad 4 (z_PV RR) (z_m ext) 47 [some (.ref 20), some (.int a1), some (.int a2), some (.int a3)] [] h), ∀ (a1 : Int32) (a3 : Int32) (h : z_H), tk_X8_layCycle_81 K47 a1 a3 h → fn_X8_layCycle_81 k47 a1 a3 h = RR → z_G p l e R s m args below meth c D dA ad 4 (z_PV RR) (z_m ext) 81 [some (.ref 20), some (.int a1), none, some (.int a3)] [] h := by
    intro k47 K47 hk47 a1 a3 h T E
    unfold tk_X8_layCycle_81 at T; unfold fn_X8_layCycle_81 at E
    refine z_go hC (pc' := 82) (ls' := [some (.ref 20), some (.int a1), none, some (.int a3)]) (st' := [.int (nI 1)]) (h' := h) (cs := []) [.iconst 1] (by decide +kernel) rfl rfl trivial ?_
    refine z_goto hC (off := 4) 86 (by decide +kernel) (by decide) ?_
    exact P86 _ _ hk47 a1 a3 (nI 1) h T E
  have P85 : ∀ (k47 : Int32 → Int32 → Int32 → z_H → z_R) (K47 : Int32 → Int32 → Int32 → z_H → Prop) (hk47 : ∀ (a1 : Int32) (a2 : Int32) (a3 : Int32) (h : z_H), K47 a1 a2 a3 h → k47 a1 a2 a3 h = RR → z_G p l e R s m args below meth c D dA ad 4 (z_PV RR) (z_m ext) 47 [some (.ref 20), some (.int a1), some (.int a2), some (.int a3)] [] h), ∀ (a1 : Int32) (a3 : Int32) (h : z_H), tk_X8_layCycle_85 K47 a1 a3 h → fn_X8_layCycle_85 k47 a1 a3 h = RR → z_G p l e R s m args below meth c D dA ad 4 (z_PV RR) (z_m ext) 85 [some (.ref 20), some (.int a1), none, some (.int a3)] [] h := by
    intro k47 K47 hk47 a1 a3 h T E
    unfold tk_X8_layCycle_85 at T; unfold fn_X8_layCycle_85 at E
    refine z_go hC (pc' := 86) (ls' := [some (.ref 20), some (.int a1), none, some (.int a3)]) (st' := [.int (nI 0)]) (h' := h) (cs := []) [.iconst 0] (by decide +kernel) rfl rfl trivial ?_
    exact P86 _ _ hk47 a1 a3 (nI 0) h T E
  have P138 : ∀ (n : Nat), ∀ (a3 : Int32) (h : z_H), tk_X8_layCycle_138  n a3 h → fn_X8_layCycle_138  n a3 h = RR → z_G p l e R s m args below meth c D dA ad 4 (z_PV RR) (z_m ext) 138 [some (.ref 20), none, none, some (.int a3)] [] h := by
    intro  n
    induction n with
    | zero => intro a3 h T E; exact False.elim T
    | succ n ih =>
      intro a3 h T E
      unfold tk_X8_layCycle_138 at T; unfold fn_X8_layCycle_138 at E; dsimp only at T E
      have hk138 := ih
      obtain ⟨t1, T⟩ := T
      refine z_go hC (pc' := 145) (ls' := [some (.ref 20), none, none, some (.int a3)]) (st' := [.int (-1), .int (h.1 25 a3.toNatClampNeg)]) (h' := h) (cs := [vp_in a3 36]) [.aload_n 0, .getfield 23, .iload_n 3, .iaload, .iconst (-1)] (by decide +kernel) rfl rfl t1 ?_
      refine z_icmp_ne hC (off := 42) 187 (by decide +kernel) (by decide) (fun c2 => ?_) (fun c2 => ?_)
      · skip
        have E := (if_neg c2).symm.trans E
        have T := T.2 c2
        exact z_ret_v hB rfl (by decide +kernel) (z_lfv E)
      · skip
        have E := (if_pos c2).symm.trans E
        have T := T.1 c2
        obtain ⟨t3, t4, T⟩ := T
        refine z_go hC (pc' := 180) (ls' := [some (.ref 20), none, none, some (.int a3)]) (st' := [.int a3, .ref 20]) (h' := z_set (z_set (z_set h 25 a3.toNatClampNeg (h.1 20 7)) 26 ((h.1 20 7).toNatClampNeg) a3) 20 7 ((h.1 20 7) + (nI 1))) (cs := [vp_in a3 36, vp_in (h.1 20 7) 36]) [.aload_n 0, .getfield 23, .iload_n 3, .aload_n 0, .getfield 81, .iastore, .aload_n 0, .getfield 26, .aload_n 0, .getfield 81, .iload_n 3, .iastore, .aload_n 0, .dup, .getfield 81, .iconst 1, .iadd, .putfield 81, .aload_n 0, .iload_n 3] (by decide +kernel) rfl rfl ⟨t3, t4⟩ ?_
        obtain ⟨t8, T⟩ := T
        refine z_callV hC hN hR (as := [.int a3]) (rest := []) ok_X8_84 (by decide +kernel) (sp_X8_next l _ (z_set (z_set (z_set h 25 a3.toNatClampNeg (h.1 20 7)) 26 ((h.1 20 7).toNatClampNeg) a3) 20 7 ((h.1 20 7) + (nI 1))) a3 t8) rfl rfl (Nat.le_of_ble_eq_true rfl) rfl rfl (Nat.le_of_ble_eq_true rfl) ⟨Nat.zero_le _, Nat.zero_le _⟩ (fun r5 h6 q7 => z_fun q7 ?_)
        refine z_go hC (pc' := 184) (ls' := [some (.ref 20), none, none, some (.int (z_vi0 (fn_X8_next a3 (z_set (z_set (z_set h 25 a3.toNatClampNeg (h.1 20 7)) 26 ((h.1 20 7).toNatClampNeg) a3) 20 7 ((h.1 20 7) + (nI 1))))))]) (st' := []) (h' := z_set (z_set (z_set h 25 a3.toNatClampNeg (h.1 20 7)) 26 ((h.1 20 7).toNatClampNeg) a3) 20 7 ((h.1 20 7) + (nI 1))) (cs := []) [.istore_n 3] (by decide +kernel) rfl rfl trivial ?_
        refine z_goto hC (off := -46) 138 (by decide +kernel) (by decide) ?_
        exact hk138 (z_vi0 (fn_X8_next a3 (z_set (z_set (z_set h 25 a3.toNatClampNeg (h.1 20 7)) 26 ((h.1 20 7).toNatClampNeg) a3) 20 7 ((h.1 20 7) + (nI 1))))) (z_set (z_set (z_set h 25 a3.toNatClampNeg (h.1 20 7)) 26 ((h.1 20 7).toNatClampNeg) a3) 20 7 ((h.1 20 7) + (nI 1))) T E
  have P95 : ∀ (n : Nat), ∀ (a1 : Int32) (a2 : Int32) (a3 : Int32) (h : z_H), tk_X8_layCycle_95  n a1 a2 a3 h → fn_X8_layCycle_95  n a1 a2 a3 h = RR → z_G p l e R s m args below meth c D dA ad 4 (z_PV RR) (z_m ext) 95 [some (.ref 20), some (.int a1), some (.int a2), some (.int a3)] [] h := by
    intro  n
    induction n with
    | zero => intro a1 a2 a3 h T E; exact False.elim T
    | succ n ih =>
      intro a1 a2 a3 h T E
      unfold tk_X8_layCycle_95 at T; unfold fn_X8_layCycle_95 at E; dsimp only at T E
      have hk95 := ih
      refine z_go hC (pc' := 98) (ls' := [some (.ref 20), some (.int a1), some (.int a2), some (.int a3)]) (st' := [.int (nI 36), .int a3]) (h' := h) (cs := []) [.iload_n 3, .bipush 36] (by decide +kernel) rfl rfl trivial ?_
      refine z_icmp_ge hC (off := 16) 114 (by decide +kernel) (by decide) (fun c9 => ?_) (fun c9 => ?_)
      · skip
        have E := (if_pos c9).symm.trans E
        have T := T.1 c9
        refine z_go hC (pc' := 120) (ls' := [some (.ref 20), some (.int a1), some (.int a2), some (.int a3)]) (st' := [.int a2]) (h' := z_set h 20 7 (nI 0)) (cs := []) [.aload_n 0, .iconst 0, .putfield 81, .iload_n 2] (by decide +kernel) rfl rfl trivial ?_
        refine z_if_eq hC (off := 67) 187 (by decide +kernel) (by decide) (fun c10 => ?_) (fun c10 => ?_)
        · skip
          have E := (if_pos c10).symm.trans E
          have T := T.1 c10
          exact z_ret_v hB rfl (by decide +kernel) (z_lfv E)
        · skip
          have E := (if_neg c10).symm.trans E
          have T := T.2 c10
          refine z_go hC (pc' := 138) (ls' := [some (.ref 20), some (.int a1), some (.int a2), some (.int ((((a1 / (nI 3)) * (nI 2)) * (nI 6)) + ((a1 - a1 / (nI 3) * (nI 3)) * (nI 2))))]) (st' := []) (h' := z_set h 20 7 (nI 0)) (cs := [¬ (nI 3) = 0, ¬ (nI 3) = 0]) [.iload_n 1, .iconst 3, .idiv, .iconst 2, .imul, .bipush 6, .imul, .iload_n 1, .iconst 3, .irem, .iconst 2, .imul, .iadd, .istore_n 3] (by decide +kernel) rfl rfl ⟨(show ¬ (nI 3) = 0 by decide), (show ¬ (nI 3) = 0 by decide)⟩ ?_
          refine z_less (ls' := [some (.ref 20), none, none, some (.int ((((a1 / (nI 3)) * (nI 2)) * (nI 6)) + ((a1 - a1 / (nI 3) * (nI 3)) * (nI 2))))]) (by simp [z_sub]) ?_
          exact P138 2000 ((((a1 / (nI 3)) * (nI 2)) * (nI 6)) + ((a1 - a1 / (nI 3) * (nI 3)) * (nI 2))) (z_set h 20 7 (nI 0)) T E
      · skip
        have E := (if_neg c9).symm.trans E
        have T := T.2 c9
        obtain ⟨t11, T⟩ := T
        refine z_go hC (pc' := 111) (ls' := [some (.ref 20), some (.int a1), some (.int a2), some (.int (a3 + (nI 1)))]) (st' := []) (h' := z_set h 25 a3.toNatClampNeg (-1)) (cs := [vp_in a3 36]) [.aload_n 0, .getfield 23, .iload_n 3, .iconst (-1), .iastore, .iinc 3 1] (by decide +kernel) rfl rfl t11 ?_
        refine z_goto hC (off := -16) 95 (by decide +kernel) (by decide) ?_
        exact hk95 a1 a2 (a3 + (nI 1)) (z_set h 25 a3.toNatClampNeg (-1)) T E
  have P47 : ∀ (n : Nat), ∀ (a1 : Int32) (a2 : Int32) (a3 : Int32) (h : z_H), tk_X8_layCycle_47  n a1 a2 a3 h → fn_X8_layCycle_47  n a1 a2 a3 h = RR → z_G p l e R s m args below meth c D dA ad 4 (z_PV RR) (z_m ext) 47 [some (.ref 20), some (.int a1), some (.int a2), some (.int a3)] [] h := by
    intro  n
    induction n with
    | zero => intro a1 a2 a3 h T E; exact False.elim T
    | succ n ih =>
      intro a1 a2 a3 h T E
      unfold tk_X8_layCycle_47 at T; unfold fn_X8_layCycle_47 at E; dsimp only at T E
      have hk47 := ih
      refine z_go hC (pc' := 50) (ls' := [some (.ref 20), some (.int a1), some (.int a2), some (.int a3)]) (st' := [.int (nI 9), .int a3]) (h' := h) (cs := []) [.iload_n 3, .bipush 9] (by decide +kernel) rfl rfl trivial ?_
      refine z_icmp_ge hC (off := 43) 93 (by decide +kernel) (by decide) (fun c12 => ?_) (fun c12 => ?_)
      · skip
        have E := (if_pos c12).symm.trans E
        have T := T.1 c12
        refine z_go hC (pc' := 95) (ls' := [some (.ref 20), some (.int a1), some (.int a2), some (.int (nI 0))]) (st' := []) (h' := h) (cs := []) [.iconst 0, .istore_n 3] (by decide +kernel) rfl rfl trivial ?_
        exact P95 2000 a1 a2 (nI 0) h T E
      · skip
        have E := (if_neg c12).symm.trans E
        have T := T.2 c12
        refine z_go hC (pc' := 54) (ls' := [some (.ref 20), some (.int a1), some (.int a2), some (.int a3)]) (st' := [.int a2]) (h' := h) (cs := []) [.iload_n 2] (by decide +kernel) rfl rfl trivial ?_
        refine z_if_eq hC (off := 31) 85 (by decide +kernel) (by decide) (fun c13 => ?_) (fun c13 => ?_)
        · skip
          have E := (if_pos c13).symm.trans E
          have T := T.1 c13
          refine z_less (ls' := [some (.ref 20), some (.int a1), none, some (.int a3)]) (by simp [z_sub]) ?_
          exact P85 _ _ hk47 a1 a3 h T E
        · skip
          have E := (if_neg c13).symm.trans E
          have T := T.2 c13
          obtain ⟨t14, T⟩ := T
          refine z_go hC (pc' := 63) (ls' := [some (.ref 20), some (.int a1), some (.int a2), some (.int a3)]) (st' := [.int (h.1 21 a3.toNatClampNeg)]) (h' := h) (cs := [vp_in a3 9]) [.aload_n 0, .getfield 7, .iload_n 3, .baload] (by decide +kernel) rfl rfl t14 ?_
          refine z_if_ne hC (off := 18) 81 (by decide +kernel) (by decide) (fun c15 => ?_) (fun c15 => ?_)
          · skip
            have E := (if_neg c15).symm.trans E
            have T := T.2 c15
            refine z_less (ls' := [some (.ref 20), some (.int a1), none, some (.int a3)]) (by simp [z_sub]) ?_
            exact P81 _ _ hk47 a1 a3 h T E
          · skip
            have E := (if_pos c15).symm.trans E
            have T := T.1 c15
            obtain ⟨t16, t17, T⟩ := T
            refine z_go hC (pc' := 78) (ls' := [some (.ref 20), some (.int a1), some (.int a2), some (.int a3)]) (st' := [.int (h.1 24 a1.toNatClampNeg), .int (h.1 24 a3.toNatClampNeg)]) (h' := h) (cs := [vp_in a3 9, vp_in a1 9]) [.aload_n 0, .getfield 20, .iload_n 3, .iaload, .aload_n 0, .getfield 20, .iload_n 1, .iaload] (by decide +kernel) rfl rfl ⟨t16, t17⟩ ?_
            refine z_icmp_ne hC (off := 7) 85 (by decide +kernel) (by decide) (fun c18 => ?_) (fun c18 => ?_)
            · skip
              have E := (if_neg c18).symm.trans E
              have T := T.2 c18
              refine z_less (ls' := [some (.ref 20), some (.int a1), none, some (.int a3)]) (by simp [z_sub]) ?_
              exact P85 _ _ hk47 a1 a3 h T E
            · skip
              have E := (if_pos c18).symm.trans E
              have T := T.1 c18
              refine z_less (ls' := [some (.ref 20), some (.int a1), none, some (.int a3)]) (by simp [z_sub]) ?_
              exact P81 _ _ hk47 a1 a3 h T E
  have P44 : ∀ (a1 : Int32) (s0 : Int32) (h : z_H), tk_X8_layCycle_44  a1 s0 h → fn_X8_layCycle_44  a1 s0 h = RR → z_G p l e R s m args below meth c D dA ad 4 (z_PV RR) (z_m ext) 44 [some (.ref 20), some (.int a1), none, none] [.int s0] h := by
    intro  a1 s0 h T E
    unfold tk_X8_layCycle_44 at T; unfold fn_X8_layCycle_44 at E
    refine z_go hC (pc' := 47) (ls' := [some (.ref 20), some (.int a1), some (.int s0), some (.int (nI 0))]) (st' := []) (h' := h) (cs := []) [.istore_n 2, .iconst 0, .istore_n 3] (by decide +kernel) rfl rfl trivial ?_
    exact P47 2000 a1 s0 (nI 0) h T E
  have P9 : ∀ (n : Nat), ∀ (a1 : Int32) (a2 : Int32) (h : z_H), tk_X8_layCycle_9  n a1 a2 h → fn_X8_layCycle_9  n a1 a2 h = RR → z_G p l e R s m args below meth c D dA ad 4 (z_PV RR) (z_m ext) 9 [some (.ref 20), some (.int a1), some (.int a2), none] [] h := by
    intro  n
    induction n with
    | zero => intro a1 a2 h T E; exact False.elim T
    | succ n ih =>
      intro a1 a2 h T E
      unfold tk_X8_layCycle_9 at T; unfold fn_X8_layCycle_9 at E; dsimp only at T E
      have hk9 := ih
      refine z_go hC (pc' := 10) (ls' := [some (.ref 20), some (.int a1), some (.int a2), none]) (st' := [.int a2]) (h' := h) (cs := []) [.iload_n 2] (by decide +kernel) rfl rfl trivial ?_
      refine z_if_lt hC (off := 24) 34 (by decide +kernel) (by decide) (fun c19 => ?_) (fun c19 => ?_)
      · skip
        have E := (if_pos c19).symm.trans E
        have T := T.1 c19
        refine z_go hC (pc' := 36) (ls' := [some (.ref 20), some (.int a1), some (.int a2), none]) (st' := [.int (-1), .int a1]) (h' := h) (cs := []) [.iload_n 1, .iconst (-1)] (by decide +kernel) rfl rfl trivial ?_
        refine z_icmp_eq hC (off := 7) 43 (by decide +kernel) (by decide) (fun c20 => ?_) (fun c20 => ?_)
        · skip
          have E := (if_pos c20).symm.trans E
          have T := T.1 c20
          refine z_go hC (pc' := 44) (ls' := [some (.ref 20), some (.int a1), some (.int a2), none]) (st' := [.int (nI 0)]) (h' := h) (cs := []) [.iconst 0] (by decide +kernel) rfl rfl trivial ?_
          refine z_less (ls' := [some (.ref 20), some (.int a1), none, none]) (by simp [z_sub]) ?_
          exact P44  a1 (nI 0) h T E
        · skip
          have E := (if_neg c20).symm.trans E
          have T := T.2 c20
          refine z_go hC (pc' := 40) (ls' := [some (.ref 20), some (.int a1), some (.int a2), none]) (st' := [.int (nI 1)]) (h' := h) (cs := []) [.iconst 1] (by decide +kernel) rfl rfl trivial ?_
          refine z_goto hC (off := 4) 44 (by decide +kernel) (by decide) ?_
          refine z_less (ls' := [some (.ref 20), some (.int a1), none, none]) (by simp [z_sub]) ?_
          exact P44  a1 (nI 1) h T E
      · skip
        have E := (if_neg c19).symm.trans E
        have T := T.2 c19
        obtain ⟨t21, T⟩ := T
        refine z_go hC (pc' := 19) (ls' := [some (.ref 20), some (.int a1), some (.int a2), none]) (st' := [.int (h.1 21 a2.toNatClampNeg)]) (h' := h) (cs := [vp_in a2 9]) [.aload_n 0, .getfield 7, .iload_n 2, .baload] (by decide +kernel) rfl rfl t21 ?_
        refine z_if_eq hC (off := 7) 26 (by decide +kernel) (by decide) (fun c22 => ?_) (fun c22 => ?_)
        · skip
          have E := (if_pos c22).symm.trans E
          have T := T.1 c22
          refine z_go hC (pc' := 27) (ls' := [some (.ref 20), some (.int a1), some (.int a2), none]) (st' := [.int a2]) (h' := h) (cs := []) [.iload_n 2] (by decide +kernel) rfl rfl trivial ?_
          refine z_less (ls' := [some (.ref 20), none, some (.int a2), none]) (by simp [z_sub]) ?_
          exact P27 _ _ hk9 a2 a2 h T E
        · skip
          have E := (if_neg c22).symm.trans E
          have T := T.2 c22
          refine z_go hC (pc' := 23) (ls' := [some (.ref 20), some (.int a1), some (.int a2), none]) (st' := [.int a1]) (h' := h) (cs := []) [.iload_n 1] (by decide +kernel) rfl rfl trivial ?_
          refine z_goto hC (off := 4) 27 (by decide +kernel) (by decide) ?_
          refine z_less (ls' := [some (.ref 20), none, some (.int a2), none]) (by simp [z_sub]) ?_
          exact P27 _ _ hk9 a2 a1 h T E
  refine z_go hC (pc' := 3) (ls' := [some (.ref 20), some (.int (-1)), none, none]) (st' := [.ref 20]) (h' := h) (cs := []) [.iconst (-1), .istore_n 1, .aload_n 0] (by decide +kernel) rfl rfl trivial ?_
  obtain ⟨t26, T⟩ := T
  refine z_callV hC hN hR (as := []) (rest := []) ok_X8_78 (by decide +kernel) (sp_X8_layTree l _ h  t26) rfl rfl (Nat.le_of_ble_eq_true rfl) rfl rfl (Nat.le_of_ble_eq_true rfl) ⟨Nat.zero_le _, Nat.zero_le _⟩ (fun r23 h24 q25 => z_fun q25 ?_)
  refine z_go hC (pc' := 9) (ls' := [some (.ref 20), some (.int (-1)), some (.int (nI 8)), none]) (st' := []) (h' := (fn_X8_layTree  h).2) (cs := []) [.bipush 8, .istore_n 2] (by decide +kernel) rfl rfl trivial ?_
  exact P9 2000 (-1) (nI 8) ((fn_X8_layTree  h).2) T E
