/-! ===== printed by wip/p27/gen: methods with loops, as functions ===== -/
def fv_J9_max_7cf53 (x : Int32) (y : Int32) : Int32 := if x < y then y else x
set_option maxHeartbeats 4000000 in
set_option maxRecDepth 100000 in
theorem sp_J9_max_7cf53 (l : Launch) (sh : z_Sh) (h : z_H) (x : Int32) (y : Int32)  : z_Sp l 0 yJ9_max_7cf53 cJ9_max_7cf53 2 (some .int) [.int x, .int y] (sh) h (fun rv h' => rv = some (.int (fv_J9_max_7cf53 x y)) ∧ h' = h) := by
  refine z_enter ft_J9 (by decide +kernel) fo_J9 (Nat.le_of_ble_eq_true rfl) ?_
  intro p e R s m args below meth c D dA ad hB
  have hC := hB.1
  have hN := hB.2.1
  have hR := hB.2.2.1
  refine z_go hC (pc' := 2) (ls' := [some (.int x), some (.int y)]) (st' := [.int y, .int x]) (h' := h) (cs := []) [.iload_n 0, .iload_n 1] (by decide +kernel) rfl rfl trivial ?_
  refine z_icmp_lt hC (off := 7) 9 (by decide +kernel) (by decide) (fun c1 => ?_) (fun c1 => ?_)
  · skip
    refine z_go hC (pc' := 10) (ls' := [some (.int x), some (.int y)]) (st' := [.int y]) (h' := h) (cs := []) [.iload_n 1] (by decide +kernel) rfl rfl trivial ?_
    exact z_ret_i hB rfl (by decide +kernel) ⟨by rw [fv_J9_max_7cf53, if_pos c1], rfl⟩
  · skip
    refine z_go hC (pc' := 6) (ls' := [some (.int x), some (.int y)]) (st' := [.int x]) (h' := h) (cs := []) [.iload_n 0] (by decide +kernel) rfl rfl trivial ?_
    refine z_goto hC (off := 4) 10 (by decide +kernel) (by decide) ?_
    exact z_ret_i hB rfl (by decide +kernel) ⟨by rw [fv_J9_max_7cf53, if_neg c1], rfl⟩

def fn_X5_wayOfBody_12 (h : z_H)  : Nat → Int32 → Int32 → (Option Value)
  | 0, _, _ => none
  | n + 1, a1, a2 => let k12 := fun (a1_ : Int32) (a2_ : Int32) => fn_X5_wayOfBody_12 h  n a1_ a2_; if a2 ≤ 0 then some (.int a1) else k12 (a1 + (fv_X2_wayBetween h (h.1 11 ((((h.1 10 4) + a2) &&& (nI 63)).toNatClampNeg)) (h.1 11 ((((h.1 10 4) + (a2 - (nI 1))) &&& (nI 63)).toNatClampNeg)))) (a2 + (z_bi (-1)))
def tk_X5_wayOfBody_12 (h : z_H)  : Nat → Int32 → Int32 → Prop
  | 0, _, _ => False
  | n + 1, a1, a2 => let K12 := fun (a1_ : Int32) (a2_ : Int32) => tk_X5_wayOfBody_12 h  n a1_ a2_; ((a2 ≤ 0) → (True)) ∧ ((¬ a2 ≤ 0) → (K12 (a1 + (fv_X2_wayBetween h (h.1 11 ((((h.1 10 4) + a2) &&& (nI 63)).toNatClampNeg)) (h.1 11 ((((h.1 10 4) + (a2 - (nI 1))) &&& (nI 63)).toNatClampNeg)))) (a2 + (z_bi (-1)))))
def fn_X5_wayOfBody  (h : z_H) : (Option Value) := fn_X5_wayOfBody_12 h 2000 (nI 0) ((h.1 10 5) - (nI 1))
def tk_X5_wayOfBody  (h : z_H) : Prop := tk_X5_wayOfBody_12 h 2000 (nI 0) ((h.1 10 5) - (nI 1))
set_option maxHeartbeats 4000000 in
set_option maxRecDepth 100000 in
theorem sp_X5_wayOfBody (l : Launch) (ext : z_Sh)  (h : z_H)   (T : tk_X5_wayOfBody  h) : z_Sp l 2 yX5_wayOfBody cX5_wayOfBody 3 (some .int) [.ref 13] (z_c ext) h (z_QI h (fn_X5_wayOfBody  h)) := by
  refine z_enter ft_X5 (by decide +kernel) fo_X5 (Nat.le_of_ble_eq_true rfl) ?_
  intro p e R s m args below meth c D dA ad hB
  have hC := hB.1
  have hN := hB.2.1
  have hR := hB.2.2.1
  unfold tk_X5_wayOfBody at T; have E : (fn_X5_wayOfBody_12 h 2000 (nI 0) ((h.1 10 5) - (nI 1))) = fn_X5_wayOfBody  h := rfl
  generalize fn_X5_wayOfBody  h = RR at E ⊢
  have P12 : ∀ (n : Nat), ∀ (a1 : Int32) (a2 : Int32), tk_X5_wayOfBody_12 h  n a1 a2 → fn_X5_wayOfBody_12 h  n a1 a2 = RR → z_G p l e R s m args below meth c D dA ad 3 (z_QI h RR) (z_c ext) 12 [some (.ref 13), some (.int a1), some (.int a2)] [] h := by
    intro  n
    induction n with
    | zero => intro a1 a2 T E; exact False.elim T
    | succ n ih =>
      intro a1 a2 T E
      unfold tk_X5_wayOfBody_12 at T; unfold fn_X5_wayOfBody_12 at E; dsimp only at T E
      have hk12 := ih
      refine z_go hC (pc' := 13) (ls' := [some (.ref 13), some (.int a1), some (.int a2)]) (st' := [.int a2]) (h' := h) (cs := []) [.iload_n 2] (by decide +kernel) rfl rfl trivial ?_
      refine z_if_le hC (off := 37) 50 (by decide +kernel) (by decide) (fun c1 => ?_) (fun c1 => ?_)
      · skip
        have E := (if_pos c1).symm.trans E
        have T := T.1 c1
        refine z_go hC (pc' := 51) (ls' := [some (.ref 13), some (.int a1), some (.int a2)]) (st' := [.int a1]) (h' := h) (cs := []) [.iload_n 1] (by decide +kernel) rfl rfl trivial ?_
        exact z_ret_i hB rfl (by decide +kernel) (z_lfi0 E)
      · skip
        have E := (if_neg c1).symm.trans E
        have T := T.2 c1
        refine z_go hC (pc' := 26) (ls' := [some (.ref 13), some (.int a1), some (.int a2)]) (st' := [.int a2, .ref 10, .ref 4, .int a1]) (h' := h) (cs := []) [.iload_n 1, .aload_n 0, .getfield 9, .aload_n 0, .getfield 19, .iload_n 2] (by decide +kernel) rfl rfl trivial ?_
        refine z_callV hC hN hR (as := [.int a2]) (rest := [.ref 4, .int a1]) ok_X5_40 (by decide +kernel) (sp_X6_cellOf l _ h a2) rfl rfl (Nat.le_of_ble_eq_true rfl) rfl rfl (Nat.le_of_ble_eq_true rfl) ⟨Nat.zero_le _, Nat.zero_le _⟩ (fun r2 h3 q4 => z_fun q4 ?_)
        refine z_go hC (pc' := 36) (ls' := [some (.ref 13), some (.int a1), some (.int a2)]) (st' := [.int (a2 - (nI 1)), .ref 10, .int (h.1 11 ((((h.1 10 4) + a2) &&& (nI 63)).toNatClampNeg)), .ref 4, .int a1]) (h' := h) (cs := []) [.aload_n 0, .getfield 19, .iload_n 2, .iconst 1, .isub] (by decide +kernel) rfl rfl trivial ?_
        refine z_callV hC hN hR (as := [.int (a2 - (nI 1))]) (rest := [.int (h.1 11 ((((h.1 10 4) + a2) &&& (nI 63)).toNatClampNeg)), .ref 4, .int a1]) ok_X5_40 (by decide +kernel) (sp_X6_cellOf l _ h (a2 - (nI 1))) rfl rfl (Nat.le_of_ble_eq_true rfl) rfl rfl (Nat.le_of_ble_eq_true rfl) ⟨Nat.zero_le _, Nat.zero_le _⟩ (fun r5 h6 q7 => z_fun q7 ?_)
        refine z_callV hC hN hR (as := [.int (h.1 11 ((((h.1 10 4) + a2) &&& (nI 63)).toNatClampNeg)), .int (h.1 11 ((((h.1 10 4) + (a2 - (nI 1))) &&& (nI 63)).toNatClampNeg))]) (rest := [.int a1]) ok_X5_44 (by decide +kernel) (sp_X2_wayBetween l _ h (h.1 11 ((((h.1 10 4) + a2) &&& (nI 63)).toNatClampNeg)) (h.1 11 ((((h.1 10 4) + (a2 - (nI 1))) &&& (nI 63)).toNatClampNeg))) rfl rfl (Nat.le_of_ble_eq_true rfl) rfl rfl (Nat.le_of_ble_eq_true rfl) ⟨Nat.zero_le _, Nat.zero_le _⟩ (fun r8 h9 q10 => z_fun q10 ?_)
        refine z_go hC (pc' := 47) (ls' := [some (.ref 13), some (.int (a1 + (fv_X2_wayBetween h (h.1 11 ((((h.1 10 4) + a2) &&& (nI 63)).toNatClampNeg)) (h.1 11 ((((h.1 10 4) + (a2 - (nI 1))) &&& (nI 63)).toNatClampNeg))))), some (.int (a2 + (z_bi (-1))))]) (st' := []) (h' := h) (cs := []) [.iadd, .istore_n 1, .iinc 2 (-1)] (by decide +kernel) rfl rfl trivial ?_
        refine z_goto hC (off := -35) 12 (by decide +kernel) (by decide) ?_
        exact hk12 (a1 + (fv_X2_wayBetween h (h.1 11 ((((h.1 10 4) + a2) &&& (nI 63)).toNatClampNeg)) (h.1 11 ((((h.1 10 4) + (a2 - (nI 1))) &&& (nI 63)).toNatClampNeg)))) (a2 + (z_bi (-1))) T E
  refine z_go hC (pc' := 6) (ls' := [some (.ref 13), some (.int (nI 0)), none]) (st' := [.ref 10]) (h' := h) (cs := []) [.iconst 0, .istore_n 1, .aload_n 0, .getfield 19] (by decide +kernel) rfl rfl trivial ?_
  refine z_callV hC hN hR (as := []) (rest := []) ok_X5_39 (by decide +kernel) (sp_X6_size l _ h ) rfl rfl (Nat.le_of_ble_eq_true rfl) rfl rfl (Nat.le_of_ble_eq_true rfl) ⟨Nat.zero_le _, Nat.zero_le _⟩ (fun r11 h12 q13 => z_fun q13 ?_)
  refine z_go hC (pc' := 12) (ls' := [some (.ref 13), some (.int (nI 0)), some (.int ((h.1 10 5) - (nI 1)))]) (st' := []) (h' := h) (cs := []) [.iconst 1, .isub, .istore_n 2] (by decide +kernel) rfl rfl trivial ?_
  exact P12 2000 (nI 0) ((h.1 10 5) - (nI 1)) T E

def fn_X5_seesOrder  (h : z_H) : (Option Value) := if (fv_X6_isThere h ) = 0 then some (.int (nI 0)) else if (fv_X2_isThere h ) = 0 then some (.int (nI 0)) else if (h.1 4 4) ≤ (z_vi0 (fn_X5_wayOfBody  h)) then some (.int (nI 0)) else some (.int (nI 1))
def tk_X5_seesOrder  (h : z_H) : Prop := (((fv_X6_isThere h ) = 0) → (True)) ∧ ((¬ (fv_X6_isThere h ) = 0) → ((((fv_X2_isThere h ) = 0) → (True)) ∧ ((¬ (fv_X2_isThere h ) = 0) → (tk_X5_wayOfBody  h))))
set_option maxHeartbeats 4000000 in
set_option maxRecDepth 100000 in
theorem sp_X5_seesOrder (l : Launch) (ext : z_Sh)  (h : z_H)   (T : tk_X5_seesOrder  h) : z_Sp l 3 yX5_seesOrder cX5_seesOrder 1 (some .boolean) [.ref 13] (z_c ext) h (z_QB h (fn_X5_seesOrder  h)) := by
  refine z_enter ft_X5 (by decide +kernel) fo_X5 (Nat.le_of_ble_eq_true rfl) ?_
  intro p e R s m args below meth c D dA ad hB
  have hC := hB.1
  have hN := hB.2.1
  have hR := hB.2.2.1
  unfold tk_X5_seesOrder at T; have E : (if (fv_X6_isThere h ) = 0 then some (.int (nI 0)) else if (fv_X2_isThere h ) = 0 then some (.int (nI 0)) else if (h.1 4 4) ≤ (z_vi0 (fn_X5_wayOfBody  h)) then some (.int (nI 0)) else some (.int (nI 1))) = fn_X5_seesOrder  h := rfl
  generalize fn_X5_seesOrder  h = RR at E ⊢
  refine z_go hC (pc' := 4) (ls' := [some (.ref 13)]) (st' := [.ref 10]) (h' := h) (cs := []) [.aload_n 0, .getfield 19] (by decide +kernel) rfl rfl trivial ?_
  refine z_callV hC hN hR (as := []) (rest := []) ok_X5_23 (by decide +kernel) (sp_X6_isThere l _ h ) rfl rfl (Nat.le_of_ble_eq_true rfl) rfl rfl (Nat.le_of_ble_eq_true rfl) ⟨Nat.zero_le _, Nat.zero_le _⟩ (fun r1 h2 q3 => z_fun q3 ?_)
  refine z_if_eq hC (off := 31) 38 (by decide +kernel) (by decide) (fun c4 => ?_) (fun c4 => ?_)
  · skip
    have E := (if_pos c4).symm.trans E
    have T := T.1 c4
    refine z_go hC (pc' := 39) (ls' := [some (.ref 13)]) (st' := [.int (nI 0)]) (h' := h) (cs := []) [.iconst 0] (by decide +kernel) rfl rfl trivial ?_
    exact z_ret_z hB rfl (show (nI 0 = 0 ∨ nI 0 = 1) by decide) (by decide +kernel) (z_lfb0 (show (nI 0 = 0 ∨ nI 0 = 1) by decide) E)
  · skip
    have E := (if_neg c4).symm.trans E
    have T := T.2 c4
    refine z_go hC (pc' := 14) (ls' := [some (.ref 13)]) (st' := [.ref 4]) (h' := h) (cs := []) [.aload_n 0, .getfield 9] (by decide +kernel) rfl rfl trivial ?_
    refine z_callV hC hN hR (as := []) (rest := []) ok_X5_29 (by decide +kernel) (sp_X2_isThere l _ h ) rfl rfl (Nat.le_of_ble_eq_true rfl) rfl rfl (Nat.le_of_ble_eq_true rfl) ⟨Nat.zero_le _, Nat.zero_le _⟩ (fun r5 h6 q7 => z_fun q7 ?_)
    refine z_if_eq hC (off := 21) 38 (by decide +kernel) (by decide) (fun c8 => ?_) (fun c8 => ?_)
    · skip
      have E := (if_pos c8).symm.trans E
      have T := T.1 c8
      refine z_go hC (pc' := 39) (ls' := [some (.ref 13)]) (st' := [.int (nI 0)]) (h' := h) (cs := []) [.iconst 0] (by decide +kernel) rfl rfl trivial ?_
      exact z_ret_z hB rfl (show (nI 0 = 0 ∨ nI 0 = 1) by decide) (by decide +kernel) (z_lfb0 (show (nI 0 = 0 ∨ nI 0 = 1) by decide) E)
    · skip
      have E := (if_neg c8).symm.trans E
      have T := T.2 c8
      refine z_go hC (pc' := 21) (ls' := [some (.ref 13)]) (st' := [.ref 13]) (h' := h) (cs := []) [.aload_n 0] (by decide +kernel) rfl rfl trivial ?_
      have t12 := T
      refine z_callV hC hN hR (as := []) (rest := []) ok_X5_32 (by decide +kernel) (sp_X5_wayOfBody l _ h  t12) rfl rfl (Nat.le_of_ble_eq_true rfl) rfl rfl (Nat.le_of_ble_eq_true rfl) ⟨Nat.zero_le _, Nat.zero_le _⟩ (fun r9 h10 q11 => z_fun q11 ?_)
      refine z_go hC (pc' := 28) (ls' := [some (.ref 13)]) (st' := [.ref 4, .int (z_vi0 (fn_X5_wayOfBody  h))]) (h' := h) (cs := []) [.aload_n 0, .getfield 9] (by decide +kernel) rfl rfl trivial ?_
      refine z_callV hC hN hR (as := []) (rest := [.int (z_vi0 (fn_X5_wayOfBody  h))]) ok_X5_36 (by decide +kernel) (sp_X2_size l _ h ) rfl rfl (Nat.le_of_ble_eq_true rfl) rfl rfl (Nat.le_of_ble_eq_true rfl) ⟨Nat.zero_le _, Nat.zero_le _⟩ (fun r13 h14 q15 => z_fun q15 ?_)
      refine z_icmp_ge hC (off := 7) 38 (by decide +kernel) (by decide) (fun c16 => ?_) (fun c16 => ?_)
      · skip
        have E := (if_pos c16).symm.trans E
        refine z_go hC (pc' := 39) (ls' := [some (.ref 13)]) (st' := [.int (nI 0)]) (h' := h) (cs := []) [.iconst 0] (by decide +kernel) rfl rfl trivial ?_
        exact z_ret_z hB rfl (show (nI 0 = 0 ∨ nI 0 = 1) by decide) (by decide +kernel) (z_lfb0 (show (nI 0 = 0 ∨ nI 0 = 1) by decide) E)
      · skip
        have E := (if_neg c16).symm.trans E
        refine z_go hC (pc' := 35) (ls' := [some (.ref 13)]) (st' := [.int (nI 1)]) (h' := h) (cs := []) [.iconst 1] (by decide +kernel) rfl rfl trivial ?_
        refine z_goto hC (off := 4) 39 (by decide +kernel) (by decide) ?_
        exact z_ret_z hB rfl (show (nI 1 = 0 ∨ nI 1 = 1) by decide) (by decide +kernel) (z_lfb0 (show (nI 1 = 0 ∨ nI 1 = 1) by decide) E)

def fn_X5_seesSafe_125  (s0 : Int32) (h : z_H) : z_R := (some (.int s0), fh_X6_takeBack h )
def tk_X5_seesSafe_125  (s0 : Int32) (h : z_H) : Prop := (s0 = 0 ∨ s0 = 1)
def fn_X5_seesSafe_124  (h : z_H) : z_R := fn_X5_seesSafe_125 (nI 0) h
def tk_X5_seesSafe_124  (h : z_H) : Prop := tk_X5_seesSafe_125 (nI 0) h
def fn_X5_seesSafe_66  (a2 : Int32) (s0 : Int32) (h : z_H) : z_R := if (z_vi0 (fn_X5_seesOrder  h)) = 0 then fn_X5_seesSafe_124 h else if s0 < (fv_X2_wayBetween h a2 (h.1 11 ((((h.1 10 4) + (nI 0)) &&& (nI 63)).toNatClampNeg))) then fn_X5_seesSafe_124 h else if (((h.1 4 4) - (nI 1)) - (z_vi0 (fn_X5_wayOfBody  h))) < (h.1 10 6) then fn_X5_seesSafe_124 h else fn_X5_seesSafe_125 (nI 1) h
def tk_X5_seesSafe_66  (a2 : Int32) (s0 : Int32) (h : z_H) : Prop := tk_X5_seesOrder  h ∧ ((((z_vi0 (fn_X5_seesOrder  h)) = 0) → (tk_X5_seesSafe_124 h)) ∧ ((¬ (z_vi0 (fn_X5_seesOrder  h)) = 0) → (((s0 < (fv_X2_wayBetween h a2 (h.1 11 ((((h.1 10 4) + (nI 0)) &&& (nI 63)).toNatClampNeg)))) → (tk_X5_seesSafe_124 h)) ∧ ((¬ s0 < (fv_X2_wayBetween h a2 (h.1 11 ((((h.1 10 4) + (nI 0)) &&& (nI 63)).toNatClampNeg)))) → (tk_X5_wayOfBody  h ∧ ((((((h.1 4 4) - (nI 1)) - (z_vi0 (fn_X5_wayOfBody  h))) < (h.1 10 6)) → (tk_X5_seesSafe_124 h)) ∧ ((¬ (((h.1 4 4) - (nI 1)) - (z_vi0 (fn_X5_wayOfBody  h))) < (h.1 10 6)) → (tk_X5_seesSafe_125 (nI 1) h))))))))
def fn_X5_seesSafe (x : Int32) (h : z_H) : z_R := if (fv_X3_firstCell h ) = (-1) then (some (.int (nI 0)), h) else if (z_vi0 (fn_X5_seesOrder  h)) = 0 then (some (.int (nI 0)), h) else if (fv_X6_advance h x) = 0 then (some (.int (nI 0)), fh_X6_advance h x) else if (fv_X3_firstCell h ) = (h.1 11 ((((h.1 10 4) + (nI 0)) &&& (nI 63)).toNatClampNeg)) then fn_X5_seesSafe_66 (h.1 11 ((((h.1 10 4) + (nI 0)) &&& (nI 63)).toNatClampNeg)) ((fh_X6_advance h x).1 4 4) (fh_X6_advance h x) else fn_X5_seesSafe_66 (h.1 11 ((((h.1 10 4) + (nI 0)) &&& (nI 63)).toNatClampNeg)) (fv_X2_wayBetween (fh_X6_advance h x) (h.1 11 ((((h.1 10 4) + (nI 0)) &&& (nI 63)).toNatClampNeg)) (fv_X3_firstCell h )) (fh_X6_advance h x)
def tk_X5_seesSafe (x : Int32) (h : z_H) : Prop := (((fv_X3_firstCell h ) = (-1)) → (True)) ∧ ((¬ (fv_X3_firstCell h ) = (-1)) → (tk_X5_seesOrder  h ∧ ((((z_vi0 (fn_X5_seesOrder  h)) = 0) → (True)) ∧ ((¬ (z_vi0 (fn_X5_seesOrder  h)) = 0) → ((((fv_X6_advance h x) = 0) → (True)) ∧ ((¬ (fv_X6_advance h x) = 0) → ((((fv_X3_firstCell h ) = (h.1 11 ((((h.1 10 4) + (nI 0)) &&& (nI 63)).toNatClampNeg))) → (tk_X5_seesSafe_66 (h.1 11 ((((h.1 10 4) + (nI 0)) &&& (nI 63)).toNatClampNeg)) ((fh_X6_advance h x).1 4 4) (fh_X6_advance h x))) ∧ ((¬ (fv_X3_firstCell h ) = (h.1 11 ((((h.1 10 4) + (nI 0)) &&& (nI 63)).toNatClampNeg))) → (tk_X5_seesSafe_66 (h.1 11 ((((h.1 10 4) + (nI 0)) &&& (nI 63)).toNatClampNeg)) (fv_X2_wayBetween (fh_X6_advance h x) (h.1 11 ((((h.1 10 4) + (nI 0)) &&& (nI 63)).toNatClampNeg)) (fv_X3_firstCell h )) (fh_X6_advance h x))))))))))
set_option maxHeartbeats 4000000 in
set_option maxRecDepth 100000 in
theorem sp_X5_seesSafe (l : Launch) (ext : z_Sh)  (h : z_H) (x : Int32)  (T : tk_X5_seesSafe x h) : z_Sp l 4 yX5_seesSafe cX5_seesSafe 6 (some .boolean) [.ref 13, .int x] (z_c ext) h (z_PB (fn_X5_seesSafe x h)) := by
  refine z_enter ft_X5 (by decide +kernel) fo_X5 (Nat.le_of_ble_eq_true rfl) ?_
  intro p e R s m args below meth c D dA ad hB
  have hC := hB.1
  have hN := hB.2.1
  have hR := hB.2.2.1
  unfold tk_X5_seesSafe at T; have E : (if (fv_X3_firstCell h ) = (-1) then (some (.int (nI 0)), h) else if (z_vi0 (fn_X5_seesOrder  h)) = 0 then (some (.int (nI 0)), h) else if (fv_X6_advance h x) = 0 then (some (.int (nI 0)), fh_X6_advance h x) else if (fv_X3_firstCell h ) = (h.1 11 ((((h.1 10 4) + (nI 0)) &&& (nI 63)).toNatClampNeg)) then fn_X5_seesSafe_66 (h.1 11 ((((h.1 10 4) + (nI 0)) &&& (nI 63)).toNatClampNeg)) ((fh_X6_advance h x).1 4 4) (fh_X6_advance h x) else fn_X5_seesSafe_66 (h.1 11 ((((h.1 10 4) + (nI 0)) &&& (nI 63)).toNatClampNeg)) (fv_X2_wayBetween (fh_X6_advance h x) (h.1 11 ((((h.1 10 4) + (nI 0)) &&& (nI 63)).toNatClampNeg)) (fv_X3_firstCell h )) (fh_X6_advance h x)) = fn_X5_seesSafe x h := rfl
  generalize fn_X5_seesSafe x h = RR at E ⊢
  have P125 : ∀ (s0 : Int32) (h : z_H), tk_X5_seesSafe_125  s0 h → fn_X5_seesSafe_125  s0 h = RR → z_G p l e R s m args below meth c D dA ad 6 (z_PB RR) (z_c ext) 125 [some (.ref 13), none, none, none, none, none] [.int s0] h := by
    intro  s0 h T E
    unfold tk_X5_seesSafe_125 at T; unfold fn_X5_seesSafe_125 at E
    refine z_go hC (pc' := 131) (ls' := [some (.ref 13), none, none, none, none, some (.int s0)]) (st' := [.ref 10]) (h' := h) (cs := []) [.istore 5, .aload_n 0, .getfield 19] (by decide +kernel) rfl rfl trivial ?_
    refine z_callV hC hN hR (as := []) (rest := []) ok_X5_63 (by decide +kernel) (sp_X6_takeBack l _ h ) rfl rfl (Nat.le_of_ble_eq_true rfl) rfl rfl (Nat.le_of_ble_eq_true rfl) ⟨Nat.zero_le _, Nat.zero_le _⟩ (fun r1 h2 q3 => z_fun q3 ?_)
    refine z_go hC (pc' := 136) (ls' := [some (.ref 13), none, none, none, none, some (.int s0)]) (st' := [.int s0]) (h' := fh_X6_takeBack h ) (cs := []) [.iload 5] (by decide +kernel) rfl rfl trivial ?_
    have t4 := T
    exact z_ret_z hB rfl t4 (by decide +kernel) (z_lfb t4 E)
  have P124 : ∀ (h : z_H), tk_X5_seesSafe_124  h → fn_X5_seesSafe_124  h = RR → z_G p l e R s m args below meth c D dA ad 6 (z_PB RR) (z_c ext) 124 [some (.ref 13), none, none, none, none, none] [] h := by
    intro  h T E
    unfold tk_X5_seesSafe_124 at T; unfold fn_X5_seesSafe_124 at E
    refine z_go hC (pc' := 125) (ls' := [some (.ref 13), none, none, none, none, none]) (st' := [.int (nI 0)]) (h' := h) (cs := []) [.iconst 0] (by decide +kernel) rfl rfl trivial ?_
    exact P125  (nI 0) h T E
  have P66 : ∀ (a2 : Int32) (s0 : Int32) (h : z_H), tk_X5_seesSafe_66  a2 s0 h → fn_X5_seesSafe_66  a2 s0 h = RR → z_G p l e R s m args below meth c D dA ad 6 (z_PB RR) (z_c ext) 66 [some (.ref 13), none, some (.int a2), none, none, none] [.int s0] h := by
    intro  a2 s0 h T E
    unfold tk_X5_seesSafe_66 at T; unfold fn_X5_seesSafe_66 at E
    refine z_go hC (pc' := 69) (ls' := [some (.ref 13), none, some (.int a2), none, some (.int s0), none]) (st' := [.ref 13]) (h' := h) (cs := []) [.istore 4, .aload_n 0] (by decide +kernel) rfl rfl trivial ?_
    obtain ⟨t8, T⟩ := T
    refine z_callV hC hN hR (as := []) (rest := []) ok_X5_53 (by decide +kernel) (sp_X5_seesOrder l _ h  t8) rfl rfl (Nat.le_of_ble_eq_true rfl) rfl rfl (Nat.le_of_ble_eq_true rfl) ⟨Nat.zero_le _, Nat.zero_le _⟩ (fun r5 h6 q7 => z_funb q7 (fun z9 => ?_))
    refine z_if_eq hC (off := 52) 124 (by decide +kernel) (by decide) (fun c10 => ?_) (fun c10 => ?_)
    · skip
      have E := (if_pos c10).symm.trans E
      have T := T.1 c10
      refine z_less (ls' := [some (.ref 13), none, none, none, none, none]) (by simp [z_sub]) ?_
      exact P124  h T E
    · skip
      have E := (if_neg c10).symm.trans E
      have T := T.2 c10
      refine z_go hC (pc' := 85) (ls' := [some (.ref 13), none, some (.int a2), none, some (.int s0), none]) (st' := [.int (nI 0), .ref 10, .int a2, .ref 4]) (h' := h) (cs := []) [.aload_n 0, .getfield 9, .iload_n 2, .aload_n 0, .getfield 19, .iconst 0] (by decide +kernel) rfl rfl trivial ?_
      refine z_callV hC hN hR (as := [.int (nI 0)]) (rest := [.int a2, .ref 4]) ok_X5_40 (by decide +kernel) (sp_X6_cellOf l _ h (nI 0)) rfl rfl (Nat.le_of_ble_eq_true rfl) rfl rfl (Nat.le_of_ble_eq_true rfl) ⟨Nat.zero_le _, Nat.zero_le _⟩ (fun r11 h12 q13 => z_fun q13 ?_)
      refine z_callV hC hN hR (as := [.int a2, .int (h.1 11 ((((h.1 10 4) + (nI 0)) &&& (nI 63)).toNatClampNeg))]) (rest := []) ok_X5_44 (by decide +kernel) (sp_X2_wayBetween l _ h a2 (h.1 11 ((((h.1 10 4) + (nI 0)) &&& (nI 63)).toNatClampNeg))) rfl rfl (Nat.le_of_ble_eq_true rfl) rfl rfl (Nat.le_of_ble_eq_true rfl) ⟨Nat.zero_le _, Nat.zero_le _⟩ (fun r14 h15 q16 => z_fun q16 ?_)
      refine z_go hC (pc' := 93) (ls' := [some (.ref 13), none, some (.int a2), none, some (.int s0), none]) (st' := [.int s0, .int (fv_X2_wayBetween h a2 (h.1 11 ((((h.1 10 4) + (nI 0)) &&& (nI 63)).toNatClampNeg)))]) (h' := h) (cs := []) [.iload 4] (by decide +kernel) rfl rfl trivial ?_
      refine z_icmp_gt hC (off := 31) 124 (by decide +kernel) (by decide) (fun c17 => ?_) (fun c17 => ?_)
      · skip
        have E := (if_pos c17).symm.trans E
        have T := T.1 c17
        refine z_less (ls' := [some (.ref 13), none, none, none, none, none]) (by simp [z_sub]) ?_
        exact P124  h T E
      · skip
        have E := (if_neg c17).symm.trans E
        have T := T.2 c17
        refine z_go hC (pc' := 100) (ls' := [some (.ref 13), none, some (.int a2), none, some (.int s0), none]) (st' := [.ref 4]) (h' := h) (cs := []) [.aload_n 0, .getfield 9] (by decide +kernel) rfl rfl trivial ?_
        refine z_callV hC hN hR (as := []) (rest := []) ok_X5_36 (by decide +kernel) (sp_X2_size l _ h ) rfl rfl (Nat.le_of_ble_eq_true rfl) rfl rfl (Nat.le_of_ble_eq_true rfl) ⟨Nat.zero_le _, Nat.zero_le _⟩ (fun r18 h19 q20 => z_fun q20 ?_)
        refine z_go hC (pc' := 106) (ls' := [some (.ref 13), none, some (.int a2), none, some (.int s0), none]) (st' := [.ref 13, .int ((h.1 4 4) - (nI 1))]) (h' := h) (cs := []) [.iconst 1, .isub, .aload_n 0] (by decide +kernel) rfl rfl trivial ?_
        obtain ⟨t24, T⟩ := T
        refine z_callV hC hN hR (as := []) (rest := [.int ((h.1 4 4) - (nI 1))]) ok_X5_32 (by decide +kernel) (sp_X5_wayOfBody l _ h  t24) rfl rfl (Nat.le_of_ble_eq_true rfl) rfl rfl (Nat.le_of_ble_eq_true rfl) ⟨Nat.zero_le _, Nat.zero_le _⟩ (fun r21 h22 q23 => z_fun q23 ?_)
        refine z_go hC (pc' := 114) (ls' := [some (.ref 13), none, some (.int a2), none, some (.int s0), none]) (st' := [.ref 10, .int (((h.1 4 4) - (nI 1)) - (z_vi0 (fn_X5_wayOfBody  h)))]) (h' := h) (cs := []) [.isub, .aload_n 0, .getfield 19] (by decide +kernel) rfl rfl trivial ?_
        refine z_callV hC hN hR (as := []) (rest := [.int (((h.1 4 4) - (nI 1)) - (z_vi0 (fn_X5_wayOfBody  h)))]) ok_X5_60 (by decide +kernel) (sp_X6_growth l _ h ) rfl rfl (Nat.le_of_ble_eq_true rfl) rfl rfl (Nat.le_of_ble_eq_true rfl) ⟨Nat.zero_le _, Nat.zero_le _⟩ (fun r25 h26 q27 => z_fun q27 ?_)
        refine z_icmp_lt hC (off := 7) 124 (by decide +kernel) (by decide) (fun c28 => ?_) (fun c28 => ?_)
        · skip
          have E := (if_pos c28).symm.trans E
          have T := T.1 c28
          refine z_less (ls' := [some (.ref 13), none, none, none, none, none]) (by simp [z_sub]) ?_
          exact P124  h T E
        · skip
          have E := (if_neg c28).symm.trans E
          have T := T.2 c28
          refine z_go hC (pc' := 121) (ls' := [some (.ref 13), none, some (.int a2), none, some (.int s0), none]) (st' := [.int (nI 1)]) (h' := h) (cs := []) [.iconst 1] (by decide +kernel) rfl rfl trivial ?_
          refine z_goto hC (off := 4) 125 (by decide +kernel) (by decide) ?_
          refine z_less (ls' := [some (.ref 13), none, none, none, none, none]) (by simp [z_sub]) ?_
          exact P125  (nI 1) h T E
  refine z_go hC (pc' := 5) (ls' := [some (.ref 13), some (.int x), none, none, none, none]) (st' := [.int (nI 0), .ref 10]) (h' := h) (cs := []) [.aload_n 0, .getfield 19, .iconst 0] (by decide +kernel) rfl rfl trivial ?_
  refine z_callV hC hN hR (as := [.int (nI 0)]) (rest := []) ok_X5_40 (by decide +kernel) (sp_X6_cellOf l _ h (nI 0)) rfl rfl (Nat.le_of_ble_eq_true rfl) rfl rfl (Nat.le_of_ble_eq_true rfl) ⟨Nat.zero_le _, Nat.zero_le _⟩ (fun r29 h30 q31 => z_fun q31 ?_)
  refine z_go hC (pc' := 13) (ls' := [some (.ref 13), some (.int x), some (.int (h.1 11 ((((h.1 10 4) + (nI 0)) &&& (nI 63)).toNatClampNeg))), none, none, none]) (st' := [.ref 8]) (h' := h) (cs := []) [.istore_n 2, .aload_n 0, .getfield 15] (by decide +kernel) rfl rfl trivial ?_
  refine z_callV hC hN hR (as := []) (rest := []) ok_X5_48 (by decide +kernel) (sp_X3_firstCell l _ h ) rfl rfl (Nat.le_of_ble_eq_true rfl) rfl rfl (Nat.le_of_ble_eq_true rfl) ⟨Nat.zero_le _, Nat.zero_le _⟩ (fun r32 h33 q34 => z_fun q34 ?_)
  refine z_go hC (pc' := 19) (ls' := [some (.ref 13), some (.int x), some (.int (h.1 11 ((((h.1 10 4) + (nI 0)) &&& (nI 63)).toNatClampNeg))), some (.int (fv_X3_firstCell h )), none, none]) (st' := [.int (-1), .int (fv_X3_firstCell h )]) (h' := h) (cs := []) [.istore_n 3, .iload_n 3, .iconst (-1)] (by decide +kernel) rfl rfl trivial ?_
  refine z_icmp_eq hC (off := 21) 40 (by decide +kernel) (by decide) (fun c35 => ?_) (fun c35 => ?_)
  · skip
    have E := (if_pos c35).symm.trans E
    have T := T.1 c35
    refine z_go hC (pc' := 41) (ls' := [some (.ref 13), some (.int x), some (.int (h.1 11 ((((h.1 10 4) + (nI 0)) &&& (nI 63)).toNatClampNeg))), some (.int (fv_X3_firstCell h )), none, none]) (st' := [.int (nI 0)]) (h' := h) (cs := []) [.iconst 0] (by decide +kernel) rfl rfl trivial ?_
    exact z_ret_z hB rfl (show (nI 0 = 0 ∨ nI 0 = 1) by decide) (by decide +kernel) (z_lfb (show (nI 0 = 0 ∨ nI 0 = 1) by decide) E)
  · skip
    have E := (if_neg c35).symm.trans E
    have T := T.2 c35
    refine z_go hC (pc' := 23) (ls' := [some (.ref 13), some (.int x), some (.int (h.1 11 ((((h.1 10 4) + (nI 0)) &&& (nI 63)).toNatClampNeg))), some (.int (fv_X3_firstCell h )), none, none]) (st' := [.ref 13]) (h' := h) (cs := []) [.aload_n 0] (by decide +kernel) rfl rfl trivial ?_
    obtain ⟨t39, T⟩ := T
    refine z_callV hC hN hR (as := []) (rest := []) ok_X5_53 (by decide +kernel) (sp_X5_seesOrder l _ h  t39) rfl rfl (Nat.le_of_ble_eq_true rfl) rfl rfl (Nat.le_of_ble_eq_true rfl) ⟨Nat.zero_le _, Nat.zero_le _⟩ (fun r36 h37 q38 => z_funb q38 (fun z40 => ?_))
    refine z_if_eq hC (off := 14) 40 (by decide +kernel) (by decide) (fun c41 => ?_) (fun c41 => ?_)
    · skip
      have E := (if_pos c41).symm.trans E
      have T := T.1 c41
      refine z_go hC (pc' := 41) (ls' := [some (.ref 13), some (.int x), some (.int (h.1 11 ((((h.1 10 4) + (nI 0)) &&& (nI 63)).toNatClampNeg))), some (.int (fv_X3_firstCell h )), none, none]) (st' := [.int (nI 0)]) (h' := h) (cs := []) [.iconst 0] (by decide +kernel) rfl rfl trivial ?_
      exact z_ret_z hB rfl (show (nI 0 = 0 ∨ nI 0 = 1) by decide) (by decide +kernel) (z_lfb (show (nI 0 = 0 ∨ nI 0 = 1) by decide) E)
    · skip
      have E := (if_neg c41).symm.trans E
      have T := T.2 c41
      refine z_go hC (pc' := 34) (ls' := [some (.ref 13), some (.int x), some (.int (h.1 11 ((((h.1 10 4) + (nI 0)) &&& (nI 63)).toNatClampNeg))), some (.int (fv_X3_firstCell h )), none, none]) (st' := [.int x, .ref 10]) (h' := h) (cs := []) [.aload_n 0, .getfield 19, .iload_n 1] (by decide +kernel) rfl rfl trivial ?_
      refine z_callV hC hN hR (as := [.int x]) (rest := []) ok_X5_56 (by decide +kernel) (sp_X6_advance l _ h x) rfl rfl (Nat.le_of_ble_eq_true rfl) rfl rfl (Nat.le_of_ble_eq_true rfl) ⟨Nat.zero_le _, Nat.zero_le _⟩ (fun r42 h43 q44 => z_fun q44 ?_)
      refine z_if_ne hC (off := 5) 42 (by decide +kernel) (by decide) (fun c45 => ?_) (fun c45 => ?_)
      · skip
        have E := (if_neg c45).symm.trans E
        have T := T.2 c45
        refine z_go hC (pc' := 44) (ls' := [some (.ref 13), some (.int x), some (.int (h.1 11 ((((h.1 10 4) + (nI 0)) &&& (nI 63)).toNatClampNeg))), some (.int (fv_X3_firstCell h )), none, none]) (st' := [.int (h.1 11 ((((h.1 10 4) + (nI 0)) &&& (nI 63)).toNatClampNeg)), .int (fv_X3_firstCell h )]) (h' := fh_X6_advance h x) (cs := []) [.iload_n 3, .iload_n 2] (by decide +kernel) rfl rfl trivial ?_
        refine z_icmp_ne hC (off := 13) 57 (by decide +kernel) (by decide) (fun c46 => ?_) (fun c46 => ?_)
        · skip
          have E := (if_neg c46).symm.trans E
          have T := T.2 c46
          refine z_go hC (pc' := 63) (ls' := [some (.ref 13), some (.int x), some (.int (h.1 11 ((((h.1 10 4) + (nI 0)) &&& (nI 63)).toNatClampNeg))), some (.int (fv_X3_firstCell h )), none, none]) (st' := [.int (fv_X3_firstCell h ), .int (h.1 11 ((((h.1 10 4) + (nI 0)) &&& (nI 63)).toNatClampNeg)), .ref 4]) (h' := fh_X6_advance h x) (cs := []) [.aload_n 0, .getfield 9, .iload_n 2, .iload_n 3] (by decide +kernel) rfl rfl trivial ?_
          refine z_callV hC hN hR (as := [.int (h.1 11 ((((h.1 10 4) + (nI 0)) &&& (nI 63)).toNatClampNeg)), .int (fv_X3_firstCell h )]) (rest := []) ok_X5_44 (by decide +kernel) (sp_X2_wayBetween l _ (fh_X6_advance h x) (h.1 11 ((((h.1 10 4) + (nI 0)) &&& (nI 63)).toNatClampNeg)) (fv_X3_firstCell h )) rfl rfl (Nat.le_of_ble_eq_true rfl) rfl rfl (Nat.le_of_ble_eq_true rfl) ⟨Nat.zero_le _, Nat.zero_le _⟩ (fun r47 h48 q49 => z_fun q49 ?_)
          refine z_less (ls' := [some (.ref 13), none, some (.int (h.1 11 ((((h.1 10 4) + (nI 0)) &&& (nI 63)).toNatClampNeg))), none, none, none]) (by simp [z_sub]) ?_
          exact P66  (h.1 11 ((((h.1 10 4) + (nI 0)) &&& (nI 63)).toNatClampNeg)) (fv_X2_wayBetween (fh_X6_advance h x) (h.1 11 ((((h.1 10 4) + (nI 0)) &&& (nI 63)).toNatClampNeg)) (fv_X3_firstCell h )) (fh_X6_advance h x) T E
        · skip
          have E := (if_pos c46).symm.trans E
          have T := T.1 c46
          refine z_go hC (pc' := 51) (ls' := [some (.ref 13), some (.int x), some (.int (h.1 11 ((((h.1 10 4) + (nI 0)) &&& (nI 63)).toNatClampNeg))), some (.int (fv_X3_firstCell h )), none, none]) (st' := [.ref 4]) (h' := fh_X6_advance h x) (cs := []) [.aload_n 0, .getfield 9] (by decide +kernel) rfl rfl trivial ?_
          refine z_callV hC hN hR (as := []) (rest := []) ok_X5_36 (by decide +kernel) (sp_X2_size l _ (fh_X6_advance h x) ) rfl rfl (Nat.le_of_ble_eq_true rfl) rfl rfl (Nat.le_of_ble_eq_true rfl) ⟨Nat.zero_le _, Nat.zero_le _⟩ (fun r50 h51 q52 => z_fun q52 ?_)
          refine z_goto hC (off := 12) 66 (by decide +kernel) (by decide) ?_
          refine z_less (ls' := [some (.ref 13), none, some (.int (h.1 11 ((((h.1 10 4) + (nI 0)) &&& (nI 63)).toNatClampNeg))), none, none, none]) (by simp [z_sub]) ?_
          exact P66  (h.1 11 ((((h.1 10 4) + (nI 0)) &&& (nI 63)).toNatClampNeg)) ((fh_X6_advance h x).1 4 4) (fh_X6_advance h x) T E
      · skip
        have E := (if_pos c45).symm.trans E
        have T := T.1 c45
        refine z_go hC (pc' := 41) (ls' := [some (.ref 13), some (.int x), some (.int (h.1 11 ((((h.1 10 4) + (nI 0)) &&& (nI 63)).toNatClampNeg))), some (.int (fv_X3_firstCell h )), none, none]) (st' := [.int (nI 0)]) (h' := fh_X6_advance h x) (cs := []) [.iconst 0] (by decide +kernel) rfl rfl trivial ?_
        exact z_ret_z hB rfl (show (nI 0 = 0 ∨ nI 0 = 1) by decide) (by decide +kernel) (z_lfb (show (nI 0 = 0 ∨ nI 0 = 1) by decide) E)

def fn_X5_choice_59 (k6 : Int32 → Int32 → Int32 → z_H → z_R) (a1 : Int32) (a2 : Int32) (a3 : Int32) (h : z_H) : z_R := k6 a1 a2 (a3 + (nI 1)) h
def tk_X5_choice_59 (K6 : Int32 → Int32 → Int32 → z_H → Prop) (a1 : Int32) (a2 : Int32) (a3 : Int32) (h : z_H) : Prop := K6 a1 a2 (a3 + (nI 1)) h
def fn_X5_choice_6  : Nat → Int32 → Int32 → Int32 → z_H → z_R
  | 0, _, _, _, h => (none, h)
  | n + 1, a1, a2, a3, h => let k6 := fun (a1_ : Int32) (a2_ : Int32) (a3_ : Int32) (h_ : z_H) => fn_X5_choice_6  n a1_ a2_ a3_ h_; if (nI 4) ≤ a3 then (some (.int a1), h) else if (z_vi (fn_X5_seesSafe a3 h)) = 0 then fn_X5_choice_59 k6 a1 a2 a3 ((fn_X5_seesSafe a3 h).2) else if (fv_X2_wayBetween ((fn_X5_seesSafe a3 h).2) (((fn_X5_seesSafe a3 h).2).1 11 ((((((fn_X5_seesSafe a3 h).2).1 10 4) + (nI 0)) &&& (nI 63)).toNatClampNeg)) (fv_X0_cellBeside (((fn_X5_seesSafe a3 h).2).1 11 ((((((fn_X5_seesSafe a3 h).2).1 10 4) + (nI 0)) &&& (nI 63)).toNatClampNeg)) a3)) ≤ a2 then fn_X5_choice_59 k6 a1 a2 a3 ((fn_X5_seesSafe a3 h).2) else fn_X5_choice_59 k6 a3 (fv_X2_wayBetween ((fn_X5_seesSafe a3 h).2) (((fn_X5_seesSafe a3 h).2).1 11 ((((((fn_X5_seesSafe a3 h).2).1 10 4) + (nI 0)) &&& (nI 63)).toNatClampNeg)) (fv_X0_cellBeside (((fn_X5_seesSafe a3 h).2).1 11 ((((((fn_X5_seesSafe a3 h).2).1 10 4) + (nI 0)) &&& (nI 63)).toNatClampNeg)) a3)) a3 ((fn_X5_seesSafe a3 h).2)
def tk_X5_choice_6  : Nat → Int32 → Int32 → Int32 → z_H → Prop
  | 0, _, _, _, _ => False
  | n + 1, a1, a2, a3, h => let K6 := fun (a1_ : Int32) (a2_ : Int32) (a3_ : Int32) (h_ : z_H) => tk_X5_choice_6  n a1_ a2_ a3_ h_; (((nI 4) ≤ a3) → (True)) ∧ ((¬ (nI 4) ≤ a3) → (tk_X5_seesSafe a3 h ∧ ((((z_vi (fn_X5_seesSafe a3 h)) = 0) → (tk_X5_choice_59 K6 a1 a2 a3 ((fn_X5_seesSafe a3 h).2))) ∧ ((¬ (z_vi (fn_X5_seesSafe a3 h)) = 0) → ((((fv_X2_wayBetween ((fn_X5_seesSafe a3 h).2) (((fn_X5_seesSafe a3 h).2).1 11 ((((((fn_X5_seesSafe a3 h).2).1 10 4) + (nI 0)) &&& (nI 63)).toNatClampNeg)) (fv_X0_cellBeside (((fn_X5_seesSafe a3 h).2).1 11 ((((((fn_X5_seesSafe a3 h).2).1 10 4) + (nI 0)) &&& (nI 63)).toNatClampNeg)) a3)) ≤ a2) → (tk_X5_choice_59 K6 a1 a2 a3 ((fn_X5_seesSafe a3 h).2))) ∧ ((¬ (fv_X2_wayBetween ((fn_X5_seesSafe a3 h).2) (((fn_X5_seesSafe a3 h).2).1 11 ((((((fn_X5_seesSafe a3 h).2).1 10 4) + (nI 0)) &&& (nI 63)).toNatClampNeg)) (fv_X0_cellBeside (((fn_X5_seesSafe a3 h).2).1 11 ((((((fn_X5_seesSafe a3 h).2).1 10 4) + (nI 0)) &&& (nI 63)).toNatClampNeg)) a3)) ≤ a2) → (tk_X5_choice_59 K6 a3 (fv_X2_wayBetween ((fn_X5_seesSafe a3 h).2) (((fn_X5_seesSafe a3 h).2).1 11 ((((((fn_X5_seesSafe a3 h).2).1 10 4) + (nI 0)) &&& (nI 63)).toNatClampNeg)) (fv_X0_cellBeside (((fn_X5_seesSafe a3 h).2).1 11 ((((((fn_X5_seesSafe a3 h).2).1 10 4) + (nI 0)) &&& (nI 63)).toNatClampNeg)) a3)) a3 ((fn_X5_seesSafe a3 h).2))))))))
def fn_X5_choice  (h : z_H) : z_R := fn_X5_choice_6 2000 (-1) (nI 0) (nI 0) h
def tk_X5_choice  (h : z_H) : Prop := tk_X5_choice_6 2000 (-1) (nI 0) (nI 0) h
set_option maxHeartbeats 4000000 in
set_option maxRecDepth 100000 in
theorem sp_X5_choice (l : Launch) (ext : z_Sh)  (h : z_H)   (T : tk_X5_choice  h) : z_Sp l 5 yX5_choice cX5_choice 5 (some .int) [.ref 13] (z_c ext) h (z_PI (fn_X5_choice  h)) := by
  refine z_enter ft_X5 (by decide +kernel) fo_X5 (Nat.le_of_ble_eq_true rfl) ?_
  intro p e R s m args below meth c D dA ad hB
  have hC := hB.1
  have hN := hB.2.1
  have hR := hB.2.2.1
  unfold tk_X5_choice at T; have E : (fn_X5_choice_6 2000 (-1) (nI 0) (nI 0) h) = fn_X5_choice  h := rfl
  generalize fn_X5_choice  h = RR at E ⊢
  have P59 : ∀ (k6 : Int32 → Int32 → Int32 → z_H → z_R) (K6 : Int32 → Int32 → Int32 → z_H → Prop) (hk6 : ∀ (a1 : Int32) (a2 : Int32) (a3 : Int32) (h : z_H), K6 a1 a2 a3 h → k6 a1 a2 a3 h = RR → z_G p l e R s m args below meth c D dA ad 5 (z_PI RR) (z_c ext) 6 [some (.ref 13), some (.int a1), some (.int a2), some (.int a3), none] [] h), ∀ (a1 : Int32) (a2 : Int32) (a3 : Int32) (h : z_H), tk_X5_choice_59 K6 a1 a2 a3 h → fn_X5_choice_59 k6 a1 a2 a3 h = RR → z_G p l e R s m args below meth c D dA ad 5 (z_PI RR) (z_c ext) 59 [some (.ref 13), some (.int a1), some (.int a2), some (.int a3), none] [] h := by
    intro k6 K6 hk6 a1 a2 a3 h T E
    unfold tk_X5_choice_59 at T; unfold fn_X5_choice_59 at E
    refine z_go hC (pc' := 62) (ls' := [some (.ref 13), some (.int a1), some (.int a2), some (.int (a3 + (nI 1))), none]) (st' := []) (h' := h) (cs := []) [.iinc 3 1] (by decide +kernel) rfl rfl trivial ?_
    refine z_goto hC (off := -56) 6 (by decide +kernel) (by decide) ?_
    exact hk6 a1 a2 (a3 + (nI 1)) h T E
  have P6 : ∀ (n : Nat), ∀ (a1 : Int32) (a2 : Int32) (a3 : Int32) (h : z_H), tk_X5_choice_6  n a1 a2 a3 h → fn_X5_choice_6  n a1 a2 a3 h = RR → z_G p l e R s m args below meth c D dA ad 5 (z_PI RR) (z_c ext) 6 [some (.ref 13), some (.int a1), some (.int a2), some (.int a3), none] [] h := by
    intro  n
    induction n with
    | zero => intro a1 a2 a3 h T E; exact False.elim T
    | succ n ih =>
      intro a1 a2 a3 h T E
      unfold tk_X5_choice_6 at T; unfold fn_X5_choice_6 at E; dsimp only at T E
      have hk6 := ih
      refine z_go hC (pc' := 8) (ls' := [some (.ref 13), some (.int a1), some (.int a2), some (.int a3), none]) (st' := [.int (nI 4), .int a3]) (h' := h) (cs := []) [.iload_n 3, .iconst 4] (by decide +kernel) rfl rfl trivial ?_
      refine z_icmp_ge hC (off := 57) 65 (by decide +kernel) (by decide) (fun c1 => ?_) (fun c1 => ?_)
      · skip
        have E := (if_pos c1).symm.trans E
        have T := T.1 c1
        refine z_go hC (pc' := 66) (ls' := [some (.ref 13), some (.int a1), some (.int a2), some (.int a3), none]) (st' := [.int a1]) (h' := h) (cs := []) [.iload_n 1] (by decide +kernel) rfl rfl trivial ?_
        exact z_ret_i hB rfl (by decide +kernel) (z_lfi E)
      · skip
        have E := (if_neg c1).symm.trans E
        have T := T.2 c1
        refine z_go hC (pc' := 13) (ls' := [some (.ref 13), some (.int a1), some (.int a2), some (.int a3), none]) (st' := [.int a3, .ref 13]) (h' := h) (cs := []) [.aload_n 0, .iload_n 3] (by decide +kernel) rfl rfl trivial ?_
        obtain ⟨t5, T⟩ := T
        refine z_callV hC hN hR (as := [.int a3]) (rest := []) ok_X5_66 (by decide +kernel) (sp_X5_seesSafe l _ h a3 t5) rfl rfl (Nat.le_of_ble_eq_true rfl) rfl rfl (Nat.le_of_ble_eq_true rfl) ⟨Nat.zero_le _, Nat.zero_le _⟩ (fun r2 h3 q4 => z_funb q4 (fun z6 => ?_))
        refine z_if_eq hC (off := 43) 59 (by decide +kernel) (by decide) (fun c7 => ?_) (fun c7 => ?_)
        · skip
          have E := (if_pos c7).symm.trans E
          have T := T.1 c7
          exact P59 _ _ hk6 a1 a2 a3 ((fn_X5_seesSafe a3 h).2) T E
        · skip
          have E := (if_neg c7).symm.trans E
          have T := T.2 c7
          refine z_go hC (pc' := 28) (ls' := [some (.ref 13), some (.int a1), some (.int a2), some (.int a3), none]) (st' := [.int (nI 0), .ref 10, .ref 4]) (h' := (fn_X5_seesSafe a3 h).2) (cs := []) [.aload_n 0, .getfield 9, .aload_n 0, .getfield 19, .iconst 0] (by decide +kernel) rfl rfl trivial ?_
          refine z_callV hC hN hR (as := [.int (nI 0)]) (rest := [.ref 4]) ok_X5_40 (by decide +kernel) (sp_X6_cellOf l _ ((fn_X5_seesSafe a3 h).2) (nI 0)) rfl rfl (Nat.le_of_ble_eq_true rfl) rfl rfl (Nat.le_of_ble_eq_true rfl) ⟨Nat.zero_le _, Nat.zero_le _⟩ (fun r8 h9 q10 => z_fun q10 ?_)
          refine z_go hC (pc' := 36) (ls' := [some (.ref 13), some (.int a1), some (.int a2), some (.int a3), none]) (st' := [.int (nI 0), .ref 10, .int (((fn_X5_seesSafe a3 h).2).1 11 ((((((fn_X5_seesSafe a3 h).2).1 10 4) + (nI 0)) &&& (nI 63)).toNatClampNeg)), .ref 4]) (h' := (fn_X5_seesSafe a3 h).2) (cs := []) [.aload_n 0, .getfield 19, .iconst 0] (by decide +kernel) rfl rfl trivial ?_
          refine z_callV hC hN hR (as := [.int (nI 0)]) (rest := [.int (((fn_X5_seesSafe a3 h).2).1 11 ((((((fn_X5_seesSafe a3 h).2).1 10 4) + (nI 0)) &&& (nI 63)).toNatClampNeg)), .ref 4]) ok_X5_40 (by decide +kernel) (sp_X6_cellOf l _ ((fn_X5_seesSafe a3 h).2) (nI 0)) rfl rfl (Nat.le_of_ble_eq_true rfl) rfl rfl (Nat.le_of_ble_eq_true rfl) ⟨Nat.zero_le _, Nat.zero_le _⟩ (fun r11 h12 q13 => z_fun q13 ?_)
          refine z_go hC (pc' := 40) (ls' := [some (.ref 13), some (.int a1), some (.int a2), some (.int a3), none]) (st' := [.int a3, .int (((fn_X5_seesSafe a3 h).2).1 11 ((((((fn_X5_seesSafe a3 h).2).1 10 4) + (nI 0)) &&& (nI 63)).toNatClampNeg)), .int (((fn_X5_seesSafe a3 h).2).1 11 ((((((fn_X5_seesSafe a3 h).2).1 10 4) + (nI 0)) &&& (nI 63)).toNatClampNeg)), .ref 4]) (h' := (fn_X5_seesSafe a3 h).2) (cs := []) [.iload_n 3] (by decide +kernel) rfl rfl trivial ?_
          refine z_callS hC hN hR (as := [.int (((fn_X5_seesSafe a3 h).2).1 11 ((((((fn_X5_seesSafe a3 h).2).1 10 4) + (nI 0)) &&& (nI 63)).toNatClampNeg)), .int a3]) (rest := [.int (((fn_X5_seesSafe a3 h).2).1 11 ((((((fn_X5_seesSafe a3 h).2).1 10 4) + (nI 0)) &&& (nI 63)).toNatClampNeg)), .ref 4]) ok_X5_69 (by decide +kernel) (sp_X0_cellBeside l _ ((fn_X5_seesSafe a3 h).2) (((fn_X5_seesSafe a3 h).2).1 11 ((((((fn_X5_seesSafe a3 h).2).1 10 4) + (nI 0)) &&& (nI 63)).toNatClampNeg)) a3) (Nat.le_of_ble_eq_true rfl) rfl rfl (Nat.le_of_ble_eq_true rfl) ⟨Nat.zero_le _, Nat.zero_le _⟩ (fun r14 h15 q16 => z_fun q16 ?_)
          refine z_callV hC hN hR (as := [.int (((fn_X5_seesSafe a3 h).2).1 11 ((((((fn_X5_seesSafe a3 h).2).1 10 4) + (nI 0)) &&& (nI 63)).toNatClampNeg)), .int (fv_X0_cellBeside (((fn_X5_seesSafe a3 h).2).1 11 ((((((fn_X5_seesSafe a3 h).2).1 10 4) + (nI 0)) &&& (nI 63)).toNatClampNeg)) a3)]) (rest := []) ok_X5_44 (by decide +kernel) (sp_X2_wayBetween l _ ((fn_X5_seesSafe a3 h).2) (((fn_X5_seesSafe a3 h).2).1 11 ((((((fn_X5_seesSafe a3 h).2).1 10 4) + (nI 0)) &&& (nI 63)).toNatClampNeg)) (fv_X0_cellBeside (((fn_X5_seesSafe a3 h).2).1 11 ((((((fn_X5_seesSafe a3 h).2).1 10 4) + (nI 0)) &&& (nI 63)).toNatClampNeg)) a3)) rfl rfl (Nat.le_of_ble_eq_true rfl) rfl rfl (Nat.le_of_ble_eq_true rfl) ⟨Nat.zero_le _, Nat.zero_le _⟩ (fun r17 h18 q19 => z_fun q19 ?_)
          refine z_go hC (pc' := 51) (ls' := [some (.ref 13), some (.int a1), some (.int a2), some (.int a3), some (.int (fv_X2_wayBetween ((fn_X5_seesSafe a3 h).2) (((fn_X5_seesSafe a3 h).2).1 11 ((((((fn_X5_seesSafe a3 h).2).1 10 4) + (nI 0)) &&& (nI 63)).toNatClampNeg)) (fv_X0_cellBeside (((fn_X5_seesSafe a3 h).2).1 11 ((((((fn_X5_seesSafe a3 h).2).1 10 4) + (nI 0)) &&& (nI 63)).toNatClampNeg)) a3)))]) (st' := [.int a2, .int (fv_X2_wayBetween ((fn_X5_seesSafe a3 h).2) (((fn_X5_seesSafe a3 h).2).1 11 ((((((fn_X5_seesSafe a3 h).2).1 10 4) + (nI 0)) &&& (nI 63)).toNatClampNeg)) (fv_X0_cellBeside (((fn_X5_seesSafe a3 h).2).1 11 ((((((fn_X5_seesSafe a3 h).2).1 10 4) + (nI 0)) &&& (nI 63)).toNatClampNeg)) a3))]) (h' := (fn_X5_seesSafe a3 h).2) (cs := []) [.istore 4, .iload 4, .iload_n 2] (by decide +kernel) rfl rfl trivial ?_
          refine z_icmp_le hC (off := 8) 59 (by decide +kernel) (by decide) (fun c20 => ?_) (fun c20 => ?_)
          · skip
            have E := (if_pos c20).symm.trans E
            have T := T.1 c20
            refine z_less (ls' := [some (.ref 13), some (.int a1), some (.int a2), some (.int a3), none]) (by simp [z_sub]) ?_
            exact P59 _ _ hk6 a1 a2 a3 ((fn_X5_seesSafe a3 h).2) T E
          · skip
            have E := (if_neg c20).symm.trans E
            have T := T.2 c20
            refine z_go hC (pc' := 59) (ls' := [some (.ref 13), some (.int a3), some (.int (fv_X2_wayBetween ((fn_X5_seesSafe a3 h).2) (((fn_X5_seesSafe a3 h).2).1 11 ((((((fn_X5_seesSafe a3 h).2).1 10 4) + (nI 0)) &&& (nI 63)).toNatClampNeg)) (fv_X0_cellBeside (((fn_X5_seesSafe a3 h).2).1 11 ((((((fn_X5_seesSafe a3 h).2).1 10 4) + (nI 0)) &&& (nI 63)).toNatClampNeg)) a3))), some (.int a3), some (.int (fv_X2_wayBetween ((fn_X5_seesSafe a3 h).2) (((fn_X5_seesSafe a3 h).2).1 11 ((((((fn_X5_seesSafe a3 h).2).1 10 4) + (nI 0)) &&& (nI 63)).toNatClampNeg)) (fv_X0_cellBeside (((fn_X5_seesSafe a3 h).2).1 11 ((((((fn_X5_seesSafe a3 h).2).1 10 4) + (nI 0)) &&& (nI 63)).toNatClampNeg)) a3)))]) (st' := []) (h' := (fn_X5_seesSafe a3 h).2) (cs := []) [.iload_n 3, .istore_n 1, .iload 4, .istore_n 2] (by decide +kernel) rfl rfl trivial ?_
            refine z_less (ls' := [some (.ref 13), some (.int a3), some (.int (fv_X2_wayBetween ((fn_X5_seesSafe a3 h).2) (((fn_X5_seesSafe a3 h).2).1 11 ((((((fn_X5_seesSafe a3 h).2).1 10 4) + (nI 0)) &&& (nI 63)).toNatClampNeg)) (fv_X0_cellBeside (((fn_X5_seesSafe a3 h).2).1 11 ((((((fn_X5_seesSafe a3 h).2).1 10 4) + (nI 0)) &&& (nI 63)).toNatClampNeg)) a3))), some (.int a3), none]) (by simp [z_sub]) ?_
            exact P59 _ _ hk6 a3 (fv_X2_wayBetween ((fn_X5_seesSafe a3 h).2) (((fn_X5_seesSafe a3 h).2).1 11 ((((((fn_X5_seesSafe a3 h).2).1 10 4) + (nI 0)) &&& (nI 63)).toNatClampNeg)) (fv_X0_cellBeside (((fn_X5_seesSafe a3 h).2).1 11 ((((((fn_X5_seesSafe a3 h).2).1 10 4) + (nI 0)) &&& (nI 63)).toNatClampNeg)) a3)) a3 ((fn_X5_seesSafe a3 h).2) T E
  refine z_go hC (pc' := 6) (ls' := [some (.ref 13), some (.int (-1)), some (.int (nI 0)), some (.int (nI 0)), none]) (st' := []) (h' := h) (cs := []) [.iconst (-1), .istore_n 1, .iconst 0, .istore_n 2, .iconst 0, .istore_n 3] (by decide +kernel) rfl rfl trivial ?_
  exact P6 2000 (-1) (nI 0) (nI 0) h T E

def fn_X4_countReached_135 (k45 : Int64 → Int32 → Int32 → z_H → z_R) (k61 : Int64 → Int32 → Int32 → Int32 → z_H → z_R) (a1 : Int64) (a3 : Int32) (a4 : Int32) (a5 : Int32) (h : z_H) : z_R := k61 a1 a3 a4 (a5 + (nI 1)) h
def tk_X4_countReached_135 (K45 : Int64 → Int32 → Int32 → z_H → Prop) (K61 : Int64 → Int32 → Int32 → Int32 → z_H → Prop) (a1 : Int64) (a3 : Int32) (a4 : Int32) (a5 : Int32) (h : z_H) : Prop := K61 a1 a3 a4 (a5 + (nI 1)) h
def fn_X4_countReached_61 (k45 : Int64 → Int32 → Int32 → z_H → z_R) : Nat → Int64 → Int32 → Int32 → Int32 → z_H → z_R
  | 0, _, _, _, _, h => (none, h)
  | n + 1, a1, a3, a4, a5, h => let k61 := fun (a1_ : Int64) (a3_ : Int32) (a4_ : Int32) (a5_ : Int32) (h_ : z_H) => fn_X4_countReached_61 k45 n a1_ a3_ a4_ a5_ h_; if (nI 4) ≤ a5 then k45 a1 a3 (a4 + (nI 1)) h else if (fv_X0_goFrom h (z_atv h 15 36 a4) a5) = (-1) then fn_X4_countReached_135 k45 k61 a1 a3 a4 a5 h else if (fv_X7_isIn a1 (fv_X0_goFrom h (z_atv h 15 36 a4) a5)) = 0 then if (fv_X7_isIn (h.2 10 7) (fv_X0_goFrom h (z_atv h 15 36 a4) a5)) = 0 then fn_X4_countReached_135 k45 k61 (a1 ||| (fv_X7_setOf (fv_X0_goFrom h (z_atv h 15 36 a4) a5))) (a3 + (nI 1)) a4 a5 (z_putv h 15 36 a3 (fv_X0_goFrom h (z_atv h 15 36 a4) a5)) else fn_X4_countReached_135 k45 k61 a1 a3 a4 a5 h else fn_X4_countReached_135 k45 k61 a1 a3 a4 a5 h
def tk_X4_countReached_61 (K45 : Int64 → Int32 → Int32 → z_H → Prop) : Nat → Int64 → Int32 → Int32 → Int32 → z_H → Prop
  | 0, _, _, _, _, _ => False
  | n + 1, a1, a3, a4, a5, h => let K61 := fun (a1_ : Int64) (a3_ : Int32) (a4_ : Int32) (a5_ : Int32) (h_ : z_H) => tk_X4_countReached_61 K45 n a1_ a3_ a4_ a5_ h_; (((nI 4) ≤ a5) → (K45 a1 a3 (a4 + (nI 1)) h)) ∧ ((¬ (nI 4) ≤ a5) → ((((fv_X0_goFrom h (z_atv h 15 36 a4) a5) = (-1)) → (tk_X4_countReached_135 K45 K61 a1 a3 a4 a5 h)) ∧ ((¬ (fv_X0_goFrom h (z_atv h 15 36 a4) a5) = (-1)) → ((((fv_X7_isIn a1 (fv_X0_goFrom h (z_atv h 15 36 a4) a5)) = 0) → ((((fv_X7_isIn (h.2 10 7) (fv_X0_goFrom h (z_atv h 15 36 a4) a5)) = 0) → (tk_X4_countReached_135 K45 K61 (a1 ||| (fv_X7_setOf (fv_X0_goFrom h (z_atv h 15 36 a4) a5))) (a3 + (nI 1)) a4 a5 (z_putv h 15 36 a3 (fv_X0_goFrom h (z_atv h 15 36 a4) a5)))) ∧ ((¬ (fv_X7_isIn (h.2 10 7) (fv_X0_goFrom h (z_atv h 15 36 a4) a5)) = 0) → (tk_X4_countReached_135 K45 K61 a1 a3 a4 a5 h)))) ∧ ((¬ (fv_X7_isIn a1 (fv_X0_goFrom h (z_atv h 15 36 a4) a5)) = 0) → (tk_X4_countReached_135 K45 K61 a1 a3 a4 a5 h))))))
def fn_X4_countReached_45  : Nat → Int64 → Int32 → Int32 → z_H → z_R
  | 0, _, _, _, h => (none, h)
  | n + 1, a1, a3, a4, h => let k45 := fun (a1_ : Int64) (a3_ : Int32) (a4_ : Int32) (h_ : z_H) => fn_X4_countReached_45  n a1_ a3_ a4_ h_; if a3 ≤ a4 then (some (.int (a3 - (nI 1))), h) else if (nI 36) ≤ a4 then (some (.int (a3 - (nI 1))), h) else fn_X4_countReached_61 k45 2000 a1 a3 a4 (nI 0) h
def tk_X4_countReached_45  : Nat → Int64 → Int32 → Int32 → z_H → Prop
  | 0, _, _, _, _ => False
  | n + 1, a1, a3, a4, h => let K45 := fun (a1_ : Int64) (a3_ : Int32) (a4_ : Int32) (h_ : z_H) => tk_X4_countReached_45  n a1_ a3_ a4_ h_; ((a3 ≤ a4) → (True)) ∧ ((¬ a3 ≤ a4) → ((((nI 36) ≤ a4) → (True)) ∧ ((¬ (nI 36) ≤ a4) → (tk_X4_countReached_61 K45 2000 a1 a3 a4 (nI 0) h))))
def fn_X4_countReached  (h : z_H) : z_R := if (fv_X6_isThere h ) = 0 then (some (.int (nI 0)), h) else fn_X4_countReached_45 2000 (fv_X7_setOf ((z_putv h 15 36 (nI 0) (h.1 11 ((((h.1 10 4) + (nI 0)) &&& (nI 63)).toNatClampNeg))).1 11 (((((z_putv h 15 36 (nI 0) (h.1 11 ((((h.1 10 4) + (nI 0)) &&& (nI 63)).toNatClampNeg))).1 10 4) + (nI 0)) &&& (nI 63)).toNatClampNeg))) (nI 1) (nI 0) (z_putv h 15 36 (nI 0) (h.1 11 ((((h.1 10 4) + (nI 0)) &&& (nI 63)).toNatClampNeg)))
def tk_X4_countReached  (h : z_H) : Prop := (((fv_X6_isThere h ) = 0) → (True)) ∧ ((¬ (fv_X6_isThere h ) = 0) → (tk_X4_countReached_45 2000 (fv_X7_setOf ((z_putv h 15 36 (nI 0) (h.1 11 ((((h.1 10 4) + (nI 0)) &&& (nI 63)).toNatClampNeg))).1 11 (((((z_putv h 15 36 (nI 0) (h.1 11 ((((h.1 10 4) + (nI 0)) &&& (nI 63)).toNatClampNeg))).1 10 4) + (nI 0)) &&& (nI 63)).toNatClampNeg))) (nI 1) (nI 0) (z_putv h 15 36 (nI 0) (h.1 11 ((((h.1 10 4) + (nI 0)) &&& (nI 63)).toNatClampNeg)))))
set_option maxHeartbeats 4000000 in
set_option maxRecDepth 100000 in
theorem sp_X4_countReached (l : Launch) (ext : z_Sh)  (h : z_H)   (T : tk_X4_countReached  h) : z_Sp l 3 yX4_countReached cX4_countReached 7 (some .int) [.ref 14] (z_c ext) h (z_PI (fn_X4_countReached  h)) := by
  refine z_enter ft_X4 (by decide +kernel) fo_X4 (Nat.le_of_ble_eq_true rfl) ?_
  intro p e R s m args below meth c D dA ad hB
  have hC := hB.1
  have hN := hB.2.1
  have hR := hB.2.2.1
  unfold tk_X4_countReached at T; have E : (if (fv_X6_isThere h ) = 0 then (some (.int (nI 0)), h) else fn_X4_countReached_45 2000 (fv_X7_setOf ((z_putv h 15 36 (nI 0) (h.1 11 ((((h.1 10 4) + (nI 0)) &&& (nI 63)).toNatClampNeg))).1 11 (((((z_putv h 15 36 (nI 0) (h.1 11 ((((h.1 10 4) + (nI 0)) &&& (nI 63)).toNatClampNeg))).1 10 4) + (nI 0)) &&& (nI 63)).toNatClampNeg))) (nI 1) (nI 0) (z_putv h 15 36 (nI 0) (h.1 11 ((((h.1 10 4) + (nI 0)) &&& (nI 63)).toNatClampNeg)))) = fn_X4_countReached  h := rfl
  generalize fn_X4_countReached  h = RR at E ⊢
  have P135 : ∀ (k45 : Int64 → Int32 → Int32 → z_H → z_R) (K45 : Int64 → Int32 → Int32 → z_H → Prop) (hk45 : ∀ (a1 : Int64) (a3 : Int32) (a4 : Int32) (h : z_H), K45 a1 a3 a4 h → k45 a1 a3 a4 h = RR → z_G p l e R s m args below meth c D dA ad 7 (z_PI RR) (z_c ext) 45 [some (.ref 14), some (.long a1), none, some (.int a3), some (.int a4), none, none] [] h), ∀ (k61 : Int64 → Int32 → Int32 → Int32 → z_H → z_R) (K61 : Int64 → Int32 → Int32 → Int32 → z_H → Prop) (hk61 : ∀ (a1 : Int64) (a3 : Int32) (a4 : Int32) (a5 : Int32) (h : z_H), K61 a1 a3 a4 a5 h → k61 a1 a3 a4 a5 h = RR → z_G p l e R s m args below meth c D dA ad 7 (z_PI RR) (z_c ext) 61 [some (.ref 14), some (.long a1), none, some (.int a3), some (.int a4), some (.int a5), none] [] h), ∀ (a1 : Int64) (a3 : Int32) (a4 : Int32) (a5 : Int32) (h : z_H), tk_X4_countReached_135 K45 K61 a1 a3 a4 a5 h → fn_X4_countReached_135 k45 k61 a1 a3 a4 a5 h = RR → z_G p l e R s m args below meth c D dA ad 7 (z_PI RR) (z_c ext) 135 [some (.ref 14), some (.long a1), none, some (.int a3), some (.int a4), some (.int a5), none] [] h := by
    intro k45 K45 hk45 k61 K61 hk61 a1 a3 a4 a5 h T E
    unfold tk_X4_countReached_135 at T; unfold fn_X4_countReached_135 at E
    refine z_go hC (pc' := 138) (ls' := [some (.ref 14), some (.long a1), none, some (.int a3), some (.int a4), some (.int (a5 + (nI 1))), none]) (st' := []) (h' := h) (cs := []) [.iinc 5 1] (by decide +kernel) rfl rfl trivial ?_
    refine z_goto hC (off := -77) 61 (by decide +kernel) (by decide) ?_
    exact hk61 a1 a3 a4 (a5 + (nI 1)) h T E
  have P61 : ∀ (k45 : Int64 → Int32 → Int32 → z_H → z_R) (K45 : Int64 → Int32 → Int32 → z_H → Prop) (hk45 : ∀ (a1 : Int64) (a3 : Int32) (a4 : Int32) (h : z_H), K45 a1 a3 a4 h → k45 a1 a3 a4 h = RR → z_G p l e R s m args below meth c D dA ad 7 (z_PI RR) (z_c ext) 45 [some (.ref 14), some (.long a1), none, some (.int a3), some (.int a4), none, none] [] h), ∀ (n : Nat), ∀ (a1 : Int64) (a3 : Int32) (a4 : Int32) (a5 : Int32) (h : z_H), tk_X4_countReached_61 K45 n a1 a3 a4 a5 h → fn_X4_countReached_61 k45 n a1 a3 a4 a5 h = RR → z_G p l e R s m args below meth c D dA ad 7 (z_PI RR) (z_c ext) 61 [some (.ref 14), some (.long a1), none, some (.int a3), some (.int a4), some (.int a5), none] [] h := by
    intro k45 K45 hk45 n
    induction n with
    | zero => intro a1 a3 a4 a5 h T E; exact False.elim T
    | succ n ih =>
      intro a1 a3 a4 a5 h T E
      unfold tk_X4_countReached_61 at T; unfold fn_X4_countReached_61 at E; dsimp only at T E
      have hk61 := ih
      refine z_go hC (pc' := 64) (ls' := [some (.ref 14), some (.long a1), none, some (.int a3), some (.int a4), some (.int a5), none]) (st' := [.int (nI 4), .int a5]) (h' := h) (cs := []) [.iload 5, .iconst 4] (by decide +kernel) rfl rfl trivial ?_
      refine z_icmp_ge hC (off := 77) 141 (by decide +kernel) (by decide) (fun c1 => ?_) (fun c1 => ?_)
      · skip
        have E := (if_pos c1).symm.trans E
        have T := T.1 c1
        refine z_go hC (pc' := 144) (ls' := [some (.ref 14), some (.long a1), none, some (.int a3), some (.int (a4 + (nI 1))), some (.int a5), none]) (st' := []) (h' := h) (cs := []) [.iinc 4 1] (by decide +kernel) rfl rfl trivial ?_
        refine z_goto hC (off := -99) 45 (by decide +kernel) (by decide) ?_
        refine z_less (ls' := [some (.ref 14), some (.long a1), none, some (.int a3), some (.int (a4 + (nI 1))), none, none]) (by simp [z_sub]) ?_
        exact hk45 a1 a3 (a4 + (nI 1)) h T E
      · skip
        have E := (if_neg c1).symm.trans E
        have T := T.2 c1
        refine z_go hC (pc' := 77) (ls' := [some (.ref 14), some (.long a1), none, some (.int a3), some (.int a4), some (.int a5), none]) (st' := [.int a4, .ref 15, .ref 1]) (h' := h) (cs := []) [.aload_n 0, .getfield 25, .aload_n 0, .getfield 9, .iload 4] (by decide +kernel) rfl rfl trivial ?_
        refine z_callSN hC hN hR (as := [.ref 15, .int a4]) (rest := [.ref 1]) ok_X4_55 (by decide +kernel) (sp_X7_at l _ h 15 36 [] a4 rfl (by decide)) (Nat.le_of_ble_eq_true rfl) rfl rfl (Nat.le_of_ble_eq_true rfl) ⟨Nat.zero_le _, Nat.zero_le _⟩ (fun r2 h3 q4 => z_fun q4 ?_)
        refine z_go hC (pc' := 82) (ls' := [some (.ref 14), some (.long a1), none, some (.int a3), some (.int a4), some (.int a5), none]) (st' := [.int a5, .int (z_atv h 15 36 a4), .ref 1]) (h' := h) (cs := []) [.iload 5] (by decide +kernel) rfl rfl trivial ?_
        refine z_callV hC hN hR (as := [.int (z_atv h 15 36 a4), .int a5]) (rest := []) ok_X4_59 (by decide +kernel) (sp_X0_goFrom l _ h (z_atv h 15 36 a4) a5) rfl rfl (Nat.le_of_ble_eq_true rfl) rfl rfl (Nat.le_of_ble_eq_true rfl) ⟨Nat.zero_le _, Nat.zero_le _⟩ (fun r5 h6 q7 => z_fun q7 ?_)
        refine z_go hC (pc' := 90) (ls' := [some (.ref 14), some (.long a1), none, some (.int a3), some (.int a4), some (.int a5), some (.int (fv_X0_goFrom h (z_atv h 15 36 a4) a5))]) (st' := [.int (-1), .int (fv_X0_goFrom h (z_atv h 15 36 a4) a5)]) (h' := h) (cs := []) [.istore 6, .iload 6, .iconst (-1)] (by decide +kernel) rfl rfl trivial ?_
        refine z_icmp_eq hC (off := 45) 135 (by decide +kernel) (by decide) (fun c8 => ?_) (fun c8 => ?_)
        · skip
          have E := (if_pos c8).symm.trans E
          have T := T.1 c8
          refine z_less (ls' := [some (.ref 14), some (.long a1), none, some (.int a3), some (.int a4), some (.int a5), none]) (by simp [z_sub]) ?_
          exact P135 _ _ hk45 _ _ hk61 a1 a3 a4 a5 h T E
        · skip
          have E := (if_neg c8).symm.trans E
          have T := T.2 c8
          refine z_go hC (pc' := 96) (ls' := [some (.ref 14), some (.long a1), none, some (.int a3), some (.int a4), some (.int a5), some (.int (fv_X0_goFrom h (z_atv h 15 36 a4) a5))]) (st' := [.int (fv_X0_goFrom h (z_atv h 15 36 a4) a5), .long a1]) (h' := h) (cs := []) [.lload_n 1, .iload 6] (by decide +kernel) rfl rfl trivial ?_
          refine z_callSN hC hN hR (as := [.long a1, .int (fv_X0_goFrom h (z_atv h 15 36 a4) a5)]) (rest := []) ok_X4_65 (by decide +kernel) (sp_X7_isIn l _ h a1 (fv_X0_goFrom h (z_atv h 15 36 a4) a5)) (Nat.le_of_ble_eq_true rfl) rfl rfl (Nat.le_of_ble_eq_true rfl) ⟨Nat.zero_le _, Nat.zero_le _⟩ (fun r9 h10 q11 => z_fun q11 ?_)
          refine z_if_ne hC (off := 36) 135 (by decide +kernel) (by decide) (fun c12 => ?_) (fun c12 => ?_)
          · skip
            have E := (if_neg c12).symm.trans E
            have T := T.2 c12
            refine z_less (ls' := [some (.ref 14), some (.long a1), none, some (.int a3), some (.int a4), some (.int a5), none]) (by simp [z_sub]) ?_
            exact P135 _ _ hk45 _ _ hk61 a1 a3 a4 a5 h T E
          · skip
            have E := (if_pos c12).symm.trans E
            have T := T.1 c12
            refine z_go hC (pc' := 108) (ls' := [some (.ref 14), some (.long a1), none, some (.int a3), some (.int a4), some (.int a5), some (.int (fv_X0_goFrom h (z_atv h 15 36 a4) a5))]) (st' := [.int (fv_X0_goFrom h (z_atv h 15 36 a4) a5), .ref 10]) (h' := h) (cs := []) [.aload_n 0, .getfield 33, .iload 6] (by decide +kernel) rfl rfl trivial ?_
            refine z_callV hC hN hR (as := [.int (fv_X0_goFrom h (z_atv h 15 36 a4) a5)]) (rest := []) ok_X4_69 (by decide +kernel) (sp_X6_isOn l _ h (fv_X0_goFrom h (z_atv h 15 36 a4) a5)) rfl rfl (Nat.le_of_ble_eq_true rfl) rfl rfl (Nat.le_of_ble_eq_true rfl) ⟨Nat.zero_le _, Nat.zero_le _⟩ (fun r13 h14 q15 => z_fun q15 ?_)
            refine z_if_ne hC (off := 24) 135 (by decide +kernel) (by decide) (fun c16 => ?_) (fun c16 => ?_)
            · skip
              have E := (if_neg c16).symm.trans E
              have T := T.2 c16
              refine z_less (ls' := [some (.ref 14), some (.long a1), none, some (.int a3), some (.int a4), some (.int a5), none]) (by simp [z_sub]) ?_
              exact P135 _ _ hk45 _ _ hk61 a1 a3 a4 a5 h T E
            · skip
              have E := (if_pos c16).symm.trans E
              have T := T.1 c16
              refine z_go hC (pc' := 121) (ls' := [some (.ref 14), some (.long a1), none, some (.int a3), some (.int a4), some (.int a5), some (.int (fv_X0_goFrom h (z_atv h 15 36 a4) a5))]) (st' := [.int (fv_X0_goFrom h (z_atv h 15 36 a4) a5), .int a3, .ref 15]) (h' := h) (cs := []) [.aload_n 0, .getfield 9, .iload_n 3, .iload 6] (by decide +kernel) rfl rfl trivial ?_
              refine z_callSN hC hN hR (as := [.ref 15, .int a3, .int (fv_X0_goFrom h (z_atv h 15 36 a4) a5)]) (rest := []) ok_X4_47 (by decide +kernel) (sp_X7_put l _ h 15 36 [] a3 (fv_X0_goFrom h (z_atv h 15 36 a4) a5) rfl (by decide)) (Nat.le_of_ble_eq_true rfl) rfl rfl (Nat.le_of_ble_eq_true rfl) ⟨Nat.zero_le _, Nat.zero_le _⟩ (fun r17 h18 q19 => z_fun q19 ?_)
              refine z_go hC (pc' := 127) (ls' := [some (.ref 14), some (.long a1), none, some (.int a3), some (.int a4), some (.int a5), some (.int (fv_X0_goFrom h (z_atv h 15 36 a4) a5))]) (st' := [.int (fv_X0_goFrom h (z_atv h 15 36 a4) a5), .long a1]) (h' := z_putv h 15 36 a3 (fv_X0_goFrom h (z_atv h 15 36 a4) a5)) (cs := []) [.lload_n 1, .iload 6] (by decide +kernel) rfl rfl trivial ?_
              refine z_callSN hC hN hR (as := [.int (fv_X0_goFrom h (z_atv h 15 36 a4) a5)]) (rest := [.long a1]) ok_X4_51 (by decide +kernel) (sp_X7_setOf l _ (z_putv h 15 36 a3 (fv_X0_goFrom h (z_atv h 15 36 a4) a5)) (fv_X0_goFrom h (z_atv h 15 36 a4) a5)) (Nat.le_of_ble_eq_true rfl) rfl rfl (Nat.le_of_ble_eq_true rfl) ⟨Nat.zero_le _, Nat.zero_le _⟩ (fun r20 h21 q22 => z_fun q22 ?_)
              refine z_go hC (pc' := 135) (ls' := [some (.ref 14), some (.long (a1 ||| (fv_X7_setOf (fv_X0_goFrom h (z_atv h 15 36 a4) a5)))), none, some (.int (a3 + (nI 1))), some (.int a4), some (.int a5), some (.int (fv_X0_goFrom h (z_atv h 15 36 a4) a5))]) (st' := []) (h' := z_putv h 15 36 a3 (fv_X0_goFrom h (z_atv h 15 36 a4) a5)) (cs := []) [.lor, .lstore_n 1, .iinc 3 1] (by decide +kernel) rfl rfl trivial ?_
              refine z_less (ls' := [some (.ref 14), some (.long (a1 ||| (fv_X7_setOf (fv_X0_goFrom h (z_atv h 15 36 a4) a5)))), none, some (.int (a3 + (nI 1))), some (.int a4), some (.int a5), none]) (by simp [z_sub]) ?_
              exact P135 _ _ hk45 _ _ hk61 (a1 ||| (fv_X7_setOf (fv_X0_goFrom h (z_atv h 15 36 a4) a5))) (a3 + (nI 1)) a4 a5 (z_putv h 15 36 a3 (fv_X0_goFrom h (z_atv h 15 36 a4) a5)) T E
  have P45 : ∀ (n : Nat), ∀ (a1 : Int64) (a3 : Int32) (a4 : Int32) (h : z_H), tk_X4_countReached_45  n a1 a3 a4 h → fn_X4_countReached_45  n a1 a3 a4 h = RR → z_G p l e R s m args below meth c D dA ad 7 (z_PI RR) (z_c ext) 45 [some (.ref 14), some (.long a1), none, some (.int a3), some (.int a4), none, none] [] h := by
    intro  n
    induction n with
    | zero => intro a1 a3 a4 h T E; exact False.elim T
    | succ n ih =>
      intro a1 a3 a4 h T E
      unfold tk_X4_countReached_45 at T; unfold fn_X4_countReached_45 at E; dsimp only at T E
      have hk45 := ih
      refine z_go hC (pc' := 48) (ls' := [some (.ref 14), some (.long a1), none, some (.int a3), some (.int a4), none, none]) (st' := [.int a3, .int a4]) (h' := h) (cs := []) [.iload 4, .iload_n 3] (by decide +kernel) rfl rfl trivial ?_
      refine z_icmp_ge hC (off := 99) 147 (by decide +kernel) (by decide) (fun c23 => ?_) (fun c23 => ?_)
      · skip
        have E := (if_pos c23).symm.trans E
        have T := T.1 c23
        refine z_go hC (pc' := 150) (ls' := [some (.ref 14), some (.long a1), none, some (.int a3), some (.int a4), none, none]) (st' := [.int (a3 - (nI 1))]) (h' := h) (cs := []) [.iload_n 3, .iconst 1, .isub] (by decide +kernel) rfl rfl trivial ?_
        exact z_ret_i hB rfl (by decide +kernel) (z_lfi E)
      · skip
        have E := (if_neg c23).symm.trans E
        have T := T.2 c23
        refine z_go hC (pc' := 55) (ls' := [some (.ref 14), some (.long a1), none, some (.int a3), some (.int a4), none, none]) (st' := [.int (nI 36), .int a4]) (h' := h) (cs := []) [.iload 4, .bipush 36] (by decide +kernel) rfl rfl trivial ?_
        refine z_icmp_ge hC (off := 92) 147 (by decide +kernel) (by decide) (fun c24 => ?_) (fun c24 => ?_)
        · skip
          have E := (if_pos c24).symm.trans E
          have T := T.1 c24
          refine z_go hC (pc' := 150) (ls' := [some (.ref 14), some (.long a1), none, some (.int a3), some (.int a4), none, none]) (st' := [.int (a3 - (nI 1))]) (h' := h) (cs := []) [.iload_n 3, .iconst 1, .isub] (by decide +kernel) rfl rfl trivial ?_
          exact z_ret_i hB rfl (by decide +kernel) (z_lfi E)
        · skip
          have E := (if_neg c24).symm.trans E
          have T := T.2 c24
          refine z_go hC (pc' := 61) (ls' := [some (.ref 14), some (.long a1), none, some (.int a3), some (.int a4), some (.int (nI 0)), none]) (st' := []) (h' := h) (cs := []) [.iconst 0, .istore 5] (by decide +kernel) rfl rfl trivial ?_
          exact P61 _ _ hk45 2000 a1 a3 a4 (nI 0) h T E
  refine z_go hC (pc' := 4) (ls' := [some (.ref 14), none, none, none, none, none, none]) (st' := [.ref 10]) (h' := h) (cs := []) [.aload_n 0, .getfield 33] (by decide +kernel) rfl rfl trivial ?_
  refine z_callV hC hN hR (as := []) (rest := []) ok_X4_37 (by decide +kernel) (sp_X6_isThere l _ h ) rfl rfl (Nat.le_of_ble_eq_true rfl) rfl rfl (Nat.le_of_ble_eq_true rfl) ⟨Nat.zero_le _, Nat.zero_le _⟩ (fun r25 h26 q27 => z_fun q27 ?_)
  refine z_if_ne hC (off := 5) 12 (by decide +kernel) (by decide) (fun c28 => ?_) (fun c28 => ?_)
  · skip
    have E := (if_neg c28).symm.trans E
    have T := T.2 c28
    refine z_go hC (pc' := 22) (ls' := [some (.ref 14), none, none, none, none, none, none]) (st' := [.int (nI 0), .ref 10, .int (nI 0), .ref 15]) (h' := h) (cs := []) [.aload_n 0, .getfield 9, .iconst 0, .aload_n 0, .getfield 33, .iconst 0] (by decide +kernel) rfl rfl trivial ?_
    refine z_callV hC hN hR (as := [.int (nI 0)]) (rest := [.int (nI 0), .ref 15]) ok_X4_43 (by decide +kernel) (sp_X6_cellOf l _ h (nI 0)) rfl rfl (Nat.le_of_ble_eq_true rfl) rfl rfl (Nat.le_of_ble_eq_true rfl) ⟨Nat.zero_le _, Nat.zero_le _⟩ (fun r29 h30 q31 => z_fun q31 ?_)
    refine z_callSN hC hN hR (as := [.ref 15, .int (nI 0), .int (h.1 11 ((((h.1 10 4) + (nI 0)) &&& (nI 63)).toNatClampNeg))]) (rest := []) ok_X4_47 (by decide +kernel) (sp_X7_put l _ h 15 36 [] (nI 0) (h.1 11 ((((h.1 10 4) + (nI 0)) &&& (nI 63)).toNatClampNeg)) rfl (by decide)) (Nat.le_of_ble_eq_true rfl) rfl rfl (Nat.le_of_ble_eq_true rfl) ⟨Nat.zero_le _, Nat.zero_le _⟩ (fun r32 h33 q34 => z_fun q34 ?_)
    refine z_go hC (pc' := 33) (ls' := [some (.ref 14), none, none, none, none, none, none]) (st' := [.int (nI 0), .ref 10]) (h' := z_putv h 15 36 (nI 0) (h.1 11 ((((h.1 10 4) + (nI 0)) &&& (nI 63)).toNatClampNeg))) (cs := []) [.aload_n 0, .getfield 33, .iconst 0] (by decide +kernel) rfl rfl trivial ?_
    refine z_callV hC hN hR (as := [.int (nI 0)]) (rest := []) ok_X4_43 (by decide +kernel) (sp_X6_cellOf l _ (z_putv h 15 36 (nI 0) (h.1 11 ((((h.1 10 4) + (nI 0)) &&& (nI 63)).toNatClampNeg))) (nI 0)) rfl rfl (Nat.le_of_ble_eq_true rfl) rfl rfl (Nat.le_of_ble_eq_true rfl) ⟨Nat.zero_le _, Nat.zero_le _⟩ (fun r35 h36 q37 => z_fun q37 ?_)
    refine z_callSN hC hN hR (as := [.int ((z_putv h 15 36 (nI 0) (h.1 11 ((((h.1 10 4) + (nI 0)) &&& (nI 63)).toNatClampNeg))).1 11 (((((z_putv h 15 36 (nI 0) (h.1 11 ((((h.1 10 4) + (nI 0)) &&& (nI 63)).toNatClampNeg))).1 10 4) + (nI 0)) &&& (nI 63)).toNatClampNeg))]) (rest := []) ok_X4_51 (by decide +kernel) (sp_X7_setOf l _ (z_putv h 15 36 (nI 0) (h.1 11 ((((h.1 10 4) + (nI 0)) &&& (nI 63)).toNatClampNeg))) ((z_putv h 15 36 (nI 0) (h.1 11 ((((h.1 10 4) + (nI 0)) &&& (nI 63)).toNatClampNeg))).1 11 (((((z_putv h 15 36 (nI 0) (h.1 11 ((((h.1 10 4) + (nI 0)) &&& (nI 63)).toNatClampNeg))).1 10 4) + (nI 0)) &&& (nI 63)).toNatClampNeg))) (Nat.le_of_ble_eq_true rfl) rfl rfl (Nat.le_of_ble_eq_true rfl) ⟨Nat.zero_le _, Nat.zero_le _⟩ (fun r38 h39 q40 => z_fun q40 ?_)
    refine z_go hC (pc' := 45) (ls' := [some (.ref 14), some (.long (fv_X7_setOf ((z_putv h 15 36 (nI 0) (h.1 11 ((((h.1 10 4) + (nI 0)) &&& (nI 63)).toNatClampNeg))).1 11 (((((z_putv h 15 36 (nI 0) (h.1 11 ((((h.1 10 4) + (nI 0)) &&& (nI 63)).toNatClampNeg))).1 10 4) + (nI 0)) &&& (nI 63)).toNatClampNeg)))), none, some (.int (nI 1)), some (.int (nI 0)), none, none]) (st' := []) (h' := z_putv h 15 36 (nI 0) (h.1 11 ((((h.1 10 4) + (nI 0)) &&& (nI 63)).toNatClampNeg))) (cs := []) [.lstore_n 1, .iconst 1, .istore_n 3, .iconst 0, .istore 4] (by decide +kernel) rfl rfl trivial ?_
    exact P45 2000 (fv_X7_setOf ((z_putv h 15 36 (nI 0) (h.1 11 ((((h.1 10 4) + (nI 0)) &&& (nI 63)).toNatClampNeg))).1 11 (((((z_putv h 15 36 (nI 0) (h.1 11 ((((h.1 10 4) + (nI 0)) &&& (nI 63)).toNatClampNeg))).1 10 4) + (nI 0)) &&& (nI 63)).toNatClampNeg))) (nI 1) (nI 0) (z_putv h 15 36 (nI 0) (h.1 11 ((((h.1 10 4) + (nI 0)) &&& (nI 63)).toNatClampNeg))) T E
  · skip
    have E := (if_pos c28).symm.trans E
    have T := T.1 c28
    refine z_go hC (pc' := 11) (ls' := [some (.ref 14), none, none, none, none, none, none]) (st' := [.int (nI 0)]) (h' := h) (cs := []) [.iconst 0] (by decide +kernel) rfl rfl trivial ?_
    exact z_ret_i hB rfl (by decide +kernel) (z_lfi E)

def fn_X4_longestFrom_40 (rf : Int32 → z_H → z_R) (k4 : Int32 → Int32 → Int32 → z_H → z_R) (a1 : Int32) (a2 : Int32) (a3 : Int32) (h : z_H) : z_R := k4 a1 a2 (a3 + (nI 1)) h
def tk_X4_longestFrom_40 (rf : Int32 → z_H → z_R) (rt : Int32 → z_H → Prop) (K4 : Int32 → Int32 → Int32 → z_H → Prop) (a1 : Int32) (a2 : Int32) (a3 : Int32) (h : z_H) : Prop := K4 a1 a2 (a3 + (nI 1)) h
def fn_X4_longestFrom_4 (rf : Int32 → z_H → z_R)  : Nat → Int32 → Int32 → Int32 → z_H → z_R
  | 0, _, _, _, h => (none, h)
  | n + 1, a1, a2, a3, h => let k4 := fun (a1_ : Int32) (a2_ : Int32) (a3_ : Int32) (h_ : z_H) => fn_X4_longestFrom_4 rf  n a1_ a2_ a3_ h_; if (nI 4) ≤ a3 then (some (.int a2), h) else if a1 ≤ a2 then (some (.int a2), h) else if (fv_X6_advance h a3) = 0 then fn_X4_longestFrom_40 rf k4 a1 a2 a3 (fh_X6_advance h a3) else fn_X4_longestFrom_40 rf k4 a1 (fv_J9_max_7cf53 a2 ((nI 1) + (z_vi (rf (a1 - (nI 1)) (fh_X6_advance h a3))))) a3 (fh_X6_takeBack ((rf (a1 - (nI 1)) (fh_X6_advance h a3)).2) )
def tk_X4_longestFrom_4 (rf : Int32 → z_H → z_R) (rt : Int32 → z_H → Prop)  : Nat → Int32 → Int32 → Int32 → z_H → Prop
  | 0, _, _, _, _ => False
  | n + 1, a1, a2, a3, h => let K4 := fun (a1_ : Int32) (a2_ : Int32) (a3_ : Int32) (h_ : z_H) => tk_X4_longestFrom_4 rf rt  n a1_ a2_ a3_ h_; (((nI 4) ≤ a3) → (True)) ∧ ((¬ (nI 4) ≤ a3) → (((a1 ≤ a2) → (True)) ∧ ((¬ a1 ≤ a2) → ((((fv_X6_advance h a3) = 0) → (tk_X4_longestFrom_40 rf rt K4 a1 a2 a3 (fh_X6_advance h a3))) ∧ ((¬ (fv_X6_advance h a3) = 0) → (rt (a1 - (nI 1)) (fh_X6_advance h a3) ∧ (tk_X4_longestFrom_40 rf rt K4 a1 (fv_J9_max_7cf53 a2 ((nI 1) + (z_vi (rf (a1 - (nI 1)) (fh_X6_advance h a3))))) a3 (fh_X6_takeBack ((rf (a1 - (nI 1)) (fh_X6_advance h a3)).2) ))))))))
def fn_X4_longestFrom (rf : Int32 → z_H → z_R) (x : Int32) (h : z_H) : z_R := fn_X4_longestFrom_4 rf 2000 x (nI 0) (nI 0) h
def tk_X4_longestFrom (rf : Int32 → z_H → z_R) (rt : Int32 → z_H → Prop) (x : Int32) (h : z_H) : Prop := tk_X4_longestFrom_4 rf rt 2000 x (nI 0) (nI 0) h
set_option maxHeartbeats 4000000 in
set_option maxRecDepth 100000 in
theorem sp_X4_longestFrom_r (l : Launch) (ext : z_Sh) (rf : Int32 → z_H → z_R) (rt : Int32 → z_H → Prop) (dd : Nat) (hdd : 2 ≤ dd) (hrec : ∀ (x : Int32) (h : z_H), rt x h → z_Sp l dd yX4_longestFrom cX4_longestFrom 4 (some .int) [.ref 10, .int x] (z_c ext) h (z_PI (rf x h))) (h : z_H) (x : Int32)  (T : tk_X4_longestFrom rf rt x h) : z_Sp l (dd + 1) yX4_longestFrom cX4_longestFrom 4 (some .int) [.ref 10, .int x] (z_c ext) h (z_PI (fn_X4_longestFrom rf x h)) := by
  refine z_enter ft_X4 (by decide +kernel) fo_X4 (Nat.le_of_ble_eq_true rfl) ?_
  intro p e R s m args below meth c D dA ad hB
  have hC := hB.1
  have hN := hB.2.1
  have hR := hB.2.2.1
  unfold tk_X4_longestFrom at T; have E : (fn_X4_longestFrom_4 rf 2000 x (nI 0) (nI 0) h) = fn_X4_longestFrom rf x h := rfl
  generalize fn_X4_longestFrom rf x h = RR at E ⊢
  have P40 : ∀ (k4 : Int32 → Int32 → Int32 → z_H → z_R) (K4 : Int32 → Int32 → Int32 → z_H → Prop) (hk4 : ∀ (a1 : Int32) (a2 : Int32) (a3 : Int32) (h : z_H), K4 a1 a2 a3 h → k4 a1 a2 a3 h = RR → z_G p l e R s m args below meth c D dA ad 4 (z_PI RR) (z_c ext) 4 [some (.ref 10), some (.int a1), some (.int a2), some (.int a3)] [] h), ∀ (a1 : Int32) (a2 : Int32) (a3 : Int32) (h : z_H), tk_X4_longestFrom_40 rf rt K4 a1 a2 a3 h → fn_X4_longestFrom_40 rf k4 a1 a2 a3 h = RR → z_G p l e R s m args below meth c D dA ad 4 (z_PI RR) (z_c ext) 40 [some (.ref 10), some (.int a1), some (.int a2), some (.int a3)] [] h := by
    intro k4 K4 hk4 a1 a2 a3 h T E
    unfold tk_X4_longestFrom_40 at T; unfold fn_X4_longestFrom_40 at E
    refine z_go hC (pc' := 43) (ls' := [some (.ref 10), some (.int a1), some (.int a2), some (.int (a3 + (nI 1)))]) (st' := []) (h' := h) (cs := []) [.iinc 3 1] (by decide +kernel) rfl rfl trivial ?_
    refine z_goto hC (off := -39) 4 (by decide +kernel) (by decide) ?_
    exact hk4 a1 a2 (a3 + (nI 1)) h T E
  have P4 : ∀ (n : Nat), ∀ (a1 : Int32) (a2 : Int32) (a3 : Int32) (h : z_H), tk_X4_longestFrom_4 rf rt  n a1 a2 a3 h → fn_X4_longestFrom_4 rf  n a1 a2 a3 h = RR → z_G p l e R s m args below meth c D dA ad 4 (z_PI RR) (z_c ext) 4 [some (.ref 10), some (.int a1), some (.int a2), some (.int a3)] [] h := by
    intro  n
    induction n with
    | zero => intro a1 a2 a3 h T E; exact False.elim T
    | succ n ih =>
      intro a1 a2 a3 h T E
      unfold tk_X4_longestFrom_4 at T; unfold fn_X4_longestFrom_4 at E; dsimp only at T E
      have hk4 := ih
      refine z_go hC (pc' := 6) (ls' := [some (.ref 10), some (.int a1), some (.int a2), some (.int a3)]) (st' := [.int (nI 4), .int a3]) (h' := h) (cs := []) [.iload_n 3, .iconst 4] (by decide +kernel) rfl rfl trivial ?_
      refine z_icmp_ge hC (off := 40) 46 (by decide +kernel) (by decide) (fun c1 => ?_) (fun c1 => ?_)
      · skip
        have E := (if_pos c1).symm.trans E
        have T := T.1 c1
        refine z_go hC (pc' := 47) (ls' := [some (.ref 10), some (.int a1), some (.int a2), some (.int a3)]) (st' := [.int a2]) (h' := h) (cs := []) [.iload_n 2] (by decide +kernel) rfl rfl trivial ?_
        exact z_ret_i hB rfl (by decide +kernel) (z_lfi E)
      · skip
        have E := (if_neg c1).symm.trans E
        have T := T.2 c1
        refine z_go hC (pc' := 11) (ls' := [some (.ref 10), some (.int a1), some (.int a2), some (.int a3)]) (st' := [.int a1, .int a2]) (h' := h) (cs := []) [.iload_n 2, .iload_n 1] (by decide +kernel) rfl rfl trivial ?_
        refine z_icmp_ge hC (off := 35) 46 (by decide +kernel) (by decide) (fun c2 => ?_) (fun c2 => ?_)
        · skip
          have E := (if_pos c2).symm.trans E
          have T := T.1 c2
          refine z_go hC (pc' := 47) (ls' := [some (.ref 10), some (.int a1), some (.int a2), some (.int a3)]) (st' := [.int a2]) (h' := h) (cs := []) [.iload_n 2] (by decide +kernel) rfl rfl trivial ?_
          exact z_ret_i hB rfl (by decide +kernel) (z_lfi E)
        · skip
          have E := (if_neg c2).symm.trans E
          have T := T.2 c2
          refine z_go hC (pc' := 16) (ls' := [some (.ref 10), some (.int a1), some (.int a2), some (.int a3)]) (st' := [.int a3, .ref 10]) (h' := h) (cs := []) [.aload_n 0, .iload_n 3] (by decide +kernel) rfl rfl trivial ?_
          refine z_callV hC hN hR (as := [.int a3]) (rest := []) ok_X4_77 (by decide +kernel) (sp_X6_advance l _ h a3) rfl rfl (by omega) rfl rfl (Nat.le_of_ble_eq_true rfl) ⟨Nat.zero_le _, Nat.zero_le _⟩ (fun r3 h4 q5 => z_fun q5 ?_)
          refine z_if_eq hC (off := 21) 40 (by decide +kernel) (by decide) (fun c6 => ?_) (fun c6 => ?_)
          · skip
            have E := (if_pos c6).symm.trans E
            have T := T.1 c6
            exact P40 _ _ hk4 a1 a2 a3 (fh_X6_advance h a3) T E
          · skip
            have E := (if_neg c6).symm.trans E
            have T := T.2 c6
            refine z_go hC (pc' := 28) (ls' := [some (.ref 10), some (.int a1), some (.int a2), some (.int a3)]) (st' := [.int (a1 - (nI 1)), .ref 10, .int (nI 1), .int a2]) (h' := fh_X6_advance h a3) (cs := []) [.iload_n 2, .iconst 1, .aload_n 0, .iload_n 1, .iconst 1, .isub] (by decide +kernel) rfl rfl trivial ?_
            obtain ⟨t10, T⟩ := T
            refine z_callS hC hN hR (as := [.ref 10, .int (a1 - (nI 1))]) (rest := [.int (nI 1), .int a2]) ok_X4_73 (by decide +kernel) (hrec (a1 - (nI 1)) (fh_X6_advance h a3) t10) (by omega) rfl rfl (Nat.le_of_ble_eq_true rfl) ⟨Nat.zero_le _, Nat.zero_le _⟩ (fun r7 h8 q9 => z_fun q9 ?_)
            refine z_go hC (pc' := 32) (ls' := [some (.ref 10), some (.int a1), some (.int a2), some (.int a3)]) (st' := [.int ((nI 1) + (z_vi (rf (a1 - (nI 1)) (fh_X6_advance h a3)))), .int a2]) (h' := (rf (a1 - (nI 1)) (fh_X6_advance h a3)).2) (cs := []) [.iadd] (by decide +kernel) rfl rfl trivial ?_
            refine z_callS hC hN hR (as := [.int a2, .int ((nI 1) + (z_vi (rf (a1 - (nI 1)) (fh_X6_advance h a3))))]) (rest := []) ok_X4_80 (by decide +kernel) (sp_J9_max_7cf53 l _ ((rf (a1 - (nI 1)) (fh_X6_advance h a3)).2) a2 ((nI 1) + (z_vi (rf (a1 - (nI 1)) (fh_X6_advance h a3))))) (by omega) rfl rfl (Nat.le_of_ble_eq_true rfl) ⟨Nat.zero_le _, Nat.zero_le _⟩ (fun r11 h12 q13 => z_fun q13 ?_)
            refine z_go hC (pc' := 37) (ls' := [some (.ref 10), some (.int a1), some (.int (fv_J9_max_7cf53 a2 ((nI 1) + (z_vi (rf (a1 - (nI 1)) (fh_X6_advance h a3)))))), some (.int a3)]) (st' := [.ref 10]) (h' := (rf (a1 - (nI 1)) (fh_X6_advance h a3)).2) (cs := []) [.istore_n 2, .aload_n 0] (by decide +kernel) rfl rfl trivial ?_
            refine z_callV hC hN hR (as := []) (rest := []) ok_X4_85 (by decide +kernel) (sp_X6_takeBack l _ ((rf (a1 - (nI 1)) (fh_X6_advance h a3)).2) ) rfl rfl (by omega) rfl rfl (Nat.le_of_ble_eq_true rfl) ⟨Nat.zero_le _, Nat.zero_le _⟩ (fun r14 h15 q16 => z_fun q16 ?_)
            exact P40 _ _ hk4 a1 (fv_J9_max_7cf53 a2 ((nI 1) + (z_vi (rf (a1 - (nI 1)) (fh_X6_advance h a3))))) a3 (fh_X6_takeBack ((rf (a1 - (nI 1)) (fh_X6_advance h a3)).2) ) T E
  refine z_go hC (pc' := 4) (ls' := [some (.ref 10), some (.int x), some (.int (nI 0)), some (.int (nI 0))]) (st' := []) (h' := h) (cs := []) [.iconst 0, .istore_n 2, .iconst 0, .istore_n 3] (by decide +kernel) rfl rfl trivial ?_
  exact P4 2000 x (nI 0) (nI 0) h T E
def fx_X4_longestFrom : Nat → Int32 → z_H → z_R
  | 0, _, h => (none, h)
  | n + 1, x, h => fn_X4_longestFrom (fx_X4_longestFrom n) x h
def tx_X4_longestFrom : Nat → Int32 → z_H → Prop
  | 0, _, _ => False
  | n + 1, x, h => tk_X4_longestFrom (fx_X4_longestFrom n) (tx_X4_longestFrom n) x h
theorem sp_X4_longestFrom (l : Launch) (ext : z_Sh) : ∀ (n : Nat) (x : Int32) (h : z_H), tx_X4_longestFrom n x h → z_Sp l (2 + n) yX4_longestFrom cX4_longestFrom 4 (some .int) [.ref 10, .int x] (z_c ext) h (z_PI (fx_X4_longestFrom n x h))
  | 0, _, _, T => False.elim T
  | n + 1, x, h, T => sp_X4_longestFrom_r l _ (fx_X4_longestFrom n) (tx_X4_longestFrom n) (2 + n) (by omega) (fun x h t => sp_X4_longestFrom l _ n x h t) h x T

def fn_X4_longestWalk (x : Int32) (h : z_H) : z_R := (some (.int (z_vi (fx_X4_longestFrom 8 x h))), (fx_X4_longestFrom 8 x h).2)
def tk_X4_longestWalk (x : Int32) (h : z_H) : Prop := tx_X4_longestFrom 8 x h
set_option maxHeartbeats 4000000 in
set_option maxRecDepth 100000 in
theorem sp_X4_longestWalk (l : Launch) (ext : z_Sh)  (h : z_H) (x : Int32)  (T : tk_X4_longestWalk x h) : z_Sp l 11 yX4_longestWalk cX4_longestWalk 2 (some .int) [.ref 14, .int x] (z_c ext) h (z_PI (fn_X4_longestWalk x h)) := by
  refine z_enter ft_X4 (by decide +kernel) fo_X4 (Nat.le_of_ble_eq_true rfl) ?_
  intro p e R s m args below meth c D dA ad hB
  have hC := hB.1
  have hN := hB.2.1
  have hR := hB.2.2.1
  unfold tk_X4_longestWalk at T; have E : ((some (.int (z_vi (fx_X4_longestFrom 8 x h))), (fx_X4_longestFrom 8 x h).2)) = fn_X4_longestWalk x h := rfl
  generalize fn_X4_longestWalk x h = RR at E ⊢
  refine z_go hC (pc' := 5) (ls' := [some (.ref 14), some (.int x)]) (st' := [.int x, .ref 10]) (h' := h) (cs := []) [.aload_n 0, .getfield 33, .iload_n 1] (by decide +kernel) rfl rfl trivial ?_
  have t4 := T
  refine z_callS hC hN hR (as := [.ref 10, .int x]) (rest := []) ok_X4_73 (by decide +kernel) (sp_X4_longestFrom l _ 8 x h t4) (Nat.le_of_ble_eq_true rfl) rfl rfl (Nat.le_of_ble_eq_true rfl) ⟨Nat.zero_le _, Nat.zero_le _⟩ (fun r1 h2 q3 => z_fun q3 ?_)
  exact z_ret_i hB rfl (by decide +kernel) (z_lfi E)

def fn_X4_eatsWithin_52 (rf : Int32 → z_H → z_R) (k4 : Int32 → Int32 → Int32 → z_H → z_R) (a1 : Int32) (a2 : Int32) (a3 : Int32) (h : z_H) : z_R := k4 a1 a2 (a3 + (nI 1)) h
def tk_X4_eatsWithin_52 (rf : Int32 → z_H → z_R) (rt : Int32 → z_H → Prop) (K4 : Int32 → Int32 → Int32 → z_H → Prop) (a1 : Int32) (a2 : Int32) (a3 : Int32) (h : z_H) : Prop := K4 a1 a2 (a3 + (nI 1)) h
def fn_X4_eatsWithin_47 (rf : Int32 → z_H → z_R) (k4 : Int32 → Int32 → Int32 → z_H → z_R) (a1 : Int32) (a3 : Int32) (s0 : Int32) (h : z_H) : z_R := fn_X4_eatsWithin_52 rf k4 a1 s0 a3 (fh_X6_takeBack h )
def tk_X4_eatsWithin_47 (rf : Int32 → z_H → z_R) (rt : Int32 → z_H → Prop) (K4 : Int32 → Int32 → Int32 → z_H → Prop) (a1 : Int32) (a3 : Int32) (s0 : Int32) (h : z_H) : Prop := tk_X4_eatsWithin_52 rf rt K4 a1 s0 a3 (fh_X6_takeBack h )
def fn_X4_eatsWithin_42 (rf : Int32 → z_H → z_R) (k4 : Int32 → Int32 → Int32 → z_H → z_R) (a1 : Int32) (a3 : Int32) (h : z_H) : z_R := fn_X4_eatsWithin_47 rf k4 a1 a3 (nI 1) h
def tk_X4_eatsWithin_42 (rf : Int32 → z_H → z_R) (rt : Int32 → z_H → Prop) (K4 : Int32 → Int32 → Int32 → z_H → Prop) (a1 : Int32) (a3 : Int32) (h : z_H) : Prop := tk_X4_eatsWithin_47 rf rt K4 a1 a3 (nI 1) h
def fn_X4_eatsWithin_4 (rf : Int32 → z_H → z_R)  : Nat → Int32 → Int32 → Int32 → z_H → z_R
  | 0, _, _, _, h => (none, h)
  | n + 1, a1, a2, a3, h => let k4 := fun (a1_ : Int32) (a2_ : Int32) (a3_ : Int32) (h_ : z_H) => fn_X4_eatsWithin_4 rf  n a1_ a2_ a3_ h_; if (nI 4) ≤ a3 then (some (.int a2), h) else if a1 ≤ 0 then (some (.int a2), h) else if a2 = 0 then if (fv_X6_advance h a3) = 0 then fn_X4_eatsWithin_52 rf k4 a1 a2 a3 (fh_X6_advance h a3) else if (fv_X6_hasJustEaten (fh_X6_advance h a3) ) = 0 then if (z_vi (rf (a1 - (nI 1)) (fh_X6_advance h a3))) = 0 then fn_X4_eatsWithin_47 rf k4 a1 a3 (nI 0) ((rf (a1 - (nI 1)) (fh_X6_advance h a3)).2) else fn_X4_eatsWithin_42 rf k4 a1 a3 ((rf (a1 - (nI 1)) (fh_X6_advance h a3)).2) else fn_X4_eatsWithin_42 rf k4 a1 a3 (fh_X6_advance h a3) else (some (.int a2), h)
def tk_X4_eatsWithin_4 (rf : Int32 → z_H → z_R) (rt : Int32 → z_H → Prop)  : Nat → Int32 → Int32 → Int32 → z_H → Prop
  | 0, _, _, _, _ => False
  | n + 1, a1, a2, a3, h => let K4 := fun (a1_ : Int32) (a2_ : Int32) (a3_ : Int32) (h_ : z_H) => tk_X4_eatsWithin_4 rf rt  n a1_ a2_ a3_ h_; (((nI 4) ≤ a3) → ((a2 = 0 ∨ a2 = 1))) ∧ ((¬ (nI 4) ≤ a3) → (((a1 ≤ 0) → ((a2 = 0 ∨ a2 = 1))) ∧ ((¬ a1 ≤ 0) → (((a2 = 0) → ((((fv_X6_advance h a3) = 0) → (tk_X4_eatsWithin_52 rf rt K4 a1 a2 a3 (fh_X6_advance h a3))) ∧ ((¬ (fv_X6_advance h a3) = 0) → ((((fv_X6_hasJustEaten (fh_X6_advance h a3) ) = 0) → (rt (a1 - (nI 1)) (fh_X6_advance h a3) ∧ ((((z_vi (rf (a1 - (nI 1)) (fh_X6_advance h a3))) = 0) → (tk_X4_eatsWithin_47 rf rt K4 a1 a3 (nI 0) ((rf (a1 - (nI 1)) (fh_X6_advance h a3)).2))) ∧ ((¬ (z_vi (rf (a1 - (nI 1)) (fh_X6_advance h a3))) = 0) → (tk_X4_eatsWithin_42 rf rt K4 a1 a3 ((rf (a1 - (nI 1)) (fh_X6_advance h a3)).2)))))) ∧ ((¬ (fv_X6_hasJustEaten (fh_X6_advance h a3) ) = 0) → (tk_X4_eatsWithin_42 rf rt K4 a1 a3 (fh_X6_advance h a3))))))) ∧ ((¬ a2 = 0) → ((a2 = 0 ∨ a2 = 1)))))))
def fn_X4_eatsWithin (rf : Int32 → z_H → z_R) (x : Int32) (h : z_H) : z_R := fn_X4_eatsWithin_4 rf 2000 x (nI 0) (nI 0) h
def tk_X4_eatsWithin (rf : Int32 → z_H → z_R) (rt : Int32 → z_H → Prop) (x : Int32) (h : z_H) : Prop := tk_X4_eatsWithin_4 rf rt 2000 x (nI 0) (nI 0) h
set_option maxHeartbeats 4000000 in
set_option maxRecDepth 100000 in
theorem sp_X4_eatsWithin_r (l : Launch) (ext : z_Sh) (rf : Int32 → z_H → z_R) (rt : Int32 → z_H → Prop) (dd : Nat) (hdd : 2 ≤ dd) (hrec : ∀ (x : Int32) (h : z_H), rt x h → z_Sp l dd yX4_eatsWithin cX4_eatsWithin 4 (some .boolean) [.ref 10, .int x] (z_c ext) h (z_PB (rf x h))) (h : z_H) (x : Int32)  (T : tk_X4_eatsWithin rf rt x h) : z_Sp l (dd + 1) yX4_eatsWithin cX4_eatsWithin 4 (some .boolean) [.ref 10, .int x] (z_c ext) h (z_PB (fn_X4_eatsWithin rf x h)) := by
  refine z_enter ft_X4 (by decide +kernel) fo_X4 (Nat.le_of_ble_eq_true rfl) ?_
  intro p e R s m args below meth c D dA ad hB
  have hC := hB.1
  have hN := hB.2.1
  have hR := hB.2.2.1
  unfold tk_X4_eatsWithin at T; have E : (fn_X4_eatsWithin_4 rf 2000 x (nI 0) (nI 0) h) = fn_X4_eatsWithin rf x h := rfl
  generalize fn_X4_eatsWithin rf x h = RR at E ⊢
  have P52 : ∀ (k4 : Int32 → Int32 → Int32 → z_H → z_R) (K4 : Int32 → Int32 → Int32 → z_H → Prop) (hk4 : ∀ (a1 : Int32) (a2 : Int32) (a3 : Int32) (h : z_H), K4 a1 a2 a3 h → k4 a1 a2 a3 h = RR → z_G p l e R s m args below meth c D dA ad 4 (z_PB RR) (z_c ext) 4 [some (.ref 10), some (.int a1), some (.int a2), some (.int a3)] [] h), ∀ (a1 : Int32) (a2 : Int32) (a3 : Int32) (h : z_H), tk_X4_eatsWithin_52 rf rt K4 a1 a2 a3 h → fn_X4_eatsWithin_52 rf k4 a1 a2 a3 h = RR → z_G p l e R s m args below meth c D dA ad 4 (z_PB RR) (z_c ext) 52 [some (.ref 10), some (.int a1), some (.int a2), some (.int a3)] [] h := by
    intro k4 K4 hk4 a1 a2 a3 h T E
    unfold tk_X4_eatsWithin_52 at T; unfold fn_X4_eatsWithin_52 at E
    refine z_go hC (pc' := 55) (ls' := [some (.ref 10), some (.int a1), some (.int a2), some (.int (a3 + (nI 1)))]) (st' := []) (h' := h) (cs := []) [.iinc 3 1] (by decide +kernel) rfl rfl trivial ?_
    refine z_goto hC (off := -51) 4 (by decide +kernel) (by decide) ?_
    exact hk4 a1 a2 (a3 + (nI 1)) h T E
  have P47 : ∀ (k4 : Int32 → Int32 → Int32 → z_H → z_R) (K4 : Int32 → Int32 → Int32 → z_H → Prop) (hk4 : ∀ (a1 : Int32) (a2 : Int32) (a3 : Int32) (h : z_H), K4 a1 a2 a3 h → k4 a1 a2 a3 h = RR → z_G p l e R s m args below meth c D dA ad 4 (z_PB RR) (z_c ext) 4 [some (.ref 10), some (.int a1), some (.int a2), some (.int a3)] [] h), ∀ (a1 : Int32) (a3 : Int32) (s0 : Int32) (h : z_H), tk_X4_eatsWithin_47 rf rt K4 a1 a3 s0 h → fn_X4_eatsWithin_47 rf k4 a1 a3 s0 h = RR → z_G p l e R s m args below meth c D dA ad 4 (z_PB RR) (z_c ext) 47 [some (.ref 10), some (.int a1), none, some (.int a3)] [.int s0] h := by
    intro k4 K4 hk4 a1 a3 s0 h T E
    unfold tk_X4_eatsWithin_47 at T; unfold fn_X4_eatsWithin_47 at E
    refine z_go hC (pc' := 49) (ls' := [some (.ref 10), some (.int a1), some (.int s0), some (.int a3)]) (st' := [.ref 10]) (h' := h) (cs := []) [.istore_n 2, .aload_n 0] (by decide +kernel) rfl rfl trivial ?_
    refine z_callV hC hN hR (as := []) (rest := []) ok_X4_85 (by decide +kernel) (sp_X6_takeBack l _ h ) rfl rfl (by omega) rfl rfl (Nat.le_of_ble_eq_true rfl) ⟨Nat.zero_le _, Nat.zero_le _⟩ (fun r1 h2 q3 => z_fun q3 ?_)
    exact P52 _ _ hk4 a1 s0 a3 (fh_X6_takeBack h ) T E
  have P42 : ∀ (k4 : Int32 → Int32 → Int32 → z_H → z_R) (K4 : Int32 → Int32 → Int32 → z_H → Prop) (hk4 : ∀ (a1 : Int32) (a2 : Int32) (a3 : Int32) (h : z_H), K4 a1 a2 a3 h → k4 a1 a2 a3 h = RR → z_G p l e R s m args below meth c D dA ad 4 (z_PB RR) (z_c ext) 4 [some (.ref 10), some (.int a1), some (.int a2), some (.int a3)] [] h), ∀ (a1 : Int32) (a3 : Int32) (h : z_H), tk_X4_eatsWithin_42 rf rt K4 a1 a3 h → fn_X4_eatsWithin_42 rf k4 a1 a3 h = RR → z_G p l e R s m args below meth c D dA ad 4 (z_PB RR) (z_c ext) 42 [some (.ref 10), some (.int a1), none, some (.int a3)] [] h := by
    intro k4 K4 hk4 a1 a3 h T E
    unfold tk_X4_eatsWithin_42 at T; unfold fn_X4_eatsWithin_42 at E
    refine z_go hC (pc' := 43) (ls' := [some (.ref 10), some (.int a1), none, some (.int a3)]) (st' := [.int (nI 1)]) (h' := h) (cs := []) [.iconst 1] (by decide +kernel) rfl rfl trivial ?_
    refine z_goto hC (off := 4) 47 (by decide +kernel) (by decide) ?_
    exact P47 _ _ hk4 a1 a3 (nI 1) h T E
  have P4 : ∀ (n : Nat), ∀ (a1 : Int32) (a2 : Int32) (a3 : Int32) (h : z_H), tk_X4_eatsWithin_4 rf rt  n a1 a2 a3 h → fn_X4_eatsWithin_4 rf  n a1 a2 a3 h = RR → z_G p l e R s m args below meth c D dA ad 4 (z_PB RR) (z_c ext) 4 [some (.ref 10), some (.int a1), some (.int a2), some (.int a3)] [] h := by
    intro  n
    induction n with
    | zero => intro a1 a2 a3 h T E; exact False.elim T
    | succ n ih =>
      intro a1 a2 a3 h T E
      unfold tk_X4_eatsWithin_4 at T; unfold fn_X4_eatsWithin_4 at E; dsimp only at T E
      have hk4 := ih
      refine z_go hC (pc' := 6) (ls' := [some (.ref 10), some (.int a1), some (.int a2), some (.int a3)]) (st' := [.int (nI 4), .int a3]) (h' := h) (cs := []) [.iload_n 3, .iconst 4] (by decide +kernel) rfl rfl trivial ?_
      refine z_icmp_ge hC (off := 52) 58 (by decide +kernel) (by decide) (fun c4 => ?_) (fun c4 => ?_)
      · skip
        have E := (if_pos c4).symm.trans E
        have T := T.1 c4
        refine z_go hC (pc' := 59) (ls' := [some (.ref 10), some (.int a1), some (.int a2), some (.int a3)]) (st' := [.int a2]) (h' := h) (cs := []) [.iload_n 2] (by decide +kernel) rfl rfl trivial ?_
        have t5 := T
        exact z_ret_z hB rfl t5 (by decide +kernel) (z_lfb t5 E)
      · skip
        have E := (if_neg c4).symm.trans E
        have T := T.2 c4
        refine z_go hC (pc' := 10) (ls' := [some (.ref 10), some (.int a1), some (.int a2), some (.int a3)]) (st' := [.int a1]) (h' := h) (cs := []) [.iload_n 1] (by decide +kernel) rfl rfl trivial ?_
        refine z_if_le hC (off := 48) 58 (by decide +kernel) (by decide) (fun c6 => ?_) (fun c6 => ?_)
        · skip
          have E := (if_pos c6).symm.trans E
          have T := T.1 c6
          refine z_go hC (pc' := 59) (ls' := [some (.ref 10), some (.int a1), some (.int a2), some (.int a3)]) (st' := [.int a2]) (h' := h) (cs := []) [.iload_n 2] (by decide +kernel) rfl rfl trivial ?_
          have t7 := T
          exact z_ret_z hB rfl t7 (by decide +kernel) (z_lfb t7 E)
        · skip
          have E := (if_neg c6).symm.trans E
          have T := T.2 c6
          refine z_go hC (pc' := 14) (ls' := [some (.ref 10), some (.int a1), some (.int a2), some (.int a3)]) (st' := [.int a2]) (h' := h) (cs := []) [.iload_n 2] (by decide +kernel) rfl rfl trivial ?_
          refine z_if_ne hC (off := 44) 58 (by decide +kernel) (by decide) (fun c8 => ?_) (fun c8 => ?_)
          · skip
            have E := (if_neg c8).symm.trans E
            have T := T.2 c8
            refine z_go hC (pc' := 59) (ls' := [some (.ref 10), some (.int a1), some (.int a2), some (.int a3)]) (st' := [.int a2]) (h' := h) (cs := []) [.iload_n 2] (by decide +kernel) rfl rfl trivial ?_
            have t9 := T
            exact z_ret_z hB rfl t9 (by decide +kernel) (z_lfb t9 E)
          · skip
            have E := (if_pos c8).symm.trans E
            have T := T.1 c8
            refine z_go hC (pc' := 19) (ls' := [some (.ref 10), some (.int a1), some (.int a2), some (.int a3)]) (st' := [.int a3, .ref 10]) (h' := h) (cs := []) [.aload_n 0, .iload_n 3] (by decide +kernel) rfl rfl trivial ?_
            refine z_callV hC hN hR (as := [.int a3]) (rest := []) ok_X4_77 (by decide +kernel) (sp_X6_advance l _ h a3) rfl rfl (by omega) rfl rfl (Nat.le_of_ble_eq_true rfl) ⟨Nat.zero_le _, Nat.zero_le _⟩ (fun r10 h11 q12 => z_fun q12 ?_)
            refine z_if_eq hC (off := 30) 52 (by decide +kernel) (by decide) (fun c13 => ?_) (fun c13 => ?_)
            · skip
              have E := (if_pos c13).symm.trans E
              have T := T.1 c13
              exact P52 _ _ hk4 a1 a2 a3 (fh_X6_advance h a3) T E
            · skip
              have E := (if_neg c13).symm.trans E
              have T := T.2 c13
              refine z_go hC (pc' := 26) (ls' := [some (.ref 10), some (.int a1), some (.int a2), some (.int a3)]) (st' := [.ref 10]) (h' := fh_X6_advance h a3) (cs := []) [.aload_n 0] (by decide +kernel) rfl rfl trivial ?_
              refine z_callV hC hN hR (as := []) (rest := []) ok_X4_98 (by decide +kernel) (sp_X6_hasJustEaten l _ (fh_X6_advance h a3) ) rfl rfl (by omega) rfl rfl (Nat.le_of_ble_eq_true rfl) ⟨Nat.zero_le _, Nat.zero_le _⟩ (fun r14 h15 q16 => z_fun q16 ?_)
              refine z_if_ne hC (off := 13) 42 (by decide +kernel) (by decide) (fun c17 => ?_) (fun c17 => ?_)
              · skip
                have E := (if_neg c17).symm.trans E
                have T := T.2 c17
                refine z_less (ls' := [some (.ref 10), some (.int a1), none, some (.int a3)]) (by simp [z_sub]) ?_
                exact P42 _ _ hk4 a1 a3 (fh_X6_advance h a3) T E
              · skip
                have E := (if_pos c17).symm.trans E
                have T := T.1 c17
                refine z_go hC (pc' := 36) (ls' := [some (.ref 10), some (.int a1), some (.int a2), some (.int a3)]) (st' := [.int (a1 - (nI 1)), .ref 10]) (h' := fh_X6_advance h a3) (cs := []) [.aload_n 0, .iload_n 1, .iconst 1, .isub] (by decide +kernel) rfl rfl trivial ?_
                obtain ⟨t21, T⟩ := T
                refine z_callS hC hN hR (as := [.ref 10, .int (a1 - (nI 1))]) (rest := []) ok_X4_94 (by decide +kernel) (hrec (a1 - (nI 1)) (fh_X6_advance h a3) t21) (by omega) rfl rfl (Nat.le_of_ble_eq_true rfl) ⟨Nat.zero_le _, Nat.zero_le _⟩ (fun r18 h19 q20 => z_funb q20 (fun z22 => ?_))
                refine z_if_eq hC (off := 7) 46 (by decide +kernel) (by decide) (fun c23 => ?_) (fun c23 => ?_)
                · skip
                  have E := (if_pos c23).symm.trans E
                  have T := T.1 c23
                  refine z_go hC (pc' := 47) (ls' := [some (.ref 10), some (.int a1), some (.int a2), some (.int a3)]) (st' := [.int (nI 0)]) (h' := (rf (a1 - (nI 1)) (fh_X6_advance h a3)).2) (cs := []) [.iconst 0] (by decide +kernel) rfl rfl trivial ?_
                  refine z_less (ls' := [some (.ref 10), some (.int a1), none, some (.int a3)]) (by simp [z_sub]) ?_
                  exact P47 _ _ hk4 a1 a3 (nI 0) ((rf (a1 - (nI 1)) (fh_X6_advance h a3)).2) T E
                · skip
                  have E := (if_neg c23).symm.trans E
                  have T := T.2 c23
                  refine z_less (ls' := [some (.ref 10), some (.int a1), none, some (.int a3)]) (by simp [z_sub]) ?_
                  exact P42 _ _ hk4 a1 a3 ((rf (a1 - (nI 1)) (fh_X6_advance h a3)).2) T E
  refine z_go hC (pc' := 4) (ls' := [some (.ref 10), some (.int x), some (.int (nI 0)), some (.int (nI 0))]) (st' := []) (h' := h) (cs := []) [.iconst 0, .istore_n 2, .iconst 0, .istore_n 3] (by decide +kernel) rfl rfl trivial ?_
  exact P4 2000 x (nI 0) (nI 0) h T E
def fx_X4_eatsWithin : Nat → Int32 → z_H → z_R
  | 0, _, h => (none, h)
  | n + 1, x, h => fn_X4_eatsWithin (fx_X4_eatsWithin n) x h
def tx_X4_eatsWithin : Nat → Int32 → z_H → Prop
  | 0, _, _ => False
  | n + 1, x, h => tk_X4_eatsWithin (fx_X4_eatsWithin n) (tx_X4_eatsWithin n) x h
theorem sp_X4_eatsWithin (l : Launch) (ext : z_Sh) : ∀ (n : Nat) (x : Int32) (h : z_H), tx_X4_eatsWithin n x h → z_Sp l (2 + n) yX4_eatsWithin cX4_eatsWithin 4 (some .boolean) [.ref 10, .int x] (z_c ext) h (z_PB (fx_X4_eatsWithin n x h))
  | 0, _, _, T => False.elim T
  | n + 1, x, h, T => sp_X4_eatsWithin_r l _ (fx_X4_eatsWithin n) (tx_X4_eatsWithin n) (2 + n) (by omega) (fun x h t => sp_X4_eatsWithin l _ n x h t) h x T

def fn_X4_fewestByDepths_14  : Nat → Int32 → z_H → z_R
  | 0, _, h => (none, h)
  | n + 1, a1, h => let k14 := fun (a1_ : Int32) (h_ : z_H) => fn_X4_fewestByDepths_14  n a1_ h_; if (nI 6) < a1 then (some (.int (-1)), h) else if (z_vi (fx_X4_eatsWithin 8 a1 h)) = 0 then k14 (a1 + (nI 1)) ((fx_X4_eatsWithin 8 a1 h).2) else (some (.int a1), (fx_X4_eatsWithin 8 a1 h).2)
def tk_X4_fewestByDepths_14  : Nat → Int32 → z_H → Prop
  | 0, _, _ => False
  | n + 1, a1, h => let K14 := fun (a1_ : Int32) (h_ : z_H) => tk_X4_fewestByDepths_14  n a1_ h_; (((nI 6) < a1) → (True)) ∧ ((¬ (nI 6) < a1) → (tx_X4_eatsWithin 8 a1 h ∧ ((((z_vi (fx_X4_eatsWithin 8 a1 h)) = 0) → (K14 (a1 + (nI 1)) ((fx_X4_eatsWithin 8 a1 h).2))) ∧ ((¬ (z_vi (fx_X4_eatsWithin 8 a1 h)) = 0) → (True)))))
def fn_X4_fewestByDepths  (h : z_H) : z_R := if (h.1 8 2) = 0 then (some (.int (-1)), h) else fn_X4_fewestByDepths_14 2000 (nI 1) h
def tk_X4_fewestByDepths  (h : z_H) : Prop := (((h.1 8 2) = 0) → (True)) ∧ ((¬ (h.1 8 2) = 0) → (tk_X4_fewestByDepths_14 2000 (nI 1) h))
set_option maxHeartbeats 4000000 in
set_option maxRecDepth 100000 in
theorem sp_X4_fewestByDepths (l : Launch) (ext : z_Sh)  (h : z_H)   (T : tk_X4_fewestByDepths  h) : z_Sp l 11 yX4_fewestByDepths cX4_fewestByDepths 2 (some .int) [.ref 14] (z_c ext) h (z_PI (fn_X4_fewestByDepths  h)) := by
  refine z_enter ft_X4 (by decide +kernel) fo_X4 (Nat.le_of_ble_eq_true rfl) ?_
  intro p e R s m args below meth c D dA ad hB
  have hC := hB.1
  have hN := hB.2.1
  have hR := hB.2.2.1
  unfold tk_X4_fewestByDepths at T; have E : (if (h.1 8 2) = 0 then (some (.int (-1)), h) else fn_X4_fewestByDepths_14 2000 (nI 1) h) = fn_X4_fewestByDepths  h := rfl
  generalize fn_X4_fewestByDepths  h = RR at E ⊢
  have P14 : ∀ (n : Nat), ∀ (a1 : Int32) (h : z_H), tk_X4_fewestByDepths_14  n a1 h → fn_X4_fewestByDepths_14  n a1 h = RR → z_G p l e R s m args below meth c D dA ad 2 (z_PI RR) (z_c ext) 14 [some (.ref 14), some (.int a1)] [] h := by
    intro  n
    induction n with
    | zero => intro a1 h T E; exact False.elim T
    | succ n ih =>
      intro a1 h T E
      unfold tk_X4_fewestByDepths_14 at T; unfold fn_X4_fewestByDepths_14 at E; dsimp only at T E
      have hk14 := ih
      refine z_go hC (pc' := 17) (ls' := [some (.ref 14), some (.int a1)]) (st' := [.int (nI 6), .int a1]) (h' := h) (cs := []) [.iload_n 1, .bipush 6] (by decide +kernel) rfl rfl trivial ?_
      refine z_icmp_gt hC (off := 22) 39 (by decide +kernel) (by decide) (fun c1 => ?_) (fun c1 => ?_)
      · skip
        have E := (if_pos c1).symm.trans E
        have T := T.1 c1
        refine z_go hC (pc' := 40) (ls' := [some (.ref 14), some (.int a1)]) (st' := [.int (-1)]) (h' := h) (cs := []) [.iconst (-1)] (by decide +kernel) rfl rfl trivial ?_
        exact z_ret_i hB rfl (by decide +kernel) (z_lfi E)
      · skip
        have E := (if_neg c1).symm.trans E
        have T := T.2 c1
        refine z_go hC (pc' := 25) (ls' := [some (.ref 14), some (.int a1)]) (st' := [.int a1, .ref 10]) (h' := h) (cs := []) [.aload_n 0, .getfield 33, .iload_n 1] (by decide +kernel) rfl rfl trivial ?_
        obtain ⟨t5, T⟩ := T
        refine z_callS hC hN hR (as := [.ref 10, .int a1]) (rest := []) ok_X4_94 (by decide +kernel) (sp_X4_eatsWithin l _ 8 a1 h t5) (Nat.le_of_ble_eq_true rfl) rfl rfl (Nat.le_of_ble_eq_true rfl) ⟨Nat.zero_le _, Nat.zero_le _⟩ (fun r2 h3 q4 => z_funb q4 (fun z6 => ?_))
        refine z_if_eq hC (off := 5) 33 (by decide +kernel) (by decide) (fun c7 => ?_) (fun c7 => ?_)
        · skip
          have E := (if_pos c7).symm.trans E
          have T := T.1 c7
          refine z_go hC (pc' := 36) (ls' := [some (.ref 14), some (.int (a1 + (nI 1)))]) (st' := []) (h' := (fx_X4_eatsWithin 8 a1 h).2) (cs := []) [.iinc 1 1] (by decide +kernel) rfl rfl trivial ?_
          refine z_goto hC (off := -22) 14 (by decide +kernel) (by decide) ?_
          exact hk14 (a1 + (nI 1)) ((fx_X4_eatsWithin 8 a1 h).2) T E
        · skip
          have E := (if_neg c7).symm.trans E
          have T := T.2 c7
          refine z_go hC (pc' := 32) (ls' := [some (.ref 14), some (.int a1)]) (st' := [.int a1]) (h' := (fx_X4_eatsWithin 8 a1 h).2) (cs := []) [.iload_n 1] (by decide +kernel) rfl rfl trivial ?_
          exact z_ret_i hB rfl (by decide +kernel) (z_lfi E)
  refine z_go hC (pc' := 4) (ls' := [some (.ref 14), none]) (st' := [.ref 8]) (h' := h) (cs := []) [.aload_n 0, .getfield 29] (by decide +kernel) rfl rfl trivial ?_
  refine z_callV hC hN hR (as := []) (rest := []) ok_X4_88 (by decide +kernel) (sp_X3_size l _ h ) rfl rfl (Nat.le_of_ble_eq_true rfl) rfl rfl (Nat.le_of_ble_eq_true rfl) ⟨Nat.zero_le _, Nat.zero_le _⟩ (fun r8 h9 q10 => z_fun q10 ?_)
  refine z_if_ne hC (off := 5) 12 (by decide +kernel) (by decide) (fun c11 => ?_) (fun c11 => ?_)
  · skip
    have E := (if_neg c11).symm.trans E
    have T := T.2 c11
    refine z_go hC (pc' := 14) (ls' := [some (.ref 14), some (.int (nI 1))]) (st' := []) (h' := h) (cs := []) [.iconst 1, .istore_n 1] (by decide +kernel) rfl rfl trivial ?_
    exact P14 2000 (nI 1) h T E
  · skip
    have E := (if_pos c11).symm.trans E
    have T := T.1 c11
    refine z_go hC (pc' := 11) (ls' := [some (.ref 14), none]) (st' := [.int (-1)]) (h' := h) (cs := []) [.iconst (-1)] (by decide +kernel) rfl rfl trivial ?_
    exact z_ret_i hB rfl (by decide +kernel) (z_lfi E)

def fn_X4_follow_4  : Nat → Int32 → Int32 → z_H → z_R
  | 0, _, _, h => (none, h)
  | n + 1, a1, a3, h => let k4 := fun (a1_ : Int32) (a3_ : Int32) (h_ : z_H) => fn_X4_follow_4  n a1_ a3_ h_; if a3 < 0 then (none, h) else k4 a1 (a3 + (z_bi (-1))) (fh_X6_advance h (fv_X1_directionIn a1 a3))
def tk_X4_follow_4  : Nat → Int32 → Int32 → z_H → Prop
  | 0, _, _, _ => False
  | n + 1, a1, a3, h => let K4 := fun (a1_ : Int32) (a3_ : Int32) (h_ : z_H) => tk_X4_follow_4  n a1_ a3_ h_; ((a3 < 0) → (True)) ∧ ((¬ a3 < 0) → (K4 a1 (a3 + (z_bi (-1))) (fh_X6_advance h (fv_X1_directionIn a1 a3))))
def fn_X4_follow (x : Int32) (y : Int32) (h : z_H) : z_R := fn_X4_follow_4 2000 x (y - (nI 1)) h
def tk_X4_follow (x : Int32) (y : Int32) (h : z_H) : Prop := tk_X4_follow_4 2000 x (y - (nI 1)) h
set_option maxHeartbeats 4000000 in
set_option maxRecDepth 100000 in
theorem sp_X4_follow (l : Launch) (ext : z_Sh)  (h : z_H) (x : Int32) (y : Int32)  (T : tk_X4_follow x y h) : z_Sp l 3 yX4_follow cX4_follow 4 none [.ref 14, .int x, .int y] (z_c ext) h (z_PV (fn_X4_follow x y h)) := by
  refine z_enter ft_X4 (by decide +kernel) fo_X4 (Nat.le_of_ble_eq_true rfl) ?_
  intro p e R s m args below meth c D dA ad hB
  have hC := hB.1
  have hN := hB.2.1
  have hR := hB.2.2.1
  unfold tk_X4_follow at T; have E : (fn_X4_follow_4 2000 x (y - (nI 1)) h) = fn_X4_follow x y h := rfl
  generalize fn_X4_follow x y h = RR at E ⊢
  have P4 : ∀ (n : Nat), ∀ (a1 : Int32) (a3 : Int32) (h : z_H), tk_X4_follow_4  n a1 a3 h → fn_X4_follow_4  n a1 a3 h = RR → z_G p l e R s m args below meth c D dA ad 4 (z_PV RR) (z_c ext) 4 [some (.ref 14), some (.int a1), none, some (.int a3)] [] h := by
    intro  n
    induction n with
    | zero => intro a1 a3 h T E; exact False.elim T
    | succ n ih =>
      intro a1 a3 h T E
      unfold tk_X4_follow_4 at T; unfold fn_X4_follow_4 at E; dsimp only at T E
      have hk4 := ih
      refine z_go hC (pc' := 5) (ls' := [some (.ref 14), some (.int a1), none, some (.int a3)]) (st' := [.int a3]) (h' := h) (cs := []) [.iload_n 3] (by decide +kernel) rfl rfl trivial ?_
      refine z_if_lt hC (off := 22) 27 (by decide +kernel) (by decide) (fun c1 => ?_) (fun c1 => ?_)
      · skip
        have E := (if_pos c1).symm.trans E
        have T := T.1 c1
        exact z_ret_v hB rfl (by decide +kernel) (z_lfv E)
      · skip
        have E := (if_neg c1).symm.trans E
        have T := T.2 c1
        refine z_go hC (pc' := 14) (ls' := [some (.ref 14), some (.int a1), none, some (.int a3)]) (st' := [.int a3, .int a1, .ref 10]) (h' := h) (cs := []) [.aload_n 0, .getfield 33, .iload_n 1, .iload_n 3] (by decide +kernel) rfl rfl trivial ?_
        refine z_callS hC hN hR (as := [.int a1, .int a3]) (rest := [.ref 10]) ok_X4_123 (by decide +kernel) (sp_X1_directionIn l _ h a1 a3) (Nat.le_of_ble_eq_true rfl) rfl rfl (Nat.le_of_ble_eq_true rfl) ⟨Nat.zero_le _, Nat.zero_le _⟩ (fun r2 h3 q4 => z_fun q4 ?_)
        refine z_callV hC hN hR (as := [.int (fv_X1_directionIn a1 a3)]) (rest := []) ok_X4_77 (by decide +kernel) (sp_X6_advance l _ h (fv_X1_directionIn a1 a3)) rfl rfl (Nat.le_of_ble_eq_true rfl) rfl rfl (Nat.le_of_ble_eq_true rfl) ⟨Nat.zero_le _, Nat.zero_le _⟩ (fun r5 h6 q7 => z_fun q7 ?_)
        refine z_go hC (pc' := 24) (ls' := [some (.ref 14), some (.int a1), none, some (.int (a3 + (z_bi (-1))))]) (st' := []) (h' := fh_X6_advance h (fv_X1_directionIn a1 a3)) (cs := []) [.pop, .iinc 3 (-1)] (by decide +kernel) rfl rfl trivial ?_
        refine z_goto hC (off := -20) 4 (by decide +kernel) (by decide) ?_
        exact hk4 a1 (a3 + (z_bi (-1))) (fh_X6_advance h (fv_X1_directionIn a1 a3)) T E
  refine z_go hC (pc' := 4) (ls' := [some (.ref 14), some (.int x), some (.int y), some (.int (y - (nI 1)))]) (st' := []) (h' := h) (cs := []) [.iload_n 2, .iconst 1, .isub, .istore_n 3] (by decide +kernel) rfl rfl trivial ?_
  refine z_less (ls' := [some (.ref 14), some (.int x), none, some (.int (y - (nI 1)))]) (by simp [z_sub]) ?_
  exact P4 2000 x (y - (nI 1)) h T E

def fn_X4_eatsByOneStep_16_49 (k5 : Int32 → Int32 → Int32 → z_H → z_R) (a1 : Int32) (a3 : Int32) (a4 : Int32) (h : z_H) : z_R := k5 a1 a3 (a4 + (nI 1)) h
def tk_X4_eatsByOneStep_16_49 (K5 : Int32 → Int32 → Int32 → z_H → Prop) (a1 : Int32) (a3 : Int32) (a4 : Int32) (h : z_H) : Prop := K5 a1 a3 (a4 + (nI 1)) h
def fn_X4_eatsByOneStep_16_5  : Nat → Int32 → Int32 → Int32 → z_H → z_R
  | 0, _, _, _, h => (none, h)
  | n + 1, a1, a3, a4, h => let k5 := fun (a1_ : Int32) (a3_ : Int32) (a4_ : Int32) (h_ : z_H) => fn_X4_eatsByOneStep_16_5  n a1_ a3_ a4_ h_; if (nI 4) ≤ a4 then (some (.int a3), h) else if a3 = 0 then if (fv_X6_advance h a4) = 0 then fn_X4_eatsByOneStep_16_49 k5 a1 a3 a4 (fh_X6_advance h a4) else fn_X4_eatsByOneStep_16_49 k5 a1 (fv_X6_hasJustEaten (fh_X6_advance h a4) ) a4 (fh_X6_takeBack (fh_X1_add_16 (fh_X6_advance h a4) a1 a4) ) else (some (.int a3), h)
def tk_X4_eatsByOneStep_16_5  : Nat → Int32 → Int32 → Int32 → z_H → Prop
  | 0, _, _, _, _ => False
  | n + 1, a1, a3, a4, h => let K5 := fun (a1_ : Int32) (a3_ : Int32) (a4_ : Int32) (h_ : z_H) => tk_X4_eatsByOneStep_16_5  n a1_ a3_ a4_ h_; (((nI 4) ≤ a4) → ((a3 = 0 ∨ a3 = 1))) ∧ ((¬ (nI 4) ≤ a4) → (((a3 = 0) → ((((fv_X6_advance h a4) = 0) → (tk_X4_eatsByOneStep_16_49 K5 a1 a3 a4 (fh_X6_advance h a4))) ∧ ((¬ (fv_X6_advance h a4) = 0) → (tk_X4_eatsByOneStep_16_49 K5 a1 (fv_X6_hasJustEaten (fh_X6_advance h a4) ) a4 (fh_X6_takeBack (fh_X1_add_16 (fh_X6_advance h a4) a1 a4) ))))) ∧ ((¬ a3 = 0) → ((a3 = 0 ∨ a3 = 1)))))
def fn_X4_eatsByOneStep_16 (x : Int32) (h : z_H) : z_R := fn_X4_eatsByOneStep_16_5 2000 x (nI 0) (nI 0) h
def tk_X4_eatsByOneStep_16 (x : Int32) (h : z_H) : Prop := tk_X4_eatsByOneStep_16_5 2000 x (nI 0) (nI 0) h
set_option maxHeartbeats 4000000 in
set_option maxRecDepth 100000 in
theorem sp_X4_eatsByOneStep_16 (l : Launch) (ext : z_Sh)  (h : z_H) (x : Int32)  (T : tk_X4_eatsByOneStep_16 x h) : z_Sp l 3 yX4_eatsByOneStep cX4_eatsByOneStep 5 (some .boolean) [.ref 14, .int x, .ref 16] (z_c ext) h (z_PB (fn_X4_eatsByOneStep_16 x h)) := by
  refine z_enter ft_X4 (by decide +kernel) fo_X4 (Nat.le_of_ble_eq_true rfl) ?_
  intro p e R s m args below meth c D dA ad hB
  have hC := hB.1
  have hN := hB.2.1
  have hR := hB.2.2.1
  unfold tk_X4_eatsByOneStep_16 at T; have E : (fn_X4_eatsByOneStep_16_5 2000 x (nI 0) (nI 0) h) = fn_X4_eatsByOneStep_16 x h := rfl
  generalize fn_X4_eatsByOneStep_16 x h = RR at E ⊢
  have P49 : ∀ (k5 : Int32 → Int32 → Int32 → z_H → z_R) (K5 : Int32 → Int32 → Int32 → z_H → Prop) (hk5 : ∀ (a1 : Int32) (a3 : Int32) (a4 : Int32) (h : z_H), K5 a1 a3 a4 h → k5 a1 a3 a4 h = RR → z_G p l e R s m args below meth c D dA ad 5 (z_PB RR) (z_c ext) 5 [some (.ref 14), some (.int a1), some (.ref 16), some (.int a3), some (.int a4)] [] h), ∀ (a1 : Int32) (a3 : Int32) (a4 : Int32) (h : z_H), tk_X4_eatsByOneStep_16_49 K5 a1 a3 a4 h → fn_X4_eatsByOneStep_16_49 k5 a1 a3 a4 h = RR → z_G p l e R s m args below meth c D dA ad 5 (z_PB RR) (z_c ext) 49 [some (.ref 14), some (.int a1), some (.ref 16), some (.int a3), some (.int a4)] [] h := by
    intro k5 K5 hk5 a1 a3 a4 h T E
    unfold tk_X4_eatsByOneStep_16_49 at T; unfold fn_X4_eatsByOneStep_16_49 at E
    refine z_go hC (pc' := 52) (ls' := [some (.ref 14), some (.int a1), some (.ref 16), some (.int a3), some (.int (a4 + (nI 1)))]) (st' := []) (h' := h) (cs := []) [.iinc 4 1] (by decide +kernel) rfl rfl trivial ?_
    refine z_goto hC (off := -47) 5 (by decide +kernel) (by decide) ?_
    exact hk5 a1 a3 (a4 + (nI 1)) h T E
  have P5 : ∀ (n : Nat), ∀ (a1 : Int32) (a3 : Int32) (a4 : Int32) (h : z_H), tk_X4_eatsByOneStep_16_5  n a1 a3 a4 h → fn_X4_eatsByOneStep_16_5  n a1 a3 a4 h = RR → z_G p l e R s m args below meth c D dA ad 5 (z_PB RR) (z_c ext) 5 [some (.ref 14), some (.int a1), some (.ref 16), some (.int a3), some (.int a4)] [] h := by
    intro  n
    induction n with
    | zero => intro a1 a3 a4 h T E; exact False.elim T
    | succ n ih =>
      intro a1 a3 a4 h T E
      unfold tk_X4_eatsByOneStep_16_5 at T; unfold fn_X4_eatsByOneStep_16_5 at E; dsimp only at T E
      have hk5 := ih
      refine z_go hC (pc' := 8) (ls' := [some (.ref 14), some (.int a1), some (.ref 16), some (.int a3), some (.int a4)]) (st' := [.int (nI 4), .int a4]) (h' := h) (cs := []) [.iload 4, .iconst 4] (by decide +kernel) rfl rfl trivial ?_
      refine z_icmp_ge hC (off := 47) 55 (by decide +kernel) (by decide) (fun c1 => ?_) (fun c1 => ?_)
      · skip
        have E := (if_pos c1).symm.trans E
        have T := T.1 c1
        refine z_go hC (pc' := 56) (ls' := [some (.ref 14), some (.int a1), some (.ref 16), some (.int a3), some (.int a4)]) (st' := [.int a3]) (h' := h) (cs := []) [.iload_n 3] (by decide +kernel) rfl rfl trivial ?_
        have t2 := T
        exact z_ret_z hB rfl t2 (by decide +kernel) (z_lfb t2 E)
      · skip
        have E := (if_neg c1).symm.trans E
        have T := T.2 c1
        refine z_go hC (pc' := 12) (ls' := [some (.ref 14), some (.int a1), some (.ref 16), some (.int a3), some (.int a4)]) (st' := [.int a3]) (h' := h) (cs := []) [.iload_n 3] (by decide +kernel) rfl rfl trivial ?_
        refine z_if_ne hC (off := 43) 55 (by decide +kernel) (by decide) (fun c3 => ?_) (fun c3 => ?_)
        · skip
          have E := (if_neg c3).symm.trans E
          have T := T.2 c3
          refine z_go hC (pc' := 56) (ls' := [some (.ref 14), some (.int a1), some (.ref 16), some (.int a3), some (.int a4)]) (st' := [.int a3]) (h' := h) (cs := []) [.iload_n 3] (by decide +kernel) rfl rfl trivial ?_
          have t4 := T
          exact z_ret_z hB rfl t4 (by decide +kernel) (z_lfb t4 E)
        · skip
          have E := (if_pos c3).symm.trans E
          have T := T.1 c3
          refine z_go hC (pc' := 21) (ls' := [some (.ref 14), some (.int a1), some (.ref 16), some (.int a3), some (.int a4)]) (st' := [.int a4, .ref 10]) (h' := h) (cs := []) [.aload_n 0, .getfield 33, .iload 4] (by decide +kernel) rfl rfl trivial ?_
          refine z_callV hC hN hR (as := [.int a4]) (rest := []) ok_X4_77 (by decide +kernel) (sp_X6_advance l _ h a4) rfl rfl (Nat.le_of_ble_eq_true rfl) rfl rfl (Nat.le_of_ble_eq_true rfl) ⟨Nat.zero_le _, Nat.zero_le _⟩ (fun r5 h6 q7 => z_fun q7 ?_)
          refine z_if_eq hC (off := 25) 49 (by decide +kernel) (by decide) (fun c8 => ?_) (fun c8 => ?_)
          · skip
            have E := (if_pos c8).symm.trans E
            have T := T.1 c8
            exact P49 _ _ hk5 a1 a3 a4 (fh_X6_advance h a4) T E
          · skip
            have E := (if_neg c8).symm.trans E
            have T := T.2 c8
            refine z_go hC (pc' := 31) (ls' := [some (.ref 14), some (.int a1), some (.ref 16), some (.int a3), some (.int a4)]) (st' := [.ref 10]) (h' := fh_X6_advance h a4) (cs := []) [.aload_n 0, .getfield 33] (by decide +kernel) rfl rfl trivial ?_
            refine z_callV hC hN hR (as := []) (rest := []) ok_X4_98 (by decide +kernel) (sp_X6_hasJustEaten l _ (fh_X6_advance h a4) ) rfl rfl (Nat.le_of_ble_eq_true rfl) rfl rfl (Nat.le_of_ble_eq_true rfl) ⟨Nat.zero_le _, Nat.zero_le _⟩ (fun r9 h10 q11 => z_fun q11 ?_)
            refine z_go hC (pc' := 39) (ls' := [some (.ref 14), some (.int a1), some (.ref 16), some (.int (fv_X6_hasJustEaten (fh_X6_advance h a4) )), some (.int a4)]) (st' := [.int a4, .int a1, .ref 16]) (h' := fh_X6_advance h a4) (cs := []) [.istore_n 3, .aload_n 2, .iload_n 1, .iload 4] (by decide +kernel) rfl rfl trivial ?_
            refine z_callV hC hN hR (as := [.int a1, .int a4]) (rest := []) ok_X4_126 (by decide +kernel) (sp_X1_add_16 l _ (fh_X6_advance h a4) a1 a4) rfl rfl (Nat.le_of_ble_eq_true rfl) rfl rfl (Nat.le_of_ble_eq_true rfl) ⟨Nat.zero_le _, Nat.zero_le _⟩ (fun r12 h13 q14 => z_fun q14 ?_)
            refine z_go hC (pc' := 46) (ls' := [some (.ref 14), some (.int a1), some (.ref 16), some (.int (fv_X6_hasJustEaten (fh_X6_advance h a4) )), some (.int a4)]) (st' := [.ref 10]) (h' := fh_X1_add_16 (fh_X6_advance h a4) a1 a4) (cs := []) [.aload_n 0, .getfield 33] (by decide +kernel) rfl rfl trivial ?_
            refine z_callV hC hN hR (as := []) (rest := []) ok_X4_85 (by decide +kernel) (sp_X6_takeBack l _ (fh_X1_add_16 (fh_X6_advance h a4) a1 a4) ) rfl rfl (Nat.le_of_ble_eq_true rfl) rfl rfl (Nat.le_of_ble_eq_true rfl) ⟨Nat.zero_le _, Nat.zero_le _⟩ (fun r15 h16 q17 => z_fun q17 ?_)
            exact P49 _ _ hk5 a1 (fv_X6_hasJustEaten (fh_X6_advance h a4) ) a4 (fh_X6_takeBack (fh_X1_add_16 (fh_X6_advance h a4) a1 a4) ) T E
  refine z_go hC (pc' := 5) (ls' := [some (.ref 14), some (.int x), some (.ref 16), some (.int (nI 0)), some (.int (nI 0))]) (st' := []) (h' := h) (cs := []) [.iconst 0, .istore_n 3, .iconst 0, .istore 4] (by decide +kernel) rfl rfl trivial ?_
  exact P5 2000 x (nI 0) (nI 0) h T E

def fn_X4_eatsByOneStep_18_49 (k5 : Int32 → Int32 → Int32 → z_H → z_R) (a1 : Int32) (a3 : Int32) (a4 : Int32) (h : z_H) : z_R := k5 a1 a3 (a4 + (nI 1)) h
def tk_X4_eatsByOneStep_18_49 (K5 : Int32 → Int32 → Int32 → z_H → Prop) (a1 : Int32) (a3 : Int32) (a4 : Int32) (h : z_H) : Prop := K5 a1 a3 (a4 + (nI 1)) h
def fn_X4_eatsByOneStep_18_5  : Nat → Int32 → Int32 → Int32 → z_H → z_R
  | 0, _, _, _, h => (none, h)
  | n + 1, a1, a3, a4, h => let k5 := fun (a1_ : Int32) (a3_ : Int32) (a4_ : Int32) (h_ : z_H) => fn_X4_eatsByOneStep_18_5  n a1_ a3_ a4_ h_; if (nI 4) ≤ a4 then (some (.int a3), h) else if a3 = 0 then if (fv_X6_advance h a4) = 0 then fn_X4_eatsByOneStep_18_49 k5 a1 a3 a4 (fh_X6_advance h a4) else fn_X4_eatsByOneStep_18_49 k5 a1 (fv_X6_hasJustEaten (fh_X6_advance h a4) ) a4 (fh_X6_takeBack (fh_X1_add_18 (fh_X6_advance h a4) a1 a4) ) else (some (.int a3), h)
def tk_X4_eatsByOneStep_18_5  : Nat → Int32 → Int32 → Int32 → z_H → Prop
  | 0, _, _, _, _ => False
  | n + 1, a1, a3, a4, h => let K5 := fun (a1_ : Int32) (a3_ : Int32) (a4_ : Int32) (h_ : z_H) => tk_X4_eatsByOneStep_18_5  n a1_ a3_ a4_ h_; (((nI 4) ≤ a4) → ((a3 = 0 ∨ a3 = 1))) ∧ ((¬ (nI 4) ≤ a4) → (((a3 = 0) → ((((fv_X6_advance h a4) = 0) → (tk_X4_eatsByOneStep_18_49 K5 a1 a3 a4 (fh_X6_advance h a4))) ∧ ((¬ (fv_X6_advance h a4) = 0) → (tk_X4_eatsByOneStep_18_49 K5 a1 (fv_X6_hasJustEaten (fh_X6_advance h a4) ) a4 (fh_X6_takeBack (fh_X1_add_18 (fh_X6_advance h a4) a1 a4) ))))) ∧ ((¬ a3 = 0) → ((a3 = 0 ∨ a3 = 1)))))
def fn_X4_eatsByOneStep_18 (x : Int32) (h : z_H) : z_R := fn_X4_eatsByOneStep_18_5 2000 x (nI 0) (nI 0) h
def tk_X4_eatsByOneStep_18 (x : Int32) (h : z_H) : Prop := tk_X4_eatsByOneStep_18_5 2000 x (nI 0) (nI 0) h
set_option maxHeartbeats 4000000 in
set_option maxRecDepth 100000 in
theorem sp_X4_eatsByOneStep_18 (l : Launch) (ext : z_Sh)  (h : z_H) (x : Int32)  (T : tk_X4_eatsByOneStep_18 x h) : z_Sp l 3 yX4_eatsByOneStep cX4_eatsByOneStep 5 (some .boolean) [.ref 14, .int x, .ref 18] (z_c ext) h (z_PB (fn_X4_eatsByOneStep_18 x h)) := by
  refine z_enter ft_X4 (by decide +kernel) fo_X4 (Nat.le_of_ble_eq_true rfl) ?_
  intro p e R s m args below meth c D dA ad hB
  have hC := hB.1
  have hN := hB.2.1
  have hR := hB.2.2.1
  unfold tk_X4_eatsByOneStep_18 at T; have E : (fn_X4_eatsByOneStep_18_5 2000 x (nI 0) (nI 0) h) = fn_X4_eatsByOneStep_18 x h := rfl
  generalize fn_X4_eatsByOneStep_18 x h = RR at E ⊢
  have P49 : ∀ (k5 : Int32 → Int32 → Int32 → z_H → z_R) (K5 : Int32 → Int32 → Int32 → z_H → Prop) (hk5 : ∀ (a1 : Int32) (a3 : Int32) (a4 : Int32) (h : z_H), K5 a1 a3 a4 h → k5 a1 a3 a4 h = RR → z_G p l e R s m args below meth c D dA ad 5 (z_PB RR) (z_c ext) 5 [some (.ref 14), some (.int a1), some (.ref 18), some (.int a3), some (.int a4)] [] h), ∀ (a1 : Int32) (a3 : Int32) (a4 : Int32) (h : z_H), tk_X4_eatsByOneStep_18_49 K5 a1 a3 a4 h → fn_X4_eatsByOneStep_18_49 k5 a1 a3 a4 h = RR → z_G p l e R s m args below meth c D dA ad 5 (z_PB RR) (z_c ext) 49 [some (.ref 14), some (.int a1), some (.ref 18), some (.int a3), some (.int a4)] [] h := by
    intro k5 K5 hk5 a1 a3 a4 h T E
    unfold tk_X4_eatsByOneStep_18_49 at T; unfold fn_X4_eatsByOneStep_18_49 at E
    refine z_go hC (pc' := 52) (ls' := [some (.ref 14), some (.int a1), some (.ref 18), some (.int a3), some (.int (a4 + (nI 1)))]) (st' := []) (h' := h) (cs := []) [.iinc 4 1] (by decide +kernel) rfl rfl trivial ?_
    refine z_goto hC (off := -47) 5 (by decide +kernel) (by decide) ?_
    exact hk5 a1 a3 (a4 + (nI 1)) h T E
  have P5 : ∀ (n : Nat), ∀ (a1 : Int32) (a3 : Int32) (a4 : Int32) (h : z_H), tk_X4_eatsByOneStep_18_5  n a1 a3 a4 h → fn_X4_eatsByOneStep_18_5  n a1 a3 a4 h = RR → z_G p l e R s m args below meth c D dA ad 5 (z_PB RR) (z_c ext) 5 [some (.ref 14), some (.int a1), some (.ref 18), some (.int a3), some (.int a4)] [] h := by
    intro  n
    induction n with
    | zero => intro a1 a3 a4 h T E; exact False.elim T
    | succ n ih =>
      intro a1 a3 a4 h T E
      unfold tk_X4_eatsByOneStep_18_5 at T; unfold fn_X4_eatsByOneStep_18_5 at E; dsimp only at T E
      have hk5 := ih
      refine z_go hC (pc' := 8) (ls' := [some (.ref 14), some (.int a1), some (.ref 18), some (.int a3), some (.int a4)]) (st' := [.int (nI 4), .int a4]) (h' := h) (cs := []) [.iload 4, .iconst 4] (by decide +kernel) rfl rfl trivial ?_
      refine z_icmp_ge hC (off := 47) 55 (by decide +kernel) (by decide) (fun c1 => ?_) (fun c1 => ?_)
      · skip
        have E := (if_pos c1).symm.trans E
        have T := T.1 c1
        refine z_go hC (pc' := 56) (ls' := [some (.ref 14), some (.int a1), some (.ref 18), some (.int a3), some (.int a4)]) (st' := [.int a3]) (h' := h) (cs := []) [.iload_n 3] (by decide +kernel) rfl rfl trivial ?_
        have t2 := T
        exact z_ret_z hB rfl t2 (by decide +kernel) (z_lfb t2 E)
      · skip
        have E := (if_neg c1).symm.trans E
        have T := T.2 c1
        refine z_go hC (pc' := 12) (ls' := [some (.ref 14), some (.int a1), some (.ref 18), some (.int a3), some (.int a4)]) (st' := [.int a3]) (h' := h) (cs := []) [.iload_n 3] (by decide +kernel) rfl rfl trivial ?_
        refine z_if_ne hC (off := 43) 55 (by decide +kernel) (by decide) (fun c3 => ?_) (fun c3 => ?_)
        · skip
          have E := (if_neg c3).symm.trans E
          have T := T.2 c3
          refine z_go hC (pc' := 56) (ls' := [some (.ref 14), some (.int a1), some (.ref 18), some (.int a3), some (.int a4)]) (st' := [.int a3]) (h' := h) (cs := []) [.iload_n 3] (by decide +kernel) rfl rfl trivial ?_
          have t4 := T
          exact z_ret_z hB rfl t4 (by decide +kernel) (z_lfb t4 E)
        · skip
          have E := (if_pos c3).symm.trans E
          have T := T.1 c3
          refine z_go hC (pc' := 21) (ls' := [some (.ref 14), some (.int a1), some (.ref 18), some (.int a3), some (.int a4)]) (st' := [.int a4, .ref 10]) (h' := h) (cs := []) [.aload_n 0, .getfield 33, .iload 4] (by decide +kernel) rfl rfl trivial ?_
          refine z_callV hC hN hR (as := [.int a4]) (rest := []) ok_X4_77 (by decide +kernel) (sp_X6_advance l _ h a4) rfl rfl (Nat.le_of_ble_eq_true rfl) rfl rfl (Nat.le_of_ble_eq_true rfl) ⟨Nat.zero_le _, Nat.zero_le _⟩ (fun r5 h6 q7 => z_fun q7 ?_)
          refine z_if_eq hC (off := 25) 49 (by decide +kernel) (by decide) (fun c8 => ?_) (fun c8 => ?_)
          · skip
            have E := (if_pos c8).symm.trans E
            have T := T.1 c8
            exact P49 _ _ hk5 a1 a3 a4 (fh_X6_advance h a4) T E
          · skip
            have E := (if_neg c8).symm.trans E
            have T := T.2 c8
            refine z_go hC (pc' := 31) (ls' := [some (.ref 14), some (.int a1), some (.ref 18), some (.int a3), some (.int a4)]) (st' := [.ref 10]) (h' := fh_X6_advance h a4) (cs := []) [.aload_n 0, .getfield 33] (by decide +kernel) rfl rfl trivial ?_
            refine z_callV hC hN hR (as := []) (rest := []) ok_X4_98 (by decide +kernel) (sp_X6_hasJustEaten l _ (fh_X6_advance h a4) ) rfl rfl (Nat.le_of_ble_eq_true rfl) rfl rfl (Nat.le_of_ble_eq_true rfl) ⟨Nat.zero_le _, Nat.zero_le _⟩ (fun r9 h10 q11 => z_fun q11 ?_)
            refine z_go hC (pc' := 39) (ls' := [some (.ref 14), some (.int a1), some (.ref 18), some (.int (fv_X6_hasJustEaten (fh_X6_advance h a4) )), some (.int a4)]) (st' := [.int a4, .int a1, .ref 18]) (h' := fh_X6_advance h a4) (cs := []) [.istore_n 3, .aload_n 2, .iload_n 1, .iload 4] (by decide +kernel) rfl rfl trivial ?_
            refine z_callV hC hN hR (as := [.int a1, .int a4]) (rest := []) ok_X4_126 (by decide +kernel) (sp_X1_add_18 l _ (fh_X6_advance h a4) a1 a4) rfl rfl (Nat.le_of_ble_eq_true rfl) rfl rfl (Nat.le_of_ble_eq_true rfl) ⟨Nat.zero_le _, Nat.zero_le _⟩ (fun r12 h13 q14 => z_fun q14 ?_)
            refine z_go hC (pc' := 46) (ls' := [some (.ref 14), some (.int a1), some (.ref 18), some (.int (fv_X6_hasJustEaten (fh_X6_advance h a4) )), some (.int a4)]) (st' := [.ref 10]) (h' := fh_X1_add_18 (fh_X6_advance h a4) a1 a4) (cs := []) [.aload_n 0, .getfield 33] (by decide +kernel) rfl rfl trivial ?_
            refine z_callV hC hN hR (as := []) (rest := []) ok_X4_85 (by decide +kernel) (sp_X6_takeBack l _ (fh_X1_add_18 (fh_X6_advance h a4) a1 a4) ) rfl rfl (Nat.le_of_ble_eq_true rfl) rfl rfl (Nat.le_of_ble_eq_true rfl) ⟨Nat.zero_le _, Nat.zero_le _⟩ (fun r15 h16 q17 => z_fun q17 ?_)
            exact P49 _ _ hk5 a1 (fv_X6_hasJustEaten (fh_X6_advance h a4) ) a4 (fh_X6_takeBack (fh_X1_add_18 (fh_X6_advance h a4) a1 a4) ) T E
  refine z_go hC (pc' := 5) (ls' := [some (.ref 14), some (.int x), some (.ref 18), some (.int (nI 0)), some (.int (nI 0))]) (st' := []) (h' := h) (cs := []) [.iconst 0, .istore_n 3, .iconst 0, .istore 4] (by decide +kernel) rfl rfl trivial ?_
  exact P5 2000 x (nI 0) (nI 0) h T E

def fn_X4_eatsFromOneOf_16_51 (k10 : Int32 → Int32 → Int32 → z_H → z_R) : Nat → Int32 → Int32 → Int32 → Int32 → z_H → z_R
  | 0, _, _, _, _, h => (none, h)
  | n + 1, a2, a4, a5, a7, h => let k51 := fun (a2_ : Int32) (a4_ : Int32) (a5_ : Int32) (a7_ : Int32) (h_ : z_H) => fn_X4_eatsFromOneOf_16_51 k10 n a2_ a4_ a5_ a7_ h_; if a2 ≤ a7 then k10 a2 a4 (a5 + (nI 1)) h else k51 a2 a4 a5 (a7 + (nI 1)) (fh_X6_takeBack h )
def tk_X4_eatsFromOneOf_16_51 (K10 : Int32 → Int32 → Int32 → z_H → Prop) : Nat → Int32 → Int32 → Int32 → Int32 → z_H → Prop
  | 0, _, _, _, _, _ => False
  | n + 1, a2, a4, a5, a7, h => let K51 := fun (a2_ : Int32) (a4_ : Int32) (a5_ : Int32) (a7_ : Int32) (h_ : z_H) => tk_X4_eatsFromOneOf_16_51 K10 n a2_ a4_ a5_ a7_ h_; ((a2 ≤ a7) → (K10 a2 a4 (a5 + (nI 1)) h)) ∧ ((¬ a2 ≤ a7) → (K51 a2 a4 a5 (a7 + (nI 1)) (fh_X6_takeBack h )))
def fn_X4_eatsFromOneOf_16_10  : Nat → Int32 → Int32 → Int32 → z_H → z_R
  | 0, _, _, _, h => (none, h)
  | n + 1, a2, a4, a5, h => let k10 := fun (a2_ : Int32) (a4_ : Int32) (a5_ : Int32) (h_ : z_H) => fn_X4_eatsFromOneOf_16_10  n a2_ a4_ a5_ h_; if (h.1 16 1) ≤ a5 then (some (.int a4), h) else if a4 = 0 then fn_X4_eatsFromOneOf_16_51 k10 2000 a2 (z_vi (fn_X4_eatsByOneStep_18 (z_atv h 17 1024 a5) ((fn_X4_follow (z_atv h 17 1024 a5) a2 h).2))) a5 (nI 0) ((fn_X4_eatsByOneStep_18 (z_atv h 17 1024 a5) ((fn_X4_follow (z_atv h 17 1024 a5) a2 h).2)).2) else (some (.int a4), h)
def tk_X4_eatsFromOneOf_16_10  : Nat → Int32 → Int32 → Int32 → z_H → Prop
  | 0, _, _, _, _ => False
  | n + 1, a2, a4, a5, h => let K10 := fun (a2_ : Int32) (a4_ : Int32) (a5_ : Int32) (h_ : z_H) => tk_X4_eatsFromOneOf_16_10  n a2_ a4_ a5_ h_; (((h.1 16 1) ≤ a5) → ((a4 = 0 ∨ a4 = 1))) ∧ ((¬ (h.1 16 1) ≤ a5) → (((a4 = 0) → (tk_X4_follow (z_atv h 17 1024 a5) a2 h ∧ (tk_X4_eatsByOneStep_18 (z_atv h 17 1024 a5) ((fn_X4_follow (z_atv h 17 1024 a5) a2 h).2) ∧ (tk_X4_eatsFromOneOf_16_51 K10 2000 a2 (z_vi (fn_X4_eatsByOneStep_18 (z_atv h 17 1024 a5) ((fn_X4_follow (z_atv h 17 1024 a5) a2 h).2))) a5 (nI 0) ((fn_X4_eatsByOneStep_18 (z_atv h 17 1024 a5) ((fn_X4_follow (z_atv h 17 1024 a5) a2 h).2)).2))))) ∧ ((¬ a4 = 0) → ((a4 = 0 ∨ a4 = 1)))))
def fn_X4_eatsFromOneOf_16 (x : Int32) (h : z_H) : z_R := fn_X4_eatsFromOneOf_16_10 2000 x (nI 0) (nI 0) (z_set h 18 1 (nI 0))
def tk_X4_eatsFromOneOf_16 (x : Int32) (h : z_H) : Prop := tk_X4_eatsFromOneOf_16_10 2000 x (nI 0) (nI 0) (z_set h 18 1 (nI 0))
set_option maxHeartbeats 4000000 in
set_option maxRecDepth 100000 in
theorem sp_X4_eatsFromOneOf_16 (l : Launch) (ext : z_Sh)  (h : z_H) (x : Int32)  (T : tk_X4_eatsFromOneOf_16 x h) : z_Sp l 4 yX4_eatsFromOneOf cX4_eatsFromOneOf 8 (some .boolean) [.ref 14, .ref 16, .int x, .ref 18] (z_c ext) h (z_PB (fn_X4_eatsFromOneOf_16 x h)) := by
  refine z_enter ft_X4 (by decide +kernel) fo_X4 (Nat.le_of_ble_eq_true rfl) ?_
  intro p e R s m args below meth c D dA ad hB
  have hC := hB.1
  have hN := hB.2.1
  have hR := hB.2.2.1
  unfold tk_X4_eatsFromOneOf_16 at T; have E : (fn_X4_eatsFromOneOf_16_10 2000 x (nI 0) (nI 0) (z_set h 18 1 (nI 0))) = fn_X4_eatsFromOneOf_16 x h := rfl
  generalize fn_X4_eatsFromOneOf_16 x h = RR at E ⊢
  have P51 : ∀ (k10 : Int32 → Int32 → Int32 → z_H → z_R) (K10 : Int32 → Int32 → Int32 → z_H → Prop) (hk10 : ∀ (a2 : Int32) (a4 : Int32) (a5 : Int32) (h : z_H), K10 a2 a4 a5 h → k10 a2 a4 a5 h = RR → z_G p l e R s m args below meth c D dA ad 8 (z_PB RR) (z_c ext) 10 [some (.ref 14), some (.ref 16), some (.int a2), some (.ref 18), some (.int a4), some (.int a5), none, none] [] h), ∀ (n : Nat), ∀ (a2 : Int32) (a4 : Int32) (a5 : Int32) (a7 : Int32) (h : z_H), tk_X4_eatsFromOneOf_16_51 K10 n a2 a4 a5 a7 h → fn_X4_eatsFromOneOf_16_51 k10 n a2 a4 a5 a7 h = RR → z_G p l e R s m args below meth c D dA ad 8 (z_PB RR) (z_c ext) 51 [some (.ref 14), some (.ref 16), some (.int a2), some (.ref 18), some (.int a4), some (.int a5), none, some (.int a7)] [] h := by
    intro k10 K10 hk10 n
    induction n with
    | zero => intro a2 a4 a5 a7 h T E; exact False.elim T
    | succ n ih =>
      intro a2 a4 a5 a7 h T E
      unfold tk_X4_eatsFromOneOf_16_51 at T; unfold fn_X4_eatsFromOneOf_16_51 at E; dsimp only at T E
      have hk51 := ih
      refine z_go hC (pc' := 54) (ls' := [some (.ref 14), some (.ref 16), some (.int a2), some (.ref 18), some (.int a4), some (.int a5), none, some (.int a7)]) (st' := [.int a2, .int a7]) (h' := h) (cs := []) [.iload 7, .iload_n 2] (by decide +kernel) rfl rfl trivial ?_
      refine z_icmp_ge hC (off := 16) 70 (by decide +kernel) (by decide) (fun c1 => ?_) (fun c1 => ?_)
      · skip
        have E := (if_pos c1).symm.trans E
        have T := T.1 c1
        refine z_go hC (pc' := 73) (ls' := [some (.ref 14), some (.ref 16), some (.int a2), some (.ref 18), some (.int a4), some (.int (a5 + (nI 1))), none, some (.int a7)]) (st' := []) (h' := h) (cs := []) [.iinc 5 1] (by decide +kernel) rfl rfl trivial ?_
        refine z_goto hC (off := -63) 10 (by decide +kernel) (by decide) ?_
        refine z_less (ls' := [some (.ref 14), some (.ref 16), some (.int a2), some (.ref 18), some (.int a4), some (.int (a5 + (nI 1))), none, none]) (by simp [z_sub]) ?_
        exact hk10 a2 a4 (a5 + (nI 1)) h T E
      · skip
        have E := (if_neg c1).symm.trans E
        have T := T.2 c1
        refine z_go hC (pc' := 61) (ls' := [some (.ref 14), some (.ref 16), some (.int a2), some (.ref 18), some (.int a4), some (.int a5), none, some (.int a7)]) (st' := [.ref 10]) (h' := h) (cs := []) [.aload_n 0, .getfield 33] (by decide +kernel) rfl rfl trivial ?_
        refine z_callV hC hN hR (as := []) (rest := []) ok_X4_85 (by decide +kernel) (sp_X6_takeBack l _ h ) rfl rfl (Nat.le_of_ble_eq_true rfl) rfl rfl (Nat.le_of_ble_eq_true rfl) ⟨Nat.zero_le _, Nat.zero_le _⟩ (fun r2 h3 q4 => z_fun q4 ?_)
        refine z_go hC (pc' := 67) (ls' := [some (.ref 14), some (.ref 16), some (.int a2), some (.ref 18), some (.int a4), some (.int a5), none, some (.int (a7 + (nI 1)))]) (st' := []) (h' := fh_X6_takeBack h ) (cs := []) [.iinc 7 1] (by decide +kernel) rfl rfl trivial ?_
        refine z_goto hC (off := -16) 51 (by decide +kernel) (by decide) ?_
        exact hk51 a2 a4 a5 (a7 + (nI 1)) (fh_X6_takeBack h ) T E
  have P10 : ∀ (n : Nat), ∀ (a2 : Int32) (a4 : Int32) (a5 : Int32) (h : z_H), tk_X4_eatsFromOneOf_16_10  n a2 a4 a5 h → fn_X4_eatsFromOneOf_16_10  n a2 a4 a5 h = RR → z_G p l e R s m args below meth c D dA ad 8 (z_PB RR) (z_c ext) 10 [some (.ref 14), some (.ref 16), some (.int a2), some (.ref 18), some (.int a4), some (.int a5), none, none] [] h := by
    intro  n
    induction n with
    | zero => intro a2 a4 a5 h T E; exact False.elim T
    | succ n ih =>
      intro a2 a4 a5 h T E
      unfold tk_X4_eatsFromOneOf_16_10 at T; unfold fn_X4_eatsFromOneOf_16_10 at E; dsimp only at T E
      have hk10 := ih
      refine z_go hC (pc' := 13) (ls' := [some (.ref 14), some (.ref 16), some (.int a2), some (.ref 18), some (.int a4), some (.int a5), none, none]) (st' := [.ref 16, .int a5]) (h' := h) (cs := []) [.iload 5, .aload_n 1] (by decide +kernel) rfl rfl trivial ?_
      refine z_callV hC hN hR (as := []) (rest := [.int a5]) ok_X4_111 (by decide +kernel) (sp_X1_size_16 l _ h ) rfl rfl (Nat.le_of_ble_eq_true rfl) rfl rfl (Nat.le_of_ble_eq_true rfl) ⟨Nat.zero_le _, Nat.zero_le _⟩ (fun r5 h6 q7 => z_fun q7 ?_)
      refine z_icmp_ge hC (off := 60) 76 (by decide +kernel) (by decide) (fun c8 => ?_) (fun c8 => ?_)
      · skip
        have E := (if_pos c8).symm.trans E
        have T := T.1 c8
        refine z_go hC (pc' := 78) (ls' := [some (.ref 14), some (.ref 16), some (.int a2), some (.ref 18), some (.int a4), some (.int a5), none, none]) (st' := [.int a4]) (h' := h) (cs := []) [.iload 4] (by decide +kernel) rfl rfl trivial ?_
        have t9 := T
        exact z_ret_z hB rfl t9 (by decide +kernel) (z_lfb t9 E)
      · skip
        have E := (if_neg c8).symm.trans E
        have T := T.2 c8
        refine z_go hC (pc' := 21) (ls' := [some (.ref 14), some (.ref 16), some (.int a2), some (.ref 18), some (.int a4), some (.int a5), none, none]) (st' := [.int a4]) (h' := h) (cs := []) [.iload 4] (by decide +kernel) rfl rfl trivial ?_
        refine z_if_ne hC (off := 55) 76 (by decide +kernel) (by decide) (fun c10 => ?_) (fun c10 => ?_)
        · skip
          have E := (if_neg c10).symm.trans E
          have T := T.2 c10
          refine z_go hC (pc' := 78) (ls' := [some (.ref 14), some (.ref 16), some (.int a2), some (.ref 18), some (.int a4), some (.int a5), none, none]) (st' := [.int a4]) (h' := h) (cs := []) [.iload 4] (by decide +kernel) rfl rfl trivial ?_
          have t11 := T
          exact z_ret_z hB rfl t11 (by decide +kernel) (z_lfb t11 E)
        · skip
          have E := (if_pos c10).symm.trans E
          have T := T.1 c10
          refine z_go hC (pc' := 27) (ls' := [some (.ref 14), some (.ref 16), some (.int a2), some (.ref 18), some (.int a4), some (.int a5), none, none]) (st' := [.int a5, .ref 16]) (h' := h) (cs := []) [.aload_n 1, .iload 5] (by decide +kernel) rfl rfl trivial ?_
          refine z_callV hC hN hR (as := [.int a5]) (rest := []) ok_X4_112 (by decide +kernel) (sp_X1_wayTo_16 l _ h a5) rfl rfl (Nat.le_of_ble_eq_true rfl) rfl rfl (Nat.le_of_ble_eq_true rfl) ⟨Nat.zero_le _, Nat.zero_le _⟩ (fun r12 h13 q14 => z_fun q14 ?_)
          refine z_go hC (pc' := 36) (ls' := [some (.ref 14), some (.ref 16), some (.int a2), some (.ref 18), some (.int a4), some (.int a5), some (.int (z_atv h 17 1024 a5)), none]) (st' := [.int a2, .int (z_atv h 17 1024 a5), .ref 14]) (h' := h) (cs := []) [.istore 6, .aload_n 0, .iload 6, .iload_n 2] (by decide +kernel) rfl rfl trivial ?_
          obtain ⟨t18, T⟩ := T
          refine z_callV hC hN hR (as := [.int (z_atv h 17 1024 a5), .int a2]) (rest := []) ok_X4_115 (by decide +kernel) (sp_X4_follow l _ h (z_atv h 17 1024 a5) a2 t18) rfl rfl (Nat.le_of_ble_eq_true rfl) rfl rfl (Nat.le_of_ble_eq_true rfl) ⟨Nat.zero_le _, Nat.zero_le _⟩ (fun r15 h16 q17 => z_fun q17 ?_)
          refine z_go hC (pc' := 43) (ls' := [some (.ref 14), some (.ref 16), some (.int a2), some (.ref 18), some (.int a4), some (.int a5), some (.int (z_atv h 17 1024 a5)), none]) (st' := [.ref 18, .int (z_atv h 17 1024 a5), .ref 14]) (h' := (fn_X4_follow (z_atv h 17 1024 a5) a2 h).2) (cs := []) [.aload_n 0, .iload 6, .aload_n 3] (by decide +kernel) rfl rfl trivial ?_
          obtain ⟨t22, T⟩ := T
          refine z_callV hC hN hR (as := [.int (z_atv h 17 1024 a5), .ref 18]) (rest := []) ok_X4_119 (by decide +kernel) (sp_X4_eatsByOneStep_18 l _ ((fn_X4_follow (z_atv h 17 1024 a5) a2 h).2) (z_atv h 17 1024 a5) t22) rfl rfl (Nat.le_of_ble_eq_true rfl) rfl rfl (Nat.le_of_ble_eq_true rfl) ⟨Nat.zero_le _, Nat.zero_le _⟩ (fun r19 h20 q21 => z_funb q21 (fun z23 => ?_))
          refine z_go hC (pc' := 51) (ls' := [some (.ref 14), some (.ref 16), some (.int a2), some (.ref 18), some (.int (z_vi (fn_X4_eatsByOneStep_18 (z_atv h 17 1024 a5) ((fn_X4_follow (z_atv h 17 1024 a5) a2 h).2)))), some (.int a5), some (.int (z_atv h 17 1024 a5)), some (.int (nI 0))]) (st' := []) (h' := (fn_X4_eatsByOneStep_18 (z_atv h 17 1024 a5) ((fn_X4_follow (z_atv h 17 1024 a5) a2 h).2)).2) (cs := []) [.istore 4, .iconst 0, .istore 7] (by decide +kernel) rfl rfl trivial ?_
          refine z_less (ls' := [some (.ref 14), some (.ref 16), some (.int a2), some (.ref 18), some (.int (z_vi (fn_X4_eatsByOneStep_18 (z_atv h 17 1024 a5) ((fn_X4_follow (z_atv h 17 1024 a5) a2 h).2)))), some (.int a5), none, some (.int (nI 0))]) (by simp [z_sub]) ?_
          exact P51 _ _ hk10 2000 a2 (z_vi (fn_X4_eatsByOneStep_18 (z_atv h 17 1024 a5) ((fn_X4_follow (z_atv h 17 1024 a5) a2 h).2))) a5 (nI 0) ((fn_X4_eatsByOneStep_18 (z_atv h 17 1024 a5) ((fn_X4_follow (z_atv h 17 1024 a5) a2 h).2)).2) T E
  refine z_go hC (pc' := 1) (ls' := [some (.ref 14), some (.ref 16), some (.int x), some (.ref 18), none, none, none, none]) (st' := [.ref 18]) (h' := h) (cs := []) [.aload_n 3] (by decide +kernel) rfl rfl trivial ?_
  refine z_callV hC hN hR (as := []) (rest := []) ok_X4_108 (by decide +kernel) (sp_X1_holdNone_18 l _ h ) rfl rfl (Nat.le_of_ble_eq_true rfl) rfl rfl (Nat.le_of_ble_eq_true rfl) ⟨Nat.zero_le _, Nat.zero_le _⟩ (fun r24 h25 q26 => z_fun q26 ?_)
  refine z_go hC (pc' := 10) (ls' := [some (.ref 14), some (.ref 16), some (.int x), some (.ref 18), some (.int (nI 0)), some (.int (nI 0)), none, none]) (st' := []) (h' := z_set h 18 1 (nI 0)) (cs := []) [.iconst 0, .istore 4, .iconst 0, .istore 5] (by decide +kernel) rfl rfl trivial ?_
  exact P10 2000 x (nI 0) (nI 0) (z_set h 18 1 (nI 0)) T E

def fn_X4_eatsFromOneOf_18_51 (k10 : Int32 → Int32 → Int32 → z_H → z_R) : Nat → Int32 → Int32 → Int32 → Int32 → z_H → z_R
  | 0, _, _, _, _, h => (none, h)
  | n + 1, a2, a4, a5, a7, h => let k51 := fun (a2_ : Int32) (a4_ : Int32) (a5_ : Int32) (a7_ : Int32) (h_ : z_H) => fn_X4_eatsFromOneOf_18_51 k10 n a2_ a4_ a5_ a7_ h_; if a2 ≤ a7 then k10 a2 a4 (a5 + (nI 1)) h else k51 a2 a4 a5 (a7 + (nI 1)) (fh_X6_takeBack h )
def tk_X4_eatsFromOneOf_18_51 (K10 : Int32 → Int32 → Int32 → z_H → Prop) : Nat → Int32 → Int32 → Int32 → Int32 → z_H → Prop
  | 0, _, _, _, _, _ => False
  | n + 1, a2, a4, a5, a7, h => let K51 := fun (a2_ : Int32) (a4_ : Int32) (a5_ : Int32) (a7_ : Int32) (h_ : z_H) => tk_X4_eatsFromOneOf_18_51 K10 n a2_ a4_ a5_ a7_ h_; ((a2 ≤ a7) → (K10 a2 a4 (a5 + (nI 1)) h)) ∧ ((¬ a2 ≤ a7) → (K51 a2 a4 a5 (a7 + (nI 1)) (fh_X6_takeBack h )))
def fn_X4_eatsFromOneOf_18_10  : Nat → Int32 → Int32 → Int32 → z_H → z_R
  | 0, _, _, _, h => (none, h)
  | n + 1, a2, a4, a5, h => let k10 := fun (a2_ : Int32) (a4_ : Int32) (a5_ : Int32) (h_ : z_H) => fn_X4_eatsFromOneOf_18_10  n a2_ a4_ a5_ h_; if (h.1 18 1) ≤ a5 then (some (.int a4), h) else if a4 = 0 then fn_X4_eatsFromOneOf_18_51 k10 2000 a2 (z_vi (fn_X4_eatsByOneStep_16 (z_atv h 19 1024 a5) ((fn_X4_follow (z_atv h 19 1024 a5) a2 h).2))) a5 (nI 0) ((fn_X4_eatsByOneStep_16 (z_atv h 19 1024 a5) ((fn_X4_follow (z_atv h 19 1024 a5) a2 h).2)).2) else (some (.int a4), h)
def tk_X4_eatsFromOneOf_18_10  : Nat → Int32 → Int32 → Int32 → z_H → Prop
  | 0, _, _, _, _ => False
  | n + 1, a2, a4, a5, h => let K10 := fun (a2_ : Int32) (a4_ : Int32) (a5_ : Int32) (h_ : z_H) => tk_X4_eatsFromOneOf_18_10  n a2_ a4_ a5_ h_; (((h.1 18 1) ≤ a5) → ((a4 = 0 ∨ a4 = 1))) ∧ ((¬ (h.1 18 1) ≤ a5) → (((a4 = 0) → (tk_X4_follow (z_atv h 19 1024 a5) a2 h ∧ (tk_X4_eatsByOneStep_16 (z_atv h 19 1024 a5) ((fn_X4_follow (z_atv h 19 1024 a5) a2 h).2) ∧ (tk_X4_eatsFromOneOf_18_51 K10 2000 a2 (z_vi (fn_X4_eatsByOneStep_16 (z_atv h 19 1024 a5) ((fn_X4_follow (z_atv h 19 1024 a5) a2 h).2))) a5 (nI 0) ((fn_X4_eatsByOneStep_16 (z_atv h 19 1024 a5) ((fn_X4_follow (z_atv h 19 1024 a5) a2 h).2)).2))))) ∧ ((¬ a4 = 0) → ((a4 = 0 ∨ a4 = 1)))))
def fn_X4_eatsFromOneOf_18 (x : Int32) (h : z_H) : z_R := fn_X4_eatsFromOneOf_18_10 2000 x (nI 0) (nI 0) (z_set h 16 1 (nI 0))
def tk_X4_eatsFromOneOf_18 (x : Int32) (h : z_H) : Prop := tk_X4_eatsFromOneOf_18_10 2000 x (nI 0) (nI 0) (z_set h 16 1 (nI 0))
set_option maxHeartbeats 4000000 in
set_option maxRecDepth 100000 in
theorem sp_X4_eatsFromOneOf_18 (l : Launch) (ext : z_Sh)  (h : z_H) (x : Int32)  (T : tk_X4_eatsFromOneOf_18 x h) : z_Sp l 4 yX4_eatsFromOneOf cX4_eatsFromOneOf 8 (some .boolean) [.ref 14, .ref 18, .int x, .ref 16] (z_c ext) h (z_PB (fn_X4_eatsFromOneOf_18 x h)) := by
  refine z_enter ft_X4 (by decide +kernel) fo_X4 (Nat.le_of_ble_eq_true rfl) ?_
  intro p e R s m args below meth c D dA ad hB
  have hC := hB.1
  have hN := hB.2.1
  have hR := hB.2.2.1
  unfold tk_X4_eatsFromOneOf_18 at T; have E : (fn_X4_eatsFromOneOf_18_10 2000 x (nI 0) (nI 0) (z_set h 16 1 (nI 0))) = fn_X4_eatsFromOneOf_18 x h := rfl
  generalize fn_X4_eatsFromOneOf_18 x h = RR at E ⊢
  have P51 : ∀ (k10 : Int32 → Int32 → Int32 → z_H → z_R) (K10 : Int32 → Int32 → Int32 → z_H → Prop) (hk10 : ∀ (a2 : Int32) (a4 : Int32) (a5 : Int32) (h : z_H), K10 a2 a4 a5 h → k10 a2 a4 a5 h = RR → z_G p l e R s m args below meth c D dA ad 8 (z_PB RR) (z_c ext) 10 [some (.ref 14), some (.ref 18), some (.int a2), some (.ref 16), some (.int a4), some (.int a5), none, none] [] h), ∀ (n : Nat), ∀ (a2 : Int32) (a4 : Int32) (a5 : Int32) (a7 : Int32) (h : z_H), tk_X4_eatsFromOneOf_18_51 K10 n a2 a4 a5 a7 h → fn_X4_eatsFromOneOf_18_51 k10 n a2 a4 a5 a7 h = RR → z_G p l e R s m args below meth c D dA ad 8 (z_PB RR) (z_c ext) 51 [some (.ref 14), some (.ref 18), some (.int a2), some (.ref 16), some (.int a4), some (.int a5), none, some (.int a7)] [] h := by
    intro k10 K10 hk10 n
    induction n with
    | zero => intro a2 a4 a5 a7 h T E; exact False.elim T
    | succ n ih =>
      intro a2 a4 a5 a7 h T E
      unfold tk_X4_eatsFromOneOf_18_51 at T; unfold fn_X4_eatsFromOneOf_18_51 at E; dsimp only at T E
      have hk51 := ih
      refine z_go hC (pc' := 54) (ls' := [some (.ref 14), some (.ref 18), some (.int a2), some (.ref 16), some (.int a4), some (.int a5), none, some (.int a7)]) (st' := [.int a2, .int a7]) (h' := h) (cs := []) [.iload 7, .iload_n 2] (by decide +kernel) rfl rfl trivial ?_
      refine z_icmp_ge hC (off := 16) 70 (by decide +kernel) (by decide) (fun c1 => ?_) (fun c1 => ?_)
      · skip
        have E := (if_pos c1).symm.trans E
        have T := T.1 c1
        refine z_go hC (pc' := 73) (ls' := [some (.ref 14), some (.ref 18), some (.int a2), some (.ref 16), some (.int a4), some (.int (a5 + (nI 1))), none, some (.int a7)]) (st' := []) (h' := h) (cs := []) [.iinc 5 1] (by decide +kernel) rfl rfl trivial ?_
        refine z_goto hC (off := -63) 10 (by decide +kernel) (by decide) ?_
        refine z_less (ls' := [some (.ref 14), some (.ref 18), some (.int a2), some (.ref 16), some (.int a4), some (.int (a5 + (nI 1))), none, none]) (by simp [z_sub]) ?_
        exact hk10 a2 a4 (a5 + (nI 1)) h T E
      · skip
        have E := (if_neg c1).symm.trans E
        have T := T.2 c1
        refine z_go hC (pc' := 61) (ls' := [some (.ref 14), some (.ref 18), some (.int a2), some (.ref 16), some (.int a4), some (.int a5), none, some (.int a7)]) (st' := [.ref 10]) (h' := h) (cs := []) [.aload_n 0, .getfield 33] (by decide +kernel) rfl rfl trivial ?_
        refine z_callV hC hN hR (as := []) (rest := []) ok_X4_85 (by decide +kernel) (sp_X6_takeBack l _ h ) rfl rfl (Nat.le_of_ble_eq_true rfl) rfl rfl (Nat.le_of_ble_eq_true rfl) ⟨Nat.zero_le _, Nat.zero_le _⟩ (fun r2 h3 q4 => z_fun q4 ?_)
        refine z_go hC (pc' := 67) (ls' := [some (.ref 14), some (.ref 18), some (.int a2), some (.ref 16), some (.int a4), some (.int a5), none, some (.int (a7 + (nI 1)))]) (st' := []) (h' := fh_X6_takeBack h ) (cs := []) [.iinc 7 1] (by decide +kernel) rfl rfl trivial ?_
        refine z_goto hC (off := -16) 51 (by decide +kernel) (by decide) ?_
        exact hk51 a2 a4 a5 (a7 + (nI 1)) (fh_X6_takeBack h ) T E
  have P10 : ∀ (n : Nat), ∀ (a2 : Int32) (a4 : Int32) (a5 : Int32) (h : z_H), tk_X4_eatsFromOneOf_18_10  n a2 a4 a5 h → fn_X4_eatsFromOneOf_18_10  n a2 a4 a5 h = RR → z_G p l e R s m args below meth c D dA ad 8 (z_PB RR) (z_c ext) 10 [some (.ref 14), some (.ref 18), some (.int a2), some (.ref 16), some (.int a4), some (.int a5), none, none] [] h := by
    intro  n
    induction n with
    | zero => intro a2 a4 a5 h T E; exact False.elim T
    | succ n ih =>
      intro a2 a4 a5 h T E
      unfold tk_X4_eatsFromOneOf_18_10 at T; unfold fn_X4_eatsFromOneOf_18_10 at E; dsimp only at T E
      have hk10 := ih
      refine z_go hC (pc' := 13) (ls' := [some (.ref 14), some (.ref 18), some (.int a2), some (.ref 16), some (.int a4), some (.int a5), none, none]) (st' := [.ref 18, .int a5]) (h' := h) (cs := []) [.iload 5, .aload_n 1] (by decide +kernel) rfl rfl trivial ?_
      refine z_callV hC hN hR (as := []) (rest := [.int a5]) ok_X4_111 (by decide +kernel) (sp_X1_size_18 l _ h ) rfl rfl (Nat.le_of_ble_eq_true rfl) rfl rfl (Nat.le_of_ble_eq_true rfl) ⟨Nat.zero_le _, Nat.zero_le _⟩ (fun r5 h6 q7 => z_fun q7 ?_)
      refine z_icmp_ge hC (off := 60) 76 (by decide +kernel) (by decide) (fun c8 => ?_) (fun c8 => ?_)
      · skip
        have E := (if_pos c8).symm.trans E
        have T := T.1 c8
        refine z_go hC (pc' := 78) (ls' := [some (.ref 14), some (.ref 18), some (.int a2), some (.ref 16), some (.int a4), some (.int a5), none, none]) (st' := [.int a4]) (h' := h) (cs := []) [.iload 4] (by decide +kernel) rfl rfl trivial ?_
        have t9 := T
        exact z_ret_z hB rfl t9 (by decide +kernel) (z_lfb t9 E)
      · skip
        have E := (if_neg c8).symm.trans E
        have T := T.2 c8
        refine z_go hC (pc' := 21) (ls' := [some (.ref 14), some (.ref 18), some (.int a2), some (.ref 16), some (.int a4), some (.int a5), none, none]) (st' := [.int a4]) (h' := h) (cs := []) [.iload 4] (by decide +kernel) rfl rfl trivial ?_
        refine z_if_ne hC (off := 55) 76 (by decide +kernel) (by decide) (fun c10 => ?_) (fun c10 => ?_)
        · skip
          have E := (if_neg c10).symm.trans E
          have T := T.2 c10
          refine z_go hC (pc' := 78) (ls' := [some (.ref 14), some (.ref 18), some (.int a2), some (.ref 16), some (.int a4), some (.int a5), none, none]) (st' := [.int a4]) (h' := h) (cs := []) [.iload 4] (by decide +kernel) rfl rfl trivial ?_
          have t11 := T
          exact z_ret_z hB rfl t11 (by decide +kernel) (z_lfb t11 E)
        · skip
          have E := (if_pos c10).symm.trans E
          have T := T.1 c10
          refine z_go hC (pc' := 27) (ls' := [some (.ref 14), some (.ref 18), some (.int a2), some (.ref 16), some (.int a4), some (.int a5), none, none]) (st' := [.int a5, .ref 18]) (h' := h) (cs := []) [.aload_n 1, .iload 5] (by decide +kernel) rfl rfl trivial ?_
          refine z_callV hC hN hR (as := [.int a5]) (rest := []) ok_X4_112 (by decide +kernel) (sp_X1_wayTo_18 l _ h a5) rfl rfl (Nat.le_of_ble_eq_true rfl) rfl rfl (Nat.le_of_ble_eq_true rfl) ⟨Nat.zero_le _, Nat.zero_le _⟩ (fun r12 h13 q14 => z_fun q14 ?_)
          refine z_go hC (pc' := 36) (ls' := [some (.ref 14), some (.ref 18), some (.int a2), some (.ref 16), some (.int a4), some (.int a5), some (.int (z_atv h 19 1024 a5)), none]) (st' := [.int a2, .int (z_atv h 19 1024 a5), .ref 14]) (h' := h) (cs := []) [.istore 6, .aload_n 0, .iload 6, .iload_n 2] (by decide +kernel) rfl rfl trivial ?_
          obtain ⟨t18, T⟩ := T
          refine z_callV hC hN hR (as := [.int (z_atv h 19 1024 a5), .int a2]) (rest := []) ok_X4_115 (by decide +kernel) (sp_X4_follow l _ h (z_atv h 19 1024 a5) a2 t18) rfl rfl (Nat.le_of_ble_eq_true rfl) rfl rfl (Nat.le_of_ble_eq_true rfl) ⟨Nat.zero_le _, Nat.zero_le _⟩ (fun r15 h16 q17 => z_fun q17 ?_)
          refine z_go hC (pc' := 43) (ls' := [some (.ref 14), some (.ref 18), some (.int a2), some (.ref 16), some (.int a4), some (.int a5), some (.int (z_atv h 19 1024 a5)), none]) (st' := [.ref 16, .int (z_atv h 19 1024 a5), .ref 14]) (h' := (fn_X4_follow (z_atv h 19 1024 a5) a2 h).2) (cs := []) [.aload_n 0, .iload 6, .aload_n 3] (by decide +kernel) rfl rfl trivial ?_
          obtain ⟨t22, T⟩ := T
          refine z_callV hC hN hR (as := [.int (z_atv h 19 1024 a5), .ref 16]) (rest := []) ok_X4_119 (by decide +kernel) (sp_X4_eatsByOneStep_16 l _ ((fn_X4_follow (z_atv h 19 1024 a5) a2 h).2) (z_atv h 19 1024 a5) t22) rfl rfl (Nat.le_of_ble_eq_true rfl) rfl rfl (Nat.le_of_ble_eq_true rfl) ⟨Nat.zero_le _, Nat.zero_le _⟩ (fun r19 h20 q21 => z_funb q21 (fun z23 => ?_))
          refine z_go hC (pc' := 51) (ls' := [some (.ref 14), some (.ref 18), some (.int a2), some (.ref 16), some (.int (z_vi (fn_X4_eatsByOneStep_16 (z_atv h 19 1024 a5) ((fn_X4_follow (z_atv h 19 1024 a5) a2 h).2)))), some (.int a5), some (.int (z_atv h 19 1024 a5)), some (.int (nI 0))]) (st' := []) (h' := (fn_X4_eatsByOneStep_16 (z_atv h 19 1024 a5) ((fn_X4_follow (z_atv h 19 1024 a5) a2 h).2)).2) (cs := []) [.istore 4, .iconst 0, .istore 7] (by decide +kernel) rfl rfl trivial ?_
          refine z_less (ls' := [some (.ref 14), some (.ref 18), some (.int a2), some (.ref 16), some (.int (z_vi (fn_X4_eatsByOneStep_16 (z_atv h 19 1024 a5) ((fn_X4_follow (z_atv h 19 1024 a5) a2 h).2)))), some (.int a5), none, some (.int (nI 0))]) (by simp [z_sub]) ?_
          exact P51 _ _ hk10 2000 a2 (z_vi (fn_X4_eatsByOneStep_16 (z_atv h 19 1024 a5) ((fn_X4_follow (z_atv h 19 1024 a5) a2 h).2))) a5 (nI 0) ((fn_X4_eatsByOneStep_16 (z_atv h 19 1024 a5) ((fn_X4_follow (z_atv h 19 1024 a5) a2 h).2)).2) T E
  refine z_go hC (pc' := 1) (ls' := [some (.ref 14), some (.ref 18), some (.int x), some (.ref 16), none, none, none, none]) (st' := [.ref 16]) (h' := h) (cs := []) [.aload_n 3] (by decide +kernel) rfl rfl trivial ?_
  refine z_callV hC hN hR (as := []) (rest := []) ok_X4_108 (by decide +kernel) (sp_X1_holdNone_16 l _ h ) rfl rfl (Nat.le_of_ble_eq_true rfl) rfl rfl (Nat.le_of_ble_eq_true rfl) ⟨Nat.zero_le _, Nat.zero_le _⟩ (fun r24 h25 q26 => z_fun q26 ?_)
  refine z_go hC (pc' := 10) (ls' := [some (.ref 14), some (.ref 18), some (.int x), some (.ref 16), some (.int (nI 0)), some (.int (nI 0)), none, none]) (st' := []) (h' := z_set h 16 1 (nI 0)) (cs := []) [.iconst 0, .istore 4, .iconst 0, .istore 5] (by decide +kernel) rfl rfl trivial ?_
  exact P10 2000 x (nI 0) (nI 0) (z_set h 16 1 (nI 0)) T E

def fn_X4_fewestByLevels_28  : Nat → Int32 → z_H → z_R
  | 0, _, h => (none, h)
  | n + 1, a3, h => let k28 := fun (a3_ : Int32) (h_ : z_H) => fn_X4_fewestByLevels_28  n a3_ h_; if (nI 6) < a3 then (some (.int (-1)), h) else if (z_vi (fn_X4_eatsFromOneOf_16 (a3 - (nI 1)) h)) = 0 then if (nI 6) < (a3 + (nI 1)) then (some (.int (-1)), (fn_X4_eatsFromOneOf_16 (a3 - (nI 1)) h).2) else if (z_vi (fn_X4_eatsFromOneOf_18 ((a3 + (nI 1)) - (nI 1)) ((fn_X4_eatsFromOneOf_16 (a3 - (nI 1)) h).2))) = 0 then k28 ((a3 + (nI 1)) + (nI 1)) ((fn_X4_eatsFromOneOf_18 ((a3 + (nI 1)) - (nI 1)) ((fn_X4_eatsFromOneOf_16 (a3 - (nI 1)) h).2)).2) else (some (.int (a3 + (nI 1))), (fn_X4_eatsFromOneOf_18 ((a3 + (nI 1)) - (nI 1)) ((fn_X4_eatsFromOneOf_16 (a3 - (nI 1)) h).2)).2) else (some (.int a3), (fn_X4_eatsFromOneOf_16 (a3 - (nI 1)) h).2)
def tk_X4_fewestByLevels_28  : Nat → Int32 → z_H → Prop
  | 0, _, _ => False
  | n + 1, a3, h => let K28 := fun (a3_ : Int32) (h_ : z_H) => tk_X4_fewestByLevels_28  n a3_ h_; (((nI 6) < a3) → (True)) ∧ ((¬ (nI 6) < a3) → (tk_X4_eatsFromOneOf_16 (a3 - (nI 1)) h ∧ ((((z_vi (fn_X4_eatsFromOneOf_16 (a3 - (nI 1)) h)) = 0) → ((((nI 6) < (a3 + (nI 1))) → (True)) ∧ ((¬ (nI 6) < (a3 + (nI 1))) → (tk_X4_eatsFromOneOf_18 ((a3 + (nI 1)) - (nI 1)) ((fn_X4_eatsFromOneOf_16 (a3 - (nI 1)) h).2) ∧ ((((z_vi (fn_X4_eatsFromOneOf_18 ((a3 + (nI 1)) - (nI 1)) ((fn_X4_eatsFromOneOf_16 (a3 - (nI 1)) h).2))) = 0) → (K28 ((a3 + (nI 1)) + (nI 1)) ((fn_X4_eatsFromOneOf_18 ((a3 + (nI 1)) - (nI 1)) ((fn_X4_eatsFromOneOf_16 (a3 - (nI 1)) h).2)).2))) ∧ ((¬ (z_vi (fn_X4_eatsFromOneOf_18 ((a3 + (nI 1)) - (nI 1)) ((fn_X4_eatsFromOneOf_16 (a3 - (nI 1)) h).2))) = 0) → (True))))))) ∧ ((¬ (z_vi (fn_X4_eatsFromOneOf_16 (a3 - (nI 1)) h)) = 0) → (True)))))
def fn_X4_fewestByLevels  (h : z_H) : z_R := if (h.1 8 2) = 0 then (some (.int (-1)), h) else fn_X4_fewestByLevels_28 2000 (nI 1) (z_set (z_putv h 17 1024 (nI 0) (nI 0)) 16 1 (nI 1))
def tk_X4_fewestByLevels  (h : z_H) : Prop := (((h.1 8 2) = 0) → (True)) ∧ ((¬ (h.1 8 2) = 0) → (tk_X4_fewestByLevels_28 2000 (nI 1) (z_set (z_putv h 17 1024 (nI 0) (nI 0)) 16 1 (nI 1))))
set_option maxHeartbeats 4000000 in
set_option maxRecDepth 100000 in
theorem sp_X4_fewestByLevels (l : Launch) (ext : z_Sh)  (h : z_H)   (T : tk_X4_fewestByLevels  h) : z_Sp l 5 yX4_fewestByLevels cX4_fewestByLevels 5 (some .int) [.ref 14] (z_c ext) h (z_PI (fn_X4_fewestByLevels  h)) := by
  refine z_enter ft_X4 (by decide +kernel) fo_X4 (Nat.le_of_ble_eq_true rfl) ?_
  intro p e R s m args below meth c D dA ad hB
  have hC := hB.1
  have hN := hB.2.1
  have hR := hB.2.2.1
  unfold tk_X4_fewestByLevels at T; have E : (if (h.1 8 2) = 0 then (some (.int (-1)), h) else fn_X4_fewestByLevels_28 2000 (nI 1) (z_set (z_putv h 17 1024 (nI 0) (nI 0)) 16 1 (nI 1))) = fn_X4_fewestByLevels  h := rfl
  generalize fn_X4_fewestByLevels  h = RR at E ⊢
  have P28 : ∀ (n : Nat), ∀ (a3 : Int32) (h : z_H), tk_X4_fewestByLevels_28  n a3 h → fn_X4_fewestByLevels_28  n a3 h = RR → z_G p l e R s m args below meth c D dA ad 5 (z_PI RR) (z_c ext) 28 [some (.ref 14), some (.ref 16), some (.ref 18), some (.int a3), none] [] h := by
    intro  n
    induction n with
    | zero => intro a3 h T E; exact False.elim T
    | succ n ih =>
      intro a3 h T E
      unfold tk_X4_fewestByLevels_28 at T; unfold fn_X4_fewestByLevels_28 at E; dsimp only at T E
      have hk28 := ih
      refine z_go hC (pc' := 31) (ls' := [some (.ref 14), some (.ref 16), some (.ref 18), some (.int a3), none]) (st' := [.int (nI 6), .int a3]) (h' := h) (cs := []) [.iload_n 3, .bipush 6] (by decide +kernel) rfl rfl trivial ?_
      refine z_icmp_gt hC (off := 31) 62 (by decide +kernel) (by decide) (fun c1 => ?_) (fun c1 => ?_)
      · skip
        have E := (if_pos c1).symm.trans E
        have T := T.1 c1
        refine z_go hC (pc' := 63) (ls' := [some (.ref 14), some (.ref 16), some (.ref 18), some (.int a3), none]) (st' := [.int (-1)]) (h' := h) (cs := []) [.iconst (-1)] (by decide +kernel) rfl rfl trivial ?_
        exact z_ret_i hB rfl (by decide +kernel) (z_lfi E)
      · skip
        have E := (if_neg c1).symm.trans E
        have T := T.2 c1
        refine z_go hC (pc' := 40) (ls' := [some (.ref 14), some (.ref 16), some (.ref 18), some (.int a3), none]) (st' := [.ref 18, .int (a3 - (nI 1)), .ref 16, .ref 14]) (h' := h) (cs := []) [.aload_n 0, .aload_n 1, .iload_n 3, .iconst 1, .isub, .aload_n 2] (by decide +kernel) rfl rfl trivial ?_
        obtain ⟨t5, T⟩ := T
        refine z_callV hC hN hR (as := [.ref 16, .int (a3 - (nI 1)), .ref 18]) (rest := []) ok_X4_104 (by decide +kernel) (sp_X4_eatsFromOneOf_16 l _ h (a3 - (nI 1)) t5) rfl rfl (Nat.le_of_ble_eq_true rfl) rfl rfl (Nat.le_of_ble_eq_true rfl) ⟨Nat.zero_le _, Nat.zero_le _⟩ (fun r2 h3 q4 => z_funb q4 (fun z6 => ?_))
        refine z_if_eq hC (off := 5) 48 (by decide +kernel) (by decide) (fun c7 => ?_) (fun c7 => ?_)
        · skip
          have E := (if_pos c7).symm.trans E
          have T := T.1 c7
          refine z_go hC (pc' := 59) (ls' := [some (.ref 14), some (.ref 18), some (.ref 16), some (.int (a3 + (nI 1))), some (.ref 16)]) (st' := []) (h' := (fn_X4_eatsFromOneOf_16 (a3 - (nI 1)) h).2) (cs := []) [.aload_n 1, .astore 4, .aload_n 2, .astore_n 1, .aload 4, .astore_n 2, .iinc 3 1] (by decide +kernel) rfl rfl trivial ?_
          refine z_goto hC (off := -31) 28 (by decide +kernel) (by decide) ?_
          refine z_go hC (pc' := 31) (ls' := [some (.ref 14), some (.ref 18), some (.ref 16), some (.int (a3 + (nI 1))), some (.ref 16)]) (st' := [.int (nI 6), .int (a3 + (nI 1))]) (h' := (fn_X4_eatsFromOneOf_16 (a3 - (nI 1)) h).2) (cs := []) [.iload_n 3, .bipush 6] (by decide +kernel) rfl rfl trivial ?_
          refine z_icmp_gt hC (off := 31) 62 (by decide +kernel) (by decide) (fun c8 => ?_) (fun c8 => ?_)
          · skip
            have E := (if_pos c8).symm.trans E
            have T := T.1 c8
            refine z_go hC (pc' := 63) (ls' := [some (.ref 14), some (.ref 18), some (.ref 16), some (.int (a3 + (nI 1))), some (.ref 16)]) (st' := [.int (-1)]) (h' := (fn_X4_eatsFromOneOf_16 (a3 - (nI 1)) h).2) (cs := []) [.iconst (-1)] (by decide +kernel) rfl rfl trivial ?_
            exact z_ret_i hB rfl (by decide +kernel) (z_lfi E)
          · skip
            have E := (if_neg c8).symm.trans E
            have T := T.2 c8
            refine z_go hC (pc' := 40) (ls' := [some (.ref 14), some (.ref 18), some (.ref 16), some (.int (a3 + (nI 1))), some (.ref 16)]) (st' := [.ref 16, .int ((a3 + (nI 1)) - (nI 1)), .ref 18, .ref 14]) (h' := (fn_X4_eatsFromOneOf_16 (a3 - (nI 1)) h).2) (cs := []) [.aload_n 0, .aload_n 1, .iload_n 3, .iconst 1, .isub, .aload_n 2] (by decide +kernel) rfl rfl trivial ?_
            obtain ⟨t12, T⟩ := T
            refine z_callV hC hN hR (as := [.ref 18, .int ((a3 + (nI 1)) - (nI 1)), .ref 16]) (rest := []) ok_X4_104 (by decide +kernel) (sp_X4_eatsFromOneOf_18 l _ ((fn_X4_eatsFromOneOf_16 (a3 - (nI 1)) h).2) ((a3 + (nI 1)) - (nI 1)) t12) rfl rfl (Nat.le_of_ble_eq_true rfl) rfl rfl (Nat.le_of_ble_eq_true rfl) ⟨Nat.zero_le _, Nat.zero_le _⟩ (fun r9 h10 q11 => z_funb q11 (fun z13 => ?_))
            refine z_if_eq hC (off := 5) 48 (by decide +kernel) (by decide) (fun c14 => ?_) (fun c14 => ?_)
            · skip
              have E := (if_pos c14).symm.trans E
              have T := T.1 c14
              refine z_go hC (pc' := 59) (ls' := [some (.ref 14), some (.ref 16), some (.ref 18), some (.int ((a3 + (nI 1)) + (nI 1))), some (.ref 18)]) (st' := []) (h' := (fn_X4_eatsFromOneOf_18 ((a3 + (nI 1)) - (nI 1)) ((fn_X4_eatsFromOneOf_16 (a3 - (nI 1)) h).2)).2) (cs := []) [.aload_n 1, .astore 4, .aload_n 2, .astore_n 1, .aload 4, .astore_n 2, .iinc 3 1] (by decide +kernel) rfl rfl trivial ?_
              refine z_goto hC (off := -31) 28 (by decide +kernel) (by decide) ?_
              refine z_less (ls' := [some (.ref 14), some (.ref 16), some (.ref 18), some (.int ((a3 + (nI 1)) + (nI 1))), none]) (by simp [z_sub]) ?_
              exact hk28 ((a3 + (nI 1)) + (nI 1)) ((fn_X4_eatsFromOneOf_18 ((a3 + (nI 1)) - (nI 1)) ((fn_X4_eatsFromOneOf_16 (a3 - (nI 1)) h).2)).2) T E
            · skip
              have E := (if_neg c14).symm.trans E
              have T := T.2 c14
              refine z_go hC (pc' := 47) (ls' := [some (.ref 14), some (.ref 18), some (.ref 16), some (.int (a3 + (nI 1))), some (.ref 16)]) (st' := [.int (a3 + (nI 1))]) (h' := (fn_X4_eatsFromOneOf_18 ((a3 + (nI 1)) - (nI 1)) ((fn_X4_eatsFromOneOf_16 (a3 - (nI 1)) h).2)).2) (cs := []) [.iload_n 3] (by decide +kernel) rfl rfl trivial ?_
              exact z_ret_i hB rfl (by decide +kernel) (z_lfi E)
        · skip
          have E := (if_neg c7).symm.trans E
          have T := T.2 c7
          refine z_go hC (pc' := 47) (ls' := [some (.ref 14), some (.ref 16), some (.ref 18), some (.int a3), none]) (st' := [.int a3]) (h' := (fn_X4_eatsFromOneOf_16 (a3 - (nI 1)) h).2) (cs := []) [.iload_n 3] (by decide +kernel) rfl rfl trivial ?_
          exact z_ret_i hB rfl (by decide +kernel) (z_lfi E)
  refine z_go hC (pc' := 4) (ls' := [some (.ref 14), none, none, none, none]) (st' := [.ref 8]) (h' := h) (cs := []) [.aload_n 0, .getfield 29] (by decide +kernel) rfl rfl trivial ?_
  refine z_callV hC hN hR (as := []) (rest := []) ok_X4_88 (by decide +kernel) (sp_X3_size l _ h ) rfl rfl (Nat.le_of_ble_eq_true rfl) rfl rfl (Nat.le_of_ble_eq_true rfl) ⟨Nat.zero_le _, Nat.zero_le _⟩ (fun r15 h16 q17 => z_fun q17 ?_)
  refine z_if_ne hC (off := 5) 12 (by decide +kernel) (by decide) (fun c18 => ?_) (fun c18 => ?_)
  · skip
    have E := (if_neg c18).symm.trans E
    have T := T.2 c18
    refine z_go hC (pc' := 23) (ls' := [some (.ref 14), some (.ref 16), some (.ref 18), none, none]) (st' := [.ref 16]) (h' := h) (cs := []) [.aload_n 0, .getfield 18, .astore_n 1, .aload_n 0, .getfield 22, .astore_n 2, .aload_n 1] (by decide +kernel) rfl rfl trivial ?_
    refine z_callV hC hN hR (as := []) (rest := []) ok_X4_101 (by decide +kernel) (sp_X1_holdFirstAlone_16 l _ h ) rfl rfl (Nat.le_of_ble_eq_true rfl) rfl rfl (Nat.le_of_ble_eq_true rfl) ⟨Nat.zero_le _, Nat.zero_le _⟩ (fun r19 h20 q21 => z_fun q21 ?_)
    refine z_go hC (pc' := 28) (ls' := [some (.ref 14), some (.ref 16), some (.ref 18), some (.int (nI 1)), none]) (st' := []) (h' := z_set (z_putv h 17 1024 (nI 0) (nI 0)) 16 1 (nI 1)) (cs := []) [.iconst 1, .istore_n 3] (by decide +kernel) rfl rfl trivial ?_
    exact P28 2000 (nI 1) (z_set (z_putv h 17 1024 (nI 0) (nI 0)) 16 1 (nI 1)) T E
  · skip
    have E := (if_pos c18).symm.trans E
    have T := T.1 c18
    refine z_go hC (pc' := 11) (ls' := [some (.ref 14), none, none, none, none]) (st' := [.int (-1)]) (h' := h) (cs := []) [.iconst (-1)] (by decide +kernel) rfl rfl trivial ?_
    exact z_ret_i hB rfl (by decide +kernel) (z_lfi E)
