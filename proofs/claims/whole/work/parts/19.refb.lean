/-! ===== printed by wip/whole/gen: methods with loops, as functions ===== -/
def fn_X8_setWall_62 (k29 : Int32 → Int32 → Int32 → Int32 → Int32 → z_H → z_R) (a1 : Int32) (a2 : Int32) (a3 : Int32) (a5 : Int32) (s0 : Int32) (h : z_H) : z_R := k29 a1 a2 a3 s0 (a5 + (nI 1)) h
def tk_X8_setWall_62 (K29 : Int32 → Int32 → Int32 → Int32 → Int32 → z_H → Prop) (a1 : Int32) (a2 : Int32) (a3 : Int32) (a5 : Int32) (s0 : Int32) (h : z_H) : Prop := K29 a1 a2 a3 s0 (a5 + (nI 1)) h
def fn_X8_setWall_61 (k29 : Int32 → Int32 → Int32 → Int32 → Int32 → z_H → z_R) (a1 : Int32) (a2 : Int32) (a3 : Int32) (a5 : Int32) (h : z_H) : z_R := fn_X8_setWall_62 k29 a1 a2 a3 a5 (nI 0) h
def tk_X8_setWall_61 (K29 : Int32 → Int32 → Int32 → Int32 → Int32 → z_H → Prop) (a1 : Int32) (a2 : Int32) (a3 : Int32) (a5 : Int32) (h : z_H) : Prop := tk_X8_setWall_62 K29 a1 a2 a3 a5 (nI 0) h
def fn_X8_setWall_89  (a1 : Int32) (a2 : Int32) (s0 : Int32) (h : z_H) : z_R := if (fv_X8_goesWell h s0) = 0 then (some (.int (nI 0)), fh_X8_goesWell h s0) else (some (.int ((fh_X8_goesWell h s0).1 21 a1.toNatClampNeg)), (fn_X8_layCycle  (z_set (fh_X8_goesWell h s0) 21 a1.toNatClampNeg a2)).2)
def tk_X8_setWall_89  (a1 : Int32) (a2 : Int32) (s0 : Int32) (h : z_H) : Prop := (((fv_X8_goesWell h s0) = 0) → (True)) ∧ ((¬ (fv_X8_goesWell h s0) = 0) → (vp_in a1 9 ∧ vp_in a1 9 ∧ (a2 = 0 ∨ a2 = 1) ∧ (tk_X8_layCycle  (z_set (fh_X8_goesWell h s0) 21 a1.toNatClampNeg a2) ∧ (((fh_X8_goesWell h s0).1 21 a1.toNatClampNeg = 0 ∨ (fh_X8_goesWell h s0).1 21 a1.toNatClampNeg = 1)))))
def fn_X8_setWall_29  : Nat → Int32 → Int32 → Int32 → Int32 → Int32 → z_H → z_R
  | 0, _, _, _, _, _, h => (none, h)
  | n + 1, a1, a2, a3, a4, a5, h => let k29 := fun (a1_ : Int32) (a2_ : Int32) (a3_ : Int32) (a4_ : Int32) (a5_ : Int32) (h_ : z_H) => fn_X8_setWall_29  n a1_ a2_ a3_ a4_ a5_ h_; if (h.1 20 8) ≤ a5 then if a3 = 0 then fn_X8_setWall_89 a1 a2 (nI 1) h else if a4 = 0 then fn_X8_setWall_89 a1 a2 (nI 2) h else fn_X8_setWall_89 a1 a2 (nI 0) h else if a4 = 0 then fn_X8_setWall_61 k29 a1 a2 a3 a5 h else if (fv_X8_blockOf (h.1 27 a5.toNatClampNeg)) = a1 then fn_X8_setWall_61 k29 a1 a2 a3 a5 h else fn_X8_setWall_62 k29 a1 a2 a3 a5 (nI 1) h
def tk_X8_setWall_29  : Nat → Int32 → Int32 → Int32 → Int32 → Int32 → z_H → Prop
  | 0, _, _, _, _, _, _ => False
  | n + 1, a1, a2, a3, a4, a5, h => let K29 := fun (a1_ : Int32) (a2_ : Int32) (a3_ : Int32) (a4_ : Int32) (a5_ : Int32) (h_ : z_H) => tk_X8_setWall_29  n a1_ a2_ a3_ a4_ a5_ h_; (((h.1 20 8) ≤ a5) → (((a3 = 0) → (tk_X8_setWall_89 a1 a2 (nI 1) h)) ∧ ((¬ a3 = 0) → (((a4 = 0) → (tk_X8_setWall_89 a1 a2 (nI 2) h)) ∧ ((¬ a4 = 0) → (tk_X8_setWall_89 a1 a2 (nI 0) h)))))) ∧ ((¬ (h.1 20 8) ≤ a5) → (((a4 = 0) → (tk_X8_setWall_61 K29 a1 a2 a3 a5 h)) ∧ ((¬ a4 = 0) → (vp_in a5 40 ∧ ((((fv_X8_blockOf (h.1 27 a5.toNatClampNeg)) = a1) → (tk_X8_setWall_61 K29 a1 a2 a3 a5 h)) ∧ ((¬ (fv_X8_blockOf (h.1 27 a5.toNatClampNeg)) = a1) → (tk_X8_setWall_62 K29 a1 a2 a3 a5 (nI 1) h)))))))
def fn_X8_setWall_24  (a1 : Int32) (a2 : Int32) (a3 : Int32) (s0 : Int32) (h : z_H) : z_R := fn_X8_setWall_29 2000 a1 a2 a3 s0 (nI 0) h
def tk_X8_setWall_24  (a1 : Int32) (a2 : Int32) (a3 : Int32) (s0 : Int32) (h : z_H) : Prop := tk_X8_setWall_29 2000 a1 a2 a3 s0 (nI 0) h
def fn_X8_setWall_23  (a1 : Int32) (a2 : Int32) (a3 : Int32) (h : z_H) : z_R := fn_X8_setWall_24 a1 a2 a3 (nI 0) h
def tk_X8_setWall_23  (a1 : Int32) (a2 : Int32) (a3 : Int32) (h : z_H) : Prop := tk_X8_setWall_24 a1 a2 a3 (nI 0) h
def fn_X8_setWall (x : Int32) (y : Int32) (h : z_H) : z_R := if (fv_X8_in x (nI 0) (nI 8)) = 0 then fn_X8_setWall_23 x y (fv_X8_in x (nI 0) (nI 8)) h else if (h.1 20 10) = 0 then fn_X8_setWall_24 x y (fv_X8_in x (nI 0) (nI 8)) (nI 1) h else fn_X8_setWall_23 x y (fv_X8_in x (nI 0) (nI 8)) h
def tk_X8_setWall (x : Int32) (y : Int32) (h : z_H) : Prop := (((fv_X8_in x (nI 0) (nI 8)) = 0) → (tk_X8_setWall_23 x y (fv_X8_in x (nI 0) (nI 8)) h)) ∧ ((¬ (fv_X8_in x (nI 0) (nI 8)) = 0) → ((((h.1 20 10) = 0) → (tk_X8_setWall_24 x y (fv_X8_in x (nI 0) (nI 8)) (nI 1) h)) ∧ ((¬ (h.1 20 10) = 0) → (tk_X8_setWall_23 x y (fv_X8_in x (nI 0) (nI 8)) h))))
set_option maxHeartbeats 4000000 in
set_option maxRecDepth 100000 in
theorem sp_X8_setWall (l : Launch) (ext : z_Sh)  (h : z_H) (x : Int32) (y : Int32)  (T : tk_X8_setWall x y h) : z_Sp l 6 yX8_setWall cX8_setWall 6 (some .boolean) [.ref 20, .int x, .int y] (z_m ext) h (z_PB (fn_X8_setWall x y h)) := by
  refine z_enter ft_X8 (by decide +kernel) fo_X8 (Nat.le_of_ble_eq_true rfl) ?_
  intro p e R s m args below meth c D dA ad hB
  have hC := hB.1
  have hN := hB.2.1
  have hR := hB.2.2.1
  unfold tk_X8_setWall at T; have E : (if (fv_X8_in x (nI 0) (nI 8)) = 0 then fn_X8_setWall_23 x y (fv_X8_in x (nI 0) (nI 8)) h else if (h.1 20 10) = 0 then fn_X8_setWall_24 x y (fv_X8_in x (nI 0) (nI 8)) (nI 1) h else fn_X8_setWall_23 x y (fv_X8_in x (nI 0) (nI 8)) h) = fn_X8_setWall x y h := rfl
  generalize fn_X8_setWall x y h = RR at E ⊢
  have P62 : ∀ (k29 : Int32 → Int32 → Int32 → Int32 → Int32 → z_H → z_R) (K29 : Int32 → Int32 → Int32 → Int32 → Int32 → z_H → Prop) (hk29 : ∀ (a1 : Int32) (a2 : Int32) (a3 : Int32) (a4 : Int32) (a5 : Int32) (h : z_H), K29 a1 a2 a3 a4 a5 h → k29 a1 a2 a3 a4 a5 h = RR → z_G p l e R s m args below meth c D dA ad 6 (z_PB RR) (z_m ext) 29 [some (.ref 20), some (.int a1), some (.int a2), some (.int a3), some (.int a4), some (.int a5)] [] h), ∀ (a1 : Int32) (a2 : Int32) (a3 : Int32) (a5 : Int32) (s0 : Int32) (h : z_H), tk_X8_setWall_62 K29 a1 a2 a3 a5 s0 h → fn_X8_setWall_62 k29 a1 a2 a3 a5 s0 h = RR → z_G p l e R s m args below meth c D dA ad 6 (z_PB RR) (z_m ext) 62 [some (.ref 20), some (.int a1), some (.int a2), some (.int a3), none, some (.int a5)] [.int s0] h := by
    intro k29 K29 hk29 a1 a2 a3 a5 s0 h T E
    unfold tk_X8_setWall_62 at T; unfold fn_X8_setWall_62 at E
    refine z_go hC (pc' := 67) (ls' := [some (.ref 20), some (.int a1), some (.int a2), some (.int a3), some (.int s0), some (.int (a5 + (nI 1)))]) (st' := []) (h' := h) (cs := []) [.istore 4, .iinc 5 1] (by decide +kernel) rfl rfl trivial ?_
    refine z_goto hC (off := -38) 29 (by decide +kernel) (by decide) ?_
    exact hk29 a1 a2 a3 s0 (a5 + (nI 1)) h T E
  have P61 : ∀ (k29 : Int32 → Int32 → Int32 → Int32 → Int32 → z_H → z_R) (K29 : Int32 → Int32 → Int32 → Int32 → Int32 → z_H → Prop) (hk29 : ∀ (a1 : Int32) (a2 : Int32) (a3 : Int32) (a4 : Int32) (a5 : Int32) (h : z_H), K29 a1 a2 a3 a4 a5 h → k29 a1 a2 a3 a4 a5 h = RR → z_G p l e R s m args below meth c D dA ad 6 (z_PB RR) (z_m ext) 29 [some (.ref 20), some (.int a1), some (.int a2), some (.int a3), some (.int a4), some (.int a5)] [] h), ∀ (a1 : Int32) (a2 : Int32) (a3 : Int32) (a5 : Int32) (h : z_H), tk_X8_setWall_61 K29 a1 a2 a3 a5 h → fn_X8_setWall_61 k29 a1 a2 a3 a5 h = RR → z_G p l e R s m args below meth c D dA ad 6 (z_PB RR) (z_m ext) 61 [some (.ref 20), some (.int a1), some (.int a2), some (.int a3), none, some (.int a5)] [] h := by
    intro k29 K29 hk29 a1 a2 a3 a5 h T E
    unfold tk_X8_setWall_61 at T; unfold fn_X8_setWall_61 at E
    refine z_go hC (pc' := 62) (ls' := [some (.ref 20), some (.int a1), some (.int a2), some (.int a3), none, some (.int a5)]) (st' := [.int (nI 0)]) (h' := h) (cs := []) [.iconst 0] (by decide +kernel) rfl rfl trivial ?_
    exact P62 _ _ hk29 a1 a2 a3 a5 (nI 0) h T E
  have P89 : ∀ (a1 : Int32) (a2 : Int32) (s0 : Int32) (h : z_H), tk_X8_setWall_89  a1 a2 s0 h → fn_X8_setWall_89  a1 a2 s0 h = RR → z_G p l e R s m args below meth c D dA ad 6 (z_PB RR) (z_m ext) 89 [some (.ref 20), some (.int a1), some (.int a2), none, none, none] [.int s0, .ref 20] h := by
    intro  a1 a2 s0 h T E
    unfold tk_X8_setWall_89 at T; unfold fn_X8_setWall_89 at E
    refine z_callV hC hN hR (as := [.int s0]) (rest := []) ok_X8_98 (by decide +kernel) (sp_X8_goesWell l _ h s0) rfl rfl (Nat.le_of_ble_eq_true rfl) rfl rfl (Nat.le_of_ble_eq_true rfl) ⟨Nat.zero_le _, Nat.zero_le _⟩ (fun r1 h2 q3 => z_fun q3 ?_)
    refine z_if_ne hC (off := 5) 97 (by decide +kernel) (by decide) (fun c4 => ?_) (fun c4 => ?_)
    · skip
      have E := (if_neg c4).symm.trans E
      have T := T.2 c4
      obtain ⟨t5, t6, t7, T⟩ := T
      refine z_go hC (pc' := 113) (ls' := [some (.ref 20), some (.int a1), some (.int a2), none, none, some (.int ((fh_X8_goesWell h s0).1 21 a1.toNatClampNeg))]) (st' := [.ref 20]) (h' := z_set (fh_X8_goesWell h s0) 21 a1.toNatClampNeg a2) (cs := [vp_in a1 9, vp_in a1 9, (a2 = 0 ∨ a2 = 1)]) [.aload_n 0, .getfield 7, .iload_n 1, .baload, .istore 5, .aload_n 0, .getfield 7, .iload_n 1, .iload_n 2, .bastore, .aload_n 0] (by decide +kernel) rfl rfl ⟨t5, t6, t7⟩ ?_
      obtain ⟨t11, T⟩ := T
      refine z_callV hC hN hR (as := []) (rest := []) ok_X8_53 (by decide +kernel) (sp_X8_layCycle l _ (z_set (fh_X8_goesWell h s0) 21 a1.toNatClampNeg a2)  t11) rfl rfl (Nat.le_of_ble_eq_true rfl) rfl rfl (Nat.le_of_ble_eq_true rfl) ⟨Nat.zero_le _, Nat.zero_le _⟩ (fun r8 h9 q10 => z_fun q10 ?_)
      refine z_go hC (pc' := 118) (ls' := [some (.ref 20), some (.int a1), some (.int a2), none, none, some (.int ((fh_X8_goesWell h s0).1 21 a1.toNatClampNeg))]) (st' := [.int ((fh_X8_goesWell h s0).1 21 a1.toNatClampNeg)]) (h' := (fn_X8_layCycle  (z_set (fh_X8_goesWell h s0) 21 a1.toNatClampNeg a2)).2) (cs := []) [.iload 5] (by decide +kernel) rfl rfl trivial ?_
      have t12 := T
      exact z_ret_z hB rfl t12 (by decide +kernel) (z_lfb t12 E)
    · skip
      have E := (if_pos c4).symm.trans E
      have T := T.1 c4
      refine z_go hC (pc' := 96) (ls' := [some (.ref 20), some (.int a1), some (.int a2), none, none, none]) (st' := [.int (nI 0)]) (h' := fh_X8_goesWell h s0) (cs := []) [.iconst 0] (by decide +kernel) rfl rfl trivial ?_
      exact z_ret_z hB rfl (show (nI 0 = 0 ∨ nI 0 = 1) by decide) (by decide +kernel) (z_lfb (show (nI 0 = 0 ∨ nI 0 = 1) by decide) E)
  have P29 : ∀ (n : Nat), ∀ (a1 : Int32) (a2 : Int32) (a3 : Int32) (a4 : Int32) (a5 : Int32) (h : z_H), tk_X8_setWall_29  n a1 a2 a3 a4 a5 h → fn_X8_setWall_29  n a1 a2 a3 a4 a5 h = RR → z_G p l e R s m args below meth c D dA ad 6 (z_PB RR) (z_m ext) 29 [some (.ref 20), some (.int a1), some (.int a2), some (.int a3), some (.int a4), some (.int a5)] [] h := by
    intro  n
    induction n with
    | zero => intro a1 a2 a3 a4 a5 h T E; exact False.elim T
    | succ n ih =>
      intro a1 a2 a3 a4 a5 h T E
      unfold tk_X8_setWall_29 at T; unfold fn_X8_setWall_29 at E; dsimp only at T E
      have hk29 := ih
      refine z_go hC (pc' := 35) (ls' := [some (.ref 20), some (.int a1), some (.int a2), some (.int a3), some (.int a4), some (.int a5)]) (st' := [.int (h.1 20 8), .int a5]) (h' := h) (cs := []) [.iload 5, .aload_n 0, .getfield 95] (by decide +kernel) rfl rfl trivial ?_
      refine z_icmp_ge hC (off := 35) 70 (by decide +kernel) (by decide) (fun c13 => ?_) (fun c13 => ?_)
      · skip
        have E := (if_pos c13).symm.trans E
        have T := T.1 c13
        refine z_go hC (pc' := 72) (ls' := [some (.ref 20), some (.int a1), some (.int a2), some (.int a3), some (.int a4), some (.int a5)]) (st' := [.int a3, .ref 20]) (h' := h) (cs := []) [.aload_n 0, .iload_n 3] (by decide +kernel) rfl rfl trivial ?_
        refine z_if_ne hC (off := 7) 79 (by decide +kernel) (by decide) (fun c14 => ?_) (fun c14 => ?_)
        · skip
          have E := (if_neg c14).symm.trans E
          have T := T.2 c14
          refine z_go hC (pc' := 81) (ls' := [some (.ref 20), some (.int a1), some (.int a2), some (.int a3), some (.int a4), some (.int a5)]) (st' := [.int a4, .ref 20]) (h' := h) (cs := []) [.iload 4] (by decide +kernel) rfl rfl trivial ?_
          refine z_if_eq hC (off := 7) 88 (by decide +kernel) (by decide) (fun c15 => ?_) (fun c15 => ?_)
          · skip
            have E := (if_pos c15).symm.trans E
            have T := T.1 c15
            refine z_go hC (pc' := 89) (ls' := [some (.ref 20), some (.int a1), some (.int a2), some (.int a3), some (.int a4), some (.int a5)]) (st' := [.int (nI 2), .ref 20]) (h' := h) (cs := []) [.iconst 2] (by decide +kernel) rfl rfl trivial ?_
            refine z_less (ls' := [some (.ref 20), some (.int a1), some (.int a2), none, none, none]) (by simp [z_sub]) ?_
            exact P89  a1 a2 (nI 2) h T E
          · skip
            have E := (if_neg c15).symm.trans E
            have T := T.2 c15
            refine z_go hC (pc' := 85) (ls' := [some (.ref 20), some (.int a1), some (.int a2), some (.int a3), some (.int a4), some (.int a5)]) (st' := [.int (nI 0), .ref 20]) (h' := h) (cs := []) [.iconst 0] (by decide +kernel) rfl rfl trivial ?_
            refine z_goto hC (off := 4) 89 (by decide +kernel) (by decide) ?_
            refine z_less (ls' := [some (.ref 20), some (.int a1), some (.int a2), none, none, none]) (by simp [z_sub]) ?_
            exact P89  a1 a2 (nI 0) h T E
        · skip
          have E := (if_pos c14).symm.trans E
          have T := T.1 c14
          refine z_go hC (pc' := 76) (ls' := [some (.ref 20), some (.int a1), some (.int a2), some (.int a3), some (.int a4), some (.int a5)]) (st' := [.int (nI 1), .ref 20]) (h' := h) (cs := []) [.iconst 1] (by decide +kernel) rfl rfl trivial ?_
          refine z_goto hC (off := 13) 89 (by decide +kernel) (by decide) ?_
          refine z_less (ls' := [some (.ref 20), some (.int a1), some (.int a2), none, none, none]) (by simp [z_sub]) ?_
          exact P89  a1 a2 (nI 1) h T E
      · skip
        have E := (if_neg c13).symm.trans E
        have T := T.2 c13
        refine z_go hC (pc' := 40) (ls' := [some (.ref 20), some (.int a1), some (.int a2), some (.int a3), some (.int a4), some (.int a5)]) (st' := [.int a4]) (h' := h) (cs := []) [.iload 4] (by decide +kernel) rfl rfl trivial ?_
        refine z_if_eq hC (off := 21) 61 (by decide +kernel) (by decide) (fun c16 => ?_) (fun c16 => ?_)
        · skip
          have E := (if_pos c16).symm.trans E
          have T := T.1 c16
          refine z_less (ls' := [some (.ref 20), some (.int a1), some (.int a2), some (.int a3), none, some (.int a5)]) (by simp [z_sub]) ?_
          exact P61 _ _ hk29 a1 a2 a3 a5 h T E
        · skip
          have E := (if_neg c16).symm.trans E
          have T := T.2 c16
          obtain ⟨t17, T⟩ := T
          refine z_go hC (pc' := 50) (ls' := [some (.ref 20), some (.int a1), some (.int a2), some (.int a3), some (.int a4), some (.int a5)]) (st' := [.int (h.1 27 a5.toNatClampNeg)]) (h' := h) (cs := [vp_in a5 40]) [.aload_n 0, .getfield 29, .iload 5, .iaload] (by decide +kernel) rfl rfl t17 ?_
          refine z_callS hC hN hR (as := [.int (h.1 27 a5.toNatClampNeg)]) (rest := []) ok_X8_71 (by decide +kernel) (sp_X8_blockOf l _ h (h.1 27 a5.toNatClampNeg)) (Nat.le_of_ble_eq_true rfl) rfl rfl (Nat.le_of_ble_eq_true rfl) ⟨Nat.zero_le _, Nat.zero_le _⟩ (fun r18 h19 q20 => z_fun q20 ?_)
          refine z_go hC (pc' := 54) (ls' := [some (.ref 20), some (.int a1), some (.int a2), some (.int a3), some (.int a4), some (.int a5)]) (st' := [.int a1, .int (fv_X8_blockOf (h.1 27 a5.toNatClampNeg))]) (h' := h) (cs := []) [.iload_n 1] (by decide +kernel) rfl rfl trivial ?_
          refine z_icmp_eq hC (off := 7) 61 (by decide +kernel) (by decide) (fun c21 => ?_) (fun c21 => ?_)
          · skip
            have E := (if_pos c21).symm.trans E
            have T := T.1 c21
            refine z_less (ls' := [some (.ref 20), some (.int a1), some (.int a2), some (.int a3), none, some (.int a5)]) (by simp [z_sub]) ?_
            exact P61 _ _ hk29 a1 a2 a3 a5 h T E
          · skip
            have E := (if_neg c21).symm.trans E
            have T := T.2 c21
            refine z_go hC (pc' := 58) (ls' := [some (.ref 20), some (.int a1), some (.int a2), some (.int a3), some (.int a4), some (.int a5)]) (st' := [.int (nI 1)]) (h' := h) (cs := []) [.iconst 1] (by decide +kernel) rfl rfl trivial ?_
            refine z_goto hC (off := 4) 62 (by decide +kernel) (by decide) ?_
            refine z_less (ls' := [some (.ref 20), some (.int a1), some (.int a2), some (.int a3), none, some (.int a5)]) (by simp [z_sub]) ?_
            exact P62 _ _ hk29 a1 a2 a3 a5 (nI 1) h T E
  have P24 : ∀ (a1 : Int32) (a2 : Int32) (a3 : Int32) (s0 : Int32) (h : z_H), tk_X8_setWall_24  a1 a2 a3 s0 h → fn_X8_setWall_24  a1 a2 a3 s0 h = RR → z_G p l e R s m args below meth c D dA ad 6 (z_PB RR) (z_m ext) 24 [some (.ref 20), some (.int a1), some (.int a2), some (.int a3), none, none] [.int s0] h := by
    intro  a1 a2 a3 s0 h T E
    unfold tk_X8_setWall_24 at T; unfold fn_X8_setWall_24 at E
    refine z_go hC (pc' := 29) (ls' := [some (.ref 20), some (.int a1), some (.int a2), some (.int a3), some (.int s0), some (.int (nI 0))]) (st' := []) (h' := h) (cs := []) [.istore 4, .iconst 0, .istore 5] (by decide +kernel) rfl rfl trivial ?_
    exact P29 2000 a1 a2 a3 s0 (nI 0) h T E
  have P23 : ∀ (a1 : Int32) (a2 : Int32) (a3 : Int32) (h : z_H), tk_X8_setWall_23  a1 a2 a3 h → fn_X8_setWall_23  a1 a2 a3 h = RR → z_G p l e R s m args below meth c D dA ad 6 (z_PB RR) (z_m ext) 23 [some (.ref 20), some (.int a1), some (.int a2), some (.int a3), none, none] [] h := by
    intro  a1 a2 a3 h T E
    unfold tk_X8_setWall_23 at T; unfold fn_X8_setWall_23 at E
    refine z_go hC (pc' := 24) (ls' := [some (.ref 20), some (.int a1), some (.int a2), some (.int a3), none, none]) (st' := [.int (nI 0)]) (h' := h) (cs := []) [.iconst 0] (by decide +kernel) rfl rfl trivial ?_
    exact P24  a1 a2 a3 (nI 0) h T E
  refine z_go hC (pc' := 4) (ls' := [some (.ref 20), some (.int x), some (.int y), none, none, none]) (st' := [.int (nI 8), .int (nI 0), .int x]) (h' := h) (cs := []) [.iload_n 1, .iconst 0, .bipush 8] (by decide +kernel) rfl rfl trivial ?_
  refine z_callS hC hN hR (as := [.int x, .int (nI 0), .int (nI 8)]) (rest := []) ok_X8_87 (by decide +kernel) (sp_X8_in l _ h x (nI 0) (nI 8)) (Nat.le_of_ble_eq_true rfl) rfl rfl (Nat.le_of_ble_eq_true rfl) ⟨Nat.zero_le _, Nat.zero_le _⟩ (fun r22 h23 q24 => z_fun q24 ?_)
  refine z_go hC (pc' := 9) (ls' := [some (.ref 20), some (.int x), some (.int y), some (.int (fv_X8_in x (nI 0) (nI 8))), none, none]) (st' := [.int (fv_X8_in x (nI 0) (nI 8))]) (h' := h) (cs := []) [.istore_n 3, .iload_n 3] (by decide +kernel) rfl rfl trivial ?_
  refine z_if_eq hC (off := 14) 23 (by decide +kernel) (by decide) (fun c25 => ?_) (fun c25 => ?_)
  · skip
    have E := (if_pos c25).symm.trans E
    have T := T.1 c25
    exact P23  x y (fv_X8_in x (nI 0) (nI 8)) h T E
  · skip
    have E := (if_neg c25).symm.trans E
    have T := T.2 c25
    refine z_go hC (pc' := 16) (ls' := [some (.ref 20), some (.int x), some (.int y), some (.int (fv_X8_in x (nI 0) (nI 8))), none, none]) (st' := [.int (h.1 20 10)]) (h' := h) (cs := []) [.aload_n 0, .getfield 91] (by decide +kernel) rfl rfl trivial ?_
    refine z_if_ne hC (off := 7) 23 (by decide +kernel) (by decide) (fun c26 => ?_) (fun c26 => ?_)
    · skip
      have E := (if_neg c26).symm.trans E
      have T := T.2 c26
      exact P23  x y (fv_X8_in x (nI 0) (nI 8)) h T E
    · skip
      have E := (if_pos c26).symm.trans E
      have T := T.1 c26
      refine z_go hC (pc' := 20) (ls' := [some (.ref 20), some (.int x), some (.int y), some (.int (fv_X8_in x (nI 0) (nI 8))), none, none]) (st' := [.int (nI 1)]) (h' := h) (cs := []) [.iconst 1] (by decide +kernel) rfl rfl trivial ?_
      refine z_goto hC (off := 4) 24 (by decide +kernel) (by decide) ?_
      exact P24  x y (fv_X8_in x (nI 0) (nI 8)) (nI 1) h T E

def fn_X8_setLink_43  (a1 : Int32) (a2 : Int32) (s0 : Int32) (h : z_H) : z_R := if (fv_X8_goesWell h s0) = 0 then (some (.int (nI 0)), fh_X8_goesWell h s0) else (some (.int ((fh_X8_goesWell h s0).1 22 a1.toNatClampNeg)), (fn_X8_layCycle  (z_set (fh_X8_goesWell h s0) 22 a1.toNatClampNeg a2)).2)
def tk_X8_setLink_43  (a1 : Int32) (a2 : Int32) (s0 : Int32) (h : z_H) : Prop := (((fv_X8_goesWell h s0) = 0) → (True)) ∧ ((¬ (fv_X8_goesWell h s0) = 0) → (vp_in a1 12 ∧ vp_in a1 12 ∧ (tk_X8_layCycle  (z_set (fh_X8_goesWell h s0) 22 a1.toNatClampNeg a2))))
def fn_X8_setLink (x : Int32) (y : Int32) (h : z_H) : z_R := if (fv_X8_in x (nI 0) (nI 11)) = 0 then fn_X8_setLink_43 x y (nI 1) h else if (fv_X8_in y (-1) (nI 9)) = 0 then fn_X8_setLink_43 x y (nI 2) h else if (h.1 20 10) = 0 then fn_X8_setLink_43 x y (nI 0) h else fn_X8_setLink_43 x y (nI 3) h
def tk_X8_setLink (x : Int32) (y : Int32) (h : z_H) : Prop := (((fv_X8_in x (nI 0) (nI 11)) = 0) → (tk_X8_setLink_43 x y (nI 1) h)) ∧ ((¬ (fv_X8_in x (nI 0) (nI 11)) = 0) → ((((fv_X8_in y (-1) (nI 9)) = 0) → (tk_X8_setLink_43 x y (nI 2) h)) ∧ ((¬ (fv_X8_in y (-1) (nI 9)) = 0) → ((((h.1 20 10) = 0) → (tk_X8_setLink_43 x y (nI 0) h)) ∧ ((¬ (h.1 20 10) = 0) → (tk_X8_setLink_43 x y (nI 3) h))))))
set_option maxHeartbeats 4000000 in
set_option maxRecDepth 100000 in
theorem sp_X8_setLink (l : Launch) (ext : z_Sh)  (h : z_H) (x : Int32) (y : Int32)  (T : tk_X8_setLink x y h) : z_Sp l 6 yX8_setLink cX8_setLink 5 (some .int) [.ref 20, .int x, .int y] (z_m ext) h (z_PI (fn_X8_setLink x y h)) := by
  refine z_enter ft_X8 (by decide +kernel) fo_X8 (Nat.le_of_ble_eq_true rfl) ?_
  intro p e R s m args below meth c D dA ad hB
  have hC := hB.1
  have hN := hB.2.1
  have hR := hB.2.2.1
  unfold tk_X8_setLink at T; have E : (if (fv_X8_in x (nI 0) (nI 11)) = 0 then fn_X8_setLink_43 x y (nI 1) h else if (fv_X8_in y (-1) (nI 9)) = 0 then fn_X8_setLink_43 x y (nI 2) h else if (h.1 20 10) = 0 then fn_X8_setLink_43 x y (nI 0) h else fn_X8_setLink_43 x y (nI 3) h) = fn_X8_setLink x y h := rfl
  generalize fn_X8_setLink x y h = RR at E ⊢
  have P43 : ∀ (a1 : Int32) (a2 : Int32) (s0 : Int32) (h : z_H), tk_X8_setLink_43  a1 a2 s0 h → fn_X8_setLink_43  a1 a2 s0 h = RR → z_G p l e R s m args below meth c D dA ad 5 (z_PI RR) (z_m ext) 43 [some (.ref 20), some (.int a1), some (.int a2), none, none] [.int s0, .ref 20] h := by
    intro  a1 a2 s0 h T E
    unfold tk_X8_setLink_43 at T; unfold fn_X8_setLink_43 at E
    refine z_callV hC hN hR (as := [.int s0]) (rest := []) ok_X8_98 (by decide +kernel) (sp_X8_goesWell l _ h s0) rfl rfl (Nat.le_of_ble_eq_true rfl) rfl rfl (Nat.le_of_ble_eq_true rfl) ⟨Nat.zero_le _, Nat.zero_le _⟩ (fun r1 h2 q3 => z_fun q3 ?_)
    refine z_if_ne hC (off := 5) 51 (by decide +kernel) (by decide) (fun c4 => ?_) (fun c4 => ?_)
    · skip
      have E := (if_neg c4).symm.trans E
      have T := T.2 c4
      obtain ⟨t5, t6, T⟩ := T
      refine z_go hC (pc' := 67) (ls' := [some (.ref 20), some (.int a1), some (.int a2), none, some (.int ((fh_X8_goesWell h s0).1 22 a1.toNatClampNeg))]) (st' := [.ref 20]) (h' := z_set (fh_X8_goesWell h s0) 22 a1.toNatClampNeg a2) (cs := [vp_in a1 12, vp_in a1 12]) [.aload_n 0, .getfield 13, .iload_n 1, .iaload, .istore 4, .aload_n 0, .getfield 13, .iload_n 1, .iload_n 2, .iastore, .aload_n 0] (by decide +kernel) rfl rfl ⟨t5, t6⟩ ?_
      have t10 := T
      refine z_callV hC hN hR (as := []) (rest := []) ok_X8_53 (by decide +kernel) (sp_X8_layCycle l _ (z_set (fh_X8_goesWell h s0) 22 a1.toNatClampNeg a2)  t10) rfl rfl (Nat.le_of_ble_eq_true rfl) rfl rfl (Nat.le_of_ble_eq_true rfl) ⟨Nat.zero_le _, Nat.zero_le _⟩ (fun r7 h8 q9 => z_fun q9 ?_)
      refine z_go hC (pc' := 72) (ls' := [some (.ref 20), some (.int a1), some (.int a2), none, some (.int ((fh_X8_goesWell h s0).1 22 a1.toNatClampNeg))]) (st' := [.int ((fh_X8_goesWell h s0).1 22 a1.toNatClampNeg)]) (h' := (fn_X8_layCycle  (z_set (fh_X8_goesWell h s0) 22 a1.toNatClampNeg a2)).2) (cs := []) [.iload 4] (by decide +kernel) rfl rfl trivial ?_
      exact z_ret_i hB rfl (by decide +kernel) (z_lfi E)
    · skip
      have E := (if_pos c4).symm.trans E
      have T := T.1 c4
      refine z_go hC (pc' := 50) (ls' := [some (.ref 20), some (.int a1), some (.int a2), none, none]) (st' := [.int (nI 0)]) (h' := fh_X8_goesWell h s0) (cs := []) [.iconst 0] (by decide +kernel) rfl rfl trivial ?_
      exact z_ret_i hB rfl (by decide +kernel) (z_lfi E)
  refine z_go hC (pc' := 4) (ls' := [some (.ref 20), some (.int x), some (.int y), none, none]) (st' := [.int (nI 11), .int (nI 0), .int x]) (h' := h) (cs := []) [.iload_n 1, .iconst 0, .bipush 11] (by decide +kernel) rfl rfl trivial ?_
  refine z_callS hC hN hR (as := [.int x, .int (nI 0), .int (nI 11)]) (rest := []) ok_X8_87 (by decide +kernel) (sp_X8_in l _ h x (nI 0) (nI 11)) (Nat.le_of_ble_eq_true rfl) rfl rfl (Nat.le_of_ble_eq_true rfl) ⟨Nat.zero_le _, Nat.zero_le _⟩ (fun r11 h12 q13 => z_fun q13 ?_)
  refine z_go hC (pc' := 10) (ls' := [some (.ref 20), some (.int x), some (.int y), some (.int (fv_X8_in x (nI 0) (nI 11))), none]) (st' := [.int (fv_X8_in x (nI 0) (nI 11)), .ref 20]) (h' := h) (cs := []) [.istore_n 3, .aload_n 0, .iload_n 3] (by decide +kernel) rfl rfl trivial ?_
  refine z_if_ne hC (off := 7) 17 (by decide +kernel) (by decide) (fun c14 => ?_) (fun c14 => ?_)
  · skip
    have E := (if_neg c14).symm.trans E
    have T := T.2 c14
    refine z_go hC (pc' := 21) (ls' := [some (.ref 20), some (.int x), some (.int y), some (.int (fv_X8_in x (nI 0) (nI 11))), none]) (st' := [.int (nI 9), .int (-1), .int y, .ref 20]) (h' := h) (cs := []) [.iload_n 2, .iconst (-1), .bipush 9] (by decide +kernel) rfl rfl trivial ?_
    refine z_callS hC hN hR (as := [.int y, .int (-1), .int (nI 9)]) (rest := [.ref 20]) ok_X8_87 (by decide +kernel) (sp_X8_in l _ h y (-1) (nI 9)) (Nat.le_of_ble_eq_true rfl) rfl rfl (Nat.le_of_ble_eq_true rfl) ⟨Nat.zero_le _, Nat.zero_le _⟩ (fun r15 h16 q17 => z_fun q17 ?_)
    refine z_if_ne hC (off := 7) 31 (by decide +kernel) (by decide) (fun c18 => ?_) (fun c18 => ?_)
    · skip
      have E := (if_neg c18).symm.trans E
      have T := T.2 c18
      refine z_go hC (pc' := 35) (ls' := [some (.ref 20), some (.int x), some (.int y), some (.int (fv_X8_in x (nI 0) (nI 11))), none]) (st' := [.int (h.1 20 10), .ref 20]) (h' := h) (cs := []) [.aload_n 0, .getfield 91] (by decide +kernel) rfl rfl trivial ?_
      refine z_if_eq hC (off := 7) 42 (by decide +kernel) (by decide) (fun c19 => ?_) (fun c19 => ?_)
      · skip
        have E := (if_pos c19).symm.trans E
        have T := T.1 c19
        refine z_go hC (pc' := 43) (ls' := [some (.ref 20), some (.int x), some (.int y), some (.int (fv_X8_in x (nI 0) (nI 11))), none]) (st' := [.int (nI 0), .ref 20]) (h' := h) (cs := []) [.iconst 0] (by decide +kernel) rfl rfl trivial ?_
        refine z_less (ls' := [some (.ref 20), some (.int x), some (.int y), none, none]) (by simp [z_sub]) ?_
        exact P43  x y (nI 0) h T E
      · skip
        have E := (if_neg c19).symm.trans E
        have T := T.2 c19
        refine z_go hC (pc' := 39) (ls' := [some (.ref 20), some (.int x), some (.int y), some (.int (fv_X8_in x (nI 0) (nI 11))), none]) (st' := [.int (nI 3), .ref 20]) (h' := h) (cs := []) [.iconst 3] (by decide +kernel) rfl rfl trivial ?_
        refine z_goto hC (off := 4) 43 (by decide +kernel) (by decide) ?_
        refine z_less (ls' := [some (.ref 20), some (.int x), some (.int y), none, none]) (by simp [z_sub]) ?_
        exact P43  x y (nI 3) h T E
    · skip
      have E := (if_pos c18).symm.trans E
      have T := T.1 c18
      refine z_go hC (pc' := 28) (ls' := [some (.ref 20), some (.int x), some (.int y), some (.int (fv_X8_in x (nI 0) (nI 11))), none]) (st' := [.int (nI 2), .ref 20]) (h' := h) (cs := []) [.iconst 2] (by decide +kernel) rfl rfl trivial ?_
      refine z_goto hC (off := 15) 43 (by decide +kernel) (by decide) ?_
      refine z_less (ls' := [some (.ref 20), some (.int x), some (.int y), none, none]) (by simp [z_sub]) ?_
      exact P43  x y (nI 2) h T E
  · skip
    have E := (if_pos c14).symm.trans E
    have T := T.1 c14
    refine z_go hC (pc' := 14) (ls' := [some (.ref 20), some (.int x), some (.int y), some (.int (fv_X8_in x (nI 0) (nI 11))), none]) (st' := [.int (nI 1), .ref 20]) (h' := h) (cs := []) [.iconst 1] (by decide +kernel) rfl rfl trivial ?_
    refine z_goto hC (off := 29) 43 (by decide +kernel) (by decide) ?_
    refine z_less (ls' := [some (.ref 20), some (.int x), some (.int y), none, none]) (by simp [z_sub]) ?_
    exact P43  x y (nI 1) h T E

def fn_X8_isWall_13  (a1 : Int32) (s0 : Int32) (h : z_H) : z_R := if (fv_X8_goesWell h s0) = 0 then (some (.int (nI 0)), fh_X8_goesWell h s0) else if ((fh_X8_goesWell h s0).1 21 ((fv_X8_blockOf a1).toNatClampNeg)) = 0 then (some (.int (nI 0)), fh_X8_goesWell h s0) else (some (.int (nI 1)), fh_X8_goesWell h s0)
def tk_X8_isWall_13  (a1 : Int32) (s0 : Int32) (h : z_H) : Prop := (((fv_X8_goesWell h s0) = 0) → (True)) ∧ ((¬ (fv_X8_goesWell h s0) = 0) → (vp_in (fv_X8_blockOf a1) 9))
def fn_X8_isWall (x : Int32) (h : z_H) : z_R := if (fv_X8_isCell x) = 0 then fn_X8_isWall_13 x (nI 1) h else fn_X8_isWall_13 x (nI 0) h
def tk_X8_isWall (x : Int32) (h : z_H) : Prop := (((fv_X8_isCell x) = 0) → (tk_X8_isWall_13 x (nI 1) h)) ∧ ((¬ (fv_X8_isCell x) = 0) → (tk_X8_isWall_13 x (nI 0) h))
set_option maxHeartbeats 4000000 in
set_option maxRecDepth 100000 in
theorem sp_X8_isWall (l : Launch) (ext : z_Sh)  (h : z_H) (x : Int32)  (T : tk_X8_isWall x h) : z_Sp l 2 yX8_isWall cX8_isWall 2 (some .boolean) [.ref 20, .int x] (z_m ext) h (z_PB (fn_X8_isWall x h)) := by
  refine z_enter ft_X8 (by decide +kernel) fo_X8 (Nat.le_of_ble_eq_true rfl) ?_
  intro p e R s m args below meth c D dA ad hB
  have hC := hB.1
  have hN := hB.2.1
  have hR := hB.2.2.1
  unfold tk_X8_isWall at T; have E : (if (fv_X8_isCell x) = 0 then fn_X8_isWall_13 x (nI 1) h else fn_X8_isWall_13 x (nI 0) h) = fn_X8_isWall x h := rfl
  generalize fn_X8_isWall x h = RR at E ⊢
  have P13 : ∀ (a1 : Int32) (s0 : Int32) (h : z_H), tk_X8_isWall_13  a1 s0 h → fn_X8_isWall_13  a1 s0 h = RR → z_G p l e R s m args below meth c D dA ad 2 (z_PB RR) (z_m ext) 13 [some (.ref 20), some (.int a1)] [.int s0, .ref 20] h := by
    intro  a1 s0 h T E
    unfold tk_X8_isWall_13 at T; unfold fn_X8_isWall_13 at E
    refine z_callV hC hN hR (as := [.int s0]) (rest := []) ok_X8_98 (by decide +kernel) (sp_X8_goesWell l _ h s0) rfl rfl (Nat.le_of_ble_eq_true rfl) rfl rfl (Nat.le_of_ble_eq_true rfl) ⟨Nat.zero_le _, Nat.zero_le _⟩ (fun r1 h2 q3 => z_fun q3 ?_)
    refine z_if_eq hC (off := 19) 35 (by decide +kernel) (by decide) (fun c4 => ?_) (fun c4 => ?_)
    · skip
      have E := (if_pos c4).symm.trans E
      have T := T.1 c4
      refine z_go hC (pc' := 36) (ls' := [some (.ref 20), some (.int a1)]) (st' := [.int (nI 0)]) (h' := fh_X8_goesWell h s0) (cs := []) [.iconst 0] (by decide +kernel) rfl rfl trivial ?_
      exact z_ret_z hB rfl (show (nI 0 = 0 ∨ nI 0 = 1) by decide) (by decide +kernel) (z_lfb (show (nI 0 = 0 ∨ nI 0 = 1) by decide) E)
    · skip
      have E := (if_neg c4).symm.trans E
      have T := T.2 c4
      refine z_go hC (pc' := 24) (ls' := [some (.ref 20), some (.int a1)]) (st' := [.int a1, .ref 21]) (h' := fh_X8_goesWell h s0) (cs := []) [.aload_n 0, .getfield 7, .iload_n 1] (by decide +kernel) rfl rfl trivial ?_
      refine z_callS hC hN hR (as := [.int a1]) (rest := [.ref 21]) ok_X8_71 (by decide +kernel) (sp_X8_blockOf l _ (fh_X8_goesWell h s0) a1) (Nat.le_of_ble_eq_true rfl) rfl rfl (Nat.le_of_ble_eq_true rfl) ⟨Nat.zero_le _, Nat.zero_le _⟩ (fun r5 h6 q7 => z_fun q7 ?_)
      have t8 := T
      refine z_go hC (pc' := 28) (ls' := [some (.ref 20), some (.int a1)]) (st' := [.int ((fh_X8_goesWell h s0).1 21 ((fv_X8_blockOf a1).toNatClampNeg))]) (h' := fh_X8_goesWell h s0) (cs := [vp_in (fv_X8_blockOf a1) 9]) [.baload] (by decide +kernel) rfl rfl t8 ?_
      refine z_if_eq hC (off := 7) 35 (by decide +kernel) (by decide) (fun c9 => ?_) (fun c9 => ?_)
      · skip
        have E := (if_pos c9).symm.trans E
        refine z_go hC (pc' := 36) (ls' := [some (.ref 20), some (.int a1)]) (st' := [.int (nI 0)]) (h' := fh_X8_goesWell h s0) (cs := []) [.iconst 0] (by decide +kernel) rfl rfl trivial ?_
        exact z_ret_z hB rfl (show (nI 0 = 0 ∨ nI 0 = 1) by decide) (by decide +kernel) (z_lfb (show (nI 0 = 0 ∨ nI 0 = 1) by decide) E)
      · skip
        have E := (if_neg c9).symm.trans E
        refine z_go hC (pc' := 32) (ls' := [some (.ref 20), some (.int a1)]) (st' := [.int (nI 1)]) (h' := fh_X8_goesWell h s0) (cs := []) [.iconst 1] (by decide +kernel) rfl rfl trivial ?_
        refine z_goto hC (off := 4) 36 (by decide +kernel) (by decide) ?_
        exact z_ret_z hB rfl (show (nI 1 = 0 ∨ nI 1 = 1) by decide) (by decide +kernel) (z_lfb (show (nI 1 = 0 ∨ nI 1 = 1) by decide) E)
  refine z_go hC (pc' := 2) (ls' := [some (.ref 20), some (.int x)]) (st' := [.int x, .ref 20]) (h' := h) (cs := []) [.aload_n 0, .iload_n 1] (by decide +kernel) rfl rfl trivial ?_
  refine z_callS hC hN hR (as := [.int x]) (rest := [.ref 20]) ok_X8_102 (by decide +kernel) (sp_X8_isCell l _ h x) (Nat.le_of_ble_eq_true rfl) rfl rfl (Nat.le_of_ble_eq_true rfl) ⟨Nat.zero_le _, Nat.zero_le _⟩ (fun r10 h11 q12 => z_fun q12 ?_)
  refine z_if_eq hC (off := 7) 12 (by decide +kernel) (by decide) (fun c13 => ?_) (fun c13 => ?_)
  · skip
    have E := (if_pos c13).symm.trans E
    have T := T.1 c13
    refine z_go hC (pc' := 13) (ls' := [some (.ref 20), some (.int x)]) (st' := [.int (nI 1), .ref 20]) (h' := h) (cs := []) [.iconst 1] (by decide +kernel) rfl rfl trivial ?_
    exact P13  x (nI 1) h T E
  · skip
    have E := (if_neg c13).symm.trans E
    have T := T.2 c13
    refine z_go hC (pc' := 9) (ls' := [some (.ref 20), some (.int x)]) (st' := [.int (nI 0), .ref 20]) (h' := h) (cs := []) [.iconst 0] (by decide +kernel) rfl rfl trivial ?_
    refine z_goto hC (off := 4) 13 (by decide +kernel) (by decide) ?_
    exact P13  x (nI 0) h T E

def fn_X8_isInTree_16  (a1 : Int32) (s0 : Int32) (h : z_H) : z_R := if (fv_X8_goesWell h s0) = 0 then (some (.int (nI 0)), fh_X8_goesWell h s0) else if ((fh_X8_goesWell h s0).1 23 a1.toNatClampNeg) = 0 then (some (.int (nI 0)), fh_X8_goesWell h s0) else (some (.int (nI 1)), fh_X8_goesWell h s0)
def tk_X8_isInTree_16  (a1 : Int32) (s0 : Int32) (h : z_H) : Prop := (((fv_X8_goesWell h s0) = 0) → (True)) ∧ ((¬ (fv_X8_goesWell h s0) = 0) → (vp_in a1 12))
def fn_X8_isInTree (x : Int32) (h : z_H) : z_R := if (fv_X8_in x (nI 0) (nI 11)) = 0 then fn_X8_isInTree_16 x (nI 1) h else fn_X8_isInTree_16 x (nI 0) h
def tk_X8_isInTree (x : Int32) (h : z_H) : Prop := (((fv_X8_in x (nI 0) (nI 11)) = 0) → (tk_X8_isInTree_16 x (nI 1) h)) ∧ ((¬ (fv_X8_in x (nI 0) (nI 11)) = 0) → (tk_X8_isInTree_16 x (nI 0) h))
set_option maxHeartbeats 4000000 in
set_option maxRecDepth 100000 in
theorem sp_X8_isInTree (l : Launch) (ext : z_Sh)  (h : z_H) (x : Int32)  (T : tk_X8_isInTree x h) : z_Sp l 1 yX8_isInTree cX8_isInTree 2 (some .boolean) [.ref 20, .int x] (z_m ext) h (z_PB (fn_X8_isInTree x h)) := by
  refine z_enter ft_X8 (by decide +kernel) fo_X8 (Nat.le_of_ble_eq_true rfl) ?_
  intro p e R s m args below meth c D dA ad hB
  have hC := hB.1
  have hN := hB.2.1
  have hR := hB.2.2.1
  unfold tk_X8_isInTree at T; have E : (if (fv_X8_in x (nI 0) (nI 11)) = 0 then fn_X8_isInTree_16 x (nI 1) h else fn_X8_isInTree_16 x (nI 0) h) = fn_X8_isInTree x h := rfl
  generalize fn_X8_isInTree x h = RR at E ⊢
  have P16 : ∀ (a1 : Int32) (s0 : Int32) (h : z_H), tk_X8_isInTree_16  a1 s0 h → fn_X8_isInTree_16  a1 s0 h = RR → z_G p l e R s m args below meth c D dA ad 2 (z_PB RR) (z_m ext) 16 [some (.ref 20), some (.int a1)] [.int s0, .ref 20] h := by
    intro  a1 s0 h T E
    unfold tk_X8_isInTree_16 at T; unfold fn_X8_isInTree_16 at E
    refine z_callV hC hN hR (as := [.int s0]) (rest := []) ok_X8_98 (by decide +kernel) (sp_X8_goesWell l _ h s0) rfl rfl (Nat.le_of_ble_eq_true rfl) rfl rfl (Nat.le_of_ble_eq_true rfl) ⟨Nat.zero_le _, Nat.zero_le _⟩ (fun r1 h2 q3 => z_fun q3 ?_)
    refine z_if_eq hC (off := 16) 35 (by decide +kernel) (by decide) (fun c4 => ?_) (fun c4 => ?_)
    · skip
      have E := (if_pos c4).symm.trans E
      have T := T.1 c4
      refine z_go hC (pc' := 36) (ls' := [some (.ref 20), some (.int a1)]) (st' := [.int (nI 0)]) (h' := fh_X8_goesWell h s0) (cs := []) [.iconst 0] (by decide +kernel) rfl rfl trivial ?_
      exact z_ret_z hB rfl (show (nI 0 = 0 ∨ nI 0 = 1) by decide) (by decide +kernel) (z_lfb (show (nI 0 = 0 ∨ nI 0 = 1) by decide) E)
    · skip
      have E := (if_neg c4).symm.trans E
      have T := T.2 c4
      have t5 := T
      refine z_go hC (pc' := 28) (ls' := [some (.ref 20), some (.int a1)]) (st' := [.int ((fh_X8_goesWell h s0).1 23 a1.toNatClampNeg)]) (h' := fh_X8_goesWell h s0) (cs := [vp_in a1 12]) [.aload_n 0, .getfield 17, .iload_n 1, .baload] (by decide +kernel) rfl rfl t5 ?_
      refine z_if_eq hC (off := 7) 35 (by decide +kernel) (by decide) (fun c6 => ?_) (fun c6 => ?_)
      · skip
        have E := (if_pos c6).symm.trans E
        refine z_go hC (pc' := 36) (ls' := [some (.ref 20), some (.int a1)]) (st' := [.int (nI 0)]) (h' := fh_X8_goesWell h s0) (cs := []) [.iconst 0] (by decide +kernel) rfl rfl trivial ?_
        exact z_ret_z hB rfl (show (nI 0 = 0 ∨ nI 0 = 1) by decide) (by decide +kernel) (z_lfb (show (nI 0 = 0 ∨ nI 0 = 1) by decide) E)
      · skip
        have E := (if_neg c6).symm.trans E
        refine z_go hC (pc' := 32) (ls' := [some (.ref 20), some (.int a1)]) (st' := [.int (nI 1)]) (h' := fh_X8_goesWell h s0) (cs := []) [.iconst 1] (by decide +kernel) rfl rfl trivial ?_
        refine z_goto hC (off := 4) 36 (by decide +kernel) (by decide) ?_
        exact z_ret_z hB rfl (show (nI 1 = 0 ∨ nI 1 = 1) by decide) (by decide +kernel) (z_lfb (show (nI 1 = 0 ∨ nI 1 = 1) by decide) E)
  refine z_go hC (pc' := 5) (ls' := [some (.ref 20), some (.int x)]) (st' := [.int (nI 11), .int (nI 0), .int x, .ref 20]) (h' := h) (cs := []) [.aload_n 0, .iload_n 1, .iconst 0, .bipush 11] (by decide +kernel) rfl rfl trivial ?_
  refine z_callS hC hN hR (as := [.int x, .int (nI 0), .int (nI 11)]) (rest := [.ref 20]) ok_X8_87 (by decide +kernel) (sp_X8_in l _ h x (nI 0) (nI 11)) (Nat.le_of_ble_eq_true rfl) rfl rfl (Nat.le_of_ble_eq_true rfl) ⟨Nat.zero_le _, Nat.zero_le _⟩ (fun r7 h8 q9 => z_fun q9 ?_)
  refine z_if_eq hC (off := 7) 15 (by decide +kernel) (by decide) (fun c10 => ?_) (fun c10 => ?_)
  · skip
    have E := (if_pos c10).symm.trans E
    have T := T.1 c10
    refine z_go hC (pc' := 16) (ls' := [some (.ref 20), some (.int x)]) (st' := [.int (nI 1), .ref 20]) (h' := h) (cs := []) [.iconst 1] (by decide +kernel) rfl rfl trivial ?_
    exact P16  x (nI 1) h T E
  · skip
    have E := (if_neg c10).symm.trans E
    have T := T.2 c10
    refine z_go hC (pc' := 12) (ls' := [some (.ref 20), some (.int x)]) (st' := [.int (nI 0), .ref 20]) (h' := h) (cs := []) [.iconst 0] (by decide +kernel) rfl rfl trivial ?_
    refine z_goto hC (off := 4) 16 (by decide +kernel) (by decide) ?_
    exact P16  x (nI 0) h T E

def fv_X8_hasCycle (h : z_H)  : Int32 := if (h.1 20 7) ≤ 0 then nI 0 else nI 1
def fh_X8_hasCycle (h : z_H)  : z_H := if (h.1 20 7) ≤ 0 then z_set h 20 0 (nI 0) else z_set h 20 0 (nI 0)
theorem zb_X8_hasCycle (h : z_H)  : fv_X8_hasCycle h  = 0 ∨ fv_X8_hasCycle h  = 1 := by unfold fv_X8_hasCycle; (repeat' split) <;> first | decide
set_option maxHeartbeats 4000000 in
set_option maxRecDepth 100000 in
theorem sp_X8_hasCycle (l : Launch) (ext : z_Sh) (h : z_H)   : z_Sp l 0 yX8_hasCycle cX8_hasCycle 1 (some .boolean) [.ref 20] (z_m ext) h (fun rv h' => rv = some (.int (fv_X8_hasCycle h )) ∧ h' = fh_X8_hasCycle h ) := by
  refine z_enter ft_X8 (by decide +kernel) fo_X8 (Nat.le_of_ble_eq_true rfl) ?_
  intro p e R s m args below meth c D dA ad hB
  have hC := hB.1
  have hN := hB.2.1
  have hR := hB.2.2.1
  refine z_go hC (pc' := 9) (ls' := [some (.ref 20)]) (st' := [.int (h.1 20 7)]) (h' := z_set h 20 0 (nI 0)) (cs := []) [.aload_n 0, .iconst 0, .putfield 56, .aload_n 0, .getfield 81] (by decide +kernel) rfl rfl trivial ?_
  refine z_if_le hC (off := 7) 16 (by decide +kernel) (by decide) (fun c1 => ?_) (fun c1 => ?_)
  · skip
    refine z_go hC (pc' := 17) (ls' := [some (.ref 20)]) (st' := [.int (nI 0)]) (h' := z_set h 20 0 (nI 0)) (cs := []) [.iconst 0] (by decide +kernel) rfl rfl trivial ?_
    exact z_ret_z hB rfl (by decide) (by decide +kernel) ⟨by rw [fv_X8_hasCycle, if_pos c1], by rw [fh_X8_hasCycle, if_pos c1]⟩
  · skip
    refine z_go hC (pc' := 13) (ls' := [some (.ref 20)]) (st' := [.int (nI 1)]) (h' := z_set h 20 0 (nI 0)) (cs := []) [.iconst 1] (by decide +kernel) rfl rfl trivial ?_
    refine z_goto hC (off := 4) 17 (by decide +kernel) (by decide) ?_
    exact z_ret_z hB rfl (by decide) (by decide +kernel) ⟨by rw [fv_X8_hasCycle, if_neg c1], by rw [fh_X8_hasCycle, if_neg c1]⟩

def fn_X8_placeOf_24  (a1 : Int32) (s0 : Int32) (h : z_H) : z_R := if (fv_X8_goesWell h s0) = 0 then (some (.int (nI 0)), fh_X8_goesWell h s0) else (some (.int ((fh_X8_goesWell h s0).1 25 a1.toNatClampNeg)), fh_X8_goesWell h s0)
def tk_X8_placeOf_24  (a1 : Int32) (s0 : Int32) (h : z_H) : Prop := (((fv_X8_goesWell h s0) = 0) → (True)) ∧ ((¬ (fv_X8_goesWell h s0) = 0) → (vp_in a1 36))
def fn_X8_placeOf (x : Int32) (h : z_H) : z_R := if (fv_X8_isCell x) = 0 then fn_X8_placeOf_24 x (nI 1) h else if (h.1 20 7) = 0 then fn_X8_placeOf_24 x (nI 2) h else fn_X8_placeOf_24 x (nI 0) h
def tk_X8_placeOf (x : Int32) (h : z_H) : Prop := (((fv_X8_isCell x) = 0) → (tk_X8_placeOf_24 x (nI 1) h)) ∧ ((¬ (fv_X8_isCell x) = 0) → ((((h.1 20 7) = 0) → (tk_X8_placeOf_24 x (nI 2) h)) ∧ ((¬ (h.1 20 7) = 0) → (tk_X8_placeOf_24 x (nI 0) h))))
set_option maxHeartbeats 4000000 in
set_option maxRecDepth 100000 in
theorem sp_X8_placeOf (l : Launch) (ext : z_Sh)  (h : z_H) (x : Int32)  (T : tk_X8_placeOf x h) : z_Sp l 2 yX8_placeOf cX8_placeOf 2 (some .int) [.ref 20, .int x] (z_m ext) h (z_PI (fn_X8_placeOf x h)) := by
  refine z_enter ft_X8 (by decide +kernel) fo_X8 (Nat.le_of_ble_eq_true rfl) ?_
  intro p e R s m args below meth c D dA ad hB
  have hC := hB.1
  have hN := hB.2.1
  have hR := hB.2.2.1
  unfold tk_X8_placeOf at T; have E : (if (fv_X8_isCell x) = 0 then fn_X8_placeOf_24 x (nI 1) h else if (h.1 20 7) = 0 then fn_X8_placeOf_24 x (nI 2) h else fn_X8_placeOf_24 x (nI 0) h) = fn_X8_placeOf x h := rfl
  generalize fn_X8_placeOf x h = RR at E ⊢
  have P24 : ∀ (a1 : Int32) (s0 : Int32) (h : z_H), tk_X8_placeOf_24  a1 s0 h → fn_X8_placeOf_24  a1 s0 h = RR → z_G p l e R s m args below meth c D dA ad 2 (z_PI RR) (z_m ext) 24 [some (.ref 20), some (.int a1)] [.int s0, .ref 20] h := by
    intro  a1 s0 h T E
    unfold tk_X8_placeOf_24 at T; unfold fn_X8_placeOf_24 at E
    refine z_callV hC hN hR (as := [.int s0]) (rest := []) ok_X8_98 (by decide +kernel) (sp_X8_goesWell l _ h s0) rfl rfl (Nat.le_of_ble_eq_true rfl) rfl rfl (Nat.le_of_ble_eq_true rfl) ⟨Nat.zero_le _, Nat.zero_le _⟩ (fun r1 h2 q3 => z_fun q3 ?_)
    refine z_if_eq hC (off := 12) 39 (by decide +kernel) (by decide) (fun c4 => ?_) (fun c4 => ?_)
    · skip
      have E := (if_pos c4).symm.trans E
      have T := T.1 c4
      refine z_go hC (pc' := 40) (ls' := [some (.ref 20), some (.int a1)]) (st' := [.int (nI 0)]) (h' := fh_X8_goesWell h s0) (cs := []) [.iconst 0] (by decide +kernel) rfl rfl trivial ?_
      exact z_ret_i hB rfl (by decide +kernel) (z_lfi E)
    · skip
      have E := (if_neg c4).symm.trans E
      have T := T.2 c4
      have t5 := T
      refine z_go hC (pc' := 36) (ls' := [some (.ref 20), some (.int a1)]) (st' := [.int ((fh_X8_goesWell h s0).1 25 a1.toNatClampNeg)]) (h' := fh_X8_goesWell h s0) (cs := [vp_in a1 36]) [.aload_n 0, .getfield 23, .iload_n 1, .iaload] (by decide +kernel) rfl rfl t5 ?_
      refine z_goto hC (off := 4) 40 (by decide +kernel) (by decide) ?_
      exact z_ret_i hB rfl (by decide +kernel) (z_lfi E)
  refine z_go hC (pc' := 2) (ls' := [some (.ref 20), some (.int x)]) (st' := [.int x, .ref 20]) (h' := h) (cs := []) [.aload_n 0, .iload_n 1] (by decide +kernel) rfl rfl trivial ?_
  refine z_callS hC hN hR (as := [.int x]) (rest := [.ref 20]) ok_X8_102 (by decide +kernel) (sp_X8_isCell l _ h x) (Nat.le_of_ble_eq_true rfl) rfl rfl (Nat.le_of_ble_eq_true rfl) ⟨Nat.zero_le _, Nat.zero_le _⟩ (fun r6 h7 q8 => z_fun q8 ?_)
  refine z_if_ne hC (off := 7) 12 (by decide +kernel) (by decide) (fun c9 => ?_) (fun c9 => ?_)
  · skip
    have E := (if_neg c9).symm.trans E
    have T := T.2 c9
    refine z_go hC (pc' := 16) (ls' := [some (.ref 20), some (.int x)]) (st' := [.int (h.1 20 7), .ref 20]) (h' := h) (cs := []) [.aload_n 0, .getfield 81] (by decide +kernel) rfl rfl trivial ?_
    refine z_if_ne hC (off := 7) 23 (by decide +kernel) (by decide) (fun c10 => ?_) (fun c10 => ?_)
    · skip
      have E := (if_neg c10).symm.trans E
      have T := T.2 c10
      refine z_go hC (pc' := 24) (ls' := [some (.ref 20), some (.int x)]) (st' := [.int (nI 0), .ref 20]) (h' := h) (cs := []) [.iconst 0] (by decide +kernel) rfl rfl trivial ?_
      exact P24  x (nI 0) h T E
    · skip
      have E := (if_pos c10).symm.trans E
      have T := T.1 c10
      refine z_go hC (pc' := 20) (ls' := [some (.ref 20), some (.int x)]) (st' := [.int (nI 2), .ref 20]) (h' := h) (cs := []) [.iconst 2] (by decide +kernel) rfl rfl trivial ?_
      refine z_goto hC (off := 4) 24 (by decide +kernel) (by decide) ?_
      exact P24  x (nI 2) h T E
  · skip
    have E := (if_pos c9).symm.trans E
    have T := T.1 c9
    refine z_go hC (pc' := 9) (ls' := [some (.ref 20), some (.int x)]) (st' := [.int (nI 1), .ref 20]) (h' := h) (cs := []) [.iconst 1] (by decide +kernel) rfl rfl trivial ?_
    refine z_goto hC (off := 15) 24 (by decide +kernel) (by decide) ?_
    exact P24  x (nI 1) h T E

def fn_X8_cellAtByRings_31  (a1 : Int32) (s0 : Int32) (h : z_H) : z_R := if (fv_X8_goesWell h s0) = 0 then (some (.int (nI 0)), fh_X8_goesWell h s0) else (some (.int ((fh_X8_goesWell h s0).1 26 a1.toNatClampNeg)), fh_X8_goesWell h s0)
def tk_X8_cellAtByRings_31  (a1 : Int32) (s0 : Int32) (h : z_H) : Prop := (((fv_X8_goesWell h s0) = 0) → (True)) ∧ ((¬ (fv_X8_goesWell h s0) = 0) → (vp_in a1 36))
def fn_X8_cellAtByRings (x : Int32) (h : z_H) : z_R := if (h.1 20 7) = 0 then fn_X8_cellAtByRings_31 x (nI 1) h else if (fv_X8_in x (nI 0) ((h.1 20 7) - (nI 1))) = 0 then fn_X8_cellAtByRings_31 x (nI 2) h else fn_X8_cellAtByRings_31 x (nI 0) h
def tk_X8_cellAtByRings (x : Int32) (h : z_H) : Prop := (((h.1 20 7) = 0) → (tk_X8_cellAtByRings_31 x (nI 1) h)) ∧ ((¬ (h.1 20 7) = 0) → ((((fv_X8_in x (nI 0) ((h.1 20 7) - (nI 1))) = 0) → (tk_X8_cellAtByRings_31 x (nI 2) h)) ∧ ((¬ (fv_X8_in x (nI 0) ((h.1 20 7) - (nI 1))) = 0) → (tk_X8_cellAtByRings_31 x (nI 0) h))))
set_option maxHeartbeats 4000000 in
set_option maxRecDepth 100000 in
theorem sp_X8_cellAtByRings (l : Launch) (ext : z_Sh)  (h : z_H) (x : Int32)  (T : tk_X8_cellAtByRings x h) : z_Sp l 1 yX8_cellAtByRings cX8_cellAtByRings 2 (some .int) [.ref 20, .int x] (z_m ext) h (z_PI (fn_X8_cellAtByRings x h)) := by
  refine z_enter ft_X8 (by decide +kernel) fo_X8 (Nat.le_of_ble_eq_true rfl) ?_
  intro p e R s m args below meth c D dA ad hB
  have hC := hB.1
  have hN := hB.2.1
  have hR := hB.2.2.1
  unfold tk_X8_cellAtByRings at T; have E : (if (h.1 20 7) = 0 then fn_X8_cellAtByRings_31 x (nI 1) h else if (fv_X8_in x (nI 0) ((h.1 20 7) - (nI 1))) = 0 then fn_X8_cellAtByRings_31 x (nI 2) h else fn_X8_cellAtByRings_31 x (nI 0) h) = fn_X8_cellAtByRings x h := rfl
  generalize fn_X8_cellAtByRings x h = RR at E ⊢
  have P31 : ∀ (a1 : Int32) (s0 : Int32) (h : z_H), tk_X8_cellAtByRings_31  a1 s0 h → fn_X8_cellAtByRings_31  a1 s0 h = RR → z_G p l e R s m args below meth c D dA ad 2 (z_PI RR) (z_m ext) 31 [some (.ref 20), some (.int a1)] [.int s0, .ref 20] h := by
    intro  a1 s0 h T E
    unfold tk_X8_cellAtByRings_31 at T; unfold fn_X8_cellAtByRings_31 at E
    refine z_callV hC hN hR (as := [.int s0]) (rest := []) ok_X8_98 (by decide +kernel) (sp_X8_goesWell l _ h s0) rfl rfl (Nat.le_of_ble_eq_true rfl) rfl rfl (Nat.le_of_ble_eq_true rfl) ⟨Nat.zero_le _, Nat.zero_le _⟩ (fun r1 h2 q3 => z_fun q3 ?_)
    refine z_if_eq hC (off := 12) 46 (by decide +kernel) (by decide) (fun c4 => ?_) (fun c4 => ?_)
    · skip
      have E := (if_pos c4).symm.trans E
      have T := T.1 c4
      refine z_go hC (pc' := 47) (ls' := [some (.ref 20), some (.int a1)]) (st' := [.int (nI 0)]) (h' := fh_X8_goesWell h s0) (cs := []) [.iconst 0] (by decide +kernel) rfl rfl trivial ?_
      exact z_ret_i hB rfl (by decide +kernel) (z_lfi E)
    · skip
      have E := (if_neg c4).symm.trans E
      have T := T.2 c4
      have t5 := T
      refine z_go hC (pc' := 43) (ls' := [some (.ref 20), some (.int a1)]) (st' := [.int ((fh_X8_goesWell h s0).1 26 a1.toNatClampNeg)]) (h' := fh_X8_goesWell h s0) (cs := [vp_in a1 36]) [.aload_n 0, .getfield 26, .iload_n 1, .iaload] (by decide +kernel) rfl rfl t5 ?_
      refine z_goto hC (off := 4) 47 (by decide +kernel) (by decide) ?_
      exact z_ret_i hB rfl (by decide +kernel) (z_lfi E)
  refine z_go hC (pc' := 5) (ls' := [some (.ref 20), some (.int x)]) (st' := [.int (h.1 20 7), .ref 20]) (h' := h) (cs := []) [.aload_n 0, .aload_n 0, .getfield 81] (by decide +kernel) rfl rfl trivial ?_
  refine z_if_ne hC (off := 7) 12 (by decide +kernel) (by decide) (fun c6 => ?_) (fun c6 => ?_)
  · skip
    have E := (if_neg c6).symm.trans E
    have T := T.2 c6
    refine z_go hC (pc' := 20) (ls' := [some (.ref 20), some (.int x)]) (st' := [.int ((h.1 20 7) - (nI 1)), .int (nI 0), .int x, .ref 20]) (h' := h) (cs := []) [.iload_n 1, .iconst 0, .aload_n 0, .getfield 81, .iconst 1, .isub] (by decide +kernel) rfl rfl trivial ?_
    refine z_callS hC hN hR (as := [.int x, .int (nI 0), .int ((h.1 20 7) - (nI 1))]) (rest := [.ref 20]) ok_X8_87 (by decide +kernel) (sp_X8_in l _ h x (nI 0) ((h.1 20 7) - (nI 1))) (Nat.le_of_ble_eq_true rfl) rfl rfl (Nat.le_of_ble_eq_true rfl) ⟨Nat.zero_le _, Nat.zero_le _⟩ (fun r7 h8 q9 => z_fun q9 ?_)
    refine z_if_eq hC (off := 7) 30 (by decide +kernel) (by decide) (fun c10 => ?_) (fun c10 => ?_)
    · skip
      have E := (if_pos c10).symm.trans E
      have T := T.1 c10
      refine z_go hC (pc' := 31) (ls' := [some (.ref 20), some (.int x)]) (st' := [.int (nI 2), .ref 20]) (h' := h) (cs := []) [.iconst 2] (by decide +kernel) rfl rfl trivial ?_
      exact P31  x (nI 2) h T E
    · skip
      have E := (if_neg c10).symm.trans E
      have T := T.2 c10
      refine z_go hC (pc' := 27) (ls' := [some (.ref 20), some (.int x)]) (st' := [.int (nI 0), .ref 20]) (h' := h) (cs := []) [.iconst 0] (by decide +kernel) rfl rfl trivial ?_
      refine z_goto hC (off := 4) 31 (by decide +kernel) (by decide) ?_
      exact P31  x (nI 0) h T E
  · skip
    have E := (if_pos c6).symm.trans E
    have T := T.1 c6
    refine z_go hC (pc' := 9) (ls' := [some (.ref 20), some (.int x)]) (st' := [.int (nI 1), .ref 20]) (h' := h) (cs := []) [.iconst 1] (by decide +kernel) rfl rfl trivial ?_
    refine z_goto hC (off := 22) 31 (by decide +kernel) (by decide) ?_
    exact P31  x (nI 1) h T E

def fn_X8_cellAt (x : Int32) (h : z_H) : z_R := (some (.int (z_vi (fn_X8_cellAtByRings x h))), (fn_X8_cellAtByRings x h).2)
def tk_X8_cellAt (x : Int32) (h : z_H) : Prop := tk_X8_cellAtByRings x h
set_option maxHeartbeats 4000000 in
set_option maxRecDepth 100000 in
theorem sp_X8_cellAt (l : Launch) (ext : z_Sh)  (h : z_H) (x : Int32)  (T : tk_X8_cellAt x h) : z_Sp l 2 yX8_cellAt cX8_cellAt 2 (some .int) [.ref 20, .int x] (z_m ext) h (z_PI (fn_X8_cellAt x h)) := by
  refine z_enter ft_X8 (by decide +kernel) fo_X8 (Nat.le_of_ble_eq_true rfl) ?_
  intro p e R s m args below meth c D dA ad hB
  have hC := hB.1
  have hN := hB.2.1
  have hR := hB.2.2.1
  unfold tk_X8_cellAt at T; have E : ((some (.int (z_vi (fn_X8_cellAtByRings x h))), (fn_X8_cellAtByRings x h).2)) = fn_X8_cellAt x h := rfl
  generalize fn_X8_cellAt x h = RR at E ⊢
  refine z_go hC (pc' := 2) (ls' := [some (.ref 20), some (.int x)]) (st' := [.int x, .ref 20]) (h' := h) (cs := []) [.aload_n 0, .iload_n 1] (by decide +kernel) rfl rfl trivial ?_
  have t4 := T
  refine z_callV hC hN hR (as := [.int x]) (rest := []) ok_X8_105 (by decide +kernel) (sp_X8_cellAtByRings l _ h x t4) rfl rfl (Nat.le_of_ble_eq_true rfl) rfl rfl (Nat.le_of_ble_eq_true rfl) ⟨Nat.zero_le _, Nat.zero_le _⟩ (fun r1 h2 q3 => z_fun q3 ?_)
  exact z_ret_i hB rfl (by decide +kernel) (z_lfi E)

def fn_X8_begin_67  (a1 : Int32) (a2 : Int32) (s0 : Int32) (h : z_H) : z_R := if (fv_X8_goesWell h s0) = 0 then (none, fh_X8_goesWell h s0) else (none, z_set (z_set (z_set (z_set (z_set (fh_X8_goesWell h s0) 20 10 (nI 1)) 20 11 (nI 0)) 20 12 (nI 1)) 28 ((nI 0).toNatClampNeg) a1) 20 13 a2)
def tk_X8_begin_67  (a1 : Int32) (a2 : Int32) (s0 : Int32) (h : z_H) : Prop := True
def fn_X8_begin_31  (a1 : Int32) (a2 : Int32) (s0 : Int32) (h : z_H) : z_R := if (fv_X8_isCell a1) = 0 then fn_X8_begin_67 a1 a2 (nI 1) h else if (fv_X8_in a2 (nI 0) (nI 20)) = 0 then fn_X8_begin_67 a1 a2 (nI 2) h else if s0 = 0 then fn_X8_begin_67 a1 a2 (nI 3) h else fn_X8_begin_67 a1 a2 (nI 0) h
def tk_X8_begin_31  (a1 : Int32) (a2 : Int32) (s0 : Int32) (h : z_H) : Prop := (((fv_X8_isCell a1) = 0) → (tk_X8_begin_67 a1 a2 (nI 1) h)) ∧ ((¬ (fv_X8_isCell a1) = 0) → ((((fv_X8_in a2 (nI 0) (nI 20)) = 0) → (tk_X8_begin_67 a1 a2 (nI 2) h)) ∧ ((¬ (fv_X8_in a2 (nI 0) (nI 20)) = 0) → (((s0 = 0) → (tk_X8_begin_67 a1 a2 (nI 3) h)) ∧ ((¬ s0 = 0) → (tk_X8_begin_67 a1 a2 (nI 0) h))))))
def fn_X8_begin_30  (a1 : Int32) (a2 : Int32) (h : z_H) : z_R := fn_X8_begin_31 a1 a2 (nI 0) h
def tk_X8_begin_30  (a1 : Int32) (a2 : Int32) (h : z_H) : Prop := tk_X8_begin_31 a1 a2 (nI 0) h
def fn_X8_begin (x : Int32) (y : Int32) (h : z_H) : z_R := if (fv_X8_isCell x) = 0 then fn_X8_begin_30 x y h else if (h.1 20 10) = 0 then if (h.1 21 ((fv_X8_blockOf x).toNatClampNeg)) = 0 then fn_X8_begin_31 x y (nI 1) h else fn_X8_begin_30 x y h else fn_X8_begin_30 x y h
def tk_X8_begin (x : Int32) (y : Int32) (h : z_H) : Prop := (((fv_X8_isCell x) = 0) → (tk_X8_begin_30 x y h)) ∧ ((¬ (fv_X8_isCell x) = 0) → ((((h.1 20 10) = 0) → (vp_in (fv_X8_blockOf x) 9 ∧ ((((h.1 21 ((fv_X8_blockOf x).toNatClampNeg)) = 0) → (tk_X8_begin_31 x y (nI 1) h)) ∧ ((¬ (h.1 21 ((fv_X8_blockOf x).toNatClampNeg)) = 0) → (tk_X8_begin_30 x y h))))) ∧ ((¬ (h.1 20 10) = 0) → (tk_X8_begin_30 x y h))))
set_option maxHeartbeats 4000000 in
set_option maxRecDepth 100000 in
theorem sp_X8_begin (l : Launch) (ext : z_Sh)  (h : z_H) (x : Int32) (y : Int32)  (T : tk_X8_begin x y h) : z_Sp l 2 yX8_begin cX8_begin 4 none [.ref 20, .int x, .int y] (z_m ext) h (z_PV (fn_X8_begin x y h)) := by
  refine z_enter ft_X8 (by decide +kernel) fo_X8 (Nat.le_of_ble_eq_true rfl) ?_
  intro p e R s m args below meth c D dA ad hB
  have hC := hB.1
  have hN := hB.2.1
  have hR := hB.2.2.1
  unfold tk_X8_begin at T; have E : (if (fv_X8_isCell x) = 0 then fn_X8_begin_30 x y h else if (h.1 20 10) = 0 then if (h.1 21 ((fv_X8_blockOf x).toNatClampNeg)) = 0 then fn_X8_begin_31 x y (nI 1) h else fn_X8_begin_30 x y h else fn_X8_begin_30 x y h) = fn_X8_begin x y h := rfl
  generalize fn_X8_begin x y h = RR at E ⊢
  have P67 : ∀ (a1 : Int32) (a2 : Int32) (s0 : Int32) (h : z_H), tk_X8_begin_67  a1 a2 s0 h → fn_X8_begin_67  a1 a2 s0 h = RR → z_G p l e R s m args below meth c D dA ad 4 (z_PV RR) (z_m ext) 67 [some (.ref 20), some (.int a1), some (.int a2), none] [.int s0, .ref 20] h := by
    intro  a1 a2 s0 h T E
    unfold tk_X8_begin_67 at T; unfold fn_X8_begin_67 at E
    refine z_callV hC hN hR (as := [.int s0]) (rest := []) ok_X8_98 (by decide +kernel) (sp_X8_goesWell l _ h s0) rfl rfl (Nat.le_of_ble_eq_true rfl) rfl rfl (Nat.le_of_ble_eq_true rfl) ⟨Nat.zero_le _, Nat.zero_le _⟩ (fun r1 h2 q3 => z_fun q3 ?_)
    refine z_if_eq hC (off := 30) 100 (by decide +kernel) (by decide) (fun c4 => ?_) (fun c4 => ?_)
    · skip
      have E := (if_pos c4).symm.trans E
      exact z_ret_v hB rfl (by decide +kernel) (z_lfv E)
    · skip
      have E := (if_neg c4).symm.trans E
      refine z_go hC (pc' := 100) (ls' := [some (.ref 20), some (.int a1), some (.int a2), none]) (st' := []) (h' := z_set (z_set (z_set (z_set (z_set (fh_X8_goesWell h s0) 20 10 (nI 1)) 20 11 (nI 0)) 20 12 (nI 1)) 28 ((nI 0).toNatClampNeg) a1) 20 13 a2) (cs := [(nI 1 = 0 ∨ nI 1 = 1), (nI 0 = 0 ∨ nI 0 = 1), vp_in (nI 0) 37]) [.aload_n 0, .iconst 1, .putfield 91, .aload_n 0, .iconst 0, .putfield 108, .aload_n 0, .iconst 1, .putfield 111, .aload_n 0, .getfield 32, .iconst 0, .iload_n 1, .iastore, .aload_n 0, .iload_n 2, .putfield 114] (by decide +kernel) rfl rfl ⟨(show (nI 1 = 0 ∨ nI 1 = 1) by decide), (show (nI 0 = 0 ∨ nI 0 = 1) by decide), (vp_in_nI (n := 0) (N := 37) (by decide) (by decide))⟩ ?_
      exact z_ret_v hB rfl (by decide +kernel) (z_lfv E)
  have P31 : ∀ (a1 : Int32) (a2 : Int32) (s0 : Int32) (h : z_H), tk_X8_begin_31  a1 a2 s0 h → fn_X8_begin_31  a1 a2 s0 h = RR → z_G p l e R s m args below meth c D dA ad 4 (z_PV RR) (z_m ext) 31 [some (.ref 20), some (.int a1), some (.int a2), none] [.int s0] h := by
    intro  a1 a2 s0 h T E
    unfold tk_X8_begin_31 at T; unfold fn_X8_begin_31 at E
    refine z_go hC (pc' := 34) (ls' := [some (.ref 20), some (.int a1), some (.int a2), some (.int s0)]) (st' := [.int a1, .ref 20]) (h' := h) (cs := []) [.istore_n 3, .aload_n 0, .iload_n 1] (by decide +kernel) rfl rfl trivial ?_
    refine z_callS hC hN hR (as := [.int a1]) (rest := [.ref 20]) ok_X8_102 (by decide +kernel) (sp_X8_isCell l _ h a1) (Nat.le_of_ble_eq_true rfl) rfl rfl (Nat.le_of_ble_eq_true rfl) ⟨Nat.zero_le _, Nat.zero_le _⟩ (fun r5 h6 q7 => z_fun q7 ?_)
    refine z_if_ne hC (off := 7) 44 (by decide +kernel) (by decide) (fun c8 => ?_) (fun c8 => ?_)
    · skip
      have E := (if_neg c8).symm.trans E
      have T := T.2 c8
      refine z_go hC (pc' := 48) (ls' := [some (.ref 20), some (.int a1), some (.int a2), some (.int s0)]) (st' := [.int (nI 20), .int (nI 0), .int a2, .ref 20]) (h' := h) (cs := []) [.iload_n 2, .iconst 0, .bipush 20] (by decide +kernel) rfl rfl trivial ?_
      refine z_callS hC hN hR (as := [.int a2, .int (nI 0), .int (nI 20)]) (rest := [.ref 20]) ok_X8_87 (by decide +kernel) (sp_X8_in l _ h a2 (nI 0) (nI 20)) (Nat.le_of_ble_eq_true rfl) rfl rfl (Nat.le_of_ble_eq_true rfl) ⟨Nat.zero_le _, Nat.zero_le _⟩ (fun r9 h10 q11 => z_fun q11 ?_)
      refine z_if_ne hC (off := 7) 58 (by decide +kernel) (by decide) (fun c12 => ?_) (fun c12 => ?_)
      · skip
        have E := (if_neg c12).symm.trans E
        have T := T.2 c12
        refine z_go hC (pc' := 59) (ls' := [some (.ref 20), some (.int a1), some (.int a2), some (.int s0)]) (st' := [.int s0, .ref 20]) (h' := h) (cs := []) [.iload_n 3] (by decide +kernel) rfl rfl trivial ?_
        refine z_if_eq hC (off := 7) 66 (by decide +kernel) (by decide) (fun c13 => ?_) (fun c13 => ?_)
        · skip
          have E := (if_pos c13).symm.trans E
          have T := T.1 c13
          refine z_go hC (pc' := 67) (ls' := [some (.ref 20), some (.int a1), some (.int a2), some (.int s0)]) (st' := [.int (nI 3), .ref 20]) (h' := h) (cs := []) [.iconst 3] (by decide +kernel) rfl rfl trivial ?_
          refine z_less (ls' := [some (.ref 20), some (.int a1), some (.int a2), none]) (by simp [z_sub]) ?_
          exact P67  a1 a2 (nI 3) h T E
        · skip
          have E := (if_neg c13).symm.trans E
          have T := T.2 c13
          refine z_go hC (pc' := 63) (ls' := [some (.ref 20), some (.int a1), some (.int a2), some (.int s0)]) (st' := [.int (nI 0), .ref 20]) (h' := h) (cs := []) [.iconst 0] (by decide +kernel) rfl rfl trivial ?_
          refine z_goto hC (off := 4) 67 (by decide +kernel) (by decide) ?_
          refine z_less (ls' := [some (.ref 20), some (.int a1), some (.int a2), none]) (by simp [z_sub]) ?_
          exact P67  a1 a2 (nI 0) h T E
      · skip
        have E := (if_pos c12).symm.trans E
        have T := T.1 c12
        refine z_go hC (pc' := 55) (ls' := [some (.ref 20), some (.int a1), some (.int a2), some (.int s0)]) (st' := [.int (nI 2), .ref 20]) (h' := h) (cs := []) [.iconst 2] (by decide +kernel) rfl rfl trivial ?_
        refine z_goto hC (off := 12) 67 (by decide +kernel) (by decide) ?_
        refine z_less (ls' := [some (.ref 20), some (.int a1), some (.int a2), none]) (by simp [z_sub]) ?_
        exact P67  a1 a2 (nI 2) h T E
    · skip
      have E := (if_pos c8).symm.trans E
      have T := T.1 c8
      refine z_go hC (pc' := 41) (ls' := [some (.ref 20), some (.int a1), some (.int a2), some (.int s0)]) (st' := [.int (nI 1), .ref 20]) (h' := h) (cs := []) [.iconst 1] (by decide +kernel) rfl rfl trivial ?_
      refine z_goto hC (off := 26) 67 (by decide +kernel) (by decide) ?_
      refine z_less (ls' := [some (.ref 20), some (.int a1), some (.int a2), none]) (by simp [z_sub]) ?_
      exact P67  a1 a2 (nI 1) h T E
  have P30 : ∀ (a1 : Int32) (a2 : Int32) (h : z_H), tk_X8_begin_30  a1 a2 h → fn_X8_begin_30  a1 a2 h = RR → z_G p l e R s m args below meth c D dA ad 4 (z_PV RR) (z_m ext) 30 [some (.ref 20), some (.int a1), some (.int a2), none] [] h := by
    intro  a1 a2 h T E
    unfold tk_X8_begin_30 at T; unfold fn_X8_begin_30 at E
    refine z_go hC (pc' := 31) (ls' := [some (.ref 20), some (.int a1), some (.int a2), none]) (st' := [.int (nI 0)]) (h' := h) (cs := []) [.iconst 0] (by decide +kernel) rfl rfl trivial ?_
    exact P31  a1 a2 (nI 0) h T E
  refine z_go hC (pc' := 1) (ls' := [some (.ref 20), some (.int x), some (.int y), none]) (st' := [.int x]) (h' := h) (cs := []) [.iload_n 1] (by decide +kernel) rfl rfl trivial ?_
  refine z_callS hC hN hR (as := [.int x]) (rest := []) ok_X8_102 (by decide +kernel) (sp_X8_isCell l _ h x) (Nat.le_of_ble_eq_true rfl) rfl rfl (Nat.le_of_ble_eq_true rfl) ⟨Nat.zero_le _, Nat.zero_le _⟩ (fun r14 h15 q16 => z_fun q16 ?_)
  refine z_if_eq hC (off := 26) 30 (by decide +kernel) (by decide) (fun c17 => ?_) (fun c17 => ?_)
  · skip
    have E := (if_pos c17).symm.trans E
    have T := T.1 c17
    exact P30  x y h T E
  · skip
    have E := (if_neg c17).symm.trans E
    have T := T.2 c17
    refine z_go hC (pc' := 11) (ls' := [some (.ref 20), some (.int x), some (.int y), none]) (st' := [.int (h.1 20 10)]) (h' := h) (cs := []) [.aload_n 0, .getfield 91] (by decide +kernel) rfl rfl trivial ?_
    refine z_if_ne hC (off := 19) 30 (by decide +kernel) (by decide) (fun c18 => ?_) (fun c18 => ?_)
    · skip
      have E := (if_neg c18).symm.trans E
      have T := T.2 c18
      exact P30  x y h T E
    · skip
      have E := (if_pos c18).symm.trans E
      have T := T.1 c18
      refine z_go hC (pc' := 19) (ls' := [some (.ref 20), some (.int x), some (.int y), none]) (st' := [.int x, .ref 21]) (h' := h) (cs := []) [.aload_n 0, .getfield 7, .iload_n 1] (by decide +kernel) rfl rfl trivial ?_
      refine z_callS hC hN hR (as := [.int x]) (rest := [.ref 21]) ok_X8_71 (by decide +kernel) (sp_X8_blockOf l _ h x) (Nat.le_of_ble_eq_true rfl) rfl rfl (Nat.le_of_ble_eq_true rfl) ⟨Nat.zero_le _, Nat.zero_le _⟩ (fun r19 h20 q21 => z_fun q21 ?_)
      obtain ⟨t22, T⟩ := T
      refine z_go hC (pc' := 23) (ls' := [some (.ref 20), some (.int x), some (.int y), none]) (st' := [.int (h.1 21 ((fv_X8_blockOf x).toNatClampNeg))]) (h' := h) (cs := [vp_in (fv_X8_blockOf x) 9]) [.baload] (by decide +kernel) rfl rfl t22 ?_
      refine z_if_ne hC (off := 7) 30 (by decide +kernel) (by decide) (fun c23 => ?_) (fun c23 => ?_)
      · skip
        have E := (if_neg c23).symm.trans E
        have T := T.2 c23
        exact P30  x y h T E
      · skip
        have E := (if_pos c23).symm.trans E
        have T := T.1 c23
        refine z_go hC (pc' := 27) (ls' := [some (.ref 20), some (.int x), some (.int y), none]) (st' := [.int (nI 1)]) (h' := h) (cs := []) [.iconst 1] (by decide +kernel) rfl rfl trivial ?_
        refine z_goto hC (off := 4) 31 (by decide +kernel) (by decide) ?_
        exact P31  x y (nI 1) h T E

def fn_X8_end_13  (s0 : Int32) (h : z_H) : z_R := if (fv_X8_goesWell h s0) = 0 then (some (.int (nI 0)), fh_X8_goesWell h s0) else (some (.int ((fh_X8_goesWell h s0).1 20 12)), z_set (z_set (z_set (fh_X8_goesWell h s0) 20 10 (nI 0)) 20 12 (nI 0)) 20 13 (nI 0))
def tk_X8_end_13  (s0 : Int32) (h : z_H) : Prop := True
def fn_X8_end  (h : z_H) : z_R := if (h.1 20 10) = 0 then fn_X8_end_13 (nI 1) h else fn_X8_end_13 (nI 0) h
def tk_X8_end  (h : z_H) : Prop := (((h.1 20 10) = 0) → (tk_X8_end_13 (nI 1) h)) ∧ ((¬ (h.1 20 10) = 0) → (tk_X8_end_13 (nI 0) h))
set_option maxHeartbeats 4000000 in
set_option maxRecDepth 100000 in
theorem sp_X8_end (l : Launch) (ext : z_Sh)  (h : z_H)   (T : tk_X8_end  h) : z_Sp l 1 yX8_end cX8_end 2 (some .int) [.ref 20] (z_m ext) h (z_PI (fn_X8_end  h)) := by
  refine z_enter ft_X8 (by decide +kernel) fo_X8 (Nat.le_of_ble_eq_true rfl) ?_
  intro p e R s m args below meth c D dA ad hB
  have hC := hB.1
  have hN := hB.2.1
  have hR := hB.2.2.1
  unfold tk_X8_end at T; have E : (if (h.1 20 10) = 0 then fn_X8_end_13 (nI 1) h else fn_X8_end_13 (nI 0) h) = fn_X8_end  h := rfl
  generalize fn_X8_end  h = RR at E ⊢
  have P13 : ∀ (s0 : Int32) (h : z_H), tk_X8_end_13  s0 h → fn_X8_end_13  s0 h = RR → z_G p l e R s m args below meth c D dA ad 2 (z_PI RR) (z_m ext) 13 [some (.ref 20), none] [.int s0, .ref 20] h := by
    intro  s0 h T E
    unfold tk_X8_end_13 at T; unfold fn_X8_end_13 at E
    refine z_callV hC hN hR (as := [.int s0]) (rest := []) ok_X8_98 (by decide +kernel) (sp_X8_goesWell l _ h s0) rfl rfl (Nat.le_of_ble_eq_true rfl) rfl rfl (Nat.le_of_ble_eq_true rfl) ⟨Nat.zero_le _, Nat.zero_le _⟩ (fun r1 h2 q3 => z_fun q3 ?_)
    refine z_if_ne hC (off := 5) 21 (by decide +kernel) (by decide) (fun c4 => ?_) (fun c4 => ?_)
    · skip
      have E := (if_neg c4).symm.trans E
      refine z_go hC (pc' := 42) (ls' := [some (.ref 20), some (.int ((fh_X8_goesWell h s0).1 20 12))]) (st' := [.int ((fh_X8_goesWell h s0).1 20 12)]) (h' := z_set (z_set (z_set (fh_X8_goesWell h s0) 20 10 (nI 0)) 20 12 (nI 0)) 20 13 (nI 0)) (cs := [(nI 0 = 0 ∨ nI 0 = 1)]) [.aload_n 0, .getfield 111, .istore_n 1, .aload_n 0, .iconst 0, .putfield 91, .aload_n 0, .iconst 0, .putfield 111, .aload_n 0, .iconst 0, .putfield 114, .iload_n 1] (by decide +kernel) rfl rfl (show (nI 0 = 0 ∨ nI 0 = 1) by decide) ?_
      exact z_ret_i hB rfl (by decide +kernel) (z_lfi E)
    · skip
      have E := (if_pos c4).symm.trans E
      refine z_go hC (pc' := 20) (ls' := [some (.ref 20), none]) (st' := [.int (nI 0)]) (h' := fh_X8_goesWell h s0) (cs := []) [.iconst 0] (by decide +kernel) rfl rfl trivial ?_
      exact z_ret_i hB rfl (by decide +kernel) (z_lfi E)
  refine z_go hC (pc' := 5) (ls' := [some (.ref 20), none]) (st' := [.int (h.1 20 10), .ref 20]) (h' := h) (cs := []) [.aload_n 0, .aload_n 0, .getfield 91] (by decide +kernel) rfl rfl trivial ?_
  refine z_if_eq hC (off := 7) 12 (by decide +kernel) (by decide) (fun c5 => ?_) (fun c5 => ?_)
  · skip
    have E := (if_pos c5).symm.trans E
    have T := T.1 c5
    refine z_go hC (pc' := 13) (ls' := [some (.ref 20), none]) (st' := [.int (nI 1), .ref 20]) (h' := h) (cs := []) [.iconst 1] (by decide +kernel) rfl rfl trivial ?_
    exact P13  (nI 1) h T E
  · skip
    have E := (if_neg c5).symm.trans E
    have T := T.2 c5
    refine z_go hC (pc' := 9) (ls' := [some (.ref 20), none]) (st' := [.int (nI 0), .ref 20]) (h' := h) (cs := []) [.iconst 0] (by decide +kernel) rfl rfl trivial ?_
    refine z_goto hC (off := 4) 13 (by decide +kernel) (by decide) ?_
    exact P13  (nI 0) h T E

def fn_X8_feed_55  (a1 : Int32) (s0 : Int32) (h : z_H) : z_R := if (fv_X8_goesWell h s0) = 0 then (some (.int (nI 0)), fh_X8_goesWell h s0) else (some (.int (((fh_X8_goesWell h s0).1 20 8) + (nI 1))), z_set (z_set (fh_X8_goesWell h s0) 27 (((fh_X8_goesWell h s0).1 20 8).toNatClampNeg) a1) 20 8 (((fh_X8_goesWell h s0).1 20 8) + (nI 1)))
def tk_X8_feed_55  (a1 : Int32) (s0 : Int32) (h : z_H) : Prop := (((fv_X8_goesWell h s0) = 0) → (True)) ∧ ((¬ (fv_X8_goesWell h s0) = 0) → (vp_in ((fh_X8_goesWell h s0).1 20 8) 40))
def fn_X8_feed_33  (a1 : Int32) (s0 : Int32) (h : z_H) : z_R := if (fv_X8_isCell a1) = 0 then fn_X8_feed_55 a1 (nI 1) h else if s0 = 0 then fn_X8_feed_55 a1 (nI 2) h else fn_X8_feed_55 a1 (nI 0) h
def tk_X8_feed_33  (a1 : Int32) (s0 : Int32) (h : z_H) : Prop := (((fv_X8_isCell a1) = 0) → (tk_X8_feed_55 a1 (nI 1) h)) ∧ ((¬ (fv_X8_isCell a1) = 0) → (((s0 = 0) → (tk_X8_feed_55 a1 (nI 2) h)) ∧ ((¬ s0 = 0) → (tk_X8_feed_55 a1 (nI 0) h))))
def fn_X8_feed_32  (a1 : Int32) (h : z_H) : z_R := fn_X8_feed_33 a1 (nI 0) h
def tk_X8_feed_32  (a1 : Int32) (h : z_H) : Prop := tk_X8_feed_33 a1 (nI 0) h
def fn_X8_feed (x : Int32) (h : z_H) : z_R := if (fv_X8_isCell x) = 0 then fn_X8_feed_32 x h else if (h.1 21 ((fv_X8_blockOf x).toNatClampNeg)) = 0 then if (nI 40) ≤ (h.1 20 8) then fn_X8_feed_32 x h else fn_X8_feed_33 x (nI 1) h else fn_X8_feed_32 x h
def tk_X8_feed (x : Int32) (h : z_H) : Prop := (((fv_X8_isCell x) = 0) → (tk_X8_feed_32 x h)) ∧ ((¬ (fv_X8_isCell x) = 0) → (vp_in (fv_X8_blockOf x) 9 ∧ ((((h.1 21 ((fv_X8_blockOf x).toNatClampNeg)) = 0) → ((((nI 40) ≤ (h.1 20 8)) → (tk_X8_feed_32 x h)) ∧ ((¬ (nI 40) ≤ (h.1 20 8)) → (tk_X8_feed_33 x (nI 1) h)))) ∧ ((¬ (h.1 21 ((fv_X8_blockOf x).toNatClampNeg)) = 0) → (tk_X8_feed_32 x h)))))
set_option maxHeartbeats 4000000 in
set_option maxRecDepth 100000 in
theorem sp_X8_feed (l : Launch) (ext : z_Sh)  (h : z_H) (x : Int32)  (T : tk_X8_feed x h) : z_Sp l 2 yX8_feed cX8_feed 3 (some .int) [.ref 20, .int x] (z_m ext) h (z_PI (fn_X8_feed x h)) := by
  refine z_enter ft_X8 (by decide +kernel) fo_X8 (Nat.le_of_ble_eq_true rfl) ?_
  intro p e R s m args below meth c D dA ad hB
  have hC := hB.1
  have hN := hB.2.1
  have hR := hB.2.2.1
  unfold tk_X8_feed at T; have E : (if (fv_X8_isCell x) = 0 then fn_X8_feed_32 x h else if (h.1 21 ((fv_X8_blockOf x).toNatClampNeg)) = 0 then if (nI 40) ≤ (h.1 20 8) then fn_X8_feed_32 x h else fn_X8_feed_33 x (nI 1) h else fn_X8_feed_32 x h) = fn_X8_feed x h := rfl
  generalize fn_X8_feed x h = RR at E ⊢
  have P55 : ∀ (a1 : Int32) (s0 : Int32) (h : z_H), tk_X8_feed_55  a1 s0 h → fn_X8_feed_55  a1 s0 h = RR → z_G p l e R s m args below meth c D dA ad 3 (z_PI RR) (z_m ext) 55 [some (.ref 20), some (.int a1), none] [.int s0, .ref 20] h := by
    intro  a1 s0 h T E
    unfold tk_X8_feed_55 at T; unfold fn_X8_feed_55 at E
    refine z_callV hC hN hR (as := [.int s0]) (rest := []) ok_X8_98 (by decide +kernel) (sp_X8_goesWell l _ h s0) rfl rfl (Nat.le_of_ble_eq_true rfl) rfl rfl (Nat.le_of_ble_eq_true rfl) ⟨Nat.zero_le _, Nat.zero_le _⟩ (fun r1 h2 q3 => z_fun q3 ?_)
    refine z_if_ne hC (off := 5) 63 (by decide +kernel) (by decide) (fun c4 => ?_) (fun c4 => ?_)
    · skip
      have E := (if_neg c4).symm.trans E
      have T := T.2 c4
      have t5 := T
      refine z_go hC (pc' := 87) (ls' := [some (.ref 20), some (.int a1), none]) (st' := [.int (((fh_X8_goesWell h s0).1 20 8) + (nI 1))]) (h' := z_set (z_set (fh_X8_goesWell h s0) 27 (((fh_X8_goesWell h s0).1 20 8).toNatClampNeg) a1) 20 8 (((fh_X8_goesWell h s0).1 20 8) + (nI 1))) (cs := [vp_in ((fh_X8_goesWell h s0).1 20 8) 40]) [.aload_n 0, .getfield 29, .aload_n 0, .getfield 95, .iload_n 1, .iastore, .aload_n 0, .dup, .getfield 95, .iconst 1, .iadd, .putfield 95, .aload_n 0, .getfield 95] (by decide +kernel) rfl rfl t5 ?_
      exact z_ret_i hB rfl (by decide +kernel) (z_lfi E)
    · skip
      have E := (if_pos c4).symm.trans E
      have T := T.1 c4
      refine z_go hC (pc' := 62) (ls' := [some (.ref 20), some (.int a1), none]) (st' := [.int (nI 0)]) (h' := fh_X8_goesWell h s0) (cs := []) [.iconst 0] (by decide +kernel) rfl rfl trivial ?_
      exact z_ret_i hB rfl (by decide +kernel) (z_lfi E)
  have P33 : ∀ (a1 : Int32) (s0 : Int32) (h : z_H), tk_X8_feed_33  a1 s0 h → fn_X8_feed_33  a1 s0 h = RR → z_G p l e R s m args below meth c D dA ad 3 (z_PI RR) (z_m ext) 33 [some (.ref 20), some (.int a1), none] [.int s0] h := by
    intro  a1 s0 h T E
    unfold tk_X8_feed_33 at T; unfold fn_X8_feed_33 at E
    refine z_go hC (pc' := 36) (ls' := [some (.ref 20), some (.int a1), some (.int s0)]) (st' := [.int a1, .ref 20]) (h' := h) (cs := []) [.istore_n 2, .aload_n 0, .iload_n 1] (by decide +kernel) rfl rfl trivial ?_
    refine z_callS hC hN hR (as := [.int a1]) (rest := [.ref 20]) ok_X8_102 (by decide +kernel) (sp_X8_isCell l _ h a1) (Nat.le_of_ble_eq_true rfl) rfl rfl (Nat.le_of_ble_eq_true rfl) ⟨Nat.zero_le _, Nat.zero_le _⟩ (fun r6 h7 q8 => z_fun q8 ?_)
    refine z_if_ne hC (off := 7) 46 (by decide +kernel) (by decide) (fun c9 => ?_) (fun c9 => ?_)
    · skip
      have E := (if_neg c9).symm.trans E
      have T := T.2 c9
      refine z_go hC (pc' := 47) (ls' := [some (.ref 20), some (.int a1), some (.int s0)]) (st' := [.int s0, .ref 20]) (h' := h) (cs := []) [.iload_n 2] (by decide +kernel) rfl rfl trivial ?_
      refine z_if_eq hC (off := 7) 54 (by decide +kernel) (by decide) (fun c10 => ?_) (fun c10 => ?_)
      · skip
        have E := (if_pos c10).symm.trans E
        have T := T.1 c10
        refine z_go hC (pc' := 55) (ls' := [some (.ref 20), some (.int a1), some (.int s0)]) (st' := [.int (nI 2), .ref 20]) (h' := h) (cs := []) [.iconst 2] (by decide +kernel) rfl rfl trivial ?_
        refine z_less (ls' := [some (.ref 20), some (.int a1), none]) (by simp [z_sub]) ?_
        exact P55  a1 (nI 2) h T E
      · skip
        have E := (if_neg c10).symm.trans E
        have T := T.2 c10
        refine z_go hC (pc' := 51) (ls' := [some (.ref 20), some (.int a1), some (.int s0)]) (st' := [.int (nI 0), .ref 20]) (h' := h) (cs := []) [.iconst 0] (by decide +kernel) rfl rfl trivial ?_
        refine z_goto hC (off := 4) 55 (by decide +kernel) (by decide) ?_
        refine z_less (ls' := [some (.ref 20), some (.int a1), none]) (by simp [z_sub]) ?_
        exact P55  a1 (nI 0) h T E
    · skip
      have E := (if_pos c9).symm.trans E
      have T := T.1 c9
      refine z_go hC (pc' := 43) (ls' := [some (.ref 20), some (.int a1), some (.int s0)]) (st' := [.int (nI 1), .ref 20]) (h' := h) (cs := []) [.iconst 1] (by decide +kernel) rfl rfl trivial ?_
      refine z_goto hC (off := 12) 55 (by decide +kernel) (by decide) ?_
      refine z_less (ls' := [some (.ref 20), some (.int a1), none]) (by simp [z_sub]) ?_
      exact P55  a1 (nI 1) h T E
  have P32 : ∀ (a1 : Int32) (h : z_H), tk_X8_feed_32  a1 h → fn_X8_feed_32  a1 h = RR → z_G p l e R s m args below meth c D dA ad 3 (z_PI RR) (z_m ext) 32 [some (.ref 20), some (.int a1), none] [] h := by
    intro  a1 h T E
    unfold tk_X8_feed_32 at T; unfold fn_X8_feed_32 at E
    refine z_go hC (pc' := 33) (ls' := [some (.ref 20), some (.int a1), none]) (st' := [.int (nI 0)]) (h' := h) (cs := []) [.iconst 0] (by decide +kernel) rfl rfl trivial ?_
    exact P33  a1 (nI 0) h T E
  refine z_go hC (pc' := 1) (ls' := [some (.ref 20), some (.int x), none]) (st' := [.int x]) (h' := h) (cs := []) [.iload_n 1] (by decide +kernel) rfl rfl trivial ?_
  refine z_callS hC hN hR (as := [.int x]) (rest := []) ok_X8_102 (by decide +kernel) (sp_X8_isCell l _ h x) (Nat.le_of_ble_eq_true rfl) rfl rfl (Nat.le_of_ble_eq_true rfl) ⟨Nat.zero_le _, Nat.zero_le _⟩ (fun r11 h12 q13 => z_fun q13 ?_)
  refine z_if_eq hC (off := 28) 32 (by decide +kernel) (by decide) (fun c14 => ?_) (fun c14 => ?_)
  · skip
    have E := (if_pos c14).symm.trans E
    have T := T.1 c14
    exact P32  x h T E
  · skip
    have E := (if_neg c14).symm.trans E
    have T := T.2 c14
    refine z_go hC (pc' := 12) (ls' := [some (.ref 20), some (.int x), none]) (st' := [.int x, .ref 21]) (h' := h) (cs := []) [.aload_n 0, .getfield 7, .iload_n 1] (by decide +kernel) rfl rfl trivial ?_
    refine z_callS hC hN hR (as := [.int x]) (rest := [.ref 21]) ok_X8_71 (by decide +kernel) (sp_X8_blockOf l _ h x) (Nat.le_of_ble_eq_true rfl) rfl rfl (Nat.le_of_ble_eq_true rfl) ⟨Nat.zero_le _, Nat.zero_le _⟩ (fun r15 h16 q17 => z_fun q17 ?_)
    obtain ⟨t18, T⟩ := T
    refine z_go hC (pc' := 16) (ls' := [some (.ref 20), some (.int x), none]) (st' := [.int (h.1 21 ((fv_X8_blockOf x).toNatClampNeg))]) (h' := h) (cs := [vp_in (fv_X8_blockOf x) 9]) [.baload] (by decide +kernel) rfl rfl t18 ?_
    refine z_if_ne hC (off := 16) 32 (by decide +kernel) (by decide) (fun c19 => ?_) (fun c19 => ?_)
    · skip
      have E := (if_neg c19).symm.trans E
      have T := T.2 c19
      exact P32  x h T E
    · skip
      have E := (if_pos c19).symm.trans E
      have T := T.1 c19
      refine z_go hC (pc' := 25) (ls' := [some (.ref 20), some (.int x), none]) (st' := [.int (nI 40), .int (h.1 20 8)]) (h' := h) (cs := []) [.aload_n 0, .getfield 95, .bipush 40] (by decide +kernel) rfl rfl trivial ?_
      refine z_icmp_ge hC (off := 7) 32 (by decide +kernel) (by decide) (fun c20 => ?_) (fun c20 => ?_)
      · skip
        have E := (if_pos c20).symm.trans E
        have T := T.1 c20
        exact P32  x h T E
      · skip
        have E := (if_neg c20).symm.trans E
        have T := T.2 c20
        refine z_go hC (pc' := 29) (ls' := [some (.ref 20), some (.int x), none]) (st' := [.int (nI 1)]) (h' := h) (cs := []) [.iconst 1] (by decide +kernel) rfl rfl trivial ?_
        refine z_goto hC (off := 4) 33 (by decide +kernel) (by decide) ?_
        exact P33  x (nI 1) h T E

def fv_X8_lives (h : z_H)  : Int32 := if (h.1 20 10) = 0 then nI 0 else if (h.1 20 11) = 0 then nI 1 else nI 0
theorem zb_X8_lives (h : z_H)  : fv_X8_lives h  = 0 ∨ fv_X8_lives h  = 1 := by unfold fv_X8_lives; (repeat' split) <;> first | decide
set_option maxHeartbeats 4000000 in
set_option maxRecDepth 100000 in
theorem sp_X8_lives (l : Launch) (ext : z_Sh) (h : z_H)   : z_Sp l 0 yX8_lives cX8_lives 1 (some .boolean) [.ref 20] (z_m ext) h (fun rv h' => rv = some (.int (fv_X8_lives h )) ∧ h' = h) := by
  refine z_enter ft_X8 (by decide +kernel) fo_X8 (Nat.le_of_ble_eq_true rfl) ?_
  intro p e R s m args below meth c D dA ad hB
  have hC := hB.1
  have hN := hB.2.1
  have hR := hB.2.2.1
  refine z_go hC (pc' := 4) (ls' := [some (.ref 20)]) (st' := [.int (h.1 20 10)]) (h' := h) (cs := []) [.aload_n 0, .getfield 91] (by decide +kernel) rfl rfl trivial ?_
  refine z_if_eq hC (off := 14) 18 (by decide +kernel) (by decide) (fun c1 => ?_) (fun c1 => ?_)
  · skip
    refine z_go hC (pc' := 19) (ls' := [some (.ref 20)]) (st' := [.int (nI 0)]) (h' := h) (cs := []) [.iconst 0] (by decide +kernel) rfl rfl trivial ?_
    exact z_ret_z hB rfl (by decide) (by decide +kernel) ⟨by rw [fv_X8_lives, if_pos c1], rfl⟩
  · skip
    refine z_go hC (pc' := 11) (ls' := [some (.ref 20)]) (st' := [.int (h.1 20 11)]) (h' := h) (cs := []) [.aload_n 0, .getfield 108] (by decide +kernel) rfl rfl trivial ?_
    refine z_if_ne hC (off := 7) 18 (by decide +kernel) (by decide) (fun c2 => ?_) (fun c2 => ?_)
    · skip
      refine z_go hC (pc' := 19) (ls' := [some (.ref 20)]) (st' := [.int (nI 0)]) (h' := h) (cs := []) [.iconst 0] (by decide +kernel) rfl rfl trivial ?_
      exact z_ret_z hB rfl (by decide) (by decide +kernel) ⟨by rw [fv_X8_lives, if_neg c1, if_neg c2], rfl⟩
    · skip
      refine z_go hC (pc' := 15) (ls' := [some (.ref 20)]) (st' := [.int (nI 1)]) (h' := h) (cs := []) [.iconst 1] (by decide +kernel) rfl rfl trivial ?_
      refine z_goto hC (off := 4) 19 (by decide +kernel) (by decide) ?_
      exact z_ret_z hB rfl (by decide) (by decide +kernel) ⟨by rw [fv_X8_lives, if_neg c1, if_pos c2], rfl⟩

def fn_X8_beside_141 (h : z_H)  (a5 : Int32) (s0 : Int32) : (Option Value) := if s0 = 0 then some (.int (-1)) else some (.int a5)
def tk_X8_beside_141 (h : z_H)  (a5 : Int32) (s0 : Int32) : Prop := True
def fn_X8_beside_136 (h : z_H)  (a5 : Int32) : (Option Value) := fn_X8_beside_141 h a5 (nI 1)
def tk_X8_beside_136 (h : z_H)  (a5 : Int32) : Prop := tk_X8_beside_141 h a5 (nI 1)
def fn_X8_beside_140 (h : z_H)  (a5 : Int32) : (Option Value) := fn_X8_beside_141 h a5 (nI 0)
def tk_X8_beside_140 (h : z_H)  (a5 : Int32) : Prop := tk_X8_beside_141 h a5 (nI 0)
def fn_X8_beside_47 (h : z_H)  (a1 : Int32) (a3 : Int32) (s0 : Int32) (s1 : Int32) : (Option Value) := if (fv_X8_in a3 (nI 0) (nI 5)) = 0 then some (.int (-1)) else if (fv_X8_in (s1 + s0) (nI 0) (nI 5)) = 0 then some (.int (-1)) else if (h.1 21 ((fv_X8_blockOf a1).toNatClampNeg)) = 0 then if (h.1 21 ((fv_X8_blockOf (((nI 6) * a3) + (s1 + s0))).toNatClampNeg)) = 0 then if (fv_X8_blockOf a1) = (fv_X8_blockOf (((nI 6) * a3) + (s1 + s0))) then fn_X8_beside_136 h (((nI 6) * a3) + (s1 + s0)) else if (h.1 22 ((z_vi0 (fn_X8_linkOf (fv_X8_blockOf a1) (fv_X8_blockOf (((nI 6) * a3) + (s1 + s0))) h)).toNatClampNeg)) = (-1) then fn_X8_beside_140 h (((nI 6) * a3) + (s1 + s0)) else fn_X8_beside_136 h (((nI 6) * a3) + (s1 + s0)) else fn_X8_beside_140 h (((nI 6) * a3) + (s1 + s0)) else fn_X8_beside_140 h (((nI 6) * a3) + (s1 + s0))
def tk_X8_beside_47 (h : z_H)  (a1 : Int32) (a3 : Int32) (s0 : Int32) (s1 : Int32) : Prop := (((fv_X8_in a3 (nI 0) (nI 5)) = 0) → (True)) ∧ ((¬ (fv_X8_in a3 (nI 0) (nI 5)) = 0) → ((((fv_X8_in (s1 + s0) (nI 0) (nI 5)) = 0) → (True)) ∧ ((¬ (fv_X8_in (s1 + s0) (nI 0) (nI 5)) = 0) → (vp_in (fv_X8_blockOf a1) 9 ∧ ((((h.1 21 ((fv_X8_blockOf a1).toNatClampNeg)) = 0) → (vp_in (fv_X8_blockOf (((nI 6) * a3) + (s1 + s0))) 9 ∧ ((((h.1 21 ((fv_X8_blockOf (((nI 6) * a3) + (s1 + s0))).toNatClampNeg)) = 0) → ((((fv_X8_blockOf a1) = (fv_X8_blockOf (((nI 6) * a3) + (s1 + s0)))) → (tk_X8_beside_136 h (((nI 6) * a3) + (s1 + s0)))) ∧ ((¬ (fv_X8_blockOf a1) = (fv_X8_blockOf (((nI 6) * a3) + (s1 + s0)))) → (tk_X8_linkOf (fv_X8_blockOf a1) (fv_X8_blockOf (((nI 6) * a3) + (s1 + s0))) h ∧ (vp_in (z_vi0 (fn_X8_linkOf (fv_X8_blockOf a1) (fv_X8_blockOf (((nI 6) * a3) + (s1 + s0))) h)) 12 ∧ ((((h.1 22 ((z_vi0 (fn_X8_linkOf (fv_X8_blockOf a1) (fv_X8_blockOf (((nI 6) * a3) + (s1 + s0))) h)).toNatClampNeg)) = (-1)) → (tk_X8_beside_140 h (((nI 6) * a3) + (s1 + s0)))) ∧ ((¬ (h.1 22 ((z_vi0 (fn_X8_linkOf (fv_X8_blockOf a1) (fv_X8_blockOf (((nI 6) * a3) + (s1 + s0))) h)).toNatClampNeg)) = (-1)) → (tk_X8_beside_136 h (((nI 6) * a3) + (s1 + s0)))))))))) ∧ ((¬ (h.1 21 ((fv_X8_blockOf (((nI 6) * a3) + (s1 + s0))).toNatClampNeg)) = 0) → (tk_X8_beside_140 h (((nI 6) * a3) + (s1 + s0))))))) ∧ ((¬ (h.1 21 ((fv_X8_blockOf a1).toNatClampNeg)) = 0) → (tk_X8_beside_140 h (((nI 6) * a3) + (s1 + s0)))))))))
def fn_X8_beside_22 (h : z_H)  (a1 : Int32) (a2 : Int32) (s0 : Int32) (s1 : Int32) : (Option Value) := if a2 = (nI 1) then fn_X8_beside_47 h a1 (s1 + s0) (nI 1) (a1 - a1 / (nI 6) * (nI 6)) else if a2 = (nI 3) then fn_X8_beside_47 h a1 (s1 + s0) (-1) (a1 - a1 / (nI 6) * (nI 6)) else fn_X8_beside_47 h a1 (s1 + s0) (nI 0) (a1 - a1 / (nI 6) * (nI 6))
def tk_X8_beside_22 (h : z_H)  (a1 : Int32) (a2 : Int32) (s0 : Int32) (s1 : Int32) : Prop := ((a2 = (nI 1)) → (tk_X8_beside_47 h a1 (s1 + s0) (nI 1) (a1 - a1 / (nI 6) * (nI 6)))) ∧ ((¬ a2 = (nI 1)) → (((a2 = (nI 3)) → (tk_X8_beside_47 h a1 (s1 + s0) (-1) (a1 - a1 / (nI 6) * (nI 6)))) ∧ ((¬ a2 = (nI 3)) → (tk_X8_beside_47 h a1 (s1 + s0) (nI 0) (a1 - a1 / (nI 6) * (nI 6))))))
def fn_X8_beside (x : Int32) (y : Int32) (h : z_H) : (Option Value) := if y = 0 then fn_X8_beside_22 h x y (-1) (x / (nI 6)) else if y = (nI 2) then fn_X8_beside_22 h x y (nI 1) (x / (nI 6)) else fn_X8_beside_22 h x y (nI 0) (x / (nI 6))
def tk_X8_beside (x : Int32) (y : Int32) (h : z_H) : Prop := ((y = 0) → (tk_X8_beside_22 h x y (-1) (x / (nI 6)))) ∧ ((¬ y = 0) → (((y = (nI 2)) → (tk_X8_beside_22 h x y (nI 1) (x / (nI 6)))) ∧ ((¬ y = (nI 2)) → (tk_X8_beside_22 h x y (nI 0) (x / (nI 6))))))
set_option maxHeartbeats 4000000 in
set_option maxRecDepth 100000 in
theorem sp_X8_beside (l : Launch) (ext : z_Sh)  (h : z_H) (x : Int32) (y : Int32)  (T : tk_X8_beside x y h) : z_Sp l 3 yX8_beside cX8_beside 9 (some .int) [.ref 20, .int x, .int y] (z_m ext) h (z_QI h (fn_X8_beside x y h)) := by
  refine z_enter ft_X8 (by decide +kernel) fo_X8 (Nat.le_of_ble_eq_true rfl) ?_
  intro p e R s m args below meth c D dA ad hB
  have hC := hB.1
  have hN := hB.2.1
  have hR := hB.2.2.1
  unfold tk_X8_beside at T; have E : (if y = 0 then fn_X8_beside_22 h x y (-1) (x / (nI 6)) else if y = (nI 2) then fn_X8_beside_22 h x y (nI 1) (x / (nI 6)) else fn_X8_beside_22 h x y (nI 0) (x / (nI 6))) = fn_X8_beside x y h := rfl
  generalize fn_X8_beside x y h = RR at E ⊢
  have P141 : ∀ (a5 : Int32) (s0 : Int32), tk_X8_beside_141 h  a5 s0 → fn_X8_beside_141 h  a5 s0 = RR → z_G p l e R s m args below meth c D dA ad 9 (z_QI h RR) (z_m ext) 141 [none, none, none, none, none, some (.int a5), none, none, none] [.int s0] h := by
    intro  a5 s0 T E
    unfold tk_X8_beside_141 at T; unfold fn_X8_beside_141 at E
    refine z_go hC (pc' := 145) (ls' := [none, none, none, none, none, some (.int a5), none, none, some (.int s0)]) (st' := [.int s0]) (h' := h) (cs := []) [.istore 8, .iload 8] (by decide +kernel) rfl rfl trivial ?_
    refine z_if_eq hC (off := 8) 153 (by decide +kernel) (by decide) (fun c1 => ?_) (fun c1 => ?_)
    · skip
      have E := (if_pos c1).symm.trans E
      refine z_go hC (pc' := 154) (ls' := [none, none, none, none, none, some (.int a5), none, none, some (.int s0)]) (st' := [.int (-1)]) (h' := h) (cs := []) [.iconst (-1)] (by decide +kernel) rfl rfl trivial ?_
      exact z_ret_i hB rfl (by decide +kernel) (z_lfi0 E)
    · skip
      have E := (if_neg c1).symm.trans E
      refine z_go hC (pc' := 150) (ls' := [none, none, none, none, none, some (.int a5), none, none, some (.int s0)]) (st' := [.int a5]) (h' := h) (cs := []) [.iload 5] (by decide +kernel) rfl rfl trivial ?_
      refine z_goto hC (off := 4) 154 (by decide +kernel) (by decide) ?_
      exact z_ret_i hB rfl (by decide +kernel) (z_lfi0 E)
  have P136 : ∀ (a5 : Int32), tk_X8_beside_136 h  a5 → fn_X8_beside_136 h  a5 = RR → z_G p l e R s m args below meth c D dA ad 9 (z_QI h RR) (z_m ext) 136 [none, none, none, none, none, some (.int a5), none, none, none] [] h := by
    intro  a5 T E
    unfold tk_X8_beside_136 at T; unfold fn_X8_beside_136 at E
    refine z_go hC (pc' := 137) (ls' := [none, none, none, none, none, some (.int a5), none, none, none]) (st' := [.int (nI 1)]) (h' := h) (cs := []) [.iconst 1] (by decide +kernel) rfl rfl trivial ?_
    refine z_goto hC (off := 4) 141 (by decide +kernel) (by decide) ?_
    exact P141  a5 (nI 1) T E
  have P140 : ∀ (a5 : Int32), tk_X8_beside_140 h  a5 → fn_X8_beside_140 h  a5 = RR → z_G p l e R s m args below meth c D dA ad 9 (z_QI h RR) (z_m ext) 140 [none, none, none, none, none, some (.int a5), none, none, none] [] h := by
    intro  a5 T E
    unfold tk_X8_beside_140 at T; unfold fn_X8_beside_140 at E
    refine z_go hC (pc' := 141) (ls' := [none, none, none, none, none, some (.int a5), none, none, none]) (st' := [.int (nI 0)]) (h' := h) (cs := []) [.iconst 0] (by decide +kernel) rfl rfl trivial ?_
    exact P141  a5 (nI 0) T E
  have P47 : ∀ (a1 : Int32) (a3 : Int32) (s0 : Int32) (s1 : Int32), tk_X8_beside_47 h  a1 a3 s0 s1 → fn_X8_beside_47 h  a1 a3 s0 s1 = RR → z_G p l e R s m args below meth c D dA ad 9 (z_QI h RR) (z_m ext) 47 [some (.ref 20), some (.int a1), none, some (.int a3), none, none, none, none, none] [.int s0, .int s1] h := by
    intro  a1 a3 s0 s1 T E
    unfold tk_X8_beside_47 at T; unfold fn_X8_beside_47 at E
    refine z_go hC (pc' := 53) (ls' := [some (.ref 20), some (.int a1), none, some (.int a3), some (.int (s1 + s0)), none, none, none, none]) (st' := [.int (nI 5), .int (nI 0), .int a3]) (h' := h) (cs := []) [.iadd, .istore 4, .iload_n 3, .iconst 0, .iconst 5] (by decide +kernel) rfl rfl trivial ?_
    refine z_callS hC hN hR (as := [.int a3, .int (nI 0), .int (nI 5)]) (rest := []) ok_X8_87 (by decide +kernel) (sp_X8_in l _ h a3 (nI 0) (nI 5)) (Nat.le_of_ble_eq_true rfl) rfl rfl (Nat.le_of_ble_eq_true rfl) ⟨Nat.zero_le _, Nat.zero_le _⟩ (fun r2 h3 q4 => z_fun q4 ?_)
    refine z_if_eq hC (off := 13) 69 (by decide +kernel) (by decide) (fun c5 => ?_) (fun c5 => ?_)
    · skip
      have E := (if_pos c5).symm.trans E
      have T := T.1 c5
      refine z_go hC (pc' := 70) (ls' := [some (.ref 20), some (.int a1), none, some (.int a3), some (.int (s1 + s0)), none, none, none, none]) (st' := [.int (-1)]) (h' := h) (cs := []) [.iconst (-1)] (by decide +kernel) rfl rfl trivial ?_
      exact z_ret_i hB rfl (by decide +kernel) (z_lfi0 E)
    · skip
      have E := (if_neg c5).symm.trans E
      have T := T.2 c5
      refine z_go hC (pc' := 63) (ls' := [some (.ref 20), some (.int a1), none, some (.int a3), some (.int (s1 + s0)), none, none, none, none]) (st' := [.int (nI 5), .int (nI 0), .int (s1 + s0)]) (h' := h) (cs := []) [.iload 4, .iconst 0, .iconst 5] (by decide +kernel) rfl rfl trivial ?_
      refine z_callS hC hN hR (as := [.int (s1 + s0), .int (nI 0), .int (nI 5)]) (rest := []) ok_X8_87 (by decide +kernel) (sp_X8_in l _ h (s1 + s0) (nI 0) (nI 5)) (Nat.le_of_ble_eq_true rfl) rfl rfl (Nat.le_of_ble_eq_true rfl) ⟨Nat.zero_le _, Nat.zero_le _⟩ (fun r6 h7 q8 => z_fun q8 ?_)
      refine z_if_ne hC (off := 5) 71 (by decide +kernel) (by decide) (fun c9 => ?_) (fun c9 => ?_)
      · skip
        have E := (if_neg c9).symm.trans E
        have T := T.2 c9
        refine z_go hC (pc' := 81) (ls' := [some (.ref 20), some (.int a1), none, some (.int a3), some (.int (s1 + s0)), some (.int (((nI 6) * a3) + (s1 + s0))), none, none, none]) (st' := [.int a1]) (h' := h) (cs := []) [.bipush 6, .iload_n 3, .imul, .iload 4, .iadd, .istore 5, .iload_n 1] (by decide +kernel) rfl rfl trivial ?_
        refine z_callS hC hN hR (as := [.int a1]) (rest := []) ok_X8_71 (by decide +kernel) (sp_X8_blockOf l _ h a1) (Nat.le_of_ble_eq_true rfl) rfl rfl (Nat.le_of_ble_eq_true rfl) ⟨Nat.zero_le _, Nat.zero_le _⟩ (fun r10 h11 q12 => z_fun q12 ?_)
        refine z_go hC (pc' := 88) (ls' := [some (.ref 20), some (.int a1), none, some (.int a3), some (.int (s1 + s0)), some (.int (((nI 6) * a3) + (s1 + s0))), some (.int (fv_X8_blockOf a1)), none, none]) (st' := [.int (((nI 6) * a3) + (s1 + s0))]) (h' := h) (cs := []) [.istore 6, .iload 5] (by decide +kernel) rfl rfl trivial ?_
        refine z_callS hC hN hR (as := [.int (((nI 6) * a3) + (s1 + s0))]) (rest := []) ok_X8_71 (by decide +kernel) (sp_X8_blockOf l _ h (((nI 6) * a3) + (s1 + s0))) (Nat.le_of_ble_eq_true rfl) rfl rfl (Nat.le_of_ble_eq_true rfl) ⟨Nat.zero_le _, Nat.zero_le _⟩ (fun r13 h14 q15 => z_fun q15 ?_)
        obtain ⟨t16, T⟩ := T
        refine z_go hC (pc' := 100) (ls' := [some (.ref 20), some (.int a1), none, some (.int a3), some (.int (s1 + s0)), some (.int (((nI 6) * a3) + (s1 + s0))), some (.int (fv_X8_blockOf a1)), some (.int (fv_X8_blockOf (((nI 6) * a3) + (s1 + s0)))), none]) (st' := [.int (h.1 21 ((fv_X8_blockOf a1).toNatClampNeg))]) (h' := h) (cs := [vp_in (fv_X8_blockOf a1) 9]) [.istore 7, .aload_n 0, .getfield 7, .iload 6, .baload] (by decide +kernel) rfl rfl t16 ?_
        refine z_if_ne hC (off := 40) 140 (by decide +kernel) (by decide) (fun c17 => ?_) (fun c17 => ?_)
        · skip
          have E := (if_neg c17).symm.trans E
          have T := T.2 c17
          refine z_less (ls' := [none, none, none, none, none, some (.int (((nI 6) * a3) + (s1 + s0))), none, none, none]) (by simp [z_sub]) ?_
          exact P140  (((nI 6) * a3) + (s1 + s0)) T E
        · skip
          have E := (if_pos c17).symm.trans E
          have T := T.1 c17
          obtain ⟨t18, T⟩ := T
          refine z_go hC (pc' := 110) (ls' := [some (.ref 20), some (.int a1), none, some (.int a3), some (.int (s1 + s0)), some (.int (((nI 6) * a3) + (s1 + s0))), some (.int (fv_X8_blockOf a1)), some (.int (fv_X8_blockOf (((nI 6) * a3) + (s1 + s0)))), none]) (st' := [.int (h.1 21 ((fv_X8_blockOf (((nI 6) * a3) + (s1 + s0))).toNatClampNeg))]) (h' := h) (cs := [vp_in (fv_X8_blockOf (((nI 6) * a3) + (s1 + s0))) 9]) [.aload_n 0, .getfield 7, .iload 7, .baload] (by decide +kernel) rfl rfl t18 ?_
          refine z_if_ne hC (off := 30) 140 (by decide +kernel) (by decide) (fun c19 => ?_) (fun c19 => ?_)
          · skip
            have E := (if_neg c19).symm.trans E
            have T := T.2 c19
            refine z_less (ls' := [none, none, none, none, none, some (.int (((nI 6) * a3) + (s1 + s0))), none, none, none]) (by simp [z_sub]) ?_
            exact P140  (((nI 6) * a3) + (s1 + s0)) T E
          · skip
            have E := (if_pos c19).symm.trans E
            have T := T.1 c19
            refine z_go hC (pc' := 117) (ls' := [some (.ref 20), some (.int a1), none, some (.int a3), some (.int (s1 + s0)), some (.int (((nI 6) * a3) + (s1 + s0))), some (.int (fv_X8_blockOf a1)), some (.int (fv_X8_blockOf (((nI 6) * a3) + (s1 + s0)))), none]) (st' := [.int (fv_X8_blockOf (((nI 6) * a3) + (s1 + s0))), .int (fv_X8_blockOf a1)]) (h' := h) (cs := []) [.iload 6, .iload 7] (by decide +kernel) rfl rfl trivial ?_
            refine z_icmp_eq hC (off := 19) 136 (by decide +kernel) (by decide) (fun c20 => ?_) (fun c20 => ?_)
            · skip
              have E := (if_pos c20).symm.trans E
              have T := T.1 c20
              refine z_less (ls' := [none, none, none, none, none, some (.int (((nI 6) * a3) + (s1 + s0))), none, none, none]) (by simp [z_sub]) ?_
              exact P136  (((nI 6) * a3) + (s1 + s0)) T E
            · skip
              have E := (if_neg c20).symm.trans E
              have T := T.2 c20
              refine z_go hC (pc' := 128) (ls' := [some (.ref 20), some (.int a1), none, some (.int a3), some (.int (s1 + s0)), some (.int (((nI 6) * a3) + (s1 + s0))), some (.int (fv_X8_blockOf a1)), some (.int (fv_X8_blockOf (((nI 6) * a3) + (s1 + s0)))), none]) (st' := [.int (fv_X8_blockOf (((nI 6) * a3) + (s1 + s0))), .int (fv_X8_blockOf a1), .ref 22]) (h' := h) (cs := []) [.aload_n 0, .getfield 13, .iload 6, .iload 7] (by decide +kernel) rfl rfl trivial ?_
              obtain ⟨t24, T⟩ := T
              refine z_callS hC hN hR (as := [.int (fv_X8_blockOf a1), .int (fv_X8_blockOf (((nI 6) * a3) + (s1 + s0)))]) (rest := [.ref 22]) ok_X8_67 (by decide +kernel) (sp_X8_linkOf l _ h (fv_X8_blockOf a1) (fv_X8_blockOf (((nI 6) * a3) + (s1 + s0))) t24) (Nat.le_of_ble_eq_true rfl) rfl rfl (Nat.le_of_ble_eq_true rfl) ⟨Nat.zero_le _, Nat.zero_le _⟩ (fun r21 h22 q23 => z_fun q23 ?_)
              obtain ⟨t25, T⟩ := T
              refine z_go hC (pc' := 133) (ls' := [some (.ref 20), some (.int a1), none, some (.int a3), some (.int (s1 + s0)), some (.int (((nI 6) * a3) + (s1 + s0))), some (.int (fv_X8_blockOf a1)), some (.int (fv_X8_blockOf (((nI 6) * a3) + (s1 + s0)))), none]) (st' := [.int (-1), .int (h.1 22 ((z_vi0 (fn_X8_linkOf (fv_X8_blockOf a1) (fv_X8_blockOf (((nI 6) * a3) + (s1 + s0))) h)).toNatClampNeg))]) (h' := h) (cs := [vp_in (z_vi0 (fn_X8_linkOf (fv_X8_blockOf a1) (fv_X8_blockOf (((nI 6) * a3) + (s1 + s0))) h)) 12]) [.iaload, .iconst (-1)] (by decide +kernel) rfl rfl t25 ?_
              refine z_icmp_eq hC (off := 7) 140 (by decide +kernel) (by decide) (fun c26 => ?_) (fun c26 => ?_)
              · skip
                have E := (if_pos c26).symm.trans E
                have T := T.1 c26
                refine z_less (ls' := [none, none, none, none, none, some (.int (((nI 6) * a3) + (s1 + s0))), none, none, none]) (by simp [z_sub]) ?_
                exact P140  (((nI 6) * a3) + (s1 + s0)) T E
              · skip
                have E := (if_neg c26).symm.trans E
                have T := T.2 c26
                refine z_less (ls' := [none, none, none, none, none, some (.int (((nI 6) * a3) + (s1 + s0))), none, none, none]) (by simp [z_sub]) ?_
                exact P136  (((nI 6) * a3) + (s1 + s0)) T E
      · skip
        have E := (if_pos c9).symm.trans E
        have T := T.1 c9
        refine z_go hC (pc' := 70) (ls' := [some (.ref 20), some (.int a1), none, some (.int a3), some (.int (s1 + s0)), none, none, none, none]) (st' := [.int (-1)]) (h' := h) (cs := []) [.iconst (-1)] (by decide +kernel) rfl rfl trivial ?_
        exact z_ret_i hB rfl (by decide +kernel) (z_lfi0 E)
  have P22 : ∀ (a1 : Int32) (a2 : Int32) (s0 : Int32) (s1 : Int32), tk_X8_beside_22 h  a1 a2 s0 s1 → fn_X8_beside_22 h  a1 a2 s0 s1 = RR → z_G p l e R s m args below meth c D dA ad 9 (z_QI h RR) (z_m ext) 22 [some (.ref 20), some (.int a1), some (.int a2), none, none, none, none, none, none] [.int s0, .int s1] h := by
    intro  a1 a2 s0 s1 T E
    unfold tk_X8_beside_22 at T; unfold fn_X8_beside_22 at E
    refine z_go hC (pc' := 30) (ls' := [some (.ref 20), some (.int a1), some (.int a2), some (.int (s1 + s0)), none, none, none, none, none]) (st' := [.int (nI 1), .int a2, .int (a1 - a1 / (nI 6) * (nI 6))]) (h' := h) (cs := [¬ (nI 6) = 0]) [.iadd, .istore_n 3, .iload_n 1, .bipush 6, .irem, .iload_n 2, .iconst 1] (by decide +kernel) rfl rfl (show ¬ (nI 6) = 0 by decide) ?_
    refine z_icmp_ne hC (off := 7) 37 (by decide +kernel) (by decide) (fun c27 => ?_) (fun c27 => ?_)
    · skip
      have E := (if_neg c27).symm.trans E
      have T := T.2 c27
      refine z_go hC (pc' := 39) (ls' := [some (.ref 20), some (.int a1), some (.int a2), some (.int (s1 + s0)), none, none, none, none, none]) (st' := [.int (nI 3), .int a2, .int (a1 - a1 / (nI 6) * (nI 6))]) (h' := h) (cs := []) [.iload_n 2, .iconst 3] (by decide +kernel) rfl rfl trivial ?_
      refine z_icmp_ne hC (off := 7) 46 (by decide +kernel) (by decide) (fun c28 => ?_) (fun c28 => ?_)
      · skip
        have E := (if_neg c28).symm.trans E
        have T := T.2 c28
        refine z_go hC (pc' := 47) (ls' := [some (.ref 20), some (.int a1), some (.int a2), some (.int (s1 + s0)), none, none, none, none, none]) (st' := [.int (nI 0), .int (a1 - a1 / (nI 6) * (nI 6))]) (h' := h) (cs := []) [.iconst 0] (by decide +kernel) rfl rfl trivial ?_
        refine z_less (ls' := [some (.ref 20), some (.int a1), none, some (.int (s1 + s0)), none, none, none, none, none]) (by simp [z_sub]) ?_
        exact P47  a1 (s1 + s0) (nI 0) (a1 - a1 / (nI 6) * (nI 6)) T E
      · skip
        have E := (if_pos c28).symm.trans E
        have T := T.1 c28
        refine z_go hC (pc' := 43) (ls' := [some (.ref 20), some (.int a1), some (.int a2), some (.int (s1 + s0)), none, none, none, none, none]) (st' := [.int (-1), .int (a1 - a1 / (nI 6) * (nI 6))]) (h' := h) (cs := []) [.iconst (-1)] (by decide +kernel) rfl rfl trivial ?_
        refine z_goto hC (off := 4) 47 (by decide +kernel) (by decide) ?_
        refine z_less (ls' := [some (.ref 20), some (.int a1), none, some (.int (s1 + s0)), none, none, none, none, none]) (by simp [z_sub]) ?_
        exact P47  a1 (s1 + s0) (-1) (a1 - a1 / (nI 6) * (nI 6)) T E
    · skip
      have E := (if_pos c27).symm.trans E
      have T := T.1 c27
      refine z_go hC (pc' := 34) (ls' := [some (.ref 20), some (.int a1), some (.int a2), some (.int (s1 + s0)), none, none, none, none, none]) (st' := [.int (nI 1), .int (a1 - a1 / (nI 6) * (nI 6))]) (h' := h) (cs := []) [.iconst 1] (by decide +kernel) rfl rfl trivial ?_
      refine z_goto hC (off := 13) 47 (by decide +kernel) (by decide) ?_
      refine z_less (ls' := [some (.ref 20), some (.int a1), none, some (.int (s1 + s0)), none, none, none, none, none]) (by simp [z_sub]) ?_
      exact P47  a1 (s1 + s0) (nI 1) (a1 - a1 / (nI 6) * (nI 6)) T E
  refine z_go hC (pc' := 5) (ls' := [some (.ref 20), some (.int x), some (.int y), none, none, none, none, none, none]) (st' := [.int y, .int (x / (nI 6))]) (h' := h) (cs := [¬ (nI 6) = 0]) [.iload_n 1, .bipush 6, .idiv, .iload_n 2] (by decide +kernel) rfl rfl (show ¬ (nI 6) = 0 by decide) ?_
  refine z_if_ne hC (off := 7) 12 (by decide +kernel) (by decide) (fun c29 => ?_) (fun c29 => ?_)
  · skip
    have E := (if_neg c29).symm.trans E
    have T := T.2 c29
    refine z_go hC (pc' := 14) (ls' := [some (.ref 20), some (.int x), some (.int y), none, none, none, none, none, none]) (st' := [.int (nI 2), .int y, .int (x / (nI 6))]) (h' := h) (cs := []) [.iload_n 2, .iconst 2] (by decide +kernel) rfl rfl trivial ?_
    refine z_icmp_ne hC (off := 7) 21 (by decide +kernel) (by decide) (fun c30 => ?_) (fun c30 => ?_)
    · skip
      have E := (if_neg c30).symm.trans E
      have T := T.2 c30
      refine z_go hC (pc' := 22) (ls' := [some (.ref 20), some (.int x), some (.int y), none, none, none, none, none, none]) (st' := [.int (nI 0), .int (x / (nI 6))]) (h' := h) (cs := []) [.iconst 0] (by decide +kernel) rfl rfl trivial ?_
      exact P22  x y (nI 0) (x / (nI 6)) T E
    · skip
      have E := (if_pos c30).symm.trans E
      have T := T.1 c30
      refine z_go hC (pc' := 18) (ls' := [some (.ref 20), some (.int x), some (.int y), none, none, none, none, none, none]) (st' := [.int (nI 1), .int (x / (nI 6))]) (h' := h) (cs := []) [.iconst 1] (by decide +kernel) rfl rfl trivial ?_
      refine z_goto hC (off := 4) 22 (by decide +kernel) (by decide) ?_
      exact P22  x y (nI 1) (x / (nI 6)) T E
  · skip
    have E := (if_pos c29).symm.trans E
    have T := T.1 c29
    refine z_go hC (pc' := 9) (ls' := [some (.ref 20), some (.int x), some (.int y), none, none, none, none, none, none]) (st' := [.int (-1), .int (x / (nI 6))]) (h' := h) (cs := []) [.iconst (-1)] (by decide +kernel) rfl rfl trivial ?_
    refine z_goto hC (off := 13) 22 (by decide +kernel) (by decide) ?_
    exact P22  x y (-1) (x / (nI 6)) T E

def fn_X8_isOn_52 (h : z_H) (k26 : Int32 → Int32 → Int32 → Int32 → (Option Value)) (a1 : Int32) (a2 : Int32) (a4 : Int32) (s0 : Int32) : (Option Value) := k26 a1 a2 s0 (a4 + (nI 1))
def tk_X8_isOn_52 (h : z_H) (K26 : Int32 → Int32 → Int32 → Int32 → Prop) (a1 : Int32) (a2 : Int32) (a4 : Int32) (s0 : Int32) : Prop := K26 a1 a2 s0 (a4 + (nI 1))
def fn_X8_isOn_47 (h : z_H) (k26 : Int32 → Int32 → Int32 → Int32 → (Option Value)) (a1 : Int32) (a2 : Int32) (a4 : Int32) : (Option Value) := fn_X8_isOn_52 h k26 a1 a2 a4 (nI 1)
def tk_X8_isOn_47 (h : z_H) (K26 : Int32 → Int32 → Int32 → Int32 → Prop) (a1 : Int32) (a2 : Int32) (a4 : Int32) : Prop := tk_X8_isOn_52 h K26 a1 a2 a4 (nI 1)
def fn_X8_isOn_26 (h : z_H)  : Nat → Int32 → Int32 → Int32 → Int32 → (Option Value)
  | 0, _, _, _, _ => none
  | n + 1, a1, a2, a3, a4 => let k26 := fun (a1_ : Int32) (a2_ : Int32) (a3_ : Int32) (a4_ : Int32) => fn_X8_isOn_26 h  n a1_ a2_ a3_ a4_; if a2 ≤ a4 then some (.int a3) else if a3 = 0 then if (h.1 28 a4.toNatClampNeg) = a1 then fn_X8_isOn_47 h k26 a1 a2 a4 else fn_X8_isOn_52 h k26 a1 a2 a4 (nI 0) else fn_X8_isOn_47 h k26 a1 a2 a4
def tk_X8_isOn_26 (h : z_H)  : Nat → Int32 → Int32 → Int32 → Int32 → Prop
  | 0, _, _, _, _ => False
  | n + 1, a1, a2, a3, a4 => let K26 := fun (a1_ : Int32) (a2_ : Int32) (a3_ : Int32) (a4_ : Int32) => tk_X8_isOn_26 h  n a1_ a2_ a3_ a4_; ((a2 ≤ a4) → ((a3 = 0 ∨ a3 = 1))) ∧ ((¬ a2 ≤ a4) → (((a3 = 0) → (vp_in a4 37 ∧ ((((h.1 28 a4.toNatClampNeg) = a1) → (tk_X8_isOn_47 h K26 a1 a2 a4)) ∧ ((¬ (h.1 28 a4.toNatClampNeg) = a1) → (tk_X8_isOn_52 h K26 a1 a2 a4 (nI 0)))))) ∧ ((¬ a3 = 0) → (tk_X8_isOn_47 h K26 a1 a2 a4))))
def fn_X8_isOn_20 (h : z_H)  (a1 : Int32) (s0 : Int32) : (Option Value) := fn_X8_isOn_26 h 2000 a1 s0 (nI 0) (nI 0)
def tk_X8_isOn_20 (h : z_H)  (a1 : Int32) (s0 : Int32) : Prop := tk_X8_isOn_26 h 2000 a1 s0 (nI 0) (nI 0)
def fn_X8_isOn (x : Int32) (h : z_H) : (Option Value) := if (h.1 20 13) ≤ 0 then fn_X8_isOn_20 h x ((h.1 20 12) - (nI 1)) else fn_X8_isOn_20 h x (h.1 20 12)
def tk_X8_isOn (x : Int32) (h : z_H) : Prop := (((h.1 20 13) ≤ 0) → (tk_X8_isOn_20 h x ((h.1 20 12) - (nI 1)))) ∧ ((¬ (h.1 20 13) ≤ 0) → (tk_X8_isOn_20 h x (h.1 20 12)))
set_option maxHeartbeats 4000000 in
set_option maxRecDepth 100000 in
theorem sp_X8_isOn (l : Launch) (ext : z_Sh)  (h : z_H) (x : Int32)  (T : tk_X8_isOn x h) : z_Sp l 0 yX8_isOn cX8_isOn 5 (some .boolean) [.ref 20, .int x] (z_m ext) h (z_QB h (fn_X8_isOn x h)) := by
  refine z_enter ft_X8 (by decide +kernel) fo_X8 (Nat.le_of_ble_eq_true rfl) ?_
  intro p e R s m args below meth c D dA ad hB
  have hC := hB.1
  have hN := hB.2.1
  have hR := hB.2.2.1
  unfold tk_X8_isOn at T; have E : (if (h.1 20 13) ≤ 0 then fn_X8_isOn_20 h x ((h.1 20 12) - (nI 1)) else fn_X8_isOn_20 h x (h.1 20 12)) = fn_X8_isOn x h := rfl
  generalize fn_X8_isOn x h = RR at E ⊢
  have P52 : ∀ (k26 : Int32 → Int32 → Int32 → Int32 → (Option Value)) (K26 : Int32 → Int32 → Int32 → Int32 → Prop) (hk26 : ∀ (a1 : Int32) (a2 : Int32) (a3 : Int32) (a4 : Int32), K26 a1 a2 a3 a4 → k26 a1 a2 a3 a4 = RR → z_G p l e R s m args below meth c D dA ad 5 (z_QB h RR) (z_m ext) 26 [some (.ref 20), some (.int a1), some (.int a2), some (.int a3), some (.int a4)] [] h), ∀ (a1 : Int32) (a2 : Int32) (a4 : Int32) (s0 : Int32), tk_X8_isOn_52 h K26 a1 a2 a4 s0 → fn_X8_isOn_52 h k26 a1 a2 a4 s0 = RR → z_G p l e R s m args below meth c D dA ad 5 (z_QB h RR) (z_m ext) 52 [some (.ref 20), some (.int a1), some (.int a2), none, some (.int a4)] [.int s0] h := by
    intro k26 K26 hk26 a1 a2 a4 s0 T E
    unfold tk_X8_isOn_52 at T; unfold fn_X8_isOn_52 at E
    refine z_go hC (pc' := 56) (ls' := [some (.ref 20), some (.int a1), some (.int a2), some (.int s0), some (.int (a4 + (nI 1)))]) (st' := []) (h' := h) (cs := []) [.istore_n 3, .iinc 4 1] (by decide +kernel) rfl rfl trivial ?_
    refine z_goto hC (off := -30) 26 (by decide +kernel) (by decide) ?_
    exact hk26 a1 a2 s0 (a4 + (nI 1)) T E
  have P47 : ∀ (k26 : Int32 → Int32 → Int32 → Int32 → (Option Value)) (K26 : Int32 → Int32 → Int32 → Int32 → Prop) (hk26 : ∀ (a1 : Int32) (a2 : Int32) (a3 : Int32) (a4 : Int32), K26 a1 a2 a3 a4 → k26 a1 a2 a3 a4 = RR → z_G p l e R s m args below meth c D dA ad 5 (z_QB h RR) (z_m ext) 26 [some (.ref 20), some (.int a1), some (.int a2), some (.int a3), some (.int a4)] [] h), ∀ (a1 : Int32) (a2 : Int32) (a4 : Int32), tk_X8_isOn_47 h K26 a1 a2 a4 → fn_X8_isOn_47 h k26 a1 a2 a4 = RR → z_G p l e R s m args below meth c D dA ad 5 (z_QB h RR) (z_m ext) 47 [some (.ref 20), some (.int a1), some (.int a2), none, some (.int a4)] [] h := by
    intro k26 K26 hk26 a1 a2 a4 T E
    unfold tk_X8_isOn_47 at T; unfold fn_X8_isOn_47 at E
    refine z_go hC (pc' := 48) (ls' := [some (.ref 20), some (.int a1), some (.int a2), none, some (.int a4)]) (st' := [.int (nI 1)]) (h' := h) (cs := []) [.iconst 1] (by decide +kernel) rfl rfl trivial ?_
    refine z_goto hC (off := 4) 52 (by decide +kernel) (by decide) ?_
    exact P52 _ _ hk26 a1 a2 a4 (nI 1) T E
  have P26 : ∀ (n : Nat), ∀ (a1 : Int32) (a2 : Int32) (a3 : Int32) (a4 : Int32), tk_X8_isOn_26 h  n a1 a2 a3 a4 → fn_X8_isOn_26 h  n a1 a2 a3 a4 = RR → z_G p l e R s m args below meth c D dA ad 5 (z_QB h RR) (z_m ext) 26 [some (.ref 20), some (.int a1), some (.int a2), some (.int a3), some (.int a4)] [] h := by
    intro  n
    induction n with
    | zero => intro a1 a2 a3 a4 T E; exact False.elim T
    | succ n ih =>
      intro a1 a2 a3 a4 T E
      unfold tk_X8_isOn_26 at T; unfold fn_X8_isOn_26 at E; dsimp only at T E
      have hk26 := ih
      refine z_go hC (pc' := 29) (ls' := [some (.ref 20), some (.int a1), some (.int a2), some (.int a3), some (.int a4)]) (st' := [.int a2, .int a4]) (h' := h) (cs := []) [.iload 4, .iload_n 2] (by decide +kernel) rfl rfl trivial ?_
      refine z_icmp_ge hC (off := 30) 59 (by decide +kernel) (by decide) (fun c1 => ?_) (fun c1 => ?_)
      · skip
        have E := (if_pos c1).symm.trans E
        have T := T.1 c1
        refine z_go hC (pc' := 60) (ls' := [some (.ref 20), some (.int a1), some (.int a2), some (.int a3), some (.int a4)]) (st' := [.int a3]) (h' := h) (cs := []) [.iload_n 3] (by decide +kernel) rfl rfl trivial ?_
        have t2 := T
        exact z_ret_z hB rfl t2 (by decide +kernel) (z_lfb0 t2 E)
      · skip
        have E := (if_neg c1).symm.trans E
        have T := T.2 c1
        refine z_go hC (pc' := 33) (ls' := [some (.ref 20), some (.int a1), some (.int a2), some (.int a3), some (.int a4)]) (st' := [.int a3]) (h' := h) (cs := []) [.iload_n 3] (by decide +kernel) rfl rfl trivial ?_
        refine z_if_ne hC (off := 14) 47 (by decide +kernel) (by decide) (fun c3 => ?_) (fun c3 => ?_)
        · skip
          have E := (if_neg c3).symm.trans E
          have T := T.2 c3
          refine z_less (ls' := [some (.ref 20), some (.int a1), some (.int a2), none, some (.int a4)]) (by simp [z_sub]) ?_
          exact P47 _ _ hk26 a1 a2 a4 T E
        · skip
          have E := (if_pos c3).symm.trans E
          have T := T.1 c3
          obtain ⟨t4, T⟩ := T
          refine z_go hC (pc' := 44) (ls' := [some (.ref 20), some (.int a1), some (.int a2), some (.int a3), some (.int a4)]) (st' := [.int a1, .int (h.1 28 a4.toNatClampNeg)]) (h' := h) (cs := [vp_in a4 37]) [.aload_n 0, .getfield 32, .iload 4, .iaload, .iload_n 1] (by decide +kernel) rfl rfl t4 ?_
          refine z_icmp_ne hC (off := 7) 51 (by decide +kernel) (by decide) (fun c5 => ?_) (fun c5 => ?_)
          · skip
            have E := (if_neg c5).symm.trans E
            have T := T.2 c5
            refine z_go hC (pc' := 52) (ls' := [some (.ref 20), some (.int a1), some (.int a2), some (.int a3), some (.int a4)]) (st' := [.int (nI 0)]) (h' := h) (cs := []) [.iconst 0] (by decide +kernel) rfl rfl trivial ?_
            refine z_less (ls' := [some (.ref 20), some (.int a1), some (.int a2), none, some (.int a4)]) (by simp [z_sub]) ?_
            exact P52 _ _ hk26 a1 a2 a4 (nI 0) T E
          · skip
            have E := (if_pos c5).symm.trans E
            have T := T.1 c5
            refine z_less (ls' := [some (.ref 20), some (.int a1), some (.int a2), none, some (.int a4)]) (by simp [z_sub]) ?_
            exact P47 _ _ hk26 a1 a2 a4 T E
  have P20 : ∀ (a1 : Int32) (s0 : Int32), tk_X8_isOn_20 h  a1 s0 → fn_X8_isOn_20 h  a1 s0 = RR → z_G p l e R s m args below meth c D dA ad 5 (z_QB h RR) (z_m ext) 20 [some (.ref 20), some (.int a1), none, none, none] [.int s0] h := by
    intro  a1 s0 T E
    unfold tk_X8_isOn_20 at T; unfold fn_X8_isOn_20 at E
    refine z_go hC (pc' := 26) (ls' := [some (.ref 20), some (.int a1), some (.int s0), some (.int (nI 0)), some (.int (nI 0))]) (st' := []) (h' := h) (cs := []) [.istore_n 2, .iconst 0, .istore_n 3, .iconst 0, .istore 4] (by decide +kernel) rfl rfl trivial ?_
    exact P26 2000 a1 s0 (nI 0) (nI 0) T E
  refine z_go hC (pc' := 4) (ls' := [some (.ref 20), some (.int x), none, none, none]) (st' := [.int (h.1 20 13)]) (h' := h) (cs := []) [.aload_n 0, .getfield 114] (by decide +kernel) rfl rfl trivial ?_
  refine z_if_le hC (off := 10) 14 (by decide +kernel) (by decide) (fun c6 => ?_) (fun c6 => ?_)
  · skip
    have E := (if_pos c6).symm.trans E
    have T := T.1 c6
    refine z_go hC (pc' := 20) (ls' := [some (.ref 20), some (.int x), none, none, none]) (st' := [.int ((h.1 20 12) - (nI 1))]) (h' := h) (cs := []) [.aload_n 0, .getfield 111, .iconst 1, .isub] (by decide +kernel) rfl rfl trivial ?_
    exact P20  x ((h.1 20 12) - (nI 1)) T E
  · skip
    have E := (if_neg c6).symm.trans E
    have T := T.2 c6
    refine z_go hC (pc' := 11) (ls' := [some (.ref 20), some (.int x), none, none, none]) (st' := [.int (h.1 20 12)]) (h' := h) (cs := []) [.aload_n 0, .getfield 111] (by decide +kernel) rfl rfl trivial ?_
    refine z_goto hC (off := 9) 20 (by decide +kernel) (by decide) ?_
    exact P20  x (h.1 20 12) T E

def fn_X8_isDeadly (x : Int32) (h : z_H) : (Option Value) := if (z_vi0 (fn_X8_beside (h.1 28 ((nI 0).toNatClampNeg)) x h)) = (-1) then some (.int (nI 1)) else if (z_vi0 (fn_X8_isOn (z_vi0 (fn_X8_beside (h.1 28 ((nI 0).toNatClampNeg)) x h)) h)) = 0 then some (.int (nI 0)) else some (.int (nI 1))
def tk_X8_isDeadly (x : Int32) (h : z_H) : Prop := tk_X8_beside (h.1 28 ((nI 0).toNatClampNeg)) x h ∧ ((((z_vi0 (fn_X8_beside (h.1 28 ((nI 0).toNatClampNeg)) x h)) = (-1)) → (True)) ∧ ((¬ (z_vi0 (fn_X8_beside (h.1 28 ((nI 0).toNatClampNeg)) x h)) = (-1)) → (tk_X8_isOn (z_vi0 (fn_X8_beside (h.1 28 ((nI 0).toNatClampNeg)) x h)) h)))
set_option maxHeartbeats 4000000 in
set_option maxRecDepth 100000 in
theorem sp_X8_isDeadly (l : Launch) (ext : z_Sh)  (h : z_H) (x : Int32)  (T : tk_X8_isDeadly x h) : z_Sp l 4 yX8_isDeadly cX8_isDeadly 3 (some .boolean) [.ref 20, .int x] (z_m ext) h (z_QB h (fn_X8_isDeadly x h)) := by
  refine z_enter ft_X8 (by decide +kernel) fo_X8 (Nat.le_of_ble_eq_true rfl) ?_
  intro p e R s m args below meth c D dA ad hB
  have hC := hB.1
  have hN := hB.2.1
  have hR := hB.2.2.1
  unfold tk_X8_isDeadly at T; have E : (if (z_vi0 (fn_X8_beside (h.1 28 ((nI 0).toNatClampNeg)) x h)) = (-1) then some (.int (nI 1)) else if (z_vi0 (fn_X8_isOn (z_vi0 (fn_X8_beside (h.1 28 ((nI 0).toNatClampNeg)) x h)) h)) = 0 then some (.int (nI 0)) else some (.int (nI 1))) = fn_X8_isDeadly x h := rfl
  generalize fn_X8_isDeadly x h = RR at E ⊢
  refine z_go hC (pc' := 8) (ls' := [some (.ref 20), some (.int x), none]) (st' := [.int x, .int (h.1 28 ((nI 0).toNatClampNeg)), .ref 20]) (h' := h) (cs := [vp_in (nI 0) 37]) [.aload_n 0, .aload_n 0, .getfield 32, .iconst 0, .iaload, .iload_n 1] (by decide +kernel) rfl rfl (vp_in_nI (n := 0) (N := 37) (by decide) (by decide)) ?_
  obtain ⟨t4, T⟩ := T
  refine z_callV hC hN hR (as := [.int (h.1 28 ((nI 0).toNatClampNeg)), .int x]) (rest := []) ok_X8_117 (by decide +kernel) (sp_X8_beside l _ h (h.1 28 ((nI 0).toNatClampNeg)) x t4) rfl rfl (Nat.le_of_ble_eq_true rfl) rfl rfl (Nat.le_of_ble_eq_true rfl) ⟨Nat.zero_le _, Nat.zero_le _⟩ (fun r1 h2 q3 => z_fun q3 ?_)
  refine z_go hC (pc' := 14) (ls' := [some (.ref 20), some (.int x), some (.int (z_vi0 (fn_X8_beside (h.1 28 ((nI 0).toNatClampNeg)) x h)))]) (st' := [.int (-1), .int (z_vi0 (fn_X8_beside (h.1 28 ((nI 0).toNatClampNeg)) x h))]) (h' := h) (cs := []) [.istore_n 2, .iload_n 2, .iconst (-1)] (by decide +kernel) rfl rfl trivial ?_
  refine z_icmp_eq hC (off := 11) 25 (by decide +kernel) (by decide) (fun c5 => ?_) (fun c5 => ?_)
  · skip
    have E := (if_pos c5).symm.trans E
    have T := T.1 c5
    refine z_go hC (pc' := 26) (ls' := [some (.ref 20), some (.int x), some (.int (z_vi0 (fn_X8_beside (h.1 28 ((nI 0).toNatClampNeg)) x h)))]) (st' := [.int (nI 1)]) (h' := h) (cs := []) [.iconst 1] (by decide +kernel) rfl rfl trivial ?_
    refine z_goto hC (off := 4) 30 (by decide +kernel) (by decide) ?_
    exact z_ret_z hB rfl (show (nI 1 = 0 ∨ nI 1 = 1) by decide) (by decide +kernel) (z_lfb0 (show (nI 1 = 0 ∨ nI 1 = 1) by decide) E)
  · skip
    have E := (if_neg c5).symm.trans E
    have T := T.2 c5
    refine z_go hC (pc' := 19) (ls' := [some (.ref 20), some (.int x), some (.int (z_vi0 (fn_X8_beside (h.1 28 ((nI 0).toNatClampNeg)) x h)))]) (st' := [.int (z_vi0 (fn_X8_beside (h.1 28 ((nI 0).toNatClampNeg)) x h)), .ref 20]) (h' := h) (cs := []) [.aload_n 0, .iload_n 2] (by decide +kernel) rfl rfl trivial ?_
    have t9 := T
    refine z_callV hC hN hR (as := [.int (z_vi0 (fn_X8_beside (h.1 28 ((nI 0).toNatClampNeg)) x h))]) (rest := []) ok_X8_120 (by decide +kernel) (sp_X8_isOn l _ h (z_vi0 (fn_X8_beside (h.1 28 ((nI 0).toNatClampNeg)) x h)) t9) rfl rfl (Nat.le_of_ble_eq_true rfl) rfl rfl (Nat.le_of_ble_eq_true rfl) ⟨Nat.zero_le _, Nat.zero_le _⟩ (fun r6 h7 q8 => z_funb q8 (fun z10 => ?_))
    refine z_if_eq hC (off := 7) 29 (by decide +kernel) (by decide) (fun c11 => ?_) (fun c11 => ?_)
    · skip
      have E := (if_pos c11).symm.trans E
      refine z_go hC (pc' := 30) (ls' := [some (.ref 20), some (.int x), some (.int (z_vi0 (fn_X8_beside (h.1 28 ((nI 0).toNatClampNeg)) x h)))]) (st' := [.int (nI 0)]) (h' := h) (cs := []) [.iconst 0] (by decide +kernel) rfl rfl trivial ?_
      exact z_ret_z hB rfl (show (nI 0 = 0 ∨ nI 0 = 1) by decide) (by decide +kernel) (z_lfb0 (show (nI 0 = 0 ∨ nI 0 = 1) by decide) E)
    · skip
      have E := (if_neg c11).symm.trans E
      refine z_go hC (pc' := 26) (ls' := [some (.ref 20), some (.int x), some (.int (z_vi0 (fn_X8_beside (h.1 28 ((nI 0).toNatClampNeg)) x h)))]) (st' := [.int (nI 1)]) (h' := h) (cs := []) [.iconst 1] (by decide +kernel) rfl rfl trivial ?_
      refine z_goto hC (off := 4) 30 (by decide +kernel) (by decide) ?_
      exact z_ret_z hB rfl (show (nI 1 = 0 ∨ nI 1 = 1) by decide) (by decide +kernel) (z_lfb0 (show (nI 1 = 0 ∨ nI 1 = 1) by decide) E)

def fn_X8_goOn_131  : Nat → Int32 → z_H → z_R
  | 0, _, h => (none, h)
  | n + 1, a3, h => let k131 := fun (a3_ : Int32) (h_ : z_H) => fn_X8_goOn_131  n a3_ h_; if (h.1 20 8) ≤ a3 then (none, h) else k131 (a3 + (nI 1)) (z_set h 27 a3.toNatClampNeg (h.1 27 ((a3 + (nI 1)).toNatClampNeg)))
def tk_X8_goOn_131  : Nat → Int32 → z_H → Prop
  | 0, _, _ => False
  | n + 1, a3, h => let K131 := fun (a3_ : Int32) (h_ : z_H) => tk_X8_goOn_131  n a3_ h_; (((h.1 20 8) ≤ a3) → (True)) ∧ ((¬ (h.1 20 8) ≤ a3) → (vp_in (a3 + (nI 1)) 40 ∧ vp_in a3 40 ∧ (K131 (a3 + (nI 1)) (z_set h 27 a3.toNatClampNeg (h.1 27 ((a3 + (nI 1)).toNatClampNeg))))))
def fn_X8_goOn_61  : Nat → Int32 → Int32 → z_H → z_R
  | 0, _, _, h => (none, h)
  | n + 1, a2, a3, h => let k61 := fun (a2_ : Int32) (a3_ : Int32) (h_ : z_H) => fn_X8_goOn_61  n a2_ a3_ h_; if a3 ≤ 0 then if (h.1 20 8) ≤ 0 then (none, z_set h 28 ((nI 0).toNatClampNeg) a2) else if (h.1 27 ((nI 0).toNatClampNeg)) = a2 then fn_X8_goOn_131 2000 (nI 0) (z_set (z_set (z_set h 28 ((nI 0).toNatClampNeg) a2) 20 8 ((h.1 20 8) - (nI 1))) 20 13 ((h.1 20 13) + (nI 2))) else (none, z_set h 28 ((nI 0).toNatClampNeg) a2) else k61 a2 (a3 + (z_bi (-1))) (z_set h 28 a3.toNatClampNeg (h.1 28 ((a3 - (nI 1)).toNatClampNeg)))
def tk_X8_goOn_61  : Nat → Int32 → Int32 → z_H → Prop
  | 0, _, _, _ => False
  | n + 1, a2, a3, h => let K61 := fun (a2_ : Int32) (a3_ : Int32) (h_ : z_H) => tk_X8_goOn_61  n a2_ a3_ h_; ((a3 ≤ 0) → ((((h.1 20 8) ≤ 0) → (True)) ∧ ((¬ (h.1 20 8) ≤ 0) → ((((h.1 27 ((nI 0).toNatClampNeg)) = a2) → (tk_X8_goOn_131 2000 (nI 0) (z_set (z_set (z_set h 28 ((nI 0).toNatClampNeg) a2) 20 8 ((h.1 20 8) - (nI 1))) 20 13 ((h.1 20 13) + (nI 2))))) ∧ ((¬ (h.1 27 ((nI 0).toNatClampNeg)) = a2) → (True)))))) ∧ ((¬ a3 ≤ 0) → (vp_in (a3 - (nI 1)) 37 ∧ vp_in a3 37 ∧ (K61 a2 (a3 + (z_bi (-1))) (z_set h 28 a3.toNatClampNeg (h.1 28 ((a3 - (nI 1)).toNatClampNeg))))))
def fn_X8_goOn_50  (a2 : Int32) (s0 : Int32) (s1 : Int32) (h : z_H) : z_R := fn_X8_goOn_61 2000 a2 ((h.1 20 12) - (nI 1)) (z_set h 20 13 (s1 - s0))
def tk_X8_goOn_50  (a2 : Int32) (s0 : Int32) (s1 : Int32) (h : z_H) : Prop := tk_X8_goOn_61 2000 a2 ((h.1 20 12) - (nI 1)) (z_set h 20 13 (s1 - s0))
def fn_X8_goOn_29  (a2 : Int32) (s0 : Int32) (s1 : Int32) (h : z_H) : z_R := if (h.1 20 13) ≤ 0 then fn_X8_goOn_50 a2 (nI 0) (h.1 20 13) (z_set h 20 12 (s1 + s0)) else fn_X8_goOn_50 a2 (nI 1) (h.1 20 13) (z_set h 20 12 (s1 + s0))
def tk_X8_goOn_29  (a2 : Int32) (s0 : Int32) (s1 : Int32) (h : z_H) : Prop := (((h.1 20 13) ≤ 0) → (tk_X8_goOn_50 a2 (nI 0) (h.1 20 13) (z_set h 20 12 (s1 + s0)))) ∧ ((¬ (h.1 20 13) ≤ 0) → (tk_X8_goOn_50 a2 (nI 1) (h.1 20 13) (z_set h 20 12 (s1 + s0))))
def fn_X8_goOn (x : Int32) (h : z_H) : z_R := if (h.1 20 13) ≤ 0 then fn_X8_goOn_29 (z_vi0 (fn_X8_beside (h.1 28 ((nI 0).toNatClampNeg)) x h)) (nI 0) (h.1 20 12) h else fn_X8_goOn_29 (z_vi0 (fn_X8_beside (h.1 28 ((nI 0).toNatClampNeg)) x h)) (nI 1) (h.1 20 12) h
def tk_X8_goOn (x : Int32) (h : z_H) : Prop := tk_X8_beside (h.1 28 ((nI 0).toNatClampNeg)) x h ∧ ((((h.1 20 13) ≤ 0) → (tk_X8_goOn_29 (z_vi0 (fn_X8_beside (h.1 28 ((nI 0).toNatClampNeg)) x h)) (nI 0) (h.1 20 12) h)) ∧ ((¬ (h.1 20 13) ≤ 0) → (tk_X8_goOn_29 (z_vi0 (fn_X8_beside (h.1 28 ((nI 0).toNatClampNeg)) x h)) (nI 1) (h.1 20 12) h)))
set_option maxHeartbeats 4000000 in
set_option maxRecDepth 100000 in
theorem sp_X8_goOn (l : Launch) (ext : z_Sh)  (h : z_H) (x : Int32)  (T : tk_X8_goOn x h) : z_Sp l 4 yX8_goOn cX8_goOn 4 none [.ref 20, .int x] (z_m ext) h (z_PV (fn_X8_goOn x h)) := by
  refine z_enter ft_X8 (by decide +kernel) fo_X8 (Nat.le_of_ble_eq_true rfl) ?_
  intro p e R s m args below meth c D dA ad hB
  have hC := hB.1
  have hN := hB.2.1
  have hR := hB.2.2.1
  unfold tk_X8_goOn at T; have E : (if (h.1 20 13) ≤ 0 then fn_X8_goOn_29 (z_vi0 (fn_X8_beside (h.1 28 ((nI 0).toNatClampNeg)) x h)) (nI 0) (h.1 20 12) h else fn_X8_goOn_29 (z_vi0 (fn_X8_beside (h.1 28 ((nI 0).toNatClampNeg)) x h)) (nI 1) (h.1 20 12) h) = fn_X8_goOn x h := rfl
  generalize fn_X8_goOn x h = RR at E ⊢
  have P131 : ∀ (n : Nat), ∀ (a3 : Int32) (h : z_H), tk_X8_goOn_131  n a3 h → fn_X8_goOn_131  n a3 h = RR → z_G p l e R s m args below meth c D dA ad 4 (z_PV RR) (z_m ext) 131 [some (.ref 20), none, none, some (.int a3)] [] h := by
    intro  n
    induction n with
    | zero => intro a3 h T E; exact False.elim T
    | succ n ih =>
      intro a3 h T E
      unfold tk_X8_goOn_131 at T; unfold fn_X8_goOn_131 at E; dsimp only at T E
      have hk131 := ih
      refine z_go hC (pc' := 136) (ls' := [some (.ref 20), none, none, some (.int a3)]) (st' := [.int (h.1 20 8), .int a3]) (h' := h) (cs := []) [.iload_n 3, .aload_n 0, .getfield 95] (by decide +kernel) rfl rfl trivial ?_
      refine z_icmp_ge hC (off := 23) 159 (by decide +kernel) (by decide) (fun c1 => ?_) (fun c1 => ?_)
      · skip
        have E := (if_pos c1).symm.trans E
        have T := T.1 c1
        exact z_ret_v hB rfl (by decide +kernel) (z_lfv E)
      · skip
        have E := (if_neg c1).symm.trans E
        have T := T.2 c1
        obtain ⟨t2, t3, T⟩ := T
        refine z_go hC (pc' := 156) (ls' := [some (.ref 20), none, none, some (.int (a3 + (nI 1)))]) (st' := []) (h' := z_set h 27 a3.toNatClampNeg (h.1 27 ((a3 + (nI 1)).toNatClampNeg))) (cs := [vp_in (a3 + (nI 1)) 40, vp_in a3 40]) [.aload_n 0, .getfield 29, .iload_n 3, .aload_n 0, .getfield 29, .iload_n 3, .iconst 1, .iadd, .iaload, .iastore, .iinc 3 1] (by decide +kernel) rfl rfl ⟨t2, t3⟩ ?_
        refine z_goto hC (off := -25) 131 (by decide +kernel) (by decide) ?_
        exact hk131 (a3 + (nI 1)) (z_set h 27 a3.toNatClampNeg (h.1 27 ((a3 + (nI 1)).toNatClampNeg))) T E
  have P61 : ∀ (n : Nat), ∀ (a2 : Int32) (a3 : Int32) (h : z_H), tk_X8_goOn_61  n a2 a3 h → fn_X8_goOn_61  n a2 a3 h = RR → z_G p l e R s m args below meth c D dA ad 4 (z_PV RR) (z_m ext) 61 [some (.ref 20), none, some (.int a2), some (.int a3)] [] h := by
    intro  n
    induction n with
    | zero => intro a2 a3 h T E; exact False.elim T
    | succ n ih =>
      intro a2 a3 h T E
      unfold tk_X8_goOn_61 at T; unfold fn_X8_goOn_61 at E; dsimp only at T E
      have hk61 := ih
      refine z_go hC (pc' := 62) (ls' := [some (.ref 20), none, some (.int a2), some (.int a3)]) (st' := [.int a3]) (h' := h) (cs := []) [.iload_n 3] (by decide +kernel) rfl rfl trivial ?_
      refine z_if_le hC (off := 23) 85 (by decide +kernel) (by decide) (fun c4 => ?_) (fun c4 => ?_)
      · skip
        have E := (if_pos c4).symm.trans E
        have T := T.1 c4
        refine z_go hC (pc' := 96) (ls' := [some (.ref 20), none, some (.int a2), some (.int a3)]) (st' := [.int (h.1 20 8)]) (h' := z_set h 28 ((nI 0).toNatClampNeg) a2) (cs := [vp_in (nI 0) 37]) [.aload_n 0, .getfield 32, .iconst 0, .iload_n 2, .iastore, .aload_n 0, .getfield 95] (by decide +kernel) rfl rfl (vp_in_nI (n := 0) (N := 37) (by decide) (by decide)) ?_
        refine z_if_le hC (off := 63) 159 (by decide +kernel) (by decide) (fun c5 => ?_) (fun c5 => ?_)
        · skip
          have E := (if_pos c5).symm.trans E
          have T := T.1 c5
          exact z_ret_v hB rfl (by decide +kernel) (z_lfv E)
        · skip
          have E := (if_neg c5).symm.trans E
          have T := T.2 c5
          refine z_go hC (pc' := 106) (ls' := [some (.ref 20), none, some (.int a2), some (.int a3)]) (st' := [.int a2, .int (h.1 27 ((nI 0).toNatClampNeg))]) (h' := z_set h 28 ((nI 0).toNatClampNeg) a2) (cs := [vp_in (nI 0) 40]) [.aload_n 0, .getfield 29, .iconst 0, .iaload, .iload_n 2] (by decide +kernel) rfl rfl (vp_in_nI (n := 0) (N := 40) (by decide) (by decide)) ?_
          refine z_icmp_ne hC (off := 53) 159 (by decide +kernel) (by decide) (fun c6 => ?_) (fun c6 => ?_)
          · skip
            have E := (if_neg c6).symm.trans E
            have T := T.2 c6
            exact z_ret_v hB rfl (by decide +kernel) (z_lfv E)
          · skip
            have E := (if_pos c6).symm.trans E
            have T := T.1 c6
            refine z_go hC (pc' := 131) (ls' := [some (.ref 20), none, some (.int a2), some (.int (nI 0))]) (st' := []) (h' := z_set (z_set (z_set h 28 ((nI 0).toNatClampNeg) a2) 20 8 ((h.1 20 8) - (nI 1))) 20 13 ((h.1 20 13) + (nI 2))) (cs := []) [.aload_n 0, .dup, .getfield 95, .iconst 1, .isub, .putfield 95, .aload_n 0, .dup, .getfield 114, .iconst 2, .iadd, .putfield 114, .iconst 0, .istore_n 3] (by decide +kernel) rfl rfl trivial ?_
            refine z_less (ls' := [some (.ref 20), none, none, some (.int (nI 0))]) (by simp [z_sub]) ?_
            exact P131 2000 (nI 0) (z_set (z_set (z_set h 28 ((nI 0).toNatClampNeg) a2) 20 8 ((h.1 20 8) - (nI 1))) 20 13 ((h.1 20 13) + (nI 2))) T E
      · skip
        have E := (if_neg c4).symm.trans E
        have T := T.2 c4
        obtain ⟨t7, t8, T⟩ := T
        refine z_go hC (pc' := 82) (ls' := [some (.ref 20), none, some (.int a2), some (.int (a3 + (z_bi (-1))))]) (st' := []) (h' := z_set h 28 a3.toNatClampNeg (h.1 28 ((a3 - (nI 1)).toNatClampNeg))) (cs := [vp_in (a3 - (nI 1)) 37, vp_in a3 37]) [.aload_n 0, .getfield 32, .iload_n 3, .aload_n 0, .getfield 32, .iload_n 3, .iconst 1, .isub, .iaload, .iastore, .iinc 3 (-1)] (by decide +kernel) rfl rfl ⟨t7, t8⟩ ?_
        refine z_goto hC (off := -21) 61 (by decide +kernel) (by decide) ?_
        exact hk61 a2 (a3 + (z_bi (-1))) (z_set h 28 a3.toNatClampNeg (h.1 28 ((a3 - (nI 1)).toNatClampNeg))) T E
  have P50 : ∀ (a2 : Int32) (s0 : Int32) (s1 : Int32) (h : z_H), tk_X8_goOn_50  a2 s0 s1 h → fn_X8_goOn_50  a2 s0 s1 h = RR → z_G p l e R s m args below meth c D dA ad 4 (z_PV RR) (z_m ext) 50 [some (.ref 20), none, some (.int a2), none] [.int s0, .int s1, .ref 20] h := by
    intro  a2 s0 s1 h T E
    unfold tk_X8_goOn_50 at T; unfold fn_X8_goOn_50 at E
    refine z_go hC (pc' := 61) (ls' := [some (.ref 20), none, some (.int a2), some (.int ((h.1 20 12) - (nI 1)))]) (st' := []) (h' := z_set h 20 13 (s1 - s0)) (cs := []) [.isub, .putfield 114, .aload_n 0, .getfield 111, .iconst 1, .isub, .istore_n 3] (by decide +kernel) rfl rfl trivial ?_
    exact P61 2000 a2 ((h.1 20 12) - (nI 1)) (z_set h 20 13 (s1 - s0)) T E
  have P29 : ∀ (a2 : Int32) (s0 : Int32) (s1 : Int32) (h : z_H), tk_X8_goOn_29  a2 s0 s1 h → fn_X8_goOn_29  a2 s0 s1 h = RR → z_G p l e R s m args below meth c D dA ad 4 (z_PV RR) (z_m ext) 29 [some (.ref 20), none, some (.int a2), none] [.int s0, .int s1, .ref 20] h := by
    intro  a2 s0 s1 h T E
    unfold tk_X8_goOn_29 at T; unfold fn_X8_goOn_29 at E
    refine z_go hC (pc' := 42) (ls' := [some (.ref 20), none, some (.int a2), none]) (st' := [.int (h.1 20 13), .int (h.1 20 13), .ref 20]) (h' := z_set h 20 12 (s1 + s0)) (cs := []) [.iadd, .putfield 111, .aload_n 0, .dup, .getfield 114, .aload_n 0, .getfield 114] (by decide +kernel) rfl rfl trivial ?_
    refine z_if_le hC (off := 7) 49 (by decide +kernel) (by decide) (fun c9 => ?_) (fun c9 => ?_)
    · skip
      have E := (if_pos c9).symm.trans E
      have T := T.1 c9
      refine z_go hC (pc' := 50) (ls' := [some (.ref 20), none, some (.int a2), none]) (st' := [.int (nI 0), .int (h.1 20 13), .ref 20]) (h' := z_set h 20 12 (s1 + s0)) (cs := []) [.iconst 0] (by decide +kernel) rfl rfl trivial ?_
      exact P50  a2 (nI 0) (h.1 20 13) (z_set h 20 12 (s1 + s0)) T E
    · skip
      have E := (if_neg c9).symm.trans E
      have T := T.2 c9
      refine z_go hC (pc' := 46) (ls' := [some (.ref 20), none, some (.int a2), none]) (st' := [.int (nI 1), .int (h.1 20 13), .ref 20]) (h' := z_set h 20 12 (s1 + s0)) (cs := []) [.iconst 1] (by decide +kernel) rfl rfl trivial ?_
      refine z_goto hC (off := 4) 50 (by decide +kernel) (by decide) ?_
      exact P50  a2 (nI 1) (h.1 20 13) (z_set h 20 12 (s1 + s0)) T E
  refine z_go hC (pc' := 8) (ls' := [some (.ref 20), some (.int x), none, none]) (st' := [.int x, .int (h.1 28 ((nI 0).toNatClampNeg)), .ref 20]) (h' := h) (cs := [vp_in (nI 0) 37]) [.aload_n 0, .aload_n 0, .getfield 32, .iconst 0, .iaload, .iload_n 1] (by decide +kernel) rfl rfl (vp_in_nI (n := 0) (N := 37) (by decide) (by decide)) ?_
  obtain ⟨t13, T⟩ := T
  refine z_callV hC hN hR (as := [.int (h.1 28 ((nI 0).toNatClampNeg)), .int x]) (rest := []) ok_X8_117 (by decide +kernel) (sp_X8_beside l _ h (h.1 28 ((nI 0).toNatClampNeg)) x t13) rfl rfl (Nat.le_of_ble_eq_true rfl) rfl rfl (Nat.le_of_ble_eq_true rfl) ⟨Nat.zero_le _, Nat.zero_le _⟩ (fun r10 h11 q12 => z_fun q12 ?_)
  refine z_go hC (pc' := 21) (ls' := [some (.ref 20), some (.int x), some (.int (z_vi0 (fn_X8_beside (h.1 28 ((nI 0).toNatClampNeg)) x h))), none]) (st' := [.int (h.1 20 13), .int (h.1 20 12), .ref 20]) (h' := h) (cs := []) [.istore_n 2, .aload_n 0, .dup, .getfield 111, .aload_n 0, .getfield 114] (by decide +kernel) rfl rfl trivial ?_
  refine z_if_le hC (off := 7) 28 (by decide +kernel) (by decide) (fun c14 => ?_) (fun c14 => ?_)
  · skip
    have E := (if_pos c14).symm.trans E
    have T := T.1 c14
    refine z_go hC (pc' := 29) (ls' := [some (.ref 20), some (.int x), some (.int (z_vi0 (fn_X8_beside (h.1 28 ((nI 0).toNatClampNeg)) x h))), none]) (st' := [.int (nI 0), .int (h.1 20 12), .ref 20]) (h' := h) (cs := []) [.iconst 0] (by decide +kernel) rfl rfl trivial ?_
    refine z_less (ls' := [some (.ref 20), none, some (.int (z_vi0 (fn_X8_beside (h.1 28 ((nI 0).toNatClampNeg)) x h))), none]) (by simp [z_sub]) ?_
    exact P29  (z_vi0 (fn_X8_beside (h.1 28 ((nI 0).toNatClampNeg)) x h)) (nI 0) (h.1 20 12) h T E
  · skip
    have E := (if_neg c14).symm.trans E
    have T := T.2 c14
    refine z_go hC (pc' := 25) (ls' := [some (.ref 20), some (.int x), some (.int (z_vi0 (fn_X8_beside (h.1 28 ((nI 0).toNatClampNeg)) x h))), none]) (st' := [.int (nI 1), .int (h.1 20 12), .ref 20]) (h' := h) (cs := []) [.iconst 1] (by decide +kernel) rfl rfl trivial ?_
    refine z_goto hC (off := 4) 29 (by decide +kernel) (by decide) ?_
    refine z_less (ls' := [some (.ref 20), none, some (.int (z_vi0 (fn_X8_beside (h.1 28 ((nI 0).toNatClampNeg)) x h))), none]) (by simp [z_sub]) ?_
    exact P29  (z_vi0 (fn_X8_beside (h.1 28 ((nI 0).toNatClampNeg)) x h)) (nI 1) (h.1 20 12) h T E

def fn_X8_step_24  (a1 : Int32) (s0 : Int32) (h : z_H) : z_R := if (fv_X8_goesWell h s0) = 0 then (some (.int (nI 0)), fh_X8_goesWell h s0) else if (z_vi0 (fn_X8_isDeadly a1 (fh_X8_goesWell h s0))) = 0 then (some (.int (((fn_X8_goOn a1 (fh_X8_goesWell h s0)).2).1 20 12)), (fn_X8_goOn a1 (fh_X8_goesWell h s0)).2) else (some (.int (nI 0)), z_set (fh_X8_goesWell h s0) 20 11 (nI 1))
def tk_X8_step_24  (a1 : Int32) (s0 : Int32) (h : z_H) : Prop := (((fv_X8_goesWell h s0) = 0) → (True)) ∧ ((¬ (fv_X8_goesWell h s0) = 0) → (tk_X8_isDeadly a1 (fh_X8_goesWell h s0) ∧ ((((z_vi0 (fn_X8_isDeadly a1 (fh_X8_goesWell h s0))) = 0) → (tk_X8_goOn a1 (fh_X8_goesWell h s0))) ∧ ((¬ (z_vi0 (fn_X8_isDeadly a1 (fh_X8_goesWell h s0))) = 0) → (True)))))
def fn_X8_step (x : Int32) (h : z_H) : z_R := if (fv_X8_isDirection x) = 0 then fn_X8_step_24 x (nI 1) h else if (fv_X8_lives h ) = 0 then fn_X8_step_24 x (nI 2) h else fn_X8_step_24 x (nI 0) h
def tk_X8_step (x : Int32) (h : z_H) : Prop := (((fv_X8_isDirection x) = 0) → (tk_X8_step_24 x (nI 1) h)) ∧ ((¬ (fv_X8_isDirection x) = 0) → ((((fv_X8_lives h ) = 0) → (tk_X8_step_24 x (nI 2) h)) ∧ ((¬ (fv_X8_lives h ) = 0) → (tk_X8_step_24 x (nI 0) h))))
set_option maxHeartbeats 4000000 in
set_option maxRecDepth 100000 in
theorem sp_X8_step (l : Launch) (ext : z_Sh)  (h : z_H) (x : Int32)  (T : tk_X8_step x h) : z_Sp l 5 yX8_step cX8_step 2 (some .int) [.ref 20, .int x] (z_m ext) h (z_PI (fn_X8_step x h)) := by
  refine z_enter ft_X8 (by decide +kernel) fo_X8 (Nat.le_of_ble_eq_true rfl) ?_
  intro p e R s m args below meth c D dA ad hB
  have hC := hB.1
  have hN := hB.2.1
  have hR := hB.2.2.1
  unfold tk_X8_step at T; have E : (if (fv_X8_isDirection x) = 0 then fn_X8_step_24 x (nI 1) h else if (fv_X8_lives h ) = 0 then fn_X8_step_24 x (nI 2) h else fn_X8_step_24 x (nI 0) h) = fn_X8_step x h := rfl
  generalize fn_X8_step x h = RR at E ⊢
  have P24 : ∀ (a1 : Int32) (s0 : Int32) (h : z_H), tk_X8_step_24  a1 s0 h → fn_X8_step_24  a1 s0 h = RR → z_G p l e R s m args below meth c D dA ad 2 (z_PI RR) (z_m ext) 24 [some (.ref 20), some (.int a1)] [.int s0, .ref 20] h := by
    intro  a1 s0 h T E
    unfold tk_X8_step_24 at T; unfold fn_X8_step_24 at E
    refine z_callV hC hN hR (as := [.int s0]) (rest := []) ok_X8_98 (by decide +kernel) (sp_X8_goesWell l _ h s0) rfl rfl (Nat.le_of_ble_eq_true rfl) rfl rfl (Nat.le_of_ble_eq_true rfl) ⟨Nat.zero_le _, Nat.zero_le _⟩ (fun r1 h2 q3 => z_fun q3 ?_)
    refine z_if_ne hC (off := 5) 32 (by decide +kernel) (by decide) (fun c4 => ?_) (fun c4 => ?_)
    · skip
      have E := (if_neg c4).symm.trans E
      have T := T.2 c4
      refine z_go hC (pc' := 34) (ls' := [some (.ref 20), some (.int a1)]) (st' := [.int a1, .ref 20]) (h' := fh_X8_goesWell h s0) (cs := []) [.aload_n 0, .iload_n 1] (by decide +kernel) rfl rfl trivial ?_
      obtain ⟨t8, T⟩ := T
      refine z_callV hC hN hR (as := [.int a1]) (rest := []) ok_X8_130 (by decide +kernel) (sp_X8_isDeadly l _ (fh_X8_goesWell h s0) a1 t8) rfl rfl (Nat.le_of_ble_eq_true rfl) rfl rfl (Nat.le_of_ble_eq_true rfl) ⟨Nat.zero_le _, Nat.zero_le _⟩ (fun r5 h6 q7 => z_funb q7 (fun z9 => ?_))
      refine z_if_eq hC (off := 10) 47 (by decide +kernel) (by decide) (fun c10 => ?_) (fun c10 => ?_)
      · skip
        have E := (if_pos c10).symm.trans E
        have T := T.1 c10
        refine z_go hC (pc' := 49) (ls' := [some (.ref 20), some (.int a1)]) (st' := [.int a1, .ref 20]) (h' := fh_X8_goesWell h s0) (cs := []) [.aload_n 0, .iload_n 1] (by decide +kernel) rfl rfl trivial ?_
        have t14 := T
        refine z_callV hC hN hR (as := [.int a1]) (rest := []) ok_X8_133 (by decide +kernel) (sp_X8_goOn l _ (fh_X8_goesWell h s0) a1 t14) rfl rfl (Nat.le_of_ble_eq_true rfl) rfl rfl (Nat.le_of_ble_eq_true rfl) ⟨Nat.zero_le _, Nat.zero_le _⟩ (fun r11 h12 q13 => z_fun q13 ?_)
        refine z_go hC (pc' := 56) (ls' := [some (.ref 20), some (.int a1)]) (st' := [.int (((fn_X8_goOn a1 (fh_X8_goesWell h s0)).2).1 20 12)]) (h' := (fn_X8_goOn a1 (fh_X8_goesWell h s0)).2) (cs := []) [.aload_n 0, .getfield 111] (by decide +kernel) rfl rfl trivial ?_
        exact z_ret_i hB rfl (by decide +kernel) (z_lfi E)
      · skip
        have E := (if_neg c10).symm.trans E
        have T := T.2 c10
        refine z_go hC (pc' := 46) (ls' := [some (.ref 20), some (.int a1)]) (st' := [.int (nI 0)]) (h' := z_set (fh_X8_goesWell h s0) 20 11 (nI 1)) (cs := [(nI 1 = 0 ∨ nI 1 = 1)]) [.aload_n 0, .iconst 1, .putfield 108, .iconst 0] (by decide +kernel) rfl rfl (show (nI 1 = 0 ∨ nI 1 = 1) by decide) ?_
        exact z_ret_i hB rfl (by decide +kernel) (z_lfi E)
    · skip
      have E := (if_pos c4).symm.trans E
      have T := T.1 c4
      refine z_go hC (pc' := 31) (ls' := [some (.ref 20), some (.int a1)]) (st' := [.int (nI 0)]) (h' := fh_X8_goesWell h s0) (cs := []) [.iconst 0] (by decide +kernel) rfl rfl trivial ?_
      exact z_ret_i hB rfl (by decide +kernel) (z_lfi E)
  refine z_go hC (pc' := 2) (ls' := [some (.ref 20), some (.int x)]) (st' := [.int x, .ref 20]) (h' := h) (cs := []) [.aload_n 0, .iload_n 1] (by decide +kernel) rfl rfl trivial ?_
  refine z_callS hC hN hR (as := [.int x]) (rest := [.ref 20]) ok_X8_123 (by decide +kernel) (sp_X8_isDirection l _ h x) (Nat.le_of_ble_eq_true rfl) rfl rfl (Nat.le_of_ble_eq_true rfl) ⟨Nat.zero_le _, Nat.zero_le _⟩ (fun r15 h16 q17 => z_fun q17 ?_)
  refine z_if_ne hC (off := 7) 12 (by decide +kernel) (by decide) (fun c18 => ?_) (fun c18 => ?_)
  · skip
    have E := (if_neg c18).symm.trans E
    have T := T.2 c18
    refine z_go hC (pc' := 13) (ls' := [some (.ref 20), some (.int x)]) (st' := [.ref 20, .ref 20]) (h' := h) (cs := []) [.aload_n 0] (by decide +kernel) rfl rfl trivial ?_
    refine z_callV hC hN hR (as := []) (rest := [.ref 20]) ok_X8_126 (by decide +kernel) (sp_X8_lives l _ h ) rfl rfl (Nat.le_of_ble_eq_true rfl) rfl rfl (Nat.le_of_ble_eq_true rfl) ⟨Nat.zero_le _, Nat.zero_le _⟩ (fun r19 h20 q21 => z_fun q21 ?_)
    refine z_if_eq hC (off := 7) 23 (by decide +kernel) (by decide) (fun c22 => ?_) (fun c22 => ?_)
    · skip
      have E := (if_pos c22).symm.trans E
      have T := T.1 c22
      refine z_go hC (pc' := 24) (ls' := [some (.ref 20), some (.int x)]) (st' := [.int (nI 2), .ref 20]) (h' := h) (cs := []) [.iconst 2] (by decide +kernel) rfl rfl trivial ?_
      exact P24  x (nI 2) h T E
    · skip
      have E := (if_neg c22).symm.trans E
      have T := T.2 c22
      refine z_go hC (pc' := 20) (ls' := [some (.ref 20), some (.int x)]) (st' := [.int (nI 0), .ref 20]) (h' := h) (cs := []) [.iconst 0] (by decide +kernel) rfl rfl trivial ?_
      refine z_goto hC (off := 4) 24 (by decide +kernel) (by decide) ?_
      exact P24  x (nI 0) h T E
  · skip
    have E := (if_pos c18).symm.trans E
    have T := T.1 c18
    refine z_go hC (pc' := 9) (ls' := [some (.ref 20), some (.int x)]) (st' := [.int (nI 1), .ref 20]) (h' := h) (cs := []) [.iconst 1] (by decide +kernel) rfl rfl trivial ?_
    refine z_goto hC (off := 15) 24 (by decide +kernel) (by decide) ?_
    exact P24  x (nI 1) h T E
