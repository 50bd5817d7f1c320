/-! ===== printed by wip/p27/gen: methods with loops, as functions ===== -/
def fn_X0_joinBy_100 (k69 : Int32 → Int32 → Int32 → z_H → z_R) (a4 : Int32) (a5 : Int32) (a6 : Int32) (h : z_H) : z_R := k69 a4 a5 (a6 + (nI 1)) h
def tk_X0_joinBy_100 (K69 : Int32 → Int32 → Int32 → z_H → Prop) (a4 : Int32) (a5 : Int32) (a6 : Int32) (h : z_H) : Prop := K69 a4 a5 (a6 + (nI 1)) h
def fn_X0_joinBy_69  : Nat → Int32 → Int32 → Int32 → z_H → z_R
  | 0, _, _, _, h => (none, h)
  | n + 1, a4, a5, a6, h => let k69 := fun (a4_ : Int32) (a5_ : Int32) (a6_ : Int32) (h_ : z_H) => fn_X0_joinBy_69  n a4_ a5_ a6_ h_; if (nI 9) ≤ a6 then (none, h) else if (h.1 3 a6.toNatClampNeg) = a5 then fn_X0_joinBy_100 k69 a4 a5 a6 (z_set h 3 a6.toNatClampNeg a4) else fn_X0_joinBy_100 k69 a4 a5 a6 h
def tk_X0_joinBy_69  : Nat → Int32 → Int32 → Int32 → z_H → Prop
  | 0, _, _, _, _ => False
  | n + 1, a4, a5, a6, h => let K69 := fun (a4_ : Int32) (a5_ : Int32) (a6_ : Int32) (h_ : z_H) => tk_X0_joinBy_69  n a4_ a5_ a6_ h_; (((nI 9) ≤ a6) → (True)) ∧ ((¬ (nI 9) ≤ a6) → (vp_in a6 9 ∧ ((((h.1 3 a6.toNatClampNeg) = a5) → (vp_in a6 9 ∧ (tk_X0_joinBy_100 K69 a4 a5 a6 (z_set h 3 a6.toNatClampNeg a4)))) ∧ ((¬ (h.1 3 a6.toNatClampNeg) = a5) → (tk_X0_joinBy_100 K69 a4 a5 a6 h)))))
def fn_X0_joinBy (x : Int32) (h : z_H) : z_R := if (fv_X0_hasWallOn h (fv_X0_firstBlockOf x)) = 0 then if (fv_X0_hasWallOn h (fv_X0_secondBlockOf x)) = 0 then if (z_atv h 3 9 (fv_X0_firstBlockOf x)) = (z_atv h 3 9 (fv_X0_secondBlockOf x)) then (none, h) else fn_X0_joinBy_69 2000 (z_atv h 3 9 (fv_X0_firstBlockOf x)) (z_atv h 3 9 (fv_X0_secondBlockOf x)) (nI 0) (z_set h 1 3 ((h.1 1 3) ||| ((nI 1) <<< (x &&& 31)))) else (none, h) else (none, h)
def tk_X0_joinBy (x : Int32) (h : z_H) : Prop := (((fv_X0_hasWallOn h (fv_X0_firstBlockOf x)) = 0) → ((((fv_X0_hasWallOn h (fv_X0_secondBlockOf x)) = 0) → ((((z_atv h 3 9 (fv_X0_firstBlockOf x)) = (z_atv h 3 9 (fv_X0_secondBlockOf x))) → (True)) ∧ ((¬ (z_atv h 3 9 (fv_X0_firstBlockOf x)) = (z_atv h 3 9 (fv_X0_secondBlockOf x))) → (tk_X0_joinBy_69 2000 (z_atv h 3 9 (fv_X0_firstBlockOf x)) (z_atv h 3 9 (fv_X0_secondBlockOf x)) (nI 0) (z_set h 1 3 ((h.1 1 3) ||| ((nI 1) <<< (x &&& 31)))))))) ∧ ((¬ (fv_X0_hasWallOn h (fv_X0_secondBlockOf x)) = 0) → (True)))) ∧ ((¬ (fv_X0_hasWallOn h (fv_X0_firstBlockOf x)) = 0) → (True))
set_option maxHeartbeats 4000000 in
set_option maxRecDepth 100000 in
theorem sp_X0_joinBy (l : Launch) (ext : z_Sh)  (h : z_H) (x : Int32)  (T : tk_X0_joinBy x h) : z_Sp l 2 yX0_joinBy cX0_joinBy 7 none [.ref 1, .int x] (z_c ext) h (z_PV (fn_X0_joinBy x h)) := by
  refine z_enter ft_X0 (by decide +kernel) fo_X0 (Nat.le_of_ble_eq_true rfl) ?_
  intro p e R s m args below meth c D dA ad hB
  have hC := hB.1
  have hN := hB.2.1
  have hR := hB.2.2.1
  unfold tk_X0_joinBy at T; have E : (if (fv_X0_hasWallOn h (fv_X0_firstBlockOf x)) = 0 then if (fv_X0_hasWallOn h (fv_X0_secondBlockOf x)) = 0 then if (z_atv h 3 9 (fv_X0_firstBlockOf x)) = (z_atv h 3 9 (fv_X0_secondBlockOf x)) then (none, h) else fn_X0_joinBy_69 2000 (z_atv h 3 9 (fv_X0_firstBlockOf x)) (z_atv h 3 9 (fv_X0_secondBlockOf x)) (nI 0) (z_set h 1 3 ((h.1 1 3) ||| ((nI 1) <<< (x &&& 31)))) else (none, h) else (none, h)) = fn_X0_joinBy x h := rfl
  generalize fn_X0_joinBy x h = RR at E ⊢
  have P100 : ∀ (k69 : Int32 → Int32 → Int32 → z_H → z_R) (K69 : Int32 → Int32 → Int32 → z_H → Prop) (hk69 : ∀ (a4 : Int32) (a5 : Int32) (a6 : Int32) (h : z_H), K69 a4 a5 a6 h → k69 a4 a5 a6 h = RR → z_G p l e R s m args below meth c D dA ad 7 (z_PV RR) (z_c ext) 69 [some (.ref 1), none, none, none, some (.int a4), some (.int a5), some (.int a6)] [] h), ∀ (a4 : Int32) (a5 : Int32) (a6 : Int32) (h : z_H), tk_X0_joinBy_100 K69 a4 a5 a6 h → fn_X0_joinBy_100 k69 a4 a5 a6 h = RR → z_G p l e R s m args below meth c D dA ad 7 (z_PV RR) (z_c ext) 100 [some (.ref 1), none, none, none, some (.int a4), some (.int a5), some (.int a6)] [] h := by
    intro k69 K69 hk69 a4 a5 a6 h T E
    unfold tk_X0_joinBy_100 at T; unfold fn_X0_joinBy_100 at E
    refine z_go hC (pc' := 103) (ls' := [some (.ref 1), none, none, none, some (.int a4), some (.int a5), some (.int (a6 + (nI 1)))]) (st' := []) (h' := h) (cs := []) [.iinc 6 1] (by decide +kernel) rfl rfl trivial ?_
    refine z_goto hC (off := -34) 69 (by decide +kernel) (by decide) ?_
    exact hk69 a4 a5 (a6 + (nI 1)) h T E
  have P69 : ∀ (n : Nat), ∀ (a4 : Int32) (a5 : Int32) (a6 : Int32) (h : z_H), tk_X0_joinBy_69  n a4 a5 a6 h → fn_X0_joinBy_69  n a4 a5 a6 h = RR → z_G p l e R s m args below meth c D dA ad 7 (z_PV RR) (z_c ext) 69 [some (.ref 1), none, none, none, some (.int a4), some (.int a5), some (.int a6)] [] h := by
    intro  n
    induction n with
    | zero => intro a4 a5 a6 h T E; exact False.elim T
    | succ n ih =>
      intro a4 a5 a6 h T E
      unfold tk_X0_joinBy_69 at T; unfold fn_X0_joinBy_69 at E; dsimp only at T E
      have hk69 := ih
      refine z_go hC (pc' := 76) (ls' := [some (.ref 1), none, none, none, some (.int a4), some (.int a5), some (.int a6)]) (st' := [.int (nI 9), .int a6]) (h' := h) (cs := []) [.iload 6, .aload_n 0, .getfield 15, .arraylength] (by decide +kernel) rfl rfl trivial ?_
      refine z_icmp_ge hC (off := 30) 106 (by decide +kernel) (by decide) (fun c1 => ?_) (fun c1 => ?_)
      · skip
        have E := (if_pos c1).symm.trans E
        have T := T.1 c1
        exact z_ret_v hB rfl (by decide +kernel) (z_lfv E)
      · skip
        have E := (if_neg c1).symm.trans E
        have T := T.2 c1
        obtain ⟨t2, T⟩ := T
        refine z_go hC (pc' := 88) (ls' := [some (.ref 1), none, none, none, some (.int a4), some (.int a5), some (.int a6)]) (st' := [.int a5, .int (h.1 3 a6.toNatClampNeg)]) (h' := h) (cs := [vp_in a6 9]) [.aload_n 0, .getfield 15, .iload 6, .iaload, .iload 5] (by decide +kernel) rfl rfl t2 ?_
        refine z_icmp_ne hC (off := 12) 100 (by decide +kernel) (by decide) (fun c3 => ?_) (fun c3 => ?_)
        · skip
          have E := (if_neg c3).symm.trans E
          have T := T.2 c3
          exact P100 _ _ hk69 a4 a5 a6 h T E
        · skip
          have E := (if_pos c3).symm.trans E
          have T := T.1 c3
          obtain ⟨t4, T⟩ := T
          refine z_go hC (pc' := 100) (ls' := [some (.ref 1), none, none, none, some (.int a4), some (.int a5), some (.int a6)]) (st' := []) (h' := z_set h 3 a6.toNatClampNeg a4) (cs := [vp_in a6 9]) [.aload_n 0, .getfield 15, .iload 6, .iload 4, .iastore] (by decide +kernel) rfl rfl t4 ?_
          exact P100 _ _ hk69 a4 a5 a6 (z_set h 3 a6.toNatClampNeg a4) T E
  refine z_go hC (pc' := 1) (ls' := [some (.ref 1), some (.int x), none, none, none, none, none]) (st' := [.int x]) (h' := h) (cs := []) [.iload_n 1] (by decide +kernel) rfl rfl trivial ?_
  refine z_callS hC hN hR (as := [.int x]) (rest := []) ok_X0_18 (by decide +kernel) (sp_X0_firstBlockOf l _ h x) (Nat.le_of_ble_eq_true rfl) rfl rfl (Nat.le_of_ble_eq_true rfl) ⟨Nat.zero_le _, Nat.zero_le _⟩ (fun r5 h6 q7 => z_fun q7 ?_)
  refine z_go hC (pc' := 6) (ls' := [some (.ref 1), some (.int x), some (.int (fv_X0_firstBlockOf x)), none, none, none, none]) (st' := [.int x]) (h' := h) (cs := []) [.istore_n 2, .iload_n 1] (by decide +kernel) rfl rfl trivial ?_
  refine z_callS hC hN hR (as := [.int x]) (rest := []) ok_X0_58 (by decide +kernel) (sp_X0_secondBlockOf l _ h x) (Nat.le_of_ble_eq_true rfl) rfl rfl (Nat.le_of_ble_eq_true rfl) ⟨Nat.zero_le _, Nat.zero_le _⟩ (fun r8 h9 q10 => z_fun q10 ?_)
  refine z_go hC (pc' := 15) (ls' := [some (.ref 1), some (.int x), some (.int (fv_X0_firstBlockOf x)), some (.int (fv_X0_secondBlockOf x)), none, none, none]) (st' := [.int (fv_X0_firstBlockOf x), .ref 3]) (h' := h) (cs := []) [.istore_n 3, .aload_n 0, .getfield 15, .iload_n 2] (by decide +kernel) rfl rfl trivial ?_
  refine z_callSN hC hN hR (as := [.ref 3, .int (fv_X0_firstBlockOf x)]) (rest := []) ok_X0_26 (by decide +kernel) (sp_X7_at l _ h 3 9 [] (fv_X0_firstBlockOf x) rfl (by decide)) (Nat.le_of_ble_eq_true rfl) rfl rfl (Nat.le_of_ble_eq_true rfl) ⟨Nat.zero_le _, Nat.zero_le _⟩ (fun r11 h12 q13 => z_fun q13 ?_)
  refine z_go hC (pc' := 25) (ls' := [some (.ref 1), some (.int x), some (.int (fv_X0_firstBlockOf x)), some (.int (fv_X0_secondBlockOf x)), some (.int (z_atv h 3 9 (fv_X0_firstBlockOf x))), none, none]) (st' := [.int (fv_X0_secondBlockOf x), .ref 3]) (h' := h) (cs := []) [.istore 4, .aload_n 0, .getfield 15, .iload_n 3] (by decide +kernel) rfl rfl trivial ?_
  refine z_callSN hC hN hR (as := [.ref 3, .int (fv_X0_secondBlockOf x)]) (rest := []) ok_X0_26 (by decide +kernel) (sp_X7_at l _ h 3 9 [] (fv_X0_secondBlockOf x) rfl (by decide)) (Nat.le_of_ble_eq_true rfl) rfl rfl (Nat.le_of_ble_eq_true rfl) ⟨Nat.zero_le _, Nat.zero_le _⟩ (fun r14 h15 q16 => z_fun q16 ?_)
  refine z_go hC (pc' := 32) (ls' := [some (.ref 1), some (.int x), some (.int (fv_X0_firstBlockOf x)), some (.int (fv_X0_secondBlockOf x)), some (.int (z_atv h 3 9 (fv_X0_firstBlockOf x))), some (.int (z_atv h 3 9 (fv_X0_secondBlockOf x))), none]) (st' := [.int (fv_X0_firstBlockOf x), .ref 1]) (h' := h) (cs := []) [.istore 5, .aload_n 0, .iload_n 2] (by decide +kernel) rfl rfl trivial ?_
  refine z_callV hC hN hR (as := [.int (fv_X0_firstBlockOf x)]) (rest := []) ok_X0_44 (by decide +kernel) (sp_X0_hasWallOn l _ h (fv_X0_firstBlockOf x)) rfl rfl (Nat.le_of_ble_eq_true rfl) rfl rfl (Nat.le_of_ble_eq_true rfl) ⟨Nat.zero_le _, Nat.zero_le _⟩ (fun r17 h18 q19 => z_fun q19 ?_)
  refine z_if_ne hC (off := 18) 53 (by decide +kernel) (by decide) (fun c20 => ?_) (fun c20 => ?_)
  · skip
    have E := (if_neg c20).symm.trans E
    have T := T.2 c20
    exact z_ret_v hB rfl (by decide +kernel) (z_lfv E)
  · skip
    have E := (if_pos c20).symm.trans E
    have T := T.1 c20
    refine z_go hC (pc' := 40) (ls' := [some (.ref 1), some (.int x), some (.int (fv_X0_firstBlockOf x)), some (.int (fv_X0_secondBlockOf x)), some (.int (z_atv h 3 9 (fv_X0_firstBlockOf x))), some (.int (z_atv h 3 9 (fv_X0_secondBlockOf x))), none]) (st' := [.int (fv_X0_secondBlockOf x), .ref 1]) (h' := h) (cs := []) [.aload_n 0, .iload_n 3] (by decide +kernel) rfl rfl trivial ?_
    refine z_callV hC hN hR (as := [.int (fv_X0_secondBlockOf x)]) (rest := []) ok_X0_44 (by decide +kernel) (sp_X0_hasWallOn l _ h (fv_X0_secondBlockOf x)) rfl rfl (Nat.le_of_ble_eq_true rfl) rfl rfl (Nat.le_of_ble_eq_true rfl) ⟨Nat.zero_le _, Nat.zero_le _⟩ (fun r21 h22 q23 => z_fun q23 ?_)
    refine z_if_ne hC (off := 10) 53 (by decide +kernel) (by decide) (fun c24 => ?_) (fun c24 => ?_)
    · skip
      have E := (if_neg c24).symm.trans E
      have T := T.2 c24
      exact z_ret_v hB rfl (by decide +kernel) (z_lfv E)
    · skip
      have E := (if_pos c24).symm.trans E
      have T := T.1 c24
      refine z_go hC (pc' := 50) (ls' := [some (.ref 1), some (.int x), some (.int (fv_X0_firstBlockOf x)), some (.int (fv_X0_secondBlockOf x)), some (.int (z_atv h 3 9 (fv_X0_firstBlockOf x))), some (.int (z_atv h 3 9 (fv_X0_secondBlockOf x))), none]) (st' := [.int (z_atv h 3 9 (fv_X0_secondBlockOf x)), .int (z_atv h 3 9 (fv_X0_firstBlockOf x))]) (h' := h) (cs := []) [.iload 4, .iload 5] (by decide +kernel) rfl rfl trivial ?_
      refine z_icmp_ne hC (off := 4) 54 (by decide +kernel) (by decide) (fun c25 => ?_) (fun c25 => ?_)
      · skip
        have E := (if_neg c25).symm.trans E
        have T := T.2 c25
        refine z_go hC (pc' := 69) (ls' := [some (.ref 1), some (.int x), some (.int (fv_X0_firstBlockOf x)), some (.int (fv_X0_secondBlockOf x)), some (.int (z_atv h 3 9 (fv_X0_firstBlockOf x))), some (.int (z_atv h 3 9 (fv_X0_secondBlockOf x))), some (.int (nI 0))]) (st' := []) (h' := z_set h 1 3 ((h.1 1 3) ||| ((nI 1) <<< (x &&& 31)))) (cs := []) [.aload_n 0, .dup, .getfield 34, .iconst 1, .iload_n 1, .ishl, .ior, .putfield 34, .iconst 0, .istore 6] (by decide +kernel) rfl rfl trivial ?_
        refine z_less (ls' := [some (.ref 1), none, none, none, some (.int (z_atv h 3 9 (fv_X0_firstBlockOf x))), some (.int (z_atv h 3 9 (fv_X0_secondBlockOf x))), some (.int (nI 0))]) (by simp [z_sub]) ?_
        exact P69 2000 (z_atv h 3 9 (fv_X0_firstBlockOf x)) (z_atv h 3 9 (fv_X0_secondBlockOf x)) (nI 0) (z_set h 1 3 ((h.1 1 3) ||| ((nI 1) <<< (x &&& 31)))) T E
      · skip
        have E := (if_pos c25).symm.trans E
        have T := T.1 c25
        exact z_ret_v hB rfl (by decide +kernel) (z_lfv E)

def fn_X0_growTree_59 (k31 : Int32 → z_H → z_R) (k39 : Int32 → Int32 → z_H → z_R) (a1 : Int32) (a2 : Int32) (h : z_H) : z_R := k39 a1 (a2 + (nI 1)) h
def tk_X0_growTree_59 (K31 : Int32 → z_H → Prop) (K39 : Int32 → Int32 → z_H → Prop) (a1 : Int32) (a2 : Int32) (h : z_H) : Prop := K39 a1 (a2 + (nI 1)) h
def fn_X0_growTree_39 (k31 : Int32 → z_H → z_R) : Nat → Int32 → Int32 → z_H → z_R
  | 0, _, _, h => (none, h)
  | n + 1, a1, a2, h => let k39 := fun (a1_ : Int32) (a2_ : Int32) (h_ : z_H) => fn_X0_growTree_39 k31 n a1_ a2_ h_; if (nI 12) ≤ a2 then k31 (a1 + (nI 1)) h else if (z_atv h 2 12 a2) = a1 then fn_X0_growTree_59 k31 k39 a1 a2 ((fn_X0_joinBy a2 h).2) else fn_X0_growTree_59 k31 k39 a1 a2 h
def tk_X0_growTree_39 (K31 : Int32 → z_H → Prop) : Nat → Int32 → Int32 → z_H → Prop
  | 0, _, _, _ => False
  | n + 1, a1, a2, h => let K39 := fun (a1_ : Int32) (a2_ : Int32) (h_ : z_H) => tk_X0_growTree_39 K31 n a1_ a2_ h_; (((nI 12) ≤ a2) → (K31 (a1 + (nI 1)) h)) ∧ ((¬ (nI 12) ≤ a2) → ((((z_atv h 2 12 a2) = a1) → (tk_X0_joinBy a2 h ∧ (tk_X0_growTree_59 K31 K39 a1 a2 ((fn_X0_joinBy a2 h).2)))) ∧ ((¬ (z_atv h 2 12 a2) = a1) → (tk_X0_growTree_59 K31 K39 a1 a2 h))))
def fn_X0_growTree_31  : Nat → Int32 → z_H → z_R
  | 0, _, h => (none, h)
  | n + 1, a1, h => let k31 := fun (a1_ : Int32) (h_ : z_H) => fn_X0_growTree_31  n a1_ h_; if (nI 9) < a1 then (none, h) else fn_X0_growTree_39 k31 2000 a1 (nI 0) h
def tk_X0_growTree_31  : Nat → Int32 → z_H → Prop
  | 0, _, _ => False
  | n + 1, a1, h => let K31 := fun (a1_ : Int32) (h_ : z_H) => tk_X0_growTree_31  n a1_ h_; (((nI 9) < a1) → (True)) ∧ ((¬ (nI 9) < a1) → (tk_X0_growTree_39 K31 2000 a1 (nI 0) h))
def fn_X0_growTree_7  : Nat → Int32 → z_H → z_R
  | 0, _, h => (none, h)
  | n + 1, a1, h => let k7 := fun (a1_ : Int32) (h_ : z_H) => fn_X0_growTree_7  n a1_ h_; if (nI 9) ≤ a1 then fn_X0_growTree_31 2000 (nI 0) h else k7 (a1 + (nI 1)) (z_set h 3 a1.toNatClampNeg a1)
def tk_X0_growTree_7  : Nat → Int32 → z_H → Prop
  | 0, _, _ => False
  | n + 1, a1, h => let K7 := fun (a1_ : Int32) (h_ : z_H) => tk_X0_growTree_7  n a1_ h_; (((nI 9) ≤ a1) → (tk_X0_growTree_31 2000 (nI 0) h)) ∧ ((¬ (nI 9) ≤ a1) → (vp_in a1 9 ∧ (K7 (a1 + (nI 1)) (z_set h 3 a1.toNatClampNeg a1))))
def fn_X0_growTree  (h : z_H) : z_R := fn_X0_growTree_7 2000 (nI 0) (z_set h 1 3 (nI 0))
def tk_X0_growTree  (h : z_H) : Prop := tk_X0_growTree_7 2000 (nI 0) (z_set h 1 3 (nI 0))
set_option maxHeartbeats 4000000 in
set_option maxRecDepth 100000 in
theorem sp_X0_growTree (l : Launch) (ext : z_Sh)  (h : z_H)   (T : tk_X0_growTree  h) : z_Sp l 3 yX0_growTree cX0_growTree 3 none [.ref 1] (z_c ext) h (z_PV (fn_X0_growTree  h)) := by
  refine z_enter ft_X0 (by decide +kernel) fo_X0 (Nat.le_of_ble_eq_true rfl) ?_
  intro p e R s m args below meth c D dA ad hB
  have hC := hB.1
  have hN := hB.2.1
  have hR := hB.2.2.1
  unfold tk_X0_growTree at T; have E : (fn_X0_growTree_7 2000 (nI 0) (z_set h 1 3 (nI 0))) = fn_X0_growTree  h := rfl
  generalize fn_X0_growTree  h = RR at E ⊢
  have P59 : ∀ (k31 : Int32 → z_H → z_R) (K31 : Int32 → z_H → Prop) (hk31 : ∀ (a1 : Int32) (h : z_H), K31 a1 h → k31 a1 h = RR → z_G p l e R s m args below meth c D dA ad 3 (z_PV RR) (z_c ext) 31 [some (.ref 1), some (.int a1), none] [] h), ∀ (k39 : Int32 → Int32 → z_H → z_R) (K39 : Int32 → Int32 → z_H → Prop) (hk39 : ∀ (a1 : Int32) (a2 : Int32) (h : z_H), K39 a1 a2 h → k39 a1 a2 h = RR → z_G p l e R s m args below meth c D dA ad 3 (z_PV RR) (z_c ext) 39 [some (.ref 1), some (.int a1), some (.int a2)] [] h), ∀ (a1 : Int32) (a2 : Int32) (h : z_H), tk_X0_growTree_59 K31 K39 a1 a2 h → fn_X0_growTree_59 k31 k39 a1 a2 h = RR → z_G p l e R s m args below meth c D dA ad 3 (z_PV RR) (z_c ext) 59 [some (.ref 1), some (.int a1), some (.int a2)] [] h := by
    intro k31 K31 hk31 k39 K39 hk39 a1 a2 h T E
    unfold tk_X0_growTree_59 at T; unfold fn_X0_growTree_59 at E
    refine z_go hC (pc' := 62) (ls' := [some (.ref 1), some (.int a1), some (.int (a2 + (nI 1)))]) (st' := []) (h' := h) (cs := []) [.iinc 2 1] (by decide +kernel) rfl rfl trivial ?_
    refine z_goto hC (off := -23) 39 (by decide +kernel) (by decide) ?_
    exact hk39 a1 (a2 + (nI 1)) h T E
  have P39 : ∀ (k31 : Int32 → z_H → z_R) (K31 : Int32 → z_H → Prop) (hk31 : ∀ (a1 : Int32) (h : z_H), K31 a1 h → k31 a1 h = RR → z_G p l e R s m args below meth c D dA ad 3 (z_PV RR) (z_c ext) 31 [some (.ref 1), some (.int a1), none] [] h), ∀ (n : Nat), ∀ (a1 : Int32) (a2 : Int32) (h : z_H), tk_X0_growTree_39 K31 n a1 a2 h → fn_X0_growTree_39 k31 n a1 a2 h = RR → z_G p l e R s m args below meth c D dA ad 3 (z_PV RR) (z_c ext) 39 [some (.ref 1), some (.int a1), some (.int a2)] [] h := by
    intro k31 K31 hk31 n
    induction n with
    | zero => intro a1 a2 h T E; exact False.elim T
    | succ n ih =>
      intro a1 a2 h T E
      unfold tk_X0_growTree_39 at T; unfold fn_X0_growTree_39 at E; dsimp only at T E
      have hk39 := ih
      refine z_go hC (pc' := 42) (ls' := [some (.ref 1), some (.int a1), some (.int a2)]) (st' := [.int (nI 12), .int a2]) (h' := h) (cs := []) [.iload_n 2, .bipush 12] (by decide +kernel) rfl rfl trivial ?_
      refine z_icmp_ge hC (off := 23) 65 (by decide +kernel) (by decide) (fun c1 => ?_) (fun c1 => ?_)
      · skip
        have E := (if_pos c1).symm.trans E
        have T := T.1 c1
        refine z_go hC (pc' := 68) (ls' := [some (.ref 1), some (.int (a1 + (nI 1))), some (.int a2)]) (st' := []) (h' := h) (cs := []) [.iinc 1 1] (by decide +kernel) rfl rfl trivial ?_
        refine z_goto hC (off := -37) 31 (by decide +kernel) (by decide) ?_
        refine z_less (ls' := [some (.ref 1), some (.int (a1 + (nI 1))), none]) (by simp [z_sub]) ?_
        exact hk31 (a1 + (nI 1)) h T E
      · skip
        have E := (if_neg c1).symm.trans E
        have T := T.2 c1
        refine z_go hC (pc' := 47) (ls' := [some (.ref 1), some (.int a1), some (.int a2)]) (st' := [.int a2, .ref 1]) (h' := h) (cs := []) [.aload_n 0, .iload_n 2] (by decide +kernel) rfl rfl trivial ?_
        refine z_callV hC hN hR (as := [.int a2]) (rest := []) ok_X0_51 (by decide +kernel) (sp_X0_weightOf l _ h a2) rfl rfl (Nat.le_of_ble_eq_true rfl) rfl rfl (Nat.le_of_ble_eq_true rfl) ⟨Nat.zero_le _, Nat.zero_le _⟩ (fun r2 h3 q4 => z_fun q4 ?_)
        refine z_go hC (pc' := 51) (ls' := [some (.ref 1), some (.int a1), some (.int a2)]) (st' := [.int a1, .int (z_atv h 2 12 a2)]) (h' := h) (cs := []) [.iload_n 1] (by decide +kernel) rfl rfl trivial ?_
        refine z_icmp_ne hC (off := 8) 59 (by decide +kernel) (by decide) (fun c5 => ?_) (fun c5 => ?_)
        · skip
          have E := (if_neg c5).symm.trans E
          have T := T.2 c5
          exact P59 _ _ hk31 _ _ hk39 a1 a2 h T E
        · skip
          have E := (if_pos c5).symm.trans E
          have T := T.1 c5
          refine z_go hC (pc' := 56) (ls' := [some (.ref 1), some (.int a1), some (.int a2)]) (st' := [.int a2, .ref 1]) (h' := h) (cs := []) [.aload_n 0, .iload_n 2] (by decide +kernel) rfl rfl trivial ?_
          obtain ⟨t9, T⟩ := T
          refine z_callV hC hN hR (as := [.int a2]) (rest := []) ok_X0_54 (by decide +kernel) (sp_X0_joinBy l _ h a2 t9) rfl rfl (Nat.le_of_ble_eq_true rfl) rfl rfl (Nat.le_of_ble_eq_true rfl) ⟨Nat.zero_le _, Nat.zero_le _⟩ (fun r6 h7 q8 => z_fun q8 ?_)
          exact P59 _ _ hk31 _ _ hk39 a1 a2 ((fn_X0_joinBy a2 h).2) T E
  have P31 : ∀ (n : Nat), ∀ (a1 : Int32) (h : z_H), tk_X0_growTree_31  n a1 h → fn_X0_growTree_31  n a1 h = RR → z_G p l e R s m args below meth c D dA ad 3 (z_PV RR) (z_c ext) 31 [some (.ref 1), some (.int a1), none] [] h := by
    intro  n
    induction n with
    | zero => intro a1 h T E; exact False.elim T
    | succ n ih =>
      intro a1 h T E
      unfold tk_X0_growTree_31 at T; unfold fn_X0_growTree_31 at E; dsimp only at T E
      have hk31 := ih
      refine z_go hC (pc' := 34) (ls' := [some (.ref 1), some (.int a1), none]) (st' := [.int (nI 9), .int a1]) (h' := h) (cs := []) [.iload_n 1, .bipush 9] (by decide +kernel) rfl rfl trivial ?_
      refine z_icmp_gt hC (off := 37) 71 (by decide +kernel) (by decide) (fun c10 => ?_) (fun c10 => ?_)
      · skip
        have E := (if_pos c10).symm.trans E
        have T := T.1 c10
        exact z_ret_v hB rfl (by decide +kernel) (z_lfv E)
      · skip
        have E := (if_neg c10).symm.trans E
        have T := T.2 c10
        refine z_go hC (pc' := 39) (ls' := [some (.ref 1), some (.int a1), some (.int (nI 0))]) (st' := []) (h' := h) (cs := []) [.iconst 0, .istore_n 2] (by decide +kernel) rfl rfl trivial ?_
        exact P39 _ _ hk31 2000 a1 (nI 0) h T E
  have P7 : ∀ (n : Nat), ∀ (a1 : Int32) (h : z_H), tk_X0_growTree_7  n a1 h → fn_X0_growTree_7  n a1 h = RR → z_G p l e R s m args below meth c D dA ad 3 (z_PV RR) (z_c ext) 7 [some (.ref 1), some (.int a1), none] [] h := by
    intro  n
    induction n with
    | zero => intro a1 h T E; exact False.elim T
    | succ n ih =>
      intro a1 h T E
      unfold tk_X0_growTree_7 at T; unfold fn_X0_growTree_7 at E; dsimp only at T E
      have hk7 := ih
      refine z_go hC (pc' := 13) (ls' := [some (.ref 1), some (.int a1), none]) (st' := [.int (nI 9), .int a1]) (h' := h) (cs := []) [.iload_n 1, .aload_n 0, .getfield 15, .arraylength] (by decide +kernel) rfl rfl trivial ?_
      refine z_icmp_ge hC (off := 16) 29 (by decide +kernel) (by decide) (fun c11 => ?_) (fun c11 => ?_)
      · skip
        have E := (if_pos c11).symm.trans E
        have T := T.1 c11
        refine z_go hC (pc' := 31) (ls' := [some (.ref 1), some (.int (nI 0)), none]) (st' := []) (h' := h) (cs := []) [.iconst 0, .istore_n 1] (by decide +kernel) rfl rfl trivial ?_
        exact P31 2000 (nI 0) h T E
      · skip
        have E := (if_neg c11).symm.trans E
        have T := T.2 c11
        obtain ⟨t12, T⟩ := T
        refine z_go hC (pc' := 26) (ls' := [some (.ref 1), some (.int (a1 + (nI 1))), none]) (st' := []) (h' := z_set h 3 a1.toNatClampNeg a1) (cs := [vp_in a1 9]) [.aload_n 0, .getfield 15, .iload_n 1, .iload_n 1, .iastore, .iinc 1 1] (by decide +kernel) rfl rfl t12 ?_
        refine z_goto hC (off := -19) 7 (by decide +kernel) (by decide) ?_
        exact hk7 (a1 + (nI 1)) (z_set h 3 a1.toNatClampNeg a1) T E
  refine z_go hC (pc' := 7) (ls' := [some (.ref 1), some (.int (nI 0)), none]) (st' := []) (h' := z_set h 1 3 (nI 0)) (cs := []) [.aload_n 0, .iconst 0, .putfield 34, .iconst 0, .istore_n 1] (by decide +kernel) rfl rfl trivial ?_
  exact P7 2000 (nI 0) (z_set h 1 3 (nI 0)) T E

def fn_X0_isJoinedWhole_48 (h : z_H) (k4 : Int32 → Int32 → (Option Value)) (a1 : Int32) (a2 : Int32) : (Option Value) := k4 a1 (a2 + (nI 1))
def tk_X0_isJoinedWhole_48 (h : z_H) (K4 : Int32 → Int32 → Prop) (a1 : Int32) (a2 : Int32) : Prop := K4 a1 (a2 + (nI 1))
def fn_X0_isJoinedWhole_41 (h : z_H) (k4 : Int32 → Int32 → (Option Value)) (a2 : Int32) : (Option Value) := fn_X0_isJoinedWhole_48 h k4 (h.1 3 a2.toNatClampNeg) a2
def tk_X0_isJoinedWhole_41 (h : z_H) (K4 : Int32 → Int32 → Prop) (a2 : Int32) : Prop := vp_in a2 9 ∧ (tk_X0_isJoinedWhole_48 h K4 (h.1 3 a2.toNatClampNeg) a2)
def fn_X0_isJoinedWhole_4 (h : z_H)  : Nat → Int32 → Int32 → (Option Value)
  | 0, _, _ => none
  | n + 1, a1, a2 => let k4 := fun (a1_ : Int32) (a2_ : Int32) => fn_X0_isJoinedWhole_4 h  n a1_ a2_; if (nI 9) ≤ a2 then if a1 = (-1) then some (.int (nI 0)) else some (.int (nI 1)) else if (fv_X0_hasWallOn h a2) = 0 then if a1 = (-1) then fn_X0_isJoinedWhole_41 h k4 a2 else if a1 = (h.1 3 a2.toNatClampNeg) then fn_X0_isJoinedWhole_41 h k4 a2 else some (.int (nI 0)) else fn_X0_isJoinedWhole_48 h k4 a1 a2
def tk_X0_isJoinedWhole_4 (h : z_H)  : Nat → Int32 → Int32 → Prop
  | 0, _, _ => False
  | n + 1, a1, a2 => let K4 := fun (a1_ : Int32) (a2_ : Int32) => tk_X0_isJoinedWhole_4 h  n a1_ a2_; (((nI 9) ≤ a2) → (True)) ∧ ((¬ (nI 9) ≤ a2) → ((((fv_X0_hasWallOn h a2) = 0) → (((a1 = (-1)) → (tk_X0_isJoinedWhole_41 h K4 a2)) ∧ ((¬ a1 = (-1)) → (vp_in a2 9 ∧ (((a1 = (h.1 3 a2.toNatClampNeg)) → (tk_X0_isJoinedWhole_41 h K4 a2)) ∧ ((¬ a1 = (h.1 3 a2.toNatClampNeg)) → (True))))))) ∧ ((¬ (fv_X0_hasWallOn h a2) = 0) → (tk_X0_isJoinedWhole_48 h K4 a1 a2))))
def fn_X0_isJoinedWhole  (h : z_H) : (Option Value) := fn_X0_isJoinedWhole_4 h 2000 (-1) (nI 0)
def tk_X0_isJoinedWhole  (h : z_H) : Prop := tk_X0_isJoinedWhole_4 h 2000 (-1) (nI 0)
set_option maxHeartbeats 4000000 in
set_option maxRecDepth 100000 in
theorem sp_X0_isJoinedWhole (l : Launch) (ext : z_Sh)  (h : z_H)   (T : tk_X0_isJoinedWhole  h) : z_Sp l 1 yX0_isJoinedWhole cX0_isJoinedWhole 3 (some .boolean) [.ref 1] (z_c ext) h (z_QB h (fn_X0_isJoinedWhole  h)) := by
  refine z_enter ft_X0 (by decide +kernel) fo_X0 (Nat.le_of_ble_eq_true rfl) ?_
  intro p e R s m args below meth c D dA ad hB
  have hC := hB.1
  have hN := hB.2.1
  have hR := hB.2.2.1
  unfold tk_X0_isJoinedWhole at T; have E : (fn_X0_isJoinedWhole_4 h 2000 (-1) (nI 0)) = fn_X0_isJoinedWhole  h := rfl
  generalize fn_X0_isJoinedWhole  h = RR at E ⊢
  have P48 : ∀ (k4 : Int32 → Int32 → (Option Value)) (K4 : Int32 → Int32 → Prop) (hk4 : ∀ (a1 : Int32) (a2 : Int32), K4 a1 a2 → k4 a1 a2 = RR → z_G p l e R s m args below meth c D dA ad 3 (z_QB h RR) (z_c ext) 4 [some (.ref 1), some (.int a1), some (.int a2)] [] h), ∀ (a1 : Int32) (a2 : Int32), tk_X0_isJoinedWhole_48 h K4 a1 a2 → fn_X0_isJoinedWhole_48 h k4 a1 a2 = RR → z_G p l e R s m args below meth c D dA ad 3 (z_QB h RR) (z_c ext) 48 [some (.ref 1), some (.int a1), some (.int a2)] [] h := by
    intro k4 K4 hk4 a1 a2 T E
    unfold tk_X0_isJoinedWhole_48 at T; unfold fn_X0_isJoinedWhole_48 at E
    refine z_go hC (pc' := 51) (ls' := [some (.ref 1), some (.int a1), some (.int (a2 + (nI 1)))]) (st' := []) (h' := h) (cs := []) [.iinc 2 1] (by decide +kernel) rfl rfl trivial ?_
    refine z_goto hC (off := -47) 4 (by decide +kernel) (by decide) ?_
    exact hk4 a1 (a2 + (nI 1)) T E
  have P41 : ∀ (k4 : Int32 → Int32 → (Option Value)) (K4 : Int32 → Int32 → Prop) (hk4 : ∀ (a1 : Int32) (a2 : Int32), K4 a1 a2 → k4 a1 a2 = RR → z_G p l e R s m args below meth c D dA ad 3 (z_QB h RR) (z_c ext) 4 [some (.ref 1), some (.int a1), some (.int a2)] [] h), ∀ (a2 : Int32), tk_X0_isJoinedWhole_41 h K4 a2 → fn_X0_isJoinedWhole_41 h k4 a2 = RR → z_G p l e R s m args below meth c D dA ad 3 (z_QB h RR) (z_c ext) 41 [some (.ref 1), none, some (.int a2)] [] h := by
    intro k4 K4 hk4 a2 T E
    unfold tk_X0_isJoinedWhole_41 at T; unfold fn_X0_isJoinedWhole_41 at E
    obtain ⟨t1, T⟩ := T
    refine z_go hC (pc' := 48) (ls' := [some (.ref 1), some (.int (h.1 3 a2.toNatClampNeg)), some (.int a2)]) (st' := []) (h' := h) (cs := [vp_in a2 9]) [.aload_n 0, .getfield 15, .iload_n 2, .iaload, .istore_n 1] (by decide +kernel) rfl rfl t1 ?_
    exact P48 _ _ hk4 (h.1 3 a2.toNatClampNeg) a2 T E
  have P4 : ∀ (n : Nat), ∀ (a1 : Int32) (a2 : Int32), tk_X0_isJoinedWhole_4 h  n a1 a2 → fn_X0_isJoinedWhole_4 h  n a1 a2 = RR → z_G p l e R s m args below meth c D dA ad 3 (z_QB h RR) (z_c ext) 4 [some (.ref 1), some (.int a1), some (.int a2)] [] h := by
    intro  n
    induction n with
    | zero => intro a1 a2 T E; exact False.elim T
    | succ n ih =>
      intro a1 a2 T E
      unfold tk_X0_isJoinedWhole_4 at T; unfold fn_X0_isJoinedWhole_4 at E; dsimp only at T E
      have hk4 := ih
      refine z_go hC (pc' := 10) (ls' := [some (.ref 1), some (.int a1), some (.int a2)]) (st' := [.int (nI 9), .int a2]) (h' := h) (cs := []) [.iload_n 2, .aload_n 0, .getfield 15, .arraylength] (by decide +kernel) rfl rfl trivial ?_
      refine z_icmp_ge hC (off := 44) 54 (by decide +kernel) (by decide) (fun c2 => ?_) (fun c2 => ?_)
      · skip
        have E := (if_pos c2).symm.trans E
        have T := T.1 c2
        refine z_go hC (pc' := 56) (ls' := [some (.ref 1), some (.int a1), some (.int a2)]) (st' := [.int (-1), .int a1]) (h' := h) (cs := []) [.iload_n 1, .iconst (-1)] (by decide +kernel) rfl rfl trivial ?_
        refine z_icmp_eq hC (off := 7) 63 (by decide +kernel) (by decide) (fun c3 => ?_) (fun c3 => ?_)
        · skip
          have E := (if_pos c3).symm.trans E
          refine z_go hC (pc' := 64) (ls' := [some (.ref 1), some (.int a1), some (.int a2)]) (st' := [.int (nI 0)]) (h' := h) (cs := []) [.iconst 0] (by decide +kernel) rfl rfl trivial ?_
          exact z_ret_z hB rfl (show (nI 0 = 0 ∨ nI 0 = 1) by decide) (by decide +kernel) (z_lfb0 (show (nI 0 = 0 ∨ nI 0 = 1) by decide) E)
        · skip
          have E := (if_neg c3).symm.trans E
          refine z_go hC (pc' := 60) (ls' := [some (.ref 1), some (.int a1), some (.int a2)]) (st' := [.int (nI 1)]) (h' := h) (cs := []) [.iconst 1] (by decide +kernel) rfl rfl trivial ?_
          refine z_goto hC (off := 4) 64 (by decide +kernel) (by decide) ?_
          exact z_ret_z hB rfl (show (nI 1 = 0 ∨ nI 1 = 1) by decide) (by decide +kernel) (z_lfb0 (show (nI 1 = 0 ∨ nI 1 = 1) by decide) E)
      · skip
        have E := (if_neg c2).symm.trans E
        have T := T.2 c2
        refine z_go hC (pc' := 15) (ls' := [some (.ref 1), some (.int a1), some (.int a2)]) (st' := [.int a2, .ref 1]) (h' := h) (cs := []) [.aload_n 0, .iload_n 2] (by decide +kernel) rfl rfl trivial ?_
        refine z_callV hC hN hR (as := [.int a2]) (rest := []) ok_X0_44 (by decide +kernel) (sp_X0_hasWallOn l _ h a2) rfl rfl (Nat.le_of_ble_eq_true rfl) rfl rfl (Nat.le_of_ble_eq_true rfl) ⟨Nat.zero_le _, Nat.zero_le _⟩ (fun r4 h5 q6 => z_fun q6 ?_)
        refine z_if_eq hC (off := 6) 24 (by decide +kernel) (by decide) (fun c7 => ?_) (fun c7 => ?_)
        · skip
          have E := (if_pos c7).symm.trans E
          have T := T.1 c7
          refine z_go hC (pc' := 26) (ls' := [some (.ref 1), some (.int a1), some (.int a2)]) (st' := [.int (-1), .int a1]) (h' := h) (cs := []) [.iload_n 1, .iconst (-1)] (by decide +kernel) rfl rfl trivial ?_
          refine z_icmp_eq hC (off := 15) 41 (by decide +kernel) (by decide) (fun c8 => ?_) (fun c8 => ?_)
          · skip
            have E := (if_pos c8).symm.trans E
            have T := T.1 c8
            refine z_less (ls' := [some (.ref 1), none, some (.int a2)]) (by simp [z_sub]) ?_
            exact P41 _ _ hk4 a2 T E
          · skip
            have E := (if_neg c8).symm.trans E
            have T := T.2 c8
            obtain ⟨t9, T⟩ := T
            refine z_go hC (pc' := 36) (ls' := [some (.ref 1), some (.int a1), some (.int a2)]) (st' := [.int (h.1 3 a2.toNatClampNeg), .int a1]) (h' := h) (cs := [vp_in a2 9]) [.iload_n 1, .aload_n 0, .getfield 15, .iload_n 2, .iaload] (by decide +kernel) rfl rfl t9 ?_
            refine z_icmp_eq hC (off := 5) 41 (by decide +kernel) (by decide) (fun c10 => ?_) (fun c10 => ?_)
            · skip
              have E := (if_pos c10).symm.trans E
              have T := T.1 c10
              refine z_less (ls' := [some (.ref 1), none, some (.int a2)]) (by simp [z_sub]) ?_
              exact P41 _ _ hk4 a2 T E
            · skip
              have E := (if_neg c10).symm.trans E
              have T := T.2 c10
              refine z_go hC (pc' := 40) (ls' := [some (.ref 1), some (.int a1), some (.int a2)]) (st' := [.int (nI 0)]) (h' := h) (cs := []) [.iconst 0] (by decide +kernel) rfl rfl trivial ?_
              exact z_ret_z hB rfl (show (nI 0 = 0 ∨ nI 0 = 1) by decide) (by decide +kernel) (z_lfb0 (show (nI 0 = 0 ∨ nI 0 = 1) by decide) E)
        · skip
          have E := (if_neg c7).symm.trans E
          have T := T.2 c7
          refine z_goto hC (off := 27) 48 (by decide +kernel) (by decide) ?_
          exact P48 _ _ hk4 a1 a2 T E
  refine z_go hC (pc' := 4) (ls' := [some (.ref 1), some (.int (-1)), some (.int (nI 0))]) (st' := []) (h' := h) (cs := []) [.iconst (-1), .istore_n 1, .iconst 0, .istore_n 2] (by decide +kernel) rfl rfl trivial ?_
  exact P4 2000 (-1) (nI 0) T E

def fn_X0_lowestOpenCell_2 (h : z_H)  : Nat → Int32 → (Option Value)
  | 0, _ => none
  | n + 1, a1 => let k2 := fun (a1_ : Int32) => fn_X0_lowestOpenCell_2 h  n a1_; if (nI 9) ≤ a1 then some (.int (-1)) else if (fv_X0_hasWallOn h a1) = 0 then some (.int (fv_X0_upperLeftOf a1)) else k2 (a1 + (nI 1))
def tk_X0_lowestOpenCell_2 (h : z_H)  : Nat → Int32 → Prop
  | 0, _ => False
  | n + 1, a1 => let K2 := fun (a1_ : Int32) => tk_X0_lowestOpenCell_2 h  n a1_; (((nI 9) ≤ a1) → (True)) ∧ ((¬ (nI 9) ≤ a1) → ((((fv_X0_hasWallOn h a1) = 0) → (True)) ∧ ((¬ (fv_X0_hasWallOn h a1) = 0) → (K2 (a1 + (nI 1))))))
def fn_X0_lowestOpenCell  (h : z_H) : (Option Value) := fn_X0_lowestOpenCell_2 h 2000 (nI 0)
def tk_X0_lowestOpenCell  (h : z_H) : Prop := tk_X0_lowestOpenCell_2 h 2000 (nI 0)
set_option maxHeartbeats 4000000 in
set_option maxRecDepth 100000 in
theorem sp_X0_lowestOpenCell (l : Launch) (ext : z_Sh)  (h : z_H)   (T : tk_X0_lowestOpenCell  h) : z_Sp l 1 yX0_lowestOpenCell cX0_lowestOpenCell 2 (some .int) [.ref 1] (z_c ext) h (z_QI h (fn_X0_lowestOpenCell  h)) := by
  refine z_enter ft_X0 (by decide +kernel) fo_X0 (Nat.le_of_ble_eq_true rfl) ?_
  intro p e R s m args below meth c D dA ad hB
  have hC := hB.1
  have hN := hB.2.1
  have hR := hB.2.2.1
  unfold tk_X0_lowestOpenCell at T; have E : (fn_X0_lowestOpenCell_2 h 2000 (nI 0)) = fn_X0_lowestOpenCell  h := rfl
  generalize fn_X0_lowestOpenCell  h = RR at E ⊢
  have P2 : ∀ (n : Nat), ∀ (a1 : Int32), tk_X0_lowestOpenCell_2 h  n a1 → fn_X0_lowestOpenCell_2 h  n a1 = RR → z_G p l e R s m args below meth c D dA ad 2 (z_QI h RR) (z_c ext) 2 [some (.ref 1), some (.int a1)] [] h := by
    intro  n
    induction n with
    | zero => intro a1 T E; exact False.elim T
    | succ n ih =>
      intro a1 T E
      unfold tk_X0_lowestOpenCell_2 at T; unfold fn_X0_lowestOpenCell_2 at E; dsimp only at T E
      have hk2 := ih
      refine z_go hC (pc' := 5) (ls' := [some (.ref 1), some (.int a1)]) (st' := [.int (nI 9), .int a1]) (h' := h) (cs := []) [.iload_n 1, .bipush 9] (by decide +kernel) rfl rfl trivial ?_
      refine z_icmp_ge hC (off := 22) 27 (by decide +kernel) (by decide) (fun c1 => ?_) (fun c1 => ?_)
      · skip
        have E := (if_pos c1).symm.trans E
        have T := T.1 c1
        refine z_go hC (pc' := 28) (ls' := [some (.ref 1), some (.int a1)]) (st' := [.int (-1)]) (h' := h) (cs := []) [.iconst (-1)] (by decide +kernel) rfl rfl trivial ?_
        exact z_ret_i hB rfl (by decide +kernel) (z_lfi0 E)
      · skip
        have E := (if_neg c1).symm.trans E
        have T := T.2 c1
        refine z_go hC (pc' := 10) (ls' := [some (.ref 1), some (.int a1)]) (st' := [.int a1, .ref 1]) (h' := h) (cs := []) [.aload_n 0, .iload_n 1] (by decide +kernel) rfl rfl trivial ?_
        refine z_callV hC hN hR (as := [.int a1]) (rest := []) ok_X0_44 (by decide +kernel) (sp_X0_hasWallOn l _ h a1) rfl rfl (Nat.le_of_ble_eq_true rfl) rfl rfl (Nat.le_of_ble_eq_true rfl) ⟨Nat.zero_le _, Nat.zero_le _⟩ (fun r2 h3 q4 => z_fun q4 ?_)
        refine z_if_ne hC (off := 8) 21 (by decide +kernel) (by decide) (fun c5 => ?_) (fun c5 => ?_)
        · skip
          have E := (if_neg c5).symm.trans E
          have T := T.2 c5
          refine z_go hC (pc' := 24) (ls' := [some (.ref 1), some (.int (a1 + (nI 1)))]) (st' := []) (h' := h) (cs := []) [.iinc 1 1] (by decide +kernel) rfl rfl trivial ?_
          refine z_goto hC (off := -22) 2 (by decide +kernel) (by decide) ?_
          exact hk2 (a1 + (nI 1)) T E
        · skip
          have E := (if_pos c5).symm.trans E
          have T := T.1 c5
          refine z_go hC (pc' := 17) (ls' := [some (.ref 1), some (.int a1)]) (st' := [.int a1]) (h' := h) (cs := []) [.iload_n 1] (by decide +kernel) rfl rfl trivial ?_
          refine z_callS hC hN hR (as := [.int a1]) (rest := []) ok_X0_66 (by decide +kernel) (sp_X0_upperLeftOf l _ h a1) (Nat.le_of_ble_eq_true rfl) rfl rfl (Nat.le_of_ble_eq_true rfl) ⟨Nat.zero_le _, Nat.zero_le _⟩ (fun r6 h7 q8 => z_fun q8 ?_)
          exact z_ret_i hB rfl (by decide +kernel) (z_lfi0 E)
  refine z_go hC (pc' := 2) (ls' := [some (.ref 1), some (.int (nI 0))]) (st' := []) (h' := h) (cs := []) [.iconst 0, .istore_n 1] (by decide +kernel) rfl rfl trivial ?_
  exact P2 2000 (nI 0) T E

def fn_X3_hasOneIn_2 (h : z_H)  : Nat → Int32 → Int32 → (Option Value)
  | 0, _, _ => none
  | n + 1, a1, a2 => let k2 := fun (a1_ : Int32) (a2_ : Int32) => fn_X3_hasOneIn_2 h  n a1_ a2_; if (h.1 8 2) ≤ a2 then some (.int (nI 0)) else if (fv_X0_blockOf (h.1 9 ((((h.1 8 1) + a2) &&& (nI 63)).toNatClampNeg))) = a1 then some (.int (nI 1)) else k2 a1 (a2 + (nI 1))
def tk_X3_hasOneIn_2 (h : z_H)  : Nat → Int32 → Int32 → Prop
  | 0, _, _ => False
  | n + 1, a1, a2 => let K2 := fun (a1_ : Int32) (a2_ : Int32) => tk_X3_hasOneIn_2 h  n a1_ a2_; (((h.1 8 2) ≤ a2) → (True)) ∧ ((¬ (h.1 8 2) ≤ a2) → ((((fv_X0_blockOf (h.1 9 ((((h.1 8 1) + a2) &&& (nI 63)).toNatClampNeg))) = a1) → (True)) ∧ ((¬ (fv_X0_blockOf (h.1 9 ((((h.1 8 1) + a2) &&& (nI 63)).toNatClampNeg))) = a1) → (K2 a1 (a2 + (nI 1))))))
def fn_X3_hasOneIn (x : Int32) (h : z_H) : (Option Value) := fn_X3_hasOneIn_2 h 2000 x (nI 0)
def tk_X3_hasOneIn (x : Int32) (h : z_H) : Prop := tk_X3_hasOneIn_2 h 2000 x (nI 0)
set_option maxHeartbeats 4000000 in
set_option maxRecDepth 100000 in
theorem sp_X3_hasOneIn (l : Launch) (ext : z_Sh)  (h : z_H) (x : Int32)  (T : tk_X3_hasOneIn x h) : z_Sp l 2 yX3_hasOneIn cX3_hasOneIn 3 (some .boolean) [.ref 8, .int x] (z_c ext) h (z_QB h (fn_X3_hasOneIn x h)) := by
  refine z_enter ft_X3 (by decide +kernel) fo_X3 (Nat.le_of_ble_eq_true rfl) ?_
  intro p e R s m args below meth c D dA ad hB
  have hC := hB.1
  have hN := hB.2.1
  have hR := hB.2.2.1
  unfold tk_X3_hasOneIn at T; have E : (fn_X3_hasOneIn_2 h 2000 x (nI 0)) = fn_X3_hasOneIn x h := rfl
  generalize fn_X3_hasOneIn x h = RR at E ⊢
  have P2 : ∀ (n : Nat), ∀ (a1 : Int32) (a2 : Int32), tk_X3_hasOneIn_2 h  n a1 a2 → fn_X3_hasOneIn_2 h  n a1 a2 = RR → z_G p l e R s m args below meth c D dA ad 3 (z_QB h RR) (z_c ext) 2 [some (.ref 8), some (.int a1), some (.int a2)] [] h := by
    intro  n
    induction n with
    | zero => intro a1 a2 T E; exact False.elim T
    | succ n ih =>
      intro a1 a2 T E
      unfold tk_X3_hasOneIn_2 at T; unfold fn_X3_hasOneIn_2 at E; dsimp only at T E
      have hk2 := ih
      refine z_go hC (pc' := 7) (ls' := [some (.ref 8), some (.int a1), some (.int a2)]) (st' := [.int (h.1 8 2), .int a2]) (h' := h) (cs := []) [.iload_n 2, .aload_n 0, .getfield 15] (by decide +kernel) rfl rfl trivial ?_
      refine z_icmp_ge hC (off := 23) 30 (by decide +kernel) (by decide) (fun c1 => ?_) (fun c1 => ?_)
      · skip
        have E := (if_pos c1).symm.trans E
        have T := T.1 c1
        refine z_go hC (pc' := 31) (ls' := [some (.ref 8), some (.int a1), some (.int a2)]) (st' := [.int (nI 0)]) (h' := h) (cs := []) [.iconst 0] (by decide +kernel) rfl rfl trivial ?_
        exact z_ret_z hB rfl (show (nI 0 = 0 ∨ nI 0 = 1) by decide) (by decide +kernel) (z_lfb0 (show (nI 0 = 0 ∨ nI 0 = 1) by decide) E)
      · skip
        have E := (if_neg c1).symm.trans E
        have T := T.2 c1
        refine z_go hC (pc' := 12) (ls' := [some (.ref 8), some (.int a1), some (.int a2)]) (st' := [.int a2, .ref 8]) (h' := h) (cs := []) [.aload_n 0, .iload_n 2] (by decide +kernel) rfl rfl trivial ?_
        refine z_callV hC hN hR (as := [.int a2]) (rest := []) ok_X3_26 (by decide +kernel) (sp_X3_cellAfter l _ h a2) rfl rfl (Nat.le_of_ble_eq_true rfl) rfl rfl (Nat.le_of_ble_eq_true rfl) ⟨Nat.zero_le _, Nat.zero_le _⟩ (fun r2 h3 q4 => z_fun q4 ?_)
        refine z_callS hC hN hR (as := [.int (h.1 9 ((((h.1 8 1) + a2) &&& (nI 63)).toNatClampNeg))]) (rest := []) ok_X3_30 (by decide +kernel) (sp_X0_blockOf l _ h (h.1 9 ((((h.1 8 1) + a2) &&& (nI 63)).toNatClampNeg))) (Nat.le_of_ble_eq_true rfl) rfl rfl (Nat.le_of_ble_eq_true rfl) ⟨Nat.zero_le _, Nat.zero_le _⟩ (fun r5 h6 q7 => z_fun q7 ?_)
        refine z_go hC (pc' := 19) (ls' := [some (.ref 8), some (.int a1), some (.int a2)]) (st' := [.int a1, .int (fv_X0_blockOf (h.1 9 ((((h.1 8 1) + a2) &&& (nI 63)).toNatClampNeg)))]) (h' := h) (cs := []) [.iload_n 1] (by decide +kernel) rfl rfl trivial ?_
        refine z_icmp_ne hC (off := 5) 24 (by decide +kernel) (by decide) (fun c8 => ?_) (fun c8 => ?_)
        · skip
          have E := (if_neg c8).symm.trans E
          have T := T.2 c8
          refine z_go hC (pc' := 27) (ls' := [some (.ref 8), some (.int a1), some (.int (a2 + (nI 1)))]) (st' := []) (h' := h) (cs := []) [.iinc 2 1] (by decide +kernel) rfl rfl trivial ?_
          refine z_goto hC (off := -25) 2 (by decide +kernel) (by decide) ?_
          exact hk2 a1 (a2 + (nI 1)) T E
        · skip
          have E := (if_pos c8).symm.trans E
          have T := T.1 c8
          refine z_go hC (pc' := 23) (ls' := [some (.ref 8), some (.int a1), some (.int a2)]) (st' := [.int (nI 1)]) (h' := h) (cs := []) [.iconst 1] (by decide +kernel) rfl rfl trivial ?_
          exact z_ret_z hB rfl (show (nI 1 = 0 ∨ nI 1 = 1) by decide) (by decide +kernel) (z_lfb0 (show (nI 1 = 0 ∨ nI 1 = 1) by decide) E)
  refine z_go hC (pc' := 2) (ls' := [some (.ref 8), some (.int x), some (.int (nI 0))]) (st' := []) (h' := h) (cs := []) [.iconst 0, .istore_n 2] (by decide +kernel) rfl rfl trivial ?_
  exact P2 2000 x (nI 0) T E

def fn_X2_layOut_66  : Nat → Int32 → Int32 → z_H → z_R
  | 0, _, _, h => (none, h)
  | n + 1, a1, a2, h => let k66 := fun (a1_ : Int32) (a2_ : Int32) (h_ : z_H) => fn_X2_layOut_66  n a1_ a2_ h_; if (h.1 4 4) ≤ a2 then (none, h) else k66 (fv_X2_nextRoundTree (z_putv (z_putv h 5 36 a2 a1) 6 36 a1 a2) a1) (a2 + (nI 1)) (z_putv (z_putv h 5 36 a2 a1) 6 36 a1 a2)
def tk_X2_layOut_66  : Nat → Int32 → Int32 → z_H → Prop
  | 0, _, _, _ => False
  | n + 1, a1, a2, h => let K66 := fun (a1_ : Int32) (a2_ : Int32) (h_ : z_H) => tk_X2_layOut_66  n a1_ a2_ h_; (((h.1 4 4) ≤ a2) → (True)) ∧ ((¬ (h.1 4 4) ≤ a2) → (K66 (fv_X2_nextRoundTree (z_putv (z_putv h 5 36 a2 a1) 6 36 a1 a2) a1) (a2 + (nI 1)) (z_putv (z_putv h 5 36 a2 a1) 6 36 a1 a2)))
def fn_X2_layOut_34  : Nat → Int32 → z_H → z_R
  | 0, _, h => (none, h)
  | n + 1, a1, h => let k34 := fun (a1_ : Int32) (h_ : z_H) => fn_X2_layOut_34  n a1_ h_; if (nI 36) ≤ a1 then fn_X2_layOut_66 2000 (z_vi0 (fn_X0_lowestOpenCell  h)) (nI 0) h else k34 (a1 + (nI 1)) (z_set h 6 a1.toNatClampNeg (-1))
def tk_X2_layOut_34  : Nat → Int32 → z_H → Prop
  | 0, _, _ => False
  | n + 1, a1, h => let K34 := fun (a1_ : Int32) (h_ : z_H) => tk_X2_layOut_34  n a1_ h_; (((nI 36) ≤ a1) → (tk_X0_lowestOpenCell  h ∧ (tk_X2_layOut_66 2000 (z_vi0 (fn_X0_lowestOpenCell  h)) (nI 0) h))) ∧ ((¬ (nI 36) ≤ a1) → (vp_in a1 36 ∧ (K34 (a1 + (nI 1)) (z_set h 6 a1.toNatClampNeg (-1)))))
def fn_X2_layOut_29  (s0 : Int32) (h : z_H) : z_R := fn_X2_layOut_34 2000 (nI 0) (z_set h 4 4 s0)
def tk_X2_layOut_29  (s0 : Int32) (h : z_H) : Prop := tk_X2_layOut_34 2000 (nI 0) (z_set h 4 4 s0)
def fn_X2_layOut  (h : z_H) : z_R := if (z_vi0 (fn_X0_isJoinedWhole  ((fn_X0_growTree  h).2))) = 0 then fn_X2_layOut_29 (nI 0) ((fn_X0_growTree  h).2) else fn_X2_layOut_29 ((nI 36) - ((nI 4) * (fv_J6_bitCount_0f7a4 (((fn_X0_growTree  h).2).1 1 2)))) ((fn_X0_growTree  h).2)
def tk_X2_layOut  (h : z_H) : Prop := tk_X0_growTree  h ∧ (tk_X0_isJoinedWhole  ((fn_X0_growTree  h).2) ∧ ((((z_vi0 (fn_X0_isJoinedWhole  ((fn_X0_growTree  h).2))) = 0) → (tk_X2_layOut_29 (nI 0) ((fn_X0_growTree  h).2))) ∧ ((¬ (z_vi0 (fn_X0_isJoinedWhole  ((fn_X0_growTree  h).2))) = 0) → (tk_X2_layOut_29 ((nI 36) - ((nI 4) * (fv_J6_bitCount_0f7a4 (((fn_X0_growTree  h).2).1 1 2)))) ((fn_X0_growTree  h).2)))))
set_option maxHeartbeats 4000000 in
set_option maxRecDepth 100000 in
theorem sp_X2_layOut (l : Launch) (ext : z_Sh)  (h : z_H)   (T : tk_X2_layOut  h) : z_Sp l 4 yX2_layOut cX2_layOut 3 none [.ref 4] (z_c ext) h (z_PV (fn_X2_layOut  h)) := by
  refine z_enter ft_X2 (by decide +kernel) fo_X2 (Nat.le_of_ble_eq_true rfl) ?_
  intro p e R s m args below meth c D dA ad hB
  have hC := hB.1
  have hN := hB.2.1
  have hR := hB.2.2.1
  unfold tk_X2_layOut at T; have E : (if (z_vi0 (fn_X0_isJoinedWhole  ((fn_X0_growTree  h).2))) = 0 then fn_X2_layOut_29 (nI 0) ((fn_X0_growTree  h).2) else fn_X2_layOut_29 ((nI 36) - ((nI 4) * (fv_J6_bitCount_0f7a4 (((fn_X0_growTree  h).2).1 1 2)))) ((fn_X0_growTree  h).2)) = fn_X2_layOut  h := rfl
  generalize fn_X2_layOut  h = RR at E ⊢
  have P66 : ∀ (n : Nat), ∀ (a1 : Int32) (a2 : Int32) (h : z_H), tk_X2_layOut_66  n a1 a2 h → fn_X2_layOut_66  n a1 a2 h = RR → z_G p l e R s m args below meth c D dA ad 3 (z_PV RR) (z_c ext) 66 [some (.ref 4), some (.int a1), some (.int a2)] [] h := by
    intro  n
    induction n with
    | zero => intro a1 a2 h T E; exact False.elim T
    | succ n ih =>
      intro a1 a2 h T E
      unfold tk_X2_layOut_66 at T; unfold fn_X2_layOut_66 at E; dsimp only at T E
      have hk66 := ih
      refine z_go hC (pc' := 71) (ls' := [some (.ref 4), some (.int a1), some (.int a2)]) (st' := [.int (h.1 4 4), .int a2]) (h' := h) (cs := []) [.iload_n 2, .aload_n 0, .getfield 25] (by decide +kernel) rfl rfl trivial ?_
      refine z_icmp_ge hC (off := 33) 104 (by decide +kernel) (by decide) (fun c1 => ?_) (fun c1 => ?_)
      · skip
        have E := (if_pos c1).symm.trans E
        have T := T.1 c1
        exact z_ret_v hB rfl (by decide +kernel) (z_lfv E)
      · skip
        have E := (if_neg c1).symm.trans E
        have T := T.2 c1
        refine z_go hC (pc' := 80) (ls' := [some (.ref 4), some (.int a1), some (.int a2)]) (st' := [.int a1, .int a2, .ref 5]) (h' := h) (cs := []) [.aload_n 0, .getfield 9, .iload_n 2, .iload_n 1] (by decide +kernel) rfl rfl trivial ?_
        refine z_callSN hC hN hR (as := [.ref 5, .int a2, .int a1]) (rest := []) ok_X2_49 (by decide +kernel) (sp_X7_put l _ h 5 36 [] a2 a1 rfl (by decide)) (Nat.le_of_ble_eq_true rfl) rfl rfl (Nat.le_of_ble_eq_true rfl) ⟨Nat.zero_le _, Nat.zero_le _⟩ (fun r2 h3 q4 => z_fun q4 ?_)
        refine z_go hC (pc' := 89) (ls' := [some (.ref 4), some (.int a1), some (.int a2)]) (st' := [.int a2, .int a1, .ref 6]) (h' := z_putv h 5 36 a2 a1) (cs := []) [.aload_n 0, .getfield 15, .iload_n 1, .iload_n 2] (by decide +kernel) rfl rfl trivial ?_
        refine z_callSN hC hN hR (as := [.ref 6, .int a1, .int a2]) (rest := []) ok_X2_49 (by decide +kernel) (sp_X7_put l _ (z_putv h 5 36 a2 a1) 6 36 [] a1 a2 rfl (by decide)) (Nat.le_of_ble_eq_true rfl) rfl rfl (Nat.le_of_ble_eq_true rfl) ⟨Nat.zero_le _, Nat.zero_le _⟩ (fun r5 h6 q7 => z_fun q7 ?_)
        refine z_go hC (pc' := 94) (ls' := [some (.ref 4), some (.int a1), some (.int a2)]) (st' := [.int a1, .ref 4]) (h' := z_putv (z_putv h 5 36 a2 a1) 6 36 a1 a2) (cs := []) [.aload_n 0, .iload_n 1] (by decide +kernel) rfl rfl trivial ?_
        refine z_callV hC hN hR (as := [.int a1]) (rest := []) ok_X2_53 (by decide +kernel) (sp_X2_nextRoundTree l _ (z_putv (z_putv h 5 36 a2 a1) 6 36 a1 a2) a1) rfl rfl (Nat.le_of_ble_eq_true rfl) rfl rfl (Nat.le_of_ble_eq_true rfl) ⟨Nat.zero_le _, Nat.zero_le _⟩ (fun r8 h9 q10 => z_fun q10 ?_)
        refine z_go hC (pc' := 101) (ls' := [some (.ref 4), some (.int (fv_X2_nextRoundTree (z_putv (z_putv h 5 36 a2 a1) 6 36 a1 a2) a1)), some (.int (a2 + (nI 1)))]) (st' := []) (h' := z_putv (z_putv h 5 36 a2 a1) 6 36 a1 a2) (cs := []) [.istore_n 1, .iinc 2 1] (by decide +kernel) rfl rfl trivial ?_
        refine z_goto hC (off := -35) 66 (by decide +kernel) (by decide) ?_
        exact hk66 (fv_X2_nextRoundTree (z_putv (z_putv h 5 36 a2 a1) 6 36 a1 a2) a1) (a2 + (nI 1)) (z_putv (z_putv h 5 36 a2 a1) 6 36 a1 a2) T E
  have P34 : ∀ (n : Nat), ∀ (a1 : Int32) (h : z_H), tk_X2_layOut_34  n a1 h → fn_X2_layOut_34  n a1 h = RR → z_G p l e R s m args below meth c D dA ad 3 (z_PV RR) (z_c ext) 34 [some (.ref 4), some (.int a1), none] [] h := by
    intro  n
    induction n with
    | zero => intro a1 h T E; exact False.elim T
    | succ n ih =>
      intro a1 h T E
      unfold tk_X2_layOut_34 at T; unfold fn_X2_layOut_34 at E; dsimp only at T E
      have hk34 := ih
      refine z_go hC (pc' := 40) (ls' := [some (.ref 4), some (.int a1), none]) (st' := [.int (nI 36), .int a1]) (h' := h) (cs := []) [.iload_n 1, .aload_n 0, .getfield 15, .arraylength] (by decide +kernel) rfl rfl trivial ?_
      refine z_icmp_ge hC (off := 16) 56 (by decide +kernel) (by decide) (fun c11 => ?_) (fun c11 => ?_)
      · skip
        have E := (if_pos c11).symm.trans E
        have T := T.1 c11
        refine z_go hC (pc' := 60) (ls' := [some (.ref 4), some (.int a1), none]) (st' := [.ref 1]) (h' := h) (cs := []) [.aload_n 0, .getfield 21] (by decide +kernel) rfl rfl trivial ?_
        obtain ⟨t15, T⟩ := T
        refine z_callV hC hN hR (as := []) (rest := []) ok_X2_46 (by decide +kernel) (sp_X0_lowestOpenCell l _ h  t15) rfl rfl (Nat.le_of_ble_eq_true rfl) rfl rfl (Nat.le_of_ble_eq_true rfl) ⟨Nat.zero_le _, Nat.zero_le _⟩ (fun r12 h13 q14 => z_fun q14 ?_)
        refine z_go hC (pc' := 66) (ls' := [some (.ref 4), some (.int (z_vi0 (fn_X0_lowestOpenCell  h))), some (.int (nI 0))]) (st' := []) (h' := h) (cs := []) [.istore_n 1, .iconst 0, .istore_n 2] (by decide +kernel) rfl rfl trivial ?_
        exact P66 2000 (z_vi0 (fn_X0_lowestOpenCell  h)) (nI 0) h T E
      · skip
        have E := (if_neg c11).symm.trans E
        have T := T.2 c11
        obtain ⟨t16, T⟩ := T
        refine z_go hC (pc' := 53) (ls' := [some (.ref 4), some (.int (a1 + (nI 1))), none]) (st' := []) (h' := z_set h 6 a1.toNatClampNeg (-1)) (cs := [vp_in a1 36]) [.aload_n 0, .getfield 15, .iload_n 1, .iconst (-1), .iastore, .iinc 1 1] (by decide +kernel) rfl rfl t16 ?_
        refine z_goto hC (off := -19) 34 (by decide +kernel) (by decide) ?_
        exact hk34 (a1 + (nI 1)) (z_set h 6 a1.toNatClampNeg (-1)) T E
  have P29 : ∀ (s0 : Int32) (h : z_H), tk_X2_layOut_29  s0 h → fn_X2_layOut_29  s0 h = RR → z_G p l e R s m args below meth c D dA ad 3 (z_PV RR) (z_c ext) 29 [some (.ref 4), none, none] [.int s0, .ref 4] h := by
    intro  s0 h T E
    unfold tk_X2_layOut_29 at T; unfold fn_X2_layOut_29 at E
    refine z_go hC (pc' := 34) (ls' := [some (.ref 4), some (.int (nI 0)), none]) (st' := []) (h' := z_set h 4 4 s0) (cs := []) [.putfield 25, .iconst 0, .istore_n 1] (by decide +kernel) rfl rfl trivial ?_
    exact P34 2000 (nI 0) (z_set h 4 4 s0) T E
  refine z_go hC (pc' := 4) (ls' := [some (.ref 4), none, none]) (st' := [.ref 1]) (h' := h) (cs := []) [.aload_n 0, .getfield 21] (by decide +kernel) rfl rfl trivial ?_
  obtain ⟨t20, T⟩ := T
  refine z_callV hC hN hR (as := []) (rest := []) ok_X2_33 (by decide +kernel) (sp_X0_growTree l _ h  t20) rfl rfl (Nat.le_of_ble_eq_true rfl) rfl rfl (Nat.le_of_ble_eq_true rfl) ⟨Nat.zero_le _, Nat.zero_le _⟩ (fun r17 h18 q19 => z_fun q19 ?_)
  refine z_go hC (pc' := 12) (ls' := [some (.ref 4), none, none]) (st' := [.ref 1, .ref 4]) (h' := (fn_X0_growTree  h).2) (cs := []) [.aload_n 0, .aload_n 0, .getfield 21] (by decide +kernel) rfl rfl trivial ?_
  obtain ⟨t24, T⟩ := T
  refine z_callV hC hN hR (as := []) (rest := [.ref 4]) ok_X2_38 (by decide +kernel) (sp_X0_isJoinedWhole l _ ((fn_X0_growTree  h).2)  t24) rfl rfl (Nat.le_of_ble_eq_true rfl) rfl rfl (Nat.le_of_ble_eq_true rfl) ⟨Nat.zero_le _, Nat.zero_le _⟩ (fun r21 h22 q23 => z_funb q23 (fun z25 => ?_))
  refine z_if_eq hC (off := 13) 28 (by decide +kernel) (by decide) (fun c26 => ?_) (fun c26 => ?_)
  · skip
    have E := (if_pos c26).symm.trans E
    have T := T.1 c26
    refine z_go hC (pc' := 29) (ls' := [some (.ref 4), none, none]) (st' := [.int (nI 0), .ref 4]) (h' := (fn_X0_growTree  h).2) (cs := []) [.iconst 0] (by decide +kernel) rfl rfl trivial ?_
    exact P29  (nI 0) ((fn_X0_growTree  h).2) T E
  · skip
    have E := (if_neg c26).symm.trans E
    have T := T.2 c26
    refine z_go hC (pc' := 22) (ls' := [some (.ref 4), none, none]) (st' := [.ref 1, .ref 4]) (h' := (fn_X0_growTree  h).2) (cs := []) [.aload_n 0, .getfield 21] (by decide +kernel) rfl rfl trivial ?_
    refine z_callV hC hN hR (as := []) (rest := [.ref 4]) ok_X2_42 (by decide +kernel) (sp_X0_countOpenCells l _ ((fn_X0_growTree  h).2) ) rfl rfl (Nat.le_of_ble_eq_true rfl) rfl rfl (Nat.le_of_ble_eq_true rfl) ⟨Nat.zero_le _, Nat.zero_le _⟩ (fun r27 h28 q29 => z_fun q29 ?_)
    refine z_goto hC (off := 4) 29 (by decide +kernel) (by decide) ?_
    exact P29  ((nI 36) - ((nI 4) * (fv_J6_bitCount_0f7a4 (((fn_X0_growTree  h).2).1 1 2)))) ((fn_X0_growTree  h).2) T E

def fn_X2_cellByRings_27 (k2 : Int32 → Int32 → z_H → z_R) (a1 : Int32) (a2 : Int32) (h : z_H) : z_R := k2 a1 (a2 + (nI 1)) h
def tk_X2_cellByRings_27 (K2 : Int32 → Int32 → z_H → Prop) (a1 : Int32) (a2 : Int32) (h : z_H) : Prop := K2 a1 (a2 + (nI 1)) h
def fn_X2_cellByRings_57 (k35 : Int32 → Int32 → z_H → z_R) (a1 : Int32) (a2 : Int32) (h : z_H) : z_R := k35 a1 (a2 + (nI 1)) h
def tk_X2_cellByRings_57 (K35 : Int32 → Int32 → z_H → Prop) (a1 : Int32) (a2 : Int32) (h : z_H) : Prop := K35 a1 (a2 + (nI 1)) h
def fn_X2_cellByRings_73  : Nat → Int32 → Int32 → Int32 → z_H → z_R
  | 0, _, _, _, h => (none, h)
  | n + 1, a1, a2, a3, h => let k73 := fun (a1_ : Int32) (a2_ : Int32) (a3_ : Int32) (h_ : z_H) => fn_X2_cellByRings_73  n a1_ a2_ a3_ h_; if a1 ≤ a3 then (some (.int a2), h) else k73 a1 (z_atv h 7 36 a2) (a3 + (nI 1)) h
def tk_X2_cellByRings_73  : Nat → Int32 → Int32 → Int32 → z_H → Prop
  | 0, _, _, _, _ => False
  | n + 1, a1, a2, a3, h => let K73 := fun (a1_ : Int32) (a2_ : Int32) (a3_ : Int32) (h_ : z_H) => tk_X2_cellByRings_73  n a1_ a2_ a3_ h_; ((a1 ≤ a3) → (True)) ∧ ((¬ a1 ≤ a3) → (K73 a1 (z_atv h 7 36 a2) (a3 + (nI 1)) h))
def fn_X2_cellByRings_35  : Nat → Int32 → Int32 → z_H → z_R
  | 0, _, _, h => (none, h)
  | n + 1, a1, a2, h => let k35 := fun (a1_ : Int32) (a2_ : Int32) (h_ : z_H) => fn_X2_cellByRings_35  n a1_ a2_ h_; if (nI 12) ≤ a2 then fn_X2_cellByRings_73 2000 a1 (z_vi0 (fn_X0_lowestOpenCell  h)) (nI 0) h else if (fv_X0_treeHas h a2) = 0 then fn_X2_cellByRings_57 k35 a1 a2 h else fn_X2_cellByRings_57 k35 a1 a2 (fh_X2_makeOneOfTwo h a2)
def tk_X2_cellByRings_35  : Nat → Int32 → Int32 → z_H → Prop
  | 0, _, _, _ => False
  | n + 1, a1, a2, h => let K35 := fun (a1_ : Int32) (a2_ : Int32) (h_ : z_H) => tk_X2_cellByRings_35  n a1_ a2_ h_; (((nI 12) ≤ a2) → (tk_X0_lowestOpenCell  h ∧ (tk_X2_cellByRings_73 2000 a1 (z_vi0 (fn_X0_lowestOpenCell  h)) (nI 0) h))) ∧ ((¬ (nI 12) ≤ a2) → ((((fv_X0_treeHas h a2) = 0) → (tk_X2_cellByRings_57 K35 a1 a2 h)) ∧ ((¬ (fv_X0_treeHas h a2) = 0) → (tk_X2_cellByRings_57 K35 a1 a2 (fh_X2_makeOneOfTwo h a2)))))
def fn_X2_cellByRings_2  : Nat → Int32 → Int32 → z_H → z_R
  | 0, _, _, h => (none, h)
  | n + 1, a1, a2, h => let k2 := fun (a1_ : Int32) (a2_ : Int32) (h_ : z_H) => fn_X2_cellByRings_2  n a1_ a2_ h_; if (nI 9) ≤ a2 then fn_X2_cellByRings_35 2000 a1 (nI 0) h else if (fv_X0_hasWallOn h a2) = 0 then fn_X2_cellByRings_27 k2 a1 a2 (z_putv (z_putv (z_putv (z_putv h 7 36 (fv_X0_upperLeftOf a2) ((fv_X0_upperLeftOf a2) + (nI 1))) 7 36 ((fv_X0_upperLeftOf a2) + (nI 1)) (((fv_X0_upperLeftOf a2) + (nI 6)) + (nI 1))) 7 36 (((fv_X0_upperLeftOf a2) + (nI 6)) + (nI 1)) ((fv_X0_upperLeftOf a2) + (nI 6))) 7 36 ((fv_X0_upperLeftOf a2) + (nI 6)) (fv_X0_upperLeftOf a2)) else fn_X2_cellByRings_27 k2 a1 a2 h
def tk_X2_cellByRings_2  : Nat → Int32 → Int32 → z_H → Prop
  | 0, _, _, _ => False
  | n + 1, a1, a2, h => let K2 := fun (a1_ : Int32) (a2_ : Int32) (h_ : z_H) => tk_X2_cellByRings_2  n a1_ a2_ h_; (((nI 9) ≤ a2) → (tk_X2_cellByRings_35 2000 a1 (nI 0) h)) ∧ ((¬ (nI 9) ≤ a2) → ((((fv_X0_hasWallOn h a2) = 0) → (tk_X2_cellByRings_27 K2 a1 a2 (z_putv (z_putv (z_putv (z_putv h 7 36 (fv_X0_upperLeftOf a2) ((fv_X0_upperLeftOf a2) + (nI 1))) 7 36 ((fv_X0_upperLeftOf a2) + (nI 1)) (((fv_X0_upperLeftOf a2) + (nI 6)) + (nI 1))) 7 36 (((fv_X0_upperLeftOf a2) + (nI 6)) + (nI 1)) ((fv_X0_upperLeftOf a2) + (nI 6))) 7 36 ((fv_X0_upperLeftOf a2) + (nI 6)) (fv_X0_upperLeftOf a2)))) ∧ ((¬ (fv_X0_hasWallOn h a2) = 0) → (tk_X2_cellByRings_27 K2 a1 a2 h))))
def fn_X2_cellByRings (x : Int32) (h : z_H) : z_R := fn_X2_cellByRings_2 2000 x (nI 0) h
def tk_X2_cellByRings (x : Int32) (h : z_H) : Prop := tk_X2_cellByRings_2 2000 x (nI 0) h
set_option maxHeartbeats 4000000 in
set_option maxRecDepth 100000 in
theorem sp_X2_cellByRings (l : Launch) (ext : z_Sh)  (h : z_H) (x : Int32)  (T : tk_X2_cellByRings x h) : z_Sp l 3 yX2_cellByRings cX2_cellByRings 4 (some .int) [.ref 4, .int x] (z_c ext) h (z_PI (fn_X2_cellByRings x h)) := by
  refine z_enter ft_X2 (by decide +kernel) fo_X2 (Nat.le_of_ble_eq_true rfl) ?_
  intro p e R s m args below meth c D dA ad hB
  have hC := hB.1
  have hN := hB.2.1
  have hR := hB.2.2.1
  unfold tk_X2_cellByRings at T; have E : (fn_X2_cellByRings_2 2000 x (nI 0) h) = fn_X2_cellByRings x h := rfl
  generalize fn_X2_cellByRings x h = RR at E ⊢
  have P27 : ∀ (k2 : Int32 → Int32 → z_H → z_R) (K2 : Int32 → Int32 → z_H → Prop) (hk2 : ∀ (a1 : Int32) (a2 : Int32) (h : z_H), K2 a1 a2 h → k2 a1 a2 h = RR → z_G p l e R s m args below meth c D dA ad 4 (z_PI RR) (z_c ext) 2 [some (.ref 4), some (.int a1), some (.int a2), none] [] h), ∀ (a1 : Int32) (a2 : Int32) (h : z_H), tk_X2_cellByRings_27 K2 a1 a2 h → fn_X2_cellByRings_27 k2 a1 a2 h = RR → z_G p l e R s m args below meth c D dA ad 4 (z_PI RR) (z_c ext) 27 [some (.ref 4), some (.int a1), some (.int a2), none] [] h := by
    intro k2 K2 hk2 a1 a2 h T E
    unfold tk_X2_cellByRings_27 at T; unfold fn_X2_cellByRings_27 at E
    refine z_go hC (pc' := 30) (ls' := [some (.ref 4), some (.int a1), some (.int (a2 + (nI 1))), none]) (st' := []) (h' := h) (cs := []) [.iinc 2 1] (by decide +kernel) rfl rfl trivial ?_
    refine z_goto hC (off := -28) 2 (by decide +kernel) (by decide) ?_
    exact hk2 a1 (a2 + (nI 1)) h T E
  have P57 : ∀ (k35 : Int32 → Int32 → z_H → z_R) (K35 : Int32 → Int32 → z_H → Prop) (hk35 : ∀ (a1 : Int32) (a2 : Int32) (h : z_H), K35 a1 a2 h → k35 a1 a2 h = RR → z_G p l e R s m args below meth c D dA ad 4 (z_PI RR) (z_c ext) 35 [some (.ref 4), some (.int a1), some (.int a2), none] [] h), ∀ (a1 : Int32) (a2 : Int32) (h : z_H), tk_X2_cellByRings_57 K35 a1 a2 h → fn_X2_cellByRings_57 k35 a1 a2 h = RR → z_G p l e R s m args below meth c D dA ad 4 (z_PI RR) (z_c ext) 57 [some (.ref 4), some (.int a1), some (.int a2), none] [] h := by
    intro k35 K35 hk35 a1 a2 h T E
    unfold tk_X2_cellByRings_57 at T; unfold fn_X2_cellByRings_57 at E
    refine z_go hC (pc' := 60) (ls' := [some (.ref 4), some (.int a1), some (.int (a2 + (nI 1))), none]) (st' := []) (h' := h) (cs := []) [.iinc 2 1] (by decide +kernel) rfl rfl trivial ?_
    refine z_goto hC (off := -25) 35 (by decide +kernel) (by decide) ?_
    exact hk35 a1 (a2 + (nI 1)) h T E
  have P73 : ∀ (n : Nat), ∀ (a1 : Int32) (a2 : Int32) (a3 : Int32) (h : z_H), tk_X2_cellByRings_73  n a1 a2 a3 h → fn_X2_cellByRings_73  n a1 a2 a3 h = RR → z_G p l e R s m args below meth c D dA ad 4 (z_PI RR) (z_c ext) 73 [some (.ref 4), some (.int a1), some (.int a2), some (.int a3)] [] h := by
    intro  n
    induction n with
    | zero => intro a1 a2 a3 h T E; exact False.elim T
    | succ n ih =>
      intro a1 a2 a3 h T E
      unfold tk_X2_cellByRings_73 at T; unfold fn_X2_cellByRings_73 at E; dsimp only at T E
      have hk73 := ih
      refine z_go hC (pc' := 75) (ls' := [some (.ref 4), some (.int a1), some (.int a2), some (.int a3)]) (st' := [.int a1, .int a3]) (h' := h) (cs := []) [.iload_n 3, .iload_n 1] (by decide +kernel) rfl rfl trivial ?_
      refine z_icmp_ge hC (off := 18) 93 (by decide +kernel) (by decide) (fun c1 => ?_) (fun c1 => ?_)
      · skip
        have E := (if_pos c1).symm.trans E
        have T := T.1 c1
        refine z_go hC (pc' := 94) (ls' := [some (.ref 4), some (.int a1), some (.int a2), some (.int a3)]) (st' := [.int a2]) (h' := h) (cs := []) [.iload_n 2] (by decide +kernel) rfl rfl trivial ?_
        exact z_ret_i hB rfl (by decide +kernel) (z_lfi E)
      · skip
        have E := (if_neg c1).symm.trans E
        have T := T.2 c1
        refine z_go hC (pc' := 83) (ls' := [some (.ref 4), some (.int a1), some (.int a2), some (.int a3)]) (st' := [.int a2, .ref 7]) (h' := h) (cs := []) [.aload_n 0, .getfield 18, .iload_n 2] (by decide +kernel) rfl rfl trivial ?_
        refine z_callSN hC hN hR (as := [.ref 7, .int a2]) (rest := []) ok_X2_29 (by decide +kernel) (sp_X7_at l _ h 7 36 [] a2 rfl (by decide)) (Nat.le_of_ble_eq_true rfl) rfl rfl (Nat.le_of_ble_eq_true rfl) ⟨Nat.zero_le _, Nat.zero_le _⟩ (fun r2 h3 q4 => z_fun q4 ?_)
        refine z_go hC (pc' := 90) (ls' := [some (.ref 4), some (.int a1), some (.int (z_atv h 7 36 a2)), some (.int (a3 + (nI 1)))]) (st' := []) (h' := h) (cs := []) [.istore_n 2, .iinc 3 1] (by decide +kernel) rfl rfl trivial ?_
        refine z_goto hC (off := -17) 73 (by decide +kernel) (by decide) ?_
        exact hk73 a1 (z_atv h 7 36 a2) (a3 + (nI 1)) h T E
  have P35 : ∀ (n : Nat), ∀ (a1 : Int32) (a2 : Int32) (h : z_H), tk_X2_cellByRings_35  n a1 a2 h → fn_X2_cellByRings_35  n a1 a2 h = RR → z_G p l e R s m args below meth c D dA ad 4 (z_PI RR) (z_c ext) 35 [some (.ref 4), some (.int a1), some (.int a2), none] [] h := by
    intro  n
    induction n with
    | zero => intro a1 a2 h T E; exact False.elim T
    | succ n ih =>
      intro a1 a2 h T E
      unfold tk_X2_cellByRings_35 at T; unfold fn_X2_cellByRings_35 at E; dsimp only at T E
      have hk35 := ih
      refine z_go hC (pc' := 38) (ls' := [some (.ref 4), some (.int a1), some (.int a2), none]) (st' := [.int (nI 12), .int a2]) (h' := h) (cs := []) [.iload_n 2, .bipush 12] (by decide +kernel) rfl rfl trivial ?_
      refine z_icmp_ge hC (off := 25) 63 (by decide +kernel) (by decide) (fun c5 => ?_) (fun c5 => ?_)
      · skip
        have E := (if_pos c5).symm.trans E
        have T := T.1 c5
        refine z_go hC (pc' := 67) (ls' := [some (.ref 4), some (.int a1), some (.int a2), none]) (st' := [.ref 1]) (h' := h) (cs := []) [.aload_n 0, .getfield 21] (by decide +kernel) rfl rfl trivial ?_
        obtain ⟨t9, T⟩ := T
        refine z_callV hC hN hR (as := []) (rest := []) ok_X2_46 (by decide +kernel) (sp_X0_lowestOpenCell l _ h  t9) rfl rfl (Nat.le_of_ble_eq_true rfl) rfl rfl (Nat.le_of_ble_eq_true rfl) ⟨Nat.zero_le _, Nat.zero_le _⟩ (fun r6 h7 q8 => z_fun q8 ?_)
        refine z_go hC (pc' := 73) (ls' := [some (.ref 4), some (.int a1), some (.int (z_vi0 (fn_X0_lowestOpenCell  h))), some (.int (nI 0))]) (st' := []) (h' := h) (cs := []) [.istore_n 2, .iconst 0, .istore_n 3] (by decide +kernel) rfl rfl trivial ?_
        exact P73 2000 a1 (z_vi0 (fn_X0_lowestOpenCell  h)) (nI 0) h T E
      · skip
        have E := (if_neg c5).symm.trans E
        have T := T.2 c5
        refine z_go hC (pc' := 46) (ls' := [some (.ref 4), some (.int a1), some (.int a2), none]) (st' := [.int a2, .ref 1]) (h' := h) (cs := []) [.aload_n 0, .getfield 21, .iload_n 2] (by decide +kernel) rfl rfl trivial ?_
        refine z_callV hC hN hR (as := [.int a2]) (rest := []) ok_X2_67 (by decide +kernel) (sp_X0_treeHas l _ h a2) rfl rfl (Nat.le_of_ble_eq_true rfl) rfl rfl (Nat.le_of_ble_eq_true rfl) ⟨Nat.zero_le _, Nat.zero_le _⟩ (fun r10 h11 q12 => z_fun q12 ?_)
        refine z_if_eq hC (off := 8) 57 (by decide +kernel) (by decide) (fun c13 => ?_) (fun c13 => ?_)
        · skip
          have E := (if_pos c13).symm.trans E
          have T := T.1 c13
          exact P57 _ _ hk35 a1 a2 h T E
        · skip
          have E := (if_neg c13).symm.trans E
          have T := T.2 c13
          refine z_go hC (pc' := 54) (ls' := [some (.ref 4), some (.int a1), some (.int a2), none]) (st' := [.int a2, .ref 4]) (h' := h) (cs := []) [.aload_n 0, .iload_n 2] (by decide +kernel) rfl rfl trivial ?_
          refine z_callV hC hN hR (as := [.int a2]) (rest := []) ok_X2_84 (by decide +kernel) (sp_X2_makeOneOfTwo l _ h a2) rfl rfl (Nat.le_of_ble_eq_true rfl) rfl rfl (Nat.le_of_ble_eq_true rfl) ⟨Nat.zero_le _, Nat.zero_le _⟩ (fun r14 h15 q16 => z_fun q16 ?_)
          exact P57 _ _ hk35 a1 a2 (fh_X2_makeOneOfTwo h a2) T E
  have P2 : ∀ (n : Nat), ∀ (a1 : Int32) (a2 : Int32) (h : z_H), tk_X2_cellByRings_2  n a1 a2 h → fn_X2_cellByRings_2  n a1 a2 h = RR → z_G p l e R s m args below meth c D dA ad 4 (z_PI RR) (z_c ext) 2 [some (.ref 4), some (.int a1), some (.int a2), none] [] h := by
    intro  n
    induction n with
    | zero => intro a1 a2 h T E; exact False.elim T
    | succ n ih =>
      intro a1 a2 h T E
      unfold tk_X2_cellByRings_2 at T; unfold fn_X2_cellByRings_2 at E; dsimp only at T E
      have hk2 := ih
      refine z_go hC (pc' := 5) (ls' := [some (.ref 4), some (.int a1), some (.int a2), none]) (st' := [.int (nI 9), .int a2]) (h' := h) (cs := []) [.iload_n 2, .bipush 9] (by decide +kernel) rfl rfl trivial ?_
      refine z_icmp_ge hC (off := 28) 33 (by decide +kernel) (by decide) (fun c17 => ?_) (fun c17 => ?_)
      · skip
        have E := (if_pos c17).symm.trans E
        have T := T.1 c17
        refine z_go hC (pc' := 35) (ls' := [some (.ref 4), some (.int a1), some (.int (nI 0)), none]) (st' := []) (h' := h) (cs := []) [.iconst 0, .istore_n 2] (by decide +kernel) rfl rfl trivial ?_
        exact P35 2000 a1 (nI 0) h T E
      · skip
        have E := (if_neg c17).symm.trans E
        have T := T.2 c17
        refine z_go hC (pc' := 13) (ls' := [some (.ref 4), some (.int a1), some (.int a2), none]) (st' := [.int a2, .ref 1]) (h' := h) (cs := []) [.aload_n 0, .getfield 21, .iload_n 2] (by decide +kernel) rfl rfl trivial ?_
        refine z_callV hC hN hR (as := [.int a2]) (rest := []) ok_X2_74 (by decide +kernel) (sp_X0_hasWallOn l _ h a2) rfl rfl (Nat.le_of_ble_eq_true rfl) rfl rfl (Nat.le_of_ble_eq_true rfl) ⟨Nat.zero_le _, Nat.zero_le _⟩ (fun r18 h19 q20 => z_fun q20 ?_)
        refine z_if_ne hC (off := 11) 27 (by decide +kernel) (by decide) (fun c21 => ?_) (fun c21 => ?_)
        · skip
          have E := (if_neg c21).symm.trans E
          have T := T.2 c21
          exact P27 _ _ hk2 a1 a2 h T E
        · skip
          have E := (if_pos c21).symm.trans E
          have T := T.1 c21
          refine z_go hC (pc' := 21) (ls' := [some (.ref 4), some (.int a1), some (.int a2), none]) (st' := [.int a2, .ref 4]) (h' := h) (cs := []) [.aload_n 0, .iload_n 2] (by decide +kernel) rfl rfl trivial ?_
          refine z_callS hC hN hR (as := [.int a2]) (rest := [.ref 4]) ok_X2_77 (by decide +kernel) (sp_X0_upperLeftOf l _ h a2) (Nat.le_of_ble_eq_true rfl) rfl rfl (Nat.le_of_ble_eq_true rfl) ⟨Nat.zero_le _, Nat.zero_le _⟩ (fun r22 h23 q24 => z_fun q24 ?_)
          refine z_callV hC hN hR (as := [.int (fv_X0_upperLeftOf a2)]) (rest := []) ok_X2_80 (by decide +kernel) (sp_X2_makeRing l _ h (fv_X0_upperLeftOf a2)) rfl rfl (Nat.le_of_ble_eq_true rfl) rfl rfl (Nat.le_of_ble_eq_true rfl) ⟨Nat.zero_le _, Nat.zero_le _⟩ (fun r25 h26 q27 => z_fun q27 ?_)
          exact P27 _ _ hk2 a1 a2 (z_putv (z_putv (z_putv (z_putv h 7 36 (fv_X0_upperLeftOf a2) ((fv_X0_upperLeftOf a2) + (nI 1))) 7 36 ((fv_X0_upperLeftOf a2) + (nI 1)) (((fv_X0_upperLeftOf a2) + (nI 6)) + (nI 1))) 7 36 (((fv_X0_upperLeftOf a2) + (nI 6)) + (nI 1)) ((fv_X0_upperLeftOf a2) + (nI 6))) 7 36 ((fv_X0_upperLeftOf a2) + (nI 6)) (fv_X0_upperLeftOf a2)) T E
  refine z_go hC (pc' := 2) (ls' := [some (.ref 4), some (.int x), some (.int (nI 0)), none]) (st' := []) (h' := h) (cs := []) [.iconst 0, .istore_n 2] (by decide +kernel) rfl rfl trivial ?_
  exact P2 2000 x (nI 0) h T E
