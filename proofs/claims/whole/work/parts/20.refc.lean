/-! ===== printed by wip/whole/gen: methods with loops, as functions ===== -/
def fn_X8_far (x : Int32) (y : Int32) (h : z_H) : (Option Value) := some (.int ((((h.1 25 y.toNatClampNeg) - (h.1 25 x.toNatClampNeg)) + (h.1 20 7)) - (((h.1 25 y.toNatClampNeg) - (h.1 25 x.toNatClampNeg)) + (h.1 20 7)) / (h.1 20 7) * (h.1 20 7)))
def tk_X8_far (x : Int32) (y : Int32) (h : z_H) : Prop := vp_in y 36 ∧ vp_in x 36 ∧ ¬ (h.1 20 7) = 0
set_option maxHeartbeats 4000000 in
set_option maxRecDepth 100000 in
theorem sp_X8_far (l : Launch) (ext : z_Sh)  (h : z_H) (x : Int32) (y : Int32)  (T : tk_X8_far x y h) : z_Sp l 0 yX8_far cX8_far 3 (some .int) [.ref 20, .int x, .int y] (z_m ext) h (z_QI h (fn_X8_far x y h)) := by
  refine z_enter ft_X8 (by decide +kernel) fo_X8 (Nat.le_of_ble_eq_true rfl) ?_
  intro p e R s m args below meth c D dA ad hB
  have hC := hB.1
  have hN := hB.2.1
  have hR := hB.2.2.1
  unfold tk_X8_far at T; have E : (some (.int ((((h.1 25 y.toNatClampNeg) - (h.1 25 x.toNatClampNeg)) + (h.1 20 7)) - (((h.1 25 y.toNatClampNeg) - (h.1 25 x.toNatClampNeg)) + (h.1 20 7)) / (h.1 20 7) * (h.1 20 7)))) = fn_X8_far x y h := rfl
  generalize fn_X8_far x y h = RR at E ⊢
  obtain ⟨t1, t2, t3⟩ := T
  refine z_go hC (pc' := 23) (ls' := [some (.ref 20), some (.int x), some (.int y)]) (st' := [.int ((((h.1 25 y.toNatClampNeg) - (h.1 25 x.toNatClampNeg)) + (h.1 20 7)) - (((h.1 25 y.toNatClampNeg) - (h.1 25 x.toNatClampNeg)) + (h.1 20 7)) / (h.1 20 7) * (h.1 20 7))]) (h' := h) (cs := [vp_in y 36, vp_in x 36, ¬ (h.1 20 7) = 0]) [.aload_n 0, .getfield 23, .iload_n 2, .iaload, .aload_n 0, .getfield 23, .iload_n 1, .iaload, .isub, .aload_n 0, .getfield 81, .iadd, .aload_n 0, .getfield 81, .irem] (by decide +kernel) rfl rfl ⟨t1, t2, t3⟩ ?_
  exact z_ret_i hB rfl (by decide +kernel) (z_lfi0 E)

def fn_X8_extent_4 (h : z_H)  : Nat → Int32 → Int32 → (Option Value)
  | 0, _, _ => none
  | n + 1, a1, a2 => let k4 := fun (a1_ : Int32) (a2_ : Int32) => fn_X8_extent_4 h  n a1_ a2_; if (h.1 20 12) ≤ a2 then some (.int a1) else k4 (a1 + (z_vi0 (fn_X8_far (h.1 28 a2.toNatClampNeg) (h.1 28 ((a2 - (nI 1)).toNatClampNeg)) h))) (a2 + (nI 1))
def tk_X8_extent_4 (h : z_H)  : Nat → Int32 → Int32 → Prop
  | 0, _, _ => False
  | n + 1, a1, a2 => let K4 := fun (a1_ : Int32) (a2_ : Int32) => tk_X8_extent_4 h  n a1_ a2_; (((h.1 20 12) ≤ a2) → (True)) ∧ ((¬ (h.1 20 12) ≤ a2) → (vp_in a2 37 ∧ vp_in (a2 - (nI 1)) 37 ∧ (tk_X8_far (h.1 28 a2.toNatClampNeg) (h.1 28 ((a2 - (nI 1)).toNatClampNeg)) h ∧ (K4 (a1 + (z_vi0 (fn_X8_far (h.1 28 a2.toNatClampNeg) (h.1 28 ((a2 - (nI 1)).toNatClampNeg)) h))) (a2 + (nI 1))))))
def fn_X8_extent  (h : z_H) : (Option Value) := fn_X8_extent_4 h 2000 (nI 0) (nI 1)
def tk_X8_extent  (h : z_H) : Prop := tk_X8_extent_4 h 2000 (nI 0) (nI 1)
set_option maxHeartbeats 4000000 in
set_option maxRecDepth 100000 in
theorem sp_X8_extent (l : Launch) (ext : z_Sh)  (h : z_H)   (T : tk_X8_extent  h) : z_Sp l 1 yX8_extent cX8_extent 3 (some .int) [.ref 20] (z_m ext) h (z_QI h (fn_X8_extent  h)) := by
  refine z_enter ft_X8 (by decide +kernel) fo_X8 (Nat.le_of_ble_eq_true rfl) ?_
  intro p e R s m args below meth c D dA ad hB
  have hC := hB.1
  have hN := hB.2.1
  have hR := hB.2.2.1
  unfold tk_X8_extent at T; have E : (fn_X8_extent_4 h 2000 (nI 0) (nI 1)) = fn_X8_extent  h := rfl
  generalize fn_X8_extent  h = RR at E ⊢
  have P4 : ∀ (n : Nat), ∀ (a1 : Int32) (a2 : Int32), tk_X8_extent_4 h  n a1 a2 → fn_X8_extent_4 h  n a1 a2 = RR → z_G p l e R s m args below meth c D dA ad 3 (z_QI h RR) (z_m ext) 4 [some (.ref 20), some (.int a1), some (.int a2)] [] h := by
    intro  n
    induction n with
    | zero => intro a1 a2 T E; exact False.elim T
    | succ n ih =>
      intro a1 a2 T E
      unfold tk_X8_extent_4 at T; unfold fn_X8_extent_4 at E; dsimp only at T E
      have hk4 := ih
      refine z_go hC (pc' := 9) (ls' := [some (.ref 20), some (.int a1), some (.int a2)]) (st' := [.int (h.1 20 12), .int a2]) (h' := h) (cs := []) [.iload_n 2, .aload_n 0, .getfield 111] (by decide +kernel) rfl rfl trivial ?_
      refine z_icmp_ge hC (off := 30) 39 (by decide +kernel) (by decide) (fun c1 => ?_) (fun c1 => ?_)
      · skip
        have E := (if_pos c1).symm.trans E
        have T := T.1 c1
        refine z_go hC (pc' := 40) (ls' := [some (.ref 20), some (.int a1), some (.int a2)]) (st' := [.int a1]) (h' := h) (cs := []) [.iload_n 1] (by decide +kernel) rfl rfl trivial ?_
        exact z_ret_i hB rfl (by decide +kernel) (z_lfi0 E)
      · skip
        have E := (if_neg c1).symm.trans E
        have T := T.2 c1
        obtain ⟨t2, t3, T⟩ := T
        refine z_go hC (pc' := 28) (ls' := [some (.ref 20), some (.int a1), some (.int a2)]) (st' := [.int (h.1 28 ((a2 - (nI 1)).toNatClampNeg)), .int (h.1 28 a2.toNatClampNeg), .ref 20, .int a1]) (h' := h) (cs := [vp_in a2 37, vp_in (a2 - (nI 1)) 37]) [.iload_n 1, .aload_n 0, .aload_n 0, .getfield 32, .iload_n 2, .iaload, .aload_n 0, .getfield 32, .iload_n 2, .iconst 1, .isub, .iaload] (by decide +kernel) rfl rfl ⟨t2, t3⟩ ?_
        obtain ⟨t7, T⟩ := T
        refine z_callV hC hN hR (as := [.int (h.1 28 a2.toNatClampNeg), .int (h.1 28 ((a2 - (nI 1)).toNatClampNeg))]) (rest := [.int a1]) ok_X8_137 (by decide +kernel) (sp_X8_far l _ h (h.1 28 a2.toNatClampNeg) (h.1 28 ((a2 - (nI 1)).toNatClampNeg)) t7) rfl rfl (Nat.le_of_ble_eq_true rfl) rfl rfl (Nat.le_of_ble_eq_true rfl) ⟨Nat.zero_le _, Nat.zero_le _⟩ (fun r4 h5 q6 => z_fun q6 ?_)
        refine z_go hC (pc' := 36) (ls' := [some (.ref 20), some (.int (a1 + (z_vi0 (fn_X8_far (h.1 28 a2.toNatClampNeg) (h.1 28 ((a2 - (nI 1)).toNatClampNeg)) h)))), some (.int (a2 + (nI 1)))]) (st' := []) (h' := h) (cs := []) [.iadd, .istore_n 1, .iinc 2 1] (by decide +kernel) rfl rfl trivial ?_
        refine z_goto hC (off := -32) 4 (by decide +kernel) (by decide) ?_
        exact hk4 (a1 + (z_vi0 (fn_X8_far (h.1 28 a2.toNatClampNeg) (h.1 28 ((a2 - (nI 1)).toNatClampNeg)) h))) (a2 + (nI 1)) T E
  refine z_go hC (pc' := 4) (ls' := [some (.ref 20), some (.int (nI 0)), some (.int (nI 1))]) (st' := []) (h' := h) (cs := []) [.iconst 0, .istore_n 1, .iconst 1, .istore_n 2] (by decide +kernel) rfl rfl trivial ?_
  exact P4 2000 (nI 0) (nI 1) T E

def fn_X8_isOrdered  (h : z_H) : (Option Value) := if (h.1 20 10) = 0 then some (.int (nI 0)) else if (h.1 20 7) ≤ 0 then some (.int (nI 0)) else if (h.1 20 7) ≤ (z_vi0 (fn_X8_extent  h)) then some (.int (nI 0)) else some (.int (nI 1))
def tk_X8_isOrdered  (h : z_H) : Prop := (((h.1 20 10) = 0) → (True)) ∧ ((¬ (h.1 20 10) = 0) → ((((h.1 20 7) ≤ 0) → (True)) ∧ ((¬ (h.1 20 7) ≤ 0) → (tk_X8_extent  h))))
set_option maxHeartbeats 4000000 in
set_option maxRecDepth 100000 in
theorem sp_X8_isOrdered (l : Launch) (ext : z_Sh)  (h : z_H)   (T : tk_X8_isOrdered  h) : z_Sp l 2 yX8_isOrdered cX8_isOrdered 1 (some .boolean) [.ref 20] (z_m ext) h (z_QB h (fn_X8_isOrdered  h)) := by
  refine z_enter ft_X8 (by decide +kernel) fo_X8 (Nat.le_of_ble_eq_true rfl) ?_
  intro p e R s m args below meth c D dA ad hB
  have hC := hB.1
  have hN := hB.2.1
  have hR := hB.2.2.1
  unfold tk_X8_isOrdered at T; have E : (if (h.1 20 10) = 0 then some (.int (nI 0)) else if (h.1 20 7) ≤ 0 then some (.int (nI 0)) else if (h.1 20 7) ≤ (z_vi0 (fn_X8_extent  h)) then some (.int (nI 0)) else some (.int (nI 1))) = fn_X8_isOrdered  h := rfl
  generalize fn_X8_isOrdered  h = RR at E ⊢
  refine z_go hC (pc' := 4) (ls' := [some (.ref 20)]) (st' := [.int (h.1 20 10)]) (h' := h) (cs := []) [.aload_n 0, .getfield 91] (by decide +kernel) rfl rfl trivial ?_
  refine z_if_eq hC (off := 25) 29 (by decide +kernel) (by decide) (fun c1 => ?_) (fun c1 => ?_)
  · skip
    have E := (if_pos c1).symm.trans E
    have T := T.1 c1
    refine z_go hC (pc' := 30) (ls' := [some (.ref 20)]) (st' := [.int (nI 0)]) (h' := h) (cs := []) [.iconst 0] (by decide +kernel) rfl rfl trivial ?_
    exact z_ret_z hB rfl (show (nI 0 = 0 ∨ nI 0 = 1) by decide) (by decide +kernel) (z_lfb0 (show (nI 0 = 0 ∨ nI 0 = 1) by decide) E)
  · skip
    have E := (if_neg c1).symm.trans E
    have T := T.2 c1
    refine z_go hC (pc' := 11) (ls' := [some (.ref 20)]) (st' := [.int (h.1 20 7)]) (h' := h) (cs := []) [.aload_n 0, .getfield 81] (by decide +kernel) rfl rfl trivial ?_
    refine z_if_le hC (off := 18) 29 (by decide +kernel) (by decide) (fun c2 => ?_) (fun c2 => ?_)
    · skip
      have E := (if_pos c2).symm.trans E
      have T := T.1 c2
      refine z_go hC (pc' := 30) (ls' := [some (.ref 20)]) (st' := [.int (nI 0)]) (h' := h) (cs := []) [.iconst 0] (by decide +kernel) rfl rfl trivial ?_
      exact z_ret_z hB rfl (show (nI 0 = 0 ∨ nI 0 = 1) by decide) (by decide +kernel) (z_lfb0 (show (nI 0 = 0 ∨ nI 0 = 1) by decide) E)
    · skip
      have E := (if_neg c2).symm.trans E
      have T := T.2 c2
      refine z_go hC (pc' := 15) (ls' := [some (.ref 20)]) (st' := [.ref 20]) (h' := h) (cs := []) [.aload_n 0] (by decide +kernel) rfl rfl trivial ?_
      have t6 := T
      refine z_callV hC hN hR (as := []) (rest := []) ok_X8_140 (by decide +kernel) (sp_X8_extent l _ h  t6) rfl rfl (Nat.le_of_ble_eq_true rfl) rfl rfl (Nat.le_of_ble_eq_true rfl) ⟨Nat.zero_le _, Nat.zero_le _⟩ (fun r3 h4 q5 => z_fun q5 ?_)
      refine z_go hC (pc' := 22) (ls' := [some (.ref 20)]) (st' := [.int (h.1 20 7), .int (z_vi0 (fn_X8_extent  h))]) (h' := h) (cs := []) [.aload_n 0, .getfield 81] (by decide +kernel) rfl rfl trivial ?_
      refine z_icmp_ge hC (off := 7) 29 (by decide +kernel) (by decide) (fun c7 => ?_) (fun c7 => ?_)
      · skip
        have E := (if_pos c7).symm.trans E
        refine z_go hC (pc' := 30) (ls' := [some (.ref 20)]) (st' := [.int (nI 0)]) (h' := h) (cs := []) [.iconst 0] (by decide +kernel) rfl rfl trivial ?_
        exact z_ret_z hB rfl (show (nI 0 = 0 ∨ nI 0 = 1) by decide) (by decide +kernel) (z_lfb0 (show (nI 0 = 0 ∨ nI 0 = 1) by decide) E)
      · skip
        have E := (if_neg c7).symm.trans E
        refine z_go hC (pc' := 26) (ls' := [some (.ref 20)]) (st' := [.int (nI 1)]) (h' := h) (cs := []) [.iconst 1] (by decide +kernel) rfl rfl trivial ?_
        refine z_goto hC (off := 4) 30 (by decide +kernel) (by decide) ?_
        exact z_ret_z hB rfl (show (nI 1 = 0 ∨ nI 1 = 1) by decide) (by decide +kernel) (z_lfb0 (show (nI 1 = 0 ∨ nI 1 = 1) by decide) E)

def fn_X8_isSafeTo_154 (h : z_H)  (a1 : Int32) (a2 : Int32) (a3 : Int32) (a5 : Int32) (s0 : Int32) (s1 : Int32) : (Option Value) := if (h.1 20 7) ≤ a5 then some (.int (nI 0)) else if a3 < (z_vi0 (fn_X8_far a2 a1 h)) then some (.int (nI 0)) else if (((h.1 20 7) - a5) - (nI 1)) < (s1 + s0) then some (.int (nI 0)) else some (.int (nI 1))
def tk_X8_isSafeTo_154 (h : z_H)  (a1 : Int32) (a2 : Int32) (a3 : Int32) (a5 : Int32) (s0 : Int32) (s1 : Int32) : Prop := (((h.1 20 7) ≤ a5) → (True)) ∧ ((¬ (h.1 20 7) ≤ a5) → (tk_X8_far a2 a1 h))
def fn_X8_isSafeTo_139 (h : z_H)  (a1 : Int32) (a2 : Int32) (a3 : Int32) (a5 : Int32) (s0 : Int32) : (Option Value) := if a1 = (h.1 27 ((nI 0).toNatClampNeg)) then fn_X8_isSafeTo_154 h a1 a2 a3 a5 (nI 2) s0 else fn_X8_isSafeTo_154 h a1 a2 a3 a5 (nI 0) s0
def tk_X8_isSafeTo_139 (h : z_H)  (a1 : Int32) (a2 : Int32) (a3 : Int32) (a5 : Int32) (s0 : Int32) : Prop := ((a1 = (h.1 27 ((nI 0).toNatClampNeg))) → (tk_X8_isSafeTo_154 h a1 a2 a3 a5 (nI 2) s0)) ∧ ((¬ a1 = (h.1 27 ((nI 0).toNatClampNeg))) → (tk_X8_isSafeTo_154 h a1 a2 a3 a5 (nI 0) s0))
def fn_X8_isSafeTo_120 (h : z_H)  (a1 : Int32) (a2 : Int32) (a3 : Int32) (s0 : Int32) : (Option Value) := if (h.1 20 13) ≤ 0 then fn_X8_isSafeTo_139 h a1 a2 a3 s0 (nI 0) else fn_X8_isSafeTo_139 h a1 a2 a3 s0 ((h.1 20 13) - (nI 1))
def tk_X8_isSafeTo_120 (h : z_H)  (a1 : Int32) (a2 : Int32) (a3 : Int32) (s0 : Int32) : Prop := (((h.1 20 13) ≤ 0) → (tk_X8_isSafeTo_139 h a1 a2 a3 s0 (nI 0))) ∧ ((¬ (h.1 20 13) ≤ 0) → (tk_X8_isSafeTo_139 h a1 a2 a3 s0 ((h.1 20 13) - (nI 1))))
def fn_X8_isSafeTo_106 (h : z_H)  (a1 : Int32) (a2 : Int32) (a3 : Int32) (a4 : Int32) : (Option Value) := fn_X8_isSafeTo_120 h a1 a2 a3 (((z_vi0 (fn_X8_extent  h)) - a4) + (z_vi0 (fn_X8_far a2 a1 h)))
def tk_X8_isSafeTo_106 (h : z_H)  (a1 : Int32) (a2 : Int32) (a3 : Int32) (a4 : Int32) : Prop := tk_X8_extent  h ∧ (tk_X8_far a2 a1 h ∧ (tk_X8_isSafeTo_120 h a1 a2 a3 (((z_vi0 (fn_X8_extent  h)) - a4) + (z_vi0 (fn_X8_far a2 a1 h)))))
def fn_X8_isSafeTo_85 (h : z_H)  (a1 : Int32) (a2 : Int32) (a3 : Int32) (s0 : Int32) : (Option Value) := if (h.1 20 12) = (nI 1) then if (h.1 20 13) = 0 then fn_X8_isSafeTo_120 h a1 a2 a3 (nI 0) else fn_X8_isSafeTo_106 h a1 a2 a3 s0 else fn_X8_isSafeTo_106 h a1 a2 a3 s0
def tk_X8_isSafeTo_85 (h : z_H)  (a1 : Int32) (a2 : Int32) (a3 : Int32) (s0 : Int32) : Prop := (((h.1 20 12) = (nI 1)) → ((((h.1 20 13) = 0) → (tk_X8_isSafeTo_120 h a1 a2 a3 (nI 0))) ∧ ((¬ (h.1 20 13) = 0) → (tk_X8_isSafeTo_106 h a1 a2 a3 s0)))) ∧ ((¬ (h.1 20 12) = (nI 1)) → (tk_X8_isSafeTo_106 h a1 a2 a3 s0))
def fn_X8_isSafeTo_55 (h : z_H)  (a1 : Int32) (a2 : Int32) (a3 : Int32) : (Option Value) := fn_X8_isSafeTo_85 h a1 a2 a3 (nI 0)
def tk_X8_isSafeTo_55 (h : z_H)  (a1 : Int32) (a2 : Int32) (a3 : Int32) : Prop := tk_X8_isSafeTo_85 h a1 a2 a3 (nI 0)
def fn_X8_isSafeTo_39 (h : z_H)  (a1 : Int32) (a2 : Int32) (s0 : Int32) : (Option Value) := if 0 < (h.1 20 13) then fn_X8_isSafeTo_55 h a1 a2 s0 else if (h.1 20 12) = (nI 1) then fn_X8_isSafeTo_55 h a1 a2 s0 else fn_X8_isSafeTo_85 h a1 a2 s0 (z_vi0 (fn_X8_far (h.1 28 (((h.1 20 12) - (nI 1)).toNatClampNeg)) (h.1 28 (((h.1 20 12) - (nI 2)).toNatClampNeg)) h))
def tk_X8_isSafeTo_39 (h : z_H)  (a1 : Int32) (a2 : Int32) (s0 : Int32) : Prop := ((0 < (h.1 20 13)) → (tk_X8_isSafeTo_55 h a1 a2 s0)) ∧ ((¬ 0 < (h.1 20 13)) → ((((h.1 20 12) = (nI 1)) → (tk_X8_isSafeTo_55 h a1 a2 s0)) ∧ ((¬ (h.1 20 12) = (nI 1)) → (vp_in ((h.1 20 12) - (nI 1)) 37 ∧ vp_in ((h.1 20 12) - (nI 2)) 37 ∧ (tk_X8_far (h.1 28 (((h.1 20 12) - (nI 1)).toNatClampNeg)) (h.1 28 (((h.1 20 12) - (nI 2)).toNatClampNeg)) h ∧ (tk_X8_isSafeTo_85 h a1 a2 s0 (z_vi0 (fn_X8_far (h.1 28 (((h.1 20 12) - (nI 1)).toNatClampNeg)) (h.1 28 (((h.1 20 12) - (nI 2)).toNatClampNeg)) h))))))))
def fn_X8_isSafeTo (x : Int32) (h : z_H) : (Option Value) := if (z_vi0 (fn_X8_far (h.1 28 ((nI 0).toNatClampNeg)) (h.1 27 ((nI 0).toNatClampNeg)) h)) = 0 then fn_X8_isSafeTo_39 h x (h.1 28 ((nI 0).toNatClampNeg)) (h.1 20 7) else fn_X8_isSafeTo_39 h x (h.1 28 ((nI 0).toNatClampNeg)) (z_vi0 (fn_X8_far (h.1 28 ((nI 0).toNatClampNeg)) (h.1 27 ((nI 0).toNatClampNeg)) h))
def tk_X8_isSafeTo (x : Int32) (h : z_H) : Prop := tk_X8_far (h.1 28 ((nI 0).toNatClampNeg)) (h.1 27 ((nI 0).toNatClampNeg)) h ∧ ((((z_vi0 (fn_X8_far (h.1 28 ((nI 0).toNatClampNeg)) (h.1 27 ((nI 0).toNatClampNeg)) h)) = 0) → (tk_X8_isSafeTo_39 h x (h.1 28 ((nI 0).toNatClampNeg)) (h.1 20 7))) ∧ ((¬ (z_vi0 (fn_X8_far (h.1 28 ((nI 0).toNatClampNeg)) (h.1 27 ((nI 0).toNatClampNeg)) h)) = 0) → (tk_X8_far (h.1 28 ((nI 0).toNatClampNeg)) (h.1 27 ((nI 0).toNatClampNeg)) h ∧ (tk_X8_isSafeTo_39 h x (h.1 28 ((nI 0).toNatClampNeg)) (z_vi0 (fn_X8_far (h.1 28 ((nI 0).toNatClampNeg)) (h.1 27 ((nI 0).toNatClampNeg)) h))))))
set_option maxHeartbeats 4000000 in
set_option maxRecDepth 100000 in
theorem sp_X8_isSafeTo (l : Launch) (ext : z_Sh)  (h : z_H) (x : Int32)  (T : tk_X8_isSafeTo x h) : z_Sp l 2 yX8_isSafeTo cX8_isSafeTo 7 (some .boolean) [.ref 20, .int x] (z_m ext) h (z_QB h (fn_X8_isSafeTo x h)) := by
  refine z_enter ft_X8 (by decide +kernel) fo_X8 (Nat.le_of_ble_eq_true rfl) ?_
  intro p e R s m args below meth c D dA ad hB
  have hC := hB.1
  have hN := hB.2.1
  have hR := hB.2.2.1
  unfold tk_X8_isSafeTo at T; have E : (if (z_vi0 (fn_X8_far (h.1 28 ((nI 0).toNatClampNeg)) (h.1 27 ((nI 0).toNatClampNeg)) h)) = 0 then fn_X8_isSafeTo_39 h x (h.1 28 ((nI 0).toNatClampNeg)) (h.1 20 7) else fn_X8_isSafeTo_39 h x (h.1 28 ((nI 0).toNatClampNeg)) (z_vi0 (fn_X8_far (h.1 28 ((nI 0).toNatClampNeg)) (h.1 27 ((nI 0).toNatClampNeg)) h))) = fn_X8_isSafeTo x h := rfl
  generalize fn_X8_isSafeTo x h = RR at E ⊢
  have P154 : ∀ (a1 : Int32) (a2 : Int32) (a3 : Int32) (a5 : Int32) (s0 : Int32) (s1 : Int32), tk_X8_isSafeTo_154 h  a1 a2 a3 a5 s0 s1 → fn_X8_isSafeTo_154 h  a1 a2 a3 a5 s0 s1 = RR → z_G p l e R s m args below meth c D dA ad 7 (z_QB h RR) (z_m ext) 154 [some (.ref 20), some (.int a1), some (.int a2), some (.int a3), none, some (.int a5), none] [.int s0, .int s1] h := by
    intro  a1 a2 a3 a5 s0 s1 T E
    unfold tk_X8_isSafeTo_154 at T; unfold fn_X8_isSafeTo_154 at E
    refine z_go hC (pc' := 163) (ls' := [some (.ref 20), some (.int a1), some (.int a2), some (.int a3), none, some (.int a5), some (.int (s1 + s0))]) (st' := [.int (h.1 20 7), .int a5]) (h' := h) (cs := []) [.iadd, .istore 6, .iload 5, .aload_n 0, .getfield 81] (by decide +kernel) rfl rfl trivial ?_
    refine z_icmp_ge hC (off := 31) 194 (by decide +kernel) (by decide) (fun c1 => ?_) (fun c1 => ?_)
    · skip
      have E := (if_pos c1).symm.trans E
      have T := T.1 c1
      refine z_go hC (pc' := 195) (ls' := [some (.ref 20), some (.int a1), some (.int a2), some (.int a3), none, some (.int a5), some (.int (s1 + s0))]) (st' := [.int (nI 0)]) (h' := h) (cs := []) [.iconst 0] (by decide +kernel) rfl rfl trivial ?_
      exact z_ret_z hB rfl (show (nI 0 = 0 ∨ nI 0 = 1) by decide) (by decide +kernel) (z_lfb0 (show (nI 0 = 0 ∨ nI 0 = 1) by decide) E)
    · skip
      have E := (if_neg c1).symm.trans E
      have T := T.2 c1
      refine z_go hC (pc' := 169) (ls' := [some (.ref 20), some (.int a1), some (.int a2), some (.int a3), none, some (.int a5), some (.int (s1 + s0))]) (st' := [.int a1, .int a2, .ref 20]) (h' := h) (cs := []) [.aload_n 0, .iload_n 2, .iload_n 1] (by decide +kernel) rfl rfl trivial ?_
      have t5 := T
      refine z_callV hC hN hR (as := [.int a2, .int a1]) (rest := []) ok_X8_137 (by decide +kernel) (sp_X8_far l _ h a2 a1 t5) rfl rfl (Nat.le_of_ble_eq_true rfl) rfl rfl (Nat.le_of_ble_eq_true rfl) ⟨Nat.zero_le _, Nat.zero_le _⟩ (fun r2 h3 q4 => z_fun q4 ?_)
      refine z_go hC (pc' := 173) (ls' := [some (.ref 20), some (.int a1), some (.int a2), some (.int a3), none, some (.int a5), some (.int (s1 + s0))]) (st' := [.int a3, .int (z_vi0 (fn_X8_far a2 a1 h))]) (h' := h) (cs := []) [.iload_n 3] (by decide +kernel) rfl rfl trivial ?_
      refine z_icmp_gt hC (off := 21) 194 (by decide +kernel) (by decide) (fun c6 => ?_) (fun c6 => ?_)
      · skip
        have E := (if_pos c6).symm.trans E
        refine z_go hC (pc' := 195) (ls' := [some (.ref 20), some (.int a1), some (.int a2), some (.int a3), none, some (.int a5), some (.int (s1 + s0))]) (st' := [.int (nI 0)]) (h' := h) (cs := []) [.iconst 0] (by decide +kernel) rfl rfl trivial ?_
        exact z_ret_z hB rfl (show (nI 0 = 0 ∨ nI 0 = 1) by decide) (by decide +kernel) (z_lfb0 (show (nI 0 = 0 ∨ nI 0 = 1) by decide) E)
      · skip
        have E := (if_neg c6).symm.trans E
        refine z_go hC (pc' := 187) (ls' := [some (.ref 20), some (.int a1), some (.int a2), some (.int a3), none, some (.int a5), some (.int (s1 + s0))]) (st' := [.int (s1 + s0), .int (((h.1 20 7) - a5) - (nI 1))]) (h' := h) (cs := []) [.aload_n 0, .getfield 81, .iload 5, .isub, .iconst 1, .isub, .iload 6] (by decide +kernel) rfl rfl trivial ?_
        refine z_icmp_lt hC (off := 7) 194 (by decide +kernel) (by decide) (fun c7 => ?_) (fun c7 => ?_)
        · skip
          have E := (if_pos c7).symm.trans E
          refine z_go hC (pc' := 195) (ls' := [some (.ref 20), some (.int a1), some (.int a2), some (.int a3), none, some (.int a5), some (.int (s1 + s0))]) (st' := [.int (nI 0)]) (h' := h) (cs := []) [.iconst 0] (by decide +kernel) rfl rfl trivial ?_
          exact z_ret_z hB rfl (show (nI 0 = 0 ∨ nI 0 = 1) by decide) (by decide +kernel) (z_lfb0 (show (nI 0 = 0 ∨ nI 0 = 1) by decide) E)
        · skip
          have E := (if_neg c7).symm.trans E
          refine z_go hC (pc' := 191) (ls' := [some (.ref 20), some (.int a1), some (.int a2), some (.int a3), none, some (.int a5), some (.int (s1 + s0))]) (st' := [.int (nI 1)]) (h' := h) (cs := []) [.iconst 1] (by decide +kernel) rfl rfl trivial ?_
          refine z_goto hC (off := 4) 195 (by decide +kernel) (by decide) ?_
          exact z_ret_z hB rfl (show (nI 1 = 0 ∨ nI 1 = 1) by decide) (by decide +kernel) (z_lfb0 (show (nI 1 = 0 ∨ nI 1 = 1) by decide) E)
  have P139 : ∀ (a1 : Int32) (a2 : Int32) (a3 : Int32) (a5 : Int32) (s0 : Int32), tk_X8_isSafeTo_139 h  a1 a2 a3 a5 s0 → fn_X8_isSafeTo_139 h  a1 a2 a3 a5 s0 = RR → z_G p l e R s m args below meth c D dA ad 7 (z_QB h RR) (z_m ext) 139 [some (.ref 20), some (.int a1), some (.int a2), some (.int a3), none, some (.int a5), none] [.int s0] h := by
    intro  a1 a2 a3 a5 s0 T E
    unfold tk_X8_isSafeTo_139 at T; unfold fn_X8_isSafeTo_139 at E
    refine z_go hC (pc' := 146) (ls' := [some (.ref 20), some (.int a1), some (.int a2), some (.int a3), none, some (.int a5), none]) (st' := [.int (h.1 27 ((nI 0).toNatClampNeg)), .int a1, .int s0]) (h' := h) (cs := [vp_in (nI 0) 40]) [.iload_n 1, .aload_n 0, .getfield 29, .iconst 0, .iaload] (by decide +kernel) rfl rfl (vp_in_nI (n := 0) (N := 40) (by decide) (by decide)) ?_
    refine z_icmp_ne hC (off := 7) 153 (by decide +kernel) (by decide) (fun c8 => ?_) (fun c8 => ?_)
    · skip
      have E := (if_neg c8).symm.trans E
      have T := T.2 c8
      refine z_go hC (pc' := 154) (ls' := [some (.ref 20), some (.int a1), some (.int a2), some (.int a3), none, some (.int a5), none]) (st' := [.int (nI 0), .int s0]) (h' := h) (cs := []) [.iconst 0] (by decide +kernel) rfl rfl trivial ?_
      exact P154  a1 a2 a3 a5 (nI 0) s0 T E
    · skip
      have E := (if_pos c8).symm.trans E
      have T := T.1 c8
      refine z_go hC (pc' := 150) (ls' := [some (.ref 20), some (.int a1), some (.int a2), some (.int a3), none, some (.int a5), none]) (st' := [.int (nI 2), .int s0]) (h' := h) (cs := []) [.iconst 2] (by decide +kernel) rfl rfl trivial ?_
      refine z_goto hC (off := 4) 154 (by decide +kernel) (by decide) ?_
      exact P154  a1 a2 a3 a5 (nI 2) s0 T E
  have P120 : ∀ (a1 : Int32) (a2 : Int32) (a3 : Int32) (s0 : Int32), tk_X8_isSafeTo_120 h  a1 a2 a3 s0 → fn_X8_isSafeTo_120 h  a1 a2 a3 s0 = RR → z_G p l e R s m args below meth c D dA ad 7 (z_QB h RR) (z_m ext) 120 [some (.ref 20), some (.int a1), some (.int a2), some (.int a3), none, none, none] [.int s0] h := by
    intro  a1 a2 a3 s0 T E
    unfold tk_X8_isSafeTo_120 at T; unfold fn_X8_isSafeTo_120 at E
    refine z_go hC (pc' := 126) (ls' := [some (.ref 20), some (.int a1), some (.int a2), some (.int a3), none, some (.int s0), none]) (st' := [.int (h.1 20 13)]) (h' := h) (cs := []) [.istore 5, .aload_n 0, .getfield 114] (by decide +kernel) rfl rfl trivial ?_
    refine z_if_le hC (off := 12) 138 (by decide +kernel) (by decide) (fun c9 => ?_) (fun c9 => ?_)
    · skip
      have E := (if_pos c9).symm.trans E
      have T := T.1 c9
      refine z_go hC (pc' := 139) (ls' := [some (.ref 20), some (.int a1), some (.int a2), some (.int a3), none, some (.int s0), none]) (st' := [.int (nI 0)]) (h' := h) (cs := []) [.iconst 0] (by decide +kernel) rfl rfl trivial ?_
      exact P139  a1 a2 a3 s0 (nI 0) T E
    · skip
      have E := (if_neg c9).symm.trans E
      have T := T.2 c9
      refine z_go hC (pc' := 135) (ls' := [some (.ref 20), some (.int a1), some (.int a2), some (.int a3), none, some (.int s0), none]) (st' := [.int ((h.1 20 13) - (nI 1))]) (h' := h) (cs := []) [.aload_n 0, .getfield 114, .iconst 1, .isub] (by decide +kernel) rfl rfl trivial ?_
      refine z_goto hC (off := 4) 139 (by decide +kernel) (by decide) ?_
      exact P139  a1 a2 a3 s0 ((h.1 20 13) - (nI 1)) T E
  have P106 : ∀ (a1 : Int32) (a2 : Int32) (a3 : Int32) (a4 : Int32), tk_X8_isSafeTo_106 h  a1 a2 a3 a4 → fn_X8_isSafeTo_106 h  a1 a2 a3 a4 = RR → z_G p l e R s m args below meth c D dA ad 7 (z_QB h RR) (z_m ext) 106 [some (.ref 20), some (.int a1), some (.int a2), some (.int a3), some (.int a4), none, none] [] h := by
    intro  a1 a2 a3 a4 T E
    unfold tk_X8_isSafeTo_106 at T; unfold fn_X8_isSafeTo_106 at E
    refine z_go hC (pc' := 107) (ls' := [some (.ref 20), some (.int a1), some (.int a2), some (.int a3), some (.int a4), none, none]) (st' := [.ref 20]) (h' := h) (cs := []) [.aload_n 0] (by decide +kernel) rfl rfl trivial ?_
    obtain ⟨t13, T⟩ := T
    refine z_callV hC hN hR (as := []) (rest := []) ok_X8_140 (by decide +kernel) (sp_X8_extent l _ h  t13) rfl rfl (Nat.le_of_ble_eq_true rfl) rfl rfl (Nat.le_of_ble_eq_true rfl) ⟨Nat.zero_le _, Nat.zero_le _⟩ (fun r10 h11 q12 => z_fun q12 ?_)
    refine z_go hC (pc' := 116) (ls' := [some (.ref 20), some (.int a1), some (.int a2), some (.int a3), some (.int a4), none, none]) (st' := [.int a1, .int a2, .ref 20, .int ((z_vi0 (fn_X8_extent  h)) - a4)]) (h' := h) (cs := []) [.iload 4, .isub, .aload_n 0, .iload_n 2, .iload_n 1] (by decide +kernel) rfl rfl trivial ?_
    obtain ⟨t17, T⟩ := T
    refine z_callV hC hN hR (as := [.int a2, .int a1]) (rest := [.int ((z_vi0 (fn_X8_extent  h)) - a4)]) ok_X8_137 (by decide +kernel) (sp_X8_far l _ h a2 a1 t17) rfl rfl (Nat.le_of_ble_eq_true rfl) rfl rfl (Nat.le_of_ble_eq_true rfl) ⟨Nat.zero_le _, Nat.zero_le _⟩ (fun r14 h15 q16 => z_fun q16 ?_)
    refine z_go hC (pc' := 120) (ls' := [some (.ref 20), some (.int a1), some (.int a2), some (.int a3), some (.int a4), none, none]) (st' := [.int (((z_vi0 (fn_X8_extent  h)) - a4) + (z_vi0 (fn_X8_far a2 a1 h)))]) (h' := h) (cs := []) [.iadd] (by decide +kernel) rfl rfl trivial ?_
    refine z_less (ls' := [some (.ref 20), some (.int a1), some (.int a2), some (.int a3), none, none, none]) (by simp [z_sub]) ?_
    exact P120  a1 a2 a3 (((z_vi0 (fn_X8_extent  h)) - a4) + (z_vi0 (fn_X8_far a2 a1 h))) T E
  have P85 : ∀ (a1 : Int32) (a2 : Int32) (a3 : Int32) (s0 : Int32), tk_X8_isSafeTo_85 h  a1 a2 a3 s0 → fn_X8_isSafeTo_85 h  a1 a2 a3 s0 = RR → z_G p l e R s m args below meth c D dA ad 7 (z_QB h RR) (z_m ext) 85 [some (.ref 20), some (.int a1), some (.int a2), some (.int a3), none, none, none] [.int s0] h := by
    intro  a1 a2 a3 s0 T E
    unfold tk_X8_isSafeTo_85 at T; unfold fn_X8_isSafeTo_85 at E
    refine z_go hC (pc' := 92) (ls' := [some (.ref 20), some (.int a1), some (.int a2), some (.int a3), some (.int s0), none, none]) (st' := [.int (nI 1), .int (h.1 20 12)]) (h' := h) (cs := []) [.istore 4, .aload_n 0, .getfield 111, .iconst 1] (by decide +kernel) rfl rfl trivial ?_
    refine z_icmp_ne hC (off := 14) 106 (by decide +kernel) (by decide) (fun c18 => ?_) (fun c18 => ?_)
    · skip
      have E := (if_neg c18).symm.trans E
      have T := T.2 c18
      exact P106  a1 a2 a3 s0 T E
    · skip
      have E := (if_pos c18).symm.trans E
      have T := T.1 c18
      refine z_go hC (pc' := 99) (ls' := [some (.ref 20), some (.int a1), some (.int a2), some (.int a3), some (.int s0), none, none]) (st' := [.int (h.1 20 13)]) (h' := h) (cs := []) [.aload_n 0, .getfield 114] (by decide +kernel) rfl rfl trivial ?_
      refine z_if_ne hC (off := 7) 106 (by decide +kernel) (by decide) (fun c19 => ?_) (fun c19 => ?_)
      · skip
        have E := (if_neg c19).symm.trans E
        have T := T.2 c19
        exact P106  a1 a2 a3 s0 T E
      · skip
        have E := (if_pos c19).symm.trans E
        have T := T.1 c19
        refine z_go hC (pc' := 103) (ls' := [some (.ref 20), some (.int a1), some (.int a2), some (.int a3), some (.int s0), none, none]) (st' := [.int (nI 0)]) (h' := h) (cs := []) [.iconst 0] (by decide +kernel) rfl rfl trivial ?_
        refine z_goto hC (off := 17) 120 (by decide +kernel) (by decide) ?_
        refine z_less (ls' := [some (.ref 20), some (.int a1), some (.int a2), some (.int a3), none, none, none]) (by simp [z_sub]) ?_
        exact P120  a1 a2 a3 (nI 0) T E
  have P55 : ∀ (a1 : Int32) (a2 : Int32) (a3 : Int32), tk_X8_isSafeTo_55 h  a1 a2 a3 → fn_X8_isSafeTo_55 h  a1 a2 a3 = RR → z_G p l e R s m args below meth c D dA ad 7 (z_QB h RR) (z_m ext) 55 [some (.ref 20), some (.int a1), some (.int a2), some (.int a3), none, none, none] [] h := by
    intro  a1 a2 a3 T E
    unfold tk_X8_isSafeTo_55 at T; unfold fn_X8_isSafeTo_55 at E
    refine z_go hC (pc' := 56) (ls' := [some (.ref 20), some (.int a1), some (.int a2), some (.int a3), none, none, none]) (st' := [.int (nI 0)]) (h' := h) (cs := []) [.iconst 0] (by decide +kernel) rfl rfl trivial ?_
    refine z_goto hC (off := 29) 85 (by decide +kernel) (by decide) ?_
    exact P85  a1 a2 a3 (nI 0) T E
  have P39 : ∀ (a1 : Int32) (a2 : Int32) (s0 : Int32), tk_X8_isSafeTo_39 h  a1 a2 s0 → fn_X8_isSafeTo_39 h  a1 a2 s0 = RR → z_G p l e R s m args below meth c D dA ad 7 (z_QB h RR) (z_m ext) 39 [some (.ref 20), some (.int a1), some (.int a2), none, none, none, none] [.int s0] h := by
    intro  a1 a2 s0 T E
    unfold tk_X8_isSafeTo_39 at T; unfold fn_X8_isSafeTo_39 at E
    refine z_go hC (pc' := 44) (ls' := [some (.ref 20), some (.int a1), some (.int a2), some (.int s0), none, none, none]) (st' := [.int (h.1 20 13)]) (h' := h) (cs := []) [.istore_n 3, .aload_n 0, .getfield 114] (by decide +kernel) rfl rfl trivial ?_
    refine z_if_gt hC (off := 11) 55 (by decide +kernel) (by decide) (fun c20 => ?_) (fun c20 => ?_)
    · skip
      have E := (if_pos c20).symm.trans E
      have T := T.1 c20
      exact P55  a1 a2 s0 T E
    · skip
      have E := (if_neg c20).symm.trans E
      have T := T.2 c20
      refine z_go hC (pc' := 52) (ls' := [some (.ref 20), some (.int a1), some (.int a2), some (.int s0), none, none, none]) (st' := [.int (nI 1), .int (h.1 20 12)]) (h' := h) (cs := []) [.aload_n 0, .getfield 111, .iconst 1] (by decide +kernel) rfl rfl trivial ?_
      refine z_icmp_ne hC (off := 7) 59 (by decide +kernel) (by decide) (fun c21 => ?_) (fun c21 => ?_)
      · skip
        have E := (if_neg c21).symm.trans E
        have T := T.2 c21
        obtain ⟨t22, t23, T⟩ := T
        refine z_go hC (pc' := 82) (ls' := [some (.ref 20), some (.int a1), some (.int a2), some (.int s0), none, none, none]) (st' := [.int (h.1 28 (((h.1 20 12) - (nI 2)).toNatClampNeg)), .int (h.1 28 (((h.1 20 12) - (nI 1)).toNatClampNeg)), .ref 20]) (h' := h) (cs := [vp_in ((h.1 20 12) - (nI 1)) 37, vp_in ((h.1 20 12) - (nI 2)) 37]) [.aload_n 0, .aload_n 0, .getfield 32, .aload_n 0, .getfield 111, .iconst 1, .isub, .iaload, .aload_n 0, .getfield 32, .aload_n 0, .getfield 111, .iconst 2, .isub, .iaload] (by decide +kernel) rfl rfl ⟨t22, t23⟩ ?_
        obtain ⟨t27, T⟩ := T
        refine z_callV hC hN hR (as := [.int (h.1 28 (((h.1 20 12) - (nI 1)).toNatClampNeg)), .int (h.1 28 (((h.1 20 12) - (nI 2)).toNatClampNeg))]) (rest := []) ok_X8_137 (by decide +kernel) (sp_X8_far l _ h (h.1 28 (((h.1 20 12) - (nI 1)).toNatClampNeg)) (h.1 28 (((h.1 20 12) - (nI 2)).toNatClampNeg)) t27) rfl rfl (Nat.le_of_ble_eq_true rfl) rfl rfl (Nat.le_of_ble_eq_true rfl) ⟨Nat.zero_le _, Nat.zero_le _⟩ (fun r24 h25 q26 => z_fun q26 ?_)
        exact P85  a1 a2 s0 (z_vi0 (fn_X8_far (h.1 28 (((h.1 20 12) - (nI 1)).toNatClampNeg)) (h.1 28 (((h.1 20 12) - (nI 2)).toNatClampNeg)) h)) T E
      · skip
        have E := (if_pos c21).symm.trans E
        have T := T.1 c21
        exact P55  a1 a2 s0 T E
  refine z_go hC (pc' := 15) (ls' := [some (.ref 20), some (.int x), some (.int (h.1 28 ((nI 0).toNatClampNeg))), none, none, none, none]) (st' := [.int (h.1 27 ((nI 0).toNatClampNeg)), .int (h.1 28 ((nI 0).toNatClampNeg)), .ref 20]) (h' := h) (cs := [vp_in (nI 0) 37, vp_in (nI 0) 40]) [.aload_n 0, .getfield 32, .iconst 0, .iaload, .istore_n 2, .aload_n 0, .iload_n 2, .aload_n 0, .getfield 29, .iconst 0, .iaload] (by decide +kernel) rfl rfl ⟨(vp_in_nI (n := 0) (N := 37) (by decide) (by decide)), (vp_in_nI (n := 0) (N := 40) (by decide) (by decide))⟩ ?_
  obtain ⟨t31, T⟩ := T
  refine z_callV hC hN hR (as := [.int (h.1 28 ((nI 0).toNatClampNeg)), .int (h.1 27 ((nI 0).toNatClampNeg))]) (rest := []) ok_X8_137 (by decide +kernel) (sp_X8_far l _ h (h.1 28 ((nI 0).toNatClampNeg)) (h.1 27 ((nI 0).toNatClampNeg)) t31) rfl rfl (Nat.le_of_ble_eq_true rfl) rfl rfl (Nat.le_of_ble_eq_true rfl) ⟨Nat.zero_le _, Nat.zero_le _⟩ (fun r28 h29 q30 => z_fun q30 ?_)
  refine z_if_ne hC (off := 10) 28 (by decide +kernel) (by decide) (fun c32 => ?_) (fun c32 => ?_)
  · skip
    have E := (if_neg c32).symm.trans E
    have T := T.2 c32
    refine z_go hC (pc' := 36) (ls' := [some (.ref 20), some (.int x), some (.int (h.1 28 ((nI 0).toNatClampNeg))), none, none, none, none]) (st' := [.int (h.1 27 ((nI 0).toNatClampNeg)), .int (h.1 28 ((nI 0).toNatClampNeg)), .ref 20]) (h' := h) (cs := [vp_in (nI 0) 40]) [.aload_n 0, .iload_n 2, .aload_n 0, .getfield 29, .iconst 0, .iaload] (by decide +kernel) rfl rfl (vp_in_nI (n := 0) (N := 40) (by decide) (by decide)) ?_
    obtain ⟨t36, T⟩ := T
    refine z_callV hC hN hR (as := [.int (h.1 28 ((nI 0).toNatClampNeg)), .int (h.1 27 ((nI 0).toNatClampNeg))]) (rest := []) ok_X8_137 (by decide +kernel) (sp_X8_far l _ h (h.1 28 ((nI 0).toNatClampNeg)) (h.1 27 ((nI 0).toNatClampNeg)) t36) rfl rfl (Nat.le_of_ble_eq_true rfl) rfl rfl (Nat.le_of_ble_eq_true rfl) ⟨Nat.zero_le _, Nat.zero_le _⟩ (fun r33 h34 q35 => z_fun q35 ?_)
    exact P39  x (h.1 28 ((nI 0).toNatClampNeg)) (z_vi0 (fn_X8_far (h.1 28 ((nI 0).toNatClampNeg)) (h.1 27 ((nI 0).toNatClampNeg)) h)) T E
  · skip
    have E := (if_pos c32).symm.trans E
    have T := T.1 c32
    refine z_go hC (pc' := 25) (ls' := [some (.ref 20), some (.int x), some (.int (h.1 28 ((nI 0).toNatClampNeg))), none, none, none, none]) (st' := [.int (h.1 20 7)]) (h' := h) (cs := []) [.aload_n 0, .getfield 81] (by decide +kernel) rfl rfl trivial ?_
    refine z_goto hC (off := 14) 39 (by decide +kernel) (by decide) ?_
    exact P39  x (h.1 28 ((nI 0).toNatClampNeg)) (h.1 20 7) T E

def fn_X8_isSafeStep (x : Int32) (h : z_H) : (Option Value) := if (h.1 20 8) ≤ 0 then some (.int (nI 0)) else if (z_vi0 (fn_X8_isOrdered  h)) = 0 then some (.int (nI 0)) else if (z_vi0 (fn_X8_isDeadly x h)) = 0 then if (z_vi0 (fn_X8_isSafeTo (z_vi0 (fn_X8_beside (h.1 28 ((nI 0).toNatClampNeg)) x h)) h)) = 0 then some (.int (nI 0)) else some (.int (nI 1)) else some (.int (nI 0))
def tk_X8_isSafeStep (x : Int32) (h : z_H) : Prop := (((h.1 20 8) ≤ 0) → (True)) ∧ ((¬ (h.1 20 8) ≤ 0) → (tk_X8_isOrdered  h ∧ ((((z_vi0 (fn_X8_isOrdered  h)) = 0) → (True)) ∧ ((¬ (z_vi0 (fn_X8_isOrdered  h)) = 0) → (tk_X8_isDeadly x h ∧ ((((z_vi0 (fn_X8_isDeadly x h)) = 0) → (tk_X8_beside (h.1 28 ((nI 0).toNatClampNeg)) x h ∧ (tk_X8_isSafeTo (z_vi0 (fn_X8_beside (h.1 28 ((nI 0).toNatClampNeg)) x h)) h))) ∧ ((¬ (z_vi0 (fn_X8_isDeadly x h)) = 0) → (True))))))))
set_option maxHeartbeats 4000000 in
set_option maxRecDepth 100000 in
theorem sp_X8_isSafeStep (l : Launch) (ext : z_Sh)  (h : z_H) (x : Int32)  (T : tk_X8_isSafeStep x h) : z_Sp l 5 yX8_isSafeStep cX8_isSafeStep 2 (some .boolean) [.ref 20, .int x] (z_m ext) h (z_QB h (fn_X8_isSafeStep x h)) := by
  refine z_enter ft_X8 (by decide +kernel) fo_X8 (Nat.le_of_ble_eq_true rfl) ?_
  intro p e R s m args below meth c D dA ad hB
  have hC := hB.1
  have hN := hB.2.1
  have hR := hB.2.2.1
  unfold tk_X8_isSafeStep at T; have E : (if (h.1 20 8) ≤ 0 then some (.int (nI 0)) else if (z_vi0 (fn_X8_isOrdered  h)) = 0 then some (.int (nI 0)) else if (z_vi0 (fn_X8_isDeadly x h)) = 0 then if (z_vi0 (fn_X8_isSafeTo (z_vi0 (fn_X8_beside (h.1 28 ((nI 0).toNatClampNeg)) x h)) h)) = 0 then some (.int (nI 0)) else some (.int (nI 1)) else some (.int (nI 0))) = fn_X8_isSafeStep x h := rfl
  generalize fn_X8_isSafeStep x h = RR at E ⊢
  refine z_go hC (pc' := 4) (ls' := [some (.ref 20), some (.int x)]) (st' := [.int (h.1 20 8)]) (h' := h) (cs := []) [.aload_n 0, .getfield 95] (by decide +kernel) rfl rfl trivial ?_
  refine z_if_le hC (off := 40) 44 (by decide +kernel) (by decide) (fun c1 => ?_) (fun c1 => ?_)
  · skip
    have E := (if_pos c1).symm.trans E
    have T := T.1 c1
    refine z_go hC (pc' := 45) (ls' := [some (.ref 20), some (.int x)]) (st' := [.int (nI 0)]) (h' := h) (cs := []) [.iconst 0] (by decide +kernel) rfl rfl trivial ?_
    exact z_ret_z hB rfl (show (nI 0 = 0 ∨ nI 0 = 1) by decide) (by decide +kernel) (z_lfb0 (show (nI 0 = 0 ∨ nI 0 = 1) by decide) E)
  · skip
    have E := (if_neg c1).symm.trans E
    have T := T.2 c1
    refine z_go hC (pc' := 8) (ls' := [some (.ref 20), some (.int x)]) (st' := [.ref 20]) (h' := h) (cs := []) [.aload_n 0] (by decide +kernel) rfl rfl trivial ?_
    obtain ⟨t5, T⟩ := T
    refine z_callV hC hN hR (as := []) (rest := []) ok_X8_144 (by decide +kernel) (sp_X8_isOrdered l _ h  t5) rfl rfl (Nat.le_of_ble_eq_true rfl) rfl rfl (Nat.le_of_ble_eq_true rfl) ⟨Nat.zero_le _, Nat.zero_le _⟩ (fun r2 h3 q4 => z_funb q4 (fun z6 => ?_))
    refine z_if_eq hC (off := 33) 44 (by decide +kernel) (by decide) (fun c7 => ?_) (fun c7 => ?_)
    · skip
      have E := (if_pos c7).symm.trans E
      have T := T.1 c7
      refine z_go hC (pc' := 45) (ls' := [some (.ref 20), some (.int x)]) (st' := [.int (nI 0)]) (h' := h) (cs := []) [.iconst 0] (by decide +kernel) rfl rfl trivial ?_
      exact z_ret_z hB rfl (show (nI 0 = 0 ∨ nI 0 = 1) by decide) (by decide +kernel) (z_lfb0 (show (nI 0 = 0 ∨ nI 0 = 1) by decide) E)
    · skip
      have E := (if_neg c7).symm.trans E
      have T := T.2 c7
      refine z_go hC (pc' := 16) (ls' := [some (.ref 20), some (.int x)]) (st' := [.int x, .ref 20]) (h' := h) (cs := []) [.aload_n 0, .iload_n 1] (by decide +kernel) rfl rfl trivial ?_
      obtain ⟨t11, T⟩ := T
      refine z_callV hC hN hR (as := [.int x]) (rest := []) ok_X8_130 (by decide +kernel) (sp_X8_isDeadly l _ h x t11) rfl rfl (Nat.le_of_ble_eq_true rfl) rfl rfl (Nat.le_of_ble_eq_true rfl) ⟨Nat.zero_le _, Nat.zero_le _⟩ (fun r8 h9 q10 => z_funb q10 (fun z12 => ?_))
      refine z_if_ne hC (off := 25) 44 (by decide +kernel) (by decide) (fun c13 => ?_) (fun c13 => ?_)
      · skip
        have E := (if_neg c13).symm.trans E
        have T := T.2 c13
        refine z_go hC (pc' := 45) (ls' := [some (.ref 20), some (.int x)]) (st' := [.int (nI 0)]) (h' := h) (cs := []) [.iconst 0] (by decide +kernel) rfl rfl trivial ?_
        exact z_ret_z hB rfl (show (nI 0 = 0 ∨ nI 0 = 1) by decide) (by decide +kernel) (z_lfb0 (show (nI 0 = 0 ∨ nI 0 = 1) by decide) E)
      · skip
        have E := (if_pos c13).symm.trans E
        have T := T.1 c13
        refine z_go hC (pc' := 31) (ls' := [some (.ref 20), some (.int x)]) (st' := [.int x, .int (h.1 28 ((nI 0).toNatClampNeg)), .ref 20, .ref 20]) (h' := h) (cs := [vp_in (nI 0) 37]) [.aload_n 0, .aload_n 0, .aload_n 0, .getfield 32, .iconst 0, .iaload, .iload_n 1] (by decide +kernel) rfl rfl (vp_in_nI (n := 0) (N := 37) (by decide) (by decide)) ?_
        obtain ⟨t17, T⟩ := T
        refine z_callV hC hN hR (as := [.int (h.1 28 ((nI 0).toNatClampNeg)), .int x]) (rest := [.ref 20]) ok_X8_117 (by decide +kernel) (sp_X8_beside l _ h (h.1 28 ((nI 0).toNatClampNeg)) x t17) rfl rfl (Nat.le_of_ble_eq_true rfl) rfl rfl (Nat.le_of_ble_eq_true rfl) ⟨Nat.zero_le _, Nat.zero_le _⟩ (fun r14 h15 q16 => z_fun q16 ?_)
        have t21 := T
        refine z_callV hC hN hR (as := [.int (z_vi0 (fn_X8_beside (h.1 28 ((nI 0).toNatClampNeg)) x h))]) (rest := []) ok_X8_147 (by decide +kernel) (sp_X8_isSafeTo l _ h (z_vi0 (fn_X8_beside (h.1 28 ((nI 0).toNatClampNeg)) x h)) t21) rfl rfl (Nat.le_of_ble_eq_true rfl) rfl rfl (Nat.le_of_ble_eq_true rfl) ⟨Nat.zero_le _, Nat.zero_le _⟩ (fun r18 h19 q20 => z_funb q20 (fun z22 => ?_))
        refine z_if_eq hC (off := 7) 44 (by decide +kernel) (by decide) (fun c23 => ?_) (fun c23 => ?_)
        · skip
          have E := (if_pos c23).symm.trans E
          refine z_go hC (pc' := 45) (ls' := [some (.ref 20), some (.int x)]) (st' := [.int (nI 0)]) (h' := h) (cs := []) [.iconst 0] (by decide +kernel) rfl rfl trivial ?_
          exact z_ret_z hB rfl (show (nI 0 = 0 ∨ nI 0 = 1) by decide) (by decide +kernel) (z_lfb0 (show (nI 0 = 0 ∨ nI 0 = 1) by decide) E)
        · skip
          have E := (if_neg c23).symm.trans E
          refine z_go hC (pc' := 41) (ls' := [some (.ref 20), some (.int x)]) (st' := [.int (nI 1)]) (h' := h) (cs := []) [.iconst 1] (by decide +kernel) rfl rfl trivial ?_
          refine z_goto hC (off := 4) 45 (by decide +kernel) (by decide) ?_
          exact z_ret_z hB rfl (show (nI 1 = 0 ∨ nI 1 = 1) by decide) (by decide +kernel) (z_lfb0 (show (nI 1 = 0 ∨ nI 1 = 1) by decide) E)

def fn_X8_play_150 (k39 : Int32 → Int32 → Int32 → z_H → z_R) (k54 : Int32 → Int32 → Int32 → Int32 → z_H → z_R) (a1 : Int32) (a2 : Int32) (a5 : Int32) (s0 : Int32) (h : z_H) : z_R := k54 a1 a2 s0 (a5 + (nI 1)) h
def tk_X8_play_150 (K39 : Int32 → Int32 → Int32 → z_H → Prop) (K54 : Int32 → Int32 → Int32 → Int32 → z_H → Prop) (a1 : Int32) (a2 : Int32) (a5 : Int32) (s0 : Int32) (h : z_H) : Prop := K54 a1 a2 s0 (a5 + (nI 1)) h
def fn_X8_play_148 (k39 : Int32 → Int32 → Int32 → z_H → z_R) (k54 : Int32 → Int32 → Int32 → Int32 → z_H → z_R) (a1 : Int32) (a2 : Int32) (a4 : Int32) (a5 : Int32) (h : z_H) : z_R := fn_X8_play_150 k39 k54 a1 a2 a5 a4 h
def tk_X8_play_148 (K39 : Int32 → Int32 → Int32 → z_H → Prop) (K54 : Int32 → Int32 → Int32 → Int32 → z_H → Prop) (a1 : Int32) (a2 : Int32) (a4 : Int32) (a5 : Int32) (h : z_H) : Prop := tk_X8_play_150 K39 K54 a1 a2 a5 a4 h
def fn_X8_play_131 (k39 : Int32 → Int32 → Int32 → z_H → z_R) (k54 : Int32 → Int32 → Int32 → Int32 → z_H → z_R) (a1 : Int32) (a2 : Int32) (a4 : Int32) (a5 : Int32) (a6 : Int32) (s0 : Int32) (h : z_H) : z_R := if a6 = 0 then fn_X8_play_148 k39 k54 a1 a2 a4 a5 h else if s0 = 0 then fn_X8_play_148 k39 k54 a1 a2 a4 a5 h else fn_X8_play_150 k39 k54 a1 a2 a5 a5 h
def tk_X8_play_131 (K39 : Int32 → Int32 → Int32 → z_H → Prop) (K54 : Int32 → Int32 → Int32 → Int32 → z_H → Prop) (a1 : Int32) (a2 : Int32) (a4 : Int32) (a5 : Int32) (a6 : Int32) (s0 : Int32) (h : z_H) : Prop := ((a6 = 0) → (tk_X8_play_148 K39 K54 a1 a2 a4 a5 h)) ∧ ((¬ a6 = 0) → (((s0 = 0) → (tk_X8_play_148 K39 K54 a1 a2 a4 a5 h)) ∧ ((¬ s0 = 0) → (tk_X8_play_150 K39 K54 a1 a2 a5 a5 h))))
def fn_X8_play_126 (k39 : Int32 → Int32 → Int32 → z_H → z_R) (k54 : Int32 → Int32 → Int32 → Int32 → z_H → z_R) (a1 : Int32) (a2 : Int32) (a4 : Int32) (a5 : Int32) (a6 : Int32) (h : z_H) : z_R := fn_X8_play_131 k39 k54 a1 a2 a4 a5 a6 (nI 1) h
def tk_X8_play_126 (K39 : Int32 → Int32 → Int32 → z_H → Prop) (K54 : Int32 → Int32 → Int32 → Int32 → z_H → Prop) (a1 : Int32) (a2 : Int32) (a4 : Int32) (a5 : Int32) (a6 : Int32) (h : z_H) : Prop := tk_X8_play_131 K39 K54 a1 a2 a4 a5 a6 (nI 1) h
def fn_X8_play_130 (k39 : Int32 → Int32 → Int32 → z_H → z_R) (k54 : Int32 → Int32 → Int32 → Int32 → z_H → z_R) (a1 : Int32) (a2 : Int32) (a4 : Int32) (a5 : Int32) (a6 : Int32) (h : z_H) : z_R := fn_X8_play_131 k39 k54 a1 a2 a4 a5 a6 (nI 0) h
def tk_X8_play_130 (K39 : Int32 → Int32 → Int32 → z_H → Prop) (K54 : Int32 → Int32 → Int32 → Int32 → z_H → Prop) (a1 : Int32) (a2 : Int32) (a4 : Int32) (a5 : Int32) (a6 : Int32) (h : z_H) : Prop := tk_X8_play_131 K39 K54 a1 a2 a4 a5 a6 (nI 0) h
def fn_X8_play_183 (k39 : Int32 → Int32 → Int32 → z_H → z_R) (a1 : Int32) (a2 : Int32) (a3 : Int32) (h : z_H) : z_R := k39 a1 a2 a3 h
def tk_X8_play_183 (K39 : Int32 → Int32 → Int32 → z_H → Prop) (a1 : Int32) (a2 : Int32) (a3 : Int32) (h : z_H) : Prop := K39 a1 a2 a3 h
def fn_X8_play_169 (k39 : Int32 → Int32 → Int32 → z_H → z_R) (a1 : Int32) (a2 : Int32) (a4 : Int32) (s0 : Int32) (h : z_H) : z_R := if s0 = 0 then fn_X8_play_183 k39 a1 a2 s0 h else fn_X8_play_183 k39 a1 (a2 + (nI 1)) s0 ((fn_X8_goOn a4 h).2)
def tk_X8_play_169 (K39 : Int32 → Int32 → Int32 → z_H → Prop) (a1 : Int32) (a2 : Int32) (a4 : Int32) (s0 : Int32) (h : z_H) : Prop := ((s0 = 0) → (tk_X8_play_183 K39 a1 a2 s0 h)) ∧ ((¬ s0 = 0) → (tk_X8_goOn a4 h ∧ (tk_X8_play_183 K39 a1 (a2 + (nI 1)) s0 ((fn_X8_goOn a4 h).2))))
def fn_X8_play_54 (k39 : Int32 → Int32 → Int32 → z_H → z_R) : Nat → Int32 → Int32 → Int32 → Int32 → z_H → z_R
  | 0, _, _, _, _, h => (none, h)
  | n + 1, a1, a2, a4, a5, h => let k54 := fun (a1_ : Int32) (a2_ : Int32) (a4_ : Int32) (a5_ : Int32) (h_ : z_H) => fn_X8_play_54 k39 n a1_ a2_ a4_ a5_ h_; if (nI 4) ≤ a5 then if a4 = (-1) then fn_X8_play_169 k39 a1 a2 a4 (nI 0) h else fn_X8_play_169 k39 a1 a2 a4 (nI 1) h else if a4 = (-1) then fn_X8_play_126 k39 k54 a1 a2 a4 a5 (z_vi0 (fn_X8_isSafeStep a5 h)) h else if (z_vi0 (fn_X8_isSafeStep a5 h)) = 0 then fn_X8_play_130 k39 k54 a1 a2 a4 a5 (z_vi0 (fn_X8_isSafeStep a5 h)) h else if (z_vi0 (fn_X8_far (h.1 28 ((nI 0).toNatClampNeg)) (z_vi0 (fn_X8_beside (h.1 28 ((nI 0).toNatClampNeg)) a5 h)) h)) ≤ (z_vi0 (fn_X8_far (h.1 28 ((nI 0).toNatClampNeg)) (z_vi0 (fn_X8_beside (h.1 28 ((nI 0).toNatClampNeg)) a4 h)) h)) then fn_X8_play_130 k39 k54 a1 a2 a4 a5 (z_vi0 (fn_X8_isSafeStep a5 h)) h else fn_X8_play_126 k39 k54 a1 a2 a4 a5 (z_vi0 (fn_X8_isSafeStep a5 h)) h
def tk_X8_play_54 (K39 : Int32 → Int32 → Int32 → z_H → Prop) : Nat → Int32 → Int32 → Int32 → Int32 → z_H → Prop
  | 0, _, _, _, _, _ => False
  | n + 1, a1, a2, a4, a5, h => let K54 := fun (a1_ : Int32) (a2_ : Int32) (a4_ : Int32) (a5_ : Int32) (h_ : z_H) => tk_X8_play_54 K39 n a1_ a2_ a4_ a5_ h_; (((nI 4) ≤ a5) → (((a4 = (-1)) → (tk_X8_play_169 K39 a1 a2 a4 (nI 0) h)) ∧ ((¬ a4 = (-1)) → (tk_X8_play_169 K39 a1 a2 a4 (nI 1) h)))) ∧ ((¬ (nI 4) ≤ a5) → (tk_X8_isSafeStep a5 h ∧ (((a4 = (-1)) → (tk_X8_play_126 K39 K54 a1 a2 a4 a5 (z_vi0 (fn_X8_isSafeStep a5 h)) h)) ∧ ((¬ a4 = (-1)) → ((((z_vi0 (fn_X8_isSafeStep a5 h)) = 0) → (tk_X8_play_130 K39 K54 a1 a2 a4 a5 (z_vi0 (fn_X8_isSafeStep a5 h)) h)) ∧ ((¬ (z_vi0 (fn_X8_isSafeStep a5 h)) = 0) → (tk_X8_beside (h.1 28 ((nI 0).toNatClampNeg)) a5 h ∧ (tk_X8_far (h.1 28 ((nI 0).toNatClampNeg)) (z_vi0 (fn_X8_beside (h.1 28 ((nI 0).toNatClampNeg)) a5 h)) h ∧ (tk_X8_beside (h.1 28 ((nI 0).toNatClampNeg)) a4 h ∧ (tk_X8_far (h.1 28 ((nI 0).toNatClampNeg)) (z_vi0 (fn_X8_beside (h.1 28 ((nI 0).toNatClampNeg)) a4 h)) h ∧ ((((z_vi0 (fn_X8_far (h.1 28 ((nI 0).toNatClampNeg)) (z_vi0 (fn_X8_beside (h.1 28 ((nI 0).toNatClampNeg)) a5 h)) h)) ≤ (z_vi0 (fn_X8_far (h.1 28 ((nI 0).toNatClampNeg)) (z_vi0 (fn_X8_beside (h.1 28 ((nI 0).toNatClampNeg)) a4 h)) h))) → (tk_X8_play_130 K39 K54 a1 a2 a4 a5 (z_vi0 (fn_X8_isSafeStep a5 h)) h)) ∧ ((¬ (z_vi0 (fn_X8_far (h.1 28 ((nI 0).toNatClampNeg)) (z_vi0 (fn_X8_beside (h.1 28 ((nI 0).toNatClampNeg)) a5 h)) h)) ≤ (z_vi0 (fn_X8_far (h.1 28 ((nI 0).toNatClampNeg)) (z_vi0 (fn_X8_beside (h.1 28 ((nI 0).toNatClampNeg)) a4 h)) h))) → (tk_X8_play_126 K39 K54 a1 a2 a4 a5 (z_vi0 (fn_X8_isSafeStep a5 h)) h)))))))))))))
def fn_X8_play_39  : Nat → Int32 → Int32 → Int32 → z_H → z_R
  | 0, _, _, _, h => (none, h)
  | n + 1, a1, a2, a3, h => let k39 := fun (a1_ : Int32) (a2_ : Int32) (a3_ : Int32) (h_ : z_H) => fn_X8_play_39  n a1_ a2_ a3_ h_; if a3 = 0 then (some (.int a2), h) else if a1 ≤ a2 then (some (.int a2), h) else fn_X8_play_54 k39 2000 a1 a2 (-1) (nI 0) h
def tk_X8_play_39  : Nat → Int32 → Int32 → Int32 → z_H → Prop
  | 0, _, _, _, _ => False
  | n + 1, a1, a2, a3, h => let K39 := fun (a1_ : Int32) (a2_ : Int32) (a3_ : Int32) (h_ : z_H) => tk_X8_play_39  n a1_ a2_ a3_ h_; ((a3 = 0) → (True)) ∧ ((¬ a3 = 0) → (((a1 ≤ a2) → (True)) ∧ ((¬ a1 ≤ a2) → (tk_X8_play_54 K39 2000 a1 a2 (-1) (nI 0) h))))
def fn_X8_play_27  (a1 : Int32) (s0 : Int32) (h : z_H) : z_R := if (fv_X8_goesWell h s0) = 0 then (some (.int (nI 0)), fh_X8_goesWell h s0) else fn_X8_play_39 2000 a1 (nI 0) (nI 1) (fh_X8_goesWell h s0)
def tk_X8_play_27  (a1 : Int32) (s0 : Int32) (h : z_H) : Prop := (((fv_X8_goesWell h s0) = 0) → (True)) ∧ ((¬ (fv_X8_goesWell h s0) = 0) → (tk_X8_play_39 2000 a1 (nI 0) (nI 1) (fh_X8_goesWell h s0)))
def fn_X8_play (x : Int32) (h : z_H) : z_R := if (fv_X8_in x (nI 1) (nI 50)) = 0 then fn_X8_play_27 x (nI 1) h else if (fv_X8_lives h ) = 0 then fn_X8_play_27 x (nI 2) h else fn_X8_play_27 x (nI 0) h
def tk_X8_play (x : Int32) (h : z_H) : Prop := (((fv_X8_in x (nI 1) (nI 50)) = 0) → (tk_X8_play_27 x (nI 1) h)) ∧ ((¬ (fv_X8_in x (nI 1) (nI 50)) = 0) → ((((fv_X8_lives h ) = 0) → (tk_X8_play_27 x (nI 2) h)) ∧ ((¬ (fv_X8_lives h ) = 0) → (tk_X8_play_27 x (nI 0) h))))
set_option maxHeartbeats 4000000 in
set_option maxRecDepth 100000 in
theorem sp_X8_play (l : Launch) (ext : z_Sh)  (h : z_H) (x : Int32)  (T : tk_X8_play x h) : z_Sp l 6 yX8_play cX8_play 8 (some .int) [.ref 20, .int x] (z_m ext) h (z_PI (fn_X8_play x h)) := by
  refine z_enter ft_X8 (by decide +kernel) fo_X8 (Nat.le_of_ble_eq_true rfl) ?_
  intro p e R s m args below meth c D dA ad hB
  have hC := hB.1
  have hN := hB.2.1
  have hR := hB.2.2.1
  unfold tk_X8_play at T; have E : (if (fv_X8_in x (nI 1) (nI 50)) = 0 then fn_X8_play_27 x (nI 1) h else if (fv_X8_lives h ) = 0 then fn_X8_play_27 x (nI 2) h else fn_X8_play_27 x (nI 0) h) = fn_X8_play x h := rfl
  generalize fn_X8_play x h = RR at E ⊢
  have P150 : ∀ (k39 : Int32 → Int32 → Int32 → z_H → z_R) (K39 : Int32 → Int32 → Int32 → z_H → Prop) (hk39 : ∀ (a1 : Int32) (a2 : Int32) (a3 : Int32) (h : z_H), K39 a1 a2 a3 h → k39 a1 a2 a3 h = RR → z_G p l e R s m args below meth c D dA ad 8 (z_PI RR) (z_m ext) 39 [some (.ref 20), some (.int a1), some (.int a2), some (.int a3), none, none, none, none] [] h), ∀ (k54 : Int32 → Int32 → Int32 → Int32 → z_H → z_R) (K54 : Int32 → Int32 → Int32 → Int32 → z_H → Prop) (hk54 : ∀ (a1 : Int32) (a2 : Int32) (a4 : Int32) (a5 : Int32) (h : z_H), K54 a1 a2 a4 a5 h → k54 a1 a2 a4 a5 h = RR → z_G p l e R s m args below meth c D dA ad 8 (z_PI RR) (z_m ext) 54 [some (.ref 20), some (.int a1), some (.int a2), none, some (.int a4), some (.int a5), none, none] [] h), ∀ (a1 : Int32) (a2 : Int32) (a5 : Int32) (s0 : Int32) (h : z_H), tk_X8_play_150 K39 K54 a1 a2 a5 s0 h → fn_X8_play_150 k39 k54 a1 a2 a5 s0 h = RR → z_G p l e R s m args below meth c D dA ad 8 (z_PI RR) (z_m ext) 150 [some (.ref 20), some (.int a1), some (.int a2), none, none, some (.int a5), none, none] [.int s0] h := by
    intro k39 K39 hk39 k54 K54 hk54 a1 a2 a5 s0 h T E
    unfold tk_X8_play_150 at T; unfold fn_X8_play_150 at E
    refine z_go hC (pc' := 155) (ls' := [some (.ref 20), some (.int a1), some (.int a2), none, some (.int s0), some (.int (a5 + (nI 1))), none, none]) (st' := []) (h' := h) (cs := []) [.istore 4, .iinc 5 1] (by decide +kernel) rfl rfl trivial ?_
    refine z_goto hC (off := -101) 54 (by decide +kernel) (by decide) ?_
    exact hk54 a1 a2 s0 (a5 + (nI 1)) h T E
  have P148 : ∀ (k39 : Int32 → Int32 → Int32 → z_H → z_R) (K39 : Int32 → Int32 → Int32 → z_H → Prop) (hk39 : ∀ (a1 : Int32) (a2 : Int32) (a3 : Int32) (h : z_H), K39 a1 a2 a3 h → k39 a1 a2 a3 h = RR → z_G p l e R s m args below meth c D dA ad 8 (z_PI RR) (z_m ext) 39 [some (.ref 20), some (.int a1), some (.int a2), some (.int a3), none, none, none, none] [] h), ∀ (k54 : Int32 → Int32 → Int32 → Int32 → z_H → z_R) (K54 : Int32 → Int32 → Int32 → Int32 → z_H → Prop) (hk54 : ∀ (a1 : Int32) (a2 : Int32) (a4 : Int32) (a5 : Int32) (h : z_H), K54 a1 a2 a4 a5 h → k54 a1 a2 a4 a5 h = RR → z_G p l e R s m args below meth c D dA ad 8 (z_PI RR) (z_m ext) 54 [some (.ref 20), some (.int a1), some (.int a2), none, some (.int a4), some (.int a5), none, none] [] h), ∀ (a1 : Int32) (a2 : Int32) (a4 : Int32) (a5 : Int32) (h : z_H), tk_X8_play_148 K39 K54 a1 a2 a4 a5 h → fn_X8_play_148 k39 k54 a1 a2 a4 a5 h = RR → z_G p l e R s m args below meth c D dA ad 8 (z_PI RR) (z_m ext) 148 [some (.ref 20), some (.int a1), some (.int a2), none, some (.int a4), some (.int a5), none, none] [] h := by
    intro k39 K39 hk39 k54 K54 hk54 a1 a2 a4 a5 h T E
    unfold tk_X8_play_148 at T; unfold fn_X8_play_148 at E
    refine z_go hC (pc' := 150) (ls' := [some (.ref 20), some (.int a1), some (.int a2), none, some (.int a4), some (.int a5), none, none]) (st' := [.int a4]) (h' := h) (cs := []) [.iload 4] (by decide +kernel) rfl rfl trivial ?_
    refine z_less (ls' := [some (.ref 20), some (.int a1), some (.int a2), none, none, some (.int a5), none, none]) (by simp [z_sub]) ?_
    exact P150 _ _ hk39 _ _ hk54 a1 a2 a5 a4 h T E
  have P131 : ∀ (k39 : Int32 → Int32 → Int32 → z_H → z_R) (K39 : Int32 → Int32 → Int32 → z_H → Prop) (hk39 : ∀ (a1 : Int32) (a2 : Int32) (a3 : Int32) (h : z_H), K39 a1 a2 a3 h → k39 a1 a2 a3 h = RR → z_G p l e R s m args below meth c D dA ad 8 (z_PI RR) (z_m ext) 39 [some (.ref 20), some (.int a1), some (.int a2), some (.int a3), none, none, none, none] [] h), ∀ (k54 : Int32 → Int32 → Int32 → Int32 → z_H → z_R) (K54 : Int32 → Int32 → Int32 → Int32 → z_H → Prop) (hk54 : ∀ (a1 : Int32) (a2 : Int32) (a4 : Int32) (a5 : Int32) (h : z_H), K54 a1 a2 a4 a5 h → k54 a1 a2 a4 a5 h = RR → z_G p l e R s m args below meth c D dA ad 8 (z_PI RR) (z_m ext) 54 [some (.ref 20), some (.int a1), some (.int a2), none, some (.int a4), some (.int a5), none, none] [] h), ∀ (a1 : Int32) (a2 : Int32) (a4 : Int32) (a5 : Int32) (a6 : Int32) (s0 : Int32) (h : z_H), tk_X8_play_131 K39 K54 a1 a2 a4 a5 a6 s0 h → fn_X8_play_131 k39 k54 a1 a2 a4 a5 a6 s0 h = RR → z_G p l e R s m args below meth c D dA ad 8 (z_PI RR) (z_m ext) 131 [some (.ref 20), some (.int a1), some (.int a2), none, some (.int a4), some (.int a5), some (.int a6), none] [.int s0] h := by
    intro k39 K39 hk39 k54 K54 hk54 a1 a2 a4 a5 a6 s0 h T E
    unfold tk_X8_play_131 at T; unfold fn_X8_play_131 at E
    refine z_go hC (pc' := 135) (ls' := [some (.ref 20), some (.int a1), some (.int a2), none, some (.int a4), some (.int a5), some (.int a6), some (.int s0)]) (st' := [.int a6]) (h' := h) (cs := []) [.istore 7, .iload 6] (by decide +kernel) rfl rfl trivial ?_
    refine z_if_eq hC (off := 13) 148 (by decide +kernel) (by decide) (fun c1 => ?_) (fun c1 => ?_)
    · skip
      have E := (if_pos c1).symm.trans E
      have T := T.1 c1
      refine z_less (ls' := [some (.ref 20), some (.int a1), some (.int a2), none, some (.int a4), some (.int a5), none, none]) (by simp [z_sub]) ?_
      exact P148 _ _ hk39 _ _ hk54 a1 a2 a4 a5 h T E
    · skip
      have E := (if_neg c1).symm.trans E
      have T := T.2 c1
      refine z_go hC (pc' := 140) (ls' := [some (.ref 20), some (.int a1), some (.int a2), none, some (.int a4), some (.int a5), some (.int a6), some (.int s0)]) (st' := [.int s0]) (h' := h) (cs := []) [.iload 7] (by decide +kernel) rfl rfl trivial ?_
      refine z_if_eq hC (off := 8) 148 (by decide +kernel) (by decide) (fun c2 => ?_) (fun c2 => ?_)
      · skip
        have E := (if_pos c2).symm.trans E
        have T := T.1 c2
        refine z_less (ls' := [some (.ref 20), some (.int a1), some (.int a2), none, some (.int a4), some (.int a5), none, none]) (by simp [z_sub]) ?_
        exact P148 _ _ hk39 _ _ hk54 a1 a2 a4 a5 h T E
      · skip
        have E := (if_neg c2).symm.trans E
        have T := T.2 c2
        refine z_go hC (pc' := 145) (ls' := [some (.ref 20), some (.int a1), some (.int a2), none, some (.int a4), some (.int a5), some (.int a6), some (.int s0)]) (st' := [.int a5]) (h' := h) (cs := []) [.iload 5] (by decide +kernel) rfl rfl trivial ?_
        refine z_goto hC (off := 5) 150 (by decide +kernel) (by decide) ?_
        refine z_less (ls' := [some (.ref 20), some (.int a1), some (.int a2), none, none, some (.int a5), none, none]) (by simp [z_sub]) ?_
        exact P150 _ _ hk39 _ _ hk54 a1 a2 a5 a5 h T E
  have P126 : ∀ (k39 : Int32 → Int32 → Int32 → z_H → z_R) (K39 : Int32 → Int32 → Int32 → z_H → Prop) (hk39 : ∀ (a1 : Int32) (a2 : Int32) (a3 : Int32) (h : z_H), K39 a1 a2 a3 h → k39 a1 a2 a3 h = RR → z_G p l e R s m args below meth c D dA ad 8 (z_PI RR) (z_m ext) 39 [some (.ref 20), some (.int a1), some (.int a2), some (.int a3), none, none, none, none] [] h), ∀ (k54 : Int32 → Int32 → Int32 → Int32 → z_H → z_R) (K54 : Int32 → Int32 → Int32 → Int32 → z_H → Prop) (hk54 : ∀ (a1 : Int32) (a2 : Int32) (a4 : Int32) (a5 : Int32) (h : z_H), K54 a1 a2 a4 a5 h → k54 a1 a2 a4 a5 h = RR → z_G p l e R s m args below meth c D dA ad 8 (z_PI RR) (z_m ext) 54 [some (.ref 20), some (.int a1), some (.int a2), none, some (.int a4), some (.int a5), none, none] [] h), ∀ (a1 : Int32) (a2 : Int32) (a4 : Int32) (a5 : Int32) (a6 : Int32) (h : z_H), tk_X8_play_126 K39 K54 a1 a2 a4 a5 a6 h → fn_X8_play_126 k39 k54 a1 a2 a4 a5 a6 h = RR → z_G p l e R s m args below meth c D dA ad 8 (z_PI RR) (z_m ext) 126 [some (.ref 20), some (.int a1), some (.int a2), none, some (.int a4), some (.int a5), some (.int a6), none] [] h := by
    intro k39 K39 hk39 k54 K54 hk54 a1 a2 a4 a5 a6 h T E
    unfold tk_X8_play_126 at T; unfold fn_X8_play_126 at E
    refine z_go hC (pc' := 127) (ls' := [some (.ref 20), some (.int a1), some (.int a2), none, some (.int a4), some (.int a5), some (.int a6), none]) (st' := [.int (nI 1)]) (h' := h) (cs := []) [.iconst 1] (by decide +kernel) rfl rfl trivial ?_
    refine z_goto hC (off := 4) 131 (by decide +kernel) (by decide) ?_
    exact P131 _ _ hk39 _ _ hk54 a1 a2 a4 a5 a6 (nI 1) h T E
  have P130 : ∀ (k39 : Int32 → Int32 → Int32 → z_H → z_R) (K39 : Int32 → Int32 → Int32 → z_H → Prop) (hk39 : ∀ (a1 : Int32) (a2 : Int32) (a3 : Int32) (h : z_H), K39 a1 a2 a3 h → k39 a1 a2 a3 h = RR → z_G p l e R s m args below meth c D dA ad 8 (z_PI RR) (z_m ext) 39 [some (.ref 20), some (.int a1), some (.int a2), some (.int a3), none, none, none, none] [] h), ∀ (k54 : Int32 → Int32 → Int32 → Int32 → z_H → z_R) (K54 : Int32 → Int32 → Int32 → Int32 → z_H → Prop) (hk54 : ∀ (a1 : Int32) (a2 : Int32) (a4 : Int32) (a5 : Int32) (h : z_H), K54 a1 a2 a4 a5 h → k54 a1 a2 a4 a5 h = RR → z_G p l e R s m args below meth c D dA ad 8 (z_PI RR) (z_m ext) 54 [some (.ref 20), some (.int a1), some (.int a2), none, some (.int a4), some (.int a5), none, none] [] h), ∀ (a1 : Int32) (a2 : Int32) (a4 : Int32) (a5 : Int32) (a6 : Int32) (h : z_H), tk_X8_play_130 K39 K54 a1 a2 a4 a5 a6 h → fn_X8_play_130 k39 k54 a1 a2 a4 a5 a6 h = RR → z_G p l e R s m args below meth c D dA ad 8 (z_PI RR) (z_m ext) 130 [some (.ref 20), some (.int a1), some (.int a2), none, some (.int a4), some (.int a5), some (.int a6), none] [] h := by
    intro k39 K39 hk39 k54 K54 hk54 a1 a2 a4 a5 a6 h T E
    unfold tk_X8_play_130 at T; unfold fn_X8_play_130 at E
    refine z_go hC (pc' := 131) (ls' := [some (.ref 20), some (.int a1), some (.int a2), none, some (.int a4), some (.int a5), some (.int a6), none]) (st' := [.int (nI 0)]) (h' := h) (cs := []) [.iconst 0] (by decide +kernel) rfl rfl trivial ?_
    exact P131 _ _ hk39 _ _ hk54 a1 a2 a4 a5 a6 (nI 0) h T E
  have P183 : ∀ (k39 : Int32 → Int32 → Int32 → z_H → z_R) (K39 : Int32 → Int32 → Int32 → z_H → Prop) (hk39 : ∀ (a1 : Int32) (a2 : Int32) (a3 : Int32) (h : z_H), K39 a1 a2 a3 h → k39 a1 a2 a3 h = RR → z_G p l e R s m args below meth c D dA ad 8 (z_PI RR) (z_m ext) 39 [some (.ref 20), some (.int a1), some (.int a2), some (.int a3), none, none, none, none] [] h), ∀ (a1 : Int32) (a2 : Int32) (a3 : Int32) (h : z_H), tk_X8_play_183 K39 a1 a2 a3 h → fn_X8_play_183 k39 a1 a2 a3 h = RR → z_G p l e R s m args below meth c D dA ad 8 (z_PI RR) (z_m ext) 183 [some (.ref 20), some (.int a1), some (.int a2), some (.int a3), none, none, none, none] [] h := by
    intro k39 K39 hk39 a1 a2 a3 h T E
    unfold tk_X8_play_183 at T; unfold fn_X8_play_183 at E
    refine z_goto hC (off := -144) 39 (by decide +kernel) (by decide) ?_
    exact hk39 a1 a2 a3 h T E
  have P169 : ∀ (k39 : Int32 → Int32 → Int32 → z_H → z_R) (K39 : Int32 → Int32 → Int32 → z_H → Prop) (hk39 : ∀ (a1 : Int32) (a2 : Int32) (a3 : Int32) (h : z_H), K39 a1 a2 a3 h → k39 a1 a2 a3 h = RR → z_G p l e R s m args below meth c D dA ad 8 (z_PI RR) (z_m ext) 39 [some (.ref 20), some (.int a1), some (.int a2), some (.int a3), none, none, none, none] [] h), ∀ (a1 : Int32) (a2 : Int32) (a4 : Int32) (s0 : Int32) (h : z_H), tk_X8_play_169 K39 a1 a2 a4 s0 h → fn_X8_play_169 k39 a1 a2 a4 s0 h = RR → z_G p l e R s m args below meth c D dA ad 8 (z_PI RR) (z_m ext) 169 [some (.ref 20), some (.int a1), some (.int a2), none, some (.int a4), none, none, none] [.int s0] h := by
    intro k39 K39 hk39 a1 a2 a4 s0 h T E
    unfold tk_X8_play_169 at T; unfold fn_X8_play_169 at E
    refine z_go hC (pc' := 171) (ls' := [some (.ref 20), some (.int a1), some (.int a2), some (.int s0), some (.int a4), none, none, none]) (st' := [.int s0]) (h' := h) (cs := []) [.istore_n 3, .iload_n 3] (by decide +kernel) rfl rfl trivial ?_
    refine z_if_eq hC (off := 12) 183 (by decide +kernel) (by decide) (fun c3 => ?_) (fun c3 => ?_)
    · skip
      have E := (if_pos c3).symm.trans E
      have T := T.1 c3
      refine z_less (ls' := [some (.ref 20), some (.int a1), some (.int a2), some (.int s0), none, none, none, none]) (by simp [z_sub]) ?_
      exact P183 _ _ hk39 a1 a2 s0 h T E
    · skip
      have E := (if_neg c3).symm.trans E
      have T := T.2 c3
      refine z_go hC (pc' := 177) (ls' := [some (.ref 20), some (.int a1), some (.int a2), some (.int s0), some (.int a4), none, none, none]) (st' := [.int a4, .ref 20]) (h' := h) (cs := []) [.aload_n 0, .iload 4] (by decide +kernel) rfl rfl trivial ?_
      obtain ⟨t7, T⟩ := T
      refine z_callV hC hN hR (as := [.int a4]) (rest := []) ok_X8_133 (by decide +kernel) (sp_X8_goOn l _ h a4 t7) rfl rfl (Nat.le_of_ble_eq_true rfl) rfl rfl (Nat.le_of_ble_eq_true rfl) ⟨Nat.zero_le _, Nat.zero_le _⟩ (fun r4 h5 q6 => z_fun q6 ?_)
      refine z_go hC (pc' := 183) (ls' := [some (.ref 20), some (.int a1), some (.int (a2 + (nI 1))), some (.int s0), some (.int a4), none, none, none]) (st' := []) (h' := (fn_X8_goOn a4 h).2) (cs := []) [.iinc 2 1] (by decide +kernel) rfl rfl trivial ?_
      refine z_less (ls' := [some (.ref 20), some (.int a1), some (.int (a2 + (nI 1))), some (.int s0), none, none, none, none]) (by simp [z_sub]) ?_
      exact P183 _ _ hk39 a1 (a2 + (nI 1)) s0 ((fn_X8_goOn a4 h).2) T E
  have P54 : ∀ (k39 : Int32 → Int32 → Int32 → z_H → z_R) (K39 : Int32 → Int32 → Int32 → z_H → Prop) (hk39 : ∀ (a1 : Int32) (a2 : Int32) (a3 : Int32) (h : z_H), K39 a1 a2 a3 h → k39 a1 a2 a3 h = RR → z_G p l e R s m args below meth c D dA ad 8 (z_PI RR) (z_m ext) 39 [some (.ref 20), some (.int a1), some (.int a2), some (.int a3), none, none, none, none] [] h), ∀ (n : Nat), ∀ (a1 : Int32) (a2 : Int32) (a4 : Int32) (a5 : Int32) (h : z_H), tk_X8_play_54 K39 n a1 a2 a4 a5 h → fn_X8_play_54 k39 n a1 a2 a4 a5 h = RR → z_G p l e R s m args below meth c D dA ad 8 (z_PI RR) (z_m ext) 54 [some (.ref 20), some (.int a1), some (.int a2), none, some (.int a4), some (.int a5), none, none] [] h := by
    intro k39 K39 hk39 n
    induction n with
    | zero => intro a1 a2 a4 a5 h T E; exact False.elim T
    | succ n ih =>
      intro a1 a2 a4 a5 h T E
      unfold tk_X8_play_54 at T; unfold fn_X8_play_54 at E; dsimp only at T E
      have hk54 := ih
      refine z_go hC (pc' := 57) (ls' := [some (.ref 20), some (.int a1), some (.int a2), none, some (.int a4), some (.int a5), none, none]) (st' := [.int (nI 4), .int a5]) (h' := h) (cs := []) [.iload 5, .iconst 4] (by decide +kernel) rfl rfl trivial ?_
      refine z_icmp_ge hC (off := 101) 158 (by decide +kernel) (by decide) (fun c8 => ?_) (fun c8 => ?_)
      · skip
        have E := (if_pos c8).symm.trans E
        have T := T.1 c8
        refine z_go hC (pc' := 161) (ls' := [some (.ref 20), some (.int a1), some (.int a2), none, some (.int a4), some (.int a5), none, none]) (st' := [.int (-1), .int a4]) (h' := h) (cs := []) [.iload 4, .iconst (-1)] (by decide +kernel) rfl rfl trivial ?_
        refine z_icmp_eq hC (off := 7) 168 (by decide +kernel) (by decide) (fun c9 => ?_) (fun c9 => ?_)
        · skip
          have E := (if_pos c9).symm.trans E
          have T := T.1 c9
          refine z_go hC (pc' := 169) (ls' := [some (.ref 20), some (.int a1), some (.int a2), none, some (.int a4), some (.int a5), none, none]) (st' := [.int (nI 0)]) (h' := h) (cs := []) [.iconst 0] (by decide +kernel) rfl rfl trivial ?_
          refine z_less (ls' := [some (.ref 20), some (.int a1), some (.int a2), none, some (.int a4), none, none, none]) (by simp [z_sub]) ?_
          exact P169 _ _ hk39 a1 a2 a4 (nI 0) h T E
        · skip
          have E := (if_neg c9).symm.trans E
          have T := T.2 c9
          refine z_go hC (pc' := 165) (ls' := [some (.ref 20), some (.int a1), some (.int a2), none, some (.int a4), some (.int a5), none, none]) (st' := [.int (nI 1)]) (h' := h) (cs := []) [.iconst 1] (by decide +kernel) rfl rfl trivial ?_
          refine z_goto hC (off := 4) 169 (by decide +kernel) (by decide) ?_
          refine z_less (ls' := [some (.ref 20), some (.int a1), some (.int a2), none, some (.int a4), none, none, none]) (by simp [z_sub]) ?_
          exact P169 _ _ hk39 a1 a2 a4 (nI 1) h T E
      · skip
        have E := (if_neg c8).symm.trans E
        have T := T.2 c8
        refine z_go hC (pc' := 63) (ls' := [some (.ref 20), some (.int a1), some (.int a2), none, some (.int a4), some (.int a5), none, none]) (st' := [.int a5, .ref 20]) (h' := h) (cs := []) [.aload_n 0, .iload 5] (by decide +kernel) rfl rfl trivial ?_
        obtain ⟨t13, T⟩ := T
        refine z_callV hC hN hR (as := [.int a5]) (rest := []) ok_X8_150 (by decide +kernel) (sp_X8_isSafeStep l _ h a5 t13) rfl rfl (Nat.le_of_ble_eq_true rfl) rfl rfl (Nat.le_of_ble_eq_true rfl) ⟨Nat.zero_le _, Nat.zero_le _⟩ (fun r10 h11 q12 => z_funb q12 (fun z14 => ?_))
        refine z_go hC (pc' := 71) (ls' := [some (.ref 20), some (.int a1), some (.int a2), none, some (.int a4), some (.int a5), some (.int (z_vi0 (fn_X8_isSafeStep a5 h))), none]) (st' := [.int (-1), .int a4]) (h' := h) (cs := []) [.istore 6, .iload 4, .iconst (-1)] (by decide +kernel) rfl rfl trivial ?_
        refine z_icmp_eq hC (off := 55) 126 (by decide +kernel) (by decide) (fun c15 => ?_) (fun c15 => ?_)
        · skip
          have E := (if_pos c15).symm.trans E
          have T := T.1 c15
          exact P126 _ _ hk39 _ _ hk54 a1 a2 a4 a5 (z_vi0 (fn_X8_isSafeStep a5 h)) h T E
        · skip
          have E := (if_neg c15).symm.trans E
          have T := T.2 c15
          refine z_go hC (pc' := 76) (ls' := [some (.ref 20), some (.int a1), some (.int a2), none, some (.int a4), some (.int a5), some (.int (z_vi0 (fn_X8_isSafeStep a5 h))), none]) (st' := [.int (z_vi0 (fn_X8_isSafeStep a5 h))]) (h' := h) (cs := []) [.iload 6] (by decide +kernel) rfl rfl trivial ?_
          refine z_if_eq hC (off := 54) 130 (by decide +kernel) (by decide) (fun c16 => ?_) (fun c16 => ?_)
          · skip
            have E := (if_pos c16).symm.trans E
            have T := T.1 c16
            exact P130 _ _ hk39 _ _ hk54 a1 a2 a4 a5 (z_vi0 (fn_X8_isSafeStep a5 h)) h T E
          · skip
            have E := (if_neg c16).symm.trans E
            have T := T.2 c16
            refine z_go hC (pc' := 95) (ls' := [some (.ref 20), some (.int a1), some (.int a2), none, some (.int a4), some (.int a5), some (.int (z_vi0 (fn_X8_isSafeStep a5 h))), none]) (st' := [.int a5, .int (h.1 28 ((nI 0).toNatClampNeg)), .ref 20, .int (h.1 28 ((nI 0).toNatClampNeg)), .ref 20]) (h' := h) (cs := [vp_in (nI 0) 37, vp_in (nI 0) 37]) [.aload_n 0, .aload_n 0, .getfield 32, .iconst 0, .iaload, .aload_n 0, .aload_n 0, .getfield 32, .iconst 0, .iaload, .iload 5] (by decide +kernel) rfl rfl ⟨(vp_in_nI (n := 0) (N := 37) (by decide) (by decide)), (vp_in_nI (n := 0) (N := 37) (by decide) (by decide))⟩ ?_
            obtain ⟨t20, T⟩ := T
            refine z_callV hC hN hR (as := [.int (h.1 28 ((nI 0).toNatClampNeg)), .int a5]) (rest := [.int (h.1 28 ((nI 0).toNatClampNeg)), .ref 20]) ok_X8_117 (by decide +kernel) (sp_X8_beside l _ h (h.1 28 ((nI 0).toNatClampNeg)) a5 t20) rfl rfl (Nat.le_of_ble_eq_true rfl) rfl rfl (Nat.le_of_ble_eq_true rfl) ⟨Nat.zero_le _, Nat.zero_le _⟩ (fun r17 h18 q19 => z_fun q19 ?_)
            obtain ⟨t24, T⟩ := T
            refine z_callV hC hN hR (as := [.int (h.1 28 ((nI 0).toNatClampNeg)), .int (z_vi0 (fn_X8_beside (h.1 28 ((nI 0).toNatClampNeg)) a5 h))]) (rest := []) ok_X8_137 (by decide +kernel) (sp_X8_far l _ h (h.1 28 ((nI 0).toNatClampNeg)) (z_vi0 (fn_X8_beside (h.1 28 ((nI 0).toNatClampNeg)) a5 h)) t24) rfl rfl (Nat.le_of_ble_eq_true rfl) rfl rfl (Nat.le_of_ble_eq_true rfl) ⟨Nat.zero_le _, Nat.zero_le _⟩ (fun r21 h22 q23 => z_fun q23 ?_)
            refine z_go hC (pc' := 117) (ls' := [some (.ref 20), some (.int a1), some (.int a2), none, some (.int a4), some (.int a5), some (.int (z_vi0 (fn_X8_isSafeStep a5 h))), none]) (st' := [.int a4, .int (h.1 28 ((nI 0).toNatClampNeg)), .ref 20, .int (h.1 28 ((nI 0).toNatClampNeg)), .ref 20, .int (z_vi0 (fn_X8_far (h.1 28 ((nI 0).toNatClampNeg)) (z_vi0 (fn_X8_beside (h.1 28 ((nI 0).toNatClampNeg)) a5 h)) h))]) (h' := h) (cs := [vp_in (nI 0) 37, vp_in (nI 0) 37]) [.aload_n 0, .aload_n 0, .getfield 32, .iconst 0, .iaload, .aload_n 0, .aload_n 0, .getfield 32, .iconst 0, .iaload, .iload 4] (by decide +kernel) rfl rfl ⟨(vp_in_nI (n := 0) (N := 37) (by decide) (by decide)), (vp_in_nI (n := 0) (N := 37) (by decide) (by decide))⟩ ?_
            obtain ⟨t28, T⟩ := T
            refine z_callV hC hN hR (as := [.int (h.1 28 ((nI 0).toNatClampNeg)), .int a4]) (rest := [.int (h.1 28 ((nI 0).toNatClampNeg)), .ref 20, .int (z_vi0 (fn_X8_far (h.1 28 ((nI 0).toNatClampNeg)) (z_vi0 (fn_X8_beside (h.1 28 ((nI 0).toNatClampNeg)) a5 h)) h))]) ok_X8_117 (by decide +kernel) (sp_X8_beside l _ h (h.1 28 ((nI 0).toNatClampNeg)) a4 t28) rfl rfl (Nat.le_of_ble_eq_true rfl) rfl rfl (Nat.le_of_ble_eq_true rfl) ⟨Nat.zero_le _, Nat.zero_le _⟩ (fun r25 h26 q27 => z_fun q27 ?_)
            obtain ⟨t32, T⟩ := T
            refine z_callV hC hN hR (as := [.int (h.1 28 ((nI 0).toNatClampNeg)), .int (z_vi0 (fn_X8_beside (h.1 28 ((nI 0).toNatClampNeg)) a4 h))]) (rest := [.int (z_vi0 (fn_X8_far (h.1 28 ((nI 0).toNatClampNeg)) (z_vi0 (fn_X8_beside (h.1 28 ((nI 0).toNatClampNeg)) a5 h)) h))]) ok_X8_137 (by decide +kernel) (sp_X8_far l _ h (h.1 28 ((nI 0).toNatClampNeg)) (z_vi0 (fn_X8_beside (h.1 28 ((nI 0).toNatClampNeg)) a4 h)) t32) rfl rfl (Nat.le_of_ble_eq_true rfl) rfl rfl (Nat.le_of_ble_eq_true rfl) ⟨Nat.zero_le _, Nat.zero_le _⟩ (fun r29 h30 q31 => z_fun q31 ?_)
            refine z_icmp_le hC (off := 7) 130 (by decide +kernel) (by decide) (fun c33 => ?_) (fun c33 => ?_)
            · skip
              have E := (if_pos c33).symm.trans E
              have T := T.1 c33
              exact P130 _ _ hk39 _ _ hk54 a1 a2 a4 a5 (z_vi0 (fn_X8_isSafeStep a5 h)) h T E
            · skip
              have E := (if_neg c33).symm.trans E
              have T := T.2 c33
              exact P126 _ _ hk39 _ _ hk54 a1 a2 a4 a5 (z_vi0 (fn_X8_isSafeStep a5 h)) h T E
  have P39 : ∀ (n : Nat), ∀ (a1 : Int32) (a2 : Int32) (a3 : Int32) (h : z_H), tk_X8_play_39  n a1 a2 a3 h → fn_X8_play_39  n a1 a2 a3 h = RR → z_G p l e R s m args below meth c D dA ad 8 (z_PI RR) (z_m ext) 39 [some (.ref 20), some (.int a1), some (.int a2), some (.int a3), none, none, none, none] [] h := by
    intro  n
    induction n with
    | zero => intro a1 a2 a3 h T E; exact False.elim T
    | succ n ih =>
      intro a1 a2 a3 h T E
      unfold tk_X8_play_39 at T; unfold fn_X8_play_39 at E; dsimp only at T E
      have hk39 := ih
      refine z_go hC (pc' := 40) (ls' := [some (.ref 20), some (.int a1), some (.int a2), some (.int a3), none, none, none, none]) (st' := [.int a3]) (h' := h) (cs := []) [.iload_n 3] (by decide +kernel) rfl rfl trivial ?_
      refine z_if_eq hC (off := 146) 186 (by decide +kernel) (by decide) (fun c34 => ?_) (fun c34 => ?_)
      · skip
        have E := (if_pos c34).symm.trans E
        have T := T.1 c34
        refine z_go hC (pc' := 187) (ls' := [some (.ref 20), some (.int a1), some (.int a2), some (.int a3), none, none, none, none]) (st' := [.int a2]) (h' := h) (cs := []) [.iload_n 2] (by decide +kernel) rfl rfl trivial ?_
        exact z_ret_i hB rfl (by decide +kernel) (z_lfi E)
      · skip
        have E := (if_neg c34).symm.trans E
        have T := T.2 c34
        refine z_go hC (pc' := 45) (ls' := [some (.ref 20), some (.int a1), some (.int a2), some (.int a3), none, none, none, none]) (st' := [.int a1, .int a2]) (h' := h) (cs := []) [.iload_n 2, .iload_n 1] (by decide +kernel) rfl rfl trivial ?_
        refine z_icmp_ge hC (off := 141) 186 (by decide +kernel) (by decide) (fun c35 => ?_) (fun c35 => ?_)
        · skip
          have E := (if_pos c35).symm.trans E
          have T := T.1 c35
          refine z_go hC (pc' := 187) (ls' := [some (.ref 20), some (.int a1), some (.int a2), some (.int a3), none, none, none, none]) (st' := [.int a2]) (h' := h) (cs := []) [.iload_n 2] (by decide +kernel) rfl rfl trivial ?_
          exact z_ret_i hB rfl (by decide +kernel) (z_lfi E)
        · skip
          have E := (if_neg c35).symm.trans E
          have T := T.2 c35
          refine z_go hC (pc' := 54) (ls' := [some (.ref 20), some (.int a1), some (.int a2), some (.int a3), some (.int (-1)), some (.int (nI 0)), none, none]) (st' := []) (h' := h) (cs := []) [.iconst (-1), .istore 4, .iconst 0, .istore 5] (by decide +kernel) rfl rfl trivial ?_
          refine z_less (ls' := [some (.ref 20), some (.int a1), some (.int a2), none, some (.int (-1)), some (.int (nI 0)), none, none]) (by simp [z_sub]) ?_
          exact P54 _ _ hk39 2000 a1 a2 (-1) (nI 0) h T E
  have P27 : ∀ (a1 : Int32) (s0 : Int32) (h : z_H), tk_X8_play_27  a1 s0 h → fn_X8_play_27  a1 s0 h = RR → z_G p l e R s m args below meth c D dA ad 8 (z_PI RR) (z_m ext) 27 [some (.ref 20), some (.int a1), none, none, none, none, none, none] [.int s0, .ref 20] h := by
    intro  a1 s0 h T E
    unfold tk_X8_play_27 at T; unfold fn_X8_play_27 at E
    refine z_callV hC hN hR (as := [.int s0]) (rest := []) ok_X8_98 (by decide +kernel) (sp_X8_goesWell l _ h s0) rfl rfl (Nat.le_of_ble_eq_true rfl) rfl rfl (Nat.le_of_ble_eq_true rfl) ⟨Nat.zero_le _, Nat.zero_le _⟩ (fun r36 h37 q38 => z_fun q38 ?_)
    refine z_if_ne hC (off := 5) 35 (by decide +kernel) (by decide) (fun c39 => ?_) (fun c39 => ?_)
    · skip
      have E := (if_neg c39).symm.trans E
      have T := T.2 c39
      refine z_go hC (pc' := 39) (ls' := [some (.ref 20), some (.int a1), some (.int (nI 0)), some (.int (nI 1)), none, none, none, none]) (st' := []) (h' := fh_X8_goesWell h s0) (cs := []) [.iconst 0, .istore_n 2, .iconst 1, .istore_n 3] (by decide +kernel) rfl rfl trivial ?_
      exact P39 2000 a1 (nI 0) (nI 1) (fh_X8_goesWell h s0) T E
    · skip
      have E := (if_pos c39).symm.trans E
      have T := T.1 c39
      refine z_go hC (pc' := 34) (ls' := [some (.ref 20), some (.int a1), none, none, none, none, none, none]) (st' := [.int (nI 0)]) (h' := fh_X8_goesWell h s0) (cs := []) [.iconst 0] (by decide +kernel) rfl rfl trivial ?_
      exact z_ret_i hB rfl (by decide +kernel) (z_lfi E)
  refine z_go hC (pc' := 5) (ls' := [some (.ref 20), some (.int x), none, none, none, none, none, none]) (st' := [.int (nI 50), .int (nI 1), .int x, .ref 20]) (h' := h) (cs := []) [.aload_n 0, .iload_n 1, .iconst 1, .bipush 50] (by decide +kernel) rfl rfl trivial ?_
  refine z_callS hC hN hR (as := [.int x, .int (nI 1), .int (nI 50)]) (rest := [.ref 20]) ok_X8_87 (by decide +kernel) (sp_X8_in l _ h x (nI 1) (nI 50)) (Nat.le_of_ble_eq_true rfl) rfl rfl (Nat.le_of_ble_eq_true rfl) ⟨Nat.zero_le _, Nat.zero_le _⟩ (fun r40 h41 q42 => z_fun q42 ?_)
  refine z_if_ne hC (off := 7) 15 (by decide +kernel) (by decide) (fun c43 => ?_) (fun c43 => ?_)
  · skip
    have E := (if_neg c43).symm.trans E
    have T := T.2 c43
    refine z_go hC (pc' := 16) (ls' := [some (.ref 20), some (.int x), none, none, none, none, none, none]) (st' := [.ref 20, .ref 20]) (h' := h) (cs := []) [.aload_n 0] (by decide +kernel) rfl rfl trivial ?_
    refine z_callV hC hN hR (as := []) (rest := [.ref 20]) ok_X8_126 (by decide +kernel) (sp_X8_lives l _ h ) rfl rfl (Nat.le_of_ble_eq_true rfl) rfl rfl (Nat.le_of_ble_eq_true rfl) ⟨Nat.zero_le _, Nat.zero_le _⟩ (fun r44 h45 q46 => z_fun q46 ?_)
    refine z_if_eq hC (off := 7) 26 (by decide +kernel) (by decide) (fun c47 => ?_) (fun c47 => ?_)
    · skip
      have E := (if_pos c47).symm.trans E
      have T := T.1 c47
      refine z_go hC (pc' := 27) (ls' := [some (.ref 20), some (.int x), none, none, none, none, none, none]) (st' := [.int (nI 2), .ref 20]) (h' := h) (cs := []) [.iconst 2] (by decide +kernel) rfl rfl trivial ?_
      exact P27  x (nI 2) h T E
    · skip
      have E := (if_neg c47).symm.trans E
      have T := T.2 c47
      refine z_go hC (pc' := 23) (ls' := [some (.ref 20), some (.int x), none, none, none, none, none, none]) (st' := [.int (nI 0), .ref 20]) (h' := h) (cs := []) [.iconst 0] (by decide +kernel) rfl rfl trivial ?_
      refine z_goto hC (off := 4) 27 (by decide +kernel) (by decide) ?_
      exact P27  x (nI 0) h T E
  · skip
    have E := (if_pos c43).symm.trans E
    have T := T.1 c43
    refine z_go hC (pc' := 12) (ls' := [some (.ref 20), some (.int x), none, none, none, none, none, none]) (st' := [.int (nI 1), .ref 20]) (h' := h) (cs := []) [.iconst 1] (by decide +kernel) rfl rfl trivial ?_
    refine z_goto hC (off := 15) 27 (by decide +kernel) (by decide) ?_
    exact P27  x (nI 1) h T E

set_option maxHeartbeats 4000000 in
set_option maxRecDepth 100000 in
theorem sp_X8_isAlive (l : Launch) (ext : z_Sh) (h : z_H)   : z_Sp l 1 yX8_isAlive cX8_isAlive 1 (some .boolean) [.ref 20] (z_m ext) h (fun rv h' => rv = some (.int (fv_X8_lives (z_set h 20 0 (nI 0)) )) ∧ h' = z_set h 20 0 (nI 0)) := by
  refine z_enter ft_X8 (by decide +kernel) fo_X8 (Nat.le_of_ble_eq_true rfl) ?_
  intro p e R s m args below meth c D dA ad hB
  have hC := hB.1
  have hN := hB.2.1
  have hR := hB.2.2.1
  refine z_go hC (pc' := 6) (ls' := [some (.ref 20)]) (st' := [.ref 20]) (h' := z_set h 20 0 (nI 0)) (cs := []) [.aload_n 0, .iconst 0, .putfield 56, .aload_n 0] (by decide +kernel) rfl rfl trivial ?_
  refine z_callV hC hN hR (as := []) (rest := []) ok_X8_126 (by decide +kernel) (sp_X8_lives l _ (z_set h 20 0 (nI 0)) ) rfl rfl (Nat.le_of_ble_eq_true rfl) rfl rfl (Nat.le_of_ble_eq_true rfl) ⟨Nat.zero_le _, Nat.zero_le _⟩ (fun r1 h2 q3 => z_fun q3 ?_)
  exact z_ret_z hB rfl (zb_X8_lives (z_set h 20 0 (nI 0)) ) (by decide +kernel) ⟨rfl, rfl⟩

set_option maxHeartbeats 4000000 in
set_option maxRecDepth 100000 in
theorem sp_X8_length (l : Launch) (ext : z_Sh) (h : z_H)   : z_Sp l 0 yX8_length cX8_length 1 (some .int) [.ref 20] (z_m ext) h (fun rv h' => rv = some (.int (h.1 20 12)) ∧ h' = z_set h 20 0 (nI 0)) := by
  refine z_enter ft_X8 (by decide +kernel) fo_X8 (Nat.le_of_ble_eq_true rfl) ?_
  intro p e R s m args below meth c D dA ad hB
  have hC := hB.1
  have hN := hB.2.1
  have hR := hB.2.2.1
  refine z_go hC (pc' := 9) (ls' := [some (.ref 20)]) (st' := [.int (h.1 20 12)]) (h' := z_set h 20 0 (nI 0)) (cs := []) [.aload_n 0, .iconst 0, .putfield 56, .aload_n 0, .getfield 111] (by decide +kernel) rfl rfl trivial ?_
  exact z_ret_i hB rfl (by decide +kernel) ⟨rfl, rfl⟩

set_option maxHeartbeats 4000000 in
set_option maxRecDepth 100000 in
theorem sp_X8_owed (l : Launch) (ext : z_Sh) (h : z_H)   : z_Sp l 0 yX8_owed cX8_owed 1 (some .int) [.ref 20] (z_m ext) h (fun rv h' => rv = some (.int (h.1 20 13)) ∧ h' = z_set h 20 0 (nI 0)) := by
  refine z_enter ft_X8 (by decide +kernel) fo_X8 (Nat.le_of_ble_eq_true rfl) ?_
  intro p e R s m args below meth c D dA ad hB
  have hC := hB.1
  have hN := hB.2.1
  have hR := hB.2.2.1
  refine z_go hC (pc' := 9) (ls' := [some (.ref 20)]) (st' := [.int (h.1 20 13)]) (h' := z_set h 20 0 (nI 0)) (cs := []) [.aload_n 0, .iconst 0, .putfield 56, .aload_n 0, .getfield 114] (by decide +kernel) rfl rfl trivial ?_
  exact z_ret_i hB rfl (by decide +kernel) ⟨rfl, rfl⟩

def fn_X8_bodyAt_20  (a1 : Int32) (s0 : Int32) (h : z_H) : z_R := if (fv_X8_goesWell h s0) = 0 then (some (.int (nI 0)), fh_X8_goesWell h s0) else (some (.int ((fh_X8_goesWell h s0).1 28 a1.toNatClampNeg)), fh_X8_goesWell h s0)
def tk_X8_bodyAt_20  (a1 : Int32) (s0 : Int32) (h : z_H) : Prop := (((fv_X8_goesWell h s0) = 0) → (True)) ∧ ((¬ (fv_X8_goesWell h s0) = 0) → (vp_in a1 37))
def fn_X8_bodyAt (x : Int32) (h : z_H) : z_R := if (fv_X8_in x (nI 0) ((h.1 20 12) - (nI 1))) = 0 then fn_X8_bodyAt_20 x (nI 1) h else fn_X8_bodyAt_20 x (nI 0) h
def tk_X8_bodyAt (x : Int32) (h : z_H) : Prop := (((fv_X8_in x (nI 0) ((h.1 20 12) - (nI 1))) = 0) → (tk_X8_bodyAt_20 x (nI 1) h)) ∧ ((¬ (fv_X8_in x (nI 0) ((h.1 20 12) - (nI 1))) = 0) → (tk_X8_bodyAt_20 x (nI 0) h))
set_option maxHeartbeats 4000000 in
set_option maxRecDepth 100000 in
theorem sp_X8_bodyAt (l : Launch) (ext : z_Sh)  (h : z_H) (x : Int32)  (T : tk_X8_bodyAt x h) : z_Sp l 1 yX8_bodyAt cX8_bodyAt 2 (some .int) [.ref 20, .int x] (z_m ext) h (z_PI (fn_X8_bodyAt x h)) := by
  refine z_enter ft_X8 (by decide +kernel) fo_X8 (Nat.le_of_ble_eq_true rfl) ?_
  intro p e R s m args below meth c D dA ad hB
  have hC := hB.1
  have hN := hB.2.1
  have hR := hB.2.2.1
  unfold tk_X8_bodyAt at T; have E : (if (fv_X8_in x (nI 0) ((h.1 20 12) - (nI 1))) = 0 then fn_X8_bodyAt_20 x (nI 1) h else fn_X8_bodyAt_20 x (nI 0) h) = fn_X8_bodyAt x h := rfl
  generalize fn_X8_bodyAt x h = RR at E ⊢
  have P20 : ∀ (a1 : Int32) (s0 : Int32) (h : z_H), tk_X8_bodyAt_20  a1 s0 h → fn_X8_bodyAt_20  a1 s0 h = RR → z_G p l e R s m args below meth c D dA ad 2 (z_PI RR) (z_m ext) 20 [some (.ref 20), some (.int a1)] [.int s0, .ref 20] h := by
    intro  a1 s0 h T E
    unfold tk_X8_bodyAt_20 at T; unfold fn_X8_bodyAt_20 at E
    refine z_callV hC hN hR (as := [.int s0]) (rest := []) ok_X8_98 (by decide +kernel) (sp_X8_goesWell l _ h s0) rfl rfl (Nat.le_of_ble_eq_true rfl) rfl rfl (Nat.le_of_ble_eq_true rfl) ⟨Nat.zero_le _, Nat.zero_le _⟩ (fun r1 h2 q3 => z_fun q3 ?_)
    refine z_if_eq hC (off := 12) 35 (by decide +kernel) (by decide) (fun c4 => ?_) (fun c4 => ?_)
    · skip
      have E := (if_pos c4).symm.trans E
      have T := T.1 c4
      refine z_go hC (pc' := 36) (ls' := [some (.ref 20), some (.int a1)]) (st' := [.int (nI 0)]) (h' := fh_X8_goesWell h s0) (cs := []) [.iconst 0] (by decide +kernel) rfl rfl trivial ?_
      exact z_ret_i hB rfl (by decide +kernel) (z_lfi E)
    · skip
      have E := (if_neg c4).symm.trans E
      have T := T.2 c4
      have t5 := T
      refine z_go hC (pc' := 32) (ls' := [some (.ref 20), some (.int a1)]) (st' := [.int ((fh_X8_goesWell h s0).1 28 a1.toNatClampNeg)]) (h' := fh_X8_goesWell h s0) (cs := [vp_in a1 37]) [.aload_n 0, .getfield 32, .iload_n 1, .iaload] (by decide +kernel) rfl rfl t5 ?_
      refine z_goto hC (off := 4) 36 (by decide +kernel) (by decide) ?_
      exact z_ret_i hB rfl (by decide +kernel) (z_lfi E)
  refine z_go hC (pc' := 9) (ls' := [some (.ref 20), some (.int x)]) (st' := [.int ((h.1 20 12) - (nI 1)), .int (nI 0), .int x, .ref 20]) (h' := h) (cs := []) [.aload_n 0, .iload_n 1, .iconst 0, .aload_n 0, .getfield 111, .iconst 1, .isub] (by decide +kernel) rfl rfl trivial ?_
  refine z_callS hC hN hR (as := [.int x, .int (nI 0), .int ((h.1 20 12) - (nI 1))]) (rest := [.ref 20]) ok_X8_87 (by decide +kernel) (sp_X8_in l _ h x (nI 0) ((h.1 20 12) - (nI 1))) (Nat.le_of_ble_eq_true rfl) rfl rfl (Nat.le_of_ble_eq_true rfl) ⟨Nat.zero_le _, Nat.zero_le _⟩ (fun r6 h7 q8 => z_fun q8 ?_)
  refine z_if_eq hC (off := 7) 19 (by decide +kernel) (by decide) (fun c9 => ?_) (fun c9 => ?_)
  · skip
    have E := (if_pos c9).symm.trans E
    have T := T.1 c9
    refine z_go hC (pc' := 20) (ls' := [some (.ref 20), some (.int x)]) (st' := [.int (nI 1), .ref 20]) (h' := h) (cs := []) [.iconst 1] (by decide +kernel) rfl rfl trivial ?_
    exact P20  x (nI 1) h T E
  · skip
    have E := (if_neg c9).symm.trans E
    have T := T.2 c9
    refine z_go hC (pc' := 16) (ls' := [some (.ref 20), some (.int x)]) (st' := [.int (nI 0), .ref 20]) (h' := h) (cs := []) [.iconst 0] (by decide +kernel) rfl rfl trivial ?_
    refine z_goto hC (off := 4) 20 (by decide +kernel) (by decide) ?_
    exact P20  x (nI 0) h T E

set_option maxHeartbeats 4000000 in
set_option maxRecDepth 100000 in
theorem sp_X8_feeds (l : Launch) (ext : z_Sh) (h : z_H)   : z_Sp l 0 yX8_feeds cX8_feeds 1 (some .int) [.ref 20] (z_m ext) h (fun rv h' => rv = some (.int (h.1 20 8)) ∧ h' = z_set h 20 0 (nI 0)) := by
  refine z_enter ft_X8 (by decide +kernel) fo_X8 (Nat.le_of_ble_eq_true rfl) ?_
  intro p e R s m args below meth c D dA ad hB
  have hC := hB.1
  have hN := hB.2.1
  have hR := hB.2.2.1
  refine z_go hC (pc' := 9) (ls' := [some (.ref 20)]) (st' := [.int (h.1 20 8)]) (h' := z_set h 20 0 (nI 0)) (cs := []) [.aload_n 0, .iconst 0, .putfield 56, .aload_n 0, .getfield 95] (by decide +kernel) rfl rfl trivial ?_
  exact z_ret_i hB rfl (by decide +kernel) ⟨rfl, rfl⟩

def fn_X8_isInOrder  (h : z_H) : z_R := (some (.int (z_vi0 (fn_X8_isOrdered  (z_set h 20 0 (nI 0))))), z_set h 20 0 (nI 0))
def tk_X8_isInOrder  (h : z_H) : Prop := tk_X8_isOrdered  (z_set h 20 0 (nI 0))
set_option maxHeartbeats 4000000 in
set_option maxRecDepth 100000 in
theorem sp_X8_isInOrder (l : Launch) (ext : z_Sh)  (h : z_H)   (T : tk_X8_isInOrder  h) : z_Sp l 3 yX8_isInOrder cX8_isInOrder 1 (some .boolean) [.ref 20] (z_m ext) h (z_PB (fn_X8_isInOrder  h)) := by
  refine z_enter ft_X8 (by decide +kernel) fo_X8 (Nat.le_of_ble_eq_true rfl) ?_
  intro p e R s m args below meth c D dA ad hB
  have hC := hB.1
  have hN := hB.2.1
  have hR := hB.2.2.1
  unfold tk_X8_isInOrder at T; have E : ((some (.int (z_vi0 (fn_X8_isOrdered  (z_set h 20 0 (nI 0))))), z_set h 20 0 (nI 0))) = fn_X8_isInOrder  h := rfl
  generalize fn_X8_isInOrder  h = RR at E ⊢
  refine z_go hC (pc' := 6) (ls' := [some (.ref 20)]) (st' := [.ref 20]) (h' := z_set h 20 0 (nI 0)) (cs := []) [.aload_n 0, .iconst 0, .putfield 56, .aload_n 0] (by decide +kernel) rfl rfl trivial ?_
  have t4 := T
  refine z_callV hC hN hR (as := []) (rest := []) ok_X8_144 (by decide +kernel) (sp_X8_isOrdered l _ (z_set h 20 0 (nI 0))  t4) rfl rfl (Nat.le_of_ble_eq_true rfl) rfl rfl (Nat.le_of_ble_eq_true rfl) ⟨Nat.zero_le _, Nat.zero_le _⟩ (fun r1 h2 q3 => z_funb q3 (fun z5 => ?_))
  exact z_ret_z hB rfl z5 (by decide +kernel) (z_lfb z5 E)

def fn_X8_isSafe_24  (a1 : Int32) (s0 : Int32) (h : z_H) : z_R := if (fv_X8_goesWell h s0) = 0 then (some (.int (nI 0)), fh_X8_goesWell h s0) else if (z_vi0 (fn_X8_isSafeStep a1 (fh_X8_goesWell h s0))) = 0 then (some (.int (nI 0)), fh_X8_goesWell h s0) else (some (.int (nI 1)), fh_X8_goesWell h s0)
def tk_X8_isSafe_24  (a1 : Int32) (s0 : Int32) (h : z_H) : Prop := (((fv_X8_goesWell h s0) = 0) → (True)) ∧ ((¬ (fv_X8_goesWell h s0) = 0) → (tk_X8_isSafeStep a1 (fh_X8_goesWell h s0)))
def fn_X8_isSafe (x : Int32) (h : z_H) : z_R := if (fv_X8_isDirection x) = 0 then fn_X8_isSafe_24 x (nI 1) h else if (fv_X8_lives h ) = 0 then fn_X8_isSafe_24 x (nI 2) h else fn_X8_isSafe_24 x (nI 0) h
def tk_X8_isSafe (x : Int32) (h : z_H) : Prop := (((fv_X8_isDirection x) = 0) → (tk_X8_isSafe_24 x (nI 1) h)) ∧ ((¬ (fv_X8_isDirection x) = 0) → ((((fv_X8_lives h ) = 0) → (tk_X8_isSafe_24 x (nI 2) h)) ∧ ((¬ (fv_X8_lives h ) = 0) → (tk_X8_isSafe_24 x (nI 0) h))))
set_option maxHeartbeats 4000000 in
set_option maxRecDepth 100000 in
theorem sp_X8_isSafe (l : Launch) (ext : z_Sh)  (h : z_H) (x : Int32)  (T : tk_X8_isSafe x h) : z_Sp l 6 yX8_isSafe cX8_isSafe 2 (some .boolean) [.ref 20, .int x] (z_m ext) h (z_PB (fn_X8_isSafe x h)) := by
  refine z_enter ft_X8 (by decide +kernel) fo_X8 (Nat.le_of_ble_eq_true rfl) ?_
  intro p e R s m args below meth c D dA ad hB
  have hC := hB.1
  have hN := hB.2.1
  have hR := hB.2.2.1
  unfold tk_X8_isSafe at T; have E : (if (fv_X8_isDirection x) = 0 then fn_X8_isSafe_24 x (nI 1) h else if (fv_X8_lives h ) = 0 then fn_X8_isSafe_24 x (nI 2) h else fn_X8_isSafe_24 x (nI 0) h) = fn_X8_isSafe x h := rfl
  generalize fn_X8_isSafe x h = RR at E ⊢
  have P24 : ∀ (a1 : Int32) (s0 : Int32) (h : z_H), tk_X8_isSafe_24  a1 s0 h → fn_X8_isSafe_24  a1 s0 h = RR → z_G p l e R s m args below meth c D dA ad 2 (z_PB RR) (z_m ext) 24 [some (.ref 20), some (.int a1)] [.int s0, .ref 20] h := by
    intro  a1 s0 h T E
    unfold tk_X8_isSafe_24 at T; unfold fn_X8_isSafe_24 at E
    refine z_callV hC hN hR (as := [.int s0]) (rest := []) ok_X8_98 (by decide +kernel) (sp_X8_goesWell l _ h s0) rfl rfl (Nat.le_of_ble_eq_true rfl) rfl rfl (Nat.le_of_ble_eq_true rfl) ⟨Nat.zero_le _, Nat.zero_le _⟩ (fun r1 h2 q3 => z_fun q3 ?_)
    refine z_if_eq hC (off := 15) 42 (by decide +kernel) (by decide) (fun c4 => ?_) (fun c4 => ?_)
    · skip
      have E := (if_pos c4).symm.trans E
      have T := T.1 c4
      refine z_go hC (pc' := 43) (ls' := [some (.ref 20), some (.int a1)]) (st' := [.int (nI 0)]) (h' := fh_X8_goesWell h s0) (cs := []) [.iconst 0] (by decide +kernel) rfl rfl trivial ?_
      exact z_ret_z hB rfl (show (nI 0 = 0 ∨ nI 0 = 1) by decide) (by decide +kernel) (z_lfb (show (nI 0 = 0 ∨ nI 0 = 1) by decide) E)
    · skip
      have E := (if_neg c4).symm.trans E
      have T := T.2 c4
      refine z_go hC (pc' := 32) (ls' := [some (.ref 20), some (.int a1)]) (st' := [.int a1, .ref 20]) (h' := fh_X8_goesWell h s0) (cs := []) [.aload_n 0, .iload_n 1] (by decide +kernel) rfl rfl trivial ?_
      have t8 := T
      refine z_callV hC hN hR (as := [.int a1]) (rest := []) ok_X8_150 (by decide +kernel) (sp_X8_isSafeStep l _ (fh_X8_goesWell h s0) a1 t8) rfl rfl (Nat.le_of_ble_eq_true rfl) rfl rfl (Nat.le_of_ble_eq_true rfl) ⟨Nat.zero_le _, Nat.zero_le _⟩ (fun r5 h6 q7 => z_funb q7 (fun z9 => ?_))
      refine z_if_eq hC (off := 7) 42 (by decide +kernel) (by decide) (fun c10 => ?_) (fun c10 => ?_)
      · skip
        have E := (if_pos c10).symm.trans E
        refine z_go hC (pc' := 43) (ls' := [some (.ref 20), some (.int a1)]) (st' := [.int (nI 0)]) (h' := fh_X8_goesWell h s0) (cs := []) [.iconst 0] (by decide +kernel) rfl rfl trivial ?_
        exact z_ret_z hB rfl (show (nI 0 = 0 ∨ nI 0 = 1) by decide) (by decide +kernel) (z_lfb (show (nI 0 = 0 ∨ nI 0 = 1) by decide) E)
      · skip
        have E := (if_neg c10).symm.trans E
        refine z_go hC (pc' := 39) (ls' := [some (.ref 20), some (.int a1)]) (st' := [.int (nI 1)]) (h' := fh_X8_goesWell h s0) (cs := []) [.iconst 1] (by decide +kernel) rfl rfl trivial ?_
        refine z_goto hC (off := 4) 43 (by decide +kernel) (by decide) ?_
        exact z_ret_z hB rfl (show (nI 1 = 0 ∨ nI 1 = 1) by decide) (by decide +kernel) (z_lfb (show (nI 1 = 0 ∨ nI 1 = 1) by decide) E)
  refine z_go hC (pc' := 2) (ls' := [some (.ref 20), some (.int x)]) (st' := [.int x, .ref 20]) (h' := h) (cs := []) [.aload_n 0, .iload_n 1] (by decide +kernel) rfl rfl trivial ?_
  refine z_callS hC hN hR (as := [.int x]) (rest := [.ref 20]) ok_X8_123 (by decide +kernel) (sp_X8_isDirection l _ h x) (Nat.le_of_ble_eq_true rfl) rfl rfl (Nat.le_of_ble_eq_true rfl) ⟨Nat.zero_le _, Nat.zero_le _⟩ (fun r11 h12 q13 => z_fun q13 ?_)
  refine z_if_ne hC (off := 7) 12 (by decide +kernel) (by decide) (fun c14 => ?_) (fun c14 => ?_)
  · skip
    have E := (if_neg c14).symm.trans E
    have T := T.2 c14
    refine z_go hC (pc' := 13) (ls' := [some (.ref 20), some (.int x)]) (st' := [.ref 20, .ref 20]) (h' := h) (cs := []) [.aload_n 0] (by decide +kernel) rfl rfl trivial ?_
    refine z_callV hC hN hR (as := []) (rest := [.ref 20]) ok_X8_126 (by decide +kernel) (sp_X8_lives l _ h ) rfl rfl (Nat.le_of_ble_eq_true rfl) rfl rfl (Nat.le_of_ble_eq_true rfl) ⟨Nat.zero_le _, Nat.zero_le _⟩ (fun r15 h16 q17 => z_fun q17 ?_)
    refine z_if_eq hC (off := 7) 23 (by decide +kernel) (by decide) (fun c18 => ?_) (fun c18 => ?_)
    · skip
      have E := (if_pos c18).symm.trans E
      have T := T.1 c18
      refine z_go hC (pc' := 24) (ls' := [some (.ref 20), some (.int x)]) (st' := [.int (nI 2), .ref 20]) (h' := h) (cs := []) [.iconst 2] (by decide +kernel) rfl rfl trivial ?_
      exact P24  x (nI 2) h T E
    · skip
      have E := (if_neg c18).symm.trans E
      have T := T.2 c18
      refine z_go hC (pc' := 20) (ls' := [some (.ref 20), some (.int x)]) (st' := [.int (nI 0), .ref 20]) (h' := h) (cs := []) [.iconst 0] (by decide +kernel) rfl rfl trivial ?_
      refine z_goto hC (off := 4) 24 (by decide +kernel) (by decide) ?_
      exact P24  x (nI 0) h T E
  · skip
    have E := (if_pos c14).symm.trans E
    have T := T.1 c14
    refine z_go hC (pc' := 9) (ls' := [some (.ref 20), some (.int x)]) (st' := [.int (nI 1), .ref 20]) (h' := h) (cs := []) [.iconst 1] (by decide +kernel) rfl rfl trivial ?_
    refine z_goto hC (off := 15) 24 (by decide +kernel) (by decide) ?_
    exact P24  x (nI 1) h T E

def fn_X8_isFromHead_31 (h : z_H) (k4 : Int32 → Int32 → Int32 → (Option Value)) (a1 : Int32) (a3 : Int32) (s0 : Int32) : (Option Value) := k4 a1 s0 (a3 + (nI 1))
def tk_X8_isFromHead_31 (h : z_H) (K4 : Int32 → Int32 → Int32 → Prop) (a1 : Int32) (a3 : Int32) (s0 : Int32) : Prop := K4 a1 s0 (a3 + (nI 1))
def fn_X8_isFromHead_26 (h : z_H) (k4 : Int32 → Int32 → Int32 → (Option Value)) (a1 : Int32) (a3 : Int32) : (Option Value) := fn_X8_isFromHead_31 h k4 a1 a3 (nI 1)
def tk_X8_isFromHead_26 (h : z_H) (K4 : Int32 → Int32 → Int32 → Prop) (a1 : Int32) (a3 : Int32) : Prop := tk_X8_isFromHead_31 h K4 a1 a3 (nI 1)
def fn_X8_isFromHead_4 (h : z_H)  : Nat → Int32 → Int32 → Int32 → (Option Value)
  | 0, _, _, _ => none
  | n + 1, a1, a2, a3 => let k4 := fun (a1_ : Int32) (a2_ : Int32) (a3_ : Int32) => fn_X8_isFromHead_4 h  n a1_ a2_ a3_; if (h.1 20 12) ≤ a3 then if a1 = (h.1 28 ((nI 0).toNatClampNeg)) then some (.int (nI 1)) else if (h.1 34 a1.toNatClampNeg) = 0 then some (.int (nI 0)) else if a2 = 0 then some (.int (nI 1)) else some (.int (nI 0)) else if a2 = 0 then if (h.1 28 a3.toNatClampNeg) = a1 then fn_X8_isFromHead_26 h k4 a1 a3 else fn_X8_isFromHead_31 h k4 a1 a3 (nI 0) else fn_X8_isFromHead_26 h k4 a1 a3
def tk_X8_isFromHead_4 (h : z_H)  : Nat → Int32 → Int32 → Int32 → Prop
  | 0, _, _, _ => False
  | n + 1, a1, a2, a3 => let K4 := fun (a1_ : Int32) (a2_ : Int32) (a3_ : Int32) => tk_X8_isFromHead_4 h  n a1_ a2_ a3_; (((h.1 20 12) ≤ a3) → (((a1 = (h.1 28 ((nI 0).toNatClampNeg))) → (True)) ∧ ((¬ a1 = (h.1 28 ((nI 0).toNatClampNeg))) → (vp_in a1 36)))) ∧ ((¬ (h.1 20 12) ≤ a3) → (((a2 = 0) → (vp_in a3 37 ∧ ((((h.1 28 a3.toNatClampNeg) = a1) → (tk_X8_isFromHead_26 h K4 a1 a3)) ∧ ((¬ (h.1 28 a3.toNatClampNeg) = a1) → (tk_X8_isFromHead_31 h K4 a1 a3 (nI 0)))))) ∧ ((¬ a2 = 0) → (tk_X8_isFromHead_26 h K4 a1 a3))))
def fn_X8_isFromHead (x : Int32) (h : z_H) : (Option Value) := fn_X8_isFromHead_4 h 2000 x (nI 0) (nI 1)
def tk_X8_isFromHead (x : Int32) (h : z_H) : Prop := tk_X8_isFromHead_4 h 2000 x (nI 0) (nI 1)
set_option maxHeartbeats 4000000 in
set_option maxRecDepth 100000 in
theorem sp_X8_isFromHead (l : Launch) (ext : z_Sh)  (h : z_H) (x : Int32)  (T : tk_X8_isFromHead x h) : z_Sp l 0 yX8_isFromHead cX8_isFromHead 4 (some .boolean) [.ref 20, .int x] (z_m ext) h (z_QB h (fn_X8_isFromHead x h)) := by
  refine z_enter ft_X8 (by decide +kernel) fo_X8 (Nat.le_of_ble_eq_true rfl) ?_
  intro p e R s m args below meth c D dA ad hB
  have hC := hB.1
  have hN := hB.2.1
  have hR := hB.2.2.1
  unfold tk_X8_isFromHead at T; have E : (fn_X8_isFromHead_4 h 2000 x (nI 0) (nI 1)) = fn_X8_isFromHead x h := rfl
  generalize fn_X8_isFromHead x h = RR at E ⊢
  have P31 : ∀ (k4 : Int32 → Int32 → Int32 → (Option Value)) (K4 : Int32 → Int32 → Int32 → Prop) (hk4 : ∀ (a1 : Int32) (a2 : Int32) (a3 : Int32), K4 a1 a2 a3 → k4 a1 a2 a3 = RR → z_G p l e R s m args below meth c D dA ad 4 (z_QB h RR) (z_m ext) 4 [some (.ref 20), some (.int a1), some (.int a2), some (.int a3)] [] h), ∀ (a1 : Int32) (a3 : Int32) (s0 : Int32), tk_X8_isFromHead_31 h K4 a1 a3 s0 → fn_X8_isFromHead_31 h k4 a1 a3 s0 = RR → z_G p l e R s m args below meth c D dA ad 4 (z_QB h RR) (z_m ext) 31 [some (.ref 20), some (.int a1), none, some (.int a3)] [.int s0] h := by
    intro k4 K4 hk4 a1 a3 s0 T E
    unfold tk_X8_isFromHead_31 at T; unfold fn_X8_isFromHead_31 at E
    refine z_go hC (pc' := 35) (ls' := [some (.ref 20), some (.int a1), some (.int s0), some (.int (a3 + (nI 1)))]) (st' := []) (h' := h) (cs := []) [.istore_n 2, .iinc 3 1] (by decide +kernel) rfl rfl trivial ?_
    refine z_goto hC (off := -31) 4 (by decide +kernel) (by decide) ?_
    exact hk4 a1 s0 (a3 + (nI 1)) T E
  have P26 : ∀ (k4 : Int32 → Int32 → Int32 → (Option Value)) (K4 : Int32 → Int32 → Int32 → Prop) (hk4 : ∀ (a1 : Int32) (a2 : Int32) (a3 : Int32), K4 a1 a2 a3 → k4 a1 a2 a3 = RR → z_G p l e R s m args below meth c D dA ad 4 (z_QB h RR) (z_m ext) 4 [some (.ref 20), some (.int a1), some (.int a2), some (.int a3)] [] h), ∀ (a1 : Int32) (a3 : Int32), tk_X8_isFromHead_26 h K4 a1 a3 → fn_X8_isFromHead_26 h k4 a1 a3 = RR → z_G p l e R s m args below meth c D dA ad 4 (z_QB h RR) (z_m ext) 26 [some (.ref 20), some (.int a1), none, some (.int a3)] [] h := by
    intro k4 K4 hk4 a1 a3 T E
    unfold tk_X8_isFromHead_26 at T; unfold fn_X8_isFromHead_26 at E
    refine z_go hC (pc' := 27) (ls' := [some (.ref 20), some (.int a1), none, some (.int a3)]) (st' := [.int (nI 1)]) (h' := h) (cs := []) [.iconst 1] (by decide +kernel) rfl rfl trivial ?_
    refine z_goto hC (off := 4) 31 (by decide +kernel) (by decide) ?_
    exact P31 _ _ hk4 a1 a3 (nI 1) T E
  have P4 : ∀ (n : Nat), ∀ (a1 : Int32) (a2 : Int32) (a3 : Int32), tk_X8_isFromHead_4 h  n a1 a2 a3 → fn_X8_isFromHead_4 h  n a1 a2 a3 = RR → z_G p l e R s m args below meth c D dA ad 4 (z_QB h RR) (z_m ext) 4 [some (.ref 20), some (.int a1), some (.int a2), some (.int a3)] [] h := by
    intro  n
    induction n with
    | zero => intro a1 a2 a3 T E; exact False.elim T
    | succ n ih =>
      intro a1 a2 a3 T E
      unfold tk_X8_isFromHead_4 at T; unfold fn_X8_isFromHead_4 at E; dsimp only at T E
      have hk4 := ih
      refine z_go hC (pc' := 9) (ls' := [some (.ref 20), some (.int a1), some (.int a2), some (.int a3)]) (st' := [.int (h.1 20 12), .int a3]) (h' := h) (cs := []) [.iload_n 3, .aload_n 0, .getfield 111] (by decide +kernel) rfl rfl trivial ?_
      refine z_icmp_ge hC (off := 29) 38 (by decide +kernel) (by decide) (fun c1 => ?_) (fun c1 => ?_)
      · skip
        have E := (if_pos c1).symm.trans E
        have T := T.1 c1
        refine z_go hC (pc' := 45) (ls' := [some (.ref 20), some (.int a1), some (.int a2), some (.int a3)]) (st' := [.int (h.1 28 ((nI 0).toNatClampNeg)), .int a1]) (h' := h) (cs := [vp_in (nI 0) 37]) [.iload_n 1, .aload_n 0, .getfield 32, .iconst 0, .iaload] (by decide +kernel) rfl rfl (vp_in_nI (n := 0) (N := 37) (by decide) (by decide)) ?_
        refine z_icmp_eq hC (off := 16) 61 (by decide +kernel) (by decide) (fun c2 => ?_) (fun c2 => ?_)
        · skip
          have E := (if_pos c2).symm.trans E
          have T := T.1 c2
          refine z_go hC (pc' := 62) (ls' := [some (.ref 20), some (.int a1), some (.int a2), some (.int a3)]) (st' := [.int (nI 1)]) (h' := h) (cs := []) [.iconst 1] (by decide +kernel) rfl rfl trivial ?_
          refine z_goto hC (off := 4) 66 (by decide +kernel) (by decide) ?_
          exact z_ret_z hB rfl (show (nI 1 = 0 ∨ nI 1 = 1) by decide) (by decide +kernel) (z_lfb0 (show (nI 1 = 0 ∨ nI 1 = 1) by decide) E)
        · skip
          have E := (if_neg c2).symm.trans E
          have T := T.2 c2
          have t3 := T
          refine z_go hC (pc' := 54) (ls' := [some (.ref 20), some (.int a1), some (.int a2), some (.int a3)]) (st' := [.int (h.1 34 a1.toNatClampNeg)]) (h' := h) (cs := [vp_in a1 36]) [.aload_n 0, .getfield 50, .iload_n 1, .baload] (by decide +kernel) rfl rfl t3 ?_
          refine z_if_eq hC (off := 11) 65 (by decide +kernel) (by decide) (fun c4 => ?_) (fun c4 => ?_)
          · skip
            have E := (if_pos c4).symm.trans E
            refine z_go hC (pc' := 66) (ls' := [some (.ref 20), some (.int a1), some (.int a2), some (.int a3)]) (st' := [.int (nI 0)]) (h' := h) (cs := []) [.iconst 0] (by decide +kernel) rfl rfl trivial ?_
            exact z_ret_z hB rfl (show (nI 0 = 0 ∨ nI 0 = 1) by decide) (by decide +kernel) (z_lfb0 (show (nI 0 = 0 ∨ nI 0 = 1) by decide) E)
          · skip
            have E := (if_neg c4).symm.trans E
            refine z_go hC (pc' := 58) (ls' := [some (.ref 20), some (.int a1), some (.int a2), some (.int a3)]) (st' := [.int a2]) (h' := h) (cs := []) [.iload_n 2] (by decide +kernel) rfl rfl trivial ?_
            refine z_if_ne hC (off := 7) 65 (by decide +kernel) (by decide) (fun c5 => ?_) (fun c5 => ?_)
            · skip
              have E := (if_neg c5).symm.trans E
              refine z_go hC (pc' := 66) (ls' := [some (.ref 20), some (.int a1), some (.int a2), some (.int a3)]) (st' := [.int (nI 0)]) (h' := h) (cs := []) [.iconst 0] (by decide +kernel) rfl rfl trivial ?_
              exact z_ret_z hB rfl (show (nI 0 = 0 ∨ nI 0 = 1) by decide) (by decide +kernel) (z_lfb0 (show (nI 0 = 0 ∨ nI 0 = 1) by decide) E)
            · skip
              have E := (if_pos c5).symm.trans E
              refine z_go hC (pc' := 62) (ls' := [some (.ref 20), some (.int a1), some (.int a2), some (.int a3)]) (st' := [.int (nI 1)]) (h' := h) (cs := []) [.iconst 1] (by decide +kernel) rfl rfl trivial ?_
              refine z_goto hC (off := 4) 66 (by decide +kernel) (by decide) ?_
              exact z_ret_z hB rfl (show (nI 1 = 0 ∨ nI 1 = 1) by decide) (by decide +kernel) (z_lfb0 (show (nI 1 = 0 ∨ nI 1 = 1) by decide) E)
      · skip
        have E := (if_neg c1).symm.trans E
        have T := T.2 c1
        refine z_go hC (pc' := 13) (ls' := [some (.ref 20), some (.int a1), some (.int a2), some (.int a3)]) (st' := [.int a2]) (h' := h) (cs := []) [.iload_n 2] (by decide +kernel) rfl rfl trivial ?_
        refine z_if_ne hC (off := 13) 26 (by decide +kernel) (by decide) (fun c6 => ?_) (fun c6 => ?_)
        · skip
          have E := (if_neg c6).symm.trans E
          have T := T.2 c6
          refine z_less (ls' := [some (.ref 20), some (.int a1), none, some (.int a3)]) (by simp [z_sub]) ?_
          exact P26 _ _ hk4 a1 a3 T E
        · skip
          have E := (if_pos c6).symm.trans E
          have T := T.1 c6
          obtain ⟨t7, T⟩ := T
          refine z_go hC (pc' := 23) (ls' := [some (.ref 20), some (.int a1), some (.int a2), some (.int a3)]) (st' := [.int a1, .int (h.1 28 a3.toNatClampNeg)]) (h' := h) (cs := [vp_in a3 37]) [.aload_n 0, .getfield 32, .iload_n 3, .iaload, .iload_n 1] (by decide +kernel) rfl rfl t7 ?_
          refine z_icmp_ne hC (off := 7) 30 (by decide +kernel) (by decide) (fun c8 => ?_) (fun c8 => ?_)
          · skip
            have E := (if_neg c8).symm.trans E
            have T := T.2 c8
            refine z_go hC (pc' := 31) (ls' := [some (.ref 20), some (.int a1), some (.int a2), some (.int a3)]) (st' := [.int (nI 0)]) (h' := h) (cs := []) [.iconst 0] (by decide +kernel) rfl rfl trivial ?_
            refine z_less (ls' := [some (.ref 20), some (.int a1), none, some (.int a3)]) (by simp [z_sub]) ?_
            exact P31 _ _ hk4 a1 a3 (nI 0) T E
          · skip
            have E := (if_pos c8).symm.trans E
            have T := T.1 c8
            refine z_less (ls' := [some (.ref 20), some (.int a1), none, some (.int a3)]) (by simp [z_sub]) ?_
            exact P26 _ _ hk4 a1 a3 T E
  refine z_go hC (pc' := 4) (ls' := [some (.ref 20), some (.int x), some (.int (nI 0)), some (.int (nI 1))]) (st' := []) (h' := h) (cs := []) [.iconst 0, .istore_n 2, .iconst 1, .istore_n 3] (by decide +kernel) rfl rfl trivial ?_
  exact P4 2000 x (nI 0) (nI 1) T E

def fn_X8_reach_57 (k30 : Int32 → Int32 → z_H → z_R) (a1 : Int32) (a2 : Int32) (s0 : Int32) (s1 : Int32) (h : z_H) : z_R := k30 a1 (a2 + (nI 1)) (z_set h 34 s1.toNatClampNeg s0)
def tk_X8_reach_57 (K30 : Int32 → Int32 → z_H → Prop) (a1 : Int32) (a2 : Int32) (s0 : Int32) (s1 : Int32) (h : z_H) : Prop := vp_in s1 36 ∧ (s0 = 0 ∨ s0 = 1) ∧ (K30 a1 (a2 + (nI 1)) (z_set h 34 s1.toNatClampNeg s0))
def fn_X8_reach_148 (k66 : Int32 → Int32 → z_H → z_R) (k81 : Int32 → Int32 → Int32 → z_H → z_R) (a1 : Int32) (a2 : Int32) (a3 : Int32) (h : z_H) : z_R := k81 a1 a2 (a3 + (nI 1)) h
def tk_X8_reach_148 (K66 : Int32 → Int32 → z_H → Prop) (K81 : Int32 → Int32 → Int32 → z_H → Prop) (a1 : Int32) (a2 : Int32) (a3 : Int32) (h : z_H) : Prop := K81 a1 a2 (a3 + (nI 1)) h
def fn_X8_reach_81 (k66 : Int32 → Int32 → z_H → z_R) : Nat → Int32 → Int32 → Int32 → z_H → z_R
  | 0, _, _, _, h => (none, h)
  | n + 1, a1, a2, a3, h => let k81 := fun (a1_ : Int32) (a2_ : Int32) (a3_ : Int32) (h_ : z_H) => fn_X8_reach_81 k66 n a1_ a2_ a3_ h_; if (nI 144) ≤ a3 then k66 a1 (a2 + (nI 1)) h else if (z_vi0 (fn_X8_beside (a3 / (nI 4)) (a3 - a3 / (nI 4) * (nI 4)) h)) = (-1) then fn_X8_reach_148 k66 k81 a1 a2 a3 h else if (h.1 34 ((z_vi0 (fn_X8_beside (a3 / (nI 4)) (a3 - a3 / (nI 4) * (nI 4)) h)).toNatClampNeg)) = 0 then if (z_vi0 (fn_X8_beside (a3 / (nI 4)) (a3 - a3 / (nI 4) * (nI 4)) h)) = (h.1 28 ((nI 0).toNatClampNeg)) then fn_X8_reach_148 k66 k81 a1 a2 a3 h else if (z_vi0 (fn_X8_isFromHead (a3 / (nI 4)) h)) = 0 then fn_X8_reach_148 k66 k81 a1 a2 a3 h else fn_X8_reach_148 k66 k81 (a1 + (nI 1)) a2 a3 (z_set h 34 ((z_vi0 (fn_X8_beside (a3 / (nI 4)) (a3 - a3 / (nI 4) * (nI 4)) h)).toNatClampNeg) (nI 1)) else fn_X8_reach_148 k66 k81 a1 a2 a3 h
def tk_X8_reach_81 (K66 : Int32 → Int32 → z_H → Prop) : Nat → Int32 → Int32 → Int32 → z_H → Prop
  | 0, _, _, _, _ => False
  | n + 1, a1, a2, a3, h => let K81 := fun (a1_ : Int32) (a2_ : Int32) (a3_ : Int32) (h_ : z_H) => tk_X8_reach_81 K66 n a1_ a2_ a3_ h_; (((nI 144) ≤ a3) → (K66 a1 (a2 + (nI 1)) h)) ∧ ((¬ (nI 144) ≤ a3) → (tk_X8_beside (a3 / (nI 4)) (a3 - a3 / (nI 4) * (nI 4)) h ∧ ((((z_vi0 (fn_X8_beside (a3 / (nI 4)) (a3 - a3 / (nI 4) * (nI 4)) h)) = (-1)) → (tk_X8_reach_148 K66 K81 a1 a2 a3 h)) ∧ ((¬ (z_vi0 (fn_X8_beside (a3 / (nI 4)) (a3 - a3 / (nI 4) * (nI 4)) h)) = (-1)) → (vp_in (z_vi0 (fn_X8_beside (a3 / (nI 4)) (a3 - a3 / (nI 4) * (nI 4)) h)) 36 ∧ ((((h.1 34 ((z_vi0 (fn_X8_beside (a3 / (nI 4)) (a3 - a3 / (nI 4) * (nI 4)) h)).toNatClampNeg)) = 0) → ((((z_vi0 (fn_X8_beside (a3 / (nI 4)) (a3 - a3 / (nI 4) * (nI 4)) h)) = (h.1 28 ((nI 0).toNatClampNeg))) → (tk_X8_reach_148 K66 K81 a1 a2 a3 h)) ∧ ((¬ (z_vi0 (fn_X8_beside (a3 / (nI 4)) (a3 - a3 / (nI 4) * (nI 4)) h)) = (h.1 28 ((nI 0).toNatClampNeg))) → (tk_X8_isFromHead (a3 / (nI 4)) h ∧ ((((z_vi0 (fn_X8_isFromHead (a3 / (nI 4)) h)) = 0) → (tk_X8_reach_148 K66 K81 a1 a2 a3 h)) ∧ ((¬ (z_vi0 (fn_X8_isFromHead (a3 / (nI 4)) h)) = 0) → (vp_in (z_vi0 (fn_X8_beside (a3 / (nI 4)) (a3 - a3 / (nI 4) * (nI 4)) h)) 36 ∧ (tk_X8_reach_148 K66 K81 (a1 + (nI 1)) a2 a3 (z_set h 34 ((z_vi0 (fn_X8_beside (a3 / (nI 4)) (a3 - a3 / (nI 4) * (nI 4)) h)).toNatClampNeg) (nI 1)))))))))) ∧ ((¬ (h.1 34 ((z_vi0 (fn_X8_beside (a3 / (nI 4)) (a3 - a3 / (nI 4) * (nI 4)) h)).toNatClampNeg)) = 0) → (tk_X8_reach_148 K66 K81 a1 a2 a3 h))))))))
def fn_X8_reach_66  : Nat → Int32 → Int32 → z_H → z_R
  | 0, _, _, h => (none, h)
  | n + 1, a1, a2, h => let k66 := fun (a1_ : Int32) (a2_ : Int32) (h_ : z_H) => fn_X8_reach_66  n a1_ a2_ h_; if (nI 36) ≤ a2 then (some (.int a1), h) else if (h.1 20 10) = 0 then (some (.int a1), h) else fn_X8_reach_81 k66 2000 a1 a2 (nI 0) h
def tk_X8_reach_66  : Nat → Int32 → Int32 → z_H → Prop
  | 0, _, _, _ => False
  | n + 1, a1, a2, h => let K66 := fun (a1_ : Int32) (a2_ : Int32) (h_ : z_H) => tk_X8_reach_66  n a1_ a2_ h_; (((nI 36) ≤ a2) → (True)) ∧ ((¬ (nI 36) ≤ a2) → ((((h.1 20 10) = 0) → (True)) ∧ ((¬ (h.1 20 10) = 0) → (tk_X8_reach_81 K66 2000 a1 a2 (nI 0) h))))
def fn_X8_reach_30  : Nat → Int32 → Int32 → z_H → z_R
  | 0, _, _, h => (none, h)
  | n + 1, a1, a2, h => let k30 := fun (a1_ : Int32) (a2_ : Int32) (h_ : z_H) => fn_X8_reach_30  n a1_ a2_ h_; if (h.1 20 12) ≤ a2 then fn_X8_reach_66 2000 a1 (nI 0) h else if a2 ≤ 0 then fn_X8_reach_57 k30 a1 a2 (nI 0) (h.1 28 a2.toNatClampNeg) h else fn_X8_reach_57 k30 a1 a2 (nI 1) (h.1 28 a2.toNatClampNeg) h
def tk_X8_reach_30  : Nat → Int32 → Int32 → z_H → Prop
  | 0, _, _, _ => False
  | n + 1, a1, a2, h => let K30 := fun (a1_ : Int32) (a2_ : Int32) (h_ : z_H) => tk_X8_reach_30  n a1_ a2_ h_; (((h.1 20 12) ≤ a2) → (tk_X8_reach_66 2000 a1 (nI 0) h)) ∧ ((¬ (h.1 20 12) ≤ a2) → (vp_in a2 37 ∧ (((a2 ≤ 0) → (tk_X8_reach_57 K30 a1 a2 (nI 0) (h.1 28 a2.toNatClampNeg) h)) ∧ ((¬ a2 ≤ 0) → (tk_X8_reach_57 K30 a1 a2 (nI 1) (h.1 28 a2.toNatClampNeg) h)))))
def fn_X8_reach_9  : Nat → Int32 → Int32 → z_H → z_R
  | 0, _, _, h => (none, h)
  | n + 1, a1, a2, h => let k9 := fun (a1_ : Int32) (a2_ : Int32) (h_ : z_H) => fn_X8_reach_9  n a1_ a2_ h_; if (nI 36) ≤ a2 then fn_X8_reach_30 2000 a1 (nI 0) h else k9 a1 (a2 + (nI 1)) (z_set h 34 a2.toNatClampNeg (nI 0))
def tk_X8_reach_9  : Nat → Int32 → Int32 → z_H → Prop
  | 0, _, _, _ => False
  | n + 1, a1, a2, h => let K9 := fun (a1_ : Int32) (a2_ : Int32) (h_ : z_H) => tk_X8_reach_9  n a1_ a2_ h_; (((nI 36) ≤ a2) → (tk_X8_reach_30 2000 a1 (nI 0) h)) ∧ ((¬ (nI 36) ≤ a2) → (vp_in a2 36 ∧ (K9 a1 (a2 + (nI 1)) (z_set h 34 a2.toNatClampNeg (nI 0)))))
def fn_X8_reach  (h : z_H) : z_R := fn_X8_reach_9 2000 (nI 0) (nI 0) (z_set h 20 0 (nI 0))
def tk_X8_reach  (h : z_H) : Prop := tk_X8_reach_9 2000 (nI 0) (nI 0) (z_set h 20 0 (nI 0))
set_option maxHeartbeats 4000000 in
set_option maxRecDepth 100000 in
theorem sp_X8_reach (l : Launch) (ext : z_Sh)  (h : z_H)   (T : tk_X8_reach  h) : z_Sp l 4 yX8_reach cX8_reach 5 (some .int) [.ref 20] (z_m ext) h (z_PI (fn_X8_reach  h)) := by
  refine z_enter ft_X8 (by decide +kernel) fo_X8 (Nat.le_of_ble_eq_true rfl) ?_
  intro p e R s m args below meth c D dA ad hB
  have hC := hB.1
  have hN := hB.2.1
  have hR := hB.2.2.1
  unfold tk_X8_reach at T; have E : (fn_X8_reach_9 2000 (nI 0) (nI 0) (z_set h 20 0 (nI 0))) = fn_X8_reach  h := rfl
  generalize fn_X8_reach  h = RR at E ⊢
  have P57 : ∀ (k30 : Int32 → Int32 → z_H → z_R) (K30 : Int32 → Int32 → z_H → Prop) (hk30 : ∀ (a1 : Int32) (a2 : Int32) (h : z_H), K30 a1 a2 h → k30 a1 a2 h = RR → z_G p l e R s m args below meth c D dA ad 5 (z_PI RR) (z_m ext) 30 [some (.ref 20), some (.int a1), some (.int a2), none, none] [] h), ∀ (a1 : Int32) (a2 : Int32) (s0 : Int32) (s1 : Int32) (h : z_H), tk_X8_reach_57 K30 a1 a2 s0 s1 h → fn_X8_reach_57 k30 a1 a2 s0 s1 h = RR → z_G p l e R s m args below meth c D dA ad 5 (z_PI RR) (z_m ext) 57 [some (.ref 20), some (.int a1), some (.int a2), none, none] [.int s0, .int s1, .ref 34] h := by
    intro k30 K30 hk30 a1 a2 s0 s1 h T E
    unfold tk_X8_reach_57 at T; unfold fn_X8_reach_57 at E
    obtain ⟨t1, t2, T⟩ := T
    refine z_go hC (pc' := 61) (ls' := [some (.ref 20), some (.int a1), some (.int (a2 + (nI 1))), none, none]) (st' := []) (h' := z_set h 34 s1.toNatClampNeg s0) (cs := [vp_in s1 36, (s0 = 0 ∨ s0 = 1)]) [.bastore, .iinc 2 1] (by decide +kernel) rfl rfl ⟨t1, t2⟩ ?_
    refine z_goto hC (off := -31) 30 (by decide +kernel) (by decide) ?_
    exact hk30 a1 (a2 + (nI 1)) (z_set h 34 s1.toNatClampNeg s0) T E
  have P148 : ∀ (k66 : Int32 → Int32 → z_H → z_R) (K66 : Int32 → Int32 → z_H → Prop) (hk66 : ∀ (a1 : Int32) (a2 : Int32) (h : z_H), K66 a1 a2 h → k66 a1 a2 h = RR → z_G p l e R s m args below meth c D dA ad 5 (z_PI RR) (z_m ext) 66 [some (.ref 20), some (.int a1), some (.int a2), none, none] [] h), ∀ (k81 : Int32 → Int32 → Int32 → z_H → z_R) (K81 : Int32 → Int32 → Int32 → z_H → Prop) (hk81 : ∀ (a1 : Int32) (a2 : Int32) (a3 : Int32) (h : z_H), K81 a1 a2 a3 h → k81 a1 a2 a3 h = RR → z_G p l e R s m args below meth c D dA ad 5 (z_PI RR) (z_m ext) 81 [some (.ref 20), some (.int a1), some (.int a2), some (.int a3), none] [] h), ∀ (a1 : Int32) (a2 : Int32) (a3 : Int32) (h : z_H), tk_X8_reach_148 K66 K81 a1 a2 a3 h → fn_X8_reach_148 k66 k81 a1 a2 a3 h = RR → z_G p l e R s m args below meth c D dA ad 5 (z_PI RR) (z_m ext) 148 [some (.ref 20), some (.int a1), some (.int a2), some (.int a3), none] [] h := by
    intro k66 K66 hk66 k81 K81 hk81 a1 a2 a3 h T E
    unfold tk_X8_reach_148 at T; unfold fn_X8_reach_148 at E
    refine z_go hC (pc' := 151) (ls' := [some (.ref 20), some (.int a1), some (.int a2), some (.int (a3 + (nI 1))), none]) (st' := []) (h' := h) (cs := []) [.iinc 3 1] (by decide +kernel) rfl rfl trivial ?_
    refine z_goto hC (off := -70) 81 (by decide +kernel) (by decide) ?_
    exact hk81 a1 a2 (a3 + (nI 1)) h T E
  have P81 : ∀ (k66 : Int32 → Int32 → z_H → z_R) (K66 : Int32 → Int32 → z_H → Prop) (hk66 : ∀ (a1 : Int32) (a2 : Int32) (h : z_H), K66 a1 a2 h → k66 a1 a2 h = RR → z_G p l e R s m args below meth c D dA ad 5 (z_PI RR) (z_m ext) 66 [some (.ref 20), some (.int a1), some (.int a2), none, none] [] h), ∀ (n : Nat), ∀ (a1 : Int32) (a2 : Int32) (a3 : Int32) (h : z_H), tk_X8_reach_81 K66 n a1 a2 a3 h → fn_X8_reach_81 k66 n a1 a2 a3 h = RR → z_G p l e R s m args below meth c D dA ad 5 (z_PI RR) (z_m ext) 81 [some (.ref 20), some (.int a1), some (.int a2), some (.int a3), none] [] h := by
    intro k66 K66 hk66 n
    induction n with
    | zero => intro a1 a2 a3 h T E; exact False.elim T
    | succ n ih =>
      intro a1 a2 a3 h T E
      unfold tk_X8_reach_81 at T; unfold fn_X8_reach_81 at E; dsimp only at T E
      have hk81 := ih
      refine z_go hC (pc' := 85) (ls' := [some (.ref 20), some (.int a1), some (.int a2), some (.int a3), none]) (st' := [.int (nI 144), .int a3]) (h' := h) (cs := [(Int16.ofInt (Int.ofNat 144)).toInt32 = nI 144]) [.iload_n 3, .sipush 144] (by decide +kernel) rfl rfl (show (Int16.ofInt (Int.ofNat 144)).toInt32 = nI 144 by decide) ?_
      refine z_icmp_ge hC (off := 69) 154 (by decide +kernel) (by decide) (fun c3 => ?_) (fun c3 => ?_)
      · skip
        have E := (if_pos c3).symm.trans E
        have T := T.1 c3
        refine z_go hC (pc' := 157) (ls' := [some (.ref 20), some (.int a1), some (.int (a2 + (nI 1))), some (.int a3), none]) (st' := []) (h' := h) (cs := []) [.iinc 2 1] (by decide +kernel) rfl rfl trivial ?_
        refine z_goto hC (off := -91) 66 (by decide +kernel) (by decide) ?_
        refine z_less (ls' := [some (.ref 20), some (.int a1), some (.int (a2 + (nI 1))), none, none]) (by simp [z_sub]) ?_
        exact hk66 a1 (a2 + (nI 1)) h T E
      · skip
        have E := (if_neg c3).symm.trans E
        have T := T.2 c3
        refine z_go hC (pc' := 95) (ls' := [some (.ref 20), some (.int a1), some (.int a2), some (.int a3), none]) (st' := [.int (a3 - a3 / (nI 4) * (nI 4)), .int (a3 / (nI 4)), .ref 20]) (h' := h) (cs := [¬ (nI 4) = 0, ¬ (nI 4) = 0]) [.aload_n 0, .iload_n 3, .iconst 4, .idiv, .iload_n 3, .iconst 4, .irem] (by decide +kernel) rfl rfl ⟨(show ¬ (nI 4) = 0 by decide), (show ¬ (nI 4) = 0 by decide)⟩ ?_
        obtain ⟨t7, T⟩ := T
        refine z_callV hC hN hR (as := [.int (a3 / (nI 4)), .int (a3 - a3 / (nI 4) * (nI 4))]) (rest := []) ok_X8_117 (by decide +kernel) (sp_X8_beside l _ h (a3 / (nI 4)) (a3 - a3 / (nI 4) * (nI 4)) t7) rfl rfl (Nat.le_of_ble_eq_true rfl) rfl rfl (Nat.le_of_ble_eq_true rfl) ⟨Nat.zero_le _, Nat.zero_le _⟩ (fun r4 h5 q6 => z_fun q6 ?_)
        refine z_go hC (pc' := 103) (ls' := [some (.ref 20), some (.int a1), some (.int a2), some (.int a3), some (.int (z_vi0 (fn_X8_beside (a3 / (nI 4)) (a3 - a3 / (nI 4) * (nI 4)) h)))]) (st' := [.int (-1), .int (z_vi0 (fn_X8_beside (a3 / (nI 4)) (a3 - a3 / (nI 4) * (nI 4)) h))]) (h' := h) (cs := []) [.istore 4, .iload 4, .iconst (-1)] (by decide +kernel) rfl rfl trivial ?_
        refine z_icmp_eq hC (off := 45) 148 (by decide +kernel) (by decide) (fun c8 => ?_) (fun c8 => ?_)
        · skip
          have E := (if_pos c8).symm.trans E
          have T := T.1 c8
          refine z_less (ls' := [some (.ref 20), some (.int a1), some (.int a2), some (.int a3), none]) (by simp [z_sub]) ?_
          exact P148 _ _ hk66 _ _ hk81 a1 a2 a3 h T E
        · skip
          have E := (if_neg c8).symm.trans E
          have T := T.2 c8
          obtain ⟨t9, T⟩ := T
          refine z_go hC (pc' := 113) (ls' := [some (.ref 20), some (.int a1), some (.int a2), some (.int a3), some (.int (z_vi0 (fn_X8_beside (a3 / (nI 4)) (a3 - a3 / (nI 4) * (nI 4)) h)))]) (st' := [.int (h.1 34 ((z_vi0 (fn_X8_beside (a3 / (nI 4)) (a3 - a3 / (nI 4) * (nI 4)) h)).toNatClampNeg))]) (h' := h) (cs := [vp_in (z_vi0 (fn_X8_beside (a3 / (nI 4)) (a3 - a3 / (nI 4) * (nI 4)) h)) 36]) [.aload_n 0, .getfield 50, .iload 4, .baload] (by decide +kernel) rfl rfl t9 ?_
          refine z_if_ne hC (off := 35) 148 (by decide +kernel) (by decide) (fun c10 => ?_) (fun c10 => ?_)
          · skip
            have E := (if_neg c10).symm.trans E
            have T := T.2 c10
            refine z_less (ls' := [some (.ref 20), some (.int a1), some (.int a2), some (.int a3), none]) (by simp [z_sub]) ?_
            exact P148 _ _ hk66 _ _ hk81 a1 a2 a3 h T E
          · skip
            have E := (if_pos c10).symm.trans E
            have T := T.1 c10
            refine z_go hC (pc' := 124) (ls' := [some (.ref 20), some (.int a1), some (.int a2), some (.int a3), some (.int (z_vi0 (fn_X8_beside (a3 / (nI 4)) (a3 - a3 / (nI 4) * (nI 4)) h)))]) (st' := [.int (h.1 28 ((nI 0).toNatClampNeg)), .int (z_vi0 (fn_X8_beside (a3 / (nI 4)) (a3 - a3 / (nI 4) * (nI 4)) h))]) (h' := h) (cs := [vp_in (nI 0) 37]) [.iload 4, .aload_n 0, .getfield 32, .iconst 0, .iaload] (by decide +kernel) rfl rfl (vp_in_nI (n := 0) (N := 37) (by decide) (by decide)) ?_
            refine z_icmp_eq hC (off := 24) 148 (by decide +kernel) (by decide) (fun c11 => ?_) (fun c11 => ?_)
            · skip
              have E := (if_pos c11).symm.trans E
              have T := T.1 c11
              refine z_less (ls' := [some (.ref 20), some (.int a1), some (.int a2), some (.int a3), none]) (by simp [z_sub]) ?_
              exact P148 _ _ hk66 _ _ hk81 a1 a2 a3 h T E
            · skip
              have E := (if_neg c11).symm.trans E
              have T := T.2 c11
              refine z_go hC (pc' := 131) (ls' := [some (.ref 20), some (.int a1), some (.int a2), some (.int a3), some (.int (z_vi0 (fn_X8_beside (a3 / (nI 4)) (a3 - a3 / (nI 4) * (nI 4)) h)))]) (st' := [.int (a3 / (nI 4)), .ref 20]) (h' := h) (cs := [¬ (nI 4) = 0]) [.aload_n 0, .iload_n 3, .iconst 4, .idiv] (by decide +kernel) rfl rfl (show ¬ (nI 4) = 0 by decide) ?_
              obtain ⟨t15, T⟩ := T
              refine z_callV hC hN hR (as := [.int (a3 / (nI 4))]) (rest := []) ok_X8_153 (by decide +kernel) (sp_X8_isFromHead l _ h (a3 / (nI 4)) t15) rfl rfl (Nat.le_of_ble_eq_true rfl) rfl rfl (Nat.le_of_ble_eq_true rfl) ⟨Nat.zero_le _, Nat.zero_le _⟩ (fun r12 h13 q14 => z_funb q14 (fun z16 => ?_))
              refine z_if_eq hC (off := 14) 148 (by decide +kernel) (by decide) (fun c17 => ?_) (fun c17 => ?_)
              · skip
                have E := (if_pos c17).symm.trans E
                have T := T.1 c17
                refine z_less (ls' := [some (.ref 20), some (.int a1), some (.int a2), some (.int a3), none]) (by simp [z_sub]) ?_
                exact P148 _ _ hk66 _ _ hk81 a1 a2 a3 h T E
              · skip
                have E := (if_neg c17).symm.trans E
                have T := T.2 c17
                obtain ⟨t18, T⟩ := T
                refine z_go hC (pc' := 148) (ls' := [some (.ref 20), some (.int (a1 + (nI 1))), some (.int a2), some (.int a3), some (.int (z_vi0 (fn_X8_beside (a3 / (nI 4)) (a3 - a3 / (nI 4) * (nI 4)) h)))]) (st' := []) (h' := z_set h 34 ((z_vi0 (fn_X8_beside (a3 / (nI 4)) (a3 - a3 / (nI 4) * (nI 4)) h)).toNatClampNeg) (nI 1)) (cs := [vp_in (z_vi0 (fn_X8_beside (a3 / (nI 4)) (a3 - a3 / (nI 4) * (nI 4)) h)) 36, (nI 1 = 0 ∨ nI 1 = 1)]) [.aload_n 0, .getfield 50, .iload 4, .iconst 1, .bastore, .iinc 1 1] (by decide +kernel) rfl rfl ⟨t18, (show (nI 1 = 0 ∨ nI 1 = 1) by decide)⟩ ?_
                refine z_less (ls' := [some (.ref 20), some (.int (a1 + (nI 1))), some (.int a2), some (.int a3), none]) (by simp [z_sub]) ?_
                exact P148 _ _ hk66 _ _ hk81 (a1 + (nI 1)) a2 a3 (z_set h 34 ((z_vi0 (fn_X8_beside (a3 / (nI 4)) (a3 - a3 / (nI 4) * (nI 4)) h)).toNatClampNeg) (nI 1)) T E
  have P66 : ∀ (n : Nat), ∀ (a1 : Int32) (a2 : Int32) (h : z_H), tk_X8_reach_66  n a1 a2 h → fn_X8_reach_66  n a1 a2 h = RR → z_G p l e R s m args below meth c D dA ad 5 (z_PI RR) (z_m ext) 66 [some (.ref 20), some (.int a1), some (.int a2), none, none] [] h := by
    intro  n
    induction n with
    | zero => intro a1 a2 h T E; exact False.elim T
    | succ n ih =>
      intro a1 a2 h T E
      unfold tk_X8_reach_66 at T; unfold fn_X8_reach_66 at E; dsimp only at T E
      have hk66 := ih
      refine z_go hC (pc' := 69) (ls' := [some (.ref 20), some (.int a1), some (.int a2), none, none]) (st' := [.int (nI 36), .int a2]) (h' := h) (cs := []) [.iload_n 2, .bipush 36] (by decide +kernel) rfl rfl trivial ?_
      refine z_icmp_ge hC (off := 91) 160 (by decide +kernel) (by decide) (fun c19 => ?_) (fun c19 => ?_)
      · skip
        have E := (if_pos c19).symm.trans E
        have T := T.1 c19
        refine z_go hC (pc' := 161) (ls' := [some (.ref 20), some (.int a1), some (.int a2), none, none]) (st' := [.int a1]) (h' := h) (cs := []) [.iload_n 1] (by decide +kernel) rfl rfl trivial ?_
        exact z_ret_i hB rfl (by decide +kernel) (z_lfi E)
      · skip
        have E := (if_neg c19).symm.trans E
        have T := T.2 c19
        refine z_go hC (pc' := 76) (ls' := [some (.ref 20), some (.int a1), some (.int a2), none, none]) (st' := [.int (h.1 20 10)]) (h' := h) (cs := []) [.aload_n 0, .getfield 91] (by decide +kernel) rfl rfl trivial ?_
        refine z_if_eq hC (off := 84) 160 (by decide +kernel) (by decide) (fun c20 => ?_) (fun c20 => ?_)
        · skip
          have E := (if_pos c20).symm.trans E
          have T := T.1 c20
          refine z_go hC (pc' := 161) (ls' := [some (.ref 20), some (.int a1), some (.int a2), none, none]) (st' := [.int a1]) (h' := h) (cs := []) [.iload_n 1] (by decide +kernel) rfl rfl trivial ?_
          exact z_ret_i hB rfl (by decide +kernel) (z_lfi E)
        · skip
          have E := (if_neg c20).symm.trans E
          have T := T.2 c20
          refine z_go hC (pc' := 81) (ls' := [some (.ref 20), some (.int a1), some (.int a2), some (.int (nI 0)), none]) (st' := []) (h' := h) (cs := []) [.iconst 0, .istore_n 3] (by decide +kernel) rfl rfl trivial ?_
          exact P81 _ _ hk66 2000 a1 a2 (nI 0) h T E
  have P30 : ∀ (n : Nat), ∀ (a1 : Int32) (a2 : Int32) (h : z_H), tk_X8_reach_30  n a1 a2 h → fn_X8_reach_30  n a1 a2 h = RR → z_G p l e R s m args below meth c D dA ad 5 (z_PI RR) (z_m ext) 30 [some (.ref 20), some (.int a1), some (.int a2), none, none] [] h := by
    intro  n
    induction n with
    | zero => intro a1 a2 h T E; exact False.elim T
    | succ n ih =>
      intro a1 a2 h T E
      unfold tk_X8_reach_30 at T; unfold fn_X8_reach_30 at E; dsimp only at T E
      have hk30 := ih
      refine z_go hC (pc' := 35) (ls' := [some (.ref 20), some (.int a1), some (.int a2), none, none]) (st' := [.int (h.1 20 12), .int a2]) (h' := h) (cs := []) [.iload_n 2, .aload_n 0, .getfield 111] (by decide +kernel) rfl rfl trivial ?_
      refine z_icmp_ge hC (off := 29) 64 (by decide +kernel) (by decide) (fun c21 => ?_) (fun c21 => ?_)
      · skip
        have E := (if_pos c21).symm.trans E
        have T := T.1 c21
        refine z_go hC (pc' := 66) (ls' := [some (.ref 20), some (.int a1), some (.int (nI 0)), none, none]) (st' := []) (h' := h) (cs := []) [.iconst 0, .istore_n 2] (by decide +kernel) rfl rfl trivial ?_
        exact P66 2000 a1 (nI 0) h T E
      · skip
        have E := (if_neg c21).symm.trans E
        have T := T.2 c21
        obtain ⟨t22, T⟩ := T
        refine z_go hC (pc' := 49) (ls' := [some (.ref 20), some (.int a1), some (.int a2), none, none]) (st' := [.int a2, .int (h.1 28 a2.toNatClampNeg), .ref 34]) (h' := h) (cs := [vp_in a2 37]) [.aload_n 0, .getfield 50, .aload_n 0, .getfield 32, .iload_n 2, .iaload, .iload_n 2] (by decide +kernel) rfl rfl t22 ?_
        refine z_if_le hC (off := 7) 56 (by decide +kernel) (by decide) (fun c23 => ?_) (fun c23 => ?_)
        · skip
          have E := (if_pos c23).symm.trans E
          have T := T.1 c23
          refine z_go hC (pc' := 57) (ls' := [some (.ref 20), some (.int a1), some (.int a2), none, none]) (st' := [.int (nI 0), .int (h.1 28 a2.toNatClampNeg), .ref 34]) (h' := h) (cs := []) [.iconst 0] (by decide +kernel) rfl rfl trivial ?_
          exact P57 _ _ hk30 a1 a2 (nI 0) (h.1 28 a2.toNatClampNeg) h T E
        · skip
          have E := (if_neg c23).symm.trans E
          have T := T.2 c23
          refine z_go hC (pc' := 53) (ls' := [some (.ref 20), some (.int a1), some (.int a2), none, none]) (st' := [.int (nI 1), .int (h.1 28 a2.toNatClampNeg), .ref 34]) (h' := h) (cs := []) [.iconst 1] (by decide +kernel) rfl rfl trivial ?_
          refine z_goto hC (off := 4) 57 (by decide +kernel) (by decide) ?_
          exact P57 _ _ hk30 a1 a2 (nI 1) (h.1 28 a2.toNatClampNeg) h T E
  have P9 : ∀ (n : Nat), ∀ (a1 : Int32) (a2 : Int32) (h : z_H), tk_X8_reach_9  n a1 a2 h → fn_X8_reach_9  n a1 a2 h = RR → z_G p l e R s m args below meth c D dA ad 5 (z_PI RR) (z_m ext) 9 [some (.ref 20), some (.int a1), some (.int a2), none, none] [] h := by
    intro  n
    induction n with
    | zero => intro a1 a2 h T E; exact False.elim T
    | succ n ih =>
      intro a1 a2 h T E
      unfold tk_X8_reach_9 at T; unfold fn_X8_reach_9 at E; dsimp only at T E
      have hk9 := ih
      refine z_go hC (pc' := 12) (ls' := [some (.ref 20), some (.int a1), some (.int a2), none, none]) (st' := [.int (nI 36), .int a2]) (h' := h) (cs := []) [.iload_n 2, .bipush 36] (by decide +kernel) rfl rfl trivial ?_
      refine z_icmp_ge hC (off := 16) 28 (by decide +kernel) (by decide) (fun c24 => ?_) (fun c24 => ?_)
      · skip
        have E := (if_pos c24).symm.trans E
        have T := T.1 c24
        refine z_go hC (pc' := 30) (ls' := [some (.ref 20), some (.int a1), some (.int (nI 0)), none, none]) (st' := []) (h' := h) (cs := []) [.iconst 0, .istore_n 2] (by decide +kernel) rfl rfl trivial ?_
        exact P30 2000 a1 (nI 0) h T E
      · skip
        have E := (if_neg c24).symm.trans E
        have T := T.2 c24
        obtain ⟨t25, T⟩ := T
        refine z_go hC (pc' := 25) (ls' := [some (.ref 20), some (.int a1), some (.int (a2 + (nI 1))), none, none]) (st' := []) (h' := z_set h 34 a2.toNatClampNeg (nI 0)) (cs := [vp_in a2 36, (nI 0 = 0 ∨ nI 0 = 1)]) [.aload_n 0, .getfield 50, .iload_n 2, .iconst 0, .bastore, .iinc 2 1] (by decide +kernel) rfl rfl ⟨t25, (show (nI 0 = 0 ∨ nI 0 = 1) by decide)⟩ ?_
        refine z_goto hC (off := -16) 9 (by decide +kernel) (by decide) ?_
        exact hk9 a1 (a2 + (nI 1)) (z_set h 34 a2.toNatClampNeg (nI 0)) T E
  refine z_go hC (pc' := 9) (ls' := [some (.ref 20), some (.int (nI 0)), some (.int (nI 0)), none, none]) (st' := []) (h' := z_set h 20 0 (nI 0)) (cs := []) [.aload_n 0, .iconst 0, .putfield 56, .iconst 0, .istore_n 1, .iconst 0, .istore_n 2] (by decide +kernel) rfl rfl trivial ?_
  exact P9 2000 (nI 0) (nI 0) (z_set h 20 0 (nI 0)) T E

def fn_X8_canTread_71 (h : z_H) (k44 : Int32 → Int32 → Int32 → Int32 → (Option Value)) (a2 : Int32) (a3 : Int32) (a5 : Int32) (s0 : Int32) : (Option Value) := k44 a2 a3 s0 (a5 + (nI 1))
def tk_X8_canTread_71 (h : z_H) (K44 : Int32 → Int32 → Int32 → Int32 → Prop) (a2 : Int32) (a3 : Int32) (a5 : Int32) (s0 : Int32) : Prop := K44 a2 a3 s0 (a5 + (nI 1))
def fn_X8_canTread_70 (h : z_H) (k44 : Int32 → Int32 → Int32 → Int32 → (Option Value)) (a2 : Int32) (a3 : Int32) (a5 : Int32) : (Option Value) := fn_X8_canTread_71 h k44 a2 a3 a5 (nI 0)
def tk_X8_canTread_70 (h : z_H) (K44 : Int32 → Int32 → Int32 → Int32 → Prop) (a2 : Int32) (a3 : Int32) (a5 : Int32) : Prop := tk_X8_canTread_71 h K44 a2 a3 a5 (nI 0)
def fn_X8_canTread_44 (h : z_H)  : Nat → Int32 → Int32 → Int32 → Int32 → (Option Value)
  | 0, _, _, _, _ => none
  | n + 1, a2, a3, a4, a5 => let k44 := fun (a2_ : Int32) (a3_ : Int32) (a4_ : Int32) (a5_ : Int32) => fn_X8_canTread_44 h  n a2_ a3_ a4_ a5_; if a3 < a5 then some (.int a4) else if a4 = 0 then fn_X8_canTread_70 h k44 a2 a3 a5 else if (h.1 29 a5.toNatClampNeg) = a2 then fn_X8_canTread_70 h k44 a2 a3 a5 else fn_X8_canTread_71 h k44 a2 a3 a5 (nI 1)
def tk_X8_canTread_44 (h : z_H)  : Nat → Int32 → Int32 → Int32 → Int32 → Prop
  | 0, _, _, _, _ => False
  | n + 1, a2, a3, a4, a5 => let K44 := fun (a2_ : Int32) (a3_ : Int32) (a4_ : Int32) (a5_ : Int32) => tk_X8_canTread_44 h  n a2_ a3_ a4_ a5_; ((a3 < a5) → ((a4 = 0 ∨ a4 = 1))) ∧ ((¬ a3 < a5) → (((a4 = 0) → (tk_X8_canTread_70 h K44 a2 a3 a5)) ∧ ((¬ a4 = 0) → (vp_in a5 50 ∧ ((((h.1 29 a5.toNatClampNeg) = a2) → (tk_X8_canTread_70 h K44 a2 a3 a5)) ∧ ((¬ (h.1 29 a5.toNatClampNeg) = a2) → (tk_X8_canTread_71 h K44 a2 a3 a5 (nI 1))))))))
def fn_X8_canTread_41 (h : z_H)  (a2 : Int32) (a3 : Int32) (a4 : Int32) (s0 : Int32) (s1 : Int32) : (Option Value) := fn_X8_canTread_44 h 2000 a2 a3 a4 (s1 + s0)
def tk_X8_canTread_41 (h : z_H)  (a2 : Int32) (a3 : Int32) (a4 : Int32) (s0 : Int32) (s1 : Int32) : Prop := tk_X8_canTread_44 h 2000 a2 a3 a4 (s1 + s0)
def fn_X8_canTread_19 (h : z_H)  (a1 : Int32) (a2 : Int32) (a3 : Int32) (s0 : Int32) : (Option Value) := if (h.1 31 a1.toNatClampNeg) ≤ 0 then fn_X8_canTread_41 h a2 a3 s0 (nI 1) (h.1 30 a1.toNatClampNeg) else fn_X8_canTread_41 h a2 a3 s0 (nI 0) (h.1 30 a1.toNatClampNeg)
def tk_X8_canTread_19 (h : z_H)  (a1 : Int32) (a2 : Int32) (a3 : Int32) (s0 : Int32) : Prop := vp_in a1 8 ∧ vp_in a1 8 ∧ ((((h.1 31 a1.toNatClampNeg) ≤ 0) → (tk_X8_canTread_41 h a2 a3 s0 (nI 1) (h.1 30 a1.toNatClampNeg))) ∧ ((¬ (h.1 31 a1.toNatClampNeg) ≤ 0) → (tk_X8_canTread_41 h a2 a3 s0 (nI 0) (h.1 30 a1.toNatClampNeg))))
def fn_X8_canTread (x : Int32) (y : Int32) (h : z_H) : (Option Value) := if y = (-1) then fn_X8_canTread_19 h x y (((h.1 20 12) - (nI 1)) + x) (nI 0) else fn_X8_canTread_19 h x y (((h.1 20 12) - (nI 1)) + x) (nI 1)
def tk_X8_canTread (x : Int32) (y : Int32) (h : z_H) : Prop := ((y = (-1)) → (tk_X8_canTread_19 h x y (((h.1 20 12) - (nI 1)) + x) (nI 0))) ∧ ((¬ y = (-1)) → (tk_X8_canTread_19 h x y (((h.1 20 12) - (nI 1)) + x) (nI 1)))
set_option maxHeartbeats 4000000 in
set_option maxRecDepth 100000 in
theorem sp_X8_canTread (l : Launch) (ext : z_Sh)  (h : z_H) (x : Int32) (y : Int32)  (T : tk_X8_canTread x y h) : z_Sp l 0 yX8_canTread cX8_canTread 6 (some .boolean) [.ref 20, .int x, .int y] (z_m ext) h (z_QB h (fn_X8_canTread x y h)) := by
  refine z_enter ft_X8 (by decide +kernel) fo_X8 (Nat.le_of_ble_eq_true rfl) ?_
  intro p e R s m args below meth c D dA ad hB
  have hC := hB.1
  have hN := hB.2.1
  have hR := hB.2.2.1
  unfold tk_X8_canTread at T; have E : (if y = (-1) then fn_X8_canTread_19 h x y (((h.1 20 12) - (nI 1)) + x) (nI 0) else fn_X8_canTread_19 h x y (((h.1 20 12) - (nI 1)) + x) (nI 1)) = fn_X8_canTread x y h := rfl
  generalize fn_X8_canTread x y h = RR at E ⊢
  have P71 : ∀ (k44 : Int32 → Int32 → Int32 → Int32 → (Option Value)) (K44 : Int32 → Int32 → Int32 → Int32 → Prop) (hk44 : ∀ (a2 : Int32) (a3 : Int32) (a4 : Int32) (a5 : Int32), K44 a2 a3 a4 a5 → k44 a2 a3 a4 a5 = RR → z_G p l e R s m args below meth c D dA ad 6 (z_QB h RR) (z_m ext) 44 [some (.ref 20), none, some (.int a2), some (.int a3), some (.int a4), some (.int a5)] [] h), ∀ (a2 : Int32) (a3 : Int32) (a5 : Int32) (s0 : Int32), tk_X8_canTread_71 h K44 a2 a3 a5 s0 → fn_X8_canTread_71 h k44 a2 a3 a5 s0 = RR → z_G p l e R s m args below meth c D dA ad 6 (z_QB h RR) (z_m ext) 71 [some (.ref 20), none, some (.int a2), some (.int a3), none, some (.int a5)] [.int s0] h := by
    intro k44 K44 hk44 a2 a3 a5 s0 T E
    unfold tk_X8_canTread_71 at T; unfold fn_X8_canTread_71 at E
    refine z_go hC (pc' := 76) (ls' := [some (.ref 20), none, some (.int a2), some (.int a3), some (.int s0), some (.int (a5 + (nI 1)))]) (st' := []) (h' := h) (cs := []) [.istore 4, .iinc 5 1] (by decide +kernel) rfl rfl trivial ?_
    refine z_goto hC (off := -32) 44 (by decide +kernel) (by decide) ?_
    exact hk44 a2 a3 s0 (a5 + (nI 1)) T E
  have P70 : ∀ (k44 : Int32 → Int32 → Int32 → Int32 → (Option Value)) (K44 : Int32 → Int32 → Int32 → Int32 → Prop) (hk44 : ∀ (a2 : Int32) (a3 : Int32) (a4 : Int32) (a5 : Int32), K44 a2 a3 a4 a5 → k44 a2 a3 a4 a5 = RR → z_G p l e R s m args below meth c D dA ad 6 (z_QB h RR) (z_m ext) 44 [some (.ref 20), none, some (.int a2), some (.int a3), some (.int a4), some (.int a5)] [] h), ∀ (a2 : Int32) (a3 : Int32) (a5 : Int32), tk_X8_canTread_70 h K44 a2 a3 a5 → fn_X8_canTread_70 h k44 a2 a3 a5 = RR → z_G p l e R s m args below meth c D dA ad 6 (z_QB h RR) (z_m ext) 70 [some (.ref 20), none, some (.int a2), some (.int a3), none, some (.int a5)] [] h := by
    intro k44 K44 hk44 a2 a3 a5 T E
    unfold tk_X8_canTread_70 at T; unfold fn_X8_canTread_70 at E
    refine z_go hC (pc' := 71) (ls' := [some (.ref 20), none, some (.int a2), some (.int a3), none, some (.int a5)]) (st' := [.int (nI 0)]) (h' := h) (cs := []) [.iconst 0] (by decide +kernel) rfl rfl trivial ?_
    exact P71 _ _ hk44 a2 a3 a5 (nI 0) T E
  have P44 : ∀ (n : Nat), ∀ (a2 : Int32) (a3 : Int32) (a4 : Int32) (a5 : Int32), tk_X8_canTread_44 h  n a2 a3 a4 a5 → fn_X8_canTread_44 h  n a2 a3 a4 a5 = RR → z_G p l e R s m args below meth c D dA ad 6 (z_QB h RR) (z_m ext) 44 [some (.ref 20), none, some (.int a2), some (.int a3), some (.int a4), some (.int a5)] [] h := by
    intro  n
    induction n with
    | zero => intro a2 a3 a4 a5 T E; exact False.elim T
    | succ n ih =>
      intro a2 a3 a4 a5 T E
      unfold tk_X8_canTread_44 at T; unfold fn_X8_canTread_44 at E; dsimp only at T E
      have hk44 := ih
      refine z_go hC (pc' := 47) (ls' := [some (.ref 20), none, some (.int a2), some (.int a3), some (.int a4), some (.int a5)]) (st' := [.int a3, .int a5]) (h' := h) (cs := []) [.iload 5, .iload_n 3] (by decide +kernel) rfl rfl trivial ?_
      refine z_icmp_gt hC (off := 32) 79 (by decide +kernel) (by decide) (fun c1 => ?_) (fun c1 => ?_)
      · skip
        have E := (if_pos c1).symm.trans E
        have T := T.1 c1
        refine z_go hC (pc' := 81) (ls' := [some (.ref 20), none, some (.int a2), some (.int a3), some (.int a4), some (.int a5)]) (st' := [.int a4]) (h' := h) (cs := []) [.iload 4] (by decide +kernel) rfl rfl trivial ?_
        have t2 := T
        exact z_ret_z hB rfl t2 (by decide +kernel) (z_lfb0 t2 E)
      · skip
        have E := (if_neg c1).symm.trans E
        have T := T.2 c1
        refine z_go hC (pc' := 52) (ls' := [some (.ref 20), none, some (.int a2), some (.int a3), some (.int a4), some (.int a5)]) (st' := [.int a4]) (h' := h) (cs := []) [.iload 4] (by decide +kernel) rfl rfl trivial ?_
        refine z_if_eq hC (off := 18) 70 (by decide +kernel) (by decide) (fun c3 => ?_) (fun c3 => ?_)
        · skip
          have E := (if_pos c3).symm.trans E
          have T := T.1 c3
          refine z_less (ls' := [some (.ref 20), none, some (.int a2), some (.int a3), none, some (.int a5)]) (by simp [z_sub]) ?_
          exact P70 _ _ hk44 a2 a3 a5 T E
        · skip
          have E := (if_neg c3).symm.trans E
          have T := T.2 c3
          obtain ⟨t4, T⟩ := T
          refine z_go hC (pc' := 63) (ls' := [some (.ref 20), none, some (.int a2), some (.int a3), some (.int a4), some (.int a5)]) (st' := [.int a2, .int (h.1 29 a5.toNatClampNeg)]) (h' := h) (cs := [vp_in a5 50]) [.aload_n 0, .getfield 35, .iload 5, .iaload, .iload_n 2] (by decide +kernel) rfl rfl t4 ?_
          refine z_icmp_eq hC (off := 7) 70 (by decide +kernel) (by decide) (fun c5 => ?_) (fun c5 => ?_)
          · skip
            have E := (if_pos c5).symm.trans E
            have T := T.1 c5
            refine z_less (ls' := [some (.ref 20), none, some (.int a2), some (.int a3), none, some (.int a5)]) (by simp [z_sub]) ?_
            exact P70 _ _ hk44 a2 a3 a5 T E
          · skip
            have E := (if_neg c5).symm.trans E
            have T := T.2 c5
            refine z_go hC (pc' := 67) (ls' := [some (.ref 20), none, some (.int a2), some (.int a3), some (.int a4), some (.int a5)]) (st' := [.int (nI 1)]) (h' := h) (cs := []) [.iconst 1] (by decide +kernel) rfl rfl trivial ?_
            refine z_goto hC (off := 4) 71 (by decide +kernel) (by decide) ?_
            refine z_less (ls' := [some (.ref 20), none, some (.int a2), some (.int a3), none, some (.int a5)]) (by simp [z_sub]) ?_
            exact P71 _ _ hk44 a2 a3 a5 (nI 1) T E
  have P41 : ∀ (a2 : Int32) (a3 : Int32) (a4 : Int32) (s0 : Int32) (s1 : Int32), tk_X8_canTread_41 h  a2 a3 a4 s0 s1 → fn_X8_canTread_41 h  a2 a3 a4 s0 s1 = RR → z_G p l e R s m args below meth c D dA ad 6 (z_QB h RR) (z_m ext) 41 [some (.ref 20), none, some (.int a2), some (.int a3), some (.int a4), none] [.int s0, .int s1] h := by
    intro  a2 a3 a4 s0 s1 T E
    unfold tk_X8_canTread_41 at T; unfold fn_X8_canTread_41 at E
    refine z_go hC (pc' := 44) (ls' := [some (.ref 20), none, some (.int a2), some (.int a3), some (.int a4), some (.int (s1 + s0))]) (st' := []) (h' := h) (cs := []) [.iadd, .istore 5] (by decide +kernel) rfl rfl trivial ?_
    exact P44 2000 a2 a3 a4 (s1 + s0) T E
  have P19 : ∀ (a1 : Int32) (a2 : Int32) (a3 : Int32) (s0 : Int32), tk_X8_canTread_19 h  a1 a2 a3 s0 → fn_X8_canTread_19 h  a1 a2 a3 s0 = RR → z_G p l e R s m args below meth c D dA ad 6 (z_QB h RR) (z_m ext) 19 [some (.ref 20), some (.int a1), some (.int a2), some (.int a3), none, none] [.int s0] h := by
    intro  a1 a2 a3 s0 T E
    unfold tk_X8_canTread_19 at T; unfold fn_X8_canTread_19 at E
    obtain ⟨t6, t7, T⟩ := T
    refine z_go hC (pc' := 33) (ls' := [some (.ref 20), some (.int a1), some (.int a2), some (.int a3), some (.int s0), none]) (st' := [.int (h.1 31 a1.toNatClampNeg), .int (h.1 30 a1.toNatClampNeg)]) (h' := h) (cs := [vp_in a1 8, vp_in a1 8]) [.istore 4, .aload_n 0, .getfield 38, .iload_n 1, .iaload, .aload_n 0, .getfield 41, .iload_n 1, .iaload] (by decide +kernel) rfl rfl ⟨t6, t7⟩ ?_
    refine z_if_le hC (off := 7) 40 (by decide +kernel) (by decide) (fun c8 => ?_) (fun c8 => ?_)
    · skip
      have E := (if_pos c8).symm.trans E
      have T := T.1 c8
      refine z_go hC (pc' := 41) (ls' := [some (.ref 20), some (.int a1), some (.int a2), some (.int a3), some (.int s0), none]) (st' := [.int (nI 1), .int (h.1 30 a1.toNatClampNeg)]) (h' := h) (cs := []) [.iconst 1] (by decide +kernel) rfl rfl trivial ?_
      refine z_less (ls' := [some (.ref 20), none, some (.int a2), some (.int a3), some (.int s0), none]) (by simp [z_sub]) ?_
      exact P41  a2 a3 s0 (nI 1) (h.1 30 a1.toNatClampNeg) T E
    · skip
      have E := (if_neg c8).symm.trans E
      have T := T.2 c8
      refine z_go hC (pc' := 37) (ls' := [some (.ref 20), some (.int a1), some (.int a2), some (.int a3), some (.int s0), none]) (st' := [.int (nI 0), .int (h.1 30 a1.toNatClampNeg)]) (h' := h) (cs := []) [.iconst 0] (by decide +kernel) rfl rfl trivial ?_
      refine z_goto hC (off := 4) 41 (by decide +kernel) (by decide) ?_
      refine z_less (ls' := [some (.ref 20), none, some (.int a2), some (.int a3), some (.int s0), none]) (by simp [z_sub]) ?_
      exact P41  a2 a3 s0 (nI 0) (h.1 30 a1.toNatClampNeg) T E
  refine z_go hC (pc' := 11) (ls' := [some (.ref 20), some (.int x), some (.int y), some (.int (((h.1 20 12) - (nI 1)) + x)), none, none]) (st' := [.int (-1), .int y]) (h' := h) (cs := []) [.aload_n 0, .getfield 111, .iconst 1, .isub, .iload_n 1, .iadd, .istore_n 3, .iload_n 2, .iconst (-1)] (by decide +kernel) rfl rfl trivial ?_
  refine z_icmp_eq hC (off := 7) 18 (by decide +kernel) (by decide) (fun c9 => ?_) (fun c9 => ?_)
  · skip
    have E := (if_pos c9).symm.trans E
    have T := T.1 c9
    refine z_go hC (pc' := 19) (ls' := [some (.ref 20), some (.int x), some (.int y), some (.int (((h.1 20 12) - (nI 1)) + x)), none, none]) (st' := [.int (nI 0)]) (h' := h) (cs := []) [.iconst 0] (by decide +kernel) rfl rfl trivial ?_
    exact P19  x y (((h.1 20 12) - (nI 1)) + x) (nI 0) T E
  · skip
    have E := (if_neg c9).symm.trans E
    have T := T.2 c9
    refine z_go hC (pc' := 15) (ls' := [some (.ref 20), some (.int x), some (.int y), some (.int (((h.1 20 12) - (nI 1)) + x)), none, none]) (st' := [.int (nI 1)]) (h' := h) (cs := []) [.iconst 1] (by decide +kernel) rfl rfl trivial ?_
    refine z_goto hC (off := 4) 19 (by decide +kernel) (by decide) ?_
    exact P19  x y (((h.1 20 12) - (nI 1)) + x) (nI 1) T E

def fn_X8_tread_153  (a1 : Int32) (s0 : Int32) (s1 : Int32) (s2 : Int32) (h : z_H) : z_R := (none, z_set (z_set h 32 s2.toNatClampNeg (s1 + s0)) 33 ((a1 + (nI 1)).toNatClampNeg) (nI 0))
def tk_X8_tread_153  (a1 : Int32) (s0 : Int32) (s1 : Int32) (s2 : Int32) (h : z_H) : Prop := vp_in s2 8 ∧ vp_in (a1 + (nI 1)) 8
def fn_X8_tread_129  (a1 : Int32) (a3 : Int32) (s0 : Int32) (s1 : Int32) (s2 : Int32) (h : z_H) : z_R := if a3 = 0 then fn_X8_tread_153 a1 (nI 0) (h.1 32 a1.toNatClampNeg) (a1 + (nI 1)) (z_set h 31 s2.toNatClampNeg (s1 + s0)) else fn_X8_tread_153 a1 (nI 1) (h.1 32 a1.toNatClampNeg) (a1 + (nI 1)) (z_set h 31 s2.toNatClampNeg (s1 + s0))
def tk_X8_tread_129  (a1 : Int32) (a3 : Int32) (s0 : Int32) (s1 : Int32) (s2 : Int32) (h : z_H) : Prop := vp_in s2 8 ∧ vp_in a1 8 ∧ (((a3 = 0) → (tk_X8_tread_153 a1 (nI 0) (h.1 32 a1.toNatClampNeg) (a1 + (nI 1)) (z_set h 31 s2.toNatClampNeg (s1 + s0)))) ∧ ((¬ a3 = 0) → (tk_X8_tread_153 a1 (nI 1) (h.1 32 a1.toNatClampNeg) (a1 + (nI 1)) (z_set h 31 s2.toNatClampNeg (s1 + s0)))))
def fn_X8_tread_119  (a1 : Int32) (a3 : Int32) (s0 : Int32) (s1 : Int32) (s2 : Int32) (h : z_H) : z_R := if a3 = 0 then fn_X8_tread_129 a1 a3 (nI 0) (s1 - s0) s2 h else fn_X8_tread_129 a1 a3 (nI 2) (s1 - s0) s2 h
def tk_X8_tread_119  (a1 : Int32) (a3 : Int32) (s0 : Int32) (s1 : Int32) (s2 : Int32) (h : z_H) : Prop := ((a3 = 0) → (tk_X8_tread_129 a1 a3 (nI 0) (s1 - s0) s2 h)) ∧ ((¬ a3 = 0) → (tk_X8_tread_129 a1 a3 (nI 2) (s1 - s0) s2 h))
def fn_X8_tread_91  (a1 : Int32) (s0 : Int32) (h : z_H) : z_R := if (h.1 31 a1.toNatClampNeg) ≤ 0 then fn_X8_tread_119 a1 s0 (nI 0) (h.1 31 a1.toNatClampNeg) (a1 + (nI 1)) h else fn_X8_tread_119 a1 s0 (nI 1) (h.1 31 a1.toNatClampNeg) (a1 + (nI 1)) h
def tk_X8_tread_91  (a1 : Int32) (s0 : Int32) (h : z_H) : Prop := vp_in a1 8 ∧ vp_in a1 8 ∧ ((((h.1 31 a1.toNatClampNeg) ≤ 0) → (tk_X8_tread_119 a1 s0 (nI 0) (h.1 31 a1.toNatClampNeg) (a1 + (nI 1)) h)) ∧ ((¬ (h.1 31 a1.toNatClampNeg) ≤ 0) → (tk_X8_tread_119 a1 s0 (nI 1) (h.1 31 a1.toNatClampNeg) (a1 + (nI 1)) h)))
def fn_X8_tread_90  (a1 : Int32) (h : z_H) : z_R := fn_X8_tread_91 a1 (nI 0) h
def tk_X8_tread_90  (a1 : Int32) (h : z_H) : Prop := tk_X8_tread_91 a1 (nI 0) h
def fn_X8_tread_81  (a1 : Int32) (a2 : Int32) (s0 : Int32) (h : z_H) : z_R := if (h.1 27 s0.toNatClampNeg) = a2 then fn_X8_tread_91 a1 (nI 1) h else fn_X8_tread_90 a1 h
def tk_X8_tread_81  (a1 : Int32) (a2 : Int32) (s0 : Int32) (h : z_H) : Prop := vp_in s0 40 ∧ ((((h.1 27 s0.toNatClampNeg) = a2) → (tk_X8_tread_91 a1 (nI 1) h)) ∧ ((¬ (h.1 27 s0.toNatClampNeg) = a2) → (tk_X8_tread_90 a1 h)))
def fn_X8_tread_39  (a1 : Int32) (a2 : Int32) (s0 : Int32) (s1 : Int32) (s2 : Int32) (h : z_H) : z_R := if (h.1 20 8) ≤ (h.1 32 a1.toNatClampNeg) then fn_X8_tread_90 a1 (z_set h 30 s2.toNatClampNeg (s1 + s0)) else if (h.1 20 8) ≤ (h.1 32 a1.toNatClampNeg) then fn_X8_tread_81 a1 a2 (nI 0) (z_set h 30 s2.toNatClampNeg (s1 + s0)) else fn_X8_tread_81 a1 a2 (h.1 32 a1.toNatClampNeg) (z_set h 30 s2.toNatClampNeg (s1 + s0))
def tk_X8_tread_39  (a1 : Int32) (a2 : Int32) (s0 : Int32) (s1 : Int32) (s2 : Int32) (h : z_H) : Prop := vp_in s2 8 ∧ vp_in a1 8 ∧ ((((h.1 20 8) ≤ (h.1 32 a1.toNatClampNeg)) → (tk_X8_tread_90 a1 (z_set h 30 s2.toNatClampNeg (s1 + s0)))) ∧ ((¬ (h.1 20 8) ≤ (h.1 32 a1.toNatClampNeg)) → (vp_in a1 8 ∧ ((((h.1 20 8) ≤ (h.1 32 a1.toNatClampNeg)) → (tk_X8_tread_81 a1 a2 (nI 0) (z_set h 30 s2.toNatClampNeg (s1 + s0)))) ∧ ((¬ (h.1 20 8) ≤ (h.1 32 a1.toNatClampNeg)) → (vp_in a1 8 ∧ (tk_X8_tread_81 a1 a2 (h.1 32 a1.toNatClampNeg) (z_set h 30 s2.toNatClampNeg (s1 + s0)))))))))
def fn_X8_tread (x : Int32) (y : Int32) (h : z_H) : z_R := if (h.1 31 x.toNatClampNeg) ≤ 0 then fn_X8_tread_39 x y (nI 1) (h.1 30 x.toNatClampNeg) (x + (nI 1)) (z_set h 29 (((h.1 20 12) + x).toNatClampNeg) y) else fn_X8_tread_39 x y (nI 0) (h.1 30 x.toNatClampNeg) (x + (nI 1)) (z_set h 29 (((h.1 20 12) + x).toNatClampNeg) y)
def tk_X8_tread (x : Int32) (y : Int32) (h : z_H) : Prop := vp_in ((h.1 20 12) + x) 50 ∧ vp_in x 8 ∧ vp_in x 8 ∧ ((((h.1 31 x.toNatClampNeg) ≤ 0) → (tk_X8_tread_39 x y (nI 1) (h.1 30 x.toNatClampNeg) (x + (nI 1)) (z_set h 29 (((h.1 20 12) + x).toNatClampNeg) y))) ∧ ((¬ (h.1 31 x.toNatClampNeg) ≤ 0) → (tk_X8_tread_39 x y (nI 0) (h.1 30 x.toNatClampNeg) (x + (nI 1)) (z_set h 29 (((h.1 20 12) + x).toNatClampNeg) y))))
set_option maxHeartbeats 4000000 in
set_option maxRecDepth 100000 in
theorem sp_X8_tread (l : Launch) (ext : z_Sh)  (h : z_H) (x : Int32) (y : Int32)  (T : tk_X8_tread x y h) : z_Sp l 0 yX8_tread cX8_tread 4 none [.ref 20, .int x, .int y] (z_m ext) h (z_PV (fn_X8_tread x y h)) := by
  refine z_enter ft_X8 (by decide +kernel) fo_X8 (Nat.le_of_ble_eq_true rfl) ?_
  intro p e R s m args below meth c D dA ad hB
  have hC := hB.1
  have hN := hB.2.1
  have hR := hB.2.2.1
  unfold tk_X8_tread at T; have E : (if (h.1 31 x.toNatClampNeg) ≤ 0 then fn_X8_tread_39 x y (nI 1) (h.1 30 x.toNatClampNeg) (x + (nI 1)) (z_set h 29 (((h.1 20 12) + x).toNatClampNeg) y) else fn_X8_tread_39 x y (nI 0) (h.1 30 x.toNatClampNeg) (x + (nI 1)) (z_set h 29 (((h.1 20 12) + x).toNatClampNeg) y)) = fn_X8_tread x y h := rfl
  generalize fn_X8_tread x y h = RR at E ⊢
  have P153 : ∀ (a1 : Int32) (s0 : Int32) (s1 : Int32) (s2 : Int32) (h : z_H), tk_X8_tread_153  a1 s0 s1 s2 h → fn_X8_tread_153  a1 s0 s1 s2 h = RR → z_G p l e R s m args below meth c D dA ad 4 (z_PV RR) (z_m ext) 153 [some (.ref 20), some (.int a1), none, none] [.int s0, .int s1, .int s2, .ref 32] h := by
    intro  a1 s0 s1 s2 h T E
    unfold tk_X8_tread_153 at T; unfold fn_X8_tread_153 at E
    obtain ⟨t1, t2⟩ := T
    refine z_go hC (pc' := 164) (ls' := [some (.ref 20), some (.int a1), none, none]) (st' := []) (h' := z_set (z_set h 32 s2.toNatClampNeg (s1 + s0)) 33 ((a1 + (nI 1)).toNatClampNeg) (nI 0)) (cs := [vp_in s2 8, vp_in (a1 + (nI 1)) 8]) [.iadd, .iastore, .aload_n 0, .getfield 47, .iload_n 1, .iconst 1, .iadd, .iconst 0, .iastore] (by decide +kernel) rfl rfl ⟨t1, t2⟩ ?_
    exact z_ret_v hB rfl (by decide +kernel) (z_lfv E)
  have P129 : ∀ (a1 : Int32) (a3 : Int32) (s0 : Int32) (s1 : Int32) (s2 : Int32) (h : z_H), tk_X8_tread_129  a1 a3 s0 s1 s2 h → fn_X8_tread_129  a1 a3 s0 s1 s2 h = RR → z_G p l e R s m args below meth c D dA ad 4 (z_PV RR) (z_m ext) 129 [some (.ref 20), some (.int a1), none, some (.int a3)] [.int s0, .int s1, .int s2, .ref 31] h := by
    intro  a1 a3 s0 s1 s2 h T E
    unfold tk_X8_tread_129 at T; unfold fn_X8_tread_129 at E
    obtain ⟨t3, t4, T⟩ := T
    refine z_go hC (pc' := 145) (ls' := [some (.ref 20), some (.int a1), none, some (.int a3)]) (st' := [.int a3, .int (h.1 32 a1.toNatClampNeg), .int (a1 + (nI 1)), .ref 32]) (h' := z_set h 31 s2.toNatClampNeg (s1 + s0)) (cs := [vp_in s2 8, vp_in a1 8]) [.iadd, .iastore, .aload_n 0, .getfield 44, .iload_n 1, .iconst 1, .iadd, .aload_n 0, .getfield 44, .iload_n 1, .iaload, .iload_n 3] (by decide +kernel) rfl rfl ⟨t3, t4⟩ ?_
    refine z_if_eq hC (off := 7) 152 (by decide +kernel) (by decide) (fun c5 => ?_) (fun c5 => ?_)
    · skip
      have E := (if_pos c5).symm.trans E
      have T := T.1 c5
      refine z_go hC (pc' := 153) (ls' := [some (.ref 20), some (.int a1), none, some (.int a3)]) (st' := [.int (nI 0), .int (h.1 32 a1.toNatClampNeg), .int (a1 + (nI 1)), .ref 32]) (h' := z_set h 31 s2.toNatClampNeg (s1 + s0)) (cs := []) [.iconst 0] (by decide +kernel) rfl rfl trivial ?_
      refine z_less (ls' := [some (.ref 20), some (.int a1), none, none]) (by simp [z_sub]) ?_
      exact P153  a1 (nI 0) (h.1 32 a1.toNatClampNeg) (a1 + (nI 1)) (z_set h 31 s2.toNatClampNeg (s1 + s0)) T E
    · skip
      have E := (if_neg c5).symm.trans E
      have T := T.2 c5
      refine z_go hC (pc' := 149) (ls' := [some (.ref 20), some (.int a1), none, some (.int a3)]) (st' := [.int (nI 1), .int (h.1 32 a1.toNatClampNeg), .int (a1 + (nI 1)), .ref 32]) (h' := z_set h 31 s2.toNatClampNeg (s1 + s0)) (cs := []) [.iconst 1] (by decide +kernel) rfl rfl trivial ?_
      refine z_goto hC (off := 4) 153 (by decide +kernel) (by decide) ?_
      refine z_less (ls' := [some (.ref 20), some (.int a1), none, none]) (by simp [z_sub]) ?_
      exact P153  a1 (nI 1) (h.1 32 a1.toNatClampNeg) (a1 + (nI 1)) (z_set h 31 s2.toNatClampNeg (s1 + s0)) T E
  have P119 : ∀ (a1 : Int32) (a3 : Int32) (s0 : Int32) (s1 : Int32) (s2 : Int32) (h : z_H), tk_X8_tread_119  a1 a3 s0 s1 s2 h → fn_X8_tread_119  a1 a3 s0 s1 s2 h = RR → z_G p l e R s m args below meth c D dA ad 4 (z_PV RR) (z_m ext) 119 [some (.ref 20), some (.int a1), none, some (.int a3)] [.int s0, .int s1, .int s2, .ref 31] h := by
    intro  a1 a3 s0 s1 s2 h T E
    unfold tk_X8_tread_119 at T; unfold fn_X8_tread_119 at E
    refine z_go hC (pc' := 121) (ls' := [some (.ref 20), some (.int a1), none, some (.int a3)]) (st' := [.int a3, .int (s1 - s0), .int s2, .ref 31]) (h' := h) (cs := []) [.isub, .iload_n 3] (by decide +kernel) rfl rfl trivial ?_
    refine z_if_eq hC (off := 7) 128 (by decide +kernel) (by decide) (fun c6 => ?_) (fun c6 => ?_)
    · skip
      have E := (if_pos c6).symm.trans E
      have T := T.1 c6
      refine z_go hC (pc' := 129) (ls' := [some (.ref 20), some (.int a1), none, some (.int a3)]) (st' := [.int (nI 0), .int (s1 - s0), .int s2, .ref 31]) (h' := h) (cs := []) [.iconst 0] (by decide +kernel) rfl rfl trivial ?_
      exact P129  a1 a3 (nI 0) (s1 - s0) s2 h T E
    · skip
      have E := (if_neg c6).symm.trans E
      have T := T.2 c6
      refine z_go hC (pc' := 125) (ls' := [some (.ref 20), some (.int a1), none, some (.int a3)]) (st' := [.int (nI 2), .int (s1 - s0), .int s2, .ref 31]) (h' := h) (cs := []) [.iconst 2] (by decide +kernel) rfl rfl trivial ?_
      refine z_goto hC (off := 4) 129 (by decide +kernel) (by decide) ?_
      exact P129  a1 a3 (nI 2) (s1 - s0) s2 h T E
  have P91 : ∀ (a1 : Int32) (s0 : Int32) (h : z_H), tk_X8_tread_91  a1 s0 h → fn_X8_tread_91  a1 s0 h = RR → z_G p l e R s m args below meth c D dA ad 4 (z_PV RR) (z_m ext) 91 [some (.ref 20), some (.int a1), none, none] [.int s0] h := by
    intro  a1 s0 h T E
    unfold tk_X8_tread_91 at T; unfold fn_X8_tread_91 at E
    obtain ⟨t7, t8, T⟩ := T
    refine z_go hC (pc' := 111) (ls' := [some (.ref 20), some (.int a1), none, some (.int s0)]) (st' := [.int (h.1 31 a1.toNatClampNeg), .int (h.1 31 a1.toNatClampNeg), .int (a1 + (nI 1)), .ref 31]) (h' := h) (cs := [vp_in a1 8, vp_in a1 8]) [.istore_n 3, .aload_n 0, .getfield 41, .iload_n 1, .iconst 1, .iadd, .aload_n 0, .getfield 41, .iload_n 1, .iaload, .aload_n 0, .getfield 41, .iload_n 1, .iaload] (by decide +kernel) rfl rfl ⟨t7, t8⟩ ?_
    refine z_if_le hC (off := 7) 118 (by decide +kernel) (by decide) (fun c9 => ?_) (fun c9 => ?_)
    · skip
      have E := (if_pos c9).symm.trans E
      have T := T.1 c9
      refine z_go hC (pc' := 119) (ls' := [some (.ref 20), some (.int a1), none, some (.int s0)]) (st' := [.int (nI 0), .int (h.1 31 a1.toNatClampNeg), .int (a1 + (nI 1)), .ref 31]) (h' := h) (cs := []) [.iconst 0] (by decide +kernel) rfl rfl trivial ?_
      exact P119  a1 s0 (nI 0) (h.1 31 a1.toNatClampNeg) (a1 + (nI 1)) h T E
    · skip
      have E := (if_neg c9).symm.trans E
      have T := T.2 c9
      refine z_go hC (pc' := 115) (ls' := [some (.ref 20), some (.int a1), none, some (.int s0)]) (st' := [.int (nI 1), .int (h.1 31 a1.toNatClampNeg), .int (a1 + (nI 1)), .ref 31]) (h' := h) (cs := []) [.iconst 1] (by decide +kernel) rfl rfl trivial ?_
      refine z_goto hC (off := 4) 119 (by decide +kernel) (by decide) ?_
      exact P119  a1 s0 (nI 1) (h.1 31 a1.toNatClampNeg) (a1 + (nI 1)) h T E
  have P90 : ∀ (a1 : Int32) (h : z_H), tk_X8_tread_90  a1 h → fn_X8_tread_90  a1 h = RR → z_G p l e R s m args below meth c D dA ad 4 (z_PV RR) (z_m ext) 90 [some (.ref 20), some (.int a1), none, none] [] h := by
    intro  a1 h T E
    unfold tk_X8_tread_90 at T; unfold fn_X8_tread_90 at E
    refine z_go hC (pc' := 91) (ls' := [some (.ref 20), some (.int a1), none, none]) (st' := [.int (nI 0)]) (h' := h) (cs := []) [.iconst 0] (by decide +kernel) rfl rfl trivial ?_
    exact P91  a1 (nI 0) h T E
  have P81 : ∀ (a1 : Int32) (a2 : Int32) (s0 : Int32) (h : z_H), tk_X8_tread_81  a1 a2 s0 h → fn_X8_tread_81  a1 a2 s0 h = RR → z_G p l e R s m args below meth c D dA ad 4 (z_PV RR) (z_m ext) 81 [some (.ref 20), some (.int a1), some (.int a2), none] [.int s0, .ref 27] h := by
    intro  a1 a2 s0 h T E
    unfold tk_X8_tread_81 at T; unfold fn_X8_tread_81 at E
    obtain ⟨t10, T⟩ := T
    refine z_go hC (pc' := 83) (ls' := [some (.ref 20), some (.int a1), some (.int a2), none]) (st' := [.int a2, .int (h.1 27 s0.toNatClampNeg)]) (h' := h) (cs := [vp_in s0 40]) [.iaload, .iload_n 2] (by decide +kernel) rfl rfl t10 ?_
    refine z_icmp_ne hC (off := 7) 90 (by decide +kernel) (by decide) (fun c11 => ?_) (fun c11 => ?_)
    · skip
      have E := (if_neg c11).symm.trans E
      have T := T.2 c11
      refine z_less (ls' := [some (.ref 20), some (.int a1), none, none]) (by simp [z_sub]) ?_
      exact P90  a1 h T E
    · skip
      have E := (if_pos c11).symm.trans E
      have T := T.1 c11
      refine z_go hC (pc' := 87) (ls' := [some (.ref 20), some (.int a1), some (.int a2), none]) (st' := [.int (nI 1)]) (h' := h) (cs := []) [.iconst 1] (by decide +kernel) rfl rfl trivial ?_
      refine z_goto hC (off := 4) 91 (by decide +kernel) (by decide) ?_
      refine z_less (ls' := [some (.ref 20), some (.int a1), none, none]) (by simp [z_sub]) ?_
      exact P91  a1 (nI 1) h T E
  have P39 : ∀ (a1 : Int32) (a2 : Int32) (s0 : Int32) (s1 : Int32) (s2 : Int32) (h : z_H), tk_X8_tread_39  a1 a2 s0 s1 s2 h → fn_X8_tread_39  a1 a2 s0 s1 s2 h = RR → z_G p l e R s m args below meth c D dA ad 4 (z_PV RR) (z_m ext) 39 [some (.ref 20), some (.int a1), some (.int a2), none] [.int s0, .int s1, .int s2, .ref 30] h := by
    intro  a1 a2 s0 s1 s2 h T E
    unfold tk_X8_tread_39 at T; unfold fn_X8_tread_39 at E
    obtain ⟨t12, t13, T⟩ := T
    refine z_go hC (pc' := 51) (ls' := [some (.ref 20), some (.int a1), some (.int a2), none]) (st' := [.int (h.1 20 8), .int (h.1 32 a1.toNatClampNeg)]) (h' := z_set h 30 s2.toNatClampNeg (s1 + s0)) (cs := [vp_in s2 8, vp_in a1 8]) [.iadd, .iastore, .aload_n 0, .getfield 44, .iload_n 1, .iaload, .aload_n 0, .getfield 95] (by decide +kernel) rfl rfl ⟨t12, t13⟩ ?_
    refine z_icmp_ge hC (off := 39) 90 (by decide +kernel) (by decide) (fun c14 => ?_) (fun c14 => ?_)
    · skip
      have E := (if_pos c14).symm.trans E
      have T := T.1 c14
      refine z_less (ls' := [some (.ref 20), some (.int a1), none, none]) (by simp [z_sub]) ?_
      exact P90  a1 (z_set h 30 s2.toNatClampNeg (s1 + s0)) T E
    · skip
      have E := (if_neg c14).symm.trans E
      have T := T.2 c14
      obtain ⟨t15, T⟩ := T
      refine z_go hC (pc' := 68) (ls' := [some (.ref 20), some (.int a1), some (.int a2), none]) (st' := [.int (h.1 20 8), .int (h.1 32 a1.toNatClampNeg), .ref 27]) (h' := z_set h 30 s2.toNatClampNeg (s1 + s0)) (cs := [vp_in a1 8]) [.aload_n 0, .getfield 29, .aload_n 0, .getfield 44, .iload_n 1, .iaload, .aload_n 0, .getfield 95] (by decide +kernel) rfl rfl t15 ?_
      refine z_icmp_ge hC (off := 12) 80 (by decide +kernel) (by decide) (fun c16 => ?_) (fun c16 => ?_)
      · skip
        have E := (if_pos c16).symm.trans E
        have T := T.1 c16
        refine z_go hC (pc' := 81) (ls' := [some (.ref 20), some (.int a1), some (.int a2), none]) (st' := [.int (nI 0), .ref 27]) (h' := z_set h 30 s2.toNatClampNeg (s1 + s0)) (cs := []) [.iconst 0] (by decide +kernel) rfl rfl trivial ?_
        exact P81  a1 a2 (nI 0) (z_set h 30 s2.toNatClampNeg (s1 + s0)) T E
      · skip
        have E := (if_neg c16).symm.trans E
        have T := T.2 c16
        obtain ⟨t17, T⟩ := T
        refine z_go hC (pc' := 77) (ls' := [some (.ref 20), some (.int a1), some (.int a2), none]) (st' := [.int (h.1 32 a1.toNatClampNeg), .ref 27]) (h' := z_set h 30 s2.toNatClampNeg (s1 + s0)) (cs := [vp_in a1 8]) [.aload_n 0, .getfield 44, .iload_n 1, .iaload] (by decide +kernel) rfl rfl t17 ?_
        refine z_goto hC (off := 4) 81 (by decide +kernel) (by decide) ?_
        exact P81  a1 a2 (h.1 32 a1.toNatClampNeg) (z_set h 30 s2.toNatClampNeg (s1 + s0)) T E
  obtain ⟨t18, t19, t20, T⟩ := T
  refine z_go hC (pc' := 31) (ls' := [some (.ref 20), some (.int x), some (.int y), none]) (st' := [.int (h.1 31 x.toNatClampNeg), .int (h.1 30 x.toNatClampNeg), .int (x + (nI 1)), .ref 30]) (h' := z_set h 29 (((h.1 20 12) + x).toNatClampNeg) y) (cs := [vp_in ((h.1 20 12) + x) 50, vp_in x 8, vp_in x 8]) [.aload_n 0, .getfield 35, .aload_n 0, .getfield 111, .iload_n 1, .iadd, .iload_n 2, .iastore, .aload_n 0, .getfield 38, .iload_n 1, .iconst 1, .iadd, .aload_n 0, .getfield 38, .iload_n 1, .iaload, .aload_n 0, .getfield 41, .iload_n 1, .iaload] (by decide +kernel) rfl rfl ⟨t18, t19, t20⟩ ?_
  refine z_if_le hC (off := 7) 38 (by decide +kernel) (by decide) (fun c21 => ?_) (fun c21 => ?_)
  · skip
    have E := (if_pos c21).symm.trans E
    have T := T.1 c21
    refine z_go hC (pc' := 39) (ls' := [some (.ref 20), some (.int x), some (.int y), none]) (st' := [.int (nI 1), .int (h.1 30 x.toNatClampNeg), .int (x + (nI 1)), .ref 30]) (h' := z_set h 29 (((h.1 20 12) + x).toNatClampNeg) y) (cs := []) [.iconst 1] (by decide +kernel) rfl rfl trivial ?_
    exact P39  x y (nI 1) (h.1 30 x.toNatClampNeg) (x + (nI 1)) (z_set h 29 (((h.1 20 12) + x).toNatClampNeg) y) T E
  · skip
    have E := (if_neg c21).symm.trans E
    have T := T.2 c21
    refine z_go hC (pc' := 35) (ls' := [some (.ref 20), some (.int x), some (.int y), none]) (st' := [.int (nI 0), .int (h.1 30 x.toNatClampNeg), .int (x + (nI 1)), .ref 30]) (h' := z_set h 29 (((h.1 20 12) + x).toNatClampNeg) y) (cs := []) [.iconst 0] (by decide +kernel) rfl rfl trivial ?_
    refine z_goto hC (off := 4) 39 (by decide +kernel) (by decide) ?_
    exact P39  x y (nI 0) (h.1 30 x.toNatClampNeg) (x + (nI 1)) (z_set h 29 (((h.1 20 12) + x).toNatClampNeg) y) T E

def fn_X8_dig_96 (k71 : Int32 → Int32 → Int32 → Int32 → z_H → z_R) (a1 : Int32) (a2 : Int32) (a3 : Int32) (a4 : Int32) (h : z_H) : z_R := k71 a1 a2 (a3 + (z_bi (-1))) a4 h
def tk_X8_dig_96 (K71 : Int32 → Int32 → Int32 → Int32 → z_H → Prop) (a1 : Int32) (a2 : Int32) (a3 : Int32) (a4 : Int32) (h : z_H) : Prop := K71 a1 a2 (a3 + (z_bi (-1))) a4 h
def fn_X8_dig_207 (k71 : Int32 → Int32 → Int32 → Int32 → z_H → z_R) (a1 : Int32) (a2 : Int32) (a3 : Int32) (a4 : Int32) (h : z_H) : z_R := k71 a1 a2 a3 a4 h
def tk_X8_dig_207 (K71 : Int32 → Int32 → Int32 → Int32 → z_H → Prop) (a1 : Int32) (a2 : Int32) (a3 : Int32) (a4 : Int32) (h : z_H) : Prop := K71 a1 a2 a3 a4 h
def fn_X8_dig_194 (k71 : Int32 → Int32 → Int32 → Int32 → z_H → z_R) (a1 : Int32) (a2 : Int32) (a3 : Int32) (a6 : Int32) (s0 : Int32) (h : z_H) : z_R := if a2 = 0 then fn_X8_dig_207 k71 a1 a2 a3 s0 h else if a6 = 0 then fn_X8_dig_207 k71 a1 a2 a3 s0 h else (some (.int a3), h)
def tk_X8_dig_194 (K71 : Int32 → Int32 → Int32 → Int32 → z_H → Prop) (a1 : Int32) (a2 : Int32) (a3 : Int32) (a6 : Int32) (s0 : Int32) (h : z_H) : Prop := ((a2 = 0) → (tk_X8_dig_207 K71 a1 a2 a3 s0 h)) ∧ ((¬ a2 = 0) → (((a6 = 0) → (tk_X8_dig_207 K71 a1 a2 a3 s0 h)) ∧ ((¬ a6 = 0) → (True))))
def fn_X8_dig_192 (k71 : Int32 → Int32 → Int32 → Int32 → z_H → z_R) (a1 : Int32) (a2 : Int32) (a3 : Int32) (a4 : Int32) (a6 : Int32) (h : z_H) : z_R := fn_X8_dig_194 k71 a1 a2 a3 a6 a4 h
def tk_X8_dig_192 (K71 : Int32 → Int32 → Int32 → Int32 → z_H → Prop) (a1 : Int32) (a2 : Int32) (a3 : Int32) (a4 : Int32) (a6 : Int32) (h : z_H) : Prop := tk_X8_dig_194 K71 a1 a2 a3 a6 a4 h
def fn_X8_dig_175 (k71 : Int32 → Int32 → Int32 → Int32 → z_H → z_R) (a1 : Int32) (a2 : Int32) (a3 : Int32) (a4 : Int32) (s0 : Int32) (h : z_H) : z_R := if s0 = 0 then fn_X8_dig_192 k71 a1 a2 a3 a4 s0 h else if a3 ≤ a4 then fn_X8_dig_192 k71 a1 a2 a3 a4 s0 h else fn_X8_dig_194 k71 a1 a2 a3 s0 a3 h
def tk_X8_dig_175 (K71 : Int32 → Int32 → Int32 → Int32 → z_H → Prop) (a1 : Int32) (a2 : Int32) (a3 : Int32) (a4 : Int32) (s0 : Int32) (h : z_H) : Prop := ((s0 = 0) → (tk_X8_dig_192 K71 a1 a2 a3 a4 s0 h)) ∧ ((¬ s0 = 0) → (((a3 ≤ a4) → (tk_X8_dig_192 K71 a1 a2 a3 a4 s0 h)) ∧ ((¬ a3 ≤ a4) → (tk_X8_dig_194 K71 a1 a2 a3 s0 a3 h))))
def fn_X8_dig_170 (k71 : Int32 → Int32 → Int32 → Int32 → z_H → z_R) (a1 : Int32) (a2 : Int32) (a3 : Int32) (a4 : Int32) (h : z_H) : z_R := fn_X8_dig_175 k71 a1 a2 a3 a4 (nI 1) h
def tk_X8_dig_170 (K71 : Int32 → Int32 → Int32 → Int32 → z_H → Prop) (a1 : Int32) (a2 : Int32) (a3 : Int32) (a4 : Int32) (h : z_H) : Prop := tk_X8_dig_175 K71 a1 a2 a3 a4 (nI 1) h
def fn_X8_dig_210  (a2 : Int32) (a4 : Int32) (h : z_H) : z_R := if a2 = 0 then (some (.int a4), h) else (some (.int (-1)), h)
def tk_X8_dig_210  (a2 : Int32) (a4 : Int32) (h : z_H) : Prop := True
def fn_X8_dig_71  : Nat → Int32 → Int32 → Int32 → Int32 → z_H → z_R
  | 0, _, _, _, _, h => (none, h)
  | n + 1, a1, a2, a3, a4, h => let k71 := fun (a1_ : Int32) (a2_ : Int32) (a3_ : Int32) (a4_ : Int32) (h_ : z_H) => fn_X8_dig_71  n a1_ a2_ a3_ a4_ h_; if a3 < 0 then fn_X8_dig_210 a2 a4 h else if a1 ≤ a4 then fn_X8_dig_210 a2 a4 h else if (h.1 33 a3.toNatClampNeg) = (nI 4) then fn_X8_dig_96 k71 a1 a2 a3 a4 h else if a3 = a1 then fn_X8_dig_96 k71 a1 a2 a3 a4 h else if (z_vi0 (fn_X8_canTread a3 (z_vi0 (fn_X8_beside (h.1 29 ((((h.1 20 12) - (nI 1)) + a3).toNatClampNeg)) (h.1 33 a3.toNatClampNeg) h)) (z_set h 33 a3.toNatClampNeg ((h.1 33 a3.toNatClampNeg) + (nI 1))))) = 0 then fn_X8_dig_207 k71 a1 a2 a3 a4 (z_set h 33 a3.toNatClampNeg ((h.1 33 a3.toNatClampNeg) + (nI 1))) else if a2 = 0 then fn_X8_dig_170 k71 a1 a2 (a3 + (nI 1)) a4 ((fn_X8_tread a3 (z_vi0 (fn_X8_beside (h.1 29 ((((h.1 20 12) - (nI 1)) + a3).toNatClampNeg)) (h.1 33 a3.toNatClampNeg) h)) (z_set h 33 a3.toNatClampNeg ((h.1 33 a3.toNatClampNeg) + (nI 1)))).2) else if (((fn_X8_tread a3 (z_vi0 (fn_X8_beside (h.1 29 ((((h.1 20 12) - (nI 1)) + a3).toNatClampNeg)) (h.1 33 a3.toNatClampNeg) h)) (z_set h 33 a3.toNatClampNeg ((h.1 33 a3.toNatClampNeg) + (nI 1)))).2).1 32 ((a3 + (nI 1)).toNatClampNeg)) ≤ 0 then fn_X8_dig_175 k71 a1 a2 (a3 + (nI 1)) a4 (nI 0) ((fn_X8_tread a3 (z_vi0 (fn_X8_beside (h.1 29 ((((h.1 20 12) - (nI 1)) + a3).toNatClampNeg)) (h.1 33 a3.toNatClampNeg) h)) (z_set h 33 a3.toNatClampNeg ((h.1 33 a3.toNatClampNeg) + (nI 1)))).2) else fn_X8_dig_170 k71 a1 a2 (a3 + (nI 1)) a4 ((fn_X8_tread a3 (z_vi0 (fn_X8_beside (h.1 29 ((((h.1 20 12) - (nI 1)) + a3).toNatClampNeg)) (h.1 33 a3.toNatClampNeg) h)) (z_set h 33 a3.toNatClampNeg ((h.1 33 a3.toNatClampNeg) + (nI 1)))).2)
def tk_X8_dig_71  : Nat → Int32 → Int32 → Int32 → Int32 → z_H → Prop
  | 0, _, _, _, _, _ => False
  | n + 1, a1, a2, a3, a4, h => let K71 := fun (a1_ : Int32) (a2_ : Int32) (a3_ : Int32) (a4_ : Int32) (h_ : z_H) => tk_X8_dig_71  n a1_ a2_ a3_ a4_ h_; ((a3 < 0) → (tk_X8_dig_210 a2 a4 h)) ∧ ((¬ a3 < 0) → (((a1 ≤ a4) → (tk_X8_dig_210 a2 a4 h)) ∧ ((¬ a1 ≤ a4) → (vp_in a3 8 ∧ ((((h.1 33 a3.toNatClampNeg) = (nI 4)) → (tk_X8_dig_96 K71 a1 a2 a3 a4 h)) ∧ ((¬ (h.1 33 a3.toNatClampNeg) = (nI 4)) → (((a3 = a1) → (tk_X8_dig_96 K71 a1 a2 a3 a4 h)) ∧ ((¬ a3 = a1) → (vp_in (((h.1 20 12) - (nI 1)) + a3) 50 ∧ vp_in a3 8 ∧ (tk_X8_beside (h.1 29 ((((h.1 20 12) - (nI 1)) + a3).toNatClampNeg)) (h.1 33 a3.toNatClampNeg) h ∧ (vp_in a3 8 ∧ vp_in a3 8 ∧ (tk_X8_canTread a3 (z_vi0 (fn_X8_beside (h.1 29 ((((h.1 20 12) - (nI 1)) + a3).toNatClampNeg)) (h.1 33 a3.toNatClampNeg) h)) (z_set h 33 a3.toNatClampNeg ((h.1 33 a3.toNatClampNeg) + (nI 1))) ∧ ((((z_vi0 (fn_X8_canTread a3 (z_vi0 (fn_X8_beside (h.1 29 ((((h.1 20 12) - (nI 1)) + a3).toNatClampNeg)) (h.1 33 a3.toNatClampNeg) h)) (z_set h 33 a3.toNatClampNeg ((h.1 33 a3.toNatClampNeg) + (nI 1))))) = 0) → (tk_X8_dig_207 K71 a1 a2 a3 a4 (z_set h 33 a3.toNatClampNeg ((h.1 33 a3.toNatClampNeg) + (nI 1))))) ∧ ((¬ (z_vi0 (fn_X8_canTread a3 (z_vi0 (fn_X8_beside (h.1 29 ((((h.1 20 12) - (nI 1)) + a3).toNatClampNeg)) (h.1 33 a3.toNatClampNeg) h)) (z_set h 33 a3.toNatClampNeg ((h.1 33 a3.toNatClampNeg) + (nI 1))))) = 0) → (tk_X8_tread a3 (z_vi0 (fn_X8_beside (h.1 29 ((((h.1 20 12) - (nI 1)) + a3).toNatClampNeg)) (h.1 33 a3.toNatClampNeg) h)) (z_set h 33 a3.toNatClampNeg ((h.1 33 a3.toNatClampNeg) + (nI 1))) ∧ (((a2 = 0) → (tk_X8_dig_170 K71 a1 a2 (a3 + (nI 1)) a4 ((fn_X8_tread a3 (z_vi0 (fn_X8_beside (h.1 29 ((((h.1 20 12) - (nI 1)) + a3).toNatClampNeg)) (h.1 33 a3.toNatClampNeg) h)) (z_set h 33 a3.toNatClampNeg ((h.1 33 a3.toNatClampNeg) + (nI 1)))).2))) ∧ ((¬ a2 = 0) → (vp_in (a3 + (nI 1)) 8 ∧ ((((((fn_X8_tread a3 (z_vi0 (fn_X8_beside (h.1 29 ((((h.1 20 12) - (nI 1)) + a3).toNatClampNeg)) (h.1 33 a3.toNatClampNeg) h)) (z_set h 33 a3.toNatClampNeg ((h.1 33 a3.toNatClampNeg) + (nI 1)))).2).1 32 ((a3 + (nI 1)).toNatClampNeg)) ≤ 0) → (tk_X8_dig_175 K71 a1 a2 (a3 + (nI 1)) a4 (nI 0) ((fn_X8_tread a3 (z_vi0 (fn_X8_beside (h.1 29 ((((h.1 20 12) - (nI 1)) + a3).toNatClampNeg)) (h.1 33 a3.toNatClampNeg) h)) (z_set h 33 a3.toNatClampNeg ((h.1 33 a3.toNatClampNeg) + (nI 1)))).2))) ∧ ((¬ (((fn_X8_tread a3 (z_vi0 (fn_X8_beside (h.1 29 ((((h.1 20 12) - (nI 1)) + a3).toNatClampNeg)) (h.1 33 a3.toNatClampNeg) h)) (z_set h 33 a3.toNatClampNeg ((h.1 33 a3.toNatClampNeg) + (nI 1)))).2).1 32 ((a3 + (nI 1)).toNatClampNeg)) ≤ 0) → (tk_X8_dig_170 K71 a1 a2 (a3 + (nI 1)) a4 ((fn_X8_tread a3 (z_vi0 (fn_X8_beside (h.1 29 ((((h.1 20 12) - (nI 1)) + a3).toNatClampNeg)) (h.1 33 a3.toNatClampNeg) h)) (z_set h 33 a3.toNatClampNeg ((h.1 33 a3.toNatClampNeg) + (nI 1)))).2))))))))))))))))))))))
def fn_X8_dig_2  : Nat → Int32 → Int32 → Int32 → z_H → z_R
  | 0, _, _, _, h => (none, h)
  | n + 1, a1, a2, a3, h => let k2 := fun (a1_ : Int32) (a2_ : Int32) (a3_ : Int32) (h_ : z_H) => fn_X8_dig_2  n a1_ a2_ a3_ h_; if (h.1 20 12) ≤ a3 then fn_X8_dig_71 200000 a1 a2 (nI 0) (nI 0) (z_set (z_set (z_set (z_set h 30 ((nI 0).toNatClampNeg) (nI 0)) 31 ((nI 0).toNatClampNeg) (h.1 20 13)) 32 ((nI 0).toNatClampNeg) (nI 0)) 33 ((nI 0).toNatClampNeg) (nI 0)) else k2 a1 a2 (a3 + (nI 1)) (z_set h 29 a3.toNatClampNeg (h.1 28 ((((h.1 20 12) - (nI 1)) - a3).toNatClampNeg)))
def tk_X8_dig_2  : Nat → Int32 → Int32 → Int32 → z_H → Prop
  | 0, _, _, _, _ => False
  | n + 1, a1, a2, a3, h => let K2 := fun (a1_ : Int32) (a2_ : Int32) (a3_ : Int32) (h_ : z_H) => tk_X8_dig_2  n a1_ a2_ a3_ h_; (((h.1 20 12) ≤ a3) → (tk_X8_dig_71 200000 a1 a2 (nI 0) (nI 0) (z_set (z_set (z_set (z_set h 30 ((nI 0).toNatClampNeg) (nI 0)) 31 ((nI 0).toNatClampNeg) (h.1 20 13)) 32 ((nI 0).toNatClampNeg) (nI 0)) 33 ((nI 0).toNatClampNeg) (nI 0)))) ∧ ((¬ (h.1 20 12) ≤ a3) → (vp_in (((h.1 20 12) - (nI 1)) - a3) 37 ∧ vp_in a3 50 ∧ (K2 a1 a2 (a3 + (nI 1)) (z_set h 29 a3.toNatClampNeg (h.1 28 ((((h.1 20 12) - (nI 1)) - a3).toNatClampNeg))))))
def fn_X8_dig (x : Int32) (y : Int32) (h : z_H) : z_R := fn_X8_dig_2 200000 x y (nI 0) h
def tk_X8_dig (x : Int32) (y : Int32) (h : z_H) : Prop := tk_X8_dig_2 200000 x y (nI 0) h
set_option maxHeartbeats 4000000 in
set_option maxRecDepth 100000 in
theorem sp_X8_dig (l : Launch) (ext : z_Sh)  (h : z_H) (x : Int32) (y : Int32)  (T : tk_X8_dig x y h) : z_Sp l 4 yX8_dig cX8_dig 7 (some .int) [.ref 20, .int x, .int y] (z_m ext) h (z_PI (fn_X8_dig x y h)) := by
  refine z_enter ft_X8 (by decide +kernel) fo_X8 (Nat.le_of_ble_eq_true rfl) ?_
  intro p e R s m args below meth c D dA ad hB
  have hC := hB.1
  have hN := hB.2.1
  have hR := hB.2.2.1
  unfold tk_X8_dig at T; have E : (fn_X8_dig_2 200000 x y (nI 0) h) = fn_X8_dig x y h := rfl
  generalize fn_X8_dig x y h = RR at E ⊢
  have P96 : ∀ (k71 : Int32 → Int32 → Int32 → Int32 → z_H → z_R) (K71 : Int32 → Int32 → Int32 → Int32 → z_H → Prop) (hk71 : ∀ (a1 : Int32) (a2 : Int32) (a3 : Int32) (a4 : Int32) (h : z_H), K71 a1 a2 a3 a4 h → k71 a1 a2 a3 a4 h = RR → z_G p l e R s m args below meth c D dA ad 7 (z_PI RR) (z_m ext) 71 [some (.ref 20), some (.int a1), some (.int a2), some (.int a3), some (.int a4), none, none] [] h), ∀ (a1 : Int32) (a2 : Int32) (a3 : Int32) (a4 : Int32) (h : z_H), tk_X8_dig_96 K71 a1 a2 a3 a4 h → fn_X8_dig_96 k71 a1 a2 a3 a4 h = RR → z_G p l e R s m args below meth c D dA ad 7 (z_PI RR) (z_m ext) 96 [some (.ref 20), some (.int a1), some (.int a2), some (.int a3), some (.int a4), none, none] [] h := by
    intro k71 K71 hk71 a1 a2 a3 a4 h T E
    unfold tk_X8_dig_96 at T; unfold fn_X8_dig_96 at E
    refine z_go hC (pc' := 99) (ls' := [some (.ref 20), some (.int a1), some (.int a2), some (.int (a3 + (z_bi (-1)))), some (.int a4), none, none]) (st' := []) (h' := h) (cs := []) [.iinc 3 (-1)] (by decide +kernel) rfl rfl trivial ?_
    refine z_goto hC (off := -28) 71 (by decide +kernel) (by decide) ?_
    exact hk71 a1 a2 (a3 + (z_bi (-1))) a4 h T E
  have P207 : ∀ (k71 : Int32 → Int32 → Int32 → Int32 → z_H → z_R) (K71 : Int32 → Int32 → Int32 → Int32 → z_H → Prop) (hk71 : ∀ (a1 : Int32) (a2 : Int32) (a3 : Int32) (a4 : Int32) (h : z_H), K71 a1 a2 a3 a4 h → k71 a1 a2 a3 a4 h = RR → z_G p l e R s m args below meth c D dA ad 7 (z_PI RR) (z_m ext) 71 [some (.ref 20), some (.int a1), some (.int a2), some (.int a3), some (.int a4), none, none] [] h), ∀ (a1 : Int32) (a2 : Int32) (a3 : Int32) (a4 : Int32) (h : z_H), tk_X8_dig_207 K71 a1 a2 a3 a4 h → fn_X8_dig_207 k71 a1 a2 a3 a4 h = RR → z_G p l e R s m args below meth c D dA ad 7 (z_PI RR) (z_m ext) 207 [some (.ref 20), some (.int a1), some (.int a2), some (.int a3), some (.int a4), none, none] [] h := by
    intro k71 K71 hk71 a1 a2 a3 a4 h T E
    unfold tk_X8_dig_207 at T; unfold fn_X8_dig_207 at E
    refine z_goto hC (off := -136) 71 (by decide +kernel) (by decide) ?_
    exact hk71 a1 a2 a3 a4 h T E
  have P194 : ∀ (k71 : Int32 → Int32 → Int32 → Int32 → z_H → z_R) (K71 : Int32 → Int32 → Int32 → Int32 → z_H → Prop) (hk71 : ∀ (a1 : Int32) (a2 : Int32) (a3 : Int32) (a4 : Int32) (h : z_H), K71 a1 a2 a3 a4 h → k71 a1 a2 a3 a4 h = RR → z_G p l e R s m args below meth c D dA ad 7 (z_PI RR) (z_m ext) 71 [some (.ref 20), some (.int a1), some (.int a2), some (.int a3), some (.int a4), none, none] [] h), ∀ (a1 : Int32) (a2 : Int32) (a3 : Int32) (a6 : Int32) (s0 : Int32) (h : z_H), tk_X8_dig_194 K71 a1 a2 a3 a6 s0 h → fn_X8_dig_194 k71 a1 a2 a3 a6 s0 h = RR → z_G p l e R s m args below meth c D dA ad 7 (z_PI RR) (z_m ext) 194 [some (.ref 20), some (.int a1), some (.int a2), some (.int a3), none, none, some (.int a6)] [.int s0] h := by
    intro k71 K71 hk71 a1 a2 a3 a6 s0 h T E
    unfold tk_X8_dig_194 at T; unfold fn_X8_dig_194 at E
    refine z_go hC (pc' := 197) (ls' := [some (.ref 20), some (.int a1), some (.int a2), some (.int a3), some (.int s0), none, some (.int a6)]) (st' := [.int a2]) (h' := h) (cs := []) [.istore 4, .iload_n 2] (by decide +kernel) rfl rfl trivial ?_
    refine z_if_eq hC (off := 10) 207 (by decide +kernel) (by decide) (fun c1 => ?_) (fun c1 => ?_)
    · skip
      have E := (if_pos c1).symm.trans E
      have T := T.1 c1
      refine z_less (ls' := [some (.ref 20), some (.int a1), some (.int a2), some (.int a3), some (.int s0), none, none]) (by simp [z_sub]) ?_
      exact P207 _ _ hk71 a1 a2 a3 s0 h T E
    · skip
      have E := (if_neg c1).symm.trans E
      have T := T.2 c1
      refine z_go hC (pc' := 202) (ls' := [some (.ref 20), some (.int a1), some (.int a2), some (.int a3), some (.int s0), none, some (.int a6)]) (st' := [.int a6]) (h' := h) (cs := []) [.iload 6] (by decide +kernel) rfl rfl trivial ?_
      refine z_if_eq hC (off := 5) 207 (by decide +kernel) (by decide) (fun c2 => ?_) (fun c2 => ?_)
      · skip
        have E := (if_pos c2).symm.trans E
        have T := T.1 c2
        refine z_less (ls' := [some (.ref 20), some (.int a1), some (.int a2), some (.int a3), some (.int s0), none, none]) (by simp [z_sub]) ?_
        exact P207 _ _ hk71 a1 a2 a3 s0 h T E
      · skip
        have E := (if_neg c2).symm.trans E
        have T := T.2 c2
        refine z_go hC (pc' := 206) (ls' := [some (.ref 20), some (.int a1), some (.int a2), some (.int a3), some (.int s0), none, some (.int a6)]) (st' := [.int a3]) (h' := h) (cs := []) [.iload_n 3] (by decide +kernel) rfl rfl trivial ?_
        exact z_ret_i hB rfl (by decide +kernel) (z_lfi E)
  have P192 : ∀ (k71 : Int32 → Int32 → Int32 → Int32 → z_H → z_R) (K71 : Int32 → Int32 → Int32 → Int32 → z_H → Prop) (hk71 : ∀ (a1 : Int32) (a2 : Int32) (a3 : Int32) (a4 : Int32) (h : z_H), K71 a1 a2 a3 a4 h → k71 a1 a2 a3 a4 h = RR → z_G p l e R s m args below meth c D dA ad 7 (z_PI RR) (z_m ext) 71 [some (.ref 20), some (.int a1), some (.int a2), some (.int a3), some (.int a4), none, none] [] h), ∀ (a1 : Int32) (a2 : Int32) (a3 : Int32) (a4 : Int32) (a6 : Int32) (h : z_H), tk_X8_dig_192 K71 a1 a2 a3 a4 a6 h → fn_X8_dig_192 k71 a1 a2 a3 a4 a6 h = RR → z_G p l e R s m args below meth c D dA ad 7 (z_PI RR) (z_m ext) 192 [some (.ref 20), some (.int a1), some (.int a2), some (.int a3), some (.int a4), none, some (.int a6)] [] h := by
    intro k71 K71 hk71 a1 a2 a3 a4 a6 h T E
    unfold tk_X8_dig_192 at T; unfold fn_X8_dig_192 at E
    refine z_go hC (pc' := 194) (ls' := [some (.ref 20), some (.int a1), some (.int a2), some (.int a3), some (.int a4), none, some (.int a6)]) (st' := [.int a4]) (h' := h) (cs := []) [.iload 4] (by decide +kernel) rfl rfl trivial ?_
    refine z_less (ls' := [some (.ref 20), some (.int a1), some (.int a2), some (.int a3), none, none, some (.int a6)]) (by simp [z_sub]) ?_
    exact P194 _ _ hk71 a1 a2 a3 a6 a4 h T E
  have P175 : ∀ (k71 : Int32 → Int32 → Int32 → Int32 → z_H → z_R) (K71 : Int32 → Int32 → Int32 → Int32 → z_H → Prop) (hk71 : ∀ (a1 : Int32) (a2 : Int32) (a3 : Int32) (a4 : Int32) (h : z_H), K71 a1 a2 a3 a4 h → k71 a1 a2 a3 a4 h = RR → z_G p l e R s m args below meth c D dA ad 7 (z_PI RR) (z_m ext) 71 [some (.ref 20), some (.int a1), some (.int a2), some (.int a3), some (.int a4), none, none] [] h), ∀ (a1 : Int32) (a2 : Int32) (a3 : Int32) (a4 : Int32) (s0 : Int32) (h : z_H), tk_X8_dig_175 K71 a1 a2 a3 a4 s0 h → fn_X8_dig_175 k71 a1 a2 a3 a4 s0 h = RR → z_G p l e R s m args below meth c D dA ad 7 (z_PI RR) (z_m ext) 175 [some (.ref 20), some (.int a1), some (.int a2), some (.int a3), some (.int a4), none, none] [.int s0] h := by
    intro k71 K71 hk71 a1 a2 a3 a4 s0 h T E
    unfold tk_X8_dig_175 at T; unfold fn_X8_dig_175 at E
    refine z_go hC (pc' := 179) (ls' := [some (.ref 20), some (.int a1), some (.int a2), some (.int a3), some (.int a4), none, some (.int s0)]) (st' := [.int s0]) (h' := h) (cs := []) [.istore 6, .iload 6] (by decide +kernel) rfl rfl trivial ?_
    refine z_if_eq hC (off := 13) 192 (by decide +kernel) (by decide) (fun c3 => ?_) (fun c3 => ?_)
    · skip
      have E := (if_pos c3).symm.trans E
      have T := T.1 c3
      exact P192 _ _ hk71 a1 a2 a3 a4 s0 h T E
    · skip
      have E := (if_neg c3).symm.trans E
      have T := T.2 c3
      refine z_go hC (pc' := 185) (ls' := [some (.ref 20), some (.int a1), some (.int a2), some (.int a3), some (.int a4), none, some (.int s0)]) (st' := [.int a4, .int a3]) (h' := h) (cs := []) [.iload_n 3, .iload 4] (by decide +kernel) rfl rfl trivial ?_
      refine z_icmp_le hC (off := 7) 192 (by decide +kernel) (by decide) (fun c4 => ?_) (fun c4 => ?_)
      · skip
        have E := (if_pos c4).symm.trans E
        have T := T.1 c4
        exact P192 _ _ hk71 a1 a2 a3 a4 s0 h T E
      · skip
        have E := (if_neg c4).symm.trans E
        have T := T.2 c4
        refine z_go hC (pc' := 189) (ls' := [some (.ref 20), some (.int a1), some (.int a2), some (.int a3), some (.int a4), none, some (.int s0)]) (st' := [.int a3]) (h' := h) (cs := []) [.iload_n 3] (by decide +kernel) rfl rfl trivial ?_
        refine z_goto hC (off := 5) 194 (by decide +kernel) (by decide) ?_
        refine z_less (ls' := [some (.ref 20), some (.int a1), some (.int a2), some (.int a3), none, none, some (.int s0)]) (by simp [z_sub]) ?_
        exact P194 _ _ hk71 a1 a2 a3 s0 a3 h T E
  have P170 : ∀ (k71 : Int32 → Int32 → Int32 → Int32 → z_H → z_R) (K71 : Int32 → Int32 → Int32 → Int32 → z_H → Prop) (hk71 : ∀ (a1 : Int32) (a2 : Int32) (a3 : Int32) (a4 : Int32) (h : z_H), K71 a1 a2 a3 a4 h → k71 a1 a2 a3 a4 h = RR → z_G p l e R s m args below meth c D dA ad 7 (z_PI RR) (z_m ext) 71 [some (.ref 20), some (.int a1), some (.int a2), some (.int a3), some (.int a4), none, none] [] h), ∀ (a1 : Int32) (a2 : Int32) (a3 : Int32) (a4 : Int32) (h : z_H), tk_X8_dig_170 K71 a1 a2 a3 a4 h → fn_X8_dig_170 k71 a1 a2 a3 a4 h = RR → z_G p l e R s m args below meth c D dA ad 7 (z_PI RR) (z_m ext) 170 [some (.ref 20), some (.int a1), some (.int a2), some (.int a3), some (.int a4), none, none] [] h := by
    intro k71 K71 hk71 a1 a2 a3 a4 h T E
    unfold tk_X8_dig_170 at T; unfold fn_X8_dig_170 at E
    refine z_go hC (pc' := 171) (ls' := [some (.ref 20), some (.int a1), some (.int a2), some (.int a3), some (.int a4), none, none]) (st' := [.int (nI 1)]) (h' := h) (cs := []) [.iconst 1] (by decide +kernel) rfl rfl trivial ?_
    refine z_goto hC (off := 4) 175 (by decide +kernel) (by decide) ?_
    exact P175 _ _ hk71 a1 a2 a3 a4 (nI 1) h T E
  have P210 : ∀ (a2 : Int32) (a4 : Int32) (h : z_H), tk_X8_dig_210  a2 a4 h → fn_X8_dig_210  a2 a4 h = RR → z_G p l e R s m args below meth c D dA ad 7 (z_PI RR) (z_m ext) 210 [none, none, some (.int a2), none, some (.int a4), none, none] [] h := by
    intro  a2 a4 h T E
    unfold tk_X8_dig_210 at T; unfold fn_X8_dig_210 at E
    refine z_go hC (pc' := 211) (ls' := [none, none, some (.int a2), none, some (.int a4), none, none]) (st' := [.int a2]) (h' := h) (cs := []) [.iload_n 2] (by decide +kernel) rfl rfl trivial ?_
    refine z_if_eq hC (off := 7) 218 (by decide +kernel) (by decide) (fun c5 => ?_) (fun c5 => ?_)
    · skip
      have E := (if_pos c5).symm.trans E
      refine z_go hC (pc' := 220) (ls' := [none, none, some (.int a2), none, some (.int a4), none, none]) (st' := [.int a4]) (h' := h) (cs := []) [.iload 4] (by decide +kernel) rfl rfl trivial ?_
      exact z_ret_i hB rfl (by decide +kernel) (z_lfi E)
    · skip
      have E := (if_neg c5).symm.trans E
      refine z_go hC (pc' := 215) (ls' := [none, none, some (.int a2), none, some (.int a4), none, none]) (st' := [.int (-1)]) (h' := h) (cs := []) [.iconst (-1)] (by decide +kernel) rfl rfl trivial ?_
      refine z_goto hC (off := 5) 220 (by decide +kernel) (by decide) ?_
      exact z_ret_i hB rfl (by decide +kernel) (z_lfi E)
  have P71 : ∀ (n : Nat), ∀ (a1 : Int32) (a2 : Int32) (a3 : Int32) (a4 : Int32) (h : z_H), tk_X8_dig_71  n a1 a2 a3 a4 h → fn_X8_dig_71  n a1 a2 a3 a4 h = RR → z_G p l e R s m args below meth c D dA ad 7 (z_PI RR) (z_m ext) 71 [some (.ref 20), some (.int a1), some (.int a2), some (.int a3), some (.int a4), none, none] [] h := by
    intro  n
    induction n with
    | zero => intro a1 a2 a3 a4 h T E; exact False.elim T
    | succ n ih =>
      intro a1 a2 a3 a4 h T E
      unfold tk_X8_dig_71 at T; unfold fn_X8_dig_71 at E; dsimp only at T E
      have hk71 := ih
      refine z_go hC (pc' := 72) (ls' := [some (.ref 20), some (.int a1), some (.int a2), some (.int a3), some (.int a4), none, none]) (st' := [.int a3]) (h' := h) (cs := []) [.iload_n 3] (by decide +kernel) rfl rfl trivial ?_
      refine z_if_lt hC (off := 138) 210 (by decide +kernel) (by decide) (fun c6 => ?_) (fun c6 => ?_)
      · skip
        have E := (if_pos c6).symm.trans E
        have T := T.1 c6
        refine z_less (ls' := [none, none, some (.int a2), none, some (.int a4), none, none]) (by simp [z_sub]) ?_
        exact P210  a2 a4 h T E
      · skip
        have E := (if_neg c6).symm.trans E
        have T := T.2 c6
        refine z_go hC (pc' := 78) (ls' := [some (.ref 20), some (.int a1), some (.int a2), some (.int a3), some (.int a4), none, none]) (st' := [.int a1, .int a4]) (h' := h) (cs := []) [.iload 4, .iload_n 1] (by decide +kernel) rfl rfl trivial ?_
        refine z_icmp_ge hC (off := 132) 210 (by decide +kernel) (by decide) (fun c7 => ?_) (fun c7 => ?_)
        · skip
          have E := (if_pos c7).symm.trans E
          have T := T.1 c7
          refine z_less (ls' := [none, none, some (.int a2), none, some (.int a4), none, none]) (by simp [z_sub]) ?_
          exact P210  a2 a4 h T E
        · skip
          have E := (if_neg c7).symm.trans E
          have T := T.2 c7
          obtain ⟨t8, T⟩ := T
          refine z_go hC (pc' := 88) (ls' := [some (.ref 20), some (.int a1), some (.int a2), some (.int a3), some (.int a4), none, none]) (st' := [.int (nI 4), .int (h.1 33 a3.toNatClampNeg)]) (h' := h) (cs := [vp_in a3 8]) [.aload_n 0, .getfield 47, .iload_n 3, .iaload, .iconst 4] (by decide +kernel) rfl rfl t8 ?_
          refine z_icmp_eq hC (off := 8) 96 (by decide +kernel) (by decide) (fun c9 => ?_) (fun c9 => ?_)
          · skip
            have E := (if_pos c9).symm.trans E
            have T := T.1 c9
            exact P96 _ _ hk71 a1 a2 a3 a4 h T E
          · skip
            have E := (if_neg c9).symm.trans E
            have T := T.2 c9
            refine z_go hC (pc' := 93) (ls' := [some (.ref 20), some (.int a1), some (.int a2), some (.int a3), some (.int a4), none, none]) (st' := [.int a1, .int a3]) (h' := h) (cs := []) [.iload_n 3, .iload_n 1] (by decide +kernel) rfl rfl trivial ?_
            refine z_icmp_ne hC (off := 9) 102 (by decide +kernel) (by decide) (fun c10 => ?_) (fun c10 => ?_)
            · skip
              have E := (if_neg c10).symm.trans E
              have T := T.2 c10
              obtain ⟨t11, t12, T⟩ := T
              refine z_go hC (pc' := 122) (ls' := [some (.ref 20), some (.int a1), some (.int a2), some (.int a3), some (.int a4), none, none]) (st' := [.int (h.1 33 a3.toNatClampNeg), .int (h.1 29 ((((h.1 20 12) - (nI 1)) + a3).toNatClampNeg)), .ref 20]) (h' := h) (cs := [vp_in (((h.1 20 12) - (nI 1)) + a3) 50, vp_in a3 8]) [.aload_n 0, .aload_n 0, .getfield 35, .aload_n 0, .getfield 111, .iconst 1, .isub, .iload_n 3, .iadd, .iaload, .aload_n 0, .getfield 47, .iload_n 3, .iaload] (by decide +kernel) rfl rfl ⟨t11, t12⟩ ?_
              obtain ⟨t16, T⟩ := T
              refine z_callV hC hN hR (as := [.int (h.1 29 ((((h.1 20 12) - (nI 1)) + a3).toNatClampNeg)), .int (h.1 33 a3.toNatClampNeg)]) (rest := []) ok_X8_117 (by decide +kernel) (sp_X8_beside l _ h (h.1 29 ((((h.1 20 12) - (nI 1)) + a3).toNatClampNeg)) (h.1 33 a3.toNatClampNeg) t16) rfl rfl (Nat.le_of_ble_eq_true rfl) rfl rfl (Nat.le_of_ble_eq_true rfl) ⟨Nat.zero_le _, Nat.zero_le _⟩ (fun r13 h14 q15 => z_fun q15 ?_)
              obtain ⟨t17, t18, T⟩ := T
              refine z_go hC (pc' := 141) (ls' := [some (.ref 20), some (.int a1), some (.int a2), some (.int a3), some (.int a4), some (.int (z_vi0 (fn_X8_beside (h.1 29 ((((h.1 20 12) - (nI 1)) + a3).toNatClampNeg)) (h.1 33 a3.toNatClampNeg) h))), none]) (st' := [.int (z_vi0 (fn_X8_beside (h.1 29 ((((h.1 20 12) - (nI 1)) + a3).toNatClampNeg)) (h.1 33 a3.toNatClampNeg) h)), .int a3, .ref 20]) (h' := z_set h 33 a3.toNatClampNeg ((h.1 33 a3.toNatClampNeg) + (nI 1))) (cs := [vp_in a3 8, vp_in a3 8]) [.istore 5, .aload_n 0, .getfield 47, .iload_n 3, .dup2, .iaload, .iconst 1, .iadd, .iastore, .aload_n 0, .iload_n 3, .iload 5] (by decide +kernel) rfl rfl ⟨t17, t18⟩ ?_
              obtain ⟨t22, T⟩ := T
              refine z_callV hC hN hR (as := [.int a3, .int (z_vi0 (fn_X8_beside (h.1 29 ((((h.1 20 12) - (nI 1)) + a3).toNatClampNeg)) (h.1 33 a3.toNatClampNeg) h))]) (rest := []) ok_X8_156 (by decide +kernel) (sp_X8_canTread l _ (z_set h 33 a3.toNatClampNeg ((h.1 33 a3.toNatClampNeg) + (nI 1))) a3 (z_vi0 (fn_X8_beside (h.1 29 ((((h.1 20 12) - (nI 1)) + a3).toNatClampNeg)) (h.1 33 a3.toNatClampNeg) h)) t22) rfl rfl (Nat.le_of_ble_eq_true rfl) rfl rfl (Nat.le_of_ble_eq_true rfl) ⟨Nat.zero_le _, Nat.zero_le _⟩ (fun r19 h20 q21 => z_funb q21 (fun z23 => ?_))
              refine z_if_eq hC (off := 63) 207 (by decide +kernel) (by decide) (fun c24 => ?_) (fun c24 => ?_)
              · skip
                have E := (if_pos c24).symm.trans E
                have T := T.1 c24
                refine z_less (ls' := [some (.ref 20), some (.int a1), some (.int a2), some (.int a3), some (.int a4), none, none]) (by simp [z_sub]) ?_
                exact P207 _ _ hk71 a1 a2 a3 a4 (z_set h 33 a3.toNatClampNeg ((h.1 33 a3.toNatClampNeg) + (nI 1))) T E
              · skip
                have E := (if_neg c24).symm.trans E
                have T := T.2 c24
                refine z_go hC (pc' := 151) (ls' := [some (.ref 20), some (.int a1), some (.int a2), some (.int a3), some (.int a4), some (.int (z_vi0 (fn_X8_beside (h.1 29 ((((h.1 20 12) - (nI 1)) + a3).toNatClampNeg)) (h.1 33 a3.toNatClampNeg) h))), none]) (st' := [.int (z_vi0 (fn_X8_beside (h.1 29 ((((h.1 20 12) - (nI 1)) + a3).toNatClampNeg)) (h.1 33 a3.toNatClampNeg) h)), .int a3, .ref 20]) (h' := z_set h 33 a3.toNatClampNeg ((h.1 33 a3.toNatClampNeg) + (nI 1))) (cs := []) [.aload_n 0, .iload_n 3, .iload 5] (by decide +kernel) rfl rfl trivial ?_
                obtain ⟨t28, T⟩ := T
                refine z_callV hC hN hR (as := [.int a3, .int (z_vi0 (fn_X8_beside (h.1 29 ((((h.1 20 12) - (nI 1)) + a3).toNatClampNeg)) (h.1 33 a3.toNatClampNeg) h))]) (rest := []) ok_X8_159 (by decide +kernel) (sp_X8_tread l _ (z_set h 33 a3.toNatClampNeg ((h.1 33 a3.toNatClampNeg) + (nI 1))) a3 (z_vi0 (fn_X8_beside (h.1 29 ((((h.1 20 12) - (nI 1)) + a3).toNatClampNeg)) (h.1 33 a3.toNatClampNeg) h)) t28) rfl rfl (Nat.le_of_ble_eq_true rfl) rfl rfl (Nat.le_of_ble_eq_true rfl) ⟨Nat.zero_le _, Nat.zero_le _⟩ (fun r25 h26 q27 => z_fun q27 ?_)
                refine z_go hC (pc' := 158) (ls' := [some (.ref 20), some (.int a1), some (.int a2), some (.int (a3 + (nI 1))), some (.int a4), some (.int (z_vi0 (fn_X8_beside (h.1 29 ((((h.1 20 12) - (nI 1)) + a3).toNatClampNeg)) (h.1 33 a3.toNatClampNeg) h))), none]) (st' := [.int a2]) (h' := (fn_X8_tread a3 (z_vi0 (fn_X8_beside (h.1 29 ((((h.1 20 12) - (nI 1)) + a3).toNatClampNeg)) (h.1 33 a3.toNatClampNeg) h)) (z_set h 33 a3.toNatClampNeg ((h.1 33 a3.toNatClampNeg) + (nI 1)))).2) (cs := []) [.iinc 3 1, .iload_n 2] (by decide +kernel) rfl rfl trivial ?_
                refine z_if_eq hC (off := 12) 170 (by decide +kernel) (by decide) (fun c29 => ?_) (fun c29 => ?_)
                · skip
                  have E := (if_pos c29).symm.trans E
                  have T := T.1 c29
                  refine z_less (ls' := [some (.ref 20), some (.int a1), some (.int a2), some (.int (a3 + (nI 1))), some (.int a4), none, none]) (by simp [z_sub]) ?_
                  exact P170 _ _ hk71 a1 a2 (a3 + (nI 1)) a4 ((fn_X8_tread a3 (z_vi0 (fn_X8_beside (h.1 29 ((((h.1 20 12) - (nI 1)) + a3).toNatClampNeg)) (h.1 33 a3.toNatClampNeg) h)) (z_set h 33 a3.toNatClampNeg ((h.1 33 a3.toNatClampNeg) + (nI 1)))).2) T E
                · skip
                  have E := (if_neg c29).symm.trans E
                  have T := T.2 c29
                  obtain ⟨t30, T⟩ := T
                  refine z_go hC (pc' := 167) (ls' := [some (.ref 20), some (.int a1), some (.int a2), some (.int (a3 + (nI 1))), some (.int a4), some (.int (z_vi0 (fn_X8_beside (h.1 29 ((((h.1 20 12) - (nI 1)) + a3).toNatClampNeg)) (h.1 33 a3.toNatClampNeg) h))), none]) (st' := [.int (((fn_X8_tread a3 (z_vi0 (fn_X8_beside (h.1 29 ((((h.1 20 12) - (nI 1)) + a3).toNatClampNeg)) (h.1 33 a3.toNatClampNeg) h)) (z_set h 33 a3.toNatClampNeg ((h.1 33 a3.toNatClampNeg) + (nI 1)))).2).1 32 ((a3 + (nI 1)).toNatClampNeg))]) (h' := (fn_X8_tread a3 (z_vi0 (fn_X8_beside (h.1 29 ((((h.1 20 12) - (nI 1)) + a3).toNatClampNeg)) (h.1 33 a3.toNatClampNeg) h)) (z_set h 33 a3.toNatClampNeg ((h.1 33 a3.toNatClampNeg) + (nI 1)))).2) (cs := [vp_in (a3 + (nI 1)) 8]) [.aload_n 0, .getfield 44, .iload_n 3, .iaload] (by decide +kernel) rfl rfl t30 ?_
                  refine z_if_le hC (off := 7) 174 (by decide +kernel) (by decide) (fun c31 => ?_) (fun c31 => ?_)
                  · skip
                    have E := (if_pos c31).symm.trans E
                    have T := T.1 c31
                    refine z_go hC (pc' := 175) (ls' := [some (.ref 20), some (.int a1), some (.int a2), some (.int (a3 + (nI 1))), some (.int a4), some (.int (z_vi0 (fn_X8_beside (h.1 29 ((((h.1 20 12) - (nI 1)) + a3).toNatClampNeg)) (h.1 33 a3.toNatClampNeg) h))), none]) (st' := [.int (nI 0)]) (h' := (fn_X8_tread a3 (z_vi0 (fn_X8_beside (h.1 29 ((((h.1 20 12) - (nI 1)) + a3).toNatClampNeg)) (h.1 33 a3.toNatClampNeg) h)) (z_set h 33 a3.toNatClampNeg ((h.1 33 a3.toNatClampNeg) + (nI 1)))).2) (cs := []) [.iconst 0] (by decide +kernel) rfl rfl trivial ?_
                    refine z_less (ls' := [some (.ref 20), some (.int a1), some (.int a2), some (.int (a3 + (nI 1))), some (.int a4), none, none]) (by simp [z_sub]) ?_
                    exact P175 _ _ hk71 a1 a2 (a3 + (nI 1)) a4 (nI 0) ((fn_X8_tread a3 (z_vi0 (fn_X8_beside (h.1 29 ((((h.1 20 12) - (nI 1)) + a3).toNatClampNeg)) (h.1 33 a3.toNatClampNeg) h)) (z_set h 33 a3.toNatClampNeg ((h.1 33 a3.toNatClampNeg) + (nI 1)))).2) T E
                  · skip
                    have E := (if_neg c31).symm.trans E
                    have T := T.2 c31
                    refine z_less (ls' := [some (.ref 20), some (.int a1), some (.int a2), some (.int (a3 + (nI 1))), some (.int a4), none, none]) (by simp [z_sub]) ?_
                    exact P170 _ _ hk71 a1 a2 (a3 + (nI 1)) a4 ((fn_X8_tread a3 (z_vi0 (fn_X8_beside (h.1 29 ((((h.1 20 12) - (nI 1)) + a3).toNatClampNeg)) (h.1 33 a3.toNatClampNeg) h)) (z_set h 33 a3.toNatClampNeg ((h.1 33 a3.toNatClampNeg) + (nI 1)))).2) T E
            · skip
              have E := (if_pos c10).symm.trans E
              have T := T.1 c10
              exact P96 _ _ hk71 a1 a2 a3 a4 h T E
  have P2 : ∀ (n : Nat), ∀ (a1 : Int32) (a2 : Int32) (a3 : Int32) (h : z_H), tk_X8_dig_2  n a1 a2 a3 h → fn_X8_dig_2  n a1 a2 a3 h = RR → z_G p l e R s m args below meth c D dA ad 7 (z_PI RR) (z_m ext) 2 [some (.ref 20), some (.int a1), some (.int a2), some (.int a3), none, none, none] [] h := by
    intro  n
    induction n with
    | zero => intro a1 a2 a3 h T E; exact False.elim T
    | succ n ih =>
      intro a1 a2 a3 h T E
      unfold tk_X8_dig_2 at T; unfold fn_X8_dig_2 at E; dsimp only at T E
      have hk2 := ih
      refine z_go hC (pc' := 7) (ls' := [some (.ref 20), some (.int a1), some (.int a2), some (.int a3), none, none, none]) (st' := [.int (h.1 20 12), .int a3]) (h' := h) (cs := []) [.iload_n 3, .aload_n 0, .getfield 111] (by decide +kernel) rfl rfl trivial ?_
      refine z_icmp_ge hC (off := 28) 35 (by decide +kernel) (by decide) (fun c32 => ?_) (fun c32 => ?_)
      · skip
        have E := (if_pos c32).symm.trans E
        have T := T.1 c32
        refine z_go hC (pc' := 71) (ls' := [some (.ref 20), some (.int a1), some (.int a2), some (.int (nI 0)), some (.int (nI 0)), none, none]) (st' := []) (h' := z_set (z_set (z_set (z_set h 30 ((nI 0).toNatClampNeg) (nI 0)) 31 ((nI 0).toNatClampNeg) (h.1 20 13)) 32 ((nI 0).toNatClampNeg) (nI 0)) 33 ((nI 0).toNatClampNeg) (nI 0)) (cs := [vp_in (nI 0) 8, vp_in (nI 0) 8, vp_in (nI 0) 8, vp_in (nI 0) 8]) [.aload_n 0, .getfield 38, .iconst 0, .iconst 0, .iastore, .aload_n 0, .getfield 41, .iconst 0, .aload_n 0, .getfield 114, .iastore, .aload_n 0, .getfield 44, .iconst 0, .iconst 0, .iastore, .aload_n 0, .getfield 47, .iconst 0, .iconst 0, .iastore, .iconst 0, .istore_n 3, .iconst 0, .istore 4] (by decide +kernel) rfl rfl ⟨(vp_in_nI (n := 0) (N := 8) (by decide) (by decide)), (vp_in_nI (n := 0) (N := 8) (by decide) (by decide)), (vp_in_nI (n := 0) (N := 8) (by decide) (by decide)), (vp_in_nI (n := 0) (N := 8) (by decide) (by decide))⟩ ?_
        exact P71 200000 a1 a2 (nI 0) (nI 0) (z_set (z_set (z_set (z_set h 30 ((nI 0).toNatClampNeg) (nI 0)) 31 ((nI 0).toNatClampNeg) (h.1 20 13)) 32 ((nI 0).toNatClampNeg) (nI 0)) 33 ((nI 0).toNatClampNeg) (nI 0)) T E
      · skip
        have E := (if_neg c32).symm.trans E
        have T := T.2 c32
        obtain ⟨t33, t34, T⟩ := T
        refine z_go hC (pc' := 32) (ls' := [some (.ref 20), some (.int a1), some (.int a2), some (.int (a3 + (nI 1))), none, none, none]) (st' := []) (h' := z_set h 29 a3.toNatClampNeg (h.1 28 ((((h.1 20 12) - (nI 1)) - a3).toNatClampNeg))) (cs := [vp_in (((h.1 20 12) - (nI 1)) - a3) 37, vp_in a3 50]) [.aload_n 0, .getfield 35, .iload_n 3, .aload_n 0, .getfield 32, .aload_n 0, .getfield 111, .iconst 1, .isub, .iload_n 3, .isub, .iaload, .iastore, .iinc 3 1] (by decide +kernel) rfl rfl ⟨t33, t34⟩ ?_
        refine z_goto hC (off := -30) 2 (by decide +kernel) (by decide) ?_
        exact hk2 a1 a2 (a3 + (nI 1)) (z_set h 29 a3.toNatClampNeg (h.1 28 ((((h.1 20 12) - (nI 1)) - a3).toNatClampNeg))) T E
  refine z_go hC (pc' := 2) (ls' := [some (.ref 20), some (.int x), some (.int y), some (.int (nI 0)), none, none, none]) (st' := []) (h' := h) (cs := []) [.iconst 0, .istore_n 3] (by decide +kernel) rfl rfl trivial ?_
  exact P2 200000 x y (nI 0) h T E

def fn_X8_livesFor_27  (a1 : Int32) (s0 : Int32) (h : z_H) : z_R := if (fv_X8_goesWell h s0) = 0 then (some (.int (nI 0)), fh_X8_goesWell h s0) else (some (.int (z_vi (fn_X8_dig a1 (nI 0) (fh_X8_goesWell h s0)))), (fn_X8_dig a1 (nI 0) (fh_X8_goesWell h s0)).2)
def tk_X8_livesFor_27  (a1 : Int32) (s0 : Int32) (h : z_H) : Prop := (((fv_X8_goesWell h s0) = 0) → (True)) ∧ ((¬ (fv_X8_goesWell h s0) = 0) → (tk_X8_dig a1 (nI 0) (fh_X8_goesWell h s0)))
def fn_X8_livesFor (x : Int32) (h : z_H) : z_R := if (fv_X8_in x (nI 1) (nI 6)) = 0 then fn_X8_livesFor_27 x (nI 1) h else if (fv_X8_lives h ) = 0 then fn_X8_livesFor_27 x (nI 2) h else fn_X8_livesFor_27 x (nI 0) h
def tk_X8_livesFor (x : Int32) (h : z_H) : Prop := (((fv_X8_in x (nI 1) (nI 6)) = 0) → (tk_X8_livesFor_27 x (nI 1) h)) ∧ ((¬ (fv_X8_in x (nI 1) (nI 6)) = 0) → ((((fv_X8_lives h ) = 0) → (tk_X8_livesFor_27 x (nI 2) h)) ∧ ((¬ (fv_X8_lives h ) = 0) → (tk_X8_livesFor_27 x (nI 0) h))))
set_option maxHeartbeats 4000000 in
set_option maxRecDepth 100000 in
theorem sp_X8_livesFor (l : Launch) (ext : z_Sh)  (h : z_H) (x : Int32)  (T : tk_X8_livesFor x h) : z_Sp l 5 yX8_livesFor cX8_livesFor 2 (some .int) [.ref 20, .int x] (z_m ext) h (z_PI (fn_X8_livesFor x h)) := by
  refine z_enter ft_X8 (by decide +kernel) fo_X8 (Nat.le_of_ble_eq_true rfl) ?_
  intro p e R s m args below meth c D dA ad hB
  have hC := hB.1
  have hN := hB.2.1
  have hR := hB.2.2.1
  unfold tk_X8_livesFor at T; have E : (if (fv_X8_in x (nI 1) (nI 6)) = 0 then fn_X8_livesFor_27 x (nI 1) h else if (fv_X8_lives h ) = 0 then fn_X8_livesFor_27 x (nI 2) h else fn_X8_livesFor_27 x (nI 0) h) = fn_X8_livesFor x h := rfl
  generalize fn_X8_livesFor x h = RR at E ⊢
  have P27 : ∀ (a1 : Int32) (s0 : Int32) (h : z_H), tk_X8_livesFor_27  a1 s0 h → fn_X8_livesFor_27  a1 s0 h = RR → z_G p l e R s m args below meth c D dA ad 2 (z_PI RR) (z_m ext) 27 [some (.ref 20), some (.int a1)] [.int s0, .ref 20] h := by
    intro  a1 s0 h T E
    unfold tk_X8_livesFor_27 at T; unfold fn_X8_livesFor_27 at E
    refine z_callV hC hN hR (as := [.int s0]) (rest := []) ok_X8_98 (by decide +kernel) (sp_X8_goesWell l _ h s0) rfl rfl (Nat.le_of_ble_eq_true rfl) rfl rfl (Nat.le_of_ble_eq_true rfl) ⟨Nat.zero_le _, Nat.zero_le _⟩ (fun r1 h2 q3 => z_fun q3 ?_)
    refine z_if_eq hC (off := 12) 42 (by decide +kernel) (by decide) (fun c4 => ?_) (fun c4 => ?_)
    · skip
      have E := (if_pos c4).symm.trans E
      have T := T.1 c4
      refine z_go hC (pc' := 43) (ls' := [some (.ref 20), some (.int a1)]) (st' := [.int (nI 0)]) (h' := fh_X8_goesWell h s0) (cs := []) [.iconst 0] (by decide +kernel) rfl rfl trivial ?_
      exact z_ret_i hB rfl (by decide +kernel) (z_lfi E)
    · skip
      have E := (if_neg c4).symm.trans E
      have T := T.2 c4
      refine z_go hC (pc' := 36) (ls' := [some (.ref 20), some (.int a1)]) (st' := [.int (nI 0), .int a1, .ref 20]) (h' := fh_X8_goesWell h s0) (cs := []) [.aload_n 0, .iload_n 1, .iconst 0] (by decide +kernel) rfl rfl trivial ?_
      have t8 := T
      refine z_callV hC hN hR (as := [.int a1, .int (nI 0)]) (rest := []) ok_X8_163 (by decide +kernel) (sp_X8_dig l _ (fh_X8_goesWell h s0) a1 (nI 0) t8) rfl rfl (Nat.le_of_ble_eq_true rfl) rfl rfl (Nat.le_of_ble_eq_true rfl) ⟨Nat.zero_le _, Nat.zero_le _⟩ (fun r5 h6 q7 => z_fun q7 ?_)
      refine z_goto hC (off := 4) 43 (by decide +kernel) (by decide) ?_
      exact z_ret_i hB rfl (by decide +kernel) (z_lfi E)
  refine z_go hC (pc' := 5) (ls' := [some (.ref 20), some (.int x)]) (st' := [.int (nI 6), .int (nI 1), .int x, .ref 20]) (h' := h) (cs := []) [.aload_n 0, .iload_n 1, .iconst 1, .bipush 6] (by decide +kernel) rfl rfl trivial ?_
  refine z_callS hC hN hR (as := [.int x, .int (nI 1), .int (nI 6)]) (rest := [.ref 20]) ok_X8_87 (by decide +kernel) (sp_X8_in l _ h x (nI 1) (nI 6)) (Nat.le_of_ble_eq_true rfl) rfl rfl (Nat.le_of_ble_eq_true rfl) ⟨Nat.zero_le _, Nat.zero_le _⟩ (fun r9 h10 q11 => z_fun q11 ?_)
  refine z_if_ne hC (off := 7) 15 (by decide +kernel) (by decide) (fun c12 => ?_) (fun c12 => ?_)
  · skip
    have E := (if_neg c12).symm.trans E
    have T := T.2 c12
    refine z_go hC (pc' := 16) (ls' := [some (.ref 20), some (.int x)]) (st' := [.ref 20, .ref 20]) (h' := h) (cs := []) [.aload_n 0] (by decide +kernel) rfl rfl trivial ?_
    refine z_callV hC hN hR (as := []) (rest := [.ref 20]) ok_X8_126 (by decide +kernel) (sp_X8_lives l _ h ) rfl rfl (Nat.le_of_ble_eq_true rfl) rfl rfl (Nat.le_of_ble_eq_true rfl) ⟨Nat.zero_le _, Nat.zero_le _⟩ (fun r13 h14 q15 => z_fun q15 ?_)
    refine z_if_eq hC (off := 7) 26 (by decide +kernel) (by decide) (fun c16 => ?_) (fun c16 => ?_)
    · skip
      have E := (if_pos c16).symm.trans E
      have T := T.1 c16
      refine z_go hC (pc' := 27) (ls' := [some (.ref 20), some (.int x)]) (st' := [.int (nI 2), .ref 20]) (h' := h) (cs := []) [.iconst 2] (by decide +kernel) rfl rfl trivial ?_
      exact P27  x (nI 2) h T E
    · skip
      have E := (if_neg c16).symm.trans E
      have T := T.2 c16
      refine z_go hC (pc' := 23) (ls' := [some (.ref 20), some (.int x)]) (st' := [.int (nI 0), .ref 20]) (h' := h) (cs := []) [.iconst 0] (by decide +kernel) rfl rfl trivial ?_
      refine z_goto hC (off := 4) 27 (by decide +kernel) (by decide) ?_
      exact P27  x (nI 0) h T E
  · skip
    have E := (if_pos c12).symm.trans E
    have T := T.1 c12
    refine z_go hC (pc' := 12) (ls' := [some (.ref 20), some (.int x)]) (st' := [.int (nI 1), .ref 20]) (h' := h) (cs := []) [.iconst 1] (by decide +kernel) rfl rfl trivial ?_
    refine z_goto hC (off := 15) 27 (by decide +kernel) (by decide) ?_
    exact P27  x (nI 1) h T E

def fn_X8_fewestByBodies_23  : Nat → Int32 → z_H → z_R
  | 0, _, h => (none, h)
  | n + 1, a1, h => let k23 := fun (a1_ : Int32) (h_ : z_H) => fn_X8_fewestByBodies_23  n a1_ h_; if (nI 6) < a1 then (some (.int (-1)), h) else if (h.1 20 8) ≤ 0 then (some (.int (-1)), h) else if (z_vi (fn_X8_dig a1 (nI 1) h)) = (-1) then k23 (a1 + (nI 1)) ((fn_X8_dig a1 (nI 1) h).2) else (some (.int (z_vi (fn_X8_dig a1 (nI 1) h))), (fn_X8_dig a1 (nI 1) h).2)
def tk_X8_fewestByBodies_23  : Nat → Int32 → z_H → Prop
  | 0, _, _ => False
  | n + 1, a1, h => let K23 := fun (a1_ : Int32) (h_ : z_H) => tk_X8_fewestByBodies_23  n a1_ h_; (((nI 6) < a1) → (True)) ∧ ((¬ (nI 6) < a1) → ((((h.1 20 8) ≤ 0) → (True)) ∧ ((¬ (h.1 20 8) ≤ 0) → (tk_X8_dig a1 (nI 1) h ∧ ((((z_vi (fn_X8_dig a1 (nI 1) h)) = (-1)) → (K23 (a1 + (nI 1)) ((fn_X8_dig a1 (nI 1) h).2))) ∧ ((¬ (z_vi (fn_X8_dig a1 (nI 1) h)) = (-1)) → (True)))))))
def fn_X8_fewestByBodies_13  (s0 : Int32) (h : z_H) : z_R := if (fv_X8_goesWell h s0) = 0 then (some (.int (nI 0)), fh_X8_goesWell h s0) else fn_X8_fewestByBodies_23 2000 (nI 1) (fh_X8_goesWell h s0)
def tk_X8_fewestByBodies_13  (s0 : Int32) (h : z_H) : Prop := (((fv_X8_goesWell h s0) = 0) → (True)) ∧ ((¬ (fv_X8_goesWell h s0) = 0) → (tk_X8_fewestByBodies_23 2000 (nI 1) (fh_X8_goesWell h s0)))
def fn_X8_fewestByBodies  (h : z_H) : z_R := if (fv_X8_lives h ) = 0 then fn_X8_fewestByBodies_13 (nI 1) h else fn_X8_fewestByBodies_13 (nI 0) h
def tk_X8_fewestByBodies  (h : z_H) : Prop := (((fv_X8_lives h ) = 0) → (tk_X8_fewestByBodies_13 (nI 1) h)) ∧ ((¬ (fv_X8_lives h ) = 0) → (tk_X8_fewestByBodies_13 (nI 0) h))
set_option maxHeartbeats 4000000 in
set_option maxRecDepth 100000 in
theorem sp_X8_fewestByBodies (l : Launch) (ext : z_Sh)  (h : z_H)   (T : tk_X8_fewestByBodies  h) : z_Sp l 5 yX8_fewestByBodies cX8_fewestByBodies 3 (some .int) [.ref 20] (z_m ext) h (z_PI (fn_X8_fewestByBodies  h)) := by
  refine z_enter ft_X8 (by decide +kernel) fo_X8 (Nat.le_of_ble_eq_true rfl) ?_
  intro p e R s m args below meth c D dA ad hB
  have hC := hB.1
  have hN := hB.2.1
  have hR := hB.2.2.1
  unfold tk_X8_fewestByBodies at T; have E : (if (fv_X8_lives h ) = 0 then fn_X8_fewestByBodies_13 (nI 1) h else fn_X8_fewestByBodies_13 (nI 0) h) = fn_X8_fewestByBodies  h := rfl
  generalize fn_X8_fewestByBodies  h = RR at E ⊢
  have P23 : ∀ (n : Nat), ∀ (a1 : Int32) (h : z_H), tk_X8_fewestByBodies_23  n a1 h → fn_X8_fewestByBodies_23  n a1 h = RR → z_G p l e R s m args below meth c D dA ad 3 (z_PI RR) (z_m ext) 23 [some (.ref 20), some (.int a1), none] [] h := by
    intro  n
    induction n with
    | zero => intro a1 h T E; exact False.elim T
    | succ n ih =>
      intro a1 h T E
      unfold tk_X8_fewestByBodies_23 at T; unfold fn_X8_fewestByBodies_23 at E; dsimp only at T E
      have hk23 := ih
      refine z_go hC (pc' := 26) (ls' := [some (.ref 20), some (.int a1), none]) (st' := [.int (nI 6), .int a1]) (h' := h) (cs := []) [.iload_n 1, .bipush 6] (by decide +kernel) rfl rfl trivial ?_
      refine z_icmp_gt hC (off := 30) 56 (by decide +kernel) (by decide) (fun c1 => ?_) (fun c1 => ?_)
      · skip
        have E := (if_pos c1).symm.trans E
        have T := T.1 c1
        refine z_go hC (pc' := 57) (ls' := [some (.ref 20), some (.int a1), none]) (st' := [.int (-1)]) (h' := h) (cs := []) [.iconst (-1)] (by decide +kernel) rfl rfl trivial ?_
        exact z_ret_i hB rfl (by decide +kernel) (z_lfi E)
      · skip
        have E := (if_neg c1).symm.trans E
        have T := T.2 c1
        refine z_go hC (pc' := 33) (ls' := [some (.ref 20), some (.int a1), none]) (st' := [.int (h.1 20 8)]) (h' := h) (cs := []) [.aload_n 0, .getfield 95] (by decide +kernel) rfl rfl trivial ?_
        refine z_if_le hC (off := 23) 56 (by decide +kernel) (by decide) (fun c2 => ?_) (fun c2 => ?_)
        · skip
          have E := (if_pos c2).symm.trans E
          have T := T.1 c2
          refine z_go hC (pc' := 57) (ls' := [some (.ref 20), some (.int a1), none]) (st' := [.int (-1)]) (h' := h) (cs := []) [.iconst (-1)] (by decide +kernel) rfl rfl trivial ?_
          exact z_ret_i hB rfl (by decide +kernel) (z_lfi E)
        · skip
          have E := (if_neg c2).symm.trans E
          have T := T.2 c2
          refine z_go hC (pc' := 39) (ls' := [some (.ref 20), some (.int a1), none]) (st' := [.int (nI 1), .int a1, .ref 20]) (h' := h) (cs := []) [.aload_n 0, .iload_n 1, .iconst 1] (by decide +kernel) rfl rfl trivial ?_
          obtain ⟨t6, T⟩ := T
          refine z_callV hC hN hR (as := [.int a1, .int (nI 1)]) (rest := []) ok_X8_163 (by decide +kernel) (sp_X8_dig l _ h a1 (nI 1) t6) rfl rfl (Nat.le_of_ble_eq_true rfl) rfl rfl (Nat.le_of_ble_eq_true rfl) ⟨Nat.zero_le _, Nat.zero_le _⟩ (fun r3 h4 q5 => z_fun q5 ?_)
          refine z_go hC (pc' := 45) (ls' := [some (.ref 20), some (.int a1), some (.int (z_vi (fn_X8_dig a1 (nI 1) h)))]) (st' := [.int (-1), .int (z_vi (fn_X8_dig a1 (nI 1) h))]) (h' := (fn_X8_dig a1 (nI 1) h).2) (cs := []) [.istore_n 2, .iload_n 2, .iconst (-1)] (by decide +kernel) rfl rfl trivial ?_
          refine z_icmp_eq hC (off := 5) 50 (by decide +kernel) (by decide) (fun c7 => ?_) (fun c7 => ?_)
          · skip
            have E := (if_pos c7).symm.trans E
            have T := T.1 c7
            refine z_go hC (pc' := 53) (ls' := [some (.ref 20), some (.int (a1 + (nI 1))), some (.int (z_vi (fn_X8_dig a1 (nI 1) h)))]) (st' := []) (h' := (fn_X8_dig a1 (nI 1) h).2) (cs := []) [.iinc 1 1] (by decide +kernel) rfl rfl trivial ?_
            refine z_goto hC (off := -30) 23 (by decide +kernel) (by decide) ?_
            refine z_less (ls' := [some (.ref 20), some (.int (a1 + (nI 1))), none]) (by simp [z_sub]) ?_
            exact hk23 (a1 + (nI 1)) ((fn_X8_dig a1 (nI 1) h).2) T E
          · skip
            have E := (if_neg c7).symm.trans E
            have T := T.2 c7
            refine z_go hC (pc' := 49) (ls' := [some (.ref 20), some (.int a1), some (.int (z_vi (fn_X8_dig a1 (nI 1) h)))]) (st' := [.int (z_vi (fn_X8_dig a1 (nI 1) h))]) (h' := (fn_X8_dig a1 (nI 1) h).2) (cs := []) [.iload_n 2] (by decide +kernel) rfl rfl trivial ?_
            exact z_ret_i hB rfl (by decide +kernel) (z_lfi E)
  have P13 : ∀ (s0 : Int32) (h : z_H), tk_X8_fewestByBodies_13  s0 h → fn_X8_fewestByBodies_13  s0 h = RR → z_G p l e R s m args below meth c D dA ad 3 (z_PI RR) (z_m ext) 13 [some (.ref 20), none, none] [.int s0, .ref 20] h := by
    intro  s0 h T E
    unfold tk_X8_fewestByBodies_13 at T; unfold fn_X8_fewestByBodies_13 at E
    refine z_callV hC hN hR (as := [.int s0]) (rest := []) ok_X8_98 (by decide +kernel) (sp_X8_goesWell l _ h s0) rfl rfl (Nat.le_of_ble_eq_true rfl) rfl rfl (Nat.le_of_ble_eq_true rfl) ⟨Nat.zero_le _, Nat.zero_le _⟩ (fun r8 h9 q10 => z_fun q10 ?_)
    refine z_if_ne hC (off := 5) 21 (by decide +kernel) (by decide) (fun c11 => ?_) (fun c11 => ?_)
    · skip
      have E := (if_neg c11).symm.trans E
      have T := T.2 c11
      refine z_go hC (pc' := 23) (ls' := [some (.ref 20), some (.int (nI 1)), none]) (st' := []) (h' := fh_X8_goesWell h s0) (cs := []) [.iconst 1, .istore_n 1] (by decide +kernel) rfl rfl trivial ?_
      exact P23 2000 (nI 1) (fh_X8_goesWell h s0) T E
    · skip
      have E := (if_pos c11).symm.trans E
      have T := T.1 c11
      refine z_go hC (pc' := 20) (ls' := [some (.ref 20), none, none]) (st' := [.int (nI 0)]) (h' := fh_X8_goesWell h s0) (cs := []) [.iconst 0] (by decide +kernel) rfl rfl trivial ?_
      exact z_ret_i hB rfl (by decide +kernel) (z_lfi E)
  refine z_go hC (pc' := 2) (ls' := [some (.ref 20), none, none]) (st' := [.ref 20, .ref 20]) (h' := h) (cs := []) [.aload_n 0, .aload_n 0] (by decide +kernel) rfl rfl trivial ?_
  refine z_callV hC hN hR (as := []) (rest := [.ref 20]) ok_X8_126 (by decide +kernel) (sp_X8_lives l _ h ) rfl rfl (Nat.le_of_ble_eq_true rfl) rfl rfl (Nat.le_of_ble_eq_true rfl) ⟨Nat.zero_le _, Nat.zero_le _⟩ (fun r12 h13 q14 => z_fun q14 ?_)
  refine z_if_eq hC (off := 7) 12 (by decide +kernel) (by decide) (fun c15 => ?_) (fun c15 => ?_)
  · skip
    have E := (if_pos c15).symm.trans E
    have T := T.1 c15
    refine z_go hC (pc' := 13) (ls' := [some (.ref 20), none, none]) (st' := [.int (nI 1), .ref 20]) (h' := h) (cs := []) [.iconst 1] (by decide +kernel) rfl rfl trivial ?_
    exact P13  (nI 1) h T E
  · skip
    have E := (if_neg c15).symm.trans E
    have T := T.2 c15
    refine z_go hC (pc' := 9) (ls' := [some (.ref 20), none, none]) (st' := [.int (nI 0), .ref 20]) (h' := h) (cs := []) [.iconst 0] (by decide +kernel) rfl rfl trivial ?_
    refine z_goto hC (off := 4) 13 (by decide +kernel) (by decide) ?_
    exact P13  (nI 0) h T E

def fn_X8_fewest  (h : z_H) : z_R := (some (.int (z_vi (fn_X8_fewestByBodies  h))), (fn_X8_fewestByBodies  h).2)
def tk_X8_fewest  (h : z_H) : Prop := tk_X8_fewestByBodies  h
set_option maxHeartbeats 4000000 in
set_option maxRecDepth 100000 in
theorem sp_X8_fewest (l : Launch) (ext : z_Sh)  (h : z_H)   (T : tk_X8_fewest  h) : z_Sp l 6 yX8_fewest cX8_fewest 1 (some .int) [.ref 20] (z_m ext) h (z_PI (fn_X8_fewest  h)) := by
  refine z_enter ft_X8 (by decide +kernel) fo_X8 (Nat.le_of_ble_eq_true rfl) ?_
  intro p e R s m args below meth c D dA ad hB
  have hC := hB.1
  have hN := hB.2.1
  have hR := hB.2.2.1
  unfold tk_X8_fewest at T; have E : ((some (.int (z_vi (fn_X8_fewestByBodies  h))), (fn_X8_fewestByBodies  h).2)) = fn_X8_fewest  h := rfl
  generalize fn_X8_fewest  h = RR at E ⊢
  refine z_go hC (pc' := 1) (ls' := [some (.ref 20)]) (st' := [.ref 20]) (h' := h) (cs := []) [.aload_n 0] (by decide +kernel) rfl rfl trivial ?_
  have t4 := T
  refine z_callV hC hN hR (as := []) (rest := []) ok_X8_167 (by decide +kernel) (sp_X8_fewestByBodies l _ h  t4) rfl rfl (Nat.le_of_ble_eq_true rfl) rfl rfl (Nat.le_of_ble_eq_true rfl) ⟨Nat.zero_le _, Nat.zero_le _⟩ (fun r1 h2 q3 => z_fun q3 ?_)
  exact z_ret_i hB rfl (by decide +kernel) (z_lfi E)
