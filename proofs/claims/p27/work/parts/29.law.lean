/-! ===== printed by wip/p27/gen: the law, as functions ===== -/
def fn_L_law_179 (L : Nat) (xs : Nat → Int32) (k18 : Int32 → z_H → Int32) (a3 : Int32) (h : z_H) : Int32 := k18 (a3 + (nI 1)) h
def tk_L_law_179 (L : Nat) (xs : Nat → Int32) (K18 : Int32 → z_H → Prop) (a3 : Int32) (h : z_H) : Prop := K18 (a3 + (nI 1)) h
def fn_L_law_150 (L : Nat) (xs : Nat → Int32) (k18 : Int32 → z_H → Int32) (a3 : Int32) (a4 : Int32) (h : z_H) : Int32 := if (a3 - a3 / (nI 30) * (nI 30)) = (nI 29) then if (z_vi (fn_L_isWormSo ((nI 1) + (z_vi0 (fn_L_low (a4 >>> ((nI 5) &&& 31)) (nI 6) h))) h)) = 0 then nI 0 else fn_L_law_179 L xs k18 a3 ((fn_L_isWormSo ((nI 1) + (z_vi0 (fn_L_low (a4 >>> ((nI 5) &&& 31)) (nI 6) h))) h).2) else fn_L_law_179 L xs k18 a3 h
def tk_L_law_150 (L : Nat) (xs : Nat → Int32) (K18 : Int32 → z_H → Prop) (a3 : Int32) (a4 : Int32) (h : z_H) : Prop := (((a3 - a3 / (nI 30) * (nI 30)) = (nI 29)) → (tk_L_low (a4 >>> ((nI 5) &&& 31)) (nI 6) h ∧ (tk_L_isWormSo ((nI 1) + (z_vi0 (fn_L_low (a4 >>> ((nI 5) &&& 31)) (nI 6) h))) h ∧ ((((z_vi (fn_L_isWormSo ((nI 1) + (z_vi0 (fn_L_low (a4 >>> ((nI 5) &&& 31)) (nI 6) h))) h)) = 0) → (True)) ∧ ((¬ (z_vi (fn_L_isWormSo ((nI 1) + (z_vi0 (fn_L_low (a4 >>> ((nI 5) &&& 31)) (nI 6) h))) h)) = 0) → (tk_L_law_179 L xs K18 a3 ((fn_L_isWormSo ((nI 1) + (z_vi0 (fn_L_low (a4 >>> ((nI 5) &&& 31)) (nI 6) h))) h).2))))))) ∧ ((¬ (a3 - a3 / (nI 30) * (nI 30)) = (nI 29)) → (tk_L_law_179 L xs K18 a3 h))
def fn_L_law_134 (L : Nat) (xs : Nat → Int32) (k18 : Int32 → z_H → Int32) (a3 : Int32) (a4 : Int32) (h : z_H) : Int32 := if (a3 - a3 / (nI 10) * (nI 10)) = (nI 9) then if (z_vi (fn_L_isCycleSo  h)) = 0 then nI 0 else fn_L_law_150 L xs k18 a3 a4 ((fn_L_isCycleSo  h).2) else fn_L_law_150 L xs k18 a3 a4 h
def tk_L_law_134 (L : Nat) (xs : Nat → Int32) (K18 : Int32 → z_H → Prop) (a3 : Int32) (a4 : Int32) (h : z_H) : Prop := (((a3 - a3 / (nI 10) * (nI 10)) = (nI 9)) → (tk_L_isCycleSo  h ∧ ((((z_vi (fn_L_isCycleSo  h)) = 0) → (True)) ∧ ((¬ (z_vi (fn_L_isCycleSo  h)) = 0) → (tk_L_law_150 L xs K18 a3 a4 ((fn_L_isCycleSo  h).2)))))) ∧ ((¬ (a3 - a3 / (nI 10) * (nI 10)) = (nI 9)) → (tk_L_law_150 L xs K18 a3 a4 h))
def fn_L_law_120 (L : Nat) (xs : Nat → Int32) (k18 : Int32 → z_H → Int32) (a3 : Int32) (a4 : Int32) (a5 : Int32) (h : z_H) : Int32 := if a5 = 0 then fn_L_law_134 L xs k18 a3 a4 h else if (z_vi0 (fn_X7_isInOrder  h)) = 0 then nI 0 else fn_L_law_134 L xs k18 a3 a4 h
def tk_L_law_120 (L : Nat) (xs : Nat → Int32) (K18 : Int32 → z_H → Prop) (a3 : Int32) (a4 : Int32) (a5 : Int32) (h : z_H) : Prop := ((a5 = 0) → (tk_L_law_134 L xs K18 a3 a4 h)) ∧ ((¬ a5 = 0) → (tk_X7_isInOrder  h ∧ ((((z_vi0 (fn_X7_isInOrder  h)) = 0) → (True)) ∧ ((¬ (z_vi0 (fn_X7_isInOrder  h)) = 0) → (tk_L_law_134 L xs K18 a3 a4 h)))))
def fn_L_law_72 (L : Nat) (xs : Nat → Int32) (k18 : Int32 → z_H → Int32) (a3 : Int32) (a4 : Int32) (a5 : Int32) (a6 : Int32) (a7 : Int32) (h : z_H) : Int32 := if (z_vi0 (fn_L_areAlike  h)) = 0 then nI 0 else if a7 = (-99999) then fn_L_law_134 L xs k18 a3 a4 h else if a6 ≤ (nI 8) then fn_L_law_134 L xs k18 a3 a4 h else if (nI 13) ≤ a6 then fn_L_law_134 L xs k18 a3 a4 h else if (z_vi0 (fn_X7_isAlive  h)) = 0 then nI 0 else if a7 ≤ 0 then fn_L_law_120 L xs k18 a3 a4 a5 h else if a5 = 0 then nI 0 else fn_L_law_120 L xs k18 a3 a4 a5 h
def tk_L_law_72 (L : Nat) (xs : Nat → Int32) (K18 : Int32 → z_H → Prop) (a3 : Int32) (a4 : Int32) (a5 : Int32) (a6 : Int32) (a7 : Int32) (h : z_H) : Prop := tk_L_areAlike  h ∧ ((((z_vi0 (fn_L_areAlike  h)) = 0) → (True)) ∧ ((¬ (z_vi0 (fn_L_areAlike  h)) = 0) → (((a7 = (-99999)) → (tk_L_law_134 L xs K18 a3 a4 h)) ∧ ((¬ a7 = (-99999)) → (((a6 ≤ (nI 8)) → (tk_L_law_134 L xs K18 a3 a4 h)) ∧ ((¬ a6 ≤ (nI 8)) → ((((nI 13) ≤ a6) → (tk_L_law_134 L xs K18 a3 a4 h)) ∧ ((¬ (nI 13) ≤ a6) → ((((z_vi0 (fn_X7_isAlive  h)) = 0) → (True)) ∧ ((¬ (z_vi0 (fn_X7_isAlive  h)) = 0) → (((a7 ≤ 0) → (tk_L_law_120 L xs K18 a3 a4 a5 h)) ∧ ((¬ a7 ≤ 0) → (((a5 = 0) → (True)) ∧ ((¬ a5 = 0) → (tk_L_law_120 L xs K18 a3 a4 a5 h)))))))))))))))
def fn_L_law_18 (L : Nat) (xs : Nat → Int32) : Nat → Int32 → z_H → Int32
  | 0, _, _ => 0
  | n + 1, a3, h => let k18 := fun (a3_ : Int32) (h_ : z_H) => fn_L_law_18 L xs n a3_ h_; if (nI 90) ≤ a3 then z_vi (fn_L_isCycleSo  h) else if (z_vi (fn_L_act (p_cell L xs a3) h)) = (-99999) then fn_L_law_72 L xs k18 a3 (p_cell L xs a3) (z_vi0 (fn_X7_isInOrder  h)) (z_vi0 (fn_L_low (p_cell L xs a3) (nI 18) h)) (z_vi (fn_L_act (p_cell L xs a3) h)) ((fn_L_act (p_cell L xs a3) h).2) else if (z_vi (fn_L_act (p_cell L xs a3) (z_sw ((fn_L_act (p_cell L xs a3) h).2)))) = (z_vi (fn_L_act (p_cell L xs a3) h)) then fn_L_law_72 L xs k18 a3 (p_cell L xs a3) (z_vi0 (fn_X7_isInOrder  h)) (z_vi0 (fn_L_low (p_cell L xs a3) (nI 18) h)) (z_vi (fn_L_act (p_cell L xs a3) h)) (z_sw ((fn_L_act (p_cell L xs a3) (z_sw ((fn_L_act (p_cell L xs a3) h).2))).2)) else nI 0
def tk_L_law_18 (L : Nat) (xs : Nat → Int32) : Nat → Int32 → z_H → Prop
  | 0, _, _ => False
  | n + 1, a3, h => let K18 := fun (a3_ : Int32) (h_ : z_H) => tk_L_law_18 L xs n a3_ h_; (((nI 90) ≤ a3) → (tk_L_isCycleSo  h)) ∧ ((¬ (nI 90) ≤ a3) → (¬ a3 < 0 ∧ (tk_X7_isInOrder  h ∧ (tk_L_low (p_cell L xs a3) (nI 18) h ∧ (tk_L_act (p_cell L xs a3) h ∧ ((((z_vi (fn_L_act (p_cell L xs a3) h)) = (-99999)) → (tk_L_law_72 L xs K18 a3 (p_cell L xs a3) (z_vi0 (fn_X7_isInOrder  h)) (z_vi0 (fn_L_low (p_cell L xs a3) (nI 18) h)) (z_vi (fn_L_act (p_cell L xs a3) h)) ((fn_L_act (p_cell L xs a3) h).2))) ∧ ((¬ (z_vi (fn_L_act (p_cell L xs a3) h)) = (-99999)) → (tk_L_act (p_cell L xs a3) (z_sw ((fn_L_act (p_cell L xs a3) h).2)) ∧ ((((z_vi (fn_L_act (p_cell L xs a3) (z_sw ((fn_L_act (p_cell L xs a3) h).2)))) = (z_vi (fn_L_act (p_cell L xs a3) h))) → (tk_L_law_72 L xs K18 a3 (p_cell L xs a3) (z_vi0 (fn_X7_isInOrder  h)) (z_vi0 (fn_L_low (p_cell L xs a3) (nI 18) h)) (z_vi (fn_L_act (p_cell L xs a3) h)) (z_sw ((fn_L_act (p_cell L xs a3) (z_sw ((fn_L_act (p_cell L xs a3) h).2))).2)))) ∧ ((¬ (z_vi (fn_L_act (p_cell L xs a3) (z_sw ((fn_L_act (p_cell L xs a3) h).2)))) = (z_vi (fn_L_act (p_cell L xs a3) h))) → (True)))))))))))
set_option maxHeartbeats 40000000 in
set_option maxRecDepth 100000 in
theorem sp_L_law {p : Program} {l : Launch} {e : Env} {s : State} {m : MethodId} {below : List Frame} {meth : Method} {c : Code} {D : va_G} {dA : Nat → ClassId} {ad : Nat → Nat} {b L : Nat} {xs : Nat → Int32} (hC : z_Cx p s m #[Value.ref b] c D dA (fun q => s.heap.size ≤ q) s.heap RL code 8 ft_L) (hN : z_Nt s) (hZ : z_Zz (fun q => s.heap.size ≤ q) s) (hKin : z_Kin s) (hl0 : l.stackTraces = false) (hret : meth.sig.returnType = ret) (hlk : meth.locks = false) (hX : va_X b L xs s s.heap) (hbl : b < s.heap.size) (had : ad 40 = b) (hL : L < 2 ^ 31) : ∀ (n kk nn : Nat), kk + 8 * n ≤ 600000 → nn + 48 * n ≤ 7300000 → ∀ (a3 : Int32) (h : z_H), tk_L_law_18 L xs n a3 h → fn_L_law_18 L xs n a3 h = 1 → z_Z p l e room_1 s m #[Value.ref b] below meth c D dA (fun q => s.heap.size ≤ q) s.heap 8 ad (lw_Z below #[Value.ref b] s) kk nn 18 [some (.ref 40), some (.ref 0), some (.ref 20), some (.int a3), none, none, none, none] [] (z_d) h := by
  have hbA : ¬ (fun q : Nat => s.heap.size ≤ q) b := Nat.not_le.mpr hbl
  have hR : 60 ≤ room_1.frames ∧ 64 * 60 ≤ room_1.locals := ⟨by decide, by decide⟩
  have P179 : ∀ (k18 : Int32 → z_H → Int32) (K18 : Int32 → z_H → Prop) (kk nn : Nat) (h1 : kk + 8 ≤ 600000) (h2 : nn + 48 ≤ 7300000) (hk18 : ∀ (k2 n2 : Nat), k2 = kk + 8 → n2 = nn + 48 → ∀ (a3 : Int32) (h : z_H), K18 a3 h → k18 a3 h = 1 → z_Z p l e room_1 s m #[Value.ref b] below meth c D dA (fun q => s.heap.size ≤ q) s.heap 8 ad (lw_Z below #[Value.ref b] s) k2 n2 18 [some (.ref 40), some (.ref 0), some (.ref 20), some (.int a3), none, none, none, none] [] (z_d) h) (a3 : Int32) (h : z_H), tk_L_law_179 L xs K18 a3 h → fn_L_law_179 L xs k18 a3 h = 1 → z_Z p l e room_1 s m #[Value.ref b] below meth c D dA (fun q => s.heap.size ≤ q) s.heap 8 ad (lw_Z below #[Value.ref b] s) (kk + 8) (nn + 48) 179 [some (.ref 40), some (.ref 0), some (.ref 20), some (.int a3), none, none, none, none] [] (z_d) h := by
    intro k18 K18 kk nn h1 h2 hk18 a3 h T E
    unfold tk_L_law_179 at T; unfold fn_L_law_179 at E
    refine z_go hC (pc' := 182) (ls' := [some (.ref 40), some (.ref 0), some (.ref 20), some (.int (a3 + (nI 1))), none, none, none, none]) (st' := []) (h' := h) (cs := []) [.iinc 3 1] (by decide +kernel) rfl rfl trivial ?_
    refine z_goto hC (off := -164) 18 (by decide +kernel) (by decide) ?_
    refine z_widen (k' := kk + 8) (n' := nn + 48) (by omega) (by omega) ?_
    exact hk18 _ _ (by omega) (by omega) (a3 + (nI 1)) h T E
  have P150 : ∀ (k18 : Int32 → z_H → Int32) (K18 : Int32 → z_H → Prop) (kk nn : Nat) (h1 : kk + 8 ≤ 600000) (h2 : nn + 48 ≤ 7300000) (hk18 : ∀ (k2 n2 : Nat), k2 = kk + 8 → n2 = nn + 48 → ∀ (a3 : Int32) (h : z_H), K18 a3 h → k18 a3 h = 1 → z_Z p l e room_1 s m #[Value.ref b] below meth c D dA (fun q => s.heap.size ≤ q) s.heap 8 ad (lw_Z below #[Value.ref b] s) k2 n2 18 [some (.ref 40), some (.ref 0), some (.ref 20), some (.int a3), none, none, none, none] [] (z_d) h) (a3 : Int32) (a4 : Int32) (h : z_H), tk_L_law_150 L xs K18 a3 a4 h → fn_L_law_150 L xs k18 a3 a4 h = 1 → z_Z p l e room_1 s m #[Value.ref b] below meth c D dA (fun q => s.heap.size ≤ q) s.heap 8 ad (lw_Z below #[Value.ref b] s) (kk + 8) (nn + 48) 150 [some (.ref 40), some (.ref 0), some (.ref 20), some (.int a3), some (.int a4), none, none, none] [] (z_d) h := by
    intro k18 K18 kk nn h1 h2 hk18 a3 a4 h T E
    unfold tk_L_law_150 at T; unfold fn_L_law_150 at E
    refine z_go hC (pc' := 156) (ls' := [some (.ref 40), some (.ref 0), some (.ref 20), some (.int a3), some (.int a4), none, none, none]) (st' := [.int (nI 29), .int (a3 - a3 / (nI 30) * (nI 30))]) (h' := h) (cs := [¬ (nI 30) = 0]) [.iload_n 3, .bipush 30, .irem, .bipush 29] (by decide +kernel) rfl rfl (show ¬ (nI 30) = 0 by decide) ?_
    refine z_icmp_ne hC (off := 23) 179 (by decide +kernel) (by decide) (fun c1 => ?_) (fun c1 => ?_)
    · skip
      have E := (if_neg c1).symm.trans E
      have T := T.2 c1
      refine z_less (ls' := [some (.ref 40), some (.ref 0), some (.ref 20), some (.int a3), none, none, none, none]) (by simp [z_sub]) ?_
      refine z_widen (k' := kk + 8) (n' := nn + 48) (by omega) (by omega) ?_
      exact P179 _ _ kk nn h1 h2 hk18 a3 h T E
    · skip
      have E := (if_pos c1).symm.trans E
      have T := T.1 c1
      refine z_go hC (pc' := 167) (ls' := [some (.ref 40), some (.ref 0), some (.ref 20), some (.int a3), some (.int a4), none, none, none]) (st' := [.int (nI 6), .int (a4 >>> ((nI 5) &&& 31)), .int (nI 1), .ref 0]) (h' := h) (cs := []) [.aload_n 1, .iconst 1, .iload 4, .iconst 5, .ishr, .bipush 6] (by decide +kernel) rfl rfl trivial ?_
      obtain ⟨t5, T⟩ := T
      refine z_callS hC hN hR (as := [.int (a4 >>> ((nI 5) &&& 31)), .int (nI 6)]) (rest := [.int (nI 1), .ref 0]) ok_L_46 (by decide +kernel) (sp_L_low l _ h (a4 >>> ((nI 5) &&& 31)) (nI 6) t5) (Nat.le_of_ble_eq_true rfl) rfl rfl (Nat.le_of_ble_eq_true rfl) ⟨by show _ ≤ 600172; omega, by show _ ≤ 7300668; omega⟩ (fun r2 h3 q4 => z_fun q4 ?_)
      refine z_go hC (pc' := 171) (ls' := [some (.ref 40), some (.ref 0), some (.ref 20), some (.int a3), some (.int a4), none, none, none]) (st' := [.int ((nI 1) + (z_vi0 (fn_L_low (a4 >>> ((nI 5) &&& 31)) (nI 6) h))), .ref 0]) (h' := h) (cs := []) [.iadd] (by decide +kernel) rfl rfl trivial ?_
      obtain ⟨t9, T⟩ := T
      refine z_callS hC hN hR (as := [.ref 0, .int ((nI 1) + (z_vi0 (fn_L_low (a4 >>> ((nI 5) &&& 31)) (nI 6) h)))]) (rest := []) ok_L_141 (by decide +kernel) (sp_L_isWormSo l _ h ((nI 1) + (z_vi0 (fn_L_low (a4 >>> ((nI 5) &&& 31)) (nI 6) h))) t9) (Nat.le_of_ble_eq_true rfl) rfl rfl (Nat.le_of_ble_eq_true rfl) ⟨by show _ ≤ 600172; omega, by show _ ≤ 7300668; omega⟩ (fun r6 h7 q8 => z_funb q8 (fun z10 => ?_))
      refine z_if_ne hC (off := 5) 179 (by decide +kernel) (by decide) (fun c11 => ?_) (fun c11 => ?_)
      · skip
        have E := (if_neg c11).symm.trans E
        have T := T.2 c11
        refine z_less (ls' := [some (.ref 40), some (.ref 0), some (.ref 20), some (.int a3), none, none, none, none]) (by simp [z_sub]) ?_
        refine z_widen (k' := kk + 8) (n' := nn + 48) (by omega) (by omega) ?_
        exact P179 _ _ kk nn h1 h2 hk18 a3 ((fn_L_isWormSo ((nI 1) + (z_vi0 (fn_L_low (a4 >>> ((nI 5) &&& 31)) (nI 6) h))) h).2) T E
      · skip
        have E := (if_pos c11).symm.trans E
        have T := T.1 c11
        refine z_go hC (pc' := 178) (ls' := [some (.ref 40), some (.ref 0), some (.ref 20), some (.int a3), some (.int a4), none, none, none]) (st' := [.int (nI 0)]) (h' := (fn_L_isWormSo ((nI 1) + (z_vi0 (fn_L_low (a4 >>> ((nI 5) &&& 31)) (nI 6) h))) h).2) (cs := []) [.iconst 0] (by decide +kernel) rfl rfl trivial ?_
        exact absurd E (by decide)
  have P134 : ∀ (k18 : Int32 → z_H → Int32) (K18 : Int32 → z_H → Prop) (kk nn : Nat) (h1 : kk + 8 ≤ 600000) (h2 : nn + 48 ≤ 7300000) (hk18 : ∀ (k2 n2 : Nat), k2 = kk + 8 → n2 = nn + 48 → ∀ (a3 : Int32) (h : z_H), K18 a3 h → k18 a3 h = 1 → z_Z p l e room_1 s m #[Value.ref b] below meth c D dA (fun q => s.heap.size ≤ q) s.heap 8 ad (lw_Z below #[Value.ref b] s) k2 n2 18 [some (.ref 40), some (.ref 0), some (.ref 20), some (.int a3), none, none, none, none] [] (z_d) h) (a3 : Int32) (a4 : Int32) (h : z_H), tk_L_law_134 L xs K18 a3 a4 h → fn_L_law_134 L xs k18 a3 a4 h = 1 → z_Z p l e room_1 s m #[Value.ref b] below meth c D dA (fun q => s.heap.size ≤ q) s.heap 8 ad (lw_Z below #[Value.ref b] s) (kk + 4) (nn + 24) 134 [some (.ref 40), some (.ref 0), some (.ref 20), some (.int a3), some (.int a4), none, none, none] [] (z_d) h := by
    intro k18 K18 kk nn h1 h2 hk18 a3 a4 h T E
    unfold tk_L_law_134 at T; unfold fn_L_law_134 at E
    refine z_go hC (pc' := 140) (ls' := [some (.ref 40), some (.ref 0), some (.ref 20), some (.int a3), some (.int a4), none, none, none]) (st' := [.int (nI 9), .int (a3 - a3 / (nI 10) * (nI 10))]) (h' := h) (cs := [¬ (nI 10) = 0]) [.iload_n 3, .bipush 10, .irem, .bipush 9] (by decide +kernel) rfl rfl (show ¬ (nI 10) = 0 by decide) ?_
    refine z_icmp_ne hC (off := 10) 150 (by decide +kernel) (by decide) (fun c12 => ?_) (fun c12 => ?_)
    · skip
      have E := (if_neg c12).symm.trans E
      have T := T.2 c12
      refine z_widen (k' := kk + 8) (n' := nn + 48) (by omega) (by omega) ?_
      exact P150 _ _ kk nn h1 h2 hk18 a3 a4 h T E
    · skip
      have E := (if_pos c12).symm.trans E
      have T := T.1 c12
      refine z_go hC (pc' := 144) (ls' := [some (.ref 40), some (.ref 0), some (.ref 20), some (.int a3), some (.int a4), none, none, none]) (st' := [.ref 0]) (h' := h) (cs := []) [.aload_n 1] (by decide +kernel) rfl rfl trivial ?_
      obtain ⟨t13, T⟩ := T
      refine z_callSx hC hN hR hZ hKin (as := [.ref 0]) (rest := []) ok_L_137 (by decide +kernel) (sp_L_isCycleSo l hl0 _ h  t13) (Nat.le_of_ble_eq_true rfl) rfl rfl (Nat.le_of_ble_eq_true rfl) ⟨by show _ ≤ 600172; omega, by show _ ≤ 7300668; omega⟩ (fun Ex qx => False.elim qx) (fun rv hw q14 => z_funb q14 (fun _ => ?_))
      refine z_if_eq hC (off := 30) 177 (by decide +kernel) (by decide) (fun c15 => ?_) (fun c15 => ?_)
      · skip
        have E := (if_pos c15).symm.trans E
        have T := T.1 c15
        refine z_go hC (pc' := 178) (ls' := [some (.ref 40), some (.ref 0), some (.ref 20), some (.int a3), some (.int a4), none, none, none]) (st' := [.int (nI 0)]) (h' := (fn_L_isCycleSo  h).2) (cs := []) [.iconst 0] (by decide +kernel) rfl rfl trivial ?_
        exact absurd E (by decide)
      · skip
        have E := (if_neg c15).symm.trans E
        have T := T.2 c15
        refine z_widen (k' := kk + 8) (n' := nn + 48) (by omega) (by omega) ?_
        exact P150 _ _ kk nn h1 h2 hk18 a3 a4 ((fn_L_isCycleSo  h).2) T E
  have P120 : ∀ (k18 : Int32 → z_H → Int32) (K18 : Int32 → z_H → Prop) (kk nn : Nat) (h1 : kk + 8 ≤ 600000) (h2 : nn + 48 ≤ 7300000) (hk18 : ∀ (k2 n2 : Nat), k2 = kk + 8 → n2 = nn + 48 → ∀ (a3 : Int32) (h : z_H), K18 a3 h → k18 a3 h = 1 → z_Z p l e room_1 s m #[Value.ref b] below meth c D dA (fun q => s.heap.size ≤ q) s.heap 8 ad (lw_Z below #[Value.ref b] s) k2 n2 18 [some (.ref 40), some (.ref 0), some (.ref 20), some (.int a3), none, none, none, none] [] (z_d) h) (a3 : Int32) (a4 : Int32) (a5 : Int32) (h : z_H), tk_L_law_120 L xs K18 a3 a4 a5 h → fn_L_law_120 L xs k18 a3 a4 a5 h = 1 → z_Z p l e room_1 s m #[Value.ref b] below meth c D dA (fun q => s.heap.size ≤ q) s.heap 8 ad (lw_Z below #[Value.ref b] s) (kk + 4) (nn + 24) 120 [some (.ref 40), some (.ref 0), some (.ref 20), some (.int a3), some (.int a4), some (.int a5), none, none] [] (z_d) h := by
    intro k18 K18 kk nn h1 h2 hk18 a3 a4 a5 h T E
    unfold tk_L_law_120 at T; unfold fn_L_law_120 at E
    refine z_go hC (pc' := 122) (ls' := [some (.ref 40), some (.ref 0), some (.ref 20), some (.int a3), some (.int a4), some (.int a5), none, none]) (st' := [.int a5]) (h' := h) (cs := []) [.iload 5] (by decide +kernel) rfl rfl trivial ?_
    refine z_if_eq hC (off := 12) 134 (by decide +kernel) (by decide) (fun c16 => ?_) (fun c16 => ?_)
    · skip
      have E := (if_pos c16).symm.trans E
      have T := T.1 c16
      refine z_less (ls' := [some (.ref 40), some (.ref 0), some (.ref 20), some (.int a3), some (.int a4), none, none, none]) (by simp [z_sub]) ?_
      refine z_widen (k' := kk + 4) (n' := nn + 24) (by omega) (by omega) ?_
      exact P134 _ _ kk nn h1 h2 hk18 a3 a4 h T E
    · skip
      have E := (if_neg c16).symm.trans E
      have T := T.2 c16
      refine z_go hC (pc' := 126) (ls' := [some (.ref 40), some (.ref 0), some (.ref 20), some (.int a3), some (.int a4), some (.int a5), none, none]) (st' := [.ref 0]) (h' := h) (cs := []) [.aload_n 1] (by decide +kernel) rfl rfl trivial ?_
      obtain ⟨t20, T⟩ := T
      refine z_callV hC hN hR (as := []) (rest := []) ok_L_85 (by decide +kernel) (sp_X7_isInOrder l _ h  t20) rfl rfl (Nat.le_of_ble_eq_true rfl) rfl rfl (Nat.le_of_ble_eq_true rfl) ⟨by show _ ≤ 600172; omega, by show _ ≤ 7300668; omega⟩ (fun r17 h18 q19 => z_funb q19 (fun z21 => ?_))
      refine z_if_ne hC (off := 5) 134 (by decide +kernel) (by decide) (fun c22 => ?_) (fun c22 => ?_)
      · skip
        have E := (if_neg c22).symm.trans E
        have T := T.2 c22
        refine z_less (ls' := [some (.ref 40), some (.ref 0), some (.ref 20), some (.int a3), some (.int a4), none, none, none]) (by simp [z_sub]) ?_
        refine z_widen (k' := kk + 4) (n' := nn + 24) (by omega) (by omega) ?_
        exact P134 _ _ kk nn h1 h2 hk18 a3 a4 h T E
      · skip
        have E := (if_pos c22).symm.trans E
        have T := T.1 c22
        refine z_go hC (pc' := 133) (ls' := [some (.ref 40), some (.ref 0), some (.ref 20), some (.int a3), some (.int a4), some (.int a5), none, none]) (st' := [.int (nI 0)]) (h' := h) (cs := []) [.iconst 0] (by decide +kernel) rfl rfl trivial ?_
        exact absurd E (by decide)
  have P72 : ∀ (k18 : Int32 → z_H → Int32) (K18 : Int32 → z_H → Prop) (kk nn : Nat) (h1 : kk + 8 ≤ 600000) (h2 : nn + 48 ≤ 7300000) (hk18 : ∀ (k2 n2 : Nat), k2 = kk + 8 → n2 = nn + 48 → ∀ (a3 : Int32) (h : z_H), K18 a3 h → k18 a3 h = 1 → z_Z p l e room_1 s m #[Value.ref b] below meth c D dA (fun q => s.heap.size ≤ q) s.heap 8 ad (lw_Z below #[Value.ref b] s) k2 n2 18 [some (.ref 40), some (.ref 0), some (.ref 20), some (.int a3), none, none, none, none] [] (z_d) h) (a3 : Int32) (a4 : Int32) (a5 : Int32) (a6 : Int32) (a7 : Int32) (h : z_H), tk_L_law_72 L xs K18 a3 a4 a5 a6 a7 h → fn_L_law_72 L xs k18 a3 a4 a5 a6 a7 h = 1 → z_Z p l e room_1 s m #[Value.ref b] below meth c D dA (fun q => s.heap.size ≤ q) s.heap 8 ad (lw_Z below #[Value.ref b] s) (kk + 4) (nn + 24) 72 [some (.ref 40), some (.ref 0), some (.ref 20), some (.int a3), some (.int a4), some (.int a5), some (.int a6), some (.int a7)] [] (z_d) h := by
    intro k18 K18 kk nn h1 h2 hk18 a3 a4 a5 a6 a7 h T E
    unfold tk_L_law_72 at T; unfold fn_L_law_72 at E
    refine z_go hC (pc' := 74) (ls' := [some (.ref 40), some (.ref 0), some (.ref 20), some (.int a3), some (.int a4), some (.int a5), some (.int a6), some (.int a7)]) (st' := [.ref 20, .ref 0]) (h' := h) (cs := []) [.aload_n 1, .aload_n 2] (by decide +kernel) rfl rfl trivial ?_
    obtain ⟨t26, T⟩ := T
    refine z_callS hC hN hR (as := [.ref 0, .ref 20]) (rest := []) ok_L_133 (by decide +kernel) (sp_L_areAlike l h  t26) (Nat.le_of_ble_eq_true rfl) rfl rfl (Nat.le_of_ble_eq_true rfl) ⟨by show _ ≤ 600172; omega, by show _ ≤ 7300668; omega⟩ (fun r23 h24 q25 => z_funb q25 (fun z27 => ?_))
    refine z_if_ne hC (off := 5) 82 (by decide +kernel) (by decide) (fun c28 => ?_) (fun c28 => ?_)
    · skip
      have E := (if_neg c28).symm.trans E
      have T := T.2 c28
      refine z_go hC (pc' := 84) (ls' := [some (.ref 40), some (.ref 0), some (.ref 20), some (.int a3), some (.int a4), some (.int a5), some (.int a6), some (.int a7)]) (st' := [.int a7]) (h' := h) (cs := []) [.iload 7] (by decide +kernel) rfl rfl trivial ?_
      refine z_ldc hC (idx := 16) (v := -99999) (by decide +kernel) (by decide +kernel) ?_
      refine z_icmp_eq hC (off := 48) 134 (by decide +kernel) (by decide) (fun c29 => ?_) (fun c29 => ?_)
      · skip
        have E := (if_pos c29).symm.trans E
        have T := T.1 c29
        refine z_less (ls' := [some (.ref 40), some (.ref 0), some (.ref 20), some (.int a3), some (.int a4), none, none, none]) (by simp [z_sub]) ?_
        refine z_widen (k' := kk + 4) (n' := nn + 24) (by omega) (by omega) ?_
        exact P134 _ _ kk nn h1 h2 hk18 a3 a4 h T E
      · skip
        have E := (if_neg c29).symm.trans E
        have T := T.2 c29
        refine z_go hC (pc' := 93) (ls' := [some (.ref 40), some (.ref 0), some (.ref 20), some (.int a3), some (.int a4), some (.int a5), some (.int a6), some (.int a7)]) (st' := [.int (nI 8), .int a6]) (h' := h) (cs := []) [.iload 6, .bipush 8] (by decide +kernel) rfl rfl trivial ?_
        refine z_icmp_le hC (off := 41) 134 (by decide +kernel) (by decide) (fun c30 => ?_) (fun c30 => ?_)
        · skip
          have E := (if_pos c30).symm.trans E
          have T := T.1 c30
          refine z_less (ls' := [some (.ref 40), some (.ref 0), some (.ref 20), some (.int a3), some (.int a4), none, none, none]) (by simp [z_sub]) ?_
          refine z_widen (k' := kk + 4) (n' := nn + 24) (by omega) (by omega) ?_
          exact P134 _ _ kk nn h1 h2 hk18 a3 a4 h T E
        · skip
          have E := (if_neg c30).symm.trans E
          have T := T.2 c30
          refine z_go hC (pc' := 100) (ls' := [some (.ref 40), some (.ref 0), some (.ref 20), some (.int a3), some (.int a4), some (.int a5), some (.int a6), some (.int a7)]) (st' := [.int (nI 13), .int a6]) (h' := h) (cs := []) [.iload 6, .bipush 13] (by decide +kernel) rfl rfl trivial ?_
          refine z_icmp_ge hC (off := 34) 134 (by decide +kernel) (by decide) (fun c31 => ?_) (fun c31 => ?_)
          · skip
            have E := (if_pos c31).symm.trans E
            have T := T.1 c31
            refine z_less (ls' := [some (.ref 40), some (.ref 0), some (.ref 20), some (.int a3), some (.int a4), none, none, none]) (by simp [z_sub]) ?_
            refine z_widen (k' := kk + 4) (n' := nn + 24) (by omega) (by omega) ?_
            exact P134 _ _ kk nn h1 h2 hk18 a3 a4 h T E
          · skip
            have E := (if_neg c31).symm.trans E
            have T := T.2 c31
            refine z_go hC (pc' := 104) (ls' := [some (.ref 40), some (.ref 0), some (.ref 20), some (.int a3), some (.int a4), some (.int a5), some (.int a6), some (.int a7)]) (st' := [.ref 0]) (h' := h) (cs := []) [.aload_n 1] (by decide +kernel) rfl rfl trivial ?_
            refine z_callV hC hN hR (as := []) (rest := []) ok_L_60 (by decide +kernel) (sp_X7_isAlive l _ h  trivial) rfl rfl (Nat.le_of_ble_eq_true rfl) rfl rfl (Nat.le_of_ble_eq_true rfl) ⟨by show _ ≤ 600172; omega, by show _ ≤ 7300668; omega⟩ (fun r32 h33 q34 => z_funb q34 (fun z35 => ?_))
            refine z_if_eq hC (off := 25) 132 (by decide +kernel) (by decide) (fun c36 => ?_) (fun c36 => ?_)
            · skip
              have E := (if_pos c36).symm.trans E
              have T := T.1 c36
              refine z_go hC (pc' := 133) (ls' := [some (.ref 40), some (.ref 0), some (.ref 20), some (.int a3), some (.int a4), some (.int a5), some (.int a6), some (.int a7)]) (st' := [.int (nI 0)]) (h' := h) (cs := []) [.iconst 0] (by decide +kernel) rfl rfl trivial ?_
              exact absurd E (by decide)
            · skip
              have E := (if_neg c36).symm.trans E
              have T := T.2 c36
              refine z_go hC (pc' := 112) (ls' := [some (.ref 40), some (.ref 0), some (.ref 20), some (.int a3), some (.int a4), some (.int a5), some (.int a6), some (.int a7)]) (st' := [.int a7]) (h' := h) (cs := []) [.iload 7] (by decide +kernel) rfl rfl trivial ?_
              refine z_if_le hC (off := 8) 120 (by decide +kernel) (by decide) (fun c37 => ?_) (fun c37 => ?_)
              · skip
                have E := (if_pos c37).symm.trans E
                have T := T.1 c37
                refine z_less (ls' := [some (.ref 40), some (.ref 0), some (.ref 20), some (.int a3), some (.int a4), some (.int a5), none, none]) (by simp [z_sub]) ?_
                refine z_widen (k' := kk + 4) (n' := nn + 24) (by omega) (by omega) ?_
                exact P120 _ _ kk nn h1 h2 hk18 a3 a4 a5 h T E
              · skip
                have E := (if_neg c37).symm.trans E
                have T := T.2 c37
                refine z_go hC (pc' := 117) (ls' := [some (.ref 40), some (.ref 0), some (.ref 20), some (.int a3), some (.int a4), some (.int a5), some (.int a6), some (.int a7)]) (st' := [.int a5]) (h' := h) (cs := []) [.iload 5] (by decide +kernel) rfl rfl trivial ?_
                refine z_if_eq hC (off := 15) 132 (by decide +kernel) (by decide) (fun c38 => ?_) (fun c38 => ?_)
                · skip
                  have E := (if_pos c38).symm.trans E
                  have T := T.1 c38
                  refine z_go hC (pc' := 133) (ls' := [some (.ref 40), some (.ref 0), some (.ref 20), some (.int a3), some (.int a4), some (.int a5), some (.int a6), some (.int a7)]) (st' := [.int (nI 0)]) (h' := h) (cs := []) [.iconst 0] (by decide +kernel) rfl rfl trivial ?_
                  exact absurd E (by decide)
                · skip
                  have E := (if_neg c38).symm.trans E
                  have T := T.2 c38
                  refine z_less (ls' := [some (.ref 40), some (.ref 0), some (.ref 20), some (.int a3), some (.int a4), some (.int a5), none, none]) (by simp [z_sub]) ?_
                  refine z_widen (k' := kk + 4) (n' := nn + 24) (by omega) (by omega) ?_
                  exact P120 _ _ kk nn h1 h2 hk18 a3 a4 a5 h T E
    · skip
      have E := (if_pos c28).symm.trans E
      have T := T.1 c28
      refine z_go hC (pc' := 81) (ls' := [some (.ref 40), some (.ref 0), some (.ref 20), some (.int a3), some (.int a4), some (.int a5), some (.int a6), some (.int a7)]) (st' := [.int (nI 0)]) (h' := h) (cs := []) [.iconst 0] (by decide +kernel) rfl rfl trivial ?_
      exact absurd E (by decide)
  intro n
  induction n with
  | zero => intro kk nn _ _ a3 h T E; exact False.elim T
  | succ n ih =>
    intro kk nn h1 h2 a3 h T E
    unfold tk_L_law_18 at T; unfold fn_L_law_18 at E; dsimp only at T E
    have hk18 : ∀ (k2 n2 : Nat), k2 = kk + 8 → n2 = nn + 48 → ∀ (a3 : Int32) (h : z_H), tk_L_law_18 L xs n a3 h → fn_L_law_18 L xs n a3 h = 1 → z_Z p l e room_1 s m #[Value.ref b] below meth c D dA (fun q => s.heap.size ≤ q) s.heap 8 ad (lw_Z below #[Value.ref b] s) k2 n2 18 [some (.ref 40), some (.ref 0), some (.ref 20), some (.int a3), none, none, none, none] [] (z_d) h := fun k2 n2 e1 e2 a3 h T E => ih k2 n2 (by omega) (by omega) a3 h T E
    have h1 : kk + 8 ≤ 600000 := by omega
    have h2 : nn + 48 ≤ 7300000 := by omega
    refine z_go hC (pc' := 21) (ls' := [some (.ref 40), some (.ref 0), some (.ref 20), some (.int a3), none, none, none, none]) (st' := [.int (nI 90), .int a3]) (h' := h) (cs := []) [.iload_n 3, .bipush 90] (by decide +kernel) rfl rfl trivial ?_
    refine z_icmp_ge hC (off := 164) 185 (by decide +kernel) (by decide) (fun c39 => ?_) (fun c39 => ?_)
    · skip
      have E := (if_pos c39).symm.trans E
      have T := T.1 c39
      refine z_go hC (pc' := 186) (ls' := [some (.ref 40), some (.ref 0), some (.ref 20), some (.int a3), none, none, none, none]) (st' := [.ref 0]) (h' := h) (cs := []) [.aload_n 1] (by decide +kernel) rfl rfl trivial ?_
      have t40 := T
      refine z_callSx hC hN hR hZ hKin (as := [.ref 0]) (rest := []) ok_L_137 (by decide +kernel) (sp_L_isCycleSo l hl0 _ h  t40) (Nat.le_of_ble_eq_true rfl) rfl rfl (Nat.le_of_ble_eq_true rfl) ⟨by show _ ≤ 600172; omega, by show _ ≤ 7300668; omega⟩ (fun Ex qx => False.elim qx) (fun rv hw q41 => z_funb q41 (fun _ => ?_))
      refine z_widen (k' := 600172) (n' := 7300668) (by omega) (by omega) ?_
      exact z_lawretv hC hret hlk (by decide +kernel) E
    · skip
      have E := (if_neg c39).symm.trans E
      have T := T.2 c39
      refine z_go hC (pc' := 26) (ls' := [some (.ref 40), some (.ref 0), some (.ref 20), some (.int a3), none, none, none, none]) (st' := [.int a3, .ref 40]) (h' := h) (cs := []) [.aload_n 0, .iload_n 3] (by decide +kernel) rfl rfl trivial ?_
      obtain ⟨t42, T⟩ := T
      refine z_callcell hC hN hR (rest := []) (o := 40) ok_L_126 (by decide +kernel) hX hbl hbA had hL t42 (Nat.le_of_ble_eq_true rfl) (Nat.le_of_ble_eq_true rfl) ⟨by show _ ≤ 600172; omega, by show _ ≤ 7300668; omega⟩ ?_
      refine z_go hC (pc' := 32) (ls' := [some (.ref 40), some (.ref 0), some (.ref 20), some (.int a3), some (.int (p_cell L xs a3)), none, none, none]) (st' := [.ref 0]) (h' := h) (cs := []) [.istore 4, .aload_n 1] (by decide +kernel) rfl rfl trivial ?_
      obtain ⟨t46, T⟩ := T
      refine z_callV hC hN hR (as := []) (rest := []) ok_L_85 (by decide +kernel) (sp_X7_isInOrder l _ h  t46) rfl rfl (Nat.le_of_ble_eq_true rfl) rfl rfl (Nat.le_of_ble_eq_true rfl) ⟨by show _ ≤ 600172; omega, by show _ ≤ 7300668; omega⟩ (fun r43 h44 q45 => z_funb q45 (fun z47 => ?_))
      refine z_go hC (pc' := 41) (ls' := [some (.ref 40), some (.ref 0), some (.ref 20), some (.int a3), some (.int (p_cell L xs a3)), some (.int (z_vi0 (fn_X7_isInOrder  h))), none, none]) (st' := [.int (nI 18), .int (p_cell L xs a3)]) (h' := h) (cs := []) [.istore 5, .iload 4, .bipush 18] (by decide +kernel) rfl rfl trivial ?_
      obtain ⟨t51, T⟩ := T
      refine z_callS hC hN hR (as := [.int (p_cell L xs a3), .int (nI 18)]) (rest := []) ok_L_46 (by decide +kernel) (sp_L_low l _ h (p_cell L xs a3) (nI 18) t51) (Nat.le_of_ble_eq_true rfl) rfl rfl (Nat.le_of_ble_eq_true rfl) ⟨by show _ ≤ 600172; omega, by show _ ≤ 7300668; omega⟩ (fun r48 h49 q50 => z_fun q50 ?_)
      refine z_go hC (pc' := 49) (ls' := [some (.ref 40), some (.ref 0), some (.ref 20), some (.int a3), some (.int (p_cell L xs a3)), some (.int (z_vi0 (fn_X7_isInOrder  h))), some (.int (z_vi0 (fn_L_low (p_cell L xs a3) (nI 18) h))), none]) (st' := [.int (p_cell L xs a3), .ref 0]) (h' := h) (cs := []) [.istore 6, .aload_n 1, .iload 4] (by decide +kernel) rfl rfl trivial ?_
      obtain ⟨t52, T⟩ := T
      refine z_callSx hC hN hR hZ hKin (as := [.ref 0, .int (p_cell L xs a3)]) (rest := []) ok_L_130 (by decide +kernel) (sp_L_act l hl0 _ h (p_cell L xs a3) t52) (Nat.le_of_ble_eq_true rfl) rfl rfl (Nat.le_of_ble_eq_true rfl) ⟨by show _ ≤ 600172; omega, by show _ ≤ 7300668; omega⟩ (fun Ex qx => False.elim qx) (fun rv hw q53 => z_fun q53 ?_)
      refine z_go hC (pc' := 56) (ls' := [some (.ref 40), some (.ref 0), some (.ref 20), some (.int a3), some (.int (p_cell L xs a3)), some (.int (z_vi0 (fn_X7_isInOrder  h))), some (.int (z_vi0 (fn_L_low (p_cell L xs a3) (nI 18) h))), some (.int (z_vi (fn_L_act (p_cell L xs a3) h)))]) (st' := [.int (z_vi (fn_L_act (p_cell L xs a3) h))]) (h' := (fn_L_act (p_cell L xs a3) h).2) (cs := []) [.istore 7, .iload 7] (by decide +kernel) rfl rfl trivial ?_
      refine z_ldc hC (idx := 16) (v := -99999) (by decide +kernel) (by decide +kernel) ?_
      refine z_icmp_eq hC (off := 14) 72 (by decide +kernel) (by decide) (fun c54 => ?_) (fun c54 => ?_)
      · skip
        have E := (if_pos c54).symm.trans E
        have T := T.1 c54
        refine z_widen (k' := kk + 4) (n' := nn + 24) (by omega) (by omega) ?_
        exact P72 _ _ kk nn h1 h2 hk18 a3 (p_cell L xs a3) (z_vi0 (fn_X7_isInOrder  h)) (z_vi0 (fn_L_low (p_cell L xs a3) (nI 18) h)) (z_vi (fn_L_act (p_cell L xs a3) h)) ((fn_L_act (p_cell L xs a3) h).2) T E
      · skip
        have E := (if_neg c54).symm.trans E
        have T := T.2 c54
        refine z_go hC (pc' := 64) (ls' := [some (.ref 40), some (.ref 0), some (.ref 20), some (.int a3), some (.int (p_cell L xs a3)), some (.int (z_vi0 (fn_X7_isInOrder  h))), some (.int (z_vi0 (fn_L_low (p_cell L xs a3) (nI 18) h))), some (.int (z_vi (fn_L_act (p_cell L xs a3) h)))]) (st' := [.int (p_cell L xs a3), .ref 20]) (h' := (fn_L_act (p_cell L xs a3) h).2) (cs := []) [.aload_n 2, .iload 4] (by decide +kernel) rfl rfl trivial ?_
        obtain ⟨t55, T⟩ := T
        refine z_callSxp hC hN hR hZ hKin (as := [.ref 20, .int (p_cell L xs a3)]) (rest := []) ok_L_130 (by decide +kernel) (sp_L_act l hl0 _ (z_sw ((fn_L_act (p_cell L xs a3) h).2)) (p_cell L xs a3) t55) (Nat.le_of_ble_eq_true rfl) rfl rfl (Nat.le_of_ble_eq_true rfl) ⟨by show _ ≤ 600172; omega, by show _ ≤ 7300668; omega⟩ (fun rv hw q56 => z_funi q56 ?_)
        refine z_go hC (pc' := 69) (ls' := [some (.ref 40), some (.ref 0), some (.ref 20), some (.int a3), some (.int (p_cell L xs a3)), some (.int (z_vi0 (fn_X7_isInOrder  h))), some (.int (z_vi0 (fn_L_low (p_cell L xs a3) (nI 18) h))), some (.int (z_vi (fn_L_act (p_cell L xs a3) h)))]) (st' := [.int (z_vi (fn_L_act (p_cell L xs a3) h)), .int (z_vi (fn_L_act (p_cell L xs a3) (z_sw ((fn_L_act (p_cell L xs a3) h).2))))]) (h' := z_sw ((fn_L_act (p_cell L xs a3) (z_sw ((fn_L_act (p_cell L xs a3) h).2))).2)) (cs := []) [.iload 7] (by decide +kernel) rfl rfl trivial ?_
        refine z_icmp_ne hC (off := 11) 80 (by decide +kernel) (by decide) (fun c57 => ?_) (fun c57 => ?_)
        · skip
          have E := (if_neg c57).symm.trans E
          have T := T.2 c57
          refine z_go hC (pc' := 81) (ls' := [some (.ref 40), some (.ref 0), some (.ref 20), some (.int a3), some (.int (p_cell L xs a3)), some (.int (z_vi0 (fn_X7_isInOrder  h))), some (.int (z_vi0 (fn_L_low (p_cell L xs a3) (nI 18) h))), some (.int (z_vi (fn_L_act (p_cell L xs a3) h)))]) (st' := [.int (nI 0)]) (h' := z_sw ((fn_L_act (p_cell L xs a3) (z_sw ((fn_L_act (p_cell L xs a3) h).2))).2)) (cs := []) [.iconst 0] (by decide +kernel) rfl rfl trivial ?_
          exact absurd E (by decide)
        · skip
          have E := (if_pos c57).symm.trans E
          have T := T.1 c57
          refine z_widen (k' := kk + 4) (n' := nn + 24) (by omega) (by omega) ?_
          exact P72 _ _ kk nn h1 h2 hk18 a3 (p_cell L xs a3) (z_vi0 (fn_X7_isInOrder  h)) (z_vi0 (fn_L_low (p_cell L xs a3) (nI 18) h)) (z_vi (fn_L_act (p_cell L xs a3) h)) (z_sw ((fn_L_act (p_cell L xs a3) (z_sw ((fn_L_act (p_cell L xs a3) h).2))).2)) T E
