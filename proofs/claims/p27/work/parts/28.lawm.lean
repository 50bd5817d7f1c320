/-! ===== printed by wip/p27/gen: the law, as functions ===== -/
def fn_L_act_427  (s0 : Int32) (hh : z_H) : z_R := (some (.int (z_vi (fn_L_step s0 hh))), (fn_L_step s0 hh).2)
def tk_L_act_427  (s0 : Int32) (hh : z_H) : Prop := True
def fn_L_act_398  (s0 : Int32) (hh : z_H) : z_R := (some (.int (z_vi (fn_L_play s0 hh))), (fn_L_play s0 hh).2)
def tk_L_act_398  (s0 : Int32) (hh : z_H) : Prop := tk_L_play s0 hh
def fn_L_act_360  (s0 : Int32) (s1 : Int32) (hh : z_H) : z_R := (some (.int (z_vi (fn_L_begin s1 s0 hh))), (fn_L_begin s1 s0 hh).2)
def tk_L_act_360  (s0 : Int32) (s1 : Int32) (hh : z_H) : Prop := True
def fn_L_act_332  (a1 : Int32) (a2 : Int32) (a3 : Int32) (hh : z_H) : z_R := if a2 = 0 then fn_L_act_360 (z_vi0 (fn_L_low (a1 >>> ((nI 10) &&& 31)) (nI 5) hh)) a3 hh else fn_L_act_360 ((z_vi0 (fn_L_low (a1 >>> ((nI 10) &&& 31)) (nI 23) hh)) - (nI 1)) a3 hh
def tk_L_act_332  (a1 : Int32) (a2 : Int32) (a3 : Int32) (hh : z_H) : Prop := ((a2 = 0) → (tk_L_low (a1 >>> ((nI 10) &&& 31)) (nI 5) hh)) ∧ ((¬ a2 = 0) → (tk_L_low (a1 >>> ((nI 10) &&& 31)) (nI 23) hh))
def fn_L_act_273  (s0 : Int32) (hh : z_H) : z_R := (some (.int (z_vi (fn_L_play s0 hh))), (fn_L_play s0 hh).2)
def tk_L_act_273  (s0 : Int32) (hh : z_H) : Prop := tk_L_play s0 hh
def fn_L_act_307  (s0 : Int32) (s1 : Int32) (hh : z_H) : z_R := (some (.int (z_vi (fn_L_begin s1 s0 hh))), (fn_L_begin s1 s0 hh).2)
def tk_L_act_307  (s0 : Int32) (s1 : Int32) (hh : z_H) : Prop := True
def fn_L_act_215  (s0 : Int32) (s1 : Int32) (hh : z_H) : z_R := (some (.int (z_vi (fn_L_setLink s1 s0 hh))), (fn_L_setLink s1 s0 hh).2)
def tk_L_act_215  (s0 : Int32) (s1 : Int32) (hh : z_H) : Prop := tk_L_setLink s1 s0 hh
def fn_L_act_186  (a1 : Int32) (a2 : Int32) (s0 : Int32) (hh : z_H) : z_R := if a2 = 0 then fn_L_act_215 ((z_vi0 (fn_L_low (a1 >>> ((nI 8) &&& 31)) (nI 11) hh)) - (nI 1)) s0 hh else fn_L_act_215 ((z_vi0 (fn_L_low (a1 >>> ((nI 8) &&& 31)) (nI 14) hh)) - (nI 3)) s0 hh
def tk_L_act_186  (a1 : Int32) (a2 : Int32) (s0 : Int32) (hh : z_H) : Prop := ((a2 = 0) → (tk_L_low (a1 >>> ((nI 8) &&& 31)) (nI 11) hh ∧ (tk_L_act_215 ((z_vi0 (fn_L_low (a1 >>> ((nI 8) &&& 31)) (nI 11) hh)) - (nI 1)) s0 hh))) ∧ ((¬ a2 = 0) → (tk_L_low (a1 >>> ((nI 8) &&& 31)) (nI 14) hh ∧ (tk_L_act_215 ((z_vi0 (fn_L_low (a1 >>> ((nI 8) &&& 31)) (nI 14) hh)) - (nI 3)) s0 hh)))
def fn_L_act_156  (s0 : Int32) (s1 : Int32) (hh : z_H) : z_R := (some (.int (z_vi (fn_L_setWall s1 s0 hh))), (fn_L_setWall s1 s0 hh).2)
def tk_L_act_156  (s0 : Int32) (s1 : Int32) (hh : z_H) : Prop := tk_L_setWall s1 s0 hh
def fn_L_act_142  (a1 : Int32) (s0 : Int32) (hh : z_H) : z_R := if ((a1 >>> ((nI 8) &&& 31)) &&& (nI 3)) = 0 then fn_L_act_156 (nI 1) s0 hh else fn_L_act_156 (nI 0) s0 hh
def tk_L_act_142  (a1 : Int32) (s0 : Int32) (hh : z_H) : Prop := ((((a1 >>> ((nI 8) &&& 31)) &&& (nI 3)) = 0) → (tk_L_act_156 (nI 1) s0 hh)) ∧ ((¬ ((a1 >>> ((nI 8) &&& 31)) &&& (nI 3)) = 0) → (tk_L_act_156 (nI 0) s0 hh))
def fn_L_act_43  (a1 : Int32) (a2 : Int32) (s0 : Int32) (hh : z_H) : z_R := if (z_vi0 (fn_L_low a1 (nI 18) hh)) = nI 0 then if a2 = 0 then fn_L_act_142 a1 (z_vi0 (fn_L_low (a1 >>> ((nI 4) &&& 31)) (nI 9) hh)) hh else fn_L_act_142 a1 ((z_vi0 (fn_L_low (a1 >>> ((nI 4) &&& 31)) (nI 12) hh)) - (nI 1)) hh else if (z_vi0 (fn_L_low a1 (nI 18) hh)) = nI 1 then if a2 = 0 then fn_L_act_186 a1 a2 (z_vi0 (fn_L_low (a1 >>> ((nI 4) &&& 31)) (nI 12) hh)) hh else fn_L_act_186 a1 a2 ((z_vi0 (fn_L_low (a1 >>> ((nI 4) &&& 31)) (nI 15) hh)) - (nI 1)) hh else if (z_vi0 (fn_L_low a1 (nI 18) hh)) = nI 2 then if a2 = 0 then fn_L_act_186 a1 a2 (z_vi0 (fn_L_low (a1 >>> ((nI 4) &&& 31)) (nI 12) hh)) hh else fn_L_act_186 a1 a2 ((z_vi0 (fn_L_low (a1 >>> ((nI 4) &&& 31)) (nI 15) hh)) - (nI 1)) hh else if (z_vi0 (fn_L_low a1 (nI 18) hh)) = nI 3 then if (z_vi0 (fn_L_low (a1 >>> ((nI 10) &&& 31)) (nI 6) hh)) = 0 then (some (.int (z_vi (fn_L_end  hh))), (fn_L_end  hh).2) else if (z_vi0 (fn_X7_isAlive  hh)) = 0 then if a2 = 0 then fn_L_act_307 (z_vi0 (fn_L_low (a1 >>> ((nI 10) &&& 31)) (nI 5) hh)) s0 hh else fn_L_act_307 ((z_vi0 (fn_L_low (a1 >>> ((nI 10) &&& 31)) (nI 23) hh)) - (nI 1)) s0 hh else if a2 = 0 then fn_L_act_273 ((nI 1) + (z_vi0 (fn_L_low (a1 >>> ((nI 4) &&& 31)) (nI 6) hh))) hh else fn_L_act_273 ((z_vi0 (fn_L_low (a1 >>> ((nI 4) &&& 31)) (nI 53) hh)) - (nI 1)) hh else if (z_vi0 (fn_L_low a1 (nI 18) hh)) = nI 4 then if (z_vi0 (fn_X7_length  hh)) ≤ 0 then fn_L_act_332 a1 a2 s0 hh else if (z_vi0 (fn_X7_isAlive  hh)) = 0 then (some (.int (z_vi (fn_L_end  hh))), (fn_L_end  hh).2) else fn_L_act_332 a1 a2 s0 hh else if (z_vi0 (fn_L_low a1 (nI 18) hh)) = nI 5 then (some (.int (z_vi (fn_L_feed s0 hh))), (fn_L_feed s0 hh).2) else if (z_vi0 (fn_L_low a1 (nI 18) hh)) = nI 6 then (some (.int (z_vi (fn_L_feed s0 hh))), (fn_L_feed s0 hh).2) else if (z_vi0 (fn_L_low a1 (nI 18) hh)) = nI 7 then (some (.int (z_vi (fn_L_feed s0 hh))), (fn_L_feed s0 hh).2) else if (z_vi0 (fn_L_low a1 (nI 18) hh)) = nI 8 then (some (.int (z_vi (fn_L_feed s0 hh))), (fn_L_feed s0 hh).2) else if (z_vi0 (fn_L_low a1 (nI 18) hh)) = nI 9 then if a2 = 0 then fn_L_act_398 ((nI 1) + (z_vi0 (fn_L_low (a1 >>> ((nI 4) &&& 31)) (nI 8) hh))) hh else fn_L_act_398 ((z_vi0 (fn_L_low (a1 >>> ((nI 4) &&& 31)) (nI 53) hh)) - (nI 1)) hh else if (z_vi0 (fn_L_low a1 (nI 18) hh)) = nI 10 then if a2 = 0 then fn_L_act_398 ((nI 1) + (z_vi0 (fn_L_low (a1 >>> ((nI 4) &&& 31)) (nI 8) hh))) hh else fn_L_act_398 ((z_vi0 (fn_L_low (a1 >>> ((nI 4) &&& 31)) (nI 53) hh)) - (nI 1)) hh else if (z_vi0 (fn_L_low a1 (nI 18) hh)) = nI 11 then if a2 = 0 then fn_L_act_398 ((nI 1) + (z_vi0 (fn_L_low (a1 >>> ((nI 4) &&& 31)) (nI 8) hh))) hh else fn_L_act_398 ((z_vi0 (fn_L_low (a1 >>> ((nI 4) &&& 31)) (nI 53) hh)) - (nI 1)) hh else if (z_vi0 (fn_L_low a1 (nI 18) hh)) = nI 12 then if a2 = 0 then fn_L_act_398 ((nI 1) + (z_vi0 (fn_L_low (a1 >>> ((nI 4) &&& 31)) (nI 8) hh))) hh else fn_L_act_398 ((z_vi0 (fn_L_low (a1 >>> ((nI 4) &&& 31)) (nI 53) hh)) - (nI 1)) hh else if a2 = 0 then fn_L_act_427 (z_vi0 (fn_L_low (a1 >>> ((nI 4) &&& 31)) (nI 4) hh)) hh else fn_L_act_427 ((z_vi0 (fn_L_low (a1 >>> ((nI 4) &&& 31)) (nI 6) hh)) - (nI 1)) hh
def tk_L_act_43  (a1 : Int32) (a2 : Int32) (s0 : Int32) (hh : z_H) : Prop := tk_L_low a1 (nI 18) hh ∧ ((((z_vi0 (fn_L_low a1 (nI 18) hh)) = nI 0) → (((a2 = 0) → (tk_L_low (a1 >>> ((nI 4) &&& 31)) (nI 9) hh ∧ (tk_L_act_142 a1 (z_vi0 (fn_L_low (a1 >>> ((nI 4) &&& 31)) (nI 9) hh)) hh))) ∧ ((¬ a2 = 0) → (tk_L_low (a1 >>> ((nI 4) &&& 31)) (nI 12) hh ∧ (tk_L_act_142 a1 ((z_vi0 (fn_L_low (a1 >>> ((nI 4) &&& 31)) (nI 12) hh)) - (nI 1)) hh))))) ∧ ((¬ (z_vi0 (fn_L_low a1 (nI 18) hh)) = nI 0) → ((((z_vi0 (fn_L_low a1 (nI 18) hh)) = nI 1) → (((a2 = 0) → (tk_L_low (a1 >>> ((nI 4) &&& 31)) (nI 12) hh ∧ (tk_L_act_186 a1 a2 (z_vi0 (fn_L_low (a1 >>> ((nI 4) &&& 31)) (nI 12) hh)) hh))) ∧ ((¬ a2 = 0) → (tk_L_low (a1 >>> ((nI 4) &&& 31)) (nI 15) hh ∧ (tk_L_act_186 a1 a2 ((z_vi0 (fn_L_low (a1 >>> ((nI 4) &&& 31)) (nI 15) hh)) - (nI 1)) hh))))) ∧ ((¬ (z_vi0 (fn_L_low a1 (nI 18) hh)) = nI 1) → ((((z_vi0 (fn_L_low a1 (nI 18) hh)) = nI 2) → (((a2 = 0) → (tk_L_low (a1 >>> ((nI 4) &&& 31)) (nI 12) hh ∧ (tk_L_act_186 a1 a2 (z_vi0 (fn_L_low (a1 >>> ((nI 4) &&& 31)) (nI 12) hh)) hh))) ∧ ((¬ a2 = 0) → (tk_L_low (a1 >>> ((nI 4) &&& 31)) (nI 15) hh ∧ (tk_L_act_186 a1 a2 ((z_vi0 (fn_L_low (a1 >>> ((nI 4) &&& 31)) (nI 15) hh)) - (nI 1)) hh))))) ∧ ((¬ (z_vi0 (fn_L_low a1 (nI 18) hh)) = nI 2) → ((((z_vi0 (fn_L_low a1 (nI 18) hh)) = nI 3) → (tk_L_low (a1 >>> ((nI 10) &&& 31)) (nI 6) hh ∧ ((((z_vi0 (fn_L_low (a1 >>> ((nI 10) &&& 31)) (nI 6) hh)) = 0) → (True)) ∧ ((¬ (z_vi0 (fn_L_low (a1 >>> ((nI 10) &&& 31)) (nI 6) hh)) = 0) → ((((z_vi0 (fn_X7_isAlive  hh)) = 0) → (((a2 = 0) → (tk_L_low (a1 >>> ((nI 10) &&& 31)) (nI 5) hh)) ∧ ((¬ a2 = 0) → (tk_L_low (a1 >>> ((nI 10) &&& 31)) (nI 23) hh)))) ∧ ((¬ (z_vi0 (fn_X7_isAlive  hh)) = 0) → (((a2 = 0) → (tk_L_low (a1 >>> ((nI 4) &&& 31)) (nI 6) hh ∧ (tk_L_act_273 ((nI 1) + (z_vi0 (fn_L_low (a1 >>> ((nI 4) &&& 31)) (nI 6) hh))) hh))) ∧ ((¬ a2 = 0) → (tk_L_low (a1 >>> ((nI 4) &&& 31)) (nI 53) hh ∧ (tk_L_act_273 ((z_vi0 (fn_L_low (a1 >>> ((nI 4) &&& 31)) (nI 53) hh)) - (nI 1)) hh)))))))))) ∧ ((¬ (z_vi0 (fn_L_low a1 (nI 18) hh)) = nI 3) → ((((z_vi0 (fn_L_low a1 (nI 18) hh)) = nI 4) → ((((z_vi0 (fn_X7_length  hh)) ≤ 0) → (tk_L_act_332 a1 a2 s0 hh)) ∧ ((¬ (z_vi0 (fn_X7_length  hh)) ≤ 0) → ((((z_vi0 (fn_X7_isAlive  hh)) = 0) → (True)) ∧ ((¬ (z_vi0 (fn_X7_isAlive  hh)) = 0) → (tk_L_act_332 a1 a2 s0 hh)))))) ∧ ((¬ (z_vi0 (fn_L_low a1 (nI 18) hh)) = nI 4) → ((((z_vi0 (fn_L_low a1 (nI 18) hh)) = nI 5) → (True)) ∧ ((¬ (z_vi0 (fn_L_low a1 (nI 18) hh)) = nI 5) → ((((z_vi0 (fn_L_low a1 (nI 18) hh)) = nI 6) → (True)) ∧ ((¬ (z_vi0 (fn_L_low a1 (nI 18) hh)) = nI 6) → ((((z_vi0 (fn_L_low a1 (nI 18) hh)) = nI 7) → (True)) ∧ ((¬ (z_vi0 (fn_L_low a1 (nI 18) hh)) = nI 7) → ((((z_vi0 (fn_L_low a1 (nI 18) hh)) = nI 8) → (True)) ∧ ((¬ (z_vi0 (fn_L_low a1 (nI 18) hh)) = nI 8) → ((((z_vi0 (fn_L_low a1 (nI 18) hh)) = nI 9) → (((a2 = 0) → (tk_L_low (a1 >>> ((nI 4) &&& 31)) (nI 8) hh ∧ (tk_L_act_398 ((nI 1) + (z_vi0 (fn_L_low (a1 >>> ((nI 4) &&& 31)) (nI 8) hh))) hh))) ∧ ((¬ a2 = 0) → (tk_L_low (a1 >>> ((nI 4) &&& 31)) (nI 53) hh ∧ (tk_L_act_398 ((z_vi0 (fn_L_low (a1 >>> ((nI 4) &&& 31)) (nI 53) hh)) - (nI 1)) hh))))) ∧ ((¬ (z_vi0 (fn_L_low a1 (nI 18) hh)) = nI 9) → ((((z_vi0 (fn_L_low a1 (nI 18) hh)) = nI 10) → (((a2 = 0) → (tk_L_low (a1 >>> ((nI 4) &&& 31)) (nI 8) hh ∧ (tk_L_act_398 ((nI 1) + (z_vi0 (fn_L_low (a1 >>> ((nI 4) &&& 31)) (nI 8) hh))) hh))) ∧ ((¬ a2 = 0) → (tk_L_low (a1 >>> ((nI 4) &&& 31)) (nI 53) hh ∧ (tk_L_act_398 ((z_vi0 (fn_L_low (a1 >>> ((nI 4) &&& 31)) (nI 53) hh)) - (nI 1)) hh))))) ∧ ((¬ (z_vi0 (fn_L_low a1 (nI 18) hh)) = nI 10) → ((((z_vi0 (fn_L_low a1 (nI 18) hh)) = nI 11) → (((a2 = 0) → (tk_L_low (a1 >>> ((nI 4) &&& 31)) (nI 8) hh ∧ (tk_L_act_398 ((nI 1) + (z_vi0 (fn_L_low (a1 >>> ((nI 4) &&& 31)) (nI 8) hh))) hh))) ∧ ((¬ a2 = 0) → (tk_L_low (a1 >>> ((nI 4) &&& 31)) (nI 53) hh ∧ (tk_L_act_398 ((z_vi0 (fn_L_low (a1 >>> ((nI 4) &&& 31)) (nI 53) hh)) - (nI 1)) hh))))) ∧ ((¬ (z_vi0 (fn_L_low a1 (nI 18) hh)) = nI 11) → ((((z_vi0 (fn_L_low a1 (nI 18) hh)) = nI 12) → (((a2 = 0) → (tk_L_low (a1 >>> ((nI 4) &&& 31)) (nI 8) hh ∧ (tk_L_act_398 ((nI 1) + (z_vi0 (fn_L_low (a1 >>> ((nI 4) &&& 31)) (nI 8) hh))) hh))) ∧ ((¬ a2 = 0) → (tk_L_low (a1 >>> ((nI 4) &&& 31)) (nI 53) hh ∧ (tk_L_act_398 ((z_vi0 (fn_L_low (a1 >>> ((nI 4) &&& 31)) (nI 53) hh)) - (nI 1)) hh))))) ∧ ((¬ (z_vi0 (fn_L_low a1 (nI 18) hh)) = nI 12) → (((a2 = 0) → (tk_L_low (a1 >>> ((nI 4) &&& 31)) (nI 4) hh)) ∧ ((¬ a2 = 0) → (tk_L_low (a1 >>> ((nI 4) &&& 31)) (nI 6) hh)))))))))))))))))))))))))))))
def fn_L_act_17  (a1 : Int32) (s0 : Int32) (hh : z_H) : z_R := if s0 = 0 then fn_L_act_43 a1 s0 (z_vi0 (fn_L_low (a1 >>> ((nI 4) &&& 31)) (nI 36) hh)) hh else fn_L_act_43 a1 s0 ((z_vi0 (fn_L_low (a1 >>> ((nI 4) &&& 31)) (nI 39) hh)) - (nI 1)) hh
def tk_L_act_17  (a1 : Int32) (s0 : Int32) (hh : z_H) : Prop := ((s0 = 0) → (tk_L_low (a1 >>> ((nI 4) &&& 31)) (nI 36) hh ∧ (tk_L_act_43 a1 s0 (z_vi0 (fn_L_low (a1 >>> ((nI 4) &&& 31)) (nI 36) hh)) hh))) ∧ ((¬ s0 = 0) → (tk_L_low (a1 >>> ((nI 4) &&& 31)) (nI 39) hh ∧ (tk_L_act_43 a1 s0 ((z_vi0 (fn_L_low (a1 >>> ((nI 4) &&& 31)) (nI 39) hh)) - (nI 1)) hh)))
def fn_L_act (x : Int32) (h : z_H) : z_R := if (z_vi0 (fn_L_low (x >>> ((nI 24) &&& 31)) (nI 9) h)) = 0 then fn_L_act_17 x (nI 1) h else fn_L_act_17 x (nI 0) h
def tk_L_act (x : Int32) (h : z_H) : Prop := tk_L_low (x >>> ((nI 24) &&& 31)) (nI 9) h ∧ ((((z_vi0 (fn_L_low (x >>> ((nI 24) &&& 31)) (nI 9) h)) = 0) → (tk_L_act_17 x (nI 1) h)) ∧ ((¬ (z_vi0 (fn_L_low (x >>> ((nI 24) &&& 31)) (nI 9) h)) = 0) → (tk_L_act_17 x (nI 0) h)))
set_option maxHeartbeats 40000000 in
set_option maxRecDepth 100000 in
theorem sp_L_act (l : Launch) (hl0 : l.stackTraces = false) (ext : z_Sh) (h : z_H) (x : Int32) (T : tk_L_act x h) : z_Spx l 9 yL_act (.code yL_act cL_act 4 (some .int)) 2 12 [.ref 0, .int x] (z_c ext) h (z_PI (fn_L_act x h)) (fun _ => False) := by
  refine z_enterx ft_L (by decide +kernel) fo_L (Nat.le_of_ble_eq_true rfl) ?_
  intro p e R s m args below meth c D dA ad hB
  have hC := hB.1.1
  have hN := hB.1.2.1
  have hR := hB.1.2.2.1
  have hZ := hB.2.1
  have hKin := hB.2.2.1
  unfold tk_L_act at T
  have E : (if (z_vi0 (fn_L_low (x >>> ((nI 24) &&& 31)) (nI 9) h)) = 0 then fn_L_act_17 x (nI 1) h else fn_L_act_17 x (nI 0) h) = (fn_L_act x h) := rfl
  generalize (fn_L_act x h) = RR at E ⊢
  have P427 : ∀ (s0 : Int32) (hh : z_H), tk_L_act_427  s0 hh → fn_L_act_427  s0 hh = RR → z_GX p l e R s m args below meth c D dA ad 4 (z_PI RR) (fun _ => False) h 2 12 (z_c ext) 0 0 427 [none, none, none, none] [.int s0, .ref 0] hh := by
    intro  s0 hh T E
    unfold tk_L_act_427 at T; unfold fn_L_act_427 at E
    refine z_callSh hC hN hR hZ hKin (as := [.ref 0, .int s0]) (rest := []) ok_L_74 (by decide +kernel) (sp_L_step l hl0 _ hh s0) (Nat.le_of_ble_eq_true rfl) rfl rfl (Nat.le_of_ble_eq_true rfl) ⟨Nat.le_trans (Nat.le_of_ble_eq_true rfl) hB.2.2.2.2.1, Nat.le_trans (Nat.le_of_ble_eq_true rfl) hB.2.2.2.2.2⟩ (fun Ex qx => False.elim qx) (fun rv hw q1 => z_fun q1 ?_)
    exact z_retx_i hB rfl ⟨Nat.le_of_ble_eq_true rfl, Nat.le_of_ble_eq_true rfl⟩ (by decide +kernel) (z_lfi E)
  have P398 : ∀ (s0 : Int32) (hh : z_H), tk_L_act_398  s0 hh → fn_L_act_398  s0 hh = RR → z_GX p l e R s m args below meth c D dA ad 4 (z_PI RR) (fun _ => False) h 2 12 (z_c ext) 0 0 398 [none, none, none, none] [.int s0, .ref 0] hh := by
    intro  s0 hh T E
    unfold tk_L_act_398 at T; unfold fn_L_act_398 at E
    have t2 := T
    refine z_callSh hC hN hR hZ hKin (as := [.ref 0, .int s0]) (rest := []) ok_L_64 (by decide +kernel) (sp_L_play l hl0 _ hh s0 t2) (Nat.le_of_ble_eq_true rfl) rfl rfl (Nat.le_of_ble_eq_true rfl) ⟨Nat.le_trans (Nat.le_of_ble_eq_true rfl) hB.2.2.2.2.1, Nat.le_trans (Nat.le_of_ble_eq_true rfl) hB.2.2.2.2.2⟩ (fun Ex qx => False.elim qx) (fun rv hw q3 => z_fun q3 ?_)
    exact z_retx_i hB rfl ⟨Nat.le_of_ble_eq_true rfl, Nat.le_of_ble_eq_true rfl⟩ (by decide +kernel) (z_lfi E)
  have P360 : ∀ (s0 : Int32) (s1 : Int32) (hh : z_H), tk_L_act_360  s0 s1 hh → fn_L_act_360  s0 s1 hh = RR → z_GX p l e R s m args below meth c D dA ad 4 (z_PI RR) (fun _ => False) h 2 12 (z_c ext) 0 0 360 [none, none, none, none] [.int s0, .int s1, .ref 0] hh := by
    intro  s0 s1 hh T E
    unfold tk_L_act_360 at T; unfold fn_L_act_360 at E
    refine z_callSh hC hN hR hZ hKin (as := [.ref 0, .int s1, .int s0]) (rest := []) ok_L_67 (by decide +kernel) (sp_L_begin l hl0 _ hh s1 s0) (Nat.le_of_ble_eq_true rfl) rfl rfl (Nat.le_of_ble_eq_true rfl) ⟨Nat.le_trans (Nat.le_of_ble_eq_true rfl) hB.2.2.2.2.1, Nat.le_trans (Nat.le_of_ble_eq_true rfl) hB.2.2.2.2.2⟩ (fun Ex qx => False.elim qx) (fun rv hw q4 => z_fun q4 ?_)
    exact z_retx_i hB rfl ⟨Nat.le_of_ble_eq_true rfl, Nat.le_of_ble_eq_true rfl⟩ (by decide +kernel) (z_lfi E)
  have P332 : ∀ (a1 : Int32) (a2 : Int32) (a3 : Int32) (hh : z_H), tk_L_act_332  a1 a2 a3 hh → fn_L_act_332  a1 a2 a3 hh = RR → z_GX p l e R s m args below meth c D dA ad 4 (z_PI RR) (fun _ => False) h 2 12 (z_c ext) 0 0 332 [some (.ref 0), some (.int a1), some (.int a2), some (.int a3)] [] hh := by
    intro  a1 a2 a3 hh T E
    unfold tk_L_act_332 at T; unfold fn_L_act_332 at E
    refine z_go hC (pc' := 335) (ls' := [some (.ref 0), some (.int a1), some (.int a2), some (.int a3)]) (st' := [.int a2, .int a3, .ref 0]) (h' := hh) (cs := []) [.aload_n 0, .iload_n 3, .iload_n 2] (by decide +kernel) rfl rfl trivial ?_
    refine z_if_eq hC (off := 17) 352 (by decide +kernel) (by decide) (fun c5 => ?_) (fun c5 => ?_)
    · skip
      have E := (if_pos c5).symm.trans E
      have T := T.1 c5
      refine z_go hC (pc' := 357) (ls' := [some (.ref 0), some (.int a1), some (.int a2), some (.int a3)]) (st' := [.int (nI 5), .int (a1 >>> ((nI 10) &&& 31)), .int a3, .ref 0]) (h' := hh) (cs := []) [.iload_n 1, .bipush 10, .ishr, .iconst 5] (by decide +kernel) rfl rfl trivial ?_
      have t9 := T
      refine z_callS hC hN hR (as := [.int (a1 >>> ((nI 10) &&& 31)), .int (nI 5)]) (rest := [.int a3, .ref 0]) ok_L_46 (by decide +kernel) (sp_L_low l _ hh (a1 >>> ((nI 10) &&& 31)) (nI 5) t9) (Nat.le_of_ble_eq_true rfl) rfl rfl (Nat.le_of_ble_eq_true rfl) ⟨Nat.le_trans (Nat.le_of_ble_eq_true rfl) hB.2.2.2.2.1, Nat.le_trans (Nat.le_of_ble_eq_true rfl) hB.2.2.2.2.2⟩ (fun r6 h7 q8 => z_fun q8 ?_)
      refine z_less (ls' := [none, none, none, none]) (by simp [z_sub]) ?_
      exact P360  (z_vi0 (fn_L_low (a1 >>> ((nI 10) &&& 31)) (nI 5) hh)) a3 hh trivial E
    · skip
      have E := (if_neg c5).symm.trans E
      have T := T.2 c5
      refine z_go hC (pc' := 344) (ls' := [some (.ref 0), some (.int a1), some (.int a2), some (.int a3)]) (st' := [.int (nI 23), .int (a1 >>> ((nI 10) &&& 31)), .int a3, .ref 0]) (h' := hh) (cs := []) [.iload_n 1, .bipush 10, .ishr, .bipush 23] (by decide +kernel) rfl rfl trivial ?_
      have t13 := T
      refine z_callS hC hN hR (as := [.int (a1 >>> ((nI 10) &&& 31)), .int (nI 23)]) (rest := [.int a3, .ref 0]) ok_L_46 (by decide +kernel) (sp_L_low l _ hh (a1 >>> ((nI 10) &&& 31)) (nI 23) t13) (Nat.le_of_ble_eq_true rfl) rfl rfl (Nat.le_of_ble_eq_true rfl) ⟨Nat.le_trans (Nat.le_of_ble_eq_true rfl) hB.2.2.2.2.1, Nat.le_trans (Nat.le_of_ble_eq_true rfl) hB.2.2.2.2.2⟩ (fun r10 h11 q12 => z_fun q12 ?_)
      refine z_go hC (pc' := 349) (ls' := [some (.ref 0), some (.int a1), some (.int a2), some (.int a3)]) (st' := [.int ((z_vi0 (fn_L_low (a1 >>> ((nI 10) &&& 31)) (nI 23) hh)) - (nI 1)), .int a3, .ref 0]) (h' := hh) (cs := []) [.iconst 1, .isub] (by decide +kernel) rfl rfl trivial ?_
      refine z_goto hC (off := 11) 360 (by decide +kernel) (by decide) ?_
      refine z_less (ls' := [none, none, none, none]) (by simp [z_sub]) ?_
      exact P360  ((z_vi0 (fn_L_low (a1 >>> ((nI 10) &&& 31)) (nI 23) hh)) - (nI 1)) a3 hh trivial E
  have P273 : ∀ (s0 : Int32) (hh : z_H), tk_L_act_273  s0 hh → fn_L_act_273  s0 hh = RR → z_GX p l e R s m args below meth c D dA ad 4 (z_PI RR) (fun _ => False) h 2 12 (z_c ext) 0 0 273 [none, none, none, none] [.int s0, .ref 0] hh := by
    intro  s0 hh T E
    unfold tk_L_act_273 at T; unfold fn_L_act_273 at E
    have t14 := T
    refine z_callSh hC hN hR hZ hKin (as := [.ref 0, .int s0]) (rest := []) ok_L_64 (by decide +kernel) (sp_L_play l hl0 _ hh s0 t14) (Nat.le_of_ble_eq_true rfl) rfl rfl (Nat.le_of_ble_eq_true rfl) ⟨Nat.le_trans (Nat.le_of_ble_eq_true rfl) hB.2.2.2.2.1, Nat.le_trans (Nat.le_of_ble_eq_true rfl) hB.2.2.2.2.2⟩ (fun Ex qx => False.elim qx) (fun rv hw q15 => z_fun q15 ?_)
    refine z_goto hC (off := 34) 310 (by decide +kernel) (by decide) ?_
    exact z_retx_i hB rfl ⟨Nat.le_of_ble_eq_true rfl, Nat.le_of_ble_eq_true rfl⟩ (by decide +kernel) (z_lfi E)
  have P307 : ∀ (s0 : Int32) (s1 : Int32) (hh : z_H), tk_L_act_307  s0 s1 hh → fn_L_act_307  s0 s1 hh = RR → z_GX p l e R s m args below meth c D dA ad 4 (z_PI RR) (fun _ => False) h 2 12 (z_c ext) 0 0 307 [none, none, none, none] [.int s0, .int s1, .ref 0] hh := by
    intro  s0 s1 hh T E
    unfold tk_L_act_307 at T; unfold fn_L_act_307 at E
    refine z_callSh hC hN hR hZ hKin (as := [.ref 0, .int s1, .int s0]) (rest := []) ok_L_67 (by decide +kernel) (sp_L_begin l hl0 _ hh s1 s0) (Nat.le_of_ble_eq_true rfl) rfl rfl (Nat.le_of_ble_eq_true rfl) ⟨Nat.le_trans (Nat.le_of_ble_eq_true rfl) hB.2.2.2.2.1, Nat.le_trans (Nat.le_of_ble_eq_true rfl) hB.2.2.2.2.2⟩ (fun Ex qx => False.elim qx) (fun rv hw q16 => z_fun q16 ?_)
    exact z_retx_i hB rfl ⟨Nat.le_of_ble_eq_true rfl, Nat.le_of_ble_eq_true rfl⟩ (by decide +kernel) (z_lfi E)
  have P215 : ∀ (s0 : Int32) (s1 : Int32) (hh : z_H), tk_L_act_215  s0 s1 hh → fn_L_act_215  s0 s1 hh = RR → z_GX p l e R s m args below meth c D dA ad 4 (z_PI RR) (fun _ => False) h 2 12 (z_c ext) 0 0 215 [none, none, none, none] [.int s0, .int s1, .ref 0] hh := by
    intro  s0 s1 hh T E
    unfold tk_L_act_215 at T; unfold fn_L_act_215 at E
    have t17 := T
    refine z_callSh hC hN hR hZ hKin (as := [.ref 0, .int s1, .int s0]) (rest := []) ok_L_54 (by decide +kernel) (sp_L_setLink l hl0 _ hh s1 s0 t17) (Nat.le_of_ble_eq_true rfl) rfl rfl (Nat.le_of_ble_eq_true rfl) ⟨Nat.le_trans (Nat.le_of_ble_eq_true rfl) hB.2.2.2.2.1, Nat.le_trans (Nat.le_of_ble_eq_true rfl) hB.2.2.2.2.2⟩ (fun Ex qx => False.elim qx) (fun rv hw q18 => z_fun q18 ?_)
    exact z_retx_i hB rfl ⟨Nat.le_of_ble_eq_true rfl, Nat.le_of_ble_eq_true rfl⟩ (by decide +kernel) (z_lfi E)
  have P186 : ∀ (a1 : Int32) (a2 : Int32) (s0 : Int32) (hh : z_H), tk_L_act_186  a1 a2 s0 hh → fn_L_act_186  a1 a2 s0 hh = RR → z_GX p l e R s m args below meth c D dA ad 4 (z_PI RR) (fun _ => False) h 2 12 (z_c ext) 0 0 186 [none, some (.int a1), some (.int a2), none] [.int s0, .ref 0] hh := by
    intro  a1 a2 s0 hh T E
    unfold tk_L_act_186 at T; unfold fn_L_act_186 at E
    refine z_go hC (pc' := 187) (ls' := [none, some (.int a1), some (.int a2), none]) (st' := [.int a2, .int s0, .ref 0]) (h' := hh) (cs := []) [.iload_n 2] (by decide +kernel) rfl rfl trivial ?_
    refine z_if_eq hC (off := 17) 204 (by decide +kernel) (by decide) (fun c19 => ?_) (fun c19 => ?_)
    · skip
      have E := (if_pos c19).symm.trans E
      have T := T.1 c19
      refine z_go hC (pc' := 210) (ls' := [none, some (.int a1), some (.int a2), none]) (st' := [.int (nI 11), .int (a1 >>> ((nI 8) &&& 31)), .int s0, .ref 0]) (h' := hh) (cs := []) [.iload_n 1, .bipush 8, .ishr, .bipush 11] (by decide +kernel) rfl rfl trivial ?_
      obtain ⟨t23, T⟩ := T
      refine z_callS hC hN hR (as := [.int (a1 >>> ((nI 8) &&& 31)), .int (nI 11)]) (rest := [.int s0, .ref 0]) ok_L_46 (by decide +kernel) (sp_L_low l _ hh (a1 >>> ((nI 8) &&& 31)) (nI 11) t23) (Nat.le_of_ble_eq_true rfl) rfl rfl (Nat.le_of_ble_eq_true rfl) ⟨Nat.le_trans (Nat.le_of_ble_eq_true rfl) hB.2.2.2.2.1, Nat.le_trans (Nat.le_of_ble_eq_true rfl) hB.2.2.2.2.2⟩ (fun r20 h21 q22 => z_fun q22 ?_)
      refine z_go hC (pc' := 215) (ls' := [none, some (.int a1), some (.int a2), none]) (st' := [.int ((z_vi0 (fn_L_low (a1 >>> ((nI 8) &&& 31)) (nI 11) hh)) - (nI 1)), .int s0, .ref 0]) (h' := hh) (cs := []) [.iconst 1, .isub] (by decide +kernel) rfl rfl trivial ?_
      refine z_less (ls' := [none, none, none, none]) (by simp [z_sub]) ?_
      exact P215  ((z_vi0 (fn_L_low (a1 >>> ((nI 8) &&& 31)) (nI 11) hh)) - (nI 1)) s0 hh T E
    · skip
      have E := (if_neg c19).symm.trans E
      have T := T.2 c19
      refine z_go hC (pc' := 196) (ls' := [none, some (.int a1), some (.int a2), none]) (st' := [.int (nI 14), .int (a1 >>> ((nI 8) &&& 31)), .int s0, .ref 0]) (h' := hh) (cs := []) [.iload_n 1, .bipush 8, .ishr, .bipush 14] (by decide +kernel) rfl rfl trivial ?_
      obtain ⟨t27, T⟩ := T
      refine z_callS hC hN hR (as := [.int (a1 >>> ((nI 8) &&& 31)), .int (nI 14)]) (rest := [.int s0, .ref 0]) ok_L_46 (by decide +kernel) (sp_L_low l _ hh (a1 >>> ((nI 8) &&& 31)) (nI 14) t27) (Nat.le_of_ble_eq_true rfl) rfl rfl (Nat.le_of_ble_eq_true rfl) ⟨Nat.le_trans (Nat.le_of_ble_eq_true rfl) hB.2.2.2.2.1, Nat.le_trans (Nat.le_of_ble_eq_true rfl) hB.2.2.2.2.2⟩ (fun r24 h25 q26 => z_fun q26 ?_)
      refine z_go hC (pc' := 201) (ls' := [none, some (.int a1), some (.int a2), none]) (st' := [.int ((z_vi0 (fn_L_low (a1 >>> ((nI 8) &&& 31)) (nI 14) hh)) - (nI 3)), .int s0, .ref 0]) (h' := hh) (cs := []) [.iconst 3, .isub] (by decide +kernel) rfl rfl trivial ?_
      refine z_goto hC (off := 14) 215 (by decide +kernel) (by decide) ?_
      refine z_less (ls' := [none, none, none, none]) (by simp [z_sub]) ?_
      exact P215  ((z_vi0 (fn_L_low (a1 >>> ((nI 8) &&& 31)) (nI 14) hh)) - (nI 3)) s0 hh T E
  have P156 : ∀ (s0 : Int32) (s1 : Int32) (hh : z_H), tk_L_act_156  s0 s1 hh → fn_L_act_156  s0 s1 hh = RR → z_GX p l e R s m args below meth c D dA ad 4 (z_PI RR) (fun _ => False) h 2 12 (z_c ext) 0 0 156 [none, none, none, none] [.int s0, .int s1, .ref 0] hh := by
    intro  s0 s1 hh T E
    unfold tk_L_act_156 at T; unfold fn_L_act_156 at E
    have t28 := T
    refine z_callSh hC hN hR hZ hKin (as := [.ref 0, .int s1, .int s0]) (rest := []) ok_L_51 (by decide +kernel) (sp_L_setWall l hl0 _ hh s1 s0 t28) (Nat.le_of_ble_eq_true rfl) rfl rfl (Nat.le_of_ble_eq_true rfl) ⟨Nat.le_trans (Nat.le_of_ble_eq_true rfl) hB.2.2.2.2.1, Nat.le_trans (Nat.le_of_ble_eq_true rfl) hB.2.2.2.2.2⟩ (fun Ex qx => False.elim qx) (fun rv hw q29 => z_fun q29 ?_)
    exact z_retx_i hB rfl ⟨Nat.le_of_ble_eq_true rfl, Nat.le_of_ble_eq_true rfl⟩ (by decide +kernel) (z_lfi E)
  have P142 : ∀ (a1 : Int32) (s0 : Int32) (hh : z_H), tk_L_act_142  a1 s0 hh → fn_L_act_142  a1 s0 hh = RR → z_GX p l e R s m args below meth c D dA ad 4 (z_PI RR) (fun _ => False) h 2 12 (z_c ext) 0 0 142 [none, some (.int a1), none, none] [.int s0, .ref 0] hh := by
    intro  a1 s0 hh T E
    unfold tk_L_act_142 at T; unfold fn_L_act_142 at E
    refine z_go hC (pc' := 148) (ls' := [none, some (.int a1), none, none]) (st' := [.int ((a1 >>> ((nI 8) &&& 31)) &&& (nI 3)), .int s0, .ref 0]) (h' := hh) (cs := []) [.iload_n 1, .bipush 8, .ishr, .iconst 3, .iand] (by decide +kernel) rfl rfl trivial ?_
    refine z_if_ne hC (off := 7) 155 (by decide +kernel) (by decide) (fun c30 => ?_) (fun c30 => ?_)
    · skip
      have E := (if_neg c30).symm.trans E
      have T := T.2 c30
      refine z_go hC (pc' := 156) (ls' := [none, some (.int a1), none, none]) (st' := [.int (nI 0), .int s0, .ref 0]) (h' := hh) (cs := []) [.iconst 0] (by decide +kernel) rfl rfl trivial ?_
      refine z_less (ls' := [none, none, none, none]) (by simp [z_sub]) ?_
      exact P156  (nI 0) s0 hh T E
    · skip
      have E := (if_pos c30).symm.trans E
      have T := T.1 c30
      refine z_go hC (pc' := 152) (ls' := [none, some (.int a1), none, none]) (st' := [.int (nI 1), .int s0, .ref 0]) (h' := hh) (cs := []) [.iconst 1] (by decide +kernel) rfl rfl trivial ?_
      refine z_goto hC (off := 4) 156 (by decide +kernel) (by decide) ?_
      refine z_less (ls' := [none, none, none, none]) (by simp [z_sub]) ?_
      exact P156  (nI 1) s0 hh T E
  have P43 : ∀ (a1 : Int32) (a2 : Int32) (s0 : Int32) (hh : z_H), tk_L_act_43  a1 a2 s0 hh → fn_L_act_43  a1 a2 s0 hh = RR → z_GX p l e R s m args below meth c D dA ad 4 (z_PI RR) (fun _ => False) h 2 12 (z_c ext) 0 0 43 [some (.ref 0), some (.int a1), some (.int a2), none] [.int s0] hh := by
    intro  a1 a2 s0 hh T E
    unfold tk_L_act_43 at T; unfold fn_L_act_43 at E
    refine z_go hC (pc' := 47) (ls' := [some (.ref 0), some (.int a1), some (.int a2), some (.int s0)]) (st' := [.int (nI 18), .int a1]) (h' := hh) (cs := []) [.istore_n 3, .iload_n 1, .bipush 18] (by decide +kernel) rfl rfl trivial ?_
    obtain ⟨t34, T⟩ := T
    refine z_callS hC hN hR (as := [.int a1, .int (nI 18)]) (rest := []) ok_L_46 (by decide +kernel) (sp_L_low l _ hh a1 (nI 18) t34) (Nat.le_of_ble_eq_true rfl) rfl rfl (Nat.le_of_ble_eq_true rfl) ⟨Nat.le_trans (Nat.le_of_ble_eq_true rfl) hB.2.2.2.2.1, Nat.le_trans (Nat.le_of_ble_eq_true rfl) hB.2.2.2.2.2⟩ (fun r31 h32 q33 => z_fun q33 ?_)
    by_cases c35 : (z_vi0 (fn_L_low a1 (nI 18) hh)) = nI 0
    · skip
      have E := (if_pos c35).symm.trans E
      have T := T.1 c35
      refine z_tabIn hC (dflt := 352) (lo := 0) (hi := 12) (offs := #[66, 110, 110, 169, 261, 314, 314, 314, 314, 320, 320, 320, 320]) (len := 66) (off := 66) 116 (by decide +kernel) (by rw [c35]; decide) (by rw [c35]; decide) (by rw [c35]; rfl) (by decide) ?_
      refine z_go hC (pc' := 118) (ls' := [some (.ref 0), some (.int a1), some (.int a2), some (.int s0)]) (st' := [.int a2, .ref 0]) (h' := hh) (cs := []) [.aload_n 0, .iload_n 2] (by decide +kernel) rfl rfl trivial ?_
      refine z_if_eq hC (off := 16) 134 (by decide +kernel) (by decide) (fun c154 => ?_) (fun c154 => ?_)
      · skip
        have E := (if_pos c154).symm.trans E
        have T := T.1 c154
        refine z_go hC (pc' := 139) (ls' := [some (.ref 0), some (.int a1), some (.int a2), some (.int s0)]) (st' := [.int (nI 9), .int (a1 >>> ((nI 4) &&& 31)), .ref 0]) (h' := hh) (cs := []) [.iload_n 1, .iconst 4, .ishr, .bipush 9] (by decide +kernel) rfl rfl trivial ?_
        obtain ⟨t158, T⟩ := T
        refine z_callS hC hN hR (as := [.int (a1 >>> ((nI 4) &&& 31)), .int (nI 9)]) (rest := [.ref 0]) ok_L_46 (by decide +kernel) (sp_L_low l _ hh (a1 >>> ((nI 4) &&& 31)) (nI 9) t158) (Nat.le_of_ble_eq_true rfl) rfl rfl (Nat.le_of_ble_eq_true rfl) ⟨Nat.le_trans (Nat.le_of_ble_eq_true rfl) hB.2.2.2.2.1, Nat.le_trans (Nat.le_of_ble_eq_true rfl) hB.2.2.2.2.2⟩ (fun r155 h156 q157 => z_fun q157 ?_)
        refine z_less (ls' := [none, some (.int a1), none, none]) (by simp [z_sub]) ?_
        exact P142  a1 (z_vi0 (fn_L_low (a1 >>> ((nI 4) &&& 31)) (nI 9) hh)) hh T E
      · skip
        have E := (if_neg c154).symm.trans E
        have T := T.2 c154
        refine z_go hC (pc' := 126) (ls' := [some (.ref 0), some (.int a1), some (.int a2), some (.int s0)]) (st' := [.int (nI 12), .int (a1 >>> ((nI 4) &&& 31)), .ref 0]) (h' := hh) (cs := []) [.iload_n 1, .iconst 4, .ishr, .bipush 12] (by decide +kernel) rfl rfl trivial ?_
        obtain ⟨t162, T⟩ := T
        refine z_callS hC hN hR (as := [.int (a1 >>> ((nI 4) &&& 31)), .int (nI 12)]) (rest := [.ref 0]) ok_L_46 (by decide +kernel) (sp_L_low l _ hh (a1 >>> ((nI 4) &&& 31)) (nI 12) t162) (Nat.le_of_ble_eq_true rfl) rfl rfl (Nat.le_of_ble_eq_true rfl) ⟨Nat.le_trans (Nat.le_of_ble_eq_true rfl) hB.2.2.2.2.1, Nat.le_trans (Nat.le_of_ble_eq_true rfl) hB.2.2.2.2.2⟩ (fun r159 h160 q161 => z_fun q161 ?_)
        refine z_go hC (pc' := 131) (ls' := [some (.ref 0), some (.int a1), some (.int a2), some (.int s0)]) (st' := [.int ((z_vi0 (fn_L_low (a1 >>> ((nI 4) &&& 31)) (nI 12) hh)) - (nI 1)), .ref 0]) (h' := hh) (cs := []) [.iconst 1, .isub] (by decide +kernel) rfl rfl trivial ?_
        refine z_goto hC (off := 11) 142 (by decide +kernel) (by decide) ?_
        refine z_less (ls' := [none, some (.int a1), none, none]) (by simp [z_sub]) ?_
        exact P142  a1 ((z_vi0 (fn_L_low (a1 >>> ((nI 4) &&& 31)) (nI 12) hh)) - (nI 1)) hh T E
    · skip
      have E := (if_neg c35).symm.trans E
      have T := T.2 c35
      by_cases c36 : (z_vi0 (fn_L_low a1 (nI 18) hh)) = nI 1
      · skip
        have E := (if_pos c36).symm.trans E
        have T := T.1 c36
        refine z_tabIn hC (dflt := 352) (lo := 0) (hi := 12) (offs := #[66, 110, 110, 169, 261, 314, 314, 314, 314, 320, 320, 320, 320]) (len := 66) (off := 110) 160 (by decide +kernel) (by rw [c36]; decide) (by rw [c36]; decide) (by rw [c36]; rfl) (by decide) ?_
        refine z_go hC (pc' := 162) (ls' := [some (.ref 0), some (.int a1), some (.int a2), some (.int s0)]) (st' := [.int a2, .ref 0]) (h' := hh) (cs := []) [.aload_n 0, .iload_n 2] (by decide +kernel) rfl rfl trivial ?_
        refine z_if_eq hC (off := 16) 178 (by decide +kernel) (by decide) (fun c145 => ?_) (fun c145 => ?_)
        · skip
          have E := (if_pos c145).symm.trans E
          have T := T.1 c145
          refine z_go hC (pc' := 183) (ls' := [some (.ref 0), some (.int a1), some (.int a2), some (.int s0)]) (st' := [.int (nI 12), .int (a1 >>> ((nI 4) &&& 31)), .ref 0]) (h' := hh) (cs := []) [.iload_n 1, .iconst 4, .ishr, .bipush 12] (by decide +kernel) rfl rfl trivial ?_
          obtain ⟨t149, T⟩ := T
          refine z_callS hC hN hR (as := [.int (a1 >>> ((nI 4) &&& 31)), .int (nI 12)]) (rest := [.ref 0]) ok_L_46 (by decide +kernel) (sp_L_low l _ hh (a1 >>> ((nI 4) &&& 31)) (nI 12) t149) (Nat.le_of_ble_eq_true rfl) rfl rfl (Nat.le_of_ble_eq_true rfl) ⟨Nat.le_trans (Nat.le_of_ble_eq_true rfl) hB.2.2.2.2.1, Nat.le_trans (Nat.le_of_ble_eq_true rfl) hB.2.2.2.2.2⟩ (fun r146 h147 q148 => z_fun q148 ?_)
          refine z_less (ls' := [none, some (.int a1), some (.int a2), none]) (by simp [z_sub]) ?_
          exact P186  a1 a2 (z_vi0 (fn_L_low (a1 >>> ((nI 4) &&& 31)) (nI 12) hh)) hh T E
        · skip
          have E := (if_neg c145).symm.trans E
          have T := T.2 c145
          refine z_go hC (pc' := 170) (ls' := [some (.ref 0), some (.int a1), some (.int a2), some (.int s0)]) (st' := [.int (nI 15), .int (a1 >>> ((nI 4) &&& 31)), .ref 0]) (h' := hh) (cs := []) [.iload_n 1, .iconst 4, .ishr, .bipush 15] (by decide +kernel) rfl rfl trivial ?_
          obtain ⟨t153, T⟩ := T
          refine z_callS hC hN hR (as := [.int (a1 >>> ((nI 4) &&& 31)), .int (nI 15)]) (rest := [.ref 0]) ok_L_46 (by decide +kernel) (sp_L_low l _ hh (a1 >>> ((nI 4) &&& 31)) (nI 15) t153) (Nat.le_of_ble_eq_true rfl) rfl rfl (Nat.le_of_ble_eq_true rfl) ⟨Nat.le_trans (Nat.le_of_ble_eq_true rfl) hB.2.2.2.2.1, Nat.le_trans (Nat.le_of_ble_eq_true rfl) hB.2.2.2.2.2⟩ (fun r150 h151 q152 => z_fun q152 ?_)
          refine z_go hC (pc' := 175) (ls' := [some (.ref 0), some (.int a1), some (.int a2), some (.int s0)]) (st' := [.int ((z_vi0 (fn_L_low (a1 >>> ((nI 4) &&& 31)) (nI 15) hh)) - (nI 1)), .ref 0]) (h' := hh) (cs := []) [.iconst 1, .isub] (by decide +kernel) rfl rfl trivial ?_
          refine z_goto hC (off := 11) 186 (by decide +kernel) (by decide) ?_
          refine z_less (ls' := [none, some (.int a1), some (.int a2), none]) (by simp [z_sub]) ?_
          exact P186  a1 a2 ((z_vi0 (fn_L_low (a1 >>> ((nI 4) &&& 31)) (nI 15) hh)) - (nI 1)) hh T E
      · skip
        have E := (if_neg c36).symm.trans E
        have T := T.2 c36
        by_cases c37 : (z_vi0 (fn_L_low a1 (nI 18) hh)) = nI 2
        · skip
          have E := (if_pos c37).symm.trans E
          have T := T.1 c37
          refine z_tabIn hC (dflt := 352) (lo := 0) (hi := 12) (offs := #[66, 110, 110, 169, 261, 314, 314, 314, 314, 320, 320, 320, 320]) (len := 66) (off := 110) 160 (by decide +kernel) (by rw [c37]; decide) (by rw [c37]; decide) (by rw [c37]; rfl) (by decide) ?_
          refine z_go hC (pc' := 162) (ls' := [some (.ref 0), some (.int a1), some (.int a2), some (.int s0)]) (st' := [.int a2, .ref 0]) (h' := hh) (cs := []) [.aload_n 0, .iload_n 2] (by decide +kernel) rfl rfl trivial ?_
          refine z_if_eq hC (off := 16) 178 (by decide +kernel) (by decide) (fun c136 => ?_) (fun c136 => ?_)
          · skip
            have E := (if_pos c136).symm.trans E
            have T := T.1 c136
            refine z_go hC (pc' := 183) (ls' := [some (.ref 0), some (.int a1), some (.int a2), some (.int s0)]) (st' := [.int (nI 12), .int (a1 >>> ((nI 4) &&& 31)), .ref 0]) (h' := hh) (cs := []) [.iload_n 1, .iconst 4, .ishr, .bipush 12] (by decide +kernel) rfl rfl trivial ?_
            obtain ⟨t140, T⟩ := T
            refine z_callS hC hN hR (as := [.int (a1 >>> ((nI 4) &&& 31)), .int (nI 12)]) (rest := [.ref 0]) ok_L_46 (by decide +kernel) (sp_L_low l _ hh (a1 >>> ((nI 4) &&& 31)) (nI 12) t140) (Nat.le_of_ble_eq_true rfl) rfl rfl (Nat.le_of_ble_eq_true rfl) ⟨Nat.le_trans (Nat.le_of_ble_eq_true rfl) hB.2.2.2.2.1, Nat.le_trans (Nat.le_of_ble_eq_true rfl) hB.2.2.2.2.2⟩ (fun r137 h138 q139 => z_fun q139 ?_)
            refine z_less (ls' := [none, some (.int a1), some (.int a2), none]) (by simp [z_sub]) ?_
            exact P186  a1 a2 (z_vi0 (fn_L_low (a1 >>> ((nI 4) &&& 31)) (nI 12) hh)) hh T E
          · skip
            have E := (if_neg c136).symm.trans E
            have T := T.2 c136
            refine z_go hC (pc' := 170) (ls' := [some (.ref 0), some (.int a1), some (.int a2), some (.int s0)]) (st' := [.int (nI 15), .int (a1 >>> ((nI 4) &&& 31)), .ref 0]) (h' := hh) (cs := []) [.iload_n 1, .iconst 4, .ishr, .bipush 15] (by decide +kernel) rfl rfl trivial ?_
            obtain ⟨t144, T⟩ := T
            refine z_callS hC hN hR (as := [.int (a1 >>> ((nI 4) &&& 31)), .int (nI 15)]) (rest := [.ref 0]) ok_L_46 (by decide +kernel) (sp_L_low l _ hh (a1 >>> ((nI 4) &&& 31)) (nI 15) t144) (Nat.le_of_ble_eq_true rfl) rfl rfl (Nat.le_of_ble_eq_true rfl) ⟨Nat.le_trans (Nat.le_of_ble_eq_true rfl) hB.2.2.2.2.1, Nat.le_trans (Nat.le_of_ble_eq_true rfl) hB.2.2.2.2.2⟩ (fun r141 h142 q143 => z_fun q143 ?_)
            refine z_go hC (pc' := 175) (ls' := [some (.ref 0), some (.int a1), some (.int a2), some (.int s0)]) (st' := [.int ((z_vi0 (fn_L_low (a1 >>> ((nI 4) &&& 31)) (nI 15) hh)) - (nI 1)), .ref 0]) (h' := hh) (cs := []) [.iconst 1, .isub] (by decide +kernel) rfl rfl trivial ?_
            refine z_goto hC (off := 11) 186 (by decide +kernel) (by decide) ?_
            refine z_less (ls' := [none, some (.int a1), some (.int a2), none]) (by simp [z_sub]) ?_
            exact P186  a1 a2 ((z_vi0 (fn_L_low (a1 >>> ((nI 4) &&& 31)) (nI 15) hh)) - (nI 1)) hh T E
        · skip
          have E := (if_neg c37).symm.trans E
          have T := T.2 c37
          by_cases c38 : (z_vi0 (fn_L_low a1 (nI 18) hh)) = nI 3
          · skip
            have E := (if_pos c38).symm.trans E
            have T := T.1 c38
            refine z_tabIn hC (dflt := 352) (lo := 0) (hi := 12) (offs := #[66, 110, 110, 169, 261, 314, 314, 314, 314, 320, 320, 320, 320]) (len := 66) (off := 169) 219 (by decide +kernel) (by rw [c38]; decide) (by rw [c38]; decide) (by rw [c38]; rfl) (by decide) ?_
            refine z_go hC (pc' := 225) (ls' := [some (.ref 0), some (.int a1), some (.int a2), some (.int s0)]) (st' := [.int (nI 6), .int (a1 >>> ((nI 10) &&& 31))]) (h' := hh) (cs := []) [.iload_n 1, .bipush 10, .ishr, .bipush 6] (by decide +kernel) rfl rfl trivial ?_
            obtain ⟨t110, T⟩ := T
            refine z_callS hC hN hR (as := [.int (a1 >>> ((nI 10) &&& 31)), .int (nI 6)]) (rest := []) ok_L_46 (by decide +kernel) (sp_L_low l _ hh (a1 >>> ((nI 10) &&& 31)) (nI 6) t110) (Nat.le_of_ble_eq_true rfl) rfl rfl (Nat.le_of_ble_eq_true rfl) ⟨Nat.le_trans (Nat.le_of_ble_eq_true rfl) hB.2.2.2.2.1, Nat.le_trans (Nat.le_of_ble_eq_true rfl) hB.2.2.2.2.2⟩ (fun r107 h108 q109 => z_fun q109 ?_)
            refine z_if_ne hC (off := 10) 238 (by decide +kernel) (by decide) (fun c111 => ?_) (fun c111 => ?_)
            · skip
              have E := (if_neg c111).symm.trans E
              have T := T.2 c111
              refine z_go hC (pc' := 239) (ls' := [some (.ref 0), some (.int a1), some (.int a2), some (.int s0)]) (st' := [.ref 0]) (h' := hh) (cs := []) [.aload_n 0] (by decide +kernel) rfl rfl trivial ?_
              refine z_callV hC hN hR (as := []) (rest := []) ok_L_60 (by decide +kernel) (sp_X7_isAlive l _ hh  trivial) rfl rfl (Nat.le_of_ble_eq_true rfl) rfl rfl (Nat.le_of_ble_eq_true rfl) ⟨Nat.le_trans (Nat.le_of_ble_eq_true rfl) hB.2.2.2.2.1, Nat.le_trans (Nat.le_of_ble_eq_true rfl) hB.2.2.2.2.2⟩ (fun r112 h113 q114 => z_funb q114 (fun z115 => ?_))
              refine z_if_eq hC (off := 37) 279 (by decide +kernel) (by decide) (fun c116 => ?_) (fun c116 => ?_)
              · skip
                have E := (if_pos c116).symm.trans E
                have T := T.1 c116
                refine z_go hC (pc' := 282) (ls' := [some (.ref 0), some (.int a1), some (.int a2), some (.int s0)]) (st' := [.int a2, .int s0, .ref 0]) (h' := hh) (cs := []) [.aload_n 0, .iload_n 3, .iload_n 2] (by decide +kernel) rfl rfl trivial ?_
                refine z_if_eq hC (off := 17) 299 (by decide +kernel) (by decide) (fun c117 => ?_) (fun c117 => ?_)
                · skip
                  have E := (if_pos c117).symm.trans E
                  have T := T.1 c117
                  refine z_go hC (pc' := 304) (ls' := [some (.ref 0), some (.int a1), some (.int a2), some (.int s0)]) (st' := [.int (nI 5), .int (a1 >>> ((nI 10) &&& 31)), .int s0, .ref 0]) (h' := hh) (cs := []) [.iload_n 1, .bipush 10, .ishr, .iconst 5] (by decide +kernel) rfl rfl trivial ?_
                  have t121 := T
                  refine z_callS hC hN hR (as := [.int (a1 >>> ((nI 10) &&& 31)), .int (nI 5)]) (rest := [.int s0, .ref 0]) ok_L_46 (by decide +kernel) (sp_L_low l _ hh (a1 >>> ((nI 10) &&& 31)) (nI 5) t121) (Nat.le_of_ble_eq_true rfl) rfl rfl (Nat.le_of_ble_eq_true rfl) ⟨Nat.le_trans (Nat.le_of_ble_eq_true rfl) hB.2.2.2.2.1, Nat.le_trans (Nat.le_of_ble_eq_true rfl) hB.2.2.2.2.2⟩ (fun r118 h119 q120 => z_fun q120 ?_)
                  refine z_less (ls' := [none, none, none, none]) (by simp [z_sub]) ?_
                  exact P307  (z_vi0 (fn_L_low (a1 >>> ((nI 10) &&& 31)) (nI 5) hh)) s0 hh trivial E
                · skip
                  have E := (if_neg c117).symm.trans E
                  have T := T.2 c117
                  refine z_go hC (pc' := 291) (ls' := [some (.ref 0), some (.int a1), some (.int a2), some (.int s0)]) (st' := [.int (nI 23), .int (a1 >>> ((nI 10) &&& 31)), .int s0, .ref 0]) (h' := hh) (cs := []) [.iload_n 1, .bipush 10, .ishr, .bipush 23] (by decide +kernel) rfl rfl trivial ?_
                  have t125 := T
                  refine z_callS hC hN hR (as := [.int (a1 >>> ((nI 10) &&& 31)), .int (nI 23)]) (rest := [.int s0, .ref 0]) ok_L_46 (by decide +kernel) (sp_L_low l _ hh (a1 >>> ((nI 10) &&& 31)) (nI 23) t125) (Nat.le_of_ble_eq_true rfl) rfl rfl (Nat.le_of_ble_eq_true rfl) ⟨Nat.le_trans (Nat.le_of_ble_eq_true rfl) hB.2.2.2.2.1, Nat.le_trans (Nat.le_of_ble_eq_true rfl) hB.2.2.2.2.2⟩ (fun r122 h123 q124 => z_fun q124 ?_)
                  refine z_go hC (pc' := 296) (ls' := [some (.ref 0), some (.int a1), some (.int a2), some (.int s0)]) (st' := [.int ((z_vi0 (fn_L_low (a1 >>> ((nI 10) &&& 31)) (nI 23) hh)) - (nI 1)), .int s0, .ref 0]) (h' := hh) (cs := []) [.iconst 1, .isub] (by decide +kernel) rfl rfl trivial ?_
                  refine z_goto hC (off := 11) 307 (by decide +kernel) (by decide) ?_
                  refine z_less (ls' := [none, none, none, none]) (by simp [z_sub]) ?_
                  exact P307  ((z_vi0 (fn_L_low (a1 >>> ((nI 10) &&& 31)) (nI 23) hh)) - (nI 1)) s0 hh trivial E
              · skip
                have E := (if_neg c116).symm.trans E
                have T := T.2 c116
                refine z_go hC (pc' := 247) (ls' := [some (.ref 0), some (.int a1), some (.int a2), some (.int s0)]) (st' := [.int a2, .ref 0]) (h' := hh) (cs := []) [.aload_n 0, .iload_n 2] (by decide +kernel) rfl rfl trivial ?_
                refine z_if_eq hC (off := 16) 263 (by decide +kernel) (by decide) (fun c126 => ?_) (fun c126 => ?_)
                · skip
                  have E := (if_pos c126).symm.trans E
                  have T := T.1 c126
                  refine z_go hC (pc' := 269) (ls' := [some (.ref 0), some (.int a1), some (.int a2), some (.int s0)]) (st' := [.int (nI 6), .int (a1 >>> ((nI 4) &&& 31)), .int (nI 1), .ref 0]) (h' := hh) (cs := []) [.iconst 1, .iload_n 1, .iconst 4, .ishr, .bipush 6] (by decide +kernel) rfl rfl trivial ?_
                  obtain ⟨t130, T⟩ := T
                  refine z_callS hC hN hR (as := [.int (a1 >>> ((nI 4) &&& 31)), .int (nI 6)]) (rest := [.int (nI 1), .ref 0]) ok_L_46 (by decide +kernel) (sp_L_low l _ hh (a1 >>> ((nI 4) &&& 31)) (nI 6) t130) (Nat.le_of_ble_eq_true rfl) rfl rfl (Nat.le_of_ble_eq_true rfl) ⟨Nat.le_trans (Nat.le_of_ble_eq_true rfl) hB.2.2.2.2.1, Nat.le_trans (Nat.le_of_ble_eq_true rfl) hB.2.2.2.2.2⟩ (fun r127 h128 q129 => z_fun q129 ?_)
                  refine z_go hC (pc' := 273) (ls' := [some (.ref 0), some (.int a1), some (.int a2), some (.int s0)]) (st' := [.int ((nI 1) + (z_vi0 (fn_L_low (a1 >>> ((nI 4) &&& 31)) (nI 6) hh))), .ref 0]) (h' := hh) (cs := []) [.iadd] (by decide +kernel) rfl rfl trivial ?_
                  refine z_less (ls' := [none, none, none, none]) (by simp [z_sub]) ?_
                  exact P273  ((nI 1) + (z_vi0 (fn_L_low (a1 >>> ((nI 4) &&& 31)) (nI 6) hh))) hh T E
                · skip
                  have E := (if_neg c126).symm.trans E
                  have T := T.2 c126
                  refine z_go hC (pc' := 255) (ls' := [some (.ref 0), some (.int a1), some (.int a2), some (.int s0)]) (st' := [.int (nI 53), .int (a1 >>> ((nI 4) &&& 31)), .ref 0]) (h' := hh) (cs := []) [.iload_n 1, .iconst 4, .ishr, .bipush 53] (by decide +kernel) rfl rfl trivial ?_
                  obtain ⟨t134, T⟩ := T
                  refine z_callS hC hN hR (as := [.int (a1 >>> ((nI 4) &&& 31)), .int (nI 53)]) (rest := [.ref 0]) ok_L_46 (by decide +kernel) (sp_L_low l _ hh (a1 >>> ((nI 4) &&& 31)) (nI 53) t134) (Nat.le_of_ble_eq_true rfl) rfl rfl (Nat.le_of_ble_eq_true rfl) ⟨Nat.le_trans (Nat.le_of_ble_eq_true rfl) hB.2.2.2.2.1, Nat.le_trans (Nat.le_of_ble_eq_true rfl) hB.2.2.2.2.2⟩ (fun r131 h132 q133 => z_fun q133 ?_)
                  refine z_go hC (pc' := 260) (ls' := [some (.ref 0), some (.int a1), some (.int a2), some (.int s0)]) (st' := [.int ((z_vi0 (fn_L_low (a1 >>> ((nI 4) &&& 31)) (nI 53) hh)) - (nI 1)), .ref 0]) (h' := hh) (cs := []) [.iconst 1, .isub] (by decide +kernel) rfl rfl trivial ?_
                  refine z_goto hC (off := 13) 273 (by decide +kernel) (by decide) ?_
                  refine z_less (ls' := [none, none, none, none]) (by simp [z_sub]) ?_
                  exact P273  ((z_vi0 (fn_L_low (a1 >>> ((nI 4) &&& 31)) (nI 53) hh)) - (nI 1)) hh T E
            · skip
              have E := (if_pos c111).symm.trans E
              have T := T.1 c111
              refine z_go hC (pc' := 232) (ls' := [some (.ref 0), some (.int a1), some (.int a2), some (.int s0)]) (st' := [.ref 0]) (h' := hh) (cs := []) [.aload_n 0] (by decide +kernel) rfl rfl trivial ?_
              refine z_callSh hC hN hR hZ hKin (as := [.ref 0]) (rest := []) ok_L_57 (by decide +kernel) (sp_L_end l hl0 _ hh ) (Nat.le_of_ble_eq_true rfl) rfl rfl (Nat.le_of_ble_eq_true rfl) ⟨Nat.le_trans (Nat.le_of_ble_eq_true rfl) hB.2.2.2.2.1, Nat.le_trans (Nat.le_of_ble_eq_true rfl) hB.2.2.2.2.2⟩ (fun Ex qx => False.elim qx) (fun rv hw q135 => z_fun q135 ?_)
              refine z_goto hC (off := 75) 310 (by decide +kernel) (by decide) ?_
              exact z_retx_i hB rfl ⟨Nat.le_of_ble_eq_true rfl, Nat.le_of_ble_eq_true rfl⟩ (by decide +kernel) (z_lfi E)
          · skip
            have E := (if_neg c38).symm.trans E
            have T := T.2 c38
            by_cases c39 : (z_vi0 (fn_L_low a1 (nI 18) hh)) = nI 4
            · skip
              have E := (if_pos c39).symm.trans E
              have T := T.1 c39
              refine z_tabIn hC (dflt := 352) (lo := 0) (hi := 12) (offs := #[66, 110, 110, 169, 261, 314, 314, 314, 314, 320, 320, 320, 320]) (len := 66) (off := 261) 311 (by decide +kernel) (by rw [c39]; decide) (by rw [c39]; decide) (by rw [c39]; rfl) (by decide) ?_
              refine z_go hC (pc' := 312) (ls' := [some (.ref 0), some (.int a1), some (.int a2), some (.int s0)]) (st' := [.ref 0]) (h' := hh) (cs := []) [.aload_n 0] (by decide +kernel) rfl rfl trivial ?_
              refine z_callV hC hN hR (as := []) (rest := []) ok_L_69 (by decide +kernel) (sp_X7_length l _ hh  trivial) rfl rfl (Nat.le_of_ble_eq_true rfl) rfl rfl (Nat.le_of_ble_eq_true rfl) ⟨Nat.le_trans (Nat.le_of_ble_eq_true rfl) hB.2.2.2.2.1, Nat.le_trans (Nat.le_of_ble_eq_true rfl) hB.2.2.2.2.2⟩ (fun r97 h98 q99 => z_fun q99 ?_)
              refine z_if_le hC (off := 17) 332 (by decide +kernel) (by decide) (fun c100 => ?_) (fun c100 => ?_)
              · skip
                have E := (if_pos c100).symm.trans E
                have T := T.1 c100
                exact P332  a1 a2 s0 hh T E
              · skip
                have E := (if_neg c100).symm.trans E
                have T := T.2 c100
                refine z_go hC (pc' := 319) (ls' := [some (.ref 0), some (.int a1), some (.int a2), some (.int s0)]) (st' := [.ref 0]) (h' := hh) (cs := []) [.aload_n 0] (by decide +kernel) rfl rfl trivial ?_
                refine z_callV hC hN hR (as := []) (rest := []) ok_L_60 (by decide +kernel) (sp_X7_isAlive l _ hh  trivial) rfl rfl (Nat.le_of_ble_eq_true rfl) rfl rfl (Nat.le_of_ble_eq_true rfl) ⟨Nat.le_trans (Nat.le_of_ble_eq_true rfl) hB.2.2.2.2.1, Nat.le_trans (Nat.le_of_ble_eq_true rfl) hB.2.2.2.2.2⟩ (fun r101 h102 q103 => z_funb q103 (fun z104 => ?_))
                refine z_if_ne hC (off := 10) 332 (by decide +kernel) (by decide) (fun c105 => ?_) (fun c105 => ?_)
                · skip
                  have E := (if_neg c105).symm.trans E
                  have T := T.2 c105
                  exact P332  a1 a2 s0 hh T E
                · skip
                  have E := (if_pos c105).symm.trans E
                  have T := T.1 c105
                  refine z_go hC (pc' := 326) (ls' := [some (.ref 0), some (.int a1), some (.int a2), some (.int s0)]) (st' := [.ref 0]) (h' := hh) (cs := []) [.aload_n 0] (by decide +kernel) rfl rfl trivial ?_
                  refine z_callSh hC hN hR hZ hKin (as := [.ref 0]) (rest := []) ok_L_57 (by decide +kernel) (sp_L_end l hl0 _ hh ) (Nat.le_of_ble_eq_true rfl) rfl rfl (Nat.le_of_ble_eq_true rfl) ⟨Nat.le_trans (Nat.le_of_ble_eq_true rfl) hB.2.2.2.2.1, Nat.le_trans (Nat.le_of_ble_eq_true rfl) hB.2.2.2.2.2⟩ (fun Ex qx => False.elim qx) (fun rv hw q106 => z_fun q106 ?_)
                  refine z_goto hC (off := 34) 363 (by decide +kernel) (by decide) ?_
                  exact z_retx_i hB rfl ⟨Nat.le_of_ble_eq_true rfl, Nat.le_of_ble_eq_true rfl⟩ (by decide +kernel) (z_lfi E)
            · skip
              have E := (if_neg c39).symm.trans E
              have T := T.2 c39
              by_cases c40 : (z_vi0 (fn_L_low a1 (nI 18) hh)) = nI 5
              · skip
                have E := (if_pos c40).symm.trans E
                have T := T.1 c40
                refine z_tabIn hC (dflt := 352) (lo := 0) (hi := 12) (offs := #[66, 110, 110, 169, 261, 314, 314, 314, 314, 320, 320, 320, 320]) (len := 66) (off := 314) 364 (by decide +kernel) (by rw [c40]; decide) (by rw [c40]; decide) (by rw [c40]; rfl) (by decide) ?_
                refine z_go hC (pc' := 366) (ls' := [some (.ref 0), some (.int a1), some (.int a2), some (.int s0)]) (st' := [.int s0, .ref 0]) (h' := hh) (cs := []) [.aload_n 0, .iload_n 3] (by decide +kernel) rfl rfl trivial ?_
                refine z_callSh hC hN hR hZ hKin (as := [.ref 0, .int s0]) (rest := []) ok_L_72 (by decide +kernel) (sp_L_feed l hl0 _ hh s0) (Nat.le_of_ble_eq_true rfl) rfl rfl (Nat.le_of_ble_eq_true rfl) ⟨Nat.le_trans (Nat.le_of_ble_eq_true rfl) hB.2.2.2.2.1, Nat.le_trans (Nat.le_of_ble_eq_true rfl) hB.2.2.2.2.2⟩ (fun Ex qx => False.elim qx) (fun rv hw q96 => z_fun q96 ?_)
                exact z_retx_i hB rfl ⟨Nat.le_of_ble_eq_true rfl, Nat.le_of_ble_eq_true rfl⟩ (by decide +kernel) (z_lfi E)
              · skip
                have E := (if_neg c40).symm.trans E
                have T := T.2 c40
                by_cases c41 : (z_vi0 (fn_L_low a1 (nI 18) hh)) = nI 6
                · skip
                  have E := (if_pos c41).symm.trans E
                  have T := T.1 c41
                  refine z_tabIn hC (dflt := 352) (lo := 0) (hi := 12) (offs := #[66, 110, 110, 169, 261, 314, 314, 314, 314, 320, 320, 320, 320]) (len := 66) (off := 314) 364 (by decide +kernel) (by rw [c41]; decide) (by rw [c41]; decide) (by rw [c41]; rfl) (by decide) ?_
                  refine z_go hC (pc' := 366) (ls' := [some (.ref 0), some (.int a1), some (.int a2), some (.int s0)]) (st' := [.int s0, .ref 0]) (h' := hh) (cs := []) [.aload_n 0, .iload_n 3] (by decide +kernel) rfl rfl trivial ?_
                  refine z_callSh hC hN hR hZ hKin (as := [.ref 0, .int s0]) (rest := []) ok_L_72 (by decide +kernel) (sp_L_feed l hl0 _ hh s0) (Nat.le_of_ble_eq_true rfl) rfl rfl (Nat.le_of_ble_eq_true rfl) ⟨Nat.le_trans (Nat.le_of_ble_eq_true rfl) hB.2.2.2.2.1, Nat.le_trans (Nat.le_of_ble_eq_true rfl) hB.2.2.2.2.2⟩ (fun Ex qx => False.elim qx) (fun rv hw q95 => z_fun q95 ?_)
                  exact z_retx_i hB rfl ⟨Nat.le_of_ble_eq_true rfl, Nat.le_of_ble_eq_true rfl⟩ (by decide +kernel) (z_lfi E)
                · skip
                  have E := (if_neg c41).symm.trans E
                  have T := T.2 c41
                  by_cases c42 : (z_vi0 (fn_L_low a1 (nI 18) hh)) = nI 7
                  · skip
                    have E := (if_pos c42).symm.trans E
                    have T := T.1 c42
                    refine z_tabIn hC (dflt := 352) (lo := 0) (hi := 12) (offs := #[66, 110, 110, 169, 261, 314, 314, 314, 314, 320, 320, 320, 320]) (len := 66) (off := 314) 364 (by decide +kernel) (by rw [c42]; decide) (by rw [c42]; decide) (by rw [c42]; rfl) (by decide) ?_
                    refine z_go hC (pc' := 366) (ls' := [some (.ref 0), some (.int a1), some (.int a2), some (.int s0)]) (st' := [.int s0, .ref 0]) (h' := hh) (cs := []) [.aload_n 0, .iload_n 3] (by decide +kernel) rfl rfl trivial ?_
                    refine z_callSh hC hN hR hZ hKin (as := [.ref 0, .int s0]) (rest := []) ok_L_72 (by decide +kernel) (sp_L_feed l hl0 _ hh s0) (Nat.le_of_ble_eq_true rfl) rfl rfl (Nat.le_of_ble_eq_true rfl) ⟨Nat.le_trans (Nat.le_of_ble_eq_true rfl) hB.2.2.2.2.1, Nat.le_trans (Nat.le_of_ble_eq_true rfl) hB.2.2.2.2.2⟩ (fun Ex qx => False.elim qx) (fun rv hw q94 => z_fun q94 ?_)
                    exact z_retx_i hB rfl ⟨Nat.le_of_ble_eq_true rfl, Nat.le_of_ble_eq_true rfl⟩ (by decide +kernel) (z_lfi E)
                  · skip
                    have E := (if_neg c42).symm.trans E
                    have T := T.2 c42
                    by_cases c43 : (z_vi0 (fn_L_low a1 (nI 18) hh)) = nI 8
                    · skip
                      have E := (if_pos c43).symm.trans E
                      have T := T.1 c43
                      refine z_tabIn hC (dflt := 352) (lo := 0) (hi := 12) (offs := #[66, 110, 110, 169, 261, 314, 314, 314, 314, 320, 320, 320, 320]) (len := 66) (off := 314) 364 (by decide +kernel) (by rw [c43]; decide) (by rw [c43]; decide) (by rw [c43]; rfl) (by decide) ?_
                      refine z_go hC (pc' := 366) (ls' := [some (.ref 0), some (.int a1), some (.int a2), some (.int s0)]) (st' := [.int s0, .ref 0]) (h' := hh) (cs := []) [.aload_n 0, .iload_n 3] (by decide +kernel) rfl rfl trivial ?_
                      refine z_callSh hC hN hR hZ hKin (as := [.ref 0, .int s0]) (rest := []) ok_L_72 (by decide +kernel) (sp_L_feed l hl0 _ hh s0) (Nat.le_of_ble_eq_true rfl) rfl rfl (Nat.le_of_ble_eq_true rfl) ⟨Nat.le_trans (Nat.le_of_ble_eq_true rfl) hB.2.2.2.2.1, Nat.le_trans (Nat.le_of_ble_eq_true rfl) hB.2.2.2.2.2⟩ (fun Ex qx => False.elim qx) (fun rv hw q93 => z_fun q93 ?_)
                      exact z_retx_i hB rfl ⟨Nat.le_of_ble_eq_true rfl, Nat.le_of_ble_eq_true rfl⟩ (by decide +kernel) (z_lfi E)
                    · skip
                      have E := (if_neg c43).symm.trans E
                      have T := T.2 c43
                      by_cases c44 : (z_vi0 (fn_L_low a1 (nI 18) hh)) = nI 9
                      · skip
                        have E := (if_pos c44).symm.trans E
                        have T := T.1 c44
                        refine z_tabIn hC (dflt := 352) (lo := 0) (hi := 12) (offs := #[66, 110, 110, 169, 261, 314, 314, 314, 314, 320, 320, 320, 320]) (len := 66) (off := 320) 370 (by decide +kernel) (by rw [c44]; decide) (by rw [c44]; decide) (by rw [c44]; rfl) (by decide) ?_
                        refine z_go hC (pc' := 372) (ls' := [some (.ref 0), some (.int a1), some (.int a2), some (.int s0)]) (st' := [.int a2, .ref 0]) (h' := hh) (cs := []) [.aload_n 0, .iload_n 2] (by decide +kernel) rfl rfl trivial ?_
                        refine z_if_eq hC (off := 16) 388 (by decide +kernel) (by decide) (fun c84 => ?_) (fun c84 => ?_)
                        · skip
                          have E := (if_pos c84).symm.trans E
                          have T := T.1 c84
                          refine z_go hC (pc' := 394) (ls' := [some (.ref 0), some (.int a1), some (.int a2), some (.int s0)]) (st' := [.int (nI 8), .int (a1 >>> ((nI 4) &&& 31)), .int (nI 1), .ref 0]) (h' := hh) (cs := []) [.iconst 1, .iload_n 1, .iconst 4, .ishr, .bipush 8] (by decide +kernel) rfl rfl trivial ?_
                          obtain ⟨t88, T⟩ := T
                          refine z_callS hC hN hR (as := [.int (a1 >>> ((nI 4) &&& 31)), .int (nI 8)]) (rest := [.int (nI 1), .ref 0]) ok_L_46 (by decide +kernel) (sp_L_low l _ hh (a1 >>> ((nI 4) &&& 31)) (nI 8) t88) (Nat.le_of_ble_eq_true rfl) rfl rfl (Nat.le_of_ble_eq_true rfl) ⟨Nat.le_trans (Nat.le_of_ble_eq_true rfl) hB.2.2.2.2.1, Nat.le_trans (Nat.le_of_ble_eq_true rfl) hB.2.2.2.2.2⟩ (fun r85 h86 q87 => z_fun q87 ?_)
                          refine z_go hC (pc' := 398) (ls' := [some (.ref 0), some (.int a1), some (.int a2), some (.int s0)]) (st' := [.int ((nI 1) + (z_vi0 (fn_L_low (a1 >>> ((nI 4) &&& 31)) (nI 8) hh))), .ref 0]) (h' := hh) (cs := []) [.iadd] (by decide +kernel) rfl rfl trivial ?_
                          refine z_less (ls' := [none, none, none, none]) (by simp [z_sub]) ?_
                          exact P398  ((nI 1) + (z_vi0 (fn_L_low (a1 >>> ((nI 4) &&& 31)) (nI 8) hh))) hh T E
                        · skip
                          have E := (if_neg c84).symm.trans E
                          have T := T.2 c84
                          refine z_go hC (pc' := 380) (ls' := [some (.ref 0), some (.int a1), some (.int a2), some (.int s0)]) (st' := [.int (nI 53), .int (a1 >>> ((nI 4) &&& 31)), .ref 0]) (h' := hh) (cs := []) [.iload_n 1, .iconst 4, .ishr, .bipush 53] (by decide +kernel) rfl rfl trivial ?_
                          obtain ⟨t92, T⟩ := T
                          refine z_callS hC hN hR (as := [.int (a1 >>> ((nI 4) &&& 31)), .int (nI 53)]) (rest := [.ref 0]) ok_L_46 (by decide +kernel) (sp_L_low l _ hh (a1 >>> ((nI 4) &&& 31)) (nI 53) t92) (Nat.le_of_ble_eq_true rfl) rfl rfl (Nat.le_of_ble_eq_true rfl) ⟨Nat.le_trans (Nat.le_of_ble_eq_true rfl) hB.2.2.2.2.1, Nat.le_trans (Nat.le_of_ble_eq_true rfl) hB.2.2.2.2.2⟩ (fun r89 h90 q91 => z_fun q91 ?_)
                          refine z_go hC (pc' := 385) (ls' := [some (.ref 0), some (.int a1), some (.int a2), some (.int s0)]) (st' := [.int ((z_vi0 (fn_L_low (a1 >>> ((nI 4) &&& 31)) (nI 53) hh)) - (nI 1)), .ref 0]) (h' := hh) (cs := []) [.iconst 1, .isub] (by decide +kernel) rfl rfl trivial ?_
                          refine z_goto hC (off := 13) 398 (by decide +kernel) (by decide) ?_
                          refine z_less (ls' := [none, none, none, none]) (by simp [z_sub]) ?_
                          exact P398  ((z_vi0 (fn_L_low (a1 >>> ((nI 4) &&& 31)) (nI 53) hh)) - (nI 1)) hh T E
                      · skip
                        have E := (if_neg c44).symm.trans E
                        have T := T.2 c44
                        by_cases c45 : (z_vi0 (fn_L_low a1 (nI 18) hh)) = nI 10
                        · skip
                          have E := (if_pos c45).symm.trans E
                          have T := T.1 c45
                          refine z_tabIn hC (dflt := 352) (lo := 0) (hi := 12) (offs := #[66, 110, 110, 169, 261, 314, 314, 314, 314, 320, 320, 320, 320]) (len := 66) (off := 320) 370 (by decide +kernel) (by rw [c45]; decide) (by rw [c45]; decide) (by rw [c45]; rfl) (by decide) ?_
                          refine z_go hC (pc' := 372) (ls' := [some (.ref 0), some (.int a1), some (.int a2), some (.int s0)]) (st' := [.int a2, .ref 0]) (h' := hh) (cs := []) [.aload_n 0, .iload_n 2] (by decide +kernel) rfl rfl trivial ?_
                          refine z_if_eq hC (off := 16) 388 (by decide +kernel) (by decide) (fun c75 => ?_) (fun c75 => ?_)
                          · skip
                            have E := (if_pos c75).symm.trans E
                            have T := T.1 c75
                            refine z_go hC (pc' := 394) (ls' := [some (.ref 0), some (.int a1), some (.int a2), some (.int s0)]) (st' := [.int (nI 8), .int (a1 >>> ((nI 4) &&& 31)), .int (nI 1), .ref 0]) (h' := hh) (cs := []) [.iconst 1, .iload_n 1, .iconst 4, .ishr, .bipush 8] (by decide +kernel) rfl rfl trivial ?_
                            obtain ⟨t79, T⟩ := T
                            refine z_callS hC hN hR (as := [.int (a1 >>> ((nI 4) &&& 31)), .int (nI 8)]) (rest := [.int (nI 1), .ref 0]) ok_L_46 (by decide +kernel) (sp_L_low l _ hh (a1 >>> ((nI 4) &&& 31)) (nI 8) t79) (Nat.le_of_ble_eq_true rfl) rfl rfl (Nat.le_of_ble_eq_true rfl) ⟨Nat.le_trans (Nat.le_of_ble_eq_true rfl) hB.2.2.2.2.1, Nat.le_trans (Nat.le_of_ble_eq_true rfl) hB.2.2.2.2.2⟩ (fun r76 h77 q78 => z_fun q78 ?_)
                            refine z_go hC (pc' := 398) (ls' := [some (.ref 0), some (.int a1), some (.int a2), some (.int s0)]) (st' := [.int ((nI 1) + (z_vi0 (fn_L_low (a1 >>> ((nI 4) &&& 31)) (nI 8) hh))), .ref 0]) (h' := hh) (cs := []) [.iadd] (by decide +kernel) rfl rfl trivial ?_
                            refine z_less (ls' := [none, none, none, none]) (by simp [z_sub]) ?_
                            exact P398  ((nI 1) + (z_vi0 (fn_L_low (a1 >>> ((nI 4) &&& 31)) (nI 8) hh))) hh T E
                          · skip
                            have E := (if_neg c75).symm.trans E
                            have T := T.2 c75
                            refine z_go hC (pc' := 380) (ls' := [some (.ref 0), some (.int a1), some (.int a2), some (.int s0)]) (st' := [.int (nI 53), .int (a1 >>> ((nI 4) &&& 31)), .ref 0]) (h' := hh) (cs := []) [.iload_n 1, .iconst 4, .ishr, .bipush 53] (by decide +kernel) rfl rfl trivial ?_
                            obtain ⟨t83, T⟩ := T
                            refine z_callS hC hN hR (as := [.int (a1 >>> ((nI 4) &&& 31)), .int (nI 53)]) (rest := [.ref 0]) ok_L_46 (by decide +kernel) (sp_L_low l _ hh (a1 >>> ((nI 4) &&& 31)) (nI 53) t83) (Nat.le_of_ble_eq_true rfl) rfl rfl (Nat.le_of_ble_eq_true rfl) ⟨Nat.le_trans (Nat.le_of_ble_eq_true rfl) hB.2.2.2.2.1, Nat.le_trans (Nat.le_of_ble_eq_true rfl) hB.2.2.2.2.2⟩ (fun r80 h81 q82 => z_fun q82 ?_)
                            refine z_go hC (pc' := 385) (ls' := [some (.ref 0), some (.int a1), some (.int a2), some (.int s0)]) (st' := [.int ((z_vi0 (fn_L_low (a1 >>> ((nI 4) &&& 31)) (nI 53) hh)) - (nI 1)), .ref 0]) (h' := hh) (cs := []) [.iconst 1, .isub] (by decide +kernel) rfl rfl trivial ?_
                            refine z_goto hC (off := 13) 398 (by decide +kernel) (by decide) ?_
                            refine z_less (ls' := [none, none, none, none]) (by simp [z_sub]) ?_
                            exact P398  ((z_vi0 (fn_L_low (a1 >>> ((nI 4) &&& 31)) (nI 53) hh)) - (nI 1)) hh T E
                        · skip
                          have E := (if_neg c45).symm.trans E
                          have T := T.2 c45
                          by_cases c46 : (z_vi0 (fn_L_low a1 (nI 18) hh)) = nI 11
                          · skip
                            have E := (if_pos c46).symm.trans E
                            have T := T.1 c46
                            refine z_tabIn hC (dflt := 352) (lo := 0) (hi := 12) (offs := #[66, 110, 110, 169, 261, 314, 314, 314, 314, 320, 320, 320, 320]) (len := 66) (off := 320) 370 (by decide +kernel) (by rw [c46]; decide) (by rw [c46]; decide) (by rw [c46]; rfl) (by decide) ?_
                            refine z_go hC (pc' := 372) (ls' := [some (.ref 0), some (.int a1), some (.int a2), some (.int s0)]) (st' := [.int a2, .ref 0]) (h' := hh) (cs := []) [.aload_n 0, .iload_n 2] (by decide +kernel) rfl rfl trivial ?_
                            refine z_if_eq hC (off := 16) 388 (by decide +kernel) (by decide) (fun c66 => ?_) (fun c66 => ?_)
                            · skip
                              have E := (if_pos c66).symm.trans E
                              have T := T.1 c66
                              refine z_go hC (pc' := 394) (ls' := [some (.ref 0), some (.int a1), some (.int a2), some (.int s0)]) (st' := [.int (nI 8), .int (a1 >>> ((nI 4) &&& 31)), .int (nI 1), .ref 0]) (h' := hh) (cs := []) [.iconst 1, .iload_n 1, .iconst 4, .ishr, .bipush 8] (by decide +kernel) rfl rfl trivial ?_
                              obtain ⟨t70, T⟩ := T
                              refine z_callS hC hN hR (as := [.int (a1 >>> ((nI 4) &&& 31)), .int (nI 8)]) (rest := [.int (nI 1), .ref 0]) ok_L_46 (by decide +kernel) (sp_L_low l _ hh (a1 >>> ((nI 4) &&& 31)) (nI 8) t70) (Nat.le_of_ble_eq_true rfl) rfl rfl (Nat.le_of_ble_eq_true rfl) ⟨Nat.le_trans (Nat.le_of_ble_eq_true rfl) hB.2.2.2.2.1, Nat.le_trans (Nat.le_of_ble_eq_true rfl) hB.2.2.2.2.2⟩ (fun r67 h68 q69 => z_fun q69 ?_)
                              refine z_go hC (pc' := 398) (ls' := [some (.ref 0), some (.int a1), some (.int a2), some (.int s0)]) (st' := [.int ((nI 1) + (z_vi0 (fn_L_low (a1 >>> ((nI 4) &&& 31)) (nI 8) hh))), .ref 0]) (h' := hh) (cs := []) [.iadd] (by decide +kernel) rfl rfl trivial ?_
                              refine z_less (ls' := [none, none, none, none]) (by simp [z_sub]) ?_
                              exact P398  ((nI 1) + (z_vi0 (fn_L_low (a1 >>> ((nI 4) &&& 31)) (nI 8) hh))) hh T E
                            · skip
                              have E := (if_neg c66).symm.trans E
                              have T := T.2 c66
                              refine z_go hC (pc' := 380) (ls' := [some (.ref 0), some (.int a1), some (.int a2), some (.int s0)]) (st' := [.int (nI 53), .int (a1 >>> ((nI 4) &&& 31)), .ref 0]) (h' := hh) (cs := []) [.iload_n 1, .iconst 4, .ishr, .bipush 53] (by decide +kernel) rfl rfl trivial ?_
                              obtain ⟨t74, T⟩ := T
                              refine z_callS hC hN hR (as := [.int (a1 >>> ((nI 4) &&& 31)), .int (nI 53)]) (rest := [.ref 0]) ok_L_46 (by decide +kernel) (sp_L_low l _ hh (a1 >>> ((nI 4) &&& 31)) (nI 53) t74) (Nat.le_of_ble_eq_true rfl) rfl rfl (Nat.le_of_ble_eq_true rfl) ⟨Nat.le_trans (Nat.le_of_ble_eq_true rfl) hB.2.2.2.2.1, Nat.le_trans (Nat.le_of_ble_eq_true rfl) hB.2.2.2.2.2⟩ (fun r71 h72 q73 => z_fun q73 ?_)
                              refine z_go hC (pc' := 385) (ls' := [some (.ref 0), some (.int a1), some (.int a2), some (.int s0)]) (st' := [.int ((z_vi0 (fn_L_low (a1 >>> ((nI 4) &&& 31)) (nI 53) hh)) - (nI 1)), .ref 0]) (h' := hh) (cs := []) [.iconst 1, .isub] (by decide +kernel) rfl rfl trivial ?_
                              refine z_goto hC (off := 13) 398 (by decide +kernel) (by decide) ?_
                              refine z_less (ls' := [none, none, none, none]) (by simp [z_sub]) ?_
                              exact P398  ((z_vi0 (fn_L_low (a1 >>> ((nI 4) &&& 31)) (nI 53) hh)) - (nI 1)) hh T E
                          · skip
                            have E := (if_neg c46).symm.trans E
                            have T := T.2 c46
                            by_cases c47 : (z_vi0 (fn_L_low a1 (nI 18) hh)) = nI 12
                            · skip
                              have E := (if_pos c47).symm.trans E
                              have T := T.1 c47
                              refine z_tabIn hC (dflt := 352) (lo := 0) (hi := 12) (offs := #[66, 110, 110, 169, 261, 314, 314, 314, 314, 320, 320, 320, 320]) (len := 66) (off := 320) 370 (by decide +kernel) (by rw [c47]; decide) (by rw [c47]; decide) (by rw [c47]; rfl) (by decide) ?_
                              refine z_go hC (pc' := 372) (ls' := [some (.ref 0), some (.int a1), some (.int a2), some (.int s0)]) (st' := [.int a2, .ref 0]) (h' := hh) (cs := []) [.aload_n 0, .iload_n 2] (by decide +kernel) rfl rfl trivial ?_
                              refine z_if_eq hC (off := 16) 388 (by decide +kernel) (by decide) (fun c57 => ?_) (fun c57 => ?_)
                              · skip
                                have E := (if_pos c57).symm.trans E
                                have T := T.1 c57
                                refine z_go hC (pc' := 394) (ls' := [some (.ref 0), some (.int a1), some (.int a2), some (.int s0)]) (st' := [.int (nI 8), .int (a1 >>> ((nI 4) &&& 31)), .int (nI 1), .ref 0]) (h' := hh) (cs := []) [.iconst 1, .iload_n 1, .iconst 4, .ishr, .bipush 8] (by decide +kernel) rfl rfl trivial ?_
                                obtain ⟨t61, T⟩ := T
                                refine z_callS hC hN hR (as := [.int (a1 >>> ((nI 4) &&& 31)), .int (nI 8)]) (rest := [.int (nI 1), .ref 0]) ok_L_46 (by decide +kernel) (sp_L_low l _ hh (a1 >>> ((nI 4) &&& 31)) (nI 8) t61) (Nat.le_of_ble_eq_true rfl) rfl rfl (Nat.le_of_ble_eq_true rfl) ⟨Nat.le_trans (Nat.le_of_ble_eq_true rfl) hB.2.2.2.2.1, Nat.le_trans (Nat.le_of_ble_eq_true rfl) hB.2.2.2.2.2⟩ (fun r58 h59 q60 => z_fun q60 ?_)
                                refine z_go hC (pc' := 398) (ls' := [some (.ref 0), some (.int a1), some (.int a2), some (.int s0)]) (st' := [.int ((nI 1) + (z_vi0 (fn_L_low (a1 >>> ((nI 4) &&& 31)) (nI 8) hh))), .ref 0]) (h' := hh) (cs := []) [.iadd] (by decide +kernel) rfl rfl trivial ?_
                                refine z_less (ls' := [none, none, none, none]) (by simp [z_sub]) ?_
                                exact P398  ((nI 1) + (z_vi0 (fn_L_low (a1 >>> ((nI 4) &&& 31)) (nI 8) hh))) hh T E
                              · skip
                                have E := (if_neg c57).symm.trans E
                                have T := T.2 c57
                                refine z_go hC (pc' := 380) (ls' := [some (.ref 0), some (.int a1), some (.int a2), some (.int s0)]) (st' := [.int (nI 53), .int (a1 >>> ((nI 4) &&& 31)), .ref 0]) (h' := hh) (cs := []) [.iload_n 1, .iconst 4, .ishr, .bipush 53] (by decide +kernel) rfl rfl trivial ?_
                                obtain ⟨t65, T⟩ := T
                                refine z_callS hC hN hR (as := [.int (a1 >>> ((nI 4) &&& 31)), .int (nI 53)]) (rest := [.ref 0]) ok_L_46 (by decide +kernel) (sp_L_low l _ hh (a1 >>> ((nI 4) &&& 31)) (nI 53) t65) (Nat.le_of_ble_eq_true rfl) rfl rfl (Nat.le_of_ble_eq_true rfl) ⟨Nat.le_trans (Nat.le_of_ble_eq_true rfl) hB.2.2.2.2.1, Nat.le_trans (Nat.le_of_ble_eq_true rfl) hB.2.2.2.2.2⟩ (fun r62 h63 q64 => z_fun q64 ?_)
                                refine z_go hC (pc' := 385) (ls' := [some (.ref 0), some (.int a1), some (.int a2), some (.int s0)]) (st' := [.int ((z_vi0 (fn_L_low (a1 >>> ((nI 4) &&& 31)) (nI 53) hh)) - (nI 1)), .ref 0]) (h' := hh) (cs := []) [.iconst 1, .isub] (by decide +kernel) rfl rfl trivial ?_
                                refine z_goto hC (off := 13) 398 (by decide +kernel) (by decide) ?_
                                refine z_less (ls' := [none, none, none, none]) (by simp [z_sub]) ?_
                                exact P398  ((z_vi0 (fn_L_low (a1 >>> ((nI 4) &&& 31)) (nI 53) hh)) - (nI 1)) hh T E
                            · skip
                              have E := (if_neg c47).symm.trans E
                              have T := T.2 c47
                              refine z_tabOut hC (dflt := 352) (lo := 0) (hi := 12) (offs := #[66, 110, 110, 169, 261, 314, 314, 314, 314, 320, 320, 320, 320]) (len := 66) 402 (by decide +kernel) (z_tabN (lt_s (lt_s (lt_s (lt_s (lt_s (lt_s (lt_s (lt_s (lt_s (lt_s (lt_s (lt_s (lt_s lt_0 c35) c36) c37) c38) c39) c40) c41) c42) c43) c44) c45) c46) c47)) (by decide) ?_
                              refine z_go hC (pc' := 404) (ls' := [some (.ref 0), some (.int a1), some (.int a2), some (.int s0)]) (st' := [.int a2, .ref 0]) (h' := hh) (cs := []) [.aload_n 0, .iload_n 2] (by decide +kernel) rfl rfl trivial ?_
                              refine z_if_eq hC (off := 16) 420 (by decide +kernel) (by decide) (fun c48 => ?_) (fun c48 => ?_)
                              · skip
                                have E := (if_pos c48).symm.trans E
                                have T := T.1 c48
                                refine z_go hC (pc' := 424) (ls' := [some (.ref 0), some (.int a1), some (.int a2), some (.int s0)]) (st' := [.int (nI 4), .int (a1 >>> ((nI 4) &&& 31)), .ref 0]) (h' := hh) (cs := []) [.iload_n 1, .iconst 4, .ishr, .iconst 4] (by decide +kernel) rfl rfl trivial ?_
                                have t52 := T
                                refine z_callS hC hN hR (as := [.int (a1 >>> ((nI 4) &&& 31)), .int (nI 4)]) (rest := [.ref 0]) ok_L_46 (by decide +kernel) (sp_L_low l _ hh (a1 >>> ((nI 4) &&& 31)) (nI 4) t52) (Nat.le_of_ble_eq_true rfl) rfl rfl (Nat.le_of_ble_eq_true rfl) ⟨Nat.le_trans (Nat.le_of_ble_eq_true rfl) hB.2.2.2.2.1, Nat.le_trans (Nat.le_of_ble_eq_true rfl) hB.2.2.2.2.2⟩ (fun r49 h50 q51 => z_fun q51 ?_)
                                refine z_less (ls' := [none, none, none, none]) (by simp [z_sub]) ?_
                                exact P427  (z_vi0 (fn_L_low (a1 >>> ((nI 4) &&& 31)) (nI 4) hh)) hh trivial E
                              · skip
                                have E := (if_neg c48).symm.trans E
                                have T := T.2 c48
                                refine z_go hC (pc' := 412) (ls' := [some (.ref 0), some (.int a1), some (.int a2), some (.int s0)]) (st' := [.int (nI 6), .int (a1 >>> ((nI 4) &&& 31)), .ref 0]) (h' := hh) (cs := []) [.iload_n 1, .iconst 4, .ishr, .bipush 6] (by decide +kernel) rfl rfl trivial ?_
                                have t56 := T
                                refine z_callS hC hN hR (as := [.int (a1 >>> ((nI 4) &&& 31)), .int (nI 6)]) (rest := [.ref 0]) ok_L_46 (by decide +kernel) (sp_L_low l _ hh (a1 >>> ((nI 4) &&& 31)) (nI 6) t56) (Nat.le_of_ble_eq_true rfl) rfl rfl (Nat.le_of_ble_eq_true rfl) ⟨Nat.le_trans (Nat.le_of_ble_eq_true rfl) hB.2.2.2.2.1, Nat.le_trans (Nat.le_of_ble_eq_true rfl) hB.2.2.2.2.2⟩ (fun r53 h54 q55 => z_fun q55 ?_)
                                refine z_go hC (pc' := 417) (ls' := [some (.ref 0), some (.int a1), some (.int a2), some (.int s0)]) (st' := [.int ((z_vi0 (fn_L_low (a1 >>> ((nI 4) &&& 31)) (nI 6) hh)) - (nI 1)), .ref 0]) (h' := hh) (cs := []) [.iconst 1, .isub] (by decide +kernel) rfl rfl trivial ?_
                                refine z_goto hC (off := 10) 427 (by decide +kernel) (by decide) ?_
                                refine z_less (ls' := [none, none, none, none]) (by simp [z_sub]) ?_
                                exact P427  ((z_vi0 (fn_L_low (a1 >>> ((nI 4) &&& 31)) (nI 6) hh)) - (nI 1)) hh trivial E
  have P17 : ∀ (a1 : Int32) (s0 : Int32) (hh : z_H), tk_L_act_17  a1 s0 hh → fn_L_act_17  a1 s0 hh = RR → z_GX p l e R s m args below meth c D dA ad 4 (z_PI RR) (fun _ => False) h 2 12 (z_c ext) 0 0 17 [some (.ref 0), some (.int a1), none, none] [.int s0] hh := by
    intro  a1 s0 hh T E
    unfold tk_L_act_17 at T; unfold fn_L_act_17 at E
    refine z_go hC (pc' := 19) (ls' := [some (.ref 0), some (.int a1), some (.int s0), none]) (st' := [.int s0]) (h' := hh) (cs := []) [.istore_n 2, .iload_n 2] (by decide +kernel) rfl rfl trivial ?_
    refine z_if_eq hC (off := 16) 35 (by decide +kernel) (by decide) (fun c163 => ?_) (fun c163 => ?_)
    · skip
      have E := (if_pos c163).symm.trans E
      have T := T.1 c163
      refine z_go hC (pc' := 40) (ls' := [some (.ref 0), some (.int a1), some (.int s0), none]) (st' := [.int (nI 36), .int (a1 >>> ((nI 4) &&& 31))]) (h' := hh) (cs := []) [.iload_n 1, .iconst 4, .ishr, .bipush 36] (by decide +kernel) rfl rfl trivial ?_
      obtain ⟨t167, T⟩ := T
      refine z_callS hC hN hR (as := [.int (a1 >>> ((nI 4) &&& 31)), .int (nI 36)]) (rest := []) ok_L_46 (by decide +kernel) (sp_L_low l _ hh (a1 >>> ((nI 4) &&& 31)) (nI 36) t167) (Nat.le_of_ble_eq_true rfl) rfl rfl (Nat.le_of_ble_eq_true rfl) ⟨Nat.le_trans (Nat.le_of_ble_eq_true rfl) hB.2.2.2.2.1, Nat.le_trans (Nat.le_of_ble_eq_true rfl) hB.2.2.2.2.2⟩ (fun r164 h165 q166 => z_fun q166 ?_)
      exact P43  a1 s0 (z_vi0 (fn_L_low (a1 >>> ((nI 4) &&& 31)) (nI 36) hh)) hh T E
    · skip
      have E := (if_neg c163).symm.trans E
      have T := T.2 c163
      refine z_go hC (pc' := 27) (ls' := [some (.ref 0), some (.int a1), some (.int s0), none]) (st' := [.int (nI 39), .int (a1 >>> ((nI 4) &&& 31))]) (h' := hh) (cs := []) [.iload_n 1, .iconst 4, .ishr, .bipush 39] (by decide +kernel) rfl rfl trivial ?_
      obtain ⟨t171, T⟩ := T
      refine z_callS hC hN hR (as := [.int (a1 >>> ((nI 4) &&& 31)), .int (nI 39)]) (rest := []) ok_L_46 (by decide +kernel) (sp_L_low l _ hh (a1 >>> ((nI 4) &&& 31)) (nI 39) t171) (Nat.le_of_ble_eq_true rfl) rfl rfl (Nat.le_of_ble_eq_true rfl) ⟨Nat.le_trans (Nat.le_of_ble_eq_true rfl) hB.2.2.2.2.1, Nat.le_trans (Nat.le_of_ble_eq_true rfl) hB.2.2.2.2.2⟩ (fun r168 h169 q170 => z_fun q170 ?_)
      refine z_go hC (pc' := 32) (ls' := [some (.ref 0), some (.int a1), some (.int s0), none]) (st' := [.int ((z_vi0 (fn_L_low (a1 >>> ((nI 4) &&& 31)) (nI 39) hh)) - (nI 1))]) (h' := hh) (cs := []) [.iconst 1, .isub] (by decide +kernel) rfl rfl trivial ?_
      refine z_goto hC (off := 11) 43 (by decide +kernel) (by decide) ?_
      exact P43  a1 s0 ((z_vi0 (fn_L_low (a1 >>> ((nI 4) &&& 31)) (nI 39) hh)) - (nI 1)) hh T E
  refine z_go hC (pc' := 6) (ls' := [some (.ref 0), some (.int x), none, none]) (st' := [.int (nI 9), .int (x >>> ((nI 24) &&& 31))]) (h' := h) (cs := []) [.iload_n 1, .bipush 24, .ishr, .bipush 9] (by decide +kernel) rfl rfl trivial ?_
  obtain ⟨t175, T⟩ := T
  refine z_callS hC hN hR (as := [.int (x >>> ((nI 24) &&& 31)), .int (nI 9)]) (rest := []) ok_L_46 (by decide +kernel) (sp_L_low l _ h (x >>> ((nI 24) &&& 31)) (nI 9) t175) (Nat.le_of_ble_eq_true rfl) rfl rfl (Nat.le_of_ble_eq_true rfl) ⟨Nat.le_trans (Nat.le_of_ble_eq_true rfl) hB.2.2.2.2.1, Nat.le_trans (Nat.le_of_ble_eq_true rfl) hB.2.2.2.2.2⟩ (fun r172 h173 q174 => z_fun q174 ?_)
  refine z_if_ne hC (off := 7) 16 (by decide +kernel) (by decide) (fun c176 => ?_) (fun c176 => ?_)
  · skip
    have E := (if_neg c176).symm.trans E
    have T := T.2 c176
    refine z_go hC (pc' := 17) (ls' := [some (.ref 0), some (.int x), none, none]) (st' := [.int (nI 0)]) (h' := h) (cs := []) [.iconst 0] (by decide +kernel) rfl rfl trivial ?_
    exact P17  x (nI 0) h T E
  · skip
    have E := (if_pos c176).symm.trans E
    have T := T.1 c176
    refine z_go hC (pc' := 13) (ls' := [some (.ref 0), some (.int x), none, none]) (st' := [.int (nI 1)]) (h' := h) (cs := []) [.iconst 1] (by decide +kernel) rfl rfl trivial ?_
    refine z_goto hC (off := 4) 17 (by decide +kernel) (by decide) ?_
    exact P17  x (nI 1) h T E

def fn_L_areAlike_104 (h : z_H) (k74 : Int32 → Int32 → (Option Value)) (a3 : Int32) (s0 : Int32) : (Option Value) := k74 s0 (a3 + (nI 1))
def tk_L_areAlike_104 (h : z_H) (K74 : Int32 → Int32 → Prop) (a3 : Int32) (s0 : Int32) : Prop := K74 s0 (a3 + (nI 1))
def fn_L_areAlike_158 (h : z_H) (k113 : Int32 → Int32 → (Option Value)) (a3 : Int32) (s0 : Int32) : (Option Value) := k113 s0 (a3 + (nI 1))
def tk_L_areAlike_158 (h : z_H) (K113 : Int32 → Int32 → Prop) (a3 : Int32) (s0 : Int32) : Prop := K113 s0 (a3 + (nI 1))
def fn_L_areAlike_157 (h : z_H) (k113 : Int32 → Int32 → (Option Value)) (a3 : Int32) : (Option Value) := fn_L_areAlike_158 h k113 a3 (nI 0)
def tk_L_areAlike_157 (h : z_H) (K113 : Int32 → Int32 → Prop) (a3 : Int32) : Prop := tk_L_areAlike_158 h K113 a3 (nI 0)
def fn_L_areAlike_113 (h : z_H)  : Nat → Int32 → Int32 → (Option Value)
  | 0, _, _ => none
  | n + 1, a2, a3 => let k113 := fun (a2_ : Int32) (a3_ : Int32) => fn_L_areAlike_113 h  n a2_ a3_; if (nI 12) ≤ a3 then some (.int a2) else if a2 = 0 then some (.int a2) else if (z_vi0 (fn_X7_isInTree_n a3 h)) = (z_vi0 (fn_X7_isInTree_n a3 (z_sw h))) then if (z_vi0 (fn_X7_isWall_n ((nI 3) * a3) h)) = (z_vi0 (fn_X7_isWall_n ((nI 3) * a3) (z_sw h))) then fn_L_areAlike_158 h k113 a3 (nI 1) else fn_L_areAlike_157 h k113 a3 else fn_L_areAlike_157 h k113 a3
def tk_L_areAlike_113 (h : z_H)  : Nat → Int32 → Int32 → Prop
  | 0, _, _ => False
  | n + 1, a2, a3 => let K113 := fun (a2_ : Int32) (a3_ : Int32) => tk_L_areAlike_113 h  n a2_ a3_; (((nI 12) ≤ a3) → ((a2 = 0 ∨ a2 = 1))) ∧ ((¬ (nI 12) ≤ a3) → (((a2 = 0) → ((a2 = 0 ∨ a2 = 1))) ∧ ((¬ a2 = 0) → (tk_X7_isInTree_n a3 h ∧ (tk_X7_isInTree_n a3 (z_sw h) ∧ ((((z_vi0 (fn_X7_isInTree_n a3 h)) = (z_vi0 (fn_X7_isInTree_n a3 (z_sw h)))) → (tk_X7_isWall_n ((nI 3) * a3) h ∧ (tk_X7_isWall_n ((nI 3) * a3) (z_sw h) ∧ ((((z_vi0 (fn_X7_isWall_n ((nI 3) * a3) h)) = (z_vi0 (fn_X7_isWall_n ((nI 3) * a3) (z_sw h)))) → (tk_L_areAlike_158 h K113 a3 (nI 1))) ∧ ((¬ (z_vi0 (fn_X7_isWall_n ((nI 3) * a3) h)) = (z_vi0 (fn_X7_isWall_n ((nI 3) * a3) (z_sw h)))) → (tk_L_areAlike_157 h K113 a3)))))) ∧ ((¬ (z_vi0 (fn_X7_isInTree_n a3 h)) = (z_vi0 (fn_X7_isInTree_n a3 (z_sw h)))) → (tk_L_areAlike_157 h K113 a3))))))))
def fn_L_areAlike_111 (h : z_H)  (a2 : Int32) : (Option Value) := fn_L_areAlike_113 h 2000 a2 (nI 0)
def tk_L_areAlike_111 (h : z_H)  (a2 : Int32) : Prop := tk_L_areAlike_113 h 2000 a2 (nI 0)
def fn_L_areAlike_74 (h : z_H)  : Nat → Int32 → Int32 → (Option Value)
  | 0, _, _ => none
  | n + 1, a2, a3 => let k74 := fun (a2_ : Int32) (a3_ : Int32) => fn_L_areAlike_74 h  n a2_ a3_; if (z_vi0 (fn_X7_length  h)) ≤ a3 then fn_L_areAlike_111 h a2 else if a2 = 0 then fn_L_areAlike_111 h a2 else if (z_vi0 (fn_X7_bodyAt_n a3 h)) = (z_vi0 (fn_X7_bodyAt_n a3 (z_sw h))) then fn_L_areAlike_104 h k74 a3 (nI 1) else fn_L_areAlike_104 h k74 a3 (nI 0)
def tk_L_areAlike_74 (h : z_H)  : Nat → Int32 → Int32 → Prop
  | 0, _, _ => False
  | n + 1, a2, a3 => let K74 := fun (a2_ : Int32) (a3_ : Int32) => tk_L_areAlike_74 h  n a2_ a3_; (((z_vi0 (fn_X7_length  h)) ≤ a3) → (tk_L_areAlike_111 h a2)) ∧ ((¬ (z_vi0 (fn_X7_length  h)) ≤ a3) → (((a2 = 0) → (tk_L_areAlike_111 h a2)) ∧ ((¬ a2 = 0) → (tk_X7_bodyAt_n a3 h ∧ (tk_X7_bodyAt_n a3 (z_sw h) ∧ ((((z_vi0 (fn_X7_bodyAt_n a3 h)) = (z_vi0 (fn_X7_bodyAt_n a3 (z_sw h)))) → (tk_L_areAlike_104 h K74 a3 (nI 1))) ∧ ((¬ (z_vi0 (fn_X7_bodyAt_n a3 h)) = (z_vi0 (fn_X7_bodyAt_n a3 (z_sw h)))) → (tk_L_areAlike_104 h K74 a3 (nI 0)))))))))
def fn_L_areAlike_71 (h : z_H)  (s0 : Int32) : (Option Value) := fn_L_areAlike_74 h 2000 s0 (nI 0)
def tk_L_areAlike_71 (h : z_H)  (s0 : Int32) : Prop := tk_L_areAlike_74 h 2000 s0 (nI 0)
def fn_L_areAlike_70 (h : z_H)   : (Option Value) := fn_L_areAlike_71 h (nI 0)
def tk_L_areAlike_70 (h : z_H)   : Prop := tk_L_areAlike_71 h (nI 0)
def fn_L_areAlike  (h : z_H) : (Option Value) := if (z_vi0 (fn_X7_isAlive  h)) = (z_vi0 (fn_X7_isAlive  (z_sw h))) then if (z_vi0 (fn_X7_length  h)) = (z_vi0 (fn_X7_length  (z_sw h))) then if (z_vi0 (fn_X7_owed  h)) = (z_vi0 (fn_X7_owed  (z_sw h))) then if (z_vi0 (fn_X7_feeds  h)) = (z_vi0 (fn_X7_feeds  (z_sw h))) then if (z_vi0 (fn_X7_hasCycle  h)) = (z_vi0 (fn_X7_hasCycle  (z_sw h))) then if (z_vi0 (fn_X7_isInOrder  h)) = (z_vi0 (fn_X7_isInOrder  (z_sw h))) then fn_L_areAlike_71 h (nI 1) else fn_L_areAlike_70 h  else fn_L_areAlike_70 h  else fn_L_areAlike_70 h  else fn_L_areAlike_70 h  else fn_L_areAlike_70 h  else fn_L_areAlike_70 h 
def tk_L_areAlike  (h : z_H) : Prop := (((z_vi0 (fn_X7_isAlive  h)) = (z_vi0 (fn_X7_isAlive  (z_sw h)))) → ((((z_vi0 (fn_X7_length  h)) = (z_vi0 (fn_X7_length  (z_sw h)))) → ((((z_vi0 (fn_X7_owed  h)) = (z_vi0 (fn_X7_owed  (z_sw h)))) → ((((z_vi0 (fn_X7_feeds  h)) = (z_vi0 (fn_X7_feeds  (z_sw h)))) → ((((z_vi0 (fn_X7_hasCycle  h)) = (z_vi0 (fn_X7_hasCycle  (z_sw h)))) → (tk_X7_isInOrder  h ∧ (tk_X7_isInOrder  (z_sw h) ∧ ((((z_vi0 (fn_X7_isInOrder  h)) = (z_vi0 (fn_X7_isInOrder  (z_sw h)))) → (tk_L_areAlike_71 h (nI 1))) ∧ ((¬ (z_vi0 (fn_X7_isInOrder  h)) = (z_vi0 (fn_X7_isInOrder  (z_sw h)))) → (tk_L_areAlike_70 h )))))) ∧ ((¬ (z_vi0 (fn_X7_hasCycle  h)) = (z_vi0 (fn_X7_hasCycle  (z_sw h)))) → (tk_L_areAlike_70 h )))) ∧ ((¬ (z_vi0 (fn_X7_feeds  h)) = (z_vi0 (fn_X7_feeds  (z_sw h)))) → (tk_L_areAlike_70 h )))) ∧ ((¬ (z_vi0 (fn_X7_owed  h)) = (z_vi0 (fn_X7_owed  (z_sw h)))) → (tk_L_areAlike_70 h )))) ∧ ((¬ (z_vi0 (fn_X7_length  h)) = (z_vi0 (fn_X7_length  (z_sw h)))) → (tk_L_areAlike_70 h )))) ∧ ((¬ (z_vi0 (fn_X7_isAlive  h)) = (z_vi0 (fn_X7_isAlive  (z_sw h)))) → (tk_L_areAlike_70 h ))
set_option maxHeartbeats 4000000 in
set_option maxRecDepth 100000 in
theorem sp_L_areAlike (l : Launch)   (h : z_H)   (T : tk_L_areAlike  h) : z_Sp l 5 yL_areAlike cL_areAlike 4 (some .boolean) [.ref 0, .ref 20] (z_d) h (z_QB h (fn_L_areAlike  h)) := by
  refine z_enter ft_L (by decide +kernel) fo_L (Nat.le_of_ble_eq_true rfl) ?_
  intro p e R s m args below meth c D dA ad hB
  have hC := hB.1
  have hN := hB.2.1
  have hR := hB.2.2.1
  unfold tk_L_areAlike at T; have E : (if (z_vi0 (fn_X7_isAlive  h)) = (z_vi0 (fn_X7_isAlive  (z_sw h))) then if (z_vi0 (fn_X7_length  h)) = (z_vi0 (fn_X7_length  (z_sw h))) then if (z_vi0 (fn_X7_owed  h)) = (z_vi0 (fn_X7_owed  (z_sw h))) then if (z_vi0 (fn_X7_feeds  h)) = (z_vi0 (fn_X7_feeds  (z_sw h))) then if (z_vi0 (fn_X7_hasCycle  h)) = (z_vi0 (fn_X7_hasCycle  (z_sw h))) then if (z_vi0 (fn_X7_isInOrder  h)) = (z_vi0 (fn_X7_isInOrder  (z_sw h))) then fn_L_areAlike_71 h (nI 1) else fn_L_areAlike_70 h  else fn_L_areAlike_70 h  else fn_L_areAlike_70 h  else fn_L_areAlike_70 h  else fn_L_areAlike_70 h  else fn_L_areAlike_70 h ) = fn_L_areAlike  h := rfl
  generalize fn_L_areAlike  h = RR at E ⊢
  have P104 : ∀ (k74 : Int32 → Int32 → (Option Value)) (K74 : Int32 → Int32 → Prop) (hk74 : ∀ (a2 : Int32) (a3 : Int32), K74 a2 a3 → k74 a2 a3 = RR → z_G p l e R s m args below meth c D dA ad 4 (z_QB h RR) (z_d) 74 [some (.ref 0), some (.ref 20), some (.int a2), some (.int a3)] [] h), ∀ (a3 : Int32) (s0 : Int32), tk_L_areAlike_104 h K74 a3 s0 → fn_L_areAlike_104 h k74 a3 s0 = RR → z_G p l e R s m args below meth c D dA ad 4 (z_QB h RR) (z_d) 104 [some (.ref 0), some (.ref 20), none, some (.int a3)] [.int s0] h := by
    intro k74 K74 hk74 a3 s0 T E
    unfold tk_L_areAlike_104 at T; unfold fn_L_areAlike_104 at E
    refine z_go hC (pc' := 108) (ls' := [some (.ref 0), some (.ref 20), some (.int s0), some (.int (a3 + (nI 1)))]) (st' := []) (h' := h) (cs := []) [.istore_n 2, .iinc 3 1] (by decide +kernel) rfl rfl trivial ?_
    refine z_goto hC (off := -34) 74 (by decide +kernel) (by decide) ?_
    exact hk74 s0 (a3 + (nI 1)) T E
  have P158 : ∀ (k113 : Int32 → Int32 → (Option Value)) (K113 : Int32 → Int32 → Prop) (hk113 : ∀ (a2 : Int32) (a3 : Int32), K113 a2 a3 → k113 a2 a3 = RR → z_G p l e R s m args below meth c D dA ad 4 (z_QB h RR) (z_d) 113 [some (.ref 0), some (.ref 20), some (.int a2), some (.int a3)] [] h), ∀ (a3 : Int32) (s0 : Int32), tk_L_areAlike_158 h K113 a3 s0 → fn_L_areAlike_158 h k113 a3 s0 = RR → z_G p l e R s m args below meth c D dA ad 4 (z_QB h RR) (z_d) 158 [some (.ref 0), some (.ref 20), none, some (.int a3)] [.int s0] h := by
    intro k113 K113 hk113 a3 s0 T E
    unfold tk_L_areAlike_158 at T; unfold fn_L_areAlike_158 at E
    refine z_go hC (pc' := 162) (ls' := [some (.ref 0), some (.ref 20), some (.int s0), some (.int (a3 + (nI 1)))]) (st' := []) (h' := h) (cs := []) [.istore_n 2, .iinc 3 1] (by decide +kernel) rfl rfl trivial ?_
    refine z_goto hC (off := -49) 113 (by decide +kernel) (by decide) ?_
    exact hk113 s0 (a3 + (nI 1)) T E
  have P157 : ∀ (k113 : Int32 → Int32 → (Option Value)) (K113 : Int32 → Int32 → Prop) (hk113 : ∀ (a2 : Int32) (a3 : Int32), K113 a2 a3 → k113 a2 a3 = RR → z_G p l e R s m args below meth c D dA ad 4 (z_QB h RR) (z_d) 113 [some (.ref 0), some (.ref 20), some (.int a2), some (.int a3)] [] h), ∀ (a3 : Int32), tk_L_areAlike_157 h K113 a3 → fn_L_areAlike_157 h k113 a3 = RR → z_G p l e R s m args below meth c D dA ad 4 (z_QB h RR) (z_d) 157 [some (.ref 0), some (.ref 20), none, some (.int a3)] [] h := by
    intro k113 K113 hk113 a3 T E
    unfold tk_L_areAlike_157 at T; unfold fn_L_areAlike_157 at E
    refine z_go hC (pc' := 158) (ls' := [some (.ref 0), some (.ref 20), none, some (.int a3)]) (st' := [.int (nI 0)]) (h' := h) (cs := []) [.iconst 0] (by decide +kernel) rfl rfl trivial ?_
    exact P158 _ _ hk113 a3 (nI 0) T E
  have P113 : ∀ (n : Nat), ∀ (a2 : Int32) (a3 : Int32), tk_L_areAlike_113 h  n a2 a3 → fn_L_areAlike_113 h  n a2 a3 = RR → z_G p l e R s m args below meth c D dA ad 4 (z_QB h RR) (z_d) 113 [some (.ref 0), some (.ref 20), some (.int a2), some (.int a3)] [] h := by
    intro  n
    induction n with
    | zero => intro a2 a3 T E; exact False.elim T
    | succ n ih =>
      intro a2 a3 T E
      unfold tk_L_areAlike_113 at T; unfold fn_L_areAlike_113 at E; dsimp only at T E
      have hk113 := ih
      refine z_go hC (pc' := 116) (ls' := [some (.ref 0), some (.ref 20), some (.int a2), some (.int a3)]) (st' := [.int (nI 12), .int a3]) (h' := h) (cs := []) [.iload_n 3, .bipush 12] (by decide +kernel) rfl rfl trivial ?_
      refine z_icmp_ge hC (off := 49) 165 (by decide +kernel) (by decide) (fun c1 => ?_) (fun c1 => ?_)
      · skip
        have E := (if_pos c1).symm.trans E
        have T := T.1 c1
        refine z_go hC (pc' := 166) (ls' := [some (.ref 0), some (.ref 20), some (.int a2), some (.int a3)]) (st' := [.int a2]) (h' := h) (cs := []) [.iload_n 2] (by decide +kernel) rfl rfl trivial ?_
        have t2 := T
        exact z_ret_z hB rfl t2 (by decide +kernel) (z_lfb0 t2 E)
      · skip
        have E := (if_neg c1).symm.trans E
        have T := T.2 c1
        refine z_go hC (pc' := 120) (ls' := [some (.ref 0), some (.ref 20), some (.int a2), some (.int a3)]) (st' := [.int a2]) (h' := h) (cs := []) [.iload_n 2] (by decide +kernel) rfl rfl trivial ?_
        refine z_if_eq hC (off := 45) 165 (by decide +kernel) (by decide) (fun c3 => ?_) (fun c3 => ?_)
        · skip
          have E := (if_pos c3).symm.trans E
          have T := T.1 c3
          refine z_go hC (pc' := 166) (ls' := [some (.ref 0), some (.ref 20), some (.int a2), some (.int a3)]) (st' := [.int a2]) (h' := h) (cs := []) [.iload_n 2] (by decide +kernel) rfl rfl trivial ?_
          have t4 := T
          exact z_ret_z hB rfl t4 (by decide +kernel) (z_lfb0 t4 E)
        · skip
          have E := (if_neg c3).symm.trans E
          have T := T.2 c3
          refine z_go hC (pc' := 125) (ls' := [some (.ref 0), some (.ref 20), some (.int a2), some (.int a3)]) (st' := [.int a3, .ref 0]) (h' := h) (cs := []) [.aload_n 0, .iload_n 3] (by decide +kernel) rfl rfl trivial ?_
          obtain ⟨t8, T⟩ := T
          refine z_callV hC hN hR (as := [.int a3]) (rest := []) ok_L_91 (by decide +kernel) (sp_X7_isInTree_n l _ h a3 t8) rfl rfl (Nat.le_of_ble_eq_true rfl) rfl rfl (Nat.le_of_ble_eq_true rfl) ⟨Nat.zero_le _, Nat.zero_le _⟩ (fun r5 h6 q7 => z_funb q7 (fun z9 => ?_))
          refine z_go hC (pc' := 130) (ls' := [some (.ref 0), some (.ref 20), some (.int a2), some (.int a3)]) (st' := [.int a3, .ref 20, .int (z_vi0 (fn_X7_isInTree_n a3 h))]) (h' := h) (cs := []) [.aload_n 1, .iload_n 3] (by decide +kernel) rfl rfl trivial ?_
          obtain ⟨t13, T⟩ := T
          refine z_callVp hC hN hR (as := [.int a3]) (rest := [.int (z_vi0 (fn_X7_isInTree_n a3 h))]) ok_L_91 (by decide +kernel) (sp_X7_isInTree_n l _ (z_sw h) a3 t13) rfl rfl (Nat.le_of_ble_eq_true rfl) rfl rfl rfl (Nat.le_of_ble_eq_true rfl) ⟨Nat.zero_le _, Nat.zero_le _⟩ (fun r10 h11 q12 => z_funbp q12 (fun z14 => ?_))
          refine z_icmp_ne hC (off := 24) 157 (by decide +kernel) (by decide) (fun c15 => ?_) (fun c15 => ?_)
          · skip
            have E := (if_neg c15).symm.trans E
            have T := T.2 c15
            refine z_less (ls' := [some (.ref 0), some (.ref 20), none, some (.int a3)]) (by simp [z_sub]) ?_
            exact P157 _ _ hk113 a3 T E
          · skip
            have E := (if_pos c15).symm.trans E
            have T := T.1 c15
            refine z_go hC (pc' := 140) (ls' := [some (.ref 0), some (.ref 20), some (.int a2), some (.int a3)]) (st' := [.int ((nI 3) * a3), .ref 0]) (h' := h) (cs := []) [.aload_n 0, .iconst 3, .iload_n 3, .imul] (by decide +kernel) rfl rfl trivial ?_
            obtain ⟨t19, T⟩ := T
            refine z_callV hC hN hR (as := [.int ((nI 3) * a3)]) (rest := []) ok_L_95 (by decide +kernel) (sp_X7_isWall_n l _ h ((nI 3) * a3) t19) rfl rfl (Nat.le_of_ble_eq_true rfl) rfl rfl (Nat.le_of_ble_eq_true rfl) ⟨Nat.zero_le _, Nat.zero_le _⟩ (fun r16 h17 q18 => z_funb q18 (fun z20 => ?_))
            refine z_go hC (pc' := 147) (ls' := [some (.ref 0), some (.ref 20), some (.int a2), some (.int a3)]) (st' := [.int ((nI 3) * a3), .ref 20, .int (z_vi0 (fn_X7_isWall_n ((nI 3) * a3) h))]) (h' := h) (cs := []) [.aload_n 1, .iconst 3, .iload_n 3, .imul] (by decide +kernel) rfl rfl trivial ?_
            obtain ⟨t24, T⟩ := T
            refine z_callVp hC hN hR (as := [.int ((nI 3) * a3)]) (rest := [.int (z_vi0 (fn_X7_isWall_n ((nI 3) * a3) h))]) ok_L_95 (by decide +kernel) (sp_X7_isWall_n l _ (z_sw h) ((nI 3) * a3) t24) rfl rfl (Nat.le_of_ble_eq_true rfl) rfl rfl rfl (Nat.le_of_ble_eq_true rfl) ⟨Nat.zero_le _, Nat.zero_le _⟩ (fun r21 h22 q23 => z_funbp q23 (fun z25 => ?_))
            refine z_icmp_ne hC (off := 7) 157 (by decide +kernel) (by decide) (fun c26 => ?_) (fun c26 => ?_)
            · skip
              have E := (if_neg c26).symm.trans E
              have T := T.2 c26
              refine z_less (ls' := [some (.ref 0), some (.ref 20), none, some (.int a3)]) (by simp [z_sub]) ?_
              exact P157 _ _ hk113 a3 T E
            · skip
              have E := (if_pos c26).symm.trans E
              have T := T.1 c26
              refine z_go hC (pc' := 154) (ls' := [some (.ref 0), some (.ref 20), some (.int a2), some (.int a3)]) (st' := [.int (nI 1)]) (h' := h) (cs := []) [.iconst 1] (by decide +kernel) rfl rfl trivial ?_
              refine z_goto hC (off := 4) 158 (by decide +kernel) (by decide) ?_
              refine z_less (ls' := [some (.ref 0), some (.ref 20), none, some (.int a3)]) (by simp [z_sub]) ?_
              exact P158 _ _ hk113 a3 (nI 1) T E
  have P111 : ∀ (a2 : Int32), tk_L_areAlike_111 h  a2 → fn_L_areAlike_111 h  a2 = RR → z_G p l e R s m args below meth c D dA ad 4 (z_QB h RR) (z_d) 111 [some (.ref 0), some (.ref 20), some (.int a2), none] [] h := by
    intro  a2 T E
    unfold tk_L_areAlike_111 at T; unfold fn_L_areAlike_111 at E
    refine z_go hC (pc' := 113) (ls' := [some (.ref 0), some (.ref 20), some (.int a2), some (.int (nI 0))]) (st' := []) (h' := h) (cs := []) [.iconst 0, .istore_n 3] (by decide +kernel) rfl rfl trivial ?_
    exact P113 2000 a2 (nI 0) T E
  have P74 : ∀ (n : Nat), ∀ (a2 : Int32) (a3 : Int32), tk_L_areAlike_74 h  n a2 a3 → fn_L_areAlike_74 h  n a2 a3 = RR → z_G p l e R s m args below meth c D dA ad 4 (z_QB h RR) (z_d) 74 [some (.ref 0), some (.ref 20), some (.int a2), some (.int a3)] [] h := by
    intro  n
    induction n with
    | zero => intro a2 a3 T E; exact False.elim T
    | succ n ih =>
      intro a2 a3 T E
      unfold tk_L_areAlike_74 at T; unfold fn_L_areAlike_74 at E; dsimp only at T E
      have hk74 := ih
      refine z_go hC (pc' := 76) (ls' := [some (.ref 0), some (.ref 20), some (.int a2), some (.int a3)]) (st' := [.ref 0, .int a3]) (h' := h) (cs := []) [.iload_n 3, .aload_n 0] (by decide +kernel) rfl rfl trivial ?_
      refine z_callV hC hN hR (as := []) (rest := [.int a3]) ok_L_69 (by decide +kernel) (sp_X7_length l _ h  trivial) rfl rfl (Nat.le_of_ble_eq_true rfl) rfl rfl (Nat.le_of_ble_eq_true rfl) ⟨Nat.zero_le _, Nat.zero_le _⟩ (fun r27 h28 q29 => z_fun q29 ?_)
      refine z_icmp_ge hC (off := 32) 111 (by decide +kernel) (by decide) (fun c30 => ?_) (fun c30 => ?_)
      · skip
        have E := (if_pos c30).symm.trans E
        have T := T.1 c30
        refine z_less (ls' := [some (.ref 0), some (.ref 20), some (.int a2), none]) (by simp [z_sub]) ?_
        exact P111  a2 T E
      · skip
        have E := (if_neg c30).symm.trans E
        have T := T.2 c30
        refine z_go hC (pc' := 83) (ls' := [some (.ref 0), some (.ref 20), some (.int a2), some (.int a3)]) (st' := [.int a2]) (h' := h) (cs := []) [.iload_n 2] (by decide +kernel) rfl rfl trivial ?_
        refine z_if_eq hC (off := 28) 111 (by decide +kernel) (by decide) (fun c31 => ?_) (fun c31 => ?_)
        · skip
          have E := (if_pos c31).symm.trans E
          have T := T.1 c31
          refine z_less (ls' := [some (.ref 0), some (.ref 20), some (.int a2), none]) (by simp [z_sub]) ?_
          exact P111  a2 T E
        · skip
          have E := (if_neg c31).symm.trans E
          have T := T.2 c31
          refine z_go hC (pc' := 88) (ls' := [some (.ref 0), some (.ref 20), some (.int a2), some (.int a3)]) (st' := [.int a3, .ref 0]) (h' := h) (cs := []) [.aload_n 0, .iload_n 3] (by decide +kernel) rfl rfl trivial ?_
          obtain ⟨t35, T⟩ := T
          refine z_callV hC hN hR (as := [.int a3]) (rest := []) ok_L_88 (by decide +kernel) (sp_X7_bodyAt_n l _ h a3 t35) rfl rfl (Nat.le_of_ble_eq_true rfl) rfl rfl (Nat.le_of_ble_eq_true rfl) ⟨Nat.zero_le _, Nat.zero_le _⟩ (fun r32 h33 q34 => z_fun q34 ?_)
          refine z_go hC (pc' := 93) (ls' := [some (.ref 0), some (.ref 20), some (.int a2), some (.int a3)]) (st' := [.int a3, .ref 20, .int (z_vi0 (fn_X7_bodyAt_n a3 h))]) (h' := h) (cs := []) [.aload_n 1, .iload_n 3] (by decide +kernel) rfl rfl trivial ?_
          obtain ⟨t39, T⟩ := T
          refine z_callVp hC hN hR (as := [.int a3]) (rest := [.int (z_vi0 (fn_X7_bodyAt_n a3 h))]) ok_L_88 (by decide +kernel) (sp_X7_bodyAt_n l _ (z_sw h) a3 t39) rfl rfl (Nat.le_of_ble_eq_true rfl) rfl rfl rfl (Nat.le_of_ble_eq_true rfl) ⟨Nat.zero_le _, Nat.zero_le _⟩ (fun r36 h37 q38 => z_funp q38 ?_)
          refine z_icmp_ne hC (off := 7) 103 (by decide +kernel) (by decide) (fun c40 => ?_) (fun c40 => ?_)
          · skip
            have E := (if_neg c40).symm.trans E
            have T := T.2 c40
            refine z_go hC (pc' := 104) (ls' := [some (.ref 0), some (.ref 20), some (.int a2), some (.int a3)]) (st' := [.int (nI 0)]) (h' := h) (cs := []) [.iconst 0] (by decide +kernel) rfl rfl trivial ?_
            refine z_less (ls' := [some (.ref 0), some (.ref 20), none, some (.int a3)]) (by simp [z_sub]) ?_
            exact P104 _ _ hk74 a3 (nI 0) T E
          · skip
            have E := (if_pos c40).symm.trans E
            have T := T.1 c40
            refine z_go hC (pc' := 100) (ls' := [some (.ref 0), some (.ref 20), some (.int a2), some (.int a3)]) (st' := [.int (nI 1)]) (h' := h) (cs := []) [.iconst 1] (by decide +kernel) rfl rfl trivial ?_
            refine z_goto hC (off := 4) 104 (by decide +kernel) (by decide) ?_
            refine z_less (ls' := [some (.ref 0), some (.ref 20), none, some (.int a3)]) (by simp [z_sub]) ?_
            exact P104 _ _ hk74 a3 (nI 1) T E
  have P71 : ∀ (s0 : Int32), tk_L_areAlike_71 h  s0 → fn_L_areAlike_71 h  s0 = RR → z_G p l e R s m args below meth c D dA ad 4 (z_QB h RR) (z_d) 71 [some (.ref 0), some (.ref 20), none, none] [.int s0] h := by
    intro  s0 T E
    unfold tk_L_areAlike_71 at T; unfold fn_L_areAlike_71 at E
    refine z_go hC (pc' := 74) (ls' := [some (.ref 0), some (.ref 20), some (.int s0), some (.int (nI 0))]) (st' := []) (h' := h) (cs := []) [.istore_n 2, .iconst 0, .istore_n 3] (by decide +kernel) rfl rfl trivial ?_
    exact P74 2000 s0 (nI 0) T E
  have P70 : tk_L_areAlike_70 h   → fn_L_areAlike_70 h   = RR → z_G p l e R s m args below meth c D dA ad 4 (z_QB h RR) (z_d) 70 [some (.ref 0), some (.ref 20), none, none] [] h := by
    intro   T E
    unfold tk_L_areAlike_70 at T; unfold fn_L_areAlike_70 at E
    refine z_go hC (pc' := 71) (ls' := [some (.ref 0), some (.ref 20), none, none]) (st' := [.int (nI 0)]) (h' := h) (cs := []) [.iconst 0] (by decide +kernel) rfl rfl trivial ?_
    exact P71  (nI 0) T E
  refine z_go hC (pc' := 1) (ls' := [some (.ref 0), some (.ref 20), none, none]) (st' := [.ref 0]) (h' := h) (cs := []) [.aload_n 0] (by decide +kernel) rfl rfl trivial ?_
  refine z_callV hC hN hR (as := []) (rest := []) ok_L_60 (by decide +kernel) (sp_X7_isAlive l _ h  trivial) rfl rfl (Nat.le_of_ble_eq_true rfl) rfl rfl (Nat.le_of_ble_eq_true rfl) ⟨Nat.zero_le _, Nat.zero_le _⟩ (fun r41 h42 q43 => z_funb q43 (fun z44 => ?_))
  refine z_go hC (pc' := 5) (ls' := [some (.ref 0), some (.ref 20), none, none]) (st' := [.ref 20, .int (z_vi0 (fn_X7_isAlive  h))]) (h' := h) (cs := []) [.aload_n 1] (by decide +kernel) rfl rfl trivial ?_
  refine z_callVp hC hN hR (as := []) (rest := [.int (z_vi0 (fn_X7_isAlive  h))]) ok_L_60 (by decide +kernel) (sp_X7_isAlive l _ (z_sw h)  trivial) rfl rfl (Nat.le_of_ble_eq_true rfl) rfl rfl rfl (Nat.le_of_ble_eq_true rfl) ⟨Nat.zero_le _, Nat.zero_le _⟩ (fun r45 h46 q47 => z_funbp q47 (fun z48 => ?_))
  refine z_icmp_ne hC (off := 62) 70 (by decide +kernel) (by decide) (fun c49 => ?_) (fun c49 => ?_)
  · skip
    have E := (if_neg c49).symm.trans E
    have T := T.2 c49
    exact P70   T E
  · skip
    have E := (if_pos c49).symm.trans E
    have T := T.1 c49
    refine z_go hC (pc' := 12) (ls' := [some (.ref 0), some (.ref 20), none, none]) (st' := [.ref 0]) (h' := h) (cs := []) [.aload_n 0] (by decide +kernel) rfl rfl trivial ?_
    refine z_callV hC hN hR (as := []) (rest := []) ok_L_69 (by decide +kernel) (sp_X7_length l _ h  trivial) rfl rfl (Nat.le_of_ble_eq_true rfl) rfl rfl (Nat.le_of_ble_eq_true rfl) ⟨Nat.zero_le _, Nat.zero_le _⟩ (fun r50 h51 q52 => z_fun q52 ?_)
    refine z_go hC (pc' := 16) (ls' := [some (.ref 0), some (.ref 20), none, none]) (st' := [.ref 20, .int (z_vi0 (fn_X7_length  h))]) (h' := h) (cs := []) [.aload_n 1] (by decide +kernel) rfl rfl trivial ?_
    refine z_callVp hC hN hR (as := []) (rest := [.int (z_vi0 (fn_X7_length  h))]) ok_L_69 (by decide +kernel) (sp_X7_length l _ (z_sw h)  trivial) rfl rfl (Nat.le_of_ble_eq_true rfl) rfl rfl rfl (Nat.le_of_ble_eq_true rfl) ⟨Nat.zero_le _, Nat.zero_le _⟩ (fun r53 h54 q55 => z_funp q55 ?_)
    refine z_icmp_ne hC (off := 51) 70 (by decide +kernel) (by decide) (fun c56 => ?_) (fun c56 => ?_)
    · skip
      have E := (if_neg c56).symm.trans E
      have T := T.2 c56
      exact P70   T E
    · skip
      have E := (if_pos c56).symm.trans E
      have T := T.1 c56
      refine z_go hC (pc' := 23) (ls' := [some (.ref 0), some (.ref 20), none, none]) (st' := [.ref 0]) (h' := h) (cs := []) [.aload_n 0] (by decide +kernel) rfl rfl trivial ?_
      refine z_callV hC hN hR (as := []) (rest := []) ok_L_76 (by decide +kernel) (sp_X7_owed l _ h  trivial) rfl rfl (Nat.le_of_ble_eq_true rfl) rfl rfl (Nat.le_of_ble_eq_true rfl) ⟨Nat.zero_le _, Nat.zero_le _⟩ (fun r57 h58 q59 => z_fun q59 ?_)
      refine z_go hC (pc' := 27) (ls' := [some (.ref 0), some (.ref 20), none, none]) (st' := [.ref 20, .int (z_vi0 (fn_X7_owed  h))]) (h' := h) (cs := []) [.aload_n 1] (by decide +kernel) rfl rfl trivial ?_
      refine z_callVp hC hN hR (as := []) (rest := [.int (z_vi0 (fn_X7_owed  h))]) ok_L_76 (by decide +kernel) (sp_X7_owed l _ (z_sw h)  trivial) rfl rfl (Nat.le_of_ble_eq_true rfl) rfl rfl rfl (Nat.le_of_ble_eq_true rfl) ⟨Nat.zero_le _, Nat.zero_le _⟩ (fun r60 h61 q62 => z_funp q62 ?_)
      refine z_icmp_ne hC (off := 40) 70 (by decide +kernel) (by decide) (fun c63 => ?_) (fun c63 => ?_)
      · skip
        have E := (if_neg c63).symm.trans E
        have T := T.2 c63
        exact P70   T E
      · skip
        have E := (if_pos c63).symm.trans E
        have T := T.1 c63
        refine z_go hC (pc' := 34) (ls' := [some (.ref 0), some (.ref 20), none, none]) (st' := [.ref 0]) (h' := h) (cs := []) [.aload_n 0] (by decide +kernel) rfl rfl trivial ?_
        refine z_callV hC hN hR (as := []) (rest := []) ok_L_79 (by decide +kernel) (sp_X7_feeds l _ h  trivial) rfl rfl (Nat.le_of_ble_eq_true rfl) rfl rfl (Nat.le_of_ble_eq_true rfl) ⟨Nat.zero_le _, Nat.zero_le _⟩ (fun r64 h65 q66 => z_fun q66 ?_)
        refine z_go hC (pc' := 38) (ls' := [some (.ref 0), some (.ref 20), none, none]) (st' := [.ref 20, .int (z_vi0 (fn_X7_feeds  h))]) (h' := h) (cs := []) [.aload_n 1] (by decide +kernel) rfl rfl trivial ?_
        refine z_callVp hC hN hR (as := []) (rest := [.int (z_vi0 (fn_X7_feeds  h))]) ok_L_79 (by decide +kernel) (sp_X7_feeds l _ (z_sw h)  trivial) rfl rfl (Nat.le_of_ble_eq_true rfl) rfl rfl rfl (Nat.le_of_ble_eq_true rfl) ⟨Nat.zero_le _, Nat.zero_le _⟩ (fun r67 h68 q69 => z_funp q69 ?_)
        refine z_icmp_ne hC (off := 29) 70 (by decide +kernel) (by decide) (fun c70 => ?_) (fun c70 => ?_)
        · skip
          have E := (if_neg c70).symm.trans E
          have T := T.2 c70
          exact P70   T E
        · skip
          have E := (if_pos c70).symm.trans E
          have T := T.1 c70
          refine z_go hC (pc' := 45) (ls' := [some (.ref 0), some (.ref 20), none, none]) (st' := [.ref 0]) (h' := h) (cs := []) [.aload_n 0] (by decide +kernel) rfl rfl trivial ?_
          refine z_callV hC hN hR (as := []) (rest := []) ok_L_82 (by decide +kernel) (sp_X7_hasCycle l _ h  trivial) rfl rfl (Nat.le_of_ble_eq_true rfl) rfl rfl (Nat.le_of_ble_eq_true rfl) ⟨Nat.zero_le _, Nat.zero_le _⟩ (fun r71 h72 q73 => z_funb q73 (fun z74 => ?_))
          refine z_go hC (pc' := 49) (ls' := [some (.ref 0), some (.ref 20), none, none]) (st' := [.ref 20, .int (z_vi0 (fn_X7_hasCycle  h))]) (h' := h) (cs := []) [.aload_n 1] (by decide +kernel) rfl rfl trivial ?_
          refine z_callVp hC hN hR (as := []) (rest := [.int (z_vi0 (fn_X7_hasCycle  h))]) ok_L_82 (by decide +kernel) (sp_X7_hasCycle l _ (z_sw h)  trivial) rfl rfl (Nat.le_of_ble_eq_true rfl) rfl rfl rfl (Nat.le_of_ble_eq_true rfl) ⟨Nat.zero_le _, Nat.zero_le _⟩ (fun r75 h76 q77 => z_funbp q77 (fun z78 => ?_))
          refine z_icmp_ne hC (off := 18) 70 (by decide +kernel) (by decide) (fun c79 => ?_) (fun c79 => ?_)
          · skip
            have E := (if_neg c79).symm.trans E
            have T := T.2 c79
            exact P70   T E
          · skip
            have E := (if_pos c79).symm.trans E
            have T := T.1 c79
            refine z_go hC (pc' := 56) (ls' := [some (.ref 0), some (.ref 20), none, none]) (st' := [.ref 0]) (h' := h) (cs := []) [.aload_n 0] (by decide +kernel) rfl rfl trivial ?_
            obtain ⟨t83, T⟩ := T
            refine z_callV hC hN hR (as := []) (rest := []) ok_L_85 (by decide +kernel) (sp_X7_isInOrder l _ h  t83) rfl rfl (Nat.le_of_ble_eq_true rfl) rfl rfl (Nat.le_of_ble_eq_true rfl) ⟨Nat.zero_le _, Nat.zero_le _⟩ (fun r80 h81 q82 => z_funb q82 (fun z84 => ?_))
            refine z_go hC (pc' := 60) (ls' := [some (.ref 0), some (.ref 20), none, none]) (st' := [.ref 20, .int (z_vi0 (fn_X7_isInOrder  h))]) (h' := h) (cs := []) [.aload_n 1] (by decide +kernel) rfl rfl trivial ?_
            obtain ⟨t88, T⟩ := T
            refine z_callVp hC hN hR (as := []) (rest := [.int (z_vi0 (fn_X7_isInOrder  h))]) ok_L_85 (by decide +kernel) (sp_X7_isInOrder l _ (z_sw h)  t88) rfl rfl (Nat.le_of_ble_eq_true rfl) rfl rfl rfl (Nat.le_of_ble_eq_true rfl) ⟨Nat.zero_le _, Nat.zero_le _⟩ (fun r85 h86 q87 => z_funbp q87 (fun z89 => ?_))
            refine z_icmp_ne hC (off := 7) 70 (by decide +kernel) (by decide) (fun c90 => ?_) (fun c90 => ?_)
            · skip
              have E := (if_neg c90).symm.trans E
              have T := T.2 c90
              exact P70   T E
            · skip
              have E := (if_pos c90).symm.trans E
              have T := T.1 c90
              refine z_go hC (pc' := 67) (ls' := [some (.ref 0), some (.ref 20), none, none]) (st' := [.int (nI 1)]) (h' := h) (cs := []) [.iconst 1] (by decide +kernel) rfl rfl trivial ?_
              refine z_goto hC (off := 4) 71 (by decide +kernel) (by decide) ?_
              exact P71  (nI 1) T E

def fn_L_isCycleSo_26 (k6 : Int32 → Int32 → Int32 → z_H → z_R) (a2 : Int32) (a3 : Int32) (s0 : Int32) (s1 : Int32) (hh : z_H) : z_R := k6 (s1 + s0) a2 (a3 + (nI 1)) hh
def tk_L_isCycleSo_26 (K6 : Int32 → Int32 → Int32 → z_H → Prop) (a2 : Int32) (a3 : Int32) (s0 : Int32) (s1 : Int32) (hh : z_H) : Prop := K6 (s1 + s0) a2 (a3 + (nI 1)) hh
def fn_L_isCycleSo_56 (k36 : Int32 → Int32 → Int32 → z_H → z_R) (a1 : Int32) (a3 : Int32) (s0 : Int32) (s1 : Int32) (hh : z_H) : z_R := k36 a1 (s1 + s0) (a3 + (nI 1)) hh
def tk_L_isCycleSo_56 (K36 : Int32 → Int32 → Int32 → z_H → Prop) (a1 : Int32) (a3 : Int32) (s0 : Int32) (s1 : Int32) (hh : z_H) : Prop := K36 a1 (s1 + s0) (a3 + (nI 1)) hh
def fn_L_isCycleSo_122  : Nat → Int32 → Int32 → Int32 → Int32 → z_H → z_R
  | 0, _, _, _, _, hh => (none, hh)
  | n + 1, a1, a2, a3, a4, hh => let k122 := fun (a1_ : Int32) (a2_ : Int32) (a3_ : Int32) (a4_ : Int32) (hh_ : z_H) => fn_L_isCycleSo_122  n a1_ a2_ a3_ a4_ hh_; if a1 ≤ a4 then if a2 = ((a1 / (nI 4)) - (nI 1)) then if (z_vi (fn_L_placeOf (nI 36) hh)) = (z_bi (-3)) then (some (.int (nI 1)), (fn_L_placeOf (nI 36) hh).2) else (some (.int (nI 0)), (fn_L_placeOf (nI 36) hh).2) else (some (.int (nI 0)), hh) else if (z_vi0 (fn_X7_cellAt_n a4 hh)) = (z_vi (fn_X7_cellAtByRings_n a4 hh)) then if (z_vi0 (fn_X7_isWall_n (z_vi0 (fn_X7_cellAt_n a4 hh)) ((fn_X7_cellAtByRings_n a4 hh).2))) = 0 then if (z_vi (fn_L_placeOf_n (z_vi0 (fn_X7_cellAt_n a4 hh)) ((fn_X7_cellAtByRings_n a4 hh).2))) = a4 then if (z_vi0 (fn_L_areBeside (z_vi0 (fn_X7_cellAt_n a4 hh)) a3 ((fn_L_placeOf_n (z_vi0 (fn_X7_cellAt_n a4 hh)) ((fn_X7_cellAtByRings_n a4 hh).2)).2))) = 0 then (some (.int (nI 0)), (fn_L_placeOf_n (z_vi0 (fn_X7_cellAt_n a4 hh)) ((fn_X7_cellAtByRings_n a4 hh).2)).2) else k122 a1 a2 (z_vi0 (fn_X7_cellAt_n a4 hh)) (a4 + (nI 1)) ((fn_L_placeOf_n (z_vi0 (fn_X7_cellAt_n a4 hh)) ((fn_X7_cellAtByRings_n a4 hh).2)).2) else (some (.int (nI 0)), (fn_L_placeOf_n (z_vi0 (fn_X7_cellAt_n a4 hh)) ((fn_X7_cellAtByRings_n a4 hh).2)).2) else (some (.int (nI 0)), (fn_X7_cellAtByRings_n a4 hh).2) else (some (.int (nI 0)), (fn_X7_cellAtByRings_n a4 hh).2)
def tk_L_isCycleSo_122  : Nat → Int32 → Int32 → Int32 → Int32 → z_H → Prop
  | 0, _, _, _, _, _ => False
  | n + 1, a1, a2, a3, a4, hh => let K122 := fun (a1_ : Int32) (a2_ : Int32) (a3_ : Int32) (a4_ : Int32) (hh_ : z_H) => tk_L_isCycleSo_122  n a1_ a2_ a3_ a4_ hh_; ((a1 ≤ a4) → (True)) ∧ ((¬ a1 ≤ a4) → (tk_X7_cellAt_n a4 hh ∧ (tk_X7_cellAtByRings_n a4 hh ∧ ((((z_vi0 (fn_X7_cellAt_n a4 hh)) = (z_vi (fn_X7_cellAtByRings_n a4 hh))) → (tk_X7_isWall_n (z_vi0 (fn_X7_cellAt_n a4 hh)) ((fn_X7_cellAtByRings_n a4 hh).2) ∧ ((((z_vi0 (fn_X7_isWall_n (z_vi0 (fn_X7_cellAt_n a4 hh)) ((fn_X7_cellAtByRings_n a4 hh).2))) = 0) → (tk_L_placeOf_n (z_vi0 (fn_X7_cellAt_n a4 hh)) ((fn_X7_cellAtByRings_n a4 hh).2) ∧ ((((z_vi (fn_L_placeOf_n (z_vi0 (fn_X7_cellAt_n a4 hh)) ((fn_X7_cellAtByRings_n a4 hh).2))) = a4) → ((((z_vi0 (fn_L_areBeside (z_vi0 (fn_X7_cellAt_n a4 hh)) a3 ((fn_L_placeOf_n (z_vi0 (fn_X7_cellAt_n a4 hh)) ((fn_X7_cellAtByRings_n a4 hh).2)).2))) = 0) → (True)) ∧ ((¬ (z_vi0 (fn_L_areBeside (z_vi0 (fn_X7_cellAt_n a4 hh)) a3 ((fn_L_placeOf_n (z_vi0 (fn_X7_cellAt_n a4 hh)) ((fn_X7_cellAtByRings_n a4 hh).2)).2))) = 0) → (K122 a1 a2 (z_vi0 (fn_X7_cellAt_n a4 hh)) (a4 + (nI 1)) ((fn_L_placeOf_n (z_vi0 (fn_X7_cellAt_n a4 hh)) ((fn_X7_cellAtByRings_n a4 hh).2)).2))))) ∧ ((¬ (z_vi (fn_L_placeOf_n (z_vi0 (fn_X7_cellAt_n a4 hh)) ((fn_X7_cellAtByRings_n a4 hh).2))) = a4) → (True))))) ∧ ((¬ (z_vi0 (fn_X7_isWall_n (z_vi0 (fn_X7_cellAt_n a4 hh)) ((fn_X7_cellAtByRings_n a4 hh).2))) = 0) → (True))))) ∧ ((¬ (z_vi0 (fn_X7_cellAt_n a4 hh)) = (z_vi (fn_X7_cellAtByRings_n a4 hh))) → (True))))))
def fn_L_isCycleSo_36  : Nat → Int32 → Int32 → Int32 → z_H → z_R
  | 0, _, _, _, hh => (none, hh)
  | n + 1, a1, a2, a3, hh => let k36 := fun (a1_ : Int32) (a2_ : Int32) (a3_ : Int32) (hh_ : z_H) => fn_L_isCycleSo_36  n a1_ a2_ a3_ hh_; if (nI 12) ≤ a3 then if (z_vi0 (fn_X7_hasCycle  hh)) = 0 then if (z_vi (fn_L_placeOf (nI 0) hh)) = (z_bi (-2)) then if (z_vi (fn_L_placeOf (nI 36) ((fn_L_placeOf (nI 0) hh).2))) = (z_bi (-3)) then if a1 = 0 then (some (.int (nI 1)), (fn_L_placeOf (nI 36) ((fn_L_placeOf (nI 0) hh).2)).2) else if ((a1 / (nI 4)) - (nI 1)) ≤ a2 then (some (.int (nI 0)), (fn_L_placeOf (nI 36) ((fn_L_placeOf (nI 0) hh).2)).2) else (some (.int (nI 1)), (fn_L_placeOf (nI 36) ((fn_L_placeOf (nI 0) hh).2)).2) else (some (.int (nI 0)), (fn_L_placeOf (nI 36) ((fn_L_placeOf (nI 0) hh).2)).2) else (some (.int (nI 0)), (fn_L_placeOf (nI 0) hh).2) else fn_L_isCycleSo_122 2000 a1 a2 (z_vi0 (fn_X7_cellAt_n (a1 - (nI 1)) hh)) (nI 0) hh else if (z_vi0 (fn_X7_isInTree_n a3 hh)) = 0 then fn_L_isCycleSo_56 k36 a1 a3 (nI 0) a2 hh else fn_L_isCycleSo_56 k36 a1 a3 (nI 1) a2 hh
def tk_L_isCycleSo_36  : Nat → Int32 → Int32 → Int32 → z_H → Prop
  | 0, _, _, _, _ => False
  | n + 1, a1, a2, a3, hh => let K36 := fun (a1_ : Int32) (a2_ : Int32) (a3_ : Int32) (hh_ : z_H) => tk_L_isCycleSo_36  n a1_ a2_ a3_ hh_; (((nI 12) ≤ a3) → ((((z_vi0 (fn_X7_hasCycle  hh)) = 0) → (True)) ∧ ((¬ (z_vi0 (fn_X7_hasCycle  hh)) = 0) → (tk_X7_cellAt_n (a1 - (nI 1)) hh ∧ (tk_L_isCycleSo_122 2000 a1 a2 (z_vi0 (fn_X7_cellAt_n (a1 - (nI 1)) hh)) (nI 0) hh))))) ∧ ((¬ (nI 12) ≤ a3) → (tk_X7_isInTree_n a3 hh ∧ ((((z_vi0 (fn_X7_isInTree_n a3 hh)) = 0) → (tk_L_isCycleSo_56 K36 a1 a3 (nI 0) a2 hh)) ∧ ((¬ (z_vi0 (fn_X7_isInTree_n a3 hh)) = 0) → (tk_L_isCycleSo_56 K36 a1 a3 (nI 1) a2 hh)))))
def fn_L_isCycleSo_6  : Nat → Int32 → Int32 → Int32 → z_H → z_R
  | 0, _, _, _, hh => (none, hh)
  | n + 1, a1, a2, a3, hh => let k6 := fun (a1_ : Int32) (a2_ : Int32) (a3_ : Int32) (hh_ : z_H) => fn_L_isCycleSo_6  n a1_ a2_ a3_ hh_; if (nI 36) ≤ a3 then fn_L_isCycleSo_36 2000 a1 a2 (nI 0) hh else if (z_vi0 (fn_X7_isWall_n a3 hh)) = 0 then fn_L_isCycleSo_26 k6 a2 a3 (nI 1) a1 hh else fn_L_isCycleSo_26 k6 a2 a3 (nI 0) a1 hh
def tk_L_isCycleSo_6  : Nat → Int32 → Int32 → Int32 → z_H → Prop
  | 0, _, _, _, _ => False
  | n + 1, a1, a2, a3, hh => let K6 := fun (a1_ : Int32) (a2_ : Int32) (a3_ : Int32) (hh_ : z_H) => tk_L_isCycleSo_6  n a1_ a2_ a3_ hh_; (((nI 36) ≤ a3) → (tk_L_isCycleSo_36 2000 a1 a2 (nI 0) hh)) ∧ ((¬ (nI 36) ≤ a3) → (tk_X7_isWall_n a3 hh ∧ ((((z_vi0 (fn_X7_isWall_n a3 hh)) = 0) → (tk_L_isCycleSo_26 K6 a2 a3 (nI 1) a1 hh)) ∧ ((¬ (z_vi0 (fn_X7_isWall_n a3 hh)) = 0) → (tk_L_isCycleSo_26 K6 a2 a3 (nI 0) a1 hh)))))
def fn_L_isCycleSo  (h : z_H) : z_R := fn_L_isCycleSo_6 2000 (nI 0) (nI 0) (nI 0) h
def tk_L_isCycleSo  (h : z_H) : Prop := tk_L_isCycleSo_6 2000 (nI 0) (nI 0) (nI 0) h
set_option maxHeartbeats 40000000 in
set_option maxRecDepth 100000 in
theorem sp_L_isCycleSo (l : Launch) (hl0 : l.stackTraces = false) (ext : z_Sh) (h : z_H)  (T : tk_L_isCycleSo  h) : z_Spx l 9 yL_isCycleSo (.code yL_isCycleSo cL_isCycleSo 6 (some .boolean)) 4 24 [.ref 0] (z_c ext) h (z_PB (fn_L_isCycleSo  h)) (fun _ => False) := by
  refine z_enterx ft_L (by decide +kernel) fo_L (Nat.le_of_ble_eq_true rfl) ?_
  intro p e R s m args below meth c D dA ad hB
  have hC := hB.1.1
  have hN := hB.1.2.1
  have hR := hB.1.2.2.1
  have hZ := hB.2.1
  have hKin := hB.2.2.1
  unfold tk_L_isCycleSo at T
  have E : (fn_L_isCycleSo_6 2000 (nI 0) (nI 0) (nI 0) h) = (fn_L_isCycleSo  h) := rfl
  generalize (fn_L_isCycleSo  h) = RR at E ⊢
  have P26 : ∀ (k6 : Int32 → Int32 → Int32 → z_H → z_R) (K6 : Int32 → Int32 → Int32 → z_H → Prop) (hk6 : ∀ (a1 : Int32) (a2 : Int32) (a3 : Int32) (hh : z_H), K6 a1 a2 a3 hh → k6 a1 a2 a3 hh = RR → z_GX p l e R s m args below meth c D dA ad 6 (z_PB RR) (fun _ => False) h 4 24 (z_c ext) 0 0 6 [some (.ref 0), some (.int a1), some (.int a2), some (.int a3), none, none] [] hh), ∀ (a2 : Int32) (a3 : Int32) (s0 : Int32) (s1 : Int32) (hh : z_H), tk_L_isCycleSo_26 K6 a2 a3 s0 s1 hh → fn_L_isCycleSo_26 k6 a2 a3 s0 s1 hh = RR → z_GX p l e R s m args below meth c D dA ad 6 (z_PB RR) (fun _ => False) h 4 24 (z_c ext) 0 0 26 [some (.ref 0), none, some (.int a2), some (.int a3), none, none] [.int s0, .int s1] hh := by
    intro k6 K6 hk6 a2 a3 s0 s1 hh T E
    unfold tk_L_isCycleSo_26 at T; unfold fn_L_isCycleSo_26 at E
    refine z_go hC (pc' := 31) (ls' := [some (.ref 0), some (.int (s1 + s0)), some (.int a2), some (.int (a3 + (nI 1))), none, none]) (st' := []) (h' := hh) (cs := []) [.iadd, .istore_n 1, .iinc 3 1] (by decide +kernel) rfl rfl trivial ?_
    refine z_goto hC (off := -25) 6 (by decide +kernel) (by decide) ?_
    exact hk6 (s1 + s0) a2 (a3 + (nI 1)) hh T E
  have P56 : ∀ (k36 : Int32 → Int32 → Int32 → z_H → z_R) (K36 : Int32 → Int32 → Int32 → z_H → Prop) (hk36 : ∀ (a1 : Int32) (a2 : Int32) (a3 : Int32) (hh : z_H), K36 a1 a2 a3 hh → k36 a1 a2 a3 hh = RR → z_GX p l e R s m args below meth c D dA ad 6 (z_PB RR) (fun _ => False) h 4 24 (z_c ext) 0 0 36 [some (.ref 0), some (.int a1), some (.int a2), some (.int a3), none, none] [] hh), ∀ (a1 : Int32) (a3 : Int32) (s0 : Int32) (s1 : Int32) (hh : z_H), tk_L_isCycleSo_56 K36 a1 a3 s0 s1 hh → fn_L_isCycleSo_56 k36 a1 a3 s0 s1 hh = RR → z_GX p l e R s m args below meth c D dA ad 6 (z_PB RR) (fun _ => False) h 4 24 (z_c ext) 0 0 56 [some (.ref 0), some (.int a1), none, some (.int a3), none, none] [.int s0, .int s1] hh := by
    intro k36 K36 hk36 a1 a3 s0 s1 hh T E
    unfold tk_L_isCycleSo_56 at T; unfold fn_L_isCycleSo_56 at E
    refine z_go hC (pc' := 61) (ls' := [some (.ref 0), some (.int a1), some (.int (s1 + s0)), some (.int (a3 + (nI 1))), none, none]) (st' := []) (h' := hh) (cs := []) [.iadd, .istore_n 2, .iinc 3 1] (by decide +kernel) rfl rfl trivial ?_
    refine z_goto hC (off := -25) 36 (by decide +kernel) (by decide) ?_
    exact hk36 a1 (s1 + s0) (a3 + (nI 1)) hh T E
  have P122 : ∀ (n : Nat), ∀ (a1 : Int32) (a2 : Int32) (a3 : Int32) (a4 : Int32) (hh : z_H), tk_L_isCycleSo_122  n a1 a2 a3 a4 hh → fn_L_isCycleSo_122  n a1 a2 a3 a4 hh = RR → z_GX p l e R s m args below meth c D dA ad 6 (z_PB RR) (fun _ => False) h 4 24 (z_c ext) 0 0 122 [some (.ref 0), some (.int a1), some (.int a2), some (.int a3), some (.int a4), none] [] hh := by
    intro  n
    induction n with
    | zero => intro a1 a2 a3 a4 hh T E; exact False.elim T
    | succ n ih =>
      intro a1 a2 a3 a4 hh T E
      unfold tk_L_isCycleSo_122 at T; unfold fn_L_isCycleSo_122 at E; dsimp only at T E
      have hk122 := ih
      refine z_go hC (pc' := 125) (ls' := [some (.ref 0), some (.int a1), some (.int a2), some (.int a3), some (.int a4), none]) (st' := [.int a1, .int a4]) (h' := hh) (cs := []) [.iload 4, .iload_n 1] (by decide +kernel) rfl rfl trivial ?_
      refine z_icmp_ge hC (off := 62) 187 (by decide +kernel) (by decide) (fun c1 => ?_) (fun c1 => ?_)
      · skip
        have E := (if_pos c1).symm.trans E
        have T := T.1 c1
        refine z_go hC (pc' := 193) (ls' := [some (.ref 0), some (.int a1), some (.int a2), some (.int a3), some (.int a4), none]) (st' := [.int ((a1 / (nI 4)) - (nI 1)), .int a2]) (h' := hh) (cs := [¬ (nI 4) = 0]) [.iload_n 2, .iload_n 1, .iconst 4, .idiv, .iconst 1, .isub] (by decide +kernel) rfl rfl (show ¬ (nI 4) = 0 by decide) ?_
        refine z_icmp_ne hC (off := 18) 211 (by decide +kernel) (by decide) (fun c2 => ?_) (fun c2 => ?_)
        · skip
          have E := (if_neg c2).symm.trans E
          refine z_go hC (pc' := 212) (ls' := [some (.ref 0), some (.int a1), some (.int a2), some (.int a3), some (.int a4), none]) (st' := [.int (nI 0)]) (h' := hh) (cs := []) [.iconst 0] (by decide +kernel) rfl rfl trivial ?_
          exact z_retx_z hB rfl (show (nI 0 = 0 ∨ nI 0 = 1) by decide) ⟨Nat.le_of_ble_eq_true rfl, Nat.le_of_ble_eq_true rfl⟩ (by decide +kernel) (z_lfb (show (nI 0 = 0 ∨ nI 0 = 1) by decide) E)
        · skip
          have E := (if_pos c2).symm.trans E
          refine z_go hC (pc' := 199) (ls' := [some (.ref 0), some (.int a1), some (.int a2), some (.int a3), some (.int a4), none]) (st' := [.int (nI 36), .ref 0]) (h' := hh) (cs := []) [.aload_n 0, .bipush 36] (by decide +kernel) rfl rfl trivial ?_
          refine z_callSh hC hN hR hZ hKin (as := [.ref 0, .int (nI 36)]) (rest := []) ok_L_98 (by decide +kernel) (sp_L_placeOf l hl0 _ hh (nI 36)) (Nat.le_of_ble_eq_true rfl) rfl rfl (Nat.le_of_ble_eq_true rfl) ⟨Nat.le_trans (Nat.le_of_ble_eq_true rfl) hB.2.2.2.2.1, Nat.le_trans (Nat.le_of_ble_eq_true rfl) hB.2.2.2.2.2⟩ (fun Ex qx => False.elim qx) (fun rv hw q3 => z_fun q3 ?_)
          refine z_go hC (pc' := 204) (ls' := [some (.ref 0), some (.int a1), some (.int a2), some (.int a3), some (.int a4), none]) (st' := [.int (z_bi (-3)), .int (z_vi (fn_L_placeOf (nI 36) hh))]) (h' := (fn_L_placeOf (nI 36) hh).2) (cs := [(Int8.ofInt (-3)).toInt32 = z_bi (-3)]) [.bipush (-3)] (by decide +kernel) rfl rfl (show (Int8.ofInt (-3)).toInt32 = z_bi (-3) by decide) ?_
          refine z_icmp_ne hC (off := 7) 211 (by decide +kernel) (by decide) (fun c4 => ?_) (fun c4 => ?_)
          · skip
            have E := (if_neg c4).symm.trans E
            refine z_go hC (pc' := 212) (ls' := [some (.ref 0), some (.int a1), some (.int a2), some (.int a3), some (.int a4), none]) (st' := [.int (nI 0)]) (h' := (fn_L_placeOf (nI 36) hh).2) (cs := []) [.iconst 0] (by decide +kernel) rfl rfl trivial ?_
            exact z_retx_z hB rfl (show (nI 0 = 0 ∨ nI 0 = 1) by decide) ⟨Nat.le_of_ble_eq_true rfl, Nat.le_of_ble_eq_true rfl⟩ (by decide +kernel) (z_lfb (show (nI 0 = 0 ∨ nI 0 = 1) by decide) E)
          · skip
            have E := (if_pos c4).symm.trans E
            refine z_go hC (pc' := 208) (ls' := [some (.ref 0), some (.int a1), some (.int a2), some (.int a3), some (.int a4), none]) (st' := [.int (nI 1)]) (h' := (fn_L_placeOf (nI 36) hh).2) (cs := []) [.iconst 1] (by decide +kernel) rfl rfl trivial ?_
            refine z_goto hC (off := 4) 212 (by decide +kernel) (by decide) ?_
            exact z_retx_z hB rfl (show (nI 1 = 0 ∨ nI 1 = 1) by decide) ⟨Nat.le_of_ble_eq_true rfl, Nat.le_of_ble_eq_true rfl⟩ (by decide +kernel) (z_lfb (show (nI 1 = 0 ∨ nI 1 = 1) by decide) E)
      · skip
        have E := (if_neg c1).symm.trans E
        have T := T.2 c1
        refine z_go hC (pc' := 131) (ls' := [some (.ref 0), some (.int a1), some (.int a2), some (.int a3), some (.int a4), none]) (st' := [.int a4, .ref 0]) (h' := hh) (cs := []) [.aload_n 0, .iload 4] (by decide +kernel) rfl rfl trivial ?_
        obtain ⟨t8, T⟩ := T
        refine z_callV hC hN hR (as := [.int a4]) (rest := []) ok_L_100 (by decide +kernel) (sp_X7_cellAt_n l _ hh a4 t8) rfl rfl (Nat.le_of_ble_eq_true rfl) rfl rfl (Nat.le_of_ble_eq_true rfl) ⟨Nat.le_trans (Nat.le_of_ble_eq_true rfl) hB.2.2.2.2.1, Nat.le_trans (Nat.le_of_ble_eq_true rfl) hB.2.2.2.2.2⟩ (fun r5 h6 q7 => z_fun q7 ?_)
        refine z_go hC (pc' := 141) (ls' := [some (.ref 0), some (.int a1), some (.int a2), some (.int a3), some (.int a4), some (.int (z_vi0 (fn_X7_cellAt_n a4 hh)))]) (st' := [.int a4, .ref 0, .int (z_vi0 (fn_X7_cellAt_n a4 hh))]) (h' := hh) (cs := []) [.istore 5, .iload 5, .aload_n 0, .iload 4] (by decide +kernel) rfl rfl trivial ?_
        obtain ⟨t12, T⟩ := T
        refine z_callV hC hN hR (as := [.int a4]) (rest := [.int (z_vi0 (fn_X7_cellAt_n a4 hh))]) ok_L_103 (by decide +kernel) (sp_X7_cellAtByRings_n l _ hh a4 t12) rfl rfl (Nat.le_of_ble_eq_true rfl) rfl rfl (Nat.le_of_ble_eq_true rfl) ⟨Nat.le_trans (Nat.le_of_ble_eq_true rfl) hB.2.2.2.2.1, Nat.le_trans (Nat.le_of_ble_eq_true rfl) hB.2.2.2.2.2⟩ (fun r9 h10 q11 => z_fun q11 ?_)
        refine z_icmp_ne hC (off := 32) 176 (by decide +kernel) (by decide) (fun c13 => ?_) (fun c13 => ?_)
        · skip
          have E := (if_neg c13).symm.trans E
          have T := T.2 c13
          refine z_go hC (pc' := 177) (ls' := [some (.ref 0), some (.int a1), some (.int a2), some (.int a3), some (.int a4), some (.int (z_vi0 (fn_X7_cellAt_n a4 hh)))]) (st' := [.int (nI 0)]) (h' := (fn_X7_cellAtByRings_n a4 hh).2) (cs := []) [.iconst 0] (by decide +kernel) rfl rfl trivial ?_
          exact z_retx_z hB rfl (show (nI 0 = 0 ∨ nI 0 = 1) by decide) ⟨Nat.le_of_ble_eq_true rfl, Nat.le_of_ble_eq_true rfl⟩ (by decide +kernel) (z_lfb (show (nI 0 = 0 ∨ nI 0 = 1) by decide) E)
        · skip
          have E := (if_pos c13).symm.trans E
          have T := T.1 c13
          refine z_go hC (pc' := 150) (ls' := [some (.ref 0), some (.int a1), some (.int a2), some (.int a3), some (.int a4), some (.int (z_vi0 (fn_X7_cellAt_n a4 hh)))]) (st' := [.int (z_vi0 (fn_X7_cellAt_n a4 hh)), .ref 0]) (h' := (fn_X7_cellAtByRings_n a4 hh).2) (cs := []) [.aload_n 0, .iload 5] (by decide +kernel) rfl rfl trivial ?_
          obtain ⟨t17, T⟩ := T
          refine z_callV hC hN hR (as := [.int (z_vi0 (fn_X7_cellAt_n a4 hh))]) (rest := []) ok_L_95 (by decide +kernel) (sp_X7_isWall_n l _ ((fn_X7_cellAtByRings_n a4 hh).2) (z_vi0 (fn_X7_cellAt_n a4 hh)) t17) rfl rfl (Nat.le_of_ble_eq_true rfl) rfl rfl (Nat.le_of_ble_eq_true rfl) ⟨Nat.le_trans (Nat.le_of_ble_eq_true rfl) hB.2.2.2.2.1, Nat.le_trans (Nat.le_of_ble_eq_true rfl) hB.2.2.2.2.2⟩ (fun r14 h15 q16 => z_funb q16 (fun z18 => ?_))
          refine z_if_ne hC (off := 23) 176 (by decide +kernel) (by decide) (fun c19 => ?_) (fun c19 => ?_)
          · skip
            have E := (if_neg c19).symm.trans E
            have T := T.2 c19
            refine z_go hC (pc' := 177) (ls' := [some (.ref 0), some (.int a1), some (.int a2), some (.int a3), some (.int a4), some (.int (z_vi0 (fn_X7_cellAt_n a4 hh)))]) (st' := [.int (nI 0)]) (h' := (fn_X7_cellAtByRings_n a4 hh).2) (cs := []) [.iconst 0] (by decide +kernel) rfl rfl trivial ?_
            exact z_retx_z hB rfl (show (nI 0 = 0 ∨ nI 0 = 1) by decide) ⟨Nat.le_of_ble_eq_true rfl, Nat.le_of_ble_eq_true rfl⟩ (by decide +kernel) (z_lfb (show (nI 0 = 0 ∨ nI 0 = 1) by decide) E)
          · skip
            have E := (if_pos c19).symm.trans E
            have T := T.1 c19
            refine z_go hC (pc' := 159) (ls' := [some (.ref 0), some (.int a1), some (.int a2), some (.int a3), some (.int a4), some (.int (z_vi0 (fn_X7_cellAt_n a4 hh)))]) (st' := [.int (z_vi0 (fn_X7_cellAt_n a4 hh)), .ref 0]) (h' := (fn_X7_cellAtByRings_n a4 hh).2) (cs := []) [.aload_n 0, .iload 5] (by decide +kernel) rfl rfl trivial ?_
            obtain ⟨t20, T⟩ := T
            refine z_callSh hC hN hR hZ hKin (as := [.ref 0, .int (z_vi0 (fn_X7_cellAt_n a4 hh))]) (rest := []) ok_L_98 (by decide +kernel) (sp_L_placeOf_n l hl0 _ ((fn_X7_cellAtByRings_n a4 hh).2) (z_vi0 (fn_X7_cellAt_n a4 hh)) t20) (Nat.le_of_ble_eq_true rfl) rfl rfl (Nat.le_of_ble_eq_true rfl) ⟨Nat.le_trans (Nat.le_of_ble_eq_true rfl) hB.2.2.2.2.1, Nat.le_trans (Nat.le_of_ble_eq_true rfl) hB.2.2.2.2.2⟩ (fun Ex qx => False.elim qx) (fun rv hw q21 => z_fun q21 ?_)
            refine z_go hC (pc' := 164) (ls' := [some (.ref 0), some (.int a1), some (.int a2), some (.int a3), some (.int a4), some (.int (z_vi0 (fn_X7_cellAt_n a4 hh)))]) (st' := [.int a4, .int (z_vi (fn_L_placeOf_n (z_vi0 (fn_X7_cellAt_n a4 hh)) ((fn_X7_cellAtByRings_n a4 hh).2)))]) (h' := (fn_L_placeOf_n (z_vi0 (fn_X7_cellAt_n a4 hh)) ((fn_X7_cellAtByRings_n a4 hh).2)).2) (cs := []) [.iload 4] (by decide +kernel) rfl rfl trivial ?_
            refine z_icmp_ne hC (off := 12) 176 (by decide +kernel) (by decide) (fun c22 => ?_) (fun c22 => ?_)
            · skip
              have E := (if_neg c22).symm.trans E
              have T := T.2 c22
              refine z_go hC (pc' := 177) (ls' := [some (.ref 0), some (.int a1), some (.int a2), some (.int a3), some (.int a4), some (.int (z_vi0 (fn_X7_cellAt_n a4 hh)))]) (st' := [.int (nI 0)]) (h' := (fn_L_placeOf_n (z_vi0 (fn_X7_cellAt_n a4 hh)) ((fn_X7_cellAtByRings_n a4 hh).2)).2) (cs := []) [.iconst 0] (by decide +kernel) rfl rfl trivial ?_
              exact z_retx_z hB rfl (show (nI 0 = 0 ∨ nI 0 = 1) by decide) ⟨Nat.le_of_ble_eq_true rfl, Nat.le_of_ble_eq_true rfl⟩ (by decide +kernel) (z_lfb (show (nI 0 = 0 ∨ nI 0 = 1) by decide) E)
            · skip
              have E := (if_pos c22).symm.trans E
              have T := T.1 c22
              refine z_go hC (pc' := 170) (ls' := [some (.ref 0), some (.int a1), some (.int a2), some (.int a3), some (.int a4), some (.int (z_vi0 (fn_X7_cellAt_n a4 hh)))]) (st' := [.int a3, .int (z_vi0 (fn_X7_cellAt_n a4 hh))]) (h' := (fn_L_placeOf_n (z_vi0 (fn_X7_cellAt_n a4 hh)) ((fn_X7_cellAtByRings_n a4 hh).2)).2) (cs := []) [.iload 5, .iload_n 3] (by decide +kernel) rfl rfl trivial ?_
              refine z_callS hC hN hR (as := [.int (z_vi0 (fn_X7_cellAt_n a4 hh)), .int a3]) (rest := []) ok_L_106 (by decide +kernel) (sp_L_areBeside l _ ((fn_L_placeOf_n (z_vi0 (fn_X7_cellAt_n a4 hh)) ((fn_X7_cellAtByRings_n a4 hh).2)).2) (z_vi0 (fn_X7_cellAt_n a4 hh)) a3 trivial) (Nat.le_of_ble_eq_true rfl) rfl rfl (Nat.le_of_ble_eq_true rfl) ⟨Nat.le_trans (Nat.le_of_ble_eq_true rfl) hB.2.2.2.2.1, Nat.le_trans (Nat.le_of_ble_eq_true rfl) hB.2.2.2.2.2⟩ (fun r23 h24 q25 => z_funb q25 (fun z26 => ?_))
              refine z_if_ne hC (off := 5) 178 (by decide +kernel) (by decide) (fun c27 => ?_) (fun c27 => ?_)
              · skip
                have E := (if_neg c27).symm.trans E
                have T := T.2 c27
                refine z_go hC (pc' := 184) (ls' := [some (.ref 0), some (.int a1), some (.int a2), some (.int (z_vi0 (fn_X7_cellAt_n a4 hh))), some (.int (a4 + (nI 1))), some (.int (z_vi0 (fn_X7_cellAt_n a4 hh)))]) (st' := []) (h' := (fn_L_placeOf_n (z_vi0 (fn_X7_cellAt_n a4 hh)) ((fn_X7_cellAtByRings_n a4 hh).2)).2) (cs := []) [.iload 5, .istore_n 3, .iinc 4 1] (by decide +kernel) rfl rfl trivial ?_
                refine z_goto hC (off := -62) 122 (by decide +kernel) (by decide) ?_
                refine z_less (ls' := [some (.ref 0), some (.int a1), some (.int a2), some (.int (z_vi0 (fn_X7_cellAt_n a4 hh))), some (.int (a4 + (nI 1))), none]) (by simp [z_sub]) ?_
                exact hk122 a1 a2 (z_vi0 (fn_X7_cellAt_n a4 hh)) (a4 + (nI 1)) ((fn_L_placeOf_n (z_vi0 (fn_X7_cellAt_n a4 hh)) ((fn_X7_cellAtByRings_n a4 hh).2)).2) T E
              · skip
                have E := (if_pos c27).symm.trans E
                have T := T.1 c27
                refine z_go hC (pc' := 177) (ls' := [some (.ref 0), some (.int a1), some (.int a2), some (.int a3), some (.int a4), some (.int (z_vi0 (fn_X7_cellAt_n a4 hh)))]) (st' := [.int (nI 0)]) (h' := (fn_L_placeOf_n (z_vi0 (fn_X7_cellAt_n a4 hh)) ((fn_X7_cellAtByRings_n a4 hh).2)).2) (cs := []) [.iconst 0] (by decide +kernel) rfl rfl trivial ?_
                exact z_retx_z hB rfl (show (nI 0 = 0 ∨ nI 0 = 1) by decide) ⟨Nat.le_of_ble_eq_true rfl, Nat.le_of_ble_eq_true rfl⟩ (by decide +kernel) (z_lfb (show (nI 0 = 0 ∨ nI 0 = 1) by decide) E)
  have P36 : ∀ (n : Nat), ∀ (a1 : Int32) (a2 : Int32) (a3 : Int32) (hh : z_H), tk_L_isCycleSo_36  n a1 a2 a3 hh → fn_L_isCycleSo_36  n a1 a2 a3 hh = RR → z_GX p l e R s m args below meth c D dA ad 6 (z_PB RR) (fun _ => False) h 4 24 (z_c ext) 0 0 36 [some (.ref 0), some (.int a1), some (.int a2), some (.int a3), none, none] [] hh := by
    intro  n
    induction n with
    | zero => intro a1 a2 a3 hh T E; exact False.elim T
    | succ n ih =>
      intro a1 a2 a3 hh T E
      unfold tk_L_isCycleSo_36 at T; unfold fn_L_isCycleSo_36 at E; dsimp only at T E
      have hk36 := ih
      refine z_go hC (pc' := 39) (ls' := [some (.ref 0), some (.int a1), some (.int a2), some (.int a3), none, none]) (st' := [.int (nI 12), .int a3]) (h' := hh) (cs := []) [.iload_n 3, .bipush 12] (by decide +kernel) rfl rfl trivial ?_
      refine z_icmp_ge hC (off := 25) 64 (by decide +kernel) (by decide) (fun c28 => ?_) (fun c28 => ?_)
      · skip
        have E := (if_pos c28).symm.trans E
        have T := T.1 c28
        refine z_go hC (pc' := 65) (ls' := [some (.ref 0), some (.int a1), some (.int a2), some (.int a3), none, none]) (st' := [.ref 0]) (h' := hh) (cs := []) [.aload_n 0] (by decide +kernel) rfl rfl trivial ?_
        refine z_callV hC hN hR (as := []) (rest := []) ok_L_82 (by decide +kernel) (sp_X7_hasCycle l _ hh  trivial) rfl rfl (Nat.le_of_ble_eq_true rfl) rfl rfl (Nat.le_of_ble_eq_true rfl) ⟨Nat.le_trans (Nat.le_of_ble_eq_true rfl) hB.2.2.2.2.1, Nat.le_trans (Nat.le_of_ble_eq_true rfl) hB.2.2.2.2.2⟩ (fun r29 h30 q31 => z_funb q31 (fun z32 => ?_))
        refine z_if_ne hC (off := 43) 111 (by decide +kernel) (by decide) (fun c33 => ?_) (fun c33 => ?_)
        · skip
          have E := (if_neg c33).symm.trans E
          have T := T.2 c33
          refine z_go hC (pc' := 115) (ls' := [some (.ref 0), some (.int a1), some (.int a2), some (.int a3), none, none]) (st' := [.int (a1 - (nI 1)), .ref 0]) (h' := hh) (cs := []) [.aload_n 0, .iload_n 1, .iconst 1, .isub] (by decide +kernel) rfl rfl trivial ?_
          obtain ⟨t37, T⟩ := T
          refine z_callV hC hN hR (as := [.int (a1 - (nI 1))]) (rest := []) ok_L_100 (by decide +kernel) (sp_X7_cellAt_n l _ hh (a1 - (nI 1)) t37) rfl rfl (Nat.le_of_ble_eq_true rfl) rfl rfl (Nat.le_of_ble_eq_true rfl) ⟨Nat.le_trans (Nat.le_of_ble_eq_true rfl) hB.2.2.2.2.1, Nat.le_trans (Nat.le_of_ble_eq_true rfl) hB.2.2.2.2.2⟩ (fun r34 h35 q36 => z_fun q36 ?_)
          refine z_go hC (pc' := 122) (ls' := [some (.ref 0), some (.int a1), some (.int a2), some (.int (z_vi0 (fn_X7_cellAt_n (a1 - (nI 1)) hh))), some (.int (nI 0)), none]) (st' := []) (h' := hh) (cs := []) [.istore_n 3, .iconst 0, .istore 4] (by decide +kernel) rfl rfl trivial ?_
          exact P122 2000 a1 a2 (z_vi0 (fn_X7_cellAt_n (a1 - (nI 1)) hh)) (nI 0) hh T E
        · skip
          have E := (if_pos c33).symm.trans E
          have T := T.1 c33
          refine z_go hC (pc' := 73) (ls' := [some (.ref 0), some (.int a1), some (.int a2), some (.int a3), none, none]) (st' := [.int (nI 0), .ref 0]) (h' := hh) (cs := []) [.aload_n 0, .iconst 0] (by decide +kernel) rfl rfl trivial ?_
          refine z_callSh hC hN hR hZ hKin (as := [.ref 0, .int (nI 0)]) (rest := []) ok_L_98 (by decide +kernel) (sp_L_placeOf l hl0 _ hh (nI 0)) (Nat.le_of_ble_eq_true rfl) rfl rfl (Nat.le_of_ble_eq_true rfl) ⟨Nat.le_trans (Nat.le_of_ble_eq_true rfl) hB.2.2.2.2.1, Nat.le_trans (Nat.le_of_ble_eq_true rfl) hB.2.2.2.2.2⟩ (fun Ex qx => False.elim qx) (fun rv hw q38 => z_fun q38 ?_)
          refine z_go hC (pc' := 78) (ls' := [some (.ref 0), some (.int a1), some (.int a2), some (.int a3), none, none]) (st' := [.int (z_bi (-2)), .int (z_vi (fn_L_placeOf (nI 0) hh))]) (h' := (fn_L_placeOf (nI 0) hh).2) (cs := [(Int8.ofInt (-2)).toInt32 = z_bi (-2)]) [.bipush (-2)] (by decide +kernel) rfl rfl (show (Int8.ofInt (-2)).toInt32 = z_bi (-2) by decide) ?_
          refine z_icmp_ne hC (off := 31) 109 (by decide +kernel) (by decide) (fun c39 => ?_) (fun c39 => ?_)
          · skip
            have E := (if_neg c39).symm.trans E
            refine z_go hC (pc' := 110) (ls' := [some (.ref 0), some (.int a1), some (.int a2), some (.int a3), none, none]) (st' := [.int (nI 0)]) (h' := (fn_L_placeOf (nI 0) hh).2) (cs := []) [.iconst 0] (by decide +kernel) rfl rfl trivial ?_
            exact z_retx_z hB rfl (show (nI 0 = 0 ∨ nI 0 = 1) by decide) ⟨Nat.le_of_ble_eq_true rfl, Nat.le_of_ble_eq_true rfl⟩ (by decide +kernel) (z_lfb (show (nI 0 = 0 ∨ nI 0 = 1) by decide) E)
          · skip
            have E := (if_pos c39).symm.trans E
            refine z_go hC (pc' := 84) (ls' := [some (.ref 0), some (.int a1), some (.int a2), some (.int a3), none, none]) (st' := [.int (nI 36), .ref 0]) (h' := (fn_L_placeOf (nI 0) hh).2) (cs := []) [.aload_n 0, .bipush 36] (by decide +kernel) rfl rfl trivial ?_
            refine z_callSh hC hN hR hZ hKin (as := [.ref 0, .int (nI 36)]) (rest := []) ok_L_98 (by decide +kernel) (sp_L_placeOf l hl0 _ ((fn_L_placeOf (nI 0) hh).2) (nI 36)) (Nat.le_of_ble_eq_true rfl) rfl rfl (Nat.le_of_ble_eq_true rfl) ⟨Nat.le_trans (Nat.le_of_ble_eq_true rfl) hB.2.2.2.2.1, Nat.le_trans (Nat.le_of_ble_eq_true rfl) hB.2.2.2.2.2⟩ (fun Ex qx => False.elim qx) (fun rv hw q40 => z_fun q40 ?_)
            refine z_go hC (pc' := 89) (ls' := [some (.ref 0), some (.int a1), some (.int a2), some (.int a3), none, none]) (st' := [.int (z_bi (-3)), .int (z_vi (fn_L_placeOf (nI 36) ((fn_L_placeOf (nI 0) hh).2)))]) (h' := (fn_L_placeOf (nI 36) ((fn_L_placeOf (nI 0) hh).2)).2) (cs := [(Int8.ofInt (-3)).toInt32 = z_bi (-3)]) [.bipush (-3)] (by decide +kernel) rfl rfl (show (Int8.ofInt (-3)).toInt32 = z_bi (-3) by decide) ?_
            refine z_icmp_ne hC (off := 20) 109 (by decide +kernel) (by decide) (fun c41 => ?_) (fun c41 => ?_)
            · skip
              have E := (if_neg c41).symm.trans E
              refine z_go hC (pc' := 110) (ls' := [some (.ref 0), some (.int a1), some (.int a2), some (.int a3), none, none]) (st' := [.int (nI 0)]) (h' := (fn_L_placeOf (nI 36) ((fn_L_placeOf (nI 0) hh).2)).2) (cs := []) [.iconst 0] (by decide +kernel) rfl rfl trivial ?_
              exact z_retx_z hB rfl (show (nI 0 = 0 ∨ nI 0 = 1) by decide) ⟨Nat.le_of_ble_eq_true rfl, Nat.le_of_ble_eq_true rfl⟩ (by decide +kernel) (z_lfb (show (nI 0 = 0 ∨ nI 0 = 1) by decide) E)
            · skip
              have E := (if_pos c41).symm.trans E
              refine z_go hC (pc' := 93) (ls' := [some (.ref 0), some (.int a1), some (.int a2), some (.int a3), none, none]) (st' := [.int a1]) (h' := (fn_L_placeOf (nI 36) ((fn_L_placeOf (nI 0) hh).2)).2) (cs := []) [.iload_n 1] (by decide +kernel) rfl rfl trivial ?_
              refine z_if_eq hC (off := 12) 105 (by decide +kernel) (by decide) (fun c42 => ?_) (fun c42 => ?_)
              · skip
                have E := (if_pos c42).symm.trans E
                refine z_go hC (pc' := 106) (ls' := [some (.ref 0), some (.int a1), some (.int a2), some (.int a3), none, none]) (st' := [.int (nI 1)]) (h' := (fn_L_placeOf (nI 36) ((fn_L_placeOf (nI 0) hh).2)).2) (cs := []) [.iconst 1] (by decide +kernel) rfl rfl trivial ?_
                refine z_goto hC (off := 4) 110 (by decide +kernel) (by decide) ?_
                exact z_retx_z hB rfl (show (nI 1 = 0 ∨ nI 1 = 1) by decide) ⟨Nat.le_of_ble_eq_true rfl, Nat.le_of_ble_eq_true rfl⟩ (by decide +kernel) (z_lfb (show (nI 1 = 0 ∨ nI 1 = 1) by decide) E)
              · skip
                have E := (if_neg c42).symm.trans E
                refine z_go hC (pc' := 102) (ls' := [some (.ref 0), some (.int a1), some (.int a2), some (.int a3), none, none]) (st' := [.int ((a1 / (nI 4)) - (nI 1)), .int a2]) (h' := (fn_L_placeOf (nI 36) ((fn_L_placeOf (nI 0) hh).2)).2) (cs := [¬ (nI 4) = 0]) [.iload_n 2, .iload_n 1, .iconst 4, .idiv, .iconst 1, .isub] (by decide +kernel) rfl rfl (show ¬ (nI 4) = 0 by decide) ?_
                refine z_icmp_ge hC (off := 7) 109 (by decide +kernel) (by decide) (fun c43 => ?_) (fun c43 => ?_)
                · skip
                  have E := (if_pos c43).symm.trans E
                  refine z_go hC (pc' := 110) (ls' := [some (.ref 0), some (.int a1), some (.int a2), some (.int a3), none, none]) (st' := [.int (nI 0)]) (h' := (fn_L_placeOf (nI 36) ((fn_L_placeOf (nI 0) hh).2)).2) (cs := []) [.iconst 0] (by decide +kernel) rfl rfl trivial ?_
                  exact z_retx_z hB rfl (show (nI 0 = 0 ∨ nI 0 = 1) by decide) ⟨Nat.le_of_ble_eq_true rfl, Nat.le_of_ble_eq_true rfl⟩ (by decide +kernel) (z_lfb (show (nI 0 = 0 ∨ nI 0 = 1) by decide) E)
                · skip
                  have E := (if_neg c43).symm.trans E
                  refine z_go hC (pc' := 106) (ls' := [some (.ref 0), some (.int a1), some (.int a2), some (.int a3), none, none]) (st' := [.int (nI 1)]) (h' := (fn_L_placeOf (nI 36) ((fn_L_placeOf (nI 0) hh).2)).2) (cs := []) [.iconst 1] (by decide +kernel) rfl rfl trivial ?_
                  refine z_goto hC (off := 4) 110 (by decide +kernel) (by decide) ?_
                  exact z_retx_z hB rfl (show (nI 1 = 0 ∨ nI 1 = 1) by decide) ⟨Nat.le_of_ble_eq_true rfl, Nat.le_of_ble_eq_true rfl⟩ (by decide +kernel) (z_lfb (show (nI 1 = 0 ∨ nI 1 = 1) by decide) E)
      · skip
        have E := (if_neg c28).symm.trans E
        have T := T.2 c28
        refine z_go hC (pc' := 45) (ls' := [some (.ref 0), some (.int a1), some (.int a2), some (.int a3), none, none]) (st' := [.int a3, .ref 0, .int a2]) (h' := hh) (cs := []) [.iload_n 2, .aload_n 0, .iload_n 3] (by decide +kernel) rfl rfl trivial ?_
        obtain ⟨t47, T⟩ := T
        refine z_callV hC hN hR (as := [.int a3]) (rest := [.int a2]) ok_L_91 (by decide +kernel) (sp_X7_isInTree_n l _ hh a3 t47) rfl rfl (Nat.le_of_ble_eq_true rfl) rfl rfl (Nat.le_of_ble_eq_true rfl) ⟨Nat.le_trans (Nat.le_of_ble_eq_true rfl) hB.2.2.2.2.1, Nat.le_trans (Nat.le_of_ble_eq_true rfl) hB.2.2.2.2.2⟩ (fun r44 h45 q46 => z_funb q46 (fun z48 => ?_))
        refine z_if_eq hC (off := 7) 55 (by decide +kernel) (by decide) (fun c49 => ?_) (fun c49 => ?_)
        · skip
          have E := (if_pos c49).symm.trans E
          have T := T.1 c49
          refine z_go hC (pc' := 56) (ls' := [some (.ref 0), some (.int a1), some (.int a2), some (.int a3), none, none]) (st' := [.int (nI 0), .int a2]) (h' := hh) (cs := []) [.iconst 0] (by decide +kernel) rfl rfl trivial ?_
          refine z_less (ls' := [some (.ref 0), some (.int a1), none, some (.int a3), none, none]) (by simp [z_sub]) ?_
          exact P56 _ _ hk36 a1 a3 (nI 0) a2 hh T E
        · skip
          have E := (if_neg c49).symm.trans E
          have T := T.2 c49
          refine z_go hC (pc' := 52) (ls' := [some (.ref 0), some (.int a1), some (.int a2), some (.int a3), none, none]) (st' := [.int (nI 1), .int a2]) (h' := hh) (cs := []) [.iconst 1] (by decide +kernel) rfl rfl trivial ?_
          refine z_goto hC (off := 4) 56 (by decide +kernel) (by decide) ?_
          refine z_less (ls' := [some (.ref 0), some (.int a1), none, some (.int a3), none, none]) (by simp [z_sub]) ?_
          exact P56 _ _ hk36 a1 a3 (nI 1) a2 hh T E
  have P6 : ∀ (n : Nat), ∀ (a1 : Int32) (a2 : Int32) (a3 : Int32) (hh : z_H), tk_L_isCycleSo_6  n a1 a2 a3 hh → fn_L_isCycleSo_6  n a1 a2 a3 hh = RR → z_GX p l e R s m args below meth c D dA ad 6 (z_PB RR) (fun _ => False) h 4 24 (z_c ext) 0 0 6 [some (.ref 0), some (.int a1), some (.int a2), some (.int a3), none, none] [] hh := by
    intro  n
    induction n with
    | zero => intro a1 a2 a3 hh T E; exact False.elim T
    | succ n ih =>
      intro a1 a2 a3 hh T E
      unfold tk_L_isCycleSo_6 at T; unfold fn_L_isCycleSo_6 at E; dsimp only at T E
      have hk6 := ih
      refine z_go hC (pc' := 9) (ls' := [some (.ref 0), some (.int a1), some (.int a2), some (.int a3), none, none]) (st' := [.int (nI 36), .int a3]) (h' := hh) (cs := []) [.iload_n 3, .bipush 36] (by decide +kernel) rfl rfl trivial ?_
      refine z_icmp_ge hC (off := 25) 34 (by decide +kernel) (by decide) (fun c50 => ?_) (fun c50 => ?_)
      · skip
        have E := (if_pos c50).symm.trans E
        have T := T.1 c50
        refine z_go hC (pc' := 36) (ls' := [some (.ref 0), some (.int a1), some (.int a2), some (.int (nI 0)), none, none]) (st' := []) (h' := hh) (cs := []) [.iconst 0, .istore_n 3] (by decide +kernel) rfl rfl trivial ?_
        exact P36 2000 a1 a2 (nI 0) hh T E
      · skip
        have E := (if_neg c50).symm.trans E
        have T := T.2 c50
        refine z_go hC (pc' := 15) (ls' := [some (.ref 0), some (.int a1), some (.int a2), some (.int a3), none, none]) (st' := [.int a3, .ref 0, .int a1]) (h' := hh) (cs := []) [.iload_n 1, .aload_n 0, .iload_n 3] (by decide +kernel) rfl rfl trivial ?_
        obtain ⟨t54, T⟩ := T
        refine z_callV hC hN hR (as := [.int a3]) (rest := [.int a1]) ok_L_95 (by decide +kernel) (sp_X7_isWall_n l _ hh a3 t54) rfl rfl (Nat.le_of_ble_eq_true rfl) rfl rfl (Nat.le_of_ble_eq_true rfl) ⟨Nat.le_trans (Nat.le_of_ble_eq_true rfl) hB.2.2.2.2.1, Nat.le_trans (Nat.le_of_ble_eq_true rfl) hB.2.2.2.2.2⟩ (fun r51 h52 q53 => z_funb q53 (fun z55 => ?_))
        refine z_if_eq hC (off := 7) 25 (by decide +kernel) (by decide) (fun c56 => ?_) (fun c56 => ?_)
        · skip
          have E := (if_pos c56).symm.trans E
          have T := T.1 c56
          refine z_go hC (pc' := 26) (ls' := [some (.ref 0), some (.int a1), some (.int a2), some (.int a3), none, none]) (st' := [.int (nI 1), .int a1]) (h' := hh) (cs := []) [.iconst 1] (by decide +kernel) rfl rfl trivial ?_
          refine z_less (ls' := [some (.ref 0), none, some (.int a2), some (.int a3), none, none]) (by simp [z_sub]) ?_
          exact P26 _ _ hk6 a2 a3 (nI 1) a1 hh T E
        · skip
          have E := (if_neg c56).symm.trans E
          have T := T.2 c56
          refine z_go hC (pc' := 22) (ls' := [some (.ref 0), some (.int a1), some (.int a2), some (.int a3), none, none]) (st' := [.int (nI 0), .int a1]) (h' := hh) (cs := []) [.iconst 0] (by decide +kernel) rfl rfl trivial ?_
          refine z_goto hC (off := 4) 26 (by decide +kernel) (by decide) ?_
          refine z_less (ls' := [some (.ref 0), none, some (.int a2), some (.int a3), none, none]) (by simp [z_sub]) ?_
          exact P26 _ _ hk6 a2 a3 (nI 0) a1 hh T E
  refine z_go hC (pc' := 6) (ls' := [some (.ref 0), some (.int (nI 0)), some (.int (nI 0)), some (.int (nI 0)), none, none]) (st' := []) (h' := h) (cs := []) [.iconst 0, .istore_n 1, .iconst 0, .istore_n 2, .iconst 0, .istore_n 3] (by decide +kernel) rfl rfl trivial ?_
  exact P6 2000 (nI 0) (nI 0) (nI 0) h T E

def fn_L_isWormSo_65 (k5 : Int32 → Int64 → Int32 → z_H → z_R) (a1 : Int32) (a2 : Int64) (a4 : Int32) (a5 : Int32) (h : z_H) : z_R := k5 a1 (a2 ||| (1 <<< (a5.toInt64 &&& 63))) (a4 + (nI 1)) h
def tk_L_isWormSo_65 (K5 : Int32 → Int64 → Int32 → z_H → Prop) (a1 : Int32) (a2 : Int64) (a4 : Int32) (a5 : Int32) (h : z_H) : Prop := K5 a1 (a2 ||| (1 <<< (a5.toInt64 &&& 63))) (a4 + (nI 1)) h
def fn_L_isWormSo_106  (h : z_H) : z_R := if (z_vi0 (fn_X7_isInOrder  h)) = 0 then (some (.int (nI 1)), h) else if (z_vi0 (fn_X7_length  h)) ≤ 0 then (some (.int (nI 0)), h) else (some (.int (nI 1)), h)
def tk_L_isWormSo_106  (h : z_H) : Prop := tk_X7_isInOrder  h
def fn_L_isWormSo_311 (k267 : Int32 → Int32 → Int32 → z_H → z_R) (a4 : Int32) (a7 : Int32) (s0 : Int32) (h : z_H) : z_R := k267 a4 s0 (a7 + (nI 1)) h
def tk_L_isWormSo_311 (K267 : Int32 → Int32 → Int32 → z_H → Prop) (a4 : Int32) (a7 : Int32) (s0 : Int32) (h : z_H) : Prop := K267 a4 s0 (a7 + (nI 1)) h
def fn_L_isWormSo_306 (k267 : Int32 → Int32 → Int32 → z_H → z_R) (a4 : Int32) (a7 : Int32) (h : z_H) : z_R := fn_L_isWormSo_311 k267 a4 a7 (nI 1) h
def tk_L_isWormSo_306 (K267 : Int32 → Int32 → Int32 → z_H → Prop) (a4 : Int32) (a7 : Int32) (h : z_H) : Prop := tk_L_isWormSo_311 K267 a4 a7 (nI 1) h
def fn_L_isWormSo_310 (k267 : Int32 → Int32 → Int32 → z_H → z_R) (a4 : Int32) (a7 : Int32) (h : z_H) : z_R := fn_L_isWormSo_311 k267 a4 a7 (nI 0) h
def tk_L_isWormSo_310 (K267 : Int32 → Int32 → Int32 → z_H → Prop) (a4 : Int32) (a7 : Int32) (h : z_H) : Prop := tk_L_isWormSo_311 K267 a4 a7 (nI 0) h
def fn_L_isWormSo_267  : Nat → Int32 → Int32 → Int32 → z_H → z_R
  | 0, _, _, _, h => (none, h)
  | n + 1, a4, a6, a7, h => let k267 := fun (a4_ : Int32) (a6_ : Int32) (a7_ : Int32) (h_ : z_H) => fn_L_isWormSo_267  n a4_ a6_ a7_ h_; if (nI 4) ≤ a7 then (some (.int a6), h) else if a6 = 0 then fn_L_isWormSo_310 k267 a4 a7 h else if (z_vi (fn_X7_isSafe_n a7 h)) = 0 then fn_L_isWormSo_306 k267 a4 a7 ((fn_X7_isSafe_n a7 h).2) else if (z_vi0 (fn_X7_isInOrder  ((fn_X7_isSafe_n a7 h).2))) = 0 then fn_L_isWormSo_310 k267 a4 a7 ((fn_X7_isSafe_n a7 h).2) else if a4 ≤ 0 then fn_L_isWormSo_310 k267 a4 a7 ((fn_X7_isSafe_n a7 h).2) else if (z_vi0 (fn_X7_feeds  ((fn_X7_isSafe_n a7 h).2))) ≤ 0 then fn_L_isWormSo_310 k267 a4 a7 ((fn_X7_isSafe_n a7 h).2) else fn_L_isWormSo_306 k267 a4 a7 ((fn_X7_isSafe_n a7 h).2)
def tk_L_isWormSo_267  : Nat → Int32 → Int32 → Int32 → z_H → Prop
  | 0, _, _, _, _ => False
  | n + 1, a4, a6, a7, h => let K267 := fun (a4_ : Int32) (a6_ : Int32) (a7_ : Int32) (h_ : z_H) => tk_L_isWormSo_267  n a4_ a6_ a7_ h_; (((nI 4) ≤ a7) → ((a6 = 0 ∨ a6 = 1))) ∧ ((¬ (nI 4) ≤ a7) → (((a6 = 0) → (tk_L_isWormSo_310 K267 a4 a7 h)) ∧ ((¬ a6 = 0) → (tk_X7_isSafe_n a7 h ∧ ((((z_vi (fn_X7_isSafe_n a7 h)) = 0) → (tk_L_isWormSo_306 K267 a4 a7 ((fn_X7_isSafe_n a7 h).2))) ∧ ((¬ (z_vi (fn_X7_isSafe_n a7 h)) = 0) → (tk_X7_isInOrder  ((fn_X7_isSafe_n a7 h).2) ∧ ((((z_vi0 (fn_X7_isInOrder  ((fn_X7_isSafe_n a7 h).2))) = 0) → (tk_L_isWormSo_310 K267 a4 a7 ((fn_X7_isSafe_n a7 h).2))) ∧ ((¬ (z_vi0 (fn_X7_isInOrder  ((fn_X7_isSafe_n a7 h).2))) = 0) → (((a4 ≤ 0) → (tk_L_isWormSo_310 K267 a4 a7 ((fn_X7_isSafe_n a7 h).2))) ∧ ((¬ a4 ≤ 0) → ((((z_vi0 (fn_X7_feeds  ((fn_X7_isSafe_n a7 h).2))) ≤ 0) → (tk_L_isWormSo_310 K267 a4 a7 ((fn_X7_isSafe_n a7 h).2))) ∧ ((¬ (z_vi0 (fn_X7_feeds  ((fn_X7_isSafe_n a7 h).2))) ≤ 0) → (tk_L_isWormSo_306 K267 a4 a7 ((fn_X7_isSafe_n a7 h).2)))))))))))))))
def fn_L_isWormSo_262  (a4 : Int32) (s0 : Int32) (h : z_H) : z_R := fn_L_isWormSo_267 2000 a4 s0 (nI 0) h
def tk_L_isWormSo_262  (a4 : Int32) (s0 : Int32) (h : z_H) : Prop := tk_L_isWormSo_267 2000 a4 s0 (nI 0) h
def fn_L_isWormSo_257  (a4 : Int32) (h : z_H) : z_R := fn_L_isWormSo_262 a4 (nI 1) h
def tk_L_isWormSo_257  (a4 : Int32) (h : z_H) : Prop := tk_L_isWormSo_262 a4 (nI 1) h
def fn_L_isWormSo_261  (a4 : Int32) (h : z_H) : z_R := fn_L_isWormSo_262 a4 (nI 0) h
def tk_L_isWormSo_261  (a4 : Int32) (h : z_H) : Prop := tk_L_isWormSo_262 a4 (nI 0) h
def fn_L_isWormSo_204  (a4 : Int32) (a5 : Int32) (s0 : Int32) (h : z_H) : z_R := if s0 = 0 then fn_L_isWormSo_261 a4 h else if a5 = (z_vi (fn_X7_fewestByBodies_n  h)) then if a5 = (-1) then fn_L_isWormSo_257 a4 ((fn_X7_fewestByBodies_n  h).2) else if a5 < (nI 1) then fn_L_isWormSo_261 a4 ((fn_X7_fewestByBodies_n  h).2) else if (nI 6) < a5 then fn_L_isWormSo_261 a4 ((fn_X7_fewestByBodies_n  h).2) else if (z_vi0 (fn_X7_feeds  ((fn_X7_fewestByBodies_n  h).2))) ≤ 0 then fn_L_isWormSo_261 a4 ((fn_X7_fewestByBodies_n  h).2) else if (z_vi (fn_X7_livesFor_n a5 ((fn_X7_fewestByBodies_n  h).2))) = a5 then fn_L_isWormSo_257 a4 ((fn_X7_livesFor_n a5 ((fn_X7_fewestByBodies_n  h).2)).2) else fn_L_isWormSo_261 a4 ((fn_X7_livesFor_n a5 ((fn_X7_fewestByBodies_n  h).2)).2) else fn_L_isWormSo_261 a4 ((fn_X7_fewestByBodies_n  h).2)
def tk_L_isWormSo_204  (a4 : Int32) (a5 : Int32) (s0 : Int32) (h : z_H) : Prop := ((s0 = 0) → (tk_L_isWormSo_261 a4 h)) ∧ ((¬ s0 = 0) → (tk_X7_fewestByBodies_n  h ∧ (((a5 = (z_vi (fn_X7_fewestByBodies_n  h))) → (((a5 = (-1)) → (tk_L_isWormSo_257 a4 ((fn_X7_fewestByBodies_n  h).2))) ∧ ((¬ a5 = (-1)) → (((a5 < (nI 1)) → (tk_L_isWormSo_261 a4 ((fn_X7_fewestByBodies_n  h).2))) ∧ ((¬ a5 < (nI 1)) → ((((nI 6) < a5) → (tk_L_isWormSo_261 a4 ((fn_X7_fewestByBodies_n  h).2))) ∧ ((¬ (nI 6) < a5) → ((((z_vi0 (fn_X7_feeds  ((fn_X7_fewestByBodies_n  h).2))) ≤ 0) → (tk_L_isWormSo_261 a4 ((fn_X7_fewestByBodies_n  h).2))) ∧ ((¬ (z_vi0 (fn_X7_feeds  ((fn_X7_fewestByBodies_n  h).2))) ≤ 0) → (tk_X7_livesFor_n a5 ((fn_X7_fewestByBodies_n  h).2) ∧ ((((z_vi (fn_X7_livesFor_n a5 ((fn_X7_fewestByBodies_n  h).2))) = a5) → (tk_L_isWormSo_257 a4 ((fn_X7_livesFor_n a5 ((fn_X7_fewestByBodies_n  h).2)).2))) ∧ ((¬ (z_vi (fn_X7_livesFor_n a5 ((fn_X7_fewestByBodies_n  h).2))) = a5) → (tk_L_isWormSo_261 a4 ((fn_X7_livesFor_n a5 ((fn_X7_fewestByBodies_n  h).2)).2)))))))))))))) ∧ ((¬ a5 = (z_vi (fn_X7_fewestByBodies_n  h))) → (tk_L_isWormSo_261 a4 ((fn_X7_fewestByBodies_n  h).2))))))
def fn_L_isWormSo_203  (a4 : Int32) (a5 : Int32) (h : z_H) : z_R := fn_L_isWormSo_204 a4 a5 (nI 0) h
def tk_L_isWormSo_203  (a4 : Int32) (a5 : Int32) (h : z_H) : Prop := tk_L_isWormSo_204 a4 a5 (nI 0) h
def fn_L_isWormSo_178  (a4 : Int32) (a5 : Int32) (h : z_H) : z_R := if (z_vi (fn_X7_reach  h)) < 0 then fn_L_isWormSo_203 a4 a5 ((fn_X7_reach  h).2) else if ((nI 36) - (z_vi0 (fn_X7_length  ((fn_X7_reach  ((fn_X7_reach  h).2)).2)))) < (z_vi (fn_X7_reach  ((fn_X7_reach  h).2))) then fn_L_isWormSo_203 a4 a5 ((fn_X7_reach  ((fn_X7_reach  h).2)).2) else fn_L_isWormSo_204 a4 a5 (nI 1) ((fn_X7_reach  ((fn_X7_reach  h).2)).2)
def tk_L_isWormSo_178  (a4 : Int32) (a5 : Int32) (h : z_H) : Prop := tk_X7_reach  h ∧ ((((z_vi (fn_X7_reach  h)) < 0) → (tk_L_isWormSo_203 a4 a5 ((fn_X7_reach  h).2))) ∧ ((¬ (z_vi (fn_X7_reach  h)) < 0) → (tk_X7_reach  ((fn_X7_reach  h).2) ∧ (((((nI 36) - (z_vi0 (fn_X7_length  ((fn_X7_reach  ((fn_X7_reach  h).2)).2)))) < (z_vi (fn_X7_reach  ((fn_X7_reach  h).2)))) → (tk_L_isWormSo_203 a4 a5 ((fn_X7_reach  ((fn_X7_reach  h).2)).2))) ∧ ((¬ ((nI 36) - (z_vi0 (fn_X7_length  ((fn_X7_reach  ((fn_X7_reach  h).2)).2)))) < (z_vi (fn_X7_reach  ((fn_X7_reach  h).2)))) → (tk_L_isWormSo_204 a4 a5 (nI 1) ((fn_X7_reach  ((fn_X7_reach  h).2)).2)))))))
def fn_L_isWormSo_5  : Nat → Int32 → Int64 → Int32 → z_H → z_R
  | 0, _, _, _, h => (none, h)
  | n + 1, a1, a2, a4, h => let k5 := fun (a1_ : Int32) (a2_ : Int64) (a4_ : Int32) (h_ : z_H) => fn_L_isWormSo_5  n a1_ a2_ a4_ h_; if (z_vi0 (fn_X7_length  h)) ≤ a4 then if (z_vi0 (fn_X7_isAlive  h)) = 0 then if 0 < (z_vi0 (fn_X7_length  h)) then fn_L_isWormSo_106 h else if (z_vi0 (fn_X7_owed  h)) = 0 then if (z_vi (fn_X7_reach  h)) = 0 then fn_L_isWormSo_106 ((fn_X7_reach  h).2) else (some (.int (nI 0)), (fn_X7_reach  h).2) else (some (.int (nI 0)), h) else if (z_vi (fn_X7_livesFor_n a1 h)) < 0 then fn_L_isWormSo_203 (z_vi (fn_X7_livesFor_n a1 h)) (z_vi (fn_X7_fewest_n  ((fn_X7_livesFor_n a1 h).2))) ((fn_X7_fewest_n  ((fn_X7_livesFor_n a1 h).2)).2) else if a1 < (z_vi (fn_X7_livesFor_n a1 h)) then fn_L_isWormSo_203 (z_vi (fn_X7_livesFor_n a1 h)) (z_vi (fn_X7_fewest_n  ((fn_X7_livesFor_n a1 h).2))) ((fn_X7_fewest_n  ((fn_X7_livesFor_n a1 h).2)).2) else if (z_vi (fn_X7_livesFor_n (nI 6) ((fn_X7_fewest_n  ((fn_X7_livesFor_n a1 h).2)).2))) < (z_vi (fn_X7_livesFor_n a1 h)) then fn_L_isWormSo_203 (z_vi (fn_X7_livesFor_n a1 h)) (z_vi (fn_X7_fewest_n  ((fn_X7_livesFor_n a1 h).2))) ((fn_X7_livesFor_n (nI 6) ((fn_X7_fewest_n  ((fn_X7_livesFor_n a1 h).2)).2)).2) else if (z_vi (fn_X7_livesFor_n a1 h)) = a1 then fn_L_isWormSo_178 (z_vi (fn_X7_livesFor_n a1 h)) (z_vi (fn_X7_fewest_n  ((fn_X7_livesFor_n a1 h).2))) ((fn_X7_livesFor_n (nI 6) ((fn_X7_fewest_n  ((fn_X7_livesFor_n a1 h).2)).2)).2) else if (z_vi (fn_X7_livesFor_n (nI 6) ((fn_X7_livesFor_n (nI 6) ((fn_X7_fewest_n  ((fn_X7_livesFor_n a1 h).2)).2)).2))) = (z_vi (fn_X7_livesFor_n a1 h)) then fn_L_isWormSo_178 (z_vi (fn_X7_livesFor_n a1 h)) (z_vi (fn_X7_fewest_n  ((fn_X7_livesFor_n a1 h).2))) ((fn_X7_livesFor_n (nI 6) ((fn_X7_livesFor_n (nI 6) ((fn_X7_fewest_n  ((fn_X7_livesFor_n a1 h).2)).2)).2)).2) else fn_L_isWormSo_203 (z_vi (fn_X7_livesFor_n a1 h)) (z_vi (fn_X7_fewest_n  ((fn_X7_livesFor_n a1 h).2))) ((fn_X7_livesFor_n (nI 6) ((fn_X7_livesFor_n (nI 6) ((fn_X7_fewest_n  ((fn_X7_livesFor_n a1 h).2)).2)).2)).2) else if (lg_cmp ((a2 >>> ((z_vi0 (fn_X7_bodyAt_n a4 h)).toInt64 &&& 63)) &&& 1) 1) = 0 then (some (.int (nI 0)), h) else if (z_vi0 (fn_X7_isWall_n (z_vi0 (fn_X7_bodyAt_n a4 h)) h)) = 0 then if a4 ≤ 0 then fn_L_isWormSo_65 k5 a1 a2 a4 (z_vi0 (fn_X7_bodyAt_n a4 h)) h else if (z_vi0 (fn_L_areBeside (z_vi0 (fn_X7_bodyAt_n a4 h)) (z_vi0 (fn_X7_bodyAt_n (a4 - (nI 1)) h)) h)) = 0 then (some (.int (nI 0)), h) else fn_L_isWormSo_65 k5 a1 a2 a4 (z_vi0 (fn_X7_bodyAt_n a4 h)) h else (some (.int (nI 0)), h)
def tk_L_isWormSo_5  : Nat → Int32 → Int64 → Int32 → z_H → Prop
  | 0, _, _, _, _ => False
  | n + 1, a1, a2, a4, h => let K5 := fun (a1_ : Int32) (a2_ : Int64) (a4_ : Int32) (h_ : z_H) => tk_L_isWormSo_5  n a1_ a2_ a4_ h_; (((z_vi0 (fn_X7_length  h)) ≤ a4) → ((((z_vi0 (fn_X7_isAlive  h)) = 0) → (((0 < (z_vi0 (fn_X7_length  h))) → (tk_L_isWormSo_106 h)) ∧ ((¬ 0 < (z_vi0 (fn_X7_length  h))) → ((((z_vi0 (fn_X7_owed  h)) = 0) → (tk_X7_reach  h ∧ ((((z_vi (fn_X7_reach  h)) = 0) → (tk_L_isWormSo_106 ((fn_X7_reach  h).2))) ∧ ((¬ (z_vi (fn_X7_reach  h)) = 0) → (True))))) ∧ ((¬ (z_vi0 (fn_X7_owed  h)) = 0) → (True)))))) ∧ ((¬ (z_vi0 (fn_X7_isAlive  h)) = 0) → (tk_X7_livesFor_n a1 h ∧ (tk_X7_fewest_n  ((fn_X7_livesFor_n a1 h).2) ∧ ((((z_vi (fn_X7_livesFor_n a1 h)) < 0) → (tk_L_isWormSo_203 (z_vi (fn_X7_livesFor_n a1 h)) (z_vi (fn_X7_fewest_n  ((fn_X7_livesFor_n a1 h).2))) ((fn_X7_fewest_n  ((fn_X7_livesFor_n a1 h).2)).2))) ∧ ((¬ (z_vi (fn_X7_livesFor_n a1 h)) < 0) → (((a1 < (z_vi (fn_X7_livesFor_n a1 h))) → (tk_L_isWormSo_203 (z_vi (fn_X7_livesFor_n a1 h)) (z_vi (fn_X7_fewest_n  ((fn_X7_livesFor_n a1 h).2))) ((fn_X7_fewest_n  ((fn_X7_livesFor_n a1 h).2)).2))) ∧ ((¬ a1 < (z_vi (fn_X7_livesFor_n a1 h))) → (tk_X7_livesFor_n (nI 6) ((fn_X7_fewest_n  ((fn_X7_livesFor_n a1 h).2)).2) ∧ ((((z_vi (fn_X7_livesFor_n (nI 6) ((fn_X7_fewest_n  ((fn_X7_livesFor_n a1 h).2)).2))) < (z_vi (fn_X7_livesFor_n a1 h))) → (tk_L_isWormSo_203 (z_vi (fn_X7_livesFor_n a1 h)) (z_vi (fn_X7_fewest_n  ((fn_X7_livesFor_n a1 h).2))) ((fn_X7_livesFor_n (nI 6) ((fn_X7_fewest_n  ((fn_X7_livesFor_n a1 h).2)).2)).2))) ∧ ((¬ (z_vi (fn_X7_livesFor_n (nI 6) ((fn_X7_fewest_n  ((fn_X7_livesFor_n a1 h).2)).2))) < (z_vi (fn_X7_livesFor_n a1 h))) → ((((z_vi (fn_X7_livesFor_n a1 h)) = a1) → (tk_L_isWormSo_178 (z_vi (fn_X7_livesFor_n a1 h)) (z_vi (fn_X7_fewest_n  ((fn_X7_livesFor_n a1 h).2))) ((fn_X7_livesFor_n (nI 6) ((fn_X7_fewest_n  ((fn_X7_livesFor_n a1 h).2)).2)).2))) ∧ ((¬ (z_vi (fn_X7_livesFor_n a1 h)) = a1) → (tk_X7_livesFor_n (nI 6) ((fn_X7_livesFor_n (nI 6) ((fn_X7_fewest_n  ((fn_X7_livesFor_n a1 h).2)).2)).2) ∧ ((((z_vi (fn_X7_livesFor_n (nI 6) ((fn_X7_livesFor_n (nI 6) ((fn_X7_fewest_n  ((fn_X7_livesFor_n a1 h).2)).2)).2))) = (z_vi (fn_X7_livesFor_n a1 h))) → (tk_L_isWormSo_178 (z_vi (fn_X7_livesFor_n a1 h)) (z_vi (fn_X7_fewest_n  ((fn_X7_livesFor_n a1 h).2))) ((fn_X7_livesFor_n (nI 6) ((fn_X7_livesFor_n (nI 6) ((fn_X7_fewest_n  ((fn_X7_livesFor_n a1 h).2)).2)).2)).2))) ∧ ((¬ (z_vi (fn_X7_livesFor_n (nI 6) ((fn_X7_livesFor_n (nI 6) ((fn_X7_fewest_n  ((fn_X7_livesFor_n a1 h).2)).2)).2))) = (z_vi (fn_X7_livesFor_n a1 h))) → (tk_L_isWormSo_203 (z_vi (fn_X7_livesFor_n a1 h)) (z_vi (fn_X7_fewest_n  ((fn_X7_livesFor_n a1 h).2))) ((fn_X7_livesFor_n (nI 6) ((fn_X7_livesFor_n (nI 6) ((fn_X7_fewest_n  ((fn_X7_livesFor_n a1 h).2)).2)).2)).2))))))))))))))))))) ∧ ((¬ (z_vi0 (fn_X7_length  h)) ≤ a4) → (tk_X7_bodyAt_n a4 h ∧ ((((lg_cmp ((a2 >>> ((z_vi0 (fn_X7_bodyAt_n a4 h)).toInt64 &&& 63)) &&& 1) 1) = 0) → (True)) ∧ ((¬ (lg_cmp ((a2 >>> ((z_vi0 (fn_X7_bodyAt_n a4 h)).toInt64 &&& 63)) &&& 1) 1) = 0) → (tk_X7_isWall_n (z_vi0 (fn_X7_bodyAt_n a4 h)) h ∧ ((((z_vi0 (fn_X7_isWall_n (z_vi0 (fn_X7_bodyAt_n a4 h)) h)) = 0) → (((a4 ≤ 0) → (tk_L_isWormSo_65 K5 a1 a2 a4 (z_vi0 (fn_X7_bodyAt_n a4 h)) h)) ∧ ((¬ a4 ≤ 0) → (tk_X7_bodyAt_n (a4 - (nI 1)) h ∧ ((((z_vi0 (fn_L_areBeside (z_vi0 (fn_X7_bodyAt_n a4 h)) (z_vi0 (fn_X7_bodyAt_n (a4 - (nI 1)) h)) h)) = 0) → (True)) ∧ ((¬ (z_vi0 (fn_L_areBeside (z_vi0 (fn_X7_bodyAt_n a4 h)) (z_vi0 (fn_X7_bodyAt_n (a4 - (nI 1)) h)) h)) = 0) → (tk_L_isWormSo_65 K5 a1 a2 a4 (z_vi0 (fn_X7_bodyAt_n a4 h)) h))))))) ∧ ((¬ (z_vi0 (fn_X7_isWall_n (z_vi0 (fn_X7_bodyAt_n a4 h)) h)) = 0) → (True))))))))
def fn_L_isWormSo (x : Int32) (h : z_H) : z_R := fn_L_isWormSo_5 2000 x 0 (nI 0) h
def tk_L_isWormSo (x : Int32) (h : z_H) : Prop := tk_L_isWormSo_5 2000 x 0 (nI 0) h
set_option maxHeartbeats 4000000 in
set_option maxRecDepth 100000 in
theorem sp_L_isWormSo (l : Launch) (ext : z_Sh)  (h : z_H) (x : Int32)  (T : tk_L_isWormSo x h) : z_Sp l 13 yL_isWormSo cL_isWormSo 8 (some .boolean) [.ref 0, .int x] (z_c ext) h (z_PB (fn_L_isWormSo x h)) := by
  refine z_enter ft_L (by decide +kernel) fo_L (Nat.le_of_ble_eq_true rfl) ?_
  intro p e R s m args below meth c D dA ad hB
  have hC := hB.1
  have hN := hB.2.1
  have hR := hB.2.2.1
  unfold tk_L_isWormSo at T; have E : (fn_L_isWormSo_5 2000 x 0 (nI 0) h) = fn_L_isWormSo x h := rfl
  generalize fn_L_isWormSo x h = RR at E ⊢
  have P65 : ∀ (k5 : Int32 → Int64 → Int32 → z_H → z_R) (K5 : Int32 → Int64 → Int32 → z_H → Prop) (hk5 : ∀ (a1 : Int32) (a2 : Int64) (a4 : Int32) (h : z_H), K5 a1 a2 a4 h → k5 a1 a2 a4 h = RR → z_G p l e R s m args below meth c D dA ad 8 (z_PB RR) (z_c ext) 5 [some (.ref 0), some (.int a1), some (.long a2), none, some (.int a4), none, none, none] [] h), ∀ (a1 : Int32) (a2 : Int64) (a4 : Int32) (a5 : Int32) (h : z_H), tk_L_isWormSo_65 K5 a1 a2 a4 a5 h → fn_L_isWormSo_65 k5 a1 a2 a4 a5 h = RR → z_G p l e R s m args below meth c D dA ad 8 (z_PB RR) (z_c ext) 65 [some (.ref 0), some (.int a1), some (.long a2), none, some (.int a4), some (.int a5), none, none] [] h := by
    intro k5 K5 hk5 a1 a2 a4 a5 h T E
    unfold tk_L_isWormSo_65 at T; unfold fn_L_isWormSo_65 at E
    refine z_go hC (pc' := 75) (ls' := [some (.ref 0), some (.int a1), some (.long (a2 ||| (1 <<< (a5.toInt64 &&& 63)))), none, some (.int (a4 + (nI 1))), some (.int a5), none, none]) (st' := []) (h' := h) (cs := []) [.lload_n 2, .lconst 1, .iload 5, .lshl, .lor, .lstore_n 2, .iinc 4 1] (by decide +kernel) rfl rfl trivial ?_
    refine z_goto hC (off := -70) 5 (by decide +kernel) (by decide) ?_
    refine z_less (ls' := [some (.ref 0), some (.int a1), some (.long (a2 ||| (1 <<< (a5.toInt64 &&& 63)))), none, some (.int (a4 + (nI 1))), none, none, none]) (by simp [z_sub]) ?_
    exact hk5 a1 (a2 ||| (1 <<< (a5.toInt64 &&& 63))) (a4 + (nI 1)) h T E
  have P106 : ∀ (h : z_H), tk_L_isWormSo_106  h → fn_L_isWormSo_106  h = RR → z_G p l e R s m args below meth c D dA ad 8 (z_PB RR) (z_c ext) 106 [some (.ref 0), none, none, none, none, none, none, none] [] h := by
    intro  h T E
    unfold tk_L_isWormSo_106 at T; unfold fn_L_isWormSo_106 at E
    refine z_go hC (pc' := 107) (ls' := [some (.ref 0), none, none, none, none, none, none, none]) (st' := [.ref 0]) (h' := h) (cs := []) [.aload_n 0] (by decide +kernel) rfl rfl trivial ?_
    have t4 := T
    refine z_callV hC hN hR (as := []) (rest := []) ok_L_85 (by decide +kernel) (sp_X7_isInOrder l _ h  t4) rfl rfl (Nat.le_of_ble_eq_true rfl) rfl rfl (Nat.le_of_ble_eq_true rfl) ⟨Nat.zero_le _, Nat.zero_le _⟩ (fun r1 h2 q3 => z_funb q3 (fun z5 => ?_))
    refine z_if_eq hC (off := 10) 120 (by decide +kernel) (by decide) (fun c6 => ?_) (fun c6 => ?_)
    · skip
      have E := (if_pos c6).symm.trans E
      refine z_go hC (pc' := 121) (ls' := [some (.ref 0), none, none, none, none, none, none, none]) (st' := [.int (nI 1)]) (h' := h) (cs := []) [.iconst 1] (by decide +kernel) rfl rfl trivial ?_
      refine z_goto hC (off := 4) 125 (by decide +kernel) (by decide) ?_
      exact z_ret_z hB rfl (show (nI 1 = 0 ∨ nI 1 = 1) by decide) (by decide +kernel) (z_lfb (show (nI 1 = 0 ∨ nI 1 = 1) by decide) E)
    · skip
      have E := (if_neg c6).symm.trans E
      refine z_go hC (pc' := 114) (ls' := [some (.ref 0), none, none, none, none, none, none, none]) (st' := [.ref 0]) (h' := h) (cs := []) [.aload_n 0] (by decide +kernel) rfl rfl trivial ?_
      refine z_callV hC hN hR (as := []) (rest := []) ok_L_69 (by decide +kernel) (sp_X7_length l _ h  trivial) rfl rfl (Nat.le_of_ble_eq_true rfl) rfl rfl (Nat.le_of_ble_eq_true rfl) ⟨Nat.zero_le _, Nat.zero_le _⟩ (fun r7 h8 q9 => z_fun q9 ?_)
      refine z_if_le hC (off := 7) 124 (by decide +kernel) (by decide) (fun c10 => ?_) (fun c10 => ?_)
      · skip
        have E := (if_pos c10).symm.trans E
        refine z_go hC (pc' := 125) (ls' := [some (.ref 0), none, none, none, none, none, none, none]) (st' := [.int (nI 0)]) (h' := h) (cs := []) [.iconst 0] (by decide +kernel) rfl rfl trivial ?_
        exact z_ret_z hB rfl (show (nI 0 = 0 ∨ nI 0 = 1) by decide) (by decide +kernel) (z_lfb (show (nI 0 = 0 ∨ nI 0 = 1) by decide) E)
      · skip
        have E := (if_neg c10).symm.trans E
        refine z_go hC (pc' := 121) (ls' := [some (.ref 0), none, none, none, none, none, none, none]) (st' := [.int (nI 1)]) (h' := h) (cs := []) [.iconst 1] (by decide +kernel) rfl rfl trivial ?_
        refine z_goto hC (off := 4) 125 (by decide +kernel) (by decide) ?_
        exact z_ret_z hB rfl (show (nI 1 = 0 ∨ nI 1 = 1) by decide) (by decide +kernel) (z_lfb (show (nI 1 = 0 ∨ nI 1 = 1) by decide) E)
  have P311 : ∀ (k267 : Int32 → Int32 → Int32 → z_H → z_R) (K267 : Int32 → Int32 → Int32 → z_H → Prop) (hk267 : ∀ (a4 : Int32) (a6 : Int32) (a7 : Int32) (h : z_H), K267 a4 a6 a7 h → k267 a4 a6 a7 h = RR → z_G p l e R s m args below meth c D dA ad 8 (z_PB RR) (z_c ext) 267 [some (.ref 0), none, none, none, some (.int a4), none, some (.int a6), some (.int a7)] [] h), ∀ (a4 : Int32) (a7 : Int32) (s0 : Int32) (h : z_H), tk_L_isWormSo_311 K267 a4 a7 s0 h → fn_L_isWormSo_311 k267 a4 a7 s0 h = RR → z_G p l e R s m args below meth c D dA ad 8 (z_PB RR) (z_c ext) 311 [some (.ref 0), none, none, none, some (.int a4), none, none, some (.int a7)] [.int s0] h := by
    intro k267 K267 hk267 a4 a7 s0 h T E
    unfold tk_L_isWormSo_311 at T; unfold fn_L_isWormSo_311 at E
    refine z_go hC (pc' := 316) (ls' := [some (.ref 0), none, none, none, some (.int a4), none, some (.int s0), some (.int (a7 + (nI 1)))]) (st' := []) (h' := h) (cs := []) [.istore 6, .iinc 7 1] (by decide +kernel) rfl rfl trivial ?_
    refine z_goto hC (off := -49) 267 (by decide +kernel) (by decide) ?_
    exact hk267 a4 s0 (a7 + (nI 1)) h T E
  have P306 : ∀ (k267 : Int32 → Int32 → Int32 → z_H → z_R) (K267 : Int32 → Int32 → Int32 → z_H → Prop) (hk267 : ∀ (a4 : Int32) (a6 : Int32) (a7 : Int32) (h : z_H), K267 a4 a6 a7 h → k267 a4 a6 a7 h = RR → z_G p l e R s m args below meth c D dA ad 8 (z_PB RR) (z_c ext) 267 [some (.ref 0), none, none, none, some (.int a4), none, some (.int a6), some (.int a7)] [] h), ∀ (a4 : Int32) (a7 : Int32) (h : z_H), tk_L_isWormSo_306 K267 a4 a7 h → fn_L_isWormSo_306 k267 a4 a7 h = RR → z_G p l e R s m args below meth c D dA ad 8 (z_PB RR) (z_c ext) 306 [some (.ref 0), none, none, none, some (.int a4), none, none, some (.int a7)] [] h := by
    intro k267 K267 hk267 a4 a7 h T E
    unfold tk_L_isWormSo_306 at T; unfold fn_L_isWormSo_306 at E
    refine z_go hC (pc' := 307) (ls' := [some (.ref 0), none, none, none, some (.int a4), none, none, some (.int a7)]) (st' := [.int (nI 1)]) (h' := h) (cs := []) [.iconst 1] (by decide +kernel) rfl rfl trivial ?_
    refine z_goto hC (off := 4) 311 (by decide +kernel) (by decide) ?_
    exact P311 _ _ hk267 a4 a7 (nI 1) h T E
  have P310 : ∀ (k267 : Int32 → Int32 → Int32 → z_H → z_R) (K267 : Int32 → Int32 → Int32 → z_H → Prop) (hk267 : ∀ (a4 : Int32) (a6 : Int32) (a7 : Int32) (h : z_H), K267 a4 a6 a7 h → k267 a4 a6 a7 h = RR → z_G p l e R s m args below meth c D dA ad 8 (z_PB RR) (z_c ext) 267 [some (.ref 0), none, none, none, some (.int a4), none, some (.int a6), some (.int a7)] [] h), ∀ (a4 : Int32) (a7 : Int32) (h : z_H), tk_L_isWormSo_310 K267 a4 a7 h → fn_L_isWormSo_310 k267 a4 a7 h = RR → z_G p l e R s m args below meth c D dA ad 8 (z_PB RR) (z_c ext) 310 [some (.ref 0), none, none, none, some (.int a4), none, none, some (.int a7)] [] h := by
    intro k267 K267 hk267 a4 a7 h T E
    unfold tk_L_isWormSo_310 at T; unfold fn_L_isWormSo_310 at E
    refine z_go hC (pc' := 311) (ls' := [some (.ref 0), none, none, none, some (.int a4), none, none, some (.int a7)]) (st' := [.int (nI 0)]) (h' := h) (cs := []) [.iconst 0] (by decide +kernel) rfl rfl trivial ?_
    exact P311 _ _ hk267 a4 a7 (nI 0) h T E
  have P267 : ∀ (n : Nat), ∀ (a4 : Int32) (a6 : Int32) (a7 : Int32) (h : z_H), tk_L_isWormSo_267  n a4 a6 a7 h → fn_L_isWormSo_267  n a4 a6 a7 h = RR → z_G p l e R s m args below meth c D dA ad 8 (z_PB RR) (z_c ext) 267 [some (.ref 0), none, none, none, some (.int a4), none, some (.int a6), some (.int a7)] [] h := by
    intro  n
    induction n with
    | zero => intro a4 a6 a7 h T E; exact False.elim T
    | succ n ih =>
      intro a4 a6 a7 h T E
      unfold tk_L_isWormSo_267 at T; unfold fn_L_isWormSo_267 at E; dsimp only at T E
      have hk267 := ih
      refine z_go hC (pc' := 270) (ls' := [some (.ref 0), none, none, none, some (.int a4), none, some (.int a6), some (.int a7)]) (st' := [.int (nI 4), .int a7]) (h' := h) (cs := []) [.iload 7, .iconst 4] (by decide +kernel) rfl rfl trivial ?_
      refine z_icmp_ge hC (off := 49) 319 (by decide +kernel) (by decide) (fun c11 => ?_) (fun c11 => ?_)
      · skip
        have E := (if_pos c11).symm.trans E
        have T := T.1 c11
        refine z_go hC (pc' := 321) (ls' := [some (.ref 0), none, none, none, some (.int a4), none, some (.int a6), some (.int a7)]) (st' := [.int a6]) (h' := h) (cs := []) [.iload 6] (by decide +kernel) rfl rfl trivial ?_
        have t12 := T
        exact z_ret_z hB rfl t12 (by decide +kernel) (z_lfb t12 E)
      · skip
        have E := (if_neg c11).symm.trans E
        have T := T.2 c11
        refine z_go hC (pc' := 275) (ls' := [some (.ref 0), none, none, none, some (.int a4), none, some (.int a6), some (.int a7)]) (st' := [.int a6]) (h' := h) (cs := []) [.iload 6] (by decide +kernel) rfl rfl trivial ?_
        refine z_if_eq hC (off := 35) 310 (by decide +kernel) (by decide) (fun c13 => ?_) (fun c13 => ?_)
        · skip
          have E := (if_pos c13).symm.trans E
          have T := T.1 c13
          refine z_less (ls' := [some (.ref 0), none, none, none, some (.int a4), none, none, some (.int a7)]) (by simp [z_sub]) ?_
          exact P310 _ _ hk267 a4 a7 h T E
        · skip
          have E := (if_neg c13).symm.trans E
          have T := T.2 c13
          refine z_go hC (pc' := 281) (ls' := [some (.ref 0), none, none, none, some (.int a4), none, some (.int a6), some (.int a7)]) (st' := [.int a7, .ref 0]) (h' := h) (cs := []) [.aload_n 0, .iload 7] (by decide +kernel) rfl rfl trivial ?_
          obtain ⟨t17, T⟩ := T
          refine z_callV hC hN hR (as := [.int a7]) (rest := []) ok_L_122 (by decide +kernel) (sp_X7_isSafe_n l _ h a7 t17) rfl rfl (Nat.le_of_ble_eq_true rfl) rfl rfl (Nat.le_of_ble_eq_true rfl) ⟨Nat.zero_le _, Nat.zero_le _⟩ (fun r14 h15 q16 => z_funb q16 (fun z18 => ?_))
          refine z_if_eq hC (off := 22) 306 (by decide +kernel) (by decide) (fun c19 => ?_) (fun c19 => ?_)
          · skip
            have E := (if_pos c19).symm.trans E
            have T := T.1 c19
            refine z_less (ls' := [some (.ref 0), none, none, none, some (.int a4), none, none, some (.int a7)]) (by simp [z_sub]) ?_
            exact P306 _ _ hk267 a4 a7 ((fn_X7_isSafe_n a7 h).2) T E
          · skip
            have E := (if_neg c19).symm.trans E
            have T := T.2 c19
            refine z_go hC (pc' := 288) (ls' := [some (.ref 0), none, none, none, some (.int a4), none, some (.int a6), some (.int a7)]) (st' := [.ref 0]) (h' := (fn_X7_isSafe_n a7 h).2) (cs := []) [.aload_n 0] (by decide +kernel) rfl rfl trivial ?_
            obtain ⟨t23, T⟩ := T
            refine z_callV hC hN hR (as := []) (rest := []) ok_L_85 (by decide +kernel) (sp_X7_isInOrder l _ ((fn_X7_isSafe_n a7 h).2)  t23) rfl rfl (Nat.le_of_ble_eq_true rfl) rfl rfl (Nat.le_of_ble_eq_true rfl) ⟨Nat.zero_le _, Nat.zero_le _⟩ (fun r20 h21 q22 => z_funb q22 (fun z24 => ?_))
            refine z_if_eq hC (off := 19) 310 (by decide +kernel) (by decide) (fun c25 => ?_) (fun c25 => ?_)
            · skip
              have E := (if_pos c25).symm.trans E
              have T := T.1 c25
              refine z_less (ls' := [some (.ref 0), none, none, none, some (.int a4), none, none, some (.int a7)]) (by simp [z_sub]) ?_
              exact P310 _ _ hk267 a4 a7 ((fn_X7_isSafe_n a7 h).2) T E
            · skip
              have E := (if_neg c25).symm.trans E
              have T := T.2 c25
              refine z_go hC (pc' := 296) (ls' := [some (.ref 0), none, none, none, some (.int a4), none, some (.int a6), some (.int a7)]) (st' := [.int a4]) (h' := (fn_X7_isSafe_n a7 h).2) (cs := []) [.iload 4] (by decide +kernel) rfl rfl trivial ?_
              refine z_if_le hC (off := 14) 310 (by decide +kernel) (by decide) (fun c26 => ?_) (fun c26 => ?_)
              · skip
                have E := (if_pos c26).symm.trans E
                have T := T.1 c26
                refine z_less (ls' := [some (.ref 0), none, none, none, some (.int a4), none, none, some (.int a7)]) (by simp [z_sub]) ?_
                exact P310 _ _ hk267 a4 a7 ((fn_X7_isSafe_n a7 h).2) T E
              · skip
                have E := (if_neg c26).symm.trans E
                have T := T.2 c26
                refine z_go hC (pc' := 300) (ls' := [some (.ref 0), none, none, none, some (.int a4), none, some (.int a6), some (.int a7)]) (st' := [.ref 0]) (h' := (fn_X7_isSafe_n a7 h).2) (cs := []) [.aload_n 0] (by decide +kernel) rfl rfl trivial ?_
                refine z_callV hC hN hR (as := []) (rest := []) ok_L_79 (by decide +kernel) (sp_X7_feeds l _ ((fn_X7_isSafe_n a7 h).2)  trivial) rfl rfl (Nat.le_of_ble_eq_true rfl) rfl rfl (Nat.le_of_ble_eq_true rfl) ⟨Nat.zero_le _, Nat.zero_le _⟩ (fun r27 h28 q29 => z_fun q29 ?_)
                refine z_if_le hC (off := 7) 310 (by decide +kernel) (by decide) (fun c30 => ?_) (fun c30 => ?_)
                · skip
                  have E := (if_pos c30).symm.trans E
                  have T := T.1 c30
                  refine z_less (ls' := [some (.ref 0), none, none, none, some (.int a4), none, none, some (.int a7)]) (by simp [z_sub]) ?_
                  exact P310 _ _ hk267 a4 a7 ((fn_X7_isSafe_n a7 h).2) T E
                · skip
                  have E := (if_neg c30).symm.trans E
                  have T := T.2 c30
                  refine z_less (ls' := [some (.ref 0), none, none, none, some (.int a4), none, none, some (.int a7)]) (by simp [z_sub]) ?_
                  exact P306 _ _ hk267 a4 a7 ((fn_X7_isSafe_n a7 h).2) T E
  have P262 : ∀ (a4 : Int32) (s0 : Int32) (h : z_H), tk_L_isWormSo_262  a4 s0 h → fn_L_isWormSo_262  a4 s0 h = RR → z_G p l e R s m args below meth c D dA ad 8 (z_PB RR) (z_c ext) 262 [some (.ref 0), none, none, none, some (.int a4), none, none, none] [.int s0] h := by
    intro  a4 s0 h T E
    unfold tk_L_isWormSo_262 at T; unfold fn_L_isWormSo_262 at E
    refine z_go hC (pc' := 267) (ls' := [some (.ref 0), none, none, none, some (.int a4), none, some (.int s0), some (.int (nI 0))]) (st' := []) (h' := h) (cs := []) [.istore 6, .iconst 0, .istore 7] (by decide +kernel) rfl rfl trivial ?_
    exact P267 2000 a4 s0 (nI 0) h T E
  have P257 : ∀ (a4 : Int32) (h : z_H), tk_L_isWormSo_257  a4 h → fn_L_isWormSo_257  a4 h = RR → z_G p l e R s m args below meth c D dA ad 8 (z_PB RR) (z_c ext) 257 [some (.ref 0), none, none, none, some (.int a4), none, none, none] [] h := by
    intro  a4 h T E
    unfold tk_L_isWormSo_257 at T; unfold fn_L_isWormSo_257 at E
    refine z_go hC (pc' := 258) (ls' := [some (.ref 0), none, none, none, some (.int a4), none, none, none]) (st' := [.int (nI 1)]) (h' := h) (cs := []) [.iconst 1] (by decide +kernel) rfl rfl trivial ?_
    refine z_goto hC (off := 4) 262 (by decide +kernel) (by decide) ?_
    exact P262  a4 (nI 1) h T E
  have P261 : ∀ (a4 : Int32) (h : z_H), tk_L_isWormSo_261  a4 h → fn_L_isWormSo_261  a4 h = RR → z_G p l e R s m args below meth c D dA ad 8 (z_PB RR) (z_c ext) 261 [some (.ref 0), none, none, none, some (.int a4), none, none, none] [] h := by
    intro  a4 h T E
    unfold tk_L_isWormSo_261 at T; unfold fn_L_isWormSo_261 at E
    refine z_go hC (pc' := 262) (ls' := [some (.ref 0), none, none, none, some (.int a4), none, none, none]) (st' := [.int (nI 0)]) (h' := h) (cs := []) [.iconst 0] (by decide +kernel) rfl rfl trivial ?_
    exact P262  a4 (nI 0) h T E
  have P204 : ∀ (a4 : Int32) (a5 : Int32) (s0 : Int32) (h : z_H), tk_L_isWormSo_204  a4 a5 s0 h → fn_L_isWormSo_204  a4 a5 s0 h = RR → z_G p l e R s m args below meth c D dA ad 8 (z_PB RR) (z_c ext) 204 [some (.ref 0), none, none, none, some (.int a4), some (.int a5), none, none] [.int s0] h := by
    intro  a4 a5 s0 h T E
    unfold tk_L_isWormSo_204 at T; unfold fn_L_isWormSo_204 at E
    refine z_go hC (pc' := 208) (ls' := [some (.ref 0), none, none, none, some (.int a4), some (.int a5), some (.int s0), none]) (st' := [.int s0]) (h' := h) (cs := []) [.istore 6, .iload 6] (by decide +kernel) rfl rfl trivial ?_
    refine z_if_eq hC (off := 53) 261 (by decide +kernel) (by decide) (fun c31 => ?_) (fun c31 => ?_)
    · skip
      have E := (if_pos c31).symm.trans E
      have T := T.1 c31
      refine z_less (ls' := [some (.ref 0), none, none, none, some (.int a4), none, none, none]) (by simp [z_sub]) ?_
      exact P261  a4 h T E
    · skip
      have E := (if_neg c31).symm.trans E
      have T := T.2 c31
      refine z_go hC (pc' := 214) (ls' := [some (.ref 0), none, none, none, some (.int a4), some (.int a5), some (.int s0), none]) (st' := [.ref 0, .int a5]) (h' := h) (cs := []) [.iload 5, .aload_n 0] (by decide +kernel) rfl rfl trivial ?_
      obtain ⟨t35, T⟩ := T
      refine z_callV hC hN hR (as := []) (rest := [.int a5]) ok_L_119 (by decide +kernel) (sp_X7_fewestByBodies_n l _ h  t35) rfl rfl (Nat.le_of_ble_eq_true rfl) rfl rfl (Nat.le_of_ble_eq_true rfl) ⟨Nat.zero_le _, Nat.zero_le _⟩ (fun r32 h33 q34 => z_fun q34 ?_)
      refine z_icmp_ne hC (off := 44) 261 (by decide +kernel) (by decide) (fun c36 => ?_) (fun c36 => ?_)
      · skip
        have E := (if_neg c36).symm.trans E
        have T := T.2 c36
        refine z_less (ls' := [some (.ref 0), none, none, none, some (.int a4), none, none, none]) (by simp [z_sub]) ?_
        exact P261  a4 ((fn_X7_fewestByBodies_n  h).2) T E
      · skip
        have E := (if_pos c36).symm.trans E
        have T := T.1 c36
        refine z_go hC (pc' := 223) (ls' := [some (.ref 0), none, none, none, some (.int a4), some (.int a5), some (.int s0), none]) (st' := [.int (-1), .int a5]) (h' := (fn_X7_fewestByBodies_n  h).2) (cs := []) [.iload 5, .iconst (-1)] (by decide +kernel) rfl rfl trivial ?_
        refine z_icmp_eq hC (off := 34) 257 (by decide +kernel) (by decide) (fun c37 => ?_) (fun c37 => ?_)
        · skip
          have E := (if_pos c37).symm.trans E
          have T := T.1 c37
          refine z_less (ls' := [some (.ref 0), none, none, none, some (.int a4), none, none, none]) (by simp [z_sub]) ?_
          exact P257  a4 ((fn_X7_fewestByBodies_n  h).2) T E
        · skip
          have E := (if_neg c37).symm.trans E
          have T := T.2 c37
          refine z_go hC (pc' := 229) (ls' := [some (.ref 0), none, none, none, some (.int a4), some (.int a5), some (.int s0), none]) (st' := [.int (nI 1), .int a5]) (h' := (fn_X7_fewestByBodies_n  h).2) (cs := []) [.iload 5, .iconst 1] (by decide +kernel) rfl rfl trivial ?_
          refine z_icmp_lt hC (off := 32) 261 (by decide +kernel) (by decide) (fun c38 => ?_) (fun c38 => ?_)
          · skip
            have E := (if_pos c38).symm.trans E
            have T := T.1 c38
            refine z_less (ls' := [some (.ref 0), none, none, none, some (.int a4), none, none, none]) (by simp [z_sub]) ?_
            exact P261  a4 ((fn_X7_fewestByBodies_n  h).2) T E
          · skip
            have E := (if_neg c38).symm.trans E
            have T := T.2 c38
            refine z_go hC (pc' := 236) (ls' := [some (.ref 0), none, none, none, some (.int a4), some (.int a5), some (.int s0), none]) (st' := [.int (nI 6), .int a5]) (h' := (fn_X7_fewestByBodies_n  h).2) (cs := []) [.iload 5, .bipush 6] (by decide +kernel) rfl rfl trivial ?_
            refine z_icmp_gt hC (off := 25) 261 (by decide +kernel) (by decide) (fun c39 => ?_) (fun c39 => ?_)
            · skip
              have E := (if_pos c39).symm.trans E
              have T := T.1 c39
              refine z_less (ls' := [some (.ref 0), none, none, none, some (.int a4), none, none, none]) (by simp [z_sub]) ?_
              exact P261  a4 ((fn_X7_fewestByBodies_n  h).2) T E
            · skip
              have E := (if_neg c39).symm.trans E
              have T := T.2 c39
              refine z_go hC (pc' := 240) (ls' := [some (.ref 0), none, none, none, some (.int a4), some (.int a5), some (.int s0), none]) (st' := [.ref 0]) (h' := (fn_X7_fewestByBodies_n  h).2) (cs := []) [.aload_n 0] (by decide +kernel) rfl rfl trivial ?_
              refine z_callV hC hN hR (as := []) (rest := []) ok_L_79 (by decide +kernel) (sp_X7_feeds l _ ((fn_X7_fewestByBodies_n  h).2)  trivial) rfl rfl (Nat.le_of_ble_eq_true rfl) rfl rfl (Nat.le_of_ble_eq_true rfl) ⟨Nat.zero_le _, Nat.zero_le _⟩ (fun r40 h41 q42 => z_fun q42 ?_)
              refine z_if_le hC (off := 18) 261 (by decide +kernel) (by decide) (fun c43 => ?_) (fun c43 => ?_)
              · skip
                have E := (if_pos c43).symm.trans E
                have T := T.1 c43
                refine z_less (ls' := [some (.ref 0), none, none, none, some (.int a4), none, none, none]) (by simp [z_sub]) ?_
                exact P261  a4 ((fn_X7_fewestByBodies_n  h).2) T E
              · skip
                have E := (if_neg c43).symm.trans E
                have T := T.2 c43
                refine z_go hC (pc' := 249) (ls' := [some (.ref 0), none, none, none, some (.int a4), some (.int a5), some (.int s0), none]) (st' := [.int a5, .ref 0]) (h' := (fn_X7_fewestByBodies_n  h).2) (cs := []) [.aload_n 0, .iload 5] (by decide +kernel) rfl rfl trivial ?_
                obtain ⟨t47, T⟩ := T
                refine z_callV hC hN hR (as := [.int a5]) (rest := []) ok_L_113 (by decide +kernel) (sp_X7_livesFor_n l _ ((fn_X7_fewestByBodies_n  h).2) a5 t47) rfl rfl (Nat.le_of_ble_eq_true rfl) rfl rfl (Nat.le_of_ble_eq_true rfl) ⟨Nat.zero_le _, Nat.zero_le _⟩ (fun r44 h45 q46 => z_fun q46 ?_)
                refine z_go hC (pc' := 254) (ls' := [some (.ref 0), none, none, none, some (.int a4), some (.int a5), some (.int s0), none]) (st' := [.int a5, .int (z_vi (fn_X7_livesFor_n a5 ((fn_X7_fewestByBodies_n  h).2)))]) (h' := (fn_X7_livesFor_n a5 ((fn_X7_fewestByBodies_n  h).2)).2) (cs := []) [.iload 5] (by decide +kernel) rfl rfl trivial ?_
                refine z_icmp_ne hC (off := 7) 261 (by decide +kernel) (by decide) (fun c48 => ?_) (fun c48 => ?_)
                · skip
                  have E := (if_neg c48).symm.trans E
                  have T := T.2 c48
                  refine z_less (ls' := [some (.ref 0), none, none, none, some (.int a4), none, none, none]) (by simp [z_sub]) ?_
                  exact P261  a4 ((fn_X7_livesFor_n a5 ((fn_X7_fewestByBodies_n  h).2)).2) T E
                · skip
                  have E := (if_pos c48).symm.trans E
                  have T := T.1 c48
                  refine z_less (ls' := [some (.ref 0), none, none, none, some (.int a4), none, none, none]) (by simp [z_sub]) ?_
                  exact P257  a4 ((fn_X7_livesFor_n a5 ((fn_X7_fewestByBodies_n  h).2)).2) T E
  have P203 : ∀ (a4 : Int32) (a5 : Int32) (h : z_H), tk_L_isWormSo_203  a4 a5 h → fn_L_isWormSo_203  a4 a5 h = RR → z_G p l e R s m args below meth c D dA ad 8 (z_PB RR) (z_c ext) 203 [some (.ref 0), none, none, none, some (.int a4), some (.int a5), none, none] [] h := by
    intro  a4 a5 h T E
    unfold tk_L_isWormSo_203 at T; unfold fn_L_isWormSo_203 at E
    refine z_go hC (pc' := 204) (ls' := [some (.ref 0), none, none, none, some (.int a4), some (.int a5), none, none]) (st' := [.int (nI 0)]) (h' := h) (cs := []) [.iconst 0] (by decide +kernel) rfl rfl trivial ?_
    exact P204  a4 a5 (nI 0) h T E
  have P178 : ∀ (a4 : Int32) (a5 : Int32) (h : z_H), tk_L_isWormSo_178  a4 a5 h → fn_L_isWormSo_178  a4 a5 h = RR → z_G p l e R s m args below meth c D dA ad 8 (z_PB RR) (z_c ext) 178 [some (.ref 0), none, none, none, some (.int a4), some (.int a5), none, none] [] h := by
    intro  a4 a5 h T E
    unfold tk_L_isWormSo_178 at T; unfold fn_L_isWormSo_178 at E
    refine z_go hC (pc' := 179) (ls' := [some (.ref 0), none, none, none, some (.int a4), some (.int a5), none, none]) (st' := [.ref 0]) (h' := h) (cs := []) [.aload_n 0] (by decide +kernel) rfl rfl trivial ?_
    obtain ⟨t52, T⟩ := T
    refine z_callV hC hN hR (as := []) (rest := []) ok_L_110 (by decide +kernel) (sp_X7_reach l _ h  t52) rfl rfl (Nat.le_of_ble_eq_true rfl) rfl rfl (Nat.le_of_ble_eq_true rfl) ⟨Nat.zero_le _, Nat.zero_le _⟩ (fun r49 h50 q51 => z_fun q51 ?_)
    refine z_if_lt hC (off := 21) 203 (by decide +kernel) (by decide) (fun c53 => ?_) (fun c53 => ?_)
    · skip
      have E := (if_pos c53).symm.trans E
      have T := T.1 c53
      exact P203  a4 a5 ((fn_X7_reach  h).2) T E
    · skip
      have E := (if_neg c53).symm.trans E
      have T := T.2 c53
      refine z_go hC (pc' := 186) (ls' := [some (.ref 0), none, none, none, some (.int a4), some (.int a5), none, none]) (st' := [.ref 0]) (h' := (fn_X7_reach  h).2) (cs := []) [.aload_n 0] (by decide +kernel) rfl rfl trivial ?_
      obtain ⟨t57, T⟩ := T
      refine z_callV hC hN hR (as := []) (rest := []) ok_L_110 (by decide +kernel) (sp_X7_reach l _ ((fn_X7_reach  h).2)  t57) rfl rfl (Nat.le_of_ble_eq_true rfl) rfl rfl (Nat.le_of_ble_eq_true rfl) ⟨Nat.zero_le _, Nat.zero_le _⟩ (fun r54 h55 q56 => z_fun q56 ?_)
      refine z_go hC (pc' := 192) (ls' := [some (.ref 0), none, none, none, some (.int a4), some (.int a5), none, none]) (st' := [.ref 0, .int (nI 36), .int (z_vi (fn_X7_reach  ((fn_X7_reach  h).2)))]) (h' := (fn_X7_reach  ((fn_X7_reach  h).2)).2) (cs := []) [.bipush 36, .aload_n 0] (by decide +kernel) rfl rfl trivial ?_
      refine z_callV hC hN hR (as := []) (rest := [.int (nI 36), .int (z_vi (fn_X7_reach  ((fn_X7_reach  h).2)))]) ok_L_69 (by decide +kernel) (sp_X7_length l _ ((fn_X7_reach  ((fn_X7_reach  h).2)).2)  trivial) rfl rfl (Nat.le_of_ble_eq_true rfl) rfl rfl (Nat.le_of_ble_eq_true rfl) ⟨Nat.zero_le _, Nat.zero_le _⟩ (fun r58 h59 q60 => z_fun q60 ?_)
      refine z_go hC (pc' := 196) (ls' := [some (.ref 0), none, none, none, some (.int a4), some (.int a5), none, none]) (st' := [.int ((nI 36) - (z_vi0 (fn_X7_length  ((fn_X7_reach  ((fn_X7_reach  h).2)).2)))), .int (z_vi (fn_X7_reach  ((fn_X7_reach  h).2)))]) (h' := (fn_X7_reach  ((fn_X7_reach  h).2)).2) (cs := []) [.isub] (by decide +kernel) rfl rfl trivial ?_
      refine z_icmp_gt hC (off := 7) 203 (by decide +kernel) (by decide) (fun c61 => ?_) (fun c61 => ?_)
      · skip
        have E := (if_pos c61).symm.trans E
        have T := T.1 c61
        exact P203  a4 a5 ((fn_X7_reach  ((fn_X7_reach  h).2)).2) T E
      · skip
        have E := (if_neg c61).symm.trans E
        have T := T.2 c61
        refine z_go hC (pc' := 200) (ls' := [some (.ref 0), none, none, none, some (.int a4), some (.int a5), none, none]) (st' := [.int (nI 1)]) (h' := (fn_X7_reach  ((fn_X7_reach  h).2)).2) (cs := []) [.iconst 1] (by decide +kernel) rfl rfl trivial ?_
        refine z_goto hC (off := 4) 204 (by decide +kernel) (by decide) ?_
        exact P204  a4 a5 (nI 1) ((fn_X7_reach  ((fn_X7_reach  h).2)).2) T E
  have P5 : ∀ (n : Nat), ∀ (a1 : Int32) (a2 : Int64) (a4 : Int32) (h : z_H), tk_L_isWormSo_5  n a1 a2 a4 h → fn_L_isWormSo_5  n a1 a2 a4 h = RR → z_G p l e R s m args below meth c D dA ad 8 (z_PB RR) (z_c ext) 5 [some (.ref 0), some (.int a1), some (.long a2), none, some (.int a4), none, none, none] [] h := by
    intro  n
    induction n with
    | zero => intro a1 a2 a4 h T E; exact False.elim T
    | succ n ih =>
      intro a1 a2 a4 h T E
      unfold tk_L_isWormSo_5 at T; unfold fn_L_isWormSo_5 at E; dsimp only at T E
      have hk5 := ih
      refine z_go hC (pc' := 8) (ls' := [some (.ref 0), some (.int a1), some (.long a2), none, some (.int a4), none, none, none]) (st' := [.ref 0, .int a4]) (h' := h) (cs := []) [.iload 4, .aload_n 0] (by decide +kernel) rfl rfl trivial ?_
      refine z_callV hC hN hR (as := []) (rest := [.int a4]) ok_L_69 (by decide +kernel) (sp_X7_length l _ h  trivial) rfl rfl (Nat.le_of_ble_eq_true rfl) rfl rfl (Nat.le_of_ble_eq_true rfl) ⟨Nat.zero_le _, Nat.zero_le _⟩ (fun r62 h63 q64 => z_fun q64 ?_)
      refine z_icmp_ge hC (off := 67) 78 (by decide +kernel) (by decide) (fun c65 => ?_) (fun c65 => ?_)
      · skip
        have E := (if_pos c65).symm.trans E
        have T := T.1 c65
        refine z_go hC (pc' := 79) (ls' := [some (.ref 0), some (.int a1), some (.long a2), none, some (.int a4), none, none, none]) (st' := [.ref 0]) (h' := h) (cs := []) [.aload_n 0] (by decide +kernel) rfl rfl trivial ?_
        refine z_callV hC hN hR (as := []) (rest := []) ok_L_60 (by decide +kernel) (sp_X7_isAlive l _ h  trivial) rfl rfl (Nat.le_of_ble_eq_true rfl) rfl rfl (Nat.le_of_ble_eq_true rfl) ⟨Nat.zero_le _, Nat.zero_le _⟩ (fun r66 h67 q68 => z_funb q68 (fun z69 => ?_))
        refine z_if_ne hC (off := 44) 126 (by decide +kernel) (by decide) (fun c70 => ?_) (fun c70 => ?_)
        · skip
          have E := (if_neg c70).symm.trans E
          have T := T.2 c70
          refine z_go hC (pc' := 128) (ls' := [some (.ref 0), some (.int a1), some (.long a2), none, some (.int a4), none, none, none]) (st' := [.int a1, .ref 0]) (h' := h) (cs := []) [.aload_n 0, .iload_n 1] (by decide +kernel) rfl rfl trivial ?_
          obtain ⟨t74, T⟩ := T
          refine z_callV hC hN hR (as := [.int a1]) (rest := []) ok_L_113 (by decide +kernel) (sp_X7_livesFor_n l _ h a1 t74) rfl rfl (Nat.le_of_ble_eq_true rfl) rfl rfl (Nat.le_of_ble_eq_true rfl) ⟨Nat.zero_le _, Nat.zero_le _⟩ (fun r71 h72 q73 => z_fun q73 ?_)
          refine z_go hC (pc' := 134) (ls' := [some (.ref 0), some (.int a1), some (.long a2), none, some (.int (z_vi (fn_X7_livesFor_n a1 h))), none, none, none]) (st' := [.ref 0]) (h' := (fn_X7_livesFor_n a1 h).2) (cs := []) [.istore 4, .aload_n 0] (by decide +kernel) rfl rfl trivial ?_
          obtain ⟨t78, T⟩ := T
          refine z_callV hC hN hR (as := []) (rest := []) ok_L_116 (by decide +kernel) (sp_X7_fewest_n l _ ((fn_X7_livesFor_n a1 h).2)  t78) rfl rfl (Nat.le_of_ble_eq_true rfl) rfl rfl (Nat.le_of_ble_eq_true rfl) ⟨Nat.zero_le _, Nat.zero_le _⟩ (fun r75 h76 q77 => z_fun q77 ?_)
          refine z_go hC (pc' := 141) (ls' := [some (.ref 0), some (.int a1), some (.long a2), none, some (.int (z_vi (fn_X7_livesFor_n a1 h))), some (.int (z_vi (fn_X7_fewest_n  ((fn_X7_livesFor_n a1 h).2)))), none, none]) (st' := [.int (z_vi (fn_X7_livesFor_n a1 h))]) (h' := (fn_X7_fewest_n  ((fn_X7_livesFor_n a1 h).2)).2) (cs := []) [.istore 5, .iload 4] (by decide +kernel) rfl rfl trivial ?_
          refine z_if_lt hC (off := 62) 203 (by decide +kernel) (by decide) (fun c79 => ?_) (fun c79 => ?_)
          · skip
            have E := (if_pos c79).symm.trans E
            have T := T.1 c79
            refine z_less (ls' := [some (.ref 0), none, none, none, some (.int (z_vi (fn_X7_livesFor_n a1 h))), some (.int (z_vi (fn_X7_fewest_n  ((fn_X7_livesFor_n a1 h).2)))), none, none]) (by simp [z_sub]) ?_
            exact P203  (z_vi (fn_X7_livesFor_n a1 h)) (z_vi (fn_X7_fewest_n  ((fn_X7_livesFor_n a1 h).2))) ((fn_X7_fewest_n  ((fn_X7_livesFor_n a1 h).2)).2) T E
          · skip
            have E := (if_neg c79).symm.trans E
            have T := T.2 c79
            refine z_go hC (pc' := 147) (ls' := [some (.ref 0), some (.int a1), some (.long a2), none, some (.int (z_vi (fn_X7_livesFor_n a1 h))), some (.int (z_vi (fn_X7_fewest_n  ((fn_X7_livesFor_n a1 h).2)))), none, none]) (st' := [.int a1, .int (z_vi (fn_X7_livesFor_n a1 h))]) (h' := (fn_X7_fewest_n  ((fn_X7_livesFor_n a1 h).2)).2) (cs := []) [.iload 4, .iload_n 1] (by decide +kernel) rfl rfl trivial ?_
            refine z_icmp_gt hC (off := 56) 203 (by decide +kernel) (by decide) (fun c80 => ?_) (fun c80 => ?_)
            · skip
              have E := (if_pos c80).symm.trans E
              have T := T.1 c80
              refine z_less (ls' := [some (.ref 0), none, none, none, some (.int (z_vi (fn_X7_livesFor_n a1 h))), some (.int (z_vi (fn_X7_fewest_n  ((fn_X7_livesFor_n a1 h).2)))), none, none]) (by simp [z_sub]) ?_
              exact P203  (z_vi (fn_X7_livesFor_n a1 h)) (z_vi (fn_X7_fewest_n  ((fn_X7_livesFor_n a1 h).2))) ((fn_X7_fewest_n  ((fn_X7_livesFor_n a1 h).2)).2) T E
            · skip
              have E := (if_neg c80).symm.trans E
              have T := T.2 c80
              refine z_go hC (pc' := 153) (ls' := [some (.ref 0), some (.int a1), some (.long a2), none, some (.int (z_vi (fn_X7_livesFor_n a1 h))), some (.int (z_vi (fn_X7_fewest_n  ((fn_X7_livesFor_n a1 h).2)))), none, none]) (st' := [.int (nI 6), .ref 0]) (h' := (fn_X7_fewest_n  ((fn_X7_livesFor_n a1 h).2)).2) (cs := []) [.aload_n 0, .bipush 6] (by decide +kernel) rfl rfl trivial ?_
              obtain ⟨t84, T⟩ := T
              refine z_callV hC hN hR (as := [.int (nI 6)]) (rest := []) ok_L_113 (by decide +kernel) (sp_X7_livesFor_n l _ ((fn_X7_fewest_n  ((fn_X7_livesFor_n a1 h).2)).2) (nI 6) t84) rfl rfl (Nat.le_of_ble_eq_true rfl) rfl rfl (Nat.le_of_ble_eq_true rfl) ⟨Nat.zero_le _, Nat.zero_le _⟩ (fun r81 h82 q83 => z_fun q83 ?_)
              refine z_go hC (pc' := 158) (ls' := [some (.ref 0), some (.int a1), some (.long a2), none, some (.int (z_vi (fn_X7_livesFor_n a1 h))), some (.int (z_vi (fn_X7_fewest_n  ((fn_X7_livesFor_n a1 h).2)))), none, none]) (st' := [.int (z_vi (fn_X7_livesFor_n a1 h)), .int (z_vi (fn_X7_livesFor_n (nI 6) ((fn_X7_fewest_n  ((fn_X7_livesFor_n a1 h).2)).2)))]) (h' := (fn_X7_livesFor_n (nI 6) ((fn_X7_fewest_n  ((fn_X7_livesFor_n a1 h).2)).2)).2) (cs := []) [.iload 4] (by decide +kernel) rfl rfl trivial ?_
              refine z_icmp_lt hC (off := 45) 203 (by decide +kernel) (by decide) (fun c85 => ?_) (fun c85 => ?_)
              · skip
                have E := (if_pos c85).symm.trans E
                have T := T.1 c85
                refine z_less (ls' := [some (.ref 0), none, none, none, some (.int (z_vi (fn_X7_livesFor_n a1 h))), some (.int (z_vi (fn_X7_fewest_n  ((fn_X7_livesFor_n a1 h).2)))), none, none]) (by simp [z_sub]) ?_
                exact P203  (z_vi (fn_X7_livesFor_n a1 h)) (z_vi (fn_X7_fewest_n  ((fn_X7_livesFor_n a1 h).2))) ((fn_X7_livesFor_n (nI 6) ((fn_X7_fewest_n  ((fn_X7_livesFor_n a1 h).2)).2)).2) T E
              · skip
                have E := (if_neg c85).symm.trans E
                have T := T.2 c85
                refine z_go hC (pc' := 164) (ls' := [some (.ref 0), some (.int a1), some (.long a2), none, some (.int (z_vi (fn_X7_livesFor_n a1 h))), some (.int (z_vi (fn_X7_fewest_n  ((fn_X7_livesFor_n a1 h).2)))), none, none]) (st' := [.int a1, .int (z_vi (fn_X7_livesFor_n a1 h))]) (h' := (fn_X7_livesFor_n (nI 6) ((fn_X7_fewest_n  ((fn_X7_livesFor_n a1 h).2)).2)).2) (cs := []) [.iload 4, .iload_n 1] (by decide +kernel) rfl rfl trivial ?_
                refine z_icmp_eq hC (off := 14) 178 (by decide +kernel) (by decide) (fun c86 => ?_) (fun c86 => ?_)
                · skip
                  have E := (if_pos c86).symm.trans E
                  have T := T.1 c86
                  refine z_less (ls' := [some (.ref 0), none, none, none, some (.int (z_vi (fn_X7_livesFor_n a1 h))), some (.int (z_vi (fn_X7_fewest_n  ((fn_X7_livesFor_n a1 h).2)))), none, none]) (by simp [z_sub]) ?_
                  exact P178  (z_vi (fn_X7_livesFor_n a1 h)) (z_vi (fn_X7_fewest_n  ((fn_X7_livesFor_n a1 h).2))) ((fn_X7_livesFor_n (nI 6) ((fn_X7_fewest_n  ((fn_X7_livesFor_n a1 h).2)).2)).2) T E
                · skip
                  have E := (if_neg c86).symm.trans E
                  have T := T.2 c86
                  refine z_go hC (pc' := 170) (ls' := [some (.ref 0), some (.int a1), some (.long a2), none, some (.int (z_vi (fn_X7_livesFor_n a1 h))), some (.int (z_vi (fn_X7_fewest_n  ((fn_X7_livesFor_n a1 h).2)))), none, none]) (st' := [.int (nI 6), .ref 0]) (h' := (fn_X7_livesFor_n (nI 6) ((fn_X7_fewest_n  ((fn_X7_livesFor_n a1 h).2)).2)).2) (cs := []) [.aload_n 0, .bipush 6] (by decide +kernel) rfl rfl trivial ?_
                  obtain ⟨t90, T⟩ := T
                  refine z_callV hC hN hR (as := [.int (nI 6)]) (rest := []) ok_L_113 (by decide +kernel) (sp_X7_livesFor_n l _ ((fn_X7_livesFor_n (nI 6) ((fn_X7_fewest_n  ((fn_X7_livesFor_n a1 h).2)).2)).2) (nI 6) t90) rfl rfl (Nat.le_of_ble_eq_true rfl) rfl rfl (Nat.le_of_ble_eq_true rfl) ⟨Nat.zero_le _, Nat.zero_le _⟩ (fun r87 h88 q89 => z_fun q89 ?_)
                  refine z_go hC (pc' := 175) (ls' := [some (.ref 0), some (.int a1), some (.long a2), none, some (.int (z_vi (fn_X7_livesFor_n a1 h))), some (.int (z_vi (fn_X7_fewest_n  ((fn_X7_livesFor_n a1 h).2)))), none, none]) (st' := [.int (z_vi (fn_X7_livesFor_n a1 h)), .int (z_vi (fn_X7_livesFor_n (nI 6) ((fn_X7_livesFor_n (nI 6) ((fn_X7_fewest_n  ((fn_X7_livesFor_n a1 h).2)).2)).2)))]) (h' := (fn_X7_livesFor_n (nI 6) ((fn_X7_livesFor_n (nI 6) ((fn_X7_fewest_n  ((fn_X7_livesFor_n a1 h).2)).2)).2)).2) (cs := []) [.iload 4] (by decide +kernel) rfl rfl trivial ?_
                  refine z_icmp_ne hC (off := 28) 203 (by decide +kernel) (by decide) (fun c91 => ?_) (fun c91 => ?_)
                  · skip
                    have E := (if_neg c91).symm.trans E
                    have T := T.2 c91
                    refine z_less (ls' := [some (.ref 0), none, none, none, some (.int (z_vi (fn_X7_livesFor_n a1 h))), some (.int (z_vi (fn_X7_fewest_n  ((fn_X7_livesFor_n a1 h).2)))), none, none]) (by simp [z_sub]) ?_
                    exact P203  (z_vi (fn_X7_livesFor_n a1 h)) (z_vi (fn_X7_fewest_n  ((fn_X7_livesFor_n a1 h).2))) ((fn_X7_livesFor_n (nI 6) ((fn_X7_livesFor_n (nI 6) ((fn_X7_fewest_n  ((fn_X7_livesFor_n a1 h).2)).2)).2)).2) T E
                  · skip
                    have E := (if_pos c91).symm.trans E
                    have T := T.1 c91
                    refine z_less (ls' := [some (.ref 0), none, none, none, some (.int (z_vi (fn_X7_livesFor_n a1 h))), some (.int (z_vi (fn_X7_fewest_n  ((fn_X7_livesFor_n a1 h).2)))), none, none]) (by simp [z_sub]) ?_
                    exact P178  (z_vi (fn_X7_livesFor_n a1 h)) (z_vi (fn_X7_fewest_n  ((fn_X7_livesFor_n a1 h).2))) ((fn_X7_livesFor_n (nI 6) ((fn_X7_livesFor_n (nI 6) ((fn_X7_fewest_n  ((fn_X7_livesFor_n a1 h).2)).2)).2)).2) T E
        · skip
          have E := (if_pos c70).symm.trans E
          have T := T.1 c70
          refine z_go hC (pc' := 86) (ls' := [some (.ref 0), some (.int a1), some (.long a2), none, some (.int a4), none, none, none]) (st' := [.ref 0]) (h' := h) (cs := []) [.aload_n 0] (by decide +kernel) rfl rfl trivial ?_
          refine z_callV hC hN hR (as := []) (rest := []) ok_L_69 (by decide +kernel) (sp_X7_length l _ h  trivial) rfl rfl (Nat.le_of_ble_eq_true rfl) rfl rfl (Nat.le_of_ble_eq_true rfl) ⟨Nat.zero_le _, Nat.zero_le _⟩ (fun r92 h93 q94 => z_fun q94 ?_)
          refine z_if_gt hC (off := 17) 106 (by decide +kernel) (by decide) (fun c95 => ?_) (fun c95 => ?_)
          · skip
            have E := (if_pos c95).symm.trans E
            have T := T.1 c95
            refine z_less (ls' := [some (.ref 0), none, none, none, none, none, none, none]) (by simp [z_sub]) ?_
            exact P106  h T E
          · skip
            have E := (if_neg c95).symm.trans E
            have T := T.2 c95
            refine z_go hC (pc' := 93) (ls' := [some (.ref 0), some (.int a1), some (.long a2), none, some (.int a4), none, none, none]) (st' := [.ref 0]) (h' := h) (cs := []) [.aload_n 0] (by decide +kernel) rfl rfl trivial ?_
            refine z_callV hC hN hR (as := []) (rest := []) ok_L_76 (by decide +kernel) (sp_X7_owed l _ h  trivial) rfl rfl (Nat.le_of_ble_eq_true rfl) rfl rfl (Nat.le_of_ble_eq_true rfl) ⟨Nat.zero_le _, Nat.zero_le _⟩ (fun r96 h97 q98 => z_fun q98 ?_)
            refine z_if_ne hC (off := 28) 124 (by decide +kernel) (by decide) (fun c99 => ?_) (fun c99 => ?_)
            · skip
              have E := (if_neg c99).symm.trans E
              have T := T.2 c99
              refine z_go hC (pc' := 125) (ls' := [some (.ref 0), some (.int a1), some (.long a2), none, some (.int a4), none, none, none]) (st' := [.int (nI 0)]) (h' := h) (cs := []) [.iconst 0] (by decide +kernel) rfl rfl trivial ?_
              exact z_ret_z hB rfl (show (nI 0 = 0 ∨ nI 0 = 1) by decide) (by decide +kernel) (z_lfb (show (nI 0 = 0 ∨ nI 0 = 1) by decide) E)
            · skip
              have E := (if_pos c99).symm.trans E
              have T := T.1 c99
              refine z_go hC (pc' := 100) (ls' := [some (.ref 0), some (.int a1), some (.long a2), none, some (.int a4), none, none, none]) (st' := [.ref 0]) (h' := h) (cs := []) [.aload_n 0] (by decide +kernel) rfl rfl trivial ?_
              obtain ⟨t103, T⟩ := T
              refine z_callV hC hN hR (as := []) (rest := []) ok_L_110 (by decide +kernel) (sp_X7_reach l _ h  t103) rfl rfl (Nat.le_of_ble_eq_true rfl) rfl rfl (Nat.le_of_ble_eq_true rfl) ⟨Nat.zero_le _, Nat.zero_le _⟩ (fun r100 h101 q102 => z_fun q102 ?_)
              refine z_if_ne hC (off := 21) 124 (by decide +kernel) (by decide) (fun c104 => ?_) (fun c104 => ?_)
              · skip
                have E := (if_neg c104).symm.trans E
                have T := T.2 c104
                refine z_go hC (pc' := 125) (ls' := [some (.ref 0), some (.int a1), some (.long a2), none, some (.int a4), none, none, none]) (st' := [.int (nI 0)]) (h' := (fn_X7_reach  h).2) (cs := []) [.iconst 0] (by decide +kernel) rfl rfl trivial ?_
                exact z_ret_z hB rfl (show (nI 0 = 0 ∨ nI 0 = 1) by decide) (by decide +kernel) (z_lfb (show (nI 0 = 0 ∨ nI 0 = 1) by decide) E)
              · skip
                have E := (if_pos c104).symm.trans E
                have T := T.1 c104
                refine z_less (ls' := [some (.ref 0), none, none, none, none, none, none, none]) (by simp [z_sub]) ?_
                exact P106  ((fn_X7_reach  h).2) T E
      · skip
        have E := (if_neg c65).symm.trans E
        have T := T.2 c65
        refine z_go hC (pc' := 17) (ls' := [some (.ref 0), some (.int a1), some (.long a2), none, some (.int a4), none, none, none]) (st' := [.int a4, .ref 0]) (h' := h) (cs := []) [.aload_n 0, .iload 4] (by decide +kernel) rfl rfl trivial ?_
        obtain ⟨t108, T⟩ := T
        refine z_callV hC hN hR (as := [.int a4]) (rest := []) ok_L_88 (by decide +kernel) (sp_X7_bodyAt_n l _ h a4 t108) rfl rfl (Nat.le_of_ble_eq_true rfl) rfl rfl (Nat.le_of_ble_eq_true rfl) ⟨Nat.zero_le _, Nat.zero_le _⟩ (fun r105 h106 q107 => z_fun q107 ?_)
        refine z_go hC (pc' := 30) (ls' := [some (.ref 0), some (.int a1), some (.long a2), none, some (.int a4), some (.int (z_vi0 (fn_X7_bodyAt_n a4 h))), none, none]) (st' := [.int (lg_cmp ((a2 >>> ((z_vi0 (fn_X7_bodyAt_n a4 h)).toInt64 &&& 63)) &&& 1) 1)]) (h' := h) (cs := []) [.istore 5, .lload_n 2, .iload 5, .lshr, .lconst 1, .land, .lconst 1, .lcmp] (by decide +kernel) rfl rfl trivial ?_
        refine z_if_eq hC (off := 33) 63 (by decide +kernel) (by decide) (fun c109 => ?_) (fun c109 => ?_)
        · skip
          have E := (if_pos c109).symm.trans E
          have T := T.1 c109
          refine z_go hC (pc' := 64) (ls' := [some (.ref 0), some (.int a1), some (.long a2), none, some (.int a4), some (.int (z_vi0 (fn_X7_bodyAt_n a4 h))), none, none]) (st' := [.int (nI 0)]) (h' := h) (cs := []) [.iconst 0] (by decide +kernel) rfl rfl trivial ?_
          exact z_ret_z hB rfl (show (nI 0 = 0 ∨ nI 0 = 1) by decide) (by decide +kernel) (z_lfb (show (nI 0 = 0 ∨ nI 0 = 1) by decide) E)
        · skip
          have E := (if_neg c109).symm.trans E
          have T := T.2 c109
          refine z_go hC (pc' := 36) (ls' := [some (.ref 0), some (.int a1), some (.long a2), none, some (.int a4), some (.int (z_vi0 (fn_X7_bodyAt_n a4 h))), none, none]) (st' := [.int (z_vi0 (fn_X7_bodyAt_n a4 h)), .ref 0]) (h' := h) (cs := []) [.aload_n 0, .iload 5] (by decide +kernel) rfl rfl trivial ?_
          obtain ⟨t113, T⟩ := T
          refine z_callV hC hN hR (as := [.int (z_vi0 (fn_X7_bodyAt_n a4 h))]) (rest := []) ok_L_95 (by decide +kernel) (sp_X7_isWall_n l _ h (z_vi0 (fn_X7_bodyAt_n a4 h)) t113) rfl rfl (Nat.le_of_ble_eq_true rfl) rfl rfl (Nat.le_of_ble_eq_true rfl) ⟨Nat.zero_le _, Nat.zero_le _⟩ (fun r110 h111 q112 => z_funb q112 (fun z114 => ?_))
          refine z_if_ne hC (off := 24) 63 (by decide +kernel) (by decide) (fun c115 => ?_) (fun c115 => ?_)
          · skip
            have E := (if_neg c115).symm.trans E
            have T := T.2 c115
            refine z_go hC (pc' := 64) (ls' := [some (.ref 0), some (.int a1), some (.long a2), none, some (.int a4), some (.int (z_vi0 (fn_X7_bodyAt_n a4 h))), none, none]) (st' := [.int (nI 0)]) (h' := h) (cs := []) [.iconst 0] (by decide +kernel) rfl rfl trivial ?_
            exact z_ret_z hB rfl (show (nI 0 = 0 ∨ nI 0 = 1) by decide) (by decide +kernel) (z_lfb (show (nI 0 = 0 ∨ nI 0 = 1) by decide) E)
          · skip
            have E := (if_pos c115).symm.trans E
            have T := T.1 c115
            refine z_go hC (pc' := 44) (ls' := [some (.ref 0), some (.int a1), some (.long a2), none, some (.int a4), some (.int (z_vi0 (fn_X7_bodyAt_n a4 h))), none, none]) (st' := [.int a4]) (h' := h) (cs := []) [.iload 4] (by decide +kernel) rfl rfl trivial ?_
            refine z_if_le hC (off := 21) 65 (by decide +kernel) (by decide) (fun c116 => ?_) (fun c116 => ?_)
            · skip
              have E := (if_pos c116).symm.trans E
              have T := T.1 c116
              exact P65 _ _ hk5 a1 a2 a4 (z_vi0 (fn_X7_bodyAt_n a4 h)) h T E
            · skip
              have E := (if_neg c116).symm.trans E
              have T := T.2 c116
              refine z_go hC (pc' := 54) (ls' := [some (.ref 0), some (.int a1), some (.long a2), none, some (.int a4), some (.int (z_vi0 (fn_X7_bodyAt_n a4 h))), none, none]) (st' := [.int (a4 - (nI 1)), .ref 0, .int (z_vi0 (fn_X7_bodyAt_n a4 h))]) (h' := h) (cs := []) [.iload 5, .aload_n 0, .iload 4, .iconst 1, .isub] (by decide +kernel) rfl rfl trivial ?_
              obtain ⟨t120, T⟩ := T
              refine z_callV hC hN hR (as := [.int (a4 - (nI 1))]) (rest := [.int (z_vi0 (fn_X7_bodyAt_n a4 h))]) ok_L_88 (by decide +kernel) (sp_X7_bodyAt_n l _ h (a4 - (nI 1)) t120) rfl rfl (Nat.le_of_ble_eq_true rfl) rfl rfl (Nat.le_of_ble_eq_true rfl) ⟨Nat.zero_le _, Nat.zero_le _⟩ (fun r117 h118 q119 => z_fun q119 ?_)
              refine z_callS hC hN hR (as := [.int (z_vi0 (fn_X7_bodyAt_n a4 h)), .int (z_vi0 (fn_X7_bodyAt_n (a4 - (nI 1)) h))]) (rest := []) ok_L_106 (by decide +kernel) (sp_L_areBeside l _ h (z_vi0 (fn_X7_bodyAt_n a4 h)) (z_vi0 (fn_X7_bodyAt_n (a4 - (nI 1)) h)) trivial) (Nat.le_of_ble_eq_true rfl) rfl rfl (Nat.le_of_ble_eq_true rfl) ⟨Nat.zero_le _, Nat.zero_le _⟩ (fun r121 h122 q123 => z_funb q123 (fun z124 => ?_))
              refine z_if_ne hC (off := 5) 65 (by decide +kernel) (by decide) (fun c125 => ?_) (fun c125 => ?_)
              · skip
                have E := (if_neg c125).symm.trans E
                have T := T.2 c125
                exact P65 _ _ hk5 a1 a2 a4 (z_vi0 (fn_X7_bodyAt_n a4 h)) h T E
              · skip
                have E := (if_pos c125).symm.trans E
                have T := T.1 c125
                refine z_go hC (pc' := 64) (ls' := [some (.ref 0), some (.int a1), some (.long a2), none, some (.int a4), some (.int (z_vi0 (fn_X7_bodyAt_n a4 h))), none, none]) (st' := [.int (nI 0)]) (h' := h) (cs := []) [.iconst 0] (by decide +kernel) rfl rfl trivial ?_
                exact z_ret_z hB rfl (show (nI 0 = 0 ∨ nI 0 = 1) by decide) (by decide +kernel) (z_lfb (show (nI 0 = 0 ∨ nI 0 = 1) by decide) E)
  refine z_go hC (pc' := 5) (ls' := [some (.ref 0), some (.int x), some (.long 0), none, some (.int (nI 0)), none, none, none]) (st' := []) (h' := h) (cs := []) [.lconst 0, .lstore_n 2, .iconst 0, .istore 4] (by decide +kernel) rfl rfl trivial ?_
  exact P5 2000 x 0 (nI 0) h T E
