/-! ===== printed by wip/p27/gen: the law, as functions ===== -/
def z_bk (r : z_RX) (f : String → z_R) (g : Int32 → z_H → z_R) : z_R := match r with
  | .error e => f e
  | .ok (some (.int v), h) => g v h
  | .ok (_, h) => g 0 h
theorem z_bk_er {r : z_RX} {f : String → z_R} {g : Int32 → z_H → z_R} {E : String} (h : r = .error E) : z_bk r f g = f E := by rw [h]; rfl
theorem z_bk_ok {r : z_RX} {f : String → z_R} {g : Int32 → z_H → z_R} {v : Int32} {h' : z_H} (h : r = .ok (some (.int v), h')) : z_bk r f g = g v h' := by rw [h]; rfl
theorem z_bk_okv {r : z_RX} {f : String → z_R} {g : Int32 → z_H → z_R} {h' : z_H} (h : r = .ok (none, h')) : z_bk r f g = g 0 h' := by rw [h]; rfl
theorem z_mem1 {E a : String} (h : E ∈ [a]) : E = a := List.mem_singleton.mp h
theorem z_mem2 {E a b : String} (h : E ∈ [a, b]) : E = a ∨ E = b := by simpa using h
theorem z_mem3 {E a b c : String} (h : E ∈ [a, b, c]) : E = a ∨ E = b ∨ E = c := by simpa using h
theorem lk_L_14 : Cond.classLink RL 14 z_EI ∈ z_big := z_bigT 323 (by decide +kernel) rfl
theorem lk_L_17 : Cond.classLink RL 17 z_ES ∈ z_big := z_bigT 324 (by decide +kernel) rfl
theorem lk_L_23 : Cond.classLink RL 23 z_EA ∈ z_big := z_bigT 433 (by decide +kernel) rfl
theorem cst_z_EI : Cond.castable z_EI z_EI ∈ z_nst := z_nstT 331 (by decide +kernel) rfl
theorem cst_z_EA : Cond.castable z_EA z_EA ∈ z_nst := z_nstT 444 (by decide +kernel) rfl
theorem cst_z_ES : Cond.castable z_ES z_ES ∈ z_nst := z_nstT 410 (by decide +kernel) rfl
theorem ok_L_46 : z_okS RL 46 yL_low cL_low 2 (some .int) 2 := ⟨⟨z_bigT 313 (by decide +kernel) rfl, z_bigT 314 (by decide +kernel) rfl⟩, z_bigT 0 (by decide +kernel) rfl, z_bigT 315 (by decide +kernel) rfl, ⟨by decide, by decide, by decide +kernel⟩, by decide⟩
theorem ok_L_51 : z_okH RL 51 yL_setWall cL_setWall 4 (some .int) [(0, 14, 15, 14), (0, 14, 19, 17)] 3 := ⟨⟨z_bigT 320 (by decide +kernel) rfl, z_bigT 321 (by decide +kernel) rfl⟩, z_bigT 0 (by decide +kernel) rfl, z_bigT 322 (by decide +kernel) rfl, ⟨by decide, by decide, by decide +kernel⟩, by decide⟩
theorem ok_L_54 : z_okH RL 54 yL_setLink cL_setLink 4 (some .int) [(0, 6, 7, 14), (0, 6, 11, 23), (0, 6, 15, 17)] 3 := ⟨⟨z_bigT 430 (by decide +kernel) rfl, z_bigT 431 (by decide +kernel) rfl⟩, z_bigT 0 (by decide +kernel) rfl, z_bigT 432 (by decide +kernel) rfl, ⟨by decide, by decide, by decide +kernel⟩, by decide⟩
theorem ok_L_57 : z_okH RL 57 yL_end cL_end 2 (some .int) [(0, 4, 5, 17)] 1 := ⟨⟨z_bigT 465 (by decide +kernel) rfl, z_bigT 466 (by decide +kernel) rfl⟩, z_bigT 0 (by decide +kernel) rfl, z_bigT 467 (by decide +kernel) rfl, ⟨by decide, by decide, by decide +kernel⟩, by decide⟩
theorem ok_L_64 : z_okH RL 64 yL_play cL_play 3 (some .int) [(0, 5, 6, 23), (0, 5, 10, 17)] 2 := ⟨⟨z_bigT 478 (by decide +kernel) rfl, z_bigT 479 (by decide +kernel) rfl⟩, z_bigT 0 (by decide +kernel) rfl, z_bigT 480 (by decide +kernel) rfl, ⟨by decide, by decide, by decide +kernel⟩, by decide⟩
theorem ok_L_67 : z_okH RL 67 yL_begin cL_begin 4 (some .int) [(0, 7, 8, 14), (0, 7, 12, 23), (0, 7, 16, 17)] 3 := ⟨⟨z_bigT 548 (by decide +kernel) rfl, z_bigT 549 (by decide +kernel) rfl⟩, z_bigT 0 (by decide +kernel) rfl, z_bigT 550 (by decide +kernel) rfl, ⟨by decide, by decide, by decide +kernel⟩, by decide⟩
theorem ok_L_72 : z_okH RL 72 yL_feed cL_feed 3 (some .int) [(0, 5, 6, 14), (0, 5, 10, 17)] 2 := ⟨⟨z_bigT 570 (by decide +kernel) rfl, z_bigT 571 (by decide +kernel) rfl⟩, z_bigT 0 (by decide +kernel) rfl, z_bigT 572 (by decide +kernel) rfl, ⟨by decide, by decide, by decide +kernel⟩, by decide⟩
theorem ok_L_74 : z_okH RL 74 yL_step cL_step 3 (some .int) [(0, 5, 6, 14), (0, 5, 10, 17)] 2 := ⟨⟨z_bigT 587 (by decide +kernel) rfl, z_bigT 588 (by decide +kernel) rfl⟩, z_bigT 0 (by decide +kernel) rfl, z_bigT 589 (by decide +kernel) rfl, ⟨by decide, by decide, by decide +kernel⟩, by decide⟩
theorem ok_L_98 : z_okH RL 98 yL_placeOf cL_placeOf 3 (some .int) [(0, 5, 6, 14), (0, 5, 10, 17)] 2 := ⟨⟨z_bigT 637 (by decide +kernel) rfl, z_bigT 638 (by decide +kernel) rfl⟩, z_bigT 0 (by decide +kernel) rfl, z_bigT 639 (by decide +kernel) rfl, ⟨by decide, by decide, by decide +kernel⟩, by decide⟩
theorem ok_L_106 : z_okS RL 106 yL_areBeside cL_areBeside 4 (some .boolean) 2 := ⟨⟨z_bigT 686 (by decide +kernel) rfl, z_bigT 687 (by decide +kernel) rfl⟩, z_bigT 0 (by decide +kernel) rfl, z_bigT 688 (by decide +kernel) rfl, ⟨by decide, by decide, by decide +kernel⟩, by decide⟩
theorem ok_L_126 : z_okS RL 126 yL_cell cL_cell 2 (some .int) 2 := ⟨⟨z_bigT 310 (by decide +kernel) rfl, z_bigT 311 (by decide +kernel) rfl⟩, z_bigT 0 (by decide +kernel) rfl, z_bigT 312 (by decide +kernel) rfl, ⟨by decide, by decide, by decide +kernel⟩, by decide⟩
theorem ok_L_130 : z_okS RL 130 yL_act cL_act 4 (some .int) 2 := ⟨⟨z_bigT 317 (by decide +kernel) rfl, z_bigT 318 (by decide +kernel) rfl⟩, z_bigT 0 (by decide +kernel) rfl, z_bigT 319 (by decide +kernel) rfl, ⟨by decide, by decide, by decide +kernel⟩, by decide⟩
theorem ok_L_133 : z_okS RL 133 yL_areAlike cL_areAlike 4 (some .boolean) 2 := ⟨⟨z_bigT 602 (by decide +kernel) rfl, z_bigT 603 (by decide +kernel) rfl⟩, z_bigT 0 (by decide +kernel) rfl, z_bigT 604 (by decide +kernel) rfl, ⟨by decide, by decide, by decide +kernel⟩, by decide⟩
theorem ok_L_137 : z_okS RL 137 yL_isCycleSo cL_isCycleSo 6 (some .boolean) 1 := ⟨⟨z_bigT 634 (by decide +kernel) rfl, z_bigT 635 (by decide +kernel) rfl⟩, z_bigT 0 (by decide +kernel) rfl, z_bigT 636 (by decide +kernel) rfl, ⟨by decide, by decide, by decide +kernel⟩, by decide⟩
theorem ok_L_141 : z_okS RL 141 yL_isWormSo cL_isWormSo 8 (some .boolean) 2 := ⟨⟨z_bigT 689 (by decide +kernel) rfl, z_bigT 690 (by decide +kernel) rfl⟩, z_bigT 0 (by decide +kernel) rfl, z_bigT 691 (by decide +kernel) rfl, ⟨by decide, by decide, by decide +kernel⟩, by decide⟩

def fn_L_setWall (x : Int32) (y : Int32) (h : z_H) : z_R := z_bk (fn_X7_setWall x y h) (fun Ex => if Ex = z_EI then (some (.int (-99999)), h) else (some (.int (-99999)), h)) (fun v1 hh => if v1 = 0 then (some (.int (nI 0)), hh) else (some (.int (nI 1)), hh))
def tk_L_setWall (x : Int32) (y : Int32) (h : z_H) : Prop := tk_X7_setWall x y h
set_option maxHeartbeats 4000000 in
set_option maxRecDepth 100000 in
theorem sp_L_setWall (l : Launch) (hl0 : l.stackTraces = false) (ext : z_Sh) (h : z_H) (x : Int32) (y : Int32) (T : tk_L_setWall x y h) : z_Spx l 7 yL_setWall (.codeWith yL_setWall cL_setWall 4 (some .int) [(0, 14, 15, 14), (0, 14, 19, 17)]) 1 6 [.ref 0, .int x, .int y] (z_c ext) h (z_PI (fn_L_setWall x y h)) (fun _ => False) := by
  refine z_enterh ft_L (by decide +kernel) fo_L (Nat.le_of_ble_eq_true rfl) ?_
  intro p e R s m args below meth c D dA ad hB
  have hC := hB.1.1
  have hN := hB.1.2.1
  have hR := hB.1.2.2.1
  have hZ := hB.2.1
  have hKin := hB.2.2.1
  unfold tk_L_setWall at T
  have E : (z_bk (fn_X7_setWall x y h) (fun Ex => if Ex = z_EI then (some (.int (-99999)), h) else (some (.int (-99999)), h)) (fun v1 hh => if v1 = 0 then (some (.int (nI 0)), hh) else (some (.int (nI 1)), hh))) = (fn_L_setWall x y h) := rfl
  generalize (fn_L_setWall x y h) = RR at E ⊢
  refine z_go hC (pc' := 3) (ls' := [some (.ref 0), some (.int x), some (.int y), none]) (st' := [.int y, .int x, .ref 0]) (h' := h) (cs := []) [.aload_n 0, .iload_n 1, .iload_n 2] (by decide +kernel) rfl rfl trivial ?_
  have tq := T
  refine z_callVx hC hN hR hZ hKin (as := [.int x, .int y]) (rest := []) ok_L_8 (by decide +kernel) (sp_X7_setWall l hl0 _ h x y tq) rfl rfl (Nat.le_of_ble_eq_true rfl) rfl rfl (Nat.le_of_ble_eq_true rfl) ⟨Nat.le_trans (Nat.le_of_ble_eq_true rfl) hB.2.2.2.2.1, Nat.le_trans (Nat.le_of_ble_eq_true rfl) hB.2.2.2.2.2⟩ (fun Ex qx => ?_) (fun rv hh q => ?_)
  · skip
    have E := (z_bk_er qx.1).symm.trans E
    try dsimp only at E
    rcases z_mem2 qx.2 with rfl | rfl
    · skip
      have E := (if_pos rfl).symm.trans E
      refine z_catch (ls' := [some (.ref 0), some (.int x), some (.int y), none]) (i := 3) hB [] ⟨0, 14, 15, 14⟩ [⟨0, 14, 19, 17⟩] rfl (by decide) (fun z hz => absurd hz List.not_mem_nil) rfl (by decide) lk_L_14 cst_z_EI (by decide) rfl rfl 1 (Or.inr ⟨rfl, 3, rfl, by decide +kernel⟩) ?_
      refine z_ldc hC (idx := 16) (v := -99999) (by decide +kernel) (by decide +kernel) ?_
      exact z_retx_i hB rfl ⟨Nat.le_of_ble_eq_true rfl, Nat.le_of_ble_eq_true rfl⟩ (by decide +kernel) (z_lfi E)
    · skip
      have E := (if_neg (by decide)).symm.trans E
      refine z_catch (ls' := [some (.ref 0), some (.int x), some (.int y), none]) (i := 3) hB [⟨0, 14, 15, 14⟩] ⟨0, 14, 19, 17⟩ [] rfl (by decide) (List.forall_mem_cons.mpr ⟨⟨by decide, z_EI, by decide, by decide, lk_L_14⟩, (fun z hz => absurd hz List.not_mem_nil)⟩) rfl (by decide) lk_L_17 cst_z_ES (by decide) rfl rfl 1 (Or.inr ⟨rfl, 3, rfl, by decide +kernel⟩) ?_
      refine z_ldc hC (idx := 16) (v := -99999) (by decide +kernel) (by decide +kernel) ?_
      exact z_retx_i hB rfl ⟨Nat.le_of_ble_eq_true rfl, Nat.le_of_ble_eq_true rfl⟩ (by decide +kernel) (z_lfi E)
  · skip
    obtain ⟨v1, rfl, q2, zz⟩ := q
    have E := (z_bk_ok q2).symm.trans E
    try dsimp only at E
    refine z_if_eq hC (off := 7) 13 (by decide +kernel) (by decide) (fun c1 => ?_) (fun c1 => ?_)
    · skip
      have E := (if_pos c1).symm.trans E
      refine z_go hC (pc' := 14) (ls' := [some (.ref 0), some (.int x), some (.int y), none]) (st' := [.int (nI 0)]) (h' := hh) (cs := []) [.iconst 0] (by decide +kernel) rfl rfl trivial ?_
      exact z_retx_i hB rfl ⟨Nat.le_of_ble_eq_true rfl, Nat.le_of_ble_eq_true rfl⟩ (by decide +kernel) (z_lfi E)
    · skip
      have E := (if_neg c1).symm.trans E
      refine z_go hC (pc' := 10) (ls' := [some (.ref 0), some (.int x), some (.int y), none]) (st' := [.int (nI 1)]) (h' := hh) (cs := []) [.iconst 1] (by decide +kernel) rfl rfl trivial ?_
      refine z_goto hC (off := 4) 14 (by decide +kernel) (by decide) ?_
      exact z_retx_i hB rfl ⟨Nat.le_of_ble_eq_true rfl, Nat.le_of_ble_eq_true rfl⟩ (by decide +kernel) (z_lfi E)

def fn_L_setLink (x : Int32) (y : Int32) (h : z_H) : z_R := z_bk (fn_X7_setLink x y h) (fun Ex => if Ex = z_EI then (some (.int (-99999)), h) else if Ex = z_EA then (some (.int (-99999)), h) else (some (.int (-99999)), h)) (fun v1 hh => (some (.int v1), hh))
def tk_L_setLink (x : Int32) (y : Int32) (h : z_H) : Prop := tk_X7_setLink x y h
set_option maxHeartbeats 4000000 in
set_option maxRecDepth 100000 in
theorem sp_L_setLink (l : Launch) (hl0 : l.stackTraces = false) (ext : z_Sh) (h : z_H) (x : Int32) (y : Int32) (T : tk_L_setLink x y h) : z_Spx l 8 yL_setLink (.codeWith yL_setLink cL_setLink 4 (some .int) [(0, 6, 7, 14), (0, 6, 11, 23), (0, 6, 15, 17)]) 2 12 [.ref 0, .int x, .int y] (z_c ext) h (z_PI (fn_L_setLink x y h)) (fun _ => False) := by
  refine z_enterh ft_L (by decide +kernel) fo_L (Nat.le_of_ble_eq_true rfl) ?_
  intro p e R s m args below meth c D dA ad hB
  have hC := hB.1.1
  have hN := hB.1.2.1
  have hR := hB.1.2.2.1
  have hZ := hB.2.1
  have hKin := hB.2.2.1
  unfold tk_L_setLink at T
  have E : (z_bk (fn_X7_setLink x y h) (fun Ex => if Ex = z_EI then (some (.int (-99999)), h) else if Ex = z_EA then (some (.int (-99999)), h) else (some (.int (-99999)), h)) (fun v1 hh => (some (.int v1), hh))) = (fn_L_setLink x y h) := rfl
  generalize (fn_L_setLink x y h) = RR at E ⊢
  refine z_go hC (pc' := 3) (ls' := [some (.ref 0), some (.int x), some (.int y), none]) (st' := [.int y, .int x, .ref 0]) (h' := h) (cs := []) [.aload_n 0, .iload_n 1, .iload_n 2] (by decide +kernel) rfl rfl trivial ?_
  have tq := T
  refine z_callVx hC hN hR hZ hKin (as := [.int x, .int y]) (rest := []) ok_L_19 (by decide +kernel) (sp_X7_setLink l hl0 _ h x y tq) rfl rfl (Nat.le_of_ble_eq_true rfl) rfl rfl (Nat.le_of_ble_eq_true rfl) ⟨Nat.le_trans (Nat.le_of_ble_eq_true rfl) hB.2.2.2.2.1, Nat.le_trans (Nat.le_of_ble_eq_true rfl) hB.2.2.2.2.2⟩ (fun Ex qx => ?_) (fun rv hh q => ?_)
  · skip
    have E := (z_bk_er qx.1).symm.trans E
    try dsimp only at E
    rcases z_mem3 qx.2 with rfl | rfl | rfl
    · skip
      have E := (if_pos rfl).symm.trans E
      refine z_catch (ls' := [some (.ref 0), some (.int x), some (.int y), none]) (i := 3) hB [] ⟨0, 6, 7, 14⟩ [⟨0, 6, 11, 23⟩, ⟨0, 6, 15, 17⟩] rfl (by decide) (fun z hz => absurd hz List.not_mem_nil) rfl (by decide) lk_L_14 cst_z_EI (by decide) rfl rfl 1 (Or.inr ⟨rfl, 3, rfl, by decide +kernel⟩) ?_
      refine z_ldc hC (idx := 16) (v := -99999) (by decide +kernel) (by decide +kernel) ?_
      exact z_retx_i hB rfl ⟨Nat.le_of_ble_eq_true rfl, Nat.le_of_ble_eq_true rfl⟩ (by decide +kernel) (z_lfi E)
    · skip
      have E := (if_neg (by decide)).symm.trans E
      have E := (if_pos rfl).symm.trans E
      refine z_catch (ls' := [some (.ref 0), some (.int x), some (.int y), none]) (i := 3) hB [⟨0, 6, 7, 14⟩] ⟨0, 6, 11, 23⟩ [⟨0, 6, 15, 17⟩] rfl (by decide) (List.forall_mem_cons.mpr ⟨⟨by decide, z_EI, by decide, by decide, lk_L_14⟩, (fun z hz => absurd hz List.not_mem_nil)⟩) rfl (by decide) lk_L_23 cst_z_EA (by decide) rfl rfl 1 (Or.inr ⟨rfl, 3, rfl, by decide +kernel⟩) ?_
      refine z_ldc hC (idx := 16) (v := -99999) (by decide +kernel) (by decide +kernel) ?_
      exact z_retx_i hB rfl ⟨Nat.le_of_ble_eq_true rfl, Nat.le_of_ble_eq_true rfl⟩ (by decide +kernel) (z_lfi E)
    · skip
      have E := (if_neg (by decide)).symm.trans E
      have E := (if_neg (by decide)).symm.trans E
      refine z_catch (ls' := [some (.ref 0), some (.int x), some (.int y), none]) (i := 3) hB [⟨0, 6, 7, 14⟩, ⟨0, 6, 11, 23⟩] ⟨0, 6, 15, 17⟩ [] rfl (by decide) (List.forall_mem_cons.mpr ⟨⟨by decide, z_EI, by decide, by decide, lk_L_14⟩, (List.forall_mem_cons.mpr ⟨⟨by decide, z_EA, by decide, by decide, lk_L_23⟩, (fun z hz => absurd hz List.not_mem_nil)⟩)⟩) rfl (by decide) lk_L_17 cst_z_ES (by decide) rfl rfl 1 (Or.inr ⟨rfl, 3, rfl, by decide +kernel⟩) ?_
      refine z_ldc hC (idx := 16) (v := -99999) (by decide +kernel) (by decide +kernel) ?_
      exact z_retx_i hB rfl ⟨Nat.le_of_ble_eq_true rfl, Nat.le_of_ble_eq_true rfl⟩ (by decide +kernel) (z_lfi E)
  · skip
    obtain ⟨v1, rfl, q2⟩ := q
    have E := (z_bk_ok q2).symm.trans E
    try dsimp only at E
    exact z_retx_i hB rfl ⟨Nat.le_of_ble_eq_true rfl, Nat.le_of_ble_eq_true rfl⟩ (by decide +kernel) (z_lfi E)

def fn_L_begin (x : Int32) (y : Int32) (h : z_H) : z_R := z_bk (fn_X7_begin x y h) (fun Ex => if Ex = z_EI then (some (.int (-99999)), h) else if Ex = z_EA then (some (.int (-99999)), h) else (some (.int (-99999)), h)) (fun v1 hh => (some (.int (nI 0)), hh))
set_option maxHeartbeats 4000000 in
set_option maxRecDepth 100000 in
theorem sp_L_begin (l : Launch) (hl0 : l.stackTraces = false) (ext : z_Sh) (h : z_H) (x : Int32) (y : Int32)  : z_Spx l 8 yL_begin (.codeWith yL_begin cL_begin 4 (some .int) [(0, 7, 8, 14), (0, 7, 12, 23), (0, 7, 16, 17)]) 2 12 [.ref 0, .int x, .int y] (z_c ext) h (z_PI (fn_L_begin x y h)) (fun _ => False) := by
  refine z_enterh ft_L (by decide +kernel) fo_L (Nat.le_of_ble_eq_true rfl) ?_
  intro p e R s m args below meth c D dA ad hB
  have hC := hB.1.1
  have hN := hB.1.2.1
  have hR := hB.1.2.2.1
  have hZ := hB.2.1
  have hKin := hB.2.2.1
  have E : (z_bk (fn_X7_begin x y h) (fun Ex => if Ex = z_EI then (some (.int (-99999)), h) else if Ex = z_EA then (some (.int (-99999)), h) else (some (.int (-99999)), h)) (fun v1 hh => (some (.int (nI 0)), hh))) = (fn_L_begin x y h) := rfl
  generalize (fn_L_begin x y h) = RR at E ⊢
  refine z_go hC (pc' := 3) (ls' := [some (.ref 0), some (.int x), some (.int y), none]) (st' := [.int y, .int x, .ref 0]) (h' := h) (cs := []) [.aload_n 0, .iload_n 1, .iload_n 2] (by decide +kernel) rfl rfl trivial ?_
  refine z_callVx hC hN hR hZ hKin (as := [.int x, .int y]) (rest := []) ok_L_25 (by decide +kernel) (sp_X7_begin l hl0 _ h x y) rfl rfl (Nat.le_of_ble_eq_true rfl) rfl rfl (Nat.le_of_ble_eq_true rfl) ⟨Nat.le_trans (Nat.le_of_ble_eq_true rfl) hB.2.2.2.2.1, Nat.le_trans (Nat.le_of_ble_eq_true rfl) hB.2.2.2.2.2⟩ (fun Ex qx => ?_) (fun rv hh q => ?_)
  · skip
    have E := (z_bk_er qx.1).symm.trans E
    try dsimp only at E
    rcases z_mem3 qx.2 with rfl | rfl | rfl
    · skip
      have E := (if_pos rfl).symm.trans E
      refine z_catch (ls' := [some (.ref 0), some (.int x), some (.int y), none]) (i := 3) hB [] ⟨0, 7, 8, 14⟩ [⟨0, 7, 12, 23⟩, ⟨0, 7, 16, 17⟩] rfl (by decide) (fun z hz => absurd hz List.not_mem_nil) rfl (by decide) lk_L_14 cst_z_EI (by decide) rfl rfl 1 (Or.inr ⟨rfl, 3, rfl, by decide +kernel⟩) ?_
      refine z_ldc hC (idx := 16) (v := -99999) (by decide +kernel) (by decide +kernel) ?_
      exact z_retx_i hB rfl ⟨Nat.le_of_ble_eq_true rfl, Nat.le_of_ble_eq_true rfl⟩ (by decide +kernel) (z_lfi E)
    · skip
      have E := (if_neg (by decide)).symm.trans E
      have E := (if_pos rfl).symm.trans E
      refine z_catch (ls' := [some (.ref 0), some (.int x), some (.int y), none]) (i := 3) hB [⟨0, 7, 8, 14⟩] ⟨0, 7, 12, 23⟩ [⟨0, 7, 16, 17⟩] rfl (by decide) (List.forall_mem_cons.mpr ⟨⟨by decide, z_EI, by decide, by decide, lk_L_14⟩, (fun z hz => absurd hz List.not_mem_nil)⟩) rfl (by decide) lk_L_23 cst_z_EA (by decide) rfl rfl 1 (Or.inr ⟨rfl, 3, rfl, by decide +kernel⟩) ?_
      refine z_ldc hC (idx := 16) (v := -99999) (by decide +kernel) (by decide +kernel) ?_
      exact z_retx_i hB rfl ⟨Nat.le_of_ble_eq_true rfl, Nat.le_of_ble_eq_true rfl⟩ (by decide +kernel) (z_lfi E)
    · skip
      have E := (if_neg (by decide)).symm.trans E
      have E := (if_neg (by decide)).symm.trans E
      refine z_catch (ls' := [some (.ref 0), some (.int x), some (.int y), none]) (i := 3) hB [⟨0, 7, 8, 14⟩, ⟨0, 7, 12, 23⟩] ⟨0, 7, 16, 17⟩ [] rfl (by decide) (List.forall_mem_cons.mpr ⟨⟨by decide, z_EI, by decide, by decide, lk_L_14⟩, (List.forall_mem_cons.mpr ⟨⟨by decide, z_EA, by decide, by decide, lk_L_23⟩, (fun z hz => absurd hz List.not_mem_nil)⟩)⟩) rfl (by decide) lk_L_17 cst_z_ES (by decide) rfl rfl 1 (Or.inr ⟨rfl, 3, rfl, by decide +kernel⟩) ?_
      refine z_ldc hC (idx := 16) (v := -99999) (by decide +kernel) (by decide +kernel) ?_
      exact z_retx_i hB rfl ⟨Nat.le_of_ble_eq_true rfl, Nat.le_of_ble_eq_true rfl⟩ (by decide +kernel) (z_lfi E)
  · skip
    obtain ⟨rfl, q2⟩ := q
    have E := (z_bk_okv q2).symm.trans E
    try dsimp only at E
    refine z_go hC (pc' := 7) (ls' := [some (.ref 0), some (.int x), some (.int y), none]) (st' := [.int (nI 0)]) (h' := hh) (cs := []) [.iconst 0] (by decide +kernel) rfl rfl trivial ?_
    exact z_retx_i hB rfl ⟨Nat.le_of_ble_eq_true rfl, Nat.le_of_ble_eq_true rfl⟩ (by decide +kernel) (z_lfi E)

def fn_L_end  (h : z_H) : z_R := z_bk (fn_X7_end  h) (fun Ex => (some (.int (-99999)), h)) (fun v1 hh => (some (.int v1), hh))
set_option maxHeartbeats 4000000 in
set_option maxRecDepth 100000 in
theorem sp_L_end (l : Launch) (hl0 : l.stackTraces = false) (ext : z_Sh) (h : z_H)   : z_Spx l 7 yL_end (.codeWith yL_end cL_end 2 (some .int) [(0, 4, 5, 17)]) 1 6 [.ref 0] (z_c ext) h (z_PI (fn_L_end  h)) (fun _ => False) := by
  refine z_enterh ft_L (by decide +kernel) fo_L (Nat.le_of_ble_eq_true rfl) ?_
  intro p e R s m args below meth c D dA ad hB
  have hC := hB.1.1
  have hN := hB.1.2.1
  have hR := hB.1.2.2.1
  have hZ := hB.2.1
  have hKin := hB.2.2.1
  have E : (z_bk (fn_X7_end  h) (fun Ex => (some (.int (-99999)), h)) (fun v1 hh => (some (.int v1), hh))) = (fn_L_end  h) := rfl
  generalize (fn_L_end  h) = RR at E ⊢
  refine z_go hC (pc' := 1) (ls' := [some (.ref 0), none]) (st' := [.ref 0]) (h' := h) (cs := []) [.aload_n 0] (by decide +kernel) rfl rfl trivial ?_
  refine z_callVx hC hN hR hZ hKin (as := []) (rest := []) ok_L_29 (by decide +kernel) (sp_X7_end l hl0 _ h ) rfl rfl (Nat.le_of_ble_eq_true rfl) rfl rfl (Nat.le_of_ble_eq_true rfl) ⟨Nat.le_trans (Nat.le_of_ble_eq_true rfl) hB.2.2.2.2.1, Nat.le_trans (Nat.le_of_ble_eq_true rfl) hB.2.2.2.2.2⟩ (fun Ex qx => ?_) (fun rv hh q => ?_)
  · skip
    have E := (z_bk_er qx.1).symm.trans E
    try dsimp only at E
    obtain rfl := z_mem1 qx.2
    refine z_catch (ls' := [some (.ref 0), none]) (i := 1) hB [] ⟨0, 4, 5, 17⟩ [] rfl (by decide) (fun z hz => absurd hz List.not_mem_nil) rfl (by decide) lk_L_17 cst_z_ES (by decide) rfl rfl 1 (Or.inr ⟨rfl, 1, rfl, by decide +kernel⟩) ?_
    refine z_ldc hC (idx := 16) (v := -99999) (by decide +kernel) (by decide +kernel) ?_
    exact z_retx_i hB rfl ⟨Nat.le_of_ble_eq_true rfl, Nat.le_of_ble_eq_true rfl⟩ (by decide +kernel) (z_lfi E)
  · skip
    obtain ⟨v1, rfl, q2⟩ := q
    have E := (z_bk_ok q2).symm.trans E
    try dsimp only at E
    exact z_retx_i hB rfl ⟨Nat.le_of_ble_eq_true rfl, Nat.le_of_ble_eq_true rfl⟩ (by decide +kernel) (z_lfi E)

def fn_L_feed (x : Int32) (h : z_H) : z_R := z_bk (fn_X7_feed x h) (fun Ex => if Ex = z_EI then (some (.int (-99999)), h) else (some (.int (-99999)), h)) (fun v1 hh => (some (.int v1), hh))
set_option maxHeartbeats 4000000 in
set_option maxRecDepth 100000 in
theorem sp_L_feed (l : Launch) (hl0 : l.stackTraces = false) (ext : z_Sh) (h : z_H) (x : Int32)  : z_Spx l 8 yL_feed (.codeWith yL_feed cL_feed 3 (some .int) [(0, 5, 6, 14), (0, 5, 10, 17)]) 2 12 [.ref 0, .int x] (z_c ext) h (z_PI (fn_L_feed x h)) (fun _ => False) := by
  refine z_enterh ft_L (by decide +kernel) fo_L (Nat.le_of_ble_eq_true rfl) ?_
  intro p e R s m args below meth c D dA ad hB
  have hC := hB.1.1
  have hN := hB.1.2.1
  have hR := hB.1.2.2.1
  have hZ := hB.2.1
  have hKin := hB.2.2.1
  have E : (z_bk (fn_X7_feed x h) (fun Ex => if Ex = z_EI then (some (.int (-99999)), h) else (some (.int (-99999)), h)) (fun v1 hh => (some (.int v1), hh))) = (fn_L_feed x h) := rfl
  generalize (fn_L_feed x h) = RR at E ⊢
  refine z_go hC (pc' := 2) (ls' := [some (.ref 0), some (.int x), none]) (st' := [.int x, .ref 0]) (h' := h) (cs := []) [.aload_n 0, .iload_n 1] (by decide +kernel) rfl rfl trivial ?_
  refine z_callVx hC hN hR hZ hKin (as := [.int x]) (rest := []) ok_L_33 (by decide +kernel) (sp_X7_feed l hl0 _ h x) rfl rfl (Nat.le_of_ble_eq_true rfl) rfl rfl (Nat.le_of_ble_eq_true rfl) ⟨Nat.le_trans (Nat.le_of_ble_eq_true rfl) hB.2.2.2.2.1, Nat.le_trans (Nat.le_of_ble_eq_true rfl) hB.2.2.2.2.2⟩ (fun Ex qx => ?_) (fun rv hh q => ?_)
  · skip
    have E := (z_bk_er qx.1).symm.trans E
    try dsimp only at E
    rcases z_mem2 qx.2 with rfl | rfl
    · skip
      have E := (if_pos rfl).symm.trans E
      refine z_catch (ls' := [some (.ref 0), some (.int x), none]) (i := 2) hB [] ⟨0, 5, 6, 14⟩ [⟨0, 5, 10, 17⟩] rfl (by decide) (fun z hz => absurd hz List.not_mem_nil) rfl (by decide) lk_L_14 cst_z_EI (by decide) rfl rfl 1 (Or.inr ⟨rfl, 2, rfl, by decide +kernel⟩) ?_
      refine z_ldc hC (idx := 16) (v := -99999) (by decide +kernel) (by decide +kernel) ?_
      exact z_retx_i hB rfl ⟨Nat.le_of_ble_eq_true rfl, Nat.le_of_ble_eq_true rfl⟩ (by decide +kernel) (z_lfi E)
    · skip
      have E := (if_neg (by decide)).symm.trans E
      refine z_catch (ls' := [some (.ref 0), some (.int x), none]) (i := 2) hB [⟨0, 5, 6, 14⟩] ⟨0, 5, 10, 17⟩ [] rfl (by decide) (List.forall_mem_cons.mpr ⟨⟨by decide, z_EI, by decide, by decide, lk_L_14⟩, (fun z hz => absurd hz List.not_mem_nil)⟩) rfl (by decide) lk_L_17 cst_z_ES (by decide) rfl rfl 1 (Or.inr ⟨rfl, 2, rfl, by decide +kernel⟩) ?_
      refine z_ldc hC (idx := 16) (v := -99999) (by decide +kernel) (by decide +kernel) ?_
      exact z_retx_i hB rfl ⟨Nat.le_of_ble_eq_true rfl, Nat.le_of_ble_eq_true rfl⟩ (by decide +kernel) (z_lfi E)
  · skip
    obtain ⟨v1, rfl, q2⟩ := q
    have E := (z_bk_ok q2).symm.trans E
    try dsimp only at E
    exact z_retx_i hB rfl ⟨Nat.le_of_ble_eq_true rfl, Nat.le_of_ble_eq_true rfl⟩ (by decide +kernel) (z_lfi E)

def fn_L_step (x : Int32) (h : z_H) : z_R := z_bk (fn_X7_step x h) (fun Ex => if Ex = z_EI then (some (.int (-99999)), h) else (some (.int (-99999)), h)) (fun v1 hh => (some (.int v1), hh))
set_option maxHeartbeats 4000000 in
set_option maxRecDepth 100000 in
theorem sp_L_step (l : Launch) (hl0 : l.stackTraces = false) (ext : z_Sh) (h : z_H) (x : Int32)  : z_Spx l 8 yL_step (.codeWith yL_step cL_step 3 (some .int) [(0, 5, 6, 14), (0, 5, 10, 17)]) 2 12 [.ref 0, .int x] (z_c ext) h (z_PI (fn_L_step x h)) (fun _ => False) := by
  refine z_enterh ft_L (by decide +kernel) fo_L (Nat.le_of_ble_eq_true rfl) ?_
  intro p e R s m args below meth c D dA ad hB
  have hC := hB.1.1
  have hN := hB.1.2.1
  have hR := hB.1.2.2.1
  have hZ := hB.2.1
  have hKin := hB.2.2.1
  have E : (z_bk (fn_X7_step x h) (fun Ex => if Ex = z_EI then (some (.int (-99999)), h) else (some (.int (-99999)), h)) (fun v1 hh => (some (.int v1), hh))) = (fn_L_step x h) := rfl
  generalize (fn_L_step x h) = RR at E ⊢
  refine z_go hC (pc' := 2) (ls' := [some (.ref 0), some (.int x), none]) (st' := [.int x, .ref 0]) (h' := h) (cs := []) [.aload_n 0, .iload_n 1] (by decide +kernel) rfl rfl trivial ?_
  refine z_callVx hC hN hR hZ hKin (as := [.int x]) (rest := []) ok_L_37 (by decide +kernel) (sp_X7_step l hl0 _ h x) rfl rfl (Nat.le_of_ble_eq_true rfl) rfl rfl (Nat.le_of_ble_eq_true rfl) ⟨Nat.le_trans (Nat.le_of_ble_eq_true rfl) hB.2.2.2.2.1, Nat.le_trans (Nat.le_of_ble_eq_true rfl) hB.2.2.2.2.2⟩ (fun Ex qx => ?_) (fun rv hh q => ?_)
  · skip
    have E := (z_bk_er qx.1).symm.trans E
    try dsimp only at E
    rcases z_mem2 qx.2 with rfl | rfl
    · skip
      have E := (if_pos rfl).symm.trans E
      refine z_catch (ls' := [some (.ref 0), some (.int x), none]) (i := 2) hB [] ⟨0, 5, 6, 14⟩ [⟨0, 5, 10, 17⟩] rfl (by decide) (fun z hz => absurd hz List.not_mem_nil) rfl (by decide) lk_L_14 cst_z_EI (by decide) rfl rfl 1 (Or.inr ⟨rfl, 2, rfl, by decide +kernel⟩) ?_
      refine z_ldc hC (idx := 16) (v := -99999) (by decide +kernel) (by decide +kernel) ?_
      exact z_retx_i hB rfl ⟨Nat.le_of_ble_eq_true rfl, Nat.le_of_ble_eq_true rfl⟩ (by decide +kernel) (z_lfi E)
    · skip
      have E := (if_neg (by decide)).symm.trans E
      refine z_catch (ls' := [some (.ref 0), some (.int x), none]) (i := 2) hB [⟨0, 5, 6, 14⟩] ⟨0, 5, 10, 17⟩ [] rfl (by decide) (List.forall_mem_cons.mpr ⟨⟨by decide, z_EI, by decide, by decide, lk_L_14⟩, (fun z hz => absurd hz List.not_mem_nil)⟩) rfl (by decide) lk_L_17 cst_z_ES (by decide) rfl rfl 1 (Or.inr ⟨rfl, 2, rfl, by decide +kernel⟩) ?_
      refine z_ldc hC (idx := 16) (v := -99999) (by decide +kernel) (by decide +kernel) ?_
      exact z_retx_i hB rfl ⟨Nat.le_of_ble_eq_true rfl, Nat.le_of_ble_eq_true rfl⟩ (by decide +kernel) (z_lfi E)
  · skip
    obtain ⟨v1, rfl, q2⟩ := q
    have E := (z_bk_ok q2).symm.trans E
    try dsimp only at E
    exact z_retx_i hB rfl ⟨Nat.le_of_ble_eq_true rfl, Nat.le_of_ble_eq_true rfl⟩ (by decide +kernel) (z_lfi E)

def fn_L_play (x : Int32) (h : z_H) : z_R := z_bk (fn_X7_play x h) (fun Ex => if Ex = z_EA then (some (.int (-99999)), h) else (some (.int (-99999)), h)) (fun v1 hh => (some (.int v1), hh))
def tk_L_play (x : Int32) (h : z_H) : Prop := tk_X7_play x h
set_option maxHeartbeats 4000000 in
set_option maxRecDepth 100000 in
theorem sp_L_play (l : Launch) (hl0 : l.stackTraces = false) (ext : z_Sh) (h : z_H) (x : Int32) (T : tk_L_play x h) : z_Spx l 8 yL_play (.codeWith yL_play cL_play 3 (some .int) [(0, 5, 6, 23), (0, 5, 10, 17)]) 1 6 [.ref 0, .int x] (z_c ext) h (z_PI (fn_L_play x h)) (fun _ => False) := by
  refine z_enterh ft_L (by decide +kernel) fo_L (Nat.le_of_ble_eq_true rfl) ?_
  intro p e R s m args below meth c D dA ad hB
  have hC := hB.1.1
  have hN := hB.1.2.1
  have hR := hB.1.2.2.1
  have hZ := hB.2.1
  have hKin := hB.2.2.1
  unfold tk_L_play at T
  have E : (z_bk (fn_X7_play x h) (fun Ex => if Ex = z_EA then (some (.int (-99999)), h) else (some (.int (-99999)), h)) (fun v1 hh => (some (.int v1), hh))) = (fn_L_play x h) := rfl
  generalize (fn_L_play x h) = RR at E ⊢
  refine z_go hC (pc' := 2) (ls' := [some (.ref 0), some (.int x), none]) (st' := [.int x, .ref 0]) (h' := h) (cs := []) [.aload_n 0, .iload_n 1] (by decide +kernel) rfl rfl trivial ?_
  have tq := T
  refine z_callVx hC hN hR hZ hKin (as := [.int x]) (rest := []) ok_L_40 (by decide +kernel) (sp_X7_play l hl0 _ h x tq) rfl rfl (Nat.le_of_ble_eq_true rfl) rfl rfl (Nat.le_of_ble_eq_true rfl) ⟨Nat.le_trans (Nat.le_of_ble_eq_true rfl) hB.2.2.2.2.1, Nat.le_trans (Nat.le_of_ble_eq_true rfl) hB.2.2.2.2.2⟩ (fun Ex qx => ?_) (fun rv hh q => ?_)
  · skip
    have E := (z_bk_er qx.1).symm.trans E
    try dsimp only at E
    rcases z_mem2 qx.2 with rfl | rfl
    · skip
      have E := (if_pos rfl).symm.trans E
      refine z_catch (ls' := [some (.ref 0), some (.int x), none]) (i := 2) hB [] ⟨0, 5, 6, 23⟩ [⟨0, 5, 10, 17⟩] rfl (by decide) (fun z hz => absurd hz List.not_mem_nil) rfl (by decide) lk_L_23 cst_z_EA (by decide) rfl rfl 1 (Or.inr ⟨rfl, 2, rfl, by decide +kernel⟩) ?_
      refine z_ldc hC (idx := 16) (v := -99999) (by decide +kernel) (by decide +kernel) ?_
      exact z_retx_i hB rfl ⟨Nat.le_of_ble_eq_true rfl, Nat.le_of_ble_eq_true rfl⟩ (by decide +kernel) (z_lfi E)
    · skip
      have E := (if_neg (by decide)).symm.trans E
      refine z_catch (ls' := [some (.ref 0), some (.int x), none]) (i := 2) hB [⟨0, 5, 6, 23⟩] ⟨0, 5, 10, 17⟩ [] rfl (by decide) (List.forall_mem_cons.mpr ⟨⟨by decide, z_EA, by decide, by decide, lk_L_23⟩, (fun z hz => absurd hz List.not_mem_nil)⟩) rfl (by decide) lk_L_17 cst_z_ES (by decide) rfl rfl 1 (Or.inr ⟨rfl, 2, rfl, by decide +kernel⟩) ?_
      refine z_ldc hC (idx := 16) (v := -99999) (by decide +kernel) (by decide +kernel) ?_
      exact z_retx_i hB rfl ⟨Nat.le_of_ble_eq_true rfl, Nat.le_of_ble_eq_true rfl⟩ (by decide +kernel) (z_lfi E)
  · skip
    obtain ⟨v1, rfl, q2⟩ := q
    have E := (z_bk_ok q2).symm.trans E
    try dsimp only at E
    exact z_retx_i hB rfl ⟨Nat.le_of_ble_eq_true rfl, Nat.le_of_ble_eq_true rfl⟩ (by decide +kernel) (z_lfi E)

def fn_L_placeOf (x : Int32) (h : z_H) : z_R := z_bk (fn_X7_placeOf x h) (fun Ex => if Ex = z_EI then (some (.int (z_bi (-3))), h) else (some (.int (z_bi (-2))), h)) (fun v1 hh => (some (.int v1), hh))
set_option maxHeartbeats 4000000 in
set_option maxRecDepth 100000 in
theorem sp_L_placeOf (l : Launch) (hl0 : l.stackTraces = false) (ext : z_Sh) (h : z_H) (x : Int32)  : z_Spx l 8 yL_placeOf (.codeWith yL_placeOf cL_placeOf 3 (some .int) [(0, 5, 6, 14), (0, 5, 10, 17)]) 2 12 [.ref 0, .int x] (z_c ext) h (z_PI (fn_L_placeOf x h)) (fun _ => False) := by
  refine z_enterh ft_L (by decide +kernel) fo_L (Nat.le_of_ble_eq_true rfl) ?_
  intro p e R s m args below meth c D dA ad hB
  have hC := hB.1.1
  have hN := hB.1.2.1
  have hR := hB.1.2.2.1
  have hZ := hB.2.1
  have hKin := hB.2.2.1
  have E : (z_bk (fn_X7_placeOf x h) (fun Ex => if Ex = z_EI then (some (.int (z_bi (-3))), h) else (some (.int (z_bi (-2))), h)) (fun v1 hh => (some (.int v1), hh))) = (fn_L_placeOf x h) := rfl
  generalize (fn_L_placeOf x h) = RR at E ⊢
  refine z_go hC (pc' := 2) (ls' := [some (.ref 0), some (.int x), none]) (st' := [.int x, .ref 0]) (h' := h) (cs := []) [.aload_n 0, .iload_n 1] (by decide +kernel) rfl rfl trivial ?_
  refine z_callVx hC hN hR hZ hKin (as := [.int x]) (rest := []) ok_L_43 (by decide +kernel) (sp_X7_placeOf l hl0 _ h x) rfl rfl (Nat.le_of_ble_eq_true rfl) rfl rfl (Nat.le_of_ble_eq_true rfl) ⟨Nat.le_trans (Nat.le_of_ble_eq_true rfl) hB.2.2.2.2.1, Nat.le_trans (Nat.le_of_ble_eq_true rfl) hB.2.2.2.2.2⟩ (fun Ex qx => ?_) (fun rv hh q => ?_)
  · skip
    have E := (z_bk_er qx.1).symm.trans E
    try dsimp only at E
    rcases z_mem2 qx.2 with rfl | rfl
    · skip
      have E := (if_pos rfl).symm.trans E
      refine z_catch (ls' := [some (.ref 0), some (.int x), none]) (i := 2) hB [] ⟨0, 5, 6, 14⟩ [⟨0, 5, 10, 17⟩] rfl (by decide) (fun z hz => absurd hz List.not_mem_nil) rfl (by decide) lk_L_14 cst_z_EI (by decide) rfl rfl 1 (Or.inr ⟨rfl, 2, rfl, by decide +kernel⟩) ?_
      refine z_go hC (pc' := 9) (ls' := [some (.ref 0), some (.int x), none]) (st' := [.int (z_bi (-3))]) (h' := h) (cs := [(Int8.ofInt (-3)).toInt32 = z_bi (-3)]) [.bipush (-3)] (by decide +kernel) rfl rfl (show (Int8.ofInt (-3)).toInt32 = z_bi (-3) by decide) ?_
      exact z_retx_i hB rfl ⟨Nat.le_of_ble_eq_true rfl, Nat.le_of_ble_eq_true rfl⟩ (by decide +kernel) (z_lfi E)
    · skip
      have E := (if_neg (by decide)).symm.trans E
      refine z_catch (ls' := [some (.ref 0), some (.int x), none]) (i := 2) hB [⟨0, 5, 6, 14⟩] ⟨0, 5, 10, 17⟩ [] rfl (by decide) (List.forall_mem_cons.mpr ⟨⟨by decide, z_EI, by decide, by decide, lk_L_14⟩, (fun z hz => absurd hz List.not_mem_nil)⟩) rfl (by decide) lk_L_17 cst_z_ES (by decide) rfl rfl 1 (Or.inr ⟨rfl, 2, rfl, by decide +kernel⟩) ?_
      refine z_go hC (pc' := 13) (ls' := [some (.ref 0), some (.int x), none]) (st' := [.int (z_bi (-2))]) (h' := h) (cs := [(Int8.ofInt (-2)).toInt32 = z_bi (-2)]) [.bipush (-2)] (by decide +kernel) rfl rfl (show (Int8.ofInt (-2)).toInt32 = z_bi (-2) by decide) ?_
      exact z_retx_i hB rfl ⟨Nat.le_of_ble_eq_true rfl, Nat.le_of_ble_eq_true rfl⟩ (by decide +kernel) (z_lfi E)
  · skip
    obtain ⟨v1, rfl, q2⟩ := q
    have E := (z_bk_ok q2).symm.trans E
    try dsimp only at E
    exact z_retx_i hB rfl ⟨Nat.le_of_ble_eq_true rfl, Nat.le_of_ble_eq_true rfl⟩ (by decide +kernel) (z_lfi E)
