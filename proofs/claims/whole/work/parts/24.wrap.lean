/-! ===== printed by wip/whole/gen: methods with loops, as functions ===== -/
abbrev z_o (ext : z_Sh) : z_Sh := shC ++ (shM ++ (shO ++ ext))
def z_bk (r : z_RX) (f : String → z_R) (g : Int32 → z_H → z_R) : z_R := match r with
  | .error e => f e
  | .ok (some (.int v), h) => g v h
  | .ok (_, h) => g 0 h
theorem z_bk_er {r : z_RX} {f : String → z_R} {g : Int32 → z_H → z_R} {E : String} (h : r = .error E) : z_bk r f g = f E := by rw [h]; rfl
theorem z_bk_ok {r : z_RX} {f : String → z_R} {g : Int32 → z_H → z_R} {v : Int32} {h' : z_H} (h : r = .ok (some (.int v), h')) : z_bk r f g = g v h' := by rw [h]; rfl
theorem z_bk_okv {r : z_RX} {f : String → z_R} {g : Int32 → z_H → z_R} {h' : z_H} (h : r = .ok (none, h')) : z_bk r f g = g 0 h' := by rw [h]; rfl
theorem z_mem1 {E a : String} (h : E ∈ [a]) : E = a := List.mem_singleton.mp h
theorem z_mem2 {E a b : String} (h : E ∈ [a, b]) : E = a ∨ E = b := by simpa using h
theorem z_mem3 {E a b c : String} (h : E ∈ [a, b, c]) : E = a ∨ E = b ∨ E = c := by simpa using h
theorem lk_L_13 : Cond.classLink RL 13 z_EI ∈ z_big := z_bigT 371 (by decide +kernel) rfl
theorem lk_L_15 : Cond.classLink RL 15 z_ES ∈ z_big := z_bigT 372 (by decide +kernel) rfl
theorem lk_L_21 : Cond.classLink RL 21 z_EA ∈ z_big := z_bigT 480 (by decide +kernel) rfl
theorem cst_z_EI : Cond.castable z_EI z_EI ∈ z_nst := z_nstT 379 (by decide +kernel) rfl
theorem cst_z_EA : Cond.castable z_EA z_EA ∈ z_nst := z_nstT 491 (by decide +kernel) rfl
theorem cst_z_ES : Cond.castable z_ES z_ES ∈ z_nst := z_nstT 458 (by decide +kernel) rfl
theorem ok_L_76 : z_okH RL 76 yL_setWall cL_setWall 5 (some .int) [(0, 17, 20, 13), (0, 17, 24, 15)] 4 := ⟨⟨z_bigT 368 (by decide +kernel) rfl, z_bigT 369 (by decide +kernel) rfl⟩, z_bigT 0 (by decide +kernel) rfl, z_bigT 370 (by decide +kernel) rfl, ⟨by decide, by decide, by decide +kernel⟩, by decide⟩
theorem ok_L_85 : z_okH RL 85 yL_setLink cL_setLink 5 (some .int) [(0, 10, 13, 13), (0, 10, 17, 21), (0, 10, 21, 15)] 4 := ⟨⟨z_bigT 477 (by decide +kernel) rfl, z_bigT 478 (by decide +kernel) rfl⟩, z_bigT 0 (by decide +kernel) rfl, z_bigT 479 (by decide +kernel) rfl, ⟨by decide, by decide, by decide +kernel⟩, by decide⟩
theorem ok_L_89 : z_okH RL 89 yL_isWall cL_isWall 4 (some .int) [(0, 16, 19, 13)] 3 := ⟨⟨z_bigT 512 (by decide +kernel) rfl, z_bigT 513 (by decide +kernel) rfl⟩, z_bigT 0 (by decide +kernel) rfl, z_bigT 514 (by decide +kernel) rfl, ⟨by decide, by decide, by decide +kernel⟩, by decide⟩
theorem ok_L_93 : z_okH RL 93 yL_isInTree cL_isInTree 4 (some .int) [(0, 16, 19, 13)] 3 := ⟨⟨z_bigT 524 (by decide +kernel) rfl, z_bigT 525 (by decide +kernel) rfl⟩, z_bigT 0 (by decide +kernel) rfl, z_bigT 526 (by decide +kernel) rfl, ⟨by decide, by decide, by decide +kernel⟩, by decide⟩
theorem ok_L_101 : z_okH RL 101 yL_placeOf cL_placeOf 4 (some .int) [(0, 9, 12, 13), (0, 9, 15, 15)] 3 := ⟨⟨z_bigT 532 (by decide +kernel) rfl, z_bigT 533 (by decide +kernel) rfl⟩, z_bigT 0 (by decide +kernel) rfl, z_bigT 534 (by decide +kernel) rfl, ⟨by decide, by decide, by decide +kernel⟩, by decide⟩
theorem ok_L_104 : z_okH RL 104 yL_cellAt cL_cellAt 4 (some .int) [(0, 9, 12, 15), (0, 9, 15, 13)] 3 := ⟨⟨z_bigT 548 (by decide +kernel) rfl, z_bigT 549 (by decide +kernel) rfl⟩, z_bigT 0 (by decide +kernel) rfl, z_bigT 550 (by decide +kernel) rfl, ⟨by decide, by decide, by decide +kernel⟩, by decide⟩
theorem ok_L_107 : z_okH RL 107 yL_cellAtByRings cL_cellAtByRings 4 (some .int) [(0, 9, 12, 15), (0, 9, 15, 13)] 3 := ⟨⟨z_bigT 565 (by decide +kernel) rfl, z_bigT 566 (by decide +kernel) rfl⟩, z_bigT 0 (by decide +kernel) rfl, z_bigT 567 (by decide +kernel) rfl, ⟨by decide, by decide, by decide +kernel⟩, by decide⟩
theorem ok_L_110 : z_okH RL 110 yL_begin cL_begin 4 (some .int) [(0, 6, 9, 13), (0, 6, 12, 21), (0, 6, 15, 15)] 3 := ⟨⟨z_bigT 588 (by decide +kernel) rfl, z_bigT 589 (by decide +kernel) rfl⟩, z_bigT 0 (by decide +kernel) rfl, z_bigT 590 (by decide +kernel) rfl, ⟨by decide, by decide, by decide +kernel⟩, by decide⟩
theorem ok_L_114 : z_okH RL 114 yL_end cL_end 3 (some .int) [(0, 8, 11, 15)] 2 := ⟨⟨z_bigT 603 (by decide +kernel) rfl, z_bigT 604 (by decide +kernel) rfl⟩, z_bigT 0 (by decide +kernel) rfl, z_bigT 605 (by decide +kernel) rfl, ⟨by decide, by decide, by decide +kernel⟩, by decide⟩
theorem ok_L_118 : z_okH RL 118 yL_feed cL_feed 4 (some .int) [(0, 9, 12, 13), (0, 9, 15, 15)] 3 := ⟨⟨z_bigT 615 (by decide +kernel) rfl, z_bigT 616 (by decide +kernel) rfl⟩, z_bigT 0 (by decide +kernel) rfl, z_bigT 617 (by decide +kernel) rfl, ⟨by decide, by decide, by decide +kernel⟩, by decide⟩
theorem ok_L_121 : z_okH RL 121 yL_step cL_step 4 (some .int) [(0, 9, 12, 13), (0, 9, 15, 15)] 3 := ⟨⟨z_bigT 628 (by decide +kernel) rfl, z_bigT 629 (by decide +kernel) rfl⟩, z_bigT 0 (by decide +kernel) rfl, z_bigT 630 (by decide +kernel) rfl, ⟨by decide, by decide, by decide +kernel⟩, by decide⟩
theorem ok_L_124 : z_okH RL 124 yL_play cL_play 4 (some .int) [(0, 9, 12, 21), (0, 9, 15, 15)] 3 := ⟨⟨z_bigT 663 (by decide +kernel) rfl, z_bigT 664 (by decide +kernel) rfl⟩, z_bigT 0 (by decide +kernel) rfl, z_bigT 665 (by decide +kernel) rfl, ⟨by decide, by decide, by decide +kernel⟩, by decide⟩
theorem ok_L_139 : z_okH RL 139 yL_bodyAt cL_bodyAt 4 (some .int) [(0, 9, 12, 13)] 3 := ⟨⟨z_bigT 696 (by decide +kernel) rfl, z_bigT 697 (by decide +kernel) rfl⟩, z_bigT 0 (by decide +kernel) rfl, z_bigT 698 (by decide +kernel) rfl, ⟨by decide, by decide, by decide +kernel⟩, by decide⟩
theorem ok_L_150 : z_okH RL 150 yL_isSafe cL_isSafe 4 (some .int) [(0, 16, 19, 13), (0, 16, 22, 15)] 3 := ⟨⟨z_bigT 704 (by decide +kernel) rfl, z_bigT 705 (by decide +kernel) rfl⟩, z_bigT 0 (by decide +kernel) rfl, z_bigT 706 (by decide +kernel) rfl, ⟨by decide, by decide, by decide +kernel⟩, by decide⟩
theorem ok_L_157 : z_okH RL 157 yL_livesFor cL_livesFor 4 (some .int) [(0, 9, 12, 21), (0, 9, 15, 15)] 3 := ⟨⟨z_bigT 712 (by decide +kernel) rfl, z_bigT 713 (by decide +kernel) rfl⟩, z_bigT 0 (by decide +kernel) rfl, z_bigT 714 (by decide +kernel) rfl, ⟨by decide, by decide, by decide +kernel⟩, by decide⟩
theorem ok_L_160 : z_okH RL 160 yL_fewest cL_fewest 3 (some .int) [(0, 8, 11, 15)] 2 := ⟨⟨z_bigT 731 (by decide +kernel) rfl, z_bigT 732 (by decide +kernel) rfl⟩, z_bigT 0 (by decide +kernel) rfl, z_bigT 733 (by decide +kernel) rfl, ⟨by decide, by decide, by decide +kernel⟩, by decide⟩
theorem ok_L_163 : z_okH RL 163 yL_fewestByBodies cL_fewestByBodies 3 (some .int) [(0, 8, 11, 15)] 2 := ⟨⟨z_bigT 747 (by decide +kernel) rfl, z_bigT 748 (by decide +kernel) rfl⟩, z_bigT 0 (by decide +kernel) rfl, z_bigT 749 (by decide +kernel) rfl, ⟨by decide, by decide, by decide +kernel⟩, by decide⟩

def fn_L_setWall (x : Int32) (y : Int32) (h : z_H) : z_R := z_bk (fn_X7_setWall x y h) (fun Ex => if Ex = z_EI then (some (.int (nI 1)), h) else (some (.int (nI 2)), h)) (fun v1 hh => if v1 = 0 then (some (.int (nI 0)), z_setL hh 35 ((nI 0).toNatClampNeg) 0) else (some (.int (nI 0)), z_setL hh 35 ((nI 0).toNatClampNeg) 1))
def tk_L_setWall (x : Int32) (y : Int32) (h : z_H) : Prop := tk_X7_setWall x y h
set_option maxHeartbeats 4000000 in
set_option maxRecDepth 100000 in
theorem sp_L_setWall (l : Launch) (hl0 : l.stackTraces = false) (ext : z_Sh) (h : z_H) (x : Int32) (y : Int32) (T : tk_L_setWall x y h) : z_Spx l 7 yL_setWall (.codeWith yL_setWall cL_setWall 5 (some .int) [(0, 17, 20, 13), (0, 17, 24, 15)]) 1 6 [.ref 0, .int x, .int y, .ref 35] (z_o ext) h (z_PI (fn_L_setWall x y h)) (fun _ => False) := by
  refine z_enterh ft_L (by decide +kernel) fo_L (Nat.le_of_ble_eq_true rfl) ?_
  intro p e R s m args below meth c D dA ad hB
  have hC := hB.1.1
  have hN := hB.1.2.1
  have hR := hB.1.2.2.1
  have hZ := hB.2.1
  have hKin := hB.2.2.1
  unfold tk_L_setWall at T
  have E : (z_bk (fn_X7_setWall x y h) (fun Ex => if Ex = z_EI then (some (.int (nI 1)), h) else (some (.int (nI 2)), h)) (fun v1 hh => if v1 = 0 then (some (.int (nI 0)), z_setL hh 35 ((nI 0).toNatClampNeg) 0) else (some (.int (nI 0)), z_setL hh 35 ((nI 0).toNatClampNeg) 1))) = (fn_L_setWall x y h) := rfl
  generalize (fn_L_setWall x y h) = RR at E ⊢
  refine z_go hC (pc' := 5) (ls' := [some (.ref 0), some (.int x), some (.int y), some (.ref 35), none]) (st' := [.int y, .int x, .ref 0, .int (nI 0), .ref 35]) (h' := h) (cs := []) [.aload_n 3, .iconst 0, .aload_n 0, .iload_n 1, .iload_n 2] (by decide +kernel) rfl rfl trivial ?_
  have tq := T
  refine z_callVx hC hN hR hZ hKin (as := [.int x, .int y]) (rest := [.int (nI 0), .ref 35]) ok_L_7 (by decide +kernel) (sp_X7_setWall l hl0 _ h x y tq) rfl rfl (Nat.le_of_ble_eq_true rfl) rfl rfl (Nat.le_of_ble_eq_true rfl) ⟨Nat.le_trans (Nat.le_of_ble_eq_true rfl) hB.2.2.2.2.1, Nat.le_trans (Nat.le_of_ble_eq_true rfl) hB.2.2.2.2.2⟩ (fun Ex qx => ?_) (fun rv hh q => ?_)
  · skip
    have E := (z_bk_er qx.1).symm.trans E
    try dsimp only at E
    rcases z_mem2 qx.2 with rfl | rfl
    · skip
      have E := (if_pos rfl).symm.trans E
      refine z_catch (ls' := [some (.ref 0), some (.int x), some (.int y), some (.ref 35), none]) (i := 4) hB [] ⟨0, 17, 20, 13⟩ [⟨0, 17, 24, 15⟩] rfl (by decide) (fun z hz => absurd hz List.not_mem_nil) rfl (by decide) lk_L_13 cst_z_EI (by decide) rfl rfl 2 (Or.inl ⟨rfl, by decide +kernel⟩) ?_
      refine z_go hC (pc' := 23) (ls' := [some (.ref 0), some (.int x), some (.int y), some (.ref 35), none]) (st' := [.int (nI 1)]) (h' := h) (cs := []) [.iconst 1] (by decide +kernel) rfl rfl trivial ?_
      exact z_retx_i hB rfl ⟨Nat.le_of_ble_eq_true rfl, Nat.le_of_ble_eq_true rfl⟩ (by decide +kernel) (z_lfi E)
    · skip
      have E := (if_neg (by decide)).symm.trans E
      refine z_catch (ls' := [some (.ref 0), some (.int x), some (.int y), some (.ref 35), none]) (i := 4) hB [⟨0, 17, 20, 13⟩] ⟨0, 17, 24, 15⟩ [] rfl (by decide) (List.forall_mem_cons.mpr ⟨⟨by decide, z_EI, by decide, by decide, lk_L_13⟩, (fun z hz => absurd hz List.not_mem_nil)⟩) rfl (by decide) lk_L_15 cst_z_ES (by decide) rfl rfl 2 (Or.inl ⟨rfl, by decide +kernel⟩) ?_
      refine z_go hC (pc' := 27) (ls' := [some (.ref 0), some (.int x), some (.int y), some (.ref 35), none]) (st' := [.int (nI 2)]) (h' := h) (cs := []) [.iconst 2] (by decide +kernel) rfl rfl trivial ?_
      exact z_retx_i hB rfl ⟨Nat.le_of_ble_eq_true rfl, Nat.le_of_ble_eq_true rfl⟩ (by decide +kernel) (z_lfi E)
  · skip
    obtain ⟨v1, rfl, q2, zz⟩ := q
    have E := (z_bk_ok q2).symm.trans E
    try dsimp only at E
    refine z_if_eq hC (off := 7) 15 (by decide +kernel) (by decide) (fun c1 => ?_) (fun c1 => ?_)
    · skip
      have E := (if_pos c1).symm.trans E
      refine z_go hC (pc' := 17) (ls' := [some (.ref 0), some (.int x), some (.int y), some (.ref 35), none]) (st' := []) (h' := z_setL hh 35 ((nI 0).toNatClampNeg) 0) (cs := [vp_in (nI 0) 1]) [.lconst 0, .lastore] (by decide +kernel) rfl rfl (vp_in_nI (n := 0) (N := 1) (by decide) (by decide)) ?_
      refine z_goto hC (off := 11) 28 (by decide +kernel) (by decide) ?_
      refine z_go hC (pc' := 29) (ls' := [some (.ref 0), some (.int x), some (.int y), some (.ref 35), none]) (st' := [.int (nI 0)]) (h' := z_setL hh 35 ((nI 0).toNatClampNeg) 0) (cs := []) [.iconst 0] (by decide +kernel) rfl rfl trivial ?_
      exact z_retx_i hB rfl ⟨Nat.le_of_ble_eq_true rfl, Nat.le_of_ble_eq_true rfl⟩ (by decide +kernel) (z_lfi E)
    · skip
      have E := (if_neg c1).symm.trans E
      refine z_go hC (pc' := 12) (ls' := [some (.ref 0), some (.int x), some (.int y), some (.ref 35), none]) (st' := [.long 1, .int (nI 0), .ref 35]) (h' := hh) (cs := []) [.lconst 1] (by decide +kernel) rfl rfl trivial ?_
      refine z_goto hC (off := 4) 16 (by decide +kernel) (by decide) ?_
      refine z_go hC (pc' := 17) (ls' := [some (.ref 0), some (.int x), some (.int y), some (.ref 35), none]) (st' := []) (h' := z_setL hh 35 ((nI 0).toNatClampNeg) 1) (cs := [vp_in (nI 0) 1]) [.lastore] (by decide +kernel) rfl rfl (vp_in_nI (n := 0) (N := 1) (by decide) (by decide)) ?_
      refine z_goto hC (off := 11) 28 (by decide +kernel) (by decide) ?_
      refine z_go hC (pc' := 29) (ls' := [some (.ref 0), some (.int x), some (.int y), some (.ref 35), none]) (st' := [.int (nI 0)]) (h' := z_setL hh 35 ((nI 0).toNatClampNeg) 1) (cs := []) [.iconst 0] (by decide +kernel) rfl rfl trivial ?_
      exact z_retx_i hB rfl ⟨Nat.le_of_ble_eq_true rfl, Nat.le_of_ble_eq_true rfl⟩ (by decide +kernel) (z_lfi E)

def fn_L_setLink (x : Int32) (y : Int32) (h : z_H) : z_R := z_bk (fn_X7_setLink x y h) (fun Ex => if Ex = z_EI then (some (.int (nI 1)), h) else if Ex = z_EA then (some (.int (nI 2)), h) else (some (.int (nI 3)), h)) (fun v1 hh => (some (.int (nI 0)), z_setL hh 35 ((nI 0).toNatClampNeg) v1.toInt64))
def tk_L_setLink (x : Int32) (y : Int32) (h : z_H) : Prop := tk_X7_setLink x y h
set_option maxHeartbeats 4000000 in
set_option maxRecDepth 100000 in
theorem sp_L_setLink (l : Launch) (hl0 : l.stackTraces = false) (ext : z_Sh) (h : z_H) (x : Int32) (y : Int32) (T : tk_L_setLink x y h) : z_Spx l 8 yL_setLink (.codeWith yL_setLink cL_setLink 5 (some .int) [(0, 10, 13, 13), (0, 10, 17, 21), (0, 10, 21, 15)]) 2 12 [.ref 0, .int x, .int y, .ref 35] (z_o ext) h (z_PI (fn_L_setLink x y h)) (fun _ => False) := by
  refine z_enterh ft_L (by decide +kernel) fo_L (Nat.le_of_ble_eq_true rfl) ?_
  intro p e R s m args below meth c D dA ad hB
  have hC := hB.1.1
  have hN := hB.1.2.1
  have hR := hB.1.2.2.1
  have hZ := hB.2.1
  have hKin := hB.2.2.1
  unfold tk_L_setLink at T
  have E : (z_bk (fn_X7_setLink x y h) (fun Ex => if Ex = z_EI then (some (.int (nI 1)), h) else if Ex = z_EA then (some (.int (nI 2)), h) else (some (.int (nI 3)), h)) (fun v1 hh => (some (.int (nI 0)), z_setL hh 35 ((nI 0).toNatClampNeg) v1.toInt64))) = (fn_L_setLink x y h) := rfl
  generalize (fn_L_setLink x y h) = RR at E ⊢
  refine z_go hC (pc' := 5) (ls' := [some (.ref 0), some (.int x), some (.int y), some (.ref 35), none]) (st' := [.int y, .int x, .ref 0, .int (nI 0), .ref 35]) (h' := h) (cs := []) [.aload_n 3, .iconst 0, .aload_n 0, .iload_n 1, .iload_n 2] (by decide +kernel) rfl rfl trivial ?_
  have tq := T
  refine z_callVx hC hN hR hZ hKin (as := [.int x, .int y]) (rest := [.int (nI 0), .ref 35]) ok_L_17 (by decide +kernel) (sp_X7_setLink l hl0 _ h x y tq) rfl rfl (Nat.le_of_ble_eq_true rfl) rfl rfl (Nat.le_of_ble_eq_true rfl) ⟨Nat.le_trans (Nat.le_of_ble_eq_true rfl) hB.2.2.2.2.1, Nat.le_trans (Nat.le_of_ble_eq_true rfl) hB.2.2.2.2.2⟩ (fun Ex qx => ?_) (fun rv hh q => ?_)
  · skip
    have E := (z_bk_er qx.1).symm.trans E
    try dsimp only at E
    rcases z_mem3 qx.2 with rfl | rfl | rfl
    · skip
      have E := (if_pos rfl).symm.trans E
      refine z_catch (ls' := [some (.ref 0), some (.int x), some (.int y), some (.ref 35), none]) (i := 4) hB [] ⟨0, 10, 13, 13⟩ [⟨0, 10, 17, 21⟩, ⟨0, 10, 21, 15⟩] rfl (by decide) (fun z hz => absurd hz List.not_mem_nil) rfl (by decide) lk_L_13 cst_z_EI (by decide) rfl rfl 2 (Or.inl ⟨rfl, by decide +kernel⟩) ?_
      refine z_go hC (pc' := 16) (ls' := [some (.ref 0), some (.int x), some (.int y), some (.ref 35), none]) (st' := [.int (nI 1)]) (h' := h) (cs := []) [.iconst 1] (by decide +kernel) rfl rfl trivial ?_
      exact z_retx_i hB rfl ⟨Nat.le_of_ble_eq_true rfl, Nat.le_of_ble_eq_true rfl⟩ (by decide +kernel) (z_lfi E)
    · skip
      have E := (if_neg (by decide)).symm.trans E
      have E := (if_pos rfl).symm.trans E
      refine z_catch (ls' := [some (.ref 0), some (.int x), some (.int y), some (.ref 35), none]) (i := 4) hB [⟨0, 10, 13, 13⟩] ⟨0, 10, 17, 21⟩ [⟨0, 10, 21, 15⟩] rfl (by decide) (List.forall_mem_cons.mpr ⟨⟨by decide, z_EI, by decide, by decide, lk_L_13⟩, (fun z hz => absurd hz List.not_mem_nil)⟩) rfl (by decide) lk_L_21 cst_z_EA (by decide) rfl rfl 2 (Or.inl ⟨rfl, by decide +kernel⟩) ?_
      refine z_go hC (pc' := 20) (ls' := [some (.ref 0), some (.int x), some (.int y), some (.ref 35), none]) (st' := [.int (nI 2)]) (h' := h) (cs := []) [.iconst 2] (by decide +kernel) rfl rfl trivial ?_
      exact z_retx_i hB rfl ⟨Nat.le_of_ble_eq_true rfl, Nat.le_of_ble_eq_true rfl⟩ (by decide +kernel) (z_lfi E)
    · skip
      have E := (if_neg (by decide)).symm.trans E
      have E := (if_neg (by decide)).symm.trans E
      refine z_catch (ls' := [some (.ref 0), some (.int x), some (.int y), some (.ref 35), none]) (i := 4) hB [⟨0, 10, 13, 13⟩, ⟨0, 10, 17, 21⟩] ⟨0, 10, 21, 15⟩ [] rfl (by decide) (List.forall_mem_cons.mpr ⟨⟨by decide, z_EI, by decide, by decide, lk_L_13⟩, (List.forall_mem_cons.mpr ⟨⟨by decide, z_EA, by decide, by decide, lk_L_21⟩, (fun z hz => absurd hz List.not_mem_nil)⟩)⟩) rfl (by decide) lk_L_15 cst_z_ES (by decide) rfl rfl 2 (Or.inl ⟨rfl, by decide +kernel⟩) ?_
      refine z_go hC (pc' := 24) (ls' := [some (.ref 0), some (.int x), some (.int y), some (.ref 35), none]) (st' := [.int (nI 3)]) (h' := h) (cs := []) [.iconst 3] (by decide +kernel) rfl rfl trivial ?_
      exact z_retx_i hB rfl ⟨Nat.le_of_ble_eq_true rfl, Nat.le_of_ble_eq_true rfl⟩ (by decide +kernel) (z_lfi E)
  · skip
    obtain ⟨v1, rfl, q2⟩ := q
    have E := (z_bk_ok q2).symm.trans E
    try dsimp only at E
    refine z_go hC (pc' := 10) (ls' := [some (.ref 0), some (.int x), some (.int y), some (.ref 35), none]) (st' := []) (h' := z_setL hh 35 ((nI 0).toNatClampNeg) v1.toInt64) (cs := [vp_in (nI 0) 1]) [.i2l, .lastore] (by decide +kernel) rfl rfl (vp_in_nI (n := 0) (N := 1) (by decide) (by decide)) ?_
    refine z_goto hC (off := 15) 25 (by decide +kernel) (by decide) ?_
    refine z_go hC (pc' := 26) (ls' := [some (.ref 0), some (.int x), some (.int y), some (.ref 35), none]) (st' := [.int (nI 0)]) (h' := z_setL hh 35 ((nI 0).toNatClampNeg) v1.toInt64) (cs := []) [.iconst 0] (by decide +kernel) rfl rfl trivial ?_
    exact z_retx_i hB rfl ⟨Nat.le_of_ble_eq_true rfl, Nat.le_of_ble_eq_true rfl⟩ (by decide +kernel) (z_lfi E)

def fn_L_isWall (x : Int32) (h : z_H) : z_R := z_bk (fn_X7_isWall x h) (fun Ex => (some (.int (nI 1)), h)) (fun v1 hh => if v1 = 0 then (some (.int (nI 0)), z_setL hh 35 ((nI 0).toNatClampNeg) 0) else (some (.int (nI 0)), z_setL hh 35 ((nI 0).toNatClampNeg) 1))
set_option maxHeartbeats 4000000 in
set_option maxRecDepth 100000 in
theorem sp_L_isWall (l : Launch) (hl0 : l.stackTraces = false) (ext : z_Sh) (h : z_H) (x : Int32)  : z_Spx l 8 yL_isWall (.codeWith yL_isWall cL_isWall 4 (some .int) [(0, 16, 19, 13)]) 1 6 [.ref 0, .int x, .ref 35] (z_o ext) h (z_PI (fn_L_isWall x h)) (fun _ => False) := by
  refine z_enterh ft_L (by decide +kernel) fo_L (Nat.le_of_ble_eq_true rfl) ?_
  intro p e R s m args below meth c D dA ad hB
  have hC := hB.1.1
  have hN := hB.1.2.1
  have hR := hB.1.2.2.1
  have hZ := hB.2.1
  have hKin := hB.2.2.1
  have E : (z_bk (fn_X7_isWall x h) (fun Ex => (some (.int (nI 1)), h)) (fun v1 hh => if v1 = 0 then (some (.int (nI 0)), z_setL hh 35 ((nI 0).toNatClampNeg) 0) else (some (.int (nI 0)), z_setL hh 35 ((nI 0).toNatClampNeg) 1))) = (fn_L_isWall x h) := rfl
  generalize (fn_L_isWall x h) = RR at E ⊢
  refine z_go hC (pc' := 4) (ls' := [some (.ref 0), some (.int x), some (.ref 35), none]) (st' := [.int x, .ref 0, .int (nI 0), .ref 35]) (h' := h) (cs := []) [.aload_n 2, .iconst 0, .aload_n 0, .iload_n 1] (by decide +kernel) rfl rfl trivial ?_
  refine z_callVx hC hN hR hZ hKin (as := [.int x]) (rest := [.int (nI 0), .ref 35]) ok_L_23 (by decide +kernel) (sp_X7_isWall l hl0 _ h x) rfl rfl (Nat.le_of_ble_eq_true rfl) rfl rfl (Nat.le_of_ble_eq_true rfl) ⟨Nat.le_trans (Nat.le_of_ble_eq_true rfl) hB.2.2.2.2.1, Nat.le_trans (Nat.le_of_ble_eq_true rfl) hB.2.2.2.2.2⟩ (fun Ex qx => ?_) (fun rv hh q => ?_)
  · skip
    have E := (z_bk_er qx.1).symm.trans E
    try dsimp only at E
    obtain rfl := z_mem1 qx.2
    refine z_catch (ls' := [some (.ref 0), some (.int x), some (.ref 35), none]) (i := 3) hB [] ⟨0, 16, 19, 13⟩ [] rfl (by decide) (fun z hz => absurd hz List.not_mem_nil) rfl (by decide) lk_L_13 cst_z_EI (by decide) rfl rfl 1 (Or.inr ⟨rfl, 3, rfl, by decide +kernel⟩) ?_
    refine z_go hC (pc' := 21) (ls' := [some (.ref 0), some (.int x), some (.ref 35), none]) (st' := [.int (nI 1)]) (h' := h) (cs := []) [.iconst 1] (by decide +kernel) rfl rfl trivial ?_
    exact z_retx_i hB rfl ⟨Nat.le_of_ble_eq_true rfl, Nat.le_of_ble_eq_true rfl⟩ (by decide +kernel) (z_lfi E)
  · skip
    obtain ⟨v1, rfl, q2, zz⟩ := q
    have E := (z_bk_ok q2).symm.trans E
    try dsimp only at E
    refine z_if_eq hC (off := 7) 14 (by decide +kernel) (by decide) (fun c1 => ?_) (fun c1 => ?_)
    · skip
      have E := (if_pos c1).symm.trans E
      refine z_go hC (pc' := 16) (ls' := [some (.ref 0), some (.int x), some (.ref 35), none]) (st' := []) (h' := z_setL hh 35 ((nI 0).toNatClampNeg) 0) (cs := [vp_in (nI 0) 1]) [.lconst 0, .lastore] (by decide +kernel) rfl rfl (vp_in_nI (n := 0) (N := 1) (by decide) (by decide)) ?_
      refine z_goto hC (off := 6) 22 (by decide +kernel) (by decide) ?_
      refine z_go hC (pc' := 23) (ls' := [some (.ref 0), some (.int x), some (.ref 35), none]) (st' := [.int (nI 0)]) (h' := z_setL hh 35 ((nI 0).toNatClampNeg) 0) (cs := []) [.iconst 0] (by decide +kernel) rfl rfl trivial ?_
      exact z_retx_i hB rfl ⟨Nat.le_of_ble_eq_true rfl, Nat.le_of_ble_eq_true rfl⟩ (by decide +kernel) (z_lfi E)
    · skip
      have E := (if_neg c1).symm.trans E
      refine z_go hC (pc' := 11) (ls' := [some (.ref 0), some (.int x), some (.ref 35), none]) (st' := [.long 1, .int (nI 0), .ref 35]) (h' := hh) (cs := []) [.lconst 1] (by decide +kernel) rfl rfl trivial ?_
      refine z_goto hC (off := 4) 15 (by decide +kernel) (by decide) ?_
      refine z_go hC (pc' := 16) (ls' := [some (.ref 0), some (.int x), some (.ref 35), none]) (st' := []) (h' := z_setL hh 35 ((nI 0).toNatClampNeg) 1) (cs := [vp_in (nI 0) 1]) [.lastore] (by decide +kernel) rfl rfl (vp_in_nI (n := 0) (N := 1) (by decide) (by decide)) ?_
      refine z_goto hC (off := 6) 22 (by decide +kernel) (by decide) ?_
      refine z_go hC (pc' := 23) (ls' := [some (.ref 0), some (.int x), some (.ref 35), none]) (st' := [.int (nI 0)]) (h' := z_setL hh 35 ((nI 0).toNatClampNeg) 1) (cs := []) [.iconst 0] (by decide +kernel) rfl rfl trivial ?_
      exact z_retx_i hB rfl ⟨Nat.le_of_ble_eq_true rfl, Nat.le_of_ble_eq_true rfl⟩ (by decide +kernel) (z_lfi E)

def fn_L_isInTree (x : Int32) (h : z_H) : z_R := z_bk (fn_X7_isInTree x h) (fun Ex => (some (.int (nI 1)), h)) (fun v1 hh => if v1 = 0 then (some (.int (nI 0)), z_setL hh 35 ((nI 0).toNatClampNeg) 0) else (some (.int (nI 0)), z_setL hh 35 ((nI 0).toNatClampNeg) 1))
set_option maxHeartbeats 4000000 in
set_option maxRecDepth 100000 in
theorem sp_L_isInTree (l : Launch) (hl0 : l.stackTraces = false) (ext : z_Sh) (h : z_H) (x : Int32)  : z_Spx l 8 yL_isInTree (.codeWith yL_isInTree cL_isInTree 4 (some .int) [(0, 16, 19, 13)]) 1 6 [.ref 0, .int x, .ref 35] (z_o ext) h (z_PI (fn_L_isInTree x h)) (fun _ => False) := by
  refine z_enterh ft_L (by decide +kernel) fo_L (Nat.le_of_ble_eq_true rfl) ?_
  intro p e R s m args below meth c D dA ad hB
  have hC := hB.1.1
  have hN := hB.1.2.1
  have hR := hB.1.2.2.1
  have hZ := hB.2.1
  have hKin := hB.2.2.1
  have E : (z_bk (fn_X7_isInTree x h) (fun Ex => (some (.int (nI 1)), h)) (fun v1 hh => if v1 = 0 then (some (.int (nI 0)), z_setL hh 35 ((nI 0).toNatClampNeg) 0) else (some (.int (nI 0)), z_setL hh 35 ((nI 0).toNatClampNeg) 1))) = (fn_L_isInTree x h) := rfl
  generalize (fn_L_isInTree x h) = RR at E ⊢
  refine z_go hC (pc' := 4) (ls' := [some (.ref 0), some (.int x), some (.ref 35), none]) (st' := [.int x, .ref 0, .int (nI 0), .ref 35]) (h' := h) (cs := []) [.aload_n 2, .iconst 0, .aload_n 0, .iload_n 1] (by decide +kernel) rfl rfl trivial ?_
  refine z_callVx hC hN hR hZ hKin (as := [.int x]) (rest := [.int (nI 0), .ref 35]) ok_L_27 (by decide +kernel) (sp_X7_isInTree l hl0 _ h x) rfl rfl (Nat.le_of_ble_eq_true rfl) rfl rfl (Nat.le_of_ble_eq_true rfl) ⟨Nat.le_trans (Nat.le_of_ble_eq_true rfl) hB.2.2.2.2.1, Nat.le_trans (Nat.le_of_ble_eq_true rfl) hB.2.2.2.2.2⟩ (fun Ex qx => ?_) (fun rv hh q => ?_)
  · skip
    have E := (z_bk_er qx.1).symm.trans E
    try dsimp only at E
    obtain rfl := z_mem1 qx.2
    refine z_catch (ls' := [some (.ref 0), some (.int x), some (.ref 35), none]) (i := 3) hB [] ⟨0, 16, 19, 13⟩ [] rfl (by decide) (fun z hz => absurd hz List.not_mem_nil) rfl (by decide) lk_L_13 cst_z_EI (by decide) rfl rfl 1 (Or.inr ⟨rfl, 3, rfl, by decide +kernel⟩) ?_
    refine z_go hC (pc' := 21) (ls' := [some (.ref 0), some (.int x), some (.ref 35), none]) (st' := [.int (nI 1)]) (h' := h) (cs := []) [.iconst 1] (by decide +kernel) rfl rfl trivial ?_
    exact z_retx_i hB rfl ⟨Nat.le_of_ble_eq_true rfl, Nat.le_of_ble_eq_true rfl⟩ (by decide +kernel) (z_lfi E)
  · skip
    obtain ⟨v1, rfl, q2, zz⟩ := q
    have E := (z_bk_ok q2).symm.trans E
    try dsimp only at E
    refine z_if_eq hC (off := 7) 14 (by decide +kernel) (by decide) (fun c1 => ?_) (fun c1 => ?_)
    · skip
      have E := (if_pos c1).symm.trans E
      refine z_go hC (pc' := 16) (ls' := [some (.ref 0), some (.int x), some (.ref 35), none]) (st' := []) (h' := z_setL hh 35 ((nI 0).toNatClampNeg) 0) (cs := [vp_in (nI 0) 1]) [.lconst 0, .lastore] (by decide +kernel) rfl rfl (vp_in_nI (n := 0) (N := 1) (by decide) (by decide)) ?_
      refine z_goto hC (off := 6) 22 (by decide +kernel) (by decide) ?_
      refine z_go hC (pc' := 23) (ls' := [some (.ref 0), some (.int x), some (.ref 35), none]) (st' := [.int (nI 0)]) (h' := z_setL hh 35 ((nI 0).toNatClampNeg) 0) (cs := []) [.iconst 0] (by decide +kernel) rfl rfl trivial ?_
      exact z_retx_i hB rfl ⟨Nat.le_of_ble_eq_true rfl, Nat.le_of_ble_eq_true rfl⟩ (by decide +kernel) (z_lfi E)
    · skip
      have E := (if_neg c1).symm.trans E
      refine z_go hC (pc' := 11) (ls' := [some (.ref 0), some (.int x), some (.ref 35), none]) (st' := [.long 1, .int (nI 0), .ref 35]) (h' := hh) (cs := []) [.lconst 1] (by decide +kernel) rfl rfl trivial ?_
      refine z_goto hC (off := 4) 15 (by decide +kernel) (by decide) ?_
      refine z_go hC (pc' := 16) (ls' := [some (.ref 0), some (.int x), some (.ref 35), none]) (st' := []) (h' := z_setL hh 35 ((nI 0).toNatClampNeg) 1) (cs := [vp_in (nI 0) 1]) [.lastore] (by decide +kernel) rfl rfl (vp_in_nI (n := 0) (N := 1) (by decide) (by decide)) ?_
      refine z_goto hC (off := 6) 22 (by decide +kernel) (by decide) ?_
      refine z_go hC (pc' := 23) (ls' := [some (.ref 0), some (.int x), some (.ref 35), none]) (st' := [.int (nI 0)]) (h' := z_setL hh 35 ((nI 0).toNatClampNeg) 1) (cs := []) [.iconst 0] (by decide +kernel) rfl rfl trivial ?_
      exact z_retx_i hB rfl ⟨Nat.le_of_ble_eq_true rfl, Nat.le_of_ble_eq_true rfl⟩ (by decide +kernel) (z_lfi E)

def fn_L_placeOf (x : Int32) (h : z_H) : z_R := z_bk (fn_X7_placeOf x h) (fun Ex => if Ex = z_EI then (some (.int (nI 1)), h) else (some (.int (nI 2)), h)) (fun v1 hh => (some (.int (nI 0)), z_setL hh 35 ((nI 0).toNatClampNeg) v1.toInt64))
set_option maxHeartbeats 4000000 in
set_option maxRecDepth 100000 in
theorem sp_L_placeOf (l : Launch) (hl0 : l.stackTraces = false) (ext : z_Sh) (h : z_H) (x : Int32)  : z_Spx l 8 yL_placeOf (.codeWith yL_placeOf cL_placeOf 4 (some .int) [(0, 9, 12, 13), (0, 9, 15, 15)]) 2 12 [.ref 0, .int x, .ref 35] (z_o ext) h (z_PI (fn_L_placeOf x h)) (fun _ => False) := by
  refine z_enterh ft_L (by decide +kernel) fo_L (Nat.le_of_ble_eq_true rfl) ?_
  intro p e R s m args below meth c D dA ad hB
  have hC := hB.1.1
  have hN := hB.1.2.1
  have hR := hB.1.2.2.1
  have hZ := hB.2.1
  have hKin := hB.2.2.1
  have E : (z_bk (fn_X7_placeOf x h) (fun Ex => if Ex = z_EI then (some (.int (nI 1)), h) else (some (.int (nI 2)), h)) (fun v1 hh => (some (.int (nI 0)), z_setL hh 35 ((nI 0).toNatClampNeg) v1.toInt64))) = (fn_L_placeOf x h) := rfl
  generalize (fn_L_placeOf x h) = RR at E ⊢
  refine z_go hC (pc' := 4) (ls' := [some (.ref 0), some (.int x), some (.ref 35), none]) (st' := [.int x, .ref 0, .int (nI 0), .ref 35]) (h' := h) (cs := []) [.aload_n 2, .iconst 0, .aload_n 0, .iload_n 1] (by decide +kernel) rfl rfl trivial ?_
  refine z_callVx hC hN hR hZ hKin (as := [.int x]) (rest := [.int (nI 0), .ref 35]) ok_L_30 (by decide +kernel) (sp_X7_placeOf l hl0 _ h x) rfl rfl (Nat.le_of_ble_eq_true rfl) rfl rfl (Nat.le_of_ble_eq_true rfl) ⟨Nat.le_trans (Nat.le_of_ble_eq_true rfl) hB.2.2.2.2.1, Nat.le_trans (Nat.le_of_ble_eq_true rfl) hB.2.2.2.2.2⟩ (fun Ex qx => ?_) (fun rv hh q => ?_)
  · skip
    have E := (z_bk_er qx.1).symm.trans E
    try dsimp only at E
    rcases z_mem2 qx.2 with rfl | rfl
    · skip
      have E := (if_pos rfl).symm.trans E
      refine z_catch (ls' := [some (.ref 0), some (.int x), some (.ref 35), none]) (i := 3) hB [] ⟨0, 9, 12, 13⟩ [⟨0, 9, 15, 15⟩] rfl (by decide) (fun z hz => absurd hz List.not_mem_nil) rfl (by decide) lk_L_13 cst_z_EI (by decide) rfl rfl 1 (Or.inr ⟨rfl, 3, rfl, by decide +kernel⟩) ?_
      refine z_go hC (pc' := 14) (ls' := [some (.ref 0), some (.int x), some (.ref 35), none]) (st' := [.int (nI 1)]) (h' := h) (cs := []) [.iconst 1] (by decide +kernel) rfl rfl trivial ?_
      exact z_retx_i hB rfl ⟨Nat.le_of_ble_eq_true rfl, Nat.le_of_ble_eq_true rfl⟩ (by decide +kernel) (z_lfi E)
    · skip
      have E := (if_neg (by decide)).symm.trans E
      refine z_catch (ls' := [some (.ref 0), some (.int x), some (.ref 35), none]) (i := 3) hB [⟨0, 9, 12, 13⟩] ⟨0, 9, 15, 15⟩ [] rfl (by decide) (List.forall_mem_cons.mpr ⟨⟨by decide, z_EI, by decide, by decide, lk_L_13⟩, (fun z hz => absurd hz List.not_mem_nil)⟩) rfl (by decide) lk_L_15 cst_z_ES (by decide) rfl rfl 1 (Or.inr ⟨rfl, 3, rfl, by decide +kernel⟩) ?_
      refine z_go hC (pc' := 17) (ls' := [some (.ref 0), some (.int x), some (.ref 35), none]) (st' := [.int (nI 2)]) (h' := h) (cs := []) [.iconst 2] (by decide +kernel) rfl rfl trivial ?_
      exact z_retx_i hB rfl ⟨Nat.le_of_ble_eq_true rfl, Nat.le_of_ble_eq_true rfl⟩ (by decide +kernel) (z_lfi E)
  · skip
    obtain ⟨v1, rfl, q2⟩ := q
    have E := (z_bk_ok q2).symm.trans E
    try dsimp only at E
    refine z_go hC (pc' := 9) (ls' := [some (.ref 0), some (.int x), some (.ref 35), none]) (st' := []) (h' := z_setL hh 35 ((nI 0).toNatClampNeg) v1.toInt64) (cs := [vp_in (nI 0) 1]) [.i2l, .lastore] (by decide +kernel) rfl rfl (vp_in_nI (n := 0) (N := 1) (by decide) (by decide)) ?_
    refine z_goto hC (off := 9) 18 (by decide +kernel) (by decide) ?_
    refine z_go hC (pc' := 19) (ls' := [some (.ref 0), some (.int x), some (.ref 35), none]) (st' := [.int (nI 0)]) (h' := z_setL hh 35 ((nI 0).toNatClampNeg) v1.toInt64) (cs := []) [.iconst 0] (by decide +kernel) rfl rfl trivial ?_
    exact z_retx_i hB rfl ⟨Nat.le_of_ble_eq_true rfl, Nat.le_of_ble_eq_true rfl⟩ (by decide +kernel) (z_lfi E)

def fn_L_cellAt (x : Int32) (h : z_H) : z_R := z_bk (fn_X7_cellAt x h) (fun Ex => if Ex = z_ES then (some (.int (nI 1)), h) else (some (.int (nI 2)), h)) (fun v1 hh => (some (.int (nI 0)), z_setL hh 35 ((nI 0).toNatClampNeg) v1.toInt64))
set_option maxHeartbeats 4000000 in
set_option maxRecDepth 100000 in
theorem sp_L_cellAt (l : Launch) (hl0 : l.stackTraces = false) (ext : z_Sh) (h : z_H) (x : Int32)  : z_Spx l 8 yL_cellAt (.codeWith yL_cellAt cL_cellAt 4 (some .int) [(0, 9, 12, 15), (0, 9, 15, 13)]) 2 12 [.ref 0, .int x, .ref 35] (z_o ext) h (z_PI (fn_L_cellAt x h)) (fun _ => False) := by
  refine z_enterh ft_L (by decide +kernel) fo_L (Nat.le_of_ble_eq_true rfl) ?_
  intro p e R s m args below meth c D dA ad hB
  have hC := hB.1.1
  have hN := hB.1.2.1
  have hR := hB.1.2.2.1
  have hZ := hB.2.1
  have hKin := hB.2.2.1
  have E : (z_bk (fn_X7_cellAt x h) (fun Ex => if Ex = z_ES then (some (.int (nI 1)), h) else (some (.int (nI 2)), h)) (fun v1 hh => (some (.int (nI 0)), z_setL hh 35 ((nI 0).toNatClampNeg) v1.toInt64))) = (fn_L_cellAt x h) := rfl
  generalize (fn_L_cellAt x h) = RR at E ⊢
  refine z_go hC (pc' := 4) (ls' := [some (.ref 0), some (.int x), some (.ref 35), none]) (st' := [.int x, .ref 0, .int (nI 0), .ref 35]) (h' := h) (cs := []) [.aload_n 2, .iconst 0, .aload_n 0, .iload_n 1] (by decide +kernel) rfl rfl trivial ?_
  refine z_callVx hC hN hR hZ hKin (as := [.int x]) (rest := [.int (nI 0), .ref 35]) ok_L_34 (by decide +kernel) (sp_X7_cellAt l hl0 _ h x) rfl rfl (Nat.le_of_ble_eq_true rfl) rfl rfl (Nat.le_of_ble_eq_true rfl) ⟨Nat.le_trans (Nat.le_of_ble_eq_true rfl) hB.2.2.2.2.1, Nat.le_trans (Nat.le_of_ble_eq_true rfl) hB.2.2.2.2.2⟩ (fun Ex qx => ?_) (fun rv hh q => ?_)
  · skip
    have E := (z_bk_er qx.1).symm.trans E
    try dsimp only at E
    rcases z_mem2 qx.2 with rfl | rfl
    · skip
      have E := (if_pos rfl).symm.trans E
      refine z_catch (ls' := [some (.ref 0), some (.int x), some (.ref 35), none]) (i := 3) hB [] ⟨0, 9, 12, 15⟩ [⟨0, 9, 15, 13⟩] rfl (by decide) (fun z hz => absurd hz List.not_mem_nil) rfl (by decide) lk_L_15 cst_z_ES (by decide) rfl rfl 1 (Or.inr ⟨rfl, 3, rfl, by decide +kernel⟩) ?_
      refine z_go hC (pc' := 14) (ls' := [some (.ref 0), some (.int x), some (.ref 35), none]) (st' := [.int (nI 1)]) (h' := h) (cs := []) [.iconst 1] (by decide +kernel) rfl rfl trivial ?_
      exact z_retx_i hB rfl ⟨Nat.le_of_ble_eq_true rfl, Nat.le_of_ble_eq_true rfl⟩ (by decide +kernel) (z_lfi E)
    · skip
      have E := (if_neg (by decide)).symm.trans E
      refine z_catch (ls' := [some (.ref 0), some (.int x), some (.ref 35), none]) (i := 3) hB [⟨0, 9, 12, 15⟩] ⟨0, 9, 15, 13⟩ [] rfl (by decide) (List.forall_mem_cons.mpr ⟨⟨by decide, z_ES, by decide, by decide, lk_L_15⟩, (fun z hz => absurd hz List.not_mem_nil)⟩) rfl (by decide) lk_L_13 cst_z_EI (by decide) rfl rfl 1 (Or.inr ⟨rfl, 3, rfl, by decide +kernel⟩) ?_
      refine z_go hC (pc' := 17) (ls' := [some (.ref 0), some (.int x), some (.ref 35), none]) (st' := [.int (nI 2)]) (h' := h) (cs := []) [.iconst 2] (by decide +kernel) rfl rfl trivial ?_
      exact z_retx_i hB rfl ⟨Nat.le_of_ble_eq_true rfl, Nat.le_of_ble_eq_true rfl⟩ (by decide +kernel) (z_lfi E)
  · skip
    obtain ⟨v1, rfl, q2⟩ := q
    have E := (z_bk_ok q2).symm.trans E
    try dsimp only at E
    refine z_go hC (pc' := 9) (ls' := [some (.ref 0), some (.int x), some (.ref 35), none]) (st' := []) (h' := z_setL hh 35 ((nI 0).toNatClampNeg) v1.toInt64) (cs := [vp_in (nI 0) 1]) [.i2l, .lastore] (by decide +kernel) rfl rfl (vp_in_nI (n := 0) (N := 1) (by decide) (by decide)) ?_
    refine z_goto hC (off := 9) 18 (by decide +kernel) (by decide) ?_
    refine z_go hC (pc' := 19) (ls' := [some (.ref 0), some (.int x), some (.ref 35), none]) (st' := [.int (nI 0)]) (h' := z_setL hh 35 ((nI 0).toNatClampNeg) v1.toInt64) (cs := []) [.iconst 0] (by decide +kernel) rfl rfl trivial ?_
    exact z_retx_i hB rfl ⟨Nat.le_of_ble_eq_true rfl, Nat.le_of_ble_eq_true rfl⟩ (by decide +kernel) (z_lfi E)

def fn_L_cellAtByRings (x : Int32) (h : z_H) : z_R := z_bk (fn_X7_cellAtByRings x h) (fun Ex => if Ex = z_ES then (some (.int (nI 1)), h) else (some (.int (nI 2)), h)) (fun v1 hh => (some (.int (nI 0)), z_setL hh 35 ((nI 0).toNatClampNeg) v1.toInt64))
def tk_L_cellAtByRings (x : Int32) (h : z_H) : Prop := tk_X7_cellAtByRings x h
set_option maxHeartbeats 4000000 in
set_option maxRecDepth 100000 in
theorem sp_L_cellAtByRings (l : Launch) (hl0 : l.stackTraces = false) (ext : z_Sh) (h : z_H) (x : Int32) (T : tk_L_cellAtByRings x h) : z_Spx l 8 yL_cellAtByRings (.codeWith yL_cellAtByRings cL_cellAtByRings 4 (some .int) [(0, 9, 12, 15), (0, 9, 15, 13)]) 2 12 [.ref 0, .int x, .ref 35] (z_o ext) h (z_PI (fn_L_cellAtByRings x h)) (fun _ => False) := by
  refine z_enterh ft_L (by decide +kernel) fo_L (Nat.le_of_ble_eq_true rfl) ?_
  intro p e R s m args below meth c D dA ad hB
  have hC := hB.1.1
  have hN := hB.1.2.1
  have hR := hB.1.2.2.1
  have hZ := hB.2.1
  have hKin := hB.2.2.1
  unfold tk_L_cellAtByRings at T
  have E : (z_bk (fn_X7_cellAtByRings x h) (fun Ex => if Ex = z_ES then (some (.int (nI 1)), h) else (some (.int (nI 2)), h)) (fun v1 hh => (some (.int (nI 0)), z_setL hh 35 ((nI 0).toNatClampNeg) v1.toInt64))) = (fn_L_cellAtByRings x h) := rfl
  generalize (fn_L_cellAtByRings x h) = RR at E ⊢
  refine z_go hC (pc' := 4) (ls' := [some (.ref 0), some (.int x), some (.ref 35), none]) (st' := [.int x, .ref 0, .int (nI 0), .ref 35]) (h' := h) (cs := []) [.aload_n 2, .iconst 0, .aload_n 0, .iload_n 1] (by decide +kernel) rfl rfl trivial ?_
  have tq := T
  refine z_callVx hC hN hR hZ hKin (as := [.int x]) (rest := [.int (nI 0), .ref 35]) ok_L_37 (by decide +kernel) (sp_X7_cellAtByRings l hl0 _ h x tq) rfl rfl (Nat.le_of_ble_eq_true rfl) rfl rfl (Nat.le_of_ble_eq_true rfl) ⟨Nat.le_trans (Nat.le_of_ble_eq_true rfl) hB.2.2.2.2.1, Nat.le_trans (Nat.le_of_ble_eq_true rfl) hB.2.2.2.2.2⟩ (fun Ex qx => ?_) (fun rv hh q => ?_)
  · skip
    have E := (z_bk_er qx.1).symm.trans E
    try dsimp only at E
    rcases z_mem2 qx.2 with rfl | rfl
    · skip
      have E := (if_pos rfl).symm.trans E
      refine z_catch (ls' := [some (.ref 0), some (.int x), some (.ref 35), none]) (i := 3) hB [] ⟨0, 9, 12, 15⟩ [⟨0, 9, 15, 13⟩] rfl (by decide) (fun z hz => absurd hz List.not_mem_nil) rfl (by decide) lk_L_15 cst_z_ES (by decide) rfl rfl 1 (Or.inr ⟨rfl, 3, rfl, by decide +kernel⟩) ?_
      refine z_go hC (pc' := 14) (ls' := [some (.ref 0), some (.int x), some (.ref 35), none]) (st' := [.int (nI 1)]) (h' := h) (cs := []) [.iconst 1] (by decide +kernel) rfl rfl trivial ?_
      exact z_retx_i hB rfl ⟨Nat.le_of_ble_eq_true rfl, Nat.le_of_ble_eq_true rfl⟩ (by decide +kernel) (z_lfi E)
    · skip
      have E := (if_neg (by decide)).symm.trans E
      refine z_catch (ls' := [some (.ref 0), some (.int x), some (.ref 35), none]) (i := 3) hB [⟨0, 9, 12, 15⟩] ⟨0, 9, 15, 13⟩ [] rfl (by decide) (List.forall_mem_cons.mpr ⟨⟨by decide, z_ES, by decide, by decide, lk_L_15⟩, (fun z hz => absurd hz List.not_mem_nil)⟩) rfl (by decide) lk_L_13 cst_z_EI (by decide) rfl rfl 1 (Or.inr ⟨rfl, 3, rfl, by decide +kernel⟩) ?_
      refine z_go hC (pc' := 17) (ls' := [some (.ref 0), some (.int x), some (.ref 35), none]) (st' := [.int (nI 2)]) (h' := h) (cs := []) [.iconst 2] (by decide +kernel) rfl rfl trivial ?_
      exact z_retx_i hB rfl ⟨Nat.le_of_ble_eq_true rfl, Nat.le_of_ble_eq_true rfl⟩ (by decide +kernel) (z_lfi E)
  · skip
    obtain ⟨v1, rfl, q2⟩ := q
    have E := (z_bk_ok q2).symm.trans E
    try dsimp only at E
    refine z_go hC (pc' := 9) (ls' := [some (.ref 0), some (.int x), some (.ref 35), none]) (st' := []) (h' := z_setL hh 35 ((nI 0).toNatClampNeg) v1.toInt64) (cs := [vp_in (nI 0) 1]) [.i2l, .lastore] (by decide +kernel) rfl rfl (vp_in_nI (n := 0) (N := 1) (by decide) (by decide)) ?_
    refine z_goto hC (off := 9) 18 (by decide +kernel) (by decide) ?_
    refine z_go hC (pc' := 19) (ls' := [some (.ref 0), some (.int x), some (.ref 35), none]) (st' := [.int (nI 0)]) (h' := z_setL hh 35 ((nI 0).toNatClampNeg) v1.toInt64) (cs := []) [.iconst 0] (by decide +kernel) rfl rfl trivial ?_
    exact z_retx_i hB rfl ⟨Nat.le_of_ble_eq_true rfl, Nat.le_of_ble_eq_true rfl⟩ (by decide +kernel) (z_lfi E)

def fn_L_begin (x : Int32) (y : Int32) (h : z_H) : z_R := z_bk (fn_X7_begin x y h) (fun Ex => if Ex = z_EI then (some (.int (nI 1)), h) else if Ex = z_EA then (some (.int (nI 2)), h) else (some (.int (nI 3)), h)) (fun v1 hh => (some (.int (nI 0)), hh))
set_option maxHeartbeats 4000000 in
set_option maxRecDepth 100000 in
theorem sp_L_begin (l : Launch) (hl0 : l.stackTraces = false) (ext : z_Sh) (h : z_H) (x : Int32) (y : Int32)  : z_Spx l 8 yL_begin (.codeWith yL_begin cL_begin 4 (some .int) [(0, 6, 9, 13), (0, 6, 12, 21), (0, 6, 15, 15)]) 2 12 [.ref 0, .int x, .int y] (z_o ext) h (z_PI (fn_L_begin x y h)) (fun _ => False) := by
  refine z_enterh ft_L (by decide +kernel) fo_L (Nat.le_of_ble_eq_true rfl) ?_
  intro p e R s m args below meth c D dA ad hB
  have hC := hB.1.1
  have hN := hB.1.2.1
  have hR := hB.1.2.2.1
  have hZ := hB.2.1
  have hKin := hB.2.2.1
  have E : (z_bk (fn_X7_begin x y h) (fun Ex => if Ex = z_EI then (some (.int (nI 1)), h) else if Ex = z_EA then (some (.int (nI 2)), h) else (some (.int (nI 3)), h)) (fun v1 hh => (some (.int (nI 0)), hh))) = (fn_L_begin x y h) := rfl
  generalize (fn_L_begin x y h) = RR at E ⊢
  refine z_go hC (pc' := 3) (ls' := [some (.ref 0), some (.int x), some (.int y), none]) (st' := [.int y, .int x, .ref 0]) (h' := h) (cs := []) [.aload_n 0, .iload_n 1, .iload_n 2] (by decide +kernel) rfl rfl trivial ?_
  refine z_callVx hC hN hR hZ hKin (as := [.int x, .int y]) (rest := []) ok_L_40 (by decide +kernel) (sp_X7_begin l hl0 _ h x y) rfl rfl (Nat.le_of_ble_eq_true rfl) rfl rfl (Nat.le_of_ble_eq_true rfl) ⟨Nat.le_trans (Nat.le_of_ble_eq_true rfl) hB.2.2.2.2.1, Nat.le_trans (Nat.le_of_ble_eq_true rfl) hB.2.2.2.2.2⟩ (fun Ex qx => ?_) (fun rv hh q => ?_)
  · skip
    have E := (z_bk_er qx.1).symm.trans E
    try dsimp only at E
    rcases z_mem3 qx.2 with rfl | rfl | rfl
    · skip
      have E := (if_pos rfl).symm.trans E
      refine z_catch (ls' := [some (.ref 0), some (.int x), some (.int y), none]) (i := 3) hB [] ⟨0, 6, 9, 13⟩ [⟨0, 6, 12, 21⟩, ⟨0, 6, 15, 15⟩] rfl (by decide) (fun z hz => absurd hz List.not_mem_nil) rfl (by decide) lk_L_13 cst_z_EI (by decide) rfl rfl 1 (Or.inr ⟨rfl, 3, rfl, by decide +kernel⟩) ?_
      refine z_go hC (pc' := 11) (ls' := [some (.ref 0), some (.int x), some (.int y), none]) (st' := [.int (nI 1)]) (h' := h) (cs := []) [.iconst 1] (by decide +kernel) rfl rfl trivial ?_
      exact z_retx_i hB rfl ⟨Nat.le_of_ble_eq_true rfl, Nat.le_of_ble_eq_true rfl⟩ (by decide +kernel) (z_lfi E)
    · skip
      have E := (if_neg (by decide)).symm.trans E
      have E := (if_pos rfl).symm.trans E
      refine z_catch (ls' := [some (.ref 0), some (.int x), some (.int y), none]) (i := 3) hB [⟨0, 6, 9, 13⟩] ⟨0, 6, 12, 21⟩ [⟨0, 6, 15, 15⟩] rfl (by decide) (List.forall_mem_cons.mpr ⟨⟨by decide, z_EI, by decide, by decide, lk_L_13⟩, (fun z hz => absurd hz List.not_mem_nil)⟩) rfl (by decide) lk_L_21 cst_z_EA (by decide) rfl rfl 1 (Or.inr ⟨rfl, 3, rfl, by decide +kernel⟩) ?_
      refine z_go hC (pc' := 14) (ls' := [some (.ref 0), some (.int x), some (.int y), none]) (st' := [.int (nI 2)]) (h' := h) (cs := []) [.iconst 2] (by decide +kernel) rfl rfl trivial ?_
      exact z_retx_i hB rfl ⟨Nat.le_of_ble_eq_true rfl, Nat.le_of_ble_eq_true rfl⟩ (by decide +kernel) (z_lfi E)
    · skip
      have E := (if_neg (by decide)).symm.trans E
      have E := (if_neg (by decide)).symm.trans E
      refine z_catch (ls' := [some (.ref 0), some (.int x), some (.int y), none]) (i := 3) hB [⟨0, 6, 9, 13⟩, ⟨0, 6, 12, 21⟩] ⟨0, 6, 15, 15⟩ [] rfl (by decide) (List.forall_mem_cons.mpr ⟨⟨by decide, z_EI, by decide, by decide, lk_L_13⟩, (List.forall_mem_cons.mpr ⟨⟨by decide, z_EA, by decide, by decide, lk_L_21⟩, (fun z hz => absurd hz List.not_mem_nil)⟩)⟩) rfl (by decide) lk_L_15 cst_z_ES (by decide) rfl rfl 1 (Or.inr ⟨rfl, 3, rfl, by decide +kernel⟩) ?_
      refine z_go hC (pc' := 17) (ls' := [some (.ref 0), some (.int x), some (.int y), none]) (st' := [.int (nI 3)]) (h' := h) (cs := []) [.iconst 3] (by decide +kernel) rfl rfl trivial ?_
      exact z_retx_i hB rfl ⟨Nat.le_of_ble_eq_true rfl, Nat.le_of_ble_eq_true rfl⟩ (by decide +kernel) (z_lfi E)
  · skip
    obtain ⟨rfl, q2⟩ := q
    have E := (z_bk_okv q2).symm.trans E
    try dsimp only at E
    refine z_goto hC (off := 12) 18 (by decide +kernel) (by decide) ?_
    refine z_go hC (pc' := 19) (ls' := [some (.ref 0), some (.int x), some (.int y), none]) (st' := [.int (nI 0)]) (h' := hh) (cs := []) [.iconst 0] (by decide +kernel) rfl rfl trivial ?_
    exact z_retx_i hB rfl ⟨Nat.le_of_ble_eq_true rfl, Nat.le_of_ble_eq_true rfl⟩ (by decide +kernel) (z_lfi E)

def fn_L_end  (h : z_H) : z_R := z_bk (fn_X7_end  h) (fun Ex => (some (.int (nI 1)), h)) (fun v1 hh => (some (.int (nI 0)), z_setL hh 35 ((nI 0).toNatClampNeg) v1.toInt64))
set_option maxHeartbeats 4000000 in
set_option maxRecDepth 100000 in
theorem sp_L_end (l : Launch) (hl0 : l.stackTraces = false) (ext : z_Sh) (h : z_H)   : z_Spx l 7 yL_end (.codeWith yL_end cL_end 3 (some .int) [(0, 8, 11, 15)]) 1 6 [.ref 0, .ref 35] (z_o ext) h (z_PI (fn_L_end  h)) (fun _ => False) := by
  refine z_enterh ft_L (by decide +kernel) fo_L (Nat.le_of_ble_eq_true rfl) ?_
  intro p e R s m args below meth c D dA ad hB
  have hC := hB.1.1
  have hN := hB.1.2.1
  have hR := hB.1.2.2.1
  have hZ := hB.2.1
  have hKin := hB.2.2.1
  have E : (z_bk (fn_X7_end  h) (fun Ex => (some (.int (nI 1)), h)) (fun v1 hh => (some (.int (nI 0)), z_setL hh 35 ((nI 0).toNatClampNeg) v1.toInt64))) = (fn_L_end  h) := rfl
  generalize (fn_L_end  h) = RR at E ⊢
  refine z_go hC (pc' := 3) (ls' := [some (.ref 0), some (.ref 35), none]) (st' := [.ref 0, .int (nI 0), .ref 35]) (h' := h) (cs := []) [.aload_n 1, .iconst 0, .aload_n 0] (by decide +kernel) rfl rfl trivial ?_
  refine z_callVx hC hN hR hZ hKin (as := []) (rest := [.int (nI 0), .ref 35]) ok_L_44 (by decide +kernel) (sp_X7_end l hl0 _ h ) rfl rfl (Nat.le_of_ble_eq_true rfl) rfl rfl (Nat.le_of_ble_eq_true rfl) ⟨Nat.le_trans (Nat.le_of_ble_eq_true rfl) hB.2.2.2.2.1, Nat.le_trans (Nat.le_of_ble_eq_true rfl) hB.2.2.2.2.2⟩ (fun Ex qx => ?_) (fun rv hh q => ?_)
  · skip
    have E := (z_bk_er qx.1).symm.trans E
    try dsimp only at E
    obtain rfl := z_mem1 qx.2
    refine z_catch (ls' := [some (.ref 0), some (.ref 35), none]) (i := 2) hB [] ⟨0, 8, 11, 15⟩ [] rfl (by decide) (fun z hz => absurd hz List.not_mem_nil) rfl (by decide) lk_L_15 cst_z_ES (by decide) rfl rfl 1 (Or.inr ⟨rfl, 2, rfl, by decide +kernel⟩) ?_
    refine z_go hC (pc' := 13) (ls' := [some (.ref 0), some (.ref 35), none]) (st' := [.int (nI 1)]) (h' := h) (cs := []) [.iconst 1] (by decide +kernel) rfl rfl trivial ?_
    exact z_retx_i hB rfl ⟨Nat.le_of_ble_eq_true rfl, Nat.le_of_ble_eq_true rfl⟩ (by decide +kernel) (z_lfi E)
  · skip
    obtain ⟨v1, rfl, q2⟩ := q
    have E := (z_bk_ok q2).symm.trans E
    try dsimp only at E
    refine z_go hC (pc' := 8) (ls' := [some (.ref 0), some (.ref 35), none]) (st' := []) (h' := z_setL hh 35 ((nI 0).toNatClampNeg) v1.toInt64) (cs := [vp_in (nI 0) 1]) [.i2l, .lastore] (by decide +kernel) rfl rfl (vp_in_nI (n := 0) (N := 1) (by decide) (by decide)) ?_
    refine z_goto hC (off := 6) 14 (by decide +kernel) (by decide) ?_
    refine z_go hC (pc' := 15) (ls' := [some (.ref 0), some (.ref 35), none]) (st' := [.int (nI 0)]) (h' := z_setL hh 35 ((nI 0).toNatClampNeg) v1.toInt64) (cs := []) [.iconst 0] (by decide +kernel) rfl rfl trivial ?_
    exact z_retx_i hB rfl ⟨Nat.le_of_ble_eq_true rfl, Nat.le_of_ble_eq_true rfl⟩ (by decide +kernel) (z_lfi E)

def fn_L_feed (x : Int32) (h : z_H) : z_R := z_bk (fn_X7_feed x h) (fun Ex => if Ex = z_EI then (some (.int (nI 1)), h) else (some (.int (nI 2)), h)) (fun v1 hh => (some (.int (nI 0)), z_setL hh 35 ((nI 0).toNatClampNeg) v1.toInt64))
set_option maxHeartbeats 4000000 in
set_option maxRecDepth 100000 in
theorem sp_L_feed (l : Launch) (hl0 : l.stackTraces = false) (ext : z_Sh) (h : z_H) (x : Int32)  : z_Spx l 8 yL_feed (.codeWith yL_feed cL_feed 4 (some .int) [(0, 9, 12, 13), (0, 9, 15, 15)]) 2 12 [.ref 0, .int x, .ref 35] (z_o ext) h (z_PI (fn_L_feed x h)) (fun _ => False) := by
  refine z_enterh ft_L (by decide +kernel) fo_L (Nat.le_of_ble_eq_true rfl) ?_
  intro p e R s m args below meth c D dA ad hB
  have hC := hB.1.1
  have hN := hB.1.2.1
  have hR := hB.1.2.2.1
  have hZ := hB.2.1
  have hKin := hB.2.2.1
  have E : (z_bk (fn_X7_feed x h) (fun Ex => if Ex = z_EI then (some (.int (nI 1)), h) else (some (.int (nI 2)), h)) (fun v1 hh => (some (.int (nI 0)), z_setL hh 35 ((nI 0).toNatClampNeg) v1.toInt64))) = (fn_L_feed x h) := rfl
  generalize (fn_L_feed x h) = RR at E ⊢
  refine z_go hC (pc' := 4) (ls' := [some (.ref 0), some (.int x), some (.ref 35), none]) (st' := [.int x, .ref 0, .int (nI 0), .ref 35]) (h' := h) (cs := []) [.aload_n 2, .iconst 0, .aload_n 0, .iload_n 1] (by decide +kernel) rfl rfl trivial ?_
  refine z_callVx hC hN hR hZ hKin (as := [.int x]) (rest := [.int (nI 0), .ref 35]) ok_L_48 (by decide +kernel) (sp_X7_feed l hl0 _ h x) rfl rfl (Nat.le_of_ble_eq_true rfl) rfl rfl (Nat.le_of_ble_eq_true rfl) ⟨Nat.le_trans (Nat.le_of_ble_eq_true rfl) hB.2.2.2.2.1, Nat.le_trans (Nat.le_of_ble_eq_true rfl) hB.2.2.2.2.2⟩ (fun Ex qx => ?_) (fun rv hh q => ?_)
  · skip
    have E := (z_bk_er qx.1).symm.trans E
    try dsimp only at E
    rcases z_mem2 qx.2 with rfl | rfl
    · skip
      have E := (if_pos rfl).symm.trans E
      refine z_catch (ls' := [some (.ref 0), some (.int x), some (.ref 35), none]) (i := 3) hB [] ⟨0, 9, 12, 13⟩ [⟨0, 9, 15, 15⟩] rfl (by decide) (fun z hz => absurd hz List.not_mem_nil) rfl (by decide) lk_L_13 cst_z_EI (by decide) rfl rfl 1 (Or.inr ⟨rfl, 3, rfl, by decide +kernel⟩) ?_
      refine z_go hC (pc' := 14) (ls' := [some (.ref 0), some (.int x), some (.ref 35), none]) (st' := [.int (nI 1)]) (h' := h) (cs := []) [.iconst 1] (by decide +kernel) rfl rfl trivial ?_
      exact z_retx_i hB rfl ⟨Nat.le_of_ble_eq_true rfl, Nat.le_of_ble_eq_true rfl⟩ (by decide +kernel) (z_lfi E)
    · skip
      have E := (if_neg (by decide)).symm.trans E
      refine z_catch (ls' := [some (.ref 0), some (.int x), some (.ref 35), none]) (i := 3) hB [⟨0, 9, 12, 13⟩] ⟨0, 9, 15, 15⟩ [] rfl (by decide) (List.forall_mem_cons.mpr ⟨⟨by decide, z_EI, by decide, by decide, lk_L_13⟩, (fun z hz => absurd hz List.not_mem_nil)⟩) rfl (by decide) lk_L_15 cst_z_ES (by decide) rfl rfl 1 (Or.inr ⟨rfl, 3, rfl, by decide +kernel⟩) ?_
      refine z_go hC (pc' := 17) (ls' := [some (.ref 0), some (.int x), some (.ref 35), none]) (st' := [.int (nI 2)]) (h' := h) (cs := []) [.iconst 2] (by decide +kernel) rfl rfl trivial ?_
      exact z_retx_i hB rfl ⟨Nat.le_of_ble_eq_true rfl, Nat.le_of_ble_eq_true rfl⟩ (by decide +kernel) (z_lfi E)
  · skip
    obtain ⟨v1, rfl, q2⟩ := q
    have E := (z_bk_ok q2).symm.trans E
    try dsimp only at E
    refine z_go hC (pc' := 9) (ls' := [some (.ref 0), some (.int x), some (.ref 35), none]) (st' := []) (h' := z_setL hh 35 ((nI 0).toNatClampNeg) v1.toInt64) (cs := [vp_in (nI 0) 1]) [.i2l, .lastore] (by decide +kernel) rfl rfl (vp_in_nI (n := 0) (N := 1) (by decide) (by decide)) ?_
    refine z_goto hC (off := 9) 18 (by decide +kernel) (by decide) ?_
    refine z_go hC (pc' := 19) (ls' := [some (.ref 0), some (.int x), some (.ref 35), none]) (st' := [.int (nI 0)]) (h' := z_setL hh 35 ((nI 0).toNatClampNeg) v1.toInt64) (cs := []) [.iconst 0] (by decide +kernel) rfl rfl trivial ?_
    exact z_retx_i hB rfl ⟨Nat.le_of_ble_eq_true rfl, Nat.le_of_ble_eq_true rfl⟩ (by decide +kernel) (z_lfi E)

def fn_L_step (x : Int32) (h : z_H) : z_R := z_bk (fn_X7_step x h) (fun Ex => if Ex = z_EI then (some (.int (nI 1)), h) else (some (.int (nI 2)), h)) (fun v1 hh => (some (.int (nI 0)), z_setL hh 35 ((nI 0).toNatClampNeg) v1.toInt64))
set_option maxHeartbeats 4000000 in
set_option maxRecDepth 100000 in
theorem sp_L_step (l : Launch) (hl0 : l.stackTraces = false) (ext : z_Sh) (h : z_H) (x : Int32)  : z_Spx l 8 yL_step (.codeWith yL_step cL_step 4 (some .int) [(0, 9, 12, 13), (0, 9, 15, 15)]) 2 12 [.ref 0, .int x, .ref 35] (z_o ext) h (z_PI (fn_L_step x h)) (fun _ => False) := by
  refine z_enterh ft_L (by decide +kernel) fo_L (Nat.le_of_ble_eq_true rfl) ?_
  intro p e R s m args below meth c D dA ad hB
  have hC := hB.1.1
  have hN := hB.1.2.1
  have hR := hB.1.2.2.1
  have hZ := hB.2.1
  have hKin := hB.2.2.1
  have E : (z_bk (fn_X7_step x h) (fun Ex => if Ex = z_EI then (some (.int (nI 1)), h) else (some (.int (nI 2)), h)) (fun v1 hh => (some (.int (nI 0)), z_setL hh 35 ((nI 0).toNatClampNeg) v1.toInt64))) = (fn_L_step x h) := rfl
  generalize (fn_L_step x h) = RR at E ⊢
  refine z_go hC (pc' := 4) (ls' := [some (.ref 0), some (.int x), some (.ref 35), none]) (st' := [.int x, .ref 0, .int (nI 0), .ref 35]) (h' := h) (cs := []) [.aload_n 2, .iconst 0, .aload_n 0, .iload_n 1] (by decide +kernel) rfl rfl trivial ?_
  refine z_callVx hC hN hR hZ hKin (as := [.int x]) (rest := [.int (nI 0), .ref 35]) ok_L_51 (by decide +kernel) (sp_X7_step l hl0 _ h x) rfl rfl (Nat.le_of_ble_eq_true rfl) rfl rfl (Nat.le_of_ble_eq_true rfl) ⟨Nat.le_trans (Nat.le_of_ble_eq_true rfl) hB.2.2.2.2.1, Nat.le_trans (Nat.le_of_ble_eq_true rfl) hB.2.2.2.2.2⟩ (fun Ex qx => ?_) (fun rv hh q => ?_)
  · skip
    have E := (z_bk_er qx.1).symm.trans E
    try dsimp only at E
    rcases z_mem2 qx.2 with rfl | rfl
    · skip
      have E := (if_pos rfl).symm.trans E
      refine z_catch (ls' := [some (.ref 0), some (.int x), some (.ref 35), none]) (i := 3) hB [] ⟨0, 9, 12, 13⟩ [⟨0, 9, 15, 15⟩] rfl (by decide) (fun z hz => absurd hz List.not_mem_nil) rfl (by decide) lk_L_13 cst_z_EI (by decide) rfl rfl 1 (Or.inr ⟨rfl, 3, rfl, by decide +kernel⟩) ?_
      refine z_go hC (pc' := 14) (ls' := [some (.ref 0), some (.int x), some (.ref 35), none]) (st' := [.int (nI 1)]) (h' := h) (cs := []) [.iconst 1] (by decide +kernel) rfl rfl trivial ?_
      exact z_retx_i hB rfl ⟨Nat.le_of_ble_eq_true rfl, Nat.le_of_ble_eq_true rfl⟩ (by decide +kernel) (z_lfi E)
    · skip
      have E := (if_neg (by decide)).symm.trans E
      refine z_catch (ls' := [some (.ref 0), some (.int x), some (.ref 35), none]) (i := 3) hB [⟨0, 9, 12, 13⟩] ⟨0, 9, 15, 15⟩ [] rfl (by decide) (List.forall_mem_cons.mpr ⟨⟨by decide, z_EI, by decide, by decide, lk_L_13⟩, (fun z hz => absurd hz List.not_mem_nil)⟩) rfl (by decide) lk_L_15 cst_z_ES (by decide) rfl rfl 1 (Or.inr ⟨rfl, 3, rfl, by decide +kernel⟩) ?_
      refine z_go hC (pc' := 17) (ls' := [some (.ref 0), some (.int x), some (.ref 35), none]) (st' := [.int (nI 2)]) (h' := h) (cs := []) [.iconst 2] (by decide +kernel) rfl rfl trivial ?_
      exact z_retx_i hB rfl ⟨Nat.le_of_ble_eq_true rfl, Nat.le_of_ble_eq_true rfl⟩ (by decide +kernel) (z_lfi E)
  · skip
    obtain ⟨v1, rfl, q2⟩ := q
    have E := (z_bk_ok q2).symm.trans E
    try dsimp only at E
    refine z_go hC (pc' := 9) (ls' := [some (.ref 0), some (.int x), some (.ref 35), none]) (st' := []) (h' := z_setL hh 35 ((nI 0).toNatClampNeg) v1.toInt64) (cs := [vp_in (nI 0) 1]) [.i2l, .lastore] (by decide +kernel) rfl rfl (vp_in_nI (n := 0) (N := 1) (by decide) (by decide)) ?_
    refine z_goto hC (off := 9) 18 (by decide +kernel) (by decide) ?_
    refine z_go hC (pc' := 19) (ls' := [some (.ref 0), some (.int x), some (.ref 35), none]) (st' := [.int (nI 0)]) (h' := z_setL hh 35 ((nI 0).toNatClampNeg) v1.toInt64) (cs := []) [.iconst 0] (by decide +kernel) rfl rfl trivial ?_
    exact z_retx_i hB rfl ⟨Nat.le_of_ble_eq_true rfl, Nat.le_of_ble_eq_true rfl⟩ (by decide +kernel) (z_lfi E)

def fn_L_play (x : Int32) (h : z_H) : z_R := z_bk (fn_X7_play x h) (fun Ex => if Ex = z_EA then (some (.int (nI 1)), h) else (some (.int (nI 2)), h)) (fun v1 hh => (some (.int (nI 0)), z_setL hh 35 ((nI 0).toNatClampNeg) v1.toInt64))
def tk_L_play (x : Int32) (h : z_H) : Prop := tk_X7_play x h
set_option maxHeartbeats 4000000 in
set_option maxRecDepth 100000 in
theorem sp_L_play (l : Launch) (hl0 : l.stackTraces = false) (ext : z_Sh) (h : z_H) (x : Int32) (T : tk_L_play x h) : z_Spx l 8 yL_play (.codeWith yL_play cL_play 4 (some .int) [(0, 9, 12, 21), (0, 9, 15, 15)]) 1 6 [.ref 0, .int x, .ref 35] (z_o ext) h (z_PI (fn_L_play x h)) (fun _ => False) := by
  refine z_enterh ft_L (by decide +kernel) fo_L (Nat.le_of_ble_eq_true rfl) ?_
  intro p e R s m args below meth c D dA ad hB
  have hC := hB.1.1
  have hN := hB.1.2.1
  have hR := hB.1.2.2.1
  have hZ := hB.2.1
  have hKin := hB.2.2.1
  unfold tk_L_play at T
  have E : (z_bk (fn_X7_play x h) (fun Ex => if Ex = z_EA then (some (.int (nI 1)), h) else (some (.int (nI 2)), h)) (fun v1 hh => (some (.int (nI 0)), z_setL hh 35 ((nI 0).toNatClampNeg) v1.toInt64))) = (fn_L_play x h) := rfl
  generalize (fn_L_play x h) = RR at E ⊢
  refine z_go hC (pc' := 4) (ls' := [some (.ref 0), some (.int x), some (.ref 35), none]) (st' := [.int x, .ref 0, .int (nI 0), .ref 35]) (h' := h) (cs := []) [.aload_n 2, .iconst 0, .aload_n 0, .iload_n 1] (by decide +kernel) rfl rfl trivial ?_
  have tq := T
  refine z_callVx hC hN hR hZ hKin (as := [.int x]) (rest := [.int (nI 0), .ref 35]) ok_L_54 (by decide +kernel) (sp_X7_play l hl0 _ h x tq) rfl rfl (Nat.le_of_ble_eq_true rfl) rfl rfl (Nat.le_of_ble_eq_true rfl) ⟨Nat.le_trans (Nat.le_of_ble_eq_true rfl) hB.2.2.2.2.1, Nat.le_trans (Nat.le_of_ble_eq_true rfl) hB.2.2.2.2.2⟩ (fun Ex qx => ?_) (fun rv hh q => ?_)
  · skip
    have E := (z_bk_er qx.1).symm.trans E
    try dsimp only at E
    rcases z_mem2 qx.2 with rfl | rfl
    · skip
      have E := (if_pos rfl).symm.trans E
      refine z_catch (ls' := [some (.ref 0), some (.int x), some (.ref 35), none]) (i := 3) hB [] ⟨0, 9, 12, 21⟩ [⟨0, 9, 15, 15⟩] rfl (by decide) (fun z hz => absurd hz List.not_mem_nil) rfl (by decide) lk_L_21 cst_z_EA (by decide) rfl rfl 1 (Or.inr ⟨rfl, 3, rfl, by decide +kernel⟩) ?_
      refine z_go hC (pc' := 14) (ls' := [some (.ref 0), some (.int x), some (.ref 35), none]) (st' := [.int (nI 1)]) (h' := h) (cs := []) [.iconst 1] (by decide +kernel) rfl rfl trivial ?_
      exact z_retx_i hB rfl ⟨Nat.le_of_ble_eq_true rfl, Nat.le_of_ble_eq_true rfl⟩ (by decide +kernel) (z_lfi E)
    · skip
      have E := (if_neg (by decide)).symm.trans E
      refine z_catch (ls' := [some (.ref 0), some (.int x), some (.ref 35), none]) (i := 3) hB [⟨0, 9, 12, 21⟩] ⟨0, 9, 15, 15⟩ [] rfl (by decide) (List.forall_mem_cons.mpr ⟨⟨by decide, z_EA, by decide, by decide, lk_L_21⟩, (fun z hz => absurd hz List.not_mem_nil)⟩) rfl (by decide) lk_L_15 cst_z_ES (by decide) rfl rfl 1 (Or.inr ⟨rfl, 3, rfl, by decide +kernel⟩) ?_
      refine z_go hC (pc' := 17) (ls' := [some (.ref 0), some (.int x), some (.ref 35), none]) (st' := [.int (nI 2)]) (h' := h) (cs := []) [.iconst 2] (by decide +kernel) rfl rfl trivial ?_
      exact z_retx_i hB rfl ⟨Nat.le_of_ble_eq_true rfl, Nat.le_of_ble_eq_true rfl⟩ (by decide +kernel) (z_lfi E)
  · skip
    obtain ⟨v1, rfl, q2⟩ := q
    have E := (z_bk_ok q2).symm.trans E
    try dsimp only at E
    refine z_go hC (pc' := 9) (ls' := [some (.ref 0), some (.int x), some (.ref 35), none]) (st' := []) (h' := z_setL hh 35 ((nI 0).toNatClampNeg) v1.toInt64) (cs := [vp_in (nI 0) 1]) [.i2l, .lastore] (by decide +kernel) rfl rfl (vp_in_nI (n := 0) (N := 1) (by decide) (by decide)) ?_
    refine z_goto hC (off := 9) 18 (by decide +kernel) (by decide) ?_
    refine z_go hC (pc' := 19) (ls' := [some (.ref 0), some (.int x), some (.ref 35), none]) (st' := [.int (nI 0)]) (h' := z_setL hh 35 ((nI 0).toNatClampNeg) v1.toInt64) (cs := []) [.iconst 0] (by decide +kernel) rfl rfl trivial ?_
    exact z_retx_i hB rfl ⟨Nat.le_of_ble_eq_true rfl, Nat.le_of_ble_eq_true rfl⟩ (by decide +kernel) (z_lfi E)

def fn_L_bodyAt (x : Int32) (h : z_H) : z_R := z_bk (fn_X7_bodyAt x h) (fun Ex => (some (.int (nI 1)), h)) (fun v1 hh => (some (.int (nI 0)), z_setL hh 35 ((nI 0).toNatClampNeg) v1.toInt64))
set_option maxHeartbeats 4000000 in
set_option maxRecDepth 100000 in
theorem sp_L_bodyAt (l : Launch) (hl0 : l.stackTraces = false) (ext : z_Sh) (h : z_H) (x : Int32)  : z_Spx l 7 yL_bodyAt (.codeWith yL_bodyAt cL_bodyAt 4 (some .int) [(0, 9, 12, 13)]) 1 6 [.ref 0, .int x, .ref 35] (z_o ext) h (z_PI (fn_L_bodyAt x h)) (fun _ => False) := by
  refine z_enterh ft_L (by decide +kernel) fo_L (Nat.le_of_ble_eq_true rfl) ?_
  intro p e R s m args below meth c D dA ad hB
  have hC := hB.1.1
  have hN := hB.1.2.1
  have hR := hB.1.2.2.1
  have hZ := hB.2.1
  have hKin := hB.2.2.1
  have E : (z_bk (fn_X7_bodyAt x h) (fun Ex => (some (.int (nI 1)), h)) (fun v1 hh => (some (.int (nI 0)), z_setL hh 35 ((nI 0).toNatClampNeg) v1.toInt64))) = (fn_L_bodyAt x h) := rfl
  generalize (fn_L_bodyAt x h) = RR at E ⊢
  refine z_go hC (pc' := 4) (ls' := [some (.ref 0), some (.int x), some (.ref 35), none]) (st' := [.int x, .ref 0, .int (nI 0), .ref 35]) (h' := h) (cs := []) [.aload_n 2, .iconst 0, .aload_n 0, .iload_n 1] (by decide +kernel) rfl rfl trivial ?_
  refine z_callVx hC hN hR hZ hKin (as := [.int x]) (rest := [.int (nI 0), .ref 35]) ok_L_57 (by decide +kernel) (sp_X7_bodyAt l hl0 _ h x) rfl rfl (Nat.le_of_ble_eq_true rfl) rfl rfl (Nat.le_of_ble_eq_true rfl) ⟨Nat.le_trans (Nat.le_of_ble_eq_true rfl) hB.2.2.2.2.1, Nat.le_trans (Nat.le_of_ble_eq_true rfl) hB.2.2.2.2.2⟩ (fun Ex qx => ?_) (fun rv hh q => ?_)
  · skip
    have E := (z_bk_er qx.1).symm.trans E
    try dsimp only at E
    obtain rfl := z_mem1 qx.2
    refine z_catch (ls' := [some (.ref 0), some (.int x), some (.ref 35), none]) (i := 3) hB [] ⟨0, 9, 12, 13⟩ [] rfl (by decide) (fun z hz => absurd hz List.not_mem_nil) rfl (by decide) lk_L_13 cst_z_EI (by decide) rfl rfl 1 (Or.inr ⟨rfl, 3, rfl, by decide +kernel⟩) ?_
    refine z_go hC (pc' := 14) (ls' := [some (.ref 0), some (.int x), some (.ref 35), none]) (st' := [.int (nI 1)]) (h' := h) (cs := []) [.iconst 1] (by decide +kernel) rfl rfl trivial ?_
    exact z_retx_i hB rfl ⟨Nat.le_of_ble_eq_true rfl, Nat.le_of_ble_eq_true rfl⟩ (by decide +kernel) (z_lfi E)
  · skip
    obtain ⟨v1, rfl, q2⟩ := q
    have E := (z_bk_ok q2).symm.trans E
    try dsimp only at E
    refine z_go hC (pc' := 9) (ls' := [some (.ref 0), some (.int x), some (.ref 35), none]) (st' := []) (h' := z_setL hh 35 ((nI 0).toNatClampNeg) v1.toInt64) (cs := [vp_in (nI 0) 1]) [.i2l, .lastore] (by decide +kernel) rfl rfl (vp_in_nI (n := 0) (N := 1) (by decide) (by decide)) ?_
    refine z_goto hC (off := 6) 15 (by decide +kernel) (by decide) ?_
    refine z_go hC (pc' := 16) (ls' := [some (.ref 0), some (.int x), some (.ref 35), none]) (st' := [.int (nI 0)]) (h' := z_setL hh 35 ((nI 0).toNatClampNeg) v1.toInt64) (cs := []) [.iconst 0] (by decide +kernel) rfl rfl trivial ?_
    exact z_retx_i hB rfl ⟨Nat.le_of_ble_eq_true rfl, Nat.le_of_ble_eq_true rfl⟩ (by decide +kernel) (z_lfi E)

def fn_L_isSafe (x : Int32) (h : z_H) : z_R := z_bk (fn_X7_isSafe x h) (fun Ex => if Ex = z_EI then (some (.int (nI 1)), h) else (some (.int (nI 2)), h)) (fun v1 hh => if v1 = 0 then (some (.int (nI 0)), z_setL hh 35 ((nI 0).toNatClampNeg) 0) else (some (.int (nI 0)), z_setL hh 35 ((nI 0).toNatClampNeg) 1))
def tk_L_isSafe (x : Int32) (h : z_H) : Prop := tk_X7_isSafe x h
set_option maxHeartbeats 4000000 in
set_option maxRecDepth 100000 in
theorem sp_L_isSafe (l : Launch) (hl0 : l.stackTraces = false) (ext : z_Sh) (h : z_H) (x : Int32) (T : tk_L_isSafe x h) : z_Spx l 8 yL_isSafe (.codeWith yL_isSafe cL_isSafe 4 (some .int) [(0, 16, 19, 13), (0, 16, 22, 15)]) 2 12 [.ref 0, .int x, .ref 35] (z_o ext) h (z_PI (fn_L_isSafe x h)) (fun _ => False) := by
  refine z_enterh ft_L (by decide +kernel) fo_L (Nat.le_of_ble_eq_true rfl) ?_
  intro p e R s m args below meth c D dA ad hB
  have hC := hB.1.1
  have hN := hB.1.2.1
  have hR := hB.1.2.2.1
  have hZ := hB.2.1
  have hKin := hB.2.2.1
  unfold tk_L_isSafe at T
  have E : (z_bk (fn_X7_isSafe x h) (fun Ex => if Ex = z_EI then (some (.int (nI 1)), h) else (some (.int (nI 2)), h)) (fun v1 hh => if v1 = 0 then (some (.int (nI 0)), z_setL hh 35 ((nI 0).toNatClampNeg) 0) else (some (.int (nI 0)), z_setL hh 35 ((nI 0).toNatClampNeg) 1))) = (fn_L_isSafe x h) := rfl
  generalize (fn_L_isSafe x h) = RR at E ⊢
  refine z_go hC (pc' := 4) (ls' := [some (.ref 0), some (.int x), some (.ref 35), none]) (st' := [.int x, .ref 0, .int (nI 0), .ref 35]) (h' := h) (cs := []) [.aload_n 2, .iconst 0, .aload_n 0, .iload_n 1] (by decide +kernel) rfl rfl trivial ?_
  have tq := T
  refine z_callVx hC hN hR hZ hKin (as := [.int x]) (rest := [.int (nI 0), .ref 35]) ok_L_60 (by decide +kernel) (sp_X7_isSafe l hl0 _ h x tq) rfl rfl (Nat.le_of_ble_eq_true rfl) rfl rfl (Nat.le_of_ble_eq_true rfl) ⟨Nat.le_trans (Nat.le_of_ble_eq_true rfl) hB.2.2.2.2.1, Nat.le_trans (Nat.le_of_ble_eq_true rfl) hB.2.2.2.2.2⟩ (fun Ex qx => ?_) (fun rv hh q => ?_)
  · skip
    have E := (z_bk_er qx.1).symm.trans E
    try dsimp only at E
    rcases z_mem2 qx.2 with rfl | rfl
    · skip
      have E := (if_pos rfl).symm.trans E
      refine z_catch (ls' := [some (.ref 0), some (.int x), some (.ref 35), none]) (i := 3) hB [] ⟨0, 16, 19, 13⟩ [⟨0, 16, 22, 15⟩] rfl (by decide) (fun z hz => absurd hz List.not_mem_nil) rfl (by decide) lk_L_13 cst_z_EI (by decide) rfl rfl 1 (Or.inr ⟨rfl, 3, rfl, by decide +kernel⟩) ?_
      refine z_go hC (pc' := 21) (ls' := [some (.ref 0), some (.int x), some (.ref 35), none]) (st' := [.int (nI 1)]) (h' := h) (cs := []) [.iconst 1] (by decide +kernel) rfl rfl trivial ?_
      exact z_retx_i hB rfl ⟨Nat.le_of_ble_eq_true rfl, Nat.le_of_ble_eq_true rfl⟩ (by decide +kernel) (z_lfi E)
    · skip
      have E := (if_neg (by decide)).symm.trans E
      refine z_catch (ls' := [some (.ref 0), some (.int x), some (.ref 35), none]) (i := 3) hB [⟨0, 16, 19, 13⟩] ⟨0, 16, 22, 15⟩ [] rfl (by decide) (List.forall_mem_cons.mpr ⟨⟨by decide, z_EI, by decide, by decide, lk_L_13⟩, (fun z hz => absurd hz List.not_mem_nil)⟩) rfl (by decide) lk_L_15 cst_z_ES (by decide) rfl rfl 1 (Or.inr ⟨rfl, 3, rfl, by decide +kernel⟩) ?_
      refine z_go hC (pc' := 24) (ls' := [some (.ref 0), some (.int x), some (.ref 35), none]) (st' := [.int (nI 2)]) (h' := h) (cs := []) [.iconst 2] (by decide +kernel) rfl rfl trivial ?_
      exact z_retx_i hB rfl ⟨Nat.le_of_ble_eq_true rfl, Nat.le_of_ble_eq_true rfl⟩ (by decide +kernel) (z_lfi E)
  · skip
    obtain ⟨v1, rfl, q2, zz⟩ := q
    have E := (z_bk_ok q2).symm.trans E
    try dsimp only at E
    refine z_if_eq hC (off := 7) 14 (by decide +kernel) (by decide) (fun c1 => ?_) (fun c1 => ?_)
    · skip
      have E := (if_pos c1).symm.trans E
      refine z_go hC (pc' := 16) (ls' := [some (.ref 0), some (.int x), some (.ref 35), none]) (st' := []) (h' := z_setL hh 35 ((nI 0).toNatClampNeg) 0) (cs := [vp_in (nI 0) 1]) [.lconst 0, .lastore] (by decide +kernel) rfl rfl (vp_in_nI (n := 0) (N := 1) (by decide) (by decide)) ?_
      refine z_goto hC (off := 9) 25 (by decide +kernel) (by decide) ?_
      refine z_go hC (pc' := 26) (ls' := [some (.ref 0), some (.int x), some (.ref 35), none]) (st' := [.int (nI 0)]) (h' := z_setL hh 35 ((nI 0).toNatClampNeg) 0) (cs := []) [.iconst 0] (by decide +kernel) rfl rfl trivial ?_
      exact z_retx_i hB rfl ⟨Nat.le_of_ble_eq_true rfl, Nat.le_of_ble_eq_true rfl⟩ (by decide +kernel) (z_lfi E)
    · skip
      have E := (if_neg c1).symm.trans E
      refine z_go hC (pc' := 11) (ls' := [some (.ref 0), some (.int x), some (.ref 35), none]) (st' := [.long 1, .int (nI 0), .ref 35]) (h' := hh) (cs := []) [.lconst 1] (by decide +kernel) rfl rfl trivial ?_
      refine z_goto hC (off := 4) 15 (by decide +kernel) (by decide) ?_
      refine z_go hC (pc' := 16) (ls' := [some (.ref 0), some (.int x), some (.ref 35), none]) (st' := []) (h' := z_setL hh 35 ((nI 0).toNatClampNeg) 1) (cs := [vp_in (nI 0) 1]) [.lastore] (by decide +kernel) rfl rfl (vp_in_nI (n := 0) (N := 1) (by decide) (by decide)) ?_
      refine z_goto hC (off := 9) 25 (by decide +kernel) (by decide) ?_
      refine z_go hC (pc' := 26) (ls' := [some (.ref 0), some (.int x), some (.ref 35), none]) (st' := [.int (nI 0)]) (h' := z_setL hh 35 ((nI 0).toNatClampNeg) 1) (cs := []) [.iconst 0] (by decide +kernel) rfl rfl trivial ?_
      exact z_retx_i hB rfl ⟨Nat.le_of_ble_eq_true rfl, Nat.le_of_ble_eq_true rfl⟩ (by decide +kernel) (z_lfi E)

def fn_L_livesFor (x : Int32) (h : z_H) : z_R := z_bk (fn_X7_livesFor x h) (fun Ex => if Ex = z_EA then (some (.int (nI 1)), h) else (some (.int (nI 2)), h)) (fun v1 hh => (some (.int (nI 0)), z_setL hh 35 ((nI 0).toNatClampNeg) v1.toInt64))
def tk_L_livesFor (x : Int32) (h : z_H) : Prop := tk_X7_livesFor x h
set_option maxHeartbeats 4000000 in
set_option maxRecDepth 100000 in
theorem sp_L_livesFor (l : Launch) (hl0 : l.stackTraces = false) (ext : z_Sh) (h : z_H) (x : Int32) (T : tk_L_livesFor x h) : z_Spx l 13 yL_livesFor (.codeWith yL_livesFor cL_livesFor 4 (some .int) [(0, 9, 12, 21), (0, 9, 15, 15)]) 1 6 [.ref 0, .int x, .ref 35] (z_o ext) h (z_PI (fn_L_livesFor x h)) (fun _ => False) := by
  refine z_enterh ft_L (by decide +kernel) fo_L (Nat.le_of_ble_eq_true rfl) ?_
  intro p e R s m args below meth c D dA ad hB
  have hC := hB.1.1
  have hN := hB.1.2.1
  have hR := hB.1.2.2.1
  have hZ := hB.2.1
  have hKin := hB.2.2.1
  unfold tk_L_livesFor at T
  have E : (z_bk (fn_X7_livesFor x h) (fun Ex => if Ex = z_EA then (some (.int (nI 1)), h) else (some (.int (nI 2)), h)) (fun v1 hh => (some (.int (nI 0)), z_setL hh 35 ((nI 0).toNatClampNeg) v1.toInt64))) = (fn_L_livesFor x h) := rfl
  generalize (fn_L_livesFor x h) = RR at E ⊢
  refine z_go hC (pc' := 4) (ls' := [some (.ref 0), some (.int x), some (.ref 35), none]) (st' := [.int x, .ref 0, .int (nI 0), .ref 35]) (h' := h) (cs := []) [.aload_n 2, .iconst 0, .aload_n 0, .iload_n 1] (by decide +kernel) rfl rfl trivial ?_
  have tq := T
  refine z_callVx hC hN hR hZ hKin (as := [.int x]) (rest := [.int (nI 0), .ref 35]) ok_L_63 (by decide +kernel) (sp_X7_livesFor l hl0 _ h x tq) rfl rfl (Nat.le_of_ble_eq_true rfl) rfl rfl (Nat.le_of_ble_eq_true rfl) ⟨Nat.le_trans (Nat.le_of_ble_eq_true rfl) hB.2.2.2.2.1, Nat.le_trans (Nat.le_of_ble_eq_true rfl) hB.2.2.2.2.2⟩ (fun Ex qx => ?_) (fun rv hh q => ?_)
  · skip
    have E := (z_bk_er qx.1).symm.trans E
    try dsimp only at E
    rcases z_mem2 qx.2 with rfl | rfl
    · skip
      have E := (if_pos rfl).symm.trans E
      refine z_catch (ls' := [some (.ref 0), some (.int x), some (.ref 35), none]) (i := 3) hB [] ⟨0, 9, 12, 21⟩ [⟨0, 9, 15, 15⟩] rfl (by decide) (fun z hz => absurd hz List.not_mem_nil) rfl (by decide) lk_L_21 cst_z_EA (by decide) rfl rfl 1 (Or.inr ⟨rfl, 3, rfl, by decide +kernel⟩) ?_
      refine z_go hC (pc' := 14) (ls' := [some (.ref 0), some (.int x), some (.ref 35), none]) (st' := [.int (nI 1)]) (h' := h) (cs := []) [.iconst 1] (by decide +kernel) rfl rfl trivial ?_
      exact z_retx_i hB rfl ⟨Nat.le_of_ble_eq_true rfl, Nat.le_of_ble_eq_true rfl⟩ (by decide +kernel) (z_lfi E)
    · skip
      have E := (if_neg (by decide)).symm.trans E
      refine z_catch (ls' := [some (.ref 0), some (.int x), some (.ref 35), none]) (i := 3) hB [⟨0, 9, 12, 21⟩] ⟨0, 9, 15, 15⟩ [] rfl (by decide) (List.forall_mem_cons.mpr ⟨⟨by decide, z_EA, by decide, by decide, lk_L_21⟩, (fun z hz => absurd hz List.not_mem_nil)⟩) rfl (by decide) lk_L_15 cst_z_ES (by decide) rfl rfl 1 (Or.inr ⟨rfl, 3, rfl, by decide +kernel⟩) ?_
      refine z_go hC (pc' := 17) (ls' := [some (.ref 0), some (.int x), some (.ref 35), none]) (st' := [.int (nI 2)]) (h' := h) (cs := []) [.iconst 2] (by decide +kernel) rfl rfl trivial ?_
      exact z_retx_i hB rfl ⟨Nat.le_of_ble_eq_true rfl, Nat.le_of_ble_eq_true rfl⟩ (by decide +kernel) (z_lfi E)
  · skip
    obtain ⟨v1, rfl, q2⟩ := q
    have E := (z_bk_ok q2).symm.trans E
    try dsimp only at E
    refine z_go hC (pc' := 9) (ls' := [some (.ref 0), some (.int x), some (.ref 35), none]) (st' := []) (h' := z_setL hh 35 ((nI 0).toNatClampNeg) v1.toInt64) (cs := [vp_in (nI 0) 1]) [.i2l, .lastore] (by decide +kernel) rfl rfl (vp_in_nI (n := 0) (N := 1) (by decide) (by decide)) ?_
    refine z_goto hC (off := 9) 18 (by decide +kernel) (by decide) ?_
    refine z_go hC (pc' := 19) (ls' := [some (.ref 0), some (.int x), some (.ref 35), none]) (st' := [.int (nI 0)]) (h' := z_setL hh 35 ((nI 0).toNatClampNeg) v1.toInt64) (cs := []) [.iconst 0] (by decide +kernel) rfl rfl trivial ?_
    exact z_retx_i hB rfl ⟨Nat.le_of_ble_eq_true rfl, Nat.le_of_ble_eq_true rfl⟩ (by decide +kernel) (z_lfi E)

def fn_L_fewest  (h : z_H) : z_R := z_bk (fn_X7_fewest  h) (fun Ex => (some (.int (nI 1)), h)) (fun v1 hh => (some (.int (nI 0)), z_setL hh 35 ((nI 0).toNatClampNeg) v1.toInt64))
def tk_L_fewest  (h : z_H) : Prop := tk_X7_fewest  h
set_option maxHeartbeats 4000000 in
set_option maxRecDepth 100000 in
theorem sp_L_fewest (l : Launch) (hl0 : l.stackTraces = false) (ext : z_Sh) (h : z_H)  (T : tk_L_fewest  h) : z_Spx l 13 yL_fewest (.codeWith yL_fewest cL_fewest 3 (some .int) [(0, 8, 11, 15)]) 1 6 [.ref 0, .ref 35] (z_o ext) h (z_PI (fn_L_fewest  h)) (fun _ => False) := by
  refine z_enterh ft_L (by decide +kernel) fo_L (Nat.le_of_ble_eq_true rfl) ?_
  intro p e R s m args below meth c D dA ad hB
  have hC := hB.1.1
  have hN := hB.1.2.1
  have hR := hB.1.2.2.1
  have hZ := hB.2.1
  have hKin := hB.2.2.1
  unfold tk_L_fewest at T
  have E : (z_bk (fn_X7_fewest  h) (fun Ex => (some (.int (nI 1)), h)) (fun v1 hh => (some (.int (nI 0)), z_setL hh 35 ((nI 0).toNatClampNeg) v1.toInt64))) = (fn_L_fewest  h) := rfl
  generalize (fn_L_fewest  h) = RR at E ⊢
  refine z_go hC (pc' := 3) (ls' := [some (.ref 0), some (.ref 35), none]) (st' := [.ref 0, .int (nI 0), .ref 35]) (h' := h) (cs := []) [.aload_n 1, .iconst 0, .aload_n 0] (by decide +kernel) rfl rfl trivial ?_
  have tq := T
  refine z_callVx hC hN hR hZ hKin (as := []) (rest := [.int (nI 0), .ref 35]) ok_L_66 (by decide +kernel) (sp_X7_fewest l hl0 _ h  tq) rfl rfl (Nat.le_of_ble_eq_true rfl) rfl rfl (Nat.le_of_ble_eq_true rfl) ⟨Nat.le_trans (Nat.le_of_ble_eq_true rfl) hB.2.2.2.2.1, Nat.le_trans (Nat.le_of_ble_eq_true rfl) hB.2.2.2.2.2⟩ (fun Ex qx => ?_) (fun rv hh q => ?_)
  · skip
    have E := (z_bk_er qx.1).symm.trans E
    try dsimp only at E
    obtain rfl := z_mem1 qx.2
    refine z_catch (ls' := [some (.ref 0), some (.ref 35), none]) (i := 2) hB [] ⟨0, 8, 11, 15⟩ [] rfl (by decide) (fun z hz => absurd hz List.not_mem_nil) rfl (by decide) lk_L_15 cst_z_ES (by decide) rfl rfl 1 (Or.inr ⟨rfl, 2, rfl, by decide +kernel⟩) ?_
    refine z_go hC (pc' := 13) (ls' := [some (.ref 0), some (.ref 35), none]) (st' := [.int (nI 1)]) (h' := h) (cs := []) [.iconst 1] (by decide +kernel) rfl rfl trivial ?_
    exact z_retx_i hB rfl ⟨Nat.le_of_ble_eq_true rfl, Nat.le_of_ble_eq_true rfl⟩ (by decide +kernel) (z_lfi E)
  · skip
    obtain ⟨v1, rfl, q2⟩ := q
    have E := (z_bk_ok q2).symm.trans E
    try dsimp only at E
    refine z_go hC (pc' := 8) (ls' := [some (.ref 0), some (.ref 35), none]) (st' := []) (h' := z_setL hh 35 ((nI 0).toNatClampNeg) v1.toInt64) (cs := [vp_in (nI 0) 1]) [.i2l, .lastore] (by decide +kernel) rfl rfl (vp_in_nI (n := 0) (N := 1) (by decide) (by decide)) ?_
    refine z_goto hC (off := 6) 14 (by decide +kernel) (by decide) ?_
    refine z_go hC (pc' := 15) (ls' := [some (.ref 0), some (.ref 35), none]) (st' := [.int (nI 0)]) (h' := z_setL hh 35 ((nI 0).toNatClampNeg) v1.toInt64) (cs := []) [.iconst 0] (by decide +kernel) rfl rfl trivial ?_
    exact z_retx_i hB rfl ⟨Nat.le_of_ble_eq_true rfl, Nat.le_of_ble_eq_true rfl⟩ (by decide +kernel) (z_lfi E)

def fn_L_fewestByBodies  (h : z_H) : z_R := z_bk (fn_X7_fewestByBodies  h) (fun Ex => (some (.int (nI 1)), h)) (fun v1 hh => (some (.int (nI 0)), z_setL hh 35 ((nI 0).toNatClampNeg) v1.toInt64))
def tk_L_fewestByBodies  (h : z_H) : Prop := tk_X7_fewestByBodies  h
set_option maxHeartbeats 4000000 in
set_option maxRecDepth 100000 in
theorem sp_L_fewestByBodies (l : Launch) (hl0 : l.stackTraces = false) (ext : z_Sh) (h : z_H)  (T : tk_L_fewestByBodies  h) : z_Spx l 8 yL_fewestByBodies (.codeWith yL_fewestByBodies cL_fewestByBodies 3 (some .int) [(0, 8, 11, 15)]) 1 6 [.ref 0, .ref 35] (z_o ext) h (z_PI (fn_L_fewestByBodies  h)) (fun _ => False) := by
  refine z_enterh ft_L (by decide +kernel) fo_L (Nat.le_of_ble_eq_true rfl) ?_
  intro p e R s m args below meth c D dA ad hB
  have hC := hB.1.1
  have hN := hB.1.2.1
  have hR := hB.1.2.2.1
  have hZ := hB.2.1
  have hKin := hB.2.2.1
  unfold tk_L_fewestByBodies at T
  have E : (z_bk (fn_X7_fewestByBodies  h) (fun Ex => (some (.int (nI 1)), h)) (fun v1 hh => (some (.int (nI 0)), z_setL hh 35 ((nI 0).toNatClampNeg) v1.toInt64))) = (fn_L_fewestByBodies  h) := rfl
  generalize (fn_L_fewestByBodies  h) = RR at E ⊢
  refine z_go hC (pc' := 3) (ls' := [some (.ref 0), some (.ref 35), none]) (st' := [.ref 0, .int (nI 0), .ref 35]) (h' := h) (cs := []) [.aload_n 1, .iconst 0, .aload_n 0] (by decide +kernel) rfl rfl trivial ?_
  have tq := T
  refine z_callVx hC hN hR hZ hKin (as := []) (rest := [.int (nI 0), .ref 35]) ok_L_69 (by decide +kernel) (sp_X7_fewestByBodies l hl0 _ h  tq) rfl rfl (Nat.le_of_ble_eq_true rfl) rfl rfl (Nat.le_of_ble_eq_true rfl) ⟨Nat.le_trans (Nat.le_of_ble_eq_true rfl) hB.2.2.2.2.1, Nat.le_trans (Nat.le_of_ble_eq_true rfl) hB.2.2.2.2.2⟩ (fun Ex qx => ?_) (fun rv hh q => ?_)
  · skip
    have E := (z_bk_er qx.1).symm.trans E
    try dsimp only at E
    obtain rfl := z_mem1 qx.2
    refine z_catch (ls' := [some (.ref 0), some (.ref 35), none]) (i := 2) hB [] ⟨0, 8, 11, 15⟩ [] rfl (by decide) (fun z hz => absurd hz List.not_mem_nil) rfl (by decide) lk_L_15 cst_z_ES (by decide) rfl rfl 1 (Or.inr ⟨rfl, 2, rfl, by decide +kernel⟩) ?_
    refine z_go hC (pc' := 13) (ls' := [some (.ref 0), some (.ref 35), none]) (st' := [.int (nI 1)]) (h' := h) (cs := []) [.iconst 1] (by decide +kernel) rfl rfl trivial ?_
    exact z_retx_i hB rfl ⟨Nat.le_of_ble_eq_true rfl, Nat.le_of_ble_eq_true rfl⟩ (by decide +kernel) (z_lfi E)
  · skip
    obtain ⟨v1, rfl, q2⟩ := q
    have E := (z_bk_ok q2).symm.trans E
    try dsimp only at E
    refine z_go hC (pc' := 8) (ls' := [some (.ref 0), some (.ref 35), none]) (st' := []) (h' := z_setL hh 35 ((nI 0).toNatClampNeg) v1.toInt64) (cs := [vp_in (nI 0) 1]) [.i2l, .lastore] (by decide +kernel) rfl rfl (vp_in_nI (n := 0) (N := 1) (by decide) (by decide)) ?_
    refine z_goto hC (off := 6) 14 (by decide +kernel) (by decide) ?_
    refine z_go hC (pc' := 15) (ls' := [some (.ref 0), some (.ref 35), none]) (st' := [.int (nI 0)]) (h' := z_setL hh 35 ((nI 0).toNatClampNeg) v1.toInt64) (cs := []) [.iconst 0] (by decide +kernel) rfl rfl trivial ?_
    exact z_retx_i hB rfl ⟨Nat.le_of_ble_eq_true rfl, Nat.le_of_ble_eq_true rfl⟩ (by decide +kernel) (z_lfi E)
