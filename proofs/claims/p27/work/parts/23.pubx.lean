/-! ===== printed by wip/p27/gen: methods with loops, as functions ===== -/
set_option maxRecDepth 100000 in
theorem atS_X7_66 : ∀ w ∈ vx_atS RX7 66 z_EI ["java/lang/RuntimeException", "java/lang/Exception"], w ∈ z_big ∨ (w.onTables = true ∧ w ∈ z_nst) := by decide +kernel
set_option maxRecDepth 100000 in
theorem otS_X7_66 : ∀ w ∈ vx_atS RX7 66 z_EI ["java/lang/RuntimeException", "java/lang/Exception"], vx_ot w = true := by decide +kernel
theorem okT_X7_62_201 : z_okT RX7 62 201 66 z_EI "no such cell" := ⟨⟨by decide +kernel, by decide⟩, z_bigT 329 (by decide +kernel) rfl, z_bigT 13 (by decide +kernel) rfl, z_nstT 558 (by decide +kernel) rfl, atS_X7_66, fun w hw => (List.mem_cons.mp hw).elim (fun h => h ▸ rfl) (fun hw => (List.mem_cons.mp hw).elim (fun h => h ▸ rfl) (otS_X7_66 w))⟩
theorem okT_X7_62_203 : z_okT RX7 62 203 66 z_EI "no such link" := ⟨⟨by decide +kernel, by decide⟩, z_bigT 329 (by decide +kernel) rfl, z_bigT 13 (by decide +kernel) rfl, z_nstT 441 (by decide +kernel) rfl, atS_X7_66, fun w hw => (List.mem_cons.mp hw).elim (fun h => h ▸ rfl) (fun hw => (List.mem_cons.mp hw).elim (fun h => h ▸ rfl) (otS_X7_66 w))⟩
theorem okT_X7_62_205 : z_okT RX7 62 205 66 z_EI "no such direction" := ⟨⟨by decide +kernel, by decide⟩, z_bigT 329 (by decide +kernel) rfl, z_bigT 13 (by decide +kernel) rfl, z_nstT 597 (by decide +kernel) rfl, atS_X7_66, fun w hw => (List.mem_cons.mp hw).elim (fun h => h ▸ rfl) (fun hw => (List.mem_cons.mp hw).elim (fun h => h ▸ rfl) (otS_X7_66 w))⟩
set_option maxRecDepth 100000 in
theorem atS_X7_81 : ∀ w ∈ vx_atS RX7 81 z_ES ["java/lang/RuntimeException", "java/lang/Exception"], w ∈ z_big ∨ (w.onTables = true ∧ w ∈ z_nst) := by decide +kernel
set_option maxRecDepth 100000 in
theorem otS_X7_81 : ∀ w ∈ vx_atS RX7 81 z_ES ["java/lang/RuntimeException", "java/lang/Exception"], vx_ot w = true := by decide +kernel
theorem okT_X7_77_207 : z_okT RX7 77 207 81 z_ES "there is no cycle" := ⟨⟨by decide +kernel, by decide⟩, z_bigT 408 (by decide +kernel) rfl, z_bigT 14 (by decide +kernel) rfl, z_nstT 648 (by decide +kernel) rfl, atS_X7_81, fun w hw => (List.mem_cons.mp hw).elim (fun h => h ▸ rfl) (fun hw => (List.mem_cons.mp hw).elim (fun h => h ▸ rfl) (otS_X7_81 w))⟩
theorem okT_X7_62_178 : z_okT RX7 62 178 66 z_EI "no such place" := ⟨⟨by decide +kernel, by decide⟩, z_bigT 329 (by decide +kernel) rfl, z_bigT 13 (by decide +kernel) rfl, z_nstT 623 (by decide +kernel) rfl, atS_X7_66, fun w hw => (List.mem_cons.mp hw).elim (fun h => h ▸ rfl) (fun hw => (List.mem_cons.mp hw).elim (fun h => h ▸ rfl) (otS_X7_66 w))⟩
theorem okT_X7_77_210 : z_okT RX7 77 210 81 z_ES "there is no worm, or it is dead" := ⟨⟨by decide +kernel, by decide⟩, z_bigT 408 (by decide +kernel) rfl, z_bigT 14 (by decide +kernel) rfl, z_nstT 490 (by decide +kernel) rfl, atS_X7_81, fun w hw => (List.mem_cons.mp hw).elim (fun h => h ▸ rfl) (fun hw => (List.mem_cons.mp hw).elim (fun h => h ▸ rfl) (otS_X7_81 w))⟩
theorem okT_X7_62_64 : z_okT RX7 62 64 66 z_EI "no such block" := ⟨⟨by decide +kernel, by decide⟩, z_bigT 329 (by decide +kernel) rfl, z_bigT 13 (by decide +kernel) rfl, z_nstT 370 (by decide +kernel) rfl, atS_X7_66, fun w hw => (List.mem_cons.mp hw).elim (fun h => h ▸ rfl) (fun hw => (List.mem_cons.mp hw).elim (fun h => h ▸ rfl) (otS_X7_66 w))⟩
theorem okT_X7_77_79 : z_okT RX7 77 79 81 z_ES "there is a worm, or a feed is in the block" := ⟨⟨by decide +kernel, by decide⟩, z_bigT 408 (by decide +kernel) rfl, z_bigT 14 (by decide +kernel) rfl, z_nstT 417 (by decide +kernel) rfl, atS_X7_81, fun w hw => (List.mem_cons.mp hw).elim (fun h => h ▸ rfl) (fun hw => (List.mem_cons.mp hw).elim (fun h => h ▸ rfl) (otS_X7_81 w))⟩
set_option maxRecDepth 100000 in
theorem atS_X7_97 : ∀ w ∈ vx_atS RX7 97 z_EA ["java/lang/RuntimeException", "java/lang/Exception"], w ∈ z_big ∨ (w.onTables = true ∧ w ∈ z_nst) := by decide +kernel
set_option maxRecDepth 100000 in
theorem otS_X7_97 : ∀ w ∈ vx_atS RX7 97 z_EA ["java/lang/RuntimeException", "java/lang/Exception"], vx_ot w = true := by decide +kernel
theorem okT_X7_93_95 : z_okT RX7 93 95 97 z_EA "weight is out of range" := ⟨⟨by decide +kernel, by decide⟩, z_bigT 442 (by decide +kernel) rfl, z_bigT 15 (by decide +kernel) rfl, z_nstT 451 (by decide +kernel) rfl, atS_X7_97, fun w hw => (List.mem_cons.mp hw).elim (fun h => h ▸ rfl) (fun hw => (List.mem_cons.mp hw).elim (fun h => h ▸ rfl) (otS_X7_97 w))⟩
theorem okT_X7_77_98 : z_okT RX7 77 98 81 z_ES "there is a worm" := ⟨⟨by decide +kernel, by decide⟩, z_bigT 408 (by decide +kernel) rfl, z_bigT 14 (by decide +kernel) rfl, z_nstT 458 (by decide +kernel) rfl, atS_X7_81, fun w hw => (List.mem_cons.mp hw).elim (fun h => h ▸ rfl) (fun hw => (List.mem_cons.mp hw).elim (fun h => h ▸ rfl) (otS_X7_81 w))⟩
theorem okT_X7_93_133 : z_okT RX7 93 133 97 z_EA "owed is out of range" := ⟨⟨by decide +kernel, by decide⟩, z_bigT 442 (by decide +kernel) rfl, z_bigT 15 (by decide +kernel) rfl, z_nstT 559 (by decide +kernel) rfl, atS_X7_97, fun w hw => (List.mem_cons.mp hw).elim (fun h => h ▸ rfl) (fun hw => (List.mem_cons.mp hw).elim (fun h => h ▸ rfl) (otS_X7_97 w))⟩
theorem okT_X7_77_135 : z_okT RX7 77 135 81 z_ES "there is a worm, or the cell is a wall" := ⟨⟨by decide +kernel, by decide⟩, z_bigT 408 (by decide +kernel) rfl, z_bigT 14 (by decide +kernel) rfl, z_nstT 561 (by decide +kernel) rfl, atS_X7_81, fun w hw => (List.mem_cons.mp hw).elim (fun h => h ▸ rfl) (fun hw => (List.mem_cons.mp hw).elim (fun h => h ▸ rfl) (otS_X7_81 w))⟩
theorem okT_X7_77_140 : z_okT RX7 77 140 81 z_ES "there is no worm" := ⟨⟨by decide +kernel, by decide⟩, z_bigT 408 (by decide +kernel) rfl, z_bigT 14 (by decide +kernel) rfl, z_nstT 472 (by decide +kernel) rfl, atS_X7_81, fun w hw => (List.mem_cons.mp hw).elim (fun h => h ▸ rfl) (fun hw => (List.mem_cons.mp hw).elim (fun h => h ▸ rfl) (otS_X7_81 w))⟩
theorem okT_X7_77_150 : z_okT RX7 77 150 81 z_ES "the cell is a wall, or the row is full" := ⟨⟨by decide +kernel, by decide⟩, z_bigT 408 (by decide +kernel) rfl, z_bigT 14 (by decide +kernel) rfl, z_nstT 581 (by decide +kernel) rfl, atS_X7_81, fun w hw => (List.mem_cons.mp hw).elim (fun h => h ▸ rfl) (fun hw => (List.mem_cons.mp hw).elim (fun h => h ▸ rfl) (otS_X7_81 w))⟩
theorem okT_X7_93_167 : z_okT RX7 93 167 97 z_EA "most is out of range" := ⟨⟨by decide +kernel, by decide⟩, z_bigT 442 (by decide +kernel) rfl, z_bigT 15 (by decide +kernel) rfl, z_nstT 485 (by decide +kernel) rfl, atS_X7_97, fun w hw => (List.mem_cons.mp hw).elim (fun h => h ▸ rfl) (fun hw => (List.mem_cons.mp hw).elim (fun h => h ▸ rfl) (otS_X7_97 w))⟩
def fn_X7_checkCell_10 (h : z_H)   : z_RX := .error z_EI
def tk_X7_checkCell_10 (h : z_H)   : Prop := True
def fn_X7_checkCell (x : Int32) (h : z_H) : z_RX := if x < 0 then fn_X7_checkCell_10 h  else if x < (nI 36) then .ok (none, h) else fn_X7_checkCell_10 h 
set_option maxHeartbeats 4000000 in
set_option maxRecDepth 100000 in
theorem sp_X7_checkCell (l : Launch) (hl0 : l.stackTraces = false) (sh : z_Sh) (h : z_H) (x : Int32)  : z_Spx l 6 yX7_checkCell (.code yX7_checkCell cX7_checkCell 1 none) 1 6 [.int x] (sh) h (z_PXV h (fn_X7_checkCell x h)) (z_XX [z_EI] (fn_X7_checkCell x h)) := by
  refine z_enterx ft_X7 (by decide +kernel) fo_X7 (Nat.le_of_ble_eq_true rfl) ?_
  intro p e R s m args below meth c D dA ad hB
  have hC := hB.1.1
  have hN := hB.1.2.1
  have hR := hB.1.2.2.1
  have hZ := hB.2.1
  have hKin := hB.2.2.1
  have E : (if x < 0 then fn_X7_checkCell_10 h  else if x < (nI 36) then .ok (none, h) else fn_X7_checkCell_10 h ) = (fn_X7_checkCell x h) := rfl
  generalize (fn_X7_checkCell x h) = RR at E ⊢
  have P10 : tk_X7_checkCell_10 h   → fn_X7_checkCell_10 h   = RR → z_GX p l e R s m args below meth c D dA ad 1 (z_PXV h RR) (z_XX [z_EI] RR) h 1 6 (sh) 0 0 10 [none] [] h := by
    intro   T E
    unfold tk_X7_checkCell_10 at T; unfold fn_X7_checkCell_10 at E
    exact z_throw hB hl0 rfl okT_X7_62_201 (Nat.le_of_ble_eq_true rfl) ⟨Nat.le_of_ble_eq_true rfl, Nat.le_of_ble_eq_true rfl⟩ (by decide +kernel) (by decide +kernel) (by decide +kernel) (by decide +kernel) (by decide +kernel) ⟨E.symm, by decide⟩
  refine z_go hC (pc' := 1) (ls' := [some (.int x)]) (st' := [.int x]) (h' := h) (cs := []) [.iload_n 0] (by decide +kernel) rfl rfl trivial ?_
  refine z_if_lt hC (off := 9) 10 (by decide +kernel) (by decide) (fun c1 => ?_) (fun c1 => ?_)
  · skip
    have E := (if_pos c1).symm.trans E
    refine z_less (ls' := [none]) (by simp [z_sub]) ?_
    exact P10   trivial E
  · skip
    have E := (if_neg c1).symm.trans E
    refine z_go hC (pc' := 7) (ls' := [some (.int x)]) (st' := [.int (nI 36), .int x]) (h' := h) (cs := []) [.iload_n 0, .bipush 36] (by decide +kernel) rfl rfl trivial ?_
    refine z_icmp_lt hC (off := 13) 20 (by decide +kernel) (by decide) (fun c2 => ?_) (fun c2 => ?_)
    · skip
      have E := (if_pos c2).symm.trans E
      exact z_retx_v hB rfl ⟨Nat.le_of_ble_eq_true rfl, Nat.le_of_ble_eq_true rfl⟩ (by decide +kernel) ⟨rfl, rfl, E.symm⟩
    · skip
      have E := (if_neg c2).symm.trans E
      refine z_less (ls' := [none]) (by simp [z_sub]) ?_
      exact P10   trivial E

def fn_X7_checkLink_10 (h : z_H)   : z_RX := .error z_EI
def tk_X7_checkLink_10 (h : z_H)   : Prop := True
def fn_X7_checkLink (x : Int32) (h : z_H) : z_RX := if x < 0 then fn_X7_checkLink_10 h  else if x < (nI 12) then .ok (none, h) else fn_X7_checkLink_10 h 
set_option maxHeartbeats 4000000 in
set_option maxRecDepth 100000 in
theorem sp_X7_checkLink (l : Launch) (hl0 : l.stackTraces = false) (sh : z_Sh) (h : z_H) (x : Int32)  : z_Spx l 6 yX7_checkLink (.code yX7_checkLink cX7_checkLink 1 none) 1 6 [.int x] (sh) h (z_PXV h (fn_X7_checkLink x h)) (z_XX [z_EI] (fn_X7_checkLink x h)) := by
  refine z_enterx ft_X7 (by decide +kernel) fo_X7 (Nat.le_of_ble_eq_true rfl) ?_
  intro p e R s m args below meth c D dA ad hB
  have hC := hB.1.1
  have hN := hB.1.2.1
  have hR := hB.1.2.2.1
  have hZ := hB.2.1
  have hKin := hB.2.2.1
  have E : (if x < 0 then fn_X7_checkLink_10 h  else if x < (nI 12) then .ok (none, h) else fn_X7_checkLink_10 h ) = (fn_X7_checkLink x h) := rfl
  generalize (fn_X7_checkLink x h) = RR at E ⊢
  have P10 : tk_X7_checkLink_10 h   → fn_X7_checkLink_10 h   = RR → z_GX p l e R s m args below meth c D dA ad 1 (z_PXV h RR) (z_XX [z_EI] RR) h 1 6 (sh) 0 0 10 [none] [] h := by
    intro   T E
    unfold tk_X7_checkLink_10 at T; unfold fn_X7_checkLink_10 at E
    exact z_throw hB hl0 rfl okT_X7_62_203 (Nat.le_of_ble_eq_true rfl) ⟨Nat.le_of_ble_eq_true rfl, Nat.le_of_ble_eq_true rfl⟩ (by decide +kernel) (by decide +kernel) (by decide +kernel) (by decide +kernel) (by decide +kernel) ⟨E.symm, by decide⟩
  refine z_go hC (pc' := 1) (ls' := [some (.int x)]) (st' := [.int x]) (h' := h) (cs := []) [.iload_n 0] (by decide +kernel) rfl rfl trivial ?_
  refine z_if_lt hC (off := 9) 10 (by decide +kernel) (by decide) (fun c1 => ?_) (fun c1 => ?_)
  · skip
    have E := (if_pos c1).symm.trans E
    refine z_less (ls' := [none]) (by simp [z_sub]) ?_
    exact P10   trivial E
  · skip
    have E := (if_neg c1).symm.trans E
    refine z_go hC (pc' := 7) (ls' := [some (.int x)]) (st' := [.int (nI 12), .int x]) (h' := h) (cs := []) [.iload_n 0, .bipush 12] (by decide +kernel) rfl rfl trivial ?_
    refine z_icmp_lt hC (off := 13) 20 (by decide +kernel) (by decide) (fun c2 => ?_) (fun c2 => ?_)
    · skip
      have E := (if_pos c2).symm.trans E
      exact z_retx_v hB rfl ⟨Nat.le_of_ble_eq_true rfl, Nat.le_of_ble_eq_true rfl⟩ (by decide +kernel) ⟨rfl, rfl, E.symm⟩
    · skip
      have E := (if_neg c2).symm.trans E
      refine z_less (ls' := [none]) (by simp [z_sub]) ?_
      exact P10   trivial E

def fn_X7_checkDirection_9 (h : z_H)   : z_RX := .error z_EI
def tk_X7_checkDirection_9 (h : z_H)   : Prop := True
def fn_X7_checkDirection (x : Int32) (h : z_H) : z_RX := if x < 0 then fn_X7_checkDirection_9 h  else if x < (nI 4) then .ok (none, h) else fn_X7_checkDirection_9 h 
set_option maxHeartbeats 4000000 in
set_option maxRecDepth 100000 in
theorem sp_X7_checkDirection (l : Launch) (hl0 : l.stackTraces = false) (sh : z_Sh) (h : z_H) (x : Int32)  : z_Spx l 6 yX7_checkDirection (.code yX7_checkDirection cX7_checkDirection 1 none) 1 6 [.int x] (sh) h (z_PXV h (fn_X7_checkDirection x h)) (z_XX [z_EI] (fn_X7_checkDirection x h)) := by
  refine z_enterx ft_X7 (by decide +kernel) fo_X7 (Nat.le_of_ble_eq_true rfl) ?_
  intro p e R s m args below meth c D dA ad hB
  have hC := hB.1.1
  have hN := hB.1.2.1
  have hR := hB.1.2.2.1
  have hZ := hB.2.1
  have hKin := hB.2.2.1
  have E : (if x < 0 then fn_X7_checkDirection_9 h  else if x < (nI 4) then .ok (none, h) else fn_X7_checkDirection_9 h ) = (fn_X7_checkDirection x h) := rfl
  generalize (fn_X7_checkDirection x h) = RR at E ⊢
  have P9 : tk_X7_checkDirection_9 h   → fn_X7_checkDirection_9 h   = RR → z_GX p l e R s m args below meth c D dA ad 1 (z_PXV h RR) (z_XX [z_EI] RR) h 1 6 (sh) 0 0 9 [none] [] h := by
    intro   T E
    unfold tk_X7_checkDirection_9 at T; unfold fn_X7_checkDirection_9 at E
    exact z_throw hB hl0 rfl okT_X7_62_205 (Nat.le_of_ble_eq_true rfl) ⟨Nat.le_of_ble_eq_true rfl, Nat.le_of_ble_eq_true rfl⟩ (by decide +kernel) (by decide +kernel) (by decide +kernel) (by decide +kernel) (by decide +kernel) ⟨E.symm, by decide⟩
  refine z_go hC (pc' := 1) (ls' := [some (.int x)]) (st' := [.int x]) (h' := h) (cs := []) [.iload_n 0] (by decide +kernel) rfl rfl trivial ?_
  refine z_if_lt hC (off := 8) 9 (by decide +kernel) (by decide) (fun c1 => ?_) (fun c1 => ?_)
  · skip
    have E := (if_pos c1).symm.trans E
    refine z_less (ls' := [none]) (by simp [z_sub]) ?_
    exact P9   trivial E
  · skip
    have E := (if_neg c1).symm.trans E
    refine z_go hC (pc' := 6) (ls' := [some (.int x)]) (st' := [.int (nI 4), .int x]) (h' := h) (cs := []) [.iload_n 0, .iconst 4] (by decide +kernel) rfl rfl trivial ?_
    refine z_icmp_lt hC (off := 13) 19 (by decide +kernel) (by decide) (fun c2 => ?_) (fun c2 => ?_)
    · skip
      have E := (if_pos c2).symm.trans E
      exact z_retx_v hB rfl ⟨Nat.le_of_ble_eq_true rfl, Nat.le_of_ble_eq_true rfl⟩ (by decide +kernel) ⟨rfl, rfl, E.symm⟩
    · skip
      have E := (if_neg c2).symm.trans E
      refine z_less (ls' := [none]) (by simp [z_sub]) ?_
      exact P9   trivial E

def fn_X7_checkCycle  (h : z_H) : z_RX := if (fv_X2_isThere h ) = 0 then .error z_ES else .ok (none, h)
set_option maxHeartbeats 4000000 in
set_option maxRecDepth 100000 in
theorem sp_X7_checkCycle (l : Launch) (hl0 : l.stackTraces = false) (ext : z_Sh) (h : z_H)   : z_Spx l 6 yX7_checkCycle (.code yX7_checkCycle cX7_checkCycle 1 none) 1 6 [.ref 0] (z_c ext) h (z_PXV h (fn_X7_checkCycle  h)) (z_XX [z_ES] (fn_X7_checkCycle  h)) := by
  refine z_enterx ft_X7 (by decide +kernel) fo_X7 (Nat.le_of_ble_eq_true rfl) ?_
  intro p e R s m args below meth c D dA ad hB
  have hC := hB.1.1
  have hN := hB.1.2.1
  have hR := hB.1.2.2.1
  have hZ := hB.2.1
  have hKin := hB.2.2.1
  have E : (if (fv_X2_isThere h ) = 0 then .error z_ES else .ok (none, h)) = (fn_X7_checkCycle  h) := rfl
  generalize (fn_X7_checkCycle  h) = RR at E ⊢
  refine z_go hC (pc' := 4) (ls' := [some (.ref 0)]) (st' := [.ref 4]) (h' := h) (cs := []) [.aload_n 0, .getfield 21] (by decide +kernel) rfl rfl trivial ?_
  refine z_callV hC hN hR (as := []) (rest := []) ok_X7_117 (by decide +kernel) (sp_X2_isThere l _ h ) rfl rfl (Nat.le_of_ble_eq_true rfl) rfl rfl (Nat.le_of_ble_eq_true rfl) ⟨Nat.le_trans (Nat.le_of_ble_eq_true rfl) hB.2.2.2.2.1, Nat.le_trans (Nat.le_of_ble_eq_true rfl) hB.2.2.2.2.2⟩ (fun r1 h2 q3 => z_fun q3 ?_)
  refine z_if_ne hC (off := 13) 20 (by decide +kernel) (by decide) (fun c4 => ?_) (fun c4 => ?_)
  · skip
    have E := (if_neg c4).symm.trans E
    exact z_retx_v hB rfl ⟨Nat.le_of_ble_eq_true rfl, Nat.le_of_ble_eq_true rfl⟩ (by decide +kernel) ⟨rfl, rfl, E.symm⟩
  · skip
    have E := (if_pos c4).symm.trans E
    exact z_throw hB hl0 rfl okT_X7_77_207 (Nat.le_of_ble_eq_true rfl) ⟨Nat.le_of_ble_eq_true rfl, Nat.le_of_ble_eq_true rfl⟩ (by decide +kernel) (by decide +kernel) (by decide +kernel) (by decide +kernel) (by decide +kernel) ⟨E.symm, by decide⟩

def fn_X7_checkPlaceOfCycle_15 (h : z_H)   : z_RX := .error z_EI
def tk_X7_checkPlaceOfCycle_15 (h : z_H)   : Prop := True
def fn_X7_checkPlaceOfCycle (x : Int32) (h : z_H) : z_RX := if x < 0 then fn_X7_checkPlaceOfCycle_15 h  else if x < (h.1 4 4) then .ok (none, h) else fn_X7_checkPlaceOfCycle_15 h 
set_option maxHeartbeats 4000000 in
set_option maxRecDepth 100000 in
theorem sp_X7_checkPlaceOfCycle (l : Launch) (hl0 : l.stackTraces = false) (ext : z_Sh) (h : z_H) (x : Int32)  : z_Spx l 6 yX7_checkPlaceOfCycle (.code yX7_checkPlaceOfCycle cX7_checkPlaceOfCycle 2 none) 1 6 [.ref 0, .int x] (z_c ext) h (z_PXV h (fn_X7_checkPlaceOfCycle x h)) (z_XX [z_EI] (fn_X7_checkPlaceOfCycle x h)) := by
  refine z_enterx ft_X7 (by decide +kernel) fo_X7 (Nat.le_of_ble_eq_true rfl) ?_
  intro p e R s m args below meth c D dA ad hB
  have hC := hB.1.1
  have hN := hB.1.2.1
  have hR := hB.1.2.2.1
  have hZ := hB.2.1
  have hKin := hB.2.2.1
  have E : (if x < 0 then fn_X7_checkPlaceOfCycle_15 h  else if x < (h.1 4 4) then .ok (none, h) else fn_X7_checkPlaceOfCycle_15 h ) = (fn_X7_checkPlaceOfCycle x h) := rfl
  generalize (fn_X7_checkPlaceOfCycle x h) = RR at E ⊢
  have P15 : tk_X7_checkPlaceOfCycle_15 h   → fn_X7_checkPlaceOfCycle_15 h   = RR → z_GX p l e R s m args below meth c D dA ad 2 (z_PXV h RR) (z_XX [z_EI] RR) h 1 6 (z_c ext) 0 0 15 [none, none] [] h := by
    intro   T E
    unfold tk_X7_checkPlaceOfCycle_15 at T; unfold fn_X7_checkPlaceOfCycle_15 at E
    exact z_throw hB hl0 rfl okT_X7_62_178 (Nat.le_of_ble_eq_true rfl) ⟨Nat.le_of_ble_eq_true rfl, Nat.le_of_ble_eq_true rfl⟩ (by decide +kernel) (by decide +kernel) (by decide +kernel) (by decide +kernel) (by decide +kernel) ⟨E.symm, by decide⟩
  refine z_go hC (pc' := 1) (ls' := [some (.ref 0), some (.int x)]) (st' := [.int x]) (h' := h) (cs := []) [.iload_n 1] (by decide +kernel) rfl rfl trivial ?_
  refine z_if_lt hC (off := 14) 15 (by decide +kernel) (by decide) (fun c1 => ?_) (fun c1 => ?_)
  · skip
    have E := (if_pos c1).symm.trans E
    refine z_less (ls' := [none, none]) (by simp [z_sub]) ?_
    exact P15   trivial E
  · skip
    have E := (if_neg c1).symm.trans E
    refine z_go hC (pc' := 9) (ls' := [some (.ref 0), some (.int x)]) (st' := [.ref 4, .int x]) (h' := h) (cs := []) [.iload_n 1, .aload_n 0, .getfield 21] (by decide +kernel) rfl rfl trivial ?_
    refine z_callV hC hN hR (as := []) (rest := [.int x]) ok_X7_209 (by decide +kernel) (sp_X2_size l _ h ) rfl rfl (Nat.le_of_ble_eq_true rfl) rfl rfl (Nat.le_of_ble_eq_true rfl) ⟨Nat.le_trans (Nat.le_of_ble_eq_true rfl) hB.2.2.2.2.1, Nat.le_trans (Nat.le_of_ble_eq_true rfl) hB.2.2.2.2.2⟩ (fun r2 h3 q4 => z_fun q4 ?_)
    refine z_icmp_lt hC (off := 13) 25 (by decide +kernel) (by decide) (fun c5 => ?_) (fun c5 => ?_)
    · skip
      have E := (if_pos c5).symm.trans E
      exact z_retx_v hB rfl ⟨Nat.le_of_ble_eq_true rfl, Nat.le_of_ble_eq_true rfl⟩ (by decide +kernel) ⟨rfl, rfl, E.symm⟩
    · skip
      have E := (if_neg c5).symm.trans E
      refine z_less (ls' := [none, none]) (by simp [z_sub]) ?_
      exact P15   trivial E

def fn_X7_checkLivingWorm  (h : z_H) : z_RX := if (fv_X6_isLiving h ) = 0 then .error z_ES else .ok (none, h)
set_option maxHeartbeats 4000000 in
set_option maxRecDepth 100000 in
theorem sp_X7_checkLivingWorm (l : Launch) (hl0 : l.stackTraces = false) (ext : z_Sh) (h : z_H)   : z_Spx l 6 yX7_checkLivingWorm (.code yX7_checkLivingWorm cX7_checkLivingWorm 1 none) 1 6 [.ref 0] (z_c ext) h (z_PXV h (fn_X7_checkLivingWorm  h)) (z_XX [z_ES] (fn_X7_checkLivingWorm  h)) := by
  refine z_enterx ft_X7 (by decide +kernel) fo_X7 (Nat.le_of_ble_eq_true rfl) ?_
  intro p e R s m args below meth c D dA ad hB
  have hC := hB.1.1
  have hN := hB.1.2.1
  have hR := hB.1.2.2.1
  have hZ := hB.2.1
  have hKin := hB.2.2.1
  have E : (if (fv_X6_isLiving h ) = 0 then .error z_ES else .ok (none, h)) = (fn_X7_checkLivingWorm  h) := rfl
  generalize (fn_X7_checkLivingWorm  h) = RR at E ⊢
  refine z_go hC (pc' := 4) (ls' := [some (.ref 0)]) (st' := [.ref 10]) (h' := h) (cs := []) [.aload_n 0, .getfield 37] (by decide +kernel) rfl rfl trivial ?_
  refine z_callV hC hN hR (as := []) (rest := []) ok_X7_172 (by decide +kernel) (sp_X6_isLiving l _ h ) rfl rfl (Nat.le_of_ble_eq_true rfl) rfl rfl (Nat.le_of_ble_eq_true rfl) ⟨Nat.le_trans (Nat.le_of_ble_eq_true rfl) hB.2.2.2.2.1, Nat.le_trans (Nat.le_of_ble_eq_true rfl) hB.2.2.2.2.2⟩ (fun r1 h2 q3 => z_fun q3 ?_)
  refine z_if_ne hC (off := 13) 20 (by decide +kernel) (by decide) (fun c4 => ?_) (fun c4 => ?_)
  · skip
    have E := (if_neg c4).symm.trans E
    exact z_retx_v hB rfl ⟨Nat.le_of_ble_eq_true rfl, Nat.le_of_ble_eq_true rfl⟩ (by decide +kernel) ⟨rfl, rfl, E.symm⟩
  · skip
    have E := (if_pos c4).symm.trans E
    exact z_throw hB hl0 rfl okT_X7_77_210 (Nat.le_of_ble_eq_true rfl) ⟨Nat.le_of_ble_eq_true rfl, Nat.le_of_ble_eq_true rfl⟩ (by decide +kernel) (by decide +kernel) (by decide +kernel) (by decide +kernel) (by decide +kernel) ⟨E.symm, by decide⟩

def fn_X7_setWall_10 (h : z_H)   : z_RX := .error z_EI
def tk_X7_setWall_10 (h : z_H)   : Prop := True
def fn_X7_setWall_41 (h : z_H)   : z_RX := .error z_ES
def tk_X7_setWall_41 (h : z_H)   : Prop := True
def fn_X7_setWall (x : Int32) (y : Int32) (h : z_H) : z_RX := if x < 0 then fn_X7_setWall_10 h  else if x < (nI 9) then if (fv_X6_isThere h ) = 0 then if (z_vi0 (fn_X3_hasOneIn x h)) = 0 then .ok (some (.int (fv_X0_hasWallOn h x)), (fn_X2_layOut  (fh_X0_putWall h x y)).2) else fn_X7_setWall_41 h  else fn_X7_setWall_41 h  else fn_X7_setWall_10 h 
def tk_X7_setWall (x : Int32) (y : Int32) (h : z_H) : Prop := ((x < 0) → (True)) ∧ ((¬ x < 0) → (((x < (nI 9)) → ((((fv_X6_isThere h ) = 0) → (tk_X3_hasOneIn x h ∧ ((((z_vi0 (fn_X3_hasOneIn x h)) = 0) → (tk_X2_layOut  (fh_X0_putWall h x y))) ∧ ((¬ (z_vi0 (fn_X3_hasOneIn x h)) = 0) → (True))))) ∧ ((¬ (fv_X6_isThere h ) = 0) → (True)))) ∧ ((¬ x < (nI 9)) → (True))))
set_option maxHeartbeats 4000000 in
set_option maxRecDepth 100000 in
theorem sp_X7_setWall (l : Launch) (hl0 : l.stackTraces = false) (ext : z_Sh) (h : z_H) (x : Int32) (y : Int32) (T : tk_X7_setWall x y h) : z_Spx l 6 yX7_setWall (.code yX7_setWall cX7_setWall 4 (some .boolean)) 1 6 [.ref 0, .int x, .int y] (z_c ext) h (z_PXB (fn_X7_setWall x y h)) (z_XX [z_EI, z_ES] (fn_X7_setWall x y h)) := by
  refine z_enterx ft_X7 (by decide +kernel) fo_X7 (Nat.le_of_ble_eq_true rfl) ?_
  intro p e R s m args below meth c D dA ad hB
  have hC := hB.1.1
  have hN := hB.1.2.1
  have hR := hB.1.2.2.1
  have hZ := hB.2.1
  have hKin := hB.2.2.1
  unfold tk_X7_setWall at T
  have E : (if x < 0 then fn_X7_setWall_10 h  else if x < (nI 9) then if (fv_X6_isThere h ) = 0 then if (z_vi0 (fn_X3_hasOneIn x h)) = 0 then .ok (some (.int (fv_X0_hasWallOn h x)), (fn_X2_layOut  (fh_X0_putWall h x y)).2) else fn_X7_setWall_41 h  else fn_X7_setWall_41 h  else fn_X7_setWall_10 h ) = (fn_X7_setWall x y h) := rfl
  generalize (fn_X7_setWall x y h) = RR at E ⊢
  have P10 : tk_X7_setWall_10 h   → fn_X7_setWall_10 h   = RR → z_GX p l e R s m args below meth c D dA ad 4 (z_PXB RR) (z_XX [z_EI, z_ES] RR) h 1 6 (z_c ext) 0 0 10 [none, none, none, none] [] h := by
    intro   T E
    unfold tk_X7_setWall_10 at T; unfold fn_X7_setWall_10 at E
    exact z_throw hB hl0 rfl okT_X7_62_64 (Nat.le_of_ble_eq_true rfl) ⟨Nat.le_of_ble_eq_true rfl, Nat.le_of_ble_eq_true rfl⟩ (by decide +kernel) (by decide +kernel) (by decide +kernel) (by decide +kernel) (by decide +kernel) ⟨E.symm, by decide⟩
  have P41 : tk_X7_setWall_41 h   → fn_X7_setWall_41 h   = RR → z_GX p l e R s m args below meth c D dA ad 4 (z_PXB RR) (z_XX [z_EI, z_ES] RR) h 1 6 (z_c ext) 0 0 41 [none, none, none, none] [] h := by
    intro   T E
    unfold tk_X7_setWall_41 at T; unfold fn_X7_setWall_41 at E
    exact z_throw hB hl0 rfl okT_X7_77_79 (Nat.le_of_ble_eq_true rfl) ⟨Nat.le_of_ble_eq_true rfl, Nat.le_of_ble_eq_true rfl⟩ (by decide +kernel) (by decide +kernel) (by decide +kernel) (by decide +kernel) (by decide +kernel) ⟨E.symm, by decide⟩
  refine z_go hC (pc' := 1) (ls' := [some (.ref 0), some (.int x), some (.int y), none]) (st' := [.int x]) (h' := h) (cs := []) [.iload_n 1] (by decide +kernel) rfl rfl trivial ?_
  refine z_if_lt hC (off := 9) 10 (by decide +kernel) (by decide) (fun c1 => ?_) (fun c1 => ?_)
  · skip
    have E := (if_pos c1).symm.trans E
    have T := T.1 c1
    refine z_less (ls' := [none, none, none, none]) (by simp [z_sub]) ?_
    exact P10   trivial E
  · skip
    have E := (if_neg c1).symm.trans E
    have T := T.2 c1
    refine z_go hC (pc' := 7) (ls' := [some (.ref 0), some (.int x), some (.int y), none]) (st' := [.int (nI 9), .int x]) (h' := h) (cs := []) [.iload_n 1, .bipush 9] (by decide +kernel) rfl rfl trivial ?_
    refine z_icmp_lt hC (off := 13) 20 (by decide +kernel) (by decide) (fun c2 => ?_) (fun c2 => ?_)
    · skip
      have E := (if_pos c2).symm.trans E
      have T := T.1 c2
      refine z_go hC (pc' := 24) (ls' := [some (.ref 0), some (.int x), some (.int y), none]) (st' := [.ref 10]) (h' := h) (cs := []) [.aload_n 0, .getfield 37] (by decide +kernel) rfl rfl trivial ?_
      refine z_callV hC hN hR (as := []) (rest := []) ok_X7_69 (by decide +kernel) (sp_X6_isThere l _ h ) rfl rfl (Nat.le_of_ble_eq_true rfl) rfl rfl (Nat.le_of_ble_eq_true rfl) ⟨Nat.le_trans (Nat.le_of_ble_eq_true rfl) hB.2.2.2.2.1, Nat.le_trans (Nat.le_of_ble_eq_true rfl) hB.2.2.2.2.2⟩ (fun r3 h4 q5 => z_fun q5 ?_)
      refine z_if_ne hC (off := 14) 41 (by decide +kernel) (by decide) (fun c6 => ?_) (fun c6 => ?_)
      · skip
        have E := (if_neg c6).symm.trans E
        have T := T.2 c6
        refine z_less (ls' := [none, none, none, none]) (by simp [z_sub]) ?_
        exact P41   trivial E
      · skip
        have E := (if_pos c6).symm.trans E
        have T := T.1 c6
        refine z_go hC (pc' := 35) (ls' := [some (.ref 0), some (.int x), some (.int y), none]) (st' := [.int x, .ref 8]) (h' := h) (cs := []) [.aload_n 0, .getfield 28, .iload_n 1] (by decide +kernel) rfl rfl trivial ?_
        obtain ⟨t10, T⟩ := T
        refine z_callV hC hN hR (as := [.int x]) (rest := []) ok_X7_73 (by decide +kernel) (sp_X3_hasOneIn l _ h x t10) rfl rfl (Nat.le_of_ble_eq_true rfl) rfl rfl (Nat.le_of_ble_eq_true rfl) ⟨Nat.le_trans (Nat.le_of_ble_eq_true rfl) hB.2.2.2.2.1, Nat.le_trans (Nat.le_of_ble_eq_true rfl) hB.2.2.2.2.2⟩ (fun r7 h8 q9 => z_funb q9 (fun z11 => ?_))
        refine z_if_eq hC (off := 13) 51 (by decide +kernel) (by decide) (fun c12 => ?_) (fun c12 => ?_)
        · skip
          have E := (if_pos c12).symm.trans E
          have T := T.1 c12
          refine z_go hC (pc' := 56) (ls' := [some (.ref 0), some (.int x), some (.int y), none]) (st' := [.int x, .ref 1]) (h' := h) (cs := []) [.aload_n 0, .getfield 10, .iload_n 1] (by decide +kernel) rfl rfl trivial ?_
          refine z_callV hC hN hR (as := [.int x]) (rest := []) ok_X7_82 (by decide +kernel) (sp_X0_hasWallOn l _ h x) rfl rfl (Nat.le_of_ble_eq_true rfl) rfl rfl (Nat.le_of_ble_eq_true rfl) ⟨Nat.le_trans (Nat.le_of_ble_eq_true rfl) hB.2.2.2.2.1, Nat.le_trans (Nat.le_of_ble_eq_true rfl) hB.2.2.2.2.2⟩ (fun r13 h14 q15 => z_fun q15 ?_)
          refine z_go hC (pc' := 66) (ls' := [some (.ref 0), some (.int x), some (.int y), some (.int (fv_X0_hasWallOn h x))]) (st' := [.int y, .int x, .ref 1]) (h' := h) (cs := []) [.istore_n 3, .aload_n 0, .getfield 10, .iload_n 1, .iload_n 2] (by decide +kernel) rfl rfl trivial ?_
          refine z_callV hC hN hR (as := [.int x, .int y]) (rest := []) ok_X7_85 (by decide +kernel) (sp_X0_putWall l _ h x y) rfl rfl (Nat.le_of_ble_eq_true rfl) rfl rfl (Nat.le_of_ble_eq_true rfl) ⟨Nat.le_trans (Nat.le_of_ble_eq_true rfl) hB.2.2.2.2.1, Nat.le_trans (Nat.le_of_ble_eq_true rfl) hB.2.2.2.2.2⟩ (fun r16 h17 q18 => z_fun q18 ?_)
          refine z_go hC (pc' := 73) (ls' := [some (.ref 0), some (.int x), some (.int y), some (.int (fv_X0_hasWallOn h x))]) (st' := [.ref 4]) (h' := fh_X0_putWall h x y) (cs := []) [.aload_n 0, .getfield 21] (by decide +kernel) rfl rfl trivial ?_
          have t22 := T
          refine z_callV hC hN hR (as := []) (rest := []) ok_X7_59 (by decide +kernel) (sp_X2_layOut l _ (fh_X0_putWall h x y)  t22) rfl rfl (Nat.le_of_ble_eq_true rfl) rfl rfl (Nat.le_of_ble_eq_true rfl) ⟨Nat.le_trans (Nat.le_of_ble_eq_true rfl) hB.2.2.2.2.1, Nat.le_trans (Nat.le_of_ble_eq_true rfl) hB.2.2.2.2.2⟩ (fun r19 h20 q21 => z_fun q21 ?_)
          refine z_go hC (pc' := 77) (ls' := [some (.ref 0), some (.int x), some (.int y), some (.int (fv_X0_hasWallOn h x))]) (st' := [.int (fv_X0_hasWallOn h x)]) (h' := (fn_X2_layOut  (fh_X0_putWall h x y)).2) (cs := []) [.iload_n 3] (by decide +kernel) rfl rfl trivial ?_
          exact z_retx_z hB rfl (zb_X0_hasWallOn h x) ⟨Nat.le_of_ble_eq_true rfl, Nat.le_of_ble_eq_true rfl⟩ (by decide +kernel) ⟨_, rfl, E.symm, (zb_X0_hasWallOn h x)⟩
        · skip
          have E := (if_neg c12).symm.trans E
          have T := T.2 c12
          refine z_less (ls' := [none, none, none, none]) (by simp [z_sub]) ?_
          exact P41   trivial E
    · skip
      have E := (if_neg c2).symm.trans E
      have T := T.2 c2
      refine z_less (ls' := [none, none, none, none]) (by simp [z_sub]) ?_
      exact P10   trivial E

def fn_X7_setLink_19 (h : z_H)   : z_RX := .error z_EA
def tk_X7_setLink_19 (h : z_H)   : Prop := True
def fn_X7_setLink_29 (h : z_H)  (a1 : Int32) (a2 : Int32) : z_RX := if (fv_X6_isThere h ) = 0 then .ok (some (.int (z_atv h 2 12 a1)), (fn_X2_layOut  (z_putv h 2 12 a1 a2)).2) else .error z_ES
def tk_X7_setLink_29 (h : z_H)  (a1 : Int32) (a2 : Int32) : Prop := (((fv_X6_isThere h ) = 0) → (tk_X2_layOut  (z_putv h 2 12 a1 a2))) ∧ ((¬ (fv_X6_isThere h ) = 0) → (True))
def fn_X7_setLink (x : Int32) (y : Int32) (h : z_H) : z_RX := z_bd (fn_X7_checkLink x h) (if y = (-1) then fn_X7_setLink_29 h x y else if y < 0 then fn_X7_setLink_19 h  else if y ≤ (nI 9) then fn_X7_setLink_29 h x y else fn_X7_setLink_19 h )
def tk_X7_setLink (x : Int32) (y : Int32) (h : z_H) : Prop := ∀ rx : z_R, fn_X7_checkLink x h = .ok rx → (((y = (-1)) → (tk_X7_setLink_29 h x y)) ∧ ((¬ y = (-1)) → (((y < 0) → (True)) ∧ ((¬ y < 0) → (((y ≤ (nI 9)) → (tk_X7_setLink_29 h x y)) ∧ ((¬ y ≤ (nI 9)) → (True)))))))
set_option maxHeartbeats 4000000 in
set_option maxRecDepth 100000 in
theorem sp_X7_setLink (l : Launch) (hl0 : l.stackTraces = false) (ext : z_Sh) (h : z_H) (x : Int32) (y : Int32) (T : tk_X7_setLink x y h) : z_Spx l 7 yX7_setLink (.code yX7_setLink cX7_setLink 4 (some .int)) 2 12 [.ref 0, .int x, .int y] (z_c ext) h (z_PXI (fn_X7_setLink x y h)) (z_XX [z_EI, z_EA, z_ES] (fn_X7_setLink x y h)) := by
  refine z_enterx ft_X7 (by decide +kernel) fo_X7 (Nat.le_of_ble_eq_true rfl) ?_
  intro p e R s m args below meth c D dA ad hB
  have hC := hB.1.1
  have hN := hB.1.2.1
  have hR := hB.1.2.2.1
  have hZ := hB.2.1
  have hKin := hB.2.2.1
  unfold tk_X7_setLink at T
  have E : (z_bd (fn_X7_checkLink x h) (if y = (-1) then fn_X7_setLink_29 h x y else if y < 0 then fn_X7_setLink_19 h  else if y ≤ (nI 9) then fn_X7_setLink_29 h x y else fn_X7_setLink_19 h )) = (fn_X7_setLink x y h) := rfl
  generalize (fn_X7_setLink x y h) = RR at E ⊢
  have P19 : tk_X7_setLink_19 h   → fn_X7_setLink_19 h   = RR → z_GX p l e R s m args below meth c D dA ad 4 (z_PXI RR) (z_XX [z_EI, z_EA, z_ES] RR) h 2 12 (z_c ext) 1 6 19 [none, none, none, none] [] h := by
    intro   T E
    unfold tk_X7_setLink_19 at T; unfold fn_X7_setLink_19 at E
    exact z_throw hB hl0 rfl okT_X7_93_95 (Nat.le_of_ble_eq_true rfl) ⟨Nat.le_of_ble_eq_true rfl, Nat.le_of_ble_eq_true rfl⟩ (by decide +kernel) (by decide +kernel) (by decide +kernel) (by decide +kernel) (by decide +kernel) ⟨E.symm, by decide⟩
  have P29 : ∀ (a1 : Int32) (a2 : Int32), tk_X7_setLink_29 h  a1 a2 → fn_X7_setLink_29 h  a1 a2 = RR → z_GX p l e R s m args below meth c D dA ad 4 (z_PXI RR) (z_XX [z_EI, z_EA, z_ES] RR) h 2 12 (z_c ext) 1 6 29 [some (.ref 0), some (.int a1), some (.int a2), none] [] h := by
    intro  a1 a2 T E
    unfold tk_X7_setLink_29 at T; unfold fn_X7_setLink_29 at E
    refine z_go hC (pc' := 33) (ls' := [some (.ref 0), some (.int a1), some (.int a2), none]) (st' := [.ref 10]) (h' := h) (cs := []) [.aload_n 0, .getfield 37] (by decide +kernel) rfl rfl trivial ?_
    refine z_callV hC hN hR (as := []) (rest := []) ok_X7_69 (by decide +kernel) (sp_X6_isThere l _ h ) rfl rfl (Nat.le_of_ble_eq_true rfl) rfl rfl (Nat.le_of_ble_eq_true rfl) ⟨Nat.le_trans (Nat.le_of_ble_eq_true rfl) hB.2.2.2.2.1, Nat.le_trans (Nat.le_of_ble_eq_true rfl) hB.2.2.2.2.2⟩ (fun r1 h2 q3 => z_fun q3 ?_)
    refine z_if_eq hC (off := 13) 49 (by decide +kernel) (by decide) (fun c4 => ?_) (fun c4 => ?_)
    · skip
      have E := (if_pos c4).symm.trans E
      have T := T.1 c4
      refine z_go hC (pc' := 54) (ls' := [some (.ref 0), some (.int a1), some (.int a2), none]) (st' := [.int a1, .ref 1]) (h' := h) (cs := []) [.aload_n 0, .getfield 10, .iload_n 1] (by decide +kernel) rfl rfl trivial ?_
      refine z_callV hC hN hR (as := [.int a1]) (rest := []) ok_X7_100 (by decide +kernel) (sp_X0_weightOf l _ h a1) rfl rfl (Nat.le_of_ble_eq_true rfl) rfl rfl (Nat.le_of_ble_eq_true rfl) ⟨Nat.le_trans (Nat.le_of_ble_eq_true rfl) hB.2.2.2.2.1, Nat.le_trans (Nat.le_of_ble_eq_true rfl) hB.2.2.2.2.2⟩ (fun r5 h6 q7 => z_fun q7 ?_)
      refine z_go hC (pc' := 64) (ls' := [some (.ref 0), some (.int a1), some (.int a2), some (.int (z_atv h 2 12 a1))]) (st' := [.int a2, .int a1, .ref 1]) (h' := h) (cs := []) [.istore_n 3, .aload_n 0, .getfield 10, .iload_n 1, .iload_n 2] (by decide +kernel) rfl rfl trivial ?_
      refine z_callV hC hN hR (as := [.int a1, .int a2]) (rest := []) ok_X7_104 (by decide +kernel) (sp_X0_putWeight l _ h a1 a2) rfl rfl (Nat.le_of_ble_eq_true rfl) rfl rfl (Nat.le_of_ble_eq_true rfl) ⟨Nat.le_trans (Nat.le_of_ble_eq_true rfl) hB.2.2.2.2.1, Nat.le_trans (Nat.le_of_ble_eq_true rfl) hB.2.2.2.2.2⟩ (fun r8 h9 q10 => z_fun q10 ?_)
      refine z_go hC (pc' := 71) (ls' := [some (.ref 0), some (.int a1), some (.int a2), some (.int (z_atv h 2 12 a1))]) (st' := [.ref 4]) (h' := z_putv h 2 12 a1 a2) (cs := []) [.aload_n 0, .getfield 21] (by decide +kernel) rfl rfl trivial ?_
      have t14 := T
      refine z_callV hC hN hR (as := []) (rest := []) ok_X7_59 (by decide +kernel) (sp_X2_layOut l _ (z_putv h 2 12 a1 a2)  t14) rfl rfl (Nat.le_of_ble_eq_true rfl) rfl rfl (Nat.le_of_ble_eq_true rfl) ⟨Nat.le_trans (Nat.le_of_ble_eq_true rfl) hB.2.2.2.2.1, Nat.le_trans (Nat.le_of_ble_eq_true rfl) hB.2.2.2.2.2⟩ (fun r11 h12 q13 => z_fun q13 ?_)
      refine z_go hC (pc' := 75) (ls' := [some (.ref 0), some (.int a1), some (.int a2), some (.int (z_atv h 2 12 a1))]) (st' := [.int (z_atv h 2 12 a1)]) (h' := (fn_X2_layOut  (z_putv h 2 12 a1 a2)).2) (cs := []) [.iload_n 3] (by decide +kernel) rfl rfl trivial ?_
      exact z_retx_i hB rfl ⟨Nat.le_of_ble_eq_true rfl, Nat.le_of_ble_eq_true rfl⟩ (by decide +kernel) ⟨_, rfl, E.symm⟩
    · skip
      have E := (if_neg c4).symm.trans E
      have T := T.2 c4
      exact z_throw hB hl0 rfl okT_X7_77_98 (Nat.le_of_ble_eq_true rfl) ⟨Nat.le_of_ble_eq_true rfl, Nat.le_of_ble_eq_true rfl⟩ (by decide +kernel) (by decide +kernel) (by decide +kernel) (by decide +kernel) (by decide +kernel) ⟨E.symm, by decide⟩
  refine z_go hC (pc' := 1) (ls' := [some (.ref 0), some (.int x), some (.int y), none]) (st' := [.int x]) (h' := h) (cs := []) [.iload_n 1] (by decide +kernel) rfl rfl trivial ?_
  refine z_callSx hC hN hR hZ hKin (as := [.int x]) (rest := []) ok_X7_89 (by decide +kernel) (sp_X7_checkLink l hl0 _ h x) (Nat.le_of_ble_eq_true rfl) rfl rfl (Nat.le_of_ble_eq_true rfl) ⟨Nat.le_trans (Nat.le_of_ble_eq_true rfl) hB.2.2.2.2.1, Nat.le_trans (Nat.le_of_ble_eq_true rfl) hB.2.2.2.2.2⟩ (fun Ex qx => z_out hB rfl ⟨Nat.le_of_ble_eq_true rfl, Nat.le_of_ble_eq_true rfl⟩ ⟨((z_bd_er qx.1).symm.trans E).symm, z_msub (by decide) qx.2⟩) (fun rv hh q15 => z_fun ⟨q15.1, q15.2.1⟩ ?_)
  have E := (z_bd_ok q15.2.2).symm.trans E
  have T := T _ q15.2.2
  refine z_go hC (pc' := 6) (ls' := [some (.ref 0), some (.int x), some (.int y), none]) (st' := [.int (-1), .int y]) (h' := h) (cs := []) [.iload_n 2, .iconst (-1)] (by decide +kernel) rfl rfl trivial ?_
  refine z_icmp_eq hC (off := 23) 29 (by decide +kernel) (by decide) (fun c16 => ?_) (fun c16 => ?_)
  · skip
    have E := (if_pos c16).symm.trans E
    have T := T.1 c16
    exact P29  x y T E
  · skip
    have E := (if_neg c16).symm.trans E
    have T := T.2 c16
    refine z_go hC (pc' := 10) (ls' := [some (.ref 0), some (.int x), some (.int y), none]) (st' := [.int y]) (h' := h) (cs := []) [.iload_n 2] (by decide +kernel) rfl rfl trivial ?_
    refine z_if_lt hC (off := 9) 19 (by decide +kernel) (by decide) (fun c17 => ?_) (fun c17 => ?_)
    · skip
      have E := (if_pos c17).symm.trans E
      have T := T.1 c17
      refine z_less (ls' := [none, none, none, none]) (by simp [z_sub]) ?_
      exact P19   trivial E
    · skip
      have E := (if_neg c17).symm.trans E
      have T := T.2 c17
      refine z_go hC (pc' := 16) (ls' := [some (.ref 0), some (.int x), some (.int y), none]) (st' := [.int (nI 9), .int y]) (h' := h) (cs := []) [.iload_n 2, .bipush 9] (by decide +kernel) rfl rfl trivial ?_
      refine z_icmp_le hC (off := 13) 29 (by decide +kernel) (by decide) (fun c18 => ?_) (fun c18 => ?_)
      · skip
        have E := (if_pos c18).symm.trans E
        have T := T.1 c18
        exact P29  x y T E
      · skip
        have E := (if_neg c18).symm.trans E
        have T := T.2 c18
        refine z_less (ls' := [none, none, none, none]) (by simp [z_sub]) ?_
        exact P19   trivial E

def fn_X7_isWall (x : Int32) (h : z_H) : z_RX := z_bd (fn_X7_checkCell x h) (.ok (some (.int (fv_X0_hasWallOn h (fv_X0_blockOf x))), h))
set_option maxHeartbeats 4000000 in
set_option maxRecDepth 100000 in
theorem sp_X7_isWall (l : Launch) (hl0 : l.stackTraces = false) (ext : z_Sh) (h : z_H) (x : Int32)  : z_Spx l 7 yX7_isWall (.code yX7_isWall cX7_isWall 2 (some .boolean)) 1 6 [.ref 0, .int x] (z_c ext) h (z_PXB (fn_X7_isWall x h)) (z_XX [z_EI] (fn_X7_isWall x h)) := by
  refine z_enterx ft_X7 (by decide +kernel) fo_X7 (Nat.le_of_ble_eq_true rfl) ?_
  intro p e R s m args below meth c D dA ad hB
  have hC := hB.1.1
  have hN := hB.1.2.1
  have hR := hB.1.2.2.1
  have hZ := hB.2.1
  have hKin := hB.2.2.1
  have E : (z_bd (fn_X7_checkCell x h) (.ok (some (.int (fv_X0_hasWallOn h (fv_X0_blockOf x))), h))) = (fn_X7_isWall x h) := rfl
  generalize (fn_X7_isWall x h) = RR at E ⊢
  refine z_go hC (pc' := 1) (ls' := [some (.ref 0), some (.int x)]) (st' := [.int x]) (h' := h) (cs := []) [.iload_n 1] (by decide +kernel) rfl rfl trivial ?_
  refine z_callSx hC hN hR hZ hKin (as := [.int x]) (rest := []) ok_X7_108 (by decide +kernel) (sp_X7_checkCell l hl0 _ h x) (Nat.le_of_ble_eq_true rfl) rfl rfl (Nat.le_of_ble_eq_true rfl) ⟨Nat.le_trans (Nat.le_of_ble_eq_true rfl) hB.2.2.2.2.1, Nat.le_trans (Nat.le_of_ble_eq_true rfl) hB.2.2.2.2.2⟩ (fun Ex qx => z_out hB rfl ⟨Nat.le_of_ble_eq_true rfl, Nat.le_of_ble_eq_true rfl⟩ ⟨((z_bd_er qx.1).symm.trans E).symm, z_msub (by decide) qx.2⟩) (fun rv hh q1 => z_fun ⟨q1.1, q1.2.1⟩ ?_)
  have E := (z_bd_ok q1.2.2).symm.trans E
  refine z_go hC (pc' := 9) (ls' := [some (.ref 0), some (.int x)]) (st' := [.int x, .ref 1]) (h' := h) (cs := []) [.aload_n 0, .getfield 10, .iload_n 1] (by decide +kernel) rfl rfl trivial ?_
  refine z_callS hC hN hR (as := [.int x]) (rest := [.ref 1]) ok_X7_111 (by decide +kernel) (sp_X0_blockOf l _ h x) (Nat.le_of_ble_eq_true rfl) rfl rfl (Nat.le_of_ble_eq_true rfl) ⟨Nat.le_trans (Nat.le_of_ble_eq_true rfl) hB.2.2.2.2.1, Nat.le_trans (Nat.le_of_ble_eq_true rfl) hB.2.2.2.2.2⟩ (fun r2 h3 q4 => z_fun q4 ?_)
  refine z_callV hC hN hR (as := [.int (fv_X0_blockOf x)]) (rest := []) ok_X7_82 (by decide +kernel) (sp_X0_hasWallOn l _ h (fv_X0_blockOf x)) rfl rfl (Nat.le_of_ble_eq_true rfl) rfl rfl (Nat.le_of_ble_eq_true rfl) ⟨Nat.le_trans (Nat.le_of_ble_eq_true rfl) hB.2.2.2.2.1, Nat.le_trans (Nat.le_of_ble_eq_true rfl) hB.2.2.2.2.2⟩ (fun r5 h6 q7 => z_fun q7 ?_)
  exact z_retx_z hB rfl (zb_X0_hasWallOn h (fv_X0_blockOf x)) ⟨Nat.le_of_ble_eq_true rfl, Nat.le_of_ble_eq_true rfl⟩ (by decide +kernel) ⟨_, rfl, E.symm, (zb_X0_hasWallOn h (fv_X0_blockOf x))⟩

def fn_X7_isInTree (x : Int32) (h : z_H) : z_RX := z_bd (fn_X7_checkLink x h) (.ok (some (.int (fv_X0_treeHas h x)), h))
set_option maxHeartbeats 4000000 in
set_option maxRecDepth 100000 in
theorem sp_X7_isInTree (l : Launch) (hl0 : l.stackTraces = false) (ext : z_Sh) (h : z_H) (x : Int32)  : z_Spx l 7 yX7_isInTree (.code yX7_isInTree cX7_isInTree 2 (some .boolean)) 1 6 [.ref 0, .int x] (z_c ext) h (z_PXB (fn_X7_isInTree x h)) (z_XX [z_EI] (fn_X7_isInTree x h)) := by
  refine z_enterx ft_X7 (by decide +kernel) fo_X7 (Nat.le_of_ble_eq_true rfl) ?_
  intro p e R s m args below meth c D dA ad hB
  have hC := hB.1.1
  have hN := hB.1.2.1
  have hR := hB.1.2.2.1
  have hZ := hB.2.1
  have hKin := hB.2.2.1
  have E : (z_bd (fn_X7_checkLink x h) (.ok (some (.int (fv_X0_treeHas h x)), h))) = (fn_X7_isInTree x h) := rfl
  generalize (fn_X7_isInTree x h) = RR at E ⊢
  refine z_go hC (pc' := 1) (ls' := [some (.ref 0), some (.int x)]) (st' := [.int x]) (h' := h) (cs := []) [.iload_n 1] (by decide +kernel) rfl rfl trivial ?_
  refine z_callSx hC hN hR hZ hKin (as := [.int x]) (rest := []) ok_X7_89 (by decide +kernel) (sp_X7_checkLink l hl0 _ h x) (Nat.le_of_ble_eq_true rfl) rfl rfl (Nat.le_of_ble_eq_true rfl) ⟨Nat.le_trans (Nat.le_of_ble_eq_true rfl) hB.2.2.2.2.1, Nat.le_trans (Nat.le_of_ble_eq_true rfl) hB.2.2.2.2.2⟩ (fun Ex qx => z_out hB rfl ⟨Nat.le_of_ble_eq_true rfl, Nat.le_of_ble_eq_true rfl⟩ ⟨((z_bd_er qx.1).symm.trans E).symm, z_msub (by decide) qx.2⟩) (fun rv hh q1 => z_fun ⟨q1.1, q1.2.1⟩ ?_)
  have E := (z_bd_ok q1.2.2).symm.trans E
  refine z_go hC (pc' := 9) (ls' := [some (.ref 0), some (.int x)]) (st' := [.int x, .ref 1]) (h' := h) (cs := []) [.aload_n 0, .getfield 10, .iload_n 1] (by decide +kernel) rfl rfl trivial ?_
  refine z_callV hC hN hR (as := [.int x]) (rest := []) ok_X7_114 (by decide +kernel) (sp_X0_treeHas l _ h x) rfl rfl (Nat.le_of_ble_eq_true rfl) rfl rfl (Nat.le_of_ble_eq_true rfl) ⟨Nat.le_trans (Nat.le_of_ble_eq_true rfl) hB.2.2.2.2.1, Nat.le_trans (Nat.le_of_ble_eq_true rfl) hB.2.2.2.2.2⟩ (fun r2 h3 q4 => z_fun q4 ?_)
  exact z_retx_z hB rfl (zb_X0_treeHas h x) ⟨Nat.le_of_ble_eq_true rfl, Nat.le_of_ble_eq_true rfl⟩ (by decide +kernel) ⟨_, rfl, E.symm, (zb_X0_treeHas h x)⟩

def fn_X7_placeOf (x : Int32) (h : z_H) : z_RX := z_bd (fn_X7_checkCell x h) (z_bd (fn_X7_checkCycle  h) (.ok (some (.int (z_atv h 6 36 x)), h)))
set_option maxHeartbeats 4000000 in
set_option maxRecDepth 100000 in
theorem sp_X7_placeOf (l : Launch) (hl0 : l.stackTraces = false) (ext : z_Sh) (h : z_H) (x : Int32)  : z_Spx l 7 yX7_placeOf (.code yX7_placeOf cX7_placeOf 2 (some .int)) 2 12 [.ref 0, .int x] (z_c ext) h (z_PXI (fn_X7_placeOf x h)) (z_XX [z_EI, z_ES] (fn_X7_placeOf x h)) := by
  refine z_enterx ft_X7 (by decide +kernel) fo_X7 (Nat.le_of_ble_eq_true rfl) ?_
  intro p e R s m args below meth c D dA ad hB
  have hC := hB.1.1
  have hN := hB.1.2.1
  have hR := hB.1.2.2.1
  have hZ := hB.2.1
  have hKin := hB.2.2.1
  have E : (z_bd (fn_X7_checkCell x h) (z_bd (fn_X7_checkCycle  h) (.ok (some (.int (z_atv h 6 36 x)), h)))) = (fn_X7_placeOf x h) := rfl
  generalize (fn_X7_placeOf x h) = RR at E ⊢
  refine z_go hC (pc' := 1) (ls' := [some (.ref 0), some (.int x)]) (st' := [.int x]) (h' := h) (cs := []) [.iload_n 1] (by decide +kernel) rfl rfl trivial ?_
  refine z_callSx hC hN hR hZ hKin (as := [.int x]) (rest := []) ok_X7_108 (by decide +kernel) (sp_X7_checkCell l hl0 _ h x) (Nat.le_of_ble_eq_true rfl) rfl rfl (Nat.le_of_ble_eq_true rfl) ⟨Nat.le_trans (Nat.le_of_ble_eq_true rfl) hB.2.2.2.2.1, Nat.le_trans (Nat.le_of_ble_eq_true rfl) hB.2.2.2.2.2⟩ (fun Ex qx => z_out hB rfl ⟨Nat.le_of_ble_eq_true rfl, Nat.le_of_ble_eq_true rfl⟩ ⟨((z_bd_er qx.1).symm.trans E).symm, z_msub (by decide) qx.2⟩) (fun rv hh q1 => z_fun ⟨q1.1, q1.2.1⟩ ?_)
  have E := (z_bd_ok q1.2.2).symm.trans E
  refine z_go hC (pc' := 5) (ls' := [some (.ref 0), some (.int x)]) (st' := [.ref 0]) (h' := h) (cs := []) [.aload_n 0] (by decide +kernel) rfl rfl trivial ?_
  refine z_callVx hC hN hR hZ hKin (as := []) (rest := []) ok_X7_118 (by decide +kernel) (sp_X7_checkCycle l hl0 _ h ) rfl rfl (Nat.le_of_ble_eq_true rfl) rfl rfl (Nat.le_of_ble_eq_true rfl) ⟨Nat.le_trans (Nat.le_of_ble_eq_true rfl) hB.2.2.2.2.1, Nat.le_trans (Nat.le_of_ble_eq_true rfl) hB.2.2.2.2.2⟩ (fun Ex qx => z_out hB rfl ⟨Nat.le_of_ble_eq_true rfl, Nat.le_of_ble_eq_true rfl⟩ ⟨((z_bd_er qx.1).symm.trans E).symm, z_msub (by decide) qx.2⟩) (fun rv hh q2 => z_fun ⟨q2.1, q2.2.1⟩ ?_)
  have E := (z_bd_ok q2.2.2).symm.trans E
  refine z_go hC (pc' := 13) (ls' := [some (.ref 0), some (.int x)]) (st' := [.int x, .ref 4]) (h' := h) (cs := []) [.aload_n 0, .getfield 21, .iload_n 1] (by decide +kernel) rfl rfl trivial ?_
  refine z_callV hC hN hR (as := [.int x]) (rest := []) ok_X7_121 (by decide +kernel) (sp_X2_placeWith l _ h x) rfl rfl (Nat.le_of_ble_eq_true rfl) rfl rfl (Nat.le_of_ble_eq_true rfl) ⟨Nat.le_trans (Nat.le_of_ble_eq_true rfl) hB.2.2.2.2.1, Nat.le_trans (Nat.le_of_ble_eq_true rfl) hB.2.2.2.2.2⟩ (fun r3 h4 q5 => z_fun q5 ?_)
  exact z_retx_i hB rfl ⟨Nat.le_of_ble_eq_true rfl, Nat.le_of_ble_eq_true rfl⟩ (by decide +kernel) ⟨_, rfl, E.symm⟩

def fn_X7_cellAt (x : Int32) (h : z_H) : z_RX := z_bd (fn_X7_checkCycle  h) (z_bd (fn_X7_checkPlaceOfCycle x h) (.ok (some (.int (z_atv h 5 36 x)), h)))
set_option maxHeartbeats 4000000 in
set_option maxRecDepth 100000 in
theorem sp_X7_cellAt (l : Launch) (hl0 : l.stackTraces = false) (ext : z_Sh) (h : z_H) (x : Int32)  : z_Spx l 7 yX7_cellAt (.code yX7_cellAt cX7_cellAt 2 (some .int)) 2 12 [.ref 0, .int x] (z_c ext) h (z_PXI (fn_X7_cellAt x h)) (z_XX [z_ES, z_EI] (fn_X7_cellAt x h)) := by
  refine z_enterx ft_X7 (by decide +kernel) fo_X7 (Nat.le_of_ble_eq_true rfl) ?_
  intro p e R s m args below meth c D dA ad hB
  have hC := hB.1.1
  have hN := hB.1.2.1
  have hR := hB.1.2.2.1
  have hZ := hB.2.1
  have hKin := hB.2.2.1
  have E : (z_bd (fn_X7_checkCycle  h) (z_bd (fn_X7_checkPlaceOfCycle x h) (.ok (some (.int (z_atv h 5 36 x)), h)))) = (fn_X7_cellAt x h) := rfl
  generalize (fn_X7_cellAt x h) = RR at E ⊢
  refine z_go hC (pc' := 1) (ls' := [some (.ref 0), some (.int x)]) (st' := [.ref 0]) (h' := h) (cs := []) [.aload_n 0] (by decide +kernel) rfl rfl trivial ?_
  refine z_callVx hC hN hR hZ hKin (as := []) (rest := []) ok_X7_118 (by decide +kernel) (sp_X7_checkCycle l hl0 _ h ) rfl rfl (Nat.le_of_ble_eq_true rfl) rfl rfl (Nat.le_of_ble_eq_true rfl) ⟨Nat.le_trans (Nat.le_of_ble_eq_true rfl) hB.2.2.2.2.1, Nat.le_trans (Nat.le_of_ble_eq_true rfl) hB.2.2.2.2.2⟩ (fun Ex qx => z_out hB rfl ⟨Nat.le_of_ble_eq_true rfl, Nat.le_of_ble_eq_true rfl⟩ ⟨((z_bd_er qx.1).symm.trans E).symm, z_msub (by decide) qx.2⟩) (fun rv hh q1 => z_fun ⟨q1.1, q1.2.1⟩ ?_)
  have E := (z_bd_ok q1.2.2).symm.trans E
  refine z_go hC (pc' := 6) (ls' := [some (.ref 0), some (.int x)]) (st' := [.int x, .ref 0]) (h' := h) (cs := []) [.aload_n 0, .iload_n 1] (by decide +kernel) rfl rfl trivial ?_
  refine z_callVx hC hN hR hZ hKin (as := [.int x]) (rest := []) ok_X7_124 (by decide +kernel) (sp_X7_checkPlaceOfCycle l hl0 _ h x) rfl rfl (Nat.le_of_ble_eq_true rfl) rfl rfl (Nat.le_of_ble_eq_true rfl) ⟨Nat.le_trans (Nat.le_of_ble_eq_true rfl) hB.2.2.2.2.1, Nat.le_trans (Nat.le_of_ble_eq_true rfl) hB.2.2.2.2.2⟩ (fun Ex qx => z_out hB rfl ⟨Nat.le_of_ble_eq_true rfl, Nat.le_of_ble_eq_true rfl⟩ ⟨((z_bd_er qx.1).symm.trans E).symm, z_msub (by decide) qx.2⟩) (fun rv hh q2 => z_fun ⟨q2.1, q2.2.1⟩ ?_)
  have E := (z_bd_ok q2.2.2).symm.trans E
  refine z_go hC (pc' := 14) (ls' := [some (.ref 0), some (.int x)]) (st' := [.int x, .ref 4]) (h' := h) (cs := []) [.aload_n 0, .getfield 21, .iload_n 1] (by decide +kernel) rfl rfl trivial ?_
  refine z_callV hC hN hR (as := [.int x]) (rest := []) ok_X7_127 (by decide +kernel) (sp_X2_cellWith l _ h x) rfl rfl (Nat.le_of_ble_eq_true rfl) rfl rfl (Nat.le_of_ble_eq_true rfl) ⟨Nat.le_trans (Nat.le_of_ble_eq_true rfl) hB.2.2.2.2.1, Nat.le_trans (Nat.le_of_ble_eq_true rfl) hB.2.2.2.2.2⟩ (fun r3 h4 q5 => z_fun q5 ?_)
  exact z_retx_i hB rfl ⟨Nat.le_of_ble_eq_true rfl, Nat.le_of_ble_eq_true rfl⟩ (by decide +kernel) ⟨_, rfl, E.symm⟩

def fn_X7_cellAtByRings (x : Int32) (h : z_H) : z_RX := z_bd (fn_X7_checkCycle  h) (z_bd (fn_X7_checkPlaceOfCycle x h) (.ok (some (.int (z_vi (fn_X2_cellByRings x h))), (fn_X2_cellByRings x h).2)))
def tk_X7_cellAtByRings (x : Int32) (h : z_H) : Prop := ∀ rx : z_R, fn_X7_checkCycle  h = .ok rx → (∀ rx : z_R, fn_X7_checkPlaceOfCycle x h = .ok rx → (tk_X2_cellByRings x h))
set_option maxHeartbeats 4000000 in
set_option maxRecDepth 100000 in
theorem sp_X7_cellAtByRings (l : Launch) (hl0 : l.stackTraces = false) (ext : z_Sh) (h : z_H) (x : Int32) (T : tk_X7_cellAtByRings x h) : z_Spx l 7 yX7_cellAtByRings (.code yX7_cellAtByRings cX7_cellAtByRings 2 (some .int)) 2 12 [.ref 0, .int x] (z_c ext) h (z_PXI (fn_X7_cellAtByRings x h)) (z_XX [z_ES, z_EI] (fn_X7_cellAtByRings x h)) := by
  refine z_enterx ft_X7 (by decide +kernel) fo_X7 (Nat.le_of_ble_eq_true rfl) ?_
  intro p e R s m args below meth c D dA ad hB
  have hC := hB.1.1
  have hN := hB.1.2.1
  have hR := hB.1.2.2.1
  have hZ := hB.2.1
  have hKin := hB.2.2.1
  unfold tk_X7_cellAtByRings at T
  have E : (z_bd (fn_X7_checkCycle  h) (z_bd (fn_X7_checkPlaceOfCycle x h) (.ok (some (.int (z_vi (fn_X2_cellByRings x h))), (fn_X2_cellByRings x h).2)))) = (fn_X7_cellAtByRings x h) := rfl
  generalize (fn_X7_cellAtByRings x h) = RR at E ⊢
  refine z_go hC (pc' := 1) (ls' := [some (.ref 0), some (.int x)]) (st' := [.ref 0]) (h' := h) (cs := []) [.aload_n 0] (by decide +kernel) rfl rfl trivial ?_
  refine z_callVx hC hN hR hZ hKin (as := []) (rest := []) ok_X7_118 (by decide +kernel) (sp_X7_checkCycle l hl0 _ h ) rfl rfl (Nat.le_of_ble_eq_true rfl) rfl rfl (Nat.le_of_ble_eq_true rfl) ⟨Nat.le_trans (Nat.le_of_ble_eq_true rfl) hB.2.2.2.2.1, Nat.le_trans (Nat.le_of_ble_eq_true rfl) hB.2.2.2.2.2⟩ (fun Ex qx => z_out hB rfl ⟨Nat.le_of_ble_eq_true rfl, Nat.le_of_ble_eq_true rfl⟩ ⟨((z_bd_er qx.1).symm.trans E).symm, z_msub (by decide) qx.2⟩) (fun rv hh q1 => z_fun ⟨q1.1, q1.2.1⟩ ?_)
  have E := (z_bd_ok q1.2.2).symm.trans E
  have T := T _ q1.2.2
  refine z_go hC (pc' := 6) (ls' := [some (.ref 0), some (.int x)]) (st' := [.int x, .ref 0]) (h' := h) (cs := []) [.aload_n 0, .iload_n 1] (by decide +kernel) rfl rfl trivial ?_
  refine z_callVx hC hN hR hZ hKin (as := [.int x]) (rest := []) ok_X7_124 (by decide +kernel) (sp_X7_checkPlaceOfCycle l hl0 _ h x) rfl rfl (Nat.le_of_ble_eq_true rfl) rfl rfl (Nat.le_of_ble_eq_true rfl) ⟨Nat.le_trans (Nat.le_of_ble_eq_true rfl) hB.2.2.2.2.1, Nat.le_trans (Nat.le_of_ble_eq_true rfl) hB.2.2.2.2.2⟩ (fun Ex qx => z_out hB rfl ⟨Nat.le_of_ble_eq_true rfl, Nat.le_of_ble_eq_true rfl⟩ ⟨((z_bd_er qx.1).symm.trans E).symm, z_msub (by decide) qx.2⟩) (fun rv hh q2 => z_fun ⟨q2.1, q2.2.1⟩ ?_)
  have E := (z_bd_ok q2.2.2).symm.trans E
  have T := T _ q2.2.2
  refine z_go hC (pc' := 14) (ls' := [some (.ref 0), some (.int x)]) (st' := [.int x, .ref 4]) (h' := h) (cs := []) [.aload_n 0, .getfield 21, .iload_n 1] (by decide +kernel) rfl rfl trivial ?_
  have t6 := T
  refine z_callV hC hN hR (as := [.int x]) (rest := []) ok_X7_130 (by decide +kernel) (sp_X2_cellByRings l _ h x t6) rfl rfl (Nat.le_of_ble_eq_true rfl) rfl rfl (Nat.le_of_ble_eq_true rfl) ⟨Nat.le_trans (Nat.le_of_ble_eq_true rfl) hB.2.2.2.2.1, Nat.le_trans (Nat.le_of_ble_eq_true rfl) hB.2.2.2.2.2⟩ (fun r3 h4 q5 => z_fun q5 ?_)
  exact z_retx_i hB rfl ⟨Nat.le_of_ble_eq_true rfl, Nat.le_of_ble_eq_true rfl⟩ (by decide +kernel) ⟨_, rfl, E.symm⟩

def fn_X7_begin_14 (h : z_H)   : z_RX := .error z_EA
def tk_X7_begin_14 (h : z_H)   : Prop := True
def fn_X7_begin_48 (h : z_H)   : z_RX := .error z_ES
def tk_X7_begin_48 (h : z_H)   : Prop := True
def fn_X7_begin (x : Int32) (y : Int32) (h : z_H) : z_RX := z_bd (fn_X7_checkCell x h) (if y < 0 then fn_X7_begin_14 h  else if y ≤ (nI 20) then if (fv_X6_isThere h ) = 0 then if (fv_X0_hasWallOn h (fv_X0_blockOf x)) = 0 then .ok (none, z_set (z_setL (z_set (z_set (z_putv h 11 64 (h.1 10 4) x) 10 5 (nI 1)) 10 6 y) 10 7 (fv_X7_setOf x)) 10 8 (nI 0)) else fn_X7_begin_48 h  else fn_X7_begin_48 h  else fn_X7_begin_14 h )
set_option maxHeartbeats 4000000 in
set_option maxRecDepth 100000 in
theorem sp_X7_begin (l : Launch) (hl0 : l.stackTraces = false) (ext : z_Sh) (h : z_H) (x : Int32) (y : Int32)  : z_Spx l 7 yX7_begin (.code yX7_begin cX7_begin 3 none) 2 12 [.ref 0, .int x, .int y] (z_c ext) h (z_PXW (fn_X7_begin x y h)) (z_XX [z_EI, z_EA, z_ES] (fn_X7_begin x y h)) := by
  refine z_enterx ft_X7 (by decide +kernel) fo_X7 (Nat.le_of_ble_eq_true rfl) ?_
  intro p e R s m args below meth c D dA ad hB
  have hC := hB.1.1
  have hN := hB.1.2.1
  have hR := hB.1.2.2.1
  have hZ := hB.2.1
  have hKin := hB.2.2.1
  have E : (z_bd (fn_X7_checkCell x h) (if y < 0 then fn_X7_begin_14 h  else if y ≤ (nI 20) then if (fv_X6_isThere h ) = 0 then if (fv_X0_hasWallOn h (fv_X0_blockOf x)) = 0 then .ok (none, z_set (z_setL (z_set (z_set (z_putv h 11 64 (h.1 10 4) x) 10 5 (nI 1)) 10 6 y) 10 7 (fv_X7_setOf x)) 10 8 (nI 0)) else fn_X7_begin_48 h  else fn_X7_begin_48 h  else fn_X7_begin_14 h )) = (fn_X7_begin x y h) := rfl
  generalize (fn_X7_begin x y h) = RR at E ⊢
  have P14 : tk_X7_begin_14 h   → fn_X7_begin_14 h   = RR → z_GX p l e R s m args below meth c D dA ad 3 (z_PXW RR) (z_XX [z_EI, z_EA, z_ES] RR) h 2 12 (z_c ext) 1 6 14 [none, none, none] [] h := by
    intro   T E
    unfold tk_X7_begin_14 at T; unfold fn_X7_begin_14 at E
    exact z_throw hB hl0 rfl okT_X7_93_133 (Nat.le_of_ble_eq_true rfl) ⟨Nat.le_of_ble_eq_true rfl, Nat.le_of_ble_eq_true rfl⟩ (by decide +kernel) (by decide +kernel) (by decide +kernel) (by decide +kernel) (by decide +kernel) ⟨E.symm, by decide⟩
  have P48 : tk_X7_begin_48 h   → fn_X7_begin_48 h   = RR → z_GX p l e R s m args below meth c D dA ad 3 (z_PXW RR) (z_XX [z_EI, z_EA, z_ES] RR) h 2 12 (z_c ext) 1 6 48 [none, none, none] [] h := by
    intro   T E
    unfold tk_X7_begin_48 at T; unfold fn_X7_begin_48 at E
    exact z_throw hB hl0 rfl okT_X7_77_135 (Nat.le_of_ble_eq_true rfl) ⟨Nat.le_of_ble_eq_true rfl, Nat.le_of_ble_eq_true rfl⟩ (by decide +kernel) (by decide +kernel) (by decide +kernel) (by decide +kernel) (by decide +kernel) ⟨E.symm, by decide⟩
  refine z_go hC (pc' := 1) (ls' := [some (.ref 0), some (.int x), some (.int y)]) (st' := [.int x]) (h' := h) (cs := []) [.iload_n 1] (by decide +kernel) rfl rfl trivial ?_
  refine z_callSx hC hN hR hZ hKin (as := [.int x]) (rest := []) ok_X7_108 (by decide +kernel) (sp_X7_checkCell l hl0 _ h x) (Nat.le_of_ble_eq_true rfl) rfl rfl (Nat.le_of_ble_eq_true rfl) ⟨Nat.le_trans (Nat.le_of_ble_eq_true rfl) hB.2.2.2.2.1, Nat.le_trans (Nat.le_of_ble_eq_true rfl) hB.2.2.2.2.2⟩ (fun Ex qx => z_out hB rfl ⟨Nat.le_of_ble_eq_true rfl, Nat.le_of_ble_eq_true rfl⟩ ⟨((z_bd_er qx.1).symm.trans E).symm, z_msub (by decide) qx.2⟩) (fun rv hh q1 => z_fun ⟨q1.1, q1.2.1⟩ ?_)
  have E := (z_bd_ok q1.2.2).symm.trans E
  refine z_go hC (pc' := 5) (ls' := [some (.ref 0), some (.int x), some (.int y)]) (st' := [.int y]) (h' := h) (cs := []) [.iload_n 2] (by decide +kernel) rfl rfl trivial ?_
  refine z_if_lt hC (off := 9) 14 (by decide +kernel) (by decide) (fun c2 => ?_) (fun c2 => ?_)
  · skip
    have E := (if_pos c2).symm.trans E
    refine z_less (ls' := [none, none, none]) (by simp [z_sub]) ?_
    exact P14   trivial E
  · skip
    have E := (if_neg c2).symm.trans E
    refine z_go hC (pc' := 11) (ls' := [some (.ref 0), some (.int x), some (.int y)]) (st' := [.int (nI 20), .int y]) (h' := h) (cs := []) [.iload_n 2, .bipush 20] (by decide +kernel) rfl rfl trivial ?_
    refine z_icmp_le hC (off := 13) 24 (by decide +kernel) (by decide) (fun c3 => ?_) (fun c3 => ?_)
    · skip
      have E := (if_pos c3).symm.trans E
      refine z_go hC (pc' := 28) (ls' := [some (.ref 0), some (.int x), some (.int y)]) (st' := [.ref 10]) (h' := h) (cs := []) [.aload_n 0, .getfield 37] (by decide +kernel) rfl rfl trivial ?_
      refine z_callV hC hN hR (as := []) (rest := []) ok_X7_69 (by decide +kernel) (sp_X6_isThere l _ h ) rfl rfl (Nat.le_of_ble_eq_true rfl) rfl rfl (Nat.le_of_ble_eq_true rfl) ⟨Nat.le_trans (Nat.le_of_ble_eq_true rfl) hB.2.2.2.2.1, Nat.le_trans (Nat.le_of_ble_eq_true rfl) hB.2.2.2.2.2⟩ (fun r4 h5 q6 => z_fun q6 ?_)
      refine z_if_ne hC (off := 17) 48 (by decide +kernel) (by decide) (fun c7 => ?_) (fun c7 => ?_)
      · skip
        have E := (if_neg c7).symm.trans E
        refine z_less (ls' := [none, none, none]) (by simp [z_sub]) ?_
        exact P48   trivial E
      · skip
        have E := (if_pos c7).symm.trans E
        refine z_go hC (pc' := 39) (ls' := [some (.ref 0), some (.int x), some (.int y)]) (st' := [.int x, .ref 1]) (h' := h) (cs := []) [.aload_n 0, .getfield 10, .iload_n 1] (by decide +kernel) rfl rfl trivial ?_
        refine z_callS hC hN hR (as := [.int x]) (rest := [.ref 1]) ok_X7_111 (by decide +kernel) (sp_X0_blockOf l _ h x) (Nat.le_of_ble_eq_true rfl) rfl rfl (Nat.le_of_ble_eq_true rfl) ⟨Nat.le_trans (Nat.le_of_ble_eq_true rfl) hB.2.2.2.2.1, Nat.le_trans (Nat.le_of_ble_eq_true rfl) hB.2.2.2.2.2⟩ (fun r8 h9 q10 => z_fun q10 ?_)
        refine z_callV hC hN hR (as := [.int (fv_X0_blockOf x)]) (rest := []) ok_X7_82 (by decide +kernel) (sp_X0_hasWallOn l _ h (fv_X0_blockOf x)) rfl rfl (Nat.le_of_ble_eq_true rfl) rfl rfl (Nat.le_of_ble_eq_true rfl) ⟨Nat.le_trans (Nat.le_of_ble_eq_true rfl) hB.2.2.2.2.1, Nat.le_trans (Nat.le_of_ble_eq_true rfl) hB.2.2.2.2.2⟩ (fun r11 h12 q13 => z_fun q13 ?_)
        refine z_if_eq hC (off := 13) 58 (by decide +kernel) (by decide) (fun c14 => ?_) (fun c14 => ?_)
        · skip
          have E := (if_pos c14).symm.trans E
          refine z_go hC (pc' := 64) (ls' := [some (.ref 0), some (.int x), some (.int y)]) (st' := [.int y, .int x, .ref 10]) (h' := h) (cs := []) [.aload_n 0, .getfield 37, .iload_n 1, .iload_n 2] (by decide +kernel) rfl rfl trivial ?_
          refine z_callV hC hN hR (as := [.int x, .int y]) (rest := []) ok_X7_137 (by decide +kernel) (sp_X6_lay l _ h x y) rfl rfl (Nat.le_of_ble_eq_true rfl) rfl rfl (Nat.le_of_ble_eq_true rfl) ⟨Nat.le_trans (Nat.le_of_ble_eq_true rfl) hB.2.2.2.2.1, Nat.le_trans (Nat.le_of_ble_eq_true rfl) hB.2.2.2.2.2⟩ (fun r15 h16 q17 => z_fun q17 ?_)
          exact z_retx_v hB rfl ⟨Nat.le_of_ble_eq_true rfl, Nat.le_of_ble_eq_true rfl⟩ (by decide +kernel) ⟨rfl, E.symm⟩
        · skip
          have E := (if_neg c14).symm.trans E
          refine z_less (ls' := [none, none, none]) (by simp [z_sub]) ?_
          exact P48   trivial E
    · skip
      have E := (if_neg c3).symm.trans E
      refine z_less (ls' := [none, none, none]) (by simp [z_sub]) ?_
      exact P14   trivial E

def fn_X7_end  (h : z_H) : z_RX := if (fv_X6_isThere h ) = 0 then .error z_ES else .ok (some (.int (h.1 10 5)), z_set (z_set h 10 5 (nI 0)) 10 6 (nI 0))
set_option maxHeartbeats 4000000 in
set_option maxRecDepth 100000 in
theorem sp_X7_end (l : Launch) (hl0 : l.stackTraces = false) (ext : z_Sh) (h : z_H)   : z_Spx l 6 yX7_end (.code yX7_end cX7_end 2 (some .int)) 1 6 [.ref 0] (z_c ext) h (z_PXI (fn_X7_end  h)) (z_XX [z_ES] (fn_X7_end  h)) := by
  refine z_enterx ft_X7 (by decide +kernel) fo_X7 (Nat.le_of_ble_eq_true rfl) ?_
  intro p e R s m args below meth c D dA ad hB
  have hC := hB.1.1
  have hN := hB.1.2.1
  have hR := hB.1.2.2.1
  have hZ := hB.2.1
  have hKin := hB.2.2.1
  have E : (if (fv_X6_isThere h ) = 0 then .error z_ES else .ok (some (.int (h.1 10 5)), z_set (z_set h 10 5 (nI 0)) 10 6 (nI 0))) = (fn_X7_end  h) := rfl
  generalize (fn_X7_end  h) = RR at E ⊢
  refine z_go hC (pc' := 4) (ls' := [some (.ref 0), none]) (st' := [.ref 10]) (h' := h) (cs := []) [.aload_n 0, .getfield 37] (by decide +kernel) rfl rfl trivial ?_
  refine z_callV hC hN hR (as := []) (rest := []) ok_X7_69 (by decide +kernel) (sp_X6_isThere l _ h ) rfl rfl (Nat.le_of_ble_eq_true rfl) rfl rfl (Nat.le_of_ble_eq_true rfl) ⟨Nat.le_trans (Nat.le_of_ble_eq_true rfl) hB.2.2.2.2.1, Nat.le_trans (Nat.le_of_ble_eq_true rfl) hB.2.2.2.2.2⟩ (fun r1 h2 q3 => z_fun q3 ?_)
  refine z_if_ne hC (off := 13) 20 (by decide +kernel) (by decide) (fun c4 => ?_) (fun c4 => ?_)
  · skip
    have E := (if_neg c4).symm.trans E
    refine z_go hC (pc' := 24) (ls' := [some (.ref 0), none]) (st' := [.ref 10]) (h' := h) (cs := []) [.aload_n 0, .getfield 37] (by decide +kernel) rfl rfl trivial ?_
    refine z_callV hC hN hR (as := []) (rest := []) ok_X7_142 (by decide +kernel) (sp_X6_size l _ h ) rfl rfl (Nat.le_of_ble_eq_true rfl) rfl rfl (Nat.le_of_ble_eq_true rfl) ⟨Nat.le_trans (Nat.le_of_ble_eq_true rfl) hB.2.2.2.2.1, Nat.le_trans (Nat.le_of_ble_eq_true rfl) hB.2.2.2.2.2⟩ (fun r5 h6 q7 => z_fun q7 ?_)
    refine z_go hC (pc' := 32) (ls' := [some (.ref 0), some (.int (h.1 10 5))]) (st' := [.ref 10]) (h' := h) (cs := []) [.istore_n 1, .aload_n 0, .getfield 37] (by decide +kernel) rfl rfl trivial ?_
    refine z_callV hC hN hR (as := []) (rest := []) ok_X7_146 (by decide +kernel) (sp_X6_takeAway l _ h ) rfl rfl (Nat.le_of_ble_eq_true rfl) rfl rfl (Nat.le_of_ble_eq_true rfl) ⟨Nat.le_trans (Nat.le_of_ble_eq_true rfl) hB.2.2.2.2.1, Nat.le_trans (Nat.le_of_ble_eq_true rfl) hB.2.2.2.2.2⟩ (fun r8 h9 q10 => z_fun q10 ?_)
    refine z_go hC (pc' := 36) (ls' := [some (.ref 0), some (.int (h.1 10 5))]) (st' := [.int (h.1 10 5)]) (h' := z_set (z_set h 10 5 (nI 0)) 10 6 (nI 0)) (cs := []) [.iload_n 1] (by decide +kernel) rfl rfl trivial ?_
    exact z_retx_i hB rfl ⟨Nat.le_of_ble_eq_true rfl, Nat.le_of_ble_eq_true rfl⟩ (by decide +kernel) ⟨_, rfl, E.symm⟩
  · skip
    have E := (if_pos c4).symm.trans E
    exact z_throw hB hl0 rfl okT_X7_77_140 (Nat.le_of_ble_eq_true rfl) ⟨Nat.le_of_ble_eq_true rfl, Nat.le_of_ble_eq_true rfl⟩ (by decide +kernel) (by decide +kernel) (by decide +kernel) (by decide +kernel) (by decide +kernel) ⟨E.symm, by decide⟩

def fn_X7_feed_30 (h : z_H)   : z_RX := .error z_ES
def tk_X7_feed_30 (h : z_H)   : Prop := True
def fn_X7_feed (x : Int32) (h : z_H) : z_RX := z_bd (fn_X7_checkCell x h) (if (fv_X0_hasWallOn h (fv_X0_blockOf x)) = 0 then if (h.1 8 2) < (nI 40) then .ok (some (.int ((h.1 8 2) + (nI 1))), z_set (z_set h 9 ((((h.1 8 1) + (h.1 8 2)) &&& (nI 63)).toNatClampNeg) x) 8 2 ((h.1 8 2) + (nI 1))) else fn_X7_feed_30 h  else fn_X7_feed_30 h )
set_option maxHeartbeats 4000000 in
set_option maxRecDepth 100000 in
theorem sp_X7_feed (l : Launch) (hl0 : l.stackTraces = false) (ext : z_Sh) (h : z_H) (x : Int32)  : z_Spx l 7 yX7_feed (.code yX7_feed cX7_feed 2 (some .int)) 2 12 [.ref 0, .int x] (z_c ext) h (z_PXI (fn_X7_feed x h)) (z_XX [z_EI, z_ES] (fn_X7_feed x h)) := by
  refine z_enterx ft_X7 (by decide +kernel) fo_X7 (Nat.le_of_ble_eq_true rfl) ?_
  intro p e R s m args below meth c D dA ad hB
  have hC := hB.1.1
  have hN := hB.1.2.1
  have hR := hB.1.2.2.1
  have hZ := hB.2.1
  have hKin := hB.2.2.1
  have E : (z_bd (fn_X7_checkCell x h) (if (fv_X0_hasWallOn h (fv_X0_blockOf x)) = 0 then if (h.1 8 2) < (nI 40) then .ok (some (.int ((h.1 8 2) + (nI 1))), z_set (z_set h 9 ((((h.1 8 1) + (h.1 8 2)) &&& (nI 63)).toNatClampNeg) x) 8 2 ((h.1 8 2) + (nI 1))) else fn_X7_feed_30 h  else fn_X7_feed_30 h )) = (fn_X7_feed x h) := rfl
  generalize (fn_X7_feed x h) = RR at E ⊢
  have P30 : tk_X7_feed_30 h   → fn_X7_feed_30 h   = RR → z_GX p l e R s m args below meth c D dA ad 2 (z_PXI RR) (z_XX [z_EI, z_ES] RR) h 2 12 (z_c ext) 1 6 30 [none, none] [] h := by
    intro   T E
    unfold tk_X7_feed_30 at T; unfold fn_X7_feed_30 at E
    exact z_throw hB hl0 rfl okT_X7_77_150 (Nat.le_of_ble_eq_true rfl) ⟨Nat.le_of_ble_eq_true rfl, Nat.le_of_ble_eq_true rfl⟩ (by decide +kernel) (by decide +kernel) (by decide +kernel) (by decide +kernel) (by decide +kernel) ⟨E.symm, by decide⟩
  refine z_go hC (pc' := 1) (ls' := [some (.ref 0), some (.int x)]) (st' := [.int x]) (h' := h) (cs := []) [.iload_n 1] (by decide +kernel) rfl rfl trivial ?_
  refine z_callSx hC hN hR hZ hKin (as := [.int x]) (rest := []) ok_X7_108 (by decide +kernel) (sp_X7_checkCell l hl0 _ h x) (Nat.le_of_ble_eq_true rfl) rfl rfl (Nat.le_of_ble_eq_true rfl) ⟨Nat.le_trans (Nat.le_of_ble_eq_true rfl) hB.2.2.2.2.1, Nat.le_trans (Nat.le_of_ble_eq_true rfl) hB.2.2.2.2.2⟩ (fun Ex qx => z_out hB rfl ⟨Nat.le_of_ble_eq_true rfl, Nat.le_of_ble_eq_true rfl⟩ ⟨((z_bd_er qx.1).symm.trans E).symm, z_msub (by decide) qx.2⟩) (fun rv hh q1 => z_fun ⟨q1.1, q1.2.1⟩ ?_)
  have E := (z_bd_ok q1.2.2).symm.trans E
  refine z_go hC (pc' := 9) (ls' := [some (.ref 0), some (.int x)]) (st' := [.int x, .ref 1]) (h' := h) (cs := []) [.aload_n 0, .getfield 10, .iload_n 1] (by decide +kernel) rfl rfl trivial ?_
  refine z_callS hC hN hR (as := [.int x]) (rest := [.ref 1]) ok_X7_111 (by decide +kernel) (sp_X0_blockOf l _ h x) (Nat.le_of_ble_eq_true rfl) rfl rfl (Nat.le_of_ble_eq_true rfl) ⟨Nat.le_trans (Nat.le_of_ble_eq_true rfl) hB.2.2.2.2.1, Nat.le_trans (Nat.le_of_ble_eq_true rfl) hB.2.2.2.2.2⟩ (fun r2 h3 q4 => z_fun q4 ?_)
  refine z_callV hC hN hR (as := [.int (fv_X0_blockOf x)]) (rest := []) ok_X7_82 (by decide +kernel) (sp_X0_hasWallOn l _ h (fv_X0_blockOf x)) rfl rfl (Nat.le_of_ble_eq_true rfl) rfl rfl (Nat.le_of_ble_eq_true rfl) ⟨Nat.le_trans (Nat.le_of_ble_eq_true rfl) hB.2.2.2.2.1, Nat.le_trans (Nat.le_of_ble_eq_true rfl) hB.2.2.2.2.2⟩ (fun r5 h6 q7 => z_fun q7 ?_)
  refine z_if_ne hC (off := 15) 30 (by decide +kernel) (by decide) (fun c8 => ?_) (fun c8 => ?_)
  · skip
    have E := (if_neg c8).symm.trans E
    refine z_less (ls' := [none, none]) (by simp [z_sub]) ?_
    exact P30   trivial E
  · skip
    have E := (if_pos c8).symm.trans E
    refine z_go hC (pc' := 22) (ls' := [some (.ref 0), some (.int x)]) (st' := [.ref 8]) (h' := h) (cs := []) [.aload_n 0, .getfield 28] (by decide +kernel) rfl rfl trivial ?_
    refine z_callV hC hN hR (as := []) (rest := []) ok_X7_149 (by decide +kernel) (sp_X3_size l _ h ) rfl rfl (Nat.le_of_ble_eq_true rfl) rfl rfl (Nat.le_of_ble_eq_true rfl) ⟨Nat.le_trans (Nat.le_of_ble_eq_true rfl) hB.2.2.2.2.1, Nat.le_trans (Nat.le_of_ble_eq_true rfl) hB.2.2.2.2.2⟩ (fun r9 h10 q11 => z_fun q11 ?_)
    refine z_go hC (pc' := 27) (ls' := [some (.ref 0), some (.int x)]) (st' := [.int (nI 40), .int (h.1 8 2)]) (h' := h) (cs := []) [.bipush 40] (by decide +kernel) rfl rfl trivial ?_
    refine z_icmp_lt hC (off := 13) 40 (by decide +kernel) (by decide) (fun c12 => ?_) (fun c12 => ?_)
    · skip
      have E := (if_pos c12).symm.trans E
      refine z_go hC (pc' := 45) (ls' := [some (.ref 0), some (.int x)]) (st' := [.int x, .ref 8]) (h' := h) (cs := []) [.aload_n 0, .getfield 28, .iload_n 1] (by decide +kernel) rfl rfl trivial ?_
      refine z_callV hC hN hR (as := [.int x]) (rest := []) ok_X7_152 (by decide +kernel) (sp_X3_add l _ h x) rfl rfl (Nat.le_of_ble_eq_true rfl) rfl rfl (Nat.le_of_ble_eq_true rfl) ⟨Nat.le_trans (Nat.le_of_ble_eq_true rfl) hB.2.2.2.2.1, Nat.le_trans (Nat.le_of_ble_eq_true rfl) hB.2.2.2.2.2⟩ (fun r13 h14 q15 => z_fun q15 ?_)
      refine z_go hC (pc' := 52) (ls' := [some (.ref 0), some (.int x)]) (st' := [.ref 8]) (h' := z_set (z_set h 9 ((((h.1 8 1) + (h.1 8 2)) &&& (nI 63)).toNatClampNeg) x) 8 2 ((h.1 8 2) + (nI 1))) (cs := []) [.aload_n 0, .getfield 28] (by decide +kernel) rfl rfl trivial ?_
      refine z_callV hC hN hR (as := []) (rest := []) ok_X7_149 (by decide +kernel) (sp_X3_size l _ (z_set (z_set h 9 ((((h.1 8 1) + (h.1 8 2)) &&& (nI 63)).toNatClampNeg) x) 8 2 ((h.1 8 2) + (nI 1))) ) rfl rfl (Nat.le_of_ble_eq_true rfl) rfl rfl (Nat.le_of_ble_eq_true rfl) ⟨Nat.le_trans (Nat.le_of_ble_eq_true rfl) hB.2.2.2.2.1, Nat.le_trans (Nat.le_of_ble_eq_true rfl) hB.2.2.2.2.2⟩ (fun r16 h17 q18 => z_fun q18 ?_)
      exact z_retx_i hB rfl ⟨Nat.le_of_ble_eq_true rfl, Nat.le_of_ble_eq_true rfl⟩ (by decide +kernel) ⟨_, rfl, E.symm⟩
    · skip
      have E := (if_neg c12).symm.trans E
      refine z_less (ls' := [none, none]) (by simp [z_sub]) ?_
      exact P30   trivial E

def fn_X7_step (x : Int32) (h : z_H) : z_RX := z_bd (fn_X7_checkDirection x h) (z_bd (fn_X7_checkLivingWorm  h) (if (fv_X6_advance h x) = 0 then .ok (some (.int (nI 0)), z_set (fh_X6_advance h x) 10 8 (nI 1)) else .ok (some (.int ((fh_X6_advance h x).1 10 5)), fh_X6_advance h x)))
set_option maxHeartbeats 4000000 in
set_option maxRecDepth 100000 in
theorem sp_X7_step (l : Launch) (hl0 : l.stackTraces = false) (ext : z_Sh) (h : z_H) (x : Int32)  : z_Spx l 7 yX7_step (.code yX7_step cX7_step 2 (some .int)) 2 12 [.ref 0, .int x] (z_c ext) h (z_PXI (fn_X7_step x h)) (z_XX [z_EI, z_ES] (fn_X7_step x h)) := by
  refine z_enterx ft_X7 (by decide +kernel) fo_X7 (Nat.le_of_ble_eq_true rfl) ?_
  intro p e R s m args below meth c D dA ad hB
  have hC := hB.1.1
  have hN := hB.1.2.1
  have hR := hB.1.2.2.1
  have hZ := hB.2.1
  have hKin := hB.2.2.1
  have E : (z_bd (fn_X7_checkDirection x h) (z_bd (fn_X7_checkLivingWorm  h) (if (fv_X6_advance h x) = 0 then .ok (some (.int (nI 0)), z_set (fh_X6_advance h x) 10 8 (nI 1)) else .ok (some (.int ((fh_X6_advance h x).1 10 5)), fh_X6_advance h x)))) = (fn_X7_step x h) := rfl
  generalize (fn_X7_step x h) = RR at E ⊢
  refine z_go hC (pc' := 1) (ls' := [some (.ref 0), some (.int x)]) (st' := [.int x]) (h' := h) (cs := []) [.iload_n 1] (by decide +kernel) rfl rfl trivial ?_
  refine z_callSx hC hN hR hZ hKin (as := [.int x]) (rest := []) ok_X7_155 (by decide +kernel) (sp_X7_checkDirection l hl0 _ h x) (Nat.le_of_ble_eq_true rfl) rfl rfl (Nat.le_of_ble_eq_true rfl) ⟨Nat.le_trans (Nat.le_of_ble_eq_true rfl) hB.2.2.2.2.1, Nat.le_trans (Nat.le_of_ble_eq_true rfl) hB.2.2.2.2.2⟩ (fun Ex qx => z_out hB rfl ⟨Nat.le_of_ble_eq_true rfl, Nat.le_of_ble_eq_true rfl⟩ ⟨((z_bd_er qx.1).symm.trans E).symm, z_msub (by decide) qx.2⟩) (fun rv hh q1 => z_fun ⟨q1.1, q1.2.1⟩ ?_)
  have E := (z_bd_ok q1.2.2).symm.trans E
  refine z_go hC (pc' := 5) (ls' := [some (.ref 0), some (.int x)]) (st' := [.ref 0]) (h' := h) (cs := []) [.aload_n 0] (by decide +kernel) rfl rfl trivial ?_
  refine z_callVx hC hN hR hZ hKin (as := []) (rest := []) ok_X7_158 (by decide +kernel) (sp_X7_checkLivingWorm l hl0 _ h ) rfl rfl (Nat.le_of_ble_eq_true rfl) rfl rfl (Nat.le_of_ble_eq_true rfl) ⟨Nat.le_trans (Nat.le_of_ble_eq_true rfl) hB.2.2.2.2.1, Nat.le_trans (Nat.le_of_ble_eq_true rfl) hB.2.2.2.2.2⟩ (fun Ex qx => z_out hB rfl ⟨Nat.le_of_ble_eq_true rfl, Nat.le_of_ble_eq_true rfl⟩ ⟨((z_bd_er qx.1).symm.trans E).symm, z_msub (by decide) qx.2⟩) (fun rv hh q2 => z_fun ⟨q2.1, q2.2.1⟩ ?_)
  have E := (z_bd_ok q2.2.2).symm.trans E
  refine z_go hC (pc' := 13) (ls' := [some (.ref 0), some (.int x)]) (st' := [.int x, .ref 10]) (h' := h) (cs := []) [.aload_n 0, .getfield 37, .iload_n 1] (by decide +kernel) rfl rfl trivial ?_
  refine z_callV hC hN hR (as := [.int x]) (rest := []) ok_X7_161 (by decide +kernel) (sp_X6_advance l _ h x) rfl rfl (Nat.le_of_ble_eq_true rfl) rfl rfl (Nat.le_of_ble_eq_true rfl) ⟨Nat.le_trans (Nat.le_of_ble_eq_true rfl) hB.2.2.2.2.1, Nat.le_trans (Nat.le_of_ble_eq_true rfl) hB.2.2.2.2.2⟩ (fun r3 h4 q5 => z_fun q5 ?_)
  refine z_if_eq hC (off := 11) 27 (by decide +kernel) (by decide) (fun c6 => ?_) (fun c6 => ?_)
  · skip
    have E := (if_pos c6).symm.trans E
    refine z_go hC (pc' := 31) (ls' := [some (.ref 0), some (.int x)]) (st' := [.ref 10]) (h' := fh_X6_advance h x) (cs := []) [.aload_n 0, .getfield 37] (by decide +kernel) rfl rfl trivial ?_
    refine z_callV hC hN hR (as := []) (rest := []) ok_X7_164 (by decide +kernel) (sp_X6_die l _ (fh_X6_advance h x) ) rfl rfl (Nat.le_of_ble_eq_true rfl) rfl rfl (Nat.le_of_ble_eq_true rfl) ⟨Nat.le_trans (Nat.le_of_ble_eq_true rfl) hB.2.2.2.2.1, Nat.le_trans (Nat.le_of_ble_eq_true rfl) hB.2.2.2.2.2⟩ (fun r7 h8 q9 => z_fun q9 ?_)
    refine z_go hC (pc' := 35) (ls' := [some (.ref 0), some (.int x)]) (st' := [.int (nI 0)]) (h' := z_set (fh_X6_advance h x) 10 8 (nI 1)) (cs := []) [.iconst 0] (by decide +kernel) rfl rfl trivial ?_
    exact z_retx_i hB rfl ⟨Nat.le_of_ble_eq_true rfl, Nat.le_of_ble_eq_true rfl⟩ (by decide +kernel) ⟨_, rfl, E.symm⟩
  · skip
    have E := (if_neg c6).symm.trans E
    refine z_go hC (pc' := 23) (ls' := [some (.ref 0), some (.int x)]) (st' := [.ref 10]) (h' := fh_X6_advance h x) (cs := []) [.aload_n 0, .getfield 37] (by decide +kernel) rfl rfl trivial ?_
    refine z_callV hC hN hR (as := []) (rest := []) ok_X7_142 (by decide +kernel) (sp_X6_size l _ (fh_X6_advance h x) ) rfl rfl (Nat.le_of_ble_eq_true rfl) rfl rfl (Nat.le_of_ble_eq_true rfl) ⟨Nat.le_trans (Nat.le_of_ble_eq_true rfl) hB.2.2.2.2.1, Nat.le_trans (Nat.le_of_ble_eq_true rfl) hB.2.2.2.2.2⟩ (fun r10 h11 q12 => z_fun q12 ?_)
    exact z_retx_i hB rfl ⟨Nat.le_of_ble_eq_true rfl, Nat.le_of_ble_eq_true rfl⟩ (by decide +kernel) ⟨_, rfl, E.symm⟩

def fn_X7_play_11 (h : z_H)   : z_RX := .error z_EA
def tk_X7_play_11 (h : z_H)   : Prop := True
def fn_X7_play_27  : Nat → Int32 → Int32 → z_H → z_RX
  | 0, _, _, _ => .error ""
  | n + 1, a1, a2, hh => let k27 := fun (a1_ : Int32) (a2_ : Int32) (hh_ : z_H) => fn_X7_play_27  n a1_ a2_ hh_; if a1 ≤ a2 then .ok (some (.int a1), hh) else if (z_vi (fn_X5_choice  hh)) = (-1) then .ok (some (.int a2), (fn_X5_choice  hh).2) else if (fv_X6_advance ((fn_X5_choice  hh).2) (z_vi (fn_X5_choice  hh))) = 0 then .ok (some (.int a2), fh_X6_advance ((fn_X5_choice  hh).2) (z_vi (fn_X5_choice  hh))) else k27 a1 (a2 + (nI 1)) (fh_X6_advance ((fn_X5_choice  hh).2) (z_vi (fn_X5_choice  hh)))
def tk_X7_play_27  : Nat → Int32 → Int32 → z_H → Prop
  | 0, _, _, _ => False
  | n + 1, a1, a2, hh => let K27 := fun (a1_ : Int32) (a2_ : Int32) (hh_ : z_H) => tk_X7_play_27  n a1_ a2_ hh_; ((a1 ≤ a2) → (True)) ∧ ((¬ a1 ≤ a2) → (tk_X5_choice  hh ∧ ((((z_vi (fn_X5_choice  hh)) = (-1)) → (True)) ∧ ((¬ (z_vi (fn_X5_choice  hh)) = (-1)) → ((((fv_X6_advance ((fn_X5_choice  hh).2) (z_vi (fn_X5_choice  hh))) = 0) → (True)) ∧ ((¬ (fv_X6_advance ((fn_X5_choice  hh).2) (z_vi (fn_X5_choice  hh))) = 0) → (K27 a1 (a2 + (nI 1)) (fh_X6_advance ((fn_X5_choice  hh).2) (z_vi (fn_X5_choice  hh))))))))))
def fn_X7_play (x : Int32) (h : z_H) : z_RX := if x < (nI 1) then fn_X7_play_11 h  else if x ≤ (nI 50) then z_bd (fn_X7_checkLivingWorm  h) (fn_X7_play_27 2000 x (nI 0) h) else fn_X7_play_11 h 
def tk_X7_play (x : Int32) (h : z_H) : Prop := ((x < (nI 1)) → (True)) ∧ ((¬ x < (nI 1)) → (((x ≤ (nI 50)) → (∀ rx : z_R, fn_X7_checkLivingWorm  h = .ok rx → (tk_X7_play_27 2000 x (nI 0) h))) ∧ ((¬ x ≤ (nI 50)) → (True))))
set_option maxHeartbeats 4000000 in
set_option maxRecDepth 100000 in
theorem sp_X7_play (l : Launch) (hl0 : l.stackTraces = false) (ext : z_Sh) (h : z_H) (x : Int32) (T : tk_X7_play x h) : z_Spx l 7 yX7_play (.code yX7_play cX7_play 4 (some .int)) 1 6 [.ref 0, .int x] (z_c ext) h (z_PXI (fn_X7_play x h)) (z_XX [z_EA, z_ES] (fn_X7_play x h)) := by
  refine z_enterx ft_X7 (by decide +kernel) fo_X7 (Nat.le_of_ble_eq_true rfl) ?_
  intro p e R s m args below meth c D dA ad hB
  have hC := hB.1.1
  have hN := hB.1.2.1
  have hR := hB.1.2.2.1
  have hZ := hB.2.1
  have hKin := hB.2.2.1
  unfold tk_X7_play at T
  have E : (if x < (nI 1) then fn_X7_play_11 h  else if x ≤ (nI 50) then z_bd (fn_X7_checkLivingWorm  h) (fn_X7_play_27 2000 x (nI 0) h) else fn_X7_play_11 h ) = (fn_X7_play x h) := rfl
  generalize (fn_X7_play x h) = RR at E ⊢
  have P11 : tk_X7_play_11 h   → fn_X7_play_11 h   = RR → z_GX p l e R s m args below meth c D dA ad 4 (z_PXI RR) (z_XX [z_EA, z_ES] RR) h 1 6 (z_c ext) 0 0 11 [none, none, none, none] [] h := by
    intro   T E
    unfold tk_X7_play_11 at T; unfold fn_X7_play_11 at E
    exact z_throw hB hl0 rfl okT_X7_93_167 (Nat.le_of_ble_eq_true rfl) ⟨Nat.le_of_ble_eq_true rfl, Nat.le_of_ble_eq_true rfl⟩ (by decide +kernel) (by decide +kernel) (by decide +kernel) (by decide +kernel) (by decide +kernel) ⟨E.symm, by decide⟩
  have P27 : ∀ (n : Nat), ∀ (a1 : Int32) (a2 : Int32) (hh : z_H), tk_X7_play_27  n a1 a2 hh → fn_X7_play_27  n a1 a2 hh = RR → z_GX p l e R s m args below meth c D dA ad 4 (z_PXI RR) (z_XX [z_EA, z_ES] RR) h 1 6 (z_c ext) 1 6 27 [some (.ref 0), some (.int a1), some (.int a2), none] [] hh := by
    intro  n
    induction n with
    | zero => intro a1 a2 hh T E; exact False.elim T
    | succ n ih =>
      intro a1 a2 hh T E
      unfold tk_X7_play_27 at T; unfold fn_X7_play_27 at E; dsimp only at T E
      have hk27 := ih
      refine z_go hC (pc' := 29) (ls' := [some (.ref 0), some (.int a1), some (.int a2), none]) (st' := [.int a1, .int a2]) (h' := hh) (cs := []) [.iload_n 2, .iload_n 1] (by decide +kernel) rfl rfl trivial ?_
      refine z_icmp_ge hC (off := 35) 64 (by decide +kernel) (by decide) (fun c1 => ?_) (fun c1 => ?_)
      · skip
        have E := (if_pos c1).symm.trans E
        have T := T.1 c1
        refine z_go hC (pc' := 65) (ls' := [some (.ref 0), some (.int a1), some (.int a2), none]) (st' := [.int a1]) (h' := hh) (cs := []) [.iload_n 1] (by decide +kernel) rfl rfl trivial ?_
        exact z_retx_i hB rfl ⟨Nat.le_of_ble_eq_true rfl, Nat.le_of_ble_eq_true rfl⟩ (by decide +kernel) ⟨_, rfl, E.symm⟩
      · skip
        have E := (if_neg c1).symm.trans E
        have T := T.2 c1
        refine z_go hC (pc' := 36) (ls' := [some (.ref 0), some (.int a1), some (.int a2), none]) (st' := [.ref 13]) (h' := hh) (cs := []) [.aload_n 0, .getfield 46] (by decide +kernel) rfl rfl trivial ?_
        obtain ⟨t5, T⟩ := T
        refine z_callV hC hN hR (as := []) (rest := []) ok_X7_169 (by decide +kernel) (sp_X5_choice l _ hh  t5) rfl rfl (Nat.le_of_ble_eq_true rfl) rfl rfl (Nat.le_of_ble_eq_true rfl) ⟨Nat.le_trans (Nat.le_of_ble_eq_true rfl) hB.2.2.2.2.1, Nat.le_trans (Nat.le_of_ble_eq_true rfl) hB.2.2.2.2.2⟩ (fun r2 h3 q4 => z_fun q4 ?_)
        refine z_go hC (pc' := 42) (ls' := [some (.ref 0), some (.int a1), some (.int a2), some (.int (z_vi (fn_X5_choice  hh)))]) (st' := [.int (-1), .int (z_vi (fn_X5_choice  hh))]) (h' := (fn_X5_choice  hh).2) (cs := []) [.istore_n 3, .iload_n 3, .iconst (-1)] (by decide +kernel) rfl rfl trivial ?_
        refine z_icmp_eq hC (off := 14) 56 (by decide +kernel) (by decide) (fun c6 => ?_) (fun c6 => ?_)
        · skip
          have E := (if_pos c6).symm.trans E
          have T := T.1 c6
          refine z_go hC (pc' := 57) (ls' := [some (.ref 0), some (.int a1), some (.int a2), some (.int (z_vi (fn_X5_choice  hh)))]) (st' := [.int a2]) (h' := (fn_X5_choice  hh).2) (cs := []) [.iload_n 2] (by decide +kernel) rfl rfl trivial ?_
          exact z_retx_i hB rfl ⟨Nat.le_of_ble_eq_true rfl, Nat.le_of_ble_eq_true rfl⟩ (by decide +kernel) ⟨_, rfl, E.symm⟩
        · skip
          have E := (if_neg c6).symm.trans E
          have T := T.2 c6
          refine z_go hC (pc' := 50) (ls' := [some (.ref 0), some (.int a1), some (.int a2), some (.int (z_vi (fn_X5_choice  hh)))]) (st' := [.int (z_vi (fn_X5_choice  hh)), .ref 10]) (h' := (fn_X5_choice  hh).2) (cs := []) [.aload_n 0, .getfield 37, .iload_n 3] (by decide +kernel) rfl rfl trivial ?_
          refine z_callV hC hN hR (as := [.int (z_vi (fn_X5_choice  hh))]) (rest := []) ok_X7_161 (by decide +kernel) (sp_X6_advance l _ ((fn_X5_choice  hh).2) (z_vi (fn_X5_choice  hh))) rfl rfl (Nat.le_of_ble_eq_true rfl) rfl rfl (Nat.le_of_ble_eq_true rfl) ⟨Nat.le_trans (Nat.le_of_ble_eq_true rfl) hB.2.2.2.2.1, Nat.le_trans (Nat.le_of_ble_eq_true rfl) hB.2.2.2.2.2⟩ (fun r7 h8 q9 => z_fun q9 ?_)
          refine z_if_ne hC (off := 5) 58 (by decide +kernel) (by decide) (fun c10 => ?_) (fun c10 => ?_)
          · skip
            have E := (if_neg c10).symm.trans E
            have T := T.2 c10
            refine z_go hC (pc' := 61) (ls' := [some (.ref 0), some (.int a1), some (.int (a2 + (nI 1))), some (.int (z_vi (fn_X5_choice  hh)))]) (st' := []) (h' := fh_X6_advance ((fn_X5_choice  hh).2) (z_vi (fn_X5_choice  hh))) (cs := []) [.iinc 2 1] (by decide +kernel) rfl rfl trivial ?_
            refine z_goto hC (off := -34) 27 (by decide +kernel) (by decide) ?_
            refine z_less (ls' := [some (.ref 0), some (.int a1), some (.int (a2 + (nI 1))), none]) (by simp [z_sub]) ?_
            exact hk27 a1 (a2 + (nI 1)) (fh_X6_advance ((fn_X5_choice  hh).2) (z_vi (fn_X5_choice  hh))) T E
          · skip
            have E := (if_pos c10).symm.trans E
            have T := T.1 c10
            refine z_go hC (pc' := 57) (ls' := [some (.ref 0), some (.int a1), some (.int a2), some (.int (z_vi (fn_X5_choice  hh)))]) (st' := [.int a2]) (h' := fh_X6_advance ((fn_X5_choice  hh).2) (z_vi (fn_X5_choice  hh))) (cs := []) [.iload_n 2] (by decide +kernel) rfl rfl trivial ?_
            exact z_retx_i hB rfl ⟨Nat.le_of_ble_eq_true rfl, Nat.le_of_ble_eq_true rfl⟩ (by decide +kernel) ⟨_, rfl, E.symm⟩
  refine z_go hC (pc' := 2) (ls' := [some (.ref 0), some (.int x), none, none]) (st' := [.int (nI 1), .int x]) (h' := h) (cs := []) [.iload_n 1, .iconst 1] (by decide +kernel) rfl rfl trivial ?_
  refine z_icmp_lt hC (off := 9) 11 (by decide +kernel) (by decide) (fun c11 => ?_) (fun c11 => ?_)
  · skip
    have E := (if_pos c11).symm.trans E
    have T := T.1 c11
    refine z_less (ls' := [none, none, none, none]) (by simp [z_sub]) ?_
    exact P11   trivial E
  · skip
    have E := (if_neg c11).symm.trans E
    have T := T.2 c11
    refine z_go hC (pc' := 8) (ls' := [some (.ref 0), some (.int x), none, none]) (st' := [.int (nI 50), .int x]) (h' := h) (cs := []) [.iload_n 1, .bipush 50] (by decide +kernel) rfl rfl trivial ?_
    refine z_icmp_le hC (off := 13) 21 (by decide +kernel) (by decide) (fun c12 => ?_) (fun c12 => ?_)
    · skip
      have E := (if_pos c12).symm.trans E
      have T := T.1 c12
      refine z_go hC (pc' := 22) (ls' := [some (.ref 0), some (.int x), none, none]) (st' := [.ref 0]) (h' := h) (cs := []) [.aload_n 0] (by decide +kernel) rfl rfl trivial ?_
      refine z_callVx hC hN hR hZ hKin (as := []) (rest := []) ok_X7_158 (by decide +kernel) (sp_X7_checkLivingWorm l hl0 _ h ) rfl rfl (Nat.le_of_ble_eq_true rfl) rfl rfl (Nat.le_of_ble_eq_true rfl) ⟨Nat.le_trans (Nat.le_of_ble_eq_true rfl) hB.2.2.2.2.1, Nat.le_trans (Nat.le_of_ble_eq_true rfl) hB.2.2.2.2.2⟩ (fun Ex qx => z_out hB rfl ⟨Nat.le_of_ble_eq_true rfl, Nat.le_of_ble_eq_true rfl⟩ ⟨((z_bd_er qx.1).symm.trans E).symm, z_msub (by decide) qx.2⟩) (fun rv hh q13 => z_fun ⟨q13.1, q13.2.1⟩ ?_)
      have E := (z_bd_ok q13.2.2).symm.trans E
      have T := T _ q13.2.2
      refine z_go hC (pc' := 27) (ls' := [some (.ref 0), some (.int x), some (.int (nI 0)), none]) (st' := []) (h' := h) (cs := []) [.iconst 0, .istore_n 2] (by decide +kernel) rfl rfl trivial ?_
      exact P27 2000 x (nI 0) h T E
    · skip
      have E := (if_neg c12).symm.trans E
      have T := T.2 c12
      refine z_less (ls' := [none, none, none, none]) (by simp [z_sub]) ?_
      exact P11   trivial E

def fn_X7_bodyAt_15 (h : z_H)   : z_RX := .error z_EI
def tk_X7_bodyAt_15 (h : z_H)   : Prop := True
def fn_X7_bodyAt (x : Int32) (h : z_H) : z_RX := if x < 0 then fn_X7_bodyAt_15 h  else if x < (h.1 10 5) then .ok (some (.int (h.1 11 ((((h.1 10 4) + x) &&& (nI 63)).toNatClampNeg))), h) else fn_X7_bodyAt_15 h 
set_option maxHeartbeats 4000000 in
set_option maxRecDepth 100000 in
theorem sp_X7_bodyAt (l : Launch) (hl0 : l.stackTraces = false) (ext : z_Sh) (h : z_H) (x : Int32)  : z_Spx l 6 yX7_bodyAt (.code yX7_bodyAt cX7_bodyAt 2 (some .int)) 1 6 [.ref 0, .int x] (z_c ext) h (z_PXI (fn_X7_bodyAt x h)) (z_XX [z_EI] (fn_X7_bodyAt x h)) := by
  refine z_enterx ft_X7 (by decide +kernel) fo_X7 (Nat.le_of_ble_eq_true rfl) ?_
  intro p e R s m args below meth c D dA ad hB
  have hC := hB.1.1
  have hN := hB.1.2.1
  have hR := hB.1.2.2.1
  have hZ := hB.2.1
  have hKin := hB.2.2.1
  have E : (if x < 0 then fn_X7_bodyAt_15 h  else if x < (h.1 10 5) then .ok (some (.int (h.1 11 ((((h.1 10 4) + x) &&& (nI 63)).toNatClampNeg))), h) else fn_X7_bodyAt_15 h ) = (fn_X7_bodyAt x h) := rfl
  generalize (fn_X7_bodyAt x h) = RR at E ⊢
  have P15 : tk_X7_bodyAt_15 h   → fn_X7_bodyAt_15 h   = RR → z_GX p l e R s m args below meth c D dA ad 2 (z_PXI RR) (z_XX [z_EI] RR) h 1 6 (z_c ext) 0 0 15 [none, none] [] h := by
    intro   T E
    unfold tk_X7_bodyAt_15 at T; unfold fn_X7_bodyAt_15 at E
    exact z_throw hB hl0 rfl okT_X7_62_178 (Nat.le_of_ble_eq_true rfl) ⟨Nat.le_of_ble_eq_true rfl, Nat.le_of_ble_eq_true rfl⟩ (by decide +kernel) (by decide +kernel) (by decide +kernel) (by decide +kernel) (by decide +kernel) ⟨E.symm, by decide⟩
  refine z_go hC (pc' := 1) (ls' := [some (.ref 0), some (.int x)]) (st' := [.int x]) (h' := h) (cs := []) [.iload_n 1] (by decide +kernel) rfl rfl trivial ?_
  refine z_if_lt hC (off := 14) 15 (by decide +kernel) (by decide) (fun c1 => ?_) (fun c1 => ?_)
  · skip
    have E := (if_pos c1).symm.trans E
    refine z_less (ls' := [none, none]) (by simp [z_sub]) ?_
    exact P15   trivial E
  · skip
    have E := (if_neg c1).symm.trans E
    refine z_go hC (pc' := 9) (ls' := [some (.ref 0), some (.int x)]) (st' := [.ref 10, .int x]) (h' := h) (cs := []) [.iload_n 1, .aload_n 0, .getfield 37] (by decide +kernel) rfl rfl trivial ?_
    refine z_callV hC hN hR (as := []) (rest := [.int x]) ok_X7_142 (by decide +kernel) (sp_X6_size l _ h ) rfl rfl (Nat.le_of_ble_eq_true rfl) rfl rfl (Nat.le_of_ble_eq_true rfl) ⟨Nat.le_trans (Nat.le_of_ble_eq_true rfl) hB.2.2.2.2.1, Nat.le_trans (Nat.le_of_ble_eq_true rfl) hB.2.2.2.2.2⟩ (fun r2 h3 q4 => z_fun q4 ?_)
    refine z_icmp_lt hC (off := 13) 25 (by decide +kernel) (by decide) (fun c5 => ?_) (fun c5 => ?_)
    · skip
      have E := (if_pos c5).symm.trans E
      refine z_go hC (pc' := 30) (ls' := [some (.ref 0), some (.int x)]) (st' := [.int x, .ref 10]) (h' := h) (cs := []) [.aload_n 0, .getfield 37, .iload_n 1] (by decide +kernel) rfl rfl trivial ?_
      refine z_callV hC hN hR (as := [.int x]) (rest := []) ok_X7_180 (by decide +kernel) (sp_X6_cellOf l _ h x) rfl rfl (Nat.le_of_ble_eq_true rfl) rfl rfl (Nat.le_of_ble_eq_true rfl) ⟨Nat.le_trans (Nat.le_of_ble_eq_true rfl) hB.2.2.2.2.1, Nat.le_trans (Nat.le_of_ble_eq_true rfl) hB.2.2.2.2.2⟩ (fun r6 h7 q8 => z_fun q8 ?_)
      exact z_retx_i hB rfl ⟨Nat.le_of_ble_eq_true rfl, Nat.le_of_ble_eq_true rfl⟩ (by decide +kernel) ⟨_, rfl, E.symm⟩
    · skip
      have E := (if_neg c5).symm.trans E
      refine z_less (ls' := [none, none]) (by simp [z_sub]) ?_
      exact P15   trivial E

def fn_X7_isSafe (x : Int32) (h : z_H) : z_RX := z_bd (fn_X7_checkDirection x h) (z_bd (fn_X7_checkLivingWorm  h) (.ok (some (.int (z_vi (fn_X5_seesSafe x h))), (fn_X5_seesSafe x h).2)))
def tk_X7_isSafe (x : Int32) (h : z_H) : Prop := ∀ rx : z_R, fn_X7_checkDirection x h = .ok rx → (∀ rx : z_R, fn_X7_checkLivingWorm  h = .ok rx → (tk_X5_seesSafe x h))
set_option maxHeartbeats 4000000 in
set_option maxRecDepth 100000 in
theorem sp_X7_isSafe (l : Launch) (hl0 : l.stackTraces = false) (ext : z_Sh) (h : z_H) (x : Int32) (T : tk_X7_isSafe x h) : z_Spx l 7 yX7_isSafe (.code yX7_isSafe cX7_isSafe 2 (some .boolean)) 2 12 [.ref 0, .int x] (z_c ext) h (z_PXB (fn_X7_isSafe x h)) (z_XX [z_EI, z_ES] (fn_X7_isSafe x h)) := by
  refine z_enterx ft_X7 (by decide +kernel) fo_X7 (Nat.le_of_ble_eq_true rfl) ?_
  intro p e R s m args below meth c D dA ad hB
  have hC := hB.1.1
  have hN := hB.1.2.1
  have hR := hB.1.2.2.1
  have hZ := hB.2.1
  have hKin := hB.2.2.1
  unfold tk_X7_isSafe at T
  have E : (z_bd (fn_X7_checkDirection x h) (z_bd (fn_X7_checkLivingWorm  h) (.ok (some (.int (z_vi (fn_X5_seesSafe x h))), (fn_X5_seesSafe x h).2)))) = (fn_X7_isSafe x h) := rfl
  generalize (fn_X7_isSafe x h) = RR at E ⊢
  refine z_go hC (pc' := 1) (ls' := [some (.ref 0), some (.int x)]) (st' := [.int x]) (h' := h) (cs := []) [.iload_n 1] (by decide +kernel) rfl rfl trivial ?_
  refine z_callSx hC hN hR hZ hKin (as := [.int x]) (rest := []) ok_X7_155 (by decide +kernel) (sp_X7_checkDirection l hl0 _ h x) (Nat.le_of_ble_eq_true rfl) rfl rfl (Nat.le_of_ble_eq_true rfl) ⟨Nat.le_trans (Nat.le_of_ble_eq_true rfl) hB.2.2.2.2.1, Nat.le_trans (Nat.le_of_ble_eq_true rfl) hB.2.2.2.2.2⟩ (fun Ex qx => z_out hB rfl ⟨Nat.le_of_ble_eq_true rfl, Nat.le_of_ble_eq_true rfl⟩ ⟨((z_bd_er qx.1).symm.trans E).symm, z_msub (by decide) qx.2⟩) (fun rv hh q1 => z_fun ⟨q1.1, q1.2.1⟩ ?_)
  have E := (z_bd_ok q1.2.2).symm.trans E
  have T := T _ q1.2.2
  refine z_go hC (pc' := 5) (ls' := [some (.ref 0), some (.int x)]) (st' := [.ref 0]) (h' := h) (cs := []) [.aload_n 0] (by decide +kernel) rfl rfl trivial ?_
  refine z_callVx hC hN hR hZ hKin (as := []) (rest := []) ok_X7_158 (by decide +kernel) (sp_X7_checkLivingWorm l hl0 _ h ) rfl rfl (Nat.le_of_ble_eq_true rfl) rfl rfl (Nat.le_of_ble_eq_true rfl) ⟨Nat.le_trans (Nat.le_of_ble_eq_true rfl) hB.2.2.2.2.1, Nat.le_trans (Nat.le_of_ble_eq_true rfl) hB.2.2.2.2.2⟩ (fun Ex qx => z_out hB rfl ⟨Nat.le_of_ble_eq_true rfl, Nat.le_of_ble_eq_true rfl⟩ ⟨((z_bd_er qx.1).symm.trans E).symm, z_msub (by decide) qx.2⟩) (fun rv hh q2 => z_fun ⟨q2.1, q2.2.1⟩ ?_)
  have E := (z_bd_ok q2.2.2).symm.trans E
  have T := T _ q2.2.2
  refine z_go hC (pc' := 13) (ls' := [some (.ref 0), some (.int x)]) (st' := [.int x, .ref 13]) (h' := h) (cs := []) [.aload_n 0, .getfield 46, .iload_n 1] (by decide +kernel) rfl rfl trivial ?_
  have t6 := T
  refine z_callV hC hN hR (as := [.int x]) (rest := []) ok_X7_186 (by decide +kernel) (sp_X5_seesSafe l _ h x t6) rfl rfl (Nat.le_of_ble_eq_true rfl) rfl rfl (Nat.le_of_ble_eq_true rfl) ⟨Nat.le_trans (Nat.le_of_ble_eq_true rfl) hB.2.2.2.2.1, Nat.le_trans (Nat.le_of_ble_eq_true rfl) hB.2.2.2.2.2⟩ (fun r3 h4 q5 => z_funb q5 (fun z7 => ?_))
  exact z_retx_z hB rfl z7 ⟨Nat.le_of_ble_eq_true rfl, Nat.le_of_ble_eq_true rfl⟩ (by decide +kernel) ⟨_, rfl, E.symm, z7⟩

def fn_X7_livesFor_11 (h : z_H)   : z_RX := .error z_EA
def tk_X7_livesFor_11 (h : z_H)   : Prop := True
def fn_X7_livesFor (x : Int32) (h : z_H) : z_RX := if x < (nI 1) then fn_X7_livesFor_11 h  else if x ≤ (nI 6) then z_bd (fn_X7_checkLivingWorm  h) (.ok (some (.int (z_vi (fn_X4_longestWalk x h))), (fn_X4_longestWalk x h).2)) else fn_X7_livesFor_11 h 
def tk_X7_livesFor (x : Int32) (h : z_H) : Prop := ((x < (nI 1)) → (True)) ∧ ((¬ x < (nI 1)) → (((x ≤ (nI 6)) → (∀ rx : z_R, fn_X7_checkLivingWorm  h = .ok rx → (tk_X4_longestWalk x h))) ∧ ((¬ x ≤ (nI 6)) → (True))))
set_option maxHeartbeats 4000000 in
set_option maxRecDepth 100000 in
theorem sp_X7_livesFor (l : Launch) (hl0 : l.stackTraces = false) (ext : z_Sh) (h : z_H) (x : Int32) (T : tk_X7_livesFor x h) : z_Spx l 12 yX7_livesFor (.code yX7_livesFor cX7_livesFor 2 (some .int)) 1 6 [.ref 0, .int x] (z_c ext) h (z_PXI (fn_X7_livesFor x h)) (z_XX [z_EA, z_ES] (fn_X7_livesFor x h)) := by
  refine z_enterx ft_X7 (by decide +kernel) fo_X7 (Nat.le_of_ble_eq_true rfl) ?_
  intro p e R s m args below meth c D dA ad hB
  have hC := hB.1.1
  have hN := hB.1.2.1
  have hR := hB.1.2.2.1
  have hZ := hB.2.1
  have hKin := hB.2.2.1
  unfold tk_X7_livesFor at T
  have E : (if x < (nI 1) then fn_X7_livesFor_11 h  else if x ≤ (nI 6) then z_bd (fn_X7_checkLivingWorm  h) (.ok (some (.int (z_vi (fn_X4_longestWalk x h))), (fn_X4_longestWalk x h).2)) else fn_X7_livesFor_11 h ) = (fn_X7_livesFor x h) := rfl
  generalize (fn_X7_livesFor x h) = RR at E ⊢
  have P11 : tk_X7_livesFor_11 h   → fn_X7_livesFor_11 h   = RR → z_GX p l e R s m args below meth c D dA ad 2 (z_PXI RR) (z_XX [z_EA, z_ES] RR) h 1 6 (z_c ext) 0 0 11 [none, none] [] h := by
    intro   T E
    unfold tk_X7_livesFor_11 at T; unfold fn_X7_livesFor_11 at E
    exact z_throw hB hl0 rfl okT_X7_93_167 (Nat.le_of_ble_eq_true rfl) ⟨Nat.le_of_ble_eq_true rfl, Nat.le_of_ble_eq_true rfl⟩ (by decide +kernel) (by decide +kernel) (by decide +kernel) (by decide +kernel) (by decide +kernel) ⟨E.symm, by decide⟩
  refine z_go hC (pc' := 2) (ls' := [some (.ref 0), some (.int x)]) (st' := [.int (nI 1), .int x]) (h' := h) (cs := []) [.iload_n 1, .iconst 1] (by decide +kernel) rfl rfl trivial ?_
  refine z_icmp_lt hC (off := 9) 11 (by decide +kernel) (by decide) (fun c1 => ?_) (fun c1 => ?_)
  · skip
    have E := (if_pos c1).symm.trans E
    have T := T.1 c1
    refine z_less (ls' := [none, none]) (by simp [z_sub]) ?_
    exact P11   trivial E
  · skip
    have E := (if_neg c1).symm.trans E
    have T := T.2 c1
    refine z_go hC (pc' := 8) (ls' := [some (.ref 0), some (.int x)]) (st' := [.int (nI 6), .int x]) (h' := h) (cs := []) [.iload_n 1, .bipush 6] (by decide +kernel) rfl rfl trivial ?_
    refine z_icmp_le hC (off := 13) 21 (by decide +kernel) (by decide) (fun c2 => ?_) (fun c2 => ?_)
    · skip
      have E := (if_pos c2).symm.trans E
      have T := T.1 c2
      refine z_go hC (pc' := 22) (ls' := [some (.ref 0), some (.int x)]) (st' := [.ref 0]) (h' := h) (cs := []) [.aload_n 0] (by decide +kernel) rfl rfl trivial ?_
      refine z_callVx hC hN hR hZ hKin (as := []) (rest := []) ok_X7_158 (by decide +kernel) (sp_X7_checkLivingWorm l hl0 _ h ) rfl rfl (Nat.le_of_ble_eq_true rfl) rfl rfl (Nat.le_of_ble_eq_true rfl) ⟨Nat.le_trans (Nat.le_of_ble_eq_true rfl) hB.2.2.2.2.1, Nat.le_trans (Nat.le_of_ble_eq_true rfl) hB.2.2.2.2.2⟩ (fun Ex qx => z_out hB rfl ⟨Nat.le_of_ble_eq_true rfl, Nat.le_of_ble_eq_true rfl⟩ ⟨((z_bd_er qx.1).symm.trans E).symm, z_msub (by decide) qx.2⟩) (fun rv hh q3 => z_fun ⟨q3.1, q3.2.1⟩ ?_)
      have E := (z_bd_ok q3.2.2).symm.trans E
      have T := T _ q3.2.2
      refine z_go hC (pc' := 30) (ls' := [some (.ref 0), some (.int x)]) (st' := [.int x, .ref 14]) (h' := h) (cs := []) [.aload_n 0, .getfield 55, .iload_n 1] (by decide +kernel) rfl rfl trivial ?_
      have t7 := T
      refine z_callV hC hN hR (as := [.int x]) (rest := []) ok_X7_192 (by decide +kernel) (sp_X4_longestWalk l _ h x t7) rfl rfl (Nat.le_of_ble_eq_true rfl) rfl rfl (Nat.le_of_ble_eq_true rfl) ⟨Nat.le_trans (Nat.le_of_ble_eq_true rfl) hB.2.2.2.2.1, Nat.le_trans (Nat.le_of_ble_eq_true rfl) hB.2.2.2.2.2⟩ (fun r4 h5 q6 => z_fun q6 ?_)
      exact z_retx_i hB rfl ⟨Nat.le_of_ble_eq_true rfl, Nat.le_of_ble_eq_true rfl⟩ (by decide +kernel) ⟨_, rfl, E.symm⟩
    · skip
      have E := (if_neg c2).symm.trans E
      have T := T.2 c2
      refine z_less (ls' := [none, none]) (by simp [z_sub]) ?_
      exact P11   trivial E

def fn_X7_fewest  (h : z_H) : z_RX := z_bd (fn_X7_checkLivingWorm  h) (.ok (some (.int (z_vi (fn_X4_fewestByDepths  h))), (fn_X4_fewestByDepths  h).2))
def tk_X7_fewest  (h : z_H) : Prop := ∀ rx : z_R, fn_X7_checkLivingWorm  h = .ok rx → (tk_X4_fewestByDepths  h)
set_option maxHeartbeats 4000000 in
set_option maxRecDepth 100000 in
theorem sp_X7_fewest (l : Launch) (hl0 : l.stackTraces = false) (ext : z_Sh) (h : z_H)  (T : tk_X7_fewest  h) : z_Spx l 12 yX7_fewest (.code yX7_fewest cX7_fewest 1 (some .int)) 1 6 [.ref 0] (z_c ext) h (z_PXI (fn_X7_fewest  h)) (z_XX [z_ES] (fn_X7_fewest  h)) := by
  refine z_enterx ft_X7 (by decide +kernel) fo_X7 (Nat.le_of_ble_eq_true rfl) ?_
  intro p e R s m args below meth c D dA ad hB
  have hC := hB.1.1
  have hN := hB.1.2.1
  have hR := hB.1.2.2.1
  have hZ := hB.2.1
  have hKin := hB.2.2.1
  unfold tk_X7_fewest at T
  have E : (z_bd (fn_X7_checkLivingWorm  h) (.ok (some (.int (z_vi (fn_X4_fewestByDepths  h))), (fn_X4_fewestByDepths  h).2))) = (fn_X7_fewest  h) := rfl
  generalize (fn_X7_fewest  h) = RR at E ⊢
  refine z_go hC (pc' := 1) (ls' := [some (.ref 0)]) (st' := [.ref 0]) (h' := h) (cs := []) [.aload_n 0] (by decide +kernel) rfl rfl trivial ?_
  refine z_callVx hC hN hR hZ hKin (as := []) (rest := []) ok_X7_158 (by decide +kernel) (sp_X7_checkLivingWorm l hl0 _ h ) rfl rfl (Nat.le_of_ble_eq_true rfl) rfl rfl (Nat.le_of_ble_eq_true rfl) ⟨Nat.le_trans (Nat.le_of_ble_eq_true rfl) hB.2.2.2.2.1, Nat.le_trans (Nat.le_of_ble_eq_true rfl) hB.2.2.2.2.2⟩ (fun Ex qx => z_out hB rfl ⟨Nat.le_of_ble_eq_true rfl, Nat.le_of_ble_eq_true rfl⟩ ⟨((z_bd_er qx.1).symm.trans E).symm, z_msub (by decide) qx.2⟩) (fun rv hh q1 => z_fun ⟨q1.1, q1.2.1⟩ ?_)
  have E := (z_bd_ok q1.2.2).symm.trans E
  have T := T _ q1.2.2
  refine z_go hC (pc' := 8) (ls' := [some (.ref 0)]) (st' := [.ref 14]) (h' := h) (cs := []) [.aload_n 0, .getfield 55] (by decide +kernel) rfl rfl trivial ?_
  have t5 := T
  refine z_callV hC hN hR (as := []) (rest := []) ok_X7_195 (by decide +kernel) (sp_X4_fewestByDepths l _ h  t5) rfl rfl (Nat.le_of_ble_eq_true rfl) rfl rfl (Nat.le_of_ble_eq_true rfl) ⟨Nat.le_trans (Nat.le_of_ble_eq_true rfl) hB.2.2.2.2.1, Nat.le_trans (Nat.le_of_ble_eq_true rfl) hB.2.2.2.2.2⟩ (fun r2 h3 q4 => z_fun q4 ?_)
  exact z_retx_i hB rfl ⟨Nat.le_of_ble_eq_true rfl, Nat.le_of_ble_eq_true rfl⟩ (by decide +kernel) ⟨_, rfl, E.symm⟩

def fn_X7_fewestByBodies  (h : z_H) : z_RX := z_bd (fn_X7_checkLivingWorm  h) (.ok (some (.int (z_vi (fn_X4_fewestByLevels  h))), (fn_X4_fewestByLevels  h).2))
def tk_X7_fewestByBodies  (h : z_H) : Prop := ∀ rx : z_R, fn_X7_checkLivingWorm  h = .ok rx → (tk_X4_fewestByLevels  h)
set_option maxHeartbeats 4000000 in
set_option maxRecDepth 100000 in
theorem sp_X7_fewestByBodies (l : Launch) (hl0 : l.stackTraces = false) (ext : z_Sh) (h : z_H)  (T : tk_X7_fewestByBodies  h) : z_Spx l 7 yX7_fewestByBodies (.code yX7_fewestByBodies cX7_fewestByBodies 1 (some .int)) 1 6 [.ref 0] (z_c ext) h (z_PXI (fn_X7_fewestByBodies  h)) (z_XX [z_ES] (fn_X7_fewestByBodies  h)) := by
  refine z_enterx ft_X7 (by decide +kernel) fo_X7 (Nat.le_of_ble_eq_true rfl) ?_
  intro p e R s m args below meth c D dA ad hB
  have hC := hB.1.1
  have hN := hB.1.2.1
  have hR := hB.1.2.2.1
  have hZ := hB.2.1
  have hKin := hB.2.2.1
  unfold tk_X7_fewestByBodies at T
  have E : (z_bd (fn_X7_checkLivingWorm  h) (.ok (some (.int (z_vi (fn_X4_fewestByLevels  h))), (fn_X4_fewestByLevels  h).2))) = (fn_X7_fewestByBodies  h) := rfl
  generalize (fn_X7_fewestByBodies  h) = RR at E ⊢
  refine z_go hC (pc' := 1) (ls' := [some (.ref 0)]) (st' := [.ref 0]) (h' := h) (cs := []) [.aload_n 0] (by decide +kernel) rfl rfl trivial ?_
  refine z_callVx hC hN hR hZ hKin (as := []) (rest := []) ok_X7_158 (by decide +kernel) (sp_X7_checkLivingWorm l hl0 _ h ) rfl rfl (Nat.le_of_ble_eq_true rfl) rfl rfl (Nat.le_of_ble_eq_true rfl) ⟨Nat.le_trans (Nat.le_of_ble_eq_true rfl) hB.2.2.2.2.1, Nat.le_trans (Nat.le_of_ble_eq_true rfl) hB.2.2.2.2.2⟩ (fun Ex qx => z_out hB rfl ⟨Nat.le_of_ble_eq_true rfl, Nat.le_of_ble_eq_true rfl⟩ ⟨((z_bd_er qx.1).symm.trans E).symm, z_msub (by decide) qx.2⟩) (fun rv hh q1 => z_fun ⟨q1.1, q1.2.1⟩ ?_)
  have E := (z_bd_ok q1.2.2).symm.trans E
  have T := T _ q1.2.2
  refine z_go hC (pc' := 8) (ls' := [some (.ref 0)]) (st' := [.ref 14]) (h' := h) (cs := []) [.aload_n 0, .getfield 55] (by decide +kernel) rfl rfl trivial ?_
  have t5 := T
  refine z_callV hC hN hR (as := []) (rest := []) ok_X7_198 (by decide +kernel) (sp_X4_fewestByLevels l _ h  t5) rfl rfl (Nat.le_of_ble_eq_true rfl) rfl rfl (Nat.le_of_ble_eq_true rfl) ⟨Nat.le_trans (Nat.le_of_ble_eq_true rfl) hB.2.2.2.2.1, Nat.le_trans (Nat.le_of_ble_eq_true rfl) hB.2.2.2.2.2⟩ (fun r2 h3 q4 => z_fun q4 ?_)
  exact z_retx_i hB rfl ⟨Nat.le_of_ble_eq_true rfl, Nat.le_of_ble_eq_true rfl⟩ (by decide +kernel) ⟨_, rfl, E.symm⟩
