/-! ===== the law from its entry ===== -/
theorem z_arrK {args : Array Value} {s : State} {ty : FieldType} (h : (Cond.arrayClass ty).before args s = true) (hp : ∀ C, ty ≠ .object C) : ∃ cA : ClassId, ArrOfT s cA ty ∧ va_RA s cA ty := by
  obtain ⟨c, k, comp, h1, h2, h3⟩ := Cond.arrayClass_spec (first := s) (o := none) (idx := []) h
  refine ⟨c, fun n z => ⟨fun k h => (by cases h), k, h2, comp, h3⟩, ?_⟩
  cases ty with
  | object C => exact absurd rfl (hp C)
  | _ => exact h1
def z_hL : z_H := z_clr ((fn_X8_layCycle z_hB).2) 35
theorem z_insts : Cond.instantiable RX0 4 ∈ z_big ∧ Cond.instantiable RX1 2 ∈ z_big ∧ Cond.instantiable RX2 5 ∈ z_big ∧ Cond.instantiable RX3 3 ∈ z_big ∧ Cond.instantiable RX4 6 ∈ z_big ∧ Cond.instantiable RX5 3 ∈ z_big ∧ Cond.instantiable RX6 9 ∈ z_big ∧ Cond.instantiable RX7 6 ∈ z_big ∧ Cond.instantiable RX8 21 ∈ z_big := ⟨z_bigT 27 (by decide +kernel) rfl, z_bigT 141 (by decide +kernel) rfl, z_bigT 47 (by decide +kernel) rfl, z_bigT 69 (by decide +kernel) rfl, z_bigT 135 (by decide +kernel) rfl, z_bigT 119 (by decide +kernel) rfl, z_bigT 85 (by decide +kernel) rfl, z_bigT 19 (by decide +kernel) rfl, z_bigT 796 (by decide +kernel) rfl⟩
theorem z_zw1 : Cond.laysStatic Bundle.tN "UNASSIGNED_STACK" Bundle.steD ∈ lw_tbl := List.mem_append_right _ (List.mem_of_getElem? (i := 404) (by decide +kernel))
theorem z_zw2 : Cond.laysStatic Bundle.tN "SUPPRESSED_SENTINEL" Bundle.listD ∈ lw_tbl := List.mem_append_right _ (List.mem_of_getElem? (i := 406) (by decide +kernel))
theorem z_zw3 : Cond.initialized Bundle.tN ∈ lw_tbl := List.mem_append_right _ (List.mem_of_getElem? (i := 11) (by decide +kernel))
set_option maxHeartbeats 4000000 in
set_option maxRecDepth 100000 in
/-- what the law's body stands on, out of its start -/
theorem z_start0 {s : State} {b : Addr} (hts : ∀ w ∈ lw_tbl, w.before #[Value.ref b] s = true) (hgv : (Jvm.Cond.and given_1 narrow_1).before #[Value.ref b] s = true) : ∃ (D : va_G) (dA : Nat → ClassId), va_K D vwCl (z_tys dA) s ∧ z_Nt s ∧ z_Zz (fun q => s.heap.size ≤ q) s ∧ z_Kin s := by
  have hb : ∀ w ∈ z_big, w.before #[Value.ref b] s = true := fun w hw => hts w (z_big_in w hw)
  have hs := flat_of_before _ hgv
  obtain ⟨i0, i1, i2, i3, i4, i5, i6, i7, i8⟩ := z_insts
  have h : ∀ k : Nat, ∃ x : ClassId × (Nat → Nat), ∀ q, vwCl[k]? = some q → u_Kn s q.1 q.2.1 q.2.2 x.1 x.2 := by
    intro k
    match k with
    | 0 => obtain ⟨x, y, h⟩ := u_known hb z_ub0 (hb _ i0); exact ⟨(x, y), fun q hq => by cases hq; exact h⟩
    | 1 => obtain ⟨x, y, h⟩ := u_known hb z_ub1 (hb _ i1); exact ⟨(x, y), fun q hq => by cases hq; exact h⟩
    | 2 => obtain ⟨x, y, h⟩ := u_known hb z_ub2 (hb _ i2); exact ⟨(x, y), fun q hq => by cases hq; exact h⟩
    | 3 => obtain ⟨x, y, h⟩ := u_known hb z_ub3 (hb _ i3); exact ⟨(x, y), fun q hq => by cases hq; exact h⟩
    | 4 => obtain ⟨x, y, h⟩ := u_known hb z_ub4 (hb _ i4); exact ⟨(x, y), fun q hq => by cases hq; exact h⟩
    | 5 => obtain ⟨x, y, h⟩ := u_known hb z_ub5 (hb _ i5); exact ⟨(x, y), fun q hq => by cases hq; exact h⟩
    | 6 => obtain ⟨x, y, h⟩ := u_known hb z_ub6 (hb _ i6); exact ⟨(x, y), fun q hq => by cases hq; exact h⟩
    | 7 => obtain ⟨x, y, h⟩ := u_known hb z_ub7 (hb _ i7); exact ⟨(x, y), fun q hq => by cases hq; exact h⟩
    | 8 => obtain ⟨x, y, h⟩ := u_known hb z_ub8 (hb _ i8); exact ⟨(x, y), fun q hq => by cases hq; exact h⟩
    | k + 9 => exact ⟨(0, fun _ => 0), fun q hq => by simp [vwCl] at hq⟩
  obtain ⟨f, hf⟩ := Classical.axiomOfChoice h
  obtain ⟨c1, a1, r1⟩ := z_arrK (hb _ aw_1) (fun C e => by cases e)
  obtain ⟨c2, a2, r2⟩ := z_arrK (hb _ aw_2) (fun C e => by cases e)
  obtain ⟨c3, a3, r3⟩ := z_arrK (hb _ aw_3) (fun C e => by cases e)
  refine ⟨(fun k => (f k).1, fun k => (f k).2), fun t => match t with | 1 => c1 | 2 => c2 | _ => c3, ⟨fun k q hq => hf k q hq, fun k q hq => ?_⟩, fun w hw => ?_, ?_, ?_⟩
  · match k, hq with
    | 0, hq => cases hq; exact ⟨a1, r1⟩
    | 1, hq => cases hq; exact ⟨a2, r2⟩
    | 2, hq => cases hq; exact ⟨a3, r3⟩
    | k + 3, hq => simp [z_tys] at hq
  · have h1 := hts w (List.mem_filter.mp hw).1
    have h2 := z_nst_mv w hw
    cases w with
    | methodLinkNest a i x h => exact va_Nw.of rfl h1
    | castable C T => exact va_Nw.of rfl h1
    | declares x => exact va_Nw.of rfl h1
    | stringRef c i t => exact h1
    | _ => simp [z_mv] at h2
  · have hA : ∀ a : Nat, a < s.heap.size → ¬ s.heap.size ≤ a := fun a h => Nat.not_le.mpr h
    exact ⟨vx_Zqof (hts _ z_zw1) (hts _ z_zw3) (hs _ (by decide +kernel)) hA, vx_Zqof (hts _ z_zw2) (hts _ z_zw3) (hs _ (by decide +kernel)) hA⟩
  · have k1 : va_Nc z_EI z_EA s := va_Nc.of (hs _ (by decide +kernel))
    have k2 : va_Nc z_EI z_ES s := va_Nc.of (hs _ (by decide +kernel))
    have k3 : va_Nc z_EA z_EI s := va_Nc.of (hs _ (by decide +kernel))
    have k4 : va_Nc z_EA z_ES s := va_Nc.of (hs _ (by decide +kernel))
    have k5 : va_Nc z_ES z_EI s := va_Nc.of (hs _ (by decide +kernel))
    have k6 : va_Nc z_ES z_EA s := va_Nc.of (hs _ (by decide +kernel))
    intro a ha b hb hab
    rcases z_mem3 ha with rfl | rfl | rfl <;> rcases z_mem3 hb with rfl | rfl | rfl <;> first | exact absurd rfl hab | assumption
set_option maxHeartbeats 4000000 in
set_option maxRecDepth 100000 in
/-- the law from its entry; OPEN: what is asked of the functions alone -/
theorem z_whole_open {p : Program} {e : Env} {s : State} {m : MethodId} {below : List Frame} {meth : Method} {c : Code} (l : Launch) (hflags : l.flags = flags0) {b L : Nat} {xs : Nat → Int32} (C0 : lw_At p s m meth c b L xs) (T1 : tk_X2_layOut z_hA) (T2 : tk_X8_layCycle z_hB) (T3 : tk_L_law_23 L xs 513 (nI 0) z_hL) (E3 : fn_L_law_23 L xs 513 (nI 0) z_hL = 1) : W p l e room_1 s m #[Value.ref b] below meth c s.heap [] 0 0 (lw_Z below #[Value.ref b] s) (entryFrame m ([Value.ref b] : List Value).toArray 7) := by
  obtain ⟨hx, hb, hr, hml, hown, hts, hX, hbl, hlocks, hgv⟩ := C0
  obtain ⟨D, dA, hK, hN, hZ, hKin⟩ := z_start0 hts hgv
  have hl0 : l.stackTraces = false := by rw [Launch.stackTraces, hflags]; decide +kernel
  have hC : z_Cx p s m #[Value.ref b] c D dA (fun q => s.heap.size ≤ q) s.heap RL code 7 ft_L := ⟨hx, hb, hml, hown, fun w hw => hts w (z_big_in w hw), hK, fun _ h => h, fo_L⟩
  have hR : 40 ≤ room_1.frames ∧ 64 * 40 ≤ room_1.locals := ⟨by decide, by decide⟩
  rw [lg_entry_eq]
  have hle := lv_entry ([.ref b]) (n := 7) (Nat.le_of_ble_eq_true rfl)
  obtain ⟨ad, had⟩ : ∃ ad : Nat → Nat, ad = fun i => if i = 36 then b else 0 := ⟨_, rfl⟩
  have h36 : ad 36 = b := by rw [had]; rfl
  suffices hh : z_Z p l e room_1 s m #[Value.ref b] below meth c D dA (fun q => s.heap.size ≤ q) s.heap 7 ad (lw_Z below #[Value.ref b] s) 0 0 0 [some (.ref 36), none, none, none, none, none, none] [] [] z_h0 by
    refine hh s.heap [] _ (fun k q h => by simp [z_wl] at h) ⟨fun i j p q h => by simp [z_wl] at h, fun k q h => by simp [z_wl] at h⟩ va_S.rf ⟨rfl, ?_⟩
    show lv_has _ 7 [(0, Value.ref (ad 36))]
    rw [h36]
    exact hle
  refine z_newo (fs := [.null, .null, .null, .null, .null, .null]) (ks := [2, 2, 2, 2, 2, 2]) (ci := 7) (N := 6) (M := 0) tyX7 hC rfl tyX7_ok nw_L_8 (fun _ => rfl) (fun j hj => match j, hj with | 0, _ => rfl | 1, _ => rfl | 2, _ => rfl | 3, _ => rfl | 4, _ => rfl | 5, _ => rfl | q + 6, hj => absurd hj (by omega)) ⟨by show _ ≤ 601024; omega, by show _ ≤ 7293034; omega⟩ (by decide +kernel) rfl rfl (fun ad1 ha2 => ?_)
  have hg3 := z_agr_new ((z_agr_rf (lo := 0) (hi := 0) (ad := ad))) ha2 (Nat.le_of_ble_eq_true rfl)
  refine z_go hC (pc' := 4) (ls' := [some (.ref 36), none, none, none, none, none, none]) (st' := [.ref 0, .ref 0]) (h' := z_clr z_h0 0) (cs := []) [.dup] (by decide +kernel) rfl rfl trivial ?_
  refine z_callI (as := []) (rest := [.ref 0]) (sh' := [(0, 7, [4, 7, 11, 13, 16, 17]), (0, 0, [5, 6, 0, 0]), (1, 12, []), (1, 9, []), (0, 2, [4, 8, 9, 10, 0]), (1, 36, []), (1, 36, []), (1, 36, []), (0, 3, [12, 0, 0]), (1, 64, []), (0, 6, [4, 11, 14, 15, 0, 0, 0, 1, 0]), (1, 64, []), (1, 64, []), (0, 5, [7, 11, 13]), (0, 4, [4, 11, 13, 18, 19, 21]), (1, 36, []), (0, 1, [20, 0]), (1, 1024, []), (0, 1, [22, 0]), (1, 1024, [])]) (h' := (fn_X2_layOut  (z_hA)).2) hC hN hR ok_L_72_i (by decide +kernel) (sp_init_0 l T1) (Nat.le_of_ble_eq_true rfl) rfl rfl (Nat.le_of_ble_eq_true rfl) ⟨by show _ ≤ 601024; omega, by show _ ≤ 7293034; omega⟩ rfl (fun ad4 ha5 => ?_)
  have hg6 := z_agr_call (hg3) ha5 (Nat.le_of_ble_eq_true rfl) (Nat.le_of_ble_eq_true rfl)
  refine z_go hC (pc' := 8) (ls' := [some (.ref 36), some (.ref 0), none, none, none, none, none]) (st' := []) (h' := (fn_X2_layOut  (z_hA)).2) (cs := []) [.astore_n 1] (by decide +kernel) rfl rfl trivial ?_
  refine z_newo (fs := [.int 0, .null, .null, .null, .null, .null, .null, .int 0, .int 0, .null, .int 0, .int 0, .int 0, .int 0, .null, .null, .null, .null, .null, .null, .null]) (ks := [0, 2, 2, 2, 2, 2, 2, 0, 0, 2, 0, 0, 0, 0, 2, 2, 2, 2, 2, 2, 2]) (ci := 8) (N := 21) (M := 20) tyX8 hC rfl tyX8_ok nw_L_73 (fun _ => rfl) (fun j hj => match j, hj with | 0, _ => rfl | 1, _ => rfl | 2, _ => rfl | 3, _ => rfl | 4, _ => rfl | 5, _ => rfl | 6, _ => rfl | 7, _ => rfl | 8, _ => rfl | 9, _ => rfl | 10, _ => rfl | 11, _ => rfl | 12, _ => rfl | 13, _ => rfl | 14, _ => rfl | 15, _ => rfl | 16, _ => rfl | 17, _ => rfl | 18, _ => rfl | 19, _ => rfl | 20, _ => rfl | q + 21, hj => absurd hj (by omega)) ⟨by show _ ≤ 601024; omega, by show _ ≤ 7293034; omega⟩ (by decide +kernel) rfl rfl (fun ad7 ha8 => ?_)
  have hg9 := z_agr_new (hg6) ha8 (Nat.le_of_ble_eq_true rfl)
  refine z_go hC (pc' := 12) (ls' := [some (.ref 36), some (.ref 0), none, none, none, none, none]) (st' := [.ref 20, .ref 20]) (h' := z_clr ((fn_X2_layOut  (z_hA)).2) 20) (cs := []) [.dup] (by decide +kernel) rfl rfl trivial ?_
  refine z_callI (as := []) (rest := [.ref 20]) (sh' := [(0, 7, [4, 7, 11, 13, 16, 17]), (0, 0, [5, 6, 0, 0]), (1, 12, []), (1, 9, []), (0, 2, [4, 8, 9, 10, 0]), (1, 36, []), (1, 36, []), (1, 36, []), (0, 3, [12, 0, 0]), (1, 64, []), (0, 6, [4, 11, 14, 15, 0, 0, 0, 1, 0]), (1, 64, []), (1, 64, []), (0, 5, [7, 11, 13]), (0, 4, [4, 11, 13, 18, 19, 21]), (1, 36, []), (0, 1, [20, 0]), (1, 1024, []), (0, 1, [22, 0]), (1, 1024, []), (0, 8, [0, 24, 25, 26, 27, 28, 29, 0, 0, 30, 0, 0, 0, 0, 31, 32, 33, 34, 35, 36, 37]), (3, 9, []), (1, 12, []), (3, 12, []), (1, 9, []), (1, 36, []), (1, 36, []), (1, 40, []), (1, 37, []), (1, 50, []), (1, 8, []), (1, 8, []), (1, 8, []), (1, 8, []), (3, 36, [])]) (h' := (fn_X8_layCycle  (z_hB)).2) hC hN hR ok_L_75_i (by decide +kernel) (sp_init_20 l T2) (Nat.le_of_ble_eq_true rfl) rfl rfl (Nat.le_of_ble_eq_true rfl) ⟨by show _ ≤ 601024; omega, by show _ ≤ 7293034; omega⟩ rfl (fun ad10 ha11 => ?_)
  have hg12 := z_agr_call (hg9) ha11 (Nat.le_of_ble_eq_true rfl) (Nat.le_of_ble_eq_true rfl)
  refine z_go hC (pc' := 17) (ls' := [some (.ref 36), some (.ref 0), some (.ref 20), none, none, none, none]) (st' := [.int (nI 1)]) (h' := (fn_X8_layCycle  (z_hB)).2) (cs := []) [.astore_n 2, .iconst 1] (by decide +kernel) rfl rfl trivial ?_
  refine z_newa (t := 2) (N := 1) (M := 35) (by decide) hC aw_2 rfl (by decide) (Nat.le_of_ble_eq_true rfl) ⟨by show _ ≤ 601024; omega, by show _ ≤ 7293034; omega⟩ (by decide +kernel) rfl rfl (fun ad13 ha14 => ?_)
  have hg15 := z_agr_new (hg12) ha14 (Nat.le_of_ble_eq_true rfl)
  refine z_go hC (pc' := 23) (ls' := [some (.ref 36), some (.ref 0), some (.ref 20), some (.ref 35), some (.int (nI 0)), none, none]) (st' := []) (h' := z_clr ((fn_X8_layCycle  (z_hB)).2) 35) (cs := []) [.astore_n 3, .iconst 0, .istore 4] (by decide +kernel) rfl rfl trivial ?_
  have had2 := hg15 36 (Or.inr (Nat.le_refl _))
  exact sp_L_law hC hN hZ hKin hl0 hr hlocks hX hbl (had2.trans h36) 513 _ _ (by omega) (by omega) (nI 0) z_hL T3 E3
