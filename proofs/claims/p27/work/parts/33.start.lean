/-! ===== the law from its entry ===== -/
theorem z_arrK {args : Array Value} {s : State} {ty : FieldType} (h : (Cond.arrayClass ty).before args s = true) (hp : ∀ C, ty ≠ .object C) : ∃ cA : ClassId, ArrOfT s cA ty ∧ va_RA s cA ty := by
  obtain ⟨c, k, comp, h1, h2, h3⟩ := Cond.arrayClass_spec (first := s) (o := none) (idx := []) h
  refine ⟨c, fun n z => ⟨fun k h => (by cases h), k, h2, comp, h3⟩, ?_⟩
  cases ty with
  | object C => exact absurd rfl (hp C)
  | _ => exact h1
abbrev z_hL : z_H := z_sw ((fn_X2_layOut  (z_sw (z_hB))).2)
theorem z_insts : Cond.instantiable RX0 4 ∈ z_big ∧ Cond.instantiable RX1 2 ∈ z_big ∧ Cond.instantiable RX2 5 ∈ z_big ∧ Cond.instantiable RX3 3 ∈ z_big ∧ Cond.instantiable RX4 6 ∈ z_big ∧ Cond.instantiable RX5 3 ∈ z_big ∧ Cond.instantiable RX6 9 ∈ z_big ∧ Cond.instantiable RX7 6 ∈ z_big := ⟨z_bigT 26 (by decide +kernel) rfl, z_bigT 140 (by decide +kernel) rfl, z_bigT 46 (by decide +kernel) rfl, z_bigT 68 (by decide +kernel) rfl, z_bigT 134 (by decide +kernel) rfl, z_bigT 118 (by decide +kernel) rfl, z_bigT 84 (by decide +kernel) rfl, z_bigT 18 (by decide +kernel) rfl⟩
theorem z_zw1 : Cond.laysStatic Bundle.tN "UNASSIGNED_STACK" Bundle.steD ∈ lw_tbl := List.mem_append_right _ (List.mem_of_getElem? (i := 356) (by decide +kernel))
theorem z_zw2 : Cond.laysStatic Bundle.tN "SUPPRESSED_SENTINEL" Bundle.listD ∈ lw_tbl := List.mem_append_right _ (List.mem_of_getElem? (i := 358) (by decide +kernel))
theorem z_zw3 : Cond.initialized Bundle.tN ∈ lw_tbl := List.mem_append_right _ (List.mem_of_getElem? (i := 10) (by decide +kernel))
set_option maxHeartbeats 4000000 in
set_option maxRecDepth 100000 in
/-- what the law's body stands on, out of its start -/
theorem z_start0 {s : State} {b : Addr} (hts : ∀ w ∈ lw_tbl, w.before #[Value.ref b] s = true) (hgv : (Jvm.Cond.and given_1 narrow_1).before #[Value.ref b] s = true) : ∃ (D : va_G) (dA : Nat → ClassId), va_K D vwCl (z_tys dA) s ∧ z_Nt s ∧ z_Zz (fun q => s.heap.size ≤ q) s ∧ z_Kin s := by
  have hb : ∀ w ∈ z_big, w.before #[Value.ref b] s = true := fun w hw => hts w (z_big_in w hw)
  have hs := flat_of_before _ hgv
  obtain ⟨i0, i1, i2, i3, i4, i5, i6, i7⟩ := z_insts
  have h : ∀ k : Nat, ∃ x : ClassId × (Nat → Nat), ∀ q, vwCl[k]? = some q → u_Kn s q.1 q.2.1 q.2.2 x.1 x.2 := by
    intro k
    match k with
    | 0 => obtain ⟨x, y, h⟩ := u_known hb z_ub0 (hb _ i0); exact ⟨(x, y), fun q hq => by cases hq; exact h⟩
    | 1 => obtain ⟨x, y, h⟩ := u_known hb z_ub1 (hb _ i1); exact ⟨(x, y), fun q hq => by cases hq; exact h⟩
    | 2 => obtain ⟨x, y, h⟩ := u_known hb z_ub2 (hb _ i2); exact ⟨(x, y), fun q hq => by cases hq; exact h⟩
    | 3 => obtain ⟨x, y, h⟩ := u_known hb z_ub3 (hb _ i3); exact ⟨(x, y), fun q hq => by cases hq; exact h⟩
    | 4 => obtain ⟨x, y, h⟩ := u_known hb z_ub4 (hb _ i4); exact ⟨(x, y), fun q hq => by cases hq; exact h⟩
    | 5 => obtain ⟨x, y, h⟩ := u_known hb z_ub5 (hb _ i5); exact ⟨(x, y), fun q hq => by cases hq; exact h⟩
    | 6 => obtain ⟨x, y, h⟩ := u_known hb z_ub6 (hb _ i6); exact ⟨(x, y), fun q hq => by cases hq; exact h⟩
    | 7 => obtain ⟨x, y, h⟩ := u_known hb z_ub7 (hb _ i7); exact ⟨(x, y), fun q hq => by cases hq; exact h⟩
    | k + 8 => exact ⟨(0, fun _ => 0), fun q hq => by simp [vwCl] at hq⟩
  obtain ⟨f, hf⟩ := Classical.axiomOfChoice h
  obtain ⟨c1, a1, r1⟩ := z_arrK (hb _ aw_1) (fun C e => by cases e)
  refine ⟨(fun k => (f k).1, fun k => (f k).2), fun _ => c1, ⟨fun k q hq => hf k q hq, fun k q hq => ?_⟩, fun w hw => ?_, ?_, ?_⟩
  · match k, hq with
    | 0, hq => cases hq; exact ⟨a1, r1⟩
    | k + 1, hq => simp [z_tys] at hq
  · have h1 := hts w (List.mem_filter.mp hw).1
    have h2 := z_nst_mv w hw
    cases w with
    | methodLinkNest a i x h => exact va_Nw.of rfl h1
    | castable C T => exact va_Nw.of rfl h1
    | declares x => exact va_Nw.of rfl h1
    | stringRef c i t => exact h1
    | _ => simp [z_mv] at h2
  · have hA : ∀ a : Nat, a < s.heap.size → ¬ s.heap.size ≤ a := fun a h => Nat.not_le.mpr h
    exact ⟨vx_Zqof (hts _ z_zw1) (hts _ z_zw3) (hs _ (by decide +kernel)) hA, vx_Zqof (hts _ z_zw2) (hts _ z_zw3) (hs _ (by decide +kernel)) hA⟩
  · have k1 : va_Nc z_EI z_EA s := va_Nc.of (hs _ (by decide +kernel))
    have k2 : va_Nc z_EI z_ES s := va_Nc.of (hs _ (by decide +kernel))
    have k3 : va_Nc z_EA z_EI s := va_Nc.of (hs _ (by decide +kernel))
    have k4 : va_Nc z_EA z_ES s := va_Nc.of (hs _ (by decide +kernel))
    have k5 : va_Nc z_ES z_EI s := va_Nc.of (hs _ (by decide +kernel))
    have k6 : va_Nc z_ES z_EA s := va_Nc.of (hs _ (by decide +kernel))
    intro a ha b hb hab
    rcases z_mem3 ha with rfl | rfl | rfl <;> rcases z_mem3 hb with rfl | rfl | rfl <;> first | exact absurd rfl hab | assumption
set_option maxHeartbeats 4000000 in
set_option maxRecDepth 100000 in
/-- the law from its entry; OPEN: what is asked of the functions alone -/
theorem z_whole_open {p : Program} {e : Env} {s : State} {m : MethodId} {below : List Frame} {meth : Method} {c : Code} (l : Launch) (hflags : l.flags = flags0) {b L : Nat} {xs : Nat → Int32} (hL : L < 2 ^ 31) (C0 : lw_At p s m meth c b L xs) (T1 : tk_X2_layOut  (z_hA)) (T2 : tk_X2_layOut  (z_sw (z_hB))) (T3 : tk_L_law_18 L xs 100 (nI 0) z_hL) (E3 : fn_L_law_18 L xs 100 (nI 0) z_hL = 1) : W p l e room_1 s m #[Value.ref b] below meth c s.heap [] 0 0 (lw_Z below #[Value.ref b] s) (entryFrame m ([Value.ref b] : List Value).toArray 8) := by
  obtain ⟨hx, hb, hr, hml, hown, hts, hX, hbl, hlocks, hgv⟩ := C0
  obtain ⟨D, dA, hK, hN, hZ, hKin⟩ := z_start0 hts hgv
  have hl0 : l.stackTraces = false := by rw [Launch.stackTraces, hflags]; decide +kernel
  have hC : z_Cx p s m #[Value.ref b] c D dA (fun q => s.heap.size ≤ q) s.heap RL code 8 ft_L := ⟨hx, hb, hml, hown, fun w hw => hts w (z_big_in w hw), hK, fun _ h => h, fo_L⟩
  have hR : 60 ≤ room_1.frames ∧ 64 * 60 ≤ room_1.locals := ⟨by decide, by decide⟩
  rw [lg_entry_eq]
  have hle := lv_entry ([.ref b]) (n := 8) (Nat.le_of_ble_eq_true rfl)
  obtain ⟨ad, had⟩ : ∃ ad : Nat → Nat, ad = fun i => if i = 40 then b else 0 := ⟨_, rfl⟩
  have h40 : ad 40 = b := by rw [had]; rfl
  suffices hh : z_Z p l e room_1 s m #[Value.ref b] below meth c D dA (fun q => s.heap.size ≤ q) s.heap 8 ad (lw_Z below #[Value.ref b] s) 0 0 0 [some (.ref 40), none, none, none, none, none, none, none] [] [] z_h0 by
    refine hh s.heap [] _ (fun k q h => by simp [z_wl] at h) ⟨fun i j p q h => by simp [z_wl] at h, fun k q h => by simp [z_wl] at h⟩ va_S.rf ⟨rfl, ?_⟩
    show lv_has _ 8 [(0, Value.ref (ad 40))]
    rw [h40]
    exact hle
  refine z_newo (fs := [.null, .null, .null, .null, .null, .null]) (ks := [2, 2, 2, 2, 2, 2]) (ci := 7) (N := 6) (M := 0) tyX7 hC rfl tyX7_ok nw_L_9 (fun _ => rfl) (fun j hj => match j, hj with | 0, _ => rfl | 1, _ => rfl | 2, _ => rfl | 3, _ => rfl | 4, _ => rfl | 5, _ => rfl | q + 6, hj => absurd hj (by omega)) ⟨by show _ ≤ 600172; omega, by show _ ≤ 7300668; omega⟩ (by decide +kernel) rfl rfl (fun ad1 ha2 => ?_)
  have hg3 := z_agr_new ((z_agr_rf (lo := 0) (hi := 0) (ad := ad))) ha2 (Nat.le_of_ble_eq_true rfl)
  refine z_go hC (pc' := 4) (ls' := [some (.ref 40), none, none, none, none, none, none, none]) (st' := [.ref 0, .ref 0]) (h' := z_clr z_h0 0) (cs := []) [.dup] (by decide +kernel) rfl rfl trivial ?_
  refine z_callI (as := []) (rest := [.ref 0]) (sh' := [(0, 7, [4, 7, 11, 13, 16, 17]), (0, 0, [5, 6, 0, 0]), (1, 12, []), (1, 9, []), (0, 2, [4, 8, 9, 10, 0]), (1, 36, []), (1, 36, []), (1, 36, []), (0, 3, [12, 0, 0]), (1, 64, []), (0, 6, [4, 11, 14, 15, 0, 0, 0, 1, 0]), (1, 64, []), (1, 64, []), (0, 5, [7, 11, 13]), (0, 4, [4, 11, 13, 18, 19, 21]), (1, 36, []), (0, 1, [20, 0]), (1, 1024, []), (0, 1, [22, 0]), (1, 1024, [])]) (h' := z_h1) hC hN hR ok_L_125_i (by decide +kernel) (sp_init_0 l T1) (Nat.le_of_ble_eq_true rfl) rfl rfl (Nat.le_of_ble_eq_true rfl) ⟨by show _ ≤ 600172; omega, by show _ ≤ 7300668; omega⟩ rfl (fun ad4 ha5 => ?_)
  have hg6 := z_agr_call (hg3) ha5 (Nat.le_of_ble_eq_true rfl) (Nat.le_of_ble_eq_true rfl)
  refine z_go hC (pc' := 8) (ls' := [some (.ref 40), some (.ref 0), none, none, none, none, none, none]) (st' := []) (h' := z_h1) (cs := []) [.astore_n 1] (by decide +kernel) rfl rfl trivial ?_
  refine z_newo (fs := [.null, .null, .null, .null, .null, .null]) (ks := [2, 2, 2, 2, 2, 2]) (ci := 7) (N := 6) (M := 20) tyX7 hC rfl tyX7_ok nw_L_9 (fun _ => rfl) (fun j hj => match j, hj with | 0, _ => rfl | 1, _ => rfl | 2, _ => rfl | 3, _ => rfl | 4, _ => rfl | 5, _ => rfl | q + 6, hj => absurd hj (by omega)) ⟨by show _ ≤ 600172; omega, by show _ ≤ 7300668; omega⟩ (by decide +kernel) rfl rfl (fun ad7 ha8 => ?_)
  have hg9 := z_agr_new (hg6) ha8 (Nat.le_of_ble_eq_true rfl)
  refine z_go hC (pc' := 12) (ls' := [some (.ref 40), some (.ref 0), none, none, none, none, none, none]) (st' := [.ref 20, .ref 20]) (h' := z_clr (z_h1) 20) (cs := []) [.dup] (by decide +kernel) rfl rfl trivial ?_
  refine z_callI (as := []) (rest := [.ref 20]) (sh' := [(0, 7, [4, 7, 11, 13, 16, 17]), (0, 0, [5, 6, 0, 0]), (1, 12, []), (1, 9, []), (0, 2, [4, 8, 9, 10, 0]), (1, 36, []), (1, 36, []), (1, 36, []), (0, 3, [12, 0, 0]), (1, 64, []), (0, 6, [4, 11, 14, 15, 0, 0, 0, 1, 0]), (1, 64, []), (1, 64, []), (0, 5, [7, 11, 13]), (0, 4, [4, 11, 13, 18, 19, 21]), (1, 36, []), (0, 1, [20, 0]), (1, 1024, []), (0, 1, [22, 0]), (1, 1024, []), (0, 7, [24, 27, 31, 33, 36, 37]), (0, 0, [25, 26, 0, 0]), (1, 12, []), (1, 9, []), (0, 2, [24, 28, 29, 30, 0]), (1, 36, []), (1, 36, []), (1, 36, []), (0, 3, [32, 0, 0]), (1, 64, []), (0, 6, [24, 31, 34, 35, 0, 0, 0, 1, 0]), (1, 64, []), (1, 64, []), (0, 5, [27, 31, 33]), (0, 4, [24, 31, 33, 38, 39, 41]), (1, 36, []), (0, 1, [40, 0]), (1, 1024, []), (0, 1, [42, 0]), (1, 1024, [])]) (h' := z_sw ((fn_X2_layOut  (z_sw (z_hB))).2)) hC hN hR ok_L_125_i (by decide +kernel) (sp_init_20 l T2) (Nat.le_of_ble_eq_true rfl) rfl rfl (Nat.le_of_ble_eq_true rfl) ⟨by show _ ≤ 600172; omega, by show _ ≤ 7300668; omega⟩ rfl (fun ad10 ha11 => ?_)
  have hg12 := z_agr_call (hg9) ha11 (Nat.le_of_ble_eq_true rfl) (Nat.le_of_ble_eq_true rfl)
  refine z_go hC (pc' := 18) (ls' := [some (.ref 40), some (.ref 0), some (.ref 20), some (.int (nI 0)), none, none, none, none]) (st' := []) (h' := z_sw ((fn_X2_layOut  (z_sw (z_hB))).2)) (cs := []) [.astore_n 2, .iconst 0, .istore_n 3] (by decide +kernel) rfl rfl trivial ?_
  have had2 := hg12 40 (Or.inr (Nat.le_refl _))
  exact sp_L_law hC hN hZ hKin hl0 hr hlocks hX hbl (had2.trans h40) hL 100 _ _ (by omega) (by omega) (nI 0) z_hL T3 E3
