/-! THE CLAIM OUT OF ONE WALK OF THE LAW'S BODY. Your part is whole_start (and what it stands on); all else here is the same for every law, but numbers. -/
def R_law : String := "CoilwormLaw"
def lw_P (b : Addr) (xs : List Int32) (args : Array Value) (s : State) : Prop := args = #[.ref b] ∧ s.IntsAt b xs ∧ xs.length ≤ 260 ∧ (Jvm.Cond.and given_1 narrow_1).before args s = true
def lw_Q (_ : Array Value) (s : State) (o : Outcome) (t : State) : Prop := o = .returned (some (.int 1)) ∧ Framed s o t [] 600172 7300668
def lw_Z (below : List Frame) (a : Array Value) (s : State) : State → Prop := fun t => ∃ o, t.status = .running ∧ Ended t below o ∧ lw_Q a s o t
/-- the law's own end, with 1 on the stack, nothing written that was there before, its room as the claim has it -/
theorem lw_ret {p : Program} {l : Launch} {e : Env} {s : State} {m : MethodId} {below : List Frame} {meth : Method} {c : Code} {b : Nat} (hx : p.tables.exec = Jvm.exec) (hb : c.code = code) (hr : meth.sig.returnType = ret) (hlocks : meth.locks = false) {pc : Nat} {H : Heap} {ls : Array Slot} (hdg : decode code pc = .ok (.ireturn, 1)) : W p l e room_1 s m #[Value.ref b] below meth c H [] 600172 7300668 (lw_Z below #[Value.ref b] s) (F0 m pc ls [.int 1]) := by
  intro T hT X
  obtain ⟨fs, hret, hrun, hended, hW, hframe⟩ := X.leave (v := some (.int 1)) (hlocks := hlocks) (fun h => by rw [hr] at h; cases h)
  have hmeth' : T.vm.method? m = some meth := X.method'
  refine ⟨T.setFrames fs, ?_, .returned (some (.int 1)), hrun, hended, rfl, ⟨_, rfl⟩, hW, hframe⟩
  jvm_step X.here [X.here.top, hx, hb, hdg, hmeth', hr, ret, narrow_b1]
  (try refine ⟨rfl, ?_⟩); (try refine ⟨rfl, ?_⟩)
  first | (intro acts; rw [hret _ acts rfl rfl rfl]) | rw [hret _ _ rfl rfl rfl]
  exact Steps.refl _
/-- what holds at the law's entry: the machine, the code, the tables' words (any of lw_tbl by 'hts w (by decide +kernel)'), the script of L ints xs at the cell b, what the Statement gives of the start (any of its parts by flat_of_before) -/
def lw_At (p : Program) (s : State) (m : MethodId) (meth : Method) (c : Code) (b L : Nat) (xs : Nat → Int32) : Prop :=
  p.tables.exec = Jvm.exec ∧ c.code = code ∧ meth.sig.returnType = ret ∧ c.maxLocals = 8 ∧ s.vm.findClass R_law = some m.cls ∧ (∀ w ∈ lw_tbl, w.before #[Value.ref b] s = true) ∧ va_X b L xs s s.heap ∧ b < s.heap.size ∧ meth.locks = false ∧ (Jvm.Cond.and given_1 narrow_1).before #[Value.ref b] s = true
/-! ===== rows of the law's body ===== -/
section ZL
variable {p : Program} {l : Launch} {e : Env} {R : Room} {s : State} {m : MethodId} {args : Array Value} {below : List Frame} {meth : Method} {c : Code} {D : va_G} {dA : Nat → ClassId} {A : Nat → Prop} {H0 : Heap} {nL : Nat} {ad : Nat → Nat} {Q : State → Prop} {own : String} {cc : ByteArray} {fl : z_Fl}
theorem z_widen {k n k' n' pc : Nat} {ls : List (Option Value)} {st : List Value} {sh : z_Sh} {h : z_H} (h1 : k ≤ k') (h2 : n ≤ n') (kk : z_Z p l e R s m args below meth c D dA A H0 nL ad Q k' n' pc ls st sh h) : z_Z p l e R s m args below meth c D dA A H0 nL ad Q k n pc ls st sh h := fun H locs la hP hD hS hl => W.widen h1 h2 (kk H locs la hP hD hS hl)
theorem z_sld {k n pc o b L : Nat} {xs : Nat → Int32} {i : Int32} {ls : List (Option Value)} {st : List Value} {sh : z_Sh} {h : z_H} (hC : z_Cx p s m args c D dA A H0 own cc nL fl) (hX : va_X b L xs s H0) (hbl : b < H0.size) (hbA : ¬ A b) (had : ad o = b) (hd : decode cc pc = .ok (.iaload, 1)) (hin : vp_in i L) (kk : z_Z p l e R s m args below meth c D dA A H0 nL ad Q k n (pc + 1) ls (.int (xs i.toNatClampNeg) :: st) sh h) : z_Z p l e R s m args below meth c D dA A H0 nL ad Q k n pc ls (.int i :: .ref o :: st) sh h := by
  subst had
  exact fun H locs la hP hD hS hl => va_sld hC.1 hC.2.1 hX hbl hbA hS hin hd (kk H locs la hP hD hS hl)
theorem z_sle {k n pc o b L : Nat} {xs : Nat → Int32} {ls : List (Option Value)} {st : List Value} {sh : z_Sh} {h : z_H} (hC : z_Cx p s m args c D dA A H0 own cc nL fl) (hX : va_X b L xs s H0) (hbl : b < H0.size) (hbA : ¬ A b) (had : ad o = b) (hd : decode cc pc = .ok (.arraylength, 1)) (kk : z_Z p l e R s m args below meth c D dA A H0 nL ad Q k n (pc + 1) ls (.int (nI L) :: st) sh h) : z_Z p l e R s m args below meth c D dA A H0 nL ad Q k n pc ls (.ref o :: st) sh h := by
  subst had
  exact fun H locs la hP hD hS hl => va_slen hC.1 hC.2.1 hX hbl hbA hS hd (kk H locs la hP hD hS hl)
end ZL
theorem z_tabN {x : Int32} {n : Nat} (h : ∀ a, a < n + 1 → ¬ x = nI a) (hn : n < 2 ^ 30 := by decide) : x.toInt < 0 ∨ (n : Int) < x.toInt := by
  by_cases h0 : x.toInt < 0
  · exact Or.inl h0
  · refine Or.inr ?_
    by_cases h1 : (n : Int) < x.toInt
    · exact h1
    · exfalso
      refine h x.toInt.toNat (by omega) ?_
      rw [← Int32.toInt_inj, nI_toInt (by omega)]
      omega
theorem z_lawret {p : Program} {l : Launch} {e : Env} {s : State} {m : MethodId} {below : List Frame} {meth : Method} {c : Code} {D : va_G} {dA : Nat → ClassId} {ad : Nat → Nat} {b pc nL : Nat} {own : String} {fl : z_Fl} {ls : List (Option Value)} {sh : z_Sh} {h : z_H} (hC : z_Cx p s m #[Value.ref b] c D dA (fun q => s.heap.size ≤ q) s.heap own code nL fl) (hret : meth.sig.returnType = ret) (hlk : meth.locks = false) (hd : decode code pc = .ok (.ireturn, 1)) : z_Z p l e room_1 s m #[Value.ref b] below meth c D dA (fun q => s.heap.size ≤ q) s.heap nL ad (lw_Z below #[Value.ref b] s) 600172 7300668 pc ls [.int (nI 1)] sh h :=
  fun _ _ _ _ _ hS _ => va_forget hS.2.2 (lw_ret hC.1 hC.2.1 hret hlk hd)
theorem z_lawretv {p : Program} {l : Launch} {e : Env} {s : State} {m : MethodId} {below : List Frame} {meth : Method} {c : Code} {D : va_G} {dA : Nat → ClassId} {ad : Nat → Nat} {b pc nL : Nat} {own : String} {fl : z_Fl} {ls : List (Option Value)} {sh : z_Sh} {h : z_H} {v : Int32} (hC : z_Cx p s m #[Value.ref b] c D dA (fun q => s.heap.size ≤ q) s.heap own code nL fl) (hret : meth.sig.returnType = ret) (hlk : meth.locks = false) (hd : decode code pc = .ok (.ireturn, 1)) (hv : v = 1) : z_Z p l e room_1 s m #[Value.ref b] below meth c D dA (fun q => s.heap.size ≤ q) s.heap nL ad (lw_Z below #[Value.ref b] s) 600172 7300668 pc ls [.int v] sh h := by
  subst hv
  exact z_lawret hC hret hlk hd
/-! the script's cell, or what stands for it -/
def p_cell (L : Nat) (xs : Nat → Int32) (i : Int32) : Int32 := if nI L ≤ i then (nI 7919 * (i + nI 1373)) * (i + nI 509) else xs i.toNatClampNeg
def z_Pcs (D : va_G) (dA : Nat → ClassId) (ad : Nat → Nat) (sz : Nat) (as : List Value) (sh : z_Sh) (h : z_H) (o L : Nat) (xs : Nat → Int32) : Array Value → State → Prop := fun v U => z_Pc D dA ad sz as sh h v U ∧ va_X (ad o) L xs U U.heap ∧ ad o < U.heap.size ∧ ∀ i, i < sh.length → ad i ≠ ad o
theorem z_Pcs_blind {D : va_G} {dA : Nat → ClassId} {ad : Nat → Nat} {sz : Nat} {as : List Value} {sh : z_Sh} {h : z_H} {o L : Nat} {xs : Nat → Int32} : FrameBlind (z_Pcs D dA ad sz as sh h o L xs) := fun a U g mk q =>
  ⟨z_Pc_blind a U g mk q.1, va_X.moved (u := U) (U := U.calling g mk a) (Vm.Alike.refl U.vm) q.2.1, q.2.2.1, q.2.2.2⟩
set_option maxHeartbeats 4000000 in
set_option maxRecDepth 100000 in
theorem sp_L_cell (l : Launch) (sh : z_Sh) (h : z_H) (o L : Nat) (xs : Nat → Int32) (i : Int32) (hL : L < 2 ^ 31) (hi : ¬ i < 0) (D : va_G) (dA : Nat → ClassId) (ad : Nat → Nat) (sz : Nat) : Met l yL_cell (.code yL_cell cL_cell 2 (some .int) :: z_big) { frames := 0, cells := 0, slots := 0, locals := 64 * 0 } (z_Pcs D dA ad sz [.ref o, .int i] sh h o L xs) (z_Q D dA ad sz sh (fun rv h' => rv = some (.int (p_cell L xs i)) ∧ h' = h)) 0 0 (z_A ad sh.length sz) := by
  refine va_MetF (cc := cL_cell) (maxL := 2) (ret := some .int) (by decide +kernel) rfl ?_
  intro p e s m args below meth c s₁ B hml hv
  obtain ⟨⟨rfl, hsz, hP, hK, hD0, hN⟩, hX, hbl, hne⟩ := hv
  subst hsz
  have hts := atoms_spec (ws := .code yL_cell cL_cell 2 (some .int) :: z_big) B.pre
  have hown : s.vm.findClass yL_cell.cls = some m.cls := findClass_of_methodNamed B.named
  rw [lg_entry_eq]
  have hl := lv_entry (([.ref o, .int i] : List Value).map (z_con ad)) (n := 2) (Nat.le_of_ble_eq_true rfl)
  have hbA : ¬ z_A ad sh.length s.heap.size (ad o) := by
    rintro (⟨j, hj, e⟩ | e)
    · exact hne j hj e.symm
    · omega
  have hC : z_Cx p s m _ c D dA (z_A ad sh.length s.heap.size) s.heap RL cL_cell 2 ft_L := ⟨B.exec, B.bytes, hml, hown, fun w hw => hts w (List.mem_cons_of_mem _ hw), hK, fun q hq => Or.inr hq, fo_L⟩
  have hB : z_B p (headSpec (.code yL_cell cL_cell 2 (some .int) :: z_big) { frames := 0, cells := 0, slots := 0, locals := 64 * 0 }).room s m _ meth c D dA (z_A ad sh.length s.heap.size) RL cL_cell 2 ft_L 0 (some .int) := ⟨hC, hN, ⟨Nat.le_refl _, Nat.le_refl _⟩, B.returns, B.notSynchronized⟩
  suffices hh : z_Z p l e (headSpec (.code yL_cell cL_cell 2 (some .int) :: z_big) { frames := 0, cells := 0, slots := 0, locals := 64 * 0 }).room s m ((([.ref o, .int i] : List Value).map (z_con ad)).toArray) below meth c D dA (z_A ad sh.length s.heap.size) s.heap 2 ad (MQ below (z_Q D dA ad s.heap.size sh (fun rv h' => rv = some (.int (p_cell L xs i)) ∧ h' = h)) ((([.ref o, .int i] : List Value).map (z_con ad)).toArray) s 0 0 (z_A ad sh.length s.heap.size)) 0 0 0 [some (.ref o), some (.int i)] [] sh h from
    hh s.heap [] _ hP (z_D_self hD0) va_S.rf ⟨rfl, hl⟩
  refine z_go hC (pc' := 2) (ls' := [some (.ref o), some (.int i)]) (st' := [.ref o, .int i]) (h' := h) (cs := []) [.iload_n 1, .aload_n 0] (by decide +kernel) rfl rfl trivial ?_
  refine z_sle hC hX hbl hbA rfl (by decide +kernel) ?_
  refine z_icmp_ge hC (off := 9) 12 (by decide +kernel) (by decide) (fun c1 => ?_) (fun c1 => ?_)
  · refine z_go hC (pc' := 27) (ls' := [some (.ref o), some (.int i)]) (st' := [.int ((nI 7919 * (i + nI 1373)) * (i + nI 509))]) (h' := h) (cs := [(Int16.ofInt (Int.ofNat 7919)).toInt32 = nI 7919, (Int16.ofInt (Int.ofNat 1373)).toInt32 = nI 1373, (Int16.ofInt (Int.ofNat 509)).toInt32 = nI 509]) [.sipush 7919, .iload_n 1, .sipush 1373, .iadd, .imul, .iload_n 1, .sipush 509, .iadd, .imul] (by decide +kernel) rfl rfl ⟨by decide, by decide, show (Int16.ofInt (Int.ofNat 509)).toInt32 = nI 509 from by decide⟩ ?_
    exact z_ret_i hB rfl (by decide +kernel) ⟨by rw [p_cell, if_pos c1], rfl⟩
  · refine z_go hC (pc' := 8) (ls' := [some (.ref o), some (.int i)]) (st' := [.int i, .ref o]) (h' := h) (cs := []) [.aload_n 0, .iload_n 1] (by decide +kernel) rfl rfl trivial ?_
    refine z_sld hC hX hbl hbA rfl (by decide +kernel) (z_inI hi c1 hL) ?_
    refine z_goto hC (off := 18) 27 (by decide +kernel) (by decide) ?_
    exact z_ret_i hB rfl (by decide +kernel) ⟨by rw [p_cell, if_neg c1], rfl⟩
set_option maxHeartbeats 1000000 in
theorem z_callcell {p : Program} {l : Launch} {e : Env} {R : Room} {s : State} {m : MethodId} {args : Array Value} {below : List Frame} {meth : Method} {c : Code} {D : va_G} {dA : Nat → ClassId} {A : Nat → Prop} {nL : Nat} {ad : Nat → Nat} {Q : State → Prop} {own : String} {cc : ByteArray} {fl : z_Fl} {k n pc idx d o b L : Nat} {xs : Nat → Int32} {i : Int32} {ls : List (Option Value)} {rest : List Value} {sh : z_Sh} {h : z_H} (hC : z_Cx p s m args c D dA A s.heap own cc nL fl) (hN : z_Nt s) (hR : d ≤ R.frames ∧ 64 * d ≤ R.locals) (ok : z_okS own idx yL_cell cL_cell 2 (some .int) 2) (hdg : decode cc pc = .ok (.invokestatic idx, 3)) (hX : va_X b L xs s s.heap) (hbl : b < s.heap.size) (hbA : ¬ A b) (had : ad o = b) (hL : L < 2 ^ 31) (hi : ¬ i < 0) (hd : 0 + 1 ≤ d) (hW : (rest.map fun v => v.category).sum ≤ 8) (hk : k ≤ R.cells ∧ n ≤ R.slots)
    (kk : z_Z p l e R s m args below meth c D dA A s.heap nL ad Q k n (pc + 3) ls (.int (p_cell L xs i) :: rest) sh h) : z_Z p l e R s m args below meth c D dA A s.heap nL ad Q k n pc ls (.int i :: .ref o :: rest) sh h := by
  subst had
  intro H locs la hP hD hS hl
  have hC' := hC
  obtain ⟨hx, hb, hml, hown, hts, hK, hA, hfl⟩ := hC
  obtain ⟨⟨o1, o2⟩, o3, o4, o5, o6⟩ := ok
  have run := va_runS (e := e) (s := s) (R := R) (below := below) (meth := meth) (H := H) (locs := locs) (cells := k) (slots := n) (rest := rest.map (z_con ad)) (As := ([.ref o, .int i] : List Value).map (z_con ad)) (g := F0 m pc la ((([.ref o, .int i] : List Value).reverse ++ rest).map (z_con ad))) ⟨hx, hb, hml, hown, hts⟩ (sp_L_cell l sh h o L xs i hL hi D dA ad H.size) ⟨callB_of 2 hts (z_good o4) rfl rfl rfl (hts _ o3) (hts _ o1) o5 (z_rooms hR hd o6), hts _ o2⟩ ⟨z_Pcs_blind, fun U hU hW => ⟨⟨rfl, by rw [hU], by rw [hU]; exact hP, va_K.moved hW.alike hK, hD.weaken (fun _ _ _ _ => trivial), z_Nt_warm hW hN⟩, by rw [hU]; exact (va_X.kept hX (hS.2.1 _ hbl hbA)).moved hW.alike, by rw [hU]; exact Nat.lt_of_lt_of_le hbl hS.1, fun j hj e => hbA (by rw [← e]; exact z_D_in hD hj)⟩⟩ rfl rfl hl.2.1 (by simp) (lv_room (by rw [z_cats]; exact hW)) hdg ⟨hk.1, hk.2⟩
  exact z_after run hA hD hS hl (fun rv h' q => by rw [q.1, q.2]; exact kk)
