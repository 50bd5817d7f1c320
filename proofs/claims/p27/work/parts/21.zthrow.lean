/-! ===== methods that throw: contracts, throws, calls, handlers ===== -/
abbrev z_EI : String := "java/lang/IndexOutOfBoundsException"
abbrev z_EA : String := "java/lang/IllegalArgumentException"
abbrev z_ES : String := "java/lang/IllegalStateException"
def z_exs : List String := [z_EI, z_EA, z_ES]
def z_Kin (U : State) : Prop := ∀ a ∈ z_exs, ∀ b ∈ z_exs, a ≠ b → va_Nc a b U
def z_Zz (A : Nat → Prop) (U : State) : Prop := vx_Zq Bundle.tN "UNASSIGNED_STACK" Bundle.steD A U U.heap ∧ vx_Zq Bundle.tN "SUPPRESSED_SENTINEL" Bundle.listD A U U.heap
theorem z_Kin_moved {u U : State} (hvm : u.vm.Alike U.vm) (h : z_Kin u) : z_Kin U := fun a ha b hb hab => va_Nc.moved hvm (h a ha b hb hab)
def z_Pcx (D : va_G) (dA : Nat → ClassId) (ad : Nat → Nat) (sz : Nat) (as : List Value) (sh : z_Sh) (h : z_H) : Array Value → State → Prop := fun v U => z_Pc D dA ad sz as sh h v U ∧ z_Zz (z_A ad sh.length sz) U ∧ z_Kin U
theorem z_Pcx_blind {D : va_G} {dA : Nat → ClassId} {ad : Nat → Nat} {sz : Nat} {as : List Value} {sh : z_Sh} {h : z_H} : FrameBlind (z_Pcx D dA ad sz as sh h) := fun a U g mk q =>
  ⟨z_Pc_blind a U g mk q.1, ⟨vx_Zq.moved (u := U) (U := U.calling g mk a) (Vm.Alike.refl U.vm) q.2.1.1, vx_Zq.moved (u := U) (U := U.calling g mk a) (Vm.Alike.refl U.vm) q.2.1.2⟩, z_Kin_moved (u := U) (U := U.calling g mk a) (Vm.Alike.refl U.vm) q.2.2⟩
def z_XC (D : va_G) (dA : Nat → ClassId) (ad : Nat → Nat) (sz : Nat) (sh : z_Sh) (h : z_H) (ΦX : String → Prop) : String → State → State → Prop := fun E st t => ΦX E ∧ va_P D vwCl (z_wl dA ad h sh 0) t.heap ∧ va_F (z_A ad sh.length sz) st t
/-- the contract of a method that comes back, or throws and changes nothing; w: its code's word -/
def z_Spx (l : Launch) (d : Nat) (y : MethodName) (w : Cond) (mc ms : Nat) (as : List Value) (sh : z_Sh) (h : z_H) (Φ : Option Value → z_H → Prop) (ΦX : String → Prop) : Prop :=
  ∀ (D : va_G) (dA : Nat → ClassId) (ad : Nat → Nat) (sz : Nat), vx_Met l y (w :: z_big) { frames := d, cells := mc, slots := ms, locals := 64 * d } (z_Pcx D dA ad sz as sh h) (z_Q D dA ad sz sh Φ) (z_XC D dA ad sz sh h ΦX) mc ms (z_A ad sh.length sz)
/-- the context of such a body -/
def z_Bx (p : Program) (R : Room) (s : State) (m : MethodId) (args : Array Value) (meth : Method) (c : Code) (D : va_G) (dA : Nat → ClassId) (A : Nat → Prop) (own : String) (cc : ByteArray) (nL : Nat) (fl : z_Fl) (d : Nat) (ret : Option FieldType) (mc ms : Nat) (tb : List ExceptionTableEntry) : Prop :=
  z_B p R s m args meth c D dA A own cc nL fl d ret ∧ z_Zz A s ∧ z_Kin s ∧ c.exceptionTable.toList = tb ∧ mc ≤ R.cells ∧ ms ≤ R.slots
set_option maxHeartbeats 1000000 in
theorem z_enterx {l : Launch} {d mc ms : Nat} {y : MethodName} {cc : ByteArray} {maxL : Nat} {ret : Option FieldType} {as : List Value} {sh : z_Sh} {h : z_H} {Φ : Option Value → z_H → Prop} {ΦX : String → Prop} (fl : z_Fl) (hy : plainName y.cls = true) (hfl : z_fsok y.cls fl) (hlen : (z_el as).length ≤ maxL)
    (body : ∀ (p : Program) (e : Env) (R : Room) (s : State) (m : MethodId) (args : Array Value) (below : List Frame) (meth : Method) (c : Code) (D : va_G) (dA : Nat → ClassId) (ad : Nat → Nat), z_Bx p R s m args meth c D dA (z_A ad sh.length s.heap.size) y.cls cc maxL fl d ret mc ms [] → z_Z p l e R s m args below meth c D dA (z_A ad sh.length s.heap.size) s.heap maxL ad (vx_MQ below (z_Q D dA ad s.heap.size sh Φ) (z_XC D dA ad s.heap.size sh h ΦX) args s mc ms (z_A ad sh.length s.heap.size)) 0 0 0 (z_ent maxL as) [] sh h) :
    z_Spx l d y (.code y cc maxL ret) mc ms as sh h Φ ΦX := by
  intro D dA ad sz
  refine vx_ofW (cc := cc) (maxL := maxL) (ret := ret) hy rfl ?_
  intro p e s m args below meth c s₁ B hml htab hv
  obtain ⟨⟨rfl, hsz, hP, hK, hD0, hN⟩, hZ, hKin⟩ := hv
  subst hsz
  have hts := atoms_spec (ws := .code y cc maxL ret :: z_big) B.pre
  have hown : s.vm.findClass y.cls = some m.cls := findClass_of_methodNamed B.named
  rw [lg_entry_eq]
  have hl := lv_entry (as.map (z_con ad)) (n := maxL) (by rw [z_el_len]; exact hlen)
  have htab0 : c.exceptionTable.toList = [] := List.eq_nil_iff_forall_not_mem.mpr (fun x hx => htab x hx)
  refine body p e _ s m _ below meth c D dA ad ⟨⟨⟨B.exec, B.bytes, hml, hown, fun w hw => hts w (List.mem_cons_of_mem _ hw), hK, fun q hq => Or.inr hq, hfl⟩, hN, ⟨Nat.le_refl _, Nat.le_refl _⟩, B.returns, B.notSynchronized⟩, hZ, hKin, htab0, Nat.le_refl _, Nat.le_refl _⟩ s.heap [] _ hP (z_D_self hD0) va_S.rf ⟨?_, ?_⟩
  · unfold z_ent
    simp only [List.length_append, List.length_replicate]
    omega
  · unfold z_ent
    rw [z_al_el]
    exact hl
set_option maxHeartbeats 1000000 in
/-- a body with handlers -/
theorem z_enterh {l : Launch} {d mc ms : Nat} {y : MethodName} {cc : ByteArray} {maxL : Nat} {ret : Option FieldType} {hh : List (Nat × Nat × Nat × Nat)} {as : List Value} {sh : z_Sh} {h : z_H} {Φ : Option Value → z_H → Prop} {ΦX : String → Prop} (fl : z_Fl) (hy : plainName y.cls = true) (hfl : z_fsok y.cls fl) (hlen : (z_el as).length ≤ maxL)
    (body : ∀ (p : Program) (e : Env) (R : Room) (s : State) (m : MethodId) (args : Array Value) (below : List Frame) (meth : Method) (c : Code) (D : va_G) (dA : Nat → ClassId) (ad : Nat → Nat), z_Bx p R s m args meth c D dA (z_A ad sh.length s.heap.size) y.cls cc maxL fl d ret mc ms (tableOf hh) → z_Z p l e R s m args below meth c D dA (z_A ad sh.length s.heap.size) s.heap maxL ad (vx_MQ below (z_Q D dA ad s.heap.size sh Φ) (z_XC D dA ad s.heap.size sh h ΦX) args s mc ms (z_A ad sh.length s.heap.size)) 0 0 0 (z_ent maxL as) [] sh h) :
    z_Spx l d y (.codeWith y cc maxL ret hh) mc ms as sh h Φ ΦX := by
  intro D dA ad sz
  refine vx_ofWH (cc := cc) (maxL := maxL) (ret := ret) (hh := hh) hy rfl ?_
  intro p e s m args below meth c s₁ B hml hv
  obtain ⟨⟨rfl, hsz, hP, hK, hD0, hN⟩, hZ, hKin⟩ := hv
  subst hsz
  have hts := atoms_spec (ws := .codeWith y cc maxL ret hh :: z_big) B.pre
  have hown : s.vm.findClass y.cls = some m.cls := findClass_of_methodNamed B.named
  have htab0 : c.exceptionTable.toList = tableOf hh := vx_table (x := y) B (hts _ List.mem_cons_self)
  rw [lg_entry_eq]
  have hl := lv_entry (as.map (z_con ad)) (n := maxL) (by rw [z_el_len]; exact hlen)
  refine body p e _ s m _ below meth c D dA ad ⟨⟨⟨B.exec, B.bytes, hml, hown, fun w hw => hts w (List.mem_cons_of_mem _ hw), hK, fun q hq => Or.inr hq, hfl⟩, hN, ⟨Nat.le_refl _, Nat.le_refl _⟩, B.returns, B.notSynchronized⟩, hZ, hKin, htab0, Nat.le_refl _, Nat.le_refl _⟩ s.heap [] _ hP (z_D_self hD0) va_S.rf ⟨?_, ?_⟩
  · unfold z_ent
    simp only [List.length_append, List.length_replicate]
    omega
  · unfold z_ent
    rw [z_al_el]
    exact hl
section ZX
variable {p : Program} {l : Launch} {e : Env} {R : Room} {s : State} {m : MethodId} {args : Array Value} {below : List Frame} {meth : Method} {c : Code} {D : va_G} {dA : Nat → ClassId} {A : Nat → Prop} {H0 : Heap} {nL : Nat} {ad : Nat → Nat} {Q : State → Prop} {own : String} {cc : ByteArray} {fl : z_Fl}
/-- an exception of the class E stands over the frame -/
def z_T (p : Program) (l : Launch) (e : Env) (R : Room) (s : State) (m : MethodId) (args : Array Value) (below : List Frame) (meth : Method) (c : Code) (D : va_G) (dA : Nat → ClassId) (A : Nat → Prop) (H0 : Heap) (nL : Nat) (ad : Nat → Nat) (Q : State → Prop) (k n pc : Nat) (ls : List (Option Value)) (st : List Value) (sh : z_Sh) (h : z_H) (E : String) : Prop :=
  ∀ (H : Heap) (locs : List Loc) (la : Array Slot) (q : Addr) (ce : Cell), va_P D vwCl (z_wl dA ad h sh 0) H → va_D A (z_wl dA ad h sh 0) → va_S A H0 H locs → z_lo ad nL ls la → H[q]? = some ce → ce.vm = .none → s.vm.findClass E = some ce.cls → vx_W p l e R s m args below meth c H locs k n Q (F0 m pc la (st.map (z_con ad))) q
variable {sh : z_Sh} {h : z_H} {d mc ms k n pc nn : Nat} {ls : List (Option Value)} {Φ : Option Value → z_H → Prop} {ΦX : String → Prop} {h0 : z_H}
theorem z_retx_i {tb : List ExceptionTableEntry} {v : Int32} (hB : z_Bx p R s m args meth c D dA (z_A ad nn s.heap.size) own cc nL fl d (some .int) mc ms tb) (hn : nn = sh.length) (hk : k ≤ mc ∧ n ≤ ms) (hd : decode cc pc = .ok (.ireturn, 1)) (hΦ : Φ (some (.int v)) h) : z_Z p l e R s m args below meth c D dA (z_A ad nn s.heap.size) s.heap nL ad (vx_MQ below (z_Q D dA ad s.heap.size sh Φ) (z_XC D dA ad s.heap.size sh h0 ΦX) args s mc ms (z_A ad nn s.heap.size)) k n pc ls [.int v] sh h := by
  subst hn
  exact fun H locs la hP hD hS hl => W.widen hk.1 hk.2 (vx_ret (W.iret (v := v) hB.1.1.1 hB.1.1.2.1 hB.1.2.2.2.1 (fun t ht hW => ⟨⟨some (.int v), h, rfl, hΦ, by rw [ht]; exact hP⟩, hS.F ht⟩) hS.2.2 hd hB.1.2.2.2.2))
theorem z_retx_z {tb : List ExceptionTableEntry} {v : Int32} (hB : z_Bx p R s m args meth c D dA (z_A ad nn s.heap.size) own cc nL fl d (some .boolean) mc ms tb) (hn : nn = sh.length) (hv : v = 0 ∨ v = 1) (hk : k ≤ mc ∧ n ≤ ms) (hd : decode cc pc = .ok (.ireturn, 1)) (hΦ : Φ (some (.int v)) h) : z_Z p l e R s m args below meth c D dA (z_A ad nn s.heap.size) s.heap nL ad (vx_MQ below (z_Q D dA ad s.heap.size sh Φ) (z_XC D dA ad s.heap.size sh h0 ΦX) args s mc ms (z_A ad nn s.heap.size)) k n pc ls [.int v] sh h := by
  subst hn
  exact fun H locs la hP hD hS hl => W.widen hk.1 hk.2 (vx_ret (W.zret (v := v) hB.1.1.1 hB.1.1.2.1 hB.1.2.2.2.1 (z_nar_b hv).1 (fun t ht hW => ⟨⟨some (.int v), h, rfl, hΦ, by rw [ht]; exact hP⟩, hS.F ht⟩) hS.2.2 hd hB.1.2.2.2.2))
theorem z_retx_v {tb : List ExceptionTableEntry} (hB : z_Bx p R s m args meth c D dA (z_A ad nn s.heap.size) own cc nL fl d none mc ms tb) (hn : nn = sh.length) (hk : k ≤ mc ∧ n ≤ ms) (hd : decode cc pc = .ok (.return_, 1)) (hΦ : Φ none h) : z_Z p l e R s m args below meth c D dA (z_A ad nn s.heap.size) s.heap nL ad (vx_MQ below (z_Q D dA ad s.heap.size sh Φ) (z_XC D dA ad s.heap.size sh h0 ΦX) args s mc ms (z_A ad nn s.heap.size)) k n pc ls [] sh h := by
  subst hn
  exact fun H locs la hP hD hS hl => W.widen hk.1 hk.2 (vx_ret (W.vret hB.1.1.1 hB.1.1.2.1 hB.1.2.2.2.1 (fun t ht hW => ⟨⟨none, h, rfl, hΦ, by rw [ht]; exact hP⟩, hS.F ht⟩) hS.2.2 hd hB.1.2.2.2.2))
theorem z_F_of {H : Heap} {locs : List Loc} {t : State} (hS : va_S A s.heap H locs) (h1 : H.size ≤ t.heap.size) (h2 : ∀ q : Nat, q < H.size → t.heap[q]? = H[q]?) : va_F A s t := ⟨Nat.le_trans hS.1 h1, fun q hq hA => by rw [h2 q (Nat.lt_of_lt_of_le hq hS.1)]; exact hS.2.1 q hq hA⟩
theorem z_P_of {H : Heap} {t : State} (hP : va_P D vwCl (z_wl dA ad h sh 0) H) (h2 : ∀ q : Nat, q < H.size → t.heap[q]? = H[q]?) : va_P D vwCl (z_wl dA ad h sh 0) t.heap := hP.kept (fun k q hq => h2 q.1 (hP k q hq).lt)
/-- nothing takes it: the method itself throws -/
theorem z_out {E : String} {st : List Value} {ret : Option FieldType} (hB : z_Bx p R s m args meth c D dA (z_A ad nn s.heap.size) own cc nL fl d ret mc ms []) (hn : nn = sh.length) (hk : k ≤ mc ∧ n ≤ ms) (hΦ : ΦX E) : z_T p l e R s m args below meth c D dA (z_A ad nn s.heap.size) s.heap nL ad (vx_MQ below (z_Q D dA ad s.heap.size sh Φ) (z_XC D dA ad s.heap.size sh h ΦX) args s mc ms (z_A ad nn s.heap.size)) k n pc ls st sh h E := by
  subst hn
  intro H locs la q ce hP hD hS hl hce hv hcl
  exact vx_out (fun x hx => by rw [hB.2.2.2.1] at hx; cases hx) hB.1.2.2.2.2 hce hv hcl (fun t ht hvm => ⟨hΦ, by rw [ht]; exact hP, hS.F ht⟩) hS.2.2 hk.1 hk.2
/-- the words of a throw of a new exception with a text -/
def z_okT (own : String) (ik is ic : Nat) (cls text : String) : Prop :=
  (Bundle.fit cls = true ∧ cls ∈ z_exs) ∧ Cond.classLink own ik cls ∈ z_big ∧ Cond.initialized cls ∈ z_big ∧ Cond.stringRef own is text ∈ z_nst ∧ (∀ w ∈ vx_atS own ic cls ["java/lang/RuntimeException", "java/lang/Exception"], w ∈ z_big ∨ (w.onTables = true ∧ w ∈ z_nst)) ∧ (∀ w ∈ Cond.classLink own ik cls :: Cond.initialized cls :: vx_atS own ic cls ["java/lang/RuntimeException", "java/lang/Exception"], vx_ot w = true)
theorem z_names_fit : ∀ n ∈ ["java/lang/RuntimeException", "java/lang/Exception"], Bundle.fit n = true := by decide +kernel
set_option maxHeartbeats 1000000 in
theorem z_throw {cls text : String} {ik is ic : Nat} {ret : Option FieldType} (hB : z_Bx p R s m args meth c D dA (z_A ad nn s.heap.size) own cc nL fl d ret mc ms []) (hl0 : l.stackTraces = false) (hn : nn = sh.length) (ok : z_okT own ik is ic cls text) (hd6 : 6 ≤ d) (hk : k + 1 ≤ mc ∧ n + 6 ≤ ms) (d0 : decode cc pc = .ok (.new ik, 3)) (d3 : decode cc (pc + 3) = .ok (.dup, 1)) (d4 : decode cc (pc + 4) = .ok (.ldc is, 2)) (d6 : decode cc (pc + 6) = .ok (.invokespecial ic, 3)) (d9 : decode cc (pc + 9) = .ok (.athrow, 1)) (hΦ : ΦX cls) : z_Z p l e R s m args below meth c D dA (z_A ad nn s.heap.size) s.heap nL ad (vx_MQ below (z_Q D dA ad s.heap.size sh Φ) (z_XC D dA ad s.heap.size sh h ΦX) args s mc ms (z_A ad nn s.heap.size)) k n pc ls [] sh h := by
  subst hn
  intro H locs la hP hD hS hl
  obtain ⟨⟨hC, hN, hR, hret, hlk⟩, hZ, hKin, htb, hc1, hc2⟩ := hB
  obtain ⟨hx, hb, hml, hown, hts, hK, hA, hfl⟩ := hC
  obtain ⟨⟨o1, o1'⟩, o2, o3, o4, o5, o6⟩ := ok
  obtain ⟨sa, hsa⟩ := z_str (hN _ o4)
  refine vx_throwS (text := text) (names := ["java/lang/RuntimeException", "java/lang/Exception"]) (sa := sa) (A := z_A ad sh.length s.heap.size) hx hb hl0 hown o1 z_names_fit (hts _ o2) (hts _ o3) hsa (fun w hw => ?_) o6 hZ.1 hZ.2 hS (hl.2.1.trans hml.symm) d0 d3 d4 d6 d9 (fun x hx => by rw [htb] at hx; cases hx) ?_ ?_ ?_ ?_ hlk (fun t hvm h1 h2 => ⟨hΦ, z_P_of hP h2, z_F_of hS h1 h2⟩) hS.2.2 hk.1 hk.2
  · rcases o5 w hw with h1 | ⟨h1, h2⟩
    · exact hts w h1
    · exact va_Nw.use h1 (hN _ h2)
  · simp only [List.length_cons, List.length_nil]; omega
  · simp only [List.map_nil, List.sum_nil, List.length_cons, List.length_nil]; omega
  · omega
  · omega
set_option maxHeartbeats 1000000 in
/-- behind a call that comes back or throws -/
theorem z_afterx {mc' ms' : Nat} {st0 rest : List Value} {Φ' : Option Value → z_H → Prop} {ΦX' : String → Prop} {H : Heap} {locs : List Loc} {la : Array Slot} (hr : vx_Run p l e R s m args below meth c H locs k n mc' ms' (F0 m pc la st0) (rest.map (z_con ad)) (z_Q D dA ad H.size sh Φ' args) (z_XC D dA ad H.size sh h ΦX') (z_A ad sh.length H.size)) (hA : ∀ q : Nat, H0.size ≤ q → A q) (hD : va_D A (z_wl dA ad h sh 0)) (hS : va_S A H0 H locs) (hl : z_lo ad nL ls la)
    (kx : ∀ E : String, ΦX' E → z_T p l e R s m args below meth c D dA A H0 nL ad Q (k + mc') (n + ms') pc ls rest sh h E)
    (kk : ∀ (rv : Option Value) (h' : z_H), Φ' rv h' → z_Z p l e R s m args below meth c D dA A H0 nL ad Q (k + mc') (n + ms') (pc + 3) ls (rv.toList ++ rest) sh h') : W p l e R s m args below meth c H locs k n Q (F0 m pc la st0) := by
  intro T hT X
  have hAA := z_A_in (ad := ad) (dA := dA) hA hD hS
  rcases hr T hT X with ⟨v, st₀, t, T', L, h0, X', hL, e1, e2, ⟨⟨rv, h', hv, hΦ, hP1⟩, hF⟩, st⟩ | ⟨q, st₀, t, T', L, E, ce, h0, X', hL, e1, e2, ⟨hΦ, hP1, hF⟩, hce, hcv, hcl, st⟩
  · have hv : v = rv.map (z_con ad) := by injection hv
    subst hv
    obtain ⟨k1, k2, k3⟩ := vx_keep h0 e1 hS (fun q _ h => hAA q h) hAA hL hF
    obtain ⟨t2, a1, b1⟩ := kk rv h' hΦ T'.heap (locs ++ L) la (by rw [e1]; exact hP1) (z_D_heap hD) k3 hl T' rfl X'
    refine ⟨t2, st t2 ?_, b1⟩
    have hst : (rv.toList ++ rest).map (z_con ad) = (rv.map (z_con ad)).toList ++ rest.map (z_con ad) := by
      cases rv <;> simp
    rw [hst] at a1
    exact a1
  · obtain ⟨k1, k2, k3⟩ := vx_keep h0 e1 hS (fun q _ h => hAA q h) hAA hL hF
    obtain ⟨t2, a1, b1⟩ := kx E hΦ T'.heap (locs ++ L) la q ce (by rw [e1]; exact hP1) hD k3 hl (by rw [e1]; exact hce) hcv hcl T' rfl X'
    exact ⟨t2, st.trans a1, b1⟩
theorem z_Zz_in {H : Heap} {locs : List Loc} {U : State} (hA : ∀ q : Nat, s.heap.size ≤ q → A q) (hZ : z_Zz A s) (hD : va_D A (z_wl dA ad h sh 0)) (hS : va_S A s.heap H locs) (hU : U.heap = H) (hvm : s.vm.Alike U.vm) : z_Zz (z_A ad sh.length H.size) U := by
  have hAA := z_A_in (ad := ad) (dA := dA) hA hD hS
  unfold z_Zz
  rw [hU]
  exact ⟨((hZ.1.kept (fun a h1 h2 => hS.2.1 a h1 h2)).narrow hAA).moved hvm, ((hZ.2.kept (fun a h1 h2 => hS.2.1 a h1 h2)).narrow hAA).moved hvm⟩
set_option maxHeartbeats 1000000 in
theorem z_callVx {y : MethodName} {cc' : ByteArray} {maxL idx na d d' o ci mc' ms' : Nat} {ks : List Nat} {T : u_T} {N : Nat} {ret : Option FieldType} {as rest : List Value} {st : List Value} {Φ' : Option Value → z_H → Prop} {ΦX' : String → Prop} (hC : z_Cx p s m args c D dA A s.heap own cc nL fl) (hN : z_Nt s) (hR : d ≤ R.frames ∧ 64 * d ≤ R.locals) (hZ : z_Zz A s) (hKin : z_Kin s) (ok : z_okV own idx y cc' maxL ret na) (hdg : decode cc pc = .ok (.invokevirtual idx, 3)) (hM : z_Spx l d' y (.code y cc' maxL ret) mc' ms' (.ref o :: as) sh h Φ' ΦX') (hs : z_nth sh o = some (0, ci, ks)) (hcl : vwCl[ci]? = some (y.cls, T, N)) (hd : d' + 1 ≤ d) (hn : as.length = na) (hst : st = as.reverse ++ .ref o :: rest) (hW : (rest.map fun v => v.category).sum ≤ 8) (hk : k + mc' ≤ R.cells ∧ n + ms' ≤ R.slots)
    (kx : ∀ E : String, ΦX' E → z_T p l e R s m args below meth c D dA A s.heap nL ad Q (k + mc') (n + ms') pc ls rest sh h E)
    (kk : ∀ (rv : Option Value) (h' : z_H), Φ' rv h' → z_Z p l e R s m args below meth c D dA A s.heap nL ad Q (k + mc') (n + ms') (pc + 3) ls (rv.toList ++ rest) sh h') : z_Z p l e R s m args below meth c D dA A s.heap nL ad Q k n pc ls st sh h := by
  intro H locs la hP hD hS hl
  obtain ⟨hx, hb, hml, hown, hts, hK, hA, hfl⟩ := hC
  obtain ⟨⟨o1, o2, o2'⟩, o3, o4, o5, o6⟩ := ok
  subst hst
  have run := vx_runV (e := e) (s := s) (R := R) (below := below) (meth := meth) (H := H) (locs := locs) (cells := k) (slots := n) (rest := rest.map (z_con ad)) (As := as.map (z_con ad)) (b := ad o) (C := y.cls) (g := F0 m pc la ((as.reverse ++ .ref o :: rest).map (z_con ad))) ⟨hx, hb, hml, hown, hts⟩ (hM D dA ad H.size) ⟨callB_of na hts (z_good o4) rfl rfl rfl (hts _ o3) (hts _ o1) o5 (z_rooms hR hd o6), hts _ o2, hts _ o2'⟩ ⟨z_Pcx_blind, va_recv hK hP hcl (z_wl_obj hs), fun U hU hW => ⟨⟨rfl, by rw [hU], by rw [hU]; exact hP, va_K.moved hW.alike hK, hD.weaken (fun _ _ _ _ => trivial), z_Nt_warm hW hN⟩, z_Zz_in hA hZ hD hS hU hW.alike, z_Kin_moved hW.alike hKin⟩⟩ rfl (by rw [List.length_map]; exact hn) hl.2.1 (by simp [z_con]) (lv_room (by rw [z_cats]; exact hW)) hdg ⟨hk.1, hk.2⟩
  exact z_afterx run hA hD hS hl kx kk
set_option maxHeartbeats 1000000 in
theorem z_callSx {y : MethodName} {cc' : ByteArray} {maxL idx na d d' mc' ms' : Nat} {ret : Option FieldType} {as rest : List Value} {st : List Value} {Φ' : Option Value → z_H → Prop} {ΦX' : String → Prop} (hC : z_Cx p s m args c D dA A s.heap own cc nL fl) (hN : z_Nt s) (hR : d ≤ R.frames ∧ 64 * d ≤ R.locals) (hZ : z_Zz A s) (hKin : z_Kin s) (ok : z_okS own idx y cc' maxL ret na) (hdg : decode cc pc = .ok (.invokestatic idx, 3)) (hM : z_Spx l d' y (.code y cc' maxL ret) mc' ms' as sh h Φ' ΦX') (hd : d' + 1 ≤ d) (hn : as.length = na) (hst : st = as.reverse ++ rest) (hW : (rest.map fun v => v.category).sum ≤ 8) (hk : k + mc' ≤ R.cells ∧ n + ms' ≤ R.slots)
    (kx : ∀ E : String, ΦX' E → z_T p l e R s m args below meth c D dA A s.heap nL ad Q (k + mc') (n + ms') pc ls rest sh h E)
    (kk : ∀ (rv : Option Value) (h' : z_H), Φ' rv h' → z_Z p l e R s m args below meth c D dA A s.heap nL ad Q (k + mc') (n + ms') (pc + 3) ls (rv.toList ++ rest) sh h') : z_Z p l e R s m args below meth c D dA A s.heap nL ad Q k n pc ls st sh h := by
  intro H locs la hP hD hS hl
  obtain ⟨hx, hb, hml, hown, hts, hK, hA, hfl⟩ := hC
  obtain ⟨⟨o1, o2⟩, o3, o4, o5, o6⟩ := ok
  subst hst
  have run := vx_runS (e := e) (s := s) (R := R) (below := below) (meth := meth) (H := H) (locs := locs) (cells := k) (slots := n) (rest := rest.map (z_con ad)) (As := as.map (z_con ad)) (g := F0 m pc la ((as.reverse ++ rest).map (z_con ad))) ⟨hx, hb, hml, hown, hts⟩ (hM D dA ad H.size) ⟨callB_of na hts (z_good o4) rfl rfl rfl (hts _ o3) (hts _ o1) o5 (z_rooms hR hd o6), hts _ o2⟩ ⟨z_Pcx_blind, fun U hU hW => ⟨⟨rfl, by rw [hU], by rw [hU]; exact hP, va_K.moved hW.alike hK, hD.weaken (fun _ _ _ _ => trivial), z_Nt_warm hW hN⟩, z_Zz_in hA hZ hD hS hU hW.alike, z_Kin_moved hW.alike hKin⟩⟩ rfl (by rw [List.length_map]; exact hn) hl.2.1 (by simp) (lv_room (by rw [z_cats]; exact hW)) hdg ⟨hk.1, hk.2⟩
  exact z_afterx run hA hD hS hl kx kk
/-- the words of a static call of a method with handlers -/
def z_okH (own : String) (idx : Nat) (y : MethodName) (cc : ByteArray) (maxL : Nat) (ret : Option FieldType) (hh : List (Nat × Nat × Nat × Nat)) (n : Nat) : Prop :=
  (Cond.methodLink own idx y ∈ z_big ∧ Cond.static y ∈ z_big) ∧ Cond.initialized y.cls ∈ z_big ∧ Cond.codeWith y cc maxL ret hh ∈ z_big ∧ (y.cls ≠ "java/lang/invoke/MethodHandle" ∧ y.cls ≠ "java/lang/invoke/VarHandle" ∧ (parseMethodDescriptor y.desc).map (fun d => d.parameters.length) = some n) ∧ maxL ≤ 45
set_option maxHeartbeats 1000000 in
theorem z_callSh {y : MethodName} {cc' : ByteArray} {maxL idx na d d' mc' ms' : Nat} {hh : List (Nat × Nat × Nat × Nat)} {ret : Option FieldType} {as rest : List Value} {st : List Value} {Φ' : Option Value → z_H → Prop} {ΦX' : String → Prop} (hC : z_Cx p s m args c D dA A s.heap own cc nL fl) (hN : z_Nt s) (hR : d ≤ R.frames ∧ 64 * d ≤ R.locals) (hZ : z_Zz A s) (hKin : z_Kin s) (ok : z_okH own idx y cc' maxL ret hh na) (hdg : decode cc pc = .ok (.invokestatic idx, 3)) (hM : z_Spx l d' y (.codeWith y cc' maxL ret hh) mc' ms' as sh h Φ' ΦX') (hd : d' + 1 ≤ d) (hn : as.length = na) (hst : st = as.reverse ++ rest) (hW : (rest.map fun v => v.category).sum ≤ 8) (hk : k + mc' ≤ R.cells ∧ n + ms' ≤ R.slots)
    (kx : ∀ E : String, ΦX' E → z_T p l e R s m args below meth c D dA A s.heap nL ad Q (k + mc') (n + ms') pc ls rest sh h E)
    (kk : ∀ (rv : Option Value) (h' : z_H), Φ' rv h' → z_Z p l e R s m args below meth c D dA A s.heap nL ad Q (k + mc') (n + ms') (pc + 3) ls (rv.toList ++ rest) sh h') : z_Z p l e R s m args below meth c D dA A s.heap nL ad Q k n pc ls st sh h := by
  intro H locs la hP hD hS hl
  obtain ⟨hx, hb, hml, hown, hts, hK, hA, hfl⟩ := hC
  obtain ⟨⟨o1, o2⟩, o3, o4, o5, o6⟩ := ok
  subst hst
  have hG : GoodIn z_big (va_wsS own idx y (.codeWith y cc' maxL ret hh :: z_big)) := fun x hx => by
    have : x ∈ z_big := by
      simp only [va_wsS, List.cons_append, List.nil_append, List.mem_cons] at hx
      rcases hx with rfl | rfl | rfl | rfl | hx
      · exact o1
      · exact o2
      · exact o3
      · exact o4
      · exact hx
    exact ⟨this, good_of_word (z_big_good x this)⟩
  have run := vx_runSX (e := e) (s := s) (R := R) (below := below) (meth := meth) (H := H) (locs := locs) (cells := k) (slots := n) (rest := rest.map (z_con ad)) (As := as.map (z_con ad)) (g := F0 m pc la ((as.reverse ++ rest).map (z_con ad))) ⟨hx, hb, hml, hown, hts⟩ (hM D dA ad H.size) (vx_cwSW na hts hG rfl rfl rfl o5 (z_rooms hR hd o6)) ⟨z_Pcx_blind, fun U hU hW => ⟨⟨rfl, by rw [hU], by rw [hU]; exact hP, va_K.moved hW.alike hK, hD.weaken (fun _ _ _ _ => trivial), z_Nt_warm hW hN⟩, z_Zz_in hA hZ hD hS hU hW.alike, z_Kin_moved hW.alike hKin⟩⟩ rfl (by rw [List.length_map]; exact hn) hl.2.1 (by simp) (lv_room (by rw [z_cats]; exact hW)) hdg ⟨hk.1, hk.2⟩
  exact z_afterx run hA hD hS hl kx kk
/-- a handler takes it, and puts it into a local -/
theorem z_lo_forget {ls' : List (Option Value)} {la : Array Slot} {i : Nat} {v : Value} {l' : List (Nat × Value)} (hl : z_lo ad nL ls la) (hi : i < nL) (hg : z_lg ls i = false) (hls : ls' = z_put ls i none) (hl' : l' = (i, v) :: (z_al ad ls 0).filter (fun q => !(q.1 == i) && !(q.1 + 1 == i && q.2.category == 2))) : ∀ la', lv_has la' nL l' → z_lo ad nL ls' la' := by
  subst hls
  refine fun la' h' => ⟨by rw [z_put_len]; exact hl.1, h'.1, h'.2.1, ?_⟩
  intro q hq
  obtain ⟨j, w, h1, h2⟩ := (z_al_mem ad _ 0 q).mp hq
  rw [z_put_nth] at h1
  refine h'.2.2 q ?_
  rw [hl', h2, Nat.zero_add]
  have hil : i < ls.length := by rw [hl.1]; exact hi
  by_cases hj : j = i
  · rw [if_pos ⟨hj, hil⟩] at h1
    cases h1
  · rw [if_neg (fun e => hj e.1)] at h1
    refine List.mem_cons_of_mem _ (List.mem_filter.mpr ⟨(z_al_mem ad ls 0 _).mpr ⟨j, w, h1, by rw [Nat.zero_add]⟩, ?_⟩)
    simp only [Bool.and_eq_true, Bool.not_eq_true', beq_eq_false_iff_ne, ne_eq, hj, not_false_eq_true, true_and]
    by_cases e : j + 1 = i
    · have := z_lg_cat (j := j) (by rw [e]; exact hg) h1
      simp [z_con_cat, this]
    · simp [e]
theorem z_catch {E : String} {st : List Value} {ls' : List (Option Value)} {tb : List ExceptionTableEntry} {ret : Option FieldType} {i : Nat} (hB : z_Bx p R s m args meth c D dA A own cc nL fl d ret mc ms tb) (pre : List ExceptionTableEntry) (x : ExceptionTableEntry) (suf : List ExceptionTableEntry) (hsplit : tb = pre ++ x :: suf) (hE : E ∈ z_exs) (hpass : ∀ z ∈ pre, z.catchType ≠ 0 ∧ ∃ nm ∈ z_exs, nm ≠ E ∧ Cond.classLink own z.catchType nm ∈ z_big) (hx : covers x pc = true) (hx0 : x.catchType ≠ 0) (hlink : Cond.classLink own x.catchType E ∈ z_big) (hcast : Cond.castable E E ∈ z_nst) (hi : i < nL) (hg : z_lg ls i = false) (hls : ls' = z_put ls i none) (w : Nat) (hd : (w = 2 ∧ decode cc x.handlerPc = .ok (.astore i, 2)) ∨ (w = 1 ∧ ∃ j : Fin 4, j.val = i ∧ decode cc x.handlerPc = .ok (.astore_n j, 1)))
    (kk : z_Z p l e R s m args below meth c D dA A s.heap nL ad Q k n (x.handlerPc + w) ls' [] sh h) : z_T p l e R s m args below meth c D dA A s.heap nL ad Q k n pc ls st sh h E := by
  intro H locs la q ce hP hD hS hl hce hv hcl
  obtain ⟨⟨hC, hN, hR, hret, hlk⟩, hZ, hKin, htb, hc1, hc2⟩ := hB
  obtain ⟨hxx, hb, hml, hown, hts, hK, hA, hfl⟩ := hC
  refine vx_catch hown pre x suf (by rw [htb]; exact hsplit) (fun z hz => ?_) hx hx0 (hts _ hlink) (va_Nw.use rfl (hN _ hcast)) hce hv hcl ?_
  · obtain ⟨h1, nm, h2, h3, h4⟩ := hpass z hz
    exact Or.inr ⟨h1, nm, hts _ h4, hKin E hE nm h2 (fun e => h3 e.symm)⟩
  · rcases hd with ⟨rfl, hd⟩ | ⟨rfl, j, hj, hd⟩
    · exact lv_astore hxx hb hd hl.2 hi rfl (fun la' h' => kk H locs la' hP hD hS (z_lo_forget hl hi hg hls rfl la' h'))
    · exact lv_astore_n hxx hb hd hj hl.2 hi rfl (fun la' h' => kk H locs la' hP hD hS (z_lo_forget hl hi hg hls rfl la' h'))
end ZX
/-! ===== answers of methods that throw, as functions ===== -/
abbrev z_RX : Type := Except String z_R
def z_bd (r k : z_RX) : z_RX := match r with
  | .error e => .error e
  | .ok _ => k
theorem z_bd_er {r k : z_RX} {E : String} (h : r = .error E) : z_bd r k = .error E := by rw [h]; rfl
theorem z_bd_ok {r k : z_RX} {x : z_R} (h : r = .ok x) : z_bd r k = k := by rw [h]; rfl
def z_PXV (h : z_H) (r : z_RX) : Option Value → z_H → Prop := fun rv h' => rv = none ∧ h' = h ∧ r = .ok (none, h)
def z_PXW (r : z_RX) : Option Value → z_H → Prop := fun rv h' => rv = none ∧ r = .ok (none, h')
def z_PXI (r : z_RX) : Option Value → z_H → Prop := fun rv h' => ∃ v : Int32, rv = some (.int v) ∧ r = .ok (some (.int v), h')
def z_PXB (r : z_RX) : Option Value → z_H → Prop := fun rv h' => ∃ v : Int32, rv = some (.int v) ∧ r = .ok (some (.int v), h') ∧ (v = 0 ∨ v = 1)
def z_XX (xs : List String) (r : z_RX) : String → Prop := fun E => r = .error E ∧ E ∈ xs
theorem z_msub {a b : List String} (h : ∀ x ∈ a, x ∈ b) {E : String} (hE : E ∈ a) : E ∈ b := h E hE
abbrev z_GX (p : Program) (l : Launch) (e : Env) (R : Room) (s : State) (m : MethodId) (args : Array Value) (below : List Frame) (meth : Method) (c : Code) (D : va_G) (dA : Nat → ClassId) (ad : Nat → Nat) (nL : Nat) (Φ : Option Value → z_H → Prop) (ΦX : String → Prop) (h0 : z_H) (mc ms : Nat) (sh : z_Sh) (k n pc : Nat) (ls : List (Option Value)) (st : List Value) (h : z_H) : Prop :=
  z_Z p l e R s m args below meth c D dA (z_A ad sh.length s.heap.size) s.heap nL ad (vx_MQ below (z_Q D dA ad s.heap.size sh Φ) (z_XC D dA ad s.heap.size sh h0 ΦX) args s mc ms (z_A ad sh.length s.heap.size)) k n pc ls st sh h
