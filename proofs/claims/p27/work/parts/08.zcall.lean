/-! ===== contracts over abstract heaps, calls ===== -/
def z_mv : Cond → Bool
  | .methodLinkNest .. => true
  | .stringRef .. => true
  | .castable .. => true
  | .declares _ => true
  | _ => false
def z_nst : List Cond := lw_tbl.filter z_mv
def z_Nt (U : State) : Prop := ∀ w ∈ z_nst, w.before #[] U = true
theorem z_str {cls tx : String} {idx : Nat} {s : State} (h : (Cond.stringRef cls idx tx).before #[] s = true) : ∃ a, vk_R cls idx tx a s := by
  have hcur : ∃ cur, s.vm.findClass cls = some cur := by
    have h1 := h
    simp only [Cond.before, Cond.holds, Cond.value] at h1
    cases hc : s.vm.findClass cls with
    | none => simp [hc] at h1
    | some cur => exact ⟨cur, rfl⟩
  obtain ⟨cur, hcur⟩ := hcur
  obtain ⟨-, -, -, a, -, -, -, -, -, h2⟩ := Cond.stringRef_spec (args := #[]) (first := s) (o := none) (idx := []) hcur h
  exact ⟨a, h, h2⟩
theorem z_mv_warm {s U : State} (hW : s.WarmedH U.vm) {w : Cond} (hm : z_mv w = true) (h : w.before #[] s = true) : w.before #[] U = true := by
  cases w with
  | methodLinkNest a i x h2 => exact va_Nw.warmM hW h
  | castable C T => exact va_Nw.warmC hW h
  | declares x => exact va_Nw.warmD hW h
  | stringRef cls idx tx =>
    obtain ⟨a, ha⟩ := z_str h
    exact (vk_R.warm hW ha).1
  | _ => simp [z_mv] at hm
theorem z_mv_vm {u U : State} (hv : u.vm = U.vm) {w : Cond} (hm : z_mv w = true) (h : w.before #[] u = true) : w.before #[] U = true := by
  cases w with
  | methodLinkNest a i x h2 => exact va_Nw.same rfl hv h
  | castable C T => exact va_Nw.same rfl hv h
  | declares x => exact va_Nw.same rfl hv h
  | stringRef cls idx tx =>
    obtain ⟨a, ha⟩ := z_str h
    exact (vk_R.same hv.symm ha).1
  | _ => simp [z_mv] at hm
theorem z_nst_mv : ∀ w ∈ z_nst, z_mv w = true := fun _ h => (List.mem_filter.mp h).2
theorem z_Nt_warm {s U : State} (hW : s.WarmedH U.vm) (h : z_Nt s) : z_Nt U := fun w hw => z_mv_warm hW (z_nst_mv w hw) (h w hw)
theorem z_Nt_vm {u U : State} (hv : u.vm = U.vm) (h : z_Nt u) : z_Nt U := fun w hw => z_mv_vm hv (z_nst_mv w hw) (h w hw)
/-- which cells may change: those of the world, and those made since -/
def z_A (ad : Nat → Nat) (n sz : Nat) : Nat → Prop := fun q => (∃ i, i < n ∧ q = ad i) ∨ sz ≤ q
theorem z_wl_mem {dA : Nat → ClassId} {ad : Nat → Nat} {h : z_H} {sh : z_Sh} {k : Nat} {q : Nat × va_E} (hq : (z_wl dA ad h sh 0)[k]? = some q) : k < sh.length ∧ q.1 = ad k := by
  rw [z_wl_at] at hq
  cases hs : sh[k]? with
  | none => rw [hs] at hq; cases hq
  | some c =>
    rw [hs] at hq
    cases hq
    exact ⟨(List.getElem?_eq_some_iff.mp hs).1, rfl⟩
theorem z_D_self {dA : Nat → ClassId} {ad : Nat → Nat} {h : z_H} {sh : z_Sh} {A : Nat → Prop} {sz : Nat} (hD : va_D A (z_wl dA ad h sh 0)) : va_D (z_A ad sh.length sz) (z_wl dA ad h sh 0) :=
  ⟨hD.1, fun _ _ hq => Or.inl ⟨_, (z_wl_mem hq).1, (z_wl_mem hq).2⟩⟩
theorem z_D_heap {dA : Nat → ClassId} {ad : Nat → Nat} {h h' : z_H} {sh : z_Sh} {A : Nat → Prop} (hD : va_D A (z_wl dA ad h sh 0)) : va_D A (z_wl dA ad h' sh 0) := by
  have tr : ∀ (k : Nat) (q : Nat × va_E), (z_wl dA ad h' sh 0)[k]? = some q → ∃ q', (z_wl dA ad h sh 0)[k]? = some q' ∧ q'.1 = q.1 := by
    intro k q hq
    rw [z_wl_at] at hq
    cases hs : sh[k]? with
    | none => rw [hs] at hq; cases hq
    | some c =>
      rw [hs] at hq
      cases hq
      exact ⟨(ad k, z_ce dA ad c (h.1 k) (h.2 k)), by rw [z_wl_at, hs]; rfl, rfl⟩
  refine ⟨fun i j x y hx hy hxy => ?_, fun k q hq => ?_⟩
  · obtain ⟨x', h1, h2⟩ := tr i x hx
    obtain ⟨y', h3, h4⟩ := tr j y hy
    exact hD.1 i j x' y' h1 h3 (by rw [h2, h4, hxy])
  · obtain ⟨q', h1, h2⟩ := tr k q hq
    rw [← h2]
    exact hD.2 k q' h1
theorem z_D_in {dA : Nat → ClassId} {ad : Nat → Nat} {h : z_H} {sh : z_Sh} {A : Nat → Prop} (hD : va_D A (z_wl dA ad h sh 0)) {i : Nat} (hi : i < sh.length) : A (ad i) :=
  hD.2 i _ (by rw [z_wl_at, List.getElem?_eq_getElem hi]; rfl)
def z_Pc (D : va_G) (dA : Nat → ClassId) (ad : Nat → Nat) (sz : Nat) (as : List Value) (sh : z_Sh) (h : z_H) : Array Value → State → Prop := va_Pc (as.map (z_con ad)) (fun U => U.heap.size = sz ∧ va_P D vwCl (z_wl dA ad h sh 0) U.heap ∧ va_K D vwCl (z_tys dA) U ∧ va_D (fun _ => True) (z_wl dA ad h sh 0) ∧ z_Nt U)
theorem z_Pc_blind {D : va_G} {dA : Nat → ClassId} {ad : Nat → Nat} {sz : Nat} {as : List Value} {sh : z_Sh} {h : z_H} : FrameBlind (z_Pc D dA ad sz as sh h) := fun a U g mk q => by
  obtain ⟨q0, q1, qP, qK, qD, qN⟩ := q
  exact ⟨q0, q1, qP, va_K.moved (u := U) (U := U.calling g mk a) (Vm.Alike.refl U.vm) qK, qD, z_Nt_vm (u := U) (U := U.calling g mk a) rfl qN⟩
def z_Q (D : va_G) (dA : Nat → ClassId) (ad : Nat → Nat) (sz : Nat) (sh : z_Sh) (Φ : Option Value → z_H → Prop) : Array Value → State → Outcome → State → Prop := fun _ st o t => (∃ (rv : Option Value) (h' : z_H), o = .returned (rv.map (z_con ad)) ∧ Φ rv h' ∧ va_P D vwCl (z_wl dA ad h' sh 0) t.heap) ∧ va_F (z_A ad sh.length sz) st t
/-- THE CONTRACT: from the abstract heap h with these arguments the method comes back, with an answer and a heap of which Φ holds; d frames of room at most -/
def z_Sp (l : Launch) (d : Nat) (y : MethodName) (cc : ByteArray) (maxL : Nat) (ret : Option FieldType) (as : List Value) (sh : z_Sh) (h : z_H) (Φ : Option Value → z_H → Prop) : Prop :=
  ∀ (D : va_G) (dA : Nat → ClassId) (ad : Nat → Nat) (sz : Nat), Met l y (.code y cc maxL ret :: z_big) { frames := d, cells := 0, slots := 0, locals := 64 * d } (z_Pc D dA ad sz as sh h) (z_Q D dA ad sz sh Φ) 0 0 (z_A ad sh.length sz)
def z_el : List Value → List (Option Value)
  | [] => []
  | v :: r => match v.category with
    | 2 => some v :: none :: z_el r
    | _ => some v :: z_el r
def z_ent (nL : Nat) (as : List Value) : List (Option Value) := z_el as ++ List.replicate (nL - (z_el as).length) none
theorem z_al_none (ad : Nat → Nat) : ∀ (k i : Nat), z_al ad (List.replicate k none) i = []
  | 0, i => rfl
  | k + 1, i => by rw [List.replicate_succ]; exact z_al_none ad k (i + 1)
theorem z_al_el (ad : Nat → Nat) (k : Nat) : ∀ (as : List Value) (i : Nat), z_al ad (z_el as ++ List.replicate k none) i = lv_args i (as.map (z_con ad))
  | [], i => by simp [z_el, lv_args, z_al_none]
  | v :: r, i => by
    simp only [List.map_cons, lv_args, z_con_cat]
    unfold z_el
    split
    · rename_i hv
      simp only [List.cons_append, z_al, hv, if_true]
      rw [z_al_el ad k r (i + 1 + 1)]
    · rename_i hv
      have hv : ¬ v.category = 2 := fun e => hv e
      simp only [List.cons_append, z_al, hv, if_false]
      rw [z_al_el ad k r (i + 1)]
theorem z_el_len (ad : Nat → Nat) : ∀ (as : List Value), (lg_sl (as.map (z_con ad))).length = (z_el as).length
  | [] => rfl
  | v :: r => by
    have ih := z_el_len ad r
    unfold z_el
    simp only [lg_sl, List.map_cons, List.flatMap_cons, List.length_append, z_con_cat] at ih ⊢
    rw [ih]
    rcases lv_cat v with hv | hv
    · simp only [hv]
      simp; omega
    · simp only [hv]
      simp; omega
/-- the context of a contract's body -/
def z_B (p : Program) (R : Room) (s : State) (m : MethodId) (args : Array Value) (meth : Method) (c : Code) (D : va_G) (dA : Nat → ClassId) (A : Nat → Prop) (own : String) (cc : ByteArray) (nL : Nat) (fl : z_Fl) (d : Nat) (ret : Option FieldType) : Prop :=
  z_Cx p s m args c D dA A s.heap own cc nL fl ∧ z_Nt s ∧ (d ≤ R.frames ∧ 64 * d ≤ R.locals) ∧ meth.sig.returnType = ret ∧ meth.locks = false
set_option maxHeartbeats 1000000 in
theorem z_enter {l : Launch} {d : Nat} {y : MethodName} {cc : ByteArray} {maxL : Nat} {ret : Option FieldType} {as : List Value} {sh : z_Sh} {h : z_H} {Φ : Option Value → z_H → Prop} (fl : z_Fl) (hy : plainFor y = true) (hfl : z_fsok y.cls fl) (hlen : (z_el as).length ≤ maxL)
    (body : ∀ (p : Program) (e : Env) (R : Room) (s : State) (m : MethodId) (args : Array Value) (below : List Frame) (meth : Method) (c : Code) (D : va_G) (dA : Nat → ClassId) (ad : Nat → Nat), z_B p R s m args meth c D dA (z_A ad sh.length s.heap.size) y.cls cc maxL fl d ret → z_Z p l e R s m args below meth c D dA (z_A ad sh.length s.heap.size) s.heap maxL ad (MQ below (z_Q D dA ad s.heap.size sh Φ) args s 0 0 (z_A ad sh.length s.heap.size)) 0 0 0 (z_ent maxL as) [] sh h) :
    z_Sp l d y cc maxL ret as sh h Φ := by
  intro D dA ad sz
  refine va_MetF (cc := cc) (maxL := maxL) (ret := ret) hy rfl ?_
  intro p e s m args below meth c s₁ B hml hv
  obtain ⟨rfl, hsz, hP, hK, hD0, hN⟩ := hv
  subst hsz
  have hts := atoms_spec (ws := .code y cc maxL ret :: z_big) B.pre
  have hown : s.vm.findClass y.cls = some m.cls := findClass_of_methodNamed B.named
  rw [lg_entry_eq]
  have hl := lv_entry (as.map (z_con ad)) (n := maxL) (by rw [z_el_len]; exact hlen)
  refine body p e _ s m _ below meth c D dA ad ⟨⟨B.exec, B.bytes, hml, hown, fun w hw => hts w (List.mem_cons_of_mem _ hw), hK, fun q hq => Or.inr hq, hfl⟩, hN, ⟨Nat.le_refl _, Nat.le_refl _⟩, B.returns, B.notSynchronized⟩ s.heap [] _ hP (z_D_self hD0) va_S.rf ⟨?_, ?_⟩
  · unfold z_ent
    simp only [List.length_append, List.length_replicate]
    omega
  · unfold z_ent
    rw [z_al_el]
    exact hl
section ZC
variable {p : Program} {l : Launch} {e : Env} {R : Room} {s : State} {m : MethodId} {args : Array Value} {below : List Frame} {meth : Method} {c : Code} {D : va_G} {dA : Nat → ClassId} {A : Nat → Prop} {H0 : Heap} {nL : Nat} {ad : Nat → Nat} {Q : State → Prop} {own : String} {cc : ByteArray} {fl : z_Fl}
theorem z_ret_i {d sz n : Nat} {sh : z_Sh} {h : z_H} {Φ : Option Value → z_H → Prop} {pc : Nat} {ls : List (Option Value)} {v : Int32} (hB : z_B p R s m args meth c D dA (z_A ad n sz) own cc nL fl d (some .int)) (hn : n = sh.length) (hd : decode cc pc = .ok (.ireturn, 1)) (hΦ : Φ (some (.int v)) h) : z_Z p l e R s m args below meth c D dA (z_A ad n sz) s.heap nL ad (MQ below (z_Q D dA ad sz sh Φ) args s 0 0 (z_A ad n sz)) 0 0 pc ls [.int v] sh h := by
  subst hn
  exact fun H locs la hP hD hS hl => W.iret (v := v) hB.1.1 hB.1.2.1 hB.2.2.2.1 (fun t ht hW => ⟨⟨some (.int v), h, rfl, hΦ, by rw [ht]; exact hP⟩, hS.F ht⟩) hS.2.2 hd hB.2.2.2.2
theorem z_ret_z {d sz n : Nat} {sh : z_Sh} {h : z_H} {Φ : Option Value → z_H → Prop} {pc : Nat} {ls : List (Option Value)} {v : Int32} (hB : z_B p R s m args meth c D dA (z_A ad n sz) own cc nL fl d (some .boolean)) (hn : n = sh.length) (hv : v = 0 ∨ v = 1) (hd : decode cc pc = .ok (.ireturn, 1)) (hΦ : Φ (some (.int v)) h) : z_Z p l e R s m args below meth c D dA (z_A ad n sz) s.heap nL ad (MQ below (z_Q D dA ad sz sh Φ) args s 0 0 (z_A ad n sz)) 0 0 pc ls [.int v] sh h := by
  subst hn
  exact fun H locs la hP hD hS hl => W.zret (v := v) hB.1.1 hB.1.2.1 hB.2.2.2.1 (z_nar_b hv).1 (fun t ht hW => ⟨⟨some (.int v), h, rfl, hΦ, by rw [ht]; exact hP⟩, hS.F ht⟩) hS.2.2 hd hB.2.2.2.2
theorem z_ret_l {d sz n : Nat} {sh : z_Sh} {h : z_H} {Φ : Option Value → z_H → Prop} {pc : Nat} {ls : List (Option Value)} {v : Int64} (hB : z_B p R s m args meth c D dA (z_A ad n sz) own cc nL fl d (some .long)) (hn : n = sh.length) (hd : decode cc pc = .ok (.lreturn, 1)) (hΦ : Φ (some (.long v)) h) : z_Z p l e R s m args below meth c D dA (z_A ad n sz) s.heap nL ad (MQ below (z_Q D dA ad sz sh Φ) args s 0 0 (z_A ad n sz)) 0 0 pc ls [.long v] sh h := by
  subst hn
  exact fun H locs la hP hD hS hl => W.lret (v := v) hB.1.1 hB.1.2.1 hB.2.2.2.1 (fun t ht hW => ⟨⟨some (.long v), h, rfl, hΦ, by rw [ht]; exact hP⟩, hS.F ht⟩) hS.2.2 hd hB.2.2.2.2
theorem z_ret_v {d sz n : Nat} {sh : z_Sh} {h : z_H} {Φ : Option Value → z_H → Prop} {pc : Nat} {ls : List (Option Value)} (hB : z_B p R s m args meth c D dA (z_A ad n sz) own cc nL fl d none) (hn : n = sh.length) (hd : decode cc pc = .ok (.return_, 1)) (hΦ : Φ none h) : z_Z p l e R s m args below meth c D dA (z_A ad n sz) s.heap nL ad (MQ below (z_Q D dA ad sz sh Φ) args s 0 0 (z_A ad n sz)) 0 0 pc ls [] sh h := by
  subst hn
  exact fun H locs la hP hD hS hl => W.vret hB.1.1 hB.1.2.1 hB.2.2.2.1 (fun t ht hW => ⟨⟨none, h, rfl, hΦ, by rw [ht]; exact hP⟩, hS.F ht⟩) hS.2.2 hd hB.2.2.2.2
theorem z_A_in {h : z_H} {sh : z_Sh} {H : Heap} {locs : List Loc} (hA : ∀ q : Nat, H0.size ≤ q → A q) (hD : va_D A (z_wl dA ad h sh 0)) (hS : va_S A H0 H locs) : ∀ q, z_A ad sh.length H.size q → A q := fun q hq => by
  rcases hq with ⟨i, hi, rfl⟩ | hq
  · exact z_D_in hD hi
  · exact hA q (Nat.le_trans hS.1 hq)
set_option maxHeartbeats 1000000 in
theorem z_after {k n pc : Nat} {ls : List (Option Value)} {st0 : List Value} {rest : List Value} {sh : z_Sh} {h : z_H} {Φ : Option Value → z_H → Prop} {H : Heap} {locs : List Loc} {la : Array Slot} (hr : va_Run p l e R s m args below meth c H locs k n 0 0 (F0 m pc la st0) (rest.map (z_con ad)) (z_Q D dA ad H.size sh Φ args) (z_A ad sh.length H.size)) (hA : ∀ q : Nat, H0.size ≤ q → A q) (hD : va_D A (z_wl dA ad h sh 0)) (hS : va_S A H0 H locs) (hl : z_lo ad nL ls la)
    (kk : ∀ (rv : Option Value) (h' : z_H), Φ rv h' → z_Z p l e R s m args below meth c D dA A H0 nL ad Q k n (pc + 3) ls (rv.toList ++ rest) sh h') : W p l e R s m args below meth c H locs k n Q (F0 m pc la st0) := by
  intro T hT X
  obtain ⟨v, st₀, t, T', L, h0, X', hL, e1, e2, ⟨⟨rv, h', hv, hΦ, hP1⟩, hz, hk⟩, st⟩ := hr T hT X
  have hv : v = rv.map (z_con ad) := by injection hv
  subst hv
  rw [h0] at hz hk
  have hAA := z_A_in (ad := ad) (dA := dA) hA hD hS
  obtain ⟨t2, a1, b1⟩ := kk rv h' hΦ T'.heap (locs ++ L) la (by rw [e1]; exact hP1) (z_D_heap hD) ⟨Nat.le_trans hS.1 (by rw [e1]; exact hz), fun q h1 h2 => by rw [e1, hk q (Nat.lt_of_lt_of_le h1 hS.1) (fun z => h2 (hAA q z))]; exact hS.2.1 q h1 h2, fun q hq => by
      rcases List.mem_append.mp hq with h | h
      · exact hS.2.2 q h
      · exact hAA _ (hL q h)⟩ hl T' rfl X'
  refine ⟨t2, st t2 ?_, b1⟩
  have hst : (rv.toList ++ rest).map (z_con ad) = (rv.map (z_con ad)).toList ++ rest.map (z_con ad) := by
    cases rv <;> simp
  rw [hst] at a1
  exact a1
theorem z_good {w : Cond} (hw : w ∈ z_big) : GoodIn z_big (w :: z_big) := fun x hx => by
  have : x ∈ z_big := by
    rcases List.mem_cons.mp hx with rfl | h
    · exact hw
    · exact h
  exact ⟨this, good_of_word (z_big_good x this)⟩
/-- what a call's numbers must be: static -/
def z_okS (own : String) (idx : Nat) (y : MethodName) (cc : ByteArray) (maxL : Nat) (ret : Option FieldType) (n : Nat) : Prop :=
  (Cond.methodLink own idx y ∈ z_big ∧ Cond.static y ∈ z_big) ∧ Cond.initialized y.cls ∈ z_big ∧ Cond.code y cc maxL ret ∈ z_big ∧ (y.cls ≠ "java/lang/invoke/MethodHandle" ∧ y.cls ≠ "java/lang/invoke/VarHandle" ∧ (parseMethodDescriptor y.desc).map (fun d => d.parameters.length) = some n) ∧ maxL ≤ 45
def z_okSN (own host : String) (idx : Nat) (y : MethodName) (cc : ByteArray) (maxL : Nat) (ret : Option FieldType) (n : Nat) : Prop :=
  (Cond.methodLinkNest own idx y host ∈ z_nst ∧ Cond.static y ∈ z_big) ∧ Cond.initialized y.cls ∈ z_big ∧ Cond.code y cc maxL ret ∈ z_big ∧ (y.cls ≠ "java/lang/invoke/MethodHandle" ∧ y.cls ≠ "java/lang/invoke/VarHandle" ∧ (parseMethodDescriptor y.desc).map (fun d => d.parameters.length) = some n) ∧ maxL ≤ 45
def z_okV (own : String) (idx : Nat) (y : MethodName) (cc : ByteArray) (maxL : Nat) (ret : Option FieldType) (n : Nat) : Prop :=
  (Cond.methodLink own idx y ∈ z_big ∧ Cond.instanceMethod y ∈ z_big ∧ Cond.selects y.cls y y ∈ z_big) ∧ Cond.initialized y.cls ∈ z_big ∧ Cond.code y cc maxL ret ∈ z_big ∧ (y.cls ≠ "java/lang/invoke/MethodHandle" ∧ y.cls ≠ "java/lang/invoke/VarHandle" ∧ (parseMethodDescriptor y.desc).map (fun d => d.parameters.length) = some n) ∧ maxL ≤ 45
theorem z_rooms {R : Room} {d d' maxL : Nat} (hR : d ≤ R.frames ∧ 64 * d ≤ R.locals) (hd : d' + 1 ≤ d) (hm : maxL ≤ 45) : d' + 1 ≤ R.frames ∧ 8 + (maxL + 11) + 64 * d' ≤ R.locals := ⟨by omega, by omega⟩
theorem z_cats (ad : Nat → Nat) (rest : List Value) : ((rest.map (z_con ad)).map fun v => v.category).sum = (rest.map fun v => v.category).sum := by
  rw [List.map_map]
  congr 1
  exact List.map_congr_left (fun v _ => z_con_cat ad v)
set_option maxHeartbeats 1000000 in
theorem z_callS {y : MethodName} {cc' : ByteArray} {maxL idx na d d' k n pc : Nat} {ret : Option FieldType} {as rest : List Value} {ls : List (Option Value)} {st : List Value} {sh : z_Sh} {h : z_H} {Φ : Option Value → z_H → Prop} (hC : z_Cx p s m args c D dA A H0 own cc nL fl) (hN : z_Nt s) (hR : d ≤ R.frames ∧ 64 * d ≤ R.locals) (ok : z_okS own idx y cc' maxL ret na) (hdg : decode cc pc = .ok (.invokestatic idx, 3)) (hM : z_Sp l d' y cc' maxL ret as sh h Φ) (hd : d' + 1 ≤ d) (hn : as.length = na) (hst : st = as.reverse ++ rest) (hW : (rest.map fun v => v.category).sum ≤ 8) (hk : k ≤ R.cells ∧ n ≤ R.slots)
    (kk : ∀ (rv : Option Value) (h' : z_H), Φ rv h' → z_Z p l e R s m args below meth c D dA A H0 nL ad Q k n (pc + 3) ls (rv.toList ++ rest) sh h') : z_Z p l e R s m args below meth c D dA A H0 nL ad Q k n pc ls st sh h := by
  intro H locs la hP hD hS hl
  obtain ⟨hx, hb, hml, hown, hts, hK, hA, hfl⟩ := hC
  obtain ⟨⟨o1, o2⟩, o3, o4, o5, o6⟩ := ok
  subst hst
  have run := va_runS (e := e) (s := s) (R := R) (below := below) (meth := meth) (H := H) (locs := locs) (cells := k) (slots := n) (rest := rest.map (z_con ad)) (As := as.map (z_con ad)) (g := F0 m pc la ((as.reverse ++ rest).map (z_con ad))) ⟨hx, hb, hml, hown, hts⟩ (hM D dA ad H.size) ⟨callB_of na hts (z_good o4) rfl rfl rfl (hts _ o3) (hts _ o1) o5 (z_rooms hR hd o6), hts _ o2⟩ ⟨z_Pc_blind, fun U hU hW => ⟨rfl, by rw [hU], by rw [hU]; exact hP, va_K.moved hW.alike hK, hD.weaken (fun _ _ _ _ => trivial), z_Nt_warm hW hN⟩⟩ rfl (by rw [List.length_map]; exact hn) hl.2.1 (by simp) (lv_room (by rw [z_cats]; exact hW)) hdg ⟨hk.1, hk.2⟩
  exact z_after run hA hD hS hl kk
set_option maxHeartbeats 1000000 in
theorem z_callSN {y : MethodName} {host : String} {cc' : ByteArray} {maxL idx na d d' k n pc : Nat} {ret : Option FieldType} {as rest : List Value} {ls : List (Option Value)} {st : List Value} {sh : z_Sh} {h : z_H} {Φ : Option Value → z_H → Prop} (hC : z_Cx p s m args c D dA A H0 own cc nL fl) (hN : z_Nt s) (hR : d ≤ R.frames ∧ 64 * d ≤ R.locals) (ok : z_okSN own host idx y cc' maxL ret na) (hdg : decode cc pc = .ok (.invokestatic idx, 3)) (hM : z_Sp l d' y cc' maxL ret as sh h Φ) (hd : d' + 1 ≤ d) (hn : as.length = na) (hst : st = as.reverse ++ rest) (hW : (rest.map fun v => v.category).sum ≤ 8) (hk : k ≤ R.cells ∧ n ≤ R.slots)
    (kk : ∀ (rv : Option Value) (h' : z_H), Φ rv h' → z_Z p l e R s m args below meth c D dA A H0 nL ad Q k n (pc + 3) ls (rv.toList ++ rest) sh h') : z_Z p l e R s m args below meth c D dA A H0 nL ad Q k n pc ls st sh h := by
  intro H locs la hP hD hS hl
  obtain ⟨hx, hb, hml, hown, hts, hK, hA, hfl⟩ := hC
  obtain ⟨⟨o1, o2⟩, o3, o4, o5, o6⟩ := ok
  subst hst
  have run := va_runSN (e := e) (s := s) (R := R) (below := below) (meth := meth) (H := H) (locs := locs) (cells := k) (slots := n) (rest := rest.map (z_con ad)) (As := as.map (z_con ad)) (g := F0 m pc la ((as.reverse ++ rest).map (z_con ad))) ⟨hx, hb, hml, hown, hts⟩ (hM D dA ad H.size) ⟨va_cnB na hts (z_good o4) rfl rfl rfl (hN _ o1) (hts _ o3) o5 (z_rooms hR hd o6), hts _ o2, trivial⟩ ⟨z_Pc_blind, fun U hU hW => ⟨rfl, by rw [hU], by rw [hU]; exact hP, va_K.moved hW.alike hK, hD.weaken (fun _ _ _ _ => trivial), z_Nt_warm hW hN⟩⟩ rfl (by rw [List.length_map]; exact hn) hl.2.1 (by simp) (lv_room (by rw [z_cats]; exact hW)) hdg ⟨hk.1, hk.2⟩
  exact z_after run hA hD hS hl kk
set_option maxHeartbeats 1000000 in
theorem z_callV {y : MethodName} {cc' : ByteArray} {maxL idx na d d' k n pc o ci : Nat} {ks : List Nat} {T : u_T} {N : Nat} {ret : Option FieldType} {as rest : List Value} {ls : List (Option Value)} {st : List Value} {sh : z_Sh} {h : z_H} {Φ : Option Value → z_H → Prop} (hC : z_Cx p s m args c D dA A H0 own cc nL fl) (hN : z_Nt s) (hR : d ≤ R.frames ∧ 64 * d ≤ R.locals) (ok : z_okV own idx y cc' maxL ret na) (hdg : decode cc pc = .ok (.invokevirtual idx, 3)) (hM : z_Sp l d' y cc' maxL ret (.ref o :: as) sh h Φ) (hs : z_nth sh o = some (0, ci, ks)) (hcl : vwCl[ci]? = some (y.cls, T, N)) (hd : d' + 1 ≤ d) (hn : as.length = na) (hst : st = as.reverse ++ .ref o :: rest) (hW : (rest.map fun v => v.category).sum ≤ 8) (hk : k ≤ R.cells ∧ n ≤ R.slots)
    (kk : ∀ (rv : Option Value) (h' : z_H), Φ rv h' → z_Z p l e R s m args below meth c D dA A H0 nL ad Q k n (pc + 3) ls (rv.toList ++ rest) sh h') : z_Z p l e R s m args below meth c D dA A H0 nL ad Q k n pc ls st sh h := by
  intro H locs la hP hD hS hl
  obtain ⟨hx, hb, hml, hown, hts, hK, hA, hfl⟩ := hC
  obtain ⟨⟨o1, o2, o2'⟩, o3, o4, o5, o6⟩ := ok
  subst hst
  have run := va_runV (e := e) (s := s) (R := R) (below := below) (meth := meth) (H := H) (locs := locs) (cells := k) (slots := n) (rest := rest.map (z_con ad)) (As := as.map (z_con ad)) (b := ad o) (C := y.cls) (g := F0 m pc la ((as.reverse ++ .ref o :: rest).map (z_con ad))) ⟨hx, hb, hml, hown, hts⟩ (hM D dA ad H.size) ⟨callB_of na hts (z_good o4) rfl rfl rfl (hts _ o3) (hts _ o1) o5 (z_rooms hR hd o6), hts _ o2, hts _ o2'⟩ ⟨z_Pc_blind, va_recv hK hP hcl (z_wl_obj hs), fun U hU hW => ⟨rfl, by rw [hU], by rw [hU]; exact hP, va_K.moved hW.alike hK, hD.weaken (fun _ _ _ _ => trivial), z_Nt_warm hW hN⟩⟩ rfl (by rw [List.length_map]; exact hn) hl.2.1 (by simp [z_con]) (lv_room (by rw [z_cats]; exact hW)) hdg ⟨hk.1, hk.2⟩
  exact z_after run hA hD hS hl kk
end ZC
