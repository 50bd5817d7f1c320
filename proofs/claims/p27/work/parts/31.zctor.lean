/-! ===== constructors ===== -/
def z_agr (lo hi : Nat) (ad0 ad : Nat → Nat) : Prop := ∀ i, (i < lo ∨ hi ≤ i) → ad i = ad0 i
theorem z_agr_rf {lo hi : Nat} {ad : Nat → Nat} : z_agr lo hi ad ad := fun _ _ => rfl
theorem z_agr_new {lo hi : Nat} {ad0 ad ad' : Nat → Nat} (h : z_agr lo hi ad0 ad) (ha : z_ag hi ad ad') (hl : lo ≤ hi) : z_agr lo (hi + 1) ad0 ad' := fun i hi2 => by
  rw [ha i (by omega), h i (by omega)]
theorem z_agr_call {lo hi hi' : Nat} {ad0 ad ad' : Nat → Nat} (h : z_agr lo hi ad0 ad) (ha : z_agr hi hi' ad ad') (hl : lo ≤ hi) (hh : hi ≤ hi') : z_agr lo hi' ad0 ad' := fun i hi2 => by
  rw [ha i (by omega), h i (by omega)]
def z_Qc (D : va_G) (dA : Nat → ClassId) (ad : Nat → Nat) (sz : Nat) (sh sh' : z_Sh) (h' : z_H) : Array Value → State → Outcome → State → Prop := fun _ st o t => (∃ ad', o = .returned none ∧ z_agr sh.length sh'.length ad ad' ∧ va_P D vwCl (z_wl dA ad' h' sh' 0) t.heap ∧ va_D (z_A ad sh.length sz) (z_wl dA ad' h' sh' 0)) ∧ va_F (z_A ad sh.length sz) st t
/-- a constructor's contract: the world sh, h becomes sh', h' -/
def z_Spc (l : Launch) (d : Nat) (y : MethodName) (cc : ByteArray) (maxL mc ms : Nat) (as : List Value) (sh : z_Sh) (h : z_H) (sh' : z_Sh) (h' : z_H) : Prop :=
  ∀ (D : va_G) (dA : Nat → ClassId) (ad : Nat → Nat) (sz : Nat), Met l y (.code y cc maxL none :: z_big) { frames := d, cells := mc, slots := ms, locals := 64 * d } (z_Pc D dA ad sz as sh h) (z_Qc D dA ad sz sh sh' h') mc ms (z_A ad sh.length sz)
def z_Bc (p : Program) (R : Room) (s : State) (m : MethodId) (args : Array Value) (meth : Method) (c : Code) (D : va_G) (dA : Nat → ClassId) (A : Nat → Prop) (own : String) (cc : ByteArray) (nL : Nat) (fl : z_Fl) (d mc ms : Nat) : Prop :=
  z_B p R s m args meth c D dA A own cc nL fl d none ∧ meth.name = "<init>" ∧ R.cells = mc ∧ R.slots = ms
set_option maxHeartbeats 1000000 in
theorem z_enterc {l : Launch} {d mc ms : Nat} {y : MethodName} {cc : ByteArray} {maxL : Nat} {as : List Value} {sh sh' : z_Sh} {h h' : z_H} (fl : z_Fl) (hy : plainName y.cls = true) (hyn : y.name = "<init>") (hfl : z_fsok y.cls fl) (hlen : (z_el as).length ≤ maxL)
    (body : ∀ (p : Program) (e : Env) (R : Room) (s : State) (m : MethodId) (args : Array Value) (below : List Frame) (meth : Method) (c : Code) (D : va_G) (dA : Nat → ClassId) (ad : Nat → Nat), z_Bc p R s m args meth c D dA (z_A ad sh.length s.heap.size) y.cls cc maxL fl d mc ms → z_Z p l e R s m args below meth c D dA (z_A ad sh.length s.heap.size) s.heap maxL ad (MQ below (z_Qc D dA ad s.heap.size sh sh' h') args s mc ms (z_A ad sh.length s.heap.size)) 0 0 0 (z_ent maxL as) [] sh h) :
    z_Spc l d y cc maxL mc ms as sh h sh' h' := by
  intro D dA ad sz
  refine Met.ofW (cc := cc) (maxL := maxL) (ret := none) hy rfl ?_
  intro p e s m args below meth c s₁ B hml hv
  obtain ⟨rfl, hsz, hP, hK, hD0, hN⟩ := hv
  subst hsz
  have hts := atoms_spec (ws := .code y cc maxL none :: z_big) B.pre
  have hown : s.vm.findClass y.cls = some m.cls := findClass_of_methodNamed B.named
  have hin : meth.name = "<init>" := ((name_of_methodNamed B.named B.method).1).trans hyn
  rw [lg_entry_eq]
  have hl := lv_entry (as.map (z_con ad)) (n := maxL) (by rw [z_el_len]; exact hlen)
  refine body p e _ s m _ below meth c D dA ad ⟨⟨⟨B.exec, B.bytes, hml, hown, fun w hw => hts w (List.mem_cons_of_mem _ hw), hK, fun q hq => Or.inr hq, hfl⟩, hN, ⟨Nat.le_refl _, Nat.le_refl _⟩, B.returns, B.notSynchronized⟩, hin, rfl, rfl⟩ s.heap [] _ hP (z_D_self hD0) va_S.rf ⟨?_, ?_⟩
  · unfold z_ent
    simp only [List.length_append, List.length_replicate]
    omega
  · unfold z_ent
    rw [z_al_el]
    exact hl
def z_belv (N N2 : Nat) : Value → Bool
  | .ref r => Nat.blt r N || Nat.ble N2 r
  | _ => true
def z_belo (N N2 : Nat) : Option Value → Bool
  | some v => z_belv N N2 v
  | none => true
def z_bel (N N2 : Nat) (ls : List (Option Value)) (st : List Value) : Bool := ls.all (z_belo N N2) && st.all (z_belv N N2)
theorem z_con_bel {lo hi : Nat} {ad ad' : Nat → Nat} (ha : z_agr lo hi ad ad') {v : Value} (hv : z_belv lo hi v = true) : z_con ad' v = z_con ad v := by
  cases v with
  | ref r =>
    have : r < lo ∨ hi ≤ r := by simpa [z_belv] using hv
    simp [z_con, ha r this]
  | _ => rfl
theorem z_map_bel {lo hi : Nat} {ad ad' : Nat → Nat} (ha : z_agr lo hi ad ad') : ∀ (st : List Value), st.all (z_belv lo hi) = true → st.map (z_con ad') = st.map (z_con ad)
  | [], _ => rfl
  | v :: r, hv => by
    simp only [List.all_cons, Bool.and_eq_true] at hv
    rw [List.map_cons, List.map_cons, z_con_bel ha hv.1, z_map_bel ha r hv.2]
theorem z_al_bel {lo hi : Nat} {ad ad' : Nat → Nat} (ha : z_agr lo hi ad ad') : ∀ (ls : List (Option Value)) (i : Nat), ls.all (z_belo lo hi) = true → z_al ad' ls i = z_al ad ls i
  | [], _, _ => rfl
  | none :: r, i, h => by
    simp only [List.all_cons, Bool.and_eq_true] at h
    exact z_al_bel ha r (i + 1) h.2
  | some v :: r, i, h => by
    simp only [List.all_cons, Bool.and_eq_true] at h
    show (i, z_con ad' v) :: z_al ad' r (i + 1) = (i, z_con ad v) :: z_al ad r (i + 1)
    rw [z_con_bel ha h.1, z_al_bel ha r (i + 1) h.2]
section ZCT
variable {p : Program} {l : Launch} {e : Env} {R : Room} {s : State} {m : MethodId} {args : Array Value} {below : List Frame} {meth : Method} {c : Code} {D : va_G} {dA : Nat → ClassId} {A : Nat → Prop} {H0 : Heap} {nL : Nat} {ad : Nat → Nat} {Q : State → Prop} {own : String} {cc : ByteArray} {fl : z_Fl}
variable {k n pc : Nat} {ls : List (Option Value)} {st : List Value} {sh sh' : z_Sh} {h h' : z_H}
theorem z_retc {d mc ms N : Nat} {ad0 : Nat → Nat} {sh0 : z_Sh} (hB : z_Bc p R s m args meth c D dA (z_A ad0 N s.heap.size) own cc nL fl d mc ms) (hn : N = sh0.length) (ha : z_agr sh0.length sh.length ad0 ad) (hk : k ≤ mc ∧ n ≤ ms) (hd : decode cc pc = .ok (.return_, 1)) : z_Z p l e R s m args below meth c D dA (z_A ad0 N s.heap.size) s.heap nL ad (MQ below (z_Qc D dA ad0 s.heap.size sh0 sh h) args s mc ms (z_A ad0 N s.heap.size)) k n pc ls [] sh h := by
  subst hn
  exact fun H locs la hP hD hS hl => W.widen hk.1 hk.2 (W.vret hB.1.1.1 hB.1.1.2.1 hB.1.2.2.2.1 (fun t ht hW => ⟨⟨ad, rfl, ha, by rw [ht]; exact hP, hD⟩, hS.F ht⟩) hS.2.2 hd hB.1.2.2.2.2)
set_option maxHeartbeats 1000000 in
theorem z_afterc {mc' ms' : Nat} {st0 rest : List Value} {H : Heap} {locs : List Loc} {la : Array Slot} (hr : va_Run p l e R s m args below meth c H locs k n mc' ms' (F0 m pc la st0) (rest.map (z_con ad)) (z_Qc D dA ad H.size sh sh' h' args) (z_A ad sh.length H.size)) (hA : ∀ q : Nat, H0.size ≤ q → A q) (hD : va_D A (z_wl dA ad h sh 0)) (hS : va_S A H0 H locs) (hl : z_lo ad nL ls la) (hbel : z_bel sh.length sh'.length ls rest = true)
    (kk : ∀ ad', z_agr sh.length sh'.length ad ad' → z_Z p l e R s m args below meth c D dA A H0 nL ad' Q (k + mc') (n + ms') (pc + 3) ls rest sh' h') : W p l e R s m args below meth c H locs k n Q (F0 m pc la st0) := by
  intro T hT X
  obtain ⟨v, st₀, t, T', L, h0, X', hL, e1, e2, ⟨⟨ad', hv, hag, hP1, hD1⟩, hz, hk⟩, st⟩ := hr T hT X
  have hv : v = none := by injection hv
  subst hv
  rw [h0] at hz hk
  simp only [z_bel, Bool.and_eq_true] at hbel
  have hAA := z_A_in (ad := ad) (dA := dA) hA hD hS
  obtain ⟨t2, a1, b1⟩ := kk ad' hag T'.heap (locs ++ L) la (by rw [e1]; exact hP1) (hD1.weaken (fun _ q _ hq => hAA q.1 hq)) ⟨Nat.le_trans hS.1 (by rw [e1]; exact hz), fun q h1 h2 => by rw [e1, hk q (Nat.lt_of_lt_of_le h1 hS.1) (fun z => h2 (hAA q z))]; exact hS.2.1 q h1 h2, fun q hq => by
      rcases List.mem_append.mp hq with h | h
      · exact hS.2.2 q h
      · exact hAA _ (hL q h)⟩ ⟨hl.1, by rw [z_al_bel hag ls 0 hbel.1]; exact hl.2⟩ T' rfl X'
  refine ⟨t2, st t2 ?_, b1⟩
  rw [z_map_bel hag rest hbel.2] at a1
  exact a1
/-- the words of a constructor's call -/
def z_okI (own : String) (idx : Nat) (y : MethodName) (cc : ByteArray) (maxL n : Nat) : Prop :=
  (Cond.methodLink own idx y ∈ z_big ∧ Cond.instanceMethod y ∈ z_big ∧ y.name = "<init>") ∧ Cond.initialized y.cls ∈ z_big ∧ Cond.code y cc maxL none ∈ z_big ∧ (y.cls ≠ "java/lang/invoke/MethodHandle" ∧ y.cls ≠ "java/lang/invoke/VarHandle" ∧ (parseMethodDescriptor y.desc).map (fun d => d.parameters.length) = some n) ∧ maxL ≤ 45
def z_okIN (own host : String) (idx : Nat) (y : MethodName) (cc : ByteArray) (maxL n : Nat) : Prop :=
  (Cond.methodLinkNest own idx y host ∈ z_nst ∧ Cond.instanceMethod y ∈ z_big ∧ y.name = "<init>") ∧ Cond.initialized y.cls ∈ z_big ∧ Cond.code y cc maxL none ∈ z_big ∧ (y.cls ≠ "java/lang/invoke/MethodHandle" ∧ y.cls ≠ "java/lang/invoke/VarHandle" ∧ (parseMethodDescriptor y.desc).map (fun d => d.parameters.length) = some n) ∧ maxL ≤ 45
set_option maxHeartbeats 1000000 in
theorem z_callI {y : MethodName} {cc' : ByteArray} {maxL idx na d d' o mc' ms' : Nat} {as rest : List Value} (hC : z_Cx p s m args c D dA A H0 own cc nL fl) (hN : z_Nt s) (hR : d ≤ R.frames ∧ 64 * d ≤ R.locals) (ok : z_okI own idx y cc' maxL na) (hdg : decode cc pc = .ok (.invokespecial idx, 3)) (hM : z_Spc l d' y cc' maxL mc' ms' (.ref o :: as) sh h sh' h') (hd : d' + 1 ≤ d) (hn : as.length = na) (hst : st = as.reverse ++ .ref o :: rest) (hW : (rest.map fun v => v.category).sum ≤ 8) (hk : k + mc' ≤ R.cells ∧ n + ms' ≤ R.slots) (hbel : z_bel sh.length sh'.length ls rest = true)
    (kk : ∀ ad', z_agr sh.length sh'.length ad ad' → z_Z p l e R s m args below meth c D dA A H0 nL ad' Q (k + mc') (n + ms') (pc + 3) ls rest sh' h') : z_Z p l e R s m args below meth c D dA A H0 nL ad Q k n pc ls st sh h := by
  intro H locs la hP hD hS hl
  obtain ⟨hx, hb, hml, hown, hts, hK, hA, hfl⟩ := hC
  obtain ⟨⟨o1, o2, o2'⟩, o3, o4, o5, o6⟩ := ok
  subst hst
  have run := va_runI (e := e) (s := s) (R := R) (below := below) (meth := meth) (H := H) (locs := locs) (cells := k) (slots := n) (rest := rest.map (z_con ad)) (As := as.map (z_con ad)) (b := ad o) (g := F0 m pc la ((as.reverse ++ .ref o :: rest).map (z_con ad))) ⟨hx, hb, hml, hown, hts⟩ (hM D dA ad H.size) (cwI na hts (z_good o4) rfl rfl rfl (hts _ o3) (hts _ o1) (hts _ o2) o2' o5 (z_rooms hR hd o6)) ⟨z_Pc_blind, fun U hU hW => ⟨rfl, by rw [hU], by rw [hU]; exact hP, va_K.moved hW.alike hK, hD.weaken (fun _ _ _ _ => trivial), z_Nt_warm hW hN⟩⟩ rfl (by rw [List.length_map]; exact hn) hl.2.1 (by simp [z_con]) (lv_room (by rw [z_cats]; exact hW)) hdg ⟨hk.1, hk.2⟩
  exact z_afterc run hA hD hS hl hbel kk
set_option maxHeartbeats 1000000 in
theorem z_callIN {y : MethodName} {host : String} {cc' : ByteArray} {maxL idx na d d' o mc' ms' : Nat} {as rest : List Value} (hC : z_Cx p s m args c D dA A H0 own cc nL fl) (hN : z_Nt s) (hR : d ≤ R.frames ∧ 64 * d ≤ R.locals) (ok : z_okIN own host idx y cc' maxL na) (hdg : decode cc pc = .ok (.invokespecial idx, 3)) (hM : z_Spc l d' y cc' maxL mc' ms' (.ref o :: as) sh h sh' h') (hd : d' + 1 ≤ d) (hn : as.length = na) (hst : st = as.reverse ++ .ref o :: rest) (hW : (rest.map fun v => v.category).sum ≤ 8) (hk : k + mc' ≤ R.cells ∧ n + ms' ≤ R.slots) (hbel : z_bel sh.length sh'.length ls rest = true)
    (kk : ∀ ad', z_agr sh.length sh'.length ad ad' → z_Z p l e R s m args below meth c D dA A H0 nL ad' Q (k + mc') (n + ms') (pc + 3) ls rest sh' h') : z_Z p l e R s m args below meth c D dA A H0 nL ad Q k n pc ls st sh h := by
  intro H locs la hP hD hS hl
  obtain ⟨hx, hb, hml, hown, hts, hK, hA, hfl⟩ := hC
  obtain ⟨⟨o1, o2, o2'⟩, o3, o4, o5, o6⟩ := ok
  subst hst
  have run := va_runIN (e := e) (s := s) (R := R) (below := below) (meth := meth) (H := H) (locs := locs) (cells := k) (slots := n) (rest := rest.map (z_con ad)) (As := as.map (z_con ad)) (b := ad o) (g := F0 m pc la ((as.reverse ++ .ref o :: rest).map (z_con ad))) ⟨hx, hb, hml, hown, hts⟩ (hM D dA ad H.size) ⟨va_cnB na hts (z_good o4) rfl rfl rfl (hN _ o1) (hts _ o3) o5 (z_rooms hR hd o6), o2', hts _ o2⟩ ⟨z_Pc_blind, fun U hU hW => ⟨rfl, by rw [hU], by rw [hU]; exact hP, va_K.moved hW.alike hK, hD.weaken (fun _ _ _ _ => trivial), z_Nt_warm hW hN⟩⟩ rfl (by rw [List.length_map]; exact hn) hl.2.1 (by simp [z_con]) (lv_room (by rw [z_cats]; exact hW)) hdg ⟨hk.1, hk.2⟩
  exact z_afterc run hA hD hS hl hbel kk
end ZCT
/-! a call, in a constructor, on what belongs to the other object -/
section ZCQ
variable {p : Program} {l : Launch} {e : Env} {R : Room} {s : State} {m : MethodId} {args : Array Value} {below : List Frame} {meth : Method} {c : Code} {D : va_G} {dA : Nat → ClassId} {A : Nat → Prop} {H0 : Heap} {nL : Nat} {ad : Nat → Nat} {Q : State → Prop} {own : String} {cc : ByteArray} {fl : z_Fl}
set_option maxHeartbeats 1000000 in
theorem z_callVq {y : MethodName} {cc' : ByteArray} {maxL idx d d' k n pc ci : Nat} (o o' : Nat) {ks : List Nat} {T : u_T} {N : Nat} {ret : Option FieldType} {rest : List Value} {ls : List (Option Value)} {st : List Value} {h g : z_H} {Φ : Option Value → z_H → Prop} (hC : z_Cx p s m args c D dA A H0 own cc nL fl) (hN : z_Nt s) (hR : d ≤ R.frames ∧ 64 * d ≤ R.locals) (ok : z_okV own idx y cc' maxL ret 0) (hdg : decode cc pc = .ok (.invokevirtual idx, 3)) (hM : z_Sp l d' y cc' maxL ret [.ref o] z_d (z_sw h) Φ) (hs : z_nth z_d o = some (0, ci, ks)) (hcl : vwCl[ci]? = some (y.cls, T, N)) (hd : d' + 1 ≤ d) (ho : z_sg o' = o) (hst : st = .ref o' :: rest) (hW : ((rest.map z_sv).map fun v => v.category).sum ≤ 8) (hk : k ≤ R.cells ∧ n ≤ R.slots) (hΦ : ∀ rv h', Φ rv h' → rv = none ∧ h' = g)
    (kk : z_Z p l e R s m args below meth c D dA A H0 nL ad Q k n (pc + 3) ls rest z_d (z_sw g)) : z_Z p l e R s m args below meth c D dA A H0 nL ad Q k n pc ls st z_d h := by
  refine z_swp (z_callV (rest := rest.map z_sv) hC hN hR ok hdg hM hs hcl hd rfl ?_ hW hk (fun rv h' q => z_swb ?_))
  · rw [hst, ← ho]; rfl
  · obtain ⟨e1, e2⟩ := hΦ rv h' q
    subst e1; subst e2
    show z_Z p l e R s m args below meth c D dA A H0 nL ad Q k n (pc + 3) ls ((rest.map z_sv).map z_sv) z_d (z_sw h')
    rw [z_msv2]
    exact kk
end ZCQ
