section
-- ===== PART A: goes FIRST, ahead of the names: the tables' words, and 'selects' of the private methods out of them =====
/-- a private method of a class that the tables say can be made, by its rows of tables_1 -/
def lw_okq (q : MethodName × Nat) : Prop := (q.1.cls ≠ "java/lang/invoke/MethodHandle" ∧ q.1.cls ≠ "java/lang/invoke/VarHandle") ∧ Cond.instantiable q.1.cls q.2 ∈ tables_1 ∧ Cond.privateMethod q.1 ∈ tables_1 ∧ Cond.instanceMethod q.1 ∈ tables_1
theorem lw_p0 : lw_okq (⟨"Coilworm$Board", "joinBy", "(I)V"⟩, 4) := ⟨⟨by decide +kernel, by decide +kernel⟩, List.mem_of_getElem? (i := 26) (by decide +kernel), List.mem_of_getElem? (i := 187) (by decide +kernel), List.mem_of_getElem? (i := 188) (by decide +kernel)⟩
theorem lw_p1 : lw_okq (⟨"Coilworm$Cycle", "nextRoundTree", "(I)I"⟩, 5) := ⟨⟨by decide +kernel, by decide +kernel⟩, List.mem_of_getElem? (i := 46) (by decide +kernel), List.mem_of_getElem? (i := 225) (by decide +kernel), List.mem_of_getElem? (i := 226) (by decide +kernel)⟩
theorem lw_p2 : lw_okq (⟨"Coilworm$Player", "wayOfBody", "()I"⟩, 3) := ⟨⟨by decide +kernel, by decide +kernel⟩, List.mem_of_getElem? (i := 118) (by decide +kernel), List.mem_of_getElem? (i := 289) (by decide +kernel), List.mem_of_getElem? (i := 290) (by decide +kernel)⟩
theorem lw_p3 : lw_okq (⟨"java/lang/Throwable", "fillInStackTrace", "(I)Ljava/lang/Throwable;"⟩, 6) := ⟨⟨by decide +kernel, by decide +kernel⟩, List.mem_of_getElem? (i := 368) (by decide +kernel), List.mem_of_getElem? (i := 366) (by decide +kernel), List.mem_of_getElem? (i := 367) (by decide +kernel)⟩
theorem lw_p4 : lw_okq (⟨"Coilworm$FeedRow", "cellAfter", "(I)I"⟩, 3) := ⟨⟨by decide +kernel, by decide +kernel⟩, List.mem_of_getElem? (i := 68) (by decide +kernel), List.mem_of_getElem? (i := 403) (by decide +kernel), List.mem_of_getElem? (i := 404) (by decide +kernel)⟩
theorem lw_p5 : lw_okq (⟨"Coilworm", "checkLivingWorm", "()V"⟩, 6) := ⟨⟨by decide +kernel, by decide +kernel⟩, List.mem_of_getElem? (i := 18) (by decide +kernel), List.mem_of_getElem? (i := 487) (by decide +kernel), List.mem_of_getElem? (i := 488) (by decide +kernel)⟩
theorem lw_p6 : lw_okq (⟨"Coilworm", "checkCycle", "()V"⟩, 6) := ⟨⟨by decide +kernel, by decide +kernel⟩, List.mem_of_getElem? (i := 18) (by decide +kernel), List.mem_of_getElem? (i := 645) (by decide +kernel), List.mem_of_getElem? (i := 646) (by decide +kernel)⟩
theorem lw_p7 : lw_okq (⟨"Coilworm", "checkPlaceOfCycle", "(I)V"⟩, 6) := ⟨⟨by decide +kernel, by decide +kernel⟩, List.mem_of_getElem? (i := 18) (by decide +kernel), List.mem_of_getElem? (i := 658) (by decide +kernel), List.mem_of_getElem? (i := 659) (by decide +kernel)⟩
theorem lw_p8 : lw_okq (⟨"Coilworm$Cycle", "makeRing", "(I)V"⟩, 5) := ⟨⟨by decide +kernel, by decide +kernel⟩, List.mem_of_getElem? (i := 46) (by decide +kernel), List.mem_of_getElem? (i := 677) (by decide +kernel), List.mem_of_getElem? (i := 678) (by decide +kernel)⟩
theorem lw_p9 : lw_okq (⟨"Coilworm$Cycle", "makeOneOfTwo", "(I)V"⟩, 5) := ⟨⟨by decide +kernel, by decide +kernel⟩, List.mem_of_getElem? (i := 46) (by decide +kernel), List.mem_of_getElem? (i := 681) (by decide +kernel), List.mem_of_getElem? (i := 682) (by decide +kernel)⟩
theorem lw_p10 : lw_okq (⟨"Coilworm$Foresight", "eatsFromOneOf", "(LCoilworm$Bodies;ILCoilworm$Bodies;)Z"⟩, 6) := ⟨⟨by decide +kernel, by decide +kernel⟩, List.mem_of_getElem? (i := 134) (by decide +kernel), List.mem_of_getElem? (i := 754) (by decide +kernel), List.mem_of_getElem? (i := 755) (by decide +kernel)⟩
theorem lw_p11 : lw_okq (⟨"Coilworm$Foresight", "follow", "(II)V"⟩, 6) := ⟨⟨by decide +kernel, by decide +kernel⟩, List.mem_of_getElem? (i := 134) (by decide +kernel), List.mem_of_getElem? (i := 771) (by decide +kernel), List.mem_of_getElem? (i := 772) (by decide +kernel)⟩
theorem lw_p12 : lw_okq (⟨"Coilworm$Foresight", "eatsByOneStep", "(ILCoilworm$Bodies;)Z"⟩, 6) := ⟨⟨by decide +kernel, by decide +kernel⟩, List.mem_of_getElem? (i := 134) (by decide +kernel), List.mem_of_getElem? (i := 778) (by decide +kernel), List.mem_of_getElem? (i := 779) (by decide +kernel)⟩
def lw_privs_1 : List (MethodName × Nat) := [(⟨"Coilworm$Board", "joinBy", "(I)V"⟩, 4), (⟨"Coilworm$Cycle", "nextRoundTree", "(I)I"⟩, 5), (⟨"Coilworm$Player", "wayOfBody", "()I"⟩, 3), (⟨"java/lang/Throwable", "fillInStackTrace", "(I)Ljava/lang/Throwable;"⟩, 6), (⟨"Coilworm$FeedRow", "cellAfter", "(I)I"⟩, 3), (⟨"Coilworm", "checkLivingWorm", "()V"⟩, 6), (⟨"Coilworm", "checkCycle", "()V"⟩, 6), (⟨"Coilworm", "checkPlaceOfCycle", "(I)V"⟩, 6), (⟨"Coilworm$Cycle", "makeRing", "(I)V"⟩, 5), (⟨"Coilworm$Cycle", "makeOneOfTwo", "(I)V"⟩, 5), (⟨"Coilworm$Foresight", "eatsFromOneOf", "(LCoilworm$Bodies;ILCoilworm$Bodies;)Z"⟩, 6), (⟨"Coilworm$Foresight", "follow", "(II)V"⟩, 6), (⟨"Coilworm$Foresight", "eatsByOneStep", "(ILCoilworm$Bodies;)Z"⟩, 6)]
theorem lw_r1 : ∀ q ∈ lw_privs_1, lw_okq q := List.forall_mem_cons.mpr ⟨lw_p0, List.forall_mem_cons.mpr ⟨lw_p1, List.forall_mem_cons.mpr ⟨lw_p2, List.forall_mem_cons.mpr ⟨lw_p3, List.forall_mem_cons.mpr ⟨lw_p4, List.forall_mem_cons.mpr ⟨lw_p5, List.forall_mem_cons.mpr ⟨lw_p6, List.forall_mem_cons.mpr ⟨lw_p7, List.forall_mem_cons.mpr ⟨lw_p8, List.forall_mem_cons.mpr ⟨lw_p9, List.forall_mem_cons.mpr ⟨lw_p10, List.forall_mem_cons.mpr ⟨lw_p11, List.forall_mem_cons.mpr ⟨lw_p12, fun _ h => absurd h List.not_mem_nil⟩⟩⟩⟩⟩⟩⟩⟩⟩⟩⟩⟩⟩
def lw_privs : List (MethodName × Nat) := lw_privs_1
def lw_tbl : List Cond := k2_sels lw_privs ++ tables_1
theorem lw_privs_ok : ∀ q ∈ lw_privs, lw_okq q := lw_r1
end
section
/-! ===== BEGIN words of one list among another's, by their places ===== -/
theorem goodIn_r {big : List Cond} (ws : List Cond) (ps : List Nat) (hp : ws = ps.filterMap (fun i => big[i]?)) (h : ws.all goodWord = true) : GoodIn big ws := by
  intro w hw
  have h1 := List.all_eq_true.mp h w hw
  rw [hp] at hw
  obtain ⟨i, -, hi⟩ := List.mem_filterMap.mp hw
  have hm : w ∈ big := by first | exact List.mem_of_getElem? hi | exact List.getElem?_mem hi
  exact ⟨hm, good_of_word h1⟩
theorem goodIn_app {big a b : List Cond} (ha : GoodIn big a) (hb : GoodIn big b) : GoodIn big (a ++ b) := fun w h => (List.mem_append.mp h).elim (ha w) (hb w)
theorem goodIn_ca {big a b : List Cond} {c : Cond} (ha : GoodIn big (c :: a)) (hb : GoodIn big b) : GoodIn big (c :: (a ++ b)) := fun w h => (List.mem_cons.mp h).elim (fun e => ha w (List.mem_cons.mpr (Or.inl e))) (fun h => (List.mem_append.mp h).elim (fun h => ha w (List.mem_cons.mpr (Or.inr h))) (hb w))
theorem goodIn_sub {big ws : List Cond} (hm : ∀ w ∈ ws, w ∈ big) (h : ws.all goodWord = true) : GoodIn big ws := fun w hw => ⟨hm w hw, good_of_word (List.all_eq_true.mp h w hw)⟩
/-! ===== END ===== -/

/-! ===== BEGIN exceptions that leave a method, and their catching by the caller (launches without stack traces) ===== -/
section VXA
/-! The laws vx_back, vx_callV, vx_callS, vx_callSW, vx_throw0, vx_throwS follow proofs of the library, with one case more: JvmDerived/Free/Laws.lean (Back.of_free), Shelf42/LK1.lean (callV, callS), Shelf/KitTraced.lean (throwNew0V, throwNewS). -/
/-- where a method has thrown q: the class by its name, the cell, what was written, the world -/
def vx_T (XC : String → State → State → Prop) (st : State) (q : Addr) (t : State) (mc ms : Nat) (free : Addr → Prop) : Prop :=
  ∃ (E : String) (ce : Cell) (L : List Loc), XC E st t ∧ t.heap[q]? = some ce ∧ ce.vm = .none ∧ st.vm.findClass E = some ce.cls ∧ st.WarmedH t.vm ∧ st.sameButNew ({ t with vm := st.vm } : State) L mc ms ∧ ∀ z ∈ L, free z.base
def vx_Q (Qc : Array Value → State → Outcome → State → Prop) (XC : String → State → State → Prop) (mc ms : Nat) (free : Addr → Prop) : Array Value → State → Outcome → State → Prop := fun a st o t =>
  (Qc a st o t ∧ ∃ L, FrameEnd st o t L mc ms ∧ ∀ q ∈ L, free q.base) ∨ ∃ q, o = .threw q ∧ vx_T XC st q t mc ms free
/-- a callee that returns or throws -/
def vx_Met (l : Launch) (y : MethodName) (ws : List Cond) (rm : Room) (Pc : Array Value → State → Prop) (Qc : Array Value → State → Outcome → State → Prop) (XC : String → State → State → Prop) (mc ms : Nat) (free : Addr → Prop) : Prop :=
  MetFree l y (headSpec ws rm) Pc (fun _ _ _ _ _ => True) (vx_Q Qc XC mc ms free)
def vx_Post (XC : String → State → State → Prop) (mc ms : Nat) (free : Addr → Prop) : Pt → Array Value → Addr → Pt → Prop := fun A a q B =>
  ∃ (g : JFrame) (mk : MethodId) (t : State) (L : List Loc) (E : String) (ce : Cell), B.U.heap = t.heap ∧ B.U.vm = t.vm ∧ XC E (A.U.calling g mk a) t ∧ t.heap[q]? = some ce ∧ ce.vm = .none ∧ A.U.vm.findClass E = some ce.cls ∧ B.locs = A.locs ++ L ∧ (∀ z ∈ L, free z.base) ∧ B.cells = A.cells + mc ∧ B.slots = A.slots + ms
def vx_Back (l : Launch) (R : Room) (p : Program) (e : Env) (below : List Frame) (s : State) (sargs : Array Value) (y : MethodName) (len W9 : Nat)
    (Pre : Pt → Array Value → Prop) (Post : Pt → Array Value → Option Value → Pt → Prop) (PostX : Pt → Array Value → Addr → Pt → Prop) : Prop :=
  ∀ (m : MethodId) (meth : Method) (c : Code) (A : Pt) (g : JFrame) (ig : Instr) (mk : MethodId) (a : Array Value),
    Stand p l e R s m sargs below meth c A.U A.locs A.cells A.slots → g.method = m → g.locals.size = c.maxLocals → decode c.code g.pc = .ok (ig, len) →
    2 * g.monitorRoom + (g.stack.map fun v => v.category).sum ≤ W9 → A.U.methodNamed? y = some mk → Pre A a →
    (∃ (v : Option Value) (B : Pt), Stand p l e R s m sargs below meth c B.U B.locs B.cells B.slots ∧ Post A a v B ∧
      Steps p.tables e below (doInvoke e (A.U.setTop g) [] mk a).1 (B.U.setTop { g with pc := g.pc + len, stack := v.toList ++ g.stack })) ∨
    (∃ (q : Addr) (B : Pt), Stand p l e R s m sargs below meth c B.U B.locs B.cells B.slots ∧ PostX A a q B ∧
      Steps p.tables e below (doInvoke e (A.U.setTop g) [] mk a).1 ((B.U.setTop g).pushFrame (.throwing q)))
section Payer
variable {l : Launch} {R : Room} {p : Program} {e : Env} {below : List Frame} {s : State} {sargs : Array Value} {y : MethodName} {len W9 : Nat}
theorem vx_back {ws : List Cond} {rm : Room} {Pc : Array Value → State → Prop} {Qc : Array Value → State → Outcome → State → Prop} {XC : String → State → State → Prop} {mc ms : Nat} {free : Addr → Prop} {bytes : ByteArray} {maxL : Nat} {ret : Option FieldType}
    (hM : vx_Met l y ws rm Pc Qc XC mc ms free) (hblind : FrameBlind Pc) (hrc : rm.cells = mc) (hrs : rm.slots = ms)
    (hframes : rm.frames + 1 ≤ R.frames) (hlocals : W9 + (maxL + 11) + rm.locals ≤ R.locals)
    (hws : ∀ w ∈ ws, ∀ a' U, s.WarmedH U.vm → w.before a' U = true) (hcode : Cond.code y bytes maxL ret ∈ ws) (hinit : ∀ a' U, s.WarmedH U.vm → (Cond.initialized y.cls).before a' U = true) :
    vx_Back l R p e below s sargs y len W9 (PreOf R mc ms Pc) (PostOf Qc mc ms free) (vx_Post XC mc ms free) := by
  intro m meth c A g ig mk a X hg hsize hdg hW hn hp
  have h1 : (headSpec ws rm).pre.before a A.U = true := atoms_intro fun w hw => hws w hw _ _ X.warmed
  have h2 : (Cond.code y bytes maxL ret).before a A.U = true := hws _ hcode _ _ X.warmed
  have h3 : (Cond.initialized y.cls).before a A.U = true := hinit _ _ X.warmed
  have h4 : A.cells + (headSpec ws rm).room.cells ≤ R.cells := by rw [show (headSpec ws rm).room.cells = mc from hrc]; exact hp.1
  have h5 : A.slots + (headSpec ws rm).room.slots ≤ R.slots := by rw [show (headSpec ws rm).room.slots = ms from hrs]; exact hp.2.1
  have hPc : Pc a (A.U.calling g mk a) := hblind _ _ _ _ hp.2.2
  obtain ⟨U, Ls, c0, s0⟩ := A
  dsimp only [Pt.U, Pt.locs, Pt.cells, Pt.slots] at h1 h2 h3 h4 h5 X hn hPc ⊢
  obtain ⟨methY, cY, hmY, hcY, -, hlY, -, -, -, -⟩ := Cond.code_spec hn h2
  obtain ⟨kY, hkY, -⟩ := className_of_methodNamed hn
  have hinitY : kY.init = .initialized := Cond.initialized_spec (findClass_of_methodNamed hn) hkY h3
  have h : At U g.method c below := by rw [hg]; exact X.here
  have hlocals9 : W9 + (maxL + 11) + (headSpec ws rm).room.locals ≤ R.locals := hlocals
  have happ : (headSpec ws rm).appliesLoose y e.platform (U.calling g mk a) = true :=
    Spec.appliesLoose_calling (g := g) h hdg hn hkY hinitY
      (X.room_calling (g := g) (R' := (headSpec ws rm).room) hsize hmY hcY hframes (by rw [hlY]; omega) h4 h5) h1
  obtain ⟨mid, hmid⟩ := h.above
  have hfr : (U.setTop g).frames = (.java g :: mid) ++ below := by rw [State.frames_setTop' g h.top, hmid]; rfl
  obtain ⟨o, s₂, hsteps, -, hend, hq⟩ := Steps.callFree hM p X.admits X.cas X.clock (acts := []) hfr happ hPc trivial
  have hq' : vx_Q Qc XC mc ms free a (U.calling g mk a) o s₂ := hq
  rw [State.frames_setTop' g h.top] at hend
  obtain ⟨g₀, hg0⟩ := Option.isSome_iff_exists.mp h.top
  obtain ⟨r, hr⟩ := State.topJava?_eq_some.mp hg0
  have hr' : (({ U with heap := s₂.heap, slotsUsed := s₂.slotsUsed } : State).setVm s₂.vm).frames = .java g₀ :: r := hr
  rcases hq' with ⟨hqc, L, hfe, hL⟩ | ⟨q, rfl, E, ce, L, hx, hce, hcv, hcl, hW₂, hsm, hL⟩
  · obtain ⟨⟨v, rfl⟩, hW₂, e2, q2, q3, q4, q5, q6⟩ := id hfe
    have e3 : s₂ = ({ (U.calling g mk a).setFrames s₂.frames with heap := s₂.heap, slotsUsed := s₂.slotsUsed } : State).setVm s₂.vm := by
      have : s₂ = ({ s₂ with vm := (U.calling g mk a).vm } : State).setVm s₂.vm := rfl
      rw [e2] at this
      exact this
    obtain ⟨c₂, i₂, len₂, hc₂, hd₂, hf₂⟩ := hend
    have hW' : U.WarmedH s₂.vm := hW₂
    have hcc : c₂ = c := by
      have h1 : s₂.code? g.method = U.code? g.method := by
        rw [State.code?_eq, State.code?_eq, hW'.alike.method?]
      exact Option.some.inj (hc₂.symm.trans (h1.trans h.code))
    subst hcc
    have hlen : len₂ = len := by rw [hdg] at hd₂; cases hd₂; rfl
    subst hlen
    have hs₂ : s₂ = (({ U with heap := s₂.heap, slotsUsed := s₂.slotsUsed } : State).setVm s₂.vm).setTop { g with pc := g.pc + len₂, stack := v.toList ++ g.stack } := by
      refine e3.trans ?_
      rw [hf₂, State.calling_eq h.top, State.setFrames_setFrames, State.setTop_of_frames _ hr', hr]
      rfl
    have hsame : U.sameButNew ({ U with heap := s₂.heap, slotsUsed := s₂.slotsUsed } : State) L mc ms := by
      refine ⟨?_, q2, q3, q4, q5, q6⟩
      obtain ⟨t, ht, -⟩ := State.frames_cons hr
      show ({ U with heap := s₂.heap, slotsUsed := s₂.slotsUsed } : State) = { U.setFrames U.frames with heap := s₂.heap, slotsUsed := s₂.slotsUsed }
      rw [State.setFrames_self ht]
    subst hg
    refine Or.inl ⟨v, ⟨(({ U with heap := s₂.heap, slotsUsed := s₂.slotsUsed } : State).setVm s₂.vm), Ls ++ L, c0 + mc, s0 + ms⟩,
      ⟨X.admits, X.cas, X.clock, X.frames, X.room, X.hears, X.method, X.code, (X.here.setHeapUsed s₂.heap s₂.slotsUsed).setVm hW'.alike, X.tail, State.WarmedH.trans X.warmed hW', X.limits, X.bytes, X.same.trans (hsame.setVm s.vm)⟩,
      ⟨g, mk, s₂, L, rfl, rfl, hqc, rfl, hL, rfl, rfl⟩, ?_⟩
    show Steps p.tables e below _ ((({ U with heap := s₂.heap, slotsUsed := s₂.slotsUsed } : State).setVm s₂.vm).setTop { g with pc := g.pc + len₂, stack := v.toList ++ g.stack })
    rw [← hs₂]
    exact hsteps
  · obtain ⟨e2, q2, q3, q4, q5, q6⟩ := id hsm
    have e3 : s₂ = ({ (U.calling g mk a).setFrames s₂.frames with heap := s₂.heap, slotsUsed := s₂.slotsUsed } : State).setVm s₂.vm := by
      have : s₂ = ({ s₂ with vm := (U.calling g mk a).vm } : State).setVm s₂.vm := rfl
      rw [e2] at this
      exact this
    have hf₂ : s₂.frames = .throwing q :: .java g :: U.frames.tail := hend
    have hW' : U.WarmedH s₂.vm := hW₂
    have hs₂ : s₂ = ((({ U with heap := s₂.heap, slotsUsed := s₂.slotsUsed } : State).setVm s₂.vm).setTop g).pushFrame (.throwing q) := by
      refine e3.trans ?_
      rw [hf₂, State.calling_eq h.top, State.setFrames_setFrames, State.pushFrame, State.frames_setTop _ hr', State.setTop_of_frames _ hr', State.setFrames_setFrames, hr]
      rfl
    have hsame : U.sameButNew ({ U with heap := s₂.heap, slotsUsed := s₂.slotsUsed } : State) L mc ms := by
      refine ⟨?_, q2, q3, q4, q5, q6⟩
      obtain ⟨t, ht, -⟩ := State.frames_cons hr
      show ({ U with heap := s₂.heap, slotsUsed := s₂.slotsUsed } : State) = { U.setFrames U.frames with heap := s₂.heap, slotsUsed := s₂.slotsUsed }
      rw [State.setFrames_self ht]
    subst hg
    refine Or.inr ⟨q, ⟨(({ U with heap := s₂.heap, slotsUsed := s₂.slotsUsed } : State).setVm s₂.vm), Ls ++ L, c0 + mc, s0 + ms⟩,
      ⟨X.admits, X.cas, X.clock, X.frames, X.room, X.hears, X.method, X.code, (X.here.setHeapUsed s₂.heap s₂.slotsUsed).setVm hW'.alike, X.tail, State.WarmedH.trans X.warmed hW', X.limits, X.bytes, X.same.trans (hsame.setVm s.vm)⟩,
      ⟨g, mk, s₂, L, E, ce, rfl, rfl, hx, hce, hcv, hcl, rfl, hL, rfl, rfl⟩, ?_⟩
    show Steps p.tables e below _ (((({ U with heap := s₂.heap, slotsUsed := s₂.slotsUsed } : State).setVm s₂.vm).setTop g).pushFrame (.throwing q))
    rw [← hs₂]
    exact hsteps
end Payer
section Calls
variable {p : Program} {l : Launch} {e : Env} {R : Room} {s : State} {m : MethodId} {args : Array Value} {below : List Frame} {meth : Method} {c : Code} {T : State} {locs : List Loc} {cells slots : Nat}
theorem vx_callV (X : Stand p l e R s m args below meth c T locs cells slots) (hexec : p.tables.exec = Jvm.exec) {own C : String} {index : Nat} {y : MethodName} {bytes : ByteArray} {maxL : Nat} {ret : Option FieldType}
    (hown : s.vm.findClass own = some m.cls) (hlink : (Cond.methodLink own index y).before args s = true) (hinst : (Cond.instanceMethod y).before args s = true) (hsel : (Cond.selects C y y).before args s = true)
    (hcode : (Cond.code y bytes maxL ret).before args s = true) (hy : y.cls ≠ "java/lang/invoke/MethodHandle" ∧ y.cls ≠ "java/lang/invoke/VarHandle")
    {W9 : Nat} {Pre : Pt → Array Value → Prop} {Post : Pt → Array Value → Option Value → Pt → Prop} {PostX : Pt → Array Value → Addr → Pt → Prop} (hK : vx_Back l R p e below s args y 3 W9 Pre Post PostX)
    {b : Addr} {cellB : Cell} (hcell : T.heap[b]? = some cellB) (hobj : cellB.vm.isStatics = false) (hcls : s.vm.findClass C = some cellB.cls)
    {g : JFrame} (hg : g.method = m) (hsize : g.locals.size = c.maxLocals) {argsL rest : List Value} (hlen : ∀ sig, parseMethodDescriptor y.desc = some sig → argsL.length = sig.parameters.length)
    (hstack : g.stack = argsL.reverse ++ .ref b :: rest) (hW : 2 * g.monitorRoom + (rest.map fun v => v.category).sum ≤ W9) (hdg : decode c.code g.pc = .ok (.invokevirtual index, 3))
    (hpre : ∀ vm₁, s.WarmedH vm₁ → Pre ⟨T.setVm vm₁, locs, cells, slots⟩ (Value.ref b :: argsL).toArray) :
    (∃ (v : Option Value) (vm₁ : Vm) (B : Pt), s.WarmedH vm₁ ∧ Stand p l e R s m args below meth c B.U B.locs B.cells B.slots ∧ Post ⟨T.setVm vm₁, locs, cells, slots⟩ (Value.ref b :: argsL).toArray v B ∧
      ∀ target, Steps p.tables e below (B.U.setTop { g with pc := g.pc + 3, stack := v.toList ++ rest }) target → Steps p.tables e below (T.setTop g) target) ∨
    (∃ (q : Addr) (vm₁ : Vm) (B : Pt), s.WarmedH vm₁ ∧ Stand p l e R s m args below meth c B.U B.locs B.cells B.slots ∧ PostX ⟨T.setVm vm₁, locs, cells, slots⟩ (Value.ref b :: argsL).toArray q B ∧
      Steps p.tables e below (T.setTop g) ((B.U.setTop { g with stack := rest }).pushFrame (.throwing q))) := by
  obtain ⟨mk, methM, hnamed, hmethM, hstM, habM⟩ := Cond.instanceMethod_spec hinst
  obtain ⟨methM', cM, hmethM', -, -, -, -, -, -, hsigM⟩ := Cond.code_spec hnamed hcode
  cases hmethM.symm.trans hmethM'
  obtain ⟨c2, r2, m2, q1, q2, q3, q4, kP, hkP, hkPi⟩ := Cond.selects_spec hsel
  cases hcls.symm.trans q1
  cases (State.methodFound?_of_named hnamed hy).symm.trans q2
  cases hnamed.symm.trans q3
  have hselP : selectMethod e.platform s.vm cellB.cls mk = .method mk := by rw [Launch.admits_selectMethod X.admits]; exact q4
  obtain ⟨vm₁, X₁, hstep₁⟩ := X.invokevirtual hexec hown hlink hnamed hmethM hstM hkP hkPi hy (a := b) (cell := cellB) hcell
    (fun z h => by rw [h] at hobj; cases hobj) hselP hmethM habM hkP hkPi (g := g) hg (argsL := argsL) (rest := rest) (hlen _ hsigM) hstack hdg
  rcases hK m meth c ⟨T.setVm vm₁, locs, cells, slots⟩ { g with stack := rest } (.invokevirtual index) mk (Value.ref b :: argsL).toArray X₁ hg hsize hdg hW (X₁.named hnamed) (hpre vm₁ X₁.warmed) with ⟨v, B, X', hpost, hsteps⟩ | ⟨q, B, X', hpost, hsteps⟩
  · exact Or.inl ⟨v, vm₁, B, X₁.warmed, X', hpost, fun target h => hstep₁ _ fun acts => by rw [doInvoke_state]; exact hsteps.trans h⟩
  · exact Or.inr ⟨q, vm₁, B, X₁.warmed, X', hpost, hstep₁ _ fun acts => by rw [doInvoke_state]; exact hsteps⟩
theorem vx_callS (X : Stand p l e R s m args below meth c T locs cells slots) (hexec : p.tables.exec = Jvm.exec) {own : String} {index : Nat} {y : MethodName} {bytes : ByteArray} {maxL : Nat} {ret : Option FieldType}
    (hown : s.vm.findClass own = some m.cls) (hlink : (Cond.methodLink own index y).before args s = true) (hstat : (Cond.static y).before args s = true) (hinit : (Cond.initialized y.cls).before args s = true)
    (hcode : (Cond.code y bytes maxL ret).before args s = true) (hy : y.cls ≠ "java/lang/invoke/MethodHandle" ∧ y.cls ≠ "java/lang/invoke/VarHandle")
    {W9 : Nat} {Pre : Pt → Array Value → Prop} {Post : Pt → Array Value → Option Value → Pt → Prop} {PostX : Pt → Array Value → Addr → Pt → Prop} (hK : vx_Back l R p e below s args y 3 W9 Pre Post PostX)
    {g : JFrame} (hg : g.method = m) (hsize : g.locals.size = c.maxLocals) {argsL rest : List Value} (hlen : ∀ sig, parseMethodDescriptor y.desc = some sig → argsL.length = sig.parameters.length)
    (hstack : g.stack = argsL.reverse ++ rest) (hW : 2 * g.monitorRoom + (rest.map fun v => v.category).sum ≤ W9) (hdg : decode c.code g.pc = .ok (.invokestatic index, 3))
    (hpre : ∀ vm₁, s.WarmedH vm₁ → Pre ⟨T.setVm vm₁, locs, cells, slots⟩ argsL.toArray) :
    (∃ (v : Option Value) (vm₁ : Vm) (B : Pt), s.WarmedH vm₁ ∧ Stand p l e R s m args below meth c B.U B.locs B.cells B.slots ∧ Post ⟨T.setVm vm₁, locs, cells, slots⟩ argsL.toArray v B ∧
      ∀ target, Steps p.tables e below (B.U.setTop { g with pc := g.pc + 3, stack := v.toList ++ rest }) target → Steps p.tables e below (T.setTop g) target) ∨
    (∃ (q : Addr) (vm₁ : Vm) (B : Pt), s.WarmedH vm₁ ∧ Stand p l e R s m args below meth c B.U B.locs B.cells B.slots ∧ PostX ⟨T.setVm vm₁, locs, cells, slots⟩ argsL.toArray q B ∧
      Steps p.tables e below (T.setTop g) ((B.U.setTop { g with stack := rest }).pushFrame (.throwing q))) := by
  obtain ⟨mk, hnamed⟩ := Cond.code_named hcode
  obtain ⟨methM, cM, hmethM, -, -, -, -, -, -, hsigM⟩ := Cond.code_spec hnamed hcode
  have hstatic : methM.isStatic = true := Cond.static_spec hnamed hmethM hstat
  obtain ⟨kP, hkP, -⟩ := className_of_methodNamed hnamed
  have hinitP : kP.init = .initialized := Cond.initialized_spec (findClass_of_methodNamed hnamed) hkP hinit
  obtain ⟨vm₁, X₁, hstep₁⟩ := X.invokestatic hexec hown hlink hnamed hmethM hstatic hkP hinitP hy (g := g) hg (argsL := argsL) (rest := rest) (hlen _ hsigM) hstack hdg
  rcases hK m meth c ⟨T.setVm vm₁, locs, cells, slots⟩ { g with stack := rest } (.invokestatic index) mk argsL.toArray X₁ hg hsize hdg hW (X₁.named hnamed) (hpre vm₁ X₁.warmed) with ⟨v, B, X', hpost, hsteps⟩ | ⟨q, B, X', hpost, hsteps⟩
  · exact Or.inl ⟨v, vm₁, B, X₁.warmed, X', hpost, fun target h => hstep₁ _ fun acts => by rw [doInvoke_state]; exact hsteps.trans h⟩
  · exact Or.inr ⟨q, vm₁, B, X₁.warmed, X', hpost, hstep₁ _ fun acts => by rw [doInvoke_state]; exact hsteps⟩
end Calls
theorem vx_cls {s : State} {T : State} {vm₁ : Vm} {E : String} {k : ClassId} (hW : s.WarmedH vm₁) (h : (T.setVm vm₁).vm.findClass E = some k) : s.vm.findClass E = some k := by
  have h1 : vm₁.findClass E = some k := h
  rw [hW.alike.findClass] at h1
  exact h1
/-- the method's frame g, with q thrown over it -/
def vx_W (p : Program) (l : Launch) (e : Env) (R : Room) (s : State) (m : MethodId) (args : Array Value) (below : List Frame) (meth : Method) (c : Code) (H : Heap) (locs : List Loc) (cells slots : Nat) (Q : State → Prop) (g : JFrame) (q : Addr) : Prop :=
  ∀ T : State, T.heap = H → Stand p l e R s m args below meth c T locs cells slots → ∃ t, Steps p.tables e below ((T.setTop g).pushFrame (.throwing q)) t ∧ Q t
def vx_Run (p : Program) (l : Launch) (e : Env) (R : Room) (s : State) (m : MethodId) (args : Array Value) (below : List Frame) (meth : Method) (c : Code) (H : Heap) (locs : List Loc) (cells slots mc ms : Nat) (g : JFrame) (rest : List Value) (Qa : State → Outcome → State → Prop) (XC : String → State → State → Prop) (free : Addr → Prop) : Prop :=
  ∀ T : State, T.heap = H → Stand p l e R s m args below meth c T locs cells slots →
    (∃ (v : Option Value) (st₀ t T' : State) (L : List Loc), st₀.heap = H ∧ Stand p l e R s m args below meth c T' (locs ++ L) (cells + mc) (slots + ms) ∧ (∀ q ∈ L, free q.base) ∧ T'.heap = t.heap ∧ T'.vm = t.vm ∧ Qa st₀ (.returned v) t ∧
      Goes p e below T g T' { g with pc := g.pc + 3, stack := v.toList ++ rest }) ∨
    (∃ (q : Addr) (st₀ t T' : State) (L : List Loc) (E : String) (ce : Cell), st₀.heap = H ∧ Stand p l e R s m args below meth c T' (locs ++ L) (cells + mc) (slots + ms) ∧ (∀ z ∈ L, free z.base) ∧ T'.heap = t.heap ∧ T'.vm = t.vm ∧ XC E st₀ t ∧ t.heap[q]? = some ce ∧ ce.vm = .none ∧ s.vm.findClass E = some ce.cls ∧
      Steps p.tables e below (T.setTop g) ((T'.setTop { g with stack := rest }).pushFrame (.throwing q)))
def vx_X {S : Type} (px : S → Prop) (B : String → S → State → Prop) (A : Nat → Prop) : String → State → State → Prop := fun E st t => ∃ u : S, px u ∧ B E u t ∧ va_F A st t
section Runs
variable {p : Program} {l : Launch} {e : Env} {R : Room} {s : State} {m : MethodId} {args : Array Value} {below : List Frame} {meth : Method} {c : Code} {H : Heap} {locs : List Loc} {cells slots : Nat}
variable {y : MethodName} {bytes cc : ByteArray} {maxL nL mc ms n index : Nat} {ret : Option FieldType} {ws : List Cond} {rm : Room} {Pc : Array Value → State → Prop} {Qc : Array Value → State → Outcome → State → Prop} {XC : String → State → State → Prop} {free : Addr → Prop} {Ts : List Cond} {own C : String} {b : Addr} {As rest : List Value} {g : JFrame}
theorem vx_callBack (cb : CallB R s args own index y bytes maxL ret ws rm mc ms n) (hM : vx_Met l y ws rm Pc Qc XC mc ms free) (hbl : FrameBlind Pc) : vx_Back l R p e below s args y 3 8 (PreOf R mc ms Pc) (PostOf Qc mc ms free) (vx_Post XC mc ms free) := by
  obtain ⟨hrc, hrs, hfr, hlo, hws, hcw, -, hini, -⟩ := cb
  exact vx_back (bytes := bytes) (maxL := maxL) (ret := ret) hM hbl hrc hrs hfr hlo hws hcw (fun a' U hW => word_at hW (Or.inl (by first | rfl | simp [Cond.onTables, Cond.keeps, Cond.steady])) hini)
theorem vx_runV (S : CallFix p m c cc nL s args Ts own) (hM : vx_Met l y ws rm Pc Qc XC mc ms free) (cw : CallW R s args own C index y bytes maxL ret ws rm mc ms n) (hp : PreV s H C b Pc As)
    (hg : g.method = m) (hn : As.length = n) (hsize : g.locals.size = nL) (hstack : g.stack = As.reverse ++ .ref b :: rest) (hW : 2 * g.monitorRoom + (rest.map fun v => v.category).sum ≤ 8) (hdg : decode cc g.pc = .ok (.invokevirtual index, 3)) (hf : cells + mc ≤ R.cells ∧ slots + ms ≤ R.slots) :
    vx_Run p l e R s m args below meth c H locs cells slots mc ms g rest (Qc (Value.ref b :: As).toArray) XC free := by
  have hK : vx_Back l R p e below s args y 3 8 (PreOf R mc ms Pc) (PostOf Qc mc ms free) (vx_Post XC mc ms free) := vx_callBack cw.1 hM hp.1
  obtain ⟨⟨-, -, -, -, -, -, hcode, -, hy, hlen, hl⟩, hin, hse⟩ := cw
  obtain ⟨hx, hb, hml, ho, -⟩ := S
  obtain ⟨-, ⟨cellB, hcB, hoB, hclB⟩, hPc⟩ := hp
  intro T hT X
  rcases vx_callV X hx (C := C) (bytes := bytes) (maxL := maxL) (ret := ret) ho hl hin hse hcode hy hK (by rw [hT]; exact hcB) hoB hclB hg (hsize.trans hml.symm) (argsL := As) (rest := rest) (fun sig h => hn.trans (hlen sig h)) hstack hW (by rw [hb]; exact hdg)
    (fun vm₁ hW₁ => ⟨hf.1, hf.2, hPc (T.setVm vm₁) hT hW₁⟩) with ⟨v, vm₁, ⟨U', l2, c2, s2⟩, hW₁, X', ⟨g', mk, t, L, e1, e2, hq, h1, hL, h2, h3⟩, st⟩ | ⟨q, vm₁, ⟨U', l2, c2, s2⟩, hW₁, X', ⟨g', mk, t, L, E, ce, e1, e2, hq, hce, hcv, hcl, h1, hL, h2, h3⟩, st⟩
  · dsimp only [Pt.U, Pt.locs, Pt.cells, Pt.slots] at X' e1 e2 h1 h2 h3 st
    subst h1; subst h2; subst h3
    exact Or.inl ⟨v, (T.setVm vm₁).calling g' mk (Value.ref b :: As).toArray, t, U', L, hT, X', hL, e1, e2, hq, st⟩
  · dsimp only [Pt.U, Pt.locs, Pt.cells, Pt.slots] at X' e1 e2 h1 h2 h3 st hcl
    subst h1; subst h2; subst h3
    exact Or.inr ⟨q, (T.setVm vm₁).calling g' mk (Value.ref b :: As).toArray, t, U', L, E, ce, hT, X', hL, e1, e2, hq, hce, hcv, vx_cls hW₁ hcl, st⟩
theorem vx_runS (S : CallFix p m c cc nL s args Ts own) (hM : vx_Met l y ws rm Pc Qc XC mc ms free) (cw : CallB R s args own index y bytes maxL ret ws rm mc ms n ∧ (Cond.static y).before args s = true) (hp : PreS s H Pc As)
    (hg : g.method = m) (hn : As.length = n) (hsize : g.locals.size = nL) (hstack : g.stack = As.reverse ++ rest) (hW : 2 * g.monitorRoom + (rest.map fun v => v.category).sum ≤ 8) (hdg : decode cc g.pc = .ok (.invokestatic index, 3)) (hf : cells + mc ≤ R.cells ∧ slots + ms ≤ R.slots) :
    vx_Run p l e R s m args below meth c H locs cells slots mc ms g rest (Qc As.toArray) XC free := by
  have hK : vx_Back l R p e below s args y 3 8 (PreOf R mc ms Pc) (PostOf Qc mc ms free) (vx_Post XC mc ms free) := vx_callBack cw.1 hM hp.1
  obtain ⟨⟨-, -, -, -, -, -, hcode, hini, hy, hlen, hl⟩, hstt⟩ := cw
  obtain ⟨hx, hb, hml, ho, -⟩ := S
  intro T hT X
  rcases vx_callS X hx (bytes := bytes) (maxL := maxL) (ret := ret) ho hl hstt hini hcode hy hK hg (hsize.trans hml.symm) (argsL := As) (rest := rest) (fun sig h => hn.trans (hlen sig h)) hstack hW (by rw [hb]; exact hdg)
    (fun vm₁ hW₁ => ⟨hf.1, hf.2, hp.2 (T.setVm vm₁) hT hW₁⟩) with ⟨v, vm₁, ⟨U', l2, c2, s2⟩, hW₁, X', ⟨g', mk, t, L, e1, e2, hq, h1, hL, h2, h3⟩, st⟩ | ⟨q, vm₁, ⟨U', l2, c2, s2⟩, hW₁, X', ⟨g', mk, t, L, E, ce, e1, e2, hq, hce, hcv, hcl, h1, hL, h2, h3⟩, st⟩
  · dsimp only [Pt.U, Pt.locs, Pt.cells, Pt.slots] at X' e1 e2 h1 h2 h3 st
    subst h1; subst h2; subst h3
    exact Or.inl ⟨v, (T.setVm vm₁).calling g' mk As.toArray, t, U', L, hT, X', hL, e1, e2, hq, st⟩
  · dsimp only [Pt.U, Pt.locs, Pt.cells, Pt.slots] at X' e1 e2 h1 h2 h3 st hcl
    subst h1; subst h2; subst h3
    exact Or.inr ⟨q, (T.setVm vm₁).calling g' mk As.toArray, t, U', L, E, ce, hT, X', hL, e1, e2, hq, hce, hcv, vx_cls hW₁ hcl, st⟩
end Runs
section Rows
variable {p : Program} {l : Launch} {e : Env} {R : Room} {s : State} {m : MethodId} {args : Array Value} {below : List Frame} {meth : Method} {c : Code} {H : Heap} {locs : List Loc} {cells slots : Nat} {Q : State → Prop}
variable {mc ms : Nat} {free : Addr → Prop} {A0 A1 : Nat → Prop} {H0 : Heap} {a : Array Value} {pc : Nat} {ls : Array Slot} {st0 rest : List Value}
theorem vx_keep {st₀ t T' : State} {L : List Loc} (h0 : st₀.heap = H) (e1 : T'.heap = t.heap) (hS : va_S A0 H0 H locs) (hA : ∀ q, q < H.size → A1 q → A0 q) (hf : ∀ q, free q → A0 q) (hL : ∀ q ∈ L, free q.base) (hF : va_F A1 st₀ t) :
    H.size ≤ T'.heap.size ∧ (∀ q : Nat, q < H.size → ¬ A1 q → T'.heap[q]? = H[q]?) ∧ va_S A0 H0 T'.heap (locs ++ L) := by
  obtain ⟨hz, hk⟩ := hF
  rw [h0] at hz hk
  exact ⟨by rw [e1]; exact hz, fun q h1 h2 => by rw [e1]; exact hk q h1 h2,
    ⟨Nat.le_trans hS.1 (by rw [e1]; exact hz), fun q h1 h2 => by rw [e1, hk q (Nat.lt_of_lt_of_le h1 hS.1) (fun z => h2 (hA q (Nat.lt_of_lt_of_le h1 hS.1) z))]; exact hS.2.1 q h1 h2, fun q hq => by
      rcases List.mem_append.mp hq with h | h
      · exact hS.2.2 q h
      · exact hf _ (hL q h)⟩⟩
theorem vx_calli {S SX : Type} {post : Int32 → S → Prop} {px : SX → Prop} {B : S → State → Prop} {BX : String → SX → State → Prop} {AX : Nat → Prop} (hr : vx_Run p l e R s m args below meth c H locs cells slots mc ms (F0 m pc ls st0) rest (va_Qi post B A1 a) (vx_X px BX AX) free) (hS : va_S A0 H0 H locs) (hA : ∀ q, q < H.size → A1 q → A0 q) (hf : ∀ q, free q → A0 q) (hAX : ∀ q, q < H.size → AX q → A0 q)
    (kx : ∀ (E : String) (ce : Cell) (q9 : Addr) (u : SX) (t : State) (H1 : Heap) (locs1 : List Loc), t.heap = H1 → s.vm.Alike t.vm → px u → BX E u t → H.size ≤ H1.size → (∀ q : Nat, q < H.size → ¬ AX q → H1[q]? = H[q]?) → va_S A0 H0 H1 locs1 → H1[q9]? = some ce → ce.vm = .none → s.vm.findClass E = some ce.cls → vx_W p l e R s m args below meth c H1 locs1 (cells + mc) (slots + ms) Q (F0 m pc ls rest) q9)
    (kk : ∀ (r : Int32) (u : S) (t : State) (H1 : Heap) (locs1 : List Loc), t.heap = H1 → s.vm.Alike t.vm → post r u → B u t → H.size ≤ H1.size → (∀ q : Nat, q < H.size → ¬ A1 q → H1[q]? = H[q]?) → va_S A0 H0 H1 locs1 → W p l e R s m args below meth c H1 locs1 (cells + mc) (slots + ms) Q (F0 m (pc + 3) ls (.int r :: rest))) : W p l e R s m args below meth c H locs cells slots Q (F0 m pc ls st0) := by
  intro T hT X
  rcases hr T hT X with ⟨v, st₀, t, T', L, h0, X', hL, e1, e2, ⟨⟨r, u, hv, hp, hb⟩, hF⟩, st⟩ | ⟨q, st₀, t, T', L, E, ce, h0, X', hL, e1, e2, ⟨u, hp, hb, hF⟩, hce, hcv, hcl, st⟩
  · cases hv
    obtain ⟨k1, k2, k3⟩ := vx_keep h0 e1 hS hA hf hL hF
    obtain ⟨t2, a1, b1⟩ := kk r u t T'.heap (locs ++ L) e1.symm (by rw [← e2]; exact X'.warmed.alike) hp hb k1 k2 k3 T' rfl X'
    exact ⟨t2, st t2 a1, b1⟩
  · obtain ⟨k1, k2, k3⟩ := vx_keep h0 e1 hS hAX hf hL hF
    obtain ⟨t2, a1, b1⟩ := kx E ce q u t T'.heap (locs ++ L) e1.symm (by rw [← e2]; exact X'.warmed.alike) hp hb k1 k2 k3 (by rw [e1]; exact hce) hcv hcl T' rfl X'
    exact ⟨t2, st.trans a1, b1⟩
theorem vx_calll {S SX : Type} {post : Int64 → S → Prop} {px : SX → Prop} {B : S → State → Prop} {BX : String → SX → State → Prop} {AX : Nat → Prop} (hr : vx_Run p l e R s m args below meth c H locs cells slots mc ms (F0 m pc ls st0) rest (va_Ql post B A1 a) (vx_X px BX AX) free) (hS : va_S A0 H0 H locs) (hA : ∀ q, q < H.size → A1 q → A0 q) (hf : ∀ q, free q → A0 q) (hAX : ∀ q, q < H.size → AX q → A0 q)
    (kx : ∀ (E : String) (ce : Cell) (q9 : Addr) (u : SX) (t : State) (H1 : Heap) (locs1 : List Loc), t.heap = H1 → s.vm.Alike t.vm → px u → BX E u t → H.size ≤ H1.size → (∀ q : Nat, q < H.size → ¬ AX q → H1[q]? = H[q]?) → va_S A0 H0 H1 locs1 → H1[q9]? = some ce → ce.vm = .none → s.vm.findClass E = some ce.cls → vx_W p l e R s m args below meth c H1 locs1 (cells + mc) (slots + ms) Q (F0 m pc ls rest) q9)
    (kk : ∀ (r : Int64) (u : S) (t : State) (H1 : Heap) (locs1 : List Loc), t.heap = H1 → s.vm.Alike t.vm → post r u → B u t → H.size ≤ H1.size → (∀ q : Nat, q < H.size → ¬ A1 q → H1[q]? = H[q]?) → va_S A0 H0 H1 locs1 → W p l e R s m args below meth c H1 locs1 (cells + mc) (slots + ms) Q (F0 m (pc + 3) ls (.long r :: rest))) : W p l e R s m args below meth c H locs cells slots Q (F0 m pc ls st0) := by
  intro T hT X
  rcases hr T hT X with ⟨v, st₀, t, T', L, h0, X', hL, e1, e2, ⟨⟨r, u, hv, hp, hb⟩, hF⟩, st⟩ | ⟨q, st₀, t, T', L, E, ce, h0, X', hL, e1, e2, ⟨u, hp, hb, hF⟩, hce, hcv, hcl, st⟩
  · cases hv
    obtain ⟨k1, k2, k3⟩ := vx_keep h0 e1 hS hA hf hL hF
    obtain ⟨t2, a1, b1⟩ := kk r u t T'.heap (locs ++ L) e1.symm (by rw [← e2]; exact X'.warmed.alike) hp hb k1 k2 k3 T' rfl X'
    exact ⟨t2, st t2 a1, b1⟩
  · obtain ⟨k1, k2, k3⟩ := vx_keep h0 e1 hS hAX hf hL hF
    obtain ⟨t2, a1, b1⟩ := kx E ce q u t T'.heap (locs ++ L) e1.symm (by rw [← e2]; exact X'.warmed.alike) hp hb k1 k2 k3 (by rw [e1]; exact hce) hcv hcl T' rfl X'
    exact ⟨t2, st.trans a1, b1⟩
theorem vx_callf {S SX : Type} {post : UInt32 → S → Prop} {px : SX → Prop} {B : S → State → Prop} {BX : String → SX → State → Prop} {AX : Nat → Prop} (hr : vx_Run p l e R s m args below meth c H locs cells slots mc ms (F0 m pc ls st0) rest (va_Qf post B A1 a) (vx_X px BX AX) free) (hS : va_S A0 H0 H locs) (hA : ∀ q, q < H.size → A1 q → A0 q) (hf : ∀ q, free q → A0 q) (hAX : ∀ q, q < H.size → AX q → A0 q)
    (kx : ∀ (E : String) (ce : Cell) (q9 : Addr) (u : SX) (t : State) (H1 : Heap) (locs1 : List Loc), t.heap = H1 → s.vm.Alike t.vm → px u → BX E u t → H.size ≤ H1.size → (∀ q : Nat, q < H.size → ¬ AX q → H1[q]? = H[q]?) → va_S A0 H0 H1 locs1 → H1[q9]? = some ce → ce.vm = .none → s.vm.findClass E = some ce.cls → vx_W p l e R s m args below meth c H1 locs1 (cells + mc) (slots + ms) Q (F0 m pc ls rest) q9)
    (kk : ∀ (r : UInt32) (u : S) (t : State) (H1 : Heap) (locs1 : List Loc), t.heap = H1 → s.vm.Alike t.vm → post r u → B u t → H.size ≤ H1.size → (∀ q : Nat, q < H.size → ¬ A1 q → H1[q]? = H[q]?) → va_S A0 H0 H1 locs1 → W p l e R s m args below meth c H1 locs1 (cells + mc) (slots + ms) Q (F0 m (pc + 3) ls (.float r :: rest))) : W p l e R s m args below meth c H locs cells slots Q (F0 m pc ls st0) := by
  intro T hT X
  rcases hr T hT X with ⟨v, st₀, t, T', L, h0, X', hL, e1, e2, ⟨⟨r, u, hv, hp, hb⟩, hF⟩, st⟩ | ⟨q, st₀, t, T', L, E, ce, h0, X', hL, e1, e2, ⟨u, hp, hb, hF⟩, hce, hcv, hcl, st⟩
  · cases hv
    obtain ⟨k1, k2, k3⟩ := vx_keep h0 e1 hS hA hf hL hF
    obtain ⟨t2, a1, b1⟩ := kk r u t T'.heap (locs ++ L) e1.symm (by rw [← e2]; exact X'.warmed.alike) hp hb k1 k2 k3 T' rfl X'
    exact ⟨t2, st t2 a1, b1⟩
  · obtain ⟨k1, k2, k3⟩ := vx_keep h0 e1 hS hAX hf hL hF
    obtain ⟨t2, a1, b1⟩ := kx E ce q u t T'.heap (locs ++ L) e1.symm (by rw [← e2]; exact X'.warmed.alike) hp hb k1 k2 k3 (by rw [e1]; exact hce) hcv hcl T' rfl X'
    exact ⟨t2, st.trans a1, b1⟩
theorem vx_calld {S SX : Type} {post : UInt64 → S → Prop} {px : SX → Prop} {B : S → State → Prop} {BX : String → SX → State → Prop} {AX : Nat → Prop} (hr : vx_Run p l e R s m args below meth c H locs cells slots mc ms (F0 m pc ls st0) rest (va_Qd post B A1 a) (vx_X px BX AX) free) (hS : va_S A0 H0 H locs) (hA : ∀ q, q < H.size → A1 q → A0 q) (hf : ∀ q, free q → A0 q) (hAX : ∀ q, q < H.size → AX q → A0 q)
    (kx : ∀ (E : String) (ce : Cell) (q9 : Addr) (u : SX) (t : State) (H1 : Heap) (locs1 : List Loc), t.heap = H1 → s.vm.Alike t.vm → px u → BX E u t → H.size ≤ H1.size → (∀ q : Nat, q < H.size → ¬ AX q → H1[q]? = H[q]?) → va_S A0 H0 H1 locs1 → H1[q9]? = some ce → ce.vm = .none → s.vm.findClass E = some ce.cls → vx_W p l e R s m args below meth c H1 locs1 (cells + mc) (slots + ms) Q (F0 m pc ls rest) q9)
    (kk : ∀ (r : UInt64) (u : S) (t : State) (H1 : Heap) (locs1 : List Loc), t.heap = H1 → s.vm.Alike t.vm → post r u → B u t → H.size ≤ H1.size → (∀ q : Nat, q < H.size → ¬ A1 q → H1[q]? = H[q]?) → va_S A0 H0 H1 locs1 → W p l e R s m args below meth c H1 locs1 (cells + mc) (slots + ms) Q (F0 m (pc + 3) ls (.double r :: rest))) : W p l e R s m args below meth c H locs cells slots Q (F0 m pc ls st0) := by
  intro T hT X
  rcases hr T hT X with ⟨v, st₀, t, T', L, h0, X', hL, e1, e2, ⟨⟨r, u, hv, hp, hb⟩, hF⟩, st⟩ | ⟨q, st₀, t, T', L, E, ce, h0, X', hL, e1, e2, ⟨u, hp, hb, hF⟩, hce, hcv, hcl, st⟩
  · cases hv
    obtain ⟨k1, k2, k3⟩ := vx_keep h0 e1 hS hA hf hL hF
    obtain ⟨t2, a1, b1⟩ := kk r u t T'.heap (locs ++ L) e1.symm (by rw [← e2]; exact X'.warmed.alike) hp hb k1 k2 k3 T' rfl X'
    exact ⟨t2, st t2 a1, b1⟩
  · obtain ⟨k1, k2, k3⟩ := vx_keep h0 e1 hS hAX hf hL hF
    obtain ⟨t2, a1, b1⟩ := kx E ce q u t T'.heap (locs ++ L) e1.symm (by rw [← e2]; exact X'.warmed.alike) hp hb k1 k2 k3 (by rw [e1]; exact hce) hcv hcl T' rfl X'
    exact ⟨t2, st.trans a1, b1⟩
theorem vx_callv {S SX : Type} {post : S → Prop} {px : SX → Prop} {B : S → State → Prop} {BX : String → SX → State → Prop} {AX : Nat → Prop} (hr : vx_Run p l e R s m args below meth c H locs cells slots mc ms (F0 m pc ls st0) rest (va_Qv post B A1 a) (vx_X px BX AX) free) (hS : va_S A0 H0 H locs) (hA : ∀ q, q < H.size → A1 q → A0 q) (hf : ∀ q, free q → A0 q) (hAX : ∀ q, q < H.size → AX q → A0 q)
    (kx : ∀ (E : String) (ce : Cell) (q9 : Addr) (u : SX) (t : State) (H1 : Heap) (locs1 : List Loc), t.heap = H1 → s.vm.Alike t.vm → px u → BX E u t → H.size ≤ H1.size → (∀ q : Nat, q < H.size → ¬ AX q → H1[q]? = H[q]?) → va_S A0 H0 H1 locs1 → H1[q9]? = some ce → ce.vm = .none → s.vm.findClass E = some ce.cls → vx_W p l e R s m args below meth c H1 locs1 (cells + mc) (slots + ms) Q (F0 m pc ls rest) q9)
    (kk : ∀ (u : S) (t : State) (H1 : Heap) (locs1 : List Loc), t.heap = H1 → s.vm.Alike t.vm → post u → B u t → H.size ≤ H1.size → (∀ q : Nat, q < H.size → ¬ A1 q → H1[q]? = H[q]?) → va_S A0 H0 H1 locs1 → W p l e R s m args below meth c H1 locs1 (cells + mc) (slots + ms) Q (F0 m (pc + 3) ls (rest))) : W p l e R s m args below meth c H locs cells slots Q (F0 m pc ls st0) := by
  intro T hT X
  rcases hr T hT X with ⟨v, st₀, t, T', L, h0, X', hL, e1, e2, ⟨⟨u, hv, hp, hb⟩, hF⟩, st⟩ | ⟨q, st₀, t, T', L, E, ce, h0, X', hL, e1, e2, ⟨u, hp, hb, hF⟩, hce, hcv, hcl, st⟩
  · cases hv
    obtain ⟨k1, k2, k3⟩ := vx_keep h0 e1 hS hA hf hL hF
    obtain ⟨t2, a1, b1⟩ := kk u t T'.heap (locs ++ L) e1.symm (by rw [← e2]; exact X'.warmed.alike) hp hb k1 k2 k3 T' rfl X'
    exact ⟨t2, st t2 a1, b1⟩
  · obtain ⟨k1, k2, k3⟩ := vx_keep h0 e1 hS hAX hf hL hF
    obtain ⟨t2, a1, b1⟩ := kx E ce q u t T'.heap (locs ++ L) e1.symm (by rw [← e2]; exact X'.warmed.alike) hp hb k1 k2 k3 (by rw [e1]; exact hce) hcv hcl T' rfl X'
    exact ⟨t2, st.trans a1, b1⟩
/-- caught by the row x of this method's table; the rows ahead don't take it -/
theorem vx_catch {own name : String} {E : String} {ce : Cell} {q : Addr} (hown : s.vm.findClass own = some m.cls) (pre : List ExceptionTableEntry) (x : ExceptionTableEntry) (suf : List ExceptionTableEntry) (hsplit : c.exceptionTable.toList = pre ++ x :: suf)
    (hpass : ∀ z ∈ pre, covers z pc = false ∨ (z.catchType ≠ 0 ∧ ∃ nm : String, (Cond.classLink own z.catchType nm).before args s = true ∧ va_Nc E nm s)) (hx : covers x pc = true) (h0 : x.catchType ≠ 0)
    (hlink : (Cond.classLink own x.catchType name).before args s = true) (hcast : (Cond.castable E name).before args s = true) (hcell : H[q]? = some ce) (hv : ce.vm = .none) (hcl : s.vm.findClass E = some ce.cls)
    (kk : W p l e R s m args below meth c H locs cells slots Q (F0 m x.handlerPc ls [.ref q])) : vx_W p l e R s m args below meth c H locs cells slots Q (F0 m pc ls rest) q := by
  intro T hT X
  have hpl : e.platform.magicAccessors = ({} : Platform).magicAccessors := by rw [X.admits.platform]
  obtain ⟨c3, c4, hc3, hc4, hasg⟩ := Cond.castable_spec hcast
  cases Option.some.inj (hc3.symm.trans hcl)
  obtain ⟨c5, hc5, hcl5⟩ := Cond.classLink_spec hown hlink e.platform hpl
  cases Option.some.inj (hc4.symm.trans hc5)
  obtain ⟨vm', X', st⟩ := X.thenCaughtThrough q (g := F0 m pc ls rest) rfl (Steps.refl _) (by rw [hT]; exact hcell) (by rw [hv]; rfl) (by obtain ⟨k9, h9, -⟩ := Vm.findClass_spec hcl; exact ⟨k9, h9⟩) pre x suf hsplit
    (fun z hz => by
      rcases hpass z hz with h | ⟨hz0, nm, hl1, hn1⟩
      · exact Or.inl h
      · obtain ⟨c6, hc6, hcl6⟩ := Cond.classLink_spec hown hl1 e.platform hpl
        obtain ⟨a8, b8, h1, h2, h3⟩ := hn1
        cases Option.some.inj (h1.symm.trans hcl)
        cases Option.some.inj (h2.symm.trans hc6)
        exact Or.inr ⟨hz0, _, hcl6, h3⟩) hx (Or.inr ⟨h0, c4, hcl5, hasg⟩)
  obtain ⟨t, a1, b1⟩ := kk (T.setVm vm') hT X'
  exact ⟨t, st.trans a1, b1⟩
end Rows
section Ends
variable {p : Program} {l : Launch} {e : Env} {R : Room} {s : State} {m : MethodId} {args : Array Value} {below : List Frame} {meth : Method} {c : Code} {H : Heap} {locs : List Loc} {cells slots : Nat} {Q : State → Prop}
variable {mc ms : Nat} {free : Addr → Prop} {A0 A1 : Nat → Prop} {H0 : Heap} {a : Array Value} {ls : Array Slot} {st0 rest : List Value}
variable {Qc : Array Value → State → Outcome → State → Prop} {XC : String → State → State → Prop}
/-- what a body that may throw owes at its end -/
def vx_MQ (below : List Frame) (Qc : Array Value → State → Outcome → State → Prop) (XC : String → State → State → Prop) (a : Array Value) (s : State) (mc ms : Nat) (free : Addr → Prop) : State → Prop := fun t =>
  ∃ o, t.status = .running ∧ Ended t below o ∧ vx_Q Qc XC mc ms free a s o t
theorem vx_ret {g : JFrame} {mc ms : Nat} (k : W p l e R s m args below meth c H locs cells slots (MQ below Qc args s mc ms free) g) : W p l e R s m args below meth c H locs cells slots (vx_MQ below Qc XC args s mc ms free) g := by
  intro T hT X
  obtain ⟨t, a1, o, b1, b2, b3, b4⟩ := k T hT X
  exact ⟨t, a1, o, b1, b2, Or.inl ⟨b3, b4⟩⟩
/-- not caught here: it goes on to the caller -/
theorem vx_widen {g : JFrame} {q : Addr} {k n : Nat} (h1 : cells ≤ k) (h2 : slots ≤ n) (kk : vx_W p l e R s m args below meth c H locs k n Q g q) : vx_W p l e R s m args below meth c H locs cells slots Q g q := fun T hT X => kk T hT (stand_widen X h1 h2)
theorem vx_out {pc : Nat} {E : String} {ce : Cell} {q : Addr} {mc ms : Nat} (hout : ∀ x ∈ c.exceptionTable.toList, covers x pc = false) (hlocks : meth.locks = false) (hcell : H[q]? = some ce) (hv : ce.vm = .none) (hcl : s.vm.findClass E = some ce.cls)
    (hx : ∀ t : State, t.heap = H → s.vm.Alike t.vm → XC E s t) (hf : ∀ z ∈ locs, free z.base) (hc : cells ≤ mc) (hs : slots ≤ ms) :
    vx_W p l e R s m args below meth c H locs cells slots (vx_MQ below Qc XC args s mc ms free) (F0 m pc ls rest) q := by
  intro T hT X
  obtain ⟨st1, hrun, hend, hW, hsm⟩ := X.leaveThrown q (g := F0 m pc ls rest) rfl rfl rfl hout hlocks
  have hcell9 : (T.setFrames (.throwing q :: below)).heap[q]? = some ce := by
    show T.heap[q]? = some ce
    rw [hT]; exact hcell
  exact ⟨_, st1, .threw q, hrun, hend, Or.inr ⟨q, rfl, E, ce, locs, hx _ hT hW.alike, hcell9, hv, hcl, hW, hsm.mono hc hs, hf⟩⟩
theorem vx_frame {U : State} {k n : Nat} (h : s.sameButNew ({ U with vm := s.vm } : State) locs k n) : s.heap.size ≤ U.heap.size ∧ ∀ q : Nat, q < s.heap.size → (∀ z ∈ locs, z.base ≠ q) → U.heap[q]? = s.heap[q]? := by
  obtain ⟨-, h2, -, -, -, h6⟩ := h
  refine ⟨h2, fun q hq hz => ?_⟩
  obtain ⟨c9, e1, e2, e3, e4⟩ := h6 q _ (Array.getElem?_eq_getElem hq)
  have hs : c9.slots = (s.heap[q]).slots := Array.ext_getElem? fun i => e4 i fun hm => hz _ hm rfl
  have h9 : c9 = s.heap[q] := by
    rw [hs] at e2
    exact e2
  have e5 : U.heap[q]? = some c9 := e1
  rw [e5, h9, Array.getElem?_eq_getElem hq]
/-- the words of a throw but the four that speak of the heap -/
def vx_no (w : Cond) : Bool := decide (w ≠ .isRef (.static Bundle.tN "UNASSIGNED_STACK" Bundle.steD)) && decide (w ≠ .isRef (.static Bundle.tN "SUPPRESSED_SENTINEL" Bundle.listD)) && decide (w ≠ .laysStatic Bundle.tN "UNASSIGNED_STACK" Bundle.steD) && decide (w ≠ .laysStatic Bundle.tN "SUPPRESSED_SENTINEL" Bundle.listD)
def vx_at0 (own : String) (ic : Nat) (X : String) (names : List String) : List Cond := (Bundle.ownAtoms0 own ic X names).filter vx_no
def vx_atS (own : String) (ic : Nat) (X : String) (names : List String) : List Cond := (Bundle.ownAtoms own ic X names).filter vx_no
/-- a word that the tables alone decide, or a good one -/
def vx_ot (w : Cond) : Bool := w.onTables || goodWord w
theorem vx_ot_at {args a' : Array Value} {s U : State} {w : Cond} (hW : s.WarmedH U.vm) (hvm : s.vm = U.vm) (hg : vx_ot w = true) (h : w.before args s = true) : w.before a' U = true := by
  simp only [vx_ot, Bool.or_eq_true] at hg
  rcases hg with hg | hg
  · exact va_tabs hg hvm h
  · exact word_at hW (good_of_word hg) h
/-- a list's words: the good ones out of the method's own list, the others by premises of their own -/
theorem vx_hat {args : Array Value} {s : State} {L B : List Cond} (h1 : ∀ w ∈ L.filter goodWord, w.before args s = true) (h2 : ∀ w ∈ L.filter (fun w => !goodWord w), w ∈ B) (h3 : ∀ w ∈ B, w.before args s = true) : ∀ w ∈ L, w.before args s = true := by
  intro w hw
  by_cases g : goodWord w = true
  · exact h1 w (List.mem_filter.mpr ⟨hw, g⟩)
  · refine h3 w (h2 w (List.mem_filter.mpr ⟨hw, ?_⟩))
    show (!goodWord w) = true
    cases hgw : goodWord w
    · rfl
    · exact absurd hgw g
theorem vx_c {args : Array Value} {s : State} {w : Cond} {B : List Cond} (h : w.before args s = true) (t : ∀ w ∈ B, w.before args s = true) : ∀ w' ∈ w :: B, w'.before args s = true := fun w' h' => (List.mem_cons.mp h').elim (fun e => by rw [e]; exact h) (t w')
theorem vx_n {args : Array Value} {s : State} : ∀ w ∈ ([] : List Cond), w.before args s = true := fun _ h => nomatch h
theorem vx_own {args : Array Value} {s : State} {L : List Cond} (h1 : ∀ w ∈ L.filter vx_no, w.before args s = true)
    (hU : (Cond.isRef (.static Bundle.tN "UNASSIGNED_STACK" Bundle.steD)).before args s = true) (hN : (Cond.isRef (.static Bundle.tN "SUPPRESSED_SENTINEL" Bundle.listD)).before args s = true)
    (lU : (Cond.laysStatic Bundle.tN "UNASSIGNED_STACK" Bundle.steD).before args s = true) (lN : (Cond.laysStatic Bundle.tN "SUPPRESSED_SENTINEL" Bundle.listD).before args s = true) : ∀ w ∈ L, w.before args s = true := by
  intro w hw
  by_cases e1 : w = .isRef (.static Bundle.tN "UNASSIGNED_STACK" Bundle.steD)
  · rw [e1]; exact hU
  · by_cases e2 : w = .isRef (.static Bundle.tN "SUPPRESSED_SENTINEL" Bundle.listD)
    · rw [e2]; exact hN
    · by_cases e3 : w = .laysStatic Bundle.tN "UNASSIGNED_STACK" Bundle.steD
      · rw [e3]; exact lU
      · by_cases e4 : w = .laysStatic Bundle.tN "SUPPRESSED_SENTINEL" Bundle.listD
        · rw [e4]; exact lN
        · exact h1 w (List.mem_filter.mpr ⟨hw, by unfold vx_no; rw [decide_eq_true e1, decide_eq_true e2, decide_eq_true e3, decide_eq_true e4]; rfl⟩)
/-- where a static field lies, its class's statics cell in H -/
def vx_L (C n d : String) (A : Nat → Prop) (U : State) (H : Heap) : Prop := ∃ (c : ClassId) (k : Class) (i : Nat) (f : Field) (a : Nat) (cell : Cell), U.vm.findClass C = some c ∧ U.fieldFound? C n d = some (c, k, i, f) ∧ f.isStatic = true ∧ k.statics = some a ∧ H[a]? = some cell ∧ cell.vm.isStatics = true ∧ cell.cls = c ∧ f.slot < cell.slots.size ∧ k.staticTypes[f.slot]? = some f.type ∧ ¬ A a
theorem vx_L.moved {C n d : String} {A : Nat → Prop} {u U : State} {H : Heap} (hvm : u.vm.Alike U.vm) (h : vx_L C n d A u H) : vx_L C n d A U H := by
  obtain ⟨c, k, i, f, a, cell, h1, h2, h3, h4, h5, h6, h7, h8, h9, h10⟩ := h
  obtain ⟨k', hi', he⟩ := State.fieldFound?_setVm hvm h2
  exact ⟨c, k', i, f, a, cell, by rw [hvm.findClass]; exact h1, hi', h3, by rw [he]; exact h4, h5, h6, h7, h8, by rw [he]; exact h9, h10⟩
theorem vx_L.kept {C n d : String} {A : Nat → Prop} {U : State} {H H1 : Heap} (h : vx_L C n d A U H) (hq : ∀ a : Nat, a < H.size → ¬ A a → H1[a]? = H[a]?) : vx_L C n d A U H1 := by
  obtain ⟨c, k, i, f, a, cell, h1, h2, h3, h4, h5, h6, h7, h8, h9, h10⟩ := h
  exact ⟨c, k, i, f, a, cell, h1, h2, h3, h4, by rw [hq a (Array.getElem?_eq_some_iff.mp h5).1 h10]; exact h5, h6, h7, h8, h9, h10⟩
theorem vx_L.narrow {C n d : String} {A B : Nat → Prop} {U : State} {H : Heap} (h : vx_L C n d A U H) (hAB : ∀ q, B q → A q) : vx_L C n d B U H := by
  obtain ⟨c, k, i, f, a, cell, h1, h2, h3, h4, h5, h6, h7, h8, h9, h10⟩ := h
  exact ⟨c, k, i, f, a, cell, h1, h2, h3, h4, h5, h6, h7, h8, h9, fun z => h10 (hAB _ z)⟩
theorem vx_L.word {C n d : String} {A : Nat → Prop} {s : State} {args : Array Value} (h : vx_L C n d A s s.heap) : (Cond.laysStatic C n d).before args s = true := by
  obtain ⟨c, k, i, f, a, cell, h1, h2, h3, h4, h5, h6, h7, h8, h9, -⟩ := h
  show (Cond.laysStatic C n d).holds args s none s [] = true
  exact Cond.laysStatic_of h1 h2 h3 h4 h5 h6 h7 h8 h9
/-- .. and what it holds: null or some reference -/
def vx_Zq (C n d : String) (A : Nat → Prop) (U : State) (H : Heap) : Prop := va_Zq C n d A U H ∧ vx_L C n d A U H
theorem vx_Zq.moved {C n d : String} {A : Nat → Prop} {u U : State} {H : Heap} (hvm : u.vm.Alike U.vm) (h : vx_Zq C n d A u H) : vx_Zq C n d A U H := ⟨va_Zq.moved hvm h.1, vx_L.moved hvm h.2⟩
theorem vx_Zq.kept {C n d : String} {A : Nat → Prop} {U : State} {H H1 : Heap} (h : vx_Zq C n d A U H) (hq : ∀ a : Nat, a < H.size → ¬ A a → H1[a]? = H[a]?) : vx_Zq C n d A U H1 := ⟨va_Zq.kept h.1 hq, vx_L.kept h.2 hq⟩
theorem vx_Zq.narrow {C n d : String} {A B : Nat → Prop} {U : State} {H : Heap} (h : vx_Zq C n d A U H) (hAB : ∀ q, B q → A q) : vx_Zq C n d B U H := ⟨va_Zq.narrow h.1 hAB, vx_L.narrow h.2 hAB⟩
theorem vx_Zqof {args : Array Value} {s : State} {C n d : String} {A : Nat → Prop} (hl : (Cond.laysStatic C n d).before args s = true) (hini : (Cond.initialized C).before args s = true) (h : (Cond.isRef (.static C n d)).before args s = true) (hA : ∀ a : Nat, a < s.heap.size → ¬ A a) : vx_Zq C n d A s s.heap := by
  refine ⟨va_Zqof hl hini h hA, ?_⟩
  obtain ⟨c, k, i, f, a, cell, h1, h2, h3, h4, h5, h6, h7, h8, h9⟩ := Cond.laysStatic_spec hl
  exact ⟨c, k, i, f, a, cell, h1, h2, h3, h4, h5, h6, h7, h8, h9, hA a (Array.getElem?_eq_some_iff.mp h5).1⟩
theorem vx_isRef {C n d : String} {v : Value} {A : Nat → Prop} {s : State} {args : Array Value} (h : va_Z C n d v A s s.heap) (hv : v.isRef = true) : (Cond.isRef (.static C n d)).before args s = true := by
  obtain ⟨cf, kf, fi, f, a, cell, h1, h2, h3, h4, h5, h6, h7, -⟩ := h
  have he : (Term.static C n d).eval args s none [] s = some v := by
    simp [Term.eval, State.fieldNamed?, h1, h2, h4, h5, h6, h7]
  simp only [Cond.before, Cond.holds, Cond.value, he]
  cases v <;> simp_all [Value.isRef]
theorem vx_isRefq {C n d : String} {A : Nat → Prop} {s : State} {args : Array Value} (h : va_Zq C n d A s s.heap) : (Cond.isRef (.static C n d)).before args s = true := by
  rcases h with h | ⟨t, h⟩
  · exact vx_isRef h rfl
  · exact vx_isRef h rfl
/-- the same frame, seen from here: as if the method were called anew in this heap -/
theorem vx_rebase {T : State} (X : Stand p l e R s m args below meth c T locs cells slots) {R' : Room} (hf : R'.frames ≤ R.frames) (hl : R'.locals ≤ R.locals) (hc : cells + R'.cells ≤ R.cells) (hs : slots + R'.slots ≤ R.slots) :
    Stand p l e R' ((T.setVm s.vm).setFrames (.invoking m args :: below)) m args below meth c T [] 0 0 := by
  have htop : (T.setVm s.vm).topJava?.isSome := X.here.top
  have hF : ((T.setVm s.vm).setFrames (.invoking m args :: below)).frames = .invoking m args :: below := State.frames_setFrames _ (State.cur_lt_of_top htop)
  obtain ⟨g₀, hg0⟩ := Option.isSome_iff_exists.mp htop
  obtain ⟨r, hr⟩ := State.topJava?_eq_some.mp hg0
  have hl9 : e.platform.stackLimits (T.setVm s.vm).me = e.platform.stackLimits s.me := X.limits
  have hb9 : (T.setVm s.vm).me.stackBytes = s.me.stackBytes := X.bytes
  refine ⟨X.admits, X.cas, X.clock, hF, ?_, X.hears, X.method, X.code, X.here, X.tail, X.warmed, ?_, ?_, ?_⟩
  · have h := X.room
    have hU : ((T.setVm s.vm).setFrames (.invoking m args :: below)).localsInUse = s.localsInUse := by
      rw [State.localsInUse_invoking hF (meth := meth) (c := c) X.method X.code, State.localsInUse_invoking X.frames X.method X.code]
    simp only [State.hasRoom, Bool.and_eq_true, decide_eq_true_eq] at h ⊢
    obtain ⟨⟨⟨⟨h1, h2, h3, h4, h5, h6⟩, h7⟩, h8⟩, h9⟩ := h
    rw [X.frames, List.length_cons] at h2 h3
    have q1 := X.heapSize
    have q2 := X.used
    simp only [hF, hU, List.length_cons, State.stackLimits_setFrames, State.stackBytes_setFrames, hl9, hb9]
    refine ⟨⟨⟨⟨by omega, by omega, by omega, by omega, by omega, h6⟩, ?_⟩, ?_⟩, X.book⟩
    · show T.heap.size + R'.cells ≤ e.platform.maxCells
      omega
    · show T.slotsUsed + R'.slots ≤ e.platform.maxSlots
      omega
  · rw [State.stackLimits_setFrames]; rfl
  · rw [State.stackBytes_setFrames]; rfl
  · refine ⟨?_, Nat.le_refl _, Nat.le_refl _, ?_, ?_, fun a c9 h9 => ⟨c9, h9, rfl, rfl, fun _ _ => rfl⟩⟩
    · obtain ⟨t, ht, -⟩ := State.frames_cons hr
      show T.setVm s.vm = { ((T.setVm s.vm).setFrames (.invoking m args :: below)).setFrames (T.setVm s.vm).frames with heap := T.heap, slotsUsed := T.slotsUsed }
      rw [State.setFrames_setFrames, State.setFrames_self ht]
      rfl
    · show T.slotsUsed = T.slotsUsed + ((T.heap.toList.drop T.heap.size).map (·.slots.size)).sum
      rw [List.drop_eq_nil_of_le (Nat.le_of_eq Array.length_toList)]
      rfl
    · show ((T.heap.toList.drop T.heap.size).map (·.slots.size)).sum ≤ 0
      rw [List.drop_eq_nil_of_le (Nat.le_of_eq Array.length_toList)]
      exact Nat.le_refl _
/-- 'throw new E()': new; dup; invokespecial; athrow -/
theorem vx_throw0 {cc : ByteArray} {pc : Nat} (hexec : p.tables.exec = Jvm.exec) (hb : c.code = cc) (hl : l.stackTraces = false) {own cls : String} {names : List String} {ik ic mc ms : Nat} {A : Nat → Prop}
    (hown : s.vm.findClass own = some m.cls) (hcls : Bundle.fit cls = true) (hnames : ∀ n ∈ names, Bundle.fit n = true)
    (hk : (Cond.classLink own ik cls).before args s = true) (hini : (Cond.initialized cls).before args s = true) (hat : ∀ w ∈ vx_at0 own ic cls names, w.before args s = true)
    (hgood : ∀ w ∈ Cond.classLink own ik cls :: Cond.initialized cls :: vx_at0 own ic cls names, vx_ot w = true)
    (hU : vx_Zq Bundle.tN "UNASSIGNED_STACK" Bundle.steD A s s.heap) (hN : vx_Zq Bundle.tN "SUPPRESSED_SENTINEL" Bundle.listD A s s.heap) (hS : va_S A s.heap H locs) (hsize : ls.size = c.maxLocals)
    (d0 : decode cc pc = .ok (.new ik, 3)) (d3 : decode cc (pc + 3) = .ok (.dup, 1)) (d4 : decode cc (pc + 4) = .ok (.invokespecial ic, 3)) (d7 : decode cc (pc + 7) = .ok (.athrow, 1))
    (hout : ∀ x ∈ c.exceptionTable.toList, covers x (pc + 7) = false)
    (hRframes : names.length + 3 < R.frames) (hRlocals : (rest.map fun v => v.category).sum + (13 * (names.length + 1) + 42) ≤ R.locals) (hRcells : cells + 1 ≤ R.cells) (hRslots : slots + 6 ≤ R.slots) (hlocks : meth.locks = false)
    (hx : ∀ t : State, s.vm.Alike t.vm → H.size ≤ t.heap.size → (∀ q : Nat, q < H.size → t.heap[q]? = H[q]?) → XC cls s t)
    (hf : ∀ z ∈ locs, free z.base) (hc : cells + 1 ≤ mc) (hs : slots + 6 ≤ ms) :
    W p l e R s m args below meth c H locs cells slots (vx_MQ below Qc XC args s mc ms free) (F0 m pc ls rest) := by
  intro T hT X
  have htr : e.platform.stackTraces = false := (show e.platform.stackTraces = l.stackTraces by rw [X.admits.platform]).trans hl
  have Y := vx_rebase X (R' := { frames := R.frames, locals := R.locals, cells := 1, slots := 6 }) (Nat.le_refl _) (Nat.le_refl _) hRcells hRslots
  obtain ⟨s', hA⟩ : ∃ z, z = (T.setVm s.vm).setFrames (.invoking m args :: below) := ⟨_, rfl⟩
  rw [← hA] at Y
  have hvm : s'.vm = s.vm := by rw [hA]; rfl
  have hhp : s'.heap = H := by rw [hA]; exact hT
  have hW0 : s.WarmedH s'.vm := by rw [hvm]; exact State.WarmedH.refl s
  have hat' : ∀ w ∈ vx_at0 own ic cls names, w.before args s' = true := fun w hw => vx_ot_at hW0 hvm.symm (hgood w (List.mem_cons_of_mem _ (List.mem_cons_of_mem _ hw))) (hat w hw)
  have hk' : (Cond.classLink own ik cls).before args s' = true := vx_ot_at hW0 hvm.symm (hgood _ List.mem_cons_self) hk
  have hini' : (Cond.initialized cls).before args s' = true := vx_ot_at hW0 hvm.symm (hgood _ (List.mem_cons_of_mem _ List.mem_cons_self)) hini
  have hU' : vx_Zq Bundle.tN "UNASSIGNED_STACK" Bundle.steD A s' s'.heap := by rw [hhp]; exact vx_Zq.moved hW0.alike (hU.kept hS.2.1)
  have hN' : vx_Zq Bundle.tN "SUPPRESSED_SENTINEL" Bundle.listD A s' s'.heap := by rw [hhp]; exact vx_Zq.moved hW0.alike (hN.kept hS.2.1)
  have h : ∀ w ∈ Bundle.ownAtoms0 own ic cls names, w.before args s' = true := vx_own hat' (vx_isRefq hU'.1) (vx_isRefq hN'.1) hU'.2.word hN'.2.word
  have hown' : s'.vm.findClass own = some m.cls := by rw [hvm]; exact hown
  have hins : (Cond.instantiable cls 6).before args s' = true := h _ (by simp [Bundle.ownAtoms0])
  obtain ⟨vm₁, cX, kX, hfX, hkX, -, -, X₁, st1⟩ := Y.newCold hexec (own := own) (C := cls) (index := ik) (n := 6) hown' hk' hins hini'
    (g := F0 m pc ls rest) rfl (by rw [hb]; exact d0) (Nat.le_refl _) (Nat.le_refl _)
  generalize hT1 : (T.setVm vm₁).pushCell { cls := cX, slots := kX.instanceTypes.map defaultValue, vm := .none } = T1 at X₁ st1
  have hcat : (Value.ref T.heap.size).category = 1 := rfl
  have hcellA : T1.heap[T.heap.size]? = some (freshCell cX kX) := by rw [← hT1]; exact State.heap_pushCell_size _ _
  have d3' : decode c.code (pc + 3) = .ok (.dup, 1) := by rw [hb]; exact d3
  obtain ⟨U, hsteps, hrun, hend, hW, hsame, ce, hce, hO⟩ := X₁.ctorThrow0 hexec htr (own := own) (cls := cls) (names := names) (ic := ic) hown' hcls hnames h (fun x hx => nomatch hx) hfX hkX hcellA (by rw [hhp, hT]; exact Nat.le_refl _)
    (g := { method := m, pc := pc + 4, locals := ls, stack := .ref T.heap.size :: .ref T.heap.size :: rest, locked := none }) rfl hsize rfl rfl (rest := rest) rfl
    (by rw [hb]; exact d4) (by rw [hb]; exact d7) hout hRframes (by simp only [List.map_cons, List.sum_cons, hcat]; omega) hlocks
  obtain ⟨f1, f2⟩ := vx_frame hsame
  rw [hhp] at f1 f2
  have hWs : s.WarmedH U.vm := State.WarmedH.trans hW0 hW
  have hcl : s.vm.findClass cls = some ce.cls := by
    have h9 := hO.cls
    rw [hvm] at h9
    exact h9
  have hall : s.sameButNew ({ U with vm := s.vm } : State) locs mc ms := by
    subst hA
    obtain ⟨e1, e2⟩ := hsame
    rw [State.setFrames_setFrames] at e1
    have h2 : (T.setVm s.vm).sameButNew ({ U with vm := s.vm } : State) [] (0 + 1) (0 + 6) := ⟨e1, e2⟩
    have h3 := X.same.trans h2
    rw [List.append_nil] at h3
    exact h3.mono hc hs
  refine ⟨U, ?_, .threw T.heap.size, hrun, hend, Or.inr ⟨T.heap.size, rfl, cls, ce, locs, hx U hWs.alike f1 (fun q hq => f2 q hq (fun z hz => nomatch hz)), hce, hO.vm, hcl, hWs, hall, hf⟩⟩
  refine st1 _ ?_
  show Steps p.tables e below (T1.setTop { method := m, pc := pc + 3, locals := ls, stack := .ref T.heap.size :: rest, locked := none }) _
  jvm_step X₁.here [X₁.here.top, hexec, d3', Value.category]
  exact hsteps
/-- 'throw new E("text")': new; dup; ldc; invokespecial; athrow -/
theorem vx_throwS {cc : ByteArray} {pc : Nat} (hexec : p.tables.exec = Jvm.exec) (hb : c.code = cc) (hl : l.stackTraces = false) {own cls text : String} {names : List String} {ik is ic mc ms sa : Nat} {A : Nat → Prop}
    (hown : s.vm.findClass own = some m.cls) (hcls : Bundle.fit cls = true) (hnames : ∀ n ∈ names, Bundle.fit n = true)
    (hk : (Cond.classLink own ik cls).before args s = true) (hini : (Cond.initialized cls).before args s = true) (hstr : vk_R own is text sa s) (hat : ∀ w ∈ vx_atS own ic cls names, w.before args s = true)
    (hgood : ∀ w ∈ Cond.classLink own ik cls :: Cond.initialized cls :: vx_atS own ic cls names, vx_ot w = true)
    (hU : vx_Zq Bundle.tN "UNASSIGNED_STACK" Bundle.steD A s s.heap) (hN : vx_Zq Bundle.tN "SUPPRESSED_SENTINEL" Bundle.listD A s s.heap) (hS : va_S A s.heap H locs) (hsize : ls.size = c.maxLocals)
    (d0 : decode cc pc = .ok (.new ik, 3)) (d3 : decode cc (pc + 3) = .ok (.dup, 1)) (d4 : decode cc (pc + 4) = .ok (.ldc is, 2)) (d6 : decode cc (pc + 6) = .ok (.invokespecial ic, 3)) (d9 : decode cc (pc + 9) = .ok (.athrow, 1))
    (hout : ∀ x ∈ c.exceptionTable.toList, covers x (pc + 9) = false)
    (hRframes : names.length + 3 < R.frames) (hRlocals : (rest.map fun v => v.category).sum + (13 * (names.length + 1) + 43) ≤ R.locals) (hRcells : cells + 1 ≤ R.cells) (hRslots : slots + 6 ≤ R.slots) (hlocks : meth.locks = false)
    (hx : ∀ t : State, s.vm.Alike t.vm → H.size ≤ t.heap.size → (∀ q : Nat, q < H.size → t.heap[q]? = H[q]?) → XC cls s t)
    (hf : ∀ z ∈ locs, free z.base) (hc : cells + 1 ≤ mc) (hs : slots + 6 ≤ ms) :
    W p l e R s m args below meth c H locs cells slots (vx_MQ below Qc XC args s mc ms free) (F0 m pc ls rest) := by
  intro T hT X
  have htr : e.platform.stackTraces = false := (show e.platform.stackTraces = l.stackTraces by rw [X.admits.platform]).trans hl
  have Y := vx_rebase X (R' := { frames := R.frames, locals := R.locals, cells := 1, slots := 6 }) (Nat.le_refl _) (Nat.le_refl _) hRcells hRslots
  obtain ⟨s', hA⟩ : ∃ z, z = (T.setVm s.vm).setFrames (.invoking m args :: below) := ⟨_, rfl⟩
  rw [← hA] at Y
  have hvm : s'.vm = s.vm := by rw [hA]; rfl
  have hhp : s'.heap = H := by rw [hA]; exact hT
  have hW0 : s.WarmedH s'.vm := by rw [hvm]; exact State.WarmedH.refl s
  have hat' : ∀ w ∈ vx_atS own ic cls names, w.before args s' = true := fun w hw => vx_ot_at hW0 hvm.symm (hgood w (List.mem_cons_of_mem _ (List.mem_cons_of_mem _ hw))) (hat w hw)
  have hk' : (Cond.classLink own ik cls).before args s' = true := vx_ot_at hW0 hvm.symm (hgood _ List.mem_cons_self) hk
  have hini' : (Cond.initialized cls).before args s' = true := vx_ot_at hW0 hvm.symm (hgood _ (List.mem_cons_of_mem _ List.mem_cons_self)) hini
  have hU' : vx_Zq Bundle.tN "UNASSIGNED_STACK" Bundle.steD A s' s'.heap := by rw [hhp]; exact vx_Zq.moved hW0.alike (hU.kept hS.2.1)
  have hN' : vx_Zq Bundle.tN "SUPPRESSED_SENTINEL" Bundle.listD A s' s'.heap := by rw [hhp]; exact vx_Zq.moved hW0.alike (hN.kept hS.2.1)
  have h : ∀ w ∈ Bundle.ownAtoms own ic cls names, w.before args s' = true := vx_own hat' (vx_isRefq hU'.1) (vx_isRefq hN'.1) hU'.2.word hN'.2.word
  have hown' : s'.vm.findClass own = some m.cls := by rw [hvm]; exact hown
  have hins : (Cond.instantiable cls 6).before args s' = true := h _ (by simp [Bundle.ownAtoms])
  obtain ⟨vm₁, cX, kX, hfX, hkX, -, -, X₁, st1⟩ := Y.newCold hexec (own := own) (C := cls) (index := ik) (n := 6) hown' hk' hins hini'
    (g := F0 m pc ls rest) rfl (by rw [hb]; exact d0) (Nat.le_refl _) (Nat.le_refl _)
  generalize hT1 : (T.setVm vm₁).pushCell { cls := cX, slots := kX.instanceTypes.map defaultValue, vm := .none } = T1 at X₁ st1
  have hcat : (Value.ref T.heap.size).category = 1 := rfl
  have hcellA : T1.heap[T.heap.size]? = some (freshCell cX kX) := by rw [← hT1]; exact State.heap_pushCell_size _ _
  have d3' : decode c.code (pc + 3) = .ok (.dup, 1) := by rw [hb]; exact d3
  have d4' : decode c.code (pc + 4) = .ok (.ldc is, 2) := by rw [hb]; exact d4
  have hstr' : vk_R own is text sa s' := vk_R.warm hW0 hstr
  obtain ⟨U, hsteps, hrun, hend, hW, hsame, ce, hce, hO⟩ := X₁.ctorThrowS hexec htr (own := own) (cls := cls) (names := names) (ic := ic) hown' hcls hnames h (fun x hx => nomatch hx) hfX hkX hcellA (by rw [hhp, hT]; exact Nat.le_refl _) (msg := .ref sa) rfl
    (g := { method := m, pc := pc + 6, locals := ls, stack := .ref sa :: .ref T.heap.size :: .ref T.heap.size :: rest, locked := none }) rfl hsize rfl rfl (rest := rest) rfl
    (by rw [hb]; exact d6) (by rw [hb]; exact d9) hout hRframes (by simp only [List.map_cons, List.sum_cons, hcat]; omega) hlocks
  obtain ⟨f1, f2⟩ := vx_frame hsame
  rw [hhp] at f1 f2
  have hWs : s.WarmedH U.vm := State.WarmedH.trans hW0 hW
  have hcl : s.vm.findClass cls = some ce.cls := by
    have h9 := hO.cls
    rw [hvm] at h9
    exact h9
  have hall : s.sameButNew ({ U with vm := s.vm } : State) locs mc ms := by
    subst hA
    obtain ⟨e1, e2⟩ := hsame
    rw [State.setFrames_setFrames] at e1
    have h2 : (T.setVm s.vm).sameButNew ({ U with vm := s.vm } : State) [] (0 + 1) (0 + 6) := ⟨e1, e2⟩
    have h3 := X.same.trans h2
    rw [List.append_nil] at h3
    exact h3.mono hc hs
  refine ⟨U, ?_, .threw T.heap.size, hrun, hend, Or.inr ⟨T.heap.size, rfl, cls, ce, locs, hx U hWs.alike f1 (fun q hq => f2 q hq (fun z hz => nomatch hz)), hce, hO.vm, hcl, hWs, hall, hf⟩⟩
  refine st1 _ ?_
  show Steps p.tables e below (T1.setTop { method := m, pc := pc + 3, locals := ls, stack := .ref T.heap.size :: rest, locked := none }) _
  jvm_step X₁.here [X₁.here.top, hexec, d3', Value.category]
  exact X₁.ldcString hexec (own := own) (text := text) (index := is) (a := sa) hown' hstr'.1 hstr'.2
    (g := { method := m, pc := pc + 4, locals := ls, stack := .ref T.heap.size :: .ref T.heap.size :: rest, locked := none }) rfl d4' _ hsteps
/-- 'throw new E("text")', the text by a wide index -/
theorem vx_throwSW {cc : ByteArray} {pc : Nat} (hexec : p.tables.exec = Jvm.exec) (hb : c.code = cc) (hl : l.stackTraces = false) {own cls text : String} {names : List String} {ik is ic mc ms sa : Nat} {A : Nat → Prop}
    (hown : s.vm.findClass own = some m.cls) (hcls : Bundle.fit cls = true) (hnames : ∀ n ∈ names, Bundle.fit n = true)
    (hk : (Cond.classLink own ik cls).before args s = true) (hini : (Cond.initialized cls).before args s = true) (hstr : vk_R own is text sa s) (hat : ∀ w ∈ vx_atS own ic cls names, w.before args s = true)
    (hgood : ∀ w ∈ Cond.classLink own ik cls :: Cond.initialized cls :: vx_atS own ic cls names, vx_ot w = true)
    (hU : vx_Zq Bundle.tN "UNASSIGNED_STACK" Bundle.steD A s s.heap) (hN : vx_Zq Bundle.tN "SUPPRESSED_SENTINEL" Bundle.listD A s s.heap) (hS : va_S A s.heap H locs) (hsize : ls.size = c.maxLocals)
    (d0 : decode cc pc = .ok (.new ik, 3)) (d3 : decode cc (pc + 3) = .ok (.dup, 1)) (d4 : decode cc (pc + 4) = .ok (.ldc_w is, 3)) (d7 : decode cc (pc + 7) = .ok (.invokespecial ic, 3)) (d10 : decode cc (pc + 10) = .ok (.athrow, 1))
    (hout : ∀ x ∈ c.exceptionTable.toList, covers x (pc + 10) = false)
    (hRframes : names.length + 3 < R.frames) (hRlocals : (rest.map fun v => v.category).sum + (13 * (names.length + 1) + 43) ≤ R.locals) (hRcells : cells + 1 ≤ R.cells) (hRslots : slots + 6 ≤ R.slots) (hlocks : meth.locks = false)
    (hx : ∀ t : State, s.vm.Alike t.vm → H.size ≤ t.heap.size → (∀ q : Nat, q < H.size → t.heap[q]? = H[q]?) → XC cls s t)
    (hf : ∀ z ∈ locs, free z.base) (hc : cells + 1 ≤ mc) (hs : slots + 6 ≤ ms) :
    W p l e R s m args below meth c H locs cells slots (vx_MQ below Qc XC args s mc ms free) (F0 m pc ls rest) := by
  intro T hT X
  have htr : e.platform.stackTraces = false := (show e.platform.stackTraces = l.stackTraces by rw [X.admits.platform]).trans hl
  have Y := vx_rebase X (R' := { frames := R.frames, locals := R.locals, cells := 1, slots := 6 }) (Nat.le_refl _) (Nat.le_refl _) hRcells hRslots
  obtain ⟨s', hA⟩ : ∃ z, z = (T.setVm s.vm).setFrames (.invoking m args :: below) := ⟨_, rfl⟩
  rw [← hA] at Y
  have hvm : s'.vm = s.vm := by rw [hA]; rfl
  have hhp : s'.heap = H := by rw [hA]; exact hT
  have hW0 : s.WarmedH s'.vm := by rw [hvm]; exact State.WarmedH.refl s
  have hat' : ∀ w ∈ vx_atS own ic cls names, w.before args s' = true := fun w hw => vx_ot_at hW0 hvm.symm (hgood w (List.mem_cons_of_mem _ (List.mem_cons_of_mem _ hw))) (hat w hw)
  have hk' : (Cond.classLink own ik cls).before args s' = true := vx_ot_at hW0 hvm.symm (hgood _ List.mem_cons_self) hk
  have hini' : (Cond.initialized cls).before args s' = true := vx_ot_at hW0 hvm.symm (hgood _ (List.mem_cons_of_mem _ List.mem_cons_self)) hini
  have hU' : vx_Zq Bundle.tN "UNASSIGNED_STACK" Bundle.steD A s' s'.heap := by rw [hhp]; exact vx_Zq.moved hW0.alike (hU.kept hS.2.1)
  have hN' : vx_Zq Bundle.tN "SUPPRESSED_SENTINEL" Bundle.listD A s' s'.heap := by rw [hhp]; exact vx_Zq.moved hW0.alike (hN.kept hS.2.1)
  have h : ∀ w ∈ Bundle.ownAtoms own ic cls names, w.before args s' = true := vx_own hat' (vx_isRefq hU'.1) (vx_isRefq hN'.1) hU'.2.word hN'.2.word
  have hown' : s'.vm.findClass own = some m.cls := by rw [hvm]; exact hown
  have hins : (Cond.instantiable cls 6).before args s' = true := h _ (by simp [Bundle.ownAtoms])
  obtain ⟨vm₁, cX, kX, hfX, hkX, -, -, X₁, st1⟩ := Y.newCold hexec (own := own) (C := cls) (index := ik) (n := 6) hown' hk' hins hini'
    (g := F0 m pc ls rest) rfl (by rw [hb]; exact d0) (Nat.le_refl _) (Nat.le_refl _)
  generalize hT1 : (T.setVm vm₁).pushCell { cls := cX, slots := kX.instanceTypes.map defaultValue, vm := .none } = T1 at X₁ st1
  have hcat : (Value.ref T.heap.size).category = 1 := rfl
  have hcellA : T1.heap[T.heap.size]? = some (freshCell cX kX) := by rw [← hT1]; exact State.heap_pushCell_size _ _
  have d3' : decode c.code (pc + 3) = .ok (.dup, 1) := by rw [hb]; exact d3
  have d4' : decode c.code (pc + 4) = .ok (.ldc_w is, 3) := by rw [hb]; exact d4
  have hstr' : vk_R own is text sa s' := vk_R.warm hW0 hstr
  obtain ⟨U, hsteps, hrun, hend, hW, hsame, ce, hce, hO⟩ := X₁.ctorThrowS hexec htr (own := own) (cls := cls) (names := names) (ic := ic) hown' hcls hnames h (fun x hx => nomatch hx) hfX hkX hcellA (by rw [hhp, hT]; exact Nat.le_refl _) (msg := .ref sa) rfl
    (g := { method := m, pc := pc + 7, locals := ls, stack := .ref sa :: .ref T.heap.size :: .ref T.heap.size :: rest, locked := none }) rfl hsize rfl rfl (rest := rest) rfl
    (by rw [hb]; exact d7) (by rw [hb]; exact d10) hout hRframes (by simp only [List.map_cons, List.sum_cons, hcat]; omega) hlocks
  obtain ⟨f1, f2⟩ := vx_frame hsame
  rw [hhp] at f1 f2
  have hWs : s.WarmedH U.vm := State.WarmedH.trans hW0 hW
  have hcl : s.vm.findClass cls = some ce.cls := by
    have h9 := hO.cls
    rw [hvm] at h9
    exact h9
  have hall : s.sameButNew ({ U with vm := s.vm } : State) locs mc ms := by
    subst hA
    obtain ⟨e1, e2⟩ := hsame
    rw [State.setFrames_setFrames] at e1
    have h2 : (T.setVm s.vm).sameButNew ({ U with vm := s.vm } : State) [] (0 + 1) (0 + 6) := ⟨e1, e2⟩
    have h3 := X.same.trans h2
    rw [List.append_nil] at h3
    exact h3.mono hc hs
  refine ⟨U, ?_, .threw T.heap.size, hrun, hend, Or.inr ⟨T.heap.size, rfl, cls, ce, locs, hx U hWs.alike f1 (fun q hq => f2 q hq (fun z hz => nomatch hz)), hce, hO.vm, hcl, hWs, hall, hf⟩⟩
  refine st1 _ ?_
  show Steps p.tables e below (T1.setTop { method := m, pc := pc + 3, locals := ls, stack := .ref T.heap.size :: rest, locked := none }) _
  jvm_step X₁.here [X₁.here.top, hexec, d3', Value.category]
  exact X₁.ldcStringW hexec (own := own) (text := text) (index := is) (a := sa) hown' hstr'.1 hstr'.2
    (g := { method := m, pc := pc + 4, locals := ls, stack := .ref T.heap.size :: .ref T.heap.size :: rest, locked := none }) rfl d4' _ hsteps
end Ends
section Bodies
variable {l : Launch}
theorem vx_ofW {y : MethodName} {ws ws' : List Cond} {rm : Room} {Pc : Array Value → State → Prop} {Qc : Array Value → State → Outcome → State → Prop} {XC : String → State → State → Prop} {mc ms : Nat} {free : Addr → Prop} {cc : ByteArray} {maxL : Nat} {ret : Option FieldType}
    (hy : plainName y.cls = true) (hw : ws = Cond.code y cc maxL ret :: ws')
    (body : ∀ p e s m args below meth c s₁, BodyLoose p l y (headSpec ws rm) cc maxL ret e s m args below meth c s₁ → c.maxLocals = maxL → (∀ x ∈ c.exceptionTable.toList, False) → Pc args s →
      W p l e (headSpec ws rm).room s m args below meth c s.heap [] 0 0 (vx_MQ below Qc XC args s mc ms free) (entryFrame m args maxL)) : vx_Met l y ws rm Pc Qc XC mc ms free := by
  refine MetFree.of_bodyS (code := cc) (maxLocals := maxL) (ret := ret) hy ?_ ?_
  · intro args s m h hn
    obtain ⟨meth, c, h1, h2, h3, h4, h5, h6, -, -⟩ := Cond.code_spec hn (atoms_spec (ws := ws) h _ (by rw [hw]; exact List.mem_cons_self))
    exact ⟨meth, c, h1, h2, h3, h4, h5, h6⟩
  · intro p e s m args below meth c s₁ B hml hP _
    have hh0 : s₁.heap = s.heap := by rw [B.state]; rfl
    have ht : ∀ x ∈ c.exceptionTable.toList, False := by
      obtain ⟨meth9, c9, h1, h2, -, -, -, -, h7, -⟩ := Cond.code_spec B.named (atoms_spec (ws := ws) B.pre _ (by rw [hw]; exact List.mem_cons_self))
      cases Option.some.inj (h1.symm.trans B.method)
      cases Option.some.inj (h2.symm.trans (Stand.of_body B).code)
      intro x hx
      rw [Array.isEmpty_iff.mp h7] at hx
      cases hx
    obtain ⟨t, a1, o, b1, b2, b3⟩ := body p e s m args below meth c s₁ B hml ht hP s₁ hh0 (Stand.of_body B)
    exact ⟨t, o, a1, b1, b2, b3⟩
/-- the table of a body with handlers -/
theorem vx_table {p : Program} {x y : MethodName} {S : Spec} {cc bytes : ByteArray} {maxL maxL' : Nat} {ret ret' : Option FieldType} {e : Env} {s s₁ : State} {m : MethodId} {args : Array Value} {below : List Frame} {meth : Method} {c : Code} {hh : List (Nat × Nat × Nat × Nat)}
    (B : BodyLoose p l y S cc maxL ret e s m args below meth c s₁) (h : (Cond.codeWith y bytes maxL' ret' hh).before args s = true) : c.exceptionTable.toList = tableOf hh := by
  obtain ⟨m9, meth9, c9, hn9, h1, h2, -, -, h6, -⟩ := Cond.codeWith_spec h
  cases Option.some.inj (hn9.symm.trans B.named)
  cases Option.some.inj (h1.symm.trans B.method)
  cases Option.some.inj (h2.symm.trans (Stand.of_body B).code)
  rw [← h6, table_eq]
end Bodies
end VXA
/-! ===== END ===== -/
/-! ===== BEGIN a static call of a method with an exception table ===== -/
section VXS
variable {p : Program} {l : Launch} {e : Env} {R : Room} {s : State} {m : MethodId} {args : Array Value} {below : List Frame} {meth : Method} {c : Code} {T : State} {H : Heap} {locs : List Loc} {cells slots : Nat}
abbrev vx_CSW (R : Room) (s : State) (args : Array Value) (own : String) (index : Nat) (y : MethodName) (bytes : ByteArray) (maxL : Nat) (ret : Option FieldType) (hh : List (Nat × Nat × Nat × Nat)) (ws : List Cond) (rm : Room) (mc ms n : Nat) : Prop :=
  (rm.cells = mc ∧ rm.slots = ms ∧ rm.frames + 1 ≤ R.frames ∧ 8 + (maxL + 11) + rm.locals ≤ R.locals ∧ (∀ w ∈ ws, ∀ (a' : Array Value) (U : State), s.WarmedH U.vm → w.before a' U = true) ∧ Cond.codeWith y bytes maxL ret hh ∈ ws) ∧
  (Cond.codeWith y bytes maxL ret hh).before args s = true ∧ (Cond.initialized y.cls).before args s = true ∧ (y.cls ≠ "java/lang/invoke/MethodHandle" ∧ y.cls ≠ "java/lang/invoke/VarHandle") ∧
  (∀ sig, parseMethodDescriptor y.desc = some sig → n = sig.parameters.length) ∧ (Cond.methodLink own index y).before args s = true ∧ (Cond.static y).before args s = true
theorem vx_cwSW {own : String} {index maxL mc ms : Nat} {y : MethodName} {bytes : ByteArray} {ret : Option FieldType} {hh : List (Nat × Nat × Nat × Nat)} {Ts ws ws' : List Cond} {rm : Room} (n : Nat) (ht : ∀ w ∈ Ts, w.before args s = true) (hT : GoodIn Ts (va_wsS own index y ws)) (hw : ws = Cond.codeWith y bytes maxL ret hh :: ws') (hrc : rm.cells = mc) (hrs : rm.slots = ms)
    (hd : y.cls ≠ "java/lang/invoke/MethodHandle" ∧ y.cls ≠ "java/lang/invoke/VarHandle" ∧ (parseMethodDescriptor y.desc).map (fun d => d.parameters.length) = some n) (hR : rm.frames + 1 ≤ R.frames ∧ 8 + (maxL + 11) + rm.locals ≤ R.locals) :
    vx_CSW R s args own index y bytes maxL ret hh ws rm mc ms n := by
  have ok : ∀ w ∈ va_wsS own index y ws, w.before args s = true := fun w h => ht w (hT w h).1
  have hG : GoodIn Ts ws := fun w h => hT w (by unfold va_wsS; exact List.mem_append_right _ h)
  have hc : Cond.codeWith y bytes maxL ret hh ∈ ws := by rw [hw]; exact List.mem_cons_self
  refine ⟨⟨hrc, hrs, hR.1, hR.2, pay_in ht hG, hc⟩, ht _ (hG _ hc).1, ok _ (by simp [va_wsS]), ⟨hd.1, hd.2.1⟩, fun sig h => ?_, ok _ (by simp [va_wsS]), ok _ (by simp [va_wsS])⟩
  have h2 := hd.2.2
  rw [h] at h2
  exact (Option.some.inj h2).symm
theorem vx_callSW (X : Stand p l e R s m args below meth c T locs cells slots) (hexec : p.tables.exec = Jvm.exec) {own : String} {index : Nat} {y : MethodName} {bytes : ByteArray} {maxL : Nat} {ret : Option FieldType} {hh : List (Nat × Nat × Nat × Nat)}
    (hown : s.vm.findClass own = some m.cls) (hlink : (Cond.methodLink own index y).before args s = true) (hstat : (Cond.static y).before args s = true) (hinit : (Cond.initialized y.cls).before args s = true)
    (hcode : (Cond.codeWith y bytes maxL ret hh).before args s = true) (hy : y.cls ≠ "java/lang/invoke/MethodHandle" ∧ y.cls ≠ "java/lang/invoke/VarHandle")
    {W9 : Nat} {Pre : Pt → Array Value → Prop} {Post : Pt → Array Value → Option Value → Pt → Prop} (hK : Back l R p e below s args y 3 W9 Pre Post)
    {g : JFrame} (hg : g.method = m) (hsize : g.locals.size = c.maxLocals) {argsL rest : List Value} (hlen : ∀ sig, parseMethodDescriptor y.desc = some sig → argsL.length = sig.parameters.length)
    (hstack : g.stack = argsL.reverse ++ rest) (hW : 2 * g.monitorRoom + (rest.map fun v => v.category).sum ≤ W9) (hdg : decode c.code g.pc = .ok (.invokestatic index, 3))
    (hpre : ∀ vm₁, s.WarmedH vm₁ → Pre ⟨T.setVm vm₁, locs, cells, slots⟩ argsL.toArray) :
    ∃ (v : Option Value) (vm₁ : Vm) (B : Pt), s.WarmedH vm₁ ∧ Stand p l e R s m args below meth c B.U B.locs B.cells B.slots ∧ Post ⟨T.setVm vm₁, locs, cells, slots⟩ argsL.toArray v B ∧
      ∀ target, Steps p.tables e below (B.U.setTop { g with pc := g.pc + 3, stack := v.toList ++ rest }) target → Steps p.tables e below (T.setTop g) target := by
  obtain ⟨mk, methM, cM, hnamed, hmethM, -, -, -, -, -, -, hsigM⟩ := Cond.codeWith_spec hcode
  have hstatic : methM.isStatic = true := Cond.static_spec hnamed hmethM hstat
  obtain ⟨kP, hkP, -⟩ := className_of_methodNamed hnamed
  have hinitP : kP.init = .initialized := Cond.initialized_spec (findClass_of_methodNamed hnamed) hkP hinit
  obtain ⟨vm₁, X₁, hstep₁⟩ := X.invokestatic hexec hown hlink hnamed hmethM hstatic hkP hinitP hy (g := g) hg (argsL := argsL) (rest := rest) (hlen _ hsigM) hstack hdg
  obtain ⟨v, B, X', hpost, hsteps⟩ := hK m meth c ⟨T.setVm vm₁, locs, cells, slots⟩ { g with stack := rest } (.invokestatic index) mk argsL.toArray X₁ hg hsize hdg hW (X₁.named hnamed) (hpre vm₁ X₁.warmed)
  exact ⟨v, vm₁, B, X₁.warmed, X', hpost, fun target h => hstep₁ _ fun acts => by rw [doInvoke_state]; exact hsteps.trans h⟩
theorem vx_runSW {y : MethodName} {bytes cc : ByteArray} {maxL nL mc ms n index : Nat} {ret : Option FieldType} {hh : List (Nat × Nat × Nat × Nat)} {ws : List Cond} {rm : Room} {Pc : Array Value → State → Prop} {Qc : Array Value → State → Outcome → State → Prop} {free : Addr → Prop} {Ts : List Cond} {own : String} {As rest : List Value} {g : JFrame}
    (S : CallFix p m c cc nL s args Ts own) (hM : Met l y ws rm Pc Qc mc ms free) (cw : vx_CSW R s args own index y bytes maxL ret hh ws rm mc ms n) (hp : PreS s H Pc As)
    (hg : g.method = m) (hn : As.length = n) (hsize : g.locals.size = nL) (hstack : g.stack = As.reverse ++ rest) (hW : 2 * g.monitorRoom + (rest.map fun v => v.category).sum ≤ 8) (hdg : decode cc g.pc = .ok (.invokestatic index, 3)) (hf : cells + mc ≤ R.cells ∧ slots + ms ≤ R.slots) :
    va_Run p l e R s m args below meth c H locs cells slots mc ms g rest (Qc As.toArray) (free) := by
  obtain ⟨⟨hrc, hrs, hfr, hlo, hws, hcw⟩, hcode, hini, hy, hlen, hl, hstt⟩ := cw
  have hK : Back l R p e below s args y 3 8 (PreOf R mc ms Pc) (PostOf Qc mc ms free) := va_backW (hh := hh) (bytes := bytes) (maxL := maxL) (ret := ret) hM hp.1 hrc hrs hfr hlo hws hcw (fun a' U hW => word_at hW (Or.inl (by first | rfl | simp [Cond.onTables, Cond.keeps, Cond.steady])) hini)
  obtain ⟨hx, hb, hml, ho, -⟩ := S
  intro T hT X
  obtain ⟨v, vm₁, ⟨U', l2, c2, s2⟩, hW₁, X', ⟨g', mk, t, L, e1, e2, hq, h1, hL, h2, h3⟩, st⟩ := vx_callSW X hx (hh := hh) (bytes := bytes) (maxL := maxL) (ret := ret) ho hl hstt hini hcode hy hK hg (hsize.trans hml.symm) (argsL := As) (rest := rest) (fun sig h => hn.trans (hlen sig h)) hstack hW (by rw [hb]; exact hdg)
    (fun vm₁ hW₁ => ⟨hf.1, hf.2, hp.2 (T.setVm vm₁) hT hW₁⟩)
  dsimp only [Pt.U, Pt.locs, Pt.cells, Pt.slots] at X' e1 e2 h1 h2 h3 st
  subst h1; subst h2; subst h3
  exact ⟨v, (T.setVm vm₁).calling g' mk As.toArray, t, U', L, hT, X', hL, e1, e2, hq, st⟩
/-- not caught here, past rows that name other classes: it goes on to the caller -/
theorem vx_outP {p : Program} {l : Launch} {e : Env} {R : Room} {s : State} {m : MethodId} {args : Array Value} {below : List Frame} {meth : Method} {c : Code} {H : Heap} {locs : List Loc} {cells slots : Nat} {free : Addr → Prop} {ls : Array Slot} {rest : List Value} {Qc : Array Value → State → Outcome → State → Prop} {XC : String → State → State → Prop}
    {pc : Nat} {own E : String} {ce : Cell} {q : Addr} {mc ms : Nat} (hown : s.vm.findClass own = some m.cls) (hlocks : meth.locks = false)
    (hpass : ∀ z ∈ c.exceptionTable.toList, covers z pc = false ∨ (z.catchType ≠ 0 ∧ ∃ nm : String, (Cond.classLink own z.catchType nm).before args s = true ∧ va_Nc E nm s)) (hcell : H[q]? = some ce) (hv : ce.vm = .none) (hcl : s.vm.findClass E = some ce.cls)
    (hx : ∀ t : State, t.heap = H → s.vm.Alike t.vm → XC E s t) (hf : ∀ z ∈ locs, free z.base) (hc : cells ≤ mc) (hs : slots ≤ ms) :
    vx_W p l e R s m args below meth c H locs cells slots (vx_MQ below Qc XC args s mc ms free) (F0 m pc ls rest) q := by
  intro T hT X
  have hpl : e.platform.magicAccessors = ({} : Platform).magicAccessors := by rw [X.admits.platform]
  obtain ⟨vm', hW', X', st⟩ := X.outThrough hlocks q (g := F0 m pc ls rest) rfl rfl rfl (cell := ce) (by rw [hT]; exact hcell) (by rw [hv]; rfl)
    (by obtain ⟨k9, h9, -⟩ := Vm.findClass_spec hcl; exact ⟨k9, h9⟩) (fun z hz => by
      rcases hpass z hz with h | ⟨hz0, nm, hl1, hn1⟩
      · exact Or.inl h
      · obtain ⟨c6, hc6, hcl6⟩ := Cond.classLink_spec hown hl1 e.platform hpl
        obtain ⟨a8, b8, h1, h2, h3⟩ := hn1
        cases Option.some.inj (h1.symm.trans hcl)
        cases Option.some.inj (h2.symm.trans hc6)
        exact Or.inr ⟨hz0, _, hcl6, h3⟩)
  obtain ⟨g₀, hfr⟩ := X'.frames_eq
  have hcell9 : ((T.setVm vm').setFrames (.throwing q :: below)).heap[q]? = some ce := by
    show T.heap[q]? = some ce
    rw [hT]; exact hcell
  have hend : Ended ((T.setVm vm').setFrames (.throwing q :: below)) below (.threw q) := State.frames_setFrames _ (State.cur_lt_of_frames hfr)
  refine ⟨(T.setVm vm').setFrames (.throwing q :: below), ?_, .threw q, X'.here.running, hend, Or.inr ⟨q, rfl, E, ce, locs, hx _ hT (X'.ends _).1.alike, hcell9, hv, hcl, (X'.ends _).1, (X'.ends _).2.mono hc hs, hf⟩⟩
  rw [X.pushThrowing_eq]
  exact st
/-- a thing of a world lies in the heap -/
theorem vx_lt {D : va_G} {cl : List vw_C} {ws : va_W} {H1 : Heap} (h : va_P D cl ws H1) {k : Nat} {q : Nat × va_E} (hk : ws[k]? = some q) : q.1 < H1.size := (h k q hk).lt
end VXS
/-! ===== END ===== -/
/-! ===== BEGIN methods with a table of their own: called by a name, returning or throwing ===== -/
section VXH
/-! vx_backW, vx_callVX, vx_callSX, vx_callVW, vx_runVW, vx_runVX, vx_runSX, vx_ofWH follow the same proofs as their sisters above (Free/Laws.lean, Shelf42/LK1.lean); vx_outP calls Shelf42/NT130.lean (outThrough). -/
section
variable {l : Launch} {R : Room} {p : Program} {e : Env} {below : List Frame} {s : State} {sargs : Array Value} {y : MethodName} {len W9 : Nat}
theorem vx_backW {ws : List Cond} {rm : Room} {Pc : Array Value → State → Prop} {Qc : Array Value → State → Outcome → State → Prop} {XC : String → State → State → Prop} {mc ms : Nat} {free : Addr → Prop} {bytes : ByteArray} {maxL : Nat} {ret : Option FieldType} {hh : List (Nat × Nat × Nat × Nat)}
    (hM : vx_Met l y ws rm Pc Qc XC mc ms free) (hblind : FrameBlind Pc) (hrc : rm.cells = mc) (hrs : rm.slots = ms)
    (hframes : rm.frames + 1 ≤ R.frames) (hlocals : W9 + (maxL + 11) + rm.locals ≤ R.locals)
    (hws : ∀ w ∈ ws, ∀ a' U, s.WarmedH U.vm → w.before a' U = true) (hcode : Cond.codeWith y bytes maxL ret hh ∈ ws) (hinit : ∀ a' U, s.WarmedH U.vm → (Cond.initialized y.cls).before a' U = true) :
    vx_Back l R p e below s sargs y len W9 (PreOf R mc ms Pc) (PostOf Qc mc ms free) (vx_Post XC mc ms free) := by
  intro m meth c A g ig mk a X hg hsize hdg hW hn hp
  have h1 : (headSpec ws rm).pre.before a A.U = true := atoms_intro fun w hw => hws w hw _ _ X.warmed
  have h2 : (Cond.codeWith y bytes maxL ret hh).before a A.U = true := hws _ hcode _ _ X.warmed
  have h3 : (Cond.initialized y.cls).before a A.U = true := hinit _ _ X.warmed
  have h4 : A.cells + (headSpec ws rm).room.cells ≤ R.cells := by rw [show (headSpec ws rm).room.cells = mc from hrc]; exact hp.1
  have h5 : A.slots + (headSpec ws rm).room.slots ≤ R.slots := by rw [show (headSpec ws rm).room.slots = ms from hrs]; exact hp.2.1
  have hPc : Pc a (A.U.calling g mk a) := hblind _ _ _ _ hp.2.2
  obtain ⟨U, Ls, c0, s0⟩ := A
  dsimp only [Pt.U, Pt.locs, Pt.cells, Pt.slots] at h1 h2 h3 h4 h5 X hn hPc ⊢
  obtain ⟨m9, methY, cY, hn9, hmY, hcY, -, hlY, -⟩ := Cond.codeWith_spec h2
  cases Option.some.inj (hn9.symm.trans hn)
  obtain ⟨kY, hkY, -⟩ := className_of_methodNamed hn
  have hinitY : kY.init = .initialized := Cond.initialized_spec (findClass_of_methodNamed hn) hkY h3
  have h : At U g.method c below := by rw [hg]; exact X.here
  have hlocals9 : W9 + (maxL + 11) + (headSpec ws rm).room.locals ≤ R.locals := hlocals
  have happ : (headSpec ws rm).appliesLoose y e.platform (U.calling g mk a) = true :=
    Spec.appliesLoose_calling (g := g) h hdg hn hkY hinitY
      (X.room_calling (g := g) (R' := (headSpec ws rm).room) hsize hmY hcY hframes (by rw [hlY]; omega) h4 h5) h1
  obtain ⟨mid, hmid⟩ := h.above
  have hfr : (U.setTop g).frames = (.java g :: mid) ++ below := by rw [State.frames_setTop' g h.top, hmid]; rfl
  obtain ⟨o, s₂, hsteps, -, hend, hq⟩ := Steps.callFree hM p X.admits X.cas X.clock (acts := []) hfr happ hPc trivial
  have hq' : vx_Q Qc XC mc ms free a (U.calling g mk a) o s₂ := hq
  rw [State.frames_setTop' g h.top] at hend
  obtain ⟨g₀, hg0⟩ := Option.isSome_iff_exists.mp h.top
  obtain ⟨r, hr⟩ := State.topJava?_eq_some.mp hg0
  have hr' : (({ U with heap := s₂.heap, slotsUsed := s₂.slotsUsed } : State).setVm s₂.vm).frames = .java g₀ :: r := hr
  rcases hq' with ⟨hqc, L, hfe, hL⟩ | ⟨q, rfl, E, ce, L, hx, hce, hcv, hcl, hW₂, hsm, hL⟩
  · obtain ⟨⟨v, rfl⟩, hW₂, e2, q2, q3, q4, q5, q6⟩ := id hfe
    have e3 : s₂ = ({ (U.calling g mk a).setFrames s₂.frames with heap := s₂.heap, slotsUsed := s₂.slotsUsed } : State).setVm s₂.vm := by
      have : s₂ = ({ s₂ with vm := (U.calling g mk a).vm } : State).setVm s₂.vm := rfl
      rw [e2] at this
      exact this
    obtain ⟨c₂, i₂, len₂, hc₂, hd₂, hf₂⟩ := hend
    have hW' : U.WarmedH s₂.vm := hW₂
    have hcc : c₂ = c := by
      have h1 : s₂.code? g.method = U.code? g.method := by
        rw [State.code?_eq, State.code?_eq, hW'.alike.method?]
      exact Option.some.inj (hc₂.symm.trans (h1.trans h.code))
    subst hcc
    have hlen : len₂ = len := by rw [hdg] at hd₂; cases hd₂; rfl
    subst hlen
    have hs₂ : s₂ = (({ U with heap := s₂.heap, slotsUsed := s₂.slotsUsed } : State).setVm s₂.vm).setTop { g with pc := g.pc + len₂, stack := v.toList ++ g.stack } := by
      refine e3.trans ?_
      rw [hf₂, State.calling_eq h.top, State.setFrames_setFrames, State.setTop_of_frames _ hr', hr]
      rfl
    have hsame : U.sameButNew ({ U with heap := s₂.heap, slotsUsed := s₂.slotsUsed } : State) L mc ms := by
      refine ⟨?_, q2, q3, q4, q5, q6⟩
      obtain ⟨t, ht, -⟩ := State.frames_cons hr
      show ({ U with heap := s₂.heap, slotsUsed := s₂.slotsUsed } : State) = { U.setFrames U.frames with heap := s₂.heap, slotsUsed := s₂.slotsUsed }
      rw [State.setFrames_self ht]
    subst hg
    refine Or.inl ⟨v, ⟨(({ U with heap := s₂.heap, slotsUsed := s₂.slotsUsed } : State).setVm s₂.vm), Ls ++ L, c0 + mc, s0 + ms⟩,
      ⟨X.admits, X.cas, X.clock, X.frames, X.room, X.hears, X.method, X.code, (X.here.setHeapUsed s₂.heap s₂.slotsUsed).setVm hW'.alike, X.tail, State.WarmedH.trans X.warmed hW', X.limits, X.bytes, X.same.trans (hsame.setVm s.vm)⟩,
      ⟨g, mk, s₂, L, rfl, rfl, hqc, rfl, hL, rfl, rfl⟩, ?_⟩
    show Steps p.tables e below _ ((({ U with heap := s₂.heap, slotsUsed := s₂.slotsUsed } : State).setVm s₂.vm).setTop { g with pc := g.pc + len₂, stack := v.toList ++ g.stack })
    rw [← hs₂]
    exact hsteps
  · obtain ⟨e2, q2, q3, q4, q5, q6⟩ := id hsm
    have e3 : s₂ = ({ (U.calling g mk a).setFrames s₂.frames with heap := s₂.heap, slotsUsed := s₂.slotsUsed } : State).setVm s₂.vm := by
      have : s₂ = ({ s₂ with vm := (U.calling g mk a).vm } : State).setVm s₂.vm := rfl
      rw [e2] at this
      exact this
    have hf₂ : s₂.frames = .throwing q :: .java g :: U.frames.tail := hend
    have hW' : U.WarmedH s₂.vm := hW₂
    have hs₂ : s₂ = ((({ U with heap := s₂.heap, slotsUsed := s₂.slotsUsed } : State).setVm s₂.vm).setTop g).pushFrame (.throwing q) := by
      refine e3.trans ?_
      rw [hf₂, State.calling_eq h.top, State.setFrames_setFrames, State.pushFrame, State.frames_setTop _ hr', State.setTop_of_frames _ hr', State.setFrames_setFrames, hr]
      rfl
    have hsame : U.sameButNew ({ U with heap := s₂.heap, slotsUsed := s₂.slotsUsed } : State) L mc ms := by
      refine ⟨?_, q2, q3, q4, q5, q6⟩
      obtain ⟨t, ht, -⟩ := State.frames_cons hr
      show ({ U with heap := s₂.heap, slotsUsed := s₂.slotsUsed } : State) = { U.setFrames U.frames with heap := s₂.heap, slotsUsed := s₂.slotsUsed }
      rw [State.setFrames_self ht]
    subst hg
    refine Or.inr ⟨q, ⟨(({ U with heap := s₂.heap, slotsUsed := s₂.slotsUsed } : State).setVm s₂.vm), Ls ++ L, c0 + mc, s0 + ms⟩,
      ⟨X.admits, X.cas, X.clock, X.frames, X.room, X.hears, X.method, X.code, (X.here.setHeapUsed s₂.heap s₂.slotsUsed).setVm hW'.alike, X.tail, State.WarmedH.trans X.warmed hW', X.limits, X.bytes, X.same.trans (hsame.setVm s.vm)⟩,
      ⟨g, mk, s₂, L, E, ce, rfl, rfl, hx, hce, hcv, hcl, rfl, hL, rfl, rfl⟩, ?_⟩
    show Steps p.tables e below _ (((({ U with heap := s₂.heap, slotsUsed := s₂.slotsUsed } : State).setVm s₂.vm).setTop g).pushFrame (.throwing q))
    rw [← hs₂]
    exact hsteps
end
variable {p : Program} {l : Launch} {e : Env} {R : Room} {s : State} {m : MethodId} {args : Array Value} {below : List Frame} {meth : Method} {c : Code} {T : State} {H : Heap} {locs : List Loc} {cells slots : Nat}
theorem vx_callVX (X : Stand p l e R s m args below meth c T locs cells slots) (hexec : p.tables.exec = Jvm.exec) {own C : String} {index : Nat} {y : MethodName} {bytes : ByteArray} {maxL : Nat} {ret : Option FieldType} {hh : List (Nat × Nat × Nat × Nat)}
    (hown : s.vm.findClass own = some m.cls) (hlink : (Cond.methodLink own index y).before args s = true) (hinst : (Cond.instanceMethod y).before args s = true) (hsel : (Cond.selects C y y).before args s = true)
    (hcode : (Cond.codeWith y bytes maxL ret hh).before args s = true) (hy : y.cls ≠ "java/lang/invoke/MethodHandle" ∧ y.cls ≠ "java/lang/invoke/VarHandle")
    {W9 : Nat} {Pre : Pt → Array Value → Prop} {Post : Pt → Array Value → Option Value → Pt → Prop} {PostX : Pt → Array Value → Addr → Pt → Prop} (hK : vx_Back l R p e below s args y 3 W9 Pre Post PostX)
    {b : Addr} {cellB : Cell} (hcell : T.heap[b]? = some cellB) (hobj : cellB.vm.isStatics = false) (hcls : s.vm.findClass C = some cellB.cls)
    {g : JFrame} (hg : g.method = m) (hsize : g.locals.size = c.maxLocals) {argsL rest : List Value} (hlen : ∀ sig, parseMethodDescriptor y.desc = some sig → argsL.length = sig.parameters.length)
    (hstack : g.stack = argsL.reverse ++ .ref b :: rest) (hW : 2 * g.monitorRoom + (rest.map fun v => v.category).sum ≤ W9) (hdg : decode c.code g.pc = .ok (.invokevirtual index, 3))
    (hpre : ∀ vm₁, s.WarmedH vm₁ → Pre ⟨T.setVm vm₁, locs, cells, slots⟩ (Value.ref b :: argsL).toArray) :
    (∃ (v : Option Value) (vm₁ : Vm) (B : Pt), s.WarmedH vm₁ ∧ Stand p l e R s m args below meth c B.U B.locs B.cells B.slots ∧ Post ⟨T.setVm vm₁, locs, cells, slots⟩ (Value.ref b :: argsL).toArray v B ∧
      ∀ target, Steps p.tables e below (B.U.setTop { g with pc := g.pc + 3, stack := v.toList ++ rest }) target → Steps p.tables e below (T.setTop g) target) ∨
    (∃ (q : Addr) (vm₁ : Vm) (B : Pt), s.WarmedH vm₁ ∧ Stand p l e R s m args below meth c B.U B.locs B.cells B.slots ∧ PostX ⟨T.setVm vm₁, locs, cells, slots⟩ (Value.ref b :: argsL).toArray q B ∧
      Steps p.tables e below (T.setTop g) ((B.U.setTop { g with stack := rest }).pushFrame (.throwing q))) := by
  obtain ⟨mk, methM, hnamed, hmethM, hstM, habM⟩ := Cond.instanceMethod_spec hinst
  obtain ⟨m8, methM', cM, hn8, hmethM', -, -, -, -, -, -, hsigM⟩ := Cond.codeWith_spec hcode
  cases Option.some.inj (hn8.symm.trans hnamed)
  cases hmethM.symm.trans hmethM'
  obtain ⟨c2, r2, m2, q1, q2, q3, q4, kP, hkP, hkPi⟩ := Cond.selects_spec hsel
  cases hcls.symm.trans q1
  cases (State.methodFound?_of_named hnamed hy).symm.trans q2
  cases hnamed.symm.trans q3
  have hselP : selectMethod e.platform s.vm cellB.cls mk = .method mk := by rw [Launch.admits_selectMethod X.admits]; exact q4
  obtain ⟨vm₁, X₁, hstep₁⟩ := X.invokevirtual hexec hown hlink hnamed hmethM hstM hkP hkPi hy (a := b) (cell := cellB) hcell
    (fun z h => by rw [h] at hobj; cases hobj) hselP hmethM habM hkP hkPi (g := g) hg (argsL := argsL) (rest := rest) (hlen _ hsigM) hstack hdg
  rcases hK m meth c ⟨T.setVm vm₁, locs, cells, slots⟩ { g with stack := rest } (.invokevirtual index) mk (Value.ref b :: argsL).toArray X₁ hg hsize hdg hW (X₁.named hnamed) (hpre vm₁ X₁.warmed) with ⟨v, B, X', hpost, hsteps⟩ | ⟨q, B, X', hpost, hsteps⟩
  · exact Or.inl ⟨v, vm₁, B, X₁.warmed, X', hpost, fun target h => hstep₁ _ fun acts => by rw [doInvoke_state]; exact hsteps.trans h⟩
  · exact Or.inr ⟨q, vm₁, B, X₁.warmed, X', hpost, hstep₁ _ fun acts => by rw [doInvoke_state]; exact hsteps⟩
theorem vx_callSX (X : Stand p l e R s m args below meth c T locs cells slots) (hexec : p.tables.exec = Jvm.exec) {own : String} {index : Nat} {y : MethodName} {bytes : ByteArray} {maxL : Nat} {ret : Option FieldType} {hh : List (Nat × Nat × Nat × Nat)}
    (hown : s.vm.findClass own = some m.cls) (hlink : (Cond.methodLink own index y).before args s = true) (hstat : (Cond.static y).before args s = true) (hinit : (Cond.initialized y.cls).before args s = true)
    (hcode : (Cond.codeWith y bytes maxL ret hh).before args s = true) (hy : y.cls ≠ "java/lang/invoke/MethodHandle" ∧ y.cls ≠ "java/lang/invoke/VarHandle")
    {W9 : Nat} {Pre : Pt → Array Value → Prop} {Post : Pt → Array Value → Option Value → Pt → Prop} {PostX : Pt → Array Value → Addr → Pt → Prop} (hK : vx_Back l R p e below s args y 3 W9 Pre Post PostX)
    {g : JFrame} (hg : g.method = m) (hsize : g.locals.size = c.maxLocals) {argsL rest : List Value} (hlen : ∀ sig, parseMethodDescriptor y.desc = some sig → argsL.length = sig.parameters.length)
    (hstack : g.stack = argsL.reverse ++ rest) (hW : 2 * g.monitorRoom + (rest.map fun v => v.category).sum ≤ W9) (hdg : decode c.code g.pc = .ok (.invokestatic index, 3))
    (hpre : ∀ vm₁, s.WarmedH vm₁ → Pre ⟨T.setVm vm₁, locs, cells, slots⟩ argsL.toArray) :
    (∃ (v : Option Value) (vm₁ : Vm) (B : Pt), s.WarmedH vm₁ ∧ Stand p l e R s m args below meth c B.U B.locs B.cells B.slots ∧ Post ⟨T.setVm vm₁, locs, cells, slots⟩ argsL.toArray v B ∧
      ∀ target, Steps p.tables e below (B.U.setTop { g with pc := g.pc + 3, stack := v.toList ++ rest }) target → Steps p.tables e below (T.setTop g) target) ∨
    (∃ (q : Addr) (vm₁ : Vm) (B : Pt), s.WarmedH vm₁ ∧ Stand p l e R s m args below meth c B.U B.locs B.cells B.slots ∧ PostX ⟨T.setVm vm₁, locs, cells, slots⟩ argsL.toArray q B ∧
      Steps p.tables e below (T.setTop g) ((B.U.setTop { g with stack := rest }).pushFrame (.throwing q))) := by
  obtain ⟨mk, methM, cM, hnamed, hmethM, -, -, -, -, -, -, hsigM⟩ := Cond.codeWith_spec hcode
  have hstatic : methM.isStatic = true := Cond.static_spec hnamed hmethM hstat
  obtain ⟨kP, hkP, -⟩ := className_of_methodNamed hnamed
  have hinitP : kP.init = .initialized := Cond.initialized_spec (findClass_of_methodNamed hnamed) hkP hinit
  obtain ⟨vm₁, X₁, hstep₁⟩ := X.invokestatic hexec hown hlink hnamed hmethM hstatic hkP hinitP hy (g := g) hg (argsL := argsL) (rest := rest) (hlen _ hsigM) hstack hdg
  rcases hK m meth c ⟨T.setVm vm₁, locs, cells, slots⟩ { g with stack := rest } (.invokestatic index) mk argsL.toArray X₁ hg hsize hdg hW (X₁.named hnamed) (hpre vm₁ X₁.warmed) with ⟨v, B, X', hpost, hsteps⟩ | ⟨q, B, X', hpost, hsteps⟩
  · exact Or.inl ⟨v, vm₁, B, X₁.warmed, X', hpost, fun target h => hstep₁ _ fun acts => by rw [doInvoke_state]; exact hsteps.trans h⟩
  · exact Or.inr ⟨q, vm₁, B, X₁.warmed, X', hpost, hstep₁ _ fun acts => by rw [doInvoke_state]; exact hsteps⟩
theorem vx_callVW (X : Stand p l e R s m args below meth c T locs cells slots) (hexec : p.tables.exec = Jvm.exec) {own C : String} {index : Nat} {y : MethodName} {bytes : ByteArray} {maxL : Nat} {ret : Option FieldType} {hh : List (Nat × Nat × Nat × Nat)}
    (hown : s.vm.findClass own = some m.cls) (hlink : (Cond.methodLink own index y).before args s = true) (hinst : (Cond.instanceMethod y).before args s = true) (hsel : (Cond.selects C y y).before args s = true)
    (hcode : (Cond.codeWith y bytes maxL ret hh).before args s = true) (hy : y.cls ≠ "java/lang/invoke/MethodHandle" ∧ y.cls ≠ "java/lang/invoke/VarHandle")
    {W9 : Nat} {Pre : Pt → Array Value → Prop} {Post : Pt → Array Value → Option Value → Pt → Prop} (hK : Back l R p e below s args y 3 W9 Pre Post)
    {b : Addr} {cellB : Cell} (hcell : T.heap[b]? = some cellB) (hobj : cellB.vm.isStatics = false) (hcls : s.vm.findClass C = some cellB.cls)
    {g : JFrame} (hg : g.method = m) (hsize : g.locals.size = c.maxLocals) {argsL rest : List Value} (hlen : ∀ sig, parseMethodDescriptor y.desc = some sig → argsL.length = sig.parameters.length)
    (hstack : g.stack = argsL.reverse ++ .ref b :: rest) (hW : 2 * g.monitorRoom + (rest.map fun v => v.category).sum ≤ W9) (hdg : decode c.code g.pc = .ok (.invokevirtual index, 3))
    (hpre : ∀ vm₁, s.WarmedH vm₁ → Pre ⟨T.setVm vm₁, locs, cells, slots⟩ (Value.ref b :: argsL).toArray) :
    ∃ (v : Option Value) (vm₁ : Vm) (B : Pt), s.WarmedH vm₁ ∧ Stand p l e R s m args below meth c B.U B.locs B.cells B.slots ∧ Post ⟨T.setVm vm₁, locs, cells, slots⟩ (Value.ref b :: argsL).toArray v B ∧
      ∀ target, Steps p.tables e below (B.U.setTop { g with pc := g.pc + 3, stack := v.toList ++ rest }) target → Steps p.tables e below (T.setTop g) target := by
  obtain ⟨mk, methM, hnamed, hmethM, hstM, habM⟩ := Cond.instanceMethod_spec hinst
  obtain ⟨m8, methM', cM, hn8, hmethM', -, -, -, -, -, -, hsigM⟩ := Cond.codeWith_spec hcode
  cases Option.some.inj (hn8.symm.trans hnamed)
  cases hmethM.symm.trans hmethM'
  obtain ⟨c2, r2, m2, q1, q2, q3, q4, kP, hkP, hkPi⟩ := Cond.selects_spec hsel
  cases hcls.symm.trans q1
  cases (State.methodFound?_of_named hnamed hy).symm.trans q2
  cases hnamed.symm.trans q3
  have hselP : selectMethod e.platform s.vm cellB.cls mk = .method mk := by rw [Launch.admits_selectMethod X.admits]; exact q4
  obtain ⟨vm₁, X₁, hstep₁⟩ := X.invokevirtual hexec hown hlink hnamed hmethM hstM hkP hkPi hy (a := b) (cell := cellB) hcell
    (fun z h => by rw [h] at hobj; cases hobj) hselP hmethM habM hkP hkPi (g := g) hg (argsL := argsL) (rest := rest) (hlen _ hsigM) hstack hdg
  obtain ⟨v, B, X', hpost, hsteps⟩ := hK m meth c ⟨T.setVm vm₁, locs, cells, slots⟩ { g with stack := rest } (.invokevirtual index) mk (Value.ref b :: argsL).toArray X₁ hg hsize hdg hW (X₁.named hnamed) (hpre vm₁ X₁.warmed)
  exact ⟨v, vm₁, B, X₁.warmed, X', hpost, fun target h => hstep₁ _ fun acts => by rw [doInvoke_state]; exact hsteps.trans h⟩
abbrev vx_CVW (R : Room) (s : State) (args : Array Value) (own C : String) (index : Nat) (y : MethodName) (bytes : ByteArray) (maxL : Nat) (ret : Option FieldType) (hh : List (Nat × Nat × Nat × Nat)) (ws : List Cond) (rm : Room) (mc ms n : Nat) : Prop :=
  (rm.cells = mc ∧ rm.slots = ms ∧ rm.frames + 1 ≤ R.frames ∧ 8 + (maxL + 11) + rm.locals ≤ R.locals ∧ (∀ w ∈ ws, ∀ (a' : Array Value) (U : State), s.WarmedH U.vm → w.before a' U = true) ∧ Cond.codeWith y bytes maxL ret hh ∈ ws) ∧
  (Cond.codeWith y bytes maxL ret hh).before args s = true ∧ (Cond.initialized y.cls).before args s = true ∧ (y.cls ≠ "java/lang/invoke/MethodHandle" ∧ y.cls ≠ "java/lang/invoke/VarHandle") ∧
  (∀ sig, parseMethodDescriptor y.desc = some sig → n = sig.parameters.length) ∧ (Cond.methodLink own index y).before args s = true ∧ (Cond.instanceMethod y).before args s = true ∧ (Cond.selects C y y).before args s = true
theorem vx_cwVW {own C : String} {index maxL mc ms : Nat} {y : MethodName} {bytes : ByteArray} {ret : Option FieldType} {hh : List (Nat × Nat × Nat × Nat)} {Ts ws ws' : List Cond} {rm : Room} (n : Nat) (ht : ∀ w ∈ Ts, w.before args s = true) (hT : GoodIn Ts (wsV own index C y ws)) (hw : ws = Cond.codeWith y bytes maxL ret hh :: ws') (hrc : rm.cells = mc) (hrs : rm.slots = ms)
    (hd : y.cls = C ∧ y.cls ≠ "java/lang/invoke/MethodHandle" ∧ y.cls ≠ "java/lang/invoke/VarHandle" ∧ (parseMethodDescriptor y.desc).map (fun d => d.parameters.length) = some n) (hR : rm.frames + 1 ≤ R.frames ∧ 8 + (maxL + 11) + rm.locals ≤ R.locals) :
    vx_CVW R s args own C index y bytes maxL ret hh ws rm mc ms n := by
  obtain ⟨hC, hd⟩ := hd
  subst hC
  have ok : ∀ w ∈ wsV own index y.cls y ws, w.before args s = true := fun w h => ht w (hT w h).1
  have hG : GoodIn Ts ws := fun w h => hT w (by unfold wsV; exact List.mem_append_right _ h)
  have hc : Cond.codeWith y bytes maxL ret hh ∈ ws := by rw [hw]; exact List.mem_cons_self
  refine ⟨⟨hrc, hrs, hR.1, hR.2, pay_in ht hG, hc⟩, ht _ (hG _ hc).1, ok _ (by simp [wsV]), ⟨hd.1, hd.2.1⟩, fun sig h => ?_, ok _ (by simp [wsV]), ok _ (by simp [wsV]), ok _ (by simp [wsV])⟩
  have h2 := hd.2.2
  rw [h] at h2
  exact (Option.some.inj h2).symm
theorem vx_runVW {y : MethodName} {bytes cc : ByteArray} {maxL nL mc ms n index : Nat} {ret : Option FieldType} {hh : List (Nat × Nat × Nat × Nat)} {ws : List Cond} {rm : Room} {Pc : Array Value → State → Prop} {Qc : Array Value → State → Outcome → State → Prop} {free : Addr → Prop} {Ts : List Cond} {own C : String} {b : Addr} {As rest : List Value} {g : JFrame}
    (S : CallFix p m c cc nL s args Ts own) (hM : Met l y ws rm Pc Qc mc ms free) (cw : vx_CVW R s args own C index y bytes maxL ret hh ws rm mc ms n) (hp : PreV s H C b Pc As)
    (hg : g.method = m) (hn : As.length = n) (hsize : g.locals.size = nL) (hstack : g.stack = As.reverse ++ .ref b :: rest) (hW : 2 * g.monitorRoom + (rest.map fun v => v.category).sum ≤ 8) (hdg : decode cc g.pc = .ok (.invokevirtual index, 3)) (hf : cells + mc ≤ R.cells ∧ slots + ms ≤ R.slots) :
    va_Run p l e R s m args below meth c H locs cells slots mc ms g rest (Qc (Value.ref b :: As).toArray) free := by
  obtain ⟨⟨hrc, hrs, hfr, hlo, hws, hcw⟩, hcode, hini, hy, hlen, hl, hin, hse⟩ := cw
  have hK : Back l R p e below s args y 3 8 (PreOf R mc ms Pc) (PostOf Qc mc ms free) := va_backW (hh := hh) (bytes := bytes) (maxL := maxL) (ret := ret) hM hp.1 hrc hrs hfr hlo hws hcw (fun a' U hW => word_at hW (Or.inl (by first | rfl | simp [Cond.onTables, Cond.keeps, Cond.steady])) hini)
  obtain ⟨hx, hb, hml, ho, -⟩ := S
  obtain ⟨-, ⟨cellB, hcB, hoB, hclB⟩, hPc⟩ := hp
  intro T hT X
  obtain ⟨v, vm₁, ⟨U', l2, c2, s2⟩, hW₁, X', ⟨g', mk, t, L, e1, e2, hq, h1, hL, h2, h3⟩, st⟩ := vx_callVW X hx (C := C) (hh := hh) (bytes := bytes) (maxL := maxL) (ret := ret) ho hl hin hse hcode hy hK (by rw [hT]; exact hcB) hoB hclB hg (hsize.trans hml.symm) (argsL := As) (rest := rest) (fun sig h => hn.trans (hlen sig h)) hstack hW (by rw [hb]; exact hdg)
    (fun vm₁ hW₁ => ⟨hf.1, hf.2, hPc (T.setVm vm₁) hT hW₁⟩)
  dsimp only [Pt.U, Pt.locs, Pt.cells, Pt.slots] at X' e1 e2 h1 h2 h3 st
  subst h1; subst h2; subst h3
  exact ⟨v, (T.setVm vm₁).calling g' mk (Value.ref b :: As).toArray, t, U', L, hT, X', hL, e1, e2, hq, st⟩
section
variable {y : MethodName} {bytes cc : ByteArray} {maxL nL mc ms n index : Nat} {ret : Option FieldType} {ws : List Cond} {rm : Room} {Pc : Array Value → State → Prop} {Qc : Array Value → State → Outcome → State → Prop} {XC : String → State → State → Prop} {free : Addr → Prop} {Ts : List Cond} {own C : String} {b : Addr} {As rest : List Value} {g : JFrame}
theorem vx_runVX {hh : List (Nat × Nat × Nat × Nat)} (S : CallFix p m c cc nL s args Ts own) (hM : vx_Met l y ws rm Pc Qc XC mc ms free) (cw : vx_CVW R s args own C index y bytes maxL ret hh ws rm mc ms n) (hp : PreV s H C b Pc As)
    (hg : g.method = m) (hn : As.length = n) (hsize : g.locals.size = nL) (hstack : g.stack = As.reverse ++ .ref b :: rest) (hW : 2 * g.monitorRoom + (rest.map fun v => v.category).sum ≤ 8) (hdg : decode cc g.pc = .ok (.invokevirtual index, 3)) (hf : cells + mc ≤ R.cells ∧ slots + ms ≤ R.slots) :
    vx_Run p l e R s m args below meth c H locs cells slots mc ms g rest (Qc (Value.ref b :: As).toArray) XC free := by
  obtain ⟨⟨hrc, hrs, hfr, hlo, hws, hcw⟩, hcode, hini, hy, hlen, hl, hin, hse⟩ := cw
  have hK : vx_Back l R p e below s args y 3 8 (PreOf R mc ms Pc) (PostOf Qc mc ms free) (vx_Post XC mc ms free) := vx_backW (hh := hh) (bytes := bytes) (maxL := maxL) (ret := ret) hM hp.1 hrc hrs hfr hlo hws hcw (fun a' U hW => word_at hW (Or.inl (by first | rfl | simp [Cond.onTables, Cond.keeps, Cond.steady])) hini)
  obtain ⟨hx, hb, hml, ho, -⟩ := S
  obtain ⟨-, ⟨cellB, hcB, hoB, hclB⟩, hPc⟩ := hp
  intro T hT X
  rcases vx_callVX X hx (C := C) (hh := hh) (bytes := bytes) (maxL := maxL) (ret := ret) ho hl hin hse hcode hy hK (by rw [hT]; exact hcB) hoB hclB hg (hsize.trans hml.symm) (argsL := As) (rest := rest) (fun sig h => hn.trans (hlen sig h)) hstack hW (by rw [hb]; exact hdg)
    (fun vm₁ hW₁ => ⟨hf.1, hf.2, hPc (T.setVm vm₁) hT hW₁⟩) with ⟨v, vm₁, ⟨U', l2, c2, s2⟩, hW₁, X', ⟨g', mk, t, L, e1, e2, hq, h1, hL, h2, h3⟩, st⟩ | ⟨q, vm₁, ⟨U', l2, c2, s2⟩, hW₁, X', ⟨g', mk, t, L, E, ce, e1, e2, hq, hce, hcv, hcl, h1, hL, h2, h3⟩, st⟩
  · dsimp only [Pt.U, Pt.locs, Pt.cells, Pt.slots] at X' e1 e2 h1 h2 h3 st
    subst h1; subst h2; subst h3
    exact Or.inl ⟨v, (T.setVm vm₁).calling g' mk (Value.ref b :: As).toArray, t, U', L, hT, X', hL, e1, e2, hq, st⟩
  · dsimp only [Pt.U, Pt.locs, Pt.cells, Pt.slots] at X' e1 e2 h1 h2 h3 st hcl
    subst h1; subst h2; subst h3
    exact Or.inr ⟨q, (T.setVm vm₁).calling g' mk (Value.ref b :: As).toArray, t, U', L, E, ce, hT, X', hL, e1, e2, hq, hce, hcv, vx_cls hW₁ hcl, st⟩
theorem vx_runSX {hh : List (Nat × Nat × Nat × Nat)} (S : CallFix p m c cc nL s args Ts own) (hM : vx_Met l y ws rm Pc Qc XC mc ms free) (cw : vx_CSW R s args own index y bytes maxL ret hh ws rm mc ms n) (hp : PreS s H Pc As)
    (hg : g.method = m) (hn : As.length = n) (hsize : g.locals.size = nL) (hstack : g.stack = As.reverse ++ rest) (hW : 2 * g.monitorRoom + (rest.map fun v => v.category).sum ≤ 8) (hdg : decode cc g.pc = .ok (.invokestatic index, 3)) (hf : cells + mc ≤ R.cells ∧ slots + ms ≤ R.slots) :
    vx_Run p l e R s m args below meth c H locs cells slots mc ms g rest (Qc As.toArray) XC free := by
  obtain ⟨⟨hrc, hrs, hfr, hlo, hws, hcw⟩, hcode, hini, hy, hlen, hl, hstt⟩ := cw
  have hK : vx_Back l R p e below s args y 3 8 (PreOf R mc ms Pc) (PostOf Qc mc ms free) (vx_Post XC mc ms free) := vx_backW (hh := hh) (bytes := bytes) (maxL := maxL) (ret := ret) hM hp.1 hrc hrs hfr hlo hws hcw (fun a' U hW => word_at hW (Or.inl (by first | rfl | simp [Cond.onTables, Cond.keeps, Cond.steady])) hini)
  obtain ⟨hx, hb, hml, ho, -⟩ := S
  intro T hT X
  rcases vx_callSX X hx (hh := hh) (bytes := bytes) (maxL := maxL) (ret := ret) ho hl hstt hini hcode hy hK hg (hsize.trans hml.symm) (argsL := As) (rest := rest) (fun sig h => hn.trans (hlen sig h)) hstack hW (by rw [hb]; exact hdg)
    (fun vm₁ hW₁ => ⟨hf.1, hf.2, hp.2 (T.setVm vm₁) hT hW₁⟩) with ⟨v, vm₁, ⟨U', l2, c2, s2⟩, hW₁, X', ⟨g', mk, t, L, e1, e2, hq, h1, hL, h2, h3⟩, st⟩ | ⟨q, vm₁, ⟨U', l2, c2, s2⟩, hW₁, X', ⟨g', mk, t, L, E, ce, e1, e2, hq, hce, hcv, hcl, h1, hL, h2, h3⟩, st⟩
  · dsimp only [Pt.U, Pt.locs, Pt.cells, Pt.slots] at X' e1 e2 h1 h2 h3 st
    subst h1; subst h2; subst h3
    exact Or.inl ⟨v, (T.setVm vm₁).calling g' mk As.toArray, t, U', L, hT, X', hL, e1, e2, hq, st⟩
  · dsimp only [Pt.U, Pt.locs, Pt.cells, Pt.slots] at X' e1 e2 h1 h2 h3 st hcl
    subst h1; subst h2; subst h3
    exact Or.inr ⟨q, (T.setVm vm₁).calling g' mk As.toArray, t, U', L, E, ce, hT, X', hL, e1, e2, hq, hce, hcv, vx_cls hW₁ hcl, st⟩
end
end VXH
theorem vx_ofWH {l : Launch} {y : MethodName} {ws ws' : List Cond} {rm : Room} {Pc : Array Value → State → Prop} {Qc : Array Value → State → Outcome → State → Prop} {XC : String → State → State → Prop} {mc ms : Nat} {free : Addr → Prop} {cc : ByteArray} {maxL : Nat} {ret : Option FieldType} {hh : List (Nat × Nat × Nat × Nat)}
    (hy : plainName y.cls = true) (hw : ws = Cond.codeWith y cc maxL ret hh :: ws')
    (body : ∀ p e s m args below meth c s₁, BodyLoose p l y (headSpec ws rm) cc maxL ret e s m args below meth c s₁ → c.maxLocals = maxL → Pc args s →
      W p l e (headSpec ws rm).room s m args below meth c s.heap [] 0 0 (vx_MQ below Qc XC args s mc ms free) (entryFrame m args maxL)) : vx_Met l y ws rm Pc Qc XC mc ms free := by
  refine MetFree.of_bodyS (code := cc) (maxLocals := maxL) (ret := ret) hy ?_ ?_
  · intro args s m h hn
    obtain ⟨m9, meth, c, hn9, h1, h2, h3, h4, -, h5, h6, -⟩ := Cond.codeWith_spec (atoms_spec (ws := ws) h _ (by rw [hw]; exact List.mem_cons_self))
    cases hn.symm.trans hn9
    exact ⟨meth, c, h1, h2, h3, h4, h5, h6⟩
  · intro p e s m args below meth c s₁ B hml hP _
    have hh0 : s₁.heap = s.heap := by rw [B.state]; rfl
    obtain ⟨t, a1, o, b1, b2, b3⟩ := body p e s m args below meth c s₁ B hml hP s₁ hh0 (Stand.of_body B)
    exact ⟨t, o, a1, b1, b2, b3⟩
/-! ===== END ===== -/
end
section
def RX0 : String := "Coilworm$Board"
def TX0 : u_T := fun k => match k with
  | 0 => ("Coilworm$Board", "weights", "[I", true)
  | 1 => ("Coilworm$Board", "groups", "[I", true)
  | 2 => ("Coilworm$Board", "walls", "I", false)
  | _ => ("Coilworm$Board", "tree", "I", false)
def tyX0 : Nat → FieldType := fun k => match k with
  | 0 => .array .int
  | 1 => .array .int
  | 2 => .int
  | _ => .int
abbrev wsX00 : List Cond := u_ws RX0 TX0 4
theorem nmX0 : ∀ a, a < 4 → ∀ b, b < 4 → a ≠ b → (TX0 a).2.1 ≠ (TX0 b).2.1 := by decide +kernel
theorem tyX0_ok : ∀ k, k < 4 → parseFieldDescriptor (TX0 k).2.2.1 = some (tyX0 k) := by decide +kernel
abbrev cX0_init : ByteArray := prog_2_method_1_code
def yX0_init : MethodName := ⟨RX0, "<init>", "()V"⟩
abbrev cX0_blockOf : ByteArray := prog_2_method_2_code
def yX0_blockOf : MethodName := ⟨RX0, "blockOf", "(I)I"⟩
abbrev cX0_upperLeftOf : ByteArray := prog_2_method_3_code
def yX0_upperLeftOf : MethodName := ⟨RX0, "upperLeftOf", "(I)I"⟩
abbrev cX0_firstBlockOf : ByteArray := prog_2_method_4_code
def yX0_firstBlockOf : MethodName := ⟨RX0, "firstBlockOf", "(I)I"⟩
abbrev cX0_secondBlockOf : ByteArray := prog_2_method_5_code
def yX0_secondBlockOf : MethodName := ⟨RX0, "secondBlockOf", "(I)I"⟩
abbrev cX0_linkOutOf : ByteArray := prog_2_method_6_code
def yX0_linkOutOf : MethodName := ⟨RX0, "linkOutOf", "(II)I"⟩
abbrev cX0_cellBeside : ByteArray := prog_2_method_7_code
def yX0_cellBeside : MethodName := ⟨RX0, "cellBeside", "(II)I"⟩
abbrev cX0_hasWallOn : ByteArray := prog_2_method_8_code
def yX0_hasWallOn : MethodName := ⟨RX0, "hasWallOn", "(I)Z"⟩
abbrev cX0_putWall : ByteArray := prog_2_method_9_code
def yX0_putWall : MethodName := ⟨RX0, "putWall", "(IZ)V"⟩
abbrev cX0_weightOf : ByteArray := prog_2_method_10_code
def yX0_weightOf : MethodName := ⟨RX0, "weightOf", "(I)I"⟩
abbrev cX0_putWeight : ByteArray := prog_2_method_11_code
def yX0_putWeight : MethodName := ⟨RX0, "putWeight", "(II)V"⟩
abbrev cX0_treeHas : ByteArray := prog_2_method_12_code
def yX0_treeHas : MethodName := ⟨RX0, "treeHas", "(I)Z"⟩
abbrev cX0_goFrom : ByteArray := prog_2_method_13_code
def yX0_goFrom : MethodName := ⟨RX0, "goFrom", "(II)I"⟩
abbrev cX0_growTree : ByteArray := prog_2_method_14_code
def yX0_growTree : MethodName := ⟨RX0, "growTree", "()V"⟩
abbrev cX0_joinBy : ByteArray := prog_2_method_15_code
def yX0_joinBy : MethodName := ⟨RX0, "joinBy", "(I)V"⟩
abbrev cX0_isJoinedWhole : ByteArray := prog_2_method_16_code
def yX0_isJoinedWhole : MethodName := ⟨RX0, "isJoinedWhole", "()Z"⟩
abbrev cX0_countOpenCells : ByteArray := prog_2_method_17_code
def yX0_countOpenCells : MethodName := ⟨RX0, "countOpenCells", "()I"⟩
abbrev cX0_lowestOpenCell : ByteArray := prog_2_method_18_code
def yX0_lowestOpenCell : MethodName := ⟨RX0, "lowestOpenCell", "()I"⟩
def RX1 : String := "Coilworm$Bodies"
def TX1 : u_T := fun k => match k with
  | 0 => ("Coilworm$Bodies", "ways", "[I", true)
  | _ => ("Coilworm$Bodies", "size", "I", false)
def tyX1 : Nat → FieldType := fun k => match k with
  | 0 => .array .int
  | _ => .int
abbrev wsX10 : List Cond := u_ws RX1 TX1 2
theorem nmX1 : ∀ a, a < 2 → ∀ b, b < 2 → a ≠ b → (TX1 a).2.1 ≠ (TX1 b).2.1 := by decide +kernel
theorem tyX1_ok : ∀ k, k < 2 → parseFieldDescriptor (TX1 k).2.2.1 = some (tyX1 k) := by decide +kernel
abbrev cX1_init : ByteArray := prog_3_method_1_code
def yX1_init : MethodName := ⟨RX1, "<init>", "()V"⟩
abbrev cX1_directionIn : ByteArray := prog_3_method_2_code
def yX1_directionIn : MethodName := ⟨RX1, "directionIn", "(II)I"⟩
abbrev cX1_size : ByteArray := prog_3_method_3_code
def yX1_size : MethodName := ⟨RX1, "size", "()I"⟩
abbrev cX1_wayTo : ByteArray := prog_3_method_4_code
def yX1_wayTo : MethodName := ⟨RX1, "wayTo", "(I)I"⟩
abbrev cX1_holdNone : ByteArray := prog_3_method_5_code
def yX1_holdNone : MethodName := ⟨RX1, "holdNone", "()V"⟩
abbrev cX1_holdFirstAlone : ByteArray := prog_3_method_6_code
def yX1_holdFirstAlone : MethodName := ⟨RX1, "holdFirstAlone", "()V"⟩
abbrev cX1_add : ByteArray := prog_3_method_7_code
def yX1_add : MethodName := ⟨RX1, "add", "(II)V"⟩
def RX2 : String := "Coilworm$Cycle"
def TX2 : u_T := fun k => match k with
  | 0 => ("Coilworm$Cycle", "board", "LCoilworm$Board;", true)
  | 1 => ("Coilworm$Cycle", "cells", "[I", true)
  | 2 => ("Coilworm$Cycle", "places", "[I", true)
  | 3 => ("Coilworm$Cycle", "nextOnRing", "[I", true)
  | _ => ("Coilworm$Cycle", "size", "I", false)
def tyX2 : Nat → FieldType := fun k => match k with
  | 0 => .object "Coilworm$Board"
  | 1 => .array .int
  | 2 => .array .int
  | 3 => .array .int
  | _ => .int
abbrev wsX20 : List Cond := u_ws RX2 TX2 5
theorem nmX2 : ∀ a, a < 5 → ∀ b, b < 5 → a ≠ b → (TX2 a).2.1 ≠ (TX2 b).2.1 := by decide +kernel
theorem tyX2_ok : ∀ k, k < 5 → parseFieldDescriptor (TX2 k).2.2.1 = some (tyX2 k) := by decide +kernel
abbrev cX2_init : ByteArray := prog_4_method_1_code
def yX2_init : MethodName := ⟨RX2, "<init>", "(LCoilworm$Board;)V"⟩
abbrev cX2_isThere : ByteArray := prog_4_method_2_code
def yX2_isThere : MethodName := ⟨RX2, "isThere", "()Z"⟩
abbrev cX2_size : ByteArray := prog_4_method_3_code
def yX2_size : MethodName := ⟨RX2, "size", "()I"⟩
abbrev cX2_placeWith : ByteArray := prog_4_method_4_code
def yX2_placeWith : MethodName := ⟨RX2, "placeWith", "(I)I"⟩
abbrev cX2_cellWith : ByteArray := prog_4_method_5_code
def yX2_cellWith : MethodName := ⟨RX2, "cellWith", "(I)I"⟩
abbrev cX2_wayBetween : ByteArray := prog_4_method_6_code
def yX2_wayBetween : MethodName := ⟨RX2, "wayBetween", "(II)I"⟩
abbrev cX2_layOut : ByteArray := prog_4_method_7_code
def yX2_layOut : MethodName := ⟨RX2, "layOut", "()V"⟩
abbrev cX2_nextRoundTree : ByteArray := prog_4_method_8_code
def yX2_nextRoundTree : MethodName := ⟨RX2, "nextRoundTree", "(I)I"⟩
abbrev cX2_cornerOf : ByteArray := prog_4_method_9_code
def yX2_cornerOf : MethodName := ⟨RX2, "cornerOf", "(I)I"⟩
abbrev cX2_cellByRings : ByteArray := prog_4_method_10_code
def yX2_cellByRings : MethodName := ⟨RX2, "cellByRings", "(I)I"⟩
abbrev cX2_makeRing : ByteArray := prog_4_method_11_code
def yX2_makeRing : MethodName := ⟨RX2, "makeRing", "(I)V"⟩
abbrev cX2_makeOneOfTwo : ByteArray := prog_4_method_12_code
def yX2_makeOneOfTwo : MethodName := ⟨RX2, "makeOneOfTwo", "(I)V"⟩
def RX3 : String := "Coilworm$FeedRow"
def TX3 : u_T := fun k => match k with
  | 0 => ("Coilworm$FeedRow", "cells", "[I", true)
  | 1 => ("Coilworm$FeedRow", "first", "I", false)
  | _ => ("Coilworm$FeedRow", "size", "I", false)
def tyX3 : Nat → FieldType := fun k => match k with
  | 0 => .array .int
  | 1 => .int
  | _ => .int
abbrev wsX30 : List Cond := u_ws RX3 TX3 3
theorem nmX3 : ∀ a, a < 3 → ∀ b, b < 3 → a ≠ b → (TX3 a).2.1 ≠ (TX3 b).2.1 := by decide +kernel
theorem tyX3_ok : ∀ k, k < 3 → parseFieldDescriptor (TX3 k).2.2.1 = some (tyX3 k) := by decide +kernel
abbrev cX3_init : ByteArray := prog_5_method_1_code
def yX3_init : MethodName := ⟨RX3, "<init>", "()V"⟩
abbrev cX3_size : ByteArray := prog_5_method_2_code
def yX3_size : MethodName := ⟨RX3, "size", "()I"⟩
abbrev cX3_firstCell : ByteArray := prog_5_method_3_code
def yX3_firstCell : MethodName := ⟨RX3, "firstCell", "()I"⟩
abbrev cX3_cellAfter : ByteArray := prog_5_method_4_code
def yX3_cellAfter : MethodName := ⟨RX3, "cellAfter", "(I)I"⟩
abbrev cX3_hasOneIn : ByteArray := prog_5_method_5_code
def yX3_hasOneIn : MethodName := ⟨RX3, "hasOneIn", "(I)Z"⟩
abbrev cX3_add : ByteArray := prog_5_method_6_code
def yX3_add : MethodName := ⟨RX3, "add", "(I)V"⟩
abbrev cX3_takeFirst : ByteArray := prog_5_method_7_code
def yX3_takeFirst : MethodName := ⟨RX3, "takeFirst", "()V"⟩
abbrev cX3_putFirstBack : ByteArray := prog_5_method_8_code
def yX3_putFirstBack : MethodName := ⟨RX3, "putFirstBack", "()V"⟩
def RX4 : String := "Coilworm$Foresight"
def TX4 : u_T := fun k => match k with
  | 0 => ("Coilworm$Foresight", "board", "LCoilworm$Board;", true)
  | 1 => ("Coilworm$Foresight", "row", "LCoilworm$FeedRow;", true)
  | 2 => ("Coilworm$Foresight", "worm", "LCoilworm$Worm;", true)
  | 3 => ("Coilworm$Foresight", "reached", "[I", true)
  | 4 => ("Coilworm$Foresight", "someBodies", "LCoilworm$Bodies;", true)
  | _ => ("Coilworm$Foresight", "otherBodies", "LCoilworm$Bodies;", true)
def tyX4 : Nat → FieldType := fun k => match k with
  | 0 => .object "Coilworm$Board"
  | 1 => .object "Coilworm$FeedRow"
  | 2 => .object "Coilworm$Worm"
  | 3 => .array .int
  | 4 => .object "Coilworm$Bodies"
  | _ => .object "Coilworm$Bodies"
abbrev wsX40 : List Cond := u_ws RX4 TX4 6
theorem nmX4 : ∀ a, a < 6 → ∀ b, b < 6 → a ≠ b → (TX4 a).2.1 ≠ (TX4 b).2.1 := by decide +kernel
theorem tyX4_ok : ∀ k, k < 6 → parseFieldDescriptor (TX4 k).2.2.1 = some (tyX4 k) := by decide +kernel
abbrev cX4_init : ByteArray := prog_6_method_1_code
def yX4_init : MethodName := ⟨RX4, "<init>", "(LCoilworm$Board;LCoilworm$FeedRow;LCoilworm$Worm;)V"⟩
abbrev cX4_countReached : ByteArray := prog_6_method_2_code
def yX4_countReached : MethodName := ⟨RX4, "countReached", "()I"⟩
abbrev cX4_longestWalk : ByteArray := prog_6_method_3_code
def yX4_longestWalk : MethodName := ⟨RX4, "longestWalk", "(I)I"⟩
abbrev cX4_longestFrom : ByteArray := prog_6_method_4_code
def yX4_longestFrom : MethodName := ⟨RX4, "longestFrom", "(LCoilworm$Worm;I)I"⟩
abbrev cX4_fewestByDepths : ByteArray := prog_6_method_5_code
def yX4_fewestByDepths : MethodName := ⟨RX4, "fewestByDepths", "()I"⟩
abbrev cX4_eatsWithin : ByteArray := prog_6_method_6_code
def yX4_eatsWithin : MethodName := ⟨RX4, "eatsWithin", "(LCoilworm$Worm;I)Z"⟩
abbrev cX4_fewestByLevels : ByteArray := prog_6_method_7_code
def yX4_fewestByLevels : MethodName := ⟨RX4, "fewestByLevels", "()I"⟩
abbrev cX4_eatsFromOneOf : ByteArray := prog_6_method_8_code
def yX4_eatsFromOneOf : MethodName := ⟨RX4, "eatsFromOneOf", "(LCoilworm$Bodies;ILCoilworm$Bodies;)Z"⟩
abbrev cX4_follow : ByteArray := prog_6_method_9_code
def yX4_follow : MethodName := ⟨RX4, "follow", "(II)V"⟩
abbrev cX4_eatsByOneStep : ByteArray := prog_6_method_10_code
def yX4_eatsByOneStep : MethodName := ⟨RX4, "eatsByOneStep", "(ILCoilworm$Bodies;)Z"⟩
def RX5 : String := "Coilworm$Player"
def TX5 : u_T := fun k => match k with
  | 0 => ("Coilworm$Player", "cycle", "LCoilworm$Cycle;", true)
  | 1 => ("Coilworm$Player", "row", "LCoilworm$FeedRow;", true)
  | _ => ("Coilworm$Player", "worm", "LCoilworm$Worm;", true)
def tyX5 : Nat → FieldType := fun k => match k with
  | 0 => .object "Coilworm$Cycle"
  | 1 => .object "Coilworm$FeedRow"
  | _ => .object "Coilworm$Worm"
abbrev wsX50 : List Cond := u_ws RX5 TX5 3
theorem nmX5 : ∀ a, a < 3 → ∀ b, b < 3 → a ≠ b → (TX5 a).2.1 ≠ (TX5 b).2.1 := by decide +kernel
theorem tyX5_ok : ∀ k, k < 3 → parseFieldDescriptor (TX5 k).2.2.1 = some (tyX5 k) := by decide +kernel
abbrev cX5_init : ByteArray := prog_7_method_1_code
def yX5_init : MethodName := ⟨RX5, "<init>", "(LCoilworm$Cycle;LCoilworm$FeedRow;LCoilworm$Worm;)V"⟩
abbrev cX5_seesOrder : ByteArray := prog_7_method_2_code
def yX5_seesOrder : MethodName := ⟨RX5, "seesOrder", "()Z"⟩
abbrev cX5_wayOfBody : ByteArray := prog_7_method_3_code
def yX5_wayOfBody : MethodName := ⟨RX5, "wayOfBody", "()I"⟩
abbrev cX5_seesSafe : ByteArray := prog_7_method_4_code
def yX5_seesSafe : MethodName := ⟨RX5, "seesSafe", "(I)Z"⟩
abbrev cX5_choice : ByteArray := prog_7_method_5_code
def yX5_choice : MethodName := ⟨RX5, "choice", "()I"⟩
def RX6 : String := "Coilworm$Worm"
def TX6 : u_T := fun k => match k with
  | 0 => ("Coilworm$Worm", "board", "LCoilworm$Board;", true)
  | 1 => ("Coilworm$Worm", "row", "LCoilworm$FeedRow;", true)
  | 2 => ("Coilworm$Worm", "cells", "[I", true)
  | 3 => ("Coilworm$Worm", "deeds", "[I", true)
  | 4 => ("Coilworm$Worm", "head", "I", false)
  | 5 => ("Coilworm$Worm", "size", "I", false)
  | 6 => ("Coilworm$Worm", "growth", "I", false)
  | 7 => ("Coilworm$Worm", "body", "J", false)
  | _ => ("Coilworm$Worm", "isDead", "Z", false)
def tyX6 : Nat → FieldType := fun k => match k with
  | 0 => .object "Coilworm$Board"
  | 1 => .object "Coilworm$FeedRow"
  | 2 => .array .int
  | 3 => .array .int
  | 4 => .int
  | 5 => .int
  | 6 => .int
  | 7 => .long
  | _ => .boolean
abbrev wsX60 : List Cond := u_ws RX6 TX6 9
theorem nmX6 : ∀ a, a < 9 → ∀ b, b < 9 → a ≠ b → (TX6 a).2.1 ≠ (TX6 b).2.1 := by decide +kernel
theorem tyX6_ok : ∀ k, k < 9 → parseFieldDescriptor (TX6 k).2.2.1 = some (tyX6 k) := by decide +kernel
abbrev cX6_init : ByteArray := prog_8_method_1_code
def yX6_init : MethodName := ⟨RX6, "<init>", "(LCoilworm$Board;LCoilworm$FeedRow;)V"⟩
abbrev cX6_isThere : ByteArray := prog_8_method_2_code
def yX6_isThere : MethodName := ⟨RX6, "isThere", "()Z"⟩
abbrev cX6_isLiving : ByteArray := prog_8_method_3_code
def yX6_isLiving : MethodName := ⟨RX6, "isLiving", "()Z"⟩
abbrev cX6_size : ByteArray := prog_8_method_4_code
def yX6_size : MethodName := ⟨RX6, "size", "()I"⟩
abbrev cX6_growth : ByteArray := prog_8_method_5_code
def yX6_growth : MethodName := ⟨RX6, "growth", "()I"⟩
abbrev cX6_cellOf : ByteArray := prog_8_method_6_code
def yX6_cellOf : MethodName := ⟨RX6, "cellOf", "(I)I"⟩
abbrev cX6_isOn : ByteArray := prog_8_method_7_code
def yX6_isOn : MethodName := ⟨RX6, "isOn", "(I)Z"⟩
abbrev cX6_lay : ByteArray := prog_8_method_8_code
def yX6_lay : MethodName := ⟨RX6, "lay", "(II)V"⟩
abbrev cX6_takeAway : ByteArray := prog_8_method_9_code
def yX6_takeAway : MethodName := ⟨RX6, "takeAway", "()V"⟩
abbrev cX6_die : ByteArray := prog_8_method_10_code
def yX6_die : MethodName := ⟨RX6, "die", "()V"⟩
abbrev cX6_advance : ByteArray := prog_8_method_11_code
def yX6_advance : MethodName := ⟨RX6, "advance", "(I)Z"⟩
abbrev cX6_hasJustEaten : ByteArray := prog_8_method_12_code
def yX6_hasJustEaten : MethodName := ⟨RX6, "hasJustEaten", "()Z"⟩
abbrev cX6_takeBack : ByteArray := prog_8_method_13_code
def yX6_takeBack : MethodName := ⟨RX6, "takeBack", "()V"⟩
def RX7 : String := "Coilworm"
def TX7 : u_T := fun k => match k with
  | 0 => ("Coilworm", "board", "LCoilworm$Board;", true)
  | 1 => ("Coilworm", "cycle", "LCoilworm$Cycle;", true)
  | 2 => ("Coilworm", "row", "LCoilworm$FeedRow;", true)
  | 3 => ("Coilworm", "worm", "LCoilworm$Worm;", true)
  | 4 => ("Coilworm", "player", "LCoilworm$Player;", true)
  | _ => ("Coilworm", "foresight", "LCoilworm$Foresight;", true)
def tyX7 : Nat → FieldType := fun k => match k with
  | 0 => .object "Coilworm$Board"
  | 1 => .object "Coilworm$Cycle"
  | 2 => .object "Coilworm$FeedRow"
  | 3 => .object "Coilworm$Worm"
  | 4 => .object "Coilworm$Player"
  | _ => .object "Coilworm$Foresight"
abbrev wsX70 : List Cond := u_ws RX7 TX7 6
theorem nmX7 : ∀ a, a < 6 → ∀ b, b < 6 → a ≠ b → (TX7 a).2.1 ≠ (TX7 b).2.1 := by decide +kernel
theorem tyX7_ok : ∀ k, k < 6 → parseFieldDescriptor (TX7 k).2.2.1 = some (tyX7 k) := by decide +kernel
abbrev cX7_init : ByteArray := prog_1_method_1_code
def yX7_init : MethodName := ⟨RX7, "<init>", "()V"⟩
abbrev cX7_setWall : ByteArray := prog_1_method_2_code
def yX7_setWall : MethodName := ⟨RX7, "setWall", "(IZ)Z"⟩
abbrev cX7_setLink : ByteArray := prog_1_method_3_code
def yX7_setLink : MethodName := ⟨RX7, "setLink", "(II)I"⟩
abbrev cX7_isWall : ByteArray := prog_1_method_4_code
def yX7_isWall : MethodName := ⟨RX7, "isWall", "(I)Z"⟩
abbrev cX7_isInTree : ByteArray := prog_1_method_5_code
def yX7_isInTree : MethodName := ⟨RX7, "isInTree", "(I)Z"⟩
abbrev cX7_hasCycle : ByteArray := prog_1_method_6_code
def yX7_hasCycle : MethodName := ⟨RX7, "hasCycle", "()Z"⟩
abbrev cX7_placeOf : ByteArray := prog_1_method_7_code
def yX7_placeOf : MethodName := ⟨RX7, "placeOf", "(I)I"⟩
abbrev cX7_cellAt : ByteArray := prog_1_method_8_code
def yX7_cellAt : MethodName := ⟨RX7, "cellAt", "(I)I"⟩
abbrev cX7_cellAtByRings : ByteArray := prog_1_method_9_code
def yX7_cellAtByRings : MethodName := ⟨RX7, "cellAtByRings", "(I)I"⟩
abbrev cX7_begin : ByteArray := prog_1_method_10_code
def yX7_begin : MethodName := ⟨RX7, "begin", "(II)V"⟩
abbrev cX7_end : ByteArray := prog_1_method_11_code
def yX7_end : MethodName := ⟨RX7, "end", "()I"⟩
abbrev cX7_feed : ByteArray := prog_1_method_12_code
def yX7_feed : MethodName := ⟨RX7, "feed", "(I)I"⟩
abbrev cX7_step : ByteArray := prog_1_method_13_code
def yX7_step : MethodName := ⟨RX7, "step", "(I)I"⟩
abbrev cX7_play : ByteArray := prog_1_method_14_code
def yX7_play : MethodName := ⟨RX7, "play", "(I)I"⟩
abbrev cX7_isAlive : ByteArray := prog_1_method_15_code
def yX7_isAlive : MethodName := ⟨RX7, "isAlive", "()Z"⟩
abbrev cX7_length : ByteArray := prog_1_method_16_code
def yX7_length : MethodName := ⟨RX7, "length", "()I"⟩
abbrev cX7_owed : ByteArray := prog_1_method_17_code
def yX7_owed : MethodName := ⟨RX7, "owed", "()I"⟩
abbrev cX7_bodyAt : ByteArray := prog_1_method_18_code
def yX7_bodyAt : MethodName := ⟨RX7, "bodyAt", "(I)I"⟩
abbrev cX7_feeds : ByteArray := prog_1_method_19_code
def yX7_feeds : MethodName := ⟨RX7, "feeds", "()I"⟩
abbrev cX7_isInOrder : ByteArray := prog_1_method_20_code
def yX7_isInOrder : MethodName := ⟨RX7, "isInOrder", "()Z"⟩
abbrev cX7_isSafe : ByteArray := prog_1_method_21_code
def yX7_isSafe : MethodName := ⟨RX7, "isSafe", "(I)Z"⟩
abbrev cX7_reach : ByteArray := prog_1_method_22_code
def yX7_reach : MethodName := ⟨RX7, "reach", "()I"⟩
abbrev cX7_livesFor : ByteArray := prog_1_method_23_code
def yX7_livesFor : MethodName := ⟨RX7, "livesFor", "(I)I"⟩
abbrev cX7_fewest : ByteArray := prog_1_method_24_code
def yX7_fewest : MethodName := ⟨RX7, "fewest", "()I"⟩
abbrev cX7_fewestByBodies : ByteArray := prog_1_method_25_code
def yX7_fewestByBodies : MethodName := ⟨RX7, "fewestByBodies", "()I"⟩
abbrev cX7_checkCell : ByteArray := prog_1_method_26_code
def yX7_checkCell : MethodName := ⟨RX7, "checkCell", "(I)V"⟩
abbrev cX7_checkLink : ByteArray := prog_1_method_27_code
def yX7_checkLink : MethodName := ⟨RX7, "checkLink", "(I)V"⟩
abbrev cX7_checkDirection : ByteArray := prog_1_method_28_code
def yX7_checkDirection : MethodName := ⟨RX7, "checkDirection", "(I)V"⟩
abbrev cX7_checkCycle : ByteArray := prog_1_method_29_code
def yX7_checkCycle : MethodName := ⟨RX7, "checkCycle", "()V"⟩
abbrev cX7_checkPlaceOfCycle : ByteArray := prog_1_method_30_code
def yX7_checkPlaceOfCycle : MethodName := ⟨RX7, "checkPlaceOfCycle", "(I)V"⟩
abbrev cX7_checkLivingWorm : ByteArray := prog_1_method_31_code
def yX7_checkLivingWorm : MethodName := ⟨RX7, "checkLivingWorm", "()V"⟩
abbrev cX7_at : ByteArray := prog_1_method_32_code
def yX7_at : MethodName := ⟨RX7, "at", "([II)I"⟩
abbrev cX7_put : ByteArray := prog_1_method_33_code
def yX7_put : MethodName := ⟨RX7, "put", "([III)V"⟩
abbrev cX7_setOf : ByteArray := prog_1_method_34_code
def yX7_setOf : MethodName := ⟨RX7, "setOf", "(I)J"⟩
abbrev cX7_isIn : ByteArray := prog_1_method_35_code
def yX7_isIn : MethodName := ⟨RX7, "isIn", "(JI)Z"⟩
def RX8 : String := "CoilwormModel"
def TX8 : u_T := fun k => match k with
  | _ => ("", "", "", false)
def tyX8 : Nat → FieldType := fun k => match k with
  | _ => .int
abbrev wsX80 : List Cond := u_ws RX8 TX8 0
theorem nmX8 : ∀ a, a < 0 → ∀ b, b < 0 → a ≠ b → (TX8 a).2.1 ≠ (TX8 b).2.1 := by decide +kernel
theorem tyX8_ok : ∀ k, k < 0 → parseFieldDescriptor (TX8 k).2.2.1 = some (tyX8 k) := by decide +kernel
def RJ6 : String := "java/lang/Integer"
def TJ6 : u_T := fun k => match k with
  | _ => ("", "", "", false)
def tyJ6 : Nat → FieldType := fun k => match k with
  | _ => .int
abbrev wsJ60 : List Cond := u_ws RJ6 TJ6 0
theorem nmJ6 : ∀ a, a < 0 → ∀ b, b < 0 → a ≠ b → (TJ6 a).2.1 ≠ (TJ6 b).2.1 := by decide +kernel
theorem tyJ6_ok : ∀ k, k < 0 → parseFieldDescriptor (TJ6 k).2.2.1 = some (tyJ6 k) := by decide +kernel
abbrev cJ6_bitCount_0f7a4 : ByteArray := prog_15_method_49_code
def yJ6_bitCount_0f7a4 : MethodName := ⟨RJ6, "bitCount", "(I)I"⟩
def RJ9 : String := "java/lang/Math"
def TJ9 : u_T := fun k => match k with
  | _ => ("", "", "", false)
def tyJ9 : Nat → FieldType := fun k => match k with
  | _ => .int
abbrev wsJ90 : List Cond := u_ws RJ9 TJ9 0
theorem nmJ9 : ∀ a, a < 0 → ∀ b, b < 0 → a ≠ b → (TJ9 a).2.1 ≠ (TJ9 b).2.1 := by decide +kernel
theorem tyJ9_ok : ∀ k, k < 0 → parseFieldDescriptor (TJ9 k).2.2.1 = some (tyJ9 k) := by decide +kernel
abbrev cJ9_max_7cf53 : ByteArray := prog_16_method_65_code
def yJ9_max_7cf53 : MethodName := ⟨RJ9, "max", "(II)I"⟩
def RJ0 : String := "java/lang/String"
def TJ0 : u_T := fun k => match k with
  | _ => ("", "", "", false)
def tyJ0 : Nat → FieldType := fun k => match k with
  | _ => .int
abbrev wsJ00 : List Cond := u_ws RJ0 TJ0 0
theorem nmJ0 : ∀ a, a < 0 → ∀ b, b < 0 → a ≠ b → (TJ0 a).2.1 ≠ (TJ0 b).2.1 := by decide +kernel
theorem tyJ0_ok : ∀ k, k < 0 → parseFieldDescriptor (TJ0 k).2.2.1 = some (tyJ0 k) := by decide +kernel
def RL : String := "CoilwormLaw"
abbrev cL_cell : ByteArray := method_2_code
def yL_cell : MethodName := ⟨RL, "cell", "([II)I"⟩
abbrev cL_low : ByteArray := method_3_code
def yL_low : MethodName := ⟨RL, "low", "(II)I"⟩
abbrev cL_setWall : ByteArray := method_4_code
def yL_setWall : MethodName := ⟨RL, "setWall", "(LCoilworm;IZ)I"⟩
abbrev cL_setLink : ByteArray := method_5_code
def yL_setLink : MethodName := ⟨RL, "setLink", "(LCoilworm;II)I"⟩
abbrev cL_begin : ByteArray := method_6_code
def yL_begin : MethodName := ⟨RL, "begin", "(LCoilworm;II)I"⟩
abbrev cL_end : ByteArray := method_7_code
def yL_end : MethodName := ⟨RL, "end", "(LCoilworm;)I"⟩
abbrev cL_feed : ByteArray := method_8_code
def yL_feed : MethodName := ⟨RL, "feed", "(LCoilworm;I)I"⟩
abbrev cL_step : ByteArray := method_9_code
def yL_step : MethodName := ⟨RL, "step", "(LCoilworm;I)I"⟩
abbrev cL_play : ByteArray := method_10_code
def yL_play : MethodName := ⟨RL, "play", "(LCoilworm;I)I"⟩
abbrev cL_placeOf : ByteArray := method_11_code
def yL_placeOf : MethodName := ⟨RL, "placeOf", "(LCoilworm;I)I"⟩
abbrev cL_act : ByteArray := method_12_code
def yL_act : MethodName := ⟨RL, "act", "(LCoilworm;I)I"⟩
abbrev cL_areAlike : ByteArray := method_13_code
def yL_areAlike : MethodName := ⟨RL, "areAlike", "(LCoilworm;LCoilworm;)Z"⟩
abbrev cL_areBeside : ByteArray := method_14_code
def yL_areBeside : MethodName := ⟨RL, "areBeside", "(II)Z"⟩
abbrev cL_isCycleSo : ByteArray := method_15_code
def yL_isCycleSo : MethodName := ⟨RL, "isCycleSo", "(LCoilworm;)Z"⟩
abbrev cL_isWormSo : ByteArray := method_16_code
def yL_isWormSo : MethodName := ⟨RL, "isWormSo", "(LCoilworm;I)Z"⟩
abbrev cL_law : ByteArray := code
def yL_law : MethodName := ⟨RL, "law", "([I)Z"⟩
abbrev vwCl : List vw_C := [(RX0, TX0, 4), (RX1, TX1, 2), (RX2, TX2, 5), (RX3, TX3, 3), (RX4, TX4, 6), (RX5, TX5, 3), (RX6, TX6, 9), (RX7, TX7, 6)]
end
section
/-! ===== abstract heaps: the world as a fixed list of shapes and two functions of numbers ===== -/
def z_big : List Cond := lw_tbl.filter goodWord
theorem z_big_good : ∀ w ∈ z_big, goodWord w = true := fun _ h => (List.mem_filter.mp h).2
theorem z_big_in : ∀ w ∈ z_big, w ∈ lw_tbl := fun _ h => (List.mem_filter.mp h).1
def z_fk : Cond → Bool
  | .fieldLink .. => true
  | _ => false
def z_flinks : List Cond := lw_tbl.filter z_fk
theorem z_flinks_in : ∀ w ∈ z_flinks, w ∈ z_big := fun w h => by
  obtain ⟨h1, h2⟩ := List.mem_filter.mp h
  refine List.mem_filter.mpr ⟨h1, ?_⟩
  cases w <;> first | rfl | (simp [z_fk] at h2)
theorem z_bigT {w : Cond} (i : Nat) (h : tables_1[i]? = some w) (hg : goodWord w = true) : w ∈ z_big := List.mem_filter.mpr ⟨List.mem_append_right _ (List.mem_of_getElem? h), hg⟩
theorem z_bigP {y : MethodName} {n : Nat} (i : Nat) (h : lw_privs[i]? = some (y, n)) : Cond.selects y.cls y y ∈ z_big := List.mem_filter.mpr ⟨List.mem_append_left _ (List.mem_map.mpr ⟨_, List.mem_of_getElem? h, rfl⟩), rfl⟩
/-- a cell's shape: (0, class, the fields' kinds) an object; (1, n, _) n ints; (2, n, _) n longs; (3, n, _) n booleans. A field's kind: 0 int, 1 long, 2 null, r + 3 the object r -/
abbrev z_Sh : Type := List (Nat × Nat × List Nat)
abbrev z_H : Type := (Nat → Nat → Int32) × (Nat → Nat → Int64)
def z_con (ad : Nat → Nat) : Value → Value
  | .ref i => .ref (ad i)
  | v => v
theorem z_con_cat (ad : Nat → Nat) (v : Value) : (z_con ad v).category = v.category := by cases v <;> rfl
def z_nth {α : Type} : List α → Nat → Option α
  | [], _ => none
  | a :: _, 0 => some a
  | _ :: l, k + 1 => z_nth l k
theorem z_nth_eq {α : Type} : ∀ (l : List α) (k : Nat), z_nth l k = l[k]?
  | [], k => by simp [z_nth]
  | a :: l, 0 => by simp [z_nth]
  | a :: l, k + 1 => by simp [z_nth, z_nth_eq l k]
def z_fv (ad : Nat → Nat) (f : Nat → Int32) (g : Nat → Int64) (k : Nat) : Nat → Value
  | 0 => .int (f k)
  | 1 => .long (g k)
  | 2 => .null
  | r + 3 => .ref (ad r)
def z_fs (ad : Nat → Nat) (f : Nat → Int32) (g : Nat → Int64) : List Nat → Nat → List Value
  | [], _ => []
  | t :: ts, k => z_fv ad f g k t :: z_fs ad f g ts (k + 1)
theorem z_fs_get (ad : Nat → Nat) (f : Nat → Int32) (g : Nat → Int64) : ∀ (ts : List Nat) (k0 k : Nat), (z_fs ad f g ts k0)[k]? = ts[k]?.map (z_fv ad f g (k0 + k))
  | [], k0, k => by simp [z_fs]
  | t :: ts, k0, 0 => by simp [z_fs]
  | t :: ts, k0, k + 1 => by
    have := z_fs_get ad f g ts (k0 + 1) k
    simp only [z_fs, List.getElem?_cons_succ, this]
    rw [show k0 + 1 + k = k0 + (k + 1) by omega]
theorem z_fs_len (ad : Nat → Nat) (f : Nat → Int32) (g : Nat → Int64) : ∀ (ts : List Nat) (k0 : Nat), (z_fs ad f g ts k0).length = ts.length
  | [], k0 => rfl
  | t :: ts, k0 => by simp [z_fs, z_fs_len ad f g ts (k0 + 1)]
def z_ce (dA : Nat → ClassId) (ad : Nat → Nat) (c : Nat × Nat × List Nat) (f : Nat → Int32) (g : Nat → Int64) : va_E :=
  if c.1 = 0 then .inr (c.2.1, z_fs ad f g c.2.2 0) else if c.1 = 2 then .inl (dA 2, c.2.1, .inr (.inl g)) else .inl (dA c.1, c.2.1, .inl f)
def z_wl (dA : Nat → ClassId) (ad : Nat → Nat) (h : z_H) : z_Sh → Nat → va_W
  | [], _ => []
  | c :: cs, i => (ad i, z_ce dA ad c (h.1 i) (h.2 i)) :: z_wl dA ad h cs (i + 1)
theorem z_wl_get (dA : Nat → ClassId) (ad : Nat → Nat) (h : z_H) : ∀ (sh : z_Sh) (i0 i : Nat), (z_wl dA ad h sh i0)[i]? = sh[i]?.map (fun c => (ad (i0 + i), z_ce dA ad c (h.1 (i0 + i)) (h.2 (i0 + i))))
  | [], i0, i => by simp [z_wl]
  | c :: cs, i0, 0 => by simp [z_wl]
  | c :: cs, i0, i + 1 => by
    have := z_wl_get dA ad h cs (i0 + 1) i
    simp only [z_wl, List.getElem?_cons_succ, this]
    rw [show i0 + 1 + i = i0 + (i + 1) by omega]
theorem z_wl_at (dA : Nat → ClassId) (ad : Nat → Nat) (h : z_H) (sh : z_Sh) (i : Nat) : (z_wl dA ad h sh 0)[i]? = sh[i]?.map (fun c => (ad i, z_ce dA ad c (h.1 i) (h.2 i))) := by
  rw [z_wl_get, Nat.zero_add]
theorem z_wl_obj {dA : Nat → ClassId} {ad : Nat → Nat} {h : z_H} {sh : z_Sh} {o ci : Nat} {ks : List Nat} (hs : z_nth sh o = some (0, ci, ks)) : (z_wl dA ad h sh 0)[o]? = some (ad o, .inr (ci, z_fs ad (h.1 o) (h.2 o) ks 0)) := by
  rw [z_wl_at, ← z_nth_eq, hs]; rfl
theorem z_wl_int {dA : Nat → ClassId} {ad : Nat → Nat} {h : z_H} {sh : z_Sh} {o n : Nat} {ks : List Nat} (hs : z_nth sh o = some (1, n, ks)) : (z_wl dA ad h sh 0)[o]? = some (ad o, .inl (dA 1, n, .inl (h.1 o))) := by
  rw [z_wl_at, ← z_nth_eq, hs]; rfl
theorem z_wl_long {dA : Nat → ClassId} {ad : Nat → Nat} {h : z_H} {sh : z_Sh} {o n : Nat} {ks : List Nat} (hs : z_nth sh o = some (2, n, ks)) : (z_wl dA ad h sh 0)[o]? = some (ad o, .inl (dA 2, n, .inr (.inl (h.2 o)))) := by
  rw [z_wl_at, ← z_nth_eq, hs]; rfl
theorem z_wl_bool {dA : Nat → ClassId} {ad : Nat → Nat} {h : z_H} {sh : z_Sh} {o n : Nat} {ks : List Nat} (hs : z_nth sh o = some (3, n, ks)) : (z_wl dA ad h sh 0)[o]? = some (ad o, .inl (dA 3, n, .inl (h.1 o))) := by
  rw [z_wl_at, ← z_nth_eq, hs]; rfl
def z_set (h : z_H) (o k : Nat) (v : Int32) : z_H := (fun a b => if a = o then (if b = k then v else h.1 a b) else h.1 a b, h.2)
def z_setL (h : z_H) (o k : Nat) (v : Int64) : z_H := (h.1, fun a b => if a = o then (if b = k then v else h.2 a b) else h.2 a b)
theorem z_set_ne {h : z_H} {o k a : Nat} {v : Int32} (ha : a ≠ o) : (z_set h o k v).1 a = h.1 a := by
  funext b; simp [z_set, ha]
theorem z_setL_ne {h : z_H} {o k a : Nat} {v : Int64} (ha : a ≠ o) : (z_setL h o k v).2 a = h.2 a := by
  funext b; simp [z_setL, ha]
theorem z_set_same (h : z_H) (o k : Nat) (v : Int32) : (z_set h o k v).1 o = upd (h.1 o) k v := by
  funext b; simp [z_set, upd]
theorem z_setL_same (h : z_H) (o k : Nat) (v : Int64) : (z_setL h o k v).2 o = vp_updL (h.2 o) k v := by
  funext b; simp [z_setL, vp_updL]
theorem z_ks_set {ad : Nat → Nat} {f : Nat → Int32} {g : Nat → Int64} {ts : List Nat} {k : Nat} {v : Int32} (hk : z_nth ts k = some 0) : (z_fs ad f g ts 0).set k (.int v) = z_fs ad (upd f k v) g ts 0 := by
  rw [z_nth_eq] at hk
  apply List.ext_getElem?
  intro i
  rw [List.getElem?_set, z_fs_get, z_fs_get, z_fs_len]
  have hlt : k < ts.length := (List.getElem?_eq_some_iff.mp hk).1
  by_cases hi : k = i
  · subst hi
    rw [if_pos rfl, if_pos hlt, hk]
    simp [z_fv, upd]
  · rw [if_neg hi]
    cases ts[i]? with
    | none => rfl
    | some t =>
      have : i ≠ k := fun e => hi e.symm
      match t with
      | 0 => simp [z_fv, upd, this]
      | 1 => rfl
      | 2 => rfl
      | r + 3 => rfl
theorem z_ks_setL {ad : Nat → Nat} {f : Nat → Int32} {g : Nat → Int64} {ts : List Nat} {k : Nat} {v : Int64} (hk : z_nth ts k = some 1) : (z_fs ad f g ts 0).set k (.long v) = z_fs ad f (vp_updL g k v) ts 0 := by
  rw [z_nth_eq] at hk
  apply List.ext_getElem?
  intro i
  rw [List.getElem?_set, z_fs_get, z_fs_get, z_fs_len]
  have hlt : k < ts.length := (List.getElem?_eq_some_iff.mp hk).1
  by_cases hi : k = i
  · subst hi
    rw [if_pos rfl, if_pos hlt, hk]
    simp [z_fv, vp_updL]
  · rw [if_neg hi]
    cases ts[i]? with
    | none => rfl
    | some t =>
      have : i ≠ k := fun e => hi e.symm
      match t with
      | 0 => rfl
      | 1 => simp [z_fv, vp_updL, this]
      | 2 => rfl
      | r + 3 => rfl
theorem z_wl_len (dA : Nat → ClassId) (ad : Nat → Nat) (h : z_H) : ∀ (sh : z_Sh) (i0 : Nat), (z_wl dA ad h sh i0).length = sh.length
  | [], _ => rfl
  | c :: cs, i0 => by simp [z_wl, z_wl_len dA ad h cs (i0 + 1)]
/-- a cell is changed: the world of the changed heap -/
theorem z_wl_put {dA : Nat → ClassId} {ad : Nat → Nat} {h h' : z_H} {sh : z_Sh} {o : Nat} {c : Nat × Nat × List Nat} {E : va_E} (hs : z_nth sh o = some c) (h1 : ∀ a, a ≠ o → h'.1 a = h.1 a) (h2 : ∀ a, a ≠ o → h'.2 a = h.2 a) (hE : E = z_ce dA ad c (h'.1 o) (h'.2 o)) : (z_wl dA ad h sh 0).set o (ad o, E) = z_wl dA ad h' sh 0 := by
  rw [z_nth_eq] at hs
  apply List.ext_getElem?
  intro i
  rw [List.getElem?_set, z_wl_at, z_wl_at, z_wl_len]
  have hlt : o < sh.length := (List.getElem?_eq_some_iff.mp hs).1
  by_cases hi : o = i
  · subst hi
    rw [if_pos rfl, if_pos hlt, hs, hE]
    rfl
  · rw [if_neg hi, h1 i (fun q => hi q.symm), h2 i (fun q => hi q.symm)]
theorem z_wl_setO {dA : Nat → ClassId} {ad : Nat → Nat} {h : z_H} {sh : z_Sh} {o ci k : Nat} {ks : List Nat} {v : Int32} (hs : z_nth sh o = some (0, ci, ks)) (hk : z_nth ks k = some 0) : (z_wl dA ad h sh 0).set o (ad o, .inr (ci, (z_fs ad (h.1 o) (h.2 o) ks 0).set k (.int v))) = z_wl dA ad (z_set h o k v) sh 0 :=
  z_wl_put hs (fun _ ha => z_set_ne ha) (fun _ _ => rfl) (by rw [z_ks_set hk, z_set_same]; rfl)
theorem z_wl_setOL {dA : Nat → ClassId} {ad : Nat → Nat} {h : z_H} {sh : z_Sh} {o ci k : Nat} {ks : List Nat} {v : Int64} (hs : z_nth sh o = some (0, ci, ks)) (hk : z_nth ks k = some 1) : (z_wl dA ad h sh 0).set o (ad o, .inr (ci, (z_fs ad (h.1 o) (h.2 o) ks 0).set k (.long v))) = z_wl dA ad (z_setL h o k v) sh 0 :=
  z_wl_put hs (fun _ _ => rfl) (fun _ ha => z_setL_ne ha) (by rw [z_ks_setL hk, z_setL_same]; rfl)
theorem z_wl_setI {dA : Nat → ClassId} {ad : Nat → Nat} {h : z_H} {sh : z_Sh} {o n k : Nat} {ks : List Nat} {v : Int32} (hs : z_nth sh o = some (1, n, ks)) : (z_wl dA ad h sh 0).set o (ad o, .inl (dA 1, n, .inl (upd (h.1 o) k v))) = z_wl dA ad (z_set h o k v) sh 0 :=
  z_wl_put hs (fun _ ha => z_set_ne ha) (fun _ _ => rfl) (by rw [z_set_same]; rfl)
theorem z_wl_setB {dA : Nat → ClassId} {ad : Nat → Nat} {h : z_H} {sh : z_Sh} {o n k : Nat} {ks : List Nat} {v : Int32} (hs : z_nth sh o = some (3, n, ks)) : (z_wl dA ad h sh 0).set o (ad o, .inl (dA 3, n, .inl (upd (h.1 o) k v))) = z_wl dA ad (z_set h o k v) sh 0 :=
  z_wl_put hs (fun _ ha => z_set_ne ha) (fun _ _ => rfl) (by rw [z_set_same]; rfl)
theorem z_wl_setJ {dA : Nat → ClassId} {ad : Nat → Nat} {h : z_H} {sh : z_Sh} {o n k : Nat} {ks : List Nat} {v : Int64} (hs : z_nth sh o = some (2, n, ks)) : (z_wl dA ad h sh 0).set o (ad o, .inl (dA 2, n, .inr (.inl (vp_updL (h.2 o) k v)))) = z_wl dA ad (z_setL h o k v) sh 0 :=
  z_wl_put hs (fun _ _ => rfl) (fun _ ha => z_setL_ne ha) (by rw [z_setL_same]; rfl)
/-! ===== locals ===== -/
def z_al (ad : Nat → Nat) : List (Option Value) → Nat → List (Nat × Value)
  | [], _ => []
  | none :: r, i => z_al ad r (i + 1)
  | some v :: r, i => (i, z_con ad v) :: z_al ad r (i + 1)
theorem z_al_mem (ad : Nat → Nat) : ∀ (ls : List (Option Value)) (i0 : Nat) (q : Nat × Value), q ∈ z_al ad ls i0 ↔ ∃ (j : Nat) (v : Value), z_nth ls j = some (some v) ∧ q = (i0 + j, z_con ad v)
  | [], i0, q => by simp [z_al, z_nth]
  | none :: r, i0, q => by
    rw [show z_al ad (none :: r) i0 = z_al ad r (i0 + 1) from rfl, z_al_mem ad r (i0 + 1) q]
    constructor
    · rintro ⟨j, v, h1, h2⟩
      exact ⟨j + 1, v, h1, by rw [h2]; congr 1; omega⟩
    · rintro ⟨j, v, h1, h2⟩
      match j, h1 with
      | j + 1, h1 => exact ⟨j, v, h1, by rw [h2]; congr 1; omega⟩
  | some w :: r, i0, q => by
    rw [show z_al ad (some w :: r) i0 = (i0, z_con ad w) :: z_al ad r (i0 + 1) from rfl, List.mem_cons, z_al_mem ad r (i0 + 1) q]
    constructor
    · rintro (h | ⟨j, v, h1, h2⟩)
      · exact ⟨0, w, rfl, h⟩
      · exact ⟨j + 1, v, h1, by rw [h2]; congr 1; omega⟩
    · rintro ⟨j, v, h1, h2⟩
      match j, h1 with
      | 0, h1 =>
        cases h1
        exact Or.inl h2
      | j + 1, h1 => exact Or.inr ⟨j, v, h1, by rw [h2]; congr 1; omega⟩
/-- the locals: of nL slots, those that are known hold their values -/
def z_lo (ad : Nat → Nat) (nL : Nat) (ls : List (Option Value)) (la : Array Slot) : Prop := ls.length = nL ∧ lv_has la nL (z_al ad ls 0)
theorem z_lo_get {ad : Nat → Nat} {nL : Nat} {ls : List (Option Value)} {la : Array Slot} (h : z_lo ad nL ls la) {i : Nat} {v : Value} (hv : z_nth ls i = some (some v)) : la[i]? = some (.val (z_con ad v)) := by
  have h1 := h.2.2.2 (i, z_con ad v) ((z_al_mem ad ls 0 _).mpr ⟨i, v, hv, by rw [Nat.zero_add]⟩)
  exact h1
def z_put {α : Type} : List α → Nat → α → List α
  | [], _, _ => []
  | _ :: l, 0, x => x :: l
  | a :: l, k + 1, x => a :: z_put l k x
theorem z_put_len {α : Type} : ∀ (l : List α) (k : Nat) (x : α), (z_put l k x).length = l.length
  | [], _, _ => rfl
  | _ :: l, 0, x => rfl
  | a :: l, k + 1, x => by simp [z_put, z_put_len l k x]
theorem z_put_nth {α : Type} : ∀ (l : List α) (k : Nat) (x : α) (j : Nat), z_nth (z_put l k x) j = if j = k ∧ k < l.length then some x else z_nth l j
  | [], k, x, j => by simp [z_put, z_nth]
  | a :: l, 0, x, 0 => by simp [z_put, z_nth]
  | a :: l, 0, x, j + 1 => by simp [z_put, z_nth]
  | a :: l, k + 1, x, 0 => by simp [z_put, z_nth]
  | a :: l, k + 1, x, j + 1 => by
    rw [show z_nth (z_put (a :: l) (k + 1) x) (j + 1) = z_nth (z_put l k x) j from rfl, z_put_nth l k x j]
    simp [z_nth]
/-- is a long listed at the slot ahead of this one? -/
def z_lg : List (Option Value) → Nat → Bool
  | _, 0 => false
  | ls, k + 1 => match z_nth ls k with
    | some (some (.long _)) => true
    | some (some (.double _)) => true
    | _ => false
def z_sto (ls : List (Option Value)) (i : Nat) (v : Value) : Option (List (Option Value)) :=
  match Nat.blt i ls.length && !z_lg ls i with
  | true => some (z_put ls i (some v))
  | false => none
def z_sto2 (ls : List (Option Value)) (i : Nat) (v : Value) : Option (List (Option Value)) :=
  match Nat.blt (i + 1) ls.length && !z_lg ls i with
  | true => some (z_put (z_put ls i (some v)) (i + 1) none)
  | false => none
theorem z_lg_cat {ls : List (Option Value)} {j : Nat} {v : Value} (h : z_lg ls (j + 1) = false) (hv : z_nth ls j = some (some v)) : v.category = 1 := by
  simp only [z_lg, hv] at h
  cases v <;> first | rfl | (simp at h)
theorem z_lo_set {ad : Nat → Nat} {nL : Nat} {ls ls' : List (Option Value)} {la : Array Slot} {i : Nat} {v : Value} {l' : List (Nat × Value)} (h : z_lo ad nL ls la) (hs : z_sto ls i v = some ls') (hl : l' = (i, z_con ad v) :: (z_al ad ls 0).filter (fun q => !(q.1 == i) && !(q.1 + 1 == i && q.2.category == 2))) : i < nL ∧ ∀ la', lv_has la' nL l' → z_lo ad nL ls' la' := by
  unfold z_sto at hs
  split at hs
  · rename_i hc
    simp only [Bool.and_eq_true, Bool.not_eq_true', Nat.blt_eq] at hc
    cases hs
    refine ⟨by rw [← h.1]; exact hc.1, fun la' h' => ⟨by rw [z_put_len]; exact h.1, h'.1, h'.2.1, ?_⟩⟩
    intro q hq
    obtain ⟨j, w, h1, h2⟩ := (z_al_mem ad _ 0 q).mp hq
    rw [z_put_nth] at h1
    refine h'.2.2 q ?_
    rw [hl, h2, Nat.zero_add]
    by_cases hj : j = i ∧ i < ls.length
    · rw [if_pos hj] at h1
      cases h1
      rw [hj.1]
      exact List.mem_cons_self
    · rw [if_neg hj] at h1
      have hji : j ≠ i := fun e => hj ⟨e, hc.1⟩
      refine List.mem_cons_of_mem _ (List.mem_filter.mpr ⟨(z_al_mem ad ls 0 _).mpr ⟨j, w, h1, by rw [Nat.zero_add]⟩, ?_⟩)
      simp only [Bool.and_eq_true, Bool.not_eq_true', beq_eq_false_iff_ne, ne_eq, hji, not_false_eq_true, true_and]
      by_cases e : j + 1 = i
      · have := z_lg_cat (j := j) (by rw [e]; exact hc.2) h1
        simp [z_con_cat, this]
      · simp [e]
  · cases hs
theorem z_lo_set2 {ad : Nat → Nat} {nL : Nat} {ls ls' : List (Option Value)} {la : Array Slot} {i : Nat} {v : Value} {l' : List (Nat × Value)} (h : z_lo ad nL ls la) (hs : z_sto2 ls i v = some ls') (hl : l' = (i, z_con ad v) :: (z_al ad ls 0).filter (fun q => !(q.1 == i) && (!(q.1 == i + 1) && !(q.1 + 1 == i && q.2.category == 2)))) : i + 1 < nL ∧ ∀ la', lv_has la' nL l' → z_lo ad nL ls' la' := by
  unfold z_sto2 at hs
  split at hs
  · rename_i hc
    simp only [Bool.and_eq_true, Bool.not_eq_true', Nat.blt_eq] at hc
    cases hs
    refine ⟨by rw [← h.1]; exact hc.1, fun la' h' => ⟨by rw [z_put_len, z_put_len]; exact h.1, h'.1, h'.2.1, ?_⟩⟩
    intro q hq
    obtain ⟨j, w, h1, h2⟩ := (z_al_mem ad _ 0 q).mp hq
    rw [z_put_nth, z_put_len, z_put_nth] at h1
    refine h'.2.2 q ?_
    rw [hl, h2, Nat.zero_add]
    by_cases hj1 : j = i + 1
    · rw [if_pos ⟨hj1, hc.1⟩] at h1
      cases h1
    · rw [if_neg (fun e => hj1 e.1)] at h1
      by_cases hj : j = i
      · rw [if_pos ⟨hj, by omega⟩] at h1
        cases h1
        rw [hj]
        exact List.mem_cons_self
      · rw [if_neg (fun e => hj e.1)] at h1
        refine List.mem_cons_of_mem _ (List.mem_filter.mpr ⟨(z_al_mem ad ls 0 _).mpr ⟨j, w, h1, by rw [Nat.zero_add]⟩, ?_⟩)
        simp only [Bool.and_eq_true, Bool.not_eq_true', beq_eq_false_iff_ne, ne_eq, hj, hj1, not_false_eq_true, true_and]
        by_cases e : j + 1 = i
        · have := z_lg_cat (j := j) (by rw [e]; exact hc.2) h1
          simp [z_con_cat, this]
        · simp [e]
  · cases hs
end
section
/-! ===== the judgement over abstract heaps, and one instruction ===== -/
def z_tys (dA : Nat → ClassId) : List (ClassId × FieldType) := [(dA 1, .int), (dA 2, .long), (dA 3, .boolean)]
/-- a class' fields by the numbers of its own pool: number, class, slot, kind (0 int, 1 long, 3 boolean, 2 reference) -/
abbrev z_Fl : Type := List (Nat × Nat × Nat × Nat)
def z_fl : z_Fl → Nat → Option (Nat × Nat × Nat)
  | [], _ => none
  | q :: t, i => match Nat.beq q.1 i with
    | true => some q.2
    | false => z_fl t i
def z_fok (own : String) (q : Nat × Nat × Nat × Nat) : Bool := match vwCl[q.2.1]? with
  | some (C, T, N) => decide (q.2.2.1 < N) && (decide ((T q.2.2.1).1 = C) && (decide (Cond.fieldLink own q.1 C (T q.2.2.1).2.1 (T q.2.2.1).2.2.1 ∈ z_flinks) && (match q.2.2.2 with
    | 0 => !(T q.2.2.1).2.2.2 && decide (parseFieldDescriptor (T q.2.2.1).2.2.1 = some .int)
    | 1 => !(T q.2.2.1).2.2.2 && decide (parseFieldDescriptor (T q.2.2.1).2.2.1 = some .long)
    | 3 => !(T q.2.2.1).2.2.2 && decide (parseFieldDescriptor (T q.2.2.1).2.2.1 = some .boolean)
    | _ => (T q.2.2.1).2.2.2)))
  | none => false
def z_fsok (own : String) (fl : z_Fl) : Prop := fl.all (z_fok own) = true
theorem z_fl_mem : ∀ (fl : z_Fl) (i : Nat) (q : Nat × Nat × Nat), z_fl fl i = some q → (i, q) ∈ fl
  | [], i, q, h => by simp [z_fl] at h
  | p :: t, i, q, h => by
    unfold z_fl at h
    split at h
    · rename_i hb
      have := Nat.eq_of_beq_eq_true hb
      cases h
      rw [← this]
      exact List.mem_cons_self
    · exact List.mem_cons_of_mem _ (z_fl_mem t i q h)
/-- what the tables say of a class of the world -/
def z_clok (ci : Nat) : Prop := ∀ C T N, vwCl[ci]? = some (C, T, N) → (∀ w ∈ u_ws C T N, w ∈ z_big) ∧ (∃ ty : Nat → FieldType, ∀ k, k < N → parseFieldDescriptor (T k).2.2.1 = some (ty k)) ∧ (∀ a, a < N → ∀ b, b < N → a ≠ b → (T a).2.1 ≠ (T b).2.1)
theorem z_ub0 : ∀ w ∈ wsX00, w ∈ z_big := by decide +kernel
theorem z_ub1 : ∀ w ∈ wsX10, w ∈ z_big := by decide +kernel
theorem z_ub2 : ∀ w ∈ wsX20, w ∈ z_big := by decide +kernel
theorem z_ub3 : ∀ w ∈ wsX30, w ∈ z_big := by decide +kernel
theorem z_ub4 : ∀ w ∈ wsX40, w ∈ z_big := by decide +kernel
theorem z_ub5 : ∀ w ∈ wsX50, w ∈ z_big := by decide +kernel
theorem z_ub6 : ∀ w ∈ wsX60, w ∈ z_big := by decide +kernel
theorem z_ub7 : ∀ w ∈ wsX70, w ∈ z_big := by decide +kernel
theorem z_cl_all (ci : Nat) : z_clok ci := by
  intro C T N h
  match ci, h with
  | 0, h => cases h; exact ⟨z_ub0, ⟨tyX0, tyX0_ok⟩, nmX0⟩
  | 1, h => cases h; exact ⟨z_ub1, ⟨tyX1, tyX1_ok⟩, nmX1⟩
  | 2, h => cases h; exact ⟨z_ub2, ⟨tyX2, tyX2_ok⟩, nmX2⟩
  | 3, h => cases h; exact ⟨z_ub3, ⟨tyX3, tyX3_ok⟩, nmX3⟩
  | 4, h => cases h; exact ⟨z_ub4, ⟨tyX4, tyX4_ok⟩, nmX4⟩
  | 5, h => cases h; exact ⟨z_ub5, ⟨tyX5, tyX5_ok⟩, nmX5⟩
  | 6, h => cases h; exact ⟨z_ub6, ⟨tyX6, tyX6_ok⟩, nmX6⟩
  | 7, h => cases h; exact ⟨z_ub7, ⟨tyX7, tyX7_ok⟩, nmX7⟩
  | n + 8, h => simp [vwCl] at h
/-- one instruction's numbers -/
def z_bi : Int → Int32
  | .ofNat k => nI k
  | .negSucc 0 => -1
  | .negSucc (k + 1) => Int32.ofInt (.negSucc (k + 1))
theorem z_bi_eq (n : Int) : Int32.ofInt n = z_bi n := by
  match n with
  | .ofNat k => exact Int32.ofInt_eq_ofNat
  | .negSucc 0 => rfl
  | .negSucc (k + 1) => rfl
theorem z_bi_8 : ∀ k, k < 128 → (Int8.ofInt (Int.ofNat k)).toInt32 = nI k := by decide +kernel
abbrev z_Y : Type := List (Option Value) × List Value × z_H
def z_b2 (f : Int32 → Int32 → Int32) : List Value → Option (List Value)
  | .int b :: .int a :: r => some (.int (f a b) :: r)
  | _ => none
theorem z_b2_of {f : Int32 → Int32 → Int32} {st st' : List Value} (h : z_b2 f st = some st') : ∃ a b r, st = .int b :: .int a :: r ∧ st' = .int (f a b) :: r := by
  unfold z_b2 at h
  split at h
  · cases h; exact ⟨_, _, _, rfl, rfl⟩
  · cases h
def z_b2L (f : Int64 → Int64 → Value) : List Value → Option (List Value)
  | .long b :: .long a :: r => some (f a b :: r)
  | _ => none
theorem z_b2L_of {f : Int64 → Int64 → Value} {st st' : List Value} (h : z_b2L f st = some st') : ∃ a b r, st = .long b :: .long a :: r ∧ st' = f a b :: r := by
  unfold z_b2L at h
  split at h
  · cases h; exact ⟨_, _, _, rfl, rfl⟩
  · cases h
def z_div (f : Int32 → Int32 → Int32) : List Value → Option (List Value × List Prop)
  | .int b :: .int a :: r => some (.int (f a b) :: r, [¬ b = 0])
  | _ => none
theorem z_div_of {f : Int32 → Int32 → Int32} {st st' : List Value} {cs : List Prop} (h : z_div f st = some (st', cs)) : ∃ a b r, st = .int b :: .int a :: r ∧ st' = .int (f a b) :: r ∧ cs = [¬ b = 0] := by
  unfold z_div at h
  split at h
  · cases h; exact ⟨_, _, _, rfl, rfl, rfl⟩
  · cases h
/-- loads: a local of a kind -/
def z_ldI (ls : List (Option Value)) (k : Nat) : Option Value := match z_nth ls k with
  | some (some (.int x)) => some (.int x)
  | _ => none
theorem z_ldI_of {ls : List (Option Value)} {k : Nat} {v : Value} (h : z_ldI ls k = some v) : ∃ x, v = .int x ∧ z_nth ls k = some (some (.int x)) := by
  unfold z_ldI at h
  split at h
  · cases h; exact ⟨_, rfl, by assumption⟩
  · cases h
def z_ldL (ls : List (Option Value)) (k : Nat) : Option Value := match z_nth ls k with
  | some (some (.long x)) => some (.long x)
  | _ => none
theorem z_ldL_of {ls : List (Option Value)} {k : Nat} {v : Value} (h : z_ldL ls k = some v) : ∃ x, v = .long x ∧ z_nth ls k = some (some (.long x)) := by
  unfold z_ldL at h
  split at h
  · cases h; exact ⟨_, rfl, by assumption⟩
  · cases h
def z_ldA (ls : List (Option Value)) (k : Nat) : Option Value := match z_nth ls k with
  | some (some (.ref x)) => some (.ref x)
  | _ => none
theorem z_ldA_of {ls : List (Option Value)} {k : Nat} {v : Value} (h : z_ldA ls k = some v) : ∃ x, v = .ref x ∧ z_nth ls k = some (some (.ref x)) := by
  unfold z_ldA at h
  split at h
  · cases h; exact ⟨_, rfl, by assumption⟩
  · cases h
def z_stI (ls : List (Option Value)) (k : Nat) : List Value → Option (List (Option Value) × List Value)
  | .int x :: r => (z_sto ls k (.int x)).map (fun l => (l, r))
  | _ => none
theorem z_stI_of {ls ls' : List (Option Value)} {k : Nat} {st st' : List Value} (h : z_stI ls k st = some (ls', st')) : ∃ x, st = .int x :: st' ∧ z_sto ls k (.int x) = some ls' := by
  unfold z_stI at h
  split at h
  · simp only [Option.map_eq_some_iff, Prod.mk.injEq] at h
    obtain ⟨l, h1, h2, h3⟩ := h
    subst h2; subst h3
    exact ⟨_, rfl, h1⟩
  · cases h
def z_stA (ls : List (Option Value)) (k : Nat) : List Value → Option (List (Option Value) × List Value)
  | .ref x :: r => (z_sto ls k (.ref x)).map (fun l => (l, r))
  | _ => none
theorem z_stA_of {ls ls' : List (Option Value)} {k : Nat} {st st' : List Value} (h : z_stA ls k st = some (ls', st')) : ∃ x, st = .ref x :: st' ∧ z_sto ls k (.ref x) = some ls' := by
  unfold z_stA at h
  split at h
  · simp only [Option.map_eq_some_iff, Prod.mk.injEq] at h
    obtain ⟨l, h1, h2, h3⟩ := h
    subst h2; subst h3
    exact ⟨_, rfl, h1⟩
  · cases h
def z_stL (ls : List (Option Value)) (k : Nat) : List Value → Option (List (Option Value) × List Value)
  | .long x :: r => (z_sto2 ls k (.long x)).map (fun l => (l, r))
  | _ => none
theorem z_stL_of {ls ls' : List (Option Value)} {k : Nat} {st st' : List Value} (h : z_stL ls k st = some (ls', st')) : ∃ x, st = .long x :: st' ∧ z_sto2 ls k (.long x) = some ls' := by
  unfold z_stL at h
  split at h
  · simp only [Option.map_eq_some_iff, Prod.mk.injEq] at h
    obtain ⟨l, h1, h2, h3⟩ := h
    subst h2; subst h3
    exact ⟨_, rfl, h1⟩
  · cases h
/-- arrays -/
def z_av (h : z_H) (t o : Nat) (i : Int32) : Value := match t with
  | 2 => .long (h.2 o i.toNatClampNeg)
  | _ => .int (h.1 o i.toNatClampNeg)
def z_ac (t n : Nat) (i x : Int32) : List Prop := match t with
  | 3 => [vp_in i n, x = 0 ∨ x = 1]
  | _ => [vp_in i n]
def z_ald (sh : z_Sh) (h : z_H) (t : Nat) : List Value → Option (List Value × List Prop)
  | .int i :: .ref o :: r => match z_nth sh o with
    | some (t', n, _) => match Nat.beq t' t with
      | true => some (z_av h t o i :: r, [vp_in i n])
      | false => none
    | none => none
  | _ => none
theorem z_ald_of {sh : z_Sh} {h : z_H} {t : Nat} {st st' : List Value} {cs : List Prop} (hh : z_ald sh h t st = some (st', cs)) : ∃ i o r n ks, st = .int i :: .ref o :: r ∧ z_nth sh o = some (t, n, ks) ∧ cs = [vp_in i n] ∧ st' = z_av h t o i :: r := by
  unfold z_ald at hh
  split at hh
  · split at hh
    · split at hh
      · rename_i hb
        have := Nat.eq_of_beq_eq_true hb
        subst this
        cases hh
        exact ⟨_, _, _, _, _, rfl, by assumption, rfl, rfl⟩
      · cases hh
    · cases hh
  · cases hh
def z_ast (sh : z_Sh) (h : z_H) (t : Nat) : List Value → Option (List Value × z_H × List Prop)
  | .int x :: .int i :: .ref o :: r => match z_nth sh o with
    | some (t', n, _) => match Nat.beq t' t with
      | true => some (r, z_set h o i.toNatClampNeg x, z_ac t n i x)
      | false => none
    | none => none
  | _ => none
theorem z_ast_of {sh : z_Sh} {h h' : z_H} {t : Nat} {st st' : List Value} {cs : List Prop} (hh : z_ast sh h t st = some (st', h', cs)) : ∃ x i o n ks, st = .int x :: .int i :: .ref o :: st' ∧ z_nth sh o = some (t, n, ks) ∧ h' = z_set h o i.toNatClampNeg x ∧ cs = z_ac t n i x := by
  unfold z_ast at hh
  split at hh
  · split at hh
    · split at hh
      · rename_i hb
        have := Nat.eq_of_beq_eq_true hb
        subst this
        cases hh
        exact ⟨_, _, _, _, _, rfl, by assumption, rfl, rfl⟩
      · cases hh
    · cases hh
  · cases hh
def z_astL (sh : z_Sh) (h : z_H) : List Value → Option (List Value × z_H × List Prop)
  | .long x :: .int i :: .ref o :: r => match z_nth sh o with
    | some (2, n, _) => some (r, z_setL h o i.toNatClampNeg x, [vp_in i n])
    | _ => none
  | _ => none
theorem z_astL_of {sh : z_Sh} {h h' : z_H} {st st' : List Value} {cs : List Prop} (hh : z_astL sh h st = some (st', h', cs)) : ∃ x i o n ks, st = .long x :: .int i :: .ref o :: st' ∧ z_nth sh o = some (2, n, ks) ∧ h' = z_setL h o i.toNatClampNeg x ∧ cs = [vp_in i n] := by
  unfold z_astL at hh
  split at hh
  · split at hh
    · cases hh
      exact ⟨_, _, _, _, _, rfl, by assumption, rfl, rfl⟩
    · cases hh
  · cases hh
def z_aln (sh : z_Sh) : List Value → Option (List Value)
  | .ref o :: r => match z_nth sh o with
    | some (1, n, _) => some (.int (nI n) :: r)
    | _ => none
  | _ => none
/-- fields -/
def z_gf (fl : z_Fl) (sh : z_Sh) (h : z_H) (idx : Nat) : List Value → Option (List Value)
  | .ref o :: r => match z_fl fl idx with
    | some (ci, k, _) => match z_nth sh o with
      | some (0, ci', ks) => match Nat.beq ci' ci with
        | true => match z_nth ks k with
          | some 0 => some (.int (h.1 o k) :: r)
          | some 1 => some (.long (h.2 o k) :: r)
          | some (q + 3) => some (.ref q :: r)
          | _ => none
        | false => none
      | _ => none
    | none => none
  | _ => none
theorem z_gf_of {fl : z_Fl} {sh : z_Sh} {h : z_H} {idx : Nat} {st st' : List Value} (hh : z_gf fl sh h idx st = some st') : ∃ o r ci k t ks q v, st = .ref o :: r ∧ st' = v :: r ∧ z_fl fl idx = some (ci, k, t) ∧ z_nth sh o = some (0, ci, ks) ∧ z_nth ks k = some q ∧ ∀ ad, z_con ad v = z_fv ad (h.1 o) (h.2 o) k q := by
  unfold z_gf at hh
  split at hh
  · split at hh
    · split at hh
      · split at hh
        · rename_i hb
          have := Nat.eq_of_beq_eq_true hb
          subst this
          split at hh
          · cases hh; exact ⟨_, _, _, _, _, _, _, _, rfl, rfl, by assumption, by assumption, by assumption, fun _ => rfl⟩
          · cases hh; exact ⟨_, _, _, _, _, _, _, _, rfl, rfl, by assumption, by assumption, by assumption, fun _ => rfl⟩
          · cases hh; exact ⟨_, _, _, _, _, _, _, _, rfl, rfl, by assumption, by assumption, by assumption, fun _ => rfl⟩
          · cases hh
        · cases hh
      · cases hh
    · cases hh
  · cases hh
def z_pf (fl : z_Fl) (sh : z_Sh) (h : z_H) (idx : Nat) : List Value → Option (List Value × z_H × List Prop)
  | .int x :: .ref o :: r => match z_fl fl idx with
    | some (ci, k, t) => match z_nth sh o with
      | some (0, ci', ks) => match Nat.beq ci' ci with
        | true => match z_nth ks k with
          | some 0 => match t with
            | 0 => some (r, z_set h o k x, [])
            | 3 => some (r, z_set h o k x, [x = 0 ∨ x = 1])
            | _ => none
          | _ => none
        | false => none
      | _ => none
    | none => none
  | .long x :: .ref o :: r => match z_fl fl idx with
    | some (ci, k, 1) => match z_nth sh o with
      | some (0, ci', ks) => match Nat.beq ci' ci with
        | true => match z_nth ks k with
          | some 1 => some (r, z_setL h o k x, [])
          | _ => none
        | false => none
      | _ => none
    | _ => none
  | _ => none
theorem z_pf_of {fl : z_Fl} {sh : z_Sh} {h h' : z_H} {idx : Nat} {st st' : List Value} {cs : List Prop} (hh : z_pf fl sh h idx st = some (st', h', cs)) : ∃ o ci k ks, z_nth sh o = some (0, ci, ks) ∧
    ((∃ x, st = .int x :: .ref o :: st' ∧ h' = z_set h o k x ∧ z_nth ks k = some 0 ∧ ((z_fl fl idx = some (ci, k, 0) ∧ cs = []) ∨ (z_fl fl idx = some (ci, k, 3) ∧ cs = [x = 0 ∨ x = 1]))) ∨
     (∃ x, st = .long x :: .ref o :: st' ∧ h' = z_setL h o k x ∧ z_nth ks k = some 1 ∧ z_fl fl idx = some (ci, k, 1) ∧ cs = [])) := by
  unfold z_pf at hh
  split at hh
  · split at hh
    · split at hh
      · split at hh
        · rename_i hb
          have := Nat.eq_of_beq_eq_true hb
          subst this
          split at hh
          · split at hh
            · cases hh; exact ⟨_, _, _, _, by assumption, Or.inl ⟨_, rfl, rfl, by assumption, Or.inl ⟨by assumption, rfl⟩⟩⟩
            · cases hh; exact ⟨_, _, _, _, by assumption, Or.inl ⟨_, rfl, rfl, by assumption, Or.inr ⟨by assumption, rfl⟩⟩⟩
            · cases hh
          · cases hh
        · cases hh
      · cases hh
    · cases hh
  · split at hh
    · split at hh
      · split at hh
        · rename_i hb
          have := Nat.eq_of_beq_eq_true hb
          subst this
          split at hh
          · cases hh; exact ⟨_, _, _, _, by assumption, Or.inr ⟨_, rfl, rfl, by assumption, by assumption, rfl⟩⟩
          · cases hh
        · cases hh
      · cases hh
    · cases hh
  · cases hh
def z_dp : List Value → Option (List Value)
  | .int a :: r => some (.int a :: .int a :: r)
  | .ref a :: r => some (.ref a :: .ref a :: r)
  | _ => none
def z_dp2 : List Value → Option (List Value)
  | .int a :: .ref b :: r => some (.int a :: .ref b :: .int a :: .ref b :: r)
  | _ => none
def z_i2l : List Value → Option (List Value)
  | .int a :: r => some (.long a.toInt64 :: r)
  | _ => none
def z_lsh : List Value → Option (List Value)
  | .int y :: .long x :: r => some (.long (x <<< (y.toInt64 &&& 63)) :: r)
  | _ => none
def z_lsr : List Value → Option (List Value)
  | .int y :: .long x :: r => some (.long (x >>> (y.toInt64 &&& 63)) :: r)
  | _ => none
def z_pop : List Value → Option (List Value)
  | .int _ :: r => some r
  | .ref _ :: r => some r
  | _ => none
def z_inc (ls : List (Option Value)) (i : Nat) (n : Int) : Option (List (Option Value)) := match z_nth ls i with
  | some (some (.int x)) => z_sto ls i (.int (x + z_bi n))
  | _ => none
/-- one instruction that neither jumps nor calls nor makes: locals, stack, heap, and what must hold there -/
def z_s1 (fl : z_Fl) (sh : z_Sh) : Instr → z_Y → Option (z_Y × List Prop)
  | .aload_n k, (ls, st, h) => (z_ldA ls k.val).map (fun v => ((ls, v :: st, h), []))
  | .aload k, (ls, st, h) => (z_ldA ls k).map (fun v => ((ls, v :: st, h), []))
  | .iload_n k, (ls, st, h) => (z_ldI ls k.val).map (fun v => ((ls, v :: st, h), []))
  | .iload k, (ls, st, h) => (z_ldI ls k).map (fun v => ((ls, v :: st, h), []))
  | .lload_n k, (ls, st, h) => (z_ldL ls k.val).map (fun v => ((ls, v :: st, h), []))
  | .lload k, (ls, st, h) => (z_ldL ls k).map (fun v => ((ls, v :: st, h), []))
  | .istore_n k, (ls, st, h) => (z_stI ls k.val st).map (fun q => ((q.1, q.2, h), []))
  | .istore k, (ls, st, h) => (z_stI ls k st).map (fun q => ((q.1, q.2, h), []))
  | .astore_n k, (ls, st, h) => (z_stA ls k.val st).map (fun q => ((q.1, q.2, h), []))
  | .astore k, (ls, st, h) => (z_stA ls k st).map (fun q => ((q.1, q.2, h), []))
  | .lstore_n k, (ls, st, h) => (z_stL ls k.val st).map (fun q => ((q.1, q.2, h), []))
  | .lstore k, (ls, st, h) => (z_stL ls k st).map (fun q => ((q.1, q.2, h), []))
  | .iinc i n, (ls, st, h) => (z_inc ls i n).map (fun l => ((l, st, h), []))
  | .iconst n, (ls, st, h) => some ((ls, .int (z_bi n) :: st, h), [])
  | .bipush (.ofNat n), (ls, st, h) => match Nat.blt n 128 with
    | true => some ((ls, .int (nI n) :: st, h), [])
    | false => none
  | .bipush (.negSucc n), (ls, st, h) => some ((ls, .int (z_bi (.negSucc n)) :: st, h), [(Int8.ofInt (.negSucc n)).toInt32 = z_bi (.negSucc n)])
  | .sipush (.ofNat n), (ls, st, h) => some ((ls, .int (nI n) :: st, h), [(Int16.ofInt (Int.ofNat n)).toInt32 = nI n])
  | .lconst 0, (ls, st, h) => some ((ls, .long 0 :: st, h), [])
  | .lconst 1, (ls, st, h) => some ((ls, .long 1 :: st, h), [])
  | .iadd, (ls, st, h) => (z_b2 (fun a b => a + b) st).map (fun s => ((ls, s, h), []))
  | .isub, (ls, st, h) => (z_b2 (fun a b => a - b) st).map (fun s => ((ls, s, h), []))
  | .imul, (ls, st, h) => (z_b2 (fun a b => a * b) st).map (fun s => ((ls, s, h), []))
  | .iand, (ls, st, h) => (z_b2 (fun a b => a &&& b) st).map (fun s => ((ls, s, h), []))
  | .ior, (ls, st, h) => (z_b2 (fun a b => a ||| b) st).map (fun s => ((ls, s, h), []))
  | .ixor, (ls, st, h) => (z_b2 (fun a b => a ^^^ b) st).map (fun s => ((ls, s, h), []))
  | .ishl, (ls, st, h) => (z_b2 (fun a b => a <<< (b &&& 31)) st).map (fun s => ((ls, s, h), []))
  | .ishr, (ls, st, h) => (z_b2 (fun a b => a >>> (b &&& 31)) st).map (fun s => ((ls, s, h), []))
  | .iushr, (ls, st, h) => (z_b2 (fun a b => (a.toUInt32 >>> (b.toUInt32 &&& Int32.toUInt32 31)).toInt32) st).map (fun s => ((ls, s, h), []))
  | .idiv, (ls, st, h) => (z_div (fun a b => a / b) st).map (fun q => ((ls, q.1, h), q.2))
  | .irem, (ls, st, h) => (z_div (fun a b => a - a / b * b) st).map (fun q => ((ls, q.1, h), q.2))
  | .land, (ls, st, h) => (z_b2L (fun a b => .long (a &&& b)) st).map (fun s => ((ls, s, h), []))
  | .lor, (ls, st, h) => (z_b2L (fun a b => .long (a ||| b)) st).map (fun s => ((ls, s, h), []))
  | .lxor, (ls, st, h) => (z_b2L (fun a b => .long (a ^^^ b)) st).map (fun s => ((ls, s, h), []))
  | .lcmp, (ls, st, h) => (z_b2L (fun a b => .int (lg_cmp a b)) st).map (fun s => ((ls, s, h), []))
  | .lshr, (ls, st, h) => (z_lsr st).map (fun s => ((ls, s, h), []))
  | .lshl, (ls, st, h) => (z_lsh st).map (fun s => ((ls, s, h), []))
  | .i2l, (ls, st, h) => (z_i2l st).map (fun s => ((ls, s, h), []))
  | .dup, (ls, st, h) => (z_dp st).map (fun s => ((ls, s, h), []))
  | .dup2, (ls, st, h) => (z_dp2 st).map (fun s => ((ls, s, h), []))
  | .pop, (ls, st, h) => (z_pop st).map (fun s => ((ls, s, h), []))
  | .iaload, (ls, st, h) => (z_ald sh h 1 st).map (fun q => ((ls, q.1, h), q.2))
  | .laload, (ls, st, h) => (z_ald sh h 2 st).map (fun q => ((ls, q.1, h), q.2))
  | .baload, (ls, st, h) => (z_ald sh h 3 st).map (fun q => ((ls, q.1, h), q.2))
  | .iastore, (ls, st, h) => (z_ast sh h 1 st).map (fun q => ((ls, q.1, q.2.1), q.2.2))
  | .bastore, (ls, st, h) => (z_ast sh h 3 st).map (fun q => ((ls, q.1, q.2.1), q.2.2))
  | .lastore, (ls, st, h) => (z_astL sh h st).map (fun q => ((ls, q.1, q.2.1), q.2.2))
  | .arraylength, (ls, st, h) => (z_aln sh st).map (fun s => ((ls, s, h), []))
  | .getfield idx, (ls, st, h) => (z_gf fl sh h idx st).map (fun s => ((ls, s, h), []))
  | .putfield idx, (ls, st, h) => (z_pf fl sh h idx st).map (fun q => ((ls, q.1, q.2.1), q.2.2))
  | _, _ => none
def z_all : List Prop → Prop
  | [] => True
  | [c] => c
  | c :: cs => c ∧ z_all cs
end
section
/-! ===== one instruction's law over abstract heaps ===== -/
theorem z_fok_spec {own : String} {idx ci k t : Nat} (h : z_fok own (idx, ci, k, t) = true) : ∃ C T N, vwCl[ci]? = some (C, T, N) ∧ k < N ∧ (T k).1 = C ∧ Cond.fieldLink own idx C (T k).2.1 (T k).2.2.1 ∈ z_big ∧ (t = 0 → (T k).2.2.2 = false ∧ parseFieldDescriptor (T k).2.2.1 = some .int) ∧ (t = 1 → (T k).2.2.2 = false ∧ parseFieldDescriptor (T k).2.2.1 = some .long) ∧ (t = 3 → (T k).2.2.2 = false ∧ parseFieldDescriptor (T k).2.2.1 = some .boolean) ∧ (t = 2 → (T k).2.2.2 = true) := by
  unfold z_fok at h
  split at h
  · rename_i C T N hc
    simp only [Bool.and_eq_true, decide_eq_true_eq] at h
    obtain ⟨h1, h2, h3, h4⟩ := h
    refine ⟨C, T, N, hc, h1, h2, z_flinks_in _ h3, ?_, ?_, ?_, ?_⟩
    · intro e; subst e; simpa using h4
    · intro e; subst e; simpa using h4
    · intro e; subst e; simpa using h4
    · intro e; subst e; simpa using h4
  · cases h
theorem z_nar_b {x : Int32} (h : x = 0 ∨ x = 1) : narrow .boolean (.int x) = .int x ∧ fits .boolean (.int x) = true ∧ vp_nar .boolean x = x := by
  rcases h with rfl | rfl <;> exact ⟨rfl, rfl, rfl⟩
section ZZ
variable {p : Program} {l : Launch} {e : Env} {R : Room} {s : State} {m : MethodId} {args : Array Value} {below : List Frame} {meth : Method} {c : Code} {D : va_G} {dA : Nat → ClassId} {A : Nat → Prop} {H0 : Heap} {nL : Nat} {ad : Nat → Nat} {Q : State → Prop} {own : String} {cc : ByteArray} {fl : z_Fl}
def z_Z (p : Program) (l : Launch) (e : Env) (R : Room) (s : State) (m : MethodId) (args : Array Value) (below : List Frame) (meth : Method) (c : Code) (D : va_G) (dA : Nat → ClassId) (A : Nat → Prop) (H0 : Heap) (nL : Nat) (ad : Nat → Nat) (Q : State → Prop) (k n pc : Nat) (ls : List (Option Value)) (st : List Value) (sh : z_Sh) (h : z_H) : Prop :=
  ∀ (H : Heap) (locs : List Loc) (la : Array Slot), va_P D vwCl (z_wl dA ad h sh 0) H → va_D A (z_wl dA ad h sh 0) → va_S A H0 H locs → z_lo ad nL ls la → W p l e R s m args below meth c H locs k n Q (F0 m pc la (st.map (z_con ad)))
def z_Cx (p : Program) (s : State) (m : MethodId) (args : Array Value) (c : Code) (D : va_G) (dA : Nat → ClassId) (A : Nat → Prop) (H0 : Heap) (own : String) (cc : ByteArray) (nL : Nat) (fl : z_Fl) : Prop :=
  p.tables.exec = Jvm.exec ∧ c.code = cc ∧ c.maxLocals = nL ∧ s.vm.findClass own = some m.cls ∧ (∀ w ∈ z_big, w.before args s = true) ∧ va_K D vwCl (z_tys dA) s ∧ (∀ q : Nat, H0.size ≤ q → A q) ∧ z_fsok own fl
def z_len : Instr → Nat
  | .aload _ | .iload _ | .lload _ | .istore _ | .lstore _ | .astore _ | .bipush _ => 2
  | .sipush _ | .iinc _ _ | .getfield _ | .putfield _ => 3
  | _ => 1
set_option maxHeartbeats 4000000 in
theorem z_s1_ok (hC : z_Cx p s m args c D dA A H0 own cc nL fl) {k n pc : Nat} {ls ls' : List (Option Value)} {st st' : List Value} {sh : z_Sh} {h h' : z_H} {cs : List Prop} {i : Instr} (hd : decode cc pc = .ok (i, z_len i)) (h1 : z_s1 fl sh i (ls, st, h) = some ((ls', st', h'), cs)) (hcs : z_all cs)
    (kk : z_Z p l e R s m args below meth c D dA A H0 nL ad Q k n (pc + z_len i) ls' st' sh h') : z_Z p l e R s m args below meth c D dA A H0 nL ad Q k n pc ls st sh h := by
  obtain ⟨hx, hb, hml, hown, hts, hK, hA, hfl⟩ := hC
  intro H locs la hP hD hS hl
  have kk := fun H locs la => kk H locs la
  cases i with
  | aload_n j =>
    obtain ⟨v, h2, h3⟩ := Option.map_eq_some_iff.mp (show (z_ldA ls j.val).map (fun v => ((ls, v :: st, h), ([] : List Prop))) = some ((ls', st', h'), cs) from h1)
    obtain ⟨x, rfl, h4⟩ := z_ldA_of h2
    cases h3
    exact lv_aload_n hx hb hd rfl (z_lo_get hl h4) (kk H locs la hP hD hS hl)
  | aload j =>
    obtain ⟨v, h2, h3⟩ := Option.map_eq_some_iff.mp (show (z_ldA ls j).map (fun v => ((ls, v :: st, h), ([] : List Prop))) = some ((ls', st', h'), cs) from h1)
    obtain ⟨x, rfl, h4⟩ := z_ldA_of h2
    cases h3
    exact lv_aload hx hb hd (z_lo_get hl h4) (kk H locs la hP hD hS hl)
  | iload_n j =>
    obtain ⟨v, h2, h3⟩ := Option.map_eq_some_iff.mp (show (z_ldI ls j.val).map (fun v => ((ls, v :: st, h), ([] : List Prop))) = some ((ls', st', h'), cs) from h1)
    obtain ⟨x, rfl, h4⟩ := z_ldI_of h2
    cases h3
    exact lv_iload_n hx hb hd rfl (z_lo_get hl h4) (kk H locs la hP hD hS hl)
  | iload j =>
    obtain ⟨v, h2, h3⟩ := Option.map_eq_some_iff.mp (show (z_ldI ls j).map (fun v => ((ls, v :: st, h), ([] : List Prop))) = some ((ls', st', h'), cs) from h1)
    obtain ⟨x, rfl, h4⟩ := z_ldI_of h2
    cases h3
    exact lv_iload hx hb hd (z_lo_get hl h4) (kk H locs la hP hD hS hl)
  | lload_n j =>
    obtain ⟨v, h2, h3⟩ := Option.map_eq_some_iff.mp (show (z_ldL ls j.val).map (fun v => ((ls, v :: st, h), ([] : List Prop))) = some ((ls', st', h'), cs) from h1)
    obtain ⟨x, rfl, h4⟩ := z_ldL_of h2
    cases h3
    exact lv_lload_n hx hb hd rfl (z_lo_get hl h4) (kk H locs la hP hD hS hl)
  | lload j =>
    obtain ⟨v, h2, h3⟩ := Option.map_eq_some_iff.mp (show (z_ldL ls j).map (fun v => ((ls, v :: st, h), ([] : List Prop))) = some ((ls', st', h'), cs) from h1)
    obtain ⟨x, rfl, h4⟩ := z_ldL_of h2
    cases h3
    exact lv_lload hx hb hd (z_lo_get hl h4) (kk H locs la hP hD hS hl)
  | istore_n j =>
    obtain ⟨⟨l2, s2⟩, h2, h3⟩ := Option.map_eq_some_iff.mp (show (z_stI ls j.val st).map (fun q => ((q.1, q.2, h), ([] : List Prop))) = some ((ls', st', h'), cs) from h1)
    obtain ⟨x, rfl, h4⟩ := z_stI_of h2
    cases h3
    have h5 := z_lo_set hl h4 rfl
    exact lv_istore_n hx hb hd rfl hl.2 h5.1 rfl (fun la' h' => kk H locs la' hP hD hS (h5.2 la' h'))
  | istore j =>
    obtain ⟨⟨l2, s2⟩, h2, h3⟩ := Option.map_eq_some_iff.mp (show (z_stI ls j st).map (fun q => ((q.1, q.2, h), ([] : List Prop))) = some ((ls', st', h'), cs) from h1)
    obtain ⟨x, rfl, h4⟩ := z_stI_of h2
    cases h3
    have h5 := z_lo_set hl h4 rfl
    exact lv_istore hx hb hd hl.2 h5.1 rfl (fun la' h' => kk H locs la' hP hD hS (h5.2 la' h'))
  | astore_n j =>
    obtain ⟨⟨l2, s2⟩, h2, h3⟩ := Option.map_eq_some_iff.mp (show (z_stA ls j.val st).map (fun q => ((q.1, q.2, h), ([] : List Prop))) = some ((ls', st', h'), cs) from h1)
    obtain ⟨x, rfl, h4⟩ := z_stA_of h2
    cases h3
    have h5 := z_lo_set hl h4 rfl
    exact lv_astore_n hx hb hd rfl hl.2 h5.1 rfl (fun la' h' => kk H locs la' hP hD hS (h5.2 la' h'))
  | astore j =>
    obtain ⟨⟨l2, s2⟩, h2, h3⟩ := Option.map_eq_some_iff.mp (show (z_stA ls j st).map (fun q => ((q.1, q.2, h), ([] : List Prop))) = some ((ls', st', h'), cs) from h1)
    obtain ⟨x, rfl, h4⟩ := z_stA_of h2
    cases h3
    have h5 := z_lo_set hl h4 rfl
    exact lv_astore hx hb hd hl.2 h5.1 rfl (fun la' h' => kk H locs la' hP hD hS (h5.2 la' h'))
  | lstore_n j =>
    obtain ⟨⟨l2, s2⟩, h2, h3⟩ := Option.map_eq_some_iff.mp (show (z_stL ls j.val st).map (fun q => ((q.1, q.2, h), ([] : List Prop))) = some ((ls', st', h'), cs) from h1)
    obtain ⟨x, rfl, h4⟩ := z_stL_of h2
    cases h3
    have h5 := z_lo_set2 hl h4 rfl
    exact lv_lstore_n hx hb hd rfl hl.2 h5.1 rfl (fun la' h' => kk H locs la' hP hD hS (h5.2 la' h'))
  | lstore j =>
    obtain ⟨⟨l2, s2⟩, h2, h3⟩ := Option.map_eq_some_iff.mp (show (z_stL ls j st).map (fun q => ((q.1, q.2, h), ([] : List Prop))) = some ((ls', st', h'), cs) from h1)
    obtain ⟨x, rfl, h4⟩ := z_stL_of h2
    cases h3
    have h5 := z_lo_set2 hl h4 rfl
    exact lv_lstore hx hb hd hl.2 h5.1 rfl (fun la' h' => kk H locs la' hP hD hS (h5.2 la' h'))
  | iinc j n =>
    obtain ⟨l2, h2, h3⟩ := Option.map_eq_some_iff.mp (show (z_inc ls j n).map (fun l => ((l, st, h), ([] : List Prop))) = some ((ls', st', h'), cs) from h1)
    unfold z_inc at h2
    split at h2
    · rename_i x hx2
      cases h3
      have h5 := z_lo_set hl h2 rfl
      obtain ⟨q, hq⟩ := List.getElem?_of_mem ((z_al_mem ad ls 0 (j, .int x)).mpr ⟨j, .int x, hx2, by rw [Nat.zero_add]; rfl⟩)
      exact lv_iinc hx hb hd hl.2 hq (by rw [z_bi_eq]) h5.1 rfl (fun la' h' => kk H locs la' hP hD hS (h5.2 la' h'))
    · cases h2
  | iconst n =>
    cases (show some ((ls, Value.int (z_bi n) :: st, h), ([] : List Prop)) = some ((ls', st', h'), cs) from h1)
    exact lv_iconst hx hb hd (z_bi_eq n) (kk H locs la hP hD hS hl)
  | bipush b =>
    match b, hd, h1, kk with
    | .ofNat b, hd, h1, kk =>
      have h2 : (match Nat.blt b 128 with | true => some ((ls, Value.int (nI b) :: st, h), ([] : List Prop)) | false => none) = some ((ls', st', h'), cs) := h1
      split at h2
      · rename_i hb2
        cases h2
        exact lv_bipush hx hb hd (z_bi_8 b (by simpa using hb2)) (kk H locs la hP hD hS hl)
      · cases h2
    | .negSucc b, hd, h1, kk =>
      cases (show some ((ls, Value.int (z_bi (.negSucc b)) :: st, h), [(Int8.ofInt (.negSucc b)).toInt32 = z_bi (.negSucc b)]) = some ((ls', st', h'), cs) from h1)
      exact lv_bipush hx hb hd hcs (kk H locs la hP hD hS hl)
  | sipush b =>
    match b, hd, h1, kk with
    | .ofNat b, hd, h1, kk =>
      cases (show some ((ls, Value.int (nI b) :: st, h), [(Int16.ofInt (Int.ofNat b)).toInt32 = nI b]) = some ((ls', st', h'), cs) from h1)
      exact lv_sipush hx hb hd hcs (kk H locs la hP hD hS hl)
    | .negSucc b, hd, h1, kk => cases h1
  | lconst b =>
    match b, hd, h1, kk with
    | 0, hd, h1, kk =>
      cases (show some ((ls, Value.long 0 :: st, h), ([] : List Prop)) = some ((ls', st', h'), cs) from h1)
      exact lv_lconst hx hb hd rfl (kk H locs la hP hD hS hl)
    | 1, hd, h1, kk =>
      cases (show some ((ls, Value.long 1 :: st, h), ([] : List Prop)) = some ((ls', st', h'), cs) from h1)
      exact lv_lconst hx hb hd rfl (kk H locs la hP hD hS hl)
  | iadd =>
    obtain ⟨s2, h2, h3⟩ := Option.map_eq_some_iff.mp (show (z_b2 (fun a b => a + b) st).map (fun s => ((ls, s, h), ([] : List Prop))) = some ((ls', st', h'), cs) from h1)
    obtain ⟨a, b, r, rfl, rfl⟩ := z_b2_of h2
    cases h3
    exact lv_iadd hx hb hd (kk H locs la hP hD hS hl)
  | isub =>
    obtain ⟨s2, h2, h3⟩ := Option.map_eq_some_iff.mp (show (z_b2 (fun a b => a - b) st).map (fun s => ((ls, s, h), ([] : List Prop))) = some ((ls', st', h'), cs) from h1)
    obtain ⟨a, b, r, rfl, rfl⟩ := z_b2_of h2
    cases h3
    exact lv_isub hx hb hd (kk H locs la hP hD hS hl)
  | imul =>
    obtain ⟨s2, h2, h3⟩ := Option.map_eq_some_iff.mp (show (z_b2 (fun a b => a * b) st).map (fun s => ((ls, s, h), ([] : List Prop))) = some ((ls', st', h'), cs) from h1)
    obtain ⟨a, b, r, rfl, rfl⟩ := z_b2_of h2
    cases h3
    exact lv_imul hx hb hd (kk H locs la hP hD hS hl)
  | iand =>
    obtain ⟨s2, h2, h3⟩ := Option.map_eq_some_iff.mp (show (z_b2 (fun a b => a &&& b) st).map (fun s => ((ls, s, h), ([] : List Prop))) = some ((ls', st', h'), cs) from h1)
    obtain ⟨a, b, r, rfl, rfl⟩ := z_b2_of h2
    cases h3
    exact lv_iand hx hb hd (kk H locs la hP hD hS hl)
  | ior =>
    obtain ⟨s2, h2, h3⟩ := Option.map_eq_some_iff.mp (show (z_b2 (fun a b => a ||| b) st).map (fun s => ((ls, s, h), ([] : List Prop))) = some ((ls', st', h'), cs) from h1)
    obtain ⟨a, b, r, rfl, rfl⟩ := z_b2_of h2
    cases h3
    exact lv_ior hx hb hd (kk H locs la hP hD hS hl)
  | ixor =>
    obtain ⟨s2, h2, h3⟩ := Option.map_eq_some_iff.mp (show (z_b2 (fun a b => a ^^^ b) st).map (fun s => ((ls, s, h), ([] : List Prop))) = some ((ls', st', h'), cs) from h1)
    obtain ⟨a, b, r, rfl, rfl⟩ := z_b2_of h2
    cases h3
    exact lv_ixor hx hb hd (kk H locs la hP hD hS hl)
  | ishl =>
    obtain ⟨s2, h2, h3⟩ := Option.map_eq_some_iff.mp (show (z_b2 (fun a b => a <<< (b &&& 31)) st).map (fun s => ((ls, s, h), ([] : List Prop))) = some ((ls', st', h'), cs) from h1)
    obtain ⟨a, b, r, rfl, rfl⟩ := z_b2_of h2
    cases h3
    exact lv_ishl hx hb hd (kk H locs la hP hD hS hl)
  | ishr =>
    obtain ⟨s2, h2, h3⟩ := Option.map_eq_some_iff.mp (show (z_b2 (fun a b => a >>> (b &&& 31)) st).map (fun s => ((ls, s, h), ([] : List Prop))) = some ((ls', st', h'), cs) from h1)
    obtain ⟨a, b, r, rfl, rfl⟩ := z_b2_of h2
    cases h3
    exact lv_ishr hx hb hd (kk H locs la hP hD hS hl)
  | iushr =>
    obtain ⟨s2, h2, h3⟩ := Option.map_eq_some_iff.mp (show (z_b2 (fun a b => (a.toUInt32 >>> (b.toUInt32 &&& Int32.toUInt32 31)).toInt32) st).map (fun s => ((ls, s, h), ([] : List Prop))) = some ((ls', st', h'), cs) from h1)
    obtain ⟨a, b, r, rfl, rfl⟩ := z_b2_of h2
    cases h3
    exact lv_iushr hx hb hd rfl (kk H locs la hP hD hS hl)
  | idiv =>
    obtain ⟨⟨s2, c2⟩, h2, h3⟩ := Option.map_eq_some_iff.mp (show (z_div (fun a b => a / b) st).map (fun q => ((ls, q.1, h), q.2)) = some ((ls', st', h'), cs) from h1)
    obtain ⟨a, b, r, rfl, rfl, rfl⟩ := z_div_of h2
    cases h3
    exact lv_idiv hx hb hd hcs (kk H locs la hP hD hS hl)
  | irem =>
    obtain ⟨⟨s2, c2⟩, h2, h3⟩ := Option.map_eq_some_iff.mp (show (z_div (fun a b => a - a / b * b) st).map (fun q => ((ls, q.1, h), q.2)) = some ((ls', st', h'), cs) from h1)
    obtain ⟨a, b, r, rfl, rfl, rfl⟩ := z_div_of h2
    cases h3
    exact lv_irem hx hb hd hcs (kk H locs la hP hD hS hl)
  | land =>
    obtain ⟨s2, h2, h3⟩ := Option.map_eq_some_iff.mp (show (z_b2L (fun a b => .long (a &&& b)) st).map (fun s => ((ls, s, h), ([] : List Prop))) = some ((ls', st', h'), cs) from h1)
    obtain ⟨a, b, r, rfl, rfl⟩ := z_b2L_of h2
    cases h3
    exact lv_land hx hb hd (kk H locs la hP hD hS hl)
  | lor =>
    obtain ⟨s2, h2, h3⟩ := Option.map_eq_some_iff.mp (show (z_b2L (fun a b => .long (a ||| b)) st).map (fun s => ((ls, s, h), ([] : List Prop))) = some ((ls', st', h'), cs) from h1)
    obtain ⟨a, b, r, rfl, rfl⟩ := z_b2L_of h2
    cases h3
    exact lv_lor hx hb hd (kk H locs la hP hD hS hl)
  | lxor =>
    obtain ⟨s2, h2, h3⟩ := Option.map_eq_some_iff.mp (show (z_b2L (fun a b => .long (a ^^^ b)) st).map (fun s => ((ls, s, h), ([] : List Prop))) = some ((ls', st', h'), cs) from h1)
    obtain ⟨a, b, r, rfl, rfl⟩ := z_b2L_of h2
    cases h3
    exact lv_lxor hx hb hd (kk H locs la hP hD hS hl)
  | lcmp =>
    obtain ⟨s2, h2, h3⟩ := Option.map_eq_some_iff.mp (show (z_b2L (fun a b => .int (lg_cmp a b)) st).map (fun s => ((ls, s, h), ([] : List Prop))) = some ((ls', st', h'), cs) from h1)
    obtain ⟨a, b, r, rfl, rfl⟩ := z_b2L_of h2
    cases h3
    exact W.lcmp hx hb hd (kk H locs la hP hD hS hl)
  | lshr =>
    obtain ⟨s2, h2, h3⟩ := Option.map_eq_some_iff.mp (show (z_lsr st).map (fun s => ((ls, s, h), ([] : List Prop))) = some ((ls', st', h'), cs) from h1)
    unfold z_lsr at h2
    split at h2
    · cases h2; cases h3
      exact lv_lshr hx hb hd rfl (kk H locs la hP hD hS hl)
    · cases h2
  | lshl =>
    obtain ⟨s2, h2, h3⟩ := Option.map_eq_some_iff.mp (show (z_lsh st).map (fun s => ((ls, s, h), ([] : List Prop))) = some ((ls', st', h'), cs) from h1)
    unfold z_lsh at h2
    split at h2
    · cases h2; cases h3
      exact lv_lshl hx hb hd rfl (kk H locs la hP hD hS hl)
    · cases h2
  | i2l =>
    obtain ⟨s2, h2, h3⟩ := Option.map_eq_some_iff.mp (show (z_i2l st).map (fun s => ((ls, s, h), ([] : List Prop))) = some ((ls', st', h'), cs) from h1)
    unfold z_i2l at h2
    split at h2
    · cases h2; cases h3
      exact lv_i2l hx hb hd rfl (kk H locs la hP hD hS hl)
    · cases h2
  | dup =>
    obtain ⟨s2, h2, h3⟩ := Option.map_eq_some_iff.mp (show (z_dp st).map (fun s => ((ls, s, h), ([] : List Prop))) = some ((ls', st', h'), cs) from h1)
    unfold z_dp at h2
    split at h2
    · cases h2; cases h3
      exact lv_dup hx hb hd rfl (kk H locs la hP hD hS hl)
    · cases h2; cases h3
      exact lv_dup hx hb hd rfl (kk H locs la hP hD hS hl)
    · cases h2
  | dup2 =>
    obtain ⟨s2, h2, h3⟩ := Option.map_eq_some_iff.mp (show (z_dp2 st).map (fun s => ((ls, s, h), ([] : List Prop))) = some ((ls', st', h'), cs) from h1)
    unfold z_dp2 at h2
    split at h2
    · cases h2; cases h3
      exact lv_dup2_11 hx hb hd rfl rfl (kk H locs la hP hD hS hl)
    · cases h2
  | pop =>
    obtain ⟨s2, h2, h3⟩ := Option.map_eq_some_iff.mp (show (z_pop st).map (fun s => ((ls, s, h), ([] : List Prop))) = some ((ls', st', h'), cs) from h1)
    unfold z_pop at h2
    split at h2
    · cases h2; cases h3
      exact lv_pop hx hb hd rfl (kk H locs la hP hD hS hl)
    · cases h2; cases h3
      exact lv_pop hx hb hd rfl (kk H locs la hP hD hS hl)
    · cases h2
  | iaload =>
    obtain ⟨⟨s2, c2⟩, h2, h3⟩ := Option.map_eq_some_iff.mp (show (z_ald sh h 1 st).map (fun q => ((ls, q.1, h), q.2)) = some ((ls', st', h'), cs) from h1)
    obtain ⟨a, o, r, n2, ks, rfl, h4, rfl, rfl⟩ := z_ald_of h2
    cases h3
    exact va_iald hx hb hK hP o 0 (z_wl_int h4) rfl hcs hd (kk H locs la hP hD hS hl)
  | laload =>
    obtain ⟨⟨s2, c2⟩, h2, h3⟩ := Option.map_eq_some_iff.mp (show (z_ald sh h 2 st).map (fun q => ((ls, q.1, h), q.2)) = some ((ls', st', h'), cs) from h1)
    obtain ⟨a, o, r, n2, ks, rfl, h4, rfl, rfl⟩ := z_ald_of h2
    cases h3
    exact va_lald hx hb hK hP o 1 (z_wl_long h4) rfl hcs hd (kk H locs la hP hD hS hl)
  | baload =>
    obtain ⟨⟨s2, c2⟩, h2, h3⟩ := Option.map_eq_some_iff.mp (show (z_ald sh h 3 st).map (fun q => ((ls, q.1, h), q.2)) = some ((ls', st', h'), cs) from h1)
    obtain ⟨a, o, r, n2, ks, rfl, h4, rfl, rfl⟩ := z_ald_of h2
    cases h3
    exact va_zald hx hb hK hP o 2 (z_wl_bool h4) rfl hcs hd (kk H locs la hP hD hS hl)
  | iastore =>
    obtain ⟨⟨s2, h9, c2⟩, h2, h3⟩ := Option.map_eq_some_iff.mp (show (z_ast sh h 1 st).map (fun q => ((ls, q.1, q.2.1), q.2.2)) = some ((ls', st', h'), cs) from h1)
    obtain ⟨x, a, o, n2, ks, rfl, h4, rfl, rfl⟩ := z_ast_of h2
    cases h3
    exact va_iast hx hb hK hP hD hS o 0 (z_wl_int h4) rfl hcs hd (fun H1 locs1 hP hD hS => by
      rw [z_wl_setI h4] at hP hD
      exact kk H1 locs1 la hP hD hS hl)
  | bastore =>
    obtain ⟨⟨s2, h9, c2⟩, h2, h3⟩ := Option.map_eq_some_iff.mp (show (z_ast sh h 3 st).map (fun q => ((ls, q.1, q.2.1), q.2.2)) = some ((ls', st', h'), cs) from h1)
    obtain ⟨x, a, o, n2, ks, rfl, h4, rfl, rfl⟩ := z_ast_of h2
    cases h3
    have hcs : vp_in a n2 ∧ (x = 0 ∨ x = 1) := hcs
    exact va_zast hx hb hK hP hD hS o 2 (z_wl_bool h4) rfl hcs.1 hd (fun H1 locs1 hP hD hS => by
      rw [(z_nar_b hcs.2).2.2, z_wl_setB h4] at hP hD
      exact kk H1 locs1 la hP hD hS hl)
  | lastore =>
    obtain ⟨⟨s2, h9, c2⟩, h2, h3⟩ := Option.map_eq_some_iff.mp (show (z_astL sh h st).map (fun q => ((ls, q.1, q.2.1), q.2.2)) = some ((ls', st', h'), cs) from h1)
    obtain ⟨x, a, o, n2, ks, rfl, h4, rfl, rfl⟩ := z_astL_of h2
    cases h3
    exact va_last hx hb hK hP hD hS o 1 (z_wl_long h4) rfl hcs hd (fun H1 locs1 hP hD hS => by
      rw [z_wl_setJ h4] at hP hD
      exact kk H1 locs1 la hP hD hS hl)
  | getfield idx =>
    obtain ⟨s2, h2, h3⟩ := Option.map_eq_some_iff.mp (show (z_gf fl sh h idx st).map (fun s => ((ls, s, h), ([] : List Prop))) = some ((ls', st', h'), cs) from h1)
    obtain ⟨o, r, ci, k2, t, ks, q, v, rfl, rfl, h4, h5, h6, h7⟩ := z_gf_of h2
    cases h3
    obtain ⟨C, T, N, c1, c2, c3, c4, -⟩ := z_fok_spec (List.all_eq_true.mp hfl _ (z_fl_mem fl idx _ h4))
    have hv : (z_fs ad (h.1 o) (h.2 o) ks 0)[k2]? = some (z_con ad v) := by
      rw [z_fs_get, ← z_nth_eq, h6, h7 ad, Nat.zero_add]; rfl
    exact va_get hx hb hts (z_cl_all ci C T N c1).1 hown hK hP o (z_wl_obj h5) c1 k2 c2 (ref := C) (hts _ c4) (fun x hx => by rw [c3] at hx; exact hx) hv hd (kk H locs la hP hD hS hl)
  | putfield idx =>
    obtain ⟨⟨s2, h9, c2⟩, h2, h3⟩ := Option.map_eq_some_iff.mp (show (z_pf fl sh h idx st).map (fun q => ((ls, q.1, q.2.1), q.2.2)) = some ((ls', st', h'), cs) from h1)
    obtain ⟨o, ci, k2, ks, h5, h6⟩ := z_pf_of h2
    rcases h6 with ⟨x, rfl, rfl, h7, h8⟩ | ⟨x, rfl, rfl, h7, h8, rfl⟩
    · cases h3
      have hk2 : k2 < (z_fs ad (h.1 o) (h.2 o) ks 0).length := by
        rw [z_nth_eq] at h7
        rw [z_fs_len]
        exact (List.getElem?_eq_some_iff.mp h7).1
      rcases h8 with ⟨h8, rfl⟩ | ⟨h8, rfl⟩
      · obtain ⟨C, T, N, c1, c2, c3, c4, c5, -, -, -⟩ := z_fok_spec (List.all_eq_true.mp hfl _ (z_fl_mem fl idx _ h8))
        obtain ⟨u1, ⟨ty, u2⟩, u3⟩ := z_cl_all ci C T N c1
        exact va_put (v := .int x) hx hb hts u1 ty u2 u3 hown hK hP hD hS o (z_wl_obj h5) c1 k2 c2 (ref := C) (hts _ c4) (fun x hx => by rw [c3] at hx; exact hx) (c5 rfl).1 (c5 rfl).2 rfl rfl hk2 hd (fun H1 locs1 hP hD hS => by
          rw [z_wl_setO h5 h7] at hP hD
          exact kk H1 locs1 la hP hD hS hl)
      · obtain ⟨C, T, N, c1, c2, c3, c4, -, -, c5, -⟩ := z_fok_spec (List.all_eq_true.mp hfl _ (z_fl_mem fl idx _ h8))
        obtain ⟨u1, ⟨ty, u2⟩, u3⟩ := z_cl_all ci C T N c1
        exact va_put (v := .int x) hx hb hts u1 ty u2 u3 hown hK hP hD hS o (z_wl_obj h5) c1 k2 c2 (ref := C) (hts _ c4) (fun x hx => by rw [c3] at hx; exact hx) (c5 rfl).1 (c5 rfl).2 (z_nar_b hcs).1 (z_nar_b hcs).2.1 hk2 hd (fun H1 locs1 hP hD hS => by
          rw [z_wl_setO h5 h7] at hP hD
          exact kk H1 locs1 la hP hD hS hl)
    · cases h3
      have hk2 : k2 < (z_fs ad (h.1 o) (h.2 o) ks 0).length := by
        rw [z_nth_eq] at h7
        rw [z_fs_len]
        exact (List.getElem?_eq_some_iff.mp h7).1
      obtain ⟨C, T, N, c1, c2, c3, c4, -, c5, -, -⟩ := z_fok_spec (List.all_eq_true.mp hfl _ (z_fl_mem fl idx _ h8))
      obtain ⟨u1, ⟨ty, u2⟩, u3⟩ := z_cl_all ci C T N c1
      exact va_put (v := .long x) hx hb hts u1 ty u2 u3 hown hK hP hD hS o (z_wl_obj h5) c1 k2 c2 (ref := C) (hts _ c4) (fun x hx => by rw [c3] at hx; exact hx) (c5 rfl).1 (c5 rfl).2 rfl rfl hk2 hd (fun H1 locs1 hP hD hS => by
        rw [z_wl_setOL h5 h7] at hP hD
        exact kk H1 locs1 la hP hD hS hl)
  | arraylength =>
    obtain ⟨s2, h2, h3⟩ := Option.map_eq_some_iff.mp (show (z_aln sh st).map (fun s => ((ls, s, h), ([] : List Prop))) = some ((ls', st', h'), cs) from h1)
    unfold z_aln at h2
    split at h2
    · split at h2
      · rename_i hs2
        cases h2; cases h3
        exact va_alen hx hb hK hP _ 0 (z_wl_int hs2) (ty := .int) rfl rfl hd (kk H locs la hP hD hS hl)
      · cases h2
    · cases h2
  | _ => cases h1
end ZZ
end
section
/-! ===== a straight stretch; branches ===== -/
section ZR
variable {p : Program} {l : Launch} {e : Env} {R : Room} {s : State} {m : MethodId} {args : Array Value} {below : List Frame} {meth : Method} {c : Code} {D : va_G} {dA : Nat → ClassId} {A : Nat → Prop} {H0 : Heap} {nL : Nat} {ad : Nat → Nat} {Q : State → Prop} {own : String} {cc : ByteArray} {fl : z_Fl}
def z_run (fl : z_Fl) (sh : z_Sh) : List Instr → z_Y → Option (z_Y × List Prop)
  | [], x => some (x, [])
  | i :: is, x => match z_s1 fl sh i x with
    | some (x', cs) => match z_run fl sh is x' with
      | some (y, cs') => some (y, cs ++ cs')
      | none => none
    | none => none
def z_dec (cc : ByteArray) : Nat → List Instr → Bool
  | _, [] => true
  | pc, i :: is => decide (decode cc pc = .ok (i, z_len i)) && z_dec cc (pc + z_len i) is
def z_end : Nat → List Instr → Nat
  | pc, [] => pc
  | pc, i :: is => z_end (pc + z_len i) is
theorem z_all_app : ∀ (a b : List Prop), z_all (a ++ b) → z_all a ∧ z_all b
  | [], b, h => ⟨trivial, h⟩
  | [c], [], h => ⟨h, trivial⟩
  | [c], d :: b, h => ⟨h.1, h.2⟩
  | c :: d :: a, b, h => by
    have h1 : c ∧ z_all ((d :: a) ++ b) := h
    obtain ⟨h2, h3⟩ := z_all_app (d :: a) b h1.2
    exact ⟨⟨h1.1, h2⟩, h3⟩
theorem z_go1 (hC : z_Cx p s m args c D dA A H0 own cc nL fl) {k n : Nat} {sh : z_Sh} : ∀ (is : List Instr) (pc : Nat) (x y : z_Y) (cs : List Prop), z_dec cc pc is = true → z_run fl sh is x = some (y, cs) → z_all cs → z_Z p l e R s m args below meth c D dA A H0 nL ad Q k n (z_end pc is) y.1 y.2.1 sh y.2.2 → z_Z p l e R s m args below meth c D dA A H0 nL ad Q k n pc x.1 x.2.1 sh x.2.2
  | [], pc, x, y, cs, hd, hr, hc, kk => by
    cases hr
    exact kk
  | i :: is, pc, x, y, cs, hd, hr, hc, kk => by
    unfold z_run at hr
    split at hr
    · rename_i x' cs1 h1
      split at hr
      · rename_i y2 cs2 h2
        cases hr
        obtain ⟨c1, c2⟩ := z_all_app _ _ hc
        simp only [z_dec, Bool.and_eq_true, decide_eq_true_eq] at hd
        obtain ⟨ls', st', h'⟩ := x'
        obtain ⟨ls, st, h⟩ := x
        exact z_s1_ok hC hd.1 h1 c1 (z_go1 hC is _ _ _ _ hd.2 h2 c2 kk)
      · cases hr
    · cases hr
/-- a straight stretch -/
theorem z_go (hC : z_Cx p s m args c D dA A H0 own cc nL fl) {k n pc pc' : Nat} {ls ls' : List (Option Value)} {st st' : List Value} {sh : z_Sh} {h h' : z_H} {cs : List Prop} (is : List Instr) (hd : z_dec cc pc is = true) (hp : z_end pc is = pc') (hr : z_run fl sh is (ls, st, h) = some ((ls', st', h'), cs)) (hc : z_all cs)
    (kk : z_Z p l e R s m args below meth c D dA A H0 nL ad Q k n pc' ls' st' sh h') : z_Z p l e R s m args below meth c D dA A H0 nL ad Q k n pc ls st sh h := by
  subst hp
  exact z_go1 hC is pc (ls, st, h) (ls', st', h') cs hd hr hc kk
theorem z_if_eq (hC : z_Cx p s m args c D dA A H0 own cc nL fl) {k n pc : Nat} {ls : List (Option Value)} {st : List Value} {sh : z_Sh} {h : z_H} {x : Int32} {off : Int} (tgt : Nat) (hd : decode cc pc = .ok (.ifCond .eq off, 3)) (ht : (pc : Int) + off = (tgt : Int)) (kt : x = 0 → z_Z p l e R s m args below meth c D dA A H0 nL ad Q k n tgt ls st sh h) (kf : ¬ x = 0 → z_Z p l e R s m args below meth c D dA A H0 nL ad Q k n (pc + 3) ls st sh h) : z_Z p l e R s m args below meth c D dA A H0 nL ad Q k n pc ls (.int x :: st) sh h := fun H locs la hP hD hS hl => lv_if_eq hC.1 hC.2.1 hd ht (fun q => kt q H locs la hP hD hS hl) (fun q => kf q H locs la hP hD hS hl)
theorem z_if_ne (hC : z_Cx p s m args c D dA A H0 own cc nL fl) {k n pc : Nat} {ls : List (Option Value)} {st : List Value} {sh : z_Sh} {h : z_H} {x : Int32} {off : Int} (tgt : Nat) (hd : decode cc pc = .ok (.ifCond .ne off, 3)) (ht : (pc : Int) + off = (tgt : Int)) (kt : ¬ x = 0 → z_Z p l e R s m args below meth c D dA A H0 nL ad Q k n tgt ls st sh h) (kf : x = 0 → z_Z p l e R s m args below meth c D dA A H0 nL ad Q k n (pc + 3) ls st sh h) : z_Z p l e R s m args below meth c D dA A H0 nL ad Q k n pc ls (.int x :: st) sh h := fun H locs la hP hD hS hl => lv_if_ne hC.1 hC.2.1 hd ht (fun q => kt q H locs la hP hD hS hl) (fun q => kf q H locs la hP hD hS hl)
theorem z_if_lt (hC : z_Cx p s m args c D dA A H0 own cc nL fl) {k n pc : Nat} {ls : List (Option Value)} {st : List Value} {sh : z_Sh} {h : z_H} {x : Int32} {off : Int} (tgt : Nat) (hd : decode cc pc = .ok (.ifCond .lt off, 3)) (ht : (pc : Int) + off = (tgt : Int)) (kt : x < 0 → z_Z p l e R s m args below meth c D dA A H0 nL ad Q k n tgt ls st sh h) (kf : ¬ x < 0 → z_Z p l e R s m args below meth c D dA A H0 nL ad Q k n (pc + 3) ls st sh h) : z_Z p l e R s m args below meth c D dA A H0 nL ad Q k n pc ls (.int x :: st) sh h := fun H locs la hP hD hS hl => lv_if_lt hC.1 hC.2.1 hd ht (fun q => kt q H locs la hP hD hS hl) (fun q => kf q H locs la hP hD hS hl)
theorem z_if_ge (hC : z_Cx p s m args c D dA A H0 own cc nL fl) {k n pc : Nat} {ls : List (Option Value)} {st : List Value} {sh : z_Sh} {h : z_H} {x : Int32} {off : Int} (tgt : Nat) (hd : decode cc pc = .ok (.ifCond .ge off, 3)) (ht : (pc : Int) + off = (tgt : Int)) (kt : 0 ≤ x → z_Z p l e R s m args below meth c D dA A H0 nL ad Q k n tgt ls st sh h) (kf : ¬ 0 ≤ x → z_Z p l e R s m args below meth c D dA A H0 nL ad Q k n (pc + 3) ls st sh h) : z_Z p l e R s m args below meth c D dA A H0 nL ad Q k n pc ls (.int x :: st) sh h := fun H locs la hP hD hS hl => lv_if_ge hC.1 hC.2.1 hd ht (fun q => kt q H locs la hP hD hS hl) (fun q => kf q H locs la hP hD hS hl)
theorem z_if_gt (hC : z_Cx p s m args c D dA A H0 own cc nL fl) {k n pc : Nat} {ls : List (Option Value)} {st : List Value} {sh : z_Sh} {h : z_H} {x : Int32} {off : Int} (tgt : Nat) (hd : decode cc pc = .ok (.ifCond .gt off, 3)) (ht : (pc : Int) + off = (tgt : Int)) (kt : 0 < x → z_Z p l e R s m args below meth c D dA A H0 nL ad Q k n tgt ls st sh h) (kf : ¬ 0 < x → z_Z p l e R s m args below meth c D dA A H0 nL ad Q k n (pc + 3) ls st sh h) : z_Z p l e R s m args below meth c D dA A H0 nL ad Q k n pc ls (.int x :: st) sh h := fun H locs la hP hD hS hl => lv_if_gt hC.1 hC.2.1 hd ht (fun q => kt q H locs la hP hD hS hl) (fun q => kf q H locs la hP hD hS hl)
theorem z_if_le (hC : z_Cx p s m args c D dA A H0 own cc nL fl) {k n pc : Nat} {ls : List (Option Value)} {st : List Value} {sh : z_Sh} {h : z_H} {x : Int32} {off : Int} (tgt : Nat) (hd : decode cc pc = .ok (.ifCond .le off, 3)) (ht : (pc : Int) + off = (tgt : Int)) (kt : x ≤ 0 → z_Z p l e R s m args below meth c D dA A H0 nL ad Q k n tgt ls st sh h) (kf : ¬ x ≤ 0 → z_Z p l e R s m args below meth c D dA A H0 nL ad Q k n (pc + 3) ls st sh h) : z_Z p l e R s m args below meth c D dA A H0 nL ad Q k n pc ls (.int x :: st) sh h := fun H locs la hP hD hS hl => lv_if_le hC.1 hC.2.1 hd ht (fun q => kt q H locs la hP hD hS hl) (fun q => kf q H locs la hP hD hS hl)
theorem z_icmp_eq (hC : z_Cx p s m args c D dA A H0 own cc nL fl) {k n pc : Nat} {ls : List (Option Value)} {st : List Value} {sh : z_Sh} {h : z_H} {x y : Int32} {off : Int} (tgt : Nat) (hd : decode cc pc = .ok (.if_icmp .eq off, 3)) (ht : (pc : Int) + off = (tgt : Int)) (kt : x = y → z_Z p l e R s m args below meth c D dA A H0 nL ad Q k n tgt ls st sh h) (kf : ¬ x = y → z_Z p l e R s m args below meth c D dA A H0 nL ad Q k n (pc + 3) ls st sh h) : z_Z p l e R s m args below meth c D dA A H0 nL ad Q k n pc ls (.int y :: .int x :: st) sh h := fun H locs la hP hD hS hl => lv_icmp_eq hC.1 hC.2.1 hd ht (fun q => kt q H locs la hP hD hS hl) (fun q => kf q H locs la hP hD hS hl)
theorem z_icmp_ne (hC : z_Cx p s m args c D dA A H0 own cc nL fl) {k n pc : Nat} {ls : List (Option Value)} {st : List Value} {sh : z_Sh} {h : z_H} {x y : Int32} {off : Int} (tgt : Nat) (hd : decode cc pc = .ok (.if_icmp .ne off, 3)) (ht : (pc : Int) + off = (tgt : Int)) (kt : ¬ x = y → z_Z p l e R s m args below meth c D dA A H0 nL ad Q k n tgt ls st sh h) (kf : x = y → z_Z p l e R s m args below meth c D dA A H0 nL ad Q k n (pc + 3) ls st sh h) : z_Z p l e R s m args below meth c D dA A H0 nL ad Q k n pc ls (.int y :: .int x :: st) sh h := fun H locs la hP hD hS hl => lv_icmp_ne hC.1 hC.2.1 hd ht (fun q => kt q H locs la hP hD hS hl) (fun q => kf q H locs la hP hD hS hl)
theorem z_icmp_lt (hC : z_Cx p s m args c D dA A H0 own cc nL fl) {k n pc : Nat} {ls : List (Option Value)} {st : List Value} {sh : z_Sh} {h : z_H} {x y : Int32} {off : Int} (tgt : Nat) (hd : decode cc pc = .ok (.if_icmp .lt off, 3)) (ht : (pc : Int) + off = (tgt : Int)) (kt : x < y → z_Z p l e R s m args below meth c D dA A H0 nL ad Q k n tgt ls st sh h) (kf : ¬ x < y → z_Z p l e R s m args below meth c D dA A H0 nL ad Q k n (pc + 3) ls st sh h) : z_Z p l e R s m args below meth c D dA A H0 nL ad Q k n pc ls (.int y :: .int x :: st) sh h := fun H locs la hP hD hS hl => lv_icmp_lt hC.1 hC.2.1 hd ht (fun q => kt q H locs la hP hD hS hl) (fun q => kf q H locs la hP hD hS hl)
theorem z_icmp_ge (hC : z_Cx p s m args c D dA A H0 own cc nL fl) {k n pc : Nat} {ls : List (Option Value)} {st : List Value} {sh : z_Sh} {h : z_H} {x y : Int32} {off : Int} (tgt : Nat) (hd : decode cc pc = .ok (.if_icmp .ge off, 3)) (ht : (pc : Int) + off = (tgt : Int)) (kt : y ≤ x → z_Z p l e R s m args below meth c D dA A H0 nL ad Q k n tgt ls st sh h) (kf : ¬ y ≤ x → z_Z p l e R s m args below meth c D dA A H0 nL ad Q k n (pc + 3) ls st sh h) : z_Z p l e R s m args below meth c D dA A H0 nL ad Q k n pc ls (.int y :: .int x :: st) sh h := fun H locs la hP hD hS hl => lv_icmp_ge hC.1 hC.2.1 hd ht (fun q => kt q H locs la hP hD hS hl) (fun q => kf q H locs la hP hD hS hl)
theorem z_icmp_gt (hC : z_Cx p s m args c D dA A H0 own cc nL fl) {k n pc : Nat} {ls : List (Option Value)} {st : List Value} {sh : z_Sh} {h : z_H} {x y : Int32} {off : Int} (tgt : Nat) (hd : decode cc pc = .ok (.if_icmp .gt off, 3)) (ht : (pc : Int) + off = (tgt : Int)) (kt : y < x → z_Z p l e R s m args below meth c D dA A H0 nL ad Q k n tgt ls st sh h) (kf : ¬ y < x → z_Z p l e R s m args below meth c D dA A H0 nL ad Q k n (pc + 3) ls st sh h) : z_Z p l e R s m args below meth c D dA A H0 nL ad Q k n pc ls (.int y :: .int x :: st) sh h := fun H locs la hP hD hS hl => lv_icmp_gt hC.1 hC.2.1 hd ht (fun q => kt q H locs la hP hD hS hl) (fun q => kf q H locs la hP hD hS hl)
theorem z_icmp_le (hC : z_Cx p s m args c D dA A H0 own cc nL fl) {k n pc : Nat} {ls : List (Option Value)} {st : List Value} {sh : z_Sh} {h : z_H} {x y : Int32} {off : Int} (tgt : Nat) (hd : decode cc pc = .ok (.if_icmp .le off, 3)) (ht : (pc : Int) + off = (tgt : Int)) (kt : x ≤ y → z_Z p l e R s m args below meth c D dA A H0 nL ad Q k n tgt ls st sh h) (kf : ¬ x ≤ y → z_Z p l e R s m args below meth c D dA A H0 nL ad Q k n (pc + 3) ls st sh h) : z_Z p l e R s m args below meth c D dA A H0 nL ad Q k n pc ls (.int y :: .int x :: st) sh h := fun H locs la hP hD hS hl => lv_icmp_le hC.1 hC.2.1 hd ht (fun q => kt q H locs la hP hD hS hl) (fun q => kf q H locs la hP hD hS hl)
theorem z_goto (hC : z_Cx p s m args c D dA A H0 own cc nL fl) {k n pc : Nat} {ls : List (Option Value)} {st : List Value} {sh : z_Sh} {h : z_H} {off : Int} (tgt : Nat) (hd : decode cc pc = .ok (.goto off, 3)) (ht : (pc : Int) + off = (tgt : Int)) (kk : z_Z p l e R s m args below meth c D dA A H0 nL ad Q k n tgt ls st sh h) : z_Z p l e R s m args below meth c D dA A H0 nL ad Q k n pc ls st sh h := fun H locs la hP hD hS hl => lv_goto hC.1 hC.2.1 hd ht (kk H locs la hP hD hS hl)
theorem z_tabIn (hC : z_Cx p s m args c D dA A H0 own cc nL fl) {k n pc : Nat} {ls : List (Option Value)} {st : List Value} {sh : z_Sh} {h : z_H} {dflt lo hi : Int} {offs : Array Int} {len : Nat} {x : Int32} {off : Int} (tgt : Nat) (hd : decode cc pc = .ok (.tableswitch dflt lo hi offs, len)) (h1 : ¬ x.toInt < lo) (h2 : ¬ hi < x.toInt) (ho : offs[(x.toInt - lo).toNat]? = some off) (ht : (pc : Int) + off = (tgt : Int)) (kk : z_Z p l e R s m args below meth c D dA A H0 nL ad Q k n tgt ls st sh h) : z_Z p l e R s m args below meth c D dA A H0 nL ad Q k n pc ls (.int x :: st) sh h := fun H locs la hP hD hS hl => lv_tableIn hC.1 hC.2.1 hd h1 h2 ho ht (kk H locs la hP hD hS hl)
theorem z_tabOut (hC : z_Cx p s m args c D dA A H0 own cc nL fl) {k n pc : Nat} {ls : List (Option Value)} {st : List Value} {sh : z_Sh} {h : z_H} {dflt lo hi : Int} {offs : Array Int} {len : Nat} {x : Int32} (tgt : Nat) (hd : decode cc pc = .ok (.tableswitch dflt lo hi offs, len)) (h1 : x.toInt < lo ∨ hi < x.toInt) (ht : (pc : Int) + dflt = (tgt : Int)) (kk : z_Z p l e R s m args below meth c D dA A H0 nL ad Q k n tgt ls st sh h) : z_Z p l e R s m args below meth c D dA A H0 nL ad Q k n pc ls (.int x :: st) sh h := fun H locs la hP hD hS hl => lv_tableOut hC.1 hC.2.1 hd h1 ht (kk H locs la hP hD hS hl)
theorem z_ldcw (hC : z_Cx p s m args c D dA A H0 own cc nL fl) {k n pc : Nat} {ls : List (Option Value)} {st : List Value} {sh : z_Sh} {h : z_H} {idx : Nat} {v : Int32} (hw : Cond.constant own idx v ∈ z_big) (hd : decode cc pc = .ok (.ldc_w idx, 3)) (kk : z_Z p l e R s m args below meth c D dA A H0 nL ad Q k n (pc + 3) ls (.int v :: st) sh h) : z_Z p l e R s m args below meth c D dA A H0 nL ad Q k n pc ls st sh h := fun H locs la hP hD hS hl => lv_ldcw hC.1 hC.2.1 hC.2.2.2.1 (hC.2.2.2.2.1 _ hw) hd (kk H locs la hP hD hS hl)
theorem z_ldc (hC : z_Cx p s m args c D dA A H0 own cc nL fl) {k n pc : Nat} {ls : List (Option Value)} {st : List Value} {sh : z_Sh} {h : z_H} {idx : Nat} {v : Int32} (hw : Cond.constant own idx v ∈ z_big) (hd : decode cc pc = .ok (.ldc idx, 2)) (kk : z_Z p l e R s m args below meth c D dA A H0 nL ad Q k n (pc + 2) ls (.int v :: st) sh h) : z_Z p l e R s m args below meth c D dA A H0 nL ad Q k n pc ls st sh h := fun H locs la hP hD hS hl => lv_ldc hC.1 hC.2.1 hC.2.2.2.1 (hC.2.2.2.2.1 _ hw) hd (kk H locs la hP hD hS hl)
theorem z_ldc2 (hC : z_Cx p s m args c D dA A H0 own cc nL fl) {k n pc : Nat} {ls : List (Option Value)} {st : List Value} {sh : z_Sh} {h : z_H} {idx : Nat} {v : Int64} (hw : Cond.constantLong own idx v ∈ z_big) (hd : decode cc pc = .ok (.ldc2_w idx, 3)) (kk : z_Z p l e R s m args below meth c D dA A H0 nL ad Q k n (pc + 3) ls (.long v :: st) sh h) : z_Z p l e R s m args below meth c D dA A H0 nL ad Q k n pc ls st sh h := fun H locs la hP hD hS hl => lv_ldc2 hC.1 hC.2.1 hC.2.2.2.1 (hC.2.2.2.2.1 _ hw) hd (kk H locs la hP hD hS hl)
/-- what is known may be said otherwise, or forgotten -/
theorem z_eq {k n pc : Nat} {ls ls' : List (Option Value)} {st st' : List Value} {sh : z_Sh} {h h' : z_H} (h1 : ls = ls') (h2 : st = st') (h3 : h = h') (kk : z_Z p l e R s m args below meth c D dA A H0 nL ad Q k n pc ls' st' sh h') : z_Z p l e R s m args below meth c D dA A H0 nL ad Q k n pc ls st sh h := by
  subst h1; subst h2; subst h3; exact kk
def z_sub : List (Option Value) → List (Option Value) → Prop
  | [], [] => True
  | _ :: a, none :: b => z_sub a b
  | some v :: a, some w :: b => v = w ∧ z_sub a b
  | _, _ => False
theorem z_sub_len : ∀ (a b : List (Option Value)), z_sub a b → a.length = b.length
  | [], [], _ => rfl
  | [], none :: b, h => h.elim
  | [], some w :: b, h => h.elim
  | x :: a, none :: b, h => by
    have : z_sub a b := by cases x <;> exact h
    simp [z_sub_len a b this]
  | some v :: a, some w :: b, h => by simp [z_sub_len a b h.2]
  | none :: a, some w :: b, h => h.elim
  | x :: a, [], h => by cases x <;> exact h.elim
theorem z_sub_nth : ∀ (a b : List (Option Value)), z_sub a b → ∀ (j : Nat) (v : Value), z_nth b j = some (some v) → z_nth a j = some (some v)
  | [], [], _, j, v, hv => hv
  | [], none :: b, h, j, v, hv => h.elim
  | [], some w :: b, h, j, v, hv => h.elim
  | x :: a, none :: b, h, j, v, hv => by
    have h2 : z_sub a b := by cases x <;> exact h
    match j, hv with
    | j + 1, hv => exact z_sub_nth a b h2 j v hv
  | some u :: a, some w :: b, h, j, v, hv => by
    match j, hv with
    | 0, hv => rw [← hv, h.1]; rfl
    | j + 1, hv => exact z_sub_nth a b h.2 j v hv
  | none :: a, some w :: b, h, j, v, hv => h.elim
  | x :: a, [], h, j, v, hv => by cases x <;> exact h.elim
theorem z_lo_sub {nL : Nat} {a b : List (Option Value)} {la : Array Slot} (h : z_lo ad nL a la) (hs : z_sub a b) : z_lo ad nL b la := by
  refine ⟨by rw [← z_sub_len a b hs]; exact h.1, h.2.1, h.2.2.1, fun q hq => ?_⟩
  obtain ⟨j, v, h1, h2⟩ := (z_al_mem ad b 0 q).mp hq
  exact h.2.2.2 q ((z_al_mem ad a 0 q).mpr ⟨j, v, z_sub_nth a b hs j v h1, h2⟩)
/-- locals are forgotten -/
theorem z_less {k n pc : Nat} {ls ls' : List (Option Value)} {st : List Value} {sh : z_Sh} {h : z_H} (hs : z_sub ls ls') (kk : z_Z p l e R s m args below meth c D dA A H0 nL ad Q k n pc ls' st sh h) : z_Z p l e R s m args below meth c D dA A H0 nL ad Q k n pc ls st sh h := fun H locs la hP hD hS hl => kk H locs la hP hD hS (z_lo_sub hl hs)
theorem z_fun {k n pc : Nat} {ls : List (Option Value)} {rest : List Value} {sh : z_Sh} {h' g : z_H} {rv v : Option Value} (hq : rv = v ∧ h' = g) (kk : z_Z p l e R s m args below meth c D dA A H0 nL ad Q k n pc ls (v.toList ++ rest) sh g) : z_Z p l e R s m args below meth c D dA A H0 nL ad Q k n pc ls (rv.toList ++ rest) sh h' := by
  rw [hq.1, hq.2]
  exact kk
end ZR
end
section
/-! ===== contracts over abstract heaps, calls ===== -/
def z_mv : Cond → Bool
  | .methodLinkNest .. => true
  | .stringRef .. => true
  | .castable .. => true
  | .declares _ => true
  | _ => false
def z_nst : List Cond := lw_tbl.filter z_mv
def z_Nt (U : State) : Prop := ∀ w ∈ z_nst, w.before #[] U = true
theorem z_str {cls tx : String} {idx : Nat} {s : State} (h : (Cond.stringRef cls idx tx).before #[] s = true) : ∃ a, vk_R cls idx tx a s := by
  have hcur : ∃ cur, s.vm.findClass cls = some cur := by
    have h1 := h
    simp only [Cond.before, Cond.holds, Cond.value] at h1
    cases hc : s.vm.findClass cls with
    | none => simp [hc] at h1
    | some cur => exact ⟨cur, rfl⟩
  obtain ⟨cur, hcur⟩ := hcur
  obtain ⟨-, -, -, a, -, -, -, -, -, h2⟩ := Cond.stringRef_spec (args := #[]) (first := s) (o := none) (idx := []) hcur h
  exact ⟨a, h, h2⟩
theorem z_mv_warm {s U : State} (hW : s.WarmedH U.vm) {w : Cond} (hm : z_mv w = true) (h : w.before #[] s = true) : w.before #[] U = true := by
  cases w with
  | methodLinkNest a i x h2 => exact va_Nw.warmM hW h
  | castable C T => exact va_Nw.warmC hW h
  | declares x => exact va_Nw.warmD hW h
  | stringRef cls idx tx =>
    obtain ⟨a, ha⟩ := z_str h
    exact (vk_R.warm hW ha).1
  | _ => simp [z_mv] at hm
theorem z_mv_vm {u U : State} (hv : u.vm = U.vm) {w : Cond} (hm : z_mv w = true) (h : w.before #[] u = true) : w.before #[] U = true := by
  cases w with
  | methodLinkNest a i x h2 => exact va_Nw.same rfl hv h
  | castable C T => exact va_Nw.same rfl hv h
  | declares x => exact va_Nw.same rfl hv h
  | stringRef cls idx tx =>
    obtain ⟨a, ha⟩ := z_str h
    exact (vk_R.same hv.symm ha).1
  | _ => simp [z_mv] at hm
theorem z_nst_mv : ∀ w ∈ z_nst, z_mv w = true := fun _ h => (List.mem_filter.mp h).2
theorem z_Nt_warm {s U : State} (hW : s.WarmedH U.vm) (h : z_Nt s) : z_Nt U := fun w hw => z_mv_warm hW (z_nst_mv w hw) (h w hw)
theorem z_Nt_vm {u U : State} (hv : u.vm = U.vm) (h : z_Nt u) : z_Nt U := fun w hw => z_mv_vm hv (z_nst_mv w hw) (h w hw)
/-- which cells may change: those of the world, and those made since -/
def z_A (ad : Nat → Nat) (n sz : Nat) : Nat → Prop := fun q => (∃ i, i < n ∧ q = ad i) ∨ sz ≤ q
theorem z_wl_mem {dA : Nat → ClassId} {ad : Nat → Nat} {h : z_H} {sh : z_Sh} {k : Nat} {q : Nat × va_E} (hq : (z_wl dA ad h sh 0)[k]? = some q) : k < sh.length ∧ q.1 = ad k := by
  rw [z_wl_at] at hq
  cases hs : sh[k]? with
  | none => rw [hs] at hq; cases hq
  | some c =>
    rw [hs] at hq
    cases hq
    exact ⟨(List.getElem?_eq_some_iff.mp hs).1, rfl⟩
theorem z_D_self {dA : Nat → ClassId} {ad : Nat → Nat} {h : z_H} {sh : z_Sh} {A : Nat → Prop} {sz : Nat} (hD : va_D A (z_wl dA ad h sh 0)) : va_D (z_A ad sh.length sz) (z_wl dA ad h sh 0) :=
  ⟨hD.1, fun _ _ hq => Or.inl ⟨_, (z_wl_mem hq).1, (z_wl_mem hq).2⟩⟩
theorem z_D_heap {dA : Nat → ClassId} {ad : Nat → Nat} {h h' : z_H} {sh : z_Sh} {A : Nat → Prop} (hD : va_D A (z_wl dA ad h sh 0)) : va_D A (z_wl dA ad h' sh 0) := by
  have tr : ∀ (k : Nat) (q : Nat × va_E), (z_wl dA ad h' sh 0)[k]? = some q → ∃ q', (z_wl dA ad h sh 0)[k]? = some q' ∧ q'.1 = q.1 := by
    intro k q hq
    rw [z_wl_at] at hq
    cases hs : sh[k]? with
    | none => rw [hs] at hq; cases hq
    | some c =>
      rw [hs] at hq
      cases hq
      exact ⟨(ad k, z_ce dA ad c (h.1 k) (h.2 k)), by rw [z_wl_at, hs]; rfl, rfl⟩
  refine ⟨fun i j x y hx hy hxy => ?_, fun k q hq => ?_⟩
  · obtain ⟨x', h1, h2⟩ := tr i x hx
    obtain ⟨y', h3, h4⟩ := tr j y hy
    exact hD.1 i j x' y' h1 h3 (by rw [h2, h4, hxy])
  · obtain ⟨q', h1, h2⟩ := tr k q hq
    rw [← h2]
    exact hD.2 k q' h1
theorem z_D_in {dA : Nat → ClassId} {ad : Nat → Nat} {h : z_H} {sh : z_Sh} {A : Nat → Prop} (hD : va_D A (z_wl dA ad h sh 0)) {i : Nat} (hi : i < sh.length) : A (ad i) :=
  hD.2 i _ (by rw [z_wl_at, List.getElem?_eq_getElem hi]; rfl)
def z_Pc (D : va_G) (dA : Nat → ClassId) (ad : Nat → Nat) (sz : Nat) (as : List Value) (sh : z_Sh) (h : z_H) : Array Value → State → Prop := va_Pc (as.map (z_con ad)) (fun U => U.heap.size = sz ∧ va_P D vwCl (z_wl dA ad h sh 0) U.heap ∧ va_K D vwCl (z_tys dA) U ∧ va_D (fun _ => True) (z_wl dA ad h sh 0) ∧ z_Nt U)
theorem z_Pc_blind {D : va_G} {dA : Nat → ClassId} {ad : Nat → Nat} {sz : Nat} {as : List Value} {sh : z_Sh} {h : z_H} : FrameBlind (z_Pc D dA ad sz as sh h) := fun a U g mk q => by
  obtain ⟨q0, q1, qP, qK, qD, qN⟩ := q
  exact ⟨q0, q1, qP, va_K.moved (u := U) (U := U.calling g mk a) (Vm.Alike.refl U.vm) qK, qD, z_Nt_vm (u := U) (U := U.calling g mk a) rfl qN⟩
def z_Q (D : va_G) (dA : Nat → ClassId) (ad : Nat → Nat) (sz : Nat) (sh : z_Sh) (Φ : Option Value → z_H → Prop) : Array Value → State → Outcome → State → Prop := fun _ st o t => (∃ (rv : Option Value) (h' : z_H), o = .returned (rv.map (z_con ad)) ∧ Φ rv h' ∧ va_P D vwCl (z_wl dA ad h' sh 0) t.heap) ∧ va_F (z_A ad sh.length sz) st t
/-- THE CONTRACT: from the abstract heap h with these arguments the method comes back, with an answer and a heap of which Φ holds; d frames of room at most -/
def z_Sp (l : Launch) (d : Nat) (y : MethodName) (cc : ByteArray) (maxL : Nat) (ret : Option FieldType) (as : List Value) (sh : z_Sh) (h : z_H) (Φ : Option Value → z_H → Prop) : Prop :=
  ∀ (D : va_G) (dA : Nat → ClassId) (ad : Nat → Nat) (sz : Nat), Met l y (.code y cc maxL ret :: z_big) { frames := d, cells := 0, slots := 0, locals := 64 * d } (z_Pc D dA ad sz as sh h) (z_Q D dA ad sz sh Φ) 0 0 (z_A ad sh.length sz)
def z_el : List Value → List (Option Value)
  | [] => []
  | v :: r => match v.category with
    | 2 => some v :: none :: z_el r
    | _ => some v :: z_el r
def z_ent (nL : Nat) (as : List Value) : List (Option Value) := z_el as ++ List.replicate (nL - (z_el as).length) none
theorem z_al_none (ad : Nat → Nat) : ∀ (k i : Nat), z_al ad (List.replicate k none) i = []
  | 0, i => rfl
  | k + 1, i => by rw [List.replicate_succ]; exact z_al_none ad k (i + 1)
theorem z_al_el (ad : Nat → Nat) (k : Nat) : ∀ (as : List Value) (i : Nat), z_al ad (z_el as ++ List.replicate k none) i = lv_args i (as.map (z_con ad))
  | [], i => by simp [z_el, lv_args, z_al_none]
  | v :: r, i => by
    simp only [List.map_cons, lv_args, z_con_cat]
    unfold z_el
    split
    · rename_i hv
      simp only [List.cons_append, z_al, hv, if_true]
      rw [z_al_el ad k r (i + 1 + 1)]
    · rename_i hv
      have hv : ¬ v.category = 2 := fun e => hv e
      simp only [List.cons_append, z_al, hv, if_false]
      rw [z_al_el ad k r (i + 1)]
theorem z_el_len (ad : Nat → Nat) : ∀ (as : List Value), (lg_sl (as.map (z_con ad))).length = (z_el as).length
  | [] => rfl
  | v :: r => by
    have ih := z_el_len ad r
    unfold z_el
    simp only [lg_sl, List.map_cons, List.flatMap_cons, List.length_append, z_con_cat] at ih ⊢
    rw [ih]
    rcases lv_cat v with hv | hv
    · simp only [hv]
      simp; omega
    · simp only [hv]
      simp; omega
/-- the context of a contract's body -/
def z_B (p : Program) (R : Room) (s : State) (m : MethodId) (args : Array Value) (meth : Method) (c : Code) (D : va_G) (dA : Nat → ClassId) (A : Nat → Prop) (own : String) (cc : ByteArray) (nL : Nat) (fl : z_Fl) (d : Nat) (ret : Option FieldType) : Prop :=
  z_Cx p s m args c D dA A s.heap own cc nL fl ∧ z_Nt s ∧ (d ≤ R.frames ∧ 64 * d ≤ R.locals) ∧ meth.sig.returnType = ret ∧ meth.locks = false
set_option maxHeartbeats 1000000 in
theorem z_enter {l : Launch} {d : Nat} {y : MethodName} {cc : ByteArray} {maxL : Nat} {ret : Option FieldType} {as : List Value} {sh : z_Sh} {h : z_H} {Φ : Option Value → z_H → Prop} (fl : z_Fl) (hy : plainFor y = true) (hfl : z_fsok y.cls fl) (hlen : (z_el as).length ≤ maxL)
    (body : ∀ (p : Program) (e : Env) (R : Room) (s : State) (m : MethodId) (args : Array Value) (below : List Frame) (meth : Method) (c : Code) (D : va_G) (dA : Nat → ClassId) (ad : Nat → Nat), z_B p R s m args meth c D dA (z_A ad sh.length s.heap.size) y.cls cc maxL fl d ret → z_Z p l e R s m args below meth c D dA (z_A ad sh.length s.heap.size) s.heap maxL ad (MQ below (z_Q D dA ad s.heap.size sh Φ) args s 0 0 (z_A ad sh.length s.heap.size)) 0 0 0 (z_ent maxL as) [] sh h) :
    z_Sp l d y cc maxL ret as sh h Φ := by
  intro D dA ad sz
  refine va_MetF (cc := cc) (maxL := maxL) (ret := ret) hy rfl ?_
  intro p e s m args below meth c s₁ B hml hv
  obtain ⟨rfl, hsz, hP, hK, hD0, hN⟩ := hv
  subst hsz
  have hts := atoms_spec (ws := .code y cc maxL ret :: z_big) B.pre
  have hown : s.vm.findClass y.cls = some m.cls := findClass_of_methodNamed B.named
  rw [lg_entry_eq]
  have hl := lv_entry (as.map (z_con ad)) (n := maxL) (by rw [z_el_len]; exact hlen)
  refine body p e _ s m _ below meth c D dA ad ⟨⟨B.exec, B.bytes, hml, hown, fun w hw => hts w (List.mem_cons_of_mem _ hw), hK, fun q hq => Or.inr hq, hfl⟩, hN, ⟨Nat.le_refl _, Nat.le_refl _⟩, B.returns, B.notSynchronized⟩ s.heap [] _ hP (z_D_self hD0) va_S.rf ⟨?_, ?_⟩
  · unfold z_ent
    simp only [List.length_append, List.length_replicate]
    omega
  · unfold z_ent
    rw [z_al_el]
    exact hl
section ZC
variable {p : Program} {l : Launch} {e : Env} {R : Room} {s : State} {m : MethodId} {args : Array Value} {below : List Frame} {meth : Method} {c : Code} {D : va_G} {dA : Nat → ClassId} {A : Nat → Prop} {H0 : Heap} {nL : Nat} {ad : Nat → Nat} {Q : State → Prop} {own : String} {cc : ByteArray} {fl : z_Fl}
theorem z_ret_i {d sz n : Nat} {sh : z_Sh} {h : z_H} {Φ : Option Value → z_H → Prop} {pc : Nat} {ls : List (Option Value)} {v : Int32} (hB : z_B p R s m args meth c D dA (z_A ad n sz) own cc nL fl d (some .int)) (hn : n = sh.length) (hd : decode cc pc = .ok (.ireturn, 1)) (hΦ : Φ (some (.int v)) h) : z_Z p l e R s m args below meth c D dA (z_A ad n sz) s.heap nL ad (MQ below (z_Q D dA ad sz sh Φ) args s 0 0 (z_A ad n sz)) 0 0 pc ls [.int v] sh h := by
  subst hn
  exact fun H locs la hP hD hS hl => W.iret (v := v) hB.1.1 hB.1.2.1 hB.2.2.2.1 (fun t ht hW => ⟨⟨some (.int v), h, rfl, hΦ, by rw [ht]; exact hP⟩, hS.F ht⟩) hS.2.2 hd hB.2.2.2.2
theorem z_ret_z {d sz n : Nat} {sh : z_Sh} {h : z_H} {Φ : Option Value → z_H → Prop} {pc : Nat} {ls : List (Option Value)} {v : Int32} (hB : z_B p R s m args meth c D dA (z_A ad n sz) own cc nL fl d (some .boolean)) (hn : n = sh.length) (hv : v = 0 ∨ v = 1) (hd : decode cc pc = .ok (.ireturn, 1)) (hΦ : Φ (some (.int v)) h) : z_Z p l e R s m args below meth c D dA (z_A ad n sz) s.heap nL ad (MQ below (z_Q D dA ad sz sh Φ) args s 0 0 (z_A ad n sz)) 0 0 pc ls [.int v] sh h := by
  subst hn
  exact fun H locs la hP hD hS hl => W.zret (v := v) hB.1.1 hB.1.2.1 hB.2.2.2.1 (z_nar_b hv).1 (fun t ht hW => ⟨⟨some (.int v), h, rfl, hΦ, by rw [ht]; exact hP⟩, hS.F ht⟩) hS.2.2 hd hB.2.2.2.2
theorem z_ret_l {d sz n : Nat} {sh : z_Sh} {h : z_H} {Φ : Option Value → z_H → Prop} {pc : Nat} {ls : List (Option Value)} {v : Int64} (hB : z_B p R s m args meth c D dA (z_A ad n sz) own cc nL fl d (some .long)) (hn : n = sh.length) (hd : decode cc pc = .ok (.lreturn, 1)) (hΦ : Φ (some (.long v)) h) : z_Z p l e R s m args below meth c D dA (z_A ad n sz) s.heap nL ad (MQ below (z_Q D dA ad sz sh Φ) args s 0 0 (z_A ad n sz)) 0 0 pc ls [.long v] sh h := by
  subst hn
  exact fun H locs la hP hD hS hl => W.lret (v := v) hB.1.1 hB.1.2.1 hB.2.2.2.1 (fun t ht hW => ⟨⟨some (.long v), h, rfl, hΦ, by rw [ht]; exact hP⟩, hS.F ht⟩) hS.2.2 hd hB.2.2.2.2
theorem z_ret_v {d sz n : Nat} {sh : z_Sh} {h : z_H} {Φ : Option Value → z_H → Prop} {pc : Nat} {ls : List (Option Value)} (hB : z_B p R s m args meth c D dA (z_A ad n sz) own cc nL fl d none) (hn : n = sh.length) (hd : decode cc pc = .ok (.return_, 1)) (hΦ : Φ none h) : z_Z p l e R s m args below meth c D dA (z_A ad n sz) s.heap nL ad (MQ below (z_Q D dA ad sz sh Φ) args s 0 0 (z_A ad n sz)) 0 0 pc ls [] sh h := by
  subst hn
  exact fun H locs la hP hD hS hl => W.vret hB.1.1 hB.1.2.1 hB.2.2.2.1 (fun t ht hW => ⟨⟨none, h, rfl, hΦ, by rw [ht]; exact hP⟩, hS.F ht⟩) hS.2.2 hd hB.2.2.2.2
theorem z_A_in {h : z_H} {sh : z_Sh} {H : Heap} {locs : List Loc} (hA : ∀ q : Nat, H0.size ≤ q → A q) (hD : va_D A (z_wl dA ad h sh 0)) (hS : va_S A H0 H locs) : ∀ q, z_A ad sh.length H.size q → A q := fun q hq => by
  rcases hq with ⟨i, hi, rfl⟩ | hq
  · exact z_D_in hD hi
  · exact hA q (Nat.le_trans hS.1 hq)
set_option maxHeartbeats 1000000 in
theorem z_after {k n pc : Nat} {ls : List (Option Value)} {st0 : List Value} {rest : List Value} {sh : z_Sh} {h : z_H} {Φ : Option Value → z_H → Prop} {H : Heap} {locs : List Loc} {la : Array Slot} (hr : va_Run p l e R s m args below meth c H locs k n 0 0 (F0 m pc la st0) (rest.map (z_con ad)) (z_Q D dA ad H.size sh Φ args) (z_A ad sh.length H.size)) (hA : ∀ q : Nat, H0.size ≤ q → A q) (hD : va_D A (z_wl dA ad h sh 0)) (hS : va_S A H0 H locs) (hl : z_lo ad nL ls la)
    (kk : ∀ (rv : Option Value) (h' : z_H), Φ rv h' → z_Z p l e R s m args below meth c D dA A H0 nL ad Q k n (pc + 3) ls (rv.toList ++ rest) sh h') : W p l e R s m args below meth c H locs k n Q (F0 m pc la st0) := by
  intro T hT X
  obtain ⟨v, st₀, t, T', L, h0, X', hL, e1, e2, ⟨⟨rv, h', hv, hΦ, hP1⟩, hz, hk⟩, st⟩ := hr T hT X
  have hv : v = rv.map (z_con ad) := by injection hv
  subst hv
  rw [h0] at hz hk
  have hAA := z_A_in (ad := ad) (dA := dA) hA hD hS
  obtain ⟨t2, a1, b1⟩ := kk rv h' hΦ T'.heap (locs ++ L) la (by rw [e1]; exact hP1) (z_D_heap hD) ⟨Nat.le_trans hS.1 (by rw [e1]; exact hz), fun q h1 h2 => by rw [e1, hk q (Nat.lt_of_lt_of_le h1 hS.1) (fun z => h2 (hAA q z))]; exact hS.2.1 q h1 h2, fun q hq => by
      rcases List.mem_append.mp hq with h | h
      · exact hS.2.2 q h
      · exact hAA _ (hL q h)⟩ hl T' rfl X'
  refine ⟨t2, st t2 ?_, b1⟩
  have hst : (rv.toList ++ rest).map (z_con ad) = (rv.map (z_con ad)).toList ++ rest.map (z_con ad) := by
    cases rv <;> simp
  rw [hst] at a1
  exact a1
theorem z_good {w : Cond} (hw : w ∈ z_big) : GoodIn z_big (w :: z_big) := fun x hx => by
  have : x ∈ z_big := by
    rcases List.mem_cons.mp hx with rfl | h
    · exact hw
    · exact h
  exact ⟨this, good_of_word (z_big_good x this)⟩
/-- what a call's numbers must be: static -/
def z_okS (own : String) (idx : Nat) (y : MethodName) (cc : ByteArray) (maxL : Nat) (ret : Option FieldType) (n : Nat) : Prop :=
  (Cond.methodLink own idx y ∈ z_big ∧ Cond.static y ∈ z_big) ∧ Cond.initialized y.cls ∈ z_big ∧ Cond.code y cc maxL ret ∈ z_big ∧ (y.cls ≠ "java/lang/invoke/MethodHandle" ∧ y.cls ≠ "java/lang/invoke/VarHandle" ∧ (parseMethodDescriptor y.desc).map (fun d => d.parameters.length) = some n) ∧ maxL ≤ 45
def z_okSN (own host : String) (idx : Nat) (y : MethodName) (cc : ByteArray) (maxL : Nat) (ret : Option FieldType) (n : Nat) : Prop :=
  (Cond.methodLinkNest own idx y host ∈ z_nst ∧ Cond.static y ∈ z_big) ∧ Cond.initialized y.cls ∈ z_big ∧ Cond.code y cc maxL ret ∈ z_big ∧ (y.cls ≠ "java/lang/invoke/MethodHandle" ∧ y.cls ≠ "java/lang/invoke/VarHandle" ∧ (parseMethodDescriptor y.desc).map (fun d => d.parameters.length) = some n) ∧ maxL ≤ 45
def z_okV (own : String) (idx : Nat) (y : MethodName) (cc : ByteArray) (maxL : Nat) (ret : Option FieldType) (n : Nat) : Prop :=
  (Cond.methodLink own idx y ∈ z_big ∧ Cond.instanceMethod y ∈ z_big ∧ Cond.selects y.cls y y ∈ z_big) ∧ Cond.initialized y.cls ∈ z_big ∧ Cond.code y cc maxL ret ∈ z_big ∧ (y.cls ≠ "java/lang/invoke/MethodHandle" ∧ y.cls ≠ "java/lang/invoke/VarHandle" ∧ (parseMethodDescriptor y.desc).map (fun d => d.parameters.length) = some n) ∧ maxL ≤ 45
theorem z_rooms {R : Room} {d d' maxL : Nat} (hR : d ≤ R.frames ∧ 64 * d ≤ R.locals) (hd : d' + 1 ≤ d) (hm : maxL ≤ 45) : d' + 1 ≤ R.frames ∧ 8 + (maxL + 11) + 64 * d' ≤ R.locals := ⟨by omega, by omega⟩
theorem z_cats (ad : Nat → Nat) (rest : List Value) : ((rest.map (z_con ad)).map fun v => v.category).sum = (rest.map fun v => v.category).sum := by
  rw [List.map_map]
  congr 1
  exact List.map_congr_left (fun v _ => z_con_cat ad v)
set_option maxHeartbeats 1000000 in
theorem z_callS {y : MethodName} {cc' : ByteArray} {maxL idx na d d' k n pc : Nat} {ret : Option FieldType} {as rest : List Value} {ls : List (Option Value)} {st : List Value} {sh : z_Sh} {h : z_H} {Φ : Option Value → z_H → Prop} (hC : z_Cx p s m args c D dA A H0 own cc nL fl) (hN : z_Nt s) (hR : d ≤ R.frames ∧ 64 * d ≤ R.locals) (ok : z_okS own idx y cc' maxL ret na) (hdg : decode cc pc = .ok (.invokestatic idx, 3)) (hM : z_Sp l d' y cc' maxL ret as sh h Φ) (hd : d' + 1 ≤ d) (hn : as.length = na) (hst : st = as.reverse ++ rest) (hW : (rest.map fun v => v.category).sum ≤ 8) (hk : k ≤ R.cells ∧ n ≤ R.slots)
    (kk : ∀ (rv : Option Value) (h' : z_H), Φ rv h' → z_Z p l e R s m args below meth c D dA A H0 nL ad Q k n (pc + 3) ls (rv.toList ++ rest) sh h') : z_Z p l e R s m args below meth c D dA A H0 nL ad Q k n pc ls st sh h := by
  intro H locs la hP hD hS hl
  obtain ⟨hx, hb, hml, hown, hts, hK, hA, hfl⟩ := hC
  obtain ⟨⟨o1, o2⟩, o3, o4, o5, o6⟩ := ok
  subst hst
  have run := va_runS (e := e) (s := s) (R := R) (below := below) (meth := meth) (H := H) (locs := locs) (cells := k) (slots := n) (rest := rest.map (z_con ad)) (As := as.map (z_con ad)) (g := F0 m pc la ((as.reverse ++ rest).map (z_con ad))) ⟨hx, hb, hml, hown, hts⟩ (hM D dA ad H.size) ⟨callB_of na hts (z_good o4) rfl rfl rfl (hts _ o3) (hts _ o1) o5 (z_rooms hR hd o6), hts _ o2⟩ ⟨z_Pc_blind, fun U hU hW => ⟨rfl, by rw [hU], by rw [hU]; exact hP, va_K.moved hW.alike hK, hD.weaken (fun _ _ _ _ => trivial), z_Nt_warm hW hN⟩⟩ rfl (by rw [List.length_map]; exact hn) hl.2.1 (by simp) (lv_room (by rw [z_cats]; exact hW)) hdg ⟨hk.1, hk.2⟩
  exact z_after run hA hD hS hl kk
set_option maxHeartbeats 1000000 in
theorem z_callSN {y : MethodName} {host : String} {cc' : ByteArray} {maxL idx na d d' k n pc : Nat} {ret : Option FieldType} {as rest : List Value} {ls : List (Option Value)} {st : List Value} {sh : z_Sh} {h : z_H} {Φ : Option Value → z_H → Prop} (hC : z_Cx p s m args c D dA A H0 own cc nL fl) (hN : z_Nt s) (hR : d ≤ R.frames ∧ 64 * d ≤ R.locals) (ok : z_okSN own host idx y cc' maxL ret na) (hdg : decode cc pc = .ok (.invokestatic idx, 3)) (hM : z_Sp l d' y cc' maxL ret as sh h Φ) (hd : d' + 1 ≤ d) (hn : as.length = na) (hst : st = as.reverse ++ rest) (hW : (rest.map fun v => v.category).sum ≤ 8) (hk : k ≤ R.cells ∧ n ≤ R.slots)
    (kk : ∀ (rv : Option Value) (h' : z_H), Φ rv h' → z_Z p l e R s m args below meth c D dA A H0 nL ad Q k n (pc + 3) ls (rv.toList ++ rest) sh h') : z_Z p l e R s m args below meth c D dA A H0 nL ad Q k n pc ls st sh h := by
  intro H locs la hP hD hS hl
  obtain ⟨hx, hb, hml, hown, hts, hK, hA, hfl⟩ := hC
  obtain ⟨⟨o1, o2⟩, o3, o4, o5, o6⟩ := ok
  subst hst
  have run := va_runSN (e := e) (s := s) (R := R) (below := below) (meth := meth) (H := H) (locs := locs) (cells := k) (slots := n) (rest := rest.map (z_con ad)) (As := as.map (z_con ad)) (g := F0 m pc la ((as.reverse ++ rest).map (z_con ad))) ⟨hx, hb, hml, hown, hts⟩ (hM D dA ad H.size) ⟨va_cnB na hts (z_good o4) rfl rfl rfl (hN _ o1) (hts _ o3) o5 (z_rooms hR hd o6), hts _ o2, trivial⟩ ⟨z_Pc_blind, fun U hU hW => ⟨rfl, by rw [hU], by rw [hU]; exact hP, va_K.moved hW.alike hK, hD.weaken (fun _ _ _ _ => trivial), z_Nt_warm hW hN⟩⟩ rfl (by rw [List.length_map]; exact hn) hl.2.1 (by simp) (lv_room (by rw [z_cats]; exact hW)) hdg ⟨hk.1, hk.2⟩
  exact z_after run hA hD hS hl kk
set_option maxHeartbeats 1000000 in
theorem z_callV {y : MethodName} {cc' : ByteArray} {maxL idx na d d' k n pc o ci : Nat} {ks : List Nat} {T : u_T} {N : Nat} {ret : Option FieldType} {as rest : List Value} {ls : List (Option Value)} {st : List Value} {sh : z_Sh} {h : z_H} {Φ : Option Value → z_H → Prop} (hC : z_Cx p s m args c D dA A H0 own cc nL fl) (hN : z_Nt s) (hR : d ≤ R.frames ∧ 64 * d ≤ R.locals) (ok : z_okV own idx y cc' maxL ret na) (hdg : decode cc pc = .ok (.invokevirtual idx, 3)) (hM : z_Sp l d' y cc' maxL ret (.ref o :: as) sh h Φ) (hs : z_nth sh o = some (0, ci, ks)) (hcl : vwCl[ci]? = some (y.cls, T, N)) (hd : d' + 1 ≤ d) (hn : as.length = na) (hst : st = as.reverse ++ .ref o :: rest) (hW : (rest.map fun v => v.category).sum ≤ 8) (hk : k ≤ R.cells ∧ n ≤ R.slots)
    (kk : ∀ (rv : Option Value) (h' : z_H), Φ rv h' → z_Z p l e R s m args below meth c D dA A H0 nL ad Q k n (pc + 3) ls (rv.toList ++ rest) sh h') : z_Z p l e R s m args below meth c D dA A H0 nL ad Q k n pc ls st sh h := by
  intro H locs la hP hD hS hl
  obtain ⟨hx, hb, hml, hown, hts, hK, hA, hfl⟩ := hC
  obtain ⟨⟨o1, o2, o2'⟩, o3, o4, o5, o6⟩ := ok
  subst hst
  have run := va_runV (e := e) (s := s) (R := R) (below := below) (meth := meth) (H := H) (locs := locs) (cells := k) (slots := n) (rest := rest.map (z_con ad)) (As := as.map (z_con ad)) (b := ad o) (C := y.cls) (g := F0 m pc la ((as.reverse ++ .ref o :: rest).map (z_con ad))) ⟨hx, hb, hml, hown, hts⟩ (hM D dA ad H.size) ⟨callB_of na hts (z_good o4) rfl rfl rfl (hts _ o3) (hts _ o1) o5 (z_rooms hR hd o6), hts _ o2, hts _ o2'⟩ ⟨z_Pc_blind, va_recv hK hP hcl (z_wl_obj hs), fun U hU hW => ⟨rfl, by rw [hU], by rw [hU]; exact hP, va_K.moved hW.alike hK, hD.weaken (fun _ _ _ _ => trivial), z_Nt_warm hW hN⟩⟩ rfl (by rw [List.length_map]; exact hn) hl.2.1 (by simp [z_con]) (lv_room (by rw [z_cats]; exact hW)) hdg ⟨hk.1, hk.2⟩
  exact z_after run hA hD hS hl kk
end ZC
end
section
/-! ===== printed: shapes, field tables, the words of the calls ===== -/
abbrev shC : z_Sh := [(0, 7, [4, 7, 11, 13, 16, 17]), (0, 0, [5, 6, 0, 0]), (1, 12, []), (1, 9, []), (0, 2, [4, 8, 9, 10, 0]), (1, 36, []), (1, 36, []), (1, 36, []), (0, 3, [12, 0, 0]), (1, 64, []), (0, 6, [4, 11, 14, 15, 0, 0, 0, 1, 0]), (1, 64, []), (1, 64, []), (0, 5, [7, 11, 13]), (0, 4, [4, 11, 13, 18, 19, 21]), (1, 36, []), (0, 1, [20, 0]), (1, 1024, []), (0, 1, [22, 0]), (1, 1024, [])]
abbrev shD : z_Sh := [(0, 7, [24, 27, 31, 33, 36, 37]), (0, 0, [25, 26, 0, 0]), (1, 12, []), (1, 9, []), (0, 2, [24, 28, 29, 30, 0]), (1, 36, []), (1, 36, []), (1, 36, []), (0, 3, [32, 0, 0]), (1, 64, []), (0, 6, [24, 31, 34, 35, 0, 0, 0, 1, 0]), (1, 64, []), (1, 64, []), (0, 5, [27, 31, 33]), (0, 4, [24, 31, 33, 38, 39, 41]), (1, 36, []), (0, 1, [40, 0]), (1, 1024, []), (0, 1, [42, 0]), (1, 1024, [])]
abbrev z_c (ext : z_Sh) : z_Sh := shC ++ ext
abbrev z_d : z_Sh := shC ++ shD
def ft_X0 : z_Fl := [(9, 0, 0, 2), (15, 0, 1, 2), (22, 0, 2, 0), (34, 0, 3, 0)]
theorem fo_X0 : z_fsok RX0 ft_X0 := by unfold z_fsok; decide +kernel
def ft_X1 : z_Fl := [(11, 1, 0, 2), (15, 1, 1, 0)]
theorem fo_X1 : z_fsok RX1 ft_X1 := by unfold z_fsok; decide +kernel
def ft_X2 : z_Fl := [(9, 2, 1, 2), (15, 2, 2, 2), (18, 2, 3, 2), (21, 2, 0, 2), (25, 2, 4, 0)]
theorem fo_X2 : z_fsok RX2 ft_X2 := by unfold z_fsok; decide +kernel
def ft_X3 : z_Fl := [(11, 3, 0, 2), (15, 3, 2, 0), (19, 3, 1, 0)]
theorem fo_X3 : z_fsok RX3 ft_X3 := by unfold z_fsok; decide +kernel
def ft_X4 : z_Fl := [(9, 4, 3, 2), (18, 4, 4, 2), (22, 4, 5, 2), (25, 4, 0, 2), (29, 4, 1, 2), (33, 4, 2, 2)]
theorem fo_X4 : z_fsok RX4 ft_X4 := by unfold z_fsok; decide +kernel
def ft_X5 : z_Fl := [(9, 5, 0, 2), (15, 5, 1, 2), (19, 5, 2, 2)]
theorem fo_X5 : z_fsok RX5 ft_X5 := by unfold z_fsok; decide +kernel
def ft_X6 : z_Fl := [(11, 6, 2, 2), (15, 6, 3, 2), (18, 6, 0, 2), (22, 6, 1, 2), (26, 6, 5, 0), (34, 6, 8, 3), (38, 6, 6, 0), (41, 6, 4, 0), (48, 6, 7, 1)]
theorem fo_X6 : z_fsok RX6 ft_X6 := by unfold z_fsok; decide +kernel
def ft_X7 : z_Fl := [(10, 7, 0, 2), (21, 7, 1, 2), (28, 7, 2, 2), (37, 7, 3, 2), (46, 7, 4, 2), (55, 7, 5, 2)]
theorem fo_X7 : z_fsok RX7 ft_X7 := by unfold z_fsok; decide +kernel
def ft_L : z_Fl := []
theorem fo_L : z_fsok RL ft_L := by unfold z_fsok; decide +kernel
def ft_J6 : z_Fl := []
theorem fo_J6 : z_fsok RJ6 ft_J6 := by unfold z_fsok; decide +kernel
def ft_J9 : z_Fl := []
theorem fo_J9 : z_fsok RJ9 ft_J9 := by unfold z_fsok; decide +kernel
theorem z_nstT {w : Cond} (i : Nat) (h : tables_1[i]? = some w) (hg : z_mv w = true) : w ∈ z_nst := List.mem_filter.mpr ⟨List.mem_append_right _ (List.mem_of_getElem? h), hg⟩
theorem wi_0 : Cond.initialized RX7 ∈ z_big := z_bigT 1 (by decide +kernel) rfl
theorem wi_1 : Cond.code yX7_setWall cX7_setWall 4 (some .boolean) ∈ z_big := z_bigT 328 (by decide +kernel) rfl
theorem wi_2 : Cond.methodLink RL 8 yX7_setWall ∈ z_big := z_bigT 325 (by decide +kernel) rfl
theorem wi_3 : Cond.instanceMethod yX7_setWall ∈ z_big := z_bigT 326 (by decide +kernel) rfl
theorem wi_4 : Cond.selects RX7 yX7_setWall yX7_setWall ∈ z_big := z_bigT 327 (by decide +kernel) rfl
theorem ok_L_8 : z_okV RL 8 yX7_setWall cX7_setWall 4 (some .boolean) 2 := ⟨⟨wi_2, wi_3, wi_4⟩, wi_0, wi_1, ⟨by decide, by decide, by decide +kernel⟩, by decide⟩
theorem wi_5 : Cond.code yX7_setLink cX7_setLink 4 (some .int) ∈ z_big := z_bigT 437 (by decide +kernel) rfl
theorem wi_6 : Cond.methodLink RL 19 yX7_setLink ∈ z_big := z_bigT 434 (by decide +kernel) rfl
theorem wi_7 : Cond.instanceMethod yX7_setLink ∈ z_big := z_bigT 435 (by decide +kernel) rfl
theorem wi_8 : Cond.selects RX7 yX7_setLink yX7_setLink ∈ z_big := z_bigT 436 (by decide +kernel) rfl
theorem ok_L_19 : z_okV RL 19 yX7_setLink cX7_setLink 4 (some .int) 2 := ⟨⟨wi_6, wi_7, wi_8⟩, wi_0, wi_5, ⟨by decide, by decide, by decide +kernel⟩, by decide⟩
theorem wi_9 : Cond.code yX7_begin cX7_begin 3 none ∈ z_big := z_bigT 554 (by decide +kernel) rfl
theorem wi_10 : Cond.methodLink RL 25 yX7_begin ∈ z_big := z_bigT 551 (by decide +kernel) rfl
theorem wi_11 : Cond.instanceMethod yX7_begin ∈ z_big := z_bigT 552 (by decide +kernel) rfl
theorem wi_12 : Cond.selects RX7 yX7_begin yX7_begin ∈ z_big := z_bigT 553 (by decide +kernel) rfl
theorem ok_L_25 : z_okV RL 25 yX7_begin cX7_begin 3 none 2 := ⟨⟨wi_10, wi_11, wi_12⟩, wi_0, wi_9, ⟨by decide, by decide, by decide +kernel⟩, by decide⟩
theorem wi_13 : Cond.code yX7_end cX7_end 2 (some .int) ∈ z_big := z_bigT 471 (by decide +kernel) rfl
theorem wi_14 : Cond.methodLink RL 29 yX7_end ∈ z_big := z_bigT 468 (by decide +kernel) rfl
theorem wi_15 : Cond.instanceMethod yX7_end ∈ z_big := z_bigT 469 (by decide +kernel) rfl
theorem wi_16 : Cond.selects RX7 yX7_end yX7_end ∈ z_big := z_bigT 470 (by decide +kernel) rfl
theorem ok_L_29 : z_okV RL 29 yX7_end cX7_end 2 (some .int) 0 := ⟨⟨wi_14, wi_15, wi_16⟩, wi_0, wi_13, ⟨by decide, by decide, by decide +kernel⟩, by decide⟩
theorem wi_17 : Cond.code yX7_feed cX7_feed 2 (some .int) ∈ z_big := z_bigT 576 (by decide +kernel) rfl
theorem wi_18 : Cond.methodLink RL 33 yX7_feed ∈ z_big := z_bigT 573 (by decide +kernel) rfl
theorem wi_19 : Cond.instanceMethod yX7_feed ∈ z_big := z_bigT 574 (by decide +kernel) rfl
theorem wi_20 : Cond.selects RX7 yX7_feed yX7_feed ∈ z_big := z_bigT 575 (by decide +kernel) rfl
theorem ok_L_33 : z_okV RL 33 yX7_feed cX7_feed 2 (some .int) 1 := ⟨⟨wi_18, wi_19, wi_20⟩, wi_0, wi_17, ⟨by decide, by decide, by decide +kernel⟩, by decide⟩
theorem wi_21 : Cond.code yX7_step cX7_step 2 (some .int) ∈ z_big := z_bigT 593 (by decide +kernel) rfl
theorem wi_22 : Cond.methodLink RL 37 yX7_step ∈ z_big := z_bigT 590 (by decide +kernel) rfl
theorem wi_23 : Cond.instanceMethod yX7_step ∈ z_big := z_bigT 591 (by decide +kernel) rfl
theorem wi_24 : Cond.selects RX7 yX7_step yX7_step ∈ z_big := z_bigT 592 (by decide +kernel) rfl
theorem ok_L_37 : z_okV RL 37 yX7_step cX7_step 2 (some .int) 1 := ⟨⟨wi_22, wi_23, wi_24⟩, wi_0, wi_21, ⟨by decide, by decide, by decide +kernel⟩, by decide⟩
theorem wi_25 : Cond.code yX7_play cX7_play 4 (some .int) ∈ z_big := z_bigT 484 (by decide +kernel) rfl
theorem wi_26 : Cond.methodLink RL 40 yX7_play ∈ z_big := z_bigT 481 (by decide +kernel) rfl
theorem wi_27 : Cond.instanceMethod yX7_play ∈ z_big := z_bigT 482 (by decide +kernel) rfl
theorem wi_28 : Cond.selects RX7 yX7_play yX7_play ∈ z_big := z_bigT 483 (by decide +kernel) rfl
theorem ok_L_40 : z_okV RL 40 yX7_play cX7_play 4 (some .int) 1 := ⟨⟨wi_26, wi_27, wi_28⟩, wi_0, wi_25, ⟨by decide, by decide, by decide +kernel⟩, by decide⟩
theorem wi_29 : Cond.code yX7_placeOf cX7_placeOf 2 (some .int) ∈ z_big := z_bigT 643 (by decide +kernel) rfl
theorem wi_30 : Cond.methodLink RL 43 yX7_placeOf ∈ z_big := z_bigT 640 (by decide +kernel) rfl
theorem wi_31 : Cond.instanceMethod yX7_placeOf ∈ z_big := z_bigT 641 (by decide +kernel) rfl
theorem wi_32 : Cond.selects RX7 yX7_placeOf yX7_placeOf ∈ z_big := z_bigT 642 (by decide +kernel) rfl
theorem ok_L_43 : z_okV RL 43 yX7_placeOf cX7_placeOf 2 (some .int) 1 := ⟨⟨wi_30, wi_31, wi_32⟩, wi_0, wi_29, ⟨by decide, by decide, by decide +kernel⟩, by decide⟩
theorem wi_33 : Cond.code yX7_isAlive cX7_isAlive 1 (some .boolean) ∈ z_big := z_bigT 266 (by decide +kernel) rfl
theorem wi_34 : Cond.methodLink RL 60 yX7_isAlive ∈ z_big := z_bigT 263 (by decide +kernel) rfl
theorem wi_35 : Cond.instanceMethod yX7_isAlive ∈ z_big := z_bigT 264 (by decide +kernel) rfl
theorem wi_36 : Cond.selects RX7 yX7_isAlive yX7_isAlive ∈ z_big := z_bigT 265 (by decide +kernel) rfl
theorem ok_L_60 : z_okV RL 60 yX7_isAlive cX7_isAlive 1 (some .boolean) 0 := ⟨⟨wi_34, wi_35, wi_36⟩, wi_0, wi_33, ⟨by decide, by decide, by decide +kernel⟩, by decide⟩
theorem wi_37 : Cond.code yX7_length cX7_length 1 (some .int) ∈ z_big := z_bigT 569 (by decide +kernel) rfl
theorem wi_38 : Cond.methodLink RL 69 yX7_length ∈ z_big := z_bigT 566 (by decide +kernel) rfl
theorem wi_39 : Cond.instanceMethod yX7_length ∈ z_big := z_bigT 567 (by decide +kernel) rfl
theorem wi_40 : Cond.selects RX7 yX7_length yX7_length ∈ z_big := z_bigT 568 (by decide +kernel) rfl
theorem ok_L_69 : z_okV RL 69 yX7_length cX7_length 1 (some .int) 0 := ⟨⟨wi_38, wi_39, wi_40⟩, wi_0, wi_37, ⟨by decide, by decide, by decide +kernel⟩, by decide⟩
theorem wi_41 : Cond.code yX7_owed cX7_owed 1 (some .int) ∈ z_big := z_bigT 608 (by decide +kernel) rfl
theorem wi_42 : Cond.methodLink RL 76 yX7_owed ∈ z_big := z_bigT 605 (by decide +kernel) rfl
theorem wi_43 : Cond.instanceMethod yX7_owed ∈ z_big := z_bigT 606 (by decide +kernel) rfl
theorem wi_44 : Cond.selects RX7 yX7_owed yX7_owed ∈ z_big := z_bigT 607 (by decide +kernel) rfl
theorem ok_L_76 : z_okV RL 76 yX7_owed cX7_owed 1 (some .int) 0 := ⟨⟨wi_42, wi_43, wi_44⟩, wi_0, wi_41, ⟨by decide, by decide, by decide +kernel⟩, by decide⟩
theorem wi_45 : Cond.code yX7_feeds cX7_feeds 1 (some .int) ∈ z_big := z_bigT 613 (by decide +kernel) rfl
theorem wi_46 : Cond.methodLink RL 79 yX7_feeds ∈ z_big := z_bigT 610 (by decide +kernel) rfl
theorem wi_47 : Cond.instanceMethod yX7_feeds ∈ z_big := z_bigT 611 (by decide +kernel) rfl
theorem wi_48 : Cond.selects RX7 yX7_feeds yX7_feeds ∈ z_big := z_bigT 612 (by decide +kernel) rfl
theorem ok_L_79 : z_okV RL 79 yX7_feeds cX7_feeds 1 (some .int) 0 := ⟨⟨wi_46, wi_47, wi_48⟩, wi_0, wi_45, ⟨by decide, by decide, by decide +kernel⟩, by decide⟩
theorem wi_49 : Cond.code yX7_hasCycle cX7_hasCycle 1 (some .boolean) ∈ z_big := z_bigT 617 (by decide +kernel) rfl
theorem wi_50 : Cond.methodLink RL 82 yX7_hasCycle ∈ z_big := z_bigT 614 (by decide +kernel) rfl
theorem wi_51 : Cond.instanceMethod yX7_hasCycle ∈ z_big := z_bigT 615 (by decide +kernel) rfl
theorem wi_52 : Cond.selects RX7 yX7_hasCycle yX7_hasCycle ∈ z_big := z_bigT 616 (by decide +kernel) rfl
theorem ok_L_82 : z_okV RL 82 yX7_hasCycle cX7_hasCycle 1 (some .boolean) 0 := ⟨⟨wi_50, wi_51, wi_52⟩, wi_0, wi_49, ⟨by decide, by decide, by decide +kernel⟩, by decide⟩
theorem wi_53 : Cond.code yX7_isInOrder cX7_isInOrder 1 (some .boolean) ∈ z_big := z_bigT 278 (by decide +kernel) rfl
theorem wi_54 : Cond.methodLink RL 85 yX7_isInOrder ∈ z_big := z_bigT 275 (by decide +kernel) rfl
theorem wi_55 : Cond.instanceMethod yX7_isInOrder ∈ z_big := z_bigT 276 (by decide +kernel) rfl
theorem wi_56 : Cond.selects RX7 yX7_isInOrder yX7_isInOrder ∈ z_big := z_bigT 277 (by decide +kernel) rfl
theorem ok_L_85 : z_okV RL 85 yX7_isInOrder cX7_isInOrder 1 (some .boolean) 0 := ⟨⟨wi_54, wi_55, wi_56⟩, wi_0, wi_53, ⟨by decide, by decide, by decide +kernel⟩, by decide⟩
theorem wi_57 : Cond.code yX7_bodyAt cX7_bodyAt 2 (some .int) ∈ z_big := z_bigT 622 (by decide +kernel) rfl
theorem wi_58 : Cond.methodLink RL 88 yX7_bodyAt ∈ z_big := z_bigT 619 (by decide +kernel) rfl
theorem wi_59 : Cond.instanceMethod yX7_bodyAt ∈ z_big := z_bigT 620 (by decide +kernel) rfl
theorem wi_60 : Cond.selects RX7 yX7_bodyAt yX7_bodyAt ∈ z_big := z_bigT 621 (by decide +kernel) rfl
theorem ok_L_88 : z_okV RL 88 yX7_bodyAt cX7_bodyAt 2 (some .int) 1 := ⟨⟨wi_58, wi_59, wi_60⟩, wi_0, wi_57, ⟨by decide, by decide, by decide +kernel⟩, by decide⟩
theorem wi_61 : Cond.code yX7_isInTree cX7_isInTree 2 (some .boolean) ∈ z_big := z_bigT 628 (by decide +kernel) rfl
theorem wi_62 : Cond.methodLink RL 91 yX7_isInTree ∈ z_big := z_bigT 625 (by decide +kernel) rfl
theorem wi_63 : Cond.instanceMethod yX7_isInTree ∈ z_big := z_bigT 626 (by decide +kernel) rfl
theorem wi_64 : Cond.selects RX7 yX7_isInTree yX7_isInTree ∈ z_big := z_bigT 627 (by decide +kernel) rfl
theorem ok_L_91 : z_okV RL 91 yX7_isInTree cX7_isInTree 2 (some .boolean) 1 := ⟨⟨wi_62, wi_63, wi_64⟩, wi_0, wi_61, ⟨by decide, by decide, by decide +kernel⟩, by decide⟩
theorem wi_65 : Cond.code yX7_isWall cX7_isWall 2 (some .boolean) ∈ z_big := z_bigT 633 (by decide +kernel) rfl
theorem wi_66 : Cond.methodLink RL 95 yX7_isWall ∈ z_big := z_bigT 630 (by decide +kernel) rfl
theorem wi_67 : Cond.instanceMethod yX7_isWall ∈ z_big := z_bigT 631 (by decide +kernel) rfl
theorem wi_68 : Cond.selects RX7 yX7_isWall yX7_isWall ∈ z_big := z_bigT 632 (by decide +kernel) rfl
theorem ok_L_95 : z_okV RL 95 yX7_isWall cX7_isWall 2 (some .boolean) 1 := ⟨⟨wi_66, wi_67, wi_68⟩, wi_0, wi_65, ⟨by decide, by decide, by decide +kernel⟩, by decide⟩
theorem wi_69 : Cond.code yX7_cellAt cX7_cellAt 2 (some .int) ∈ z_big := z_bigT 656 (by decide +kernel) rfl
theorem wi_70 : Cond.methodLink RL 100 yX7_cellAt ∈ z_big := z_bigT 653 (by decide +kernel) rfl
theorem wi_71 : Cond.instanceMethod yX7_cellAt ∈ z_big := z_bigT 654 (by decide +kernel) rfl
theorem wi_72 : Cond.selects RX7 yX7_cellAt yX7_cellAt ∈ z_big := z_bigT 655 (by decide +kernel) rfl
theorem ok_L_100 : z_okV RL 100 yX7_cellAt cX7_cellAt 2 (some .int) 1 := ⟨⟨wi_70, wi_71, wi_72⟩, wi_0, wi_69, ⟨by decide, by decide, by decide +kernel⟩, by decide⟩
theorem wi_73 : Cond.code yX7_cellAtByRings cX7_cellAtByRings 2 (some .int) ∈ z_big := z_bigT 669 (by decide +kernel) rfl
theorem wi_74 : Cond.methodLink RL 103 yX7_cellAtByRings ∈ z_big := z_bigT 666 (by decide +kernel) rfl
theorem wi_75 : Cond.instanceMethod yX7_cellAtByRings ∈ z_big := z_bigT 667 (by decide +kernel) rfl
theorem wi_76 : Cond.selects RX7 yX7_cellAtByRings yX7_cellAtByRings ∈ z_big := z_bigT 668 (by decide +kernel) rfl
theorem ok_L_103 : z_okV RL 103 yX7_cellAtByRings cX7_cellAtByRings 2 (some .int) 1 := ⟨⟨wi_74, wi_75, wi_76⟩, wi_0, wi_73, ⟨by decide, by decide, by decide +kernel⟩, by decide⟩
theorem wi_77 : Cond.code yX7_reach cX7_reach 1 (some .int) ∈ z_big := z_bigT 695 (by decide +kernel) rfl
theorem wi_78 : Cond.methodLink RL 110 yX7_reach ∈ z_big := z_bigT 692 (by decide +kernel) rfl
theorem wi_79 : Cond.instanceMethod yX7_reach ∈ z_big := z_bigT 693 (by decide +kernel) rfl
theorem wi_80 : Cond.selects RX7 yX7_reach yX7_reach ∈ z_big := z_bigT 694 (by decide +kernel) rfl
theorem ok_L_110 : z_okV RL 110 yX7_reach cX7_reach 1 (some .int) 0 := ⟨⟨wi_78, wi_79, wi_80⟩, wi_0, wi_77, ⟨by decide, by decide, by decide +kernel⟩, by decide⟩
theorem wi_81 : Cond.code yX7_livesFor cX7_livesFor 2 (some .int) ∈ z_big := z_bigT 714 (by decide +kernel) rfl
theorem wi_82 : Cond.methodLink RL 113 yX7_livesFor ∈ z_big := z_bigT 711 (by decide +kernel) rfl
theorem wi_83 : Cond.instanceMethod yX7_livesFor ∈ z_big := z_bigT 712 (by decide +kernel) rfl
theorem wi_84 : Cond.selects RX7 yX7_livesFor yX7_livesFor ∈ z_big := z_bigT 713 (by decide +kernel) rfl
theorem ok_L_113 : z_okV RL 113 yX7_livesFor cX7_livesFor 2 (some .int) 1 := ⟨⟨wi_82, wi_83, wi_84⟩, wi_0, wi_81, ⟨by decide, by decide, by decide +kernel⟩, by decide⟩
theorem wi_85 : Cond.code yX7_fewest cX7_fewest 1 (some .int) ∈ z_big := z_bigT 730 (by decide +kernel) rfl
theorem wi_86 : Cond.methodLink RL 116 yX7_fewest ∈ z_big := z_bigT 727 (by decide +kernel) rfl
theorem wi_87 : Cond.instanceMethod yX7_fewest ∈ z_big := z_bigT 728 (by decide +kernel) rfl
theorem wi_88 : Cond.selects RX7 yX7_fewest yX7_fewest ∈ z_big := z_bigT 729 (by decide +kernel) rfl
theorem ok_L_116 : z_okV RL 116 yX7_fewest cX7_fewest 1 (some .int) 0 := ⟨⟨wi_86, wi_87, wi_88⟩, wi_0, wi_85, ⟨by decide, by decide, by decide +kernel⟩, by decide⟩
theorem wi_89 : Cond.code yX7_fewestByBodies cX7_fewestByBodies 1 (some .int) ∈ z_big := z_bigT 743 (by decide +kernel) rfl
theorem wi_90 : Cond.methodLink RL 119 yX7_fewestByBodies ∈ z_big := z_bigT 740 (by decide +kernel) rfl
theorem wi_91 : Cond.instanceMethod yX7_fewestByBodies ∈ z_big := z_bigT 741 (by decide +kernel) rfl
theorem wi_92 : Cond.selects RX7 yX7_fewestByBodies yX7_fewestByBodies ∈ z_big := z_bigT 742 (by decide +kernel) rfl
theorem ok_L_119 : z_okV RL 119 yX7_fewestByBodies cX7_fewestByBodies 1 (some .int) 0 := ⟨⟨wi_90, wi_91, wi_92⟩, wi_0, wi_89, ⟨by decide, by decide, by decide +kernel⟩, by decide⟩
theorem wi_93 : Cond.code yX7_isSafe cX7_isSafe 2 (some .boolean) ∈ z_big := z_bigT 788 (by decide +kernel) rfl
theorem wi_94 : Cond.methodLink RL 122 yX7_isSafe ∈ z_big := z_bigT 785 (by decide +kernel) rfl
theorem wi_95 : Cond.instanceMethod yX7_isSafe ∈ z_big := z_bigT 786 (by decide +kernel) rfl
theorem wi_96 : Cond.selects RX7 yX7_isSafe yX7_isSafe ∈ z_big := z_bigT 787 (by decide +kernel) rfl
theorem ok_L_122 : z_okV RL 122 yX7_isSafe cX7_isSafe 2 (some .boolean) 1 := ⟨⟨wi_94, wi_95, wi_96⟩, wi_0, wi_93, ⟨by decide, by decide, by decide +kernel⟩, by decide⟩
theorem wi_97 : Cond.code yX7_init cX7_init 1 none ∈ z_big := z_bigT 21 (by decide +kernel) rfl
theorem wi_98 : Cond.initialized RX0 ∈ z_big := z_bigT 2 (by decide +kernel) rfl
theorem wi_99 : Cond.code yX0_firstBlockOf cX0_firstBlockOf 1 (some .int) ∈ z_big := z_bigT 192 (by decide +kernel) rfl
theorem wi_100 : Cond.static yX0_firstBlockOf ∈ z_big := z_bigT 191 (by decide +kernel) rfl
theorem wi_101 : Cond.methodLink RX0 18 yX0_firstBlockOf ∈ z_big := z_bigT 190 (by decide +kernel) rfl
theorem ok_X0_18 : z_okS RX0 18 yX0_firstBlockOf cX0_firstBlockOf 1 (some .int) 1 := ⟨⟨wi_101, wi_100⟩, wi_98, wi_99, ⟨by decide, by decide, by decide +kernel⟩, by decide⟩
theorem wi_102 : Cond.code yX7_at cX7_at 2 (some .int) ∈ z_big := z_bigT 185 (by decide +kernel) rfl
theorem wi_103 : Cond.static yX7_at ∈ z_big := z_bigT 184 (by decide +kernel) rfl
theorem wi_104 : Cond.methodLinkNest RX0 26 yX7_at "Coilworm" ∈ z_nst := z_nstT 183 (by decide +kernel) rfl
theorem ok_X0_26 : z_okSN RX0 "Coilworm" 26 yX7_at cX7_at 2 (some .int) 2 := ⟨⟨wi_104, wi_103⟩, wi_0, wi_102, ⟨by decide, by decide, by decide +kernel⟩, by decide⟩
theorem wi_105 : Cond.code yX7_put cX7_put 3 none ∈ z_big := z_bigT 223 (by decide +kernel) rfl
theorem wi_106 : Cond.static yX7_put ∈ z_big := z_bigT 222 (by decide +kernel) rfl
theorem wi_107 : Cond.methodLinkNest RX0 30 yX7_put "Coilworm" ∈ z_nst := z_nstT 464 (by decide +kernel) rfl
theorem ok_X0_30 : z_okSN RX0 "Coilworm" 30 yX7_put cX7_put 3 none 3 := ⟨⟨wi_107, wi_106⟩, wi_0, wi_105, ⟨by decide, by decide, by decide +kernel⟩, by decide⟩
theorem wi_108 : Cond.code yX0_cellBeside cX0_cellBeside 3 (some .int) ∈ z_big := z_bigT 243 (by decide +kernel) rfl
theorem wi_109 : Cond.static yX0_cellBeside ∈ z_big := z_bigT 242 (by decide +kernel) rfl
theorem wi_110 : Cond.methodLink RX0 37 yX0_cellBeside ∈ z_big := z_bigT 513 (by decide +kernel) rfl
theorem ok_X0_37 : z_okS RX0 37 yX0_cellBeside cX0_cellBeside 3 (some .int) 2 := ⟨⟨wi_110, wi_109⟩, wi_98, wi_108, ⟨by decide, by decide, by decide +kernel⟩, by decide⟩
theorem wi_111 : Cond.code yX0_blockOf cX0_blockOf 3 (some .int) ∈ z_big := z_bigT 233 (by decide +kernel) rfl
theorem wi_112 : Cond.static yX0_blockOf ∈ z_big := z_bigT 232 (by decide +kernel) rfl
theorem wi_113 : Cond.methodLink RX0 41 yX0_blockOf ∈ z_big := z_bigT 514 (by decide +kernel) rfl
theorem ok_X0_41 : z_okS RX0 41 yX0_blockOf cX0_blockOf 3 (some .int) 1 := ⟨⟨wi_113, wi_112⟩, wi_98, wi_111, ⟨by decide, by decide, by decide +kernel⟩, by decide⟩
theorem wi_114 : Cond.code yX0_hasWallOn cX0_hasWallOn 2 (some .boolean) ∈ z_big := z_bigT 199 (by decide +kernel) rfl
theorem wi_115 : Cond.methodLink RX0 44 yX0_hasWallOn ∈ z_big := z_bigT 196 (by decide +kernel) rfl
theorem wi_116 : Cond.instanceMethod yX0_hasWallOn ∈ z_big := z_bigT 197 (by decide +kernel) rfl
theorem wi_117 : Cond.selects RX0 yX0_hasWallOn yX0_hasWallOn ∈ z_big := z_bigT 198 (by decide +kernel) rfl
theorem ok_X0_44 : z_okV RX0 44 yX0_hasWallOn cX0_hasWallOn 2 (some .boolean) 1 := ⟨⟨wi_115, wi_116, wi_117⟩, wi_98, wi_114, ⟨by decide, by decide, by decide +kernel⟩, by decide⟩
theorem wi_118 : Cond.code yX0_linkOutOf cX0_linkOutOf 4 (some .int) ∈ z_big := z_bigT 236 (by decide +kernel) rfl
theorem wi_119 : Cond.static yX0_linkOutOf ∈ z_big := z_bigT 235 (by decide +kernel) rfl
theorem wi_120 : Cond.methodLink RX0 48 yX0_linkOutOf ∈ z_big := z_bigT 515 (by decide +kernel) rfl
theorem ok_X0_48 : z_okS RX0 48 yX0_linkOutOf cX0_linkOutOf 4 (some .int) 2 := ⟨⟨wi_120, wi_119⟩, wi_98, wi_118, ⟨by decide, by decide, by decide +kernel⟩, by decide⟩
theorem wi_121 : Cond.code yX0_weightOf cX0_weightOf 2 (some .int) ∈ z_big := z_bigT 182 (by decide +kernel) rfl
theorem wi_122 : Cond.methodLink RX0 51 yX0_weightOf ∈ z_big := z_bigT 179 (by decide +kernel) rfl
theorem wi_123 : Cond.instanceMethod yX0_weightOf ∈ z_big := z_bigT 180 (by decide +kernel) rfl
theorem wi_124 : Cond.selects RX0 yX0_weightOf yX0_weightOf ∈ z_big := z_bigT 181 (by decide +kernel) rfl
theorem ok_X0_51 : z_okV RX0 51 yX0_weightOf cX0_weightOf 2 (some .int) 1 := ⟨⟨wi_122, wi_123, wi_124⟩, wi_98, wi_121, ⟨by decide, by decide, by decide +kernel⟩, by decide⟩
theorem wi_125 : Cond.code yX0_joinBy cX0_joinBy 7 none ∈ z_big := z_bigT 189 (by decide +kernel) rfl
theorem wi_126 : Cond.methodLink RX0 54 yX0_joinBy ∈ z_big := z_bigT 186 (by decide +kernel) rfl
theorem wi_127 : Cond.instanceMethod yX0_joinBy ∈ z_big := z_bigT 188 (by decide +kernel) rfl
theorem wi_128 : Cond.selects RX0 yX0_joinBy yX0_joinBy ∈ z_big := z_bigP (y := yX0_joinBy) (n := 4) 0 (by decide +kernel)
theorem ok_X0_54 : z_okV RX0 54 yX0_joinBy cX0_joinBy 7 none 1 := ⟨⟨wi_126, wi_127, wi_128⟩, wi_98, wi_125, ⟨by decide, by decide, by decide +kernel⟩, by decide⟩
theorem wi_129 : Cond.code yX0_secondBlockOf cX0_secondBlockOf 1 (some .int) ∈ z_big := z_bigT 195 (by decide +kernel) rfl
theorem wi_130 : Cond.static yX0_secondBlockOf ∈ z_big := z_bigT 194 (by decide +kernel) rfl
theorem wi_131 : Cond.methodLink RX0 58 yX0_secondBlockOf ∈ z_big := z_bigT 193 (by decide +kernel) rfl
theorem ok_X0_58 : z_okS RX0 58 yX0_secondBlockOf cX0_secondBlockOf 1 (some .int) 1 := ⟨⟨wi_131, wi_130⟩, wi_98, wi_129, ⟨by decide, by decide, by decide +kernel⟩, by decide⟩
theorem wi_132 : Cond.initialized RJ6 ∈ z_big := z_bigT 9 (by decide +kernel) rfl
theorem wi_133 : Cond.code yJ6_bitCount_0f7a4 cJ6_bitCount_0f7a4 1 (some .int) ∈ z_big := z_bigT 210 (by decide +kernel) rfl
theorem wi_134 : Cond.static yJ6_bitCount_0f7a4 ∈ z_big := z_bigT 209 (by decide +kernel) rfl
theorem wi_135 : Cond.methodLink RX0 61 yJ6_bitCount_0f7a4 ∈ z_big := z_bigT 208 (by decide +kernel) rfl
theorem ok_X0_61 : z_okS RX0 61 yJ6_bitCount_0f7a4 cJ6_bitCount_0f7a4 1 (some .int) 1 := ⟨⟨wi_135, wi_134⟩, wi_132, wi_133, ⟨by decide, by decide, by decide +kernel⟩, by decide⟩
theorem wi_136 : Cond.code yX0_upperLeftOf cX0_upperLeftOf 3 (some .int) ∈ z_big := z_bigT 220 (by decide +kernel) rfl
theorem wi_137 : Cond.static yX0_upperLeftOf ∈ z_big := z_bigT 219 (by decide +kernel) rfl
theorem wi_138 : Cond.methodLink RX0 66 yX0_upperLeftOf ∈ z_big := z_bigT 218 (by decide +kernel) rfl
theorem ok_X0_66 : z_okS RX0 66 yX0_upperLeftOf cX0_upperLeftOf 3 (some .int) 1 := ⟨⟨wi_138, wi_137⟩, wi_98, wi_136, ⟨by decide, by decide, by decide +kernel⟩, by decide⟩
theorem wi_139 : Cond.methodLinkNest RX1 19 yX7_at "Coilworm" ∈ z_nst := z_nstT 769 (by decide +kernel) rfl
theorem ok_X1_19 : z_okSN RX1 "Coilworm" 19 yX7_at cX7_at 2 (some .int) 2 := ⟨⟨wi_139, wi_103⟩, wi_0, wi_102, ⟨by decide, by decide, by decide +kernel⟩, by decide⟩
theorem wi_140 : Cond.methodLinkNest RX1 23 yX7_put "Coilworm" ∈ z_nst := z_nstT 752 (by decide +kernel) rfl
theorem ok_X1_23 : z_okSN RX1 "Coilworm" 23 yX7_put cX7_put 3 none 3 := ⟨⟨wi_140, wi_106⟩, wi_0, wi_105, ⟨by decide, by decide, by decide +kernel⟩, by decide⟩
theorem wi_141 : Cond.methodLinkNest RX2 29 yX7_at "Coilworm" ∈ z_nst := z_nstT 305 (by decide +kernel) rfl
theorem ok_X2_29 : z_okSN RX2 "Coilworm" 29 yX7_at cX7_at 2 (some .int) 2 := ⟨⟨wi_141, wi_103⟩, wi_0, wi_102, ⟨by decide, by decide, by decide +kernel⟩, by decide⟩
theorem wi_142 : Cond.code yX0_growTree cX0_growTree 3 none ∈ z_big := z_bigT 178 (by decide +kernel) rfl
theorem wi_143 : Cond.methodLink RX2 33 yX0_growTree ∈ z_big := z_bigT 175 (by decide +kernel) rfl
theorem wi_144 : Cond.instanceMethod yX0_growTree ∈ z_big := z_bigT 176 (by decide +kernel) rfl
theorem wi_145 : Cond.selects RX0 yX0_growTree yX0_growTree ∈ z_big := z_bigT 177 (by decide +kernel) rfl
theorem ok_X2_33 : z_okV RX2 33 yX0_growTree cX0_growTree 3 none 0 := ⟨⟨wi_143, wi_144, wi_145⟩, wi_98, wi_142, ⟨by decide, by decide, by decide +kernel⟩, by decide⟩
theorem wi_146 : Cond.code yX0_isJoinedWhole cX0_isJoinedWhole 3 (some .boolean) ∈ z_big := z_bigT 203 (by decide +kernel) rfl
theorem wi_147 : Cond.methodLink RX2 38 yX0_isJoinedWhole ∈ z_big := z_bigT 200 (by decide +kernel) rfl
theorem wi_148 : Cond.instanceMethod yX0_isJoinedWhole ∈ z_big := z_bigT 201 (by decide +kernel) rfl
theorem wi_149 : Cond.selects RX0 yX0_isJoinedWhole yX0_isJoinedWhole ∈ z_big := z_bigT 202 (by decide +kernel) rfl
theorem ok_X2_38 : z_okV RX2 38 yX0_isJoinedWhole cX0_isJoinedWhole 3 (some .boolean) 0 := ⟨⟨wi_147, wi_148, wi_149⟩, wi_98, wi_146, ⟨by decide, by decide, by decide +kernel⟩, by decide⟩
theorem wi_150 : Cond.code yX0_countOpenCells cX0_countOpenCells 1 (some .int) ∈ z_big := z_bigT 207 (by decide +kernel) rfl
theorem wi_151 : Cond.methodLink RX2 42 yX0_countOpenCells ∈ z_big := z_bigT 204 (by decide +kernel) rfl
theorem wi_152 : Cond.instanceMethod yX0_countOpenCells ∈ z_big := z_bigT 205 (by decide +kernel) rfl
theorem wi_153 : Cond.selects RX0 yX0_countOpenCells yX0_countOpenCells ∈ z_big := z_bigT 206 (by decide +kernel) rfl
theorem ok_X2_42 : z_okV RX2 42 yX0_countOpenCells cX0_countOpenCells 1 (some .int) 0 := ⟨⟨wi_151, wi_152, wi_153⟩, wi_98, wi_150, ⟨by decide, by decide, by decide +kernel⟩, by decide⟩
theorem wi_154 : Cond.code yX0_lowestOpenCell cX0_lowestOpenCell 2 (some .int) ∈ z_big := z_bigT 217 (by decide +kernel) rfl
theorem wi_155 : Cond.methodLink RX2 46 yX0_lowestOpenCell ∈ z_big := z_bigT 214 (by decide +kernel) rfl
theorem wi_156 : Cond.instanceMethod yX0_lowestOpenCell ∈ z_big := z_bigT 215 (by decide +kernel) rfl
theorem wi_157 : Cond.selects RX0 yX0_lowestOpenCell yX0_lowestOpenCell ∈ z_big := z_bigT 216 (by decide +kernel) rfl
theorem ok_X2_46 : z_okV RX2 46 yX0_lowestOpenCell cX0_lowestOpenCell 2 (some .int) 0 := ⟨⟨wi_155, wi_156, wi_157⟩, wi_98, wi_154, ⟨by decide, by decide, by decide +kernel⟩, by decide⟩
theorem wi_158 : Cond.methodLinkNest RX2 49 yX7_put "Coilworm" ∈ z_nst := z_nstT 221 (by decide +kernel) rfl
theorem ok_X2_49 : z_okSN RX2 "Coilworm" 49 yX7_put cX7_put 3 none 3 := ⟨⟨wi_158, wi_106⟩, wi_0, wi_105, ⟨by decide, by decide, by decide +kernel⟩, by decide⟩
theorem wi_159 : Cond.initialized RX2 ∈ z_big := z_bigT 3 (by decide +kernel) rfl
theorem wi_160 : Cond.code yX2_nextRoundTree cX2_nextRoundTree 4 (some .int) ∈ z_big := z_bigT 227 (by decide +kernel) rfl
theorem wi_161 : Cond.methodLink RX2 53 yX2_nextRoundTree ∈ z_big := z_bigT 224 (by decide +kernel) rfl
theorem wi_162 : Cond.instanceMethod yX2_nextRoundTree ∈ z_big := z_bigT 226 (by decide +kernel) rfl
theorem wi_163 : Cond.selects RX2 yX2_nextRoundTree yX2_nextRoundTree ∈ z_big := z_bigP (y := yX2_nextRoundTree) (n := 5) 1 (by decide +kernel)
theorem ok_X2_53 : z_okV RX2 53 yX2_nextRoundTree cX2_nextRoundTree 4 (some .int) 1 := ⟨⟨wi_161, wi_162, wi_163⟩, wi_159, wi_160, ⟨by decide, by decide, by decide +kernel⟩, by decide⟩
theorem wi_164 : Cond.code yX2_cornerOf cX2_cornerOf 3 (some .int) ∈ z_big := z_bigT 230 (by decide +kernel) rfl
theorem wi_165 : Cond.static yX2_cornerOf ∈ z_big := z_bigT 229 (by decide +kernel) rfl
theorem wi_166 : Cond.methodLink RX2 57 yX2_cornerOf ∈ z_big := z_bigT 228 (by decide +kernel) rfl
theorem ok_X2_57 : z_okS RX2 57 yX2_cornerOf cX2_cornerOf 3 (some .int) 1 := ⟨⟨wi_166, wi_165⟩, wi_159, wi_164, ⟨by decide, by decide, by decide +kernel⟩, by decide⟩
theorem wi_167 : Cond.methodLink RX2 60 yX0_blockOf ∈ z_big := z_bigT 231 (by decide +kernel) rfl
theorem ok_X2_60 : z_okS RX2 60 yX0_blockOf cX0_blockOf 3 (some .int) 1 := ⟨⟨wi_167, wi_112⟩, wi_98, wi_111, ⟨by decide, by decide, by decide +kernel⟩, by decide⟩
theorem wi_168 : Cond.methodLink RX2 63 yX0_linkOutOf ∈ z_big := z_bigT 234 (by decide +kernel) rfl
theorem ok_X2_63 : z_okS RX2 63 yX0_linkOutOf cX0_linkOutOf 4 (some .int) 2 := ⟨⟨wi_168, wi_119⟩, wi_98, wi_118, ⟨by decide, by decide, by decide +kernel⟩, by decide⟩
theorem wi_169 : Cond.code yX0_treeHas cX0_treeHas 2 (some .boolean) ∈ z_big := z_bigT 240 (by decide +kernel) rfl
theorem wi_170 : Cond.methodLink RX2 67 yX0_treeHas ∈ z_big := z_bigT 237 (by decide +kernel) rfl
theorem wi_171 : Cond.instanceMethod yX0_treeHas ∈ z_big := z_bigT 238 (by decide +kernel) rfl
theorem wi_172 : Cond.selects RX0 yX0_treeHas yX0_treeHas ∈ z_big := z_bigT 239 (by decide +kernel) rfl
theorem ok_X2_67 : z_okV RX2 67 yX0_treeHas cX0_treeHas 2 (some .boolean) 1 := ⟨⟨wi_170, wi_171, wi_172⟩, wi_98, wi_169, ⟨by decide, by decide, by decide +kernel⟩, by decide⟩
theorem wi_173 : Cond.methodLink RX2 71 yX0_cellBeside ∈ z_big := z_bigT 241 (by decide +kernel) rfl
theorem ok_X2_71 : z_okS RX2 71 yX0_cellBeside cX0_cellBeside 3 (some .int) 2 := ⟨⟨wi_173, wi_109⟩, wi_98, wi_108, ⟨by decide, by decide, by decide +kernel⟩, by decide⟩
theorem wi_174 : Cond.methodLink RX2 74 yX0_hasWallOn ∈ z_big := z_bigT 674 (by decide +kernel) rfl
theorem ok_X2_74 : z_okV RX2 74 yX0_hasWallOn cX0_hasWallOn 2 (some .boolean) 1 := ⟨⟨wi_174, wi_116, wi_117⟩, wi_98, wi_114, ⟨by decide, by decide, by decide +kernel⟩, by decide⟩
theorem wi_175 : Cond.methodLink RX2 77 yX0_upperLeftOf ∈ z_big := z_bigT 675 (by decide +kernel) rfl
theorem ok_X2_77 : z_okS RX2 77 yX0_upperLeftOf cX0_upperLeftOf 3 (some .int) 1 := ⟨⟨wi_175, wi_137⟩, wi_98, wi_136, ⟨by decide, by decide, by decide +kernel⟩, by decide⟩
theorem wi_176 : Cond.code yX2_makeRing cX2_makeRing 5 none ∈ z_big := z_bigT 679 (by decide +kernel) rfl
theorem wi_177 : Cond.methodLink RX2 80 yX2_makeRing ∈ z_big := z_bigT 676 (by decide +kernel) rfl
theorem wi_178 : Cond.instanceMethod yX2_makeRing ∈ z_big := z_bigT 678 (by decide +kernel) rfl
theorem wi_179 : Cond.selects RX2 yX2_makeRing yX2_makeRing ∈ z_big := z_bigP (y := yX2_makeRing) (n := 5) 8 (by decide +kernel)
theorem ok_X2_80 : z_okV RX2 80 yX2_makeRing cX2_makeRing 5 none 1 := ⟨⟨wi_177, wi_178, wi_179⟩, wi_159, wi_176, ⟨by decide, by decide, by decide +kernel⟩, by decide⟩
theorem wi_180 : Cond.code yX2_makeOneOfTwo cX2_makeOneOfTwo 8 none ∈ z_big := z_bigT 683 (by decide +kernel) rfl
theorem wi_181 : Cond.methodLink RX2 84 yX2_makeOneOfTwo ∈ z_big := z_bigT 680 (by decide +kernel) rfl
theorem wi_182 : Cond.instanceMethod yX2_makeOneOfTwo ∈ z_big := z_bigT 682 (by decide +kernel) rfl
theorem wi_183 : Cond.selects RX2 yX2_makeOneOfTwo yX2_makeOneOfTwo ∈ z_big := z_bigP (y := yX2_makeOneOfTwo) (n := 5) 9 (by decide +kernel)
theorem ok_X2_84 : z_okV RX2 84 yX2_makeOneOfTwo cX2_makeOneOfTwo 8 none 1 := ⟨⟨wi_181, wi_182, wi_183⟩, wi_159, wi_180, ⟨by decide, by decide, by decide +kernel⟩, by decide⟩
theorem wi_184 : Cond.methodLink RX2 87 yX0_firstBlockOf ∈ z_big := z_bigT 684 (by decide +kernel) rfl
theorem ok_X2_87 : z_okS RX2 87 yX0_firstBlockOf cX0_firstBlockOf 1 (some .int) 1 := ⟨⟨wi_184, wi_100⟩, wi_98, wi_99, ⟨by decide, by decide, by decide +kernel⟩, by decide⟩
theorem wi_185 : Cond.methodLink RX2 90 yX0_secondBlockOf ∈ z_big := z_bigT 685 (by decide +kernel) rfl
theorem ok_X2_90 : z_okS RX2 90 yX0_secondBlockOf cX0_secondBlockOf 1 (some .int) 1 := ⟨⟨wi_185, wi_130⟩, wi_98, wi_129, ⟨by decide, by decide, by decide +kernel⟩, by decide⟩
theorem wi_186 : Cond.methodLinkNest RX3 22 yX7_at "Coilworm" ∈ z_nst := z_nstT 406 (by decide +kernel) rfl
theorem ok_X3_22 : z_okSN RX3 "Coilworm" 22 yX7_at cX7_at 2 (some .int) 2 := ⟨⟨wi_186, wi_103⟩, wi_0, wi_102, ⟨by decide, by decide, by decide +kernel⟩, by decide⟩
theorem wi_187 : Cond.initialized RX3 ∈ z_big := z_bigT 4 (by decide +kernel) rfl
theorem wi_188 : Cond.code yX3_cellAfter cX3_cellAfter 2 (some .int) ∈ z_big := z_bigT 405 (by decide +kernel) rfl
theorem wi_189 : Cond.methodLink RX3 26 yX3_cellAfter ∈ z_big := z_bigT 402 (by decide +kernel) rfl
theorem wi_190 : Cond.instanceMethod yX3_cellAfter ∈ z_big := z_bigT 404 (by decide +kernel) rfl
theorem wi_191 : Cond.selects RX3 yX3_cellAfter yX3_cellAfter ∈ z_big := z_bigP (y := yX3_cellAfter) (n := 3) 4 (by decide +kernel)
theorem ok_X3_26 : z_okV RX3 26 yX3_cellAfter cX3_cellAfter 2 (some .int) 1 := ⟨⟨wi_189, wi_190, wi_191⟩, wi_187, wi_188, ⟨by decide, by decide, by decide +kernel⟩, by decide⟩
theorem wi_192 : Cond.methodLink RX3 30 yX0_blockOf ∈ z_big := z_bigT 407 (by decide +kernel) rfl
theorem ok_X3_30 : z_okS RX3 30 yX0_blockOf cX0_blockOf 3 (some .int) 1 := ⟨⟨wi_192, wi_112⟩, wi_98, wi_111, ⟨by decide, by decide, by decide +kernel⟩, by decide⟩
theorem wi_193 : Cond.methodLinkNest RX3 35 yX7_put "Coilworm" ∈ z_nst := z_nstT 586 (by decide +kernel) rfl
theorem ok_X3_35 : z_okSN RX3 "Coilworm" 35 yX7_put cX7_put 3 none 3 := ⟨⟨wi_193, wi_106⟩, wi_0, wi_105, ⟨by decide, by decide, by decide +kernel⟩, by decide⟩
theorem wi_194 : Cond.initialized RX1 ∈ z_big := z_bigT 8 (by decide +kernel) rfl
theorem wi_195 : Cond.code yX1_init cX1_init 1 none ∈ z_big := z_bigT 143 (by decide +kernel) rfl
theorem wi_196 : Cond.initialized RX6 ∈ z_big := z_bigT 5 (by decide +kernel) rfl
theorem wi_197 : Cond.code yX6_isThere cX6_isThere 1 (some .boolean) ∈ z_big := z_bigT 274 (by decide +kernel) rfl
theorem wi_198 : Cond.methodLink RX4 37 yX6_isThere ∈ z_big := z_bigT 700 (by decide +kernel) rfl
theorem wi_199 : Cond.instanceMethod yX6_isThere ∈ z_big := z_bigT 272 (by decide +kernel) rfl
theorem wi_200 : Cond.selects RX6 yX6_isThere yX6_isThere ∈ z_big := z_bigT 273 (by decide +kernel) rfl
theorem ok_X4_37 : z_okV RX4 37 yX6_isThere cX6_isThere 1 (some .boolean) 0 := ⟨⟨wi_198, wi_199, wi_200⟩, wi_196, wi_197, ⟨by decide, by decide, by decide +kernel⟩, by decide⟩
theorem wi_201 : Cond.code yX6_cellOf cX6_cellOf 2 (some .int) ∈ z_big := z_bigT 299 (by decide +kernel) rfl
theorem wi_202 : Cond.methodLink RX4 43 yX6_cellOf ∈ z_big := z_bigT 701 (by decide +kernel) rfl
theorem wi_203 : Cond.instanceMethod yX6_cellOf ∈ z_big := z_bigT 297 (by decide +kernel) rfl
theorem wi_204 : Cond.selects RX6 yX6_cellOf yX6_cellOf ∈ z_big := z_bigT 298 (by decide +kernel) rfl
theorem ok_X4_43 : z_okV RX4 43 yX6_cellOf cX6_cellOf 2 (some .int) 1 := ⟨⟨wi_202, wi_203, wi_204⟩, wi_196, wi_201, ⟨by decide, by decide, by decide +kernel⟩, by decide⟩
theorem wi_205 : Cond.methodLinkNest RX4 47 yX7_put "Coilworm" ∈ z_nst := z_nstT 702 (by decide +kernel) rfl
theorem ok_X4_47 : z_okSN RX4 "Coilworm" 47 yX7_put cX7_put 3 none 3 := ⟨⟨wi_205, wi_106⟩, wi_0, wi_105, ⟨by decide, by decide, by decide +kernel⟩, by decide⟩
theorem wi_206 : Cond.code yX7_setOf cX7_setOf 1 (some .long) ∈ z_big := z_bigT 518 (by decide +kernel) rfl
theorem wi_207 : Cond.static yX7_setOf ∈ z_big := z_bigT 517 (by decide +kernel) rfl
theorem wi_208 : Cond.methodLinkNest RX4 51 yX7_setOf "Coilworm" ∈ z_nst := z_nstT 703 (by decide +kernel) rfl
theorem ok_X4_51 : z_okSN RX4 "Coilworm" 51 yX7_setOf cX7_setOf 1 (some .long) 1 := ⟨⟨wi_208, wi_207⟩, wi_0, wi_206, ⟨by decide, by decide, by decide +kernel⟩, by decide⟩
theorem wi_209 : Cond.methodLinkNest RX4 55 yX7_at "Coilworm" ∈ z_nst := z_nstT 704 (by decide +kernel) rfl
theorem ok_X4_55 : z_okSN RX4 "Coilworm" 55 yX7_at cX7_at 2 (some .int) 2 := ⟨⟨wi_209, wi_103⟩, wi_0, wi_102, ⟨by decide, by decide, by decide +kernel⟩, by decide⟩
theorem wi_210 : Cond.code yX0_goFrom cX0_goFrom 4 (some .int) ∈ z_big := z_bigT 512 (by decide +kernel) rfl
theorem wi_211 : Cond.methodLink RX4 59 yX0_goFrom ∈ z_big := z_bigT 705 (by decide +kernel) rfl
theorem wi_212 : Cond.instanceMethod yX0_goFrom ∈ z_big := z_bigT 510 (by decide +kernel) rfl
theorem wi_213 : Cond.selects RX0 yX0_goFrom yX0_goFrom ∈ z_big := z_bigT 511 (by decide +kernel) rfl
theorem ok_X4_59 : z_okV RX4 59 yX0_goFrom cX0_goFrom 4 (some .int) 2 := ⟨⟨wi_211, wi_212, wi_213⟩, wi_98, wi_210, ⟨by decide, by decide, by decide +kernel⟩, by decide⟩
theorem wi_214 : Cond.code yX7_isIn cX7_isIn 3 (some .boolean) ∈ z_big := z_bigT 522 (by decide +kernel) rfl
theorem wi_215 : Cond.static yX7_isIn ∈ z_big := z_bigT 521 (by decide +kernel) rfl
theorem wi_216 : Cond.methodLinkNest RX4 65 yX7_isIn "Coilworm" ∈ z_nst := z_nstT 706 (by decide +kernel) rfl
theorem ok_X4_65 : z_okSN RX4 "Coilworm" 65 yX7_isIn cX7_isIn 3 (some .boolean) 2 := ⟨⟨wi_216, wi_215⟩, wi_0, wi_214, ⟨by decide, by decide, by decide +kernel⟩, by decide⟩
theorem wi_217 : Cond.code yX6_isOn cX6_isOn 2 (some .boolean) ∈ z_big := z_bigT 710 (by decide +kernel) rfl
theorem wi_218 : Cond.methodLink RX4 69 yX6_isOn ∈ z_big := z_bigT 707 (by decide +kernel) rfl
theorem wi_219 : Cond.instanceMethod yX6_isOn ∈ z_big := z_bigT 708 (by decide +kernel) rfl
theorem wi_220 : Cond.selects RX6 yX6_isOn yX6_isOn ∈ z_big := z_bigT 709 (by decide +kernel) rfl
theorem ok_X4_69 : z_okV RX4 69 yX6_isOn cX6_isOn 2 (some .boolean) 1 := ⟨⟨wi_218, wi_219, wi_220⟩, wi_196, wi_217, ⟨by decide, by decide, by decide +kernel⟩, by decide⟩
theorem wi_221 : Cond.initialized RX4 ∈ z_big := z_bigT 7 (by decide +kernel) rfl
theorem wi_222 : Cond.code yX4_longestFrom cX4_longestFrom 4 (some .int) ∈ z_big := z_bigT 721 (by decide +kernel) rfl
theorem wi_223 : Cond.static yX4_longestFrom ∈ z_big := z_bigT 720 (by decide +kernel) rfl
theorem wi_224 : Cond.methodLink RX4 73 yX4_longestFrom ∈ z_big := z_bigT 719 (by decide +kernel) rfl
theorem ok_X4_73 : z_okS RX4 73 yX4_longestFrom cX4_longestFrom 4 (some .int) 2 := ⟨⟨wi_224, wi_223⟩, wi_221, wi_222, ⟨by decide, by decide, by decide +kernel⟩, by decide⟩
theorem wi_225 : Cond.code yX6_advance cX6_advance 7 (some .boolean) ∈ z_big := z_bigT 507 (by decide +kernel) rfl
theorem wi_226 : Cond.methodLink RX4 77 yX6_advance ∈ z_big := z_bigT 722 (by decide +kernel) rfl
theorem wi_227 : Cond.instanceMethod yX6_advance ∈ z_big := z_bigT 505 (by decide +kernel) rfl
theorem wi_228 : Cond.selects RX6 yX6_advance yX6_advance ∈ z_big := z_bigT 506 (by decide +kernel) rfl
theorem ok_X4_77 : z_okV RX4 77 yX6_advance cX6_advance 7 (some .boolean) 1 := ⟨⟨wi_226, wi_227, wi_228⟩, wi_196, wi_225, ⟨by decide, by decide, by decide +kernel⟩, by decide⟩
theorem wi_229 : Cond.initialized RJ9 ∈ z_big := z_bigT 16 (by decide +kernel) rfl
theorem wi_230 : Cond.code yJ9_max_7cf53 cJ9_max_7cf53 2 (some .int) ∈ z_big := z_bigT 725 (by decide +kernel) rfl
theorem wi_231 : Cond.static yJ9_max_7cf53 ∈ z_big := z_bigT 724 (by decide +kernel) rfl
theorem wi_232 : Cond.methodLink RX4 80 yJ9_max_7cf53 ∈ z_big := z_bigT 723 (by decide +kernel) rfl
theorem ok_X4_80 : z_okS RX4 80 yJ9_max_7cf53 cJ9_max_7cf53 2 (some .int) 2 := ⟨⟨wi_232, wi_231⟩, wi_229, wi_230, ⟨by decide, by decide, by decide +kernel⟩, by decide⟩
theorem wi_233 : Cond.code yX6_takeBack cX6_takeBack 2 none ∈ z_big := z_bigT 537 (by decide +kernel) rfl
theorem wi_234 : Cond.methodLink RX4 85 yX6_takeBack ∈ z_big := z_bigT 726 (by decide +kernel) rfl
theorem wi_235 : Cond.instanceMethod yX6_takeBack ∈ z_big := z_bigT 535 (by decide +kernel) rfl
theorem wi_236 : Cond.selects RX6 yX6_takeBack yX6_takeBack ∈ z_big := z_bigT 536 (by decide +kernel) rfl
theorem ok_X4_85 : z_okV RX4 85 yX6_takeBack cX6_takeBack 2 none 0 := ⟨⟨wi_234, wi_235, wi_236⟩, wi_196, wi_233, ⟨by decide, by decide, by decide +kernel⟩, by decide⟩
theorem wi_237 : Cond.code yX3_size cX3_size 1 (some .int) ∈ z_big := z_bigT 580 (by decide +kernel) rfl
theorem wi_238 : Cond.methodLink RX4 88 yX3_size ∈ z_big := z_bigT 735 (by decide +kernel) rfl
theorem wi_239 : Cond.instanceMethod yX3_size ∈ z_big := z_bigT 578 (by decide +kernel) rfl
theorem wi_240 : Cond.selects RX3 yX3_size yX3_size ∈ z_big := z_bigT 579 (by decide +kernel) rfl
theorem ok_X4_88 : z_okV RX4 88 yX3_size cX3_size 1 (some .int) 0 := ⟨⟨wi_238, wi_239, wi_240⟩, wi_187, wi_237, ⟨by decide, by decide, by decide +kernel⟩, by decide⟩
theorem wi_241 : Cond.code yX4_eatsWithin cX4_eatsWithin 4 (some .boolean) ∈ z_big := z_bigT 738 (by decide +kernel) rfl
theorem wi_242 : Cond.static yX4_eatsWithin ∈ z_big := z_bigT 737 (by decide +kernel) rfl
theorem wi_243 : Cond.methodLink RX4 94 yX4_eatsWithin ∈ z_big := z_bigT 736 (by decide +kernel) rfl
theorem ok_X4_94 : z_okS RX4 94 yX4_eatsWithin cX4_eatsWithin 4 (some .boolean) 2 := ⟨⟨wi_243, wi_242⟩, wi_221, wi_241, ⟨by decide, by decide, by decide +kernel⟩, by decide⟩
theorem wi_244 : Cond.code yX6_hasJustEaten cX6_hasJustEaten 1 (some .boolean) ∈ z_big := z_bigT 541 (by decide +kernel) rfl
theorem wi_245 : Cond.methodLink RX4 98 yX6_hasJustEaten ∈ z_big := z_bigT 739 (by decide +kernel) rfl
theorem wi_246 : Cond.instanceMethod yX6_hasJustEaten ∈ z_big := z_bigT 539 (by decide +kernel) rfl
theorem wi_247 : Cond.selects RX6 yX6_hasJustEaten yX6_hasJustEaten ∈ z_big := z_bigT 540 (by decide +kernel) rfl
theorem ok_X4_98 : z_okV RX4 98 yX6_hasJustEaten cX6_hasJustEaten 1 (some .boolean) 0 := ⟨⟨wi_245, wi_246, wi_247⟩, wi_196, wi_244, ⟨by decide, by decide, by decide +kernel⟩, by decide⟩
theorem wi_248 : Cond.code yX1_holdFirstAlone cX1_holdFirstAlone 1 none ∈ z_big := z_bigT 751 (by decide +kernel) rfl
theorem wi_249 : Cond.methodLink RX4 101 yX1_holdFirstAlone ∈ z_big := z_bigT 748 (by decide +kernel) rfl
theorem wi_250 : Cond.instanceMethod yX1_holdFirstAlone ∈ z_big := z_bigT 749 (by decide +kernel) rfl
theorem wi_251 : Cond.selects RX1 yX1_holdFirstAlone yX1_holdFirstAlone ∈ z_big := z_bigT 750 (by decide +kernel) rfl
theorem ok_X4_101 : z_okV RX4 101 yX1_holdFirstAlone cX1_holdFirstAlone 1 none 0 := ⟨⟨wi_249, wi_250, wi_251⟩, wi_194, wi_248, ⟨by decide, by decide, by decide +kernel⟩, by decide⟩
theorem wi_252 : Cond.code yX4_eatsFromOneOf cX4_eatsFromOneOf 8 (some .boolean) ∈ z_big := z_bigT 756 (by decide +kernel) rfl
theorem wi_253 : Cond.methodLink RX4 104 yX4_eatsFromOneOf ∈ z_big := z_bigT 753 (by decide +kernel) rfl
theorem wi_254 : Cond.instanceMethod yX4_eatsFromOneOf ∈ z_big := z_bigT 755 (by decide +kernel) rfl
theorem wi_255 : Cond.selects RX4 yX4_eatsFromOneOf yX4_eatsFromOneOf ∈ z_big := z_bigP (y := yX4_eatsFromOneOf) (n := 6) 10 (by decide +kernel)
theorem ok_X4_104 : z_okV RX4 104 yX4_eatsFromOneOf cX4_eatsFromOneOf 8 (some .boolean) 3 := ⟨⟨wi_253, wi_254, wi_255⟩, wi_221, wi_252, ⟨by decide, by decide, by decide +kernel⟩, by decide⟩
theorem wi_256 : Cond.code yX1_holdNone cX1_holdNone 1 none ∈ z_big := z_bigT 760 (by decide +kernel) rfl
theorem wi_257 : Cond.methodLink RX4 108 yX1_holdNone ∈ z_big := z_bigT 757 (by decide +kernel) rfl
theorem wi_258 : Cond.instanceMethod yX1_holdNone ∈ z_big := z_bigT 758 (by decide +kernel) rfl
theorem wi_259 : Cond.selects RX1 yX1_holdNone yX1_holdNone ∈ z_big := z_bigT 759 (by decide +kernel) rfl
theorem ok_X4_108 : z_okV RX4 108 yX1_holdNone cX1_holdNone 1 none 0 := ⟨⟨wi_257, wi_258, wi_259⟩, wi_194, wi_256, ⟨by decide, by decide, by decide +kernel⟩, by decide⟩
theorem wi_260 : Cond.code yX1_size cX1_size 1 (some .int) ∈ z_big := z_bigT 764 (by decide +kernel) rfl
theorem wi_261 : Cond.methodLink RX4 111 yX1_size ∈ z_big := z_bigT 761 (by decide +kernel) rfl
theorem wi_262 : Cond.instanceMethod yX1_size ∈ z_big := z_bigT 762 (by decide +kernel) rfl
theorem wi_263 : Cond.selects RX1 yX1_size yX1_size ∈ z_big := z_bigT 763 (by decide +kernel) rfl
theorem ok_X4_111 : z_okV RX4 111 yX1_size cX1_size 1 (some .int) 0 := ⟨⟨wi_261, wi_262, wi_263⟩, wi_194, wi_260, ⟨by decide, by decide, by decide +kernel⟩, by decide⟩
theorem wi_264 : Cond.code yX1_wayTo cX1_wayTo 2 (some .int) ∈ z_big := z_bigT 768 (by decide +kernel) rfl
theorem wi_265 : Cond.methodLink RX4 112 yX1_wayTo ∈ z_big := z_bigT 765 (by decide +kernel) rfl
theorem wi_266 : Cond.instanceMethod yX1_wayTo ∈ z_big := z_bigT 766 (by decide +kernel) rfl
theorem wi_267 : Cond.selects RX1 yX1_wayTo yX1_wayTo ∈ z_big := z_bigT 767 (by decide +kernel) rfl
theorem ok_X4_112 : z_okV RX4 112 yX1_wayTo cX1_wayTo 2 (some .int) 1 := ⟨⟨wi_265, wi_266, wi_267⟩, wi_194, wi_264, ⟨by decide, by decide, by decide +kernel⟩, by decide⟩
theorem wi_268 : Cond.code yX4_follow cX4_follow 4 none ∈ z_big := z_bigT 773 (by decide +kernel) rfl
theorem wi_269 : Cond.methodLink RX4 115 yX4_follow ∈ z_big := z_bigT 770 (by decide +kernel) rfl
theorem wi_270 : Cond.instanceMethod yX4_follow ∈ z_big := z_bigT 772 (by decide +kernel) rfl
theorem wi_271 : Cond.selects RX4 yX4_follow yX4_follow ∈ z_big := z_bigP (y := yX4_follow) (n := 6) 11 (by decide +kernel)
theorem ok_X4_115 : z_okV RX4 115 yX4_follow cX4_follow 4 none 2 := ⟨⟨wi_269, wi_270, wi_271⟩, wi_221, wi_268, ⟨by decide, by decide, by decide +kernel⟩, by decide⟩
theorem wi_272 : Cond.code yX4_eatsByOneStep cX4_eatsByOneStep 5 (some .boolean) ∈ z_big := z_bigT 780 (by decide +kernel) rfl
theorem wi_273 : Cond.methodLink RX4 119 yX4_eatsByOneStep ∈ z_big := z_bigT 777 (by decide +kernel) rfl
theorem wi_274 : Cond.instanceMethod yX4_eatsByOneStep ∈ z_big := z_bigT 779 (by decide +kernel) rfl
theorem wi_275 : Cond.selects RX4 yX4_eatsByOneStep yX4_eatsByOneStep ∈ z_big := z_bigP (y := yX4_eatsByOneStep) (n := 6) 12 (by decide +kernel)
theorem ok_X4_119 : z_okV RX4 119 yX4_eatsByOneStep cX4_eatsByOneStep 5 (some .boolean) 2 := ⟨⟨wi_273, wi_274, wi_275⟩, wi_221, wi_272, ⟨by decide, by decide, by decide +kernel⟩, by decide⟩
theorem wi_276 : Cond.code yX1_directionIn cX1_directionIn 2 (some .int) ∈ z_big := z_bigT 776 (by decide +kernel) rfl
theorem wi_277 : Cond.static yX1_directionIn ∈ z_big := z_bigT 775 (by decide +kernel) rfl
theorem wi_278 : Cond.methodLink RX4 123 yX1_directionIn ∈ z_big := z_bigT 774 (by decide +kernel) rfl
theorem ok_X4_123 : z_okS RX4 123 yX1_directionIn cX1_directionIn 2 (some .int) 2 := ⟨⟨wi_278, wi_277⟩, wi_194, wi_276, ⟨by decide, by decide, by decide +kernel⟩, by decide⟩
theorem wi_279 : Cond.code yX1_add cX1_add 3 none ∈ z_big := z_bigT 784 (by decide +kernel) rfl
theorem wi_280 : Cond.methodLink RX4 126 yX1_add ∈ z_big := z_bigT 781 (by decide +kernel) rfl
theorem wi_281 : Cond.instanceMethod yX1_add ∈ z_big := z_bigT 782 (by decide +kernel) rfl
theorem wi_282 : Cond.selects RX1 yX1_add yX1_add ∈ z_big := z_bigT 783 (by decide +kernel) rfl
theorem ok_X4_126 : z_okV RX4 126 yX1_add cX1_add 3 none 2 := ⟨⟨wi_280, wi_281, wi_282⟩, wi_194, wi_279, ⟨by decide, by decide, by decide +kernel⟩, by decide⟩
theorem wi_283 : Cond.methodLink RX5 23 yX6_isThere ∈ z_big := z_bigT 283 (by decide +kernel) rfl
theorem ok_X5_23 : z_okV RX5 23 yX6_isThere cX6_isThere 1 (some .boolean) 0 := ⟨⟨wi_283, wi_199, wi_200⟩, wi_196, wi_197, ⟨by decide, by decide, by decide +kernel⟩, by decide⟩
theorem wi_284 : Cond.code yX2_isThere cX2_isThere 1 (some .boolean) ∈ z_big := z_bigT 287 (by decide +kernel) rfl
theorem wi_285 : Cond.methodLink RX5 29 yX2_isThere ∈ z_big := z_bigT 284 (by decide +kernel) rfl
theorem wi_286 : Cond.instanceMethod yX2_isThere ∈ z_big := z_bigT 285 (by decide +kernel) rfl
theorem wi_287 : Cond.selects RX2 yX2_isThere yX2_isThere ∈ z_big := z_bigT 286 (by decide +kernel) rfl
theorem ok_X5_29 : z_okV RX5 29 yX2_isThere cX2_isThere 1 (some .boolean) 0 := ⟨⟨wi_285, wi_286, wi_287⟩, wi_159, wi_284, ⟨by decide, by decide, by decide +kernel⟩, by decide⟩
theorem wi_288 : Cond.initialized RX5 ∈ z_big := z_bigT 6 (by decide +kernel) rfl
theorem wi_289 : Cond.code yX5_wayOfBody cX5_wayOfBody 3 (some .int) ∈ z_big := z_bigT 291 (by decide +kernel) rfl
theorem wi_290 : Cond.methodLink RX5 32 yX5_wayOfBody ∈ z_big := z_bigT 288 (by decide +kernel) rfl
theorem wi_291 : Cond.instanceMethod yX5_wayOfBody ∈ z_big := z_bigT 290 (by decide +kernel) rfl
theorem wi_292 : Cond.selects RX5 yX5_wayOfBody yX5_wayOfBody ∈ z_big := z_bigP (y := yX5_wayOfBody) (n := 3) 2 (by decide +kernel)
theorem ok_X5_32 : z_okV RX5 32 yX5_wayOfBody cX5_wayOfBody 3 (some .int) 0 := ⟨⟨wi_290, wi_291, wi_292⟩, wi_288, wi_289, ⟨by decide, by decide, by decide +kernel⟩, by decide⟩
theorem wi_293 : Cond.code yX2_size cX2_size 1 (some .int) ∈ z_big := z_bigT 309 (by decide +kernel) rfl
theorem wi_294 : Cond.methodLink RX5 36 yX2_size ∈ z_big := z_bigT 306 (by decide +kernel) rfl
theorem wi_295 : Cond.instanceMethod yX2_size ∈ z_big := z_bigT 307 (by decide +kernel) rfl
theorem wi_296 : Cond.selects RX2 yX2_size yX2_size ∈ z_big := z_bigT 308 (by decide +kernel) rfl
theorem ok_X5_36 : z_okV RX5 36 yX2_size cX2_size 1 (some .int) 0 := ⟨⟨wi_294, wi_295, wi_296⟩, wi_159, wi_293, ⟨by decide, by decide, by decide +kernel⟩, by decide⟩
theorem wi_297 : Cond.code yX6_size cX6_size 1 (some .int) ∈ z_big := z_bigT 295 (by decide +kernel) rfl
theorem wi_298 : Cond.methodLink RX5 39 yX6_size ∈ z_big := z_bigT 292 (by decide +kernel) rfl
theorem wi_299 : Cond.instanceMethod yX6_size ∈ z_big := z_bigT 293 (by decide +kernel) rfl
theorem wi_300 : Cond.selects RX6 yX6_size yX6_size ∈ z_big := z_bigT 294 (by decide +kernel) rfl
theorem ok_X5_39 : z_okV RX5 39 yX6_size cX6_size 1 (some .int) 0 := ⟨⟨wi_298, wi_299, wi_300⟩, wi_196, wi_297, ⟨by decide, by decide, by decide +kernel⟩, by decide⟩
theorem wi_301 : Cond.methodLink RX5 40 yX6_cellOf ∈ z_big := z_bigT 296 (by decide +kernel) rfl
theorem ok_X5_40 : z_okV RX5 40 yX6_cellOf cX6_cellOf 2 (some .int) 1 := ⟨⟨wi_301, wi_203, wi_204⟩, wi_196, wi_201, ⟨by decide, by decide, by decide +kernel⟩, by decide⟩
theorem wi_302 : Cond.code yX2_wayBetween cX2_wayBetween 4 (some .int) ∈ z_big := z_bigT 304 (by decide +kernel) rfl
theorem wi_303 : Cond.methodLink RX5 44 yX2_wayBetween ∈ z_big := z_bigT 301 (by decide +kernel) rfl
theorem wi_304 : Cond.instanceMethod yX2_wayBetween ∈ z_big := z_bigT 302 (by decide +kernel) rfl
theorem wi_305 : Cond.selects RX2 yX2_wayBetween yX2_wayBetween ∈ z_big := z_bigT 303 (by decide +kernel) rfl
theorem ok_X5_44 : z_okV RX5 44 yX2_wayBetween cX2_wayBetween 4 (some .int) 2 := ⟨⟨wi_303, wi_304, wi_305⟩, wi_159, wi_302, ⟨by decide, by decide, by decide +kernel⟩, by decide⟩
theorem wi_306 : Cond.code yX3_firstCell cX3_firstCell 1 (some .int) ∈ z_big := z_bigT 502 (by decide +kernel) rfl
theorem wi_307 : Cond.methodLink RX5 48 yX3_firstCell ∈ z_big := z_bigT 499 (by decide +kernel) rfl
theorem wi_308 : Cond.instanceMethod yX3_firstCell ∈ z_big := z_bigT 500 (by decide +kernel) rfl
theorem wi_309 : Cond.selects RX3 yX3_firstCell yX3_firstCell ∈ z_big := z_bigT 501 (by decide +kernel) rfl
theorem ok_X5_48 : z_okV RX5 48 yX3_firstCell cX3_firstCell 1 (some .int) 0 := ⟨⟨wi_307, wi_308, wi_309⟩, wi_187, wi_306, ⟨by decide, by decide, by decide +kernel⟩, by decide⟩
theorem wi_310 : Cond.code yX5_seesOrder cX5_seesOrder 1 (some .boolean) ∈ z_big := z_bigT 282 (by decide +kernel) rfl
theorem wi_311 : Cond.methodLink RX5 53 yX5_seesOrder ∈ z_big := z_bigT 503 (by decide +kernel) rfl
theorem wi_312 : Cond.instanceMethod yX5_seesOrder ∈ z_big := z_bigT 280 (by decide +kernel) rfl
theorem wi_313 : Cond.selects RX5 yX5_seesOrder yX5_seesOrder ∈ z_big := z_bigT 281 (by decide +kernel) rfl
theorem ok_X5_53 : z_okV RX5 53 yX5_seesOrder cX5_seesOrder 1 (some .boolean) 0 := ⟨⟨wi_311, wi_312, wi_313⟩, wi_288, wi_310, ⟨by decide, by decide, by decide +kernel⟩, by decide⟩
theorem wi_314 : Cond.methodLink RX5 56 yX6_advance ∈ z_big := z_bigT 504 (by decide +kernel) rfl
theorem ok_X5_56 : z_okV RX5 56 yX6_advance cX6_advance 7 (some .boolean) 1 := ⟨⟨wi_314, wi_227, wi_228⟩, wi_196, wi_225, ⟨by decide, by decide, by decide +kernel⟩, by decide⟩
theorem wi_315 : Cond.code yX6_growth cX6_growth 1 (some .int) ∈ z_big := z_bigT 533 (by decide +kernel) rfl
theorem wi_316 : Cond.methodLink RX5 60 yX6_growth ∈ z_big := z_bigT 530 (by decide +kernel) rfl
theorem wi_317 : Cond.instanceMethod yX6_growth ∈ z_big := z_bigT 531 (by decide +kernel) rfl
theorem wi_318 : Cond.selects RX6 yX6_growth yX6_growth ∈ z_big := z_bigT 532 (by decide +kernel) rfl
theorem ok_X5_60 : z_okV RX5 60 yX6_growth cX6_growth 1 (some .int) 0 := ⟨⟨wi_316, wi_317, wi_318⟩, wi_196, wi_315, ⟨by decide, by decide, by decide +kernel⟩, by decide⟩
theorem wi_319 : Cond.methodLink RX5 63 yX6_takeBack ∈ z_big := z_bigT 534 (by decide +kernel) rfl
theorem ok_X5_63 : z_okV RX5 63 yX6_takeBack cX6_takeBack 2 none 0 := ⟨⟨wi_319, wi_235, wi_236⟩, wi_196, wi_233, ⟨by decide, by decide, by decide +kernel⟩, by decide⟩
theorem wi_320 : Cond.code yX5_seesSafe cX5_seesSafe 6 (some .boolean) ∈ z_big := z_bigT 498 (by decide +kernel) rfl
theorem wi_321 : Cond.methodLink RX5 66 yX5_seesSafe ∈ z_big := z_bigT 495 (by decide +kernel) rfl
theorem wi_322 : Cond.instanceMethod yX5_seesSafe ∈ z_big := z_bigT 496 (by decide +kernel) rfl
theorem wi_323 : Cond.selects RX5 yX5_seesSafe yX5_seesSafe ∈ z_big := z_bigT 497 (by decide +kernel) rfl
theorem ok_X5_66 : z_okV RX5 66 yX5_seesSafe cX5_seesSafe 6 (some .boolean) 1 := ⟨⟨wi_321, wi_322, wi_323⟩, wi_288, wi_320, ⟨by decide, by decide, by decide +kernel⟩, by decide⟩
theorem wi_324 : Cond.methodLink RX5 69 yX0_cellBeside ∈ z_big := z_bigT 546 (by decide +kernel) rfl
theorem ok_X5_69 : z_okS RX5 69 yX0_cellBeside cX0_cellBeside 3 (some .int) 2 := ⟨⟨wi_324, wi_109⟩, wi_98, wi_108, ⟨by decide, by decide, by decide +kernel⟩, by decide⟩
theorem wi_325 : Cond.methodLink RX6 30 yX6_isThere ∈ z_big := z_bigT 271 (by decide +kernel) rfl
theorem ok_X6_30 : z_okV RX6 30 yX6_isThere cX6_isThere 1 (some .boolean) 0 := ⟨⟨wi_325, wi_199, wi_200⟩, wi_196, wi_197, ⟨by decide, by decide, by decide +kernel⟩, by decide⟩
theorem wi_326 : Cond.methodLinkNest RX6 44 yX7_at "Coilworm" ∈ z_nst := z_nstT 300 (by decide +kernel) rfl
theorem ok_X6_44 : z_okSN RX6 "Coilworm" 44 yX7_at cX7_at 2 (some .int) 2 := ⟨⟨wi_326, wi_103⟩, wi_0, wi_102, ⟨by decide, by decide, by decide +kernel⟩, by decide⟩
theorem wi_327 : Cond.methodLinkNest RX6 52 yX7_isIn "Coilworm" ∈ z_nst := z_nstT 520 (by decide +kernel) rfl
theorem ok_X6_52 : z_okSN RX6 "Coilworm" 52 yX7_isIn cX7_isIn 3 (some .boolean) 2 := ⟨⟨wi_327, wi_215⟩, wi_0, wi_214, ⟨by decide, by decide, by decide +kernel⟩, by decide⟩
theorem wi_328 : Cond.methodLinkNest RX6 56 yX7_put "Coilworm" ∈ z_nst := z_nstT 525 (by decide +kernel) rfl
theorem ok_X6_56 : z_okSN RX6 "Coilworm" 56 yX7_put cX7_put 3 none 3 := ⟨⟨wi_328, wi_106⟩, wi_0, wi_105, ⟨by decide, by decide, by decide +kernel⟩, by decide⟩
theorem wi_329 : Cond.methodLinkNest RX6 60 yX7_setOf "Coilworm" ∈ z_nst := z_nstT 516 (by decide +kernel) rfl
theorem ok_X6_60 : z_okSN RX6 "Coilworm" 60 yX7_setOf cX7_setOf 1 (some .long) 1 := ⟨⟨wi_329, wi_207⟩, wi_0, wi_206, ⟨by decide, by decide, by decide +kernel⟩, by decide⟩
theorem wi_330 : Cond.methodLink RX6 64 yX6_cellOf ∈ z_big := z_bigT 508 (by decide +kernel) rfl
theorem ok_X6_64 : z_okV RX6 64 yX6_cellOf cX6_cellOf 2 (some .int) 1 := ⟨⟨wi_330, wi_203, wi_204⟩, wi_196, wi_201, ⟨by decide, by decide, by decide +kernel⟩, by decide⟩
theorem wi_331 : Cond.methodLink RX6 68 yX0_goFrom ∈ z_big := z_bigT 509 (by decide +kernel) rfl
theorem ok_X6_68 : z_okV RX6 68 yX0_goFrom cX0_goFrom 4 (some .int) 2 := ⟨⟨wi_331, wi_212, wi_213⟩, wi_98, wi_210, ⟨by decide, by decide, by decide +kernel⟩, by decide⟩
theorem wi_332 : Cond.methodLink RX6 76 yX3_firstCell ∈ z_big := z_bigT 524 (by decide +kernel) rfl
theorem ok_X6_76 : z_okV RX6 76 yX3_firstCell cX3_firstCell 1 (some .int) 0 := ⟨⟨wi_332, wi_308, wi_309⟩, wi_187, wi_306, ⟨by decide, by decide, by decide +kernel⟩, by decide⟩
theorem wi_333 : Cond.code yX3_takeFirst cX3_takeFirst 1 none ∈ z_big := z_bigT 529 (by decide +kernel) rfl
theorem wi_334 : Cond.methodLink RX6 82 yX3_takeFirst ∈ z_big := z_bigT 526 (by decide +kernel) rfl
theorem wi_335 : Cond.instanceMethod yX3_takeFirst ∈ z_big := z_bigT 527 (by decide +kernel) rfl
theorem wi_336 : Cond.selects RX3 yX3_takeFirst yX3_takeFirst ∈ z_big := z_bigT 528 (by decide +kernel) rfl
theorem ok_X6_82 : z_okV RX6 82 yX3_takeFirst cX3_takeFirst 1 none 0 := ⟨⟨wi_334, wi_335, wi_336⟩, wi_187, wi_333, ⟨by decide, by decide, by decide +kernel⟩, by decide⟩
theorem wi_337 : Cond.methodLink RX6 85 yX6_hasJustEaten ∈ z_big := z_bigT 538 (by decide +kernel) rfl
theorem ok_X6_85 : z_okV RX6 85 yX6_hasJustEaten cX6_hasJustEaten 1 (some .boolean) 0 := ⟨⟨wi_337, wi_246, wi_247⟩, wi_196, wi_244, ⟨by decide, by decide, by decide +kernel⟩, by decide⟩
theorem wi_338 : Cond.code yX3_putFirstBack cX3_putFirstBack 1 none ∈ z_big := z_bigT 545 (by decide +kernel) rfl
theorem wi_339 : Cond.methodLink RX6 88 yX3_putFirstBack ∈ z_big := z_bigT 542 (by decide +kernel) rfl
theorem wi_340 : Cond.instanceMethod yX3_putFirstBack ∈ z_big := z_bigT 543 (by decide +kernel) rfl
theorem wi_341 : Cond.selects RX3 yX3_putFirstBack yX3_putFirstBack ∈ z_big := z_bigT 544 (by decide +kernel) rfl
theorem ok_X6_88 : z_okV RX6 88 yX3_putFirstBack cX3_putFirstBack 1 none 0 := ⟨⟨wi_339, wi_340, wi_341⟩, wi_187, wi_338, ⟨by decide, by decide, by decide +kernel⟩, by decide⟩
theorem wi_342 : Cond.code yX0_init cX0_init 1 none ∈ z_big := z_bigT 29 (by decide +kernel) rfl
theorem wi_343 : Cond.code yX2_init cX2_init 2 none ∈ z_big := z_bigT 49 (by decide +kernel) rfl
theorem wi_344 : Cond.code yX3_init cX3_init 1 none ∈ z_big := z_bigT 71 (by decide +kernel) rfl
theorem wi_345 : Cond.code yX6_init cX6_init 3 none ∈ z_big := z_bigT 87 (by decide +kernel) rfl
theorem wi_346 : Cond.code yX5_init cX5_init 4 none ∈ z_big := z_bigT 121 (by decide +kernel) rfl
theorem wi_347 : Cond.code yX4_init cX4_init 4 none ∈ z_big := z_bigT 137 (by decide +kernel) rfl
theorem wi_348 : Cond.code yX2_layOut cX2_layOut 3 none ∈ z_big := z_bigT 174 (by decide +kernel) rfl
theorem wi_349 : Cond.methodLink RX7 59 yX2_layOut ∈ z_big := z_bigT 171 (by decide +kernel) rfl
theorem wi_350 : Cond.instanceMethod yX2_layOut ∈ z_big := z_bigT 172 (by decide +kernel) rfl
theorem wi_351 : Cond.selects RX2 yX2_layOut yX2_layOut ∈ z_big := z_bigT 173 (by decide +kernel) rfl
theorem ok_X7_59 : z_okV RX7 59 yX2_layOut cX2_layOut 3 none 0 := ⟨⟨wi_349, wi_350, wi_351⟩, wi_159, wi_348, ⟨by decide, by decide, by decide +kernel⟩, by decide⟩
theorem wi_352 : Cond.methodLink RX7 69 yX6_isThere ∈ z_big := z_bigT 397 (by decide +kernel) rfl
theorem ok_X7_69 : z_okV RX7 69 yX6_isThere cX6_isThere 1 (some .boolean) 0 := ⟨⟨wi_352, wi_199, wi_200⟩, wi_196, wi_197, ⟨by decide, by decide, by decide +kernel⟩, by decide⟩
theorem wi_353 : Cond.code yX3_hasOneIn cX3_hasOneIn 3 (some .boolean) ∈ z_big := z_bigT 401 (by decide +kernel) rfl
theorem wi_354 : Cond.methodLink RX7 73 yX3_hasOneIn ∈ z_big := z_bigT 398 (by decide +kernel) rfl
theorem wi_355 : Cond.instanceMethod yX3_hasOneIn ∈ z_big := z_bigT 399 (by decide +kernel) rfl
theorem wi_356 : Cond.selects RX3 yX3_hasOneIn yX3_hasOneIn ∈ z_big := z_bigT 400 (by decide +kernel) rfl
theorem ok_X7_73 : z_okV RX7 73 yX3_hasOneIn cX3_hasOneIn 3 (some .boolean) 1 := ⟨⟨wi_354, wi_355, wi_356⟩, wi_187, wi_353, ⟨by decide, by decide, by decide +kernel⟩, by decide⟩
theorem wi_357 : Cond.methodLink RX7 82 yX0_hasWallOn ∈ z_big := z_bigT 424 (by decide +kernel) rfl
theorem ok_X7_82 : z_okV RX7 82 yX0_hasWallOn cX0_hasWallOn 2 (some .boolean) 1 := ⟨⟨wi_357, wi_116, wi_117⟩, wi_98, wi_114, ⟨by decide, by decide, by decide +kernel⟩, by decide⟩
theorem wi_358 : Cond.code yX0_putWall cX0_putWall 3 none ∈ z_big := z_bigT 428 (by decide +kernel) rfl
theorem wi_359 : Cond.methodLink RX7 85 yX0_putWall ∈ z_big := z_bigT 425 (by decide +kernel) rfl
theorem wi_360 : Cond.instanceMethod yX0_putWall ∈ z_big := z_bigT 426 (by decide +kernel) rfl
theorem wi_361 : Cond.selects RX0 yX0_putWall yX0_putWall ∈ z_big := z_bigT 427 (by decide +kernel) rfl
theorem ok_X7_85 : z_okV RX7 85 yX0_putWall cX0_putWall 3 none 2 := ⟨⟨wi_359, wi_360, wi_361⟩, wi_98, wi_358, ⟨by decide, by decide, by decide +kernel⟩, by decide⟩
theorem wi_362 : Cond.code yX7_checkLink cX7_checkLink 1 none ∈ z_big := z_bigT 440 (by decide +kernel) rfl
theorem wi_363 : Cond.static yX7_checkLink ∈ z_big := z_bigT 439 (by decide +kernel) rfl
theorem wi_364 : Cond.methodLink RX7 89 yX7_checkLink ∈ z_big := z_bigT 438 (by decide +kernel) rfl
theorem ok_X7_89 : z_okS RX7 89 yX7_checkLink cX7_checkLink 1 none 1 := ⟨⟨wi_364, wi_363⟩, wi_0, wi_362, ⟨by decide, by decide, by decide +kernel⟩, by decide⟩
theorem wi_365 : Cond.methodLink RX7 100 yX0_weightOf ∈ z_big := z_bigT 459 (by decide +kernel) rfl
theorem ok_X7_100 : z_okV RX7 100 yX0_weightOf cX0_weightOf 2 (some .int) 1 := ⟨⟨wi_365, wi_123, wi_124⟩, wi_98, wi_121, ⟨by decide, by decide, by decide +kernel⟩, by decide⟩
theorem wi_366 : Cond.code yX0_putWeight cX0_putWeight 3 none ∈ z_big := z_bigT 463 (by decide +kernel) rfl
theorem wi_367 : Cond.methodLink RX7 104 yX0_putWeight ∈ z_big := z_bigT 460 (by decide +kernel) rfl
theorem wi_368 : Cond.instanceMethod yX0_putWeight ∈ z_big := z_bigT 461 (by decide +kernel) rfl
theorem wi_369 : Cond.selects RX0 yX0_putWeight yX0_putWeight ∈ z_big := z_bigT 462 (by decide +kernel) rfl
theorem ok_X7_104 : z_okV RX7 104 yX0_putWeight cX0_putWeight 3 none 2 := ⟨⟨wi_367, wi_368, wi_369⟩, wi_98, wi_366, ⟨by decide, by decide, by decide +kernel⟩, by decide⟩
theorem wi_370 : Cond.code yX7_checkCell cX7_checkCell 1 none ∈ z_big := z_bigT 557 (by decide +kernel) rfl
theorem wi_371 : Cond.static yX7_checkCell ∈ z_big := z_bigT 556 (by decide +kernel) rfl
theorem wi_372 : Cond.methodLink RX7 108 yX7_checkCell ∈ z_big := z_bigT 555 (by decide +kernel) rfl
theorem ok_X7_108 : z_okS RX7 108 yX7_checkCell cX7_checkCell 1 none 1 := ⟨⟨wi_372, wi_371⟩, wi_0, wi_370, ⟨by decide, by decide, by decide +kernel⟩, by decide⟩
theorem wi_373 : Cond.methodLink RX7 111 yX0_blockOf ∈ z_big := z_bigT 560 (by decide +kernel) rfl
theorem ok_X7_111 : z_okS RX7 111 yX0_blockOf cX0_blockOf 3 (some .int) 1 := ⟨⟨wi_373, wi_112⟩, wi_98, wi_111, ⟨by decide, by decide, by decide +kernel⟩, by decide⟩
theorem wi_374 : Cond.methodLink RX7 114 yX0_treeHas ∈ z_big := z_bigT 629 (by decide +kernel) rfl
theorem ok_X7_114 : z_okV RX7 114 yX0_treeHas cX0_treeHas 2 (some .boolean) 1 := ⟨⟨wi_374, wi_171, wi_172⟩, wi_98, wi_169, ⟨by decide, by decide, by decide +kernel⟩, by decide⟩
theorem wi_375 : Cond.methodLink RX7 117 yX2_isThere ∈ z_big := z_bigT 618 (by decide +kernel) rfl
theorem ok_X7_117 : z_okV RX7 117 yX2_isThere cX2_isThere 1 (some .boolean) 0 := ⟨⟨wi_375, wi_286, wi_287⟩, wi_159, wi_284, ⟨by decide, by decide, by decide +kernel⟩, by decide⟩
theorem wi_376 : Cond.code yX7_checkCycle cX7_checkCycle 1 none ∈ z_big := z_bigT 647 (by decide +kernel) rfl
theorem wi_377 : Cond.methodLink RX7 118 yX7_checkCycle ∈ z_big := z_bigT 644 (by decide +kernel) rfl
theorem wi_378 : Cond.instanceMethod yX7_checkCycle ∈ z_big := z_bigT 646 (by decide +kernel) rfl
theorem wi_379 : Cond.selects RX7 yX7_checkCycle yX7_checkCycle ∈ z_big := z_bigP (y := yX7_checkCycle) (n := 6) 6 (by decide +kernel)
theorem ok_X7_118 : z_okV RX7 118 yX7_checkCycle cX7_checkCycle 1 none 0 := ⟨⟨wi_377, wi_378, wi_379⟩, wi_0, wi_376, ⟨by decide, by decide, by decide +kernel⟩, by decide⟩
theorem wi_380 : Cond.code yX2_placeWith cX2_placeWith 2 (some .int) ∈ z_big := z_bigT 652 (by decide +kernel) rfl
theorem wi_381 : Cond.methodLink RX7 121 yX2_placeWith ∈ z_big := z_bigT 649 (by decide +kernel) rfl
theorem wi_382 : Cond.instanceMethod yX2_placeWith ∈ z_big := z_bigT 650 (by decide +kernel) rfl
theorem wi_383 : Cond.selects RX2 yX2_placeWith yX2_placeWith ∈ z_big := z_bigT 651 (by decide +kernel) rfl
theorem ok_X7_121 : z_okV RX7 121 yX2_placeWith cX2_placeWith 2 (some .int) 1 := ⟨⟨wi_381, wi_382, wi_383⟩, wi_159, wi_380, ⟨by decide, by decide, by decide +kernel⟩, by decide⟩
theorem wi_384 : Cond.code yX7_checkPlaceOfCycle cX7_checkPlaceOfCycle 2 none ∈ z_big := z_bigT 660 (by decide +kernel) rfl
theorem wi_385 : Cond.methodLink RX7 124 yX7_checkPlaceOfCycle ∈ z_big := z_bigT 657 (by decide +kernel) rfl
theorem wi_386 : Cond.instanceMethod yX7_checkPlaceOfCycle ∈ z_big := z_bigT 659 (by decide +kernel) rfl
theorem wi_387 : Cond.selects RX7 yX7_checkPlaceOfCycle yX7_checkPlaceOfCycle ∈ z_big := z_bigP (y := yX7_checkPlaceOfCycle) (n := 6) 7 (by decide +kernel)
theorem ok_X7_124 : z_okV RX7 124 yX7_checkPlaceOfCycle cX7_checkPlaceOfCycle 2 none 1 := ⟨⟨wi_385, wi_386, wi_387⟩, wi_0, wi_384, ⟨by decide, by decide, by decide +kernel⟩, by decide⟩
theorem wi_388 : Cond.code yX2_cellWith cX2_cellWith 2 (some .int) ∈ z_big := z_bigT 665 (by decide +kernel) rfl
theorem wi_389 : Cond.methodLink RX7 127 yX2_cellWith ∈ z_big := z_bigT 662 (by decide +kernel) rfl
theorem wi_390 : Cond.instanceMethod yX2_cellWith ∈ z_big := z_bigT 663 (by decide +kernel) rfl
theorem wi_391 : Cond.selects RX2 yX2_cellWith yX2_cellWith ∈ z_big := z_bigT 664 (by decide +kernel) rfl
theorem ok_X7_127 : z_okV RX7 127 yX2_cellWith cX2_cellWith 2 (some .int) 1 := ⟨⟨wi_389, wi_390, wi_391⟩, wi_159, wi_388, ⟨by decide, by decide, by decide +kernel⟩, by decide⟩
theorem wi_392 : Cond.code yX2_cellByRings cX2_cellByRings 4 (some .int) ∈ z_big := z_bigT 673 (by decide +kernel) rfl
theorem wi_393 : Cond.methodLink RX7 130 yX2_cellByRings ∈ z_big := z_bigT 670 (by decide +kernel) rfl
theorem wi_394 : Cond.instanceMethod yX2_cellByRings ∈ z_big := z_bigT 671 (by decide +kernel) rfl
theorem wi_395 : Cond.selects RX2 yX2_cellByRings yX2_cellByRings ∈ z_big := z_bigT 672 (by decide +kernel) rfl
theorem ok_X7_130 : z_okV RX7 130 yX2_cellByRings cX2_cellByRings 4 (some .int) 1 := ⟨⟨wi_393, wi_394, wi_395⟩, wi_159, wi_392, ⟨by decide, by decide, by decide +kernel⟩, by decide⟩
theorem wi_396 : Cond.code yX6_lay cX6_lay 3 none ∈ z_big := z_bigT 565 (by decide +kernel) rfl
theorem wi_397 : Cond.methodLink RX7 137 yX6_lay ∈ z_big := z_bigT 562 (by decide +kernel) rfl
theorem wi_398 : Cond.instanceMethod yX6_lay ∈ z_big := z_bigT 563 (by decide +kernel) rfl
theorem wi_399 : Cond.selects RX6 yX6_lay yX6_lay ∈ z_big := z_bigT 564 (by decide +kernel) rfl
theorem ok_X7_137 : z_okV RX7 137 yX6_lay cX6_lay 3 none 2 := ⟨⟨wi_397, wi_398, wi_399⟩, wi_196, wi_396, ⟨by decide, by decide, by decide +kernel⟩, by decide⟩
theorem wi_400 : Cond.methodLink RX7 142 yX6_size ∈ z_big := z_bigT 473 (by decide +kernel) rfl
theorem ok_X7_142 : z_okV RX7 142 yX6_size cX6_size 1 (some .int) 0 := ⟨⟨wi_400, wi_299, wi_300⟩, wi_196, wi_297, ⟨by decide, by decide, by decide +kernel⟩, by decide⟩
theorem wi_401 : Cond.code yX6_takeAway cX6_takeAway 1 none ∈ z_big := z_bigT 477 (by decide +kernel) rfl
theorem wi_402 : Cond.methodLink RX7 146 yX6_takeAway ∈ z_big := z_bigT 474 (by decide +kernel) rfl
theorem wi_403 : Cond.instanceMethod yX6_takeAway ∈ z_big := z_bigT 475 (by decide +kernel) rfl
theorem wi_404 : Cond.selects RX6 yX6_takeAway yX6_takeAway ∈ z_big := z_bigT 476 (by decide +kernel) rfl
theorem ok_X7_146 : z_okV RX7 146 yX6_takeAway cX6_takeAway 1 none 0 := ⟨⟨wi_402, wi_403, wi_404⟩, wi_196, wi_401, ⟨by decide, by decide, by decide +kernel⟩, by decide⟩
theorem wi_405 : Cond.methodLink RX7 149 yX3_size ∈ z_big := z_bigT 577 (by decide +kernel) rfl
theorem ok_X7_149 : z_okV RX7 149 yX3_size cX3_size 1 (some .int) 0 := ⟨⟨wi_405, wi_239, wi_240⟩, wi_187, wi_237, ⟨by decide, by decide, by decide +kernel⟩, by decide⟩
theorem wi_406 : Cond.code yX3_add cX3_add 2 none ∈ z_big := z_bigT 585 (by decide +kernel) rfl
theorem wi_407 : Cond.methodLink RX7 152 yX3_add ∈ z_big := z_bigT 582 (by decide +kernel) rfl
theorem wi_408 : Cond.instanceMethod yX3_add ∈ z_big := z_bigT 583 (by decide +kernel) rfl
theorem wi_409 : Cond.selects RX3 yX3_add yX3_add ∈ z_big := z_bigT 584 (by decide +kernel) rfl
theorem ok_X7_152 : z_okV RX7 152 yX3_add cX3_add 2 none 1 := ⟨⟨wi_407, wi_408, wi_409⟩, wi_187, wi_406, ⟨by decide, by decide, by decide +kernel⟩, by decide⟩
theorem wi_410 : Cond.code yX7_checkDirection cX7_checkDirection 1 none ∈ z_big := z_bigT 596 (by decide +kernel) rfl
theorem wi_411 : Cond.static yX7_checkDirection ∈ z_big := z_bigT 595 (by decide +kernel) rfl
theorem wi_412 : Cond.methodLink RX7 155 yX7_checkDirection ∈ z_big := z_bigT 594 (by decide +kernel) rfl
theorem ok_X7_155 : z_okS RX7 155 yX7_checkDirection cX7_checkDirection 1 none 1 := ⟨⟨wi_412, wi_411⟩, wi_0, wi_410, ⟨by decide, by decide, by decide +kernel⟩, by decide⟩
theorem wi_413 : Cond.code yX7_checkLivingWorm cX7_checkLivingWorm 1 none ∈ z_big := z_bigT 489 (by decide +kernel) rfl
theorem wi_414 : Cond.methodLink RX7 158 yX7_checkLivingWorm ∈ z_big := z_bigT 486 (by decide +kernel) rfl
theorem wi_415 : Cond.instanceMethod yX7_checkLivingWorm ∈ z_big := z_bigT 488 (by decide +kernel) rfl
theorem wi_416 : Cond.selects RX7 yX7_checkLivingWorm yX7_checkLivingWorm ∈ z_big := z_bigP (y := yX7_checkLivingWorm) (n := 6) 5 (by decide +kernel)
theorem ok_X7_158 : z_okV RX7 158 yX7_checkLivingWorm cX7_checkLivingWorm 1 none 0 := ⟨⟨wi_414, wi_415, wi_416⟩, wi_0, wi_413, ⟨by decide, by decide, by decide +kernel⟩, by decide⟩
theorem wi_417 : Cond.methodLink RX7 161 yX6_advance ∈ z_big := z_bigT 547 (by decide +kernel) rfl
theorem ok_X7_161 : z_okV RX7 161 yX6_advance cX6_advance 7 (some .boolean) 1 := ⟨⟨wi_417, wi_227, wi_228⟩, wi_196, wi_225, ⟨by decide, by decide, by decide +kernel⟩, by decide⟩
theorem wi_418 : Cond.code yX6_die cX6_die 1 none ∈ z_big := z_bigT 601 (by decide +kernel) rfl
theorem wi_419 : Cond.methodLink RX7 164 yX6_die ∈ z_big := z_bigT 598 (by decide +kernel) rfl
theorem wi_420 : Cond.instanceMethod yX6_die ∈ z_big := z_bigT 599 (by decide +kernel) rfl
theorem wi_421 : Cond.selects RX6 yX6_die yX6_die ∈ z_big := z_bigT 600 (by decide +kernel) rfl
theorem ok_X7_164 : z_okV RX7 164 yX6_die cX6_die 1 none 0 := ⟨⟨wi_419, wi_420, wi_421⟩, wi_196, wi_418, ⟨by decide, by decide, by decide +kernel⟩, by decide⟩
theorem wi_422 : Cond.code yX5_choice cX5_choice 5 (some .int) ∈ z_big := z_bigT 494 (by decide +kernel) rfl
theorem wi_423 : Cond.methodLink RX7 169 yX5_choice ∈ z_big := z_bigT 491 (by decide +kernel) rfl
theorem wi_424 : Cond.instanceMethod yX5_choice ∈ z_big := z_bigT 492 (by decide +kernel) rfl
theorem wi_425 : Cond.selects RX5 yX5_choice yX5_choice ∈ z_big := z_bigT 493 (by decide +kernel) rfl
theorem ok_X7_169 : z_okV RX7 169 yX5_choice cX5_choice 5 (some .int) 0 := ⟨⟨wi_423, wi_424, wi_425⟩, wi_288, wi_422, ⟨by decide, by decide, by decide +kernel⟩, by decide⟩
theorem wi_426 : Cond.code yX6_isLiving cX6_isLiving 1 (some .boolean) ∈ z_big := z_bigT 270 (by decide +kernel) rfl
theorem wi_427 : Cond.methodLink RX7 172 yX6_isLiving ∈ z_big := z_bigT 267 (by decide +kernel) rfl
theorem wi_428 : Cond.instanceMethod yX6_isLiving ∈ z_big := z_bigT 268 (by decide +kernel) rfl
theorem wi_429 : Cond.selects RX6 yX6_isLiving yX6_isLiving ∈ z_big := z_bigT 269 (by decide +kernel) rfl
theorem ok_X7_172 : z_okV RX7 172 yX6_isLiving cX6_isLiving 1 (some .boolean) 0 := ⟨⟨wi_427, wi_428, wi_429⟩, wi_196, wi_426, ⟨by decide, by decide, by decide +kernel⟩, by decide⟩
theorem wi_430 : Cond.methodLink RX7 175 yX6_growth ∈ z_big := z_bigT 609 (by decide +kernel) rfl
theorem ok_X7_175 : z_okV RX7 175 yX6_growth cX6_growth 1 (some .int) 0 := ⟨⟨wi_430, wi_317, wi_318⟩, wi_196, wi_315, ⟨by decide, by decide, by decide +kernel⟩, by decide⟩
theorem wi_431 : Cond.methodLink RX7 180 yX6_cellOf ∈ z_big := z_bigT 624 (by decide +kernel) rfl
theorem ok_X7_180 : z_okV RX7 180 yX6_cellOf cX6_cellOf 2 (some .int) 1 := ⟨⟨wi_431, wi_203, wi_204⟩, wi_196, wi_201, ⟨by decide, by decide, by decide +kernel⟩, by decide⟩
theorem wi_432 : Cond.methodLink RX7 183 yX5_seesOrder ∈ z_big := z_bigT 279 (by decide +kernel) rfl
theorem ok_X7_183 : z_okV RX7 183 yX5_seesOrder cX5_seesOrder 1 (some .boolean) 0 := ⟨⟨wi_432, wi_312, wi_313⟩, wi_288, wi_310, ⟨by decide, by decide, by decide +kernel⟩, by decide⟩
theorem wi_433 : Cond.methodLink RX7 186 yX5_seesSafe ∈ z_big := z_bigT 789 (by decide +kernel) rfl
theorem ok_X7_186 : z_okV RX7 186 yX5_seesSafe cX5_seesSafe 6 (some .boolean) 1 := ⟨⟨wi_433, wi_322, wi_323⟩, wi_288, wi_320, ⟨by decide, by decide, by decide +kernel⟩, by decide⟩
theorem wi_434 : Cond.code yX4_countReached cX4_countReached 7 (some .int) ∈ z_big := z_bigT 699 (by decide +kernel) rfl
theorem wi_435 : Cond.methodLink RX7 189 yX4_countReached ∈ z_big := z_bigT 696 (by decide +kernel) rfl
theorem wi_436 : Cond.instanceMethod yX4_countReached ∈ z_big := z_bigT 697 (by decide +kernel) rfl
theorem wi_437 : Cond.selects RX4 yX4_countReached yX4_countReached ∈ z_big := z_bigT 698 (by decide +kernel) rfl
theorem ok_X7_189 : z_okV RX7 189 yX4_countReached cX4_countReached 7 (some .int) 0 := ⟨⟨wi_435, wi_436, wi_437⟩, wi_221, wi_434, ⟨by decide, by decide, by decide +kernel⟩, by decide⟩
theorem wi_438 : Cond.code yX4_longestWalk cX4_longestWalk 2 (some .int) ∈ z_big := z_bigT 718 (by decide +kernel) rfl
theorem wi_439 : Cond.methodLink RX7 192 yX4_longestWalk ∈ z_big := z_bigT 715 (by decide +kernel) rfl
theorem wi_440 : Cond.instanceMethod yX4_longestWalk ∈ z_big := z_bigT 716 (by decide +kernel) rfl
theorem wi_441 : Cond.selects RX4 yX4_longestWalk yX4_longestWalk ∈ z_big := z_bigT 717 (by decide +kernel) rfl
theorem ok_X7_192 : z_okV RX7 192 yX4_longestWalk cX4_longestWalk 2 (some .int) 1 := ⟨⟨wi_439, wi_440, wi_441⟩, wi_221, wi_438, ⟨by decide, by decide, by decide +kernel⟩, by decide⟩
theorem wi_442 : Cond.code yX4_fewestByDepths cX4_fewestByDepths 2 (some .int) ∈ z_big := z_bigT 734 (by decide +kernel) rfl
theorem wi_443 : Cond.methodLink RX7 195 yX4_fewestByDepths ∈ z_big := z_bigT 731 (by decide +kernel) rfl
theorem wi_444 : Cond.instanceMethod yX4_fewestByDepths ∈ z_big := z_bigT 732 (by decide +kernel) rfl
theorem wi_445 : Cond.selects RX4 yX4_fewestByDepths yX4_fewestByDepths ∈ z_big := z_bigT 733 (by decide +kernel) rfl
theorem ok_X7_195 : z_okV RX7 195 yX4_fewestByDepths cX4_fewestByDepths 2 (some .int) 0 := ⟨⟨wi_443, wi_444, wi_445⟩, wi_221, wi_442, ⟨by decide, by decide, by decide +kernel⟩, by decide⟩
theorem wi_446 : Cond.code yX4_fewestByLevels cX4_fewestByLevels 5 (some .int) ∈ z_big := z_bigT 747 (by decide +kernel) rfl
theorem wi_447 : Cond.methodLink RX7 198 yX4_fewestByLevels ∈ z_big := z_bigT 744 (by decide +kernel) rfl
theorem wi_448 : Cond.instanceMethod yX4_fewestByLevels ∈ z_big := z_bigT 745 (by decide +kernel) rfl
theorem wi_449 : Cond.selects RX4 yX4_fewestByLevels yX4_fewestByLevels ∈ z_big := z_bigT 746 (by decide +kernel) rfl
theorem ok_X7_198 : z_okV RX7 198 yX4_fewestByLevels cX4_fewestByLevels 5 (some .int) 0 := ⟨⟨wi_447, wi_448, wi_449⟩, wi_221, wi_446, ⟨by decide, by decide, by decide +kernel⟩, by decide⟩
theorem wi_450 : Cond.methodLink RX7 209 yX2_size ∈ z_big := z_bigT 661 (by decide +kernel) rfl
theorem ok_X7_209 : z_okV RX7 209 yX2_size cX2_size 1 (some .int) 0 := ⟨⟨wi_450, wi_295, wi_296⟩, wi_159, wi_293, ⟨by decide, by decide, by decide +kernel⟩, by decide⟩
theorem wi_451 : Cond.methodLink RX7 212 yX7_setOf ∈ z_big := z_bigT 523 (by decide +kernel) rfl
theorem ok_X7_212 : z_okS RX7 212 yX7_setOf cX7_setOf 1 (some .long) 1 := ⟨⟨wi_451, wi_207⟩, wi_0, wi_206, ⟨by decide, by decide, by decide +kernel⟩, by decide⟩
end
section
/-! ===== small facts; at and put ===== -/
theorem z_inI {i : Int32} {n : Nat} (h0 : ¬ i < 0) (h1 : ¬ nI n ≤ i) (hn : n < 2 ^ 31) : vp_in i n := by
  rw [vp_in_iff]
  rw [Int32.lt_iff_toInt_lt, Int32.toInt_zero] at h0
  rw [Int32.le_iff_toInt_le, nI_toInt hn] at h1
  omega
theorem z_tab3 {x : Int32} (h0 : ¬ x = nI 0) (h1 : ¬ x = nI 1) (h2 : ¬ x = nI 2) : x.toInt < 0 ∨ 2 < x.toInt := by
  rw [← Int32.toInt_inj, nI_toInt (by decide)] at h0 h1 h2
  omega
theorem z_in63 (x : Int32) : vp_in (x &&& nI 63) 64 := pk_andIn x 6 (by decide) (by decide)
/-- an element, if the place is one; NONE otherwise -/
def z_atv (h : z_H) (o n : Nat) (i : Int32) : Int32 := if i < 0 then (-1) else if nI n ≤ i then (-1) else h.1 o i.toNatClampNeg
def z_putv (h : z_H) (o n : Nat) (i x : Int32) : z_H := if i < 0 then h else if nI n ≤ i then h else z_set h o i.toNatClampNeg x
theorem z_in_not {i : Int32} {n : Nat} (h : vp_in i n) (hn : n < 2 ^ 31) : ¬ i < 0 ∧ ¬ nI n ≤ i := by
  rw [vp_in_iff] at h
  rw [Int32.lt_iff_toInt_lt, Int32.toInt_zero, Int32.le_iff_toInt_le, nI_toInt hn]
  omega
theorem z_atv_in {h : z_H} {o n : Nat} {i : Int32} (hi : vp_in i n) (hn : n < 2 ^ 31) : z_atv h o n i = h.1 o i.toNatClampNeg := by
  obtain ⟨h1, h2⟩ := z_in_not hi hn
  rw [z_atv, if_neg h1, if_neg h2]
theorem z_putv_in {h : z_H} {o n : Nat} {i x : Int32} (hi : vp_in i n) (hn : n < 2 ^ 31) : z_putv h o n i x = z_set h o i.toNatClampNeg x := by
  obtain ⟨h1, h2⟩ := z_in_not hi hn
  rw [z_putv, if_neg h1, if_neg h2]
set_option maxHeartbeats 4000000 in
set_option maxRecDepth 100000 in
theorem sp_X7_at (l : Launch) (sh : z_Sh) (h : z_H) (o n : Nat) (ks : List Nat) (i : Int32) (hs : z_nth sh o = some (1, n, ks)) (hn : n < 2 ^ 31) : z_Sp l 0 yX7_at cX7_at 2 (some .int) [.ref o, .int i] sh h (fun rv h' => rv = some (.int (z_atv h o n i)) ∧ h' = h) := by
  refine z_enter ft_X7 (by decide +kernel) fo_X7 (Nat.le_of_ble_eq_true rfl) ?_
  intro p e R s m args below meth c D dA ad hB
  have hC := hB.1
  refine z_go hC (pc' := 1) (ls' := [some (.ref o), some (.int i)]) (st' := [.int i]) (h' := h) (cs := []) [.iload_n 1] (by decide +kernel) rfl rfl trivial ?_
  refine z_if_lt hC (off := 15) 16 (by decide +kernel) (by decide) (fun c1 => ?_) (fun c1 => ?_)
  · refine z_go hC (pc' := 17) (ls' := [some (.ref o), some (.int i)]) (st' := [.int (-1)]) (h' := h) (cs := []) [.iconst (-1)] (by decide +kernel) rfl rfl trivial ?_
    exact z_ret_i hB rfl (by decide +kernel) ⟨by rw [z_atv, if_pos c1], rfl⟩
  · refine z_go hC (pc' := 7) (ls' := [some (.ref o), some (.int i)]) (st' := [.int (nI n), .int i]) (h' := h) (cs := []) [.iload_n 1, .aload_n 0, .arraylength] (by decide +kernel) rfl (by simp [z_run, z_s1, z_ldI, z_ldA, z_nth, z_aln, hs]) trivial ?_
    refine z_icmp_ge hC (off := 9) 16 (by decide +kernel) (by decide) (fun c2 => ?_) (fun c2 => ?_)
    · refine z_go hC (pc' := 17) (ls' := [some (.ref o), some (.int i)]) (st' := [.int (-1)]) (h' := h) (cs := []) [.iconst (-1)] (by decide +kernel) rfl rfl trivial ?_
      exact z_ret_i hB rfl (by decide +kernel) ⟨by rw [z_atv, if_neg c1, if_pos c2], rfl⟩
    · refine z_go hC (pc' := 13) (ls' := [some (.ref o), some (.int i)]) (st' := [.int (h.1 o i.toNatClampNeg)]) (h' := h) (cs := [vp_in i n]) [.aload_n 0, .iload_n 1, .iaload] (by decide +kernel) rfl (by simp [z_run, z_s1, z_ldI, z_ldA, z_nth, z_ald, hs, z_av]) (z_inI c1 c2 hn) ?_
      refine z_goto hC (off := 4) 17 (by decide +kernel) (by decide) ?_
      exact z_ret_i hB rfl (by decide +kernel) ⟨by rw [z_atv, if_neg c1, if_neg c2], rfl⟩
theorem sp_X7_atI (l : Launch) (sh : z_Sh) (h : z_H) (o n : Nat) (ks : List Nat) (i : Int32) (hs : z_nth sh o = some (1, n, ks)) (hi : vp_in i n) (hn : n < 2 ^ 31 := by decide) : z_Sp l 0 yX7_at cX7_at 2 (some .int) [.ref o, .int i] sh h (fun rv h' => rv = some (.int (h.1 o i.toNatClampNeg)) ∧ h' = h) := by
  have := sp_X7_at l sh h o n ks i hs hn
  rw [z_atv_in hi hn] at this
  exact this
set_option maxHeartbeats 4000000 in
set_option maxRecDepth 100000 in
theorem sp_X7_put (l : Launch) (sh : z_Sh) (h : z_H) (o n : Nat) (ks : List Nat) (i x : Int32) (hs : z_nth sh o = some (1, n, ks)) (hn : n < 2 ^ 31) : z_Sp l 0 yX7_put cX7_put 3 none [.ref o, .int i, .int x] sh h (fun rv h' => rv = none ∧ h' = z_putv h o n i x) := by
  refine z_enter ft_X7 (by decide +kernel) fo_X7 (Nat.le_of_ble_eq_true rfl) ?_
  intro p e R s m args below meth c D dA ad hB
  have hC := hB.1
  refine z_go hC (pc' := 1) (ls' := [some (.ref o), some (.int i), some (.int x)]) (st' := [.int i]) (h' := h) (cs := []) [.iload_n 1] (by decide +kernel) rfl rfl trivial ?_
  refine z_if_lt hC (off := 13) 14 (by decide +kernel) (by decide) (fun c1 => ?_) (fun c1 => ?_)
  · exact z_ret_v hB rfl (by decide +kernel) ⟨rfl, by rw [z_putv, if_pos c1]⟩
  · refine z_go hC (pc' := 7) (ls' := [some (.ref o), some (.int i), some (.int x)]) (st' := [.int (nI n), .int i]) (h' := h) (cs := []) [.iload_n 1, .aload_n 0, .arraylength] (by decide +kernel) rfl (by simp [z_run, z_s1, z_ldI, z_ldA, z_nth, z_aln, hs]) trivial ?_
    refine z_icmp_ge hC (off := 7) 14 (by decide +kernel) (by decide) (fun c2 => ?_) (fun c2 => ?_)
    · exact z_ret_v hB rfl (by decide +kernel) ⟨rfl, by rw [z_putv, if_neg c1, if_pos c2]⟩
    · refine z_go hC (pc' := 14) (ls' := [some (.ref o), some (.int i), some (.int x)]) (st' := []) (h' := z_set h o i.toNatClampNeg x) (cs := [vp_in i n]) [.aload_n 0, .iload_n 1, .iload_n 2, .iastore] (by decide +kernel) rfl (by simp [z_run, z_s1, z_ldI, z_ldA, z_nth, z_ast, hs, z_ac]) (z_inI c1 c2 hn) ?_
      exact z_ret_v hB rfl (by decide +kernel) ⟨rfl, by rw [z_putv, if_neg c1, if_neg c2]⟩
theorem sp_X7_putI (l : Launch) (sh : z_Sh) (h : z_H) (o n : Nat) (ks : List Nat) (i x : Int32) (hs : z_nth sh o = some (1, n, ks)) (hi : vp_in i n) (hn : n < 2 ^ 31 := by decide) : z_Sp l 0 yX7_put cX7_put 3 none [.ref o, .int i, .int x] sh h (fun rv h' => rv = none ∧ h' = z_set h o i.toNatClampNeg x) := by
  have := sp_X7_put l sh h o n ks i x hs hn
  rw [z_putv_in hi hn] at this
  exact this
/-! ===== answers as functions ===== -/
abbrev z_R : Type := Option Value × z_H
def z_vi0 : Option Value → Int32
  | some (.int v) => v
  | _ => 0
def z_vi (r : z_R) : Int32 := z_vi0 r.1
def z_vl0 : Option Value → Int64
  | some (.long v) => v
  | _ => 0
def z_vl (r : z_R) : Int64 := z_vl0 r.1
def z_PI (r : z_R) : Option Value → z_H → Prop := fun rv h' => rv = some (.int (z_vi r)) ∧ h' = r.2
def z_PL (r : z_R) : Option Value → z_H → Prop := fun rv h' => rv = some (.long (z_vl r)) ∧ h' = r.2
def z_PB (r : z_R) : Option Value → z_H → Prop := fun rv h' => rv = some (.int (z_vi r)) ∧ h' = r.2 ∧ (z_vi r = 0 ∨ z_vi r = 1)
def z_PV (r : z_R) : Option Value → z_H → Prop := fun rv h' => rv = none ∧ h' = r.2
def z_QI (h : z_H) (r : Option Value) : Option Value → z_H → Prop := fun rv h' => rv = some (.int (z_vi0 r)) ∧ h' = h
def z_QL (h : z_H) (r : Option Value) : Option Value → z_H → Prop := fun rv h' => rv = some (.long (z_vl0 r)) ∧ h' = h
def z_QB (h : z_H) (r : Option Value) : Option Value → z_H → Prop := fun rv h' => rv = some (.int (z_vi0 r)) ∧ h' = h ∧ (z_vi0 r = 0 ∨ z_vi0 r = 1)
def z_QV (h : z_H) (_ : Option Value) : Option Value → z_H → Prop := fun rv h' => rv = none ∧ h' = h
theorem z_lfi {v : Int32} {hp : z_H} {r : z_R} (E : (some (.int v), hp) = r) : z_PI r (some (.int v)) hp := by subst E; exact ⟨rfl, rfl⟩
theorem z_lfl {v : Int64} {hp : z_H} {r : z_R} (E : (some (.long v), hp) = r) : z_PL r (some (.long v)) hp := by subst E; exact ⟨rfl, rfl⟩
theorem z_lfb {v : Int32} {hp : z_H} {r : z_R} (z : v = 0 ∨ v = 1) (E : (some (.int v), hp) = r) : z_PB r (some (.int v)) hp := by subst E; exact ⟨rfl, rfl, z⟩
theorem z_lfv {hp : z_H} {r : z_R} (E : (none, hp) = r) : z_PV r none hp := by subst E; exact ⟨rfl, rfl⟩
theorem z_lfi0 {v : Int32} {h : z_H} {r : Option Value} (E : some (.int v) = r) : z_QI h r (some (.int v)) h := by subst E; exact ⟨rfl, rfl⟩
theorem z_lfl0 {v : Int64} {h : z_H} {r : Option Value} (E : some (.long v) = r) : z_QL h r (some (.long v)) h := by subst E; exact ⟨rfl, rfl⟩
theorem z_lfb0 {v : Int32} {h : z_H} {r : Option Value} (z : v = 0 ∨ v = 1) (E : some (.int v) = r) : z_QB h r (some (.int v)) h := by subst E; exact ⟨rfl, rfl, z⟩
section ZG
variable {p : Program} {l : Launch} {e : Env} {R : Room} {s : State} {m : MethodId} {args : Array Value} {below : List Frame} {meth : Method} {c : Code} {D : va_G} {dA : Nat → ClassId} {A : Nat → Prop} {H0 : Heap} {nL : Nat} {ad : Nat → Nat} {Q : State → Prop}
theorem z_funb {k n pc : Nat} {ls : List (Option Value)} {rest : List Value} {sh : z_Sh} {h' g : z_H} {rv v : Option Value} {zb : Prop} (hq : rv = v ∧ h' = g ∧ zb) (kk : zb → z_Z p l e R s m args below meth c D dA A H0 nL ad Q k n pc ls (v.toList ++ rest) sh g) : z_Z p l e R s m args below meth c D dA A H0 nL ad Q k n pc ls (rv.toList ++ rest) sh h' := by
  rw [hq.1, hq.2.1]
  exact kk hq.2.2
end ZG
/-- the judgement within a contract's body -/
abbrev z_G (p : Program) (l : Launch) (e : Env) (R : Room) (s : State) (m : MethodId) (args : Array Value) (below : List Frame) (meth : Method) (c : Code) (D : va_G) (dA : Nat → ClassId) (ad : Nat → Nat) (nL : Nat) (Φ : Option Value → z_H → Prop) (sh : z_Sh) (pc : Nat) (ls : List (Option Value)) (st : List Value) (h : z_H) : Prop :=
  z_Z p l e R s m args below meth c D dA (z_A ad sh.length s.heap.size) s.heap nL ad (MQ below (z_Q D dA ad s.heap.size sh Φ) args s 0 0 (z_A ad sh.length s.heap.size)) 0 0 pc ls st sh h
end
section
/-! ===== printed by wip/p27/gen: leaf methods of the class, mirrored ===== -/
def fv_X7_setOf (x : Int32) : Int64 := 1 <<< (x.toInt64 &&& 63)
set_option maxHeartbeats 4000000 in
set_option maxRecDepth 100000 in
theorem sp_X7_setOf (l : Launch) (sh : z_Sh) (h : z_H) (x : Int32)  : z_Sp l 0 yX7_setOf cX7_setOf 1 (some .long) [.int x] (sh) h (fun rv h' => rv = some (.long (fv_X7_setOf x)) ∧ h' = h) := by
  refine z_enter ft_X7 (by decide +kernel) fo_X7 (Nat.le_of_ble_eq_true rfl) ?_
  intro p e R s m args below meth c D dA ad hB
  have hC := hB.1
  have hN := hB.2.1
  have hR := hB.2.2.1
  refine z_go hC (pc' := 3) (ls' := [some (.int x)]) (st' := [.long (1 <<< (x.toInt64 &&& 63))]) (h' := h) (cs := []) [.lconst 1, .iload_n 0, .lshl] (by decide +kernel) rfl rfl trivial ?_
  exact z_ret_l hB rfl (by decide +kernel) ⟨by rw [fv_X7_setOf], rfl⟩

def fv_X7_isIn (y : Int64) (x : Int32) : Int32 := if (lg_cmp (y &&& (fv_X7_setOf x)) 0) = 0 then nI 0 else nI 1
theorem zb_X7_isIn (y : Int64) (x : Int32) : fv_X7_isIn y x = 0 ∨ fv_X7_isIn y x = 1 := by unfold fv_X7_isIn; (repeat' split) <;> first | decide
set_option maxHeartbeats 4000000 in
set_option maxRecDepth 100000 in
theorem sp_X7_isIn (l : Launch) (sh : z_Sh) (h : z_H) (y : Int64) (x : Int32)  : z_Sp l 1 yX7_isIn cX7_isIn 3 (some .boolean) [.long y, .int x] (sh) h (fun rv h' => rv = some (.int (fv_X7_isIn y x)) ∧ h' = h) := by
  refine z_enter ft_X7 (by decide +kernel) fo_X7 (Nat.le_of_ble_eq_true rfl) ?_
  intro p e R s m args below meth c D dA ad hB
  have hC := hB.1
  have hN := hB.2.1
  have hR := hB.2.2.1
  refine z_go hC (pc' := 2) (ls' := [some (.long y), none, some (.int x)]) (st' := [.int x, .long y]) (h' := h) (cs := []) [.lload_n 0, .iload_n 2] (by decide +kernel) rfl rfl trivial ?_
  refine z_callS hC hN hR (as := [.int x]) (rest := [.long y]) ok_X7_212 (by decide +kernel) (sp_X7_setOf l _ h x) (Nat.le_of_ble_eq_true rfl) rfl rfl (Nat.le_of_ble_eq_true rfl) ⟨Nat.zero_le _, Nat.zero_le _⟩ (fun r1 h2 q3 => z_fun q3 ?_)
  refine z_go hC (pc' := 8) (ls' := [some (.long y), none, some (.int x)]) (st' := [.int (lg_cmp (y &&& (fv_X7_setOf x)) 0)]) (h' := h) (cs := []) [.land, .lconst 0, .lcmp] (by decide +kernel) rfl rfl trivial ?_
  refine z_if_eq hC (off := 7) 15 (by decide +kernel) (by decide) (fun c4 => ?_) (fun c4 => ?_)
  · skip
    refine z_go hC (pc' := 16) (ls' := [some (.long y), none, some (.int x)]) (st' := [.int (nI 0)]) (h' := h) (cs := []) [.iconst 0] (by decide +kernel) rfl rfl trivial ?_
    exact z_ret_z hB rfl (by decide) (by decide +kernel) ⟨by rw [fv_X7_isIn, if_pos c4], rfl⟩
  · skip
    refine z_go hC (pc' := 12) (ls' := [some (.long y), none, some (.int x)]) (st' := [.int (nI 1)]) (h' := h) (cs := []) [.iconst 1] (by decide +kernel) rfl rfl trivial ?_
    refine z_goto hC (off := 4) 16 (by decide +kernel) (by decide) ?_
    exact z_ret_z hB rfl (by decide) (by decide +kernel) ⟨by rw [fv_X7_isIn, if_neg c4], rfl⟩

def fv_X0_blockOf (x : Int32) : Int32 := ((nI 3) * ((x / (nI 6)) / (nI 2))) + ((x - x / (nI 6) * (nI 6)) / (nI 2))
set_option maxHeartbeats 4000000 in
set_option maxRecDepth 100000 in
theorem sp_X0_blockOf (l : Launch) (sh : z_Sh) (h : z_H) (x : Int32)  : z_Sp l 0 yX0_blockOf cX0_blockOf 3 (some .int) [.int x] (sh) h (fun rv h' => rv = some (.int (fv_X0_blockOf x)) ∧ h' = h) := by
  refine z_enter ft_X0 (by decide +kernel) fo_X0 (Nat.le_of_ble_eq_true rfl) ?_
  intro p e R s m args below meth c D dA ad hB
  have hC := hB.1
  have hN := hB.2.1
  have hR := hB.2.2.1
  refine z_go hC (pc' := 19) (ls' := [some (.int x), some (.int ((x / (nI 6)) / (nI 2))), some (.int ((x - x / (nI 6) * (nI 6)) / (nI 2)))]) (st' := [.int (((nI 3) * ((x / (nI 6)) / (nI 2))) + ((x - x / (nI 6) * (nI 6)) / (nI 2)))]) (h' := h) (cs := [¬ (nI 6) = 0, ¬ (nI 2) = 0, ¬ (nI 6) = 0, ¬ (nI 2) = 0]) [.iload_n 0, .bipush 6, .idiv, .iconst 2, .idiv, .istore_n 1, .iload_n 0, .bipush 6, .irem, .iconst 2, .idiv, .istore_n 2, .iconst 3, .iload_n 1, .imul, .iload_n 2, .iadd] (by decide +kernel) rfl rfl ⟨(show ¬ (nI 6) = 0 by decide), (show ¬ (nI 2) = 0 by decide), (show ¬ (nI 6) = 0 by decide), (show ¬ (nI 2) = 0 by decide)⟩ ?_
  exact z_ret_i hB rfl (by decide +kernel) ⟨by rw [fv_X0_blockOf], rfl⟩

def fv_X0_upperLeftOf (x : Int32) : Int32 := ((nI 12) * (x / (nI 3))) + ((nI 2) * (x - x / (nI 3) * (nI 3)))
set_option maxHeartbeats 4000000 in
set_option maxRecDepth 100000 in
theorem sp_X0_upperLeftOf (l : Launch) (sh : z_Sh) (h : z_H) (x : Int32)  : z_Sp l 0 yX0_upperLeftOf cX0_upperLeftOf 3 (some .int) [.int x] (sh) h (fun rv h' => rv = some (.int (fv_X0_upperLeftOf x)) ∧ h' = h) := by
  refine z_enter ft_X0 (by decide +kernel) fo_X0 (Nat.le_of_ble_eq_true rfl) ?_
  intro p e R s m args below meth c D dA ad hB
  have hC := hB.1
  have hN := hB.2.1
  have hR := hB.2.2.1
  refine z_go hC (pc' := 16) (ls' := [some (.int x), some (.int (x / (nI 3))), some (.int (x - x / (nI 3) * (nI 3)))]) (st' := [.int (((nI 12) * (x / (nI 3))) + ((nI 2) * (x - x / (nI 3) * (nI 3))))]) (h' := h) (cs := [¬ (nI 3) = 0, ¬ (nI 3) = 0]) [.iload_n 0, .iconst 3, .idiv, .istore_n 1, .iload_n 0, .iconst 3, .irem, .istore_n 2, .bipush 12, .iload_n 1, .imul, .iconst 2, .iload_n 2, .imul, .iadd] (by decide +kernel) rfl rfl ⟨(show ¬ (nI 3) = 0 by decide), (show ¬ (nI 3) = 0 by decide)⟩ ?_
  exact z_ret_i hB rfl (by decide +kernel) ⟨by rw [fv_X0_upperLeftOf], rfl⟩

def fv_X0_firstBlockOf (x : Int32) : Int32 := if x < (nI 6) then ((nI 3) * (x / (nI 2))) + (x - x / (nI 2) * (nI 2)) else x - (nI 6)
set_option maxHeartbeats 4000000 in
set_option maxRecDepth 100000 in
theorem sp_X0_firstBlockOf (l : Launch) (sh : z_Sh) (h : z_H) (x : Int32)  : z_Sp l 0 yX0_firstBlockOf cX0_firstBlockOf 1 (some .int) [.int x] (sh) h (fun rv h' => rv = some (.int (fv_X0_firstBlockOf x)) ∧ h' = h) := by
  refine z_enter ft_X0 (by decide +kernel) fo_X0 (Nat.le_of_ble_eq_true rfl) ?_
  intro p e R s m args below meth c D dA ad hB
  have hC := hB.1
  have hN := hB.2.1
  have hR := hB.2.2.1
  refine z_go hC (pc' := 3) (ls' := [some (.int x)]) (st' := [.int (nI 6), .int x]) (h' := h) (cs := []) [.iload_n 0, .bipush 6] (by decide +kernel) rfl rfl trivial ?_
  refine z_icmp_lt hC (off := 8) 11 (by decide +kernel) (by decide) (fun c1 => ?_) (fun c1 => ?_)
  · skip
    refine z_go hC (pc' := 20) (ls' := [some (.int x)]) (st' := [.int (((nI 3) * (x / (nI 2))) + (x - x / (nI 2) * (nI 2)))]) (h' := h) (cs := [¬ (nI 2) = 0, ¬ (nI 2) = 0]) [.iconst 3, .iload_n 0, .iconst 2, .idiv, .imul, .iload_n 0, .iconst 2, .irem, .iadd] (by decide +kernel) rfl rfl ⟨(show ¬ (nI 2) = 0 by decide), (show ¬ (nI 2) = 0 by decide)⟩ ?_
    exact z_ret_i hB rfl (by decide +kernel) ⟨by rw [fv_X0_firstBlockOf, if_pos c1], rfl⟩
  · skip
    refine z_go hC (pc' := 10) (ls' := [some (.int x)]) (st' := [.int (x - (nI 6))]) (h' := h) (cs := []) [.iload_n 0, .bipush 6, .isub] (by decide +kernel) rfl rfl trivial ?_
    exact z_ret_i hB rfl (by decide +kernel) ⟨by rw [fv_X0_firstBlockOf, if_neg c1], rfl⟩

def fv_X0_secondBlockOf (x : Int32) : Int32 := if x < (nI 6) then (fv_X0_firstBlockOf x) + (nI 1) else (fv_X0_firstBlockOf x) + (nI 3)
set_option maxHeartbeats 4000000 in
set_option maxRecDepth 100000 in
theorem sp_X0_secondBlockOf (l : Launch) (sh : z_Sh) (h : z_H) (x : Int32)  : z_Sp l 1 yX0_secondBlockOf cX0_secondBlockOf 1 (some .int) [.int x] (sh) h (fun rv h' => rv = some (.int (fv_X0_secondBlockOf x)) ∧ h' = h) := by
  refine z_enter ft_X0 (by decide +kernel) fo_X0 (Nat.le_of_ble_eq_true rfl) ?_
  intro p e R s m args below meth c D dA ad hB
  have hC := hB.1
  have hN := hB.2.1
  have hR := hB.2.2.1
  refine z_go hC (pc' := 1) (ls' := [some (.int x)]) (st' := [.int x]) (h' := h) (cs := []) [.iload_n 0] (by decide +kernel) rfl rfl trivial ?_
  refine z_callS hC hN hR (as := [.int x]) (rest := []) ok_X0_18 (by decide +kernel) (sp_X0_firstBlockOf l _ h x) (Nat.le_of_ble_eq_true rfl) rfl rfl (Nat.le_of_ble_eq_true rfl) ⟨Nat.zero_le _, Nat.zero_le _⟩ (fun r1 h2 q3 => z_fun q3 ?_)
  refine z_go hC (pc' := 7) (ls' := [some (.int x)]) (st' := [.int (nI 6), .int x, .int (fv_X0_firstBlockOf x)]) (h' := h) (cs := []) [.iload_n 0, .bipush 6] (by decide +kernel) rfl rfl trivial ?_
  refine z_icmp_lt hC (off := 7) 14 (by decide +kernel) (by decide) (fun c4 => ?_) (fun c4 => ?_)
  · skip
    refine z_go hC (pc' := 16) (ls' := [some (.int x)]) (st' := [.int ((fv_X0_firstBlockOf x) + (nI 1))]) (h' := h) (cs := []) [.iconst 1, .iadd] (by decide +kernel) rfl rfl trivial ?_
    exact z_ret_i hB rfl (by decide +kernel) ⟨by rw [fv_X0_secondBlockOf, if_pos c4], rfl⟩
  · skip
    refine z_go hC (pc' := 11) (ls' := [some (.int x)]) (st' := [.int (nI 3), .int (fv_X0_firstBlockOf x)]) (h' := h) (cs := []) [.iconst 3] (by decide +kernel) rfl rfl trivial ?_
    refine z_goto hC (off := 4) 15 (by decide +kernel) (by decide) ?_
    refine z_go hC (pc' := 16) (ls' := [some (.int x)]) (st' := [.int ((fv_X0_firstBlockOf x) + (nI 3))]) (h' := h) (cs := []) [.iadd] (by decide +kernel) rfl rfl trivial ?_
    exact z_ret_i hB rfl (by decide +kernel) ⟨by rw [fv_X0_secondBlockOf, if_neg c4], rfl⟩

def fv_X0_linkOutOf (x : Int32) (y : Int32) : Int32 := if y = nI 0 then if (x / (nI 3)) ≤ 0 then (-1) else ((nI 6) + x) - (nI 3) else if y = nI 1 then if (nI 2) ≤ (x - x / (nI 3) * (nI 3)) then (-1) else ((nI 2) * (x / (nI 3))) + (x - x / (nI 3) * (nI 3)) else if y = nI 2 then if (nI 2) ≤ (x / (nI 3)) then (-1) else (nI 6) + x else if (x - x / (nI 3) * (nI 3)) ≤ 0 then (-1) else (((nI 2) * (x / (nI 3))) + (x - x / (nI 3) * (nI 3))) - (nI 1)
set_option maxHeartbeats 4000000 in
set_option maxRecDepth 100000 in
theorem sp_X0_linkOutOf (l : Launch) (sh : z_Sh) (h : z_H) (x : Int32) (y : Int32)  : z_Sp l 0 yX0_linkOutOf cX0_linkOutOf 4 (some .int) [.int x, .int y] (sh) h (fun rv h' => rv = some (.int (fv_X0_linkOutOf x y)) ∧ h' = h) := by
  refine z_enter ft_X0 (by decide +kernel) fo_X0 (Nat.le_of_ble_eq_true rfl) ?_
  intro p e R s m args below meth c D dA ad hB
  have hC := hB.1
  have hN := hB.2.1
  have hR := hB.2.2.1
  refine z_go hC (pc' := 9) (ls' := [some (.int x), some (.int y), some (.int (x / (nI 3))), some (.int (x - x / (nI 3) * (nI 3)))]) (st' := [.int y]) (h' := h) (cs := [¬ (nI 3) = 0, ¬ (nI 3) = 0]) [.iload_n 0, .iconst 3, .idiv, .istore_n 2, .iload_n 0, .iconst 3, .irem, .istore_n 3, .iload_n 1] (by decide +kernel) rfl rfl ⟨(show ¬ (nI 3) = 0 by decide), (show ¬ (nI 3) = 0 by decide)⟩ ?_
  by_cases c1 : y = nI 0
  · skip
    refine z_tabIn hC (dflt := 71) (lo := 0) (hi := 2) (offs := #[27, 42, 57]) (len := 27) (off := 27) 36 (by decide +kernel) (by rw [c1]; decide) (by rw [c1]; decide) (by rw [c1]; rfl) (by decide) ?_
    refine z_go hC (pc' := 37) (ls' := [some (.int x), some (.int y), some (.int (x / (nI 3))), some (.int (x - x / (nI 3) * (nI 3)))]) (st' := [.int (x / (nI 3))]) (h' := h) (cs := []) [.iload_n 2] (by decide +kernel) rfl rfl trivial ?_
    refine z_if_le hC (off := 12) 49 (by decide +kernel) (by decide) (fun c2 => ?_) (fun c2 => ?_)
    · skip
      refine z_go hC (pc' := 50) (ls' := [some (.int x), some (.int y), some (.int (x / (nI 3))), some (.int (x - x / (nI 3) * (nI 3)))]) (st' := [.int (-1)]) (h' := h) (cs := []) [.iconst (-1)] (by decide +kernel) rfl rfl trivial ?_
      exact z_ret_i hB rfl (by decide +kernel) ⟨by rw [fv_X0_linkOutOf, if_pos c1, if_pos c2], rfl⟩
    · skip
      refine z_go hC (pc' := 46) (ls' := [some (.int x), some (.int y), some (.int (x / (nI 3))), some (.int (x - x / (nI 3) * (nI 3)))]) (st' := [.int (((nI 6) + x) - (nI 3))]) (h' := h) (cs := []) [.bipush 6, .iload_n 0, .iadd, .iconst 3, .isub] (by decide +kernel) rfl rfl trivial ?_
      refine z_goto hC (off := 4) 50 (by decide +kernel) (by decide) ?_
      exact z_ret_i hB rfl (by decide +kernel) ⟨by rw [fv_X0_linkOutOf, if_pos c1, if_neg c2], rfl⟩
  by_cases c3 : y = nI 1
  · skip
    refine z_tabIn hC (dflt := 71) (lo := 0) (hi := 2) (offs := #[27, 42, 57]) (len := 27) (off := 42) 51 (by decide +kernel) (by rw [c3]; decide) (by rw [c3]; decide) (by rw [c3]; rfl) (by decide) ?_
    refine z_go hC (pc' := 53) (ls' := [some (.int x), some (.int y), some (.int (x / (nI 3))), some (.int (x - x / (nI 3) * (nI 3)))]) (st' := [.int (nI 2), .int (x - x / (nI 3) * (nI 3))]) (h' := h) (cs := []) [.iload_n 3, .iconst 2] (by decide +kernel) rfl rfl trivial ?_
    refine z_icmp_ge hC (off := 11) 64 (by decide +kernel) (by decide) (fun c4 => ?_) (fun c4 => ?_)
    · skip
      refine z_go hC (pc' := 65) (ls' := [some (.int x), some (.int y), some (.int (x / (nI 3))), some (.int (x - x / (nI 3) * (nI 3)))]) (st' := [.int (-1)]) (h' := h) (cs := []) [.iconst (-1)] (by decide +kernel) rfl rfl trivial ?_
      exact z_ret_i hB rfl (by decide +kernel) ⟨by rw [fv_X0_linkOutOf, if_neg c1, if_pos c3, if_pos c4], rfl⟩
    · skip
      refine z_go hC (pc' := 61) (ls' := [some (.int x), some (.int y), some (.int (x / (nI 3))), some (.int (x - x / (nI 3) * (nI 3)))]) (st' := [.int (((nI 2) * (x / (nI 3))) + (x - x / (nI 3) * (nI 3)))]) (h' := h) (cs := []) [.iconst 2, .iload_n 2, .imul, .iload_n 3, .iadd] (by decide +kernel) rfl rfl trivial ?_
      refine z_goto hC (off := 4) 65 (by decide +kernel) (by decide) ?_
      exact z_ret_i hB rfl (by decide +kernel) ⟨by rw [fv_X0_linkOutOf, if_neg c1, if_pos c3, if_neg c4], rfl⟩
  by_cases c5 : y = nI 2
  · skip
    refine z_tabIn hC (dflt := 71) (lo := 0) (hi := 2) (offs := #[27, 42, 57]) (len := 27) (off := 57) 66 (by decide +kernel) (by rw [c5]; decide) (by rw [c5]; decide) (by rw [c5]; rfl) (by decide) ?_
    refine z_go hC (pc' := 68) (ls' := [some (.int x), some (.int y), some (.int (x / (nI 3))), some (.int (x - x / (nI 3) * (nI 3)))]) (st' := [.int (nI 2), .int (x / (nI 3))]) (h' := h) (cs := []) [.iload_n 2, .iconst 2] (by decide +kernel) rfl rfl trivial ?_
    refine z_icmp_ge hC (off := 10) 78 (by decide +kernel) (by decide) (fun c6 => ?_) (fun c6 => ?_)
    · skip
      refine z_go hC (pc' := 79) (ls' := [some (.int x), some (.int y), some (.int (x / (nI 3))), some (.int (x - x / (nI 3) * (nI 3)))]) (st' := [.int (-1)]) (h' := h) (cs := []) [.iconst (-1)] (by decide +kernel) rfl rfl trivial ?_
      exact z_ret_i hB rfl (by decide +kernel) ⟨by rw [fv_X0_linkOutOf, if_neg c1, if_neg c3, if_pos c5, if_pos c6], rfl⟩
    · skip
      refine z_go hC (pc' := 75) (ls' := [some (.int x), some (.int y), some (.int (x / (nI 3))), some (.int (x - x / (nI 3) * (nI 3)))]) (st' := [.int ((nI 6) + x)]) (h' := h) (cs := []) [.bipush 6, .iload_n 0, .iadd] (by decide +kernel) rfl rfl trivial ?_
      refine z_goto hC (off := 4) 79 (by decide +kernel) (by decide) ?_
      exact z_ret_i hB rfl (by decide +kernel) ⟨by rw [fv_X0_linkOutOf, if_neg c1, if_neg c3, if_pos c5, if_neg c6], rfl⟩
  refine z_tabOut hC (dflt := 71) (lo := 0) (hi := 2) (offs := #[27, 42, 57]) (len := 27) 80 (by decide +kernel) (z_tab3 c1 c3 c5) (by decide) ?_
  refine z_go hC (pc' := 81) (ls' := [some (.int x), some (.int y), some (.int (x / (nI 3))), some (.int (x - x / (nI 3) * (nI 3)))]) (st' := [.int (x - x / (nI 3) * (nI 3))]) (h' := h) (cs := []) [.iload_n 3] (by decide +kernel) rfl rfl trivial ?_
  refine z_if_le hC (off := 13) 94 (by decide +kernel) (by decide) (fun c7 => ?_) (fun c7 => ?_)
  · skip
    refine z_go hC (pc' := 95) (ls' := [some (.int x), some (.int y), some (.int (x / (nI 3))), some (.int (x - x / (nI 3) * (nI 3)))]) (st' := [.int (-1)]) (h' := h) (cs := []) [.iconst (-1)] (by decide +kernel) rfl rfl trivial ?_
    exact z_ret_i hB rfl (by decide +kernel) ⟨by rw [fv_X0_linkOutOf, if_neg c1, if_neg c3, if_neg c5, if_pos c7], rfl⟩
  · skip
    refine z_go hC (pc' := 91) (ls' := [some (.int x), some (.int y), some (.int (x / (nI 3))), some (.int (x - x / (nI 3) * (nI 3)))]) (st' := [.int ((((nI 2) * (x / (nI 3))) + (x - x / (nI 3) * (nI 3))) - (nI 1))]) (h' := h) (cs := []) [.iconst 2, .iload_n 2, .imul, .iload_n 3, .iadd, .iconst 1, .isub] (by decide +kernel) rfl rfl trivial ?_
    refine z_goto hC (off := 4) 95 (by decide +kernel) (by decide) ?_
    exact z_ret_i hB rfl (by decide +kernel) ⟨by rw [fv_X0_linkOutOf, if_neg c1, if_neg c3, if_neg c5, if_neg c7], rfl⟩

def fv_X0_cellBeside (x : Int32) (y : Int32) : Int32 := if y = nI 0 then if x < (nI 6) then (-1) else x - (nI 6) else if y = nI 1 then if (nI 5) ≤ (x - x / (nI 6) * (nI 6)) then (-1) else x + (nI 1) else if y = nI 2 then if (nI 30) ≤ x then (-1) else x + (nI 6) else if (x - x / (nI 6) * (nI 6)) ≤ 0 then (-1) else x - (nI 1)
set_option maxHeartbeats 4000000 in
set_option maxRecDepth 100000 in
theorem sp_X0_cellBeside (l : Launch) (sh : z_Sh) (h : z_H) (x : Int32) (y : Int32)  : z_Sp l 0 yX0_cellBeside cX0_cellBeside 3 (some .int) [.int x, .int y] (sh) h (fun rv h' => rv = some (.int (fv_X0_cellBeside x y)) ∧ h' = h) := by
  refine z_enter ft_X0 (by decide +kernel) fo_X0 (Nat.le_of_ble_eq_true rfl) ?_
  intro p e R s m args below meth c D dA ad hB
  have hC := hB.1
  have hN := hB.2.1
  have hR := hB.2.2.1
  refine z_go hC (pc' := 6) (ls' := [some (.int x), some (.int y), some (.int (x - x / (nI 6) * (nI 6)))]) (st' := [.int y]) (h' := h) (cs := [¬ (nI 6) = 0]) [.iload_n 0, .bipush 6, .irem, .istore_n 2, .iload_n 1] (by decide +kernel) rfl rfl (show ¬ (nI 6) = 0 by decide) ?_
  by_cases c1 : y = nI 0
  · skip
    refine z_tabIn hC (dflt := 69) (lo := 0) (hi := 2) (offs := #[26, 41, 54]) (len := 26) (off := 26) 32 (by decide +kernel) (by rw [c1]; decide) (by rw [c1]; decide) (by rw [c1]; rfl) (by decide) ?_
    refine z_go hC (pc' := 35) (ls' := [some (.int x), some (.int y), some (.int (x - x / (nI 6) * (nI 6)))]) (st' := [.int (nI 6), .int x]) (h' := h) (cs := []) [.iload_n 0, .bipush 6] (by decide +kernel) rfl rfl trivial ?_
    refine z_icmp_lt hC (off := 10) 45 (by decide +kernel) (by decide) (fun c2 => ?_) (fun c2 => ?_)
    · skip
      refine z_go hC (pc' := 46) (ls' := [some (.int x), some (.int y), some (.int (x - x / (nI 6) * (nI 6)))]) (st' := [.int (-1)]) (h' := h) (cs := []) [.iconst (-1)] (by decide +kernel) rfl rfl trivial ?_
      exact z_ret_i hB rfl (by decide +kernel) ⟨by rw [fv_X0_cellBeside, if_pos c1, if_pos c2], rfl⟩
    · skip
      refine z_go hC (pc' := 42) (ls' := [some (.int x), some (.int y), some (.int (x - x / (nI 6) * (nI 6)))]) (st' := [.int (x - (nI 6))]) (h' := h) (cs := []) [.iload_n 0, .bipush 6, .isub] (by decide +kernel) rfl rfl trivial ?_
      refine z_goto hC (off := 4) 46 (by decide +kernel) (by decide) ?_
      exact z_ret_i hB rfl (by decide +kernel) ⟨by rw [fv_X0_cellBeside, if_pos c1, if_neg c2], rfl⟩
  by_cases c3 : y = nI 1
  · skip
    refine z_tabIn hC (dflt := 69) (lo := 0) (hi := 2) (offs := #[26, 41, 54]) (len := 26) (off := 41) 47 (by decide +kernel) (by rw [c3]; decide) (by rw [c3]; decide) (by rw [c3]; rfl) (by decide) ?_
    refine z_go hC (pc' := 49) (ls' := [some (.int x), some (.int y), some (.int (x - x / (nI 6) * (nI 6)))]) (st' := [.int (nI 5), .int (x - x / (nI 6) * (nI 6))]) (h' := h) (cs := []) [.iload_n 2, .iconst 5] (by decide +kernel) rfl rfl trivial ?_
    refine z_icmp_ge hC (off := 9) 58 (by decide +kernel) (by decide) (fun c4 => ?_) (fun c4 => ?_)
    · skip
      refine z_go hC (pc' := 59) (ls' := [some (.int x), some (.int y), some (.int (x - x / (nI 6) * (nI 6)))]) (st' := [.int (-1)]) (h' := h) (cs := []) [.iconst (-1)] (by decide +kernel) rfl rfl trivial ?_
      exact z_ret_i hB rfl (by decide +kernel) ⟨by rw [fv_X0_cellBeside, if_neg c1, if_pos c3, if_pos c4], rfl⟩
    · skip
      refine z_go hC (pc' := 55) (ls' := [some (.int x), some (.int y), some (.int (x - x / (nI 6) * (nI 6)))]) (st' := [.int (x + (nI 1))]) (h' := h) (cs := []) [.iload_n 0, .iconst 1, .iadd] (by decide +kernel) rfl rfl trivial ?_
      refine z_goto hC (off := 4) 59 (by decide +kernel) (by decide) ?_
      exact z_ret_i hB rfl (by decide +kernel) ⟨by rw [fv_X0_cellBeside, if_neg c1, if_pos c3, if_neg c4], rfl⟩
  by_cases c5 : y = nI 2
  · skip
    refine z_tabIn hC (dflt := 69) (lo := 0) (hi := 2) (offs := #[26, 41, 54]) (len := 26) (off := 54) 60 (by decide +kernel) (by rw [c5]; decide) (by rw [c5]; decide) (by rw [c5]; rfl) (by decide) ?_
    refine z_go hC (pc' := 63) (ls' := [some (.int x), some (.int y), some (.int (x - x / (nI 6) * (nI 6)))]) (st' := [.int (nI 30), .int x]) (h' := h) (cs := []) [.iload_n 0, .bipush 30] (by decide +kernel) rfl rfl trivial ?_
    refine z_icmp_ge hC (off := 10) 73 (by decide +kernel) (by decide) (fun c6 => ?_) (fun c6 => ?_)
    · skip
      refine z_go hC (pc' := 74) (ls' := [some (.int x), some (.int y), some (.int (x - x / (nI 6) * (nI 6)))]) (st' := [.int (-1)]) (h' := h) (cs := []) [.iconst (-1)] (by decide +kernel) rfl rfl trivial ?_
      exact z_ret_i hB rfl (by decide +kernel) ⟨by rw [fv_X0_cellBeside, if_neg c1, if_neg c3, if_pos c5, if_pos c6], rfl⟩
    · skip
      refine z_go hC (pc' := 70) (ls' := [some (.int x), some (.int y), some (.int (x - x / (nI 6) * (nI 6)))]) (st' := [.int (x + (nI 6))]) (h' := h) (cs := []) [.iload_n 0, .bipush 6, .iadd] (by decide +kernel) rfl rfl trivial ?_
      refine z_goto hC (off := 4) 74 (by decide +kernel) (by decide) ?_
      exact z_ret_i hB rfl (by decide +kernel) ⟨by rw [fv_X0_cellBeside, if_neg c1, if_neg c3, if_pos c5, if_neg c6], rfl⟩
  refine z_tabOut hC (dflt := 69) (lo := 0) (hi := 2) (offs := #[26, 41, 54]) (len := 26) 75 (by decide +kernel) (z_tab3 c1 c3 c5) (by decide) ?_
  refine z_go hC (pc' := 76) (ls' := [some (.int x), some (.int y), some (.int (x - x / (nI 6) * (nI 6)))]) (st' := [.int (x - x / (nI 6) * (nI 6))]) (h' := h) (cs := []) [.iload_n 2] (by decide +kernel) rfl rfl trivial ?_
  refine z_if_le hC (off := 9) 85 (by decide +kernel) (by decide) (fun c7 => ?_) (fun c7 => ?_)
  · skip
    refine z_go hC (pc' := 86) (ls' := [some (.int x), some (.int y), some (.int (x - x / (nI 6) * (nI 6)))]) (st' := [.int (-1)]) (h' := h) (cs := []) [.iconst (-1)] (by decide +kernel) rfl rfl trivial ?_
    exact z_ret_i hB rfl (by decide +kernel) ⟨by rw [fv_X0_cellBeside, if_neg c1, if_neg c3, if_neg c5, if_pos c7], rfl⟩
  · skip
    refine z_go hC (pc' := 82) (ls' := [some (.int x), some (.int y), some (.int (x - x / (nI 6) * (nI 6)))]) (st' := [.int (x - (nI 1))]) (h' := h) (cs := []) [.iload_n 0, .iconst 1, .isub] (by decide +kernel) rfl rfl trivial ?_
    refine z_goto hC (off := 4) 86 (by decide +kernel) (by decide) ?_
    exact z_ret_i hB rfl (by decide +kernel) ⟨by rw [fv_X0_cellBeside, if_neg c1, if_neg c3, if_neg c5, if_neg c7], rfl⟩

def z_bc1 (x : Int32) : Int32 := x - (((x.toUInt32 >>> ((nI 1).toUInt32 &&& Int32.toUInt32 31)).toInt32) &&& (1431655765))
def z_bc2 (x : Int32) : Int32 := (x &&& (858993459)) + (((x.toUInt32 >>> ((nI 2).toUInt32 &&& Int32.toUInt32 31)).toInt32) &&& (858993459))
def z_bc3 (x : Int32) : Int32 := (x + ((x.toUInt32 >>> ((nI 4).toUInt32 &&& Int32.toUInt32 31)).toInt32)) &&& (252645135)
def z_bc4 (x : Int32) : Int32 := x + ((x.toUInt32 >>> ((nI 8).toUInt32 &&& Int32.toUInt32 31)).toInt32)
def z_bc5 (x : Int32) : Int32 := x + ((x.toUInt32 >>> ((nI 16).toUInt32 &&& Int32.toUInt32 31)).toInt32)
def fv_J6_bitCount_0f7a4 (x : Int32) : Int32 := (z_bc5 (z_bc4 (z_bc3 (z_bc2 (z_bc1 x))))) &&& (nI 63)
set_option maxHeartbeats 4000000 in
set_option maxRecDepth 100000 in
theorem sp_J6_bitCount_0f7a4 (l : Launch) (sh : z_Sh) (h : z_H) (x : Int32)  : z_Sp l 0 yJ6_bitCount_0f7a4 cJ6_bitCount_0f7a4 1 (some .int) [.int x] (sh) h (fun rv h' => rv = some (.int (fv_J6_bitCount_0f7a4 x)) ∧ h' = h) := by
  refine z_enter ft_J6 (by decide +kernel) fo_J6 (Nat.le_of_ble_eq_true rfl) ?_
  intro p e R s m args below meth c D dA ad hB
  have hC := hB.1
  have hN := hB.2.1
  have hR := hB.2.2.1
  refine z_go hC (pc' := 4) (ls' := [some (.int x)]) (st' := [.int ((x.toUInt32 >>> ((nI 1).toUInt32 &&& Int32.toUInt32 31)).toInt32), .int x]) (h' := h) (cs := []) [.iload_n 0, .iload_n 0, .iconst 1, .iushr] (by decide +kernel) rfl rfl trivial ?_
  refine z_ldcw hC (idx := 265) (v := 1431655765) (by decide +kernel) (by decide +kernel) ?_
  refine z_go hC (pc' := 11) (ls' := [some (.int (z_bc1 x))]) (st' := [.int (z_bc1 x)]) (h' := h) (cs := []) [.iand, .isub, .istore_n 0, .iload_n 0] (by decide +kernel) rfl rfl trivial ?_
  refine z_ldcw hC (idx := 266) (v := 858993459) (by decide +kernel) (by decide +kernel) ?_
  refine z_go hC (pc' := 18) (ls' := [some (.int (z_bc1 x))]) (st' := [.int (((z_bc1 x).toUInt32 >>> ((nI 2).toUInt32 &&& Int32.toUInt32 31)).toInt32), .int ((z_bc1 x) &&& (858993459))]) (h' := h) (cs := []) [.iand, .iload_n 0, .iconst 2, .iushr] (by decide +kernel) rfl rfl trivial ?_
  refine z_ldcw hC (idx := 266) (v := 858993459) (by decide +kernel) (by decide +kernel) ?_
  refine z_go hC (pc' := 29) (ls' := [some (.int (z_bc2 (z_bc1 x)))]) (st' := [.int ((z_bc2 (z_bc1 x)) + (((z_bc2 (z_bc1 x)).toUInt32 >>> ((nI 4).toUInt32 &&& Int32.toUInt32 31)).toInt32))]) (h' := h) (cs := []) [.iand, .iadd, .istore_n 0, .iload_n 0, .iload_n 0, .iconst 4, .iushr, .iadd] (by decide +kernel) rfl rfl trivial ?_
  refine z_ldcw hC (idx := 267) (v := 252645135) (by decide +kernel) (by decide +kernel) ?_
  refine z_go hC (pc' := 52) (ls' := [some (.int (z_bc5 (z_bc4 (z_bc3 (z_bc2 (z_bc1 x))))))]) (st' := [.int ((z_bc5 (z_bc4 (z_bc3 (z_bc2 (z_bc1 x))))) &&& (nI 63))]) (h' := h) (cs := []) [.iand, .istore_n 0, .iload_n 0, .iload_n 0, .bipush 8, .iushr, .iadd, .istore_n 0, .iload_n 0, .iload_n 0, .bipush 16, .iushr, .iadd, .istore_n 0, .iload_n 0, .bipush 63, .iand] (by decide +kernel) rfl rfl trivial ?_
  exact z_ret_i hB rfl (by decide +kernel) ⟨by rw [fv_J6_bitCount_0f7a4], rfl⟩

def fv_X1_directionIn (x : Int32) (y : Int32) : Int32 := ((x.toUInt32 >>> (((nI 2) * y).toUInt32 &&& Int32.toUInt32 31)).toInt32) &&& (nI 3)
set_option maxHeartbeats 4000000 in
set_option maxRecDepth 100000 in
theorem sp_X1_directionIn (l : Launch) (sh : z_Sh) (h : z_H) (x : Int32) (y : Int32)  : z_Sp l 0 yX1_directionIn cX1_directionIn 2 (some .int) [.int x, .int y] (sh) h (fun rv h' => rv = some (.int (fv_X1_directionIn x y)) ∧ h' = h) := by
  refine z_enter ft_X1 (by decide +kernel) fo_X1 (Nat.le_of_ble_eq_true rfl) ?_
  intro p e R s m args below meth c D dA ad hB
  have hC := hB.1
  have hN := hB.2.1
  have hR := hB.2.2.1
  refine z_go hC (pc' := 7) (ls' := [some (.int x), some (.int y)]) (st' := [.int (((x.toUInt32 >>> (((nI 2) * y).toUInt32 &&& Int32.toUInt32 31)).toInt32) &&& (nI 3))]) (h' := h) (cs := []) [.iload_n 0, .iconst 2, .iload_n 1, .imul, .iushr, .iconst 3, .iand] (by decide +kernel) rfl rfl trivial ?_
  exact z_ret_i hB rfl (by decide +kernel) ⟨by rw [fv_X1_directionIn], rfl⟩

def fv_X2_cornerOf (x : Int32) : Int32 := if ((x / (nI 6)) - (x / (nI 6)) / (nI 2) * (nI 2)) = 0 then if ((x - x / (nI 6) * (nI 6)) - (x - x / (nI 6) * (nI 6)) / (nI 2) * (nI 2)) = 0 then nI 0 else nI 1 else if ((x - x / (nI 6) * (nI 6)) - (x - x / (nI 6) * (nI 6)) / (nI 2) * (nI 2)) = 0 then nI 3 else nI 2
set_option maxHeartbeats 4000000 in
set_option maxRecDepth 100000 in
theorem sp_X2_cornerOf (l : Launch) (sh : z_Sh) (h : z_H) (x : Int32)  : z_Sp l 0 yX2_cornerOf cX2_cornerOf 3 (some .int) [.int x] (sh) h (fun rv h' => rv = some (.int (fv_X2_cornerOf x)) ∧ h' = h) := by
  refine z_enter ft_X2 (by decide +kernel) fo_X2 (Nat.le_of_ble_eq_true rfl) ?_
  intro p e R s m args below meth c D dA ad hB
  have hC := hB.1
  have hN := hB.2.1
  have hR := hB.2.2.1
  refine z_go hC (pc' := 6) (ls' := [some (.int x), none, none]) (st' := [.int ((x / (nI 6)) - (x / (nI 6)) / (nI 2) * (nI 2))]) (h' := h) (cs := [¬ (nI 6) = 0, ¬ (nI 2) = 0]) [.iload_n 0, .bipush 6, .idiv, .iconst 2, .irem] (by decide +kernel) rfl rfl ⟨(show ¬ (nI 6) = 0 by decide), (show ¬ (nI 2) = 0 by decide)⟩ ?_
  refine z_if_eq hC (off := 7) 13 (by decide +kernel) (by decide) (fun c1 => ?_) (fun c1 => ?_)
  · skip
    refine z_go hC (pc' := 21) (ls' := [some (.int x), some (.int (nI 0)), none]) (st' := [.int ((x - x / (nI 6) * (nI 6)) - (x - x / (nI 6) * (nI 6)) / (nI 2) * (nI 2))]) (h' := h) (cs := [¬ (nI 6) = 0, ¬ (nI 2) = 0]) [.iconst 0, .istore_n 1, .iload_n 0, .bipush 6, .irem, .iconst 2, .irem] (by decide +kernel) rfl rfl ⟨(show ¬ (nI 6) = 0 by decide), (show ¬ (nI 2) = 0 by decide)⟩ ?_
    refine z_if_eq hC (off := 7) 28 (by decide +kernel) (by decide) (fun c2 => ?_) (fun c2 => ?_)
    · skip
      refine z_go hC (pc' := 31) (ls' := [some (.int x), some (.int (nI 0)), some (.int (nI 0))]) (st' := [.int (nI 0)]) (h' := h) (cs := []) [.iconst 0, .istore_n 2, .iload_n 1] (by decide +kernel) rfl rfl trivial ?_
      refine z_if_eq hC (off := 13) 44 (by decide +kernel) (by decide) (fun c3 => ?_) (fun c3 => ?_)
      · skip
        refine z_go hC (pc' := 45) (ls' := [some (.int x), some (.int (nI 0)), some (.int (nI 0))]) (st' := [.int (nI 0)]) (h' := h) (cs := []) [.iload_n 2] (by decide +kernel) rfl rfl trivial ?_
        refine z_if_eq hC (off := 7) 52 (by decide +kernel) (by decide) (fun c4 => ?_) (fun c4 => ?_)
        · skip
          refine z_go hC (pc' := 53) (ls' := [some (.int x), some (.int (nI 0)), some (.int (nI 0))]) (st' := [.int (nI 0)]) (h' := h) (cs := []) [.iconst 0] (by decide +kernel) rfl rfl trivial ?_
          exact z_ret_i hB rfl (by decide +kernel) ⟨by rw [fv_X2_cornerOf, if_pos c1, if_pos c2], rfl⟩
        · skip
          exact absurd c4 (by decide)
      · skip
        exact absurd c3 (by decide)
    · skip
      refine z_go hC (pc' := 25) (ls' := [some (.int x), some (.int (nI 0)), none]) (st' := [.int (nI 1)]) (h' := h) (cs := []) [.iconst 1] (by decide +kernel) rfl rfl trivial ?_
      refine z_goto hC (off := 4) 29 (by decide +kernel) (by decide) ?_
      refine z_go hC (pc' := 31) (ls' := [some (.int x), some (.int (nI 0)), some (.int (nI 1))]) (st' := [.int (nI 0)]) (h' := h) (cs := []) [.istore_n 2, .iload_n 1] (by decide +kernel) rfl rfl trivial ?_
      refine z_if_eq hC (off := 13) 44 (by decide +kernel) (by decide) (fun c5 => ?_) (fun c5 => ?_)
      · skip
        refine z_go hC (pc' := 45) (ls' := [some (.int x), some (.int (nI 0)), some (.int (nI 1))]) (st' := [.int (nI 1)]) (h' := h) (cs := []) [.iload_n 2] (by decide +kernel) rfl rfl trivial ?_
        refine z_if_eq hC (off := 7) 52 (by decide +kernel) (by decide) (fun c6 => ?_) (fun c6 => ?_)
        · skip
          exact absurd c6 (by decide)
        · skip
          refine z_go hC (pc' := 49) (ls' := [some (.int x), some (.int (nI 0)), some (.int (nI 1))]) (st' := [.int (nI 1)]) (h' := h) (cs := []) [.iconst 1] (by decide +kernel) rfl rfl trivial ?_
          refine z_goto hC (off := 4) 53 (by decide +kernel) (by decide) ?_
          exact z_ret_i hB rfl (by decide +kernel) ⟨by rw [fv_X2_cornerOf, if_pos c1, if_neg c2], rfl⟩
      · skip
        exact absurd c5 (by decide)
  · skip
    refine z_go hC (pc' := 10) (ls' := [some (.int x), none, none]) (st' := [.int (nI 1)]) (h' := h) (cs := []) [.iconst 1] (by decide +kernel) rfl rfl trivial ?_
    refine z_goto hC (off := 4) 14 (by decide +kernel) (by decide) ?_
    refine z_go hC (pc' := 21) (ls' := [some (.int x), some (.int (nI 1)), none]) (st' := [.int ((x - x / (nI 6) * (nI 6)) - (x - x / (nI 6) * (nI 6)) / (nI 2) * (nI 2))]) (h' := h) (cs := [¬ (nI 6) = 0, ¬ (nI 2) = 0]) [.istore_n 1, .iload_n 0, .bipush 6, .irem, .iconst 2, .irem] (by decide +kernel) rfl rfl ⟨(show ¬ (nI 6) = 0 by decide), (show ¬ (nI 2) = 0 by decide)⟩ ?_
    refine z_if_eq hC (off := 7) 28 (by decide +kernel) (by decide) (fun c7 => ?_) (fun c7 => ?_)
    · skip
      refine z_go hC (pc' := 31) (ls' := [some (.int x), some (.int (nI 1)), some (.int (nI 0))]) (st' := [.int (nI 1)]) (h' := h) (cs := []) [.iconst 0, .istore_n 2, .iload_n 1] (by decide +kernel) rfl rfl trivial ?_
      refine z_if_eq hC (off := 13) 44 (by decide +kernel) (by decide) (fun c8 => ?_) (fun c8 => ?_)
      · skip
        exact absurd c8 (by decide)
      · skip
        refine z_go hC (pc' := 35) (ls' := [some (.int x), some (.int (nI 1)), some (.int (nI 0))]) (st' := [.int (nI 0)]) (h' := h) (cs := []) [.iload_n 2] (by decide +kernel) rfl rfl trivial ?_
        refine z_if_eq hC (off := 7) 42 (by decide +kernel) (by decide) (fun c9 => ?_) (fun c9 => ?_)
        · skip
          refine z_go hC (pc' := 43) (ls' := [some (.int x), some (.int (nI 1)), some (.int (nI 0))]) (st' := [.int (nI 3)]) (h' := h) (cs := []) [.iconst 3] (by decide +kernel) rfl rfl trivial ?_
          exact z_ret_i hB rfl (by decide +kernel) ⟨by rw [fv_X2_cornerOf, if_neg c1, if_pos c7], rfl⟩
        · skip
          exact absurd c9 (by decide)
    · skip
      refine z_go hC (pc' := 25) (ls' := [some (.int x), some (.int (nI 1)), none]) (st' := [.int (nI 1)]) (h' := h) (cs := []) [.iconst 1] (by decide +kernel) rfl rfl trivial ?_
      refine z_goto hC (off := 4) 29 (by decide +kernel) (by decide) ?_
      refine z_go hC (pc' := 31) (ls' := [some (.int x), some (.int (nI 1)), some (.int (nI 1))]) (st' := [.int (nI 1)]) (h' := h) (cs := []) [.istore_n 2, .iload_n 1] (by decide +kernel) rfl rfl trivial ?_
      refine z_if_eq hC (off := 13) 44 (by decide +kernel) (by decide) (fun c10 => ?_) (fun c10 => ?_)
      · skip
        exact absurd c10 (by decide)
      · skip
        refine z_go hC (pc' := 35) (ls' := [some (.int x), some (.int (nI 1)), some (.int (nI 1))]) (st' := [.int (nI 1)]) (h' := h) (cs := []) [.iload_n 2] (by decide +kernel) rfl rfl trivial ?_
        refine z_if_eq hC (off := 7) 42 (by decide +kernel) (by decide) (fun c11 => ?_) (fun c11 => ?_)
        · skip
          exact absurd c11 (by decide)
        · skip
          refine z_go hC (pc' := 39) (ls' := [some (.int x), some (.int (nI 1)), some (.int (nI 1))]) (st' := [.int (nI 2)]) (h' := h) (cs := []) [.iconst 2] (by decide +kernel) rfl rfl trivial ?_
          refine z_goto hC (off := 4) 43 (by decide +kernel) (by decide) ?_
          exact z_ret_i hB rfl (by decide +kernel) ⟨by rw [fv_X2_cornerOf, if_neg c1, if_neg c7], rfl⟩
end
section
/-! ===== printed by wip/p27/gen: leaf methods of the class, mirrored ===== -/
def fv_X0_hasWallOn (h : z_H) (x : Int32) : Int32 := if ((h.1 1 2) &&& ((nI 1) <<< (x &&& 31))) = 0 then nI 0 else nI 1
theorem zb_X0_hasWallOn (h : z_H) (x : Int32) : fv_X0_hasWallOn h x = 0 ∨ fv_X0_hasWallOn h x = 1 := by unfold fv_X0_hasWallOn; (repeat' split) <;> first | decide
set_option maxHeartbeats 4000000 in
set_option maxRecDepth 100000 in
theorem sp_X0_hasWallOn (l : Launch) (ext : z_Sh) (h : z_H) (x : Int32)  : z_Sp l 0 yX0_hasWallOn cX0_hasWallOn 2 (some .boolean) [.ref 1, .int x] (z_c ext) h (fun rv h' => rv = some (.int (fv_X0_hasWallOn h x)) ∧ h' = h) := by
  refine z_enter ft_X0 (by decide +kernel) fo_X0 (Nat.le_of_ble_eq_true rfl) ?_
  intro p e R s m args below meth c D dA ad hB
  have hC := hB.1
  have hN := hB.2.1
  have hR := hB.2.2.1
  refine z_go hC (pc' := 8) (ls' := [some (.ref 1), some (.int x)]) (st' := [.int ((h.1 1 2) &&& ((nI 1) <<< (x &&& 31)))]) (h' := h) (cs := []) [.aload_n 0, .getfield 22, .iconst 1, .iload_n 1, .ishl, .iand] (by decide +kernel) rfl rfl trivial ?_
  refine z_if_eq hC (off := 7) 15 (by decide +kernel) (by decide) (fun c1 => ?_) (fun c1 => ?_)
  · skip
    refine z_go hC (pc' := 16) (ls' := [some (.ref 1), some (.int x)]) (st' := [.int (nI 0)]) (h' := h) (cs := []) [.iconst 0] (by decide +kernel) rfl rfl trivial ?_
    exact z_ret_z hB rfl (by decide) (by decide +kernel) ⟨by rw [fv_X0_hasWallOn, if_pos c1], rfl⟩
  · skip
    refine z_go hC (pc' := 12) (ls' := [some (.ref 1), some (.int x)]) (st' := [.int (nI 1)]) (h' := h) (cs := []) [.iconst 1] (by decide +kernel) rfl rfl trivial ?_
    refine z_goto hC (off := 4) 16 (by decide +kernel) (by decide) ?_
    exact z_ret_z hB rfl (by decide) (by decide +kernel) ⟨by rw [fv_X0_hasWallOn, if_neg c1], rfl⟩

def fh_X0_putWall (h : z_H) (x : Int32) (y : Int32) : z_H := if y = 0 then z_set h 1 2 ((h.1 1 2) &&& (((nI 1) <<< (x &&& 31)) ^^^ (z_bi (-1)))) else z_set h 1 2 ((h.1 1 2) ||| ((nI 1) <<< (x &&& 31)))
set_option maxHeartbeats 4000000 in
set_option maxRecDepth 100000 in
theorem sp_X0_putWall (l : Launch) (ext : z_Sh) (h : z_H) (x : Int32) (y : Int32)  : z_Sp l 0 yX0_putWall cX0_putWall 3 none [.ref 1, .int x, .int y] (z_c ext) h (fun rv h' => rv = none ∧ h' = fh_X0_putWall h x y) := by
  refine z_enter ft_X0 (by decide +kernel) fo_X0 (Nat.le_of_ble_eq_true rfl) ?_
  intro p e R s m args below meth c D dA ad hB
  have hC := hB.1
  have hN := hB.2.1
  have hR := hB.2.2.1
  refine z_go hC (pc' := 2) (ls' := [some (.ref 1), some (.int x), some (.int y)]) (st' := [.int y, .ref 1]) (h' := h) (cs := []) [.aload_n 0, .iload_n 2] (by decide +kernel) rfl rfl trivial ?_
  refine z_if_eq hC (off := 14) 16 (by decide +kernel) (by decide) (fun c1 => ?_) (fun c1 => ?_)
  · skip
    refine z_go hC (pc' := 29) (ls' := [some (.ref 1), some (.int x), some (.int y)]) (st' := []) (h' := z_set h 1 2 ((h.1 1 2) &&& (((nI 1) <<< (x &&& 31)) ^^^ (z_bi (-1))))) (cs := []) [.aload_n 0, .getfield 22, .iconst 1, .iload_n 1, .ishl, .iconst (-1), .ixor, .iand, .putfield 22] (by decide +kernel) rfl rfl trivial ?_
    exact z_ret_v hB rfl (by decide +kernel) ⟨rfl, by rw [fh_X0_putWall, if_pos c1]⟩
  · skip
    refine z_go hC (pc' := 13) (ls' := [some (.ref 1), some (.int x), some (.int y)]) (st' := [.int ((h.1 1 2) ||| ((nI 1) <<< (x &&& 31))), .ref 1]) (h' := h) (cs := []) [.aload_n 0, .getfield 22, .iconst 1, .iload_n 1, .ishl, .ior] (by decide +kernel) rfl rfl trivial ?_
    refine z_goto hC (off := 13) 26 (by decide +kernel) (by decide) ?_
    refine z_go hC (pc' := 29) (ls' := [some (.ref 1), some (.int x), some (.int y)]) (st' := []) (h' := z_set h 1 2 ((h.1 1 2) ||| ((nI 1) <<< (x &&& 31)))) (cs := []) [.putfield 22] (by decide +kernel) rfl rfl trivial ?_
    exact z_ret_v hB rfl (by decide +kernel) ⟨rfl, by rw [fh_X0_putWall, if_neg c1]⟩

set_option maxHeartbeats 4000000 in
set_option maxRecDepth 100000 in
theorem sp_X0_weightOf (l : Launch) (ext : z_Sh) (h : z_H) (x : Int32)  : z_Sp l 1 yX0_weightOf cX0_weightOf 2 (some .int) [.ref 1, .int x] (z_c ext) h (fun rv h' => rv = some (.int (z_atv h 2 12 x)) ∧ h' = h) := by
  refine z_enter ft_X0 (by decide +kernel) fo_X0 (Nat.le_of_ble_eq_true rfl) ?_
  intro p e R s m args below meth c D dA ad hB
  have hC := hB.1
  have hN := hB.2.1
  have hR := hB.2.2.1
  refine z_go hC (pc' := 5) (ls' := [some (.ref 1), some (.int x)]) (st' := [.int x, .ref 2]) (h' := h) (cs := []) [.aload_n 0, .getfield 9, .iload_n 1] (by decide +kernel) rfl rfl trivial ?_
  refine z_callSN hC hN hR (as := [.ref 2, .int x]) (rest := []) ok_X0_26 (by decide +kernel) (sp_X7_at l _ h 2 12 [] x rfl (by decide)) (Nat.le_of_ble_eq_true rfl) rfl rfl (Nat.le_of_ble_eq_true rfl) ⟨Nat.zero_le _, Nat.zero_le _⟩ (fun r1 h2 q3 => z_fun q3 ?_)
  exact z_ret_i hB rfl (by decide +kernel) ⟨rfl, rfl⟩

set_option maxHeartbeats 4000000 in
set_option maxRecDepth 100000 in
theorem sp_X0_putWeight (l : Launch) (ext : z_Sh) (h : z_H) (x : Int32) (y : Int32)  : z_Sp l 1 yX0_putWeight cX0_putWeight 3 none [.ref 1, .int x, .int y] (z_c ext) h (fun rv h' => rv = none ∧ h' = z_putv h 2 12 x y) := by
  refine z_enter ft_X0 (by decide +kernel) fo_X0 (Nat.le_of_ble_eq_true rfl) ?_
  intro p e R s m args below meth c D dA ad hB
  have hC := hB.1
  have hN := hB.2.1
  have hR := hB.2.2.1
  refine z_go hC (pc' := 6) (ls' := [some (.ref 1), some (.int x), some (.int y)]) (st' := [.int y, .int x, .ref 2]) (h' := h) (cs := []) [.aload_n 0, .getfield 9, .iload_n 1, .iload_n 2] (by decide +kernel) rfl rfl trivial ?_
  refine z_callSN hC hN hR (as := [.ref 2, .int x, .int y]) (rest := []) ok_X0_30 (by decide +kernel) (sp_X7_put l _ h 2 12 [] x y rfl (by decide)) (Nat.le_of_ble_eq_true rfl) rfl rfl (Nat.le_of_ble_eq_true rfl) ⟨Nat.zero_le _, Nat.zero_le _⟩ (fun r1 h2 q3 => z_fun q3 ?_)
  exact z_ret_v hB rfl (by decide +kernel) ⟨rfl, rfl⟩

def fv_X0_treeHas (h : z_H) (x : Int32) : Int32 := if x = (-1) then nI 0 else if ((h.1 1 3) &&& ((nI 1) <<< (x &&& 31))) = 0 then nI 0 else nI 1
theorem zb_X0_treeHas (h : z_H) (x : Int32) : fv_X0_treeHas h x = 0 ∨ fv_X0_treeHas h x = 1 := by unfold fv_X0_treeHas; (repeat' split) <;> first | decide
set_option maxHeartbeats 4000000 in
set_option maxRecDepth 100000 in
theorem sp_X0_treeHas (l : Launch) (ext : z_Sh) (h : z_H) (x : Int32)  : z_Sp l 0 yX0_treeHas cX0_treeHas 2 (some .boolean) [.ref 1, .int x] (z_c ext) h (fun rv h' => rv = some (.int (fv_X0_treeHas h x)) ∧ h' = h) := by
  refine z_enter ft_X0 (by decide +kernel) fo_X0 (Nat.le_of_ble_eq_true rfl) ?_
  intro p e R s m args below meth c D dA ad hB
  have hC := hB.1
  have hN := hB.2.1
  have hR := hB.2.2.1
  refine z_go hC (pc' := 2) (ls' := [some (.ref 1), some (.int x)]) (st' := [.int (-1), .int x]) (h' := h) (cs := []) [.iload_n 1, .iconst (-1)] (by decide +kernel) rfl rfl trivial ?_
  refine z_icmp_eq hC (off := 18) 20 (by decide +kernel) (by decide) (fun c1 => ?_) (fun c1 => ?_)
  · skip
    refine z_go hC (pc' := 21) (ls' := [some (.ref 1), some (.int x)]) (st' := [.int (nI 0)]) (h' := h) (cs := []) [.iconst 0] (by decide +kernel) rfl rfl trivial ?_
    exact z_ret_z hB rfl (by decide) (by decide +kernel) ⟨by rw [fv_X0_treeHas, if_pos c1], rfl⟩
  · skip
    refine z_go hC (pc' := 13) (ls' := [some (.ref 1), some (.int x)]) (st' := [.int ((h.1 1 3) &&& ((nI 1) <<< (x &&& 31)))]) (h' := h) (cs := []) [.aload_n 0, .getfield 34, .iconst 1, .iload_n 1, .ishl, .iand] (by decide +kernel) rfl rfl trivial ?_
    refine z_if_eq hC (off := 7) 20 (by decide +kernel) (by decide) (fun c2 => ?_) (fun c2 => ?_)
    · skip
      refine z_go hC (pc' := 21) (ls' := [some (.ref 1), some (.int x)]) (st' := [.int (nI 0)]) (h' := h) (cs := []) [.iconst 0] (by decide +kernel) rfl rfl trivial ?_
      exact z_ret_z hB rfl (by decide) (by decide +kernel) ⟨by rw [fv_X0_treeHas, if_neg c1, if_pos c2], rfl⟩
    · skip
      refine z_go hC (pc' := 17) (ls' := [some (.ref 1), some (.int x)]) (st' := [.int (nI 1)]) (h' := h) (cs := []) [.iconst 1] (by decide +kernel) rfl rfl trivial ?_
      refine z_goto hC (off := 4) 21 (by decide +kernel) (by decide) ?_
      exact z_ret_z hB rfl (by decide) (by decide +kernel) ⟨by rw [fv_X0_treeHas, if_neg c1, if_neg c2], rfl⟩

def fv_X0_goFrom (h : z_H) (x : Int32) (y : Int32) : Int32 := if (fv_X0_cellBeside x y) = (-1) then (-1) else if (fv_X0_hasWallOn h (fv_X0_blockOf x)) = 0 then if (fv_X0_hasWallOn h (fv_X0_blockOf (fv_X0_cellBeside x y))) = 0 then if (fv_X0_blockOf x) = (fv_X0_blockOf (fv_X0_cellBeside x y)) then fv_X0_cellBeside x y else if (z_atv h 2 12 (fv_X0_linkOutOf (fv_X0_blockOf x) y)) = (-1) then (-1) else fv_X0_cellBeside x y else (-1) else (-1)
set_option maxHeartbeats 4000000 in
set_option maxRecDepth 100000 in
theorem sp_X0_goFrom (l : Launch) (ext : z_Sh) (h : z_H) (x : Int32) (y : Int32)  : z_Sp l 1 yX0_goFrom cX0_goFrom 4 (some .int) [.ref 1, .int x, .int y] (z_c ext) h (fun rv h' => rv = some (.int (fv_X0_goFrom h x y)) ∧ h' = h) := by
  refine z_enter ft_X0 (by decide +kernel) fo_X0 (Nat.le_of_ble_eq_true rfl) ?_
  intro p e R s m args below meth c D dA ad hB
  have hC := hB.1
  have hN := hB.2.1
  have hR := hB.2.2.1
  refine z_go hC (pc' := 2) (ls' := [some (.ref 1), some (.int x), some (.int y), none]) (st' := [.int y, .int x]) (h' := h) (cs := []) [.iload_n 1, .iload_n 2] (by decide +kernel) rfl rfl trivial ?_
  refine z_callS hC hN hR (as := [.int x, .int y]) (rest := []) ok_X0_37 (by decide +kernel) (sp_X0_cellBeside l _ h x y) (Nat.le_of_ble_eq_true rfl) rfl rfl (Nat.le_of_ble_eq_true rfl) ⟨Nat.zero_le _, Nat.zero_le _⟩ (fun r1 h2 q3 => z_fun q3 ?_)
  refine z_go hC (pc' := 8) (ls' := [some (.ref 1), some (.int x), some (.int y), some (.int (fv_X0_cellBeside x y))]) (st' := [.int (-1), .int (fv_X0_cellBeside x y)]) (h' := h) (cs := []) [.istore_n 3, .iload_n 3, .iconst (-1)] (by decide +kernel) rfl rfl trivial ?_
  refine z_icmp_eq hC (off := 25) 33 (by decide +kernel) (by decide) (fun c4 => ?_) (fun c4 => ?_)
  · skip
    refine z_go hC (pc' := 34) (ls' := [some (.ref 1), some (.int x), some (.int y), some (.int (fv_X0_cellBeside x y))]) (st' := [.int (-1)]) (h' := h) (cs := []) [.iconst (-1)] (by decide +kernel) rfl rfl trivial ?_
    exact z_ret_i hB rfl (by decide +kernel) ⟨by rw [fv_X0_goFrom, if_pos c4], rfl⟩
  · skip
    refine z_go hC (pc' := 13) (ls' := [some (.ref 1), some (.int x), some (.int y), some (.int (fv_X0_cellBeside x y))]) (st' := [.int x, .ref 1]) (h' := h) (cs := []) [.aload_n 0, .iload_n 1] (by decide +kernel) rfl rfl trivial ?_
    refine z_callS hC hN hR (as := [.int x]) (rest := [.ref 1]) ok_X0_41 (by decide +kernel) (sp_X0_blockOf l _ h x) (Nat.le_of_ble_eq_true rfl) rfl rfl (Nat.le_of_ble_eq_true rfl) ⟨Nat.zero_le _, Nat.zero_le _⟩ (fun r5 h6 q7 => z_fun q7 ?_)
    refine z_callV hC hN hR (as := [.int (fv_X0_blockOf x)]) (rest := []) ok_X0_44 (by decide +kernel) (sp_X0_hasWallOn l _ h (fv_X0_blockOf x)) rfl rfl (Nat.le_of_ble_eq_true rfl) rfl rfl (Nat.le_of_ble_eq_true rfl) ⟨Nat.zero_le _, Nat.zero_le _⟩ (fun r8 h9 q10 => z_fun q10 ?_)
    refine z_if_ne hC (off := 14) 33 (by decide +kernel) (by decide) (fun c11 => ?_) (fun c11 => ?_)
    · skip
      refine z_go hC (pc' := 34) (ls' := [some (.ref 1), some (.int x), some (.int y), some (.int (fv_X0_cellBeside x y))]) (st' := [.int (-1)]) (h' := h) (cs := []) [.iconst (-1)] (by decide +kernel) rfl rfl trivial ?_
      exact z_ret_i hB rfl (by decide +kernel) ⟨by rw [fv_X0_goFrom, if_neg c4, if_neg c11], rfl⟩
    · skip
      refine z_go hC (pc' := 24) (ls' := [some (.ref 1), some (.int x), some (.int y), some (.int (fv_X0_cellBeside x y))]) (st' := [.int (fv_X0_cellBeside x y), .ref 1]) (h' := h) (cs := []) [.aload_n 0, .iload_n 3] (by decide +kernel) rfl rfl trivial ?_
      refine z_callS hC hN hR (as := [.int (fv_X0_cellBeside x y)]) (rest := [.ref 1]) ok_X0_41 (by decide +kernel) (sp_X0_blockOf l _ h (fv_X0_cellBeside x y)) (Nat.le_of_ble_eq_true rfl) rfl rfl (Nat.le_of_ble_eq_true rfl) ⟨Nat.zero_le _, Nat.zero_le _⟩ (fun r12 h13 q14 => z_fun q14 ?_)
      refine z_callV hC hN hR (as := [.int (fv_X0_blockOf (fv_X0_cellBeside x y))]) (rest := []) ok_X0_44 (by decide +kernel) (sp_X0_hasWallOn l _ h (fv_X0_blockOf (fv_X0_cellBeside x y))) rfl rfl (Nat.le_of_ble_eq_true rfl) rfl rfl (Nat.le_of_ble_eq_true rfl) ⟨Nat.zero_le _, Nat.zero_le _⟩ (fun r15 h16 q17 => z_fun q17 ?_)
      refine z_if_eq hC (off := 5) 35 (by decide +kernel) (by decide) (fun c18 => ?_) (fun c18 => ?_)
      · skip
        refine z_go hC (pc' := 36) (ls' := [some (.ref 1), some (.int x), some (.int y), some (.int (fv_X0_cellBeside x y))]) (st' := [.int x]) (h' := h) (cs := []) [.iload_n 1] (by decide +kernel) rfl rfl trivial ?_
        refine z_callS hC hN hR (as := [.int x]) (rest := []) ok_X0_41 (by decide +kernel) (sp_X0_blockOf l _ h x) (Nat.le_of_ble_eq_true rfl) rfl rfl (Nat.le_of_ble_eq_true rfl) ⟨Nat.zero_le _, Nat.zero_le _⟩ (fun r19 h20 q21 => z_fun q21 ?_)
        refine z_go hC (pc' := 40) (ls' := [some (.ref 1), some (.int x), some (.int y), some (.int (fv_X0_cellBeside x y))]) (st' := [.int (fv_X0_cellBeside x y), .int (fv_X0_blockOf x)]) (h' := h) (cs := []) [.iload_n 3] (by decide +kernel) rfl rfl trivial ?_
        refine z_callS hC hN hR (as := [.int (fv_X0_cellBeside x y)]) (rest := [.int (fv_X0_blockOf x)]) ok_X0_41 (by decide +kernel) (sp_X0_blockOf l _ h (fv_X0_cellBeside x y)) (Nat.le_of_ble_eq_true rfl) rfl rfl (Nat.le_of_ble_eq_true rfl) ⟨Nat.zero_le _, Nat.zero_le _⟩ (fun r22 h23 q24 => z_fun q24 ?_)
        refine z_icmp_ne hC (off := 5) 48 (by decide +kernel) (by decide) (fun c25 => ?_) (fun c25 => ?_)
        · skip
          refine z_go hC (pc' := 53) (ls' := [some (.ref 1), some (.int x), some (.int y), some (.int (fv_X0_cellBeside x y))]) (st' := [.int x, .ref 2]) (h' := h) (cs := []) [.aload_n 0, .getfield 9, .iload_n 1] (by decide +kernel) rfl rfl trivial ?_
          refine z_callS hC hN hR (as := [.int x]) (rest := [.ref 2]) ok_X0_41 (by decide +kernel) (sp_X0_blockOf l _ h x) (Nat.le_of_ble_eq_true rfl) rfl rfl (Nat.le_of_ble_eq_true rfl) ⟨Nat.zero_le _, Nat.zero_le _⟩ (fun r26 h27 q28 => z_fun q28 ?_)
          refine z_go hC (pc' := 57) (ls' := [some (.ref 1), some (.int x), some (.int y), some (.int (fv_X0_cellBeside x y))]) (st' := [.int y, .int (fv_X0_blockOf x), .ref 2]) (h' := h) (cs := []) [.iload_n 2] (by decide +kernel) rfl rfl trivial ?_
          refine z_callS hC hN hR (as := [.int (fv_X0_blockOf x), .int y]) (rest := [.ref 2]) ok_X0_48 (by decide +kernel) (sp_X0_linkOutOf l _ h (fv_X0_blockOf x) y) (Nat.le_of_ble_eq_true rfl) rfl rfl (Nat.le_of_ble_eq_true rfl) ⟨Nat.zero_le _, Nat.zero_le _⟩ (fun r29 h30 q31 => z_fun q31 ?_)
          refine z_callSN hC hN hR (as := [.ref 2, .int (fv_X0_linkOutOf (fv_X0_blockOf x) y)]) (rest := []) ok_X0_26 (by decide +kernel) (sp_X7_at l _ h 2 12 [] (fv_X0_linkOutOf (fv_X0_blockOf x) y) rfl (by decide)) (Nat.le_of_ble_eq_true rfl) rfl rfl (Nat.le_of_ble_eq_true rfl) ⟨Nat.zero_le _, Nat.zero_le _⟩ (fun r32 h33 q34 => z_fun q34 ?_)
          refine z_go hC (pc' := 64) (ls' := [some (.ref 1), some (.int x), some (.int y), some (.int (fv_X0_cellBeside x y))]) (st' := [.int (-1), .int (z_atv h 2 12 (fv_X0_linkOutOf (fv_X0_blockOf x) y))]) (h' := h) (cs := []) [.iconst (-1)] (by decide +kernel) rfl rfl trivial ?_
          refine z_icmp_eq hC (off := 7) 71 (by decide +kernel) (by decide) (fun c35 => ?_) (fun c35 => ?_)
          · skip
            refine z_go hC (pc' := 72) (ls' := [some (.ref 1), some (.int x), some (.int y), some (.int (fv_X0_cellBeside x y))]) (st' := [.int (-1)]) (h' := h) (cs := []) [.iconst (-1)] (by decide +kernel) rfl rfl trivial ?_
            exact z_ret_i hB rfl (by decide +kernel) ⟨by rw [fv_X0_goFrom, if_neg c4, if_pos c11, if_pos c18, if_neg c25, if_pos c35], rfl⟩
          · skip
            refine z_go hC (pc' := 68) (ls' := [some (.ref 1), some (.int x), some (.int y), some (.int (fv_X0_cellBeside x y))]) (st' := [.int (fv_X0_cellBeside x y)]) (h' := h) (cs := []) [.iload_n 3] (by decide +kernel) rfl rfl trivial ?_
            refine z_goto hC (off := 4) 72 (by decide +kernel) (by decide) ?_
            exact z_ret_i hB rfl (by decide +kernel) ⟨by rw [fv_X0_goFrom, if_neg c4, if_pos c11, if_pos c18, if_neg c25, if_neg c35], rfl⟩
        · skip
          refine z_go hC (pc' := 47) (ls' := [some (.ref 1), some (.int x), some (.int y), some (.int (fv_X0_cellBeside x y))]) (st' := [.int (fv_X0_cellBeside x y)]) (h' := h) (cs := []) [.iload_n 3] (by decide +kernel) rfl rfl trivial ?_
          exact z_ret_i hB rfl (by decide +kernel) ⟨by rw [fv_X0_goFrom, if_neg c4, if_pos c11, if_pos c18, if_pos c25], rfl⟩
      · skip
        refine z_go hC (pc' := 34) (ls' := [some (.ref 1), some (.int x), some (.int y), some (.int (fv_X0_cellBeside x y))]) (st' := [.int (-1)]) (h' := h) (cs := []) [.iconst (-1)] (by decide +kernel) rfl rfl trivial ?_
        exact z_ret_i hB rfl (by decide +kernel) ⟨by rw [fv_X0_goFrom, if_neg c4, if_pos c11, if_neg c18], rfl⟩

set_option maxHeartbeats 4000000 in
set_option maxRecDepth 100000 in
theorem sp_X0_countOpenCells (l : Launch) (ext : z_Sh) (h : z_H)   : z_Sp l 1 yX0_countOpenCells cX0_countOpenCells 1 (some .int) [.ref 1] (z_c ext) h (fun rv h' => rv = some (.int ((nI 36) - ((nI 4) * (fv_J6_bitCount_0f7a4 (h.1 1 2))))) ∧ h' = h) := by
  refine z_enter ft_X0 (by decide +kernel) fo_X0 (Nat.le_of_ble_eq_true rfl) ?_
  intro p e R s m args below meth c D dA ad hB
  have hC := hB.1
  have hN := hB.2.1
  have hR := hB.2.2.1
  refine z_go hC (pc' := 7) (ls' := [some (.ref 1)]) (st' := [.int (h.1 1 2), .int (nI 4), .int (nI 36)]) (h' := h) (cs := []) [.bipush 36, .iconst 4, .aload_n 0, .getfield 22] (by decide +kernel) rfl rfl trivial ?_
  refine z_callS hC hN hR (as := [.int (h.1 1 2)]) (rest := [.int (nI 4), .int (nI 36)]) ok_X0_61 (by decide +kernel) (sp_J6_bitCount_0f7a4 l _ h (h.1 1 2)) (Nat.le_of_ble_eq_true rfl) rfl rfl (Nat.le_of_ble_eq_true rfl) ⟨Nat.zero_le _, Nat.zero_le _⟩ (fun r1 h2 q3 => z_fun q3 ?_)
  refine z_go hC (pc' := 12) (ls' := [some (.ref 1)]) (st' := [.int ((nI 36) - ((nI 4) * (fv_J6_bitCount_0f7a4 (h.1 1 2))))]) (h' := h) (cs := []) [.imul, .isub] (by decide +kernel) rfl rfl trivial ?_
  exact z_ret_i hB rfl (by decide +kernel) ⟨rfl, rfl⟩

set_option maxHeartbeats 4000000 in
set_option maxRecDepth 100000 in
theorem sp_X1_size_16 (l : Launch) (ext : z_Sh) (h : z_H)   : z_Sp l 0 yX1_size cX1_size 1 (some .int) [.ref 16] (z_c ext) h (fun rv h' => rv = some (.int (h.1 16 1)) ∧ h' = h) := by
  refine z_enter ft_X1 (by decide +kernel) fo_X1 (Nat.le_of_ble_eq_true rfl) ?_
  intro p e R s m args below meth c D dA ad hB
  have hC := hB.1
  have hN := hB.2.1
  have hR := hB.2.2.1
  refine z_go hC (pc' := 4) (ls' := [some (.ref 16)]) (st' := [.int (h.1 16 1)]) (h' := h) (cs := []) [.aload_n 0, .getfield 15] (by decide +kernel) rfl rfl trivial ?_
  exact z_ret_i hB rfl (by decide +kernel) ⟨rfl, rfl⟩

set_option maxHeartbeats 4000000 in
set_option maxRecDepth 100000 in
theorem sp_X1_wayTo_16 (l : Launch) (ext : z_Sh) (h : z_H) (x : Int32)  : z_Sp l 1 yX1_wayTo cX1_wayTo 2 (some .int) [.ref 16, .int x] (z_c ext) h (fun rv h' => rv = some (.int (z_atv h 17 1024 x)) ∧ h' = h) := by
  refine z_enter ft_X1 (by decide +kernel) fo_X1 (Nat.le_of_ble_eq_true rfl) ?_
  intro p e R s m args below meth c D dA ad hB
  have hC := hB.1
  have hN := hB.2.1
  have hR := hB.2.2.1
  refine z_go hC (pc' := 5) (ls' := [some (.ref 16), some (.int x)]) (st' := [.int x, .ref 17]) (h' := h) (cs := []) [.aload_n 0, .getfield 11, .iload_n 1] (by decide +kernel) rfl rfl trivial ?_
  refine z_callSN hC hN hR (as := [.ref 17, .int x]) (rest := []) ok_X1_19 (by decide +kernel) (sp_X7_at l _ h 17 1024 [] x rfl (by decide)) (Nat.le_of_ble_eq_true rfl) rfl rfl (Nat.le_of_ble_eq_true rfl) ⟨Nat.zero_le _, Nat.zero_le _⟩ (fun r1 h2 q3 => z_fun q3 ?_)
  exact z_ret_i hB rfl (by decide +kernel) ⟨rfl, rfl⟩

set_option maxHeartbeats 4000000 in
set_option maxRecDepth 100000 in
theorem sp_X1_holdNone_16 (l : Launch) (ext : z_Sh) (h : z_H)   : z_Sp l 0 yX1_holdNone cX1_holdNone 1 none [.ref 16] (z_c ext) h (fun rv h' => rv = none ∧ h' = z_set h 16 1 (nI 0)) := by
  refine z_enter ft_X1 (by decide +kernel) fo_X1 (Nat.le_of_ble_eq_true rfl) ?_
  intro p e R s m args below meth c D dA ad hB
  have hC := hB.1
  have hN := hB.2.1
  have hR := hB.2.2.1
  refine z_go hC (pc' := 5) (ls' := [some (.ref 16)]) (st' := []) (h' := z_set h 16 1 (nI 0)) (cs := []) [.aload_n 0, .iconst 0, .putfield 15] (by decide +kernel) rfl rfl trivial ?_
  exact z_ret_v hB rfl (by decide +kernel) ⟨rfl, rfl⟩

set_option maxHeartbeats 4000000 in
set_option maxRecDepth 100000 in
theorem sp_X1_holdFirstAlone_16 (l : Launch) (ext : z_Sh) (h : z_H)   : z_Sp l 1 yX1_holdFirstAlone cX1_holdFirstAlone 1 none [.ref 16] (z_c ext) h (fun rv h' => rv = none ∧ h' = z_set (z_putv h 17 1024 (nI 0) (nI 0)) 16 1 (nI 1)) := by
  refine z_enter ft_X1 (by decide +kernel) fo_X1 (Nat.le_of_ble_eq_true rfl) ?_
  intro p e R s m args below meth c D dA ad hB
  have hC := hB.1
  have hN := hB.2.1
  have hR := hB.2.2.1
  refine z_go hC (pc' := 6) (ls' := [some (.ref 16)]) (st' := [.int (nI 0), .int (nI 0), .ref 17]) (h' := h) (cs := []) [.aload_n 0, .getfield 11, .iconst 0, .iconst 0] (by decide +kernel) rfl rfl trivial ?_
  refine z_callSN hC hN hR (as := [.ref 17, .int (nI 0), .int (nI 0)]) (rest := []) ok_X1_23 (by decide +kernel) (sp_X7_put l _ h 17 1024 [] (nI 0) (nI 0) rfl (by decide)) (Nat.le_of_ble_eq_true rfl) rfl rfl (Nat.le_of_ble_eq_true rfl) ⟨Nat.zero_le _, Nat.zero_le _⟩ (fun r1 h2 q3 => z_fun q3 ?_)
  refine z_go hC (pc' := 14) (ls' := [some (.ref 16)]) (st' := []) (h' := z_set (z_putv h 17 1024 (nI 0) (nI 0)) 16 1 (nI 1)) (cs := []) [.aload_n 0, .iconst 1, .putfield 15] (by decide +kernel) rfl rfl trivial ?_
  exact z_ret_v hB rfl (by decide +kernel) ⟨rfl, rfl⟩

def fh_X1_add_16 (h : z_H) (x : Int32) (y : Int32) : z_H := if (nI 1024) ≤ (h.1 16 1) then h else z_set (z_putv h 17 1024 (h.1 16 1) ((x <<< ((nI 2) &&& 31)) ||| y)) 16 1 (((z_putv h 17 1024 (h.1 16 1) ((x <<< ((nI 2) &&& 31)) ||| y)).1 16 1) + (nI 1))
set_option maxHeartbeats 4000000 in
set_option maxRecDepth 100000 in
theorem sp_X1_add_16 (l : Launch) (ext : z_Sh) (h : z_H) (x : Int32) (y : Int32)  : z_Sp l 1 yX1_add cX1_add 3 none [.ref 16, .int x, .int y] (z_c ext) h (fun rv h' => rv = none ∧ h' = fh_X1_add_16 h x y) := by
  refine z_enter ft_X1 (by decide +kernel) fo_X1 (Nat.le_of_ble_eq_true rfl) ?_
  intro p e R s m args below meth c D dA ad hB
  have hC := hB.1
  have hN := hB.2.1
  have hR := hB.2.2.1
  refine z_go hC (pc' := 7) (ls' := [some (.ref 16), some (.int x), some (.int y)]) (st' := [.int (nI 1024), .int (h.1 16 1)]) (h' := h) (cs := [(Int16.ofInt (Int.ofNat 1024)).toInt32 = nI 1024]) [.aload_n 0, .getfield 15, .sipush 1024] (by decide +kernel) rfl rfl (show (Int16.ofInt (Int.ofNat 1024)).toInt32 = nI 1024 by decide) ?_
  refine z_icmp_ge hC (off := 29) 36 (by decide +kernel) (by decide) (fun c1 => ?_) (fun c1 => ?_)
  · skip
    exact z_ret_v hB rfl (by decide +kernel) ⟨rfl, by rw [fh_X1_add_16, if_pos c1]⟩
  · skip
    refine z_go hC (pc' := 23) (ls' := [some (.ref 16), some (.int x), some (.int y)]) (st' := [.int ((x <<< ((nI 2) &&& 31)) ||| y), .int (h.1 16 1), .ref 17]) (h' := h) (cs := []) [.aload_n 0, .getfield 11, .aload_n 0, .getfield 15, .iload_n 1, .iconst 2, .ishl, .iload_n 2, .ior] (by decide +kernel) rfl rfl trivial ?_
    refine z_callSN hC hN hR (as := [.ref 17, .int (h.1 16 1), .int ((x <<< ((nI 2) &&& 31)) ||| y)]) (rest := []) ok_X1_23 (by decide +kernel) (sp_X7_put l _ h 17 1024 [] (h.1 16 1) ((x <<< ((nI 2) &&& 31)) ||| y) rfl (by decide)) (Nat.le_of_ble_eq_true rfl) rfl rfl (Nat.le_of_ble_eq_true rfl) ⟨Nat.zero_le _, Nat.zero_le _⟩ (fun r2 h3 q4 => z_fun q4 ?_)
    refine z_go hC (pc' := 36) (ls' := [some (.ref 16), some (.int x), some (.int y)]) (st' := []) (h' := z_set (z_putv h 17 1024 (h.1 16 1) ((x <<< ((nI 2) &&& 31)) ||| y)) 16 1 (((z_putv h 17 1024 (h.1 16 1) ((x <<< ((nI 2) &&& 31)) ||| y)).1 16 1) + (nI 1))) (cs := []) [.aload_n 0, .dup, .getfield 15, .iconst 1, .iadd, .putfield 15] (by decide +kernel) rfl rfl trivial ?_
    exact z_ret_v hB rfl (by decide +kernel) ⟨rfl, by rw [fh_X1_add_16, if_neg c1]⟩

set_option maxHeartbeats 4000000 in
set_option maxRecDepth 100000 in
theorem sp_X1_size_18 (l : Launch) (ext : z_Sh) (h : z_H)   : z_Sp l 0 yX1_size cX1_size 1 (some .int) [.ref 18] (z_c ext) h (fun rv h' => rv = some (.int (h.1 18 1)) ∧ h' = h) := by
  refine z_enter ft_X1 (by decide +kernel) fo_X1 (Nat.le_of_ble_eq_true rfl) ?_
  intro p e R s m args below meth c D dA ad hB
  have hC := hB.1
  have hN := hB.2.1
  have hR := hB.2.2.1
  refine z_go hC (pc' := 4) (ls' := [some (.ref 18)]) (st' := [.int (h.1 18 1)]) (h' := h) (cs := []) [.aload_n 0, .getfield 15] (by decide +kernel) rfl rfl trivial ?_
  exact z_ret_i hB rfl (by decide +kernel) ⟨rfl, rfl⟩

set_option maxHeartbeats 4000000 in
set_option maxRecDepth 100000 in
theorem sp_X1_wayTo_18 (l : Launch) (ext : z_Sh) (h : z_H) (x : Int32)  : z_Sp l 1 yX1_wayTo cX1_wayTo 2 (some .int) [.ref 18, .int x] (z_c ext) h (fun rv h' => rv = some (.int (z_atv h 19 1024 x)) ∧ h' = h) := by
  refine z_enter ft_X1 (by decide +kernel) fo_X1 (Nat.le_of_ble_eq_true rfl) ?_
  intro p e R s m args below meth c D dA ad hB
  have hC := hB.1
  have hN := hB.2.1
  have hR := hB.2.2.1
  refine z_go hC (pc' := 5) (ls' := [some (.ref 18), some (.int x)]) (st' := [.int x, .ref 19]) (h' := h) (cs := []) [.aload_n 0, .getfield 11, .iload_n 1] (by decide +kernel) rfl rfl trivial ?_
  refine z_callSN hC hN hR (as := [.ref 19, .int x]) (rest := []) ok_X1_19 (by decide +kernel) (sp_X7_at l _ h 19 1024 [] x rfl (by decide)) (Nat.le_of_ble_eq_true rfl) rfl rfl (Nat.le_of_ble_eq_true rfl) ⟨Nat.zero_le _, Nat.zero_le _⟩ (fun r1 h2 q3 => z_fun q3 ?_)
  exact z_ret_i hB rfl (by decide +kernel) ⟨rfl, rfl⟩

set_option maxHeartbeats 4000000 in
set_option maxRecDepth 100000 in
theorem sp_X1_holdNone_18 (l : Launch) (ext : z_Sh) (h : z_H)   : z_Sp l 0 yX1_holdNone cX1_holdNone 1 none [.ref 18] (z_c ext) h (fun rv h' => rv = none ∧ h' = z_set h 18 1 (nI 0)) := by
  refine z_enter ft_X1 (by decide +kernel) fo_X1 (Nat.le_of_ble_eq_true rfl) ?_
  intro p e R s m args below meth c D dA ad hB
  have hC := hB.1
  have hN := hB.2.1
  have hR := hB.2.2.1
  refine z_go hC (pc' := 5) (ls' := [some (.ref 18)]) (st' := []) (h' := z_set h 18 1 (nI 0)) (cs := []) [.aload_n 0, .iconst 0, .putfield 15] (by decide +kernel) rfl rfl trivial ?_
  exact z_ret_v hB rfl (by decide +kernel) ⟨rfl, rfl⟩

set_option maxHeartbeats 4000000 in
set_option maxRecDepth 100000 in
theorem sp_X1_holdFirstAlone_18 (l : Launch) (ext : z_Sh) (h : z_H)   : z_Sp l 1 yX1_holdFirstAlone cX1_holdFirstAlone 1 none [.ref 18] (z_c ext) h (fun rv h' => rv = none ∧ h' = z_set (z_putv h 19 1024 (nI 0) (nI 0)) 18 1 (nI 1)) := by
  refine z_enter ft_X1 (by decide +kernel) fo_X1 (Nat.le_of_ble_eq_true rfl) ?_
  intro p e R s m args below meth c D dA ad hB
  have hC := hB.1
  have hN := hB.2.1
  have hR := hB.2.2.1
  refine z_go hC (pc' := 6) (ls' := [some (.ref 18)]) (st' := [.int (nI 0), .int (nI 0), .ref 19]) (h' := h) (cs := []) [.aload_n 0, .getfield 11, .iconst 0, .iconst 0] (by decide +kernel) rfl rfl trivial ?_
  refine z_callSN hC hN hR (as := [.ref 19, .int (nI 0), .int (nI 0)]) (rest := []) ok_X1_23 (by decide +kernel) (sp_X7_put l _ h 19 1024 [] (nI 0) (nI 0) rfl (by decide)) (Nat.le_of_ble_eq_true rfl) rfl rfl (Nat.le_of_ble_eq_true rfl) ⟨Nat.zero_le _, Nat.zero_le _⟩ (fun r1 h2 q3 => z_fun q3 ?_)
  refine z_go hC (pc' := 14) (ls' := [some (.ref 18)]) (st' := []) (h' := z_set (z_putv h 19 1024 (nI 0) (nI 0)) 18 1 (nI 1)) (cs := []) [.aload_n 0, .iconst 1, .putfield 15] (by decide +kernel) rfl rfl trivial ?_
  exact z_ret_v hB rfl (by decide +kernel) ⟨rfl, rfl⟩

def fh_X1_add_18 (h : z_H) (x : Int32) (y : Int32) : z_H := if (nI 1024) ≤ (h.1 18 1) then h else z_set (z_putv h 19 1024 (h.1 18 1) ((x <<< ((nI 2) &&& 31)) ||| y)) 18 1 (((z_putv h 19 1024 (h.1 18 1) ((x <<< ((nI 2) &&& 31)) ||| y)).1 18 1) + (nI 1))
set_option maxHeartbeats 4000000 in
set_option maxRecDepth 100000 in
theorem sp_X1_add_18 (l : Launch) (ext : z_Sh) (h : z_H) (x : Int32) (y : Int32)  : z_Sp l 1 yX1_add cX1_add 3 none [.ref 18, .int x, .int y] (z_c ext) h (fun rv h' => rv = none ∧ h' = fh_X1_add_18 h x y) := by
  refine z_enter ft_X1 (by decide +kernel) fo_X1 (Nat.le_of_ble_eq_true rfl) ?_
  intro p e R s m args below meth c D dA ad hB
  have hC := hB.1
  have hN := hB.2.1
  have hR := hB.2.2.1
  refine z_go hC (pc' := 7) (ls' := [some (.ref 18), some (.int x), some (.int y)]) (st' := [.int (nI 1024), .int (h.1 18 1)]) (h' := h) (cs := [(Int16.ofInt (Int.ofNat 1024)).toInt32 = nI 1024]) [.aload_n 0, .getfield 15, .sipush 1024] (by decide +kernel) rfl rfl (show (Int16.ofInt (Int.ofNat 1024)).toInt32 = nI 1024 by decide) ?_
  refine z_icmp_ge hC (off := 29) 36 (by decide +kernel) (by decide) (fun c1 => ?_) (fun c1 => ?_)
  · skip
    exact z_ret_v hB rfl (by decide +kernel) ⟨rfl, by rw [fh_X1_add_18, if_pos c1]⟩
  · skip
    refine z_go hC (pc' := 23) (ls' := [some (.ref 18), some (.int x), some (.int y)]) (st' := [.int ((x <<< ((nI 2) &&& 31)) ||| y), .int (h.1 18 1), .ref 19]) (h' := h) (cs := []) [.aload_n 0, .getfield 11, .aload_n 0, .getfield 15, .iload_n 1, .iconst 2, .ishl, .iload_n 2, .ior] (by decide +kernel) rfl rfl trivial ?_
    refine z_callSN hC hN hR (as := [.ref 19, .int (h.1 18 1), .int ((x <<< ((nI 2) &&& 31)) ||| y)]) (rest := []) ok_X1_23 (by decide +kernel) (sp_X7_put l _ h 19 1024 [] (h.1 18 1) ((x <<< ((nI 2) &&& 31)) ||| y) rfl (by decide)) (Nat.le_of_ble_eq_true rfl) rfl rfl (Nat.le_of_ble_eq_true rfl) ⟨Nat.zero_le _, Nat.zero_le _⟩ (fun r2 h3 q4 => z_fun q4 ?_)
    refine z_go hC (pc' := 36) (ls' := [some (.ref 18), some (.int x), some (.int y)]) (st' := []) (h' := z_set (z_putv h 19 1024 (h.1 18 1) ((x <<< ((nI 2) &&& 31)) ||| y)) 18 1 (((z_putv h 19 1024 (h.1 18 1) ((x <<< ((nI 2) &&& 31)) ||| y)).1 18 1) + (nI 1))) (cs := []) [.aload_n 0, .dup, .getfield 15, .iconst 1, .iadd, .putfield 15] (by decide +kernel) rfl rfl trivial ?_
    exact z_ret_v hB rfl (by decide +kernel) ⟨rfl, by rw [fh_X1_add_18, if_neg c1]⟩

def fv_X2_isThere (h : z_H)  : Int32 := if (h.1 4 4) ≤ 0 then nI 0 else nI 1
theorem zb_X2_isThere (h : z_H)  : fv_X2_isThere h  = 0 ∨ fv_X2_isThere h  = 1 := by unfold fv_X2_isThere; (repeat' split) <;> first | decide
set_option maxHeartbeats 4000000 in
set_option maxRecDepth 100000 in
theorem sp_X2_isThere (l : Launch) (ext : z_Sh) (h : z_H)   : z_Sp l 0 yX2_isThere cX2_isThere 1 (some .boolean) [.ref 4] (z_c ext) h (fun rv h' => rv = some (.int (fv_X2_isThere h )) ∧ h' = h) := by
  refine z_enter ft_X2 (by decide +kernel) fo_X2 (Nat.le_of_ble_eq_true rfl) ?_
  intro p e R s m args below meth c D dA ad hB
  have hC := hB.1
  have hN := hB.2.1
  have hR := hB.2.2.1
  refine z_go hC (pc' := 4) (ls' := [some (.ref 4)]) (st' := [.int (h.1 4 4)]) (h' := h) (cs := []) [.aload_n 0, .getfield 25] (by decide +kernel) rfl rfl trivial ?_
  refine z_if_le hC (off := 7) 11 (by decide +kernel) (by decide) (fun c1 => ?_) (fun c1 => ?_)
  · skip
    refine z_go hC (pc' := 12) (ls' := [some (.ref 4)]) (st' := [.int (nI 0)]) (h' := h) (cs := []) [.iconst 0] (by decide +kernel) rfl rfl trivial ?_
    exact z_ret_z hB rfl (by decide) (by decide +kernel) ⟨by rw [fv_X2_isThere, if_pos c1], rfl⟩
  · skip
    refine z_go hC (pc' := 8) (ls' := [some (.ref 4)]) (st' := [.int (nI 1)]) (h' := h) (cs := []) [.iconst 1] (by decide +kernel) rfl rfl trivial ?_
    refine z_goto hC (off := 4) 12 (by decide +kernel) (by decide) ?_
    exact z_ret_z hB rfl (by decide) (by decide +kernel) ⟨by rw [fv_X2_isThere, if_neg c1], rfl⟩

set_option maxHeartbeats 4000000 in
set_option maxRecDepth 100000 in
theorem sp_X2_size (l : Launch) (ext : z_Sh) (h : z_H)   : z_Sp l 0 yX2_size cX2_size 1 (some .int) [.ref 4] (z_c ext) h (fun rv h' => rv = some (.int (h.1 4 4)) ∧ h' = h) := by
  refine z_enter ft_X2 (by decide +kernel) fo_X2 (Nat.le_of_ble_eq_true rfl) ?_
  intro p e R s m args below meth c D dA ad hB
  have hC := hB.1
  have hN := hB.2.1
  have hR := hB.2.2.1
  refine z_go hC (pc' := 4) (ls' := [some (.ref 4)]) (st' := [.int (h.1 4 4)]) (h' := h) (cs := []) [.aload_n 0, .getfield 25] (by decide +kernel) rfl rfl trivial ?_
  exact z_ret_i hB rfl (by decide +kernel) ⟨rfl, rfl⟩

set_option maxHeartbeats 4000000 in
set_option maxRecDepth 100000 in
theorem sp_X2_placeWith (l : Launch) (ext : z_Sh) (h : z_H) (x : Int32)  : z_Sp l 1 yX2_placeWith cX2_placeWith 2 (some .int) [.ref 4, .int x] (z_c ext) h (fun rv h' => rv = some (.int (z_atv h 6 36 x)) ∧ h' = h) := by
  refine z_enter ft_X2 (by decide +kernel) fo_X2 (Nat.le_of_ble_eq_true rfl) ?_
  intro p e R s m args below meth c D dA ad hB
  have hC := hB.1
  have hN := hB.2.1
  have hR := hB.2.2.1
  refine z_go hC (pc' := 5) (ls' := [some (.ref 4), some (.int x)]) (st' := [.int x, .ref 6]) (h' := h) (cs := []) [.aload_n 0, .getfield 15, .iload_n 1] (by decide +kernel) rfl rfl trivial ?_
  refine z_callSN hC hN hR (as := [.ref 6, .int x]) (rest := []) ok_X2_29 (by decide +kernel) (sp_X7_at l _ h 6 36 [] x rfl (by decide)) (Nat.le_of_ble_eq_true rfl) rfl rfl (Nat.le_of_ble_eq_true rfl) ⟨Nat.zero_le _, Nat.zero_le _⟩ (fun r1 h2 q3 => z_fun q3 ?_)
  exact z_ret_i hB rfl (by decide +kernel) ⟨rfl, rfl⟩

set_option maxHeartbeats 4000000 in
set_option maxRecDepth 100000 in
theorem sp_X2_cellWith (l : Launch) (ext : z_Sh) (h : z_H) (x : Int32)  : z_Sp l 1 yX2_cellWith cX2_cellWith 2 (some .int) [.ref 4, .int x] (z_c ext) h (fun rv h' => rv = some (.int (z_atv h 5 36 x)) ∧ h' = h) := by
  refine z_enter ft_X2 (by decide +kernel) fo_X2 (Nat.le_of_ble_eq_true rfl) ?_
  intro p e R s m args below meth c D dA ad hB
  have hC := hB.1
  have hN := hB.2.1
  have hR := hB.2.2.1
  refine z_go hC (pc' := 5) (ls' := [some (.ref 4), some (.int x)]) (st' := [.int x, .ref 5]) (h' := h) (cs := []) [.aload_n 0, .getfield 9, .iload_n 1] (by decide +kernel) rfl rfl trivial ?_
  refine z_callSN hC hN hR (as := [.ref 5, .int x]) (rest := []) ok_X2_29 (by decide +kernel) (sp_X7_at l _ h 5 36 [] x rfl (by decide)) (Nat.le_of_ble_eq_true rfl) rfl rfl (Nat.le_of_ble_eq_true rfl) ⟨Nat.zero_le _, Nat.zero_le _⟩ (fun r1 h2 q3 => z_fun q3 ?_)
  exact z_ret_i hB rfl (by decide +kernel) ⟨rfl, rfl⟩

def fv_X2_wayBetween (h : z_H) (x : Int32) (y : Int32) : Int32 := if 0 ≤ ((z_atv h 6 36 y) - (z_atv h 6 36 x)) then (z_atv h 6 36 y) - (z_atv h 6 36 x) else ((z_atv h 6 36 y) - (z_atv h 6 36 x)) + (h.1 4 4)
set_option maxHeartbeats 4000000 in
set_option maxRecDepth 100000 in
theorem sp_X2_wayBetween (l : Launch) (ext : z_Sh) (h : z_H) (x : Int32) (y : Int32)  : z_Sp l 1 yX2_wayBetween cX2_wayBetween 4 (some .int) [.ref 4, .int x, .int y] (z_c ext) h (fun rv h' => rv = some (.int (fv_X2_wayBetween h x y)) ∧ h' = h) := by
  refine z_enter ft_X2 (by decide +kernel) fo_X2 (Nat.le_of_ble_eq_true rfl) ?_
  intro p e R s m args below meth c D dA ad hB
  have hC := hB.1
  have hN := hB.2.1
  have hR := hB.2.2.1
  refine z_go hC (pc' := 5) (ls' := [some (.ref 4), some (.int x), some (.int y), none]) (st' := [.int y, .ref 6]) (h' := h) (cs := []) [.aload_n 0, .getfield 15, .iload_n 2] (by decide +kernel) rfl rfl trivial ?_
  refine z_callSN hC hN hR (as := [.ref 6, .int y]) (rest := []) ok_X2_29 (by decide +kernel) (sp_X7_at l _ h 6 36 [] y rfl (by decide)) (Nat.le_of_ble_eq_true rfl) rfl rfl (Nat.le_of_ble_eq_true rfl) ⟨Nat.zero_le _, Nat.zero_le _⟩ (fun r1 h2 q3 => z_fun q3 ?_)
  refine z_go hC (pc' := 13) (ls' := [some (.ref 4), some (.int x), some (.int y), none]) (st' := [.int x, .ref 6, .int (z_atv h 6 36 y)]) (h' := h) (cs := []) [.aload_n 0, .getfield 15, .iload_n 1] (by decide +kernel) rfl rfl trivial ?_
  refine z_callSN hC hN hR (as := [.ref 6, .int x]) (rest := [.int (z_atv h 6 36 y)]) ok_X2_29 (by decide +kernel) (sp_X7_at l _ h 6 36 [] x rfl (by decide)) (Nat.le_of_ble_eq_true rfl) rfl rfl (Nat.le_of_ble_eq_true rfl) ⟨Nat.zero_le _, Nat.zero_le _⟩ (fun r4 h5 q6 => z_fun q6 ?_)
  refine z_go hC (pc' := 19) (ls' := [some (.ref 4), some (.int x), some (.int y), some (.int ((z_atv h 6 36 y) - (z_atv h 6 36 x)))]) (st' := [.int ((z_atv h 6 36 y) - (z_atv h 6 36 x))]) (h' := h) (cs := []) [.isub, .istore_n 3, .iload_n 3] (by decide +kernel) rfl rfl trivial ?_
  refine z_if_ge hC (off := 12) 31 (by decide +kernel) (by decide) (fun c7 => ?_) (fun c7 => ?_)
  · skip
    refine z_go hC (pc' := 32) (ls' := [some (.ref 4), some (.int x), some (.int y), some (.int ((z_atv h 6 36 y) - (z_atv h 6 36 x)))]) (st' := [.int ((z_atv h 6 36 y) - (z_atv h 6 36 x))]) (h' := h) (cs := []) [.iload_n 3] (by decide +kernel) rfl rfl trivial ?_
    exact z_ret_i hB rfl (by decide +kernel) ⟨by rw [fv_X2_wayBetween, if_pos c7], rfl⟩
  · skip
    refine z_go hC (pc' := 28) (ls' := [some (.ref 4), some (.int x), some (.int y), some (.int ((z_atv h 6 36 y) - (z_atv h 6 36 x)))]) (st' := [.int (((z_atv h 6 36 y) - (z_atv h 6 36 x)) + (h.1 4 4))]) (h' := h) (cs := []) [.iload_n 3, .aload_n 0, .getfield 25, .iadd] (by decide +kernel) rfl rfl trivial ?_
    refine z_goto hC (off := 4) 32 (by decide +kernel) (by decide) ?_
    exact z_ret_i hB rfl (by decide +kernel) ⟨by rw [fv_X2_wayBetween, if_neg c7], rfl⟩

def fv_X2_nextRoundTree (h : z_H) (x : Int32) : Int32 := if (fv_X0_treeHas h (fv_X0_linkOutOf (fv_X0_blockOf x) (fv_X2_cornerOf x))) = 0 then fv_X0_cellBeside x (((fv_X2_cornerOf x) + (nI 1)) - ((fv_X2_cornerOf x) + (nI 1)) / (nI 4) * (nI 4)) else fv_X0_cellBeside x (fv_X2_cornerOf x)
set_option maxHeartbeats 4000000 in
set_option maxRecDepth 100000 in
theorem sp_X2_nextRoundTree (l : Launch) (ext : z_Sh) (h : z_H) (x : Int32)  : z_Sp l 1 yX2_nextRoundTree cX2_nextRoundTree 4 (some .int) [.ref 4, .int x] (z_c ext) h (fun rv h' => rv = some (.int (fv_X2_nextRoundTree h x)) ∧ h' = h) := by
  refine z_enter ft_X2 (by decide +kernel) fo_X2 (Nat.le_of_ble_eq_true rfl) ?_
  intro p e R s m args below meth c D dA ad hB
  have hC := hB.1
  have hN := hB.2.1
  have hR := hB.2.2.1
  refine z_go hC (pc' := 1) (ls' := [some (.ref 4), some (.int x), none, none]) (st' := [.int x]) (h' := h) (cs := []) [.iload_n 1] (by decide +kernel) rfl rfl trivial ?_
  refine z_callS hC hN hR (as := [.int x]) (rest := []) ok_X2_57 (by decide +kernel) (sp_X2_cornerOf l _ h x) (Nat.le_of_ble_eq_true rfl) rfl rfl (Nat.le_of_ble_eq_true rfl) ⟨Nat.zero_le _, Nat.zero_le _⟩ (fun r1 h2 q3 => z_fun q3 ?_)
  refine z_go hC (pc' := 10) (ls' := [some (.ref 4), some (.int x), some (.int (fv_X2_cornerOf x)), none]) (st' := [.int x, .ref 1]) (h' := h) (cs := []) [.istore_n 2, .aload_n 0, .getfield 21, .iload_n 1] (by decide +kernel) rfl rfl trivial ?_
  refine z_callS hC hN hR (as := [.int x]) (rest := [.ref 1]) ok_X2_60 (by decide +kernel) (sp_X0_blockOf l _ h x) (Nat.le_of_ble_eq_true rfl) rfl rfl (Nat.le_of_ble_eq_true rfl) ⟨Nat.zero_le _, Nat.zero_le _⟩ (fun r4 h5 q6 => z_fun q6 ?_)
  refine z_go hC (pc' := 14) (ls' := [some (.ref 4), some (.int x), some (.int (fv_X2_cornerOf x)), none]) (st' := [.int (fv_X2_cornerOf x), .int (fv_X0_blockOf x), .ref 1]) (h' := h) (cs := []) [.iload_n 2] (by decide +kernel) rfl rfl trivial ?_
  refine z_callS hC hN hR (as := [.int (fv_X0_blockOf x), .int (fv_X2_cornerOf x)]) (rest := [.ref 1]) ok_X2_63 (by decide +kernel) (sp_X0_linkOutOf l _ h (fv_X0_blockOf x) (fv_X2_cornerOf x)) (Nat.le_of_ble_eq_true rfl) rfl rfl (Nat.le_of_ble_eq_true rfl) ⟨Nat.zero_le _, Nat.zero_le _⟩ (fun r7 h8 q9 => z_fun q9 ?_)
  refine z_callV hC hN hR (as := [.int (fv_X0_linkOutOf (fv_X0_blockOf x) (fv_X2_cornerOf x))]) (rest := []) ok_X2_67 (by decide +kernel) (sp_X0_treeHas l _ h (fv_X0_linkOutOf (fv_X0_blockOf x) (fv_X2_cornerOf x))) rfl rfl (Nat.le_of_ble_eq_true rfl) rfl rfl (Nat.le_of_ble_eq_true rfl) ⟨Nat.zero_le _, Nat.zero_le _⟩ (fun r10 h11 q12 => z_fun q12 ?_)
  refine z_go hC (pc' := 23) (ls' := [some (.ref 4), some (.int x), some (.int (fv_X2_cornerOf x)), some (.int (fv_X0_treeHas h (fv_X0_linkOutOf (fv_X0_blockOf x) (fv_X2_cornerOf x))))]) (st' := [.int (fv_X0_treeHas h (fv_X0_linkOutOf (fv_X0_blockOf x) (fv_X2_cornerOf x))), .int x]) (h' := h) (cs := []) [.istore_n 3, .iload_n 1, .iload_n 3] (by decide +kernel) rfl rfl trivial ?_
  refine z_if_eq hC (off := 7) 30 (by decide +kernel) (by decide) (fun c13 => ?_) (fun c13 => ?_)
  · skip
    refine z_go hC (pc' := 35) (ls' := [some (.ref 4), some (.int x), some (.int (fv_X2_cornerOf x)), some (.int (fv_X0_treeHas h (fv_X0_linkOutOf (fv_X0_blockOf x) (fv_X2_cornerOf x))))]) (st' := [.int (((fv_X2_cornerOf x) + (nI 1)) - ((fv_X2_cornerOf x) + (nI 1)) / (nI 4) * (nI 4)), .int x]) (h' := h) (cs := [¬ (nI 4) = 0]) [.iload_n 2, .iconst 1, .iadd, .iconst 4, .irem] (by decide +kernel) rfl rfl (show ¬ (nI 4) = 0 by decide) ?_
    refine z_callS hC hN hR (as := [.int x, .int (((fv_X2_cornerOf x) + (nI 1)) - ((fv_X2_cornerOf x) + (nI 1)) / (nI 4) * (nI 4))]) (rest := []) ok_X2_71 (by decide +kernel) (sp_X0_cellBeside l _ h x (((fv_X2_cornerOf x) + (nI 1)) - ((fv_X2_cornerOf x) + (nI 1)) / (nI 4) * (nI 4))) (Nat.le_of_ble_eq_true rfl) rfl rfl (Nat.le_of_ble_eq_true rfl) ⟨Nat.zero_le _, Nat.zero_le _⟩ (fun r14 h15 q16 => z_fun q16 ?_)
    exact z_ret_i hB rfl (by decide +kernel) ⟨by rw [fv_X2_nextRoundTree, if_pos c13], rfl⟩
  · skip
    refine z_go hC (pc' := 27) (ls' := [some (.ref 4), some (.int x), some (.int (fv_X2_cornerOf x)), some (.int (fv_X0_treeHas h (fv_X0_linkOutOf (fv_X0_blockOf x) (fv_X2_cornerOf x))))]) (st' := [.int (fv_X2_cornerOf x), .int x]) (h' := h) (cs := []) [.iload_n 2] (by decide +kernel) rfl rfl trivial ?_
    refine z_goto hC (off := 8) 35 (by decide +kernel) (by decide) ?_
    refine z_callS hC hN hR (as := [.int x, .int (fv_X2_cornerOf x)]) (rest := []) ok_X2_71 (by decide +kernel) (sp_X0_cellBeside l _ h x (fv_X2_cornerOf x)) (Nat.le_of_ble_eq_true rfl) rfl rfl (Nat.le_of_ble_eq_true rfl) ⟨Nat.zero_le _, Nat.zero_le _⟩ (fun r17 h18 q19 => z_fun q19 ?_)
    exact z_ret_i hB rfl (by decide +kernel) ⟨by rw [fv_X2_nextRoundTree, if_neg c13], rfl⟩

set_option maxHeartbeats 4000000 in
set_option maxRecDepth 100000 in
theorem sp_X2_makeRing (l : Launch) (ext : z_Sh) (h : z_H) (x : Int32)  : z_Sp l 1 yX2_makeRing cX2_makeRing 5 none [.ref 4, .int x] (z_c ext) h (fun rv h' => rv = none ∧ h' = z_putv (z_putv (z_putv (z_putv h 7 36 x (x + (nI 1))) 7 36 (x + (nI 1)) ((x + (nI 6)) + (nI 1))) 7 36 ((x + (nI 6)) + (nI 1)) (x + (nI 6))) 7 36 (x + (nI 6)) x) := by
  refine z_enter ft_X2 (by decide +kernel) fo_X2 (Nat.le_of_ble_eq_true rfl) ?_
  intro p e R s m args below meth c D dA ad hB
  have hC := hB.1
  have hN := hB.2.1
  have hR := hB.2.2.1
  refine z_go hC (pc' := 20) (ls' := [some (.ref 4), some (.int x), some (.int (x + (nI 1))), some (.int (x + (nI 6))), some (.int ((x + (nI 6)) + (nI 1)))]) (st' := [.int (x + (nI 1)), .int x, .ref 7]) (h' := h) (cs := []) [.iload_n 1, .iconst 1, .iadd, .istore_n 2, .iload_n 1, .bipush 6, .iadd, .istore_n 3, .iload_n 3, .iconst 1, .iadd, .istore 4, .aload_n 0, .getfield 18, .iload_n 1, .iload_n 2] (by decide +kernel) rfl rfl trivial ?_
  refine z_callSN hC hN hR (as := [.ref 7, .int x, .int (x + (nI 1))]) (rest := []) ok_X2_49 (by decide +kernel) (sp_X7_put l _ h 7 36 [] x (x + (nI 1)) rfl (by decide)) (Nat.le_of_ble_eq_true rfl) rfl rfl (Nat.le_of_ble_eq_true rfl) ⟨Nat.zero_le _, Nat.zero_le _⟩ (fun r1 h2 q3 => z_fun q3 ?_)
  refine z_go hC (pc' := 30) (ls' := [some (.ref 4), some (.int x), some (.int (x + (nI 1))), some (.int (x + (nI 6))), some (.int ((x + (nI 6)) + (nI 1)))]) (st' := [.int ((x + (nI 6)) + (nI 1)), .int (x + (nI 1)), .ref 7]) (h' := z_putv h 7 36 x (x + (nI 1))) (cs := []) [.aload_n 0, .getfield 18, .iload_n 2, .iload 4] (by decide +kernel) rfl rfl trivial ?_
  refine z_callSN hC hN hR (as := [.ref 7, .int (x + (nI 1)), .int ((x + (nI 6)) + (nI 1))]) (rest := []) ok_X2_49 (by decide +kernel) (sp_X7_put l _ (z_putv h 7 36 x (x + (nI 1))) 7 36 [] (x + (nI 1)) ((x + (nI 6)) + (nI 1)) rfl (by decide)) (Nat.le_of_ble_eq_true rfl) rfl rfl (Nat.le_of_ble_eq_true rfl) ⟨Nat.zero_le _, Nat.zero_le _⟩ (fun r4 h5 q6 => z_fun q6 ?_)
  refine z_go hC (pc' := 40) (ls' := [some (.ref 4), some (.int x), some (.int (x + (nI 1))), some (.int (x + (nI 6))), some (.int ((x + (nI 6)) + (nI 1)))]) (st' := [.int (x + (nI 6)), .int ((x + (nI 6)) + (nI 1)), .ref 7]) (h' := z_putv (z_putv h 7 36 x (x + (nI 1))) 7 36 (x + (nI 1)) ((x + (nI 6)) + (nI 1))) (cs := []) [.aload_n 0, .getfield 18, .iload 4, .iload_n 3] (by decide +kernel) rfl rfl trivial ?_
  refine z_callSN hC hN hR (as := [.ref 7, .int ((x + (nI 6)) + (nI 1)), .int (x + (nI 6))]) (rest := []) ok_X2_49 (by decide +kernel) (sp_X7_put l _ (z_putv (z_putv h 7 36 x (x + (nI 1))) 7 36 (x + (nI 1)) ((x + (nI 6)) + (nI 1))) 7 36 [] ((x + (nI 6)) + (nI 1)) (x + (nI 6)) rfl (by decide)) (Nat.le_of_ble_eq_true rfl) rfl rfl (Nat.le_of_ble_eq_true rfl) ⟨Nat.zero_le _, Nat.zero_le _⟩ (fun r7 h8 q9 => z_fun q9 ?_)
  refine z_go hC (pc' := 49) (ls' := [some (.ref 4), some (.int x), some (.int (x + (nI 1))), some (.int (x + (nI 6))), some (.int ((x + (nI 6)) + (nI 1)))]) (st' := [.int x, .int (x + (nI 6)), .ref 7]) (h' := z_putv (z_putv (z_putv h 7 36 x (x + (nI 1))) 7 36 (x + (nI 1)) ((x + (nI 6)) + (nI 1))) 7 36 ((x + (nI 6)) + (nI 1)) (x + (nI 6))) (cs := []) [.aload_n 0, .getfield 18, .iload_n 3, .iload_n 1] (by decide +kernel) rfl rfl trivial ?_
  refine z_callSN hC hN hR (as := [.ref 7, .int (x + (nI 6)), .int x]) (rest := []) ok_X2_49 (by decide +kernel) (sp_X7_put l _ (z_putv (z_putv (z_putv h 7 36 x (x + (nI 1))) 7 36 (x + (nI 1)) ((x + (nI 6)) + (nI 1))) 7 36 ((x + (nI 6)) + (nI 1)) (x + (nI 6))) 7 36 [] (x + (nI 6)) x rfl (by decide)) (Nat.le_of_ble_eq_true rfl) rfl rfl (Nat.le_of_ble_eq_true rfl) ⟨Nat.zero_le _, Nat.zero_le _⟩ (fun r10 h11 q12 => z_fun q12 ?_)
  exact z_ret_v hB rfl (by decide +kernel) ⟨rfl, rfl⟩
end
section
/-! ===== printed by wip/p27/gen: leaf methods of the class, mirrored ===== -/
set_option maxHeartbeats 4000000 in
set_option maxRecDepth 100000 in
theorem sp_X3_size (l : Launch) (ext : z_Sh) (h : z_H)   : z_Sp l 0 yX3_size cX3_size 1 (some .int) [.ref 8] (z_c ext) h (fun rv h' => rv = some (.int (h.1 8 2)) ∧ h' = h) := by
  refine z_enter ft_X3 (by decide +kernel) fo_X3 (Nat.le_of_ble_eq_true rfl) ?_
  intro p e R s m args below meth c D dA ad hB
  have hC := hB.1
  have hN := hB.2.1
  have hR := hB.2.2.1
  refine z_go hC (pc' := 4) (ls' := [some (.ref 8)]) (st' := [.int (h.1 8 2)]) (h' := h) (cs := []) [.aload_n 0, .getfield 15] (by decide +kernel) rfl rfl trivial ?_
  exact z_ret_i hB rfl (by decide +kernel) ⟨rfl, rfl⟩

set_option maxHeartbeats 4000000 in
set_option maxRecDepth 100000 in
theorem sp_X3_cellAfter (l : Launch) (ext : z_Sh) (h : z_H) (x : Int32)  : z_Sp l 1 yX3_cellAfter cX3_cellAfter 2 (some .int) [.ref 8, .int x] (z_c ext) h (fun rv h' => rv = some (.int (h.1 9 ((((h.1 8 1) + x) &&& (nI 63)).toNatClampNeg))) ∧ h' = h) := by
  refine z_enter ft_X3 (by decide +kernel) fo_X3 (Nat.le_of_ble_eq_true rfl) ?_
  intro p e R s m args below meth c D dA ad hB
  have hC := hB.1
  have hN := hB.2.1
  have hR := hB.2.2.1
  refine z_go hC (pc' := 13) (ls' := [some (.ref 8), some (.int x)]) (st' := [.int (((h.1 8 1) + x) &&& (nI 63)), .ref 9]) (h' := h) (cs := []) [.aload_n 0, .getfield 11, .aload_n 0, .getfield 19, .iload_n 1, .iadd, .bipush 63, .iand] (by decide +kernel) rfl rfl trivial ?_
  refine z_callSN hC hN hR (as := [.ref 9, .int (((h.1 8 1) + x) &&& (nI 63))]) (rest := []) ok_X3_22 (by decide +kernel) (sp_X7_atI l _ h 9 64 [] (((h.1 8 1) + x) &&& (nI 63)) rfl (z_in63 _)) (Nat.le_of_ble_eq_true rfl) rfl rfl (Nat.le_of_ble_eq_true rfl) ⟨Nat.zero_le _, Nat.zero_le _⟩ (fun r1 h2 q3 => z_fun q3 ?_)
  exact z_ret_i hB rfl (by decide +kernel) ⟨rfl, rfl⟩

def fv_X3_firstCell (h : z_H)  : Int32 := if (h.1 8 2) ≤ 0 then (-1) else z_atv h 9 64 (h.1 8 1)
set_option maxHeartbeats 4000000 in
set_option maxRecDepth 100000 in
theorem sp_X3_firstCell (l : Launch) (ext : z_Sh) (h : z_H)   : z_Sp l 1 yX3_firstCell cX3_firstCell 1 (some .int) [.ref 8] (z_c ext) h (fun rv h' => rv = some (.int (fv_X3_firstCell h )) ∧ h' = h) := by
  refine z_enter ft_X3 (by decide +kernel) fo_X3 (Nat.le_of_ble_eq_true rfl) ?_
  intro p e R s m args below meth c D dA ad hB
  have hC := hB.1
  have hN := hB.2.1
  have hR := hB.2.2.1
  refine z_go hC (pc' := 4) (ls' := [some (.ref 8)]) (st' := [.int (h.1 8 2)]) (h' := h) (cs := []) [.aload_n 0, .getfield 15] (by decide +kernel) rfl rfl trivial ?_
  refine z_if_le hC (off := 17) 21 (by decide +kernel) (by decide) (fun c1 => ?_) (fun c1 => ?_)
  · skip
    refine z_go hC (pc' := 22) (ls' := [some (.ref 8)]) (st' := [.int (-1)]) (h' := h) (cs := []) [.iconst (-1)] (by decide +kernel) rfl rfl trivial ?_
    exact z_ret_i hB rfl (by decide +kernel) ⟨by rw [fv_X3_firstCell, if_pos c1], rfl⟩
  · skip
    refine z_go hC (pc' := 15) (ls' := [some (.ref 8)]) (st' := [.int (h.1 8 1), .ref 9]) (h' := h) (cs := []) [.aload_n 0, .getfield 11, .aload_n 0, .getfield 19] (by decide +kernel) rfl rfl trivial ?_
    refine z_callSN hC hN hR (as := [.ref 9, .int (h.1 8 1)]) (rest := []) ok_X3_22 (by decide +kernel) (sp_X7_at l _ h 9 64 [] (h.1 8 1) rfl (by decide)) (Nat.le_of_ble_eq_true rfl) rfl rfl (Nat.le_of_ble_eq_true rfl) ⟨Nat.zero_le _, Nat.zero_le _⟩ (fun r2 h3 q4 => z_fun q4 ?_)
    refine z_goto hC (off := 4) 22 (by decide +kernel) (by decide) ?_
    exact z_ret_i hB rfl (by decide +kernel) ⟨by rw [fv_X3_firstCell, if_neg c1], rfl⟩

set_option maxHeartbeats 4000000 in
set_option maxRecDepth 100000 in
theorem sp_X3_add (l : Launch) (ext : z_Sh) (h : z_H) (x : Int32)  : z_Sp l 1 yX3_add cX3_add 2 none [.ref 8, .int x] (z_c ext) h (fun rv h' => rv = none ∧ h' = z_set (z_set h 9 ((((h.1 8 1) + (h.1 8 2)) &&& (nI 63)).toNatClampNeg) x) 8 2 ((h.1 8 2) + (nI 1))) := by
  refine z_enter ft_X3 (by decide +kernel) fo_X3 (Nat.le_of_ble_eq_true rfl) ?_
  intro p e R s m args below meth c D dA ad hB
  have hC := hB.1
  have hN := hB.2.1
  have hR := hB.2.2.1
  refine z_go hC (pc' := 17) (ls' := [some (.ref 8), some (.int x)]) (st' := [.int x, .int (((h.1 8 1) + (h.1 8 2)) &&& (nI 63)), .ref 9]) (h' := h) (cs := []) [.aload_n 0, .getfield 11, .aload_n 0, .getfield 19, .aload_n 0, .getfield 15, .iadd, .bipush 63, .iand, .iload_n 1] (by decide +kernel) rfl rfl trivial ?_
  refine z_callSN hC hN hR (as := [.ref 9, .int (((h.1 8 1) + (h.1 8 2)) &&& (nI 63)), .int x]) (rest := []) ok_X3_35 (by decide +kernel) (sp_X7_putI l _ h 9 64 [] (((h.1 8 1) + (h.1 8 2)) &&& (nI 63)) x rfl (z_in63 _)) (Nat.le_of_ble_eq_true rfl) rfl rfl (Nat.le_of_ble_eq_true rfl) ⟨Nat.zero_le _, Nat.zero_le _⟩ (fun r1 h2 q3 => z_fun q3 ?_)
  refine z_go hC (pc' := 30) (ls' := [some (.ref 8), some (.int x)]) (st' := []) (h' := z_set (z_set h 9 ((((h.1 8 1) + (h.1 8 2)) &&& (nI 63)).toNatClampNeg) x) 8 2 ((h.1 8 2) + (nI 1))) (cs := []) [.aload_n 0, .dup, .getfield 15, .iconst 1, .iadd, .putfield 15] (by decide +kernel) rfl rfl trivial ?_
  exact z_ret_v hB rfl (by decide +kernel) ⟨rfl, rfl⟩

set_option maxHeartbeats 4000000 in
set_option maxRecDepth 100000 in
theorem sp_X3_takeFirst (l : Launch) (ext : z_Sh) (h : z_H)   : z_Sp l 0 yX3_takeFirst cX3_takeFirst 1 none [.ref 8] (z_c ext) h (fun rv h' => rv = none ∧ h' = z_set (z_set h 8 1 (((h.1 8 1) + (nI 1)) &&& (nI 63))) 8 2 ((h.1 8 2) - (nI 1))) := by
  refine z_enter ft_X3 (by decide +kernel) fo_X3 (Nat.le_of_ble_eq_true rfl) ?_
  intro p e R s m args below meth c D dA ad hB
  have hC := hB.1
  have hN := hB.2.1
  have hR := hB.2.2.1
  refine z_go hC (pc' := 23) (ls' := [some (.ref 8)]) (st' := []) (h' := z_set (z_set h 8 1 (((h.1 8 1) + (nI 1)) &&& (nI 63))) 8 2 ((h.1 8 2) - (nI 1))) (cs := []) [.aload_n 0, .aload_n 0, .getfield 19, .iconst 1, .iadd, .bipush 63, .iand, .putfield 19, .aload_n 0, .dup, .getfield 15, .iconst 1, .isub, .putfield 15] (by decide +kernel) rfl rfl trivial ?_
  exact z_ret_v hB rfl (by decide +kernel) ⟨rfl, rfl⟩

set_option maxHeartbeats 4000000 in
set_option maxRecDepth 100000 in
theorem sp_X3_putFirstBack (l : Launch) (ext : z_Sh) (h : z_H)   : z_Sp l 0 yX3_putFirstBack cX3_putFirstBack 1 none [.ref 8] (z_c ext) h (fun rv h' => rv = none ∧ h' = z_set (z_set h 8 1 (((h.1 8 1) - (nI 1)) &&& (nI 63))) 8 2 ((h.1 8 2) + (nI 1))) := by
  refine z_enter ft_X3 (by decide +kernel) fo_X3 (Nat.le_of_ble_eq_true rfl) ?_
  intro p e R s m args below meth c D dA ad hB
  have hC := hB.1
  have hN := hB.2.1
  have hR := hB.2.2.1
  refine z_go hC (pc' := 23) (ls' := [some (.ref 8)]) (st' := []) (h' := z_set (z_set h 8 1 (((h.1 8 1) - (nI 1)) &&& (nI 63))) 8 2 ((h.1 8 2) + (nI 1))) (cs := []) [.aload_n 0, .aload_n 0, .getfield 19, .iconst 1, .isub, .bipush 63, .iand, .putfield 19, .aload_n 0, .dup, .getfield 15, .iconst 1, .iadd, .putfield 15] (by decide +kernel) rfl rfl trivial ?_
  exact z_ret_v hB rfl (by decide +kernel) ⟨rfl, rfl⟩

def fv_X6_isThere (h : z_H)  : Int32 := if (h.1 10 5) ≤ 0 then nI 0 else nI 1
theorem zb_X6_isThere (h : z_H)  : fv_X6_isThere h  = 0 ∨ fv_X6_isThere h  = 1 := by unfold fv_X6_isThere; (repeat' split) <;> first | decide
set_option maxHeartbeats 4000000 in
set_option maxRecDepth 100000 in
theorem sp_X6_isThere (l : Launch) (ext : z_Sh) (h : z_H)   : z_Sp l 0 yX6_isThere cX6_isThere 1 (some .boolean) [.ref 10] (z_c ext) h (fun rv h' => rv = some (.int (fv_X6_isThere h )) ∧ h' = h) := by
  refine z_enter ft_X6 (by decide +kernel) fo_X6 (Nat.le_of_ble_eq_true rfl) ?_
  intro p e R s m args below meth c D dA ad hB
  have hC := hB.1
  have hN := hB.2.1
  have hR := hB.2.2.1
  refine z_go hC (pc' := 4) (ls' := [some (.ref 10)]) (st' := [.int (h.1 10 5)]) (h' := h) (cs := []) [.aload_n 0, .getfield 26] (by decide +kernel) rfl rfl trivial ?_
  refine z_if_le hC (off := 7) 11 (by decide +kernel) (by decide) (fun c1 => ?_) (fun c1 => ?_)
  · skip
    refine z_go hC (pc' := 12) (ls' := [some (.ref 10)]) (st' := [.int (nI 0)]) (h' := h) (cs := []) [.iconst 0] (by decide +kernel) rfl rfl trivial ?_
    exact z_ret_z hB rfl (by decide) (by decide +kernel) ⟨by rw [fv_X6_isThere, if_pos c1], rfl⟩
  · skip
    refine z_go hC (pc' := 8) (ls' := [some (.ref 10)]) (st' := [.int (nI 1)]) (h' := h) (cs := []) [.iconst 1] (by decide +kernel) rfl rfl trivial ?_
    refine z_goto hC (off := 4) 12 (by decide +kernel) (by decide) ?_
    exact z_ret_z hB rfl (by decide) (by decide +kernel) ⟨by rw [fv_X6_isThere, if_neg c1], rfl⟩

def fv_X6_isLiving (h : z_H)  : Int32 := if (fv_X6_isThere h ) = 0 then nI 0 else if (h.1 10 8) = 0 then nI 1 else nI 0
theorem zb_X6_isLiving (h : z_H)  : fv_X6_isLiving h  = 0 ∨ fv_X6_isLiving h  = 1 := by unfold fv_X6_isLiving; (repeat' split) <;> first | decide | exact zb_X6_isThere _
set_option maxHeartbeats 4000000 in
set_option maxRecDepth 100000 in
theorem sp_X6_isLiving (l : Launch) (ext : z_Sh) (h : z_H)   : z_Sp l 1 yX6_isLiving cX6_isLiving 1 (some .boolean) [.ref 10] (z_c ext) h (fun rv h' => rv = some (.int (fv_X6_isLiving h )) ∧ h' = h) := by
  refine z_enter ft_X6 (by decide +kernel) fo_X6 (Nat.le_of_ble_eq_true rfl) ?_
  intro p e R s m args below meth c D dA ad hB
  have hC := hB.1
  have hN := hB.2.1
  have hR := hB.2.2.1
  refine z_go hC (pc' := 1) (ls' := [some (.ref 10)]) (st' := [.ref 10]) (h' := h) (cs := []) [.aload_n 0] (by decide +kernel) rfl rfl trivial ?_
  refine z_callV hC hN hR (as := []) (rest := []) ok_X6_30 (by decide +kernel) (sp_X6_isThere l _ h ) rfl rfl (Nat.le_of_ble_eq_true rfl) rfl rfl (Nat.le_of_ble_eq_true rfl) ⟨Nat.zero_le _, Nat.zero_le _⟩ (fun r1 h2 q3 => z_fun q3 ?_)
  refine z_if_eq hC (off := 14) 18 (by decide +kernel) (by decide) (fun c4 => ?_) (fun c4 => ?_)
  · skip
    refine z_go hC (pc' := 19) (ls' := [some (.ref 10)]) (st' := [.int (nI 0)]) (h' := h) (cs := []) [.iconst 0] (by decide +kernel) rfl rfl trivial ?_
    exact z_ret_z hB rfl (by decide) (by decide +kernel) ⟨by rw [fv_X6_isLiving, if_pos c4], rfl⟩
  · skip
    refine z_go hC (pc' := 11) (ls' := [some (.ref 10)]) (st' := [.int (h.1 10 8)]) (h' := h) (cs := []) [.aload_n 0, .getfield 34] (by decide +kernel) rfl rfl trivial ?_
    refine z_if_ne hC (off := 7) 18 (by decide +kernel) (by decide) (fun c5 => ?_) (fun c5 => ?_)
    · skip
      refine z_go hC (pc' := 19) (ls' := [some (.ref 10)]) (st' := [.int (nI 0)]) (h' := h) (cs := []) [.iconst 0] (by decide +kernel) rfl rfl trivial ?_
      exact z_ret_z hB rfl (by decide) (by decide +kernel) ⟨by rw [fv_X6_isLiving, if_neg c4, if_neg c5], rfl⟩
    · skip
      refine z_go hC (pc' := 15) (ls' := [some (.ref 10)]) (st' := [.int (nI 1)]) (h' := h) (cs := []) [.iconst 1] (by decide +kernel) rfl rfl trivial ?_
      refine z_goto hC (off := 4) 19 (by decide +kernel) (by decide) ?_
      exact z_ret_z hB rfl (by decide) (by decide +kernel) ⟨by rw [fv_X6_isLiving, if_neg c4, if_pos c5], rfl⟩

set_option maxHeartbeats 4000000 in
set_option maxRecDepth 100000 in
theorem sp_X6_size (l : Launch) (ext : z_Sh) (h : z_H)   : z_Sp l 0 yX6_size cX6_size 1 (some .int) [.ref 10] (z_c ext) h (fun rv h' => rv = some (.int (h.1 10 5)) ∧ h' = h) := by
  refine z_enter ft_X6 (by decide +kernel) fo_X6 (Nat.le_of_ble_eq_true rfl) ?_
  intro p e R s m args below meth c D dA ad hB
  have hC := hB.1
  have hN := hB.2.1
  have hR := hB.2.2.1
  refine z_go hC (pc' := 4) (ls' := [some (.ref 10)]) (st' := [.int (h.1 10 5)]) (h' := h) (cs := []) [.aload_n 0, .getfield 26] (by decide +kernel) rfl rfl trivial ?_
  exact z_ret_i hB rfl (by decide +kernel) ⟨rfl, rfl⟩

set_option maxHeartbeats 4000000 in
set_option maxRecDepth 100000 in
theorem sp_X6_growth (l : Launch) (ext : z_Sh) (h : z_H)   : z_Sp l 0 yX6_growth cX6_growth 1 (some .int) [.ref 10] (z_c ext) h (fun rv h' => rv = some (.int (h.1 10 6)) ∧ h' = h) := by
  refine z_enter ft_X6 (by decide +kernel) fo_X6 (Nat.le_of_ble_eq_true rfl) ?_
  intro p e R s m args below meth c D dA ad hB
  have hC := hB.1
  have hN := hB.2.1
  have hR := hB.2.2.1
  refine z_go hC (pc' := 4) (ls' := [some (.ref 10)]) (st' := [.int (h.1 10 6)]) (h' := h) (cs := []) [.aload_n 0, .getfield 38] (by decide +kernel) rfl rfl trivial ?_
  exact z_ret_i hB rfl (by decide +kernel) ⟨rfl, rfl⟩

set_option maxHeartbeats 4000000 in
set_option maxRecDepth 100000 in
theorem sp_X6_cellOf (l : Launch) (ext : z_Sh) (h : z_H) (x : Int32)  : z_Sp l 1 yX6_cellOf cX6_cellOf 2 (some .int) [.ref 10, .int x] (z_c ext) h (fun rv h' => rv = some (.int (h.1 11 ((((h.1 10 4) + x) &&& (nI 63)).toNatClampNeg))) ∧ h' = h) := by
  refine z_enter ft_X6 (by decide +kernel) fo_X6 (Nat.le_of_ble_eq_true rfl) ?_
  intro p e R s m args below meth c D dA ad hB
  have hC := hB.1
  have hN := hB.2.1
  have hR := hB.2.2.1
  refine z_go hC (pc' := 13) (ls' := [some (.ref 10), some (.int x)]) (st' := [.int (((h.1 10 4) + x) &&& (nI 63)), .ref 11]) (h' := h) (cs := []) [.aload_n 0, .getfield 11, .aload_n 0, .getfield 41, .iload_n 1, .iadd, .bipush 63, .iand] (by decide +kernel) rfl rfl trivial ?_
  refine z_callSN hC hN hR (as := [.ref 11, .int (((h.1 10 4) + x) &&& (nI 63))]) (rest := []) ok_X6_44 (by decide +kernel) (sp_X7_atI l _ h 11 64 [] (((h.1 10 4) + x) &&& (nI 63)) rfl (z_in63 _)) (Nat.le_of_ble_eq_true rfl) rfl rfl (Nat.le_of_ble_eq_true rfl) ⟨Nat.zero_le _, Nat.zero_le _⟩ (fun r1 h2 q3 => z_fun q3 ?_)
  exact z_ret_i hB rfl (by decide +kernel) ⟨rfl, rfl⟩

set_option maxHeartbeats 4000000 in
set_option maxRecDepth 100000 in
theorem sp_X6_isOn (l : Launch) (ext : z_Sh) (h : z_H) (x : Int32)  : z_Sp l 2 yX6_isOn cX6_isOn 2 (some .boolean) [.ref 10, .int x] (z_c ext) h (fun rv h' => rv = some (.int (fv_X7_isIn (h.2 10 7) x)) ∧ h' = h) := by
  refine z_enter ft_X6 (by decide +kernel) fo_X6 (Nat.le_of_ble_eq_true rfl) ?_
  intro p e R s m args below meth c D dA ad hB
  have hC := hB.1
  have hN := hB.2.1
  have hR := hB.2.2.1
  refine z_go hC (pc' := 5) (ls' := [some (.ref 10), some (.int x)]) (st' := [.int x, .long (h.2 10 7)]) (h' := h) (cs := []) [.aload_n 0, .getfield 48, .iload_n 1] (by decide +kernel) rfl rfl trivial ?_
  refine z_callSN hC hN hR (as := [.long (h.2 10 7), .int x]) (rest := []) ok_X6_52 (by decide +kernel) (sp_X7_isIn l _ h (h.2 10 7) x) (Nat.le_of_ble_eq_true rfl) rfl rfl (Nat.le_of_ble_eq_true rfl) ⟨Nat.zero_le _, Nat.zero_le _⟩ (fun r1 h2 q3 => z_fun q3 ?_)
  exact z_ret_z hB rfl (zb_X7_isIn (h.2 10 7) x) (by decide +kernel) ⟨rfl, rfl⟩

set_option maxHeartbeats 4000000 in
set_option maxRecDepth 100000 in
theorem sp_X6_lay (l : Launch) (ext : z_Sh) (h : z_H) (x : Int32) (y : Int32)  : z_Sp l 1 yX6_lay cX6_lay 3 none [.ref 10, .int x, .int y] (z_c ext) h (fun rv h' => rv = none ∧ h' = z_set (z_setL (z_set (z_set (z_putv h 11 64 (h.1 10 4) x) 10 5 (nI 1)) 10 6 y) 10 7 (fv_X7_setOf x)) 10 8 (nI 0)) := by
  refine z_enter ft_X6 (by decide +kernel) fo_X6 (Nat.le_of_ble_eq_true rfl) ?_
  intro p e R s m args below meth c D dA ad hB
  have hC := hB.1
  have hN := hB.2.1
  have hR := hB.2.2.1
  refine z_go hC (pc' := 9) (ls' := [some (.ref 10), some (.int x), some (.int y)]) (st' := [.int x, .int (h.1 10 4), .ref 11]) (h' := h) (cs := []) [.aload_n 0, .getfield 11, .aload_n 0, .getfield 41, .iload_n 1] (by decide +kernel) rfl rfl trivial ?_
  refine z_callSN hC hN hR (as := [.ref 11, .int (h.1 10 4), .int x]) (rest := []) ok_X6_56 (by decide +kernel) (sp_X7_put l _ h 11 64 [] (h.1 10 4) x rfl (by decide)) (Nat.le_of_ble_eq_true rfl) rfl rfl (Nat.le_of_ble_eq_true rfl) ⟨Nat.zero_le _, Nat.zero_le _⟩ (fun r1 h2 q3 => z_fun q3 ?_)
  refine z_go hC (pc' := 24) (ls' := [some (.ref 10), some (.int x), some (.int y)]) (st' := [.int x, .ref 10]) (h' := z_set (z_set (z_putv h 11 64 (h.1 10 4) x) 10 5 (nI 1)) 10 6 y) (cs := []) [.aload_n 0, .iconst 1, .putfield 26, .aload_n 0, .iload_n 2, .putfield 38, .aload_n 0, .iload_n 1] (by decide +kernel) rfl rfl trivial ?_
  refine z_callSN hC hN hR (as := [.int x]) (rest := [.ref 10]) ok_X6_60 (by decide +kernel) (sp_X7_setOf l _ (z_set (z_set (z_putv h 11 64 (h.1 10 4) x) 10 5 (nI 1)) 10 6 y) x) (Nat.le_of_ble_eq_true rfl) rfl rfl (Nat.le_of_ble_eq_true rfl) ⟨Nat.zero_le _, Nat.zero_le _⟩ (fun r4 h5 q6 => z_fun q6 ?_)
  refine z_go hC (pc' := 35) (ls' := [some (.ref 10), some (.int x), some (.int y)]) (st' := []) (h' := z_set (z_setL (z_set (z_set (z_putv h 11 64 (h.1 10 4) x) 10 5 (nI 1)) 10 6 y) 10 7 (fv_X7_setOf x)) 10 8 (nI 0)) (cs := [(nI 0 = 0 ∨ nI 0 = 1)]) [.putfield 48, .aload_n 0, .iconst 0, .putfield 34] (by decide +kernel) rfl rfl (show (nI 0 = 0 ∨ nI 0 = 1) by decide) ?_
  exact z_ret_v hB rfl (by decide +kernel) ⟨rfl, rfl⟩

set_option maxHeartbeats 4000000 in
set_option maxRecDepth 100000 in
theorem sp_X6_takeAway (l : Launch) (ext : z_Sh) (h : z_H)   : z_Sp l 0 yX6_takeAway cX6_takeAway 1 none [.ref 10] (z_c ext) h (fun rv h' => rv = none ∧ h' = z_set (z_set h 10 5 (nI 0)) 10 6 (nI 0)) := by
  refine z_enter ft_X6 (by decide +kernel) fo_X6 (Nat.le_of_ble_eq_true rfl) ?_
  intro p e R s m args below meth c D dA ad hB
  have hC := hB.1
  have hN := hB.2.1
  have hR := hB.2.2.1
  refine z_go hC (pc' := 10) (ls' := [some (.ref 10)]) (st' := []) (h' := z_set (z_set h 10 5 (nI 0)) 10 6 (nI 0)) (cs := []) [.aload_n 0, .iconst 0, .putfield 26, .aload_n 0, .iconst 0, .putfield 38] (by decide +kernel) rfl rfl trivial ?_
  exact z_ret_v hB rfl (by decide +kernel) ⟨rfl, rfl⟩

set_option maxHeartbeats 4000000 in
set_option maxRecDepth 100000 in
theorem sp_X6_die (l : Launch) (ext : z_Sh) (h : z_H)   : z_Sp l 0 yX6_die cX6_die 1 none [.ref 10] (z_c ext) h (fun rv h' => rv = none ∧ h' = z_set h 10 8 (nI 1)) := by
  refine z_enter ft_X6 (by decide +kernel) fo_X6 (Nat.le_of_ble_eq_true rfl) ?_
  intro p e R s m args below meth c D dA ad hB
  have hC := hB.1
  have hN := hB.2.1
  have hR := hB.2.2.1
  refine z_go hC (pc' := 5) (ls' := [some (.ref 10)]) (st' := []) (h' := z_set h 10 8 (nI 1)) (cs := [(nI 1 = 0 ∨ nI 1 = 1)]) [.aload_n 0, .iconst 1, .putfield 34] (by decide +kernel) rfl rfl (show (nI 1 = 0 ∨ nI 1 = 1) by decide) ?_
  exact z_ret_v hB rfl (by decide +kernel) ⟨rfl, rfl⟩
end
section
/-! ===== printed by wip/p27/gen: leaf methods of the class, mirrored ===== -/
def z_advto (h : z_H) (x : Int32) : Int32 := fv_X0_goFrom h (h.1 11 ((((h.1 10 4) + (nI 0)) &&& (nI 63)).toNatClampNeg)) x
def z_stay (h : z_H) : Int64 := (h.2 10 7) &&& ((fv_X7_setOf (h.1 11 ((((h.1 10 4) + ((h.1 10 5) - (nI 1))) &&& (nI 63)).toNatClampNeg))) ^^^ (-1))
def fv_X6_advance (h : z_H) (x : Int32) : Int32 := if (h.1 10 6) ≤ 0 then if (z_advto h x) = (-1) then nI 0 else if (fv_X7_isIn (z_stay h) (z_advto h x)) = 0 then if (fv_X3_firstCell h ) = (z_advto h x) then nI 1 else nI 1 else nI 0 else if (z_advto h x) = (-1) then nI 0 else if (fv_X7_isIn (h.2 10 7) (z_advto h x)) = 0 then if (fv_X3_firstCell h ) = (z_advto h x) then nI 1 else nI 1 else nI 0
def fh_X6_advance (h : z_H) (x : Int32) : z_H := if (h.1 10 6) ≤ 0 then if (z_advto h x) = (-1) then h else if (fv_X7_isIn (z_stay h) (z_advto h x)) = 0 then if (fv_X3_firstCell h ) = (z_advto h x) then z_set (z_set (z_set (z_setL (z_set (z_set (z_set h 10 4 (((h.1 10 4) - (nI 1)) &&& (nI 63))) 11 ((((h.1 10 4) - (nI 1)) &&& (nI 63)).toNatClampNeg) (z_advto h x)) 12 ((((h.1 10 4) - (nI 1)) &&& (nI 63)).toNatClampNeg) ((nI 0) ||| (nI 2))) 10 7 ((z_stay h) ||| (fv_X7_setOf (z_advto h x)))) 8 1 (((h.1 8 1) + (nI 1)) &&& (nI 63))) 8 2 ((h.1 8 2) - (nI 1))) 10 6 ((h.1 10 6) + (nI 2)) else z_setL (z_set (z_set (z_set h 10 4 (((h.1 10 4) - (nI 1)) &&& (nI 63))) 11 ((((h.1 10 4) - (nI 1)) &&& (nI 63)).toNatClampNeg) (z_advto h x)) 12 ((((h.1 10 4) - (nI 1)) &&& (nI 63)).toNatClampNeg) ((nI 0) ||| (nI 0))) 10 7 ((z_stay h) ||| (fv_X7_setOf (z_advto h x))) else h else if (z_advto h x) = (-1) then h else if (fv_X7_isIn (h.2 10 7) (z_advto h x)) = 0 then if (fv_X3_firstCell h ) = (z_advto h x) then z_set (z_set (z_set (z_set (z_set (z_setL (z_set (z_set (z_set h 10 4 (((h.1 10 4) - (nI 1)) &&& (nI 63))) 11 ((((h.1 10 4) - (nI 1)) &&& (nI 63)).toNatClampNeg) (z_advto h x)) 12 ((((h.1 10 4) - (nI 1)) &&& (nI 63)).toNatClampNeg) ((nI 1) ||| (nI 2))) 10 7 ((h.2 10 7) ||| (fv_X7_setOf (z_advto h x)))) 10 5 ((h.1 10 5) + (nI 1))) 10 6 ((h.1 10 6) - (nI 1))) 8 1 (((h.1 8 1) + (nI 1)) &&& (nI 63))) 8 2 ((h.1 8 2) - (nI 1))) 10 6 (((h.1 10 6) - (nI 1)) + (nI 2)) else z_set (z_set (z_setL (z_set (z_set (z_set h 10 4 (((h.1 10 4) - (nI 1)) &&& (nI 63))) 11 ((((h.1 10 4) - (nI 1)) &&& (nI 63)).toNatClampNeg) (z_advto h x)) 12 ((((h.1 10 4) - (nI 1)) &&& (nI 63)).toNatClampNeg) ((nI 1) ||| (nI 0))) 10 7 ((h.2 10 7) ||| (fv_X7_setOf (z_advto h x)))) 10 5 ((h.1 10 5) + (nI 1))) 10 6 ((h.1 10 6) - (nI 1)) else h
theorem zb_X6_advance (h : z_H) (x : Int32) : fv_X6_advance h x = 0 ∨ fv_X6_advance h x = 1 := by unfold fv_X6_advance; (repeat' split) <;> first | decide | exact zb_X7_isIn _ _
set_option maxHeartbeats 4000000 in
set_option maxRecDepth 100000 in
theorem sp_X6_advance (l : Launch) (ext : z_Sh) (h : z_H) (x : Int32)  : z_Sp l 2 yX6_advance cX6_advance 7 (some .boolean) [.ref 10, .int x] (z_c ext) h (fun rv h' => rv = some (.int (fv_X6_advance h x)) ∧ h' = fh_X6_advance h x) := by
  refine z_enter ft_X6 (by decide +kernel) fo_X6 (Nat.le_of_ble_eq_true rfl) ?_
  intro p e R s m args below meth c D dA ad hB
  have hC := hB.1
  have hN := hB.2.1
  have hR := hB.2.2.1
  refine z_go hC (pc' := 6) (ls' := [some (.ref 10), some (.int x), none, none, none, none, none]) (st' := [.int (nI 0), .ref 10, .ref 1]) (h' := h) (cs := []) [.aload_n 0, .getfield 18, .aload_n 0, .iconst 0] (by decide +kernel) rfl rfl trivial ?_
  refine z_callV hC hN hR (as := [.int (nI 0)]) (rest := [.ref 1]) ok_X6_64 (by decide +kernel) (sp_X6_cellOf l _ h (nI 0)) rfl rfl (Nat.le_of_ble_eq_true rfl) rfl rfl (Nat.le_of_ble_eq_true rfl) ⟨Nat.zero_le _, Nat.zero_le _⟩ (fun r1 h2 q3 => z_fun q3 ?_)
  refine z_go hC (pc' := 10) (ls' := [some (.ref 10), some (.int x), none, none, none, none, none]) (st' := [.int x, .int (h.1 11 ((((h.1 10 4) + (nI 0)) &&& (nI 63)).toNatClampNeg)), .ref 1]) (h' := h) (cs := []) [.iload_n 1] (by decide +kernel) rfl rfl trivial ?_
  refine z_callV hC hN hR (as := [.int (h.1 11 ((((h.1 10 4) + (nI 0)) &&& (nI 63)).toNatClampNeg)), .int x]) (rest := []) ok_X6_68 (by decide +kernel) (sp_X0_goFrom l _ h (h.1 11 ((((h.1 10 4) + (nI 0)) &&& (nI 63)).toNatClampNeg)) x) rfl rfl (Nat.le_of_ble_eq_true rfl) rfl rfl (Nat.le_of_ble_eq_true rfl) ⟨Nat.zero_le _, Nat.zero_le _⟩ (fun r4 h5 q6 => z_fun q6 ?_)
  refine z_go hC (pc' := 18) (ls' := [some (.ref 10), some (.int x), some (.int (z_advto h x)), none, none, none, none]) (st' := [.int (h.1 10 6)]) (h' := h) (cs := []) [.istore_n 2, .aload_n 0, .getfield 38] (by decide +kernel) rfl rfl trivial ?_
  refine z_if_le hC (off := 7) 25 (by decide +kernel) (by decide) (fun c7 => ?_) (fun c7 => ?_)
  · skip
    refine z_go hC (pc' := 28) (ls' := [some (.ref 10), some (.int x), some (.int (z_advto h x)), some (.int (nI 0)), none, none, none]) (st' := [.int (nI 0)]) (h' := h) (cs := []) [.iconst 0, .istore_n 3, .iload_n 3] (by decide +kernel) rfl rfl trivial ?_
    refine z_if_eq hC (off := 10) 38 (by decide +kernel) (by decide) (fun c8 => ?_) (fun c8 => ?_)
    · skip
      refine z_go hC (pc' := 49) (ls' := [some (.ref 10), some (.int x), some (.int (z_advto h x)), some (.int (nI 0)), none, none, none]) (st' := [.int ((h.1 10 5) - (nI 1)), .ref 10, .long (h.2 10 7)]) (h' := h) (cs := []) [.aload_n 0, .getfield 48, .aload_n 0, .aload_n 0, .getfield 26, .iconst 1, .isub] (by decide +kernel) rfl rfl trivial ?_
      refine z_callV hC hN hR (as := [.int ((h.1 10 5) - (nI 1))]) (rest := [.long (h.2 10 7)]) ok_X6_64 (by decide +kernel) (sp_X6_cellOf l _ h ((h.1 10 5) - (nI 1))) rfl rfl (Nat.le_of_ble_eq_true rfl) rfl rfl (Nat.le_of_ble_eq_true rfl) ⟨Nat.zero_le _, Nat.zero_le _⟩ (fun r9 h10 q11 => z_fun q11 ?_)
      refine z_callSN hC hN hR (as := [.int (h.1 11 ((((h.1 10 4) + ((h.1 10 5) - (nI 1))) &&& (nI 63)).toNatClampNeg))]) (rest := [.long (h.2 10 7)]) ok_X6_60 (by decide +kernel) (sp_X7_setOf l _ h (h.1 11 ((((h.1 10 4) + ((h.1 10 5) - (nI 1))) &&& (nI 63)).toNatClampNeg))) (Nat.le_of_ble_eq_true rfl) rfl rfl (Nat.le_of_ble_eq_true rfl) ⟨Nat.zero_le _, Nat.zero_le _⟩ (fun r12 h13 q14 => z_fun q14 ?_)
      refine z_ldc2 hC (idx := 74) (v := -1) (by decide +kernel) (by decide +kernel) ?_
      refine z_go hC (pc' := 64) (ls' := [some (.ref 10), some (.int x), some (.int (z_advto h x)), some (.int (nI 0)), some (.long (z_stay h)), none, none]) (st' := [.int (-1), .int (z_advto h x)]) (h' := h) (cs := []) [.lxor, .land, .lstore 4, .iload_n 2, .iconst (-1)] (by decide +kernel) rfl rfl trivial ?_
      refine z_icmp_eq hC (off := 12) 76 (by decide +kernel) (by decide) (fun c15 => ?_) (fun c15 => ?_)
      · skip
        refine z_go hC (pc' := 77) (ls' := [some (.ref 10), some (.int x), some (.int (z_advto h x)), some (.int (nI 0)), some (.long (z_stay h)), none, none]) (st' := [.int (nI 0)]) (h' := h) (cs := []) [.iconst 0] (by decide +kernel) rfl rfl trivial ?_
        exact z_ret_z hB rfl (by decide) (by decide +kernel) ⟨by rw [fv_X6_advance, if_pos c7, if_pos c15], by rw [fh_X6_advance, if_pos c7, if_pos c15]⟩
      · skip
        refine z_go hC (pc' := 70) (ls' := [some (.ref 10), some (.int x), some (.int (z_advto h x)), some (.int (nI 0)), some (.long (z_stay h)), none, none]) (st' := [.int (z_advto h x), .long (z_stay h)]) (h' := h) (cs := []) [.lload 4, .iload_n 2] (by decide +kernel) rfl rfl trivial ?_
        refine z_callSN hC hN hR (as := [.long (z_stay h), .int (z_advto h x)]) (rest := []) ok_X6_52 (by decide +kernel) (sp_X7_isIn l _ h (z_stay h) (z_advto h x)) (Nat.le_of_ble_eq_true rfl) rfl rfl (Nat.le_of_ble_eq_true rfl) ⟨Nat.zero_le _, Nat.zero_le _⟩ (fun r16 h17 q18 => z_fun q18 ?_)
        refine z_if_eq hC (off := 5) 78 (by decide +kernel) (by decide) (fun c19 => ?_) (fun c19 => ?_)
        · skip
          refine z_go hC (pc' := 82) (ls' := [some (.ref 10), some (.int x), some (.int (z_advto h x)), some (.int (nI 0)), some (.long (z_stay h)), none, none]) (st' := [.ref 8]) (h' := h) (cs := []) [.aload_n 0, .getfield 22] (by decide +kernel) rfl rfl trivial ?_
          refine z_callV hC hN hR (as := []) (rest := []) ok_X6_76 (by decide +kernel) (sp_X3_firstCell l _ h ) rfl rfl (Nat.le_of_ble_eq_true rfl) rfl rfl (Nat.le_of_ble_eq_true rfl) ⟨Nat.zero_le _, Nat.zero_le _⟩ (fun r20 h21 q22 => z_fun q22 ?_)
          refine z_go hC (pc' := 86) (ls' := [some (.ref 10), some (.int x), some (.int (z_advto h x)), some (.int (nI 0)), some (.long (z_stay h)), none, none]) (st' := [.int (z_advto h x), .int (fv_X3_firstCell h )]) (h' := h) (cs := []) [.iload_n 2] (by decide +kernel) rfl rfl trivial ?_
          refine z_icmp_ne hC (off := 7) 93 (by decide +kernel) (by decide) (fun c23 => ?_) (fun c23 => ?_)
          · skip
            refine z_go hC (pc' := 118) (ls' := [some (.ref 10), some (.int x), some (.int (z_advto h x)), some (.int (nI 0)), some (.long (z_stay h)), none, some (.int (nI 0))]) (st' := [.int (z_advto h x), .int (((h.1 10 4) - (nI 1)) &&& (nI 63)), .ref 11]) (h' := z_set h 10 4 (((h.1 10 4) - (nI 1)) &&& (nI 63))) (cs := []) [.iconst 0, .istore 6, .aload_n 0, .aload_n 0, .getfield 41, .iconst 1, .isub, .bipush 63, .iand, .putfield 41, .aload_n 0, .getfield 11, .aload_n 0, .getfield 41, .iload_n 2] (by decide +kernel) rfl rfl trivial ?_
            refine z_callSN hC hN hR (as := [.ref 11, .int (((h.1 10 4) - (nI 1)) &&& (nI 63)), .int (z_advto h x)]) (rest := []) ok_X6_56 (by decide +kernel) (sp_X7_putI l _ (z_set h 10 4 (((h.1 10 4) - (nI 1)) &&& (nI 63))) 11 64 [] (((h.1 10 4) - (nI 1)) &&& (nI 63)) (z_advto h x) rfl (z_in63 _)) (Nat.le_of_ble_eq_true rfl) rfl rfl (Nat.le_of_ble_eq_true rfl) ⟨Nat.zero_le _, Nat.zero_le _⟩ (fun r24 h25 q26 => z_fun q26 ?_)
            refine z_go hC (pc' := 130) (ls' := [some (.ref 10), some (.int x), some (.int (z_advto h x)), some (.int (nI 0)), some (.long (z_stay h)), none, some (.int (nI 0))]) (st' := [.int (nI 0), .int (((h.1 10 4) - (nI 1)) &&& (nI 63)), .ref 12]) (h' := z_set (z_set h 10 4 (((h.1 10 4) - (nI 1)) &&& (nI 63))) 11 ((((h.1 10 4) - (nI 1)) &&& (nI 63)).toNatClampNeg) (z_advto h x)) (cs := []) [.aload_n 0, .getfield 15, .aload_n 0, .getfield 41, .iload_n 3] (by decide +kernel) rfl rfl trivial ?_
            refine z_if_eq hC (off := 7) 137 (by decide +kernel) (by decide) (fun c27 => ?_) (fun c27 => ?_)
            · skip
              refine z_go hC (pc' := 140) (ls' := [some (.ref 10), some (.int x), some (.int (z_advto h x)), some (.int (nI 0)), some (.long (z_stay h)), none, some (.int (nI 0))]) (st' := [.int (nI 0), .int (nI 0), .int (((h.1 10 4) - (nI 1)) &&& (nI 63)), .ref 12]) (h' := z_set (z_set h 10 4 (((h.1 10 4) - (nI 1)) &&& (nI 63))) 11 ((((h.1 10 4) - (nI 1)) &&& (nI 63)).toNatClampNeg) (z_advto h x)) (cs := []) [.iconst 0, .iload 6] (by decide +kernel) rfl rfl trivial ?_
              refine z_if_eq hC (off := 7) 147 (by decide +kernel) (by decide) (fun c28 => ?_) (fun c28 => ?_)
              · skip
                refine z_go hC (pc' := 149) (ls' := [some (.ref 10), some (.int x), some (.int (z_advto h x)), some (.int (nI 0)), some (.long (z_stay h)), none, some (.int (nI 0))]) (st' := [.int ((nI 0) ||| (nI 0)), .int (((h.1 10 4) - (nI 1)) &&& (nI 63)), .ref 12]) (h' := z_set (z_set h 10 4 (((h.1 10 4) - (nI 1)) &&& (nI 63))) 11 ((((h.1 10 4) - (nI 1)) &&& (nI 63)).toNatClampNeg) (z_advto h x)) (cs := []) [.iconst 0, .ior] (by decide +kernel) rfl rfl trivial ?_
                refine z_callSN hC hN hR (as := [.ref 12, .int (((h.1 10 4) - (nI 1)) &&& (nI 63)), .int ((nI 0) ||| (nI 0))]) (rest := []) ok_X6_56 (by decide +kernel) (sp_X7_putI l _ (z_set (z_set h 10 4 (((h.1 10 4) - (nI 1)) &&& (nI 63))) 11 ((((h.1 10 4) - (nI 1)) &&& (nI 63)).toNatClampNeg) (z_advto h x)) 12 64 [] (((h.1 10 4) - (nI 1)) &&& (nI 63)) ((nI 0) ||| (nI 0)) rfl (z_in63 _)) (Nat.le_of_ble_eq_true rfl) rfl rfl (Nat.le_of_ble_eq_true rfl) ⟨Nat.zero_le _, Nat.zero_le _⟩ (fun r29 h30 q31 => z_fun q31 ?_)
                refine z_go hC (pc' := 156) (ls' := [some (.ref 10), some (.int x), some (.int (z_advto h x)), some (.int (nI 0)), some (.long (z_stay h)), none, some (.int (nI 0))]) (st' := [.int (z_advto h x), .long (z_stay h), .ref 10]) (h' := z_set (z_set (z_set h 10 4 (((h.1 10 4) - (nI 1)) &&& (nI 63))) 11 ((((h.1 10 4) - (nI 1)) &&& (nI 63)).toNatClampNeg) (z_advto h x)) 12 ((((h.1 10 4) - (nI 1)) &&& (nI 63)).toNatClampNeg) ((nI 0) ||| (nI 0))) (cs := []) [.aload_n 0, .lload 4, .iload_n 2] (by decide +kernel) rfl rfl trivial ?_
                refine z_callSN hC hN hR (as := [.int (z_advto h x)]) (rest := [.long (z_stay h), .ref 10]) ok_X6_60 (by decide +kernel) (sp_X7_setOf l _ (z_set (z_set (z_set h 10 4 (((h.1 10 4) - (nI 1)) &&& (nI 63))) 11 ((((h.1 10 4) - (nI 1)) &&& (nI 63)).toNatClampNeg) (z_advto h x)) 12 ((((h.1 10 4) - (nI 1)) &&& (nI 63)).toNatClampNeg) ((nI 0) ||| (nI 0))) (z_advto h x)) (Nat.le_of_ble_eq_true rfl) rfl rfl (Nat.le_of_ble_eq_true rfl) ⟨Nat.zero_le _, Nat.zero_le _⟩ (fun r32 h33 q34 => z_fun q34 ?_)
                refine z_go hC (pc' := 164) (ls' := [some (.ref 10), some (.int x), some (.int (z_advto h x)), some (.int (nI 0)), some (.long (z_stay h)), none, some (.int (nI 0))]) (st' := [.int (nI 0)]) (h' := z_setL (z_set (z_set (z_set h 10 4 (((h.1 10 4) - (nI 1)) &&& (nI 63))) 11 ((((h.1 10 4) - (nI 1)) &&& (nI 63)).toNatClampNeg) (z_advto h x)) 12 ((((h.1 10 4) - (nI 1)) &&& (nI 63)).toNatClampNeg) ((nI 0) ||| (nI 0))) 10 7 ((z_stay h) ||| (fv_X7_setOf (z_advto h x)))) (cs := []) [.lor, .putfield 48, .iload_n 3] (by decide +kernel) rfl rfl trivial ?_
                refine z_if_eq hC (off := 23) 187 (by decide +kernel) (by decide) (fun c35 => ?_) (fun c35 => ?_)
                · skip
                  refine z_go hC (pc' := 189) (ls' := [some (.ref 10), some (.int x), some (.int (z_advto h x)), some (.int (nI 0)), some (.long (z_stay h)), none, some (.int (nI 0))]) (st' := [.int (nI 0)]) (h' := z_setL (z_set (z_set (z_set h 10 4 (((h.1 10 4) - (nI 1)) &&& (nI 63))) 11 ((((h.1 10 4) - (nI 1)) &&& (nI 63)).toNatClampNeg) (z_advto h x)) 12 ((((h.1 10 4) - (nI 1)) &&& (nI 63)).toNatClampNeg) ((nI 0) ||| (nI 0))) 10 7 ((z_stay h) ||| (fv_X7_setOf (z_advto h x)))) (cs := []) [.iload 6] (by decide +kernel) rfl rfl trivial ?_
                  refine z_if_eq hC (off := 20) 209 (by decide +kernel) (by decide) (fun c36 => ?_) (fun c36 => ?_)
                  · skip
                    refine z_go hC (pc' := 210) (ls' := [some (.ref 10), some (.int x), some (.int (z_advto h x)), some (.int (nI 0)), some (.long (z_stay h)), none, some (.int (nI 0))]) (st' := [.int (nI 1)]) (h' := z_setL (z_set (z_set (z_set h 10 4 (((h.1 10 4) - (nI 1)) &&& (nI 63))) 11 ((((h.1 10 4) - (nI 1)) &&& (nI 63)).toNatClampNeg) (z_advto h x)) 12 ((((h.1 10 4) - (nI 1)) &&& (nI 63)).toNatClampNeg) ((nI 0) ||| (nI 0))) 10 7 ((z_stay h) ||| (fv_X7_setOf (z_advto h x)))) (cs := []) [.iconst 1] (by decide +kernel) rfl rfl trivial ?_
                    exact z_ret_z hB rfl (by decide) (by decide +kernel) ⟨by rw [fv_X6_advance, if_pos c7, if_neg c15, if_pos c19, if_neg c23], by rw [fh_X6_advance, if_pos c7, if_neg c15, if_pos c19, if_neg c23]⟩
                  · skip
                    exact absurd c36 (by decide)
                · skip
                  exact absurd c35 (by decide)
              · skip
                exact absurd c28 (by decide)
            · skip
              exact absurd c27 (by decide)
          · skip
            refine z_go hC (pc' := 90) (ls' := [some (.ref 10), some (.int x), some (.int (z_advto h x)), some (.int (nI 0)), some (.long (z_stay h)), none, none]) (st' := [.int (nI 1)]) (h' := h) (cs := []) [.iconst 1] (by decide +kernel) rfl rfl trivial ?_
            refine z_goto hC (off := 4) 94 (by decide +kernel) (by decide) ?_
            refine z_go hC (pc' := 118) (ls' := [some (.ref 10), some (.int x), some (.int (z_advto h x)), some (.int (nI 0)), some (.long (z_stay h)), none, some (.int (nI 1))]) (st' := [.int (z_advto h x), .int (((h.1 10 4) - (nI 1)) &&& (nI 63)), .ref 11]) (h' := z_set h 10 4 (((h.1 10 4) - (nI 1)) &&& (nI 63))) (cs := []) [.istore 6, .aload_n 0, .aload_n 0, .getfield 41, .iconst 1, .isub, .bipush 63, .iand, .putfield 41, .aload_n 0, .getfield 11, .aload_n 0, .getfield 41, .iload_n 2] (by decide +kernel) rfl rfl trivial ?_
            refine z_callSN hC hN hR (as := [.ref 11, .int (((h.1 10 4) - (nI 1)) &&& (nI 63)), .int (z_advto h x)]) (rest := []) ok_X6_56 (by decide +kernel) (sp_X7_putI l _ (z_set h 10 4 (((h.1 10 4) - (nI 1)) &&& (nI 63))) 11 64 [] (((h.1 10 4) - (nI 1)) &&& (nI 63)) (z_advto h x) rfl (z_in63 _)) (Nat.le_of_ble_eq_true rfl) rfl rfl (Nat.le_of_ble_eq_true rfl) ⟨Nat.zero_le _, Nat.zero_le _⟩ (fun r37 h38 q39 => z_fun q39 ?_)
            refine z_go hC (pc' := 130) (ls' := [some (.ref 10), some (.int x), some (.int (z_advto h x)), some (.int (nI 0)), some (.long (z_stay h)), none, some (.int (nI 1))]) (st' := [.int (nI 0), .int (((h.1 10 4) - (nI 1)) &&& (nI 63)), .ref 12]) (h' := z_set (z_set h 10 4 (((h.1 10 4) - (nI 1)) &&& (nI 63))) 11 ((((h.1 10 4) - (nI 1)) &&& (nI 63)).toNatClampNeg) (z_advto h x)) (cs := []) [.aload_n 0, .getfield 15, .aload_n 0, .getfield 41, .iload_n 3] (by decide +kernel) rfl rfl trivial ?_
            refine z_if_eq hC (off := 7) 137 (by decide +kernel) (by decide) (fun c40 => ?_) (fun c40 => ?_)
            · skip
              refine z_go hC (pc' := 140) (ls' := [some (.ref 10), some (.int x), some (.int (z_advto h x)), some (.int (nI 0)), some (.long (z_stay h)), none, some (.int (nI 1))]) (st' := [.int (nI 1), .int (nI 0), .int (((h.1 10 4) - (nI 1)) &&& (nI 63)), .ref 12]) (h' := z_set (z_set h 10 4 (((h.1 10 4) - (nI 1)) &&& (nI 63))) 11 ((((h.1 10 4) - (nI 1)) &&& (nI 63)).toNatClampNeg) (z_advto h x)) (cs := []) [.iconst 0, .iload 6] (by decide +kernel) rfl rfl trivial ?_
              refine z_if_eq hC (off := 7) 147 (by decide +kernel) (by decide) (fun c41 => ?_) (fun c41 => ?_)
              · skip
                exact absurd c41 (by decide)
              · skip
                refine z_go hC (pc' := 144) (ls' := [some (.ref 10), some (.int x), some (.int (z_advto h x)), some (.int (nI 0)), some (.long (z_stay h)), none, some (.int (nI 1))]) (st' := [.int (nI 2), .int (nI 0), .int (((h.1 10 4) - (nI 1)) &&& (nI 63)), .ref 12]) (h' := z_set (z_set h 10 4 (((h.1 10 4) - (nI 1)) &&& (nI 63))) 11 ((((h.1 10 4) - (nI 1)) &&& (nI 63)).toNatClampNeg) (z_advto h x)) (cs := []) [.iconst 2] (by decide +kernel) rfl rfl trivial ?_
                refine z_goto hC (off := 4) 148 (by decide +kernel) (by decide) ?_
                refine z_go hC (pc' := 149) (ls' := [some (.ref 10), some (.int x), some (.int (z_advto h x)), some (.int (nI 0)), some (.long (z_stay h)), none, some (.int (nI 1))]) (st' := [.int ((nI 0) ||| (nI 2)), .int (((h.1 10 4) - (nI 1)) &&& (nI 63)), .ref 12]) (h' := z_set (z_set h 10 4 (((h.1 10 4) - (nI 1)) &&& (nI 63))) 11 ((((h.1 10 4) - (nI 1)) &&& (nI 63)).toNatClampNeg) (z_advto h x)) (cs := []) [.ior] (by decide +kernel) rfl rfl trivial ?_
                refine z_callSN hC hN hR (as := [.ref 12, .int (((h.1 10 4) - (nI 1)) &&& (nI 63)), .int ((nI 0) ||| (nI 2))]) (rest := []) ok_X6_56 (by decide +kernel) (sp_X7_putI l _ (z_set (z_set h 10 4 (((h.1 10 4) - (nI 1)) &&& (nI 63))) 11 ((((h.1 10 4) - (nI 1)) &&& (nI 63)).toNatClampNeg) (z_advto h x)) 12 64 [] (((h.1 10 4) - (nI 1)) &&& (nI 63)) ((nI 0) ||| (nI 2)) rfl (z_in63 _)) (Nat.le_of_ble_eq_true rfl) rfl rfl (Nat.le_of_ble_eq_true rfl) ⟨Nat.zero_le _, Nat.zero_le _⟩ (fun r42 h43 q44 => z_fun q44 ?_)
                refine z_go hC (pc' := 156) (ls' := [some (.ref 10), some (.int x), some (.int (z_advto h x)), some (.int (nI 0)), some (.long (z_stay h)), none, some (.int (nI 1))]) (st' := [.int (z_advto h x), .long (z_stay h), .ref 10]) (h' := z_set (z_set (z_set h 10 4 (((h.1 10 4) - (nI 1)) &&& (nI 63))) 11 ((((h.1 10 4) - (nI 1)) &&& (nI 63)).toNatClampNeg) (z_advto h x)) 12 ((((h.1 10 4) - (nI 1)) &&& (nI 63)).toNatClampNeg) ((nI 0) ||| (nI 2))) (cs := []) [.aload_n 0, .lload 4, .iload_n 2] (by decide +kernel) rfl rfl trivial ?_
                refine z_callSN hC hN hR (as := [.int (z_advto h x)]) (rest := [.long (z_stay h), .ref 10]) ok_X6_60 (by decide +kernel) (sp_X7_setOf l _ (z_set (z_set (z_set h 10 4 (((h.1 10 4) - (nI 1)) &&& (nI 63))) 11 ((((h.1 10 4) - (nI 1)) &&& (nI 63)).toNatClampNeg) (z_advto h x)) 12 ((((h.1 10 4) - (nI 1)) &&& (nI 63)).toNatClampNeg) ((nI 0) ||| (nI 2))) (z_advto h x)) (Nat.le_of_ble_eq_true rfl) rfl rfl (Nat.le_of_ble_eq_true rfl) ⟨Nat.zero_le _, Nat.zero_le _⟩ (fun r45 h46 q47 => z_fun q47 ?_)
                refine z_go hC (pc' := 164) (ls' := [some (.ref 10), some (.int x), some (.int (z_advto h x)), some (.int (nI 0)), some (.long (z_stay h)), none, some (.int (nI 1))]) (st' := [.int (nI 0)]) (h' := z_setL (z_set (z_set (z_set h 10 4 (((h.1 10 4) - (nI 1)) &&& (nI 63))) 11 ((((h.1 10 4) - (nI 1)) &&& (nI 63)).toNatClampNeg) (z_advto h x)) 12 ((((h.1 10 4) - (nI 1)) &&& (nI 63)).toNatClampNeg) ((nI 0) ||| (nI 2))) 10 7 ((z_stay h) ||| (fv_X7_setOf (z_advto h x)))) (cs := []) [.lor, .putfield 48, .iload_n 3] (by decide +kernel) rfl rfl trivial ?_
                refine z_if_eq hC (off := 23) 187 (by decide +kernel) (by decide) (fun c48 => ?_) (fun c48 => ?_)
                · skip
                  refine z_go hC (pc' := 189) (ls' := [some (.ref 10), some (.int x), some (.int (z_advto h x)), some (.int (nI 0)), some (.long (z_stay h)), none, some (.int (nI 1))]) (st' := [.int (nI 1)]) (h' := z_setL (z_set (z_set (z_set h 10 4 (((h.1 10 4) - (nI 1)) &&& (nI 63))) 11 ((((h.1 10 4) - (nI 1)) &&& (nI 63)).toNatClampNeg) (z_advto h x)) 12 ((((h.1 10 4) - (nI 1)) &&& (nI 63)).toNatClampNeg) ((nI 0) ||| (nI 2))) 10 7 ((z_stay h) ||| (fv_X7_setOf (z_advto h x)))) (cs := []) [.iload 6] (by decide +kernel) rfl rfl trivial ?_
                  refine z_if_eq hC (off := 20) 209 (by decide +kernel) (by decide) (fun c49 => ?_) (fun c49 => ?_)
                  · skip
                    exact absurd c49 (by decide)
                  · skip
                    refine z_go hC (pc' := 196) (ls' := [some (.ref 10), some (.int x), some (.int (z_advto h x)), some (.int (nI 0)), some (.long (z_stay h)), none, some (.int (nI 1))]) (st' := [.ref 8]) (h' := z_setL (z_set (z_set (z_set h 10 4 (((h.1 10 4) - (nI 1)) &&& (nI 63))) 11 ((((h.1 10 4) - (nI 1)) &&& (nI 63)).toNatClampNeg) (z_advto h x)) 12 ((((h.1 10 4) - (nI 1)) &&& (nI 63)).toNatClampNeg) ((nI 0) ||| (nI 2))) 10 7 ((z_stay h) ||| (fv_X7_setOf (z_advto h x)))) (cs := []) [.aload_n 0, .getfield 22] (by decide +kernel) rfl rfl trivial ?_
                    refine z_callV hC hN hR (as := []) (rest := []) ok_X6_82 (by decide +kernel) (sp_X3_takeFirst l _ (z_setL (z_set (z_set (z_set h 10 4 (((h.1 10 4) - (nI 1)) &&& (nI 63))) 11 ((((h.1 10 4) - (nI 1)) &&& (nI 63)).toNatClampNeg) (z_advto h x)) 12 ((((h.1 10 4) - (nI 1)) &&& (nI 63)).toNatClampNeg) ((nI 0) ||| (nI 2))) 10 7 ((z_stay h) ||| (fv_X7_setOf (z_advto h x)))) ) rfl rfl (Nat.le_of_ble_eq_true rfl) rfl rfl (Nat.le_of_ble_eq_true rfl) ⟨Nat.zero_le _, Nat.zero_le _⟩ (fun r50 h51 q52 => z_fun q52 ?_)
                    refine z_go hC (pc' := 210) (ls' := [some (.ref 10), some (.int x), some (.int (z_advto h x)), some (.int (nI 0)), some (.long (z_stay h)), none, some (.int (nI 1))]) (st' := [.int (nI 1)]) (h' := z_set (z_set (z_set (z_setL (z_set (z_set (z_set h 10 4 (((h.1 10 4) - (nI 1)) &&& (nI 63))) 11 ((((h.1 10 4) - (nI 1)) &&& (nI 63)).toNatClampNeg) (z_advto h x)) 12 ((((h.1 10 4) - (nI 1)) &&& (nI 63)).toNatClampNeg) ((nI 0) ||| (nI 2))) 10 7 ((z_stay h) ||| (fv_X7_setOf (z_advto h x)))) 8 1 (((h.1 8 1) + (nI 1)) &&& (nI 63))) 8 2 ((h.1 8 2) - (nI 1))) 10 6 ((h.1 10 6) + (nI 2))) (cs := []) [.aload_n 0, .dup, .getfield 38, .iconst 2, .iadd, .putfield 38, .iconst 1] (by decide +kernel) rfl rfl trivial ?_
                    exact z_ret_z hB rfl (by decide) (by decide +kernel) ⟨by rw [fv_X6_advance, if_pos c7, if_neg c15, if_pos c19, if_pos c23], by rw [fh_X6_advance, if_pos c7, if_neg c15, if_pos c19, if_pos c23]⟩
                · skip
                  exact absurd c48 (by decide)
            · skip
              exact absurd c40 (by decide)
        · skip
          refine z_go hC (pc' := 77) (ls' := [some (.ref 10), some (.int x), some (.int (z_advto h x)), some (.int (nI 0)), some (.long (z_stay h)), none, none]) (st' := [.int (nI 0)]) (h' := h) (cs := []) [.iconst 0] (by decide +kernel) rfl rfl trivial ?_
          exact z_ret_z hB rfl (by decide) (by decide +kernel) ⟨by rw [fv_X6_advance, if_pos c7, if_neg c15, if_neg c19], by rw [fh_X6_advance, if_pos c7, if_neg c15, if_neg c19]⟩
    · skip
      exact absurd c8 (by decide)
  · skip
    refine z_go hC (pc' := 22) (ls' := [some (.ref 10), some (.int x), some (.int (z_advto h x)), none, none, none, none]) (st' := [.int (nI 1)]) (h' := h) (cs := []) [.iconst 1] (by decide +kernel) rfl rfl trivial ?_
    refine z_goto hC (off := 4) 26 (by decide +kernel) (by decide) ?_
    refine z_go hC (pc' := 28) (ls' := [some (.ref 10), some (.int x), some (.int (z_advto h x)), some (.int (nI 1)), none, none, none]) (st' := [.int (nI 1)]) (h' := h) (cs := []) [.istore_n 3, .iload_n 3] (by decide +kernel) rfl rfl trivial ?_
    refine z_if_eq hC (off := 10) 38 (by decide +kernel) (by decide) (fun c53 => ?_) (fun c53 => ?_)
    · skip
      exact absurd c53 (by decide)
    · skip
      refine z_go hC (pc' := 35) (ls' := [some (.ref 10), some (.int x), some (.int (z_advto h x)), some (.int (nI 1)), none, none, none]) (st' := [.long (h.2 10 7)]) (h' := h) (cs := []) [.aload_n 0, .getfield 48] (by decide +kernel) rfl rfl trivial ?_
      refine z_goto hC (off := 25) 60 (by decide +kernel) (by decide) ?_
      refine z_go hC (pc' := 64) (ls' := [some (.ref 10), some (.int x), some (.int (z_advto h x)), some (.int (nI 1)), some (.long (h.2 10 7)), none, none]) (st' := [.int (-1), .int (z_advto h x)]) (h' := h) (cs := []) [.lstore 4, .iload_n 2, .iconst (-1)] (by decide +kernel) rfl rfl trivial ?_
      refine z_icmp_eq hC (off := 12) 76 (by decide +kernel) (by decide) (fun c54 => ?_) (fun c54 => ?_)
      · skip
        refine z_go hC (pc' := 77) (ls' := [some (.ref 10), some (.int x), some (.int (z_advto h x)), some (.int (nI 1)), some (.long (h.2 10 7)), none, none]) (st' := [.int (nI 0)]) (h' := h) (cs := []) [.iconst 0] (by decide +kernel) rfl rfl trivial ?_
        exact z_ret_z hB rfl (by decide) (by decide +kernel) ⟨by rw [fv_X6_advance, if_neg c7, if_pos c54], by rw [fh_X6_advance, if_neg c7, if_pos c54]⟩
      · skip
        refine z_go hC (pc' := 70) (ls' := [some (.ref 10), some (.int x), some (.int (z_advto h x)), some (.int (nI 1)), some (.long (h.2 10 7)), none, none]) (st' := [.int (z_advto h x), .long (h.2 10 7)]) (h' := h) (cs := []) [.lload 4, .iload_n 2] (by decide +kernel) rfl rfl trivial ?_
        refine z_callSN hC hN hR (as := [.long (h.2 10 7), .int (z_advto h x)]) (rest := []) ok_X6_52 (by decide +kernel) (sp_X7_isIn l _ h (h.2 10 7) (z_advto h x)) (Nat.le_of_ble_eq_true rfl) rfl rfl (Nat.le_of_ble_eq_true rfl) ⟨Nat.zero_le _, Nat.zero_le _⟩ (fun r55 h56 q57 => z_fun q57 ?_)
        refine z_if_eq hC (off := 5) 78 (by decide +kernel) (by decide) (fun c58 => ?_) (fun c58 => ?_)
        · skip
          refine z_go hC (pc' := 82) (ls' := [some (.ref 10), some (.int x), some (.int (z_advto h x)), some (.int (nI 1)), some (.long (h.2 10 7)), none, none]) (st' := [.ref 8]) (h' := h) (cs := []) [.aload_n 0, .getfield 22] (by decide +kernel) rfl rfl trivial ?_
          refine z_callV hC hN hR (as := []) (rest := []) ok_X6_76 (by decide +kernel) (sp_X3_firstCell l _ h ) rfl rfl (Nat.le_of_ble_eq_true rfl) rfl rfl (Nat.le_of_ble_eq_true rfl) ⟨Nat.zero_le _, Nat.zero_le _⟩ (fun r59 h60 q61 => z_fun q61 ?_)
          refine z_go hC (pc' := 86) (ls' := [some (.ref 10), some (.int x), some (.int (z_advto h x)), some (.int (nI 1)), some (.long (h.2 10 7)), none, none]) (st' := [.int (z_advto h x), .int (fv_X3_firstCell h )]) (h' := h) (cs := []) [.iload_n 2] (by decide +kernel) rfl rfl trivial ?_
          refine z_icmp_ne hC (off := 7) 93 (by decide +kernel) (by decide) (fun c62 => ?_) (fun c62 => ?_)
          · skip
            refine z_go hC (pc' := 118) (ls' := [some (.ref 10), some (.int x), some (.int (z_advto h x)), some (.int (nI 1)), some (.long (h.2 10 7)), none, some (.int (nI 0))]) (st' := [.int (z_advto h x), .int (((h.1 10 4) - (nI 1)) &&& (nI 63)), .ref 11]) (h' := z_set h 10 4 (((h.1 10 4) - (nI 1)) &&& (nI 63))) (cs := []) [.iconst 0, .istore 6, .aload_n 0, .aload_n 0, .getfield 41, .iconst 1, .isub, .bipush 63, .iand, .putfield 41, .aload_n 0, .getfield 11, .aload_n 0, .getfield 41, .iload_n 2] (by decide +kernel) rfl rfl trivial ?_
            refine z_callSN hC hN hR (as := [.ref 11, .int (((h.1 10 4) - (nI 1)) &&& (nI 63)), .int (z_advto h x)]) (rest := []) ok_X6_56 (by decide +kernel) (sp_X7_putI l _ (z_set h 10 4 (((h.1 10 4) - (nI 1)) &&& (nI 63))) 11 64 [] (((h.1 10 4) - (nI 1)) &&& (nI 63)) (z_advto h x) rfl (z_in63 _)) (Nat.le_of_ble_eq_true rfl) rfl rfl (Nat.le_of_ble_eq_true rfl) ⟨Nat.zero_le _, Nat.zero_le _⟩ (fun r63 h64 q65 => z_fun q65 ?_)
            refine z_go hC (pc' := 130) (ls' := [some (.ref 10), some (.int x), some (.int (z_advto h x)), some (.int (nI 1)), some (.long (h.2 10 7)), none, some (.int (nI 0))]) (st' := [.int (nI 1), .int (((h.1 10 4) - (nI 1)) &&& (nI 63)), .ref 12]) (h' := z_set (z_set h 10 4 (((h.1 10 4) - (nI 1)) &&& (nI 63))) 11 ((((h.1 10 4) - (nI 1)) &&& (nI 63)).toNatClampNeg) (z_advto h x)) (cs := []) [.aload_n 0, .getfield 15, .aload_n 0, .getfield 41, .iload_n 3] (by decide +kernel) rfl rfl trivial ?_
            refine z_if_eq hC (off := 7) 137 (by decide +kernel) (by decide) (fun c66 => ?_) (fun c66 => ?_)
            · skip
              exact absurd c66 (by decide)
            · skip
              refine z_go hC (pc' := 134) (ls' := [some (.ref 10), some (.int x), some (.int (z_advto h x)), some (.int (nI 1)), some (.long (h.2 10 7)), none, some (.int (nI 0))]) (st' := [.int (nI 1), .int (((h.1 10 4) - (nI 1)) &&& (nI 63)), .ref 12]) (h' := z_set (z_set h 10 4 (((h.1 10 4) - (nI 1)) &&& (nI 63))) 11 ((((h.1 10 4) - (nI 1)) &&& (nI 63)).toNatClampNeg) (z_advto h x)) (cs := []) [.iconst 1] (by decide +kernel) rfl rfl trivial ?_
              refine z_goto hC (off := 4) 138 (by decide +kernel) (by decide) ?_
              refine z_go hC (pc' := 140) (ls' := [some (.ref 10), some (.int x), some (.int (z_advto h x)), some (.int (nI 1)), some (.long (h.2 10 7)), none, some (.int (nI 0))]) (st' := [.int (nI 0), .int (nI 1), .int (((h.1 10 4) - (nI 1)) &&& (nI 63)), .ref 12]) (h' := z_set (z_set h 10 4 (((h.1 10 4) - (nI 1)) &&& (nI 63))) 11 ((((h.1 10 4) - (nI 1)) &&& (nI 63)).toNatClampNeg) (z_advto h x)) (cs := []) [.iload 6] (by decide +kernel) rfl rfl trivial ?_
              refine z_if_eq hC (off := 7) 147 (by decide +kernel) (by decide) (fun c67 => ?_) (fun c67 => ?_)
              · skip
                refine z_go hC (pc' := 149) (ls' := [some (.ref 10), some (.int x), some (.int (z_advto h x)), some (.int (nI 1)), some (.long (h.2 10 7)), none, some (.int (nI 0))]) (st' := [.int ((nI 1) ||| (nI 0)), .int (((h.1 10 4) - (nI 1)) &&& (nI 63)), .ref 12]) (h' := z_set (z_set h 10 4 (((h.1 10 4) - (nI 1)) &&& (nI 63))) 11 ((((h.1 10 4) - (nI 1)) &&& (nI 63)).toNatClampNeg) (z_advto h x)) (cs := []) [.iconst 0, .ior] (by decide +kernel) rfl rfl trivial ?_
                refine z_callSN hC hN hR (as := [.ref 12, .int (((h.1 10 4) - (nI 1)) &&& (nI 63)), .int ((nI 1) ||| (nI 0))]) (rest := []) ok_X6_56 (by decide +kernel) (sp_X7_putI l _ (z_set (z_set h 10 4 (((h.1 10 4) - (nI 1)) &&& (nI 63))) 11 ((((h.1 10 4) - (nI 1)) &&& (nI 63)).toNatClampNeg) (z_advto h x)) 12 64 [] (((h.1 10 4) - (nI 1)) &&& (nI 63)) ((nI 1) ||| (nI 0)) rfl (z_in63 _)) (Nat.le_of_ble_eq_true rfl) rfl rfl (Nat.le_of_ble_eq_true rfl) ⟨Nat.zero_le _, Nat.zero_le _⟩ (fun r68 h69 q70 => z_fun q70 ?_)
                refine z_go hC (pc' := 156) (ls' := [some (.ref 10), some (.int x), some (.int (z_advto h x)), some (.int (nI 1)), some (.long (h.2 10 7)), none, some (.int (nI 0))]) (st' := [.int (z_advto h x), .long (h.2 10 7), .ref 10]) (h' := z_set (z_set (z_set h 10 4 (((h.1 10 4) - (nI 1)) &&& (nI 63))) 11 ((((h.1 10 4) - (nI 1)) &&& (nI 63)).toNatClampNeg) (z_advto h x)) 12 ((((h.1 10 4) - (nI 1)) &&& (nI 63)).toNatClampNeg) ((nI 1) ||| (nI 0))) (cs := []) [.aload_n 0, .lload 4, .iload_n 2] (by decide +kernel) rfl rfl trivial ?_
                refine z_callSN hC hN hR (as := [.int (z_advto h x)]) (rest := [.long (h.2 10 7), .ref 10]) ok_X6_60 (by decide +kernel) (sp_X7_setOf l _ (z_set (z_set (z_set h 10 4 (((h.1 10 4) - (nI 1)) &&& (nI 63))) 11 ((((h.1 10 4) - (nI 1)) &&& (nI 63)).toNatClampNeg) (z_advto h x)) 12 ((((h.1 10 4) - (nI 1)) &&& (nI 63)).toNatClampNeg) ((nI 1) ||| (nI 0))) (z_advto h x)) (Nat.le_of_ble_eq_true rfl) rfl rfl (Nat.le_of_ble_eq_true rfl) ⟨Nat.zero_le _, Nat.zero_le _⟩ (fun r71 h72 q73 => z_fun q73 ?_)
                refine z_go hC (pc' := 164) (ls' := [some (.ref 10), some (.int x), some (.int (z_advto h x)), some (.int (nI 1)), some (.long (h.2 10 7)), none, some (.int (nI 0))]) (st' := [.int (nI 1)]) (h' := z_setL (z_set (z_set (z_set h 10 4 (((h.1 10 4) - (nI 1)) &&& (nI 63))) 11 ((((h.1 10 4) - (nI 1)) &&& (nI 63)).toNatClampNeg) (z_advto h x)) 12 ((((h.1 10 4) - (nI 1)) &&& (nI 63)).toNatClampNeg) ((nI 1) ||| (nI 0))) 10 7 ((h.2 10 7) ||| (fv_X7_setOf (z_advto h x)))) (cs := []) [.lor, .putfield 48, .iload_n 3] (by decide +kernel) rfl rfl trivial ?_
                refine z_if_eq hC (off := 23) 187 (by decide +kernel) (by decide) (fun c74 => ?_) (fun c74 => ?_)
                · skip
                  exact absurd c74 (by decide)
                · skip
                  refine z_go hC (pc' := 189) (ls' := [some (.ref 10), some (.int x), some (.int (z_advto h x)), some (.int (nI 1)), some (.long (h.2 10 7)), none, some (.int (nI 0))]) (st' := [.int (nI 0)]) (h' := z_set (z_set (z_setL (z_set (z_set (z_set h 10 4 (((h.1 10 4) - (nI 1)) &&& (nI 63))) 11 ((((h.1 10 4) - (nI 1)) &&& (nI 63)).toNatClampNeg) (z_advto h x)) 12 ((((h.1 10 4) - (nI 1)) &&& (nI 63)).toNatClampNeg) ((nI 1) ||| (nI 0))) 10 7 ((h.2 10 7) ||| (fv_X7_setOf (z_advto h x)))) 10 5 ((h.1 10 5) + (nI 1))) 10 6 ((h.1 10 6) - (nI 1))) (cs := []) [.aload_n 0, .dup, .getfield 26, .iconst 1, .iadd, .putfield 26, .aload_n 0, .dup, .getfield 38, .iconst 1, .isub, .putfield 38, .iload 6] (by decide +kernel) rfl rfl trivial ?_
                  refine z_if_eq hC (off := 20) 209 (by decide +kernel) (by decide) (fun c75 => ?_) (fun c75 => ?_)
                  · skip
                    refine z_go hC (pc' := 210) (ls' := [some (.ref 10), some (.int x), some (.int (z_advto h x)), some (.int (nI 1)), some (.long (h.2 10 7)), none, some (.int (nI 0))]) (st' := [.int (nI 1)]) (h' := z_set (z_set (z_setL (z_set (z_set (z_set h 10 4 (((h.1 10 4) - (nI 1)) &&& (nI 63))) 11 ((((h.1 10 4) - (nI 1)) &&& (nI 63)).toNatClampNeg) (z_advto h x)) 12 ((((h.1 10 4) - (nI 1)) &&& (nI 63)).toNatClampNeg) ((nI 1) ||| (nI 0))) 10 7 ((h.2 10 7) ||| (fv_X7_setOf (z_advto h x)))) 10 5 ((h.1 10 5) + (nI 1))) 10 6 ((h.1 10 6) - (nI 1))) (cs := []) [.iconst 1] (by decide +kernel) rfl rfl trivial ?_
                    exact z_ret_z hB rfl (by decide) (by decide +kernel) ⟨by rw [fv_X6_advance, if_neg c7, if_neg c54, if_pos c58, if_neg c62], by rw [fh_X6_advance, if_neg c7, if_neg c54, if_pos c58, if_neg c62]⟩
                  · skip
                    exact absurd c75 (by decide)
              · skip
                exact absurd c67 (by decide)
          · skip
            refine z_go hC (pc' := 90) (ls' := [some (.ref 10), some (.int x), some (.int (z_advto h x)), some (.int (nI 1)), some (.long (h.2 10 7)), none, none]) (st' := [.int (nI 1)]) (h' := h) (cs := []) [.iconst 1] (by decide +kernel) rfl rfl trivial ?_
            refine z_goto hC (off := 4) 94 (by decide +kernel) (by decide) ?_
            refine z_go hC (pc' := 118) (ls' := [some (.ref 10), some (.int x), some (.int (z_advto h x)), some (.int (nI 1)), some (.long (h.2 10 7)), none, some (.int (nI 1))]) (st' := [.int (z_advto h x), .int (((h.1 10 4) - (nI 1)) &&& (nI 63)), .ref 11]) (h' := z_set h 10 4 (((h.1 10 4) - (nI 1)) &&& (nI 63))) (cs := []) [.istore 6, .aload_n 0, .aload_n 0, .getfield 41, .iconst 1, .isub, .bipush 63, .iand, .putfield 41, .aload_n 0, .getfield 11, .aload_n 0, .getfield 41, .iload_n 2] (by decide +kernel) rfl rfl trivial ?_
            refine z_callSN hC hN hR (as := [.ref 11, .int (((h.1 10 4) - (nI 1)) &&& (nI 63)), .int (z_advto h x)]) (rest := []) ok_X6_56 (by decide +kernel) (sp_X7_putI l _ (z_set h 10 4 (((h.1 10 4) - (nI 1)) &&& (nI 63))) 11 64 [] (((h.1 10 4) - (nI 1)) &&& (nI 63)) (z_advto h x) rfl (z_in63 _)) (Nat.le_of_ble_eq_true rfl) rfl rfl (Nat.le_of_ble_eq_true rfl) ⟨Nat.zero_le _, Nat.zero_le _⟩ (fun r76 h77 q78 => z_fun q78 ?_)
            refine z_go hC (pc' := 130) (ls' := [some (.ref 10), some (.int x), some (.int (z_advto h x)), some (.int (nI 1)), some (.long (h.2 10 7)), none, some (.int (nI 1))]) (st' := [.int (nI 1), .int (((h.1 10 4) - (nI 1)) &&& (nI 63)), .ref 12]) (h' := z_set (z_set h 10 4 (((h.1 10 4) - (nI 1)) &&& (nI 63))) 11 ((((h.1 10 4) - (nI 1)) &&& (nI 63)).toNatClampNeg) (z_advto h x)) (cs := []) [.aload_n 0, .getfield 15, .aload_n 0, .getfield 41, .iload_n 3] (by decide +kernel) rfl rfl trivial ?_
            refine z_if_eq hC (off := 7) 137 (by decide +kernel) (by decide) (fun c79 => ?_) (fun c79 => ?_)
            · skip
              exact absurd c79 (by decide)
            · skip
              refine z_go hC (pc' := 134) (ls' := [some (.ref 10), some (.int x), some (.int (z_advto h x)), some (.int (nI 1)), some (.long (h.2 10 7)), none, some (.int (nI 1))]) (st' := [.int (nI 1), .int (((h.1 10 4) - (nI 1)) &&& (nI 63)), .ref 12]) (h' := z_set (z_set h 10 4 (((h.1 10 4) - (nI 1)) &&& (nI 63))) 11 ((((h.1 10 4) - (nI 1)) &&& (nI 63)).toNatClampNeg) (z_advto h x)) (cs := []) [.iconst 1] (by decide +kernel) rfl rfl trivial ?_
              refine z_goto hC (off := 4) 138 (by decide +kernel) (by decide) ?_
              refine z_go hC (pc' := 140) (ls' := [some (.ref 10), some (.int x), some (.int (z_advto h x)), some (.int (nI 1)), some (.long (h.2 10 7)), none, some (.int (nI 1))]) (st' := [.int (nI 1), .int (nI 1), .int (((h.1 10 4) - (nI 1)) &&& (nI 63)), .ref 12]) (h' := z_set (z_set h 10 4 (((h.1 10 4) - (nI 1)) &&& (nI 63))) 11 ((((h.1 10 4) - (nI 1)) &&& (nI 63)).toNatClampNeg) (z_advto h x)) (cs := []) [.iload 6] (by decide +kernel) rfl rfl trivial ?_
              refine z_if_eq hC (off := 7) 147 (by decide +kernel) (by decide) (fun c80 => ?_) (fun c80 => ?_)
              · skip
                exact absurd c80 (by decide)
              · skip
                refine z_go hC (pc' := 144) (ls' := [some (.ref 10), some (.int x), some (.int (z_advto h x)), some (.int (nI 1)), some (.long (h.2 10 7)), none, some (.int (nI 1))]) (st' := [.int (nI 2), .int (nI 1), .int (((h.1 10 4) - (nI 1)) &&& (nI 63)), .ref 12]) (h' := z_set (z_set h 10 4 (((h.1 10 4) - (nI 1)) &&& (nI 63))) 11 ((((h.1 10 4) - (nI 1)) &&& (nI 63)).toNatClampNeg) (z_advto h x)) (cs := []) [.iconst 2] (by decide +kernel) rfl rfl trivial ?_
                refine z_goto hC (off := 4) 148 (by decide +kernel) (by decide) ?_
                refine z_go hC (pc' := 149) (ls' := [some (.ref 10), some (.int x), some (.int (z_advto h x)), some (.int (nI 1)), some (.long (h.2 10 7)), none, some (.int (nI 1))]) (st' := [.int ((nI 1) ||| (nI 2)), .int (((h.1 10 4) - (nI 1)) &&& (nI 63)), .ref 12]) (h' := z_set (z_set h 10 4 (((h.1 10 4) - (nI 1)) &&& (nI 63))) 11 ((((h.1 10 4) - (nI 1)) &&& (nI 63)).toNatClampNeg) (z_advto h x)) (cs := []) [.ior] (by decide +kernel) rfl rfl trivial ?_
                refine z_callSN hC hN hR (as := [.ref 12, .int (((h.1 10 4) - (nI 1)) &&& (nI 63)), .int ((nI 1) ||| (nI 2))]) (rest := []) ok_X6_56 (by decide +kernel) (sp_X7_putI l _ (z_set (z_set h 10 4 (((h.1 10 4) - (nI 1)) &&& (nI 63))) 11 ((((h.1 10 4) - (nI 1)) &&& (nI 63)).toNatClampNeg) (z_advto h x)) 12 64 [] (((h.1 10 4) - (nI 1)) &&& (nI 63)) ((nI 1) ||| (nI 2)) rfl (z_in63 _)) (Nat.le_of_ble_eq_true rfl) rfl rfl (Nat.le_of_ble_eq_true rfl) ⟨Nat.zero_le _, Nat.zero_le _⟩ (fun r81 h82 q83 => z_fun q83 ?_)
                refine z_go hC (pc' := 156) (ls' := [some (.ref 10), some (.int x), some (.int (z_advto h x)), some (.int (nI 1)), some (.long (h.2 10 7)), none, some (.int (nI 1))]) (st' := [.int (z_advto h x), .long (h.2 10 7), .ref 10]) (h' := z_set (z_set (z_set h 10 4 (((h.1 10 4) - (nI 1)) &&& (nI 63))) 11 ((((h.1 10 4) - (nI 1)) &&& (nI 63)).toNatClampNeg) (z_advto h x)) 12 ((((h.1 10 4) - (nI 1)) &&& (nI 63)).toNatClampNeg) ((nI 1) ||| (nI 2))) (cs := []) [.aload_n 0, .lload 4, .iload_n 2] (by decide +kernel) rfl rfl trivial ?_
                refine z_callSN hC hN hR (as := [.int (z_advto h x)]) (rest := [.long (h.2 10 7), .ref 10]) ok_X6_60 (by decide +kernel) (sp_X7_setOf l _ (z_set (z_set (z_set h 10 4 (((h.1 10 4) - (nI 1)) &&& (nI 63))) 11 ((((h.1 10 4) - (nI 1)) &&& (nI 63)).toNatClampNeg) (z_advto h x)) 12 ((((h.1 10 4) - (nI 1)) &&& (nI 63)).toNatClampNeg) ((nI 1) ||| (nI 2))) (z_advto h x)) (Nat.le_of_ble_eq_true rfl) rfl rfl (Nat.le_of_ble_eq_true rfl) ⟨Nat.zero_le _, Nat.zero_le _⟩ (fun r84 h85 q86 => z_fun q86 ?_)
                refine z_go hC (pc' := 164) (ls' := [some (.ref 10), some (.int x), some (.int (z_advto h x)), some (.int (nI 1)), some (.long (h.2 10 7)), none, some (.int (nI 1))]) (st' := [.int (nI 1)]) (h' := z_setL (z_set (z_set (z_set h 10 4 (((h.1 10 4) - (nI 1)) &&& (nI 63))) 11 ((((h.1 10 4) - (nI 1)) &&& (nI 63)).toNatClampNeg) (z_advto h x)) 12 ((((h.1 10 4) - (nI 1)) &&& (nI 63)).toNatClampNeg) ((nI 1) ||| (nI 2))) 10 7 ((h.2 10 7) ||| (fv_X7_setOf (z_advto h x)))) (cs := []) [.lor, .putfield 48, .iload_n 3] (by decide +kernel) rfl rfl trivial ?_
                refine z_if_eq hC (off := 23) 187 (by decide +kernel) (by decide) (fun c87 => ?_) (fun c87 => ?_)
                · skip
                  exact absurd c87 (by decide)
                · skip
                  refine z_go hC (pc' := 189) (ls' := [some (.ref 10), some (.int x), some (.int (z_advto h x)), some (.int (nI 1)), some (.long (h.2 10 7)), none, some (.int (nI 1))]) (st' := [.int (nI 1)]) (h' := z_set (z_set (z_setL (z_set (z_set (z_set h 10 4 (((h.1 10 4) - (nI 1)) &&& (nI 63))) 11 ((((h.1 10 4) - (nI 1)) &&& (nI 63)).toNatClampNeg) (z_advto h x)) 12 ((((h.1 10 4) - (nI 1)) &&& (nI 63)).toNatClampNeg) ((nI 1) ||| (nI 2))) 10 7 ((h.2 10 7) ||| (fv_X7_setOf (z_advto h x)))) 10 5 ((h.1 10 5) + (nI 1))) 10 6 ((h.1 10 6) - (nI 1))) (cs := []) [.aload_n 0, .dup, .getfield 26, .iconst 1, .iadd, .putfield 26, .aload_n 0, .dup, .getfield 38, .iconst 1, .isub, .putfield 38, .iload 6] (by decide +kernel) rfl rfl trivial ?_
                  refine z_if_eq hC (off := 20) 209 (by decide +kernel) (by decide) (fun c88 => ?_) (fun c88 => ?_)
                  · skip
                    exact absurd c88 (by decide)
                  · skip
                    refine z_go hC (pc' := 196) (ls' := [some (.ref 10), some (.int x), some (.int (z_advto h x)), some (.int (nI 1)), some (.long (h.2 10 7)), none, some (.int (nI 1))]) (st' := [.ref 8]) (h' := z_set (z_set (z_setL (z_set (z_set (z_set h 10 4 (((h.1 10 4) - (nI 1)) &&& (nI 63))) 11 ((((h.1 10 4) - (nI 1)) &&& (nI 63)).toNatClampNeg) (z_advto h x)) 12 ((((h.1 10 4) - (nI 1)) &&& (nI 63)).toNatClampNeg) ((nI 1) ||| (nI 2))) 10 7 ((h.2 10 7) ||| (fv_X7_setOf (z_advto h x)))) 10 5 ((h.1 10 5) + (nI 1))) 10 6 ((h.1 10 6) - (nI 1))) (cs := []) [.aload_n 0, .getfield 22] (by decide +kernel) rfl rfl trivial ?_
                    refine z_callV hC hN hR (as := []) (rest := []) ok_X6_82 (by decide +kernel) (sp_X3_takeFirst l _ (z_set (z_set (z_setL (z_set (z_set (z_set h 10 4 (((h.1 10 4) - (nI 1)) &&& (nI 63))) 11 ((((h.1 10 4) - (nI 1)) &&& (nI 63)).toNatClampNeg) (z_advto h x)) 12 ((((h.1 10 4) - (nI 1)) &&& (nI 63)).toNatClampNeg) ((nI 1) ||| (nI 2))) 10 7 ((h.2 10 7) ||| (fv_X7_setOf (z_advto h x)))) 10 5 ((h.1 10 5) + (nI 1))) 10 6 ((h.1 10 6) - (nI 1))) ) rfl rfl (Nat.le_of_ble_eq_true rfl) rfl rfl (Nat.le_of_ble_eq_true rfl) ⟨Nat.zero_le _, Nat.zero_le _⟩ (fun r89 h90 q91 => z_fun q91 ?_)
                    refine z_go hC (pc' := 210) (ls' := [some (.ref 10), some (.int x), some (.int (z_advto h x)), some (.int (nI 1)), some (.long (h.2 10 7)), none, some (.int (nI 1))]) (st' := [.int (nI 1)]) (h' := z_set (z_set (z_set (z_set (z_set (z_setL (z_set (z_set (z_set h 10 4 (((h.1 10 4) - (nI 1)) &&& (nI 63))) 11 ((((h.1 10 4) - (nI 1)) &&& (nI 63)).toNatClampNeg) (z_advto h x)) 12 ((((h.1 10 4) - (nI 1)) &&& (nI 63)).toNatClampNeg) ((nI 1) ||| (nI 2))) 10 7 ((h.2 10 7) ||| (fv_X7_setOf (z_advto h x)))) 10 5 ((h.1 10 5) + (nI 1))) 10 6 ((h.1 10 6) - (nI 1))) 8 1 (((h.1 8 1) + (nI 1)) &&& (nI 63))) 8 2 ((h.1 8 2) - (nI 1))) 10 6 (((h.1 10 6) - (nI 1)) + (nI 2))) (cs := []) [.aload_n 0, .dup, .getfield 38, .iconst 2, .iadd, .putfield 38, .iconst 1] (by decide +kernel) rfl rfl trivial ?_
                    exact z_ret_z hB rfl (by decide) (by decide +kernel) ⟨by rw [fv_X6_advance, if_neg c7, if_neg c54, if_pos c58, if_pos c62], by rw [fh_X6_advance, if_neg c7, if_neg c54, if_pos c58, if_pos c62]⟩
        · skip
          refine z_go hC (pc' := 77) (ls' := [some (.ref 10), some (.int x), some (.int (z_advto h x)), some (.int (nI 1)), some (.long (h.2 10 7)), none, none]) (st' := [.int (nI 0)]) (h' := h) (cs := []) [.iconst 0] (by decide +kernel) rfl rfl trivial ?_
          exact z_ret_z hB rfl (by decide) (by decide +kernel) ⟨by rw [fv_X6_advance, if_neg c7, if_neg c54, if_neg c58], by rw [fh_X6_advance, if_neg c7, if_neg c54, if_neg c58]⟩

def fv_X6_hasJustEaten (h : z_H)  : Int32 := if ((z_atv h 12 64 (h.1 10 4)) &&& (nI 2)) = 0 then nI 0 else nI 1
theorem zb_X6_hasJustEaten (h : z_H)  : fv_X6_hasJustEaten h  = 0 ∨ fv_X6_hasJustEaten h  = 1 := by unfold fv_X6_hasJustEaten; (repeat' split) <;> first | decide
set_option maxHeartbeats 4000000 in
set_option maxRecDepth 100000 in
theorem sp_X6_hasJustEaten (l : Launch) (ext : z_Sh) (h : z_H)   : z_Sp l 1 yX6_hasJustEaten cX6_hasJustEaten 1 (some .boolean) [.ref 10] (z_c ext) h (fun rv h' => rv = some (.int (fv_X6_hasJustEaten h )) ∧ h' = h) := by
  refine z_enter ft_X6 (by decide +kernel) fo_X6 (Nat.le_of_ble_eq_true rfl) ?_
  intro p e R s m args below meth c D dA ad hB
  have hC := hB.1
  have hN := hB.2.1
  have hR := hB.2.2.1
  refine z_go hC (pc' := 8) (ls' := [some (.ref 10)]) (st' := [.int (h.1 10 4), .ref 12]) (h' := h) (cs := []) [.aload_n 0, .getfield 15, .aload_n 0, .getfield 41] (by decide +kernel) rfl rfl trivial ?_
  refine z_callSN hC hN hR (as := [.ref 12, .int (h.1 10 4)]) (rest := []) ok_X6_44 (by decide +kernel) (sp_X7_at l _ h 12 64 [] (h.1 10 4) rfl (by decide)) (Nat.le_of_ble_eq_true rfl) rfl rfl (Nat.le_of_ble_eq_true rfl) ⟨Nat.zero_le _, Nat.zero_le _⟩ (fun r1 h2 q3 => z_fun q3 ?_)
  refine z_go hC (pc' := 13) (ls' := [some (.ref 10)]) (st' := [.int ((z_atv h 12 64 (h.1 10 4)) &&& (nI 2))]) (h' := h) (cs := []) [.iconst 2, .iand] (by decide +kernel) rfl rfl trivial ?_
  refine z_if_eq hC (off := 7) 20 (by decide +kernel) (by decide) (fun c4 => ?_) (fun c4 => ?_)
  · skip
    refine z_go hC (pc' := 21) (ls' := [some (.ref 10)]) (st' := [.int (nI 0)]) (h' := h) (cs := []) [.iconst 0] (by decide +kernel) rfl rfl trivial ?_
    exact z_ret_z hB rfl (by decide) (by decide +kernel) ⟨by rw [fv_X6_hasJustEaten, if_pos c4], rfl⟩
  · skip
    refine z_go hC (pc' := 17) (ls' := [some (.ref 10)]) (st' := [.int (nI 1)]) (h' := h) (cs := []) [.iconst 1] (by decide +kernel) rfl rfl trivial ?_
    refine z_goto hC (off := 4) 21 (by decide +kernel) (by decide) ?_
    exact z_ret_z hB rfl (by decide) (by decide +kernel) ⟨by rw [fv_X6_hasJustEaten, if_neg c4], rfl⟩

def fh_X6_takeBack (h : z_H)  : z_H := if ((z_atv h 12 64 (h.1 10 4)) &&& (nI 1)) = 0 then if (fv_X6_hasJustEaten h ) = 0 then z_setL (z_set (z_setL h 10 7 ((h.2 10 7) &&& ((fv_X7_setOf (h.1 11 ((((h.1 10 4) + (nI 0)) &&& (nI 63)).toNatClampNeg))) ^^^ (-1)))) 10 4 (((h.1 10 4) + (nI 1)) &&& (nI 63))) 10 7 (((h.2 10 7) &&& ((fv_X7_setOf (h.1 11 ((((h.1 10 4) + (nI 0)) &&& (nI 63)).toNatClampNeg))) ^^^ (-1))) ||| (fv_X7_setOf (h.1 11 ((((((h.1 10 4) + (nI 1)) &&& (nI 63)) + ((h.1 10 5) - (nI 1))) &&& (nI 63)).toNatClampNeg)))) else z_setL (z_set (z_setL (z_set (z_set (z_set h 8 1 (((h.1 8 1) - (nI 1)) &&& (nI 63))) 8 2 ((h.1 8 2) + (nI 1))) 10 6 ((h.1 10 6) - (nI 2))) 10 7 ((h.2 10 7) &&& ((fv_X7_setOf (h.1 11 ((((h.1 10 4) + (nI 0)) &&& (nI 63)).toNatClampNeg))) ^^^ (-1)))) 10 4 (((h.1 10 4) + (nI 1)) &&& (nI 63))) 10 7 (((h.2 10 7) &&& ((fv_X7_setOf (h.1 11 ((((h.1 10 4) + (nI 0)) &&& (nI 63)).toNatClampNeg))) ^^^ (-1))) ||| (fv_X7_setOf (h.1 11 ((((((h.1 10 4) + (nI 1)) &&& (nI 63)) + ((h.1 10 5) - (nI 1))) &&& (nI 63)).toNatClampNeg)))) else if (fv_X6_hasJustEaten h ) = 0 then z_setL (z_set (z_set (z_set (z_setL h 10 7 ((h.2 10 7) &&& ((fv_X7_setOf (h.1 11 ((((h.1 10 4) + (nI 0)) &&& (nI 63)).toNatClampNeg))) ^^^ (-1)))) 10 4 (((h.1 10 4) + (nI 1)) &&& (nI 63))) 10 5 ((h.1 10 5) - (nI 1))) 10 6 ((h.1 10 6) + (nI 1))) 10 7 (((h.2 10 7) &&& ((fv_X7_setOf (h.1 11 ((((h.1 10 4) + (nI 0)) &&& (nI 63)).toNatClampNeg))) ^^^ (-1))) ||| (fv_X7_setOf (h.1 11 ((((((h.1 10 4) + (nI 1)) &&& (nI 63)) + (((h.1 10 5) - (nI 1)) - (nI 1))) &&& (nI 63)).toNatClampNeg)))) else z_setL (z_set (z_set (z_set (z_setL (z_set (z_set (z_set h 8 1 (((h.1 8 1) - (nI 1)) &&& (nI 63))) 8 2 ((h.1 8 2) + (nI 1))) 10 6 ((h.1 10 6) - (nI 2))) 10 7 ((h.2 10 7) &&& ((fv_X7_setOf (h.1 11 ((((h.1 10 4) + (nI 0)) &&& (nI 63)).toNatClampNeg))) ^^^ (-1)))) 10 4 (((h.1 10 4) + (nI 1)) &&& (nI 63))) 10 5 ((h.1 10 5) - (nI 1))) 10 6 (((h.1 10 6) - (nI 2)) + (nI 1))) 10 7 (((h.2 10 7) &&& ((fv_X7_setOf (h.1 11 ((((h.1 10 4) + (nI 0)) &&& (nI 63)).toNatClampNeg))) ^^^ (-1))) ||| (fv_X7_setOf (h.1 11 ((((((h.1 10 4) + (nI 1)) &&& (nI 63)) + (((h.1 10 5) - (nI 1)) - (nI 1))) &&& (nI 63)).toNatClampNeg))))
set_option maxHeartbeats 4000000 in
set_option maxRecDepth 100000 in
theorem sp_X6_takeBack (l : Launch) (ext : z_Sh) (h : z_H)   : z_Sp l 2 yX6_takeBack cX6_takeBack 2 none [.ref 10] (z_c ext) h (fun rv h' => rv = none ∧ h' = fh_X6_takeBack h ) := by
  refine z_enter ft_X6 (by decide +kernel) fo_X6 (Nat.le_of_ble_eq_true rfl) ?_
  intro p e R s m args below meth c D dA ad hB
  have hC := hB.1
  have hN := hB.2.1
  have hR := hB.2.2.1
  refine z_go hC (pc' := 8) (ls' := [some (.ref 10), none]) (st' := [.int (h.1 10 4), .ref 12]) (h' := h) (cs := []) [.aload_n 0, .getfield 15, .aload_n 0, .getfield 41] (by decide +kernel) rfl rfl trivial ?_
  refine z_callSN hC hN hR (as := [.ref 12, .int (h.1 10 4)]) (rest := []) ok_X6_44 (by decide +kernel) (sp_X7_at l _ h 12 64 [] (h.1 10 4) rfl (by decide)) (Nat.le_of_ble_eq_true rfl) rfl rfl (Nat.le_of_ble_eq_true rfl) ⟨Nat.zero_le _, Nat.zero_le _⟩ (fun r1 h2 q3 => z_fun q3 ?_)
  refine z_go hC (pc' := 13) (ls' := [some (.ref 10), none]) (st' := [.int ((z_atv h 12 64 (h.1 10 4)) &&& (nI 1))]) (h' := h) (cs := []) [.iconst 1, .iand] (by decide +kernel) rfl rfl trivial ?_
  refine z_if_eq hC (off := 7) 20 (by decide +kernel) (by decide) (fun c4 => ?_) (fun c4 => ?_)
  · skip
    refine z_go hC (pc' := 23) (ls' := [some (.ref 10), some (.int (nI 0))]) (st' := [.ref 10]) (h' := h) (cs := []) [.iconst 0, .istore_n 1, .aload_n 0] (by decide +kernel) rfl rfl trivial ?_
    refine z_callV hC hN hR (as := []) (rest := []) ok_X6_85 (by decide +kernel) (sp_X6_hasJustEaten l _ h ) rfl rfl (Nat.le_of_ble_eq_true rfl) rfl rfl (Nat.le_of_ble_eq_true rfl) ⟨Nat.zero_le _, Nat.zero_le _⟩ (fun r5 h6 q7 => z_fun q7 ?_)
    refine z_if_eq hC (off := 20) 46 (by decide +kernel) (by decide) (fun c8 => ?_) (fun c8 => ?_)
    · skip
      refine z_go hC (pc' := 53) (ls' := [some (.ref 10), some (.int (nI 0))]) (st' := [.int (nI 0), .ref 10, .long (h.2 10 7), .ref 10]) (h' := h) (cs := []) [.aload_n 0, .dup, .getfield 48, .aload_n 0, .iconst 0] (by decide +kernel) rfl rfl trivial ?_
      refine z_callV hC hN hR (as := [.int (nI 0)]) (rest := [.long (h.2 10 7), .ref 10]) ok_X6_64 (by decide +kernel) (sp_X6_cellOf l _ h (nI 0)) rfl rfl (Nat.le_of_ble_eq_true rfl) rfl rfl (Nat.le_of_ble_eq_true rfl) ⟨Nat.zero_le _, Nat.zero_le _⟩ (fun r9 h10 q11 => z_fun q11 ?_)
      refine z_callSN hC hN hR (as := [.int (h.1 11 ((((h.1 10 4) + (nI 0)) &&& (nI 63)).toNatClampNeg))]) (rest := [.long (h.2 10 7), .ref 10]) ok_X6_60 (by decide +kernel) (sp_X7_setOf l _ h (h.1 11 ((((h.1 10 4) + (nI 0)) &&& (nI 63)).toNatClampNeg))) (Nat.le_of_ble_eq_true rfl) rfl rfl (Nat.le_of_ble_eq_true rfl) ⟨Nat.zero_le _, Nat.zero_le _⟩ (fun r12 h13 q14 => z_fun q14 ?_)
      refine z_ldc2 hC (idx := 74) (v := -1) (by decide +kernel) (by decide +kernel) ?_
      refine z_go hC (pc' := 81) (ls' := [some (.ref 10), some (.int (nI 0))]) (st' := [.int (nI 0)]) (h' := z_set (z_setL h 10 7 ((h.2 10 7) &&& ((fv_X7_setOf (h.1 11 ((((h.1 10 4) + (nI 0)) &&& (nI 63)).toNatClampNeg))) ^^^ (-1)))) 10 4 (((h.1 10 4) + (nI 1)) &&& (nI 63))) (cs := []) [.lxor, .land, .putfield 48, .aload_n 0, .aload_n 0, .getfield 41, .iconst 1, .iadd, .bipush 63, .iand, .putfield 41, .iload_n 1] (by decide +kernel) rfl rfl trivial ?_
      refine z_if_eq hC (off := 23) 104 (by decide +kernel) (by decide) (fun c15 => ?_) (fun c15 => ?_)
      · skip
        refine z_go hC (pc' := 116) (ls' := [some (.ref 10), some (.int (nI 0))]) (st' := [.int ((h.1 10 5) - (nI 1)), .ref 10, .long ((h.2 10 7) &&& ((fv_X7_setOf (h.1 11 ((((h.1 10 4) + (nI 0)) &&& (nI 63)).toNatClampNeg))) ^^^ (-1))), .ref 10]) (h' := z_set (z_setL h 10 7 ((h.2 10 7) &&& ((fv_X7_setOf (h.1 11 ((((h.1 10 4) + (nI 0)) &&& (nI 63)).toNatClampNeg))) ^^^ (-1)))) 10 4 (((h.1 10 4) + (nI 1)) &&& (nI 63))) (cs := []) [.aload_n 0, .dup, .getfield 48, .aload_n 0, .aload_n 0, .getfield 26, .iconst 1, .isub] (by decide +kernel) rfl rfl trivial ?_
        refine z_callV hC hN hR (as := [.int ((h.1 10 5) - (nI 1))]) (rest := [.long ((h.2 10 7) &&& ((fv_X7_setOf (h.1 11 ((((h.1 10 4) + (nI 0)) &&& (nI 63)).toNatClampNeg))) ^^^ (-1))), .ref 10]) ok_X6_64 (by decide +kernel) (sp_X6_cellOf l _ (z_set (z_setL h 10 7 ((h.2 10 7) &&& ((fv_X7_setOf (h.1 11 ((((h.1 10 4) + (nI 0)) &&& (nI 63)).toNatClampNeg))) ^^^ (-1)))) 10 4 (((h.1 10 4) + (nI 1)) &&& (nI 63))) ((h.1 10 5) - (nI 1))) rfl rfl (Nat.le_of_ble_eq_true rfl) rfl rfl (Nat.le_of_ble_eq_true rfl) ⟨Nat.zero_le _, Nat.zero_le _⟩ (fun r16 h17 q18 => z_fun q18 ?_)
        refine z_callSN hC hN hR (as := [.int (h.1 11 ((((((h.1 10 4) + (nI 1)) &&& (nI 63)) + ((h.1 10 5) - (nI 1))) &&& (nI 63)).toNatClampNeg))]) (rest := [.long ((h.2 10 7) &&& ((fv_X7_setOf (h.1 11 ((((h.1 10 4) + (nI 0)) &&& (nI 63)).toNatClampNeg))) ^^^ (-1))), .ref 10]) ok_X6_60 (by decide +kernel) (sp_X7_setOf l _ (z_set (z_setL h 10 7 ((h.2 10 7) &&& ((fv_X7_setOf (h.1 11 ((((h.1 10 4) + (nI 0)) &&& (nI 63)).toNatClampNeg))) ^^^ (-1)))) 10 4 (((h.1 10 4) + (nI 1)) &&& (nI 63))) (h.1 11 ((((((h.1 10 4) + (nI 1)) &&& (nI 63)) + ((h.1 10 5) - (nI 1))) &&& (nI 63)).toNatClampNeg))) (Nat.le_of_ble_eq_true rfl) rfl rfl (Nat.le_of_ble_eq_true rfl) ⟨Nat.zero_le _, Nat.zero_le _⟩ (fun r19 h20 q21 => z_fun q21 ?_)
        refine z_go hC (pc' := 126) (ls' := [some (.ref 10), some (.int (nI 0))]) (st' := []) (h' := z_setL (z_set (z_setL h 10 7 ((h.2 10 7) &&& ((fv_X7_setOf (h.1 11 ((((h.1 10 4) + (nI 0)) &&& (nI 63)).toNatClampNeg))) ^^^ (-1)))) 10 4 (((h.1 10 4) + (nI 1)) &&& (nI 63))) 10 7 (((h.2 10 7) &&& ((fv_X7_setOf (h.1 11 ((((h.1 10 4) + (nI 0)) &&& (nI 63)).toNatClampNeg))) ^^^ (-1))) ||| (fv_X7_setOf (h.1 11 ((((((h.1 10 4) + (nI 1)) &&& (nI 63)) + ((h.1 10 5) - (nI 1))) &&& (nI 63)).toNatClampNeg))))) (cs := []) [.lor, .putfield 48] (by decide +kernel) rfl rfl trivial ?_
        exact z_ret_v hB rfl (by decide +kernel) ⟨rfl, by rw [fh_X6_takeBack, if_pos c4, if_pos c8]⟩
      · skip
        exact absurd c15 (by decide)
    · skip
      refine z_go hC (pc' := 33) (ls' := [some (.ref 10), some (.int (nI 0))]) (st' := [.ref 8]) (h' := h) (cs := []) [.aload_n 0, .getfield 22] (by decide +kernel) rfl rfl trivial ?_
      refine z_callV hC hN hR (as := []) (rest := []) ok_X6_88 (by decide +kernel) (sp_X3_putFirstBack l _ h ) rfl rfl (Nat.le_of_ble_eq_true rfl) rfl rfl (Nat.le_of_ble_eq_true rfl) ⟨Nat.zero_le _, Nat.zero_le _⟩ (fun r22 h23 q24 => z_fun q24 ?_)
      refine z_go hC (pc' := 53) (ls' := [some (.ref 10), some (.int (nI 0))]) (st' := [.int (nI 0), .ref 10, .long (h.2 10 7), .ref 10]) (h' := z_set (z_set (z_set h 8 1 (((h.1 8 1) - (nI 1)) &&& (nI 63))) 8 2 ((h.1 8 2) + (nI 1))) 10 6 ((h.1 10 6) - (nI 2))) (cs := []) [.aload_n 0, .dup, .getfield 38, .iconst 2, .isub, .putfield 38, .aload_n 0, .dup, .getfield 48, .aload_n 0, .iconst 0] (by decide +kernel) rfl rfl trivial ?_
      refine z_callV hC hN hR (as := [.int (nI 0)]) (rest := [.long (h.2 10 7), .ref 10]) ok_X6_64 (by decide +kernel) (sp_X6_cellOf l _ (z_set (z_set (z_set h 8 1 (((h.1 8 1) - (nI 1)) &&& (nI 63))) 8 2 ((h.1 8 2) + (nI 1))) 10 6 ((h.1 10 6) - (nI 2))) (nI 0)) rfl rfl (Nat.le_of_ble_eq_true rfl) rfl rfl (Nat.le_of_ble_eq_true rfl) ⟨Nat.zero_le _, Nat.zero_le _⟩ (fun r25 h26 q27 => z_fun q27 ?_)
      refine z_callSN hC hN hR (as := [.int (h.1 11 ((((h.1 10 4) + (nI 0)) &&& (nI 63)).toNatClampNeg))]) (rest := [.long (h.2 10 7), .ref 10]) ok_X6_60 (by decide +kernel) (sp_X7_setOf l _ (z_set (z_set (z_set h 8 1 (((h.1 8 1) - (nI 1)) &&& (nI 63))) 8 2 ((h.1 8 2) + (nI 1))) 10 6 ((h.1 10 6) - (nI 2))) (h.1 11 ((((h.1 10 4) + (nI 0)) &&& (nI 63)).toNatClampNeg))) (Nat.le_of_ble_eq_true rfl) rfl rfl (Nat.le_of_ble_eq_true rfl) ⟨Nat.zero_le _, Nat.zero_le _⟩ (fun r28 h29 q30 => z_fun q30 ?_)
      refine z_ldc2 hC (idx := 74) (v := -1) (by decide +kernel) (by decide +kernel) ?_
      refine z_go hC (pc' := 81) (ls' := [some (.ref 10), some (.int (nI 0))]) (st' := [.int (nI 0)]) (h' := z_set (z_setL (z_set (z_set (z_set h 8 1 (((h.1 8 1) - (nI 1)) &&& (nI 63))) 8 2 ((h.1 8 2) + (nI 1))) 10 6 ((h.1 10 6) - (nI 2))) 10 7 ((h.2 10 7) &&& ((fv_X7_setOf (h.1 11 ((((h.1 10 4) + (nI 0)) &&& (nI 63)).toNatClampNeg))) ^^^ (-1)))) 10 4 (((h.1 10 4) + (nI 1)) &&& (nI 63))) (cs := []) [.lxor, .land, .putfield 48, .aload_n 0, .aload_n 0, .getfield 41, .iconst 1, .iadd, .bipush 63, .iand, .putfield 41, .iload_n 1] (by decide +kernel) rfl rfl trivial ?_
      refine z_if_eq hC (off := 23) 104 (by decide +kernel) (by decide) (fun c31 => ?_) (fun c31 => ?_)
      · skip
        refine z_go hC (pc' := 116) (ls' := [some (.ref 10), some (.int (nI 0))]) (st' := [.int ((h.1 10 5) - (nI 1)), .ref 10, .long ((h.2 10 7) &&& ((fv_X7_setOf (h.1 11 ((((h.1 10 4) + (nI 0)) &&& (nI 63)).toNatClampNeg))) ^^^ (-1))), .ref 10]) (h' := z_set (z_setL (z_set (z_set (z_set h 8 1 (((h.1 8 1) - (nI 1)) &&& (nI 63))) 8 2 ((h.1 8 2) + (nI 1))) 10 6 ((h.1 10 6) - (nI 2))) 10 7 ((h.2 10 7) &&& ((fv_X7_setOf (h.1 11 ((((h.1 10 4) + (nI 0)) &&& (nI 63)).toNatClampNeg))) ^^^ (-1)))) 10 4 (((h.1 10 4) + (nI 1)) &&& (nI 63))) (cs := []) [.aload_n 0, .dup, .getfield 48, .aload_n 0, .aload_n 0, .getfield 26, .iconst 1, .isub] (by decide +kernel) rfl rfl trivial ?_
        refine z_callV hC hN hR (as := [.int ((h.1 10 5) - (nI 1))]) (rest := [.long ((h.2 10 7) &&& ((fv_X7_setOf (h.1 11 ((((h.1 10 4) + (nI 0)) &&& (nI 63)).toNatClampNeg))) ^^^ (-1))), .ref 10]) ok_X6_64 (by decide +kernel) (sp_X6_cellOf l _ (z_set (z_setL (z_set (z_set (z_set h 8 1 (((h.1 8 1) - (nI 1)) &&& (nI 63))) 8 2 ((h.1 8 2) + (nI 1))) 10 6 ((h.1 10 6) - (nI 2))) 10 7 ((h.2 10 7) &&& ((fv_X7_setOf (h.1 11 ((((h.1 10 4) + (nI 0)) &&& (nI 63)).toNatClampNeg))) ^^^ (-1)))) 10 4 (((h.1 10 4) + (nI 1)) &&& (nI 63))) ((h.1 10 5) - (nI 1))) rfl rfl (Nat.le_of_ble_eq_true rfl) rfl rfl (Nat.le_of_ble_eq_true rfl) ⟨Nat.zero_le _, Nat.zero_le _⟩ (fun r32 h33 q34 => z_fun q34 ?_)
        refine z_callSN hC hN hR (as := [.int (h.1 11 ((((((h.1 10 4) + (nI 1)) &&& (nI 63)) + ((h.1 10 5) - (nI 1))) &&& (nI 63)).toNatClampNeg))]) (rest := [.long ((h.2 10 7) &&& ((fv_X7_setOf (h.1 11 ((((h.1 10 4) + (nI 0)) &&& (nI 63)).toNatClampNeg))) ^^^ (-1))), .ref 10]) ok_X6_60 (by decide +kernel) (sp_X7_setOf l _ (z_set (z_setL (z_set (z_set (z_set h 8 1 (((h.1 8 1) - (nI 1)) &&& (nI 63))) 8 2 ((h.1 8 2) + (nI 1))) 10 6 ((h.1 10 6) - (nI 2))) 10 7 ((h.2 10 7) &&& ((fv_X7_setOf (h.1 11 ((((h.1 10 4) + (nI 0)) &&& (nI 63)).toNatClampNeg))) ^^^ (-1)))) 10 4 (((h.1 10 4) + (nI 1)) &&& (nI 63))) (h.1 11 ((((((h.1 10 4) + (nI 1)) &&& (nI 63)) + ((h.1 10 5) - (nI 1))) &&& (nI 63)).toNatClampNeg))) (Nat.le_of_ble_eq_true rfl) rfl rfl (Nat.le_of_ble_eq_true rfl) ⟨Nat.zero_le _, Nat.zero_le _⟩ (fun r35 h36 q37 => z_fun q37 ?_)
        refine z_go hC (pc' := 126) (ls' := [some (.ref 10), some (.int (nI 0))]) (st' := []) (h' := z_setL (z_set (z_setL (z_set (z_set (z_set h 8 1 (((h.1 8 1) - (nI 1)) &&& (nI 63))) 8 2 ((h.1 8 2) + (nI 1))) 10 6 ((h.1 10 6) - (nI 2))) 10 7 ((h.2 10 7) &&& ((fv_X7_setOf (h.1 11 ((((h.1 10 4) + (nI 0)) &&& (nI 63)).toNatClampNeg))) ^^^ (-1)))) 10 4 (((h.1 10 4) + (nI 1)) &&& (nI 63))) 10 7 (((h.2 10 7) &&& ((fv_X7_setOf (h.1 11 ((((h.1 10 4) + (nI 0)) &&& (nI 63)).toNatClampNeg))) ^^^ (-1))) ||| (fv_X7_setOf (h.1 11 ((((((h.1 10 4) + (nI 1)) &&& (nI 63)) + ((h.1 10 5) - (nI 1))) &&& (nI 63)).toNatClampNeg))))) (cs := []) [.lor, .putfield 48] (by decide +kernel) rfl rfl trivial ?_
        exact z_ret_v hB rfl (by decide +kernel) ⟨rfl, by rw [fh_X6_takeBack, if_pos c4, if_neg c8]⟩
      · skip
        exact absurd c31 (by decide)
  · skip
    refine z_go hC (pc' := 17) (ls' := [some (.ref 10), none]) (st' := [.int (nI 1)]) (h' := h) (cs := []) [.iconst 1] (by decide +kernel) rfl rfl trivial ?_
    refine z_goto hC (off := 4) 21 (by decide +kernel) (by decide) ?_
    refine z_go hC (pc' := 23) (ls' := [some (.ref 10), some (.int (nI 1))]) (st' := [.ref 10]) (h' := h) (cs := []) [.istore_n 1, .aload_n 0] (by decide +kernel) rfl rfl trivial ?_
    refine z_callV hC hN hR (as := []) (rest := []) ok_X6_85 (by decide +kernel) (sp_X6_hasJustEaten l _ h ) rfl rfl (Nat.le_of_ble_eq_true rfl) rfl rfl (Nat.le_of_ble_eq_true rfl) ⟨Nat.zero_le _, Nat.zero_le _⟩ (fun r38 h39 q40 => z_fun q40 ?_)
    refine z_if_eq hC (off := 20) 46 (by decide +kernel) (by decide) (fun c41 => ?_) (fun c41 => ?_)
    · skip
      refine z_go hC (pc' := 53) (ls' := [some (.ref 10), some (.int (nI 1))]) (st' := [.int (nI 0), .ref 10, .long (h.2 10 7), .ref 10]) (h' := h) (cs := []) [.aload_n 0, .dup, .getfield 48, .aload_n 0, .iconst 0] (by decide +kernel) rfl rfl trivial ?_
      refine z_callV hC hN hR (as := [.int (nI 0)]) (rest := [.long (h.2 10 7), .ref 10]) ok_X6_64 (by decide +kernel) (sp_X6_cellOf l _ h (nI 0)) rfl rfl (Nat.le_of_ble_eq_true rfl) rfl rfl (Nat.le_of_ble_eq_true rfl) ⟨Nat.zero_le _, Nat.zero_le _⟩ (fun r42 h43 q44 => z_fun q44 ?_)
      refine z_callSN hC hN hR (as := [.int (h.1 11 ((((h.1 10 4) + (nI 0)) &&& (nI 63)).toNatClampNeg))]) (rest := [.long (h.2 10 7), .ref 10]) ok_X6_60 (by decide +kernel) (sp_X7_setOf l _ h (h.1 11 ((((h.1 10 4) + (nI 0)) &&& (nI 63)).toNatClampNeg))) (Nat.le_of_ble_eq_true rfl) rfl rfl (Nat.le_of_ble_eq_true rfl) ⟨Nat.zero_le _, Nat.zero_le _⟩ (fun r45 h46 q47 => z_fun q47 ?_)
      refine z_ldc2 hC (idx := 74) (v := -1) (by decide +kernel) (by decide +kernel) ?_
      refine z_go hC (pc' := 81) (ls' := [some (.ref 10), some (.int (nI 1))]) (st' := [.int (nI 1)]) (h' := z_set (z_setL h 10 7 ((h.2 10 7) &&& ((fv_X7_setOf (h.1 11 ((((h.1 10 4) + (nI 0)) &&& (nI 63)).toNatClampNeg))) ^^^ (-1)))) 10 4 (((h.1 10 4) + (nI 1)) &&& (nI 63))) (cs := []) [.lxor, .land, .putfield 48, .aload_n 0, .aload_n 0, .getfield 41, .iconst 1, .iadd, .bipush 63, .iand, .putfield 41, .iload_n 1] (by decide +kernel) rfl rfl trivial ?_
      refine z_if_eq hC (off := 23) 104 (by decide +kernel) (by decide) (fun c48 => ?_) (fun c48 => ?_)
      · skip
        exact absurd c48 (by decide)
      · skip
        refine z_go hC (pc' := 116) (ls' := [some (.ref 10), some (.int (nI 1))]) (st' := [.int (((h.1 10 5) - (nI 1)) - (nI 1)), .ref 10, .long ((h.2 10 7) &&& ((fv_X7_setOf (h.1 11 ((((h.1 10 4) + (nI 0)) &&& (nI 63)).toNatClampNeg))) ^^^ (-1))), .ref 10]) (h' := z_set (z_set (z_set (z_setL h 10 7 ((h.2 10 7) &&& ((fv_X7_setOf (h.1 11 ((((h.1 10 4) + (nI 0)) &&& (nI 63)).toNatClampNeg))) ^^^ (-1)))) 10 4 (((h.1 10 4) + (nI 1)) &&& (nI 63))) 10 5 ((h.1 10 5) - (nI 1))) 10 6 ((h.1 10 6) + (nI 1))) (cs := []) [.aload_n 0, .dup, .getfield 26, .iconst 1, .isub, .putfield 26, .aload_n 0, .dup, .getfield 38, .iconst 1, .iadd, .putfield 38, .aload_n 0, .dup, .getfield 48, .aload_n 0, .aload_n 0, .getfield 26, .iconst 1, .isub] (by decide +kernel) rfl rfl trivial ?_
        refine z_callV hC hN hR (as := [.int (((h.1 10 5) - (nI 1)) - (nI 1))]) (rest := [.long ((h.2 10 7) &&& ((fv_X7_setOf (h.1 11 ((((h.1 10 4) + (nI 0)) &&& (nI 63)).toNatClampNeg))) ^^^ (-1))), .ref 10]) ok_X6_64 (by decide +kernel) (sp_X6_cellOf l _ (z_set (z_set (z_set (z_setL h 10 7 ((h.2 10 7) &&& ((fv_X7_setOf (h.1 11 ((((h.1 10 4) + (nI 0)) &&& (nI 63)).toNatClampNeg))) ^^^ (-1)))) 10 4 (((h.1 10 4) + (nI 1)) &&& (nI 63))) 10 5 ((h.1 10 5) - (nI 1))) 10 6 ((h.1 10 6) + (nI 1))) (((h.1 10 5) - (nI 1)) - (nI 1))) rfl rfl (Nat.le_of_ble_eq_true rfl) rfl rfl (Nat.le_of_ble_eq_true rfl) ⟨Nat.zero_le _, Nat.zero_le _⟩ (fun r49 h50 q51 => z_fun q51 ?_)
        refine z_callSN hC hN hR (as := [.int (h.1 11 ((((((h.1 10 4) + (nI 1)) &&& (nI 63)) + (((h.1 10 5) - (nI 1)) - (nI 1))) &&& (nI 63)).toNatClampNeg))]) (rest := [.long ((h.2 10 7) &&& ((fv_X7_setOf (h.1 11 ((((h.1 10 4) + (nI 0)) &&& (nI 63)).toNatClampNeg))) ^^^ (-1))), .ref 10]) ok_X6_60 (by decide +kernel) (sp_X7_setOf l _ (z_set (z_set (z_set (z_setL h 10 7 ((h.2 10 7) &&& ((fv_X7_setOf (h.1 11 ((((h.1 10 4) + (nI 0)) &&& (nI 63)).toNatClampNeg))) ^^^ (-1)))) 10 4 (((h.1 10 4) + (nI 1)) &&& (nI 63))) 10 5 ((h.1 10 5) - (nI 1))) 10 6 ((h.1 10 6) + (nI 1))) (h.1 11 ((((((h.1 10 4) + (nI 1)) &&& (nI 63)) + (((h.1 10 5) - (nI 1)) - (nI 1))) &&& (nI 63)).toNatClampNeg))) (Nat.le_of_ble_eq_true rfl) rfl rfl (Nat.le_of_ble_eq_true rfl) ⟨Nat.zero_le _, Nat.zero_le _⟩ (fun r52 h53 q54 => z_fun q54 ?_)
        refine z_go hC (pc' := 126) (ls' := [some (.ref 10), some (.int (nI 1))]) (st' := []) (h' := z_setL (z_set (z_set (z_set (z_setL h 10 7 ((h.2 10 7) &&& ((fv_X7_setOf (h.1 11 ((((h.1 10 4) + (nI 0)) &&& (nI 63)).toNatClampNeg))) ^^^ (-1)))) 10 4 (((h.1 10 4) + (nI 1)) &&& (nI 63))) 10 5 ((h.1 10 5) - (nI 1))) 10 6 ((h.1 10 6) + (nI 1))) 10 7 (((h.2 10 7) &&& ((fv_X7_setOf (h.1 11 ((((h.1 10 4) + (nI 0)) &&& (nI 63)).toNatClampNeg))) ^^^ (-1))) ||| (fv_X7_setOf (h.1 11 ((((((h.1 10 4) + (nI 1)) &&& (nI 63)) + (((h.1 10 5) - (nI 1)) - (nI 1))) &&& (nI 63)).toNatClampNeg))))) (cs := []) [.lor, .putfield 48] (by decide +kernel) rfl rfl trivial ?_
        exact z_ret_v hB rfl (by decide +kernel) ⟨rfl, by rw [fh_X6_takeBack, if_neg c4, if_pos c41]⟩
    · skip
      refine z_go hC (pc' := 33) (ls' := [some (.ref 10), some (.int (nI 1))]) (st' := [.ref 8]) (h' := h) (cs := []) [.aload_n 0, .getfield 22] (by decide +kernel) rfl rfl trivial ?_
      refine z_callV hC hN hR (as := []) (rest := []) ok_X6_88 (by decide +kernel) (sp_X3_putFirstBack l _ h ) rfl rfl (Nat.le_of_ble_eq_true rfl) rfl rfl (Nat.le_of_ble_eq_true rfl) ⟨Nat.zero_le _, Nat.zero_le _⟩ (fun r55 h56 q57 => z_fun q57 ?_)
      refine z_go hC (pc' := 53) (ls' := [some (.ref 10), some (.int (nI 1))]) (st' := [.int (nI 0), .ref 10, .long (h.2 10 7), .ref 10]) (h' := z_set (z_set (z_set h 8 1 (((h.1 8 1) - (nI 1)) &&& (nI 63))) 8 2 ((h.1 8 2) + (nI 1))) 10 6 ((h.1 10 6) - (nI 2))) (cs := []) [.aload_n 0, .dup, .getfield 38, .iconst 2, .isub, .putfield 38, .aload_n 0, .dup, .getfield 48, .aload_n 0, .iconst 0] (by decide +kernel) rfl rfl trivial ?_
      refine z_callV hC hN hR (as := [.int (nI 0)]) (rest := [.long (h.2 10 7), .ref 10]) ok_X6_64 (by decide +kernel) (sp_X6_cellOf l _ (z_set (z_set (z_set h 8 1 (((h.1 8 1) - (nI 1)) &&& (nI 63))) 8 2 ((h.1 8 2) + (nI 1))) 10 6 ((h.1 10 6) - (nI 2))) (nI 0)) rfl rfl (Nat.le_of_ble_eq_true rfl) rfl rfl (Nat.le_of_ble_eq_true rfl) ⟨Nat.zero_le _, Nat.zero_le _⟩ (fun r58 h59 q60 => z_fun q60 ?_)
      refine z_callSN hC hN hR (as := [.int (h.1 11 ((((h.1 10 4) + (nI 0)) &&& (nI 63)).toNatClampNeg))]) (rest := [.long (h.2 10 7), .ref 10]) ok_X6_60 (by decide +kernel) (sp_X7_setOf l _ (z_set (z_set (z_set h 8 1 (((h.1 8 1) - (nI 1)) &&& (nI 63))) 8 2 ((h.1 8 2) + (nI 1))) 10 6 ((h.1 10 6) - (nI 2))) (h.1 11 ((((h.1 10 4) + (nI 0)) &&& (nI 63)).toNatClampNeg))) (Nat.le_of_ble_eq_true rfl) rfl rfl (Nat.le_of_ble_eq_true rfl) ⟨Nat.zero_le _, Nat.zero_le _⟩ (fun r61 h62 q63 => z_fun q63 ?_)
      refine z_ldc2 hC (idx := 74) (v := -1) (by decide +kernel) (by decide +kernel) ?_
      refine z_go hC (pc' := 81) (ls' := [some (.ref 10), some (.int (nI 1))]) (st' := [.int (nI 1)]) (h' := z_set (z_setL (z_set (z_set (z_set h 8 1 (((h.1 8 1) - (nI 1)) &&& (nI 63))) 8 2 ((h.1 8 2) + (nI 1))) 10 6 ((h.1 10 6) - (nI 2))) 10 7 ((h.2 10 7) &&& ((fv_X7_setOf (h.1 11 ((((h.1 10 4) + (nI 0)) &&& (nI 63)).toNatClampNeg))) ^^^ (-1)))) 10 4 (((h.1 10 4) + (nI 1)) &&& (nI 63))) (cs := []) [.lxor, .land, .putfield 48, .aload_n 0, .aload_n 0, .getfield 41, .iconst 1, .iadd, .bipush 63, .iand, .putfield 41, .iload_n 1] (by decide +kernel) rfl rfl trivial ?_
      refine z_if_eq hC (off := 23) 104 (by decide +kernel) (by decide) (fun c64 => ?_) (fun c64 => ?_)
      · skip
        exact absurd c64 (by decide)
      · skip
        refine z_go hC (pc' := 116) (ls' := [some (.ref 10), some (.int (nI 1))]) (st' := [.int (((h.1 10 5) - (nI 1)) - (nI 1)), .ref 10, .long ((h.2 10 7) &&& ((fv_X7_setOf (h.1 11 ((((h.1 10 4) + (nI 0)) &&& (nI 63)).toNatClampNeg))) ^^^ (-1))), .ref 10]) (h' := z_set (z_set (z_set (z_setL (z_set (z_set (z_set h 8 1 (((h.1 8 1) - (nI 1)) &&& (nI 63))) 8 2 ((h.1 8 2) + (nI 1))) 10 6 ((h.1 10 6) - (nI 2))) 10 7 ((h.2 10 7) &&& ((fv_X7_setOf (h.1 11 ((((h.1 10 4) + (nI 0)) &&& (nI 63)).toNatClampNeg))) ^^^ (-1)))) 10 4 (((h.1 10 4) + (nI 1)) &&& (nI 63))) 10 5 ((h.1 10 5) - (nI 1))) 10 6 (((h.1 10 6) - (nI 2)) + (nI 1))) (cs := []) [.aload_n 0, .dup, .getfield 26, .iconst 1, .isub, .putfield 26, .aload_n 0, .dup, .getfield 38, .iconst 1, .iadd, .putfield 38, .aload_n 0, .dup, .getfield 48, .aload_n 0, .aload_n 0, .getfield 26, .iconst 1, .isub] (by decide +kernel) rfl rfl trivial ?_
        refine z_callV hC hN hR (as := [.int (((h.1 10 5) - (nI 1)) - (nI 1))]) (rest := [.long ((h.2 10 7) &&& ((fv_X7_setOf (h.1 11 ((((h.1 10 4) + (nI 0)) &&& (nI 63)).toNatClampNeg))) ^^^ (-1))), .ref 10]) ok_X6_64 (by decide +kernel) (sp_X6_cellOf l _ (z_set (z_set (z_set (z_setL (z_set (z_set (z_set h 8 1 (((h.1 8 1) - (nI 1)) &&& (nI 63))) 8 2 ((h.1 8 2) + (nI 1))) 10 6 ((h.1 10 6) - (nI 2))) 10 7 ((h.2 10 7) &&& ((fv_X7_setOf (h.1 11 ((((h.1 10 4) + (nI 0)) &&& (nI 63)).toNatClampNeg))) ^^^ (-1)))) 10 4 (((h.1 10 4) + (nI 1)) &&& (nI 63))) 10 5 ((h.1 10 5) - (nI 1))) 10 6 (((h.1 10 6) - (nI 2)) + (nI 1))) (((h.1 10 5) - (nI 1)) - (nI 1))) rfl rfl (Nat.le_of_ble_eq_true rfl) rfl rfl (Nat.le_of_ble_eq_true rfl) ⟨Nat.zero_le _, Nat.zero_le _⟩ (fun r65 h66 q67 => z_fun q67 ?_)
        refine z_callSN hC hN hR (as := [.int (h.1 11 ((((((h.1 10 4) + (nI 1)) &&& (nI 63)) + (((h.1 10 5) - (nI 1)) - (nI 1))) &&& (nI 63)).toNatClampNeg))]) (rest := [.long ((h.2 10 7) &&& ((fv_X7_setOf (h.1 11 ((((h.1 10 4) + (nI 0)) &&& (nI 63)).toNatClampNeg))) ^^^ (-1))), .ref 10]) ok_X6_60 (by decide +kernel) (sp_X7_setOf l _ (z_set (z_set (z_set (z_setL (z_set (z_set (z_set h 8 1 (((h.1 8 1) - (nI 1)) &&& (nI 63))) 8 2 ((h.1 8 2) + (nI 1))) 10 6 ((h.1 10 6) - (nI 2))) 10 7 ((h.2 10 7) &&& ((fv_X7_setOf (h.1 11 ((((h.1 10 4) + (nI 0)) &&& (nI 63)).toNatClampNeg))) ^^^ (-1)))) 10 4 (((h.1 10 4) + (nI 1)) &&& (nI 63))) 10 5 ((h.1 10 5) - (nI 1))) 10 6 (((h.1 10 6) - (nI 2)) + (nI 1))) (h.1 11 ((((((h.1 10 4) + (nI 1)) &&& (nI 63)) + (((h.1 10 5) - (nI 1)) - (nI 1))) &&& (nI 63)).toNatClampNeg))) (Nat.le_of_ble_eq_true rfl) rfl rfl (Nat.le_of_ble_eq_true rfl) ⟨Nat.zero_le _, Nat.zero_le _⟩ (fun r68 h69 q70 => z_fun q70 ?_)
        refine z_go hC (pc' := 126) (ls' := [some (.ref 10), some (.int (nI 1))]) (st' := []) (h' := z_setL (z_set (z_set (z_set (z_setL (z_set (z_set (z_set h 8 1 (((h.1 8 1) - (nI 1)) &&& (nI 63))) 8 2 ((h.1 8 2) + (nI 1))) 10 6 ((h.1 10 6) - (nI 2))) 10 7 ((h.2 10 7) &&& ((fv_X7_setOf (h.1 11 ((((h.1 10 4) + (nI 0)) &&& (nI 63)).toNatClampNeg))) ^^^ (-1)))) 10 4 (((h.1 10 4) + (nI 1)) &&& (nI 63))) 10 5 ((h.1 10 5) - (nI 1))) 10 6 (((h.1 10 6) - (nI 2)) + (nI 1))) 10 7 (((h.2 10 7) &&& ((fv_X7_setOf (h.1 11 ((((h.1 10 4) + (nI 0)) &&& (nI 63)).toNatClampNeg))) ^^^ (-1))) ||| (fv_X7_setOf (h.1 11 ((((((h.1 10 4) + (nI 1)) &&& (nI 63)) + (((h.1 10 5) - (nI 1)) - (nI 1))) &&& (nI 63)).toNatClampNeg))))) (cs := []) [.lor, .putfield 48] (by decide +kernel) rfl rfl trivial ?_
        exact z_ret_v hB rfl (by decide +kernel) ⟨rfl, by rw [fh_X6_takeBack, if_neg c4, if_neg c41]⟩
end
section
/-! ===== printed by wip/p27/gen: leaf methods of the class, mirrored ===== -/
def fh_X2_makeOneOfTwo (h : z_H) (x : Int32) : z_H := if x < (nI 6) then z_putv (z_putv h 7 36 ((fv_X0_upperLeftOf (fv_X0_firstBlockOf x)) + (nI 1)) (z_atv h 7 36 ((fv_X0_upperLeftOf (fv_X0_secondBlockOf x)) + (nI 6)))) 7 36 ((fv_X0_upperLeftOf (fv_X0_secondBlockOf x)) + (nI 6)) (z_atv h 7 36 ((fv_X0_upperLeftOf (fv_X0_firstBlockOf x)) + (nI 1))) else z_putv (z_putv h 7 36 (((fv_X0_upperLeftOf (fv_X0_firstBlockOf x)) + (nI 6)) + (nI 1)) (z_atv h 7 36 (fv_X0_upperLeftOf (fv_X0_secondBlockOf x)))) 7 36 (fv_X0_upperLeftOf (fv_X0_secondBlockOf x)) (z_atv h 7 36 (((fv_X0_upperLeftOf (fv_X0_firstBlockOf x)) + (nI 6)) + (nI 1)))
set_option maxHeartbeats 4000000 in
set_option maxRecDepth 100000 in
theorem sp_X2_makeOneOfTwo (l : Launch) (ext : z_Sh) (h : z_H) (x : Int32)  : z_Sp l 2 yX2_makeOneOfTwo cX2_makeOneOfTwo 8 none [.ref 4, .int x] (z_c ext) h (fun rv h' => rv = none ∧ h' = fh_X2_makeOneOfTwo h x) := by
  refine z_enter ft_X2 (by decide +kernel) fo_X2 (Nat.le_of_ble_eq_true rfl) ?_
  intro p e R s m args below meth c D dA ad hB
  have hC := hB.1
  have hN := hB.2.1
  have hR := hB.2.2.1
  refine z_go hC (pc' := 1) (ls' := [some (.ref 4), some (.int x), none, none, none, none, none, none]) (st' := [.int x]) (h' := h) (cs := []) [.iload_n 1] (by decide +kernel) rfl rfl trivial ?_
  refine z_callS hC hN hR (as := [.int x]) (rest := []) ok_X2_87 (by decide +kernel) (sp_X0_firstBlockOf l _ h x) (Nat.le_of_ble_eq_true rfl) rfl rfl (Nat.le_of_ble_eq_true rfl) ⟨Nat.zero_le _, Nat.zero_le _⟩ (fun r1 h2 q3 => z_fun q3 ?_)
  refine z_callS hC hN hR (as := [.int (fv_X0_firstBlockOf x)]) (rest := []) ok_X2_77 (by decide +kernel) (sp_X0_upperLeftOf l _ h (fv_X0_firstBlockOf x)) (Nat.le_of_ble_eq_true rfl) rfl rfl (Nat.le_of_ble_eq_true rfl) ⟨Nat.zero_le _, Nat.zero_le _⟩ (fun r4 h5 q6 => z_fun q6 ?_)
  refine z_go hC (pc' := 9) (ls' := [some (.ref 4), some (.int x), some (.int (fv_X0_upperLeftOf (fv_X0_firstBlockOf x))), none, none, none, none, none]) (st' := [.int x]) (h' := h) (cs := []) [.istore_n 2, .iload_n 1] (by decide +kernel) rfl rfl trivial ?_
  refine z_callS hC hN hR (as := [.int x]) (rest := []) ok_X2_90 (by decide +kernel) (sp_X0_secondBlockOf l _ h x) (Nat.le_of_ble_eq_true rfl) rfl rfl (Nat.le_of_ble_eq_true rfl) ⟨Nat.zero_le _, Nat.zero_le _⟩ (fun r7 h8 q9 => z_fun q9 ?_)
  refine z_callS hC hN hR (as := [.int (fv_X0_secondBlockOf x)]) (rest := []) ok_X2_77 (by decide +kernel) (sp_X0_upperLeftOf l _ h (fv_X0_secondBlockOf x)) (Nat.le_of_ble_eq_true rfl) rfl rfl (Nat.le_of_ble_eq_true rfl) ⟨Nat.zero_le _, Nat.zero_le _⟩ (fun r10 h11 q12 => z_fun q12 ?_)
  refine z_go hC (pc' := 19) (ls' := [some (.ref 4), some (.int x), some (.int (fv_X0_upperLeftOf (fv_X0_firstBlockOf x))), some (.int (fv_X0_upperLeftOf (fv_X0_secondBlockOf x))), none, none, none, none]) (st' := [.int (nI 6), .int x]) (h' := h) (cs := []) [.istore_n 3, .iload_n 1, .bipush 6] (by decide +kernel) rfl rfl trivial ?_
  refine z_icmp_lt hC (off := 7) 26 (by decide +kernel) (by decide) (fun c13 => ?_) (fun c13 => ?_)
  · skip
    refine z_go hC (pc' := 31) (ls' := [some (.ref 4), some (.int x), some (.int (fv_X0_upperLeftOf (fv_X0_firstBlockOf x))), some (.int (fv_X0_upperLeftOf (fv_X0_secondBlockOf x))), some (.int (nI 0)), none, none, none]) (st' := [.int (nI 0)]) (h' := h) (cs := []) [.iconst 0, .istore 4, .iload 4] (by decide +kernel) rfl rfl trivial ?_
    refine z_if_eq hC (off := 12) 43 (by decide +kernel) (by decide) (fun c14 => ?_) (fun c14 => ?_)
    · skip
      refine z_go hC (pc' := 50) (ls' := [some (.ref 4), some (.int x), some (.int (fv_X0_upperLeftOf (fv_X0_firstBlockOf x))), some (.int (fv_X0_upperLeftOf (fv_X0_secondBlockOf x))), some (.int (nI 0)), some (.int ((fv_X0_upperLeftOf (fv_X0_firstBlockOf x)) + (nI 1))), none, none]) (st' := [.int (nI 0)]) (h' := h) (cs := []) [.iload_n 2, .iconst 1, .iadd, .istore 5, .iload 4] (by decide +kernel) rfl rfl trivial ?_
      refine z_if_eq hC (off := 7) 57 (by decide +kernel) (by decide) (fun c15 => ?_) (fun c15 => ?_)
      · skip
        refine z_go hC (pc' := 69) (ls' := [some (.ref 4), some (.int x), some (.int (fv_X0_upperLeftOf (fv_X0_firstBlockOf x))), some (.int (fv_X0_upperLeftOf (fv_X0_secondBlockOf x))), some (.int (nI 0)), some (.int ((fv_X0_upperLeftOf (fv_X0_firstBlockOf x)) + (nI 1))), some (.int ((fv_X0_upperLeftOf (fv_X0_secondBlockOf x)) + (nI 6))), none]) (st' := [.int ((fv_X0_upperLeftOf (fv_X0_firstBlockOf x)) + (nI 1)), .ref 7]) (h' := h) (cs := []) [.iload_n 3, .bipush 6, .iadd, .istore 6, .aload_n 0, .getfield 18, .iload 5] (by decide +kernel) rfl rfl trivial ?_
        refine z_callSN hC hN hR (as := [.ref 7, .int ((fv_X0_upperLeftOf (fv_X0_firstBlockOf x)) + (nI 1))]) (rest := []) ok_X2_29 (by decide +kernel) (sp_X7_at l _ h 7 36 [] ((fv_X0_upperLeftOf (fv_X0_firstBlockOf x)) + (nI 1)) rfl (by decide)) (Nat.le_of_ble_eq_true rfl) rfl rfl (Nat.le_of_ble_eq_true rfl) ⟨Nat.zero_le _, Nat.zero_le _⟩ (fun r16 h17 q18 => z_fun q18 ?_)
        refine z_go hC (pc' := 86) (ls' := [some (.ref 4), some (.int x), some (.int (fv_X0_upperLeftOf (fv_X0_firstBlockOf x))), some (.int (fv_X0_upperLeftOf (fv_X0_secondBlockOf x))), some (.int (nI 0)), some (.int ((fv_X0_upperLeftOf (fv_X0_firstBlockOf x)) + (nI 1))), some (.int ((fv_X0_upperLeftOf (fv_X0_secondBlockOf x)) + (nI 6))), some (.int (z_atv h 7 36 ((fv_X0_upperLeftOf (fv_X0_firstBlockOf x)) + (nI 1))))]) (st' := [.int ((fv_X0_upperLeftOf (fv_X0_secondBlockOf x)) + (nI 6)), .ref 7, .int ((fv_X0_upperLeftOf (fv_X0_firstBlockOf x)) + (nI 1)), .ref 7]) (h' := h) (cs := []) [.istore 7, .aload_n 0, .getfield 18, .iload 5, .aload_n 0, .getfield 18, .iload 6] (by decide +kernel) rfl rfl trivial ?_
        refine z_callSN hC hN hR (as := [.ref 7, .int ((fv_X0_upperLeftOf (fv_X0_secondBlockOf x)) + (nI 6))]) (rest := [.int ((fv_X0_upperLeftOf (fv_X0_firstBlockOf x)) + (nI 1)), .ref 7]) ok_X2_29 (by decide +kernel) (sp_X7_at l _ h 7 36 [] ((fv_X0_upperLeftOf (fv_X0_secondBlockOf x)) + (nI 6)) rfl (by decide)) (Nat.le_of_ble_eq_true rfl) rfl rfl (Nat.le_of_ble_eq_true rfl) ⟨Nat.zero_le _, Nat.zero_le _⟩ (fun r19 h20 q21 => z_fun q21 ?_)
        refine z_callSN hC hN hR (as := [.ref 7, .int ((fv_X0_upperLeftOf (fv_X0_firstBlockOf x)) + (nI 1)), .int (z_atv h 7 36 ((fv_X0_upperLeftOf (fv_X0_secondBlockOf x)) + (nI 6)))]) (rest := []) ok_X2_49 (by decide +kernel) (sp_X7_put l _ h 7 36 [] ((fv_X0_upperLeftOf (fv_X0_firstBlockOf x)) + (nI 1)) (z_atv h 7 36 ((fv_X0_upperLeftOf (fv_X0_secondBlockOf x)) + (nI 6))) rfl (by decide)) (Nat.le_of_ble_eq_true rfl) rfl rfl (Nat.le_of_ble_eq_true rfl) ⟨Nat.zero_le _, Nat.zero_le _⟩ (fun r22 h23 q24 => z_fun q24 ?_)
        refine z_go hC (pc' := 100) (ls' := [some (.ref 4), some (.int x), some (.int (fv_X0_upperLeftOf (fv_X0_firstBlockOf x))), some (.int (fv_X0_upperLeftOf (fv_X0_secondBlockOf x))), some (.int (nI 0)), some (.int ((fv_X0_upperLeftOf (fv_X0_firstBlockOf x)) + (nI 1))), some (.int ((fv_X0_upperLeftOf (fv_X0_secondBlockOf x)) + (nI 6))), some (.int (z_atv h 7 36 ((fv_X0_upperLeftOf (fv_X0_firstBlockOf x)) + (nI 1))))]) (st' := [.int (z_atv h 7 36 ((fv_X0_upperLeftOf (fv_X0_firstBlockOf x)) + (nI 1))), .int ((fv_X0_upperLeftOf (fv_X0_secondBlockOf x)) + (nI 6)), .ref 7]) (h' := z_putv h 7 36 ((fv_X0_upperLeftOf (fv_X0_firstBlockOf x)) + (nI 1)) (z_atv h 7 36 ((fv_X0_upperLeftOf (fv_X0_secondBlockOf x)) + (nI 6)))) (cs := []) [.aload_n 0, .getfield 18, .iload 6, .iload 7] (by decide +kernel) rfl rfl trivial ?_
        refine z_callSN hC hN hR (as := [.ref 7, .int ((fv_X0_upperLeftOf (fv_X0_secondBlockOf x)) + (nI 6)), .int (z_atv h 7 36 ((fv_X0_upperLeftOf (fv_X0_firstBlockOf x)) + (nI 1)))]) (rest := []) ok_X2_49 (by decide +kernel) (sp_X7_put l _ (z_putv h 7 36 ((fv_X0_upperLeftOf (fv_X0_firstBlockOf x)) + (nI 1)) (z_atv h 7 36 ((fv_X0_upperLeftOf (fv_X0_secondBlockOf x)) + (nI 6)))) 7 36 [] ((fv_X0_upperLeftOf (fv_X0_secondBlockOf x)) + (nI 6)) (z_atv h 7 36 ((fv_X0_upperLeftOf (fv_X0_firstBlockOf x)) + (nI 1))) rfl (by decide)) (Nat.le_of_ble_eq_true rfl) rfl rfl (Nat.le_of_ble_eq_true rfl) ⟨Nat.zero_le _, Nat.zero_le _⟩ (fun r25 h26 q27 => z_fun q27 ?_)
        exact z_ret_v hB rfl (by decide +kernel) ⟨rfl, by rw [fh_X2_makeOneOfTwo, if_pos c13]⟩
      · skip
        exact absurd c15 (by decide)
    · skip
      exact absurd c14 (by decide)
  · skip
    refine z_go hC (pc' := 23) (ls' := [some (.ref 4), some (.int x), some (.int (fv_X0_upperLeftOf (fv_X0_firstBlockOf x))), some (.int (fv_X0_upperLeftOf (fv_X0_secondBlockOf x))), none, none, none, none]) (st' := [.int (nI 1)]) (h' := h) (cs := []) [.iconst 1] (by decide +kernel) rfl rfl trivial ?_
    refine z_goto hC (off := 4) 27 (by decide +kernel) (by decide) ?_
    refine z_go hC (pc' := 31) (ls' := [some (.ref 4), some (.int x), some (.int (fv_X0_upperLeftOf (fv_X0_firstBlockOf x))), some (.int (fv_X0_upperLeftOf (fv_X0_secondBlockOf x))), some (.int (nI 1)), none, none, none]) (st' := [.int (nI 1)]) (h' := h) (cs := []) [.istore 4, .iload 4] (by decide +kernel) rfl rfl trivial ?_
    refine z_if_eq hC (off := 12) 43 (by decide +kernel) (by decide) (fun c28 => ?_) (fun c28 => ?_)
    · skip
      exact absurd c28 (by decide)
    · skip
      refine z_go hC (pc' := 40) (ls' := [some (.ref 4), some (.int x), some (.int (fv_X0_upperLeftOf (fv_X0_firstBlockOf x))), some (.int (fv_X0_upperLeftOf (fv_X0_secondBlockOf x))), some (.int (nI 1)), none, none, none]) (st' := [.int (((fv_X0_upperLeftOf (fv_X0_firstBlockOf x)) + (nI 6)) + (nI 1))]) (h' := h) (cs := []) [.iload_n 2, .bipush 6, .iadd, .iconst 1, .iadd] (by decide +kernel) rfl rfl trivial ?_
      refine z_goto hC (off := 6) 46 (by decide +kernel) (by decide) ?_
      refine z_go hC (pc' := 50) (ls' := [some (.ref 4), some (.int x), some (.int (fv_X0_upperLeftOf (fv_X0_firstBlockOf x))), some (.int (fv_X0_upperLeftOf (fv_X0_secondBlockOf x))), some (.int (nI 1)), some (.int (((fv_X0_upperLeftOf (fv_X0_firstBlockOf x)) + (nI 6)) + (nI 1))), none, none]) (st' := [.int (nI 1)]) (h' := h) (cs := []) [.istore 5, .iload 4] (by decide +kernel) rfl rfl trivial ?_
      refine z_if_eq hC (off := 7) 57 (by decide +kernel) (by decide) (fun c29 => ?_) (fun c29 => ?_)
      · skip
        exact absurd c29 (by decide)
      · skip
        refine z_go hC (pc' := 54) (ls' := [some (.ref 4), some (.int x), some (.int (fv_X0_upperLeftOf (fv_X0_firstBlockOf x))), some (.int (fv_X0_upperLeftOf (fv_X0_secondBlockOf x))), some (.int (nI 1)), some (.int (((fv_X0_upperLeftOf (fv_X0_firstBlockOf x)) + (nI 6)) + (nI 1))), none, none]) (st' := [.int (fv_X0_upperLeftOf (fv_X0_secondBlockOf x))]) (h' := h) (cs := []) [.iload_n 3] (by decide +kernel) rfl rfl trivial ?_
        refine z_goto hC (off := 7) 61 (by decide +kernel) (by decide) ?_
        refine z_go hC (pc' := 69) (ls' := [some (.ref 4), some (.int x), some (.int (fv_X0_upperLeftOf (fv_X0_firstBlockOf x))), some (.int (fv_X0_upperLeftOf (fv_X0_secondBlockOf x))), some (.int (nI 1)), some (.int (((fv_X0_upperLeftOf (fv_X0_firstBlockOf x)) + (nI 6)) + (nI 1))), some (.int (fv_X0_upperLeftOf (fv_X0_secondBlockOf x))), none]) (st' := [.int (((fv_X0_upperLeftOf (fv_X0_firstBlockOf x)) + (nI 6)) + (nI 1)), .ref 7]) (h' := h) (cs := []) [.istore 6, .aload_n 0, .getfield 18, .iload 5] (by decide +kernel) rfl rfl trivial ?_
        refine z_callSN hC hN hR (as := [.ref 7, .int (((fv_X0_upperLeftOf (fv_X0_firstBlockOf x)) + (nI 6)) + (nI 1))]) (rest := []) ok_X2_29 (by decide +kernel) (sp_X7_at l _ h 7 36 [] (((fv_X0_upperLeftOf (fv_X0_firstBlockOf x)) + (nI 6)) + (nI 1)) rfl (by decide)) (Nat.le_of_ble_eq_true rfl) rfl rfl (Nat.le_of_ble_eq_true rfl) ⟨Nat.zero_le _, Nat.zero_le _⟩ (fun r30 h31 q32 => z_fun q32 ?_)
        refine z_go hC (pc' := 86) (ls' := [some (.ref 4), some (.int x), some (.int (fv_X0_upperLeftOf (fv_X0_firstBlockOf x))), some (.int (fv_X0_upperLeftOf (fv_X0_secondBlockOf x))), some (.int (nI 1)), some (.int (((fv_X0_upperLeftOf (fv_X0_firstBlockOf x)) + (nI 6)) + (nI 1))), some (.int (fv_X0_upperLeftOf (fv_X0_secondBlockOf x))), some (.int (z_atv h 7 36 (((fv_X0_upperLeftOf (fv_X0_firstBlockOf x)) + (nI 6)) + (nI 1))))]) (st' := [.int (fv_X0_upperLeftOf (fv_X0_secondBlockOf x)), .ref 7, .int (((fv_X0_upperLeftOf (fv_X0_firstBlockOf x)) + (nI 6)) + (nI 1)), .ref 7]) (h' := h) (cs := []) [.istore 7, .aload_n 0, .getfield 18, .iload 5, .aload_n 0, .getfield 18, .iload 6] (by decide +kernel) rfl rfl trivial ?_
        refine z_callSN hC hN hR (as := [.ref 7, .int (fv_X0_upperLeftOf (fv_X0_secondBlockOf x))]) (rest := [.int (((fv_X0_upperLeftOf (fv_X0_firstBlockOf x)) + (nI 6)) + (nI 1)), .ref 7]) ok_X2_29 (by decide +kernel) (sp_X7_at l _ h 7 36 [] (fv_X0_upperLeftOf (fv_X0_secondBlockOf x)) rfl (by decide)) (Nat.le_of_ble_eq_true rfl) rfl rfl (Nat.le_of_ble_eq_true rfl) ⟨Nat.zero_le _, Nat.zero_le _⟩ (fun r33 h34 q35 => z_fun q35 ?_)
        refine z_callSN hC hN hR (as := [.ref 7, .int (((fv_X0_upperLeftOf (fv_X0_firstBlockOf x)) + (nI 6)) + (nI 1)), .int (z_atv h 7 36 (fv_X0_upperLeftOf (fv_X0_secondBlockOf x)))]) (rest := []) ok_X2_49 (by decide +kernel) (sp_X7_put l _ h 7 36 [] (((fv_X0_upperLeftOf (fv_X0_firstBlockOf x)) + (nI 6)) + (nI 1)) (z_atv h 7 36 (fv_X0_upperLeftOf (fv_X0_secondBlockOf x))) rfl (by decide)) (Nat.le_of_ble_eq_true rfl) rfl rfl (Nat.le_of_ble_eq_true rfl) ⟨Nat.zero_le _, Nat.zero_le _⟩ (fun r36 h37 q38 => z_fun q38 ?_)
        refine z_go hC (pc' := 100) (ls' := [some (.ref 4), some (.int x), some (.int (fv_X0_upperLeftOf (fv_X0_firstBlockOf x))), some (.int (fv_X0_upperLeftOf (fv_X0_secondBlockOf x))), some (.int (nI 1)), some (.int (((fv_X0_upperLeftOf (fv_X0_firstBlockOf x)) + (nI 6)) + (nI 1))), some (.int (fv_X0_upperLeftOf (fv_X0_secondBlockOf x))), some (.int (z_atv h 7 36 (((fv_X0_upperLeftOf (fv_X0_firstBlockOf x)) + (nI 6)) + (nI 1))))]) (st' := [.int (z_atv h 7 36 (((fv_X0_upperLeftOf (fv_X0_firstBlockOf x)) + (nI 6)) + (nI 1))), .int (fv_X0_upperLeftOf (fv_X0_secondBlockOf x)), .ref 7]) (h' := z_putv h 7 36 (((fv_X0_upperLeftOf (fv_X0_firstBlockOf x)) + (nI 6)) + (nI 1)) (z_atv h 7 36 (fv_X0_upperLeftOf (fv_X0_secondBlockOf x)))) (cs := []) [.aload_n 0, .getfield 18, .iload 6, .iload 7] (by decide +kernel) rfl rfl trivial ?_
        refine z_callSN hC hN hR (as := [.ref 7, .int (fv_X0_upperLeftOf (fv_X0_secondBlockOf x)), .int (z_atv h 7 36 (((fv_X0_upperLeftOf (fv_X0_firstBlockOf x)) + (nI 6)) + (nI 1)))]) (rest := []) ok_X2_49 (by decide +kernel) (sp_X7_put l _ (z_putv h 7 36 (((fv_X0_upperLeftOf (fv_X0_firstBlockOf x)) + (nI 6)) + (nI 1)) (z_atv h 7 36 (fv_X0_upperLeftOf (fv_X0_secondBlockOf x)))) 7 36 [] (fv_X0_upperLeftOf (fv_X0_secondBlockOf x)) (z_atv h 7 36 (((fv_X0_upperLeftOf (fv_X0_firstBlockOf x)) + (nI 6)) + (nI 1))) rfl (by decide)) (Nat.le_of_ble_eq_true rfl) rfl rfl (Nat.le_of_ble_eq_true rfl) ⟨Nat.zero_le _, Nat.zero_le _⟩ (fun r39 h40 q41 => z_fun q41 ?_)
        exact z_ret_v hB rfl (by decide +kernel) ⟨rfl, by rw [fh_X2_makeOneOfTwo, if_neg c13]⟩
end
section
/-! ===== printed by wip/p27/gen: methods with loops, as functions ===== -/
def fn_X0_joinBy_100 (k69 : Int32 → Int32 → Int32 → z_H → z_R) (a4 : Int32) (a5 : Int32) (a6 : Int32) (h : z_H) : z_R := k69 a4 a5 (a6 + (nI 1)) h
def tk_X0_joinBy_100 (K69 : Int32 → Int32 → Int32 → z_H → Prop) (a4 : Int32) (a5 : Int32) (a6 : Int32) (h : z_H) : Prop := K69 a4 a5 (a6 + (nI 1)) h
def fn_X0_joinBy_69  : Nat → Int32 → Int32 → Int32 → z_H → z_R
  | 0, _, _, _, h => (none, h)
  | n + 1, a4, a5, a6, h => let k69 := fun (a4_ : Int32) (a5_ : Int32) (a6_ : Int32) (h_ : z_H) => fn_X0_joinBy_69  n a4_ a5_ a6_ h_; if (nI 9) ≤ a6 then (none, h) else if (h.1 3 a6.toNatClampNeg) = a5 then fn_X0_joinBy_100 k69 a4 a5 a6 (z_set h 3 a6.toNatClampNeg a4) else fn_X0_joinBy_100 k69 a4 a5 a6 h
def tk_X0_joinBy_69  : Nat → Int32 → Int32 → Int32 → z_H → Prop
  | 0, _, _, _, _ => False
  | n + 1, a4, a5, a6, h => let K69 := fun (a4_ : Int32) (a5_ : Int32) (a6_ : Int32) (h_ : z_H) => tk_X0_joinBy_69  n a4_ a5_ a6_ h_; (((nI 9) ≤ a6) → (True)) ∧ ((¬ (nI 9) ≤ a6) → (vp_in a6 9 ∧ ((((h.1 3 a6.toNatClampNeg) = a5) → (vp_in a6 9 ∧ (tk_X0_joinBy_100 K69 a4 a5 a6 (z_set h 3 a6.toNatClampNeg a4)))) ∧ ((¬ (h.1 3 a6.toNatClampNeg) = a5) → (tk_X0_joinBy_100 K69 a4 a5 a6 h)))))
def fn_X0_joinBy (x : Int32) (h : z_H) : z_R := if (fv_X0_hasWallOn h (fv_X0_firstBlockOf x)) = 0 then if (fv_X0_hasWallOn h (fv_X0_secondBlockOf x)) = 0 then if (z_atv h 3 9 (fv_X0_firstBlockOf x)) = (z_atv h 3 9 (fv_X0_secondBlockOf x)) then (none, h) else fn_X0_joinBy_69 2000 (z_atv h 3 9 (fv_X0_firstBlockOf x)) (z_atv h 3 9 (fv_X0_secondBlockOf x)) (nI 0) (z_set h 1 3 ((h.1 1 3) ||| ((nI 1) <<< (x &&& 31)))) else (none, h) else (none, h)
def tk_X0_joinBy (x : Int32) (h : z_H) : Prop := (((fv_X0_hasWallOn h (fv_X0_firstBlockOf x)) = 0) → ((((fv_X0_hasWallOn h (fv_X0_secondBlockOf x)) = 0) → ((((z_atv h 3 9 (fv_X0_firstBlockOf x)) = (z_atv h 3 9 (fv_X0_secondBlockOf x))) → (True)) ∧ ((¬ (z_atv h 3 9 (fv_X0_firstBlockOf x)) = (z_atv h 3 9 (fv_X0_secondBlockOf x))) → (tk_X0_joinBy_69 2000 (z_atv h 3 9 (fv_X0_firstBlockOf x)) (z_atv h 3 9 (fv_X0_secondBlockOf x)) (nI 0) (z_set h 1 3 ((h.1 1 3) ||| ((nI 1) <<< (x &&& 31)))))))) ∧ ((¬ (fv_X0_hasWallOn h (fv_X0_secondBlockOf x)) = 0) → (True)))) ∧ ((¬ (fv_X0_hasWallOn h (fv_X0_firstBlockOf x)) = 0) → (True))
set_option maxHeartbeats 4000000 in
set_option maxRecDepth 100000 in
theorem sp_X0_joinBy (l : Launch) (ext : z_Sh)  (h : z_H) (x : Int32)  (T : tk_X0_joinBy x h) : z_Sp l 2 yX0_joinBy cX0_joinBy 7 none [.ref 1, .int x] (z_c ext) h (z_PV (fn_X0_joinBy x h)) := by
  refine z_enter ft_X0 (by decide +kernel) fo_X0 (Nat.le_of_ble_eq_true rfl) ?_
  intro p e R s m args below meth c D dA ad hB
  have hC := hB.1
  have hN := hB.2.1
  have hR := hB.2.2.1
  unfold tk_X0_joinBy at T; have E : (if (fv_X0_hasWallOn h (fv_X0_firstBlockOf x)) = 0 then if (fv_X0_hasWallOn h (fv_X0_secondBlockOf x)) = 0 then if (z_atv h 3 9 (fv_X0_firstBlockOf x)) = (z_atv h 3 9 (fv_X0_secondBlockOf x)) then (none, h) else fn_X0_joinBy_69 2000 (z_atv h 3 9 (fv_X0_firstBlockOf x)) (z_atv h 3 9 (fv_X0_secondBlockOf x)) (nI 0) (z_set h 1 3 ((h.1 1 3) ||| ((nI 1) <<< (x &&& 31)))) else (none, h) else (none, h)) = fn_X0_joinBy x h := rfl
  generalize fn_X0_joinBy x h = RR at E ⊢
  have P100 : ∀ (k69 : Int32 → Int32 → Int32 → z_H → z_R) (K69 : Int32 → Int32 → Int32 → z_H → Prop) (hk69 : ∀ (a4 : Int32) (a5 : Int32) (a6 : Int32) (h : z_H), K69 a4 a5 a6 h → k69 a4 a5 a6 h = RR → z_G p l e R s m args below meth c D dA ad 7 (z_PV RR) (z_c ext) 69 [some (.ref 1), none, none, none, some (.int a4), some (.int a5), some (.int a6)] [] h), ∀ (a4 : Int32) (a5 : Int32) (a6 : Int32) (h : z_H), tk_X0_joinBy_100 K69 a4 a5 a6 h → fn_X0_joinBy_100 k69 a4 a5 a6 h = RR → z_G p l e R s m args below meth c D dA ad 7 (z_PV RR) (z_c ext) 100 [some (.ref 1), none, none, none, some (.int a4), some (.int a5), some (.int a6)] [] h := by
    intro k69 K69 hk69 a4 a5 a6 h T E
    unfold tk_X0_joinBy_100 at T; unfold fn_X0_joinBy_100 at E
    refine z_go hC (pc' := 103) (ls' := [some (.ref 1), none, none, none, some (.int a4), some (.int a5), some (.int (a6 + (nI 1)))]) (st' := []) (h' := h) (cs := []) [.iinc 6 1] (by decide +kernel) rfl rfl trivial ?_
    refine z_goto hC (off := -34) 69 (by decide +kernel) (by decide) ?_
    exact hk69 a4 a5 (a6 + (nI 1)) h T E
  have P69 : ∀ (n : Nat), ∀ (a4 : Int32) (a5 : Int32) (a6 : Int32) (h : z_H), tk_X0_joinBy_69  n a4 a5 a6 h → fn_X0_joinBy_69  n a4 a5 a6 h = RR → z_G p l e R s m args below meth c D dA ad 7 (z_PV RR) (z_c ext) 69 [some (.ref 1), none, none, none, some (.int a4), some (.int a5), some (.int a6)] [] h := by
    intro  n
    induction n with
    | zero => intro a4 a5 a6 h T E; exact False.elim T
    | succ n ih =>
      intro a4 a5 a6 h T E
      unfold tk_X0_joinBy_69 at T; unfold fn_X0_joinBy_69 at E; dsimp only at T E
      have hk69 := ih
      refine z_go hC (pc' := 76) (ls' := [some (.ref 1), none, none, none, some (.int a4), some (.int a5), some (.int a6)]) (st' := [.int (nI 9), .int a6]) (h' := h) (cs := []) [.iload 6, .aload_n 0, .getfield 15, .arraylength] (by decide +kernel) rfl rfl trivial ?_
      refine z_icmp_ge hC (off := 30) 106 (by decide +kernel) (by decide) (fun c1 => ?_) (fun c1 => ?_)
      · skip
        have E := (if_pos c1).symm.trans E
        have T := T.1 c1
        exact z_ret_v hB rfl (by decide +kernel) (z_lfv E)
      · skip
        have E := (if_neg c1).symm.trans E
        have T := T.2 c1
        obtain ⟨t2, T⟩ := T
        refine z_go hC (pc' := 88) (ls' := [some (.ref 1), none, none, none, some (.int a4), some (.int a5), some (.int a6)]) (st' := [.int a5, .int (h.1 3 a6.toNatClampNeg)]) (h' := h) (cs := [vp_in a6 9]) [.aload_n 0, .getfield 15, .iload 6, .iaload, .iload 5] (by decide +kernel) rfl rfl t2 ?_
        refine z_icmp_ne hC (off := 12) 100 (by decide +kernel) (by decide) (fun c3 => ?_) (fun c3 => ?_)
        · skip
          have E := (if_neg c3).symm.trans E
          have T := T.2 c3
          exact P100 _ _ hk69 a4 a5 a6 h T E
        · skip
          have E := (if_pos c3).symm.trans E
          have T := T.1 c3
          obtain ⟨t4, T⟩ := T
          refine z_go hC (pc' := 100) (ls' := [some (.ref 1), none, none, none, some (.int a4), some (.int a5), some (.int a6)]) (st' := []) (h' := z_set h 3 a6.toNatClampNeg a4) (cs := [vp_in a6 9]) [.aload_n 0, .getfield 15, .iload 6, .iload 4, .iastore] (by decide +kernel) rfl rfl t4 ?_
          exact P100 _ _ hk69 a4 a5 a6 (z_set h 3 a6.toNatClampNeg a4) T E
  refine z_go hC (pc' := 1) (ls' := [some (.ref 1), some (.int x), none, none, none, none, none]) (st' := [.int x]) (h' := h) (cs := []) [.iload_n 1] (by decide +kernel) rfl rfl trivial ?_
  refine z_callS hC hN hR (as := [.int x]) (rest := []) ok_X0_18 (by decide +kernel) (sp_X0_firstBlockOf l _ h x) (Nat.le_of_ble_eq_true rfl) rfl rfl (Nat.le_of_ble_eq_true rfl) ⟨Nat.zero_le _, Nat.zero_le _⟩ (fun r5 h6 q7 => z_fun q7 ?_)
  refine z_go hC (pc' := 6) (ls' := [some (.ref 1), some (.int x), some (.int (fv_X0_firstBlockOf x)), none, none, none, none]) (st' := [.int x]) (h' := h) (cs := []) [.istore_n 2, .iload_n 1] (by decide +kernel) rfl rfl trivial ?_
  refine z_callS hC hN hR (as := [.int x]) (rest := []) ok_X0_58 (by decide +kernel) (sp_X0_secondBlockOf l _ h x) (Nat.le_of_ble_eq_true rfl) rfl rfl (Nat.le_of_ble_eq_true rfl) ⟨Nat.zero_le _, Nat.zero_le _⟩ (fun r8 h9 q10 => z_fun q10 ?_)
  refine z_go hC (pc' := 15) (ls' := [some (.ref 1), some (.int x), some (.int (fv_X0_firstBlockOf x)), some (.int (fv_X0_secondBlockOf x)), none, none, none]) (st' := [.int (fv_X0_firstBlockOf x), .ref 3]) (h' := h) (cs := []) [.istore_n 3, .aload_n 0, .getfield 15, .iload_n 2] (by decide +kernel) rfl rfl trivial ?_
  refine z_callSN hC hN hR (as := [.ref 3, .int (fv_X0_firstBlockOf x)]) (rest := []) ok_X0_26 (by decide +kernel) (sp_X7_at l _ h 3 9 [] (fv_X0_firstBlockOf x) rfl (by decide)) (Nat.le_of_ble_eq_true rfl) rfl rfl (Nat.le_of_ble_eq_true rfl) ⟨Nat.zero_le _, Nat.zero_le _⟩ (fun r11 h12 q13 => z_fun q13 ?_)
  refine z_go hC (pc' := 25) (ls' := [some (.ref 1), some (.int x), some (.int (fv_X0_firstBlockOf x)), some (.int (fv_X0_secondBlockOf x)), some (.int (z_atv h 3 9 (fv_X0_firstBlockOf x))), none, none]) (st' := [.int (fv_X0_secondBlockOf x), .ref 3]) (h' := h) (cs := []) [.istore 4, .aload_n 0, .getfield 15, .iload_n 3] (by decide +kernel) rfl rfl trivial ?_
  refine z_callSN hC hN hR (as := [.ref 3, .int (fv_X0_secondBlockOf x)]) (rest := []) ok_X0_26 (by decide +kernel) (sp_X7_at l _ h 3 9 [] (fv_X0_secondBlockOf x) rfl (by decide)) (Nat.le_of_ble_eq_true rfl) rfl rfl (Nat.le_of_ble_eq_true rfl) ⟨Nat.zero_le _, Nat.zero_le _⟩ (fun r14 h15 q16 => z_fun q16 ?_)
  refine z_go hC (pc' := 32) (ls' := [some (.ref 1), some (.int x), some (.int (fv_X0_firstBlockOf x)), some (.int (fv_X0_secondBlockOf x)), some (.int (z_atv h 3 9 (fv_X0_firstBlockOf x))), some (.int (z_atv h 3 9 (fv_X0_secondBlockOf x))), none]) (st' := [.int (fv_X0_firstBlockOf x), .ref 1]) (h' := h) (cs := []) [.istore 5, .aload_n 0, .iload_n 2] (by decide +kernel) rfl rfl trivial ?_
  refine z_callV hC hN hR (as := [.int (fv_X0_firstBlockOf x)]) (rest := []) ok_X0_44 (by decide +kernel) (sp_X0_hasWallOn l _ h (fv_X0_firstBlockOf x)) rfl rfl (Nat.le_of_ble_eq_true rfl) rfl rfl (Nat.le_of_ble_eq_true rfl) ⟨Nat.zero_le _, Nat.zero_le _⟩ (fun r17 h18 q19 => z_fun q19 ?_)
  refine z_if_ne hC (off := 18) 53 (by decide +kernel) (by decide) (fun c20 => ?_) (fun c20 => ?_)
  · skip
    have E := (if_neg c20).symm.trans E
    have T := T.2 c20
    exact z_ret_v hB rfl (by decide +kernel) (z_lfv E)
  · skip
    have E := (if_pos c20).symm.trans E
    have T := T.1 c20
    refine z_go hC (pc' := 40) (ls' := [some (.ref 1), some (.int x), some (.int (fv_X0_firstBlockOf x)), some (.int (fv_X0_secondBlockOf x)), some (.int (z_atv h 3 9 (fv_X0_firstBlockOf x))), some (.int (z_atv h 3 9 (fv_X0_secondBlockOf x))), none]) (st' := [.int (fv_X0_secondBlockOf x), .ref 1]) (h' := h) (cs := []) [.aload_n 0, .iload_n 3] (by decide +kernel) rfl rfl trivial ?_
    refine z_callV hC hN hR (as := [.int (fv_X0_secondBlockOf x)]) (rest := []) ok_X0_44 (by decide +kernel) (sp_X0_hasWallOn l _ h (fv_X0_secondBlockOf x)) rfl rfl (Nat.le_of_ble_eq_true rfl) rfl rfl (Nat.le_of_ble_eq_true rfl) ⟨Nat.zero_le _, Nat.zero_le _⟩ (fun r21 h22 q23 => z_fun q23 ?_)
    refine z_if_ne hC (off := 10) 53 (by decide +kernel) (by decide) (fun c24 => ?_) (fun c24 => ?_)
    · skip
      have E := (if_neg c24).symm.trans E
      have T := T.2 c24
      exact z_ret_v hB rfl (by decide +kernel) (z_lfv E)
    · skip
      have E := (if_pos c24).symm.trans E
      have T := T.1 c24
      refine z_go hC (pc' := 50) (ls' := [some (.ref 1), some (.int x), some (.int (fv_X0_firstBlockOf x)), some (.int (fv_X0_secondBlockOf x)), some (.int (z_atv h 3 9 (fv_X0_firstBlockOf x))), some (.int (z_atv h 3 9 (fv_X0_secondBlockOf x))), none]) (st' := [.int (z_atv h 3 9 (fv_X0_secondBlockOf x)), .int (z_atv h 3 9 (fv_X0_firstBlockOf x))]) (h' := h) (cs := []) [.iload 4, .iload 5] (by decide +kernel) rfl rfl trivial ?_
      refine z_icmp_ne hC (off := 4) 54 (by decide +kernel) (by decide) (fun c25 => ?_) (fun c25 => ?_)
      · skip
        have E := (if_neg c25).symm.trans E
        have T := T.2 c25
        refine z_go hC (pc' := 69) (ls' := [some (.ref 1), some (.int x), some (.int (fv_X0_firstBlockOf x)), some (.int (fv_X0_secondBlockOf x)), some (.int (z_atv h 3 9 (fv_X0_firstBlockOf x))), some (.int (z_atv h 3 9 (fv_X0_secondBlockOf x))), some (.int (nI 0))]) (st' := []) (h' := z_set h 1 3 ((h.1 1 3) ||| ((nI 1) <<< (x &&& 31)))) (cs := []) [.aload_n 0, .dup, .getfield 34, .iconst 1, .iload_n 1, .ishl, .ior, .putfield 34, .iconst 0, .istore 6] (by decide +kernel) rfl rfl trivial ?_
        refine z_less (ls' := [some (.ref 1), none, none, none, some (.int (z_atv h 3 9 (fv_X0_firstBlockOf x))), some (.int (z_atv h 3 9 (fv_X0_secondBlockOf x))), some (.int (nI 0))]) (by simp [z_sub]) ?_
        exact P69 2000 (z_atv h 3 9 (fv_X0_firstBlockOf x)) (z_atv h 3 9 (fv_X0_secondBlockOf x)) (nI 0) (z_set h 1 3 ((h.1 1 3) ||| ((nI 1) <<< (x &&& 31)))) T E
      · skip
        have E := (if_pos c25).symm.trans E
        have T := T.1 c25
        exact z_ret_v hB rfl (by decide +kernel) (z_lfv E)

def fn_X0_growTree_59 (k31 : Int32 → z_H → z_R) (k39 : Int32 → Int32 → z_H → z_R) (a1 : Int32) (a2 : Int32) (h : z_H) : z_R := k39 a1 (a2 + (nI 1)) h
def tk_X0_growTree_59 (K31 : Int32 → z_H → Prop) (K39 : Int32 → Int32 → z_H → Prop) (a1 : Int32) (a2 : Int32) (h : z_H) : Prop := K39 a1 (a2 + (nI 1)) h
def fn_X0_growTree_39 (k31 : Int32 → z_H → z_R) : Nat → Int32 → Int32 → z_H → z_R
  | 0, _, _, h => (none, h)
  | n + 1, a1, a2, h => let k39 := fun (a1_ : Int32) (a2_ : Int32) (h_ : z_H) => fn_X0_growTree_39 k31 n a1_ a2_ h_; if (nI 12) ≤ a2 then k31 (a1 + (nI 1)) h else if (z_atv h 2 12 a2) = a1 then fn_X0_growTree_59 k31 k39 a1 a2 ((fn_X0_joinBy a2 h).2) else fn_X0_growTree_59 k31 k39 a1 a2 h
def tk_X0_growTree_39 (K31 : Int32 → z_H → Prop) : Nat → Int32 → Int32 → z_H → Prop
  | 0, _, _, _ => False
  | n + 1, a1, a2, h => let K39 := fun (a1_ : Int32) (a2_ : Int32) (h_ : z_H) => tk_X0_growTree_39 K31 n a1_ a2_ h_; (((nI 12) ≤ a2) → (K31 (a1 + (nI 1)) h)) ∧ ((¬ (nI 12) ≤ a2) → ((((z_atv h 2 12 a2) = a1) → (tk_X0_joinBy a2 h ∧ (tk_X0_growTree_59 K31 K39 a1 a2 ((fn_X0_joinBy a2 h).2)))) ∧ ((¬ (z_atv h 2 12 a2) = a1) → (tk_X0_growTree_59 K31 K39 a1 a2 h))))
def fn_X0_growTree_31  : Nat → Int32 → z_H → z_R
  | 0, _, h => (none, h)
  | n + 1, a1, h => let k31 := fun (a1_ : Int32) (h_ : z_H) => fn_X0_growTree_31  n a1_ h_; if (nI 9) < a1 then (none, h) else fn_X0_growTree_39 k31 2000 a1 (nI 0) h
def tk_X0_growTree_31  : Nat → Int32 → z_H → Prop
  | 0, _, _ => False
  | n + 1, a1, h => let K31 := fun (a1_ : Int32) (h_ : z_H) => tk_X0_growTree_31  n a1_ h_; (((nI 9) < a1) → (True)) ∧ ((¬ (nI 9) < a1) → (tk_X0_growTree_39 K31 2000 a1 (nI 0) h))
def fn_X0_growTree_7  : Nat → Int32 → z_H → z_R
  | 0, _, h => (none, h)
  | n + 1, a1, h => let k7 := fun (a1_ : Int32) (h_ : z_H) => fn_X0_growTree_7  n a1_ h_; if (nI 9) ≤ a1 then fn_X0_growTree_31 2000 (nI 0) h else k7 (a1 + (nI 1)) (z_set h 3 a1.toNatClampNeg a1)
def tk_X0_growTree_7  : Nat → Int32 → z_H → Prop
  | 0, _, _ => False
  | n + 1, a1, h => let K7 := fun (a1_ : Int32) (h_ : z_H) => tk_X0_growTree_7  n a1_ h_; (((nI 9) ≤ a1) → (tk_X0_growTree_31 2000 (nI 0) h)) ∧ ((¬ (nI 9) ≤ a1) → (vp_in a1 9 ∧ (K7 (a1 + (nI 1)) (z_set h 3 a1.toNatClampNeg a1))))
def fn_X0_growTree  (h : z_H) : z_R := fn_X0_growTree_7 2000 (nI 0) (z_set h 1 3 (nI 0))
def tk_X0_growTree  (h : z_H) : Prop := tk_X0_growTree_7 2000 (nI 0) (z_set h 1 3 (nI 0))
set_option maxHeartbeats 4000000 in
set_option maxRecDepth 100000 in
theorem sp_X0_growTree (l : Launch) (ext : z_Sh)  (h : z_H)   (T : tk_X0_growTree  h) : z_Sp l 3 yX0_growTree cX0_growTree 3 none [.ref 1] (z_c ext) h (z_PV (fn_X0_growTree  h)) := by
  refine z_enter ft_X0 (by decide +kernel) fo_X0 (Nat.le_of_ble_eq_true rfl) ?_
  intro p e R s m args below meth c D dA ad hB
  have hC := hB.1
  have hN := hB.2.1
  have hR := hB.2.2.1
  unfold tk_X0_growTree at T; have E : (fn_X0_growTree_7 2000 (nI 0) (z_set h 1 3 (nI 0))) = fn_X0_growTree  h := rfl
  generalize fn_X0_growTree  h = RR at E ⊢
  have P59 : ∀ (k31 : Int32 → z_H → z_R) (K31 : Int32 → z_H → Prop) (hk31 : ∀ (a1 : Int32) (h : z_H), K31 a1 h → k31 a1 h = RR → z_G p l e R s m args below meth c D dA ad 3 (z_PV RR) (z_c ext) 31 [some (.ref 1), some (.int a1), none] [] h), ∀ (k39 : Int32 → Int32 → z_H → z_R) (K39 : Int32 → Int32 → z_H → Prop) (hk39 : ∀ (a1 : Int32) (a2 : Int32) (h : z_H), K39 a1 a2 h → k39 a1 a2 h = RR → z_G p l e R s m args below meth c D dA ad 3 (z_PV RR) (z_c ext) 39 [some (.ref 1), some (.int a1), some (.int a2)] [] h), ∀ (a1 : Int32) (a2 : Int32) (h : z_H), tk_X0_growTree_59 K31 K39 a1 a2 h → fn_X0_growTree_59 k31 k39 a1 a2 h = RR → z_G p l e R s m args below meth c D dA ad 3 (z_PV RR) (z_c ext) 59 [some (.ref 1), some (.int a1), some (.int a2)] [] h := by
    intro k31 K31 hk31 k39 K39 hk39 a1 a2 h T E
    unfold tk_X0_growTree_59 at T; unfold fn_X0_growTree_59 at E
    refine z_go hC (pc' := 62) (ls' := [some (.ref 1), some (.int a1), some (.int (a2 + (nI 1)))]) (st' := []) (h' := h) (cs := []) [.iinc 2 1] (by decide +kernel) rfl rfl trivial ?_
    refine z_goto hC (off := -23) 39 (by decide +kernel) (by decide) ?_
    exact hk39 a1 (a2 + (nI 1)) h T E
  have P39 : ∀ (k31 : Int32 → z_H → z_R) (K31 : Int32 → z_H → Prop) (hk31 : ∀ (a1 : Int32) (h : z_H), K31 a1 h → k31 a1 h = RR → z_G p l e R s m args below meth c D dA ad 3 (z_PV RR) (z_c ext) 31 [some (.ref 1), some (.int a1), none] [] h), ∀ (n : Nat), ∀ (a1 : Int32) (a2 : Int32) (h : z_H), tk_X0_growTree_39 K31 n a1 a2 h → fn_X0_growTree_39 k31 n a1 a2 h = RR → z_G p l e R s m args below meth c D dA ad 3 (z_PV RR) (z_c ext) 39 [some (.ref 1), some (.int a1), some (.int a2)] [] h := by
    intro k31 K31 hk31 n
    induction n with
    | zero => intro a1 a2 h T E; exact False.elim T
    | succ n ih =>
      intro a1 a2 h T E
      unfold tk_X0_growTree_39 at T; unfold fn_X0_growTree_39 at E; dsimp only at T E
      have hk39 := ih
      refine z_go hC (pc' := 42) (ls' := [some (.ref 1), some (.int a1), some (.int a2)]) (st' := [.int (nI 12), .int a2]) (h' := h) (cs := []) [.iload_n 2, .bipush 12] (by decide +kernel) rfl rfl trivial ?_
      refine z_icmp_ge hC (off := 23) 65 (by decide +kernel) (by decide) (fun c1 => ?_) (fun c1 => ?_)
      · skip
        have E := (if_pos c1).symm.trans E
        have T := T.1 c1
        refine z_go hC (pc' := 68) (ls' := [some (.ref 1), some (.int (a1 + (nI 1))), some (.int a2)]) (st' := []) (h' := h) (cs := []) [.iinc 1 1] (by decide +kernel) rfl rfl trivial ?_
        refine z_goto hC (off := -37) 31 (by decide +kernel) (by decide) ?_
        refine z_less (ls' := [some (.ref 1), some (.int (a1 + (nI 1))), none]) (by simp [z_sub]) ?_
        exact hk31 (a1 + (nI 1)) h T E
      · skip
        have E := (if_neg c1).symm.trans E
        have T := T.2 c1
        refine z_go hC (pc' := 47) (ls' := [some (.ref 1), some (.int a1), some (.int a2)]) (st' := [.int a2, .ref 1]) (h' := h) (cs := []) [.aload_n 0, .iload_n 2] (by decide +kernel) rfl rfl trivial ?_
        refine z_callV hC hN hR (as := [.int a2]) (rest := []) ok_X0_51 (by decide +kernel) (sp_X0_weightOf l _ h a2) rfl rfl (Nat.le_of_ble_eq_true rfl) rfl rfl (Nat.le_of_ble_eq_true rfl) ⟨Nat.zero_le _, Nat.zero_le _⟩ (fun r2 h3 q4 => z_fun q4 ?_)
        refine z_go hC (pc' := 51) (ls' := [some (.ref 1), some (.int a1), some (.int a2)]) (st' := [.int a1, .int (z_atv h 2 12 a2)]) (h' := h) (cs := []) [.iload_n 1] (by decide +kernel) rfl rfl trivial ?_
        refine z_icmp_ne hC (off := 8) 59 (by decide +kernel) (by decide) (fun c5 => ?_) (fun c5 => ?_)
        · skip
          have E := (if_neg c5).symm.trans E
          have T := T.2 c5
          exact P59 _ _ hk31 _ _ hk39 a1 a2 h T E
        · skip
          have E := (if_pos c5).symm.trans E
          have T := T.1 c5
          refine z_go hC (pc' := 56) (ls' := [some (.ref 1), some (.int a1), some (.int a2)]) (st' := [.int a2, .ref 1]) (h' := h) (cs := []) [.aload_n 0, .iload_n 2] (by decide +kernel) rfl rfl trivial ?_
          obtain ⟨t9, T⟩ := T
          refine z_callV hC hN hR (as := [.int a2]) (rest := []) ok_X0_54 (by decide +kernel) (sp_X0_joinBy l _ h a2 t9) rfl rfl (Nat.le_of_ble_eq_true rfl) rfl rfl (Nat.le_of_ble_eq_true rfl) ⟨Nat.zero_le _, Nat.zero_le _⟩ (fun r6 h7 q8 => z_fun q8 ?_)
          exact P59 _ _ hk31 _ _ hk39 a1 a2 ((fn_X0_joinBy a2 h).2) T E
  have P31 : ∀ (n : Nat), ∀ (a1 : Int32) (h : z_H), tk_X0_growTree_31  n a1 h → fn_X0_growTree_31  n a1 h = RR → z_G p l e R s m args below meth c D dA ad 3 (z_PV RR) (z_c ext) 31 [some (.ref 1), some (.int a1), none] [] h := by
    intro  n
    induction n with
    | zero => intro a1 h T E; exact False.elim T
    | succ n ih =>
      intro a1 h T E
      unfold tk_X0_growTree_31 at T; unfold fn_X0_growTree_31 at E; dsimp only at T E
      have hk31 := ih
      refine z_go hC (pc' := 34) (ls' := [some (.ref 1), some (.int a1), none]) (st' := [.int (nI 9), .int a1]) (h' := h) (cs := []) [.iload_n 1, .bipush 9] (by decide +kernel) rfl rfl trivial ?_
      refine z_icmp_gt hC (off := 37) 71 (by decide +kernel) (by decide) (fun c10 => ?_) (fun c10 => ?_)
      · skip
        have E := (if_pos c10).symm.trans E
        have T := T.1 c10
        exact z_ret_v hB rfl (by decide +kernel) (z_lfv E)
      · skip
        have E := (if_neg c10).symm.trans E
        have T := T.2 c10
        refine z_go hC (pc' := 39) (ls' := [some (.ref 1), some (.int a1), some (.int (nI 0))]) (st' := []) (h' := h) (cs := []) [.iconst 0, .istore_n 2] (by decide +kernel) rfl rfl trivial ?_
        exact P39 _ _ hk31 2000 a1 (nI 0) h T E
  have P7 : ∀ (n : Nat), ∀ (a1 : Int32) (h : z_H), tk_X0_growTree_7  n a1 h → fn_X0_growTree_7  n a1 h = RR → z_G p l e R s m args below meth c D dA ad 3 (z_PV RR) (z_c ext) 7 [some (.ref 1), some (.int a1), none] [] h := by
    intro  n
    induction n with
    | zero => intro a1 h T E; exact False.elim T
    | succ n ih =>
      intro a1 h T E
      unfold tk_X0_growTree_7 at T; unfold fn_X0_growTree_7 at E; dsimp only at T E
      have hk7 := ih
      refine z_go hC (pc' := 13) (ls' := [some (.ref 1), some (.int a1), none]) (st' := [.int (nI 9), .int a1]) (h' := h) (cs := []) [.iload_n 1, .aload_n 0, .getfield 15, .arraylength] (by decide +kernel) rfl rfl trivial ?_
      refine z_icmp_ge hC (off := 16) 29 (by decide +kernel) (by decide) (fun c11 => ?_) (fun c11 => ?_)
      · skip
        have E := (if_pos c11).symm.trans E
        have T := T.1 c11
        refine z_go hC (pc' := 31) (ls' := [some (.ref 1), some (.int (nI 0)), none]) (st' := []) (h' := h) (cs := []) [.iconst 0, .istore_n 1] (by decide +kernel) rfl rfl trivial ?_
        exact P31 2000 (nI 0) h T E
      · skip
        have E := (if_neg c11).symm.trans E
        have T := T.2 c11
        obtain ⟨t12, T⟩ := T
        refine z_go hC (pc' := 26) (ls' := [some (.ref 1), some (.int (a1 + (nI 1))), none]) (st' := []) (h' := z_set h 3 a1.toNatClampNeg a1) (cs := [vp_in a1 9]) [.aload_n 0, .getfield 15, .iload_n 1, .iload_n 1, .iastore, .iinc 1 1] (by decide +kernel) rfl rfl t12 ?_
        refine z_goto hC (off := -19) 7 (by decide +kernel) (by decide) ?_
        exact hk7 (a1 + (nI 1)) (z_set h 3 a1.toNatClampNeg a1) T E
  refine z_go hC (pc' := 7) (ls' := [some (.ref 1), some (.int (nI 0)), none]) (st' := []) (h' := z_set h 1 3 (nI 0)) (cs := []) [.aload_n 0, .iconst 0, .putfield 34, .iconst 0, .istore_n 1] (by decide +kernel) rfl rfl trivial ?_
  exact P7 2000 (nI 0) (z_set h 1 3 (nI 0)) T E

def fn_X0_isJoinedWhole_48 (h : z_H) (k4 : Int32 → Int32 → (Option Value)) (a1 : Int32) (a2 : Int32) : (Option Value) := k4 a1 (a2 + (nI 1))
def tk_X0_isJoinedWhole_48 (h : z_H) (K4 : Int32 → Int32 → Prop) (a1 : Int32) (a2 : Int32) : Prop := K4 a1 (a2 + (nI 1))
def fn_X0_isJoinedWhole_41 (h : z_H) (k4 : Int32 → Int32 → (Option Value)) (a2 : Int32) : (Option Value) := fn_X0_isJoinedWhole_48 h k4 (h.1 3 a2.toNatClampNeg) a2
def tk_X0_isJoinedWhole_41 (h : z_H) (K4 : Int32 → Int32 → Prop) (a2 : Int32) : Prop := vp_in a2 9 ∧ (tk_X0_isJoinedWhole_48 h K4 (h.1 3 a2.toNatClampNeg) a2)
def fn_X0_isJoinedWhole_4 (h : z_H)  : Nat → Int32 → Int32 → (Option Value)
  | 0, _, _ => none
  | n + 1, a1, a2 => let k4 := fun (a1_ : Int32) (a2_ : Int32) => fn_X0_isJoinedWhole_4 h  n a1_ a2_; if (nI 9) ≤ a2 then if a1 = (-1) then some (.int (nI 0)) else some (.int (nI 1)) else if (fv_X0_hasWallOn h a2) = 0 then if a1 = (-1) then fn_X0_isJoinedWhole_41 h k4 a2 else if a1 = (h.1 3 a2.toNatClampNeg) then fn_X0_isJoinedWhole_41 h k4 a2 else some (.int (nI 0)) else fn_X0_isJoinedWhole_48 h k4 a1 a2
def tk_X0_isJoinedWhole_4 (h : z_H)  : Nat → Int32 → Int32 → Prop
  | 0, _, _ => False
  | n + 1, a1, a2 => let K4 := fun (a1_ : Int32) (a2_ : Int32) => tk_X0_isJoinedWhole_4 h  n a1_ a2_; (((nI 9) ≤ a2) → (True)) ∧ ((¬ (nI 9) ≤ a2) → ((((fv_X0_hasWallOn h a2) = 0) → (((a1 = (-1)) → (tk_X0_isJoinedWhole_41 h K4 a2)) ∧ ((¬ a1 = (-1)) → (vp_in a2 9 ∧ (((a1 = (h.1 3 a2.toNatClampNeg)) → (tk_X0_isJoinedWhole_41 h K4 a2)) ∧ ((¬ a1 = (h.1 3 a2.toNatClampNeg)) → (True))))))) ∧ ((¬ (fv_X0_hasWallOn h a2) = 0) → (tk_X0_isJoinedWhole_48 h K4 a1 a2))))
def fn_X0_isJoinedWhole  (h : z_H) : (Option Value) := fn_X0_isJoinedWhole_4 h 2000 (-1) (nI 0)
def tk_X0_isJoinedWhole  (h : z_H) : Prop := tk_X0_isJoinedWhole_4 h 2000 (-1) (nI 0)
set_option maxHeartbeats 4000000 in
set_option maxRecDepth 100000 in
theorem sp_X0_isJoinedWhole (l : Launch) (ext : z_Sh)  (h : z_H)   (T : tk_X0_isJoinedWhole  h) : z_Sp l 1 yX0_isJoinedWhole cX0_isJoinedWhole 3 (some .boolean) [.ref 1] (z_c ext) h (z_QB h (fn_X0_isJoinedWhole  h)) := by
  refine z_enter ft_X0 (by decide +kernel) fo_X0 (Nat.le_of_ble_eq_true rfl) ?_
  intro p e R s m args below meth c D dA ad hB
  have hC := hB.1
  have hN := hB.2.1
  have hR := hB.2.2.1
  unfold tk_X0_isJoinedWhole at T; have E : (fn_X0_isJoinedWhole_4 h 2000 (-1) (nI 0)) = fn_X0_isJoinedWhole  h := rfl
  generalize fn_X0_isJoinedWhole  h = RR at E ⊢
  have P48 : ∀ (k4 : Int32 → Int32 → (Option Value)) (K4 : Int32 → Int32 → Prop) (hk4 : ∀ (a1 : Int32) (a2 : Int32), K4 a1 a2 → k4 a1 a2 = RR → z_G p l e R s m args below meth c D dA ad 3 (z_QB h RR) (z_c ext) 4 [some (.ref 1), some (.int a1), some (.int a2)] [] h), ∀ (a1 : Int32) (a2 : Int32), tk_X0_isJoinedWhole_48 h K4 a1 a2 → fn_X0_isJoinedWhole_48 h k4 a1 a2 = RR → z_G p l e R s m args below meth c D dA ad 3 (z_QB h RR) (z_c ext) 48 [some (.ref 1), some (.int a1), some (.int a2)] [] h := by
    intro k4 K4 hk4 a1 a2 T E
    unfold tk_X0_isJoinedWhole_48 at T; unfold fn_X0_isJoinedWhole_48 at E
    refine z_go hC (pc' := 51) (ls' := [some (.ref 1), some (.int a1), some (.int (a2 + (nI 1)))]) (st' := []) (h' := h) (cs := []) [.iinc 2 1] (by decide +kernel) rfl rfl trivial ?_
    refine z_goto hC (off := -47) 4 (by decide +kernel) (by decide) ?_
    exact hk4 a1 (a2 + (nI 1)) T E
  have P41 : ∀ (k4 : Int32 → Int32 → (Option Value)) (K4 : Int32 → Int32 → Prop) (hk4 : ∀ (a1 : Int32) (a2 : Int32), K4 a1 a2 → k4 a1 a2 = RR → z_G p l e R s m args below meth c D dA ad 3 (z_QB h RR) (z_c ext) 4 [some (.ref 1), some (.int a1), some (.int a2)] [] h), ∀ (a2 : Int32), tk_X0_isJoinedWhole_41 h K4 a2 → fn_X0_isJoinedWhole_41 h k4 a2 = RR → z_G p l e R s m args below meth c D dA ad 3 (z_QB h RR) (z_c ext) 41 [some (.ref 1), none, some (.int a2)] [] h := by
    intro k4 K4 hk4 a2 T E
    unfold tk_X0_isJoinedWhole_41 at T; unfold fn_X0_isJoinedWhole_41 at E
    obtain ⟨t1, T⟩ := T
    refine z_go hC (pc' := 48) (ls' := [some (.ref 1), some (.int (h.1 3 a2.toNatClampNeg)), some (.int a2)]) (st' := []) (h' := h) (cs := [vp_in a2 9]) [.aload_n 0, .getfield 15, .iload_n 2, .iaload, .istore_n 1] (by decide +kernel) rfl rfl t1 ?_
    exact P48 _ _ hk4 (h.1 3 a2.toNatClampNeg) a2 T E
  have P4 : ∀ (n : Nat), ∀ (a1 : Int32) (a2 : Int32), tk_X0_isJoinedWhole_4 h  n a1 a2 → fn_X0_isJoinedWhole_4 h  n a1 a2 = RR → z_G p l e R s m args below meth c D dA ad 3 (z_QB h RR) (z_c ext) 4 [some (.ref 1), some (.int a1), some (.int a2)] [] h := by
    intro  n
    induction n with
    | zero => intro a1 a2 T E; exact False.elim T
    | succ n ih =>
      intro a1 a2 T E
      unfold tk_X0_isJoinedWhole_4 at T; unfold fn_X0_isJoinedWhole_4 at E; dsimp only at T E
      have hk4 := ih
      refine z_go hC (pc' := 10) (ls' := [some (.ref 1), some (.int a1), some (.int a2)]) (st' := [.int (nI 9), .int a2]) (h' := h) (cs := []) [.iload_n 2, .aload_n 0, .getfield 15, .arraylength] (by decide +kernel) rfl rfl trivial ?_
      refine z_icmp_ge hC (off := 44) 54 (by decide +kernel) (by decide) (fun c2 => ?_) (fun c2 => ?_)
      · skip
        have E := (if_pos c2).symm.trans E
        have T := T.1 c2
        refine z_go hC (pc' := 56) (ls' := [some (.ref 1), some (.int a1), some (.int a2)]) (st' := [.int (-1), .int a1]) (h' := h) (cs := []) [.iload_n 1, .iconst (-1)] (by decide +kernel) rfl rfl trivial ?_
        refine z_icmp_eq hC (off := 7) 63 (by decide +kernel) (by decide) (fun c3 => ?_) (fun c3 => ?_)
        · skip
          have E := (if_pos c3).symm.trans E
          refine z_go hC (pc' := 64) (ls' := [some (.ref 1), some (.int a1), some (.int a2)]) (st' := [.int (nI 0)]) (h' := h) (cs := []) [.iconst 0] (by decide +kernel) rfl rfl trivial ?_
          exact z_ret_z hB rfl (show (nI 0 = 0 ∨ nI 0 = 1) by decide) (by decide +kernel) (z_lfb0 (show (nI 0 = 0 ∨ nI 0 = 1) by decide) E)
        · skip
          have E := (if_neg c3).symm.trans E
          refine z_go hC (pc' := 60) (ls' := [some (.ref 1), some (.int a1), some (.int a2)]) (st' := [.int (nI 1)]) (h' := h) (cs := []) [.iconst 1] (by decide +kernel) rfl rfl trivial ?_
          refine z_goto hC (off := 4) 64 (by decide +kernel) (by decide) ?_
          exact z_ret_z hB rfl (show (nI 1 = 0 ∨ nI 1 = 1) by decide) (by decide +kernel) (z_lfb0 (show (nI 1 = 0 ∨ nI 1 = 1) by decide) E)
      · skip
        have E := (if_neg c2).symm.trans E
        have T := T.2 c2
        refine z_go hC (pc' := 15) (ls' := [some (.ref 1), some (.int a1), some (.int a2)]) (st' := [.int a2, .ref 1]) (h' := h) (cs := []) [.aload_n 0, .iload_n 2] (by decide +kernel) rfl rfl trivial ?_
        refine z_callV hC hN hR (as := [.int a2]) (rest := []) ok_X0_44 (by decide +kernel) (sp_X0_hasWallOn l _ h a2) rfl rfl (Nat.le_of_ble_eq_true rfl) rfl rfl (Nat.le_of_ble_eq_true rfl) ⟨Nat.zero_le _, Nat.zero_le _⟩ (fun r4 h5 q6 => z_fun q6 ?_)
        refine z_if_eq hC (off := 6) 24 (by decide +kernel) (by decide) (fun c7 => ?_) (fun c7 => ?_)
        · skip
          have E := (if_pos c7).symm.trans E
          have T := T.1 c7
          refine z_go hC (pc' := 26) (ls' := [some (.ref 1), some (.int a1), some (.int a2)]) (st' := [.int (-1), .int a1]) (h' := h) (cs := []) [.iload_n 1, .iconst (-1)] (by decide +kernel) rfl rfl trivial ?_
          refine z_icmp_eq hC (off := 15) 41 (by decide +kernel) (by decide) (fun c8 => ?_) (fun c8 => ?_)
          · skip
            have E := (if_pos c8).symm.trans E
            have T := T.1 c8
            refine z_less (ls' := [some (.ref 1), none, some (.int a2)]) (by simp [z_sub]) ?_
            exact P41 _ _ hk4 a2 T E
          · skip
            have E := (if_neg c8).symm.trans E
            have T := T.2 c8
            obtain ⟨t9, T⟩ := T
            refine z_go hC (pc' := 36) (ls' := [some (.ref 1), some (.int a1), some (.int a2)]) (st' := [.int (h.1 3 a2.toNatClampNeg), .int a1]) (h' := h) (cs := [vp_in a2 9]) [.iload_n 1, .aload_n 0, .getfield 15, .iload_n 2, .iaload] (by decide +kernel) rfl rfl t9 ?_
            refine z_icmp_eq hC (off := 5) 41 (by decide +kernel) (by decide) (fun c10 => ?_) (fun c10 => ?_)
            · skip
              have E := (if_pos c10).symm.trans E
              have T := T.1 c10
              refine z_less (ls' := [some (.ref 1), none, some (.int a2)]) (by simp [z_sub]) ?_
              exact P41 _ _ hk4 a2 T E
            · skip
              have E := (if_neg c10).symm.trans E
              have T := T.2 c10
              refine z_go hC (pc' := 40) (ls' := [some (.ref 1), some (.int a1), some (.int a2)]) (st' := [.int (nI 0)]) (h' := h) (cs := []) [.iconst 0] (by decide +kernel) rfl rfl trivial ?_
              exact z_ret_z hB rfl (show (nI 0 = 0 ∨ nI 0 = 1) by decide) (by decide +kernel) (z_lfb0 (show (nI 0 = 0 ∨ nI 0 = 1) by decide) E)
        · skip
          have E := (if_neg c7).symm.trans E
          have T := T.2 c7
          refine z_goto hC (off := 27) 48 (by decide +kernel) (by decide) ?_
          exact P48 _ _ hk4 a1 a2 T E
  refine z_go hC (pc' := 4) (ls' := [some (.ref 1), some (.int (-1)), some (.int (nI 0))]) (st' := []) (h' := h) (cs := []) [.iconst (-1), .istore_n 1, .iconst 0, .istore_n 2] (by decide +kernel) rfl rfl trivial ?_
  exact P4 2000 (-1) (nI 0) T E

def fn_X0_lowestOpenCell_2 (h : z_H)  : Nat → Int32 → (Option Value)
  | 0, _ => none
  | n + 1, a1 => let k2 := fun (a1_ : Int32) => fn_X0_lowestOpenCell_2 h  n a1_; if (nI 9) ≤ a1 then some (.int (-1)) else if (fv_X0_hasWallOn h a1) = 0 then some (.int (fv_X0_upperLeftOf a1)) else k2 (a1 + (nI 1))
def tk_X0_lowestOpenCell_2 (h : z_H)  : Nat → Int32 → Prop
  | 0, _ => False
  | n + 1, a1 => let K2 := fun (a1_ : Int32) => tk_X0_lowestOpenCell_2 h  n a1_; (((nI 9) ≤ a1) → (True)) ∧ ((¬ (nI 9) ≤ a1) → ((((fv_X0_hasWallOn h a1) = 0) → (True)) ∧ ((¬ (fv_X0_hasWallOn h a1) = 0) → (K2 (a1 + (nI 1))))))
def fn_X0_lowestOpenCell  (h : z_H) : (Option Value) := fn_X0_lowestOpenCell_2 h 2000 (nI 0)
def tk_X0_lowestOpenCell  (h : z_H) : Prop := tk_X0_lowestOpenCell_2 h 2000 (nI 0)
set_option maxHeartbeats 4000000 in
set_option maxRecDepth 100000 in
theorem sp_X0_lowestOpenCell (l : Launch) (ext : z_Sh)  (h : z_H)   (T : tk_X0_lowestOpenCell  h) : z_Sp l 1 yX0_lowestOpenCell cX0_lowestOpenCell 2 (some .int) [.ref 1] (z_c ext) h (z_QI h (fn_X0_lowestOpenCell  h)) := by
  refine z_enter ft_X0 (by decide +kernel) fo_X0 (Nat.le_of_ble_eq_true rfl) ?_
  intro p e R s m args below meth c D dA ad hB
  have hC := hB.1
  have hN := hB.2.1
  have hR := hB.2.2.1
  unfold tk_X0_lowestOpenCell at T; have E : (fn_X0_lowestOpenCell_2 h 2000 (nI 0)) = fn_X0_lowestOpenCell  h := rfl
  generalize fn_X0_lowestOpenCell  h = RR at E ⊢
  have P2 : ∀ (n : Nat), ∀ (a1 : Int32), tk_X0_lowestOpenCell_2 h  n a1 → fn_X0_lowestOpenCell_2 h  n a1 = RR → z_G p l e R s m args below meth c D dA ad 2 (z_QI h RR) (z_c ext) 2 [some (.ref 1), some (.int a1)] [] h := by
    intro  n
    induction n with
    | zero => intro a1 T E; exact False.elim T
    | succ n ih =>
      intro a1 T E
      unfold tk_X0_lowestOpenCell_2 at T; unfold fn_X0_lowestOpenCell_2 at E; dsimp only at T E
      have hk2 := ih
      refine z_go hC (pc' := 5) (ls' := [some (.ref 1), some (.int a1)]) (st' := [.int (nI 9), .int a1]) (h' := h) (cs := []) [.iload_n 1, .bipush 9] (by decide +kernel) rfl rfl trivial ?_
      refine z_icmp_ge hC (off := 22) 27 (by decide +kernel) (by decide) (fun c1 => ?_) (fun c1 => ?_)
      · skip
        have E := (if_pos c1).symm.trans E
        have T := T.1 c1
        refine z_go hC (pc' := 28) (ls' := [some (.ref 1), some (.int a1)]) (st' := [.int (-1)]) (h' := h) (cs := []) [.iconst (-1)] (by decide +kernel) rfl rfl trivial ?_
        exact z_ret_i hB rfl (by decide +kernel) (z_lfi0 E)
      · skip
        have E := (if_neg c1).symm.trans E
        have T := T.2 c1
        refine z_go hC (pc' := 10) (ls' := [some (.ref 1), some (.int a1)]) (st' := [.int a1, .ref 1]) (h' := h) (cs := []) [.aload_n 0, .iload_n 1] (by decide +kernel) rfl rfl trivial ?_
        refine z_callV hC hN hR (as := [.int a1]) (rest := []) ok_X0_44 (by decide +kernel) (sp_X0_hasWallOn l _ h a1) rfl rfl (Nat.le_of_ble_eq_true rfl) rfl rfl (Nat.le_of_ble_eq_true rfl) ⟨Nat.zero_le _, Nat.zero_le _⟩ (fun r2 h3 q4 => z_fun q4 ?_)
        refine z_if_ne hC (off := 8) 21 (by decide +kernel) (by decide) (fun c5 => ?_) (fun c5 => ?_)
        · skip
          have E := (if_neg c5).symm.trans E
          have T := T.2 c5
          refine z_go hC (pc' := 24) (ls' := [some (.ref 1), some (.int (a1 + (nI 1)))]) (st' := []) (h' := h) (cs := []) [.iinc 1 1] (by decide +kernel) rfl rfl trivial ?_
          refine z_goto hC (off := -22) 2 (by decide +kernel) (by decide) ?_
          exact hk2 (a1 + (nI 1)) T E
        · skip
          have E := (if_pos c5).symm.trans E
          have T := T.1 c5
          refine z_go hC (pc' := 17) (ls' := [some (.ref 1), some (.int a1)]) (st' := [.int a1]) (h' := h) (cs := []) [.iload_n 1] (by decide +kernel) rfl rfl trivial ?_
          refine z_callS hC hN hR (as := [.int a1]) (rest := []) ok_X0_66 (by decide +kernel) (sp_X0_upperLeftOf l _ h a1) (Nat.le_of_ble_eq_true rfl) rfl rfl (Nat.le_of_ble_eq_true rfl) ⟨Nat.zero_le _, Nat.zero_le _⟩ (fun r6 h7 q8 => z_fun q8 ?_)
          exact z_ret_i hB rfl (by decide +kernel) (z_lfi0 E)
  refine z_go hC (pc' := 2) (ls' := [some (.ref 1), some (.int (nI 0))]) (st' := []) (h' := h) (cs := []) [.iconst 0, .istore_n 1] (by decide +kernel) rfl rfl trivial ?_
  exact P2 2000 (nI 0) T E

def fn_X3_hasOneIn_2 (h : z_H)  : Nat → Int32 → Int32 → (Option Value)
  | 0, _, _ => none
  | n + 1, a1, a2 => let k2 := fun (a1_ : Int32) (a2_ : Int32) => fn_X3_hasOneIn_2 h  n a1_ a2_; if (h.1 8 2) ≤ a2 then some (.int (nI 0)) else if (fv_X0_blockOf (h.1 9 ((((h.1 8 1) + a2) &&& (nI 63)).toNatClampNeg))) = a1 then some (.int (nI 1)) else k2 a1 (a2 + (nI 1))
def tk_X3_hasOneIn_2 (h : z_H)  : Nat → Int32 → Int32 → Prop
  | 0, _, _ => False
  | n + 1, a1, a2 => let K2 := fun (a1_ : Int32) (a2_ : Int32) => tk_X3_hasOneIn_2 h  n a1_ a2_; (((h.1 8 2) ≤ a2) → (True)) ∧ ((¬ (h.1 8 2) ≤ a2) → ((((fv_X0_blockOf (h.1 9 ((((h.1 8 1) + a2) &&& (nI 63)).toNatClampNeg))) = a1) → (True)) ∧ ((¬ (fv_X0_blockOf (h.1 9 ((((h.1 8 1) + a2) &&& (nI 63)).toNatClampNeg))) = a1) → (K2 a1 (a2 + (nI 1))))))
def fn_X3_hasOneIn (x : Int32) (h : z_H) : (Option Value) := fn_X3_hasOneIn_2 h 2000 x (nI 0)
def tk_X3_hasOneIn (x : Int32) (h : z_H) : Prop := tk_X3_hasOneIn_2 h 2000 x (nI 0)
set_option maxHeartbeats 4000000 in
set_option maxRecDepth 100000 in
theorem sp_X3_hasOneIn (l : Launch) (ext : z_Sh)  (h : z_H) (x : Int32)  (T : tk_X3_hasOneIn x h) : z_Sp l 2 yX3_hasOneIn cX3_hasOneIn 3 (some .boolean) [.ref 8, .int x] (z_c ext) h (z_QB h (fn_X3_hasOneIn x h)) := by
  refine z_enter ft_X3 (by decide +kernel) fo_X3 (Nat.le_of_ble_eq_true rfl) ?_
  intro p e R s m args below meth c D dA ad hB
  have hC := hB.1
  have hN := hB.2.1
  have hR := hB.2.2.1
  unfold tk_X3_hasOneIn at T; have E : (fn_X3_hasOneIn_2 h 2000 x (nI 0)) = fn_X3_hasOneIn x h := rfl
  generalize fn_X3_hasOneIn x h = RR at E ⊢
  have P2 : ∀ (n : Nat), ∀ (a1 : Int32) (a2 : Int32), tk_X3_hasOneIn_2 h  n a1 a2 → fn_X3_hasOneIn_2 h  n a1 a2 = RR → z_G p l e R s m args below meth c D dA ad 3 (z_QB h RR) (z_c ext) 2 [some (.ref 8), some (.int a1), some (.int a2)] [] h := by
    intro  n
    induction n with
    | zero => intro a1 a2 T E; exact False.elim T
    | succ n ih =>
      intro a1 a2 T E
      unfold tk_X3_hasOneIn_2 at T; unfold fn_X3_hasOneIn_2 at E; dsimp only at T E
      have hk2 := ih
      refine z_go hC (pc' := 7) (ls' := [some (.ref 8), some (.int a1), some (.int a2)]) (st' := [.int (h.1 8 2), .int a2]) (h' := h) (cs := []) [.iload_n 2, .aload_n 0, .getfield 15] (by decide +kernel) rfl rfl trivial ?_
      refine z_icmp_ge hC (off := 23) 30 (by decide +kernel) (by decide) (fun c1 => ?_) (fun c1 => ?_)
      · skip
        have E := (if_pos c1).symm.trans E
        have T := T.1 c1
        refine z_go hC (pc' := 31) (ls' := [some (.ref 8), some (.int a1), some (.int a2)]) (st' := [.int (nI 0)]) (h' := h) (cs := []) [.iconst 0] (by decide +kernel) rfl rfl trivial ?_
        exact z_ret_z hB rfl (show (nI 0 = 0 ∨ nI 0 = 1) by decide) (by decide +kernel) (z_lfb0 (show (nI 0 = 0 ∨ nI 0 = 1) by decide) E)
      · skip
        have E := (if_neg c1).symm.trans E
        have T := T.2 c1
        refine z_go hC (pc' := 12) (ls' := [some (.ref 8), some (.int a1), some (.int a2)]) (st' := [.int a2, .ref 8]) (h' := h) (cs := []) [.aload_n 0, .iload_n 2] (by decide +kernel) rfl rfl trivial ?_
        refine z_callV hC hN hR (as := [.int a2]) (rest := []) ok_X3_26 (by decide +kernel) (sp_X3_cellAfter l _ h a2) rfl rfl (Nat.le_of_ble_eq_true rfl) rfl rfl (Nat.le_of_ble_eq_true rfl) ⟨Nat.zero_le _, Nat.zero_le _⟩ (fun r2 h3 q4 => z_fun q4 ?_)
        refine z_callS hC hN hR (as := [.int (h.1 9 ((((h.1 8 1) + a2) &&& (nI 63)).toNatClampNeg))]) (rest := []) ok_X3_30 (by decide +kernel) (sp_X0_blockOf l _ h (h.1 9 ((((h.1 8 1) + a2) &&& (nI 63)).toNatClampNeg))) (Nat.le_of_ble_eq_true rfl) rfl rfl (Nat.le_of_ble_eq_true rfl) ⟨Nat.zero_le _, Nat.zero_le _⟩ (fun r5 h6 q7 => z_fun q7 ?_)
        refine z_go hC (pc' := 19) (ls' := [some (.ref 8), some (.int a1), some (.int a2)]) (st' := [.int a1, .int (fv_X0_blockOf (h.1 9 ((((h.1 8 1) + a2) &&& (nI 63)).toNatClampNeg)))]) (h' := h) (cs := []) [.iload_n 1] (by decide +kernel) rfl rfl trivial ?_
        refine z_icmp_ne hC (off := 5) 24 (by decide +kernel) (by decide) (fun c8 => ?_) (fun c8 => ?_)
        · skip
          have E := (if_neg c8).symm.trans E
          have T := T.2 c8
          refine z_go hC (pc' := 27) (ls' := [some (.ref 8), some (.int a1), some (.int (a2 + (nI 1)))]) (st' := []) (h' := h) (cs := []) [.iinc 2 1] (by decide +kernel) rfl rfl trivial ?_
          refine z_goto hC (off := -25) 2 (by decide +kernel) (by decide) ?_
          exact hk2 a1 (a2 + (nI 1)) T E
        · skip
          have E := (if_pos c8).symm.trans E
          have T := T.1 c8
          refine z_go hC (pc' := 23) (ls' := [some (.ref 8), some (.int a1), some (.int a2)]) (st' := [.int (nI 1)]) (h' := h) (cs := []) [.iconst 1] (by decide +kernel) rfl rfl trivial ?_
          exact z_ret_z hB rfl (show (nI 1 = 0 ∨ nI 1 = 1) by decide) (by decide +kernel) (z_lfb0 (show (nI 1 = 0 ∨ nI 1 = 1) by decide) E)
  refine z_go hC (pc' := 2) (ls' := [some (.ref 8), some (.int x), some (.int (nI 0))]) (st' := []) (h' := h) (cs := []) [.iconst 0, .istore_n 2] (by decide +kernel) rfl rfl trivial ?_
  exact P2 2000 x (nI 0) T E

def fn_X2_layOut_66  : Nat → Int32 → Int32 → z_H → z_R
  | 0, _, _, h => (none, h)
  | n + 1, a1, a2, h => let k66 := fun (a1_ : Int32) (a2_ : Int32) (h_ : z_H) => fn_X2_layOut_66  n a1_ a2_ h_; if (h.1 4 4) ≤ a2 then (none, h) else k66 (fv_X2_nextRoundTree (z_putv (z_putv h 5 36 a2 a1) 6 36 a1 a2) a1) (a2 + (nI 1)) (z_putv (z_putv h 5 36 a2 a1) 6 36 a1 a2)
def tk_X2_layOut_66  : Nat → Int32 → Int32 → z_H → Prop
  | 0, _, _, _ => False
  | n + 1, a1, a2, h => let K66 := fun (a1_ : Int32) (a2_ : Int32) (h_ : z_H) => tk_X2_layOut_66  n a1_ a2_ h_; (((h.1 4 4) ≤ a2) → (True)) ∧ ((¬ (h.1 4 4) ≤ a2) → (K66 (fv_X2_nextRoundTree (z_putv (z_putv h 5 36 a2 a1) 6 36 a1 a2) a1) (a2 + (nI 1)) (z_putv (z_putv h 5 36 a2 a1) 6 36 a1 a2)))
def fn_X2_layOut_34  : Nat → Int32 → z_H → z_R
  | 0, _, h => (none, h)
  | n + 1, a1, h => let k34 := fun (a1_ : Int32) (h_ : z_H) => fn_X2_layOut_34  n a1_ h_; if (nI 36) ≤ a1 then fn_X2_layOut_66 2000 (z_vi0 (fn_X0_lowestOpenCell  h)) (nI 0) h else k34 (a1 + (nI 1)) (z_set h 6 a1.toNatClampNeg (-1))
def tk_X2_layOut_34  : Nat → Int32 → z_H → Prop
  | 0, _, _ => False
  | n + 1, a1, h => let K34 := fun (a1_ : Int32) (h_ : z_H) => tk_X2_layOut_34  n a1_ h_; (((nI 36) ≤ a1) → (tk_X0_lowestOpenCell  h ∧ (tk_X2_layOut_66 2000 (z_vi0 (fn_X0_lowestOpenCell  h)) (nI 0) h))) ∧ ((¬ (nI 36) ≤ a1) → (vp_in a1 36 ∧ (K34 (a1 + (nI 1)) (z_set h 6 a1.toNatClampNeg (-1)))))
def fn_X2_layOut_29  (s0 : Int32) (h : z_H) : z_R := fn_X2_layOut_34 2000 (nI 0) (z_set h 4 4 s0)
def tk_X2_layOut_29  (s0 : Int32) (h : z_H) : Prop := tk_X2_layOut_34 2000 (nI 0) (z_set h 4 4 s0)
def fn_X2_layOut  (h : z_H) : z_R := if (z_vi0 (fn_X0_isJoinedWhole  ((fn_X0_growTree  h).2))) = 0 then fn_X2_layOut_29 (nI 0) ((fn_X0_growTree  h).2) else fn_X2_layOut_29 ((nI 36) - ((nI 4) * (fv_J6_bitCount_0f7a4 (((fn_X0_growTree  h).2).1 1 2)))) ((fn_X0_growTree  h).2)
def tk_X2_layOut  (h : z_H) : Prop := tk_X0_growTree  h ∧ (tk_X0_isJoinedWhole  ((fn_X0_growTree  h).2) ∧ ((((z_vi0 (fn_X0_isJoinedWhole  ((fn_X0_growTree  h).2))) = 0) → (tk_X2_layOut_29 (nI 0) ((fn_X0_growTree  h).2))) ∧ ((¬ (z_vi0 (fn_X0_isJoinedWhole  ((fn_X0_growTree  h).2))) = 0) → (tk_X2_layOut_29 ((nI 36) - ((nI 4) * (fv_J6_bitCount_0f7a4 (((fn_X0_growTree  h).2).1 1 2)))) ((fn_X0_growTree  h).2)))))
set_option maxHeartbeats 4000000 in
set_option maxRecDepth 100000 in
theorem sp_X2_layOut (l : Launch) (ext : z_Sh)  (h : z_H)   (T : tk_X2_layOut  h) : z_Sp l 4 yX2_layOut cX2_layOut 3 none [.ref 4] (z_c ext) h (z_PV (fn_X2_layOut  h)) := by
  refine z_enter ft_X2 (by decide +kernel) fo_X2 (Nat.le_of_ble_eq_true rfl) ?_
  intro p e R s m args below meth c D dA ad hB
  have hC := hB.1
  have hN := hB.2.1
  have hR := hB.2.2.1
  unfold tk_X2_layOut at T; have E : (if (z_vi0 (fn_X0_isJoinedWhole  ((fn_X0_growTree  h).2))) = 0 then fn_X2_layOut_29 (nI 0) ((fn_X0_growTree  h).2) else fn_X2_layOut_29 ((nI 36) - ((nI 4) * (fv_J6_bitCount_0f7a4 (((fn_X0_growTree  h).2).1 1 2)))) ((fn_X0_growTree  h).2)) = fn_X2_layOut  h := rfl
  generalize fn_X2_layOut  h = RR at E ⊢
  have P66 : ∀ (n : Nat), ∀ (a1 : Int32) (a2 : Int32) (h : z_H), tk_X2_layOut_66  n a1 a2 h → fn_X2_layOut_66  n a1 a2 h = RR → z_G p l e R s m args below meth c D dA ad 3 (z_PV RR) (z_c ext) 66 [some (.ref 4), some (.int a1), some (.int a2)] [] h := by
    intro  n
    induction n with
    | zero => intro a1 a2 h T E; exact False.elim T
    | succ n ih =>
      intro a1 a2 h T E
      unfold tk_X2_layOut_66 at T; unfold fn_X2_layOut_66 at E; dsimp only at T E
      have hk66 := ih
      refine z_go hC (pc' := 71) (ls' := [some (.ref 4), some (.int a1), some (.int a2)]) (st' := [.int (h.1 4 4), .int a2]) (h' := h) (cs := []) [.iload_n 2, .aload_n 0, .getfield 25] (by decide +kernel) rfl rfl trivial ?_
      refine z_icmp_ge hC (off := 33) 104 (by decide +kernel) (by decide) (fun c1 => ?_) (fun c1 => ?_)
      · skip
        have E := (if_pos c1).symm.trans E
        have T := T.1 c1
        exact z_ret_v hB rfl (by decide +kernel) (z_lfv E)
      · skip
        have E := (if_neg c1).symm.trans E
        have T := T.2 c1
        refine z_go hC (pc' := 80) (ls' := [some (.ref 4), some (.int a1), some (.int a2)]) (st' := [.int a1, .int a2, .ref 5]) (h' := h) (cs := []) [.aload_n 0, .getfield 9, .iload_n 2, .iload_n 1] (by decide +kernel) rfl rfl trivial ?_
        refine z_callSN hC hN hR (as := [.ref 5, .int a2, .int a1]) (rest := []) ok_X2_49 (by decide +kernel) (sp_X7_put l _ h 5 36 [] a2 a1 rfl (by decide)) (Nat.le_of_ble_eq_true rfl) rfl rfl (Nat.le_of_ble_eq_true rfl) ⟨Nat.zero_le _, Nat.zero_le _⟩ (fun r2 h3 q4 => z_fun q4 ?_)
        refine z_go hC (pc' := 89) (ls' := [some (.ref 4), some (.int a1), some (.int a2)]) (st' := [.int a2, .int a1, .ref 6]) (h' := z_putv h 5 36 a2 a1) (cs := []) [.aload_n 0, .getfield 15, .iload_n 1, .iload_n 2] (by decide +kernel) rfl rfl trivial ?_
        refine z_callSN hC hN hR (as := [.ref 6, .int a1, .int a2]) (rest := []) ok_X2_49 (by decide +kernel) (sp_X7_put l _ (z_putv h 5 36 a2 a1) 6 36 [] a1 a2 rfl (by decide)) (Nat.le_of_ble_eq_true rfl) rfl rfl (Nat.le_of_ble_eq_true rfl) ⟨Nat.zero_le _, Nat.zero_le _⟩ (fun r5 h6 q7 => z_fun q7 ?_)
        refine z_go hC (pc' := 94) (ls' := [some (.ref 4), some (.int a1), some (.int a2)]) (st' := [.int a1, .ref 4]) (h' := z_putv (z_putv h 5 36 a2 a1) 6 36 a1 a2) (cs := []) [.aload_n 0, .iload_n 1] (by decide +kernel) rfl rfl trivial ?_
        refine z_callV hC hN hR (as := [.int a1]) (rest := []) ok_X2_53 (by decide +kernel) (sp_X2_nextRoundTree l _ (z_putv (z_putv h 5 36 a2 a1) 6 36 a1 a2) a1) rfl rfl (Nat.le_of_ble_eq_true rfl) rfl rfl (Nat.le_of_ble_eq_true rfl) ⟨Nat.zero_le _, Nat.zero_le _⟩ (fun r8 h9 q10 => z_fun q10 ?_)
        refine z_go hC (pc' := 101) (ls' := [some (.ref 4), some (.int (fv_X2_nextRoundTree (z_putv (z_putv h 5 36 a2 a1) 6 36 a1 a2) a1)), some (.int (a2 + (nI 1)))]) (st' := []) (h' := z_putv (z_putv h 5 36 a2 a1) 6 36 a1 a2) (cs := []) [.istore_n 1, .iinc 2 1] (by decide +kernel) rfl rfl trivial ?_
        refine z_goto hC (off := -35) 66 (by decide +kernel) (by decide) ?_
        exact hk66 (fv_X2_nextRoundTree (z_putv (z_putv h 5 36 a2 a1) 6 36 a1 a2) a1) (a2 + (nI 1)) (z_putv (z_putv h 5 36 a2 a1) 6 36 a1 a2) T E
  have P34 : ∀ (n : Nat), ∀ (a1 : Int32) (h : z_H), tk_X2_layOut_34  n a1 h → fn_X2_layOut_34  n a1 h = RR → z_G p l e R s m args below meth c D dA ad 3 (z_PV RR) (z_c ext) 34 [some (.ref 4), some (.int a1), none] [] h := by
    intro  n
    induction n with
    | zero => intro a1 h T E; exact False.elim T
    | succ n ih =>
      intro a1 h T E
      unfold tk_X2_layOut_34 at T; unfold fn_X2_layOut_34 at E; dsimp only at T E
      have hk34 := ih
      refine z_go hC (pc' := 40) (ls' := [some (.ref 4), some (.int a1), none]) (st' := [.int (nI 36), .int a1]) (h' := h) (cs := []) [.iload_n 1, .aload_n 0, .getfield 15, .arraylength] (by decide +kernel) rfl rfl trivial ?_
      refine z_icmp_ge hC (off := 16) 56 (by decide +kernel) (by decide) (fun c11 => ?_) (fun c11 => ?_)
      · skip
        have E := (if_pos c11).symm.trans E
        have T := T.1 c11
        refine z_go hC (pc' := 60) (ls' := [some (.ref 4), some (.int a1), none]) (st' := [.ref 1]) (h' := h) (cs := []) [.aload_n 0, .getfield 21] (by decide +kernel) rfl rfl trivial ?_
        obtain ⟨t15, T⟩ := T
        refine z_callV hC hN hR (as := []) (rest := []) ok_X2_46 (by decide +kernel) (sp_X0_lowestOpenCell l _ h  t15) rfl rfl (Nat.le_of_ble_eq_true rfl) rfl rfl (Nat.le_of_ble_eq_true rfl) ⟨Nat.zero_le _, Nat.zero_le _⟩ (fun r12 h13 q14 => z_fun q14 ?_)
        refine z_go hC (pc' := 66) (ls' := [some (.ref 4), some (.int (z_vi0 (fn_X0_lowestOpenCell  h))), some (.int (nI 0))]) (st' := []) (h' := h) (cs := []) [.istore_n 1, .iconst 0, .istore_n 2] (by decide +kernel) rfl rfl trivial ?_
        exact P66 2000 (z_vi0 (fn_X0_lowestOpenCell  h)) (nI 0) h T E
      · skip
        have E := (if_neg c11).symm.trans E
        have T := T.2 c11
        obtain ⟨t16, T⟩ := T
        refine z_go hC (pc' := 53) (ls' := [some (.ref 4), some (.int (a1 + (nI 1))), none]) (st' := []) (h' := z_set h 6 a1.toNatClampNeg (-1)) (cs := [vp_in a1 36]) [.aload_n 0, .getfield 15, .iload_n 1, .iconst (-1), .iastore, .iinc 1 1] (by decide +kernel) rfl rfl t16 ?_
        refine z_goto hC (off := -19) 34 (by decide +kernel) (by decide) ?_
        exact hk34 (a1 + (nI 1)) (z_set h 6 a1.toNatClampNeg (-1)) T E
  have P29 : ∀ (s0 : Int32) (h : z_H), tk_X2_layOut_29  s0 h → fn_X2_layOut_29  s0 h = RR → z_G p l e R s m args below meth c D dA ad 3 (z_PV RR) (z_c ext) 29 [some (.ref 4), none, none] [.int s0, .ref 4] h := by
    intro  s0 h T E
    unfold tk_X2_layOut_29 at T; unfold fn_X2_layOut_29 at E
    refine z_go hC (pc' := 34) (ls' := [some (.ref 4), some (.int (nI 0)), none]) (st' := []) (h' := z_set h 4 4 s0) (cs := []) [.putfield 25, .iconst 0, .istore_n 1] (by decide +kernel) rfl rfl trivial ?_
    exact P34 2000 (nI 0) (z_set h 4 4 s0) T E
  refine z_go hC (pc' := 4) (ls' := [some (.ref 4), none, none]) (st' := [.ref 1]) (h' := h) (cs := []) [.aload_n 0, .getfield 21] (by decide +kernel) rfl rfl trivial ?_
  obtain ⟨t20, T⟩ := T
  refine z_callV hC hN hR (as := []) (rest := []) ok_X2_33 (by decide +kernel) (sp_X0_growTree l _ h  t20) rfl rfl (Nat.le_of_ble_eq_true rfl) rfl rfl (Nat.le_of_ble_eq_true rfl) ⟨Nat.zero_le _, Nat.zero_le _⟩ (fun r17 h18 q19 => z_fun q19 ?_)
  refine z_go hC (pc' := 12) (ls' := [some (.ref 4), none, none]) (st' := [.ref 1, .ref 4]) (h' := (fn_X0_growTree  h).2) (cs := []) [.aload_n 0, .aload_n 0, .getfield 21] (by decide +kernel) rfl rfl trivial ?_
  obtain ⟨t24, T⟩ := T
  refine z_callV hC hN hR (as := []) (rest := [.ref 4]) ok_X2_38 (by decide +kernel) (sp_X0_isJoinedWhole l _ ((fn_X0_growTree  h).2)  t24) rfl rfl (Nat.le_of_ble_eq_true rfl) rfl rfl (Nat.le_of_ble_eq_true rfl) ⟨Nat.zero_le _, Nat.zero_le _⟩ (fun r21 h22 q23 => z_funb q23 (fun z25 => ?_))
  refine z_if_eq hC (off := 13) 28 (by decide +kernel) (by decide) (fun c26 => ?_) (fun c26 => ?_)
  · skip
    have E := (if_pos c26).symm.trans E
    have T := T.1 c26
    refine z_go hC (pc' := 29) (ls' := [some (.ref 4), none, none]) (st' := [.int (nI 0), .ref 4]) (h' := (fn_X0_growTree  h).2) (cs := []) [.iconst 0] (by decide +kernel) rfl rfl trivial ?_
    exact P29  (nI 0) ((fn_X0_growTree  h).2) T E
  · skip
    have E := (if_neg c26).symm.trans E
    have T := T.2 c26
    refine z_go hC (pc' := 22) (ls' := [some (.ref 4), none, none]) (st' := [.ref 1, .ref 4]) (h' := (fn_X0_growTree  h).2) (cs := []) [.aload_n 0, .getfield 21] (by decide +kernel) rfl rfl trivial ?_
    refine z_callV hC hN hR (as := []) (rest := [.ref 4]) ok_X2_42 (by decide +kernel) (sp_X0_countOpenCells l _ ((fn_X0_growTree  h).2) ) rfl rfl (Nat.le_of_ble_eq_true rfl) rfl rfl (Nat.le_of_ble_eq_true rfl) ⟨Nat.zero_le _, Nat.zero_le _⟩ (fun r27 h28 q29 => z_fun q29 ?_)
    refine z_goto hC (off := 4) 29 (by decide +kernel) (by decide) ?_
    exact P29  ((nI 36) - ((nI 4) * (fv_J6_bitCount_0f7a4 (((fn_X0_growTree  h).2).1 1 2)))) ((fn_X0_growTree  h).2) T E

def fn_X2_cellByRings_27 (k2 : Int32 → Int32 → z_H → z_R) (a1 : Int32) (a2 : Int32) (h : z_H) : z_R := k2 a1 (a2 + (nI 1)) h
def tk_X2_cellByRings_27 (K2 : Int32 → Int32 → z_H → Prop) (a1 : Int32) (a2 : Int32) (h : z_H) : Prop := K2 a1 (a2 + (nI 1)) h
def fn_X2_cellByRings_57 (k35 : Int32 → Int32 → z_H → z_R) (a1 : Int32) (a2 : Int32) (h : z_H) : z_R := k35 a1 (a2 + (nI 1)) h
def tk_X2_cellByRings_57 (K35 : Int32 → Int32 → z_H → Prop) (a1 : Int32) (a2 : Int32) (h : z_H) : Prop := K35 a1 (a2 + (nI 1)) h
def fn_X2_cellByRings_73  : Nat → Int32 → Int32 → Int32 → z_H → z_R
  | 0, _, _, _, h => (none, h)
  | n + 1, a1, a2, a3, h => let k73 := fun (a1_ : Int32) (a2_ : Int32) (a3_ : Int32) (h_ : z_H) => fn_X2_cellByRings_73  n a1_ a2_ a3_ h_; if a1 ≤ a3 then (some (.int a2), h) else k73 a1 (z_atv h 7 36 a2) (a3 + (nI 1)) h
def tk_X2_cellByRings_73  : Nat → Int32 → Int32 → Int32 → z_H → Prop
  | 0, _, _, _, _ => False
  | n + 1, a1, a2, a3, h => let K73 := fun (a1_ : Int32) (a2_ : Int32) (a3_ : Int32) (h_ : z_H) => tk_X2_cellByRings_73  n a1_ a2_ a3_ h_; ((a1 ≤ a3) → (True)) ∧ ((¬ a1 ≤ a3) → (K73 a1 (z_atv h 7 36 a2) (a3 + (nI 1)) h))
def fn_X2_cellByRings_35  : Nat → Int32 → Int32 → z_H → z_R
  | 0, _, _, h => (none, h)
  | n + 1, a1, a2, h => let k35 := fun (a1_ : Int32) (a2_ : Int32) (h_ : z_H) => fn_X2_cellByRings_35  n a1_ a2_ h_; if (nI 12) ≤ a2 then fn_X2_cellByRings_73 2000 a1 (z_vi0 (fn_X0_lowestOpenCell  h)) (nI 0) h else if (fv_X0_treeHas h a2) = 0 then fn_X2_cellByRings_57 k35 a1 a2 h else fn_X2_cellByRings_57 k35 a1 a2 (fh_X2_makeOneOfTwo h a2)
def tk_X2_cellByRings_35  : Nat → Int32 → Int32 → z_H → Prop
  | 0, _, _, _ => False
  | n + 1, a1, a2, h => let K35 := fun (a1_ : Int32) (a2_ : Int32) (h_ : z_H) => tk_X2_cellByRings_35  n a1_ a2_ h_; (((nI 12) ≤ a2) → (tk_X0_lowestOpenCell  h ∧ (tk_X2_cellByRings_73 2000 a1 (z_vi0 (fn_X0_lowestOpenCell  h)) (nI 0) h))) ∧ ((¬ (nI 12) ≤ a2) → ((((fv_X0_treeHas h a2) = 0) → (tk_X2_cellByRings_57 K35 a1 a2 h)) ∧ ((¬ (fv_X0_treeHas h a2) = 0) → (tk_X2_cellByRings_57 K35 a1 a2 (fh_X2_makeOneOfTwo h a2)))))
def fn_X2_cellByRings_2  : Nat → Int32 → Int32 → z_H → z_R
  | 0, _, _, h => (none, h)
  | n + 1, a1, a2, h => let k2 := fun (a1_ : Int32) (a2_ : Int32) (h_ : z_H) => fn_X2_cellByRings_2  n a1_ a2_ h_; if (nI 9) ≤ a2 then fn_X2_cellByRings_35 2000 a1 (nI 0) h else if (fv_X0_hasWallOn h a2) = 0 then fn_X2_cellByRings_27 k2 a1 a2 (z_putv (z_putv (z_putv (z_putv h 7 36 (fv_X0_upperLeftOf a2) ((fv_X0_upperLeftOf a2) + (nI 1))) 7 36 ((fv_X0_upperLeftOf a2) + (nI 1)) (((fv_X0_upperLeftOf a2) + (nI 6)) + (nI 1))) 7 36 (((fv_X0_upperLeftOf a2) + (nI 6)) + (nI 1)) ((fv_X0_upperLeftOf a2) + (nI 6))) 7 36 ((fv_X0_upperLeftOf a2) + (nI 6)) (fv_X0_upperLeftOf a2)) else fn_X2_cellByRings_27 k2 a1 a2 h
def tk_X2_cellByRings_2  : Nat → Int32 → Int32 → z_H → Prop
  | 0, _, _, _ => False
  | n + 1, a1, a2, h => let K2 := fun (a1_ : Int32) (a2_ : Int32) (h_ : z_H) => tk_X2_cellByRings_2  n a1_ a2_ h_; (((nI 9) ≤ a2) → (tk_X2_cellByRings_35 2000 a1 (nI 0) h)) ∧ ((¬ (nI 9) ≤ a2) → ((((fv_X0_hasWallOn h a2) = 0) → (tk_X2_cellByRings_27 K2 a1 a2 (z_putv (z_putv (z_putv (z_putv h 7 36 (fv_X0_upperLeftOf a2) ((fv_X0_upperLeftOf a2) + (nI 1))) 7 36 ((fv_X0_upperLeftOf a2) + (nI 1)) (((fv_X0_upperLeftOf a2) + (nI 6)) + (nI 1))) 7 36 (((fv_X0_upperLeftOf a2) + (nI 6)) + (nI 1)) ((fv_X0_upperLeftOf a2) + (nI 6))) 7 36 ((fv_X0_upperLeftOf a2) + (nI 6)) (fv_X0_upperLeftOf a2)))) ∧ ((¬ (fv_X0_hasWallOn h a2) = 0) → (tk_X2_cellByRings_27 K2 a1 a2 h))))
def fn_X2_cellByRings (x : Int32) (h : z_H) : z_R := fn_X2_cellByRings_2 2000 x (nI 0) h
def tk_X2_cellByRings (x : Int32) (h : z_H) : Prop := tk_X2_cellByRings_2 2000 x (nI 0) h
set_option maxHeartbeats 4000000 in
set_option maxRecDepth 100000 in
theorem sp_X2_cellByRings (l : Launch) (ext : z_Sh)  (h : z_H) (x : Int32)  (T : tk_X2_cellByRings x h) : z_Sp l 3 yX2_cellByRings cX2_cellByRings 4 (some .int) [.ref 4, .int x] (z_c ext) h (z_PI (fn_X2_cellByRings x h)) := by
  refine z_enter ft_X2 (by decide +kernel) fo_X2 (Nat.le_of_ble_eq_true rfl) ?_
  intro p e R s m args below meth c D dA ad hB
  have hC := hB.1
  have hN := hB.2.1
  have hR := hB.2.2.1
  unfold tk_X2_cellByRings at T; have E : (fn_X2_cellByRings_2 2000 x (nI 0) h) = fn_X2_cellByRings x h := rfl
  generalize fn_X2_cellByRings x h = RR at E ⊢
  have P27 : ∀ (k2 : Int32 → Int32 → z_H → z_R) (K2 : Int32 → Int32 → z_H → Prop) (hk2 : ∀ (a1 : Int32) (a2 : Int32) (h : z_H), K2 a1 a2 h → k2 a1 a2 h = RR → z_G p l e R s m args below meth c D dA ad 4 (z_PI RR) (z_c ext) 2 [some (.ref 4), some (.int a1), some (.int a2), none] [] h), ∀ (a1 : Int32) (a2 : Int32) (h : z_H), tk_X2_cellByRings_27 K2 a1 a2 h → fn_X2_cellByRings_27 k2 a1 a2 h = RR → z_G p l e R s m args below meth c D dA ad 4 (z_PI RR) (z_c ext) 27 [some (.ref 4), some (.int a1), some (.int a2), none] [] h := by
    intro k2 K2 hk2 a1 a2 h T E
    unfold tk_X2_cellByRings_27 at T; unfold fn_X2_cellByRings_27 at E
    refine z_go hC (pc' := 30) (ls' := [some (.ref 4), some (.int a1), some (.int (a2 + (nI 1))), none]) (st' := []) (h' := h) (cs := []) [.iinc 2 1] (by decide +kernel) rfl rfl trivial ?_
    refine z_goto hC (off := -28) 2 (by decide +kernel) (by decide) ?_
    exact hk2 a1 (a2 + (nI 1)) h T E
  have P57 : ∀ (k35 : Int32 → Int32 → z_H → z_R) (K35 : Int32 → Int32 → z_H → Prop) (hk35 : ∀ (a1 : Int32) (a2 : Int32) (h : z_H), K35 a1 a2 h → k35 a1 a2 h = RR → z_G p l e R s m args below meth c D dA ad 4 (z_PI RR) (z_c ext) 35 [some (.ref 4), some (.int a1), some (.int a2), none] [] h), ∀ (a1 : Int32) (a2 : Int32) (h : z_H), tk_X2_cellByRings_57 K35 a1 a2 h → fn_X2_cellByRings_57 k35 a1 a2 h = RR → z_G p l e R s m args below meth c D dA ad 4 (z_PI RR) (z_c ext) 57 [some (.ref 4), some (.int a1), some (.int a2), none] [] h := by
    intro k35 K35 hk35 a1 a2 h T E
    unfold tk_X2_cellByRings_57 at T; unfold fn_X2_cellByRings_57 at E
    refine z_go hC (pc' := 60) (ls' := [some (.ref 4), some (.int a1), some (.int (a2 + (nI 1))), none]) (st' := []) (h' := h) (cs := []) [.iinc 2 1] (by decide +kernel) rfl rfl trivial ?_
    refine z_goto hC (off := -25) 35 (by decide +kernel) (by decide) ?_
    exact hk35 a1 (a2 + (nI 1)) h T E
  have P73 : ∀ (n : Nat), ∀ (a1 : Int32) (a2 : Int32) (a3 : Int32) (h : z_H), tk_X2_cellByRings_73  n a1 a2 a3 h → fn_X2_cellByRings_73  n a1 a2 a3 h = RR → z_G p l e R s m args below meth c D dA ad 4 (z_PI RR) (z_c ext) 73 [some (.ref 4), some (.int a1), some (.int a2), some (.int a3)] [] h := by
    intro  n
    induction n with
    | zero => intro a1 a2 a3 h T E; exact False.elim T
    | succ n ih =>
      intro a1 a2 a3 h T E
      unfold tk_X2_cellByRings_73 at T; unfold fn_X2_cellByRings_73 at E; dsimp only at T E
      have hk73 := ih
      refine z_go hC (pc' := 75) (ls' := [some (.ref 4), some (.int a1), some (.int a2), some (.int a3)]) (st' := [.int a1, .int a3]) (h' := h) (cs := []) [.iload_n 3, .iload_n 1] (by decide +kernel) rfl rfl trivial ?_
      refine z_icmp_ge hC (off := 18) 93 (by decide +kernel) (by decide) (fun c1 => ?_) (fun c1 => ?_)
      · skip
        have E := (if_pos c1).symm.trans E
        have T := T.1 c1
        refine z_go hC (pc' := 94) (ls' := [some (.ref 4), some (.int a1), some (.int a2), some (.int a3)]) (st' := [.int a2]) (h' := h) (cs := []) [.iload_n 2] (by decide +kernel) rfl rfl trivial ?_
        exact z_ret_i hB rfl (by decide +kernel) (z_lfi E)
      · skip
        have E := (if_neg c1).symm.trans E
        have T := T.2 c1
        refine z_go hC (pc' := 83) (ls' := [some (.ref 4), some (.int a1), some (.int a2), some (.int a3)]) (st' := [.int a2, .ref 7]) (h' := h) (cs := []) [.aload_n 0, .getfield 18, .iload_n 2] (by decide +kernel) rfl rfl trivial ?_
        refine z_callSN hC hN hR (as := [.ref 7, .int a2]) (rest := []) ok_X2_29 (by decide +kernel) (sp_X7_at l _ h 7 36 [] a2 rfl (by decide)) (Nat.le_of_ble_eq_true rfl) rfl rfl (Nat.le_of_ble_eq_true rfl) ⟨Nat.zero_le _, Nat.zero_le _⟩ (fun r2 h3 q4 => z_fun q4 ?_)
        refine z_go hC (pc' := 90) (ls' := [some (.ref 4), some (.int a1), some (.int (z_atv h 7 36 a2)), some (.int (a3 + (nI 1)))]) (st' := []) (h' := h) (cs := []) [.istore_n 2, .iinc 3 1] (by decide +kernel) rfl rfl trivial ?_
        refine z_goto hC (off := -17) 73 (by decide +kernel) (by decide) ?_
        exact hk73 a1 (z_atv h 7 36 a2) (a3 + (nI 1)) h T E
  have P35 : ∀ (n : Nat), ∀ (a1 : Int32) (a2 : Int32) (h : z_H), tk_X2_cellByRings_35  n a1 a2 h → fn_X2_cellByRings_35  n a1 a2 h = RR → z_G p l e R s m args below meth c D dA ad 4 (z_PI RR) (z_c ext) 35 [some (.ref 4), some (.int a1), some (.int a2), none] [] h := by
    intro  n
    induction n with
    | zero => intro a1 a2 h T E; exact False.elim T
    | succ n ih =>
      intro a1 a2 h T E
      unfold tk_X2_cellByRings_35 at T; unfold fn_X2_cellByRings_35 at E; dsimp only at T E
      have hk35 := ih
      refine z_go hC (pc' := 38) (ls' := [some (.ref 4), some (.int a1), some (.int a2), none]) (st' := [.int (nI 12), .int a2]) (h' := h) (cs := []) [.iload_n 2, .bipush 12] (by decide +kernel) rfl rfl trivial ?_
      refine z_icmp_ge hC (off := 25) 63 (by decide +kernel) (by decide) (fun c5 => ?_) (fun c5 => ?_)
      · skip
        have E := (if_pos c5).symm.trans E
        have T := T.1 c5
        refine z_go hC (pc' := 67) (ls' := [some (.ref 4), some (.int a1), some (.int a2), none]) (st' := [.ref 1]) (h' := h) (cs := []) [.aload_n 0, .getfield 21] (by decide +kernel) rfl rfl trivial ?_
        obtain ⟨t9, T⟩ := T
        refine z_callV hC hN hR (as := []) (rest := []) ok_X2_46 (by decide +kernel) (sp_X0_lowestOpenCell l _ h  t9) rfl rfl (Nat.le_of_ble_eq_true rfl) rfl rfl (Nat.le_of_ble_eq_true rfl) ⟨Nat.zero_le _, Nat.zero_le _⟩ (fun r6 h7 q8 => z_fun q8 ?_)
        refine z_go hC (pc' := 73) (ls' := [some (.ref 4), some (.int a1), some (.int (z_vi0 (fn_X0_lowestOpenCell  h))), some (.int (nI 0))]) (st' := []) (h' := h) (cs := []) [.istore_n 2, .iconst 0, .istore_n 3] (by decide +kernel) rfl rfl trivial ?_
        exact P73 2000 a1 (z_vi0 (fn_X0_lowestOpenCell  h)) (nI 0) h T E
      · skip
        have E := (if_neg c5).symm.trans E
        have T := T.2 c5
        refine z_go hC (pc' := 46) (ls' := [some (.ref 4), some (.int a1), some (.int a2), none]) (st' := [.int a2, .ref 1]) (h' := h) (cs := []) [.aload_n 0, .getfield 21, .iload_n 2] (by decide +kernel) rfl rfl trivial ?_
        refine z_callV hC hN hR (as := [.int a2]) (rest := []) ok_X2_67 (by decide +kernel) (sp_X0_treeHas l _ h a2) rfl rfl (Nat.le_of_ble_eq_true rfl) rfl rfl (Nat.le_of_ble_eq_true rfl) ⟨Nat.zero_le _, Nat.zero_le _⟩ (fun r10 h11 q12 => z_fun q12 ?_)
        refine z_if_eq hC (off := 8) 57 (by decide +kernel) (by decide) (fun c13 => ?_) (fun c13 => ?_)
        · skip
          have E := (if_pos c13).symm.trans E
          have T := T.1 c13
          exact P57 _ _ hk35 a1 a2 h T E
        · skip
          have E := (if_neg c13).symm.trans E
          have T := T.2 c13
          refine z_go hC (pc' := 54) (ls' := [some (.ref 4), some (.int a1), some (.int a2), none]) (st' := [.int a2, .ref 4]) (h' := h) (cs := []) [.aload_n 0, .iload_n 2] (by decide +kernel) rfl rfl trivial ?_
          refine z_callV hC hN hR (as := [.int a2]) (rest := []) ok_X2_84 (by decide +kernel) (sp_X2_makeOneOfTwo l _ h a2) rfl rfl (Nat.le_of_ble_eq_true rfl) rfl rfl (Nat.le_of_ble_eq_true rfl) ⟨Nat.zero_le _, Nat.zero_le _⟩ (fun r14 h15 q16 => z_fun q16 ?_)
          exact P57 _ _ hk35 a1 a2 (fh_X2_makeOneOfTwo h a2) T E
  have P2 : ∀ (n : Nat), ∀ (a1 : Int32) (a2 : Int32) (h : z_H), tk_X2_cellByRings_2  n a1 a2 h → fn_X2_cellByRings_2  n a1 a2 h = RR → z_G p l e R s m args below meth c D dA ad 4 (z_PI RR) (z_c ext) 2 [some (.ref 4), some (.int a1), some (.int a2), none] [] h := by
    intro  n
    induction n with
    | zero => intro a1 a2 h T E; exact False.elim T
    | succ n ih =>
      intro a1 a2 h T E
      unfold tk_X2_cellByRings_2 at T; unfold fn_X2_cellByRings_2 at E; dsimp only at T E
      have hk2 := ih
      refine z_go hC (pc' := 5) (ls' := [some (.ref 4), some (.int a1), some (.int a2), none]) (st' := [.int (nI 9), .int a2]) (h' := h) (cs := []) [.iload_n 2, .bipush 9] (by decide +kernel) rfl rfl trivial ?_
      refine z_icmp_ge hC (off := 28) 33 (by decide +kernel) (by decide) (fun c17 => ?_) (fun c17 => ?_)
      · skip
        have E := (if_pos c17).symm.trans E
        have T := T.1 c17
        refine z_go hC (pc' := 35) (ls' := [some (.ref 4), some (.int a1), some (.int (nI 0)), none]) (st' := []) (h' := h) (cs := []) [.iconst 0, .istore_n 2] (by decide +kernel) rfl rfl trivial ?_
        exact P35 2000 a1 (nI 0) h T E
      · skip
        have E := (if_neg c17).symm.trans E
        have T := T.2 c17
        refine z_go hC (pc' := 13) (ls' := [some (.ref 4), some (.int a1), some (.int a2), none]) (st' := [.int a2, .ref 1]) (h' := h) (cs := []) [.aload_n 0, .getfield 21, .iload_n 2] (by decide +kernel) rfl rfl trivial ?_
        refine z_callV hC hN hR (as := [.int a2]) (rest := []) ok_X2_74 (by decide +kernel) (sp_X0_hasWallOn l _ h a2) rfl rfl (Nat.le_of_ble_eq_true rfl) rfl rfl (Nat.le_of_ble_eq_true rfl) ⟨Nat.zero_le _, Nat.zero_le _⟩ (fun r18 h19 q20 => z_fun q20 ?_)
        refine z_if_ne hC (off := 11) 27 (by decide +kernel) (by decide) (fun c21 => ?_) (fun c21 => ?_)
        · skip
          have E := (if_neg c21).symm.trans E
          have T := T.2 c21
          exact P27 _ _ hk2 a1 a2 h T E
        · skip
          have E := (if_pos c21).symm.trans E
          have T := T.1 c21
          refine z_go hC (pc' := 21) (ls' := [some (.ref 4), some (.int a1), some (.int a2), none]) (st' := [.int a2, .ref 4]) (h' := h) (cs := []) [.aload_n 0, .iload_n 2] (by decide +kernel) rfl rfl trivial ?_
          refine z_callS hC hN hR (as := [.int a2]) (rest := [.ref 4]) ok_X2_77 (by decide +kernel) (sp_X0_upperLeftOf l _ h a2) (Nat.le_of_ble_eq_true rfl) rfl rfl (Nat.le_of_ble_eq_true rfl) ⟨Nat.zero_le _, Nat.zero_le _⟩ (fun r22 h23 q24 => z_fun q24 ?_)
          refine z_callV hC hN hR (as := [.int (fv_X0_upperLeftOf a2)]) (rest := []) ok_X2_80 (by decide +kernel) (sp_X2_makeRing l _ h (fv_X0_upperLeftOf a2)) rfl rfl (Nat.le_of_ble_eq_true rfl) rfl rfl (Nat.le_of_ble_eq_true rfl) ⟨Nat.zero_le _, Nat.zero_le _⟩ (fun r25 h26 q27 => z_fun q27 ?_)
          exact P27 _ _ hk2 a1 a2 (z_putv (z_putv (z_putv (z_putv h 7 36 (fv_X0_upperLeftOf a2) ((fv_X0_upperLeftOf a2) + (nI 1))) 7 36 ((fv_X0_upperLeftOf a2) + (nI 1)) (((fv_X0_upperLeftOf a2) + (nI 6)) + (nI 1))) 7 36 (((fv_X0_upperLeftOf a2) + (nI 6)) + (nI 1)) ((fv_X0_upperLeftOf a2) + (nI 6))) 7 36 ((fv_X0_upperLeftOf a2) + (nI 6)) (fv_X0_upperLeftOf a2)) T E
  refine z_go hC (pc' := 2) (ls' := [some (.ref 4), some (.int x), some (.int (nI 0)), none]) (st' := []) (h' := h) (cs := []) [.iconst 0, .istore_n 2] (by decide +kernel) rfl rfl trivial ?_
  exact P2 2000 x (nI 0) h T E
end
section
/-! ===== printed by wip/p27/gen: methods with loops, as functions ===== -/
def fv_J9_max_7cf53 (x : Int32) (y : Int32) : Int32 := if x < y then y else x
set_option maxHeartbeats 4000000 in
set_option maxRecDepth 100000 in
theorem sp_J9_max_7cf53 (l : Launch) (sh : z_Sh) (h : z_H) (x : Int32) (y : Int32)  : z_Sp l 0 yJ9_max_7cf53 cJ9_max_7cf53 2 (some .int) [.int x, .int y] (sh) h (fun rv h' => rv = some (.int (fv_J9_max_7cf53 x y)) ∧ h' = h) := by
  refine z_enter ft_J9 (by decide +kernel) fo_J9 (Nat.le_of_ble_eq_true rfl) ?_
  intro p e R s m args below meth c D dA ad hB
  have hC := hB.1
  have hN := hB.2.1
  have hR := hB.2.2.1
  refine z_go hC (pc' := 2) (ls' := [some (.int x), some (.int y)]) (st' := [.int y, .int x]) (h' := h) (cs := []) [.iload_n 0, .iload_n 1] (by decide +kernel) rfl rfl trivial ?_
  refine z_icmp_lt hC (off := 7) 9 (by decide +kernel) (by decide) (fun c1 => ?_) (fun c1 => ?_)
  · skip
    refine z_go hC (pc' := 10) (ls' := [some (.int x), some (.int y)]) (st' := [.int y]) (h' := h) (cs := []) [.iload_n 1] (by decide +kernel) rfl rfl trivial ?_
    exact z_ret_i hB rfl (by decide +kernel) ⟨by rw [fv_J9_max_7cf53, if_pos c1], rfl⟩
  · skip
    refine z_go hC (pc' := 6) (ls' := [some (.int x), some (.int y)]) (st' := [.int x]) (h' := h) (cs := []) [.iload_n 0] (by decide +kernel) rfl rfl trivial ?_
    refine z_goto hC (off := 4) 10 (by decide +kernel) (by decide) ?_
    exact z_ret_i hB rfl (by decide +kernel) ⟨by rw [fv_J9_max_7cf53, if_neg c1], rfl⟩

def fn_X5_wayOfBody_12 (h : z_H)  : Nat → Int32 → Int32 → (Option Value)
  | 0, _, _ => none
  | n + 1, a1, a2 => let k12 := fun (a1_ : Int32) (a2_ : Int32) => fn_X5_wayOfBody_12 h  n a1_ a2_; if a2 ≤ 0 then some (.int a1) else k12 (a1 + (fv_X2_wayBetween h (h.1 11 ((((h.1 10 4) + a2) &&& (nI 63)).toNatClampNeg)) (h.1 11 ((((h.1 10 4) + (a2 - (nI 1))) &&& (nI 63)).toNatClampNeg)))) (a2 + (z_bi (-1)))
def tk_X5_wayOfBody_12 (h : z_H)  : Nat → Int32 → Int32 → Prop
  | 0, _, _ => False
  | n + 1, a1, a2 => let K12 := fun (a1_ : Int32) (a2_ : Int32) => tk_X5_wayOfBody_12 h  n a1_ a2_; ((a2 ≤ 0) → (True)) ∧ ((¬ a2 ≤ 0) → (K12 (a1 + (fv_X2_wayBetween h (h.1 11 ((((h.1 10 4) + a2) &&& (nI 63)).toNatClampNeg)) (h.1 11 ((((h.1 10 4) + (a2 - (nI 1))) &&& (nI 63)).toNatClampNeg)))) (a2 + (z_bi (-1)))))
def fn_X5_wayOfBody  (h : z_H) : (Option Value) := fn_X5_wayOfBody_12 h 2000 (nI 0) ((h.1 10 5) - (nI 1))
def tk_X5_wayOfBody  (h : z_H) : Prop := tk_X5_wayOfBody_12 h 2000 (nI 0) ((h.1 10 5) - (nI 1))
set_option maxHeartbeats 4000000 in
set_option maxRecDepth 100000 in
theorem sp_X5_wayOfBody (l : Launch) (ext : z_Sh)  (h : z_H)   (T : tk_X5_wayOfBody  h) : z_Sp l 2 yX5_wayOfBody cX5_wayOfBody 3 (some .int) [.ref 13] (z_c ext) h (z_QI h (fn_X5_wayOfBody  h)) := by
  refine z_enter ft_X5 (by decide +kernel) fo_X5 (Nat.le_of_ble_eq_true rfl) ?_
  intro p e R s m args below meth c D dA ad hB
  have hC := hB.1
  have hN := hB.2.1
  have hR := hB.2.2.1
  unfold tk_X5_wayOfBody at T; have E : (fn_X5_wayOfBody_12 h 2000 (nI 0) ((h.1 10 5) - (nI 1))) = fn_X5_wayOfBody  h := rfl
  generalize fn_X5_wayOfBody  h = RR at E ⊢
  have P12 : ∀ (n : Nat), ∀ (a1 : Int32) (a2 : Int32), tk_X5_wayOfBody_12 h  n a1 a2 → fn_X5_wayOfBody_12 h  n a1 a2 = RR → z_G p l e R s m args below meth c D dA ad 3 (z_QI h RR) (z_c ext) 12 [some (.ref 13), some (.int a1), some (.int a2)] [] h := by
    intro  n
    induction n with
    | zero => intro a1 a2 T E; exact False.elim T
    | succ n ih =>
      intro a1 a2 T E
      unfold tk_X5_wayOfBody_12 at T; unfold fn_X5_wayOfBody_12 at E; dsimp only at T E
      have hk12 := ih
      refine z_go hC (pc' := 13) (ls' := [some (.ref 13), some (.int a1), some (.int a2)]) (st' := [.int a2]) (h' := h) (cs := []) [.iload_n 2] (by decide +kernel) rfl rfl trivial ?_
      refine z_if_le hC (off := 37) 50 (by decide +kernel) (by decide) (fun c1 => ?_) (fun c1 => ?_)
      · skip
        have E := (if_pos c1).symm.trans E
        have T := T.1 c1
        refine z_go hC (pc' := 51) (ls' := [some (.ref 13), some (.int a1), some (.int a2)]) (st' := [.int a1]) (h' := h) (cs := []) [.iload_n 1] (by decide +kernel) rfl rfl trivial ?_
        exact z_ret_i hB rfl (by decide +kernel) (z_lfi0 E)
      · skip
        have E := (if_neg c1).symm.trans E
        have T := T.2 c1
        refine z_go hC (pc' := 26) (ls' := [some (.ref 13), some (.int a1), some (.int a2)]) (st' := [.int a2, .ref 10, .ref 4, .int a1]) (h' := h) (cs := []) [.iload_n 1, .aload_n 0, .getfield 9, .aload_n 0, .getfield 19, .iload_n 2] (by decide +kernel) rfl rfl trivial ?_
        refine z_callV hC hN hR (as := [.int a2]) (rest := [.ref 4, .int a1]) ok_X5_40 (by decide +kernel) (sp_X6_cellOf l _ h a2) rfl rfl (Nat.le_of_ble_eq_true rfl) rfl rfl (Nat.le_of_ble_eq_true rfl) ⟨Nat.zero_le _, Nat.zero_le _⟩ (fun r2 h3 q4 => z_fun q4 ?_)
        refine z_go hC (pc' := 36) (ls' := [some (.ref 13), some (.int a1), some (.int a2)]) (st' := [.int (a2 - (nI 1)), .ref 10, .int (h.1 11 ((((h.1 10 4) + a2) &&& (nI 63)).toNatClampNeg)), .ref 4, .int a1]) (h' := h) (cs := []) [.aload_n 0, .getfield 19, .iload_n 2, .iconst 1, .isub] (by decide +kernel) rfl rfl trivial ?_
        refine z_callV hC hN hR (as := [.int (a2 - (nI 1))]) (rest := [.int (h.1 11 ((((h.1 10 4) + a2) &&& (nI 63)).toNatClampNeg)), .ref 4, .int a1]) ok_X5_40 (by decide +kernel) (sp_X6_cellOf l _ h (a2 - (nI 1))) rfl rfl (Nat.le_of_ble_eq_true rfl) rfl rfl (Nat.le_of_ble_eq_true rfl) ⟨Nat.zero_le _, Nat.zero_le _⟩ (fun r5 h6 q7 => z_fun q7 ?_)
        refine z_callV hC hN hR (as := [.int (h.1 11 ((((h.1 10 4) + a2) &&& (nI 63)).toNatClampNeg)), .int (h.1 11 ((((h.1 10 4) + (a2 - (nI 1))) &&& (nI 63)).toNatClampNeg))]) (rest := [.int a1]) ok_X5_44 (by decide +kernel) (sp_X2_wayBetween l _ h (h.1 11 ((((h.1 10 4) + a2) &&& (nI 63)).toNatClampNeg)) (h.1 11 ((((h.1 10 4) + (a2 - (nI 1))) &&& (nI 63)).toNatClampNeg))) rfl rfl (Nat.le_of_ble_eq_true rfl) rfl rfl (Nat.le_of_ble_eq_true rfl) ⟨Nat.zero_le _, Nat.zero_le _⟩ (fun r8 h9 q10 => z_fun q10 ?_)
        refine z_go hC (pc' := 47) (ls' := [some (.ref 13), some (.int (a1 + (fv_X2_wayBetween h (h.1 11 ((((h.1 10 4) + a2) &&& (nI 63)).toNatClampNeg)) (h.1 11 ((((h.1 10 4) + (a2 - (nI 1))) &&& (nI 63)).toNatClampNeg))))), some (.int (a2 + (z_bi (-1))))]) (st' := []) (h' := h) (cs := []) [.iadd, .istore_n 1, .iinc 2 (-1)] (by decide +kernel) rfl rfl trivial ?_
        refine z_goto hC (off := -35) 12 (by decide +kernel) (by decide) ?_
        exact hk12 (a1 + (fv_X2_wayBetween h (h.1 11 ((((h.1 10 4) + a2) &&& (nI 63)).toNatClampNeg)) (h.1 11 ((((h.1 10 4) + (a2 - (nI 1))) &&& (nI 63)).toNatClampNeg)))) (a2 + (z_bi (-1))) T E
  refine z_go hC (pc' := 6) (ls' := [some (.ref 13), some (.int (nI 0)), none]) (st' := [.ref 10]) (h' := h) (cs := []) [.iconst 0, .istore_n 1, .aload_n 0, .getfield 19] (by decide +kernel) rfl rfl trivial ?_
  refine z_callV hC hN hR (as := []) (rest := []) ok_X5_39 (by decide +kernel) (sp_X6_size l _ h ) rfl rfl (Nat.le_of_ble_eq_true rfl) rfl rfl (Nat.le_of_ble_eq_true rfl) ⟨Nat.zero_le _, Nat.zero_le _⟩ (fun r11 h12 q13 => z_fun q13 ?_)
  refine z_go hC (pc' := 12) (ls' := [some (.ref 13), some (.int (nI 0)), some (.int ((h.1 10 5) - (nI 1)))]) (st' := []) (h' := h) (cs := []) [.iconst 1, .isub, .istore_n 2] (by decide +kernel) rfl rfl trivial ?_
  exact P12 2000 (nI 0) ((h.1 10 5) - (nI 1)) T E

def fn_X5_seesOrder  (h : z_H) : (Option Value) := if (fv_X6_isThere h ) = 0 then some (.int (nI 0)) else if (fv_X2_isThere h ) = 0 then some (.int (nI 0)) else if (h.1 4 4) ≤ (z_vi0 (fn_X5_wayOfBody  h)) then some (.int (nI 0)) else some (.int (nI 1))
def tk_X5_seesOrder  (h : z_H) : Prop := (((fv_X6_isThere h ) = 0) → (True)) ∧ ((¬ (fv_X6_isThere h ) = 0) → ((((fv_X2_isThere h ) = 0) → (True)) ∧ ((¬ (fv_X2_isThere h ) = 0) → (tk_X5_wayOfBody  h))))
set_option maxHeartbeats 4000000 in
set_option maxRecDepth 100000 in
theorem sp_X5_seesOrder (l : Launch) (ext : z_Sh)  (h : z_H)   (T : tk_X5_seesOrder  h) : z_Sp l 3 yX5_seesOrder cX5_seesOrder 1 (some .boolean) [.ref 13] (z_c ext) h (z_QB h (fn_X5_seesOrder  h)) := by
  refine z_enter ft_X5 (by decide +kernel) fo_X5 (Nat.le_of_ble_eq_true rfl) ?_
  intro p e R s m args below meth c D dA ad hB
  have hC := hB.1
  have hN := hB.2.1
  have hR := hB.2.2.1
  unfold tk_X5_seesOrder at T; have E : (if (fv_X6_isThere h ) = 0 then some (.int (nI 0)) else if (fv_X2_isThere h ) = 0 then some (.int (nI 0)) else if (h.1 4 4) ≤ (z_vi0 (fn_X5_wayOfBody  h)) then some (.int (nI 0)) else some (.int (nI 1))) = fn_X5_seesOrder  h := rfl
  generalize fn_X5_seesOrder  h = RR at E ⊢
  refine z_go hC (pc' := 4) (ls' := [some (.ref 13)]) (st' := [.ref 10]) (h' := h) (cs := []) [.aload_n 0, .getfield 19] (by decide +kernel) rfl rfl trivial ?_
  refine z_callV hC hN hR (as := []) (rest := []) ok_X5_23 (by decide +kernel) (sp_X6_isThere l _ h ) rfl rfl (Nat.le_of_ble_eq_true rfl) rfl rfl (Nat.le_of_ble_eq_true rfl) ⟨Nat.zero_le _, Nat.zero_le _⟩ (fun r1 h2 q3 => z_fun q3 ?_)
  refine z_if_eq hC (off := 31) 38 (by decide +kernel) (by decide) (fun c4 => ?_) (fun c4 => ?_)
  · skip
    have E := (if_pos c4).symm.trans E
    have T := T.1 c4
    refine z_go hC (pc' := 39) (ls' := [some (.ref 13)]) (st' := [.int (nI 0)]) (h' := h) (cs := []) [.iconst 0] (by decide +kernel) rfl rfl trivial ?_
    exact z_ret_z hB rfl (show (nI 0 = 0 ∨ nI 0 = 1) by decide) (by decide +kernel) (z_lfb0 (show (nI 0 = 0 ∨ nI 0 = 1) by decide) E)
  · skip
    have E := (if_neg c4).symm.trans E
    have T := T.2 c4
    refine z_go hC (pc' := 14) (ls' := [some (.ref 13)]) (st' := [.ref 4]) (h' := h) (cs := []) [.aload_n 0, .getfield 9] (by decide +kernel) rfl rfl trivial ?_
    refine z_callV hC hN hR (as := []) (rest := []) ok_X5_29 (by decide +kernel) (sp_X2_isThere l _ h ) rfl rfl (Nat.le_of_ble_eq_true rfl) rfl rfl (Nat.le_of_ble_eq_true rfl) ⟨Nat.zero_le _, Nat.zero_le _⟩ (fun r5 h6 q7 => z_fun q7 ?_)
    refine z_if_eq hC (off := 21) 38 (by decide +kernel) (by decide) (fun c8 => ?_) (fun c8 => ?_)
    · skip
      have E := (if_pos c8).symm.trans E
      have T := T.1 c8
      refine z_go hC (pc' := 39) (ls' := [some (.ref 13)]) (st' := [.int (nI 0)]) (h' := h) (cs := []) [.iconst 0] (by decide +kernel) rfl rfl trivial ?_
      exact z_ret_z hB rfl (show (nI 0 = 0 ∨ nI 0 = 1) by decide) (by decide +kernel) (z_lfb0 (show (nI 0 = 0 ∨ nI 0 = 1) by decide) E)
    · skip
      have E := (if_neg c8).symm.trans E
      have T := T.2 c8
      refine z_go hC (pc' := 21) (ls' := [some (.ref 13)]) (st' := [.ref 13]) (h' := h) (cs := []) [.aload_n 0] (by decide +kernel) rfl rfl trivial ?_
      have t12 := T
      refine z_callV hC hN hR (as := []) (rest := []) ok_X5_32 (by decide +kernel) (sp_X5_wayOfBody l _ h  t12) rfl rfl (Nat.le_of_ble_eq_true rfl) rfl rfl (Nat.le_of_ble_eq_true rfl) ⟨Nat.zero_le _, Nat.zero_le _⟩ (fun r9 h10 q11 => z_fun q11 ?_)
      refine z_go hC (pc' := 28) (ls' := [some (.ref 13)]) (st' := [.ref 4, .int (z_vi0 (fn_X5_wayOfBody  h))]) (h' := h) (cs := []) [.aload_n 0, .getfield 9] (by decide +kernel) rfl rfl trivial ?_
      refine z_callV hC hN hR (as := []) (rest := [.int (z_vi0 (fn_X5_wayOfBody  h))]) ok_X5_36 (by decide +kernel) (sp_X2_size l _ h ) rfl rfl (Nat.le_of_ble_eq_true rfl) rfl rfl (Nat.le_of_ble_eq_true rfl) ⟨Nat.zero_le _, Nat.zero_le _⟩ (fun r13 h14 q15 => z_fun q15 ?_)
      refine z_icmp_ge hC (off := 7) 38 (by decide +kernel) (by decide) (fun c16 => ?_) (fun c16 => ?_)
      · skip
        have E := (if_pos c16).symm.trans E
        refine z_go hC (pc' := 39) (ls' := [some (.ref 13)]) (st' := [.int (nI 0)]) (h' := h) (cs := []) [.iconst 0] (by decide +kernel) rfl rfl trivial ?_
        exact z_ret_z hB rfl (show (nI 0 = 0 ∨ nI 0 = 1) by decide) (by decide +kernel) (z_lfb0 (show (nI 0 = 0 ∨ nI 0 = 1) by decide) E)
      · skip
        have E := (if_neg c16).symm.trans E
        refine z_go hC (pc' := 35) (ls' := [some (.ref 13)]) (st' := [.int (nI 1)]) (h' := h) (cs := []) [.iconst 1] (by decide +kernel) rfl rfl trivial ?_
        refine z_goto hC (off := 4) 39 (by decide +kernel) (by decide) ?_
        exact z_ret_z hB rfl (show (nI 1 = 0 ∨ nI 1 = 1) by decide) (by decide +kernel) (z_lfb0 (show (nI 1 = 0 ∨ nI 1 = 1) by decide) E)

def fn_X5_seesSafe_125  (s0 : Int32) (h : z_H) : z_R := (some (.int s0), fh_X6_takeBack h )
def tk_X5_seesSafe_125  (s0 : Int32) (h : z_H) : Prop := (s0 = 0 ∨ s0 = 1)
def fn_X5_seesSafe_124  (h : z_H) : z_R := fn_X5_seesSafe_125 (nI 0) h
def tk_X5_seesSafe_124  (h : z_H) : Prop := tk_X5_seesSafe_125 (nI 0) h
def fn_X5_seesSafe_66  (a2 : Int32) (s0 : Int32) (h : z_H) : z_R := if (z_vi0 (fn_X5_seesOrder  h)) = 0 then fn_X5_seesSafe_124 h else if s0 < (fv_X2_wayBetween h a2 (h.1 11 ((((h.1 10 4) + (nI 0)) &&& (nI 63)).toNatClampNeg))) then fn_X5_seesSafe_124 h else if (((h.1 4 4) - (nI 1)) - (z_vi0 (fn_X5_wayOfBody  h))) < (h.1 10 6) then fn_X5_seesSafe_124 h else fn_X5_seesSafe_125 (nI 1) h
def tk_X5_seesSafe_66  (a2 : Int32) (s0 : Int32) (h : z_H) : Prop := tk_X5_seesOrder  h ∧ ((((z_vi0 (fn_X5_seesOrder  h)) = 0) → (tk_X5_seesSafe_124 h)) ∧ ((¬ (z_vi0 (fn_X5_seesOrder  h)) = 0) → (((s0 < (fv_X2_wayBetween h a2 (h.1 11 ((((h.1 10 4) + (nI 0)) &&& (nI 63)).toNatClampNeg)))) → (tk_X5_seesSafe_124 h)) ∧ ((¬ s0 < (fv_X2_wayBetween h a2 (h.1 11 ((((h.1 10 4) + (nI 0)) &&& (nI 63)).toNatClampNeg)))) → (tk_X5_wayOfBody  h ∧ ((((((h.1 4 4) - (nI 1)) - (z_vi0 (fn_X5_wayOfBody  h))) < (h.1 10 6)) → (tk_X5_seesSafe_124 h)) ∧ ((¬ (((h.1 4 4) - (nI 1)) - (z_vi0 (fn_X5_wayOfBody  h))) < (h.1 10 6)) → (tk_X5_seesSafe_125 (nI 1) h))))))))
def fn_X5_seesSafe (x : Int32) (h : z_H) : z_R := if (fv_X3_firstCell h ) = (-1) then (some (.int (nI 0)), h) else if (z_vi0 (fn_X5_seesOrder  h)) = 0 then (some (.int (nI 0)), h) else if (fv_X6_advance h x) = 0 then (some (.int (nI 0)), fh_X6_advance h x) else if (fv_X3_firstCell h ) = (h.1 11 ((((h.1 10 4) + (nI 0)) &&& (nI 63)).toNatClampNeg)) then fn_X5_seesSafe_66 (h.1 11 ((((h.1 10 4) + (nI 0)) &&& (nI 63)).toNatClampNeg)) ((fh_X6_advance h x).1 4 4) (fh_X6_advance h x) else fn_X5_seesSafe_66 (h.1 11 ((((h.1 10 4) + (nI 0)) &&& (nI 63)).toNatClampNeg)) (fv_X2_wayBetween (fh_X6_advance h x) (h.1 11 ((((h.1 10 4) + (nI 0)) &&& (nI 63)).toNatClampNeg)) (fv_X3_firstCell h )) (fh_X6_advance h x)
def tk_X5_seesSafe (x : Int32) (h : z_H) : Prop := (((fv_X3_firstCell h ) = (-1)) → (True)) ∧ ((¬ (fv_X3_firstCell h ) = (-1)) → (tk_X5_seesOrder  h ∧ ((((z_vi0 (fn_X5_seesOrder  h)) = 0) → (True)) ∧ ((¬ (z_vi0 (fn_X5_seesOrder  h)) = 0) → ((((fv_X6_advance h x) = 0) → (True)) ∧ ((¬ (fv_X6_advance h x) = 0) → ((((fv_X3_firstCell h ) = (h.1 11 ((((h.1 10 4) + (nI 0)) &&& (nI 63)).toNatClampNeg))) → (tk_X5_seesSafe_66 (h.1 11 ((((h.1 10 4) + (nI 0)) &&& (nI 63)).toNatClampNeg)) ((fh_X6_advance h x).1 4 4) (fh_X6_advance h x))) ∧ ((¬ (fv_X3_firstCell h ) = (h.1 11 ((((h.1 10 4) + (nI 0)) &&& (nI 63)).toNatClampNeg))) → (tk_X5_seesSafe_66 (h.1 11 ((((h.1 10 4) + (nI 0)) &&& (nI 63)).toNatClampNeg)) (fv_X2_wayBetween (fh_X6_advance h x) (h.1 11 ((((h.1 10 4) + (nI 0)) &&& (nI 63)).toNatClampNeg)) (fv_X3_firstCell h )) (fh_X6_advance h x))))))))))
set_option maxHeartbeats 4000000 in
set_option maxRecDepth 100000 in
theorem sp_X5_seesSafe (l : Launch) (ext : z_Sh)  (h : z_H) (x : Int32)  (T : tk_X5_seesSafe x h) : z_Sp l 4 yX5_seesSafe cX5_seesSafe 6 (some .boolean) [.ref 13, .int x] (z_c ext) h (z_PB (fn_X5_seesSafe x h)) := by
  refine z_enter ft_X5 (by decide +kernel) fo_X5 (Nat.le_of_ble_eq_true rfl) ?_
  intro p e R s m args below meth c D dA ad hB
  have hC := hB.1
  have hN := hB.2.1
  have hR := hB.2.2.1
  unfold tk_X5_seesSafe at T; have E : (if (fv_X3_firstCell h ) = (-1) then (some (.int (nI 0)), h) else if (z_vi0 (fn_X5_seesOrder  h)) = 0 then (some (.int (nI 0)), h) else if (fv_X6_advance h x) = 0 then (some (.int (nI 0)), fh_X6_advance h x) else if (fv_X3_firstCell h ) = (h.1 11 ((((h.1 10 4) + (nI 0)) &&& (nI 63)).toNatClampNeg)) then fn_X5_seesSafe_66 (h.1 11 ((((h.1 10 4) + (nI 0)) &&& (nI 63)).toNatClampNeg)) ((fh_X6_advance h x).1 4 4) (fh_X6_advance h x) else fn_X5_seesSafe_66 (h.1 11 ((((h.1 10 4) + (nI 0)) &&& (nI 63)).toNatClampNeg)) (fv_X2_wayBetween (fh_X6_advance h x) (h.1 11 ((((h.1 10 4) + (nI 0)) &&& (nI 63)).toNatClampNeg)) (fv_X3_firstCell h )) (fh_X6_advance h x)) = fn_X5_seesSafe x h := rfl
  generalize fn_X5_seesSafe x h = RR at E ⊢
  have P125 : ∀ (s0 : Int32) (h : z_H), tk_X5_seesSafe_125  s0 h → fn_X5_seesSafe_125  s0 h = RR → z_G p l e R s m args below meth c D dA ad 6 (z_PB RR) (z_c ext) 125 [some (.ref 13), none, none, none, none, none] [.int s0] h := by
    intro  s0 h T E
    unfold tk_X5_seesSafe_125 at T; unfold fn_X5_seesSafe_125 at E
    refine z_go hC (pc' := 131) (ls' := [some (.ref 13), none, none, none, none, some (.int s0)]) (st' := [.ref 10]) (h' := h) (cs := []) [.istore 5, .aload_n 0, .getfield 19] (by decide +kernel) rfl rfl trivial ?_
    refine z_callV hC hN hR (as := []) (rest := []) ok_X5_63 (by decide +kernel) (sp_X6_takeBack l _ h ) rfl rfl (Nat.le_of_ble_eq_true rfl) rfl rfl (Nat.le_of_ble_eq_true rfl) ⟨Nat.zero_le _, Nat.zero_le _⟩ (fun r1 h2 q3 => z_fun q3 ?_)
    refine z_go hC (pc' := 136) (ls' := [some (.ref 13), none, none, none, none, some (.int s0)]) (st' := [.int s0]) (h' := fh_X6_takeBack h ) (cs := []) [.iload 5] (by decide +kernel) rfl rfl trivial ?_
    have t4 := T
    exact z_ret_z hB rfl t4 (by decide +kernel) (z_lfb t4 E)
  have P124 : ∀ (h : z_H), tk_X5_seesSafe_124  h → fn_X5_seesSafe_124  h = RR → z_G p l e R s m args below meth c D dA ad 6 (z_PB RR) (z_c ext) 124 [some (.ref 13), none, none, none, none, none] [] h := by
    intro  h T E
    unfold tk_X5_seesSafe_124 at T; unfold fn_X5_seesSafe_124 at E
    refine z_go hC (pc' := 125) (ls' := [some (.ref 13), none, none, none, none, none]) (st' := [.int (nI 0)]) (h' := h) (cs := []) [.iconst 0] (by decide +kernel) rfl rfl trivial ?_
    exact P125  (nI 0) h T E
  have P66 : ∀ (a2 : Int32) (s0 : Int32) (h : z_H), tk_X5_seesSafe_66  a2 s0 h → fn_X5_seesSafe_66  a2 s0 h = RR → z_G p l e R s m args below meth c D dA ad 6 (z_PB RR) (z_c ext) 66 [some (.ref 13), none, some (.int a2), none, none, none] [.int s0] h := by
    intro  a2 s0 h T E
    unfold tk_X5_seesSafe_66 at T; unfold fn_X5_seesSafe_66 at E
    refine z_go hC (pc' := 69) (ls' := [some (.ref 13), none, some (.int a2), none, some (.int s0), none]) (st' := [.ref 13]) (h' := h) (cs := []) [.istore 4, .aload_n 0] (by decide +kernel) rfl rfl trivial ?_
    obtain ⟨t8, T⟩ := T
    refine z_callV hC hN hR (as := []) (rest := []) ok_X5_53 (by decide +kernel) (sp_X5_seesOrder l _ h  t8) rfl rfl (Nat.le_of_ble_eq_true rfl) rfl rfl (Nat.le_of_ble_eq_true rfl) ⟨Nat.zero_le _, Nat.zero_le _⟩ (fun r5 h6 q7 => z_funb q7 (fun z9 => ?_))
    refine z_if_eq hC (off := 52) 124 (by decide +kernel) (by decide) (fun c10 => ?_) (fun c10 => ?_)
    · skip
      have E := (if_pos c10).symm.trans E
      have T := T.1 c10
      refine z_less (ls' := [some (.ref 13), none, none, none, none, none]) (by simp [z_sub]) ?_
      exact P124  h T E
    · skip
      have E := (if_neg c10).symm.trans E
      have T := T.2 c10
      refine z_go hC (pc' := 85) (ls' := [some (.ref 13), none, some (.int a2), none, some (.int s0), none]) (st' := [.int (nI 0), .ref 10, .int a2, .ref 4]) (h' := h) (cs := []) [.aload_n 0, .getfield 9, .iload_n 2, .aload_n 0, .getfield 19, .iconst 0] (by decide +kernel) rfl rfl trivial ?_
      refine z_callV hC hN hR (as := [.int (nI 0)]) (rest := [.int a2, .ref 4]) ok_X5_40 (by decide +kernel) (sp_X6_cellOf l _ h (nI 0)) rfl rfl (Nat.le_of_ble_eq_true rfl) rfl rfl (Nat.le_of_ble_eq_true rfl) ⟨Nat.zero_le _, Nat.zero_le _⟩ (fun r11 h12 q13 => z_fun q13 ?_)
      refine z_callV hC hN hR (as := [.int a2, .int (h.1 11 ((((h.1 10 4) + (nI 0)) &&& (nI 63)).toNatClampNeg))]) (rest := []) ok_X5_44 (by decide +kernel) (sp_X2_wayBetween l _ h a2 (h.1 11 ((((h.1 10 4) + (nI 0)) &&& (nI 63)).toNatClampNeg))) rfl rfl (Nat.le_of_ble_eq_true rfl) rfl rfl (Nat.le_of_ble_eq_true rfl) ⟨Nat.zero_le _, Nat.zero_le _⟩ (fun r14 h15 q16 => z_fun q16 ?_)
      refine z_go hC (pc' := 93) (ls' := [some (.ref 13), none, some (.int a2), none, some (.int s0), none]) (st' := [.int s0, .int (fv_X2_wayBetween h a2 (h.1 11 ((((h.1 10 4) + (nI 0)) &&& (nI 63)).toNatClampNeg)))]) (h' := h) (cs := []) [.iload 4] (by decide +kernel) rfl rfl trivial ?_
      refine z_icmp_gt hC (off := 31) 124 (by decide +kernel) (by decide) (fun c17 => ?_) (fun c17 => ?_)
      · skip
        have E := (if_pos c17).symm.trans E
        have T := T.1 c17
        refine z_less (ls' := [some (.ref 13), none, none, none, none, none]) (by simp [z_sub]) ?_
        exact P124  h T E
      · skip
        have E := (if_neg c17).symm.trans E
        have T := T.2 c17
        refine z_go hC (pc' := 100) (ls' := [some (.ref 13), none, some (.int a2), none, some (.int s0), none]) (st' := [.ref 4]) (h' := h) (cs := []) [.aload_n 0, .getfield 9] (by decide +kernel) rfl rfl trivial ?_
        refine z_callV hC hN hR (as := []) (rest := []) ok_X5_36 (by decide +kernel) (sp_X2_size l _ h ) rfl rfl (Nat.le_of_ble_eq_true rfl) rfl rfl (Nat.le_of_ble_eq_true rfl) ⟨Nat.zero_le _, Nat.zero_le _⟩ (fun r18 h19 q20 => z_fun q20 ?_)
        refine z_go hC (pc' := 106) (ls' := [some (.ref 13), none, some (.int a2), none, some (.int s0), none]) (st' := [.ref 13, .int ((h.1 4 4) - (nI 1))]) (h' := h) (cs := []) [.iconst 1, .isub, .aload_n 0] (by decide +kernel) rfl rfl trivial ?_
        obtain ⟨t24, T⟩ := T
        refine z_callV hC hN hR (as := []) (rest := [.int ((h.1 4 4) - (nI 1))]) ok_X5_32 (by decide +kernel) (sp_X5_wayOfBody l _ h  t24) rfl rfl (Nat.le_of_ble_eq_true rfl) rfl rfl (Nat.le_of_ble_eq_true rfl) ⟨Nat.zero_le _, Nat.zero_le _⟩ (fun r21 h22 q23 => z_fun q23 ?_)
        refine z_go hC (pc' := 114) (ls' := [some (.ref 13), none, some (.int a2), none, some (.int s0), none]) (st' := [.ref 10, .int (((h.1 4 4) - (nI 1)) - (z_vi0 (fn_X5_wayOfBody  h)))]) (h' := h) (cs := []) [.isub, .aload_n 0, .getfield 19] (by decide +kernel) rfl rfl trivial ?_
        refine z_callV hC hN hR (as := []) (rest := [.int (((h.1 4 4) - (nI 1)) - (z_vi0 (fn_X5_wayOfBody  h)))]) ok_X5_60 (by decide +kernel) (sp_X6_growth l _ h ) rfl rfl (Nat.le_of_ble_eq_true rfl) rfl rfl (Nat.le_of_ble_eq_true rfl) ⟨Nat.zero_le _, Nat.zero_le _⟩ (fun r25 h26 q27 => z_fun q27 ?_)
        refine z_icmp_lt hC (off := 7) 124 (by decide +kernel) (by decide) (fun c28 => ?_) (fun c28 => ?_)
        · skip
          have E := (if_pos c28).symm.trans E
          have T := T.1 c28
          refine z_less (ls' := [some (.ref 13), none, none, none, none, none]) (by simp [z_sub]) ?_
          exact P124  h T E
        · skip
          have E := (if_neg c28).symm.trans E
          have T := T.2 c28
          refine z_go hC (pc' := 121) (ls' := [some (.ref 13), none, some (.int a2), none, some (.int s0), none]) (st' := [.int (nI 1)]) (h' := h) (cs := []) [.iconst 1] (by decide +kernel) rfl rfl trivial ?_
          refine z_goto hC (off := 4) 125 (by decide +kernel) (by decide) ?_
          refine z_less (ls' := [some (.ref 13), none, none, none, none, none]) (by simp [z_sub]) ?_
          exact P125  (nI 1) h T E
  refine z_go hC (pc' := 5) (ls' := [some (.ref 13), some (.int x), none, none, none, none]) (st' := [.int (nI 0), .ref 10]) (h' := h) (cs := []) [.aload_n 0, .getfield 19, .iconst 0] (by decide +kernel) rfl rfl trivial ?_
  refine z_callV hC hN hR (as := [.int (nI 0)]) (rest := []) ok_X5_40 (by decide +kernel) (sp_X6_cellOf l _ h (nI 0)) rfl rfl (Nat.le_of_ble_eq_true rfl) rfl rfl (Nat.le_of_ble_eq_true rfl) ⟨Nat.zero_le _, Nat.zero_le _⟩ (fun r29 h30 q31 => z_fun q31 ?_)
  refine z_go hC (pc' := 13) (ls' := [some (.ref 13), some (.int x), some (.int (h.1 11 ((((h.1 10 4) + (nI 0)) &&& (nI 63)).toNatClampNeg))), none, none, none]) (st' := [.ref 8]) (h' := h) (cs := []) [.istore_n 2, .aload_n 0, .getfield 15] (by decide +kernel) rfl rfl trivial ?_
  refine z_callV hC hN hR (as := []) (rest := []) ok_X5_48 (by decide +kernel) (sp_X3_firstCell l _ h ) rfl rfl (Nat.le_of_ble_eq_true rfl) rfl rfl (Nat.le_of_ble_eq_true rfl) ⟨Nat.zero_le _, Nat.zero_le _⟩ (fun r32 h33 q34 => z_fun q34 ?_)
  refine z_go hC (pc' := 19) (ls' := [some (.ref 13), some (.int x), some (.int (h.1 11 ((((h.1 10 4) + (nI 0)) &&& (nI 63)).toNatClampNeg))), some (.int (fv_X3_firstCell h )), none, none]) (st' := [.int (-1), .int (fv_X3_firstCell h )]) (h' := h) (cs := []) [.istore_n 3, .iload_n 3, .iconst (-1)] (by decide +kernel) rfl rfl trivial ?_
  refine z_icmp_eq hC (off := 21) 40 (by decide +kernel) (by decide) (fun c35 => ?_) (fun c35 => ?_)
  · skip
    have E := (if_pos c35).symm.trans E
    have T := T.1 c35
    refine z_go hC (pc' := 41) (ls' := [some (.ref 13), some (.int x), some (.int (h.1 11 ((((h.1 10 4) + (nI 0)) &&& (nI 63)).toNatClampNeg))), some (.int (fv_X3_firstCell h )), none, none]) (st' := [.int (nI 0)]) (h' := h) (cs := []) [.iconst 0] (by decide +kernel) rfl rfl trivial ?_
    exact z_ret_z hB rfl (show (nI 0 = 0 ∨ nI 0 = 1) by decide) (by decide +kernel) (z_lfb (show (nI 0 = 0 ∨ nI 0 = 1) by decide) E)
  · skip
    have E := (if_neg c35).symm.trans E
    have T := T.2 c35
    refine z_go hC (pc' := 23) (ls' := [some (.ref 13), some (.int x), some (.int (h.1 11 ((((h.1 10 4) + (nI 0)) &&& (nI 63)).toNatClampNeg))), some (.int (fv_X3_firstCell h )), none, none]) (st' := [.ref 13]) (h' := h) (cs := []) [.aload_n 0] (by decide +kernel) rfl rfl trivial ?_
    obtain ⟨t39, T⟩ := T
    refine z_callV hC hN hR (as := []) (rest := []) ok_X5_53 (by decide +kernel) (sp_X5_seesOrder l _ h  t39) rfl rfl (Nat.le_of_ble_eq_true rfl) rfl rfl (Nat.le_of_ble_eq_true rfl) ⟨Nat.zero_le _, Nat.zero_le _⟩ (fun r36 h37 q38 => z_funb q38 (fun z40 => ?_))
    refine z_if_eq hC (off := 14) 40 (by decide +kernel) (by decide) (fun c41 => ?_) (fun c41 => ?_)
    · skip
      have E := (if_pos c41).symm.trans E
      have T := T.1 c41
      refine z_go hC (pc' := 41) (ls' := [some (.ref 13), some (.int x), some (.int (h.1 11 ((((h.1 10 4) + (nI 0)) &&& (nI 63)).toNatClampNeg))), some (.int (fv_X3_firstCell h )), none, none]) (st' := [.int (nI 0)]) (h' := h) (cs := []) [.iconst 0] (by decide +kernel) rfl rfl trivial ?_
      exact z_ret_z hB rfl (show (nI 0 = 0 ∨ nI 0 = 1) by decide) (by decide +kernel) (z_lfb (show (nI 0 = 0 ∨ nI 0 = 1) by decide) E)
    · skip
      have E := (if_neg c41).symm.trans E
      have T := T.2 c41
      refine z_go hC (pc' := 34) (ls' := [some (.ref 13), some (.int x), some (.int (h.1 11 ((((h.1 10 4) + (nI 0)) &&& (nI 63)).toNatClampNeg))), some (.int (fv_X3_firstCell h )), none, none]) (st' := [.int x, .ref 10]) (h' := h) (cs := []) [.aload_n 0, .getfield 19, .iload_n 1] (by decide +kernel) rfl rfl trivial ?_
      refine z_callV hC hN hR (as := [.int x]) (rest := []) ok_X5_56 (by decide +kernel) (sp_X6_advance l _ h x) rfl rfl (Nat.le_of_ble_eq_true rfl) rfl rfl (Nat.le_of_ble_eq_true rfl) ⟨Nat.zero_le _, Nat.zero_le _⟩ (fun r42 h43 q44 => z_fun q44 ?_)
      refine z_if_ne hC (off := 5) 42 (by decide +kernel) (by decide) (fun c45 => ?_) (fun c45 => ?_)
      · skip
        have E := (if_neg c45).symm.trans E
        have T := T.2 c45
        refine z_go hC (pc' := 44) (ls' := [some (.ref 13), some (.int x), some (.int (h.1 11 ((((h.1 10 4) + (nI 0)) &&& (nI 63)).toNatClampNeg))), some (.int (fv_X3_firstCell h )), none, none]) (st' := [.int (h.1 11 ((((h.1 10 4) + (nI 0)) &&& (nI 63)).toNatClampNeg)), .int (fv_X3_firstCell h )]) (h' := fh_X6_advance h x) (cs := []) [.iload_n 3, .iload_n 2] (by decide +kernel) rfl rfl trivial ?_
        refine z_icmp_ne hC (off := 13) 57 (by decide +kernel) (by decide) (fun c46 => ?_) (fun c46 => ?_)
        · skip
          have E := (if_neg c46).symm.trans E
          have T := T.2 c46
          refine z_go hC (pc' := 63) (ls' := [some (.ref 13), some (.int x), some (.int (h.1 11 ((((h.1 10 4) + (nI 0)) &&& (nI 63)).toNatClampNeg))), some (.int (fv_X3_firstCell h )), none, none]) (st' := [.int (fv_X3_firstCell h ), .int (h.1 11 ((((h.1 10 4) + (nI 0)) &&& (nI 63)).toNatClampNeg)), .ref 4]) (h' := fh_X6_advance h x) (cs := []) [.aload_n 0, .getfield 9, .iload_n 2, .iload_n 3] (by decide +kernel) rfl rfl trivial ?_
          refine z_callV hC hN hR (as := [.int (h.1 11 ((((h.1 10 4) + (nI 0)) &&& (nI 63)).toNatClampNeg)), .int (fv_X3_firstCell h )]) (rest := []) ok_X5_44 (by decide +kernel) (sp_X2_wayBetween l _ (fh_X6_advance h x) (h.1 11 ((((h.1 10 4) + (nI 0)) &&& (nI 63)).toNatClampNeg)) (fv_X3_firstCell h )) rfl rfl (Nat.le_of_ble_eq_true rfl) rfl rfl (Nat.le_of_ble_eq_true rfl) ⟨Nat.zero_le _, Nat.zero_le _⟩ (fun r47 h48 q49 => z_fun q49 ?_)
          refine z_less (ls' := [some (.ref 13), none, some (.int (h.1 11 ((((h.1 10 4) + (nI 0)) &&& (nI 63)).toNatClampNeg))), none, none, none]) (by simp [z_sub]) ?_
          exact P66  (h.1 11 ((((h.1 10 4) + (nI 0)) &&& (nI 63)).toNatClampNeg)) (fv_X2_wayBetween (fh_X6_advance h x) (h.1 11 ((((h.1 10 4) + (nI 0)) &&& (nI 63)).toNatClampNeg)) (fv_X3_firstCell h )) (fh_X6_advance h x) T E
        · skip
          have E := (if_pos c46).symm.trans E
          have T := T.1 c46
          refine z_go hC (pc' := 51) (ls' := [some (.ref 13), some (.int x), some (.int (h.1 11 ((((h.1 10 4) + (nI 0)) &&& (nI 63)).toNatClampNeg))), some (.int (fv_X3_firstCell h )), none, none]) (st' := [.ref 4]) (h' := fh_X6_advance h x) (cs := []) [.aload_n 0, .getfield 9] (by decide +kernel) rfl rfl trivial ?_
          refine z_callV hC hN hR (as := []) (rest := []) ok_X5_36 (by decide +kernel) (sp_X2_size l _ (fh_X6_advance h x) ) rfl rfl (Nat.le_of_ble_eq_true rfl) rfl rfl (Nat.le_of_ble_eq_true rfl) ⟨Nat.zero_le _, Nat.zero_le _⟩ (fun r50 h51 q52 => z_fun q52 ?_)
          refine z_goto hC (off := 12) 66 (by decide +kernel) (by decide) ?_
          refine z_less (ls' := [some (.ref 13), none, some (.int (h.1 11 ((((h.1 10 4) + (nI 0)) &&& (nI 63)).toNatClampNeg))), none, none, none]) (by simp [z_sub]) ?_
          exact P66  (h.1 11 ((((h.1 10 4) + (nI 0)) &&& (nI 63)).toNatClampNeg)) ((fh_X6_advance h x).1 4 4) (fh_X6_advance h x) T E
      · skip
        have E := (if_pos c45).symm.trans E
        have T := T.1 c45
        refine z_go hC (pc' := 41) (ls' := [some (.ref 13), some (.int x), some (.int (h.1 11 ((((h.1 10 4) + (nI 0)) &&& (nI 63)).toNatClampNeg))), some (.int (fv_X3_firstCell h )), none, none]) (st' := [.int (nI 0)]) (h' := fh_X6_advance h x) (cs := []) [.iconst 0] (by decide +kernel) rfl rfl trivial ?_
        exact z_ret_z hB rfl (show (nI 0 = 0 ∨ nI 0 = 1) by decide) (by decide +kernel) (z_lfb (show (nI 0 = 0 ∨ nI 0 = 1) by decide) E)

def fn_X5_choice_59 (k6 : Int32 → Int32 → Int32 → z_H → z_R) (a1 : Int32) (a2 : Int32) (a3 : Int32) (h : z_H) : z_R := k6 a1 a2 (a3 + (nI 1)) h
def tk_X5_choice_59 (K6 : Int32 → Int32 → Int32 → z_H → Prop) (a1 : Int32) (a2 : Int32) (a3 : Int32) (h : z_H) : Prop := K6 a1 a2 (a3 + (nI 1)) h
def fn_X5_choice_6  : Nat → Int32 → Int32 → Int32 → z_H → z_R
  | 0, _, _, _, h => (none, h)
  | n + 1, a1, a2, a3, h => let k6 := fun (a1_ : Int32) (a2_ : Int32) (a3_ : Int32) (h_ : z_H) => fn_X5_choice_6  n a1_ a2_ a3_ h_; if (nI 4) ≤ a3 then (some (.int a1), h) else if (z_vi (fn_X5_seesSafe a3 h)) = 0 then fn_X5_choice_59 k6 a1 a2 a3 ((fn_X5_seesSafe a3 h).2) else if (fv_X2_wayBetween ((fn_X5_seesSafe a3 h).2) (((fn_X5_seesSafe a3 h).2).1 11 ((((((fn_X5_seesSafe a3 h).2).1 10 4) + (nI 0)) &&& (nI 63)).toNatClampNeg)) (fv_X0_cellBeside (((fn_X5_seesSafe a3 h).2).1 11 ((((((fn_X5_seesSafe a3 h).2).1 10 4) + (nI 0)) &&& (nI 63)).toNatClampNeg)) a3)) ≤ a2 then fn_X5_choice_59 k6 a1 a2 a3 ((fn_X5_seesSafe a3 h).2) else fn_X5_choice_59 k6 a3 (fv_X2_wayBetween ((fn_X5_seesSafe a3 h).2) (((fn_X5_seesSafe a3 h).2).1 11 ((((((fn_X5_seesSafe a3 h).2).1 10 4) + (nI 0)) &&& (nI 63)).toNatClampNeg)) (fv_X0_cellBeside (((fn_X5_seesSafe a3 h).2).1 11 ((((((fn_X5_seesSafe a3 h).2).1 10 4) + (nI 0)) &&& (nI 63)).toNatClampNeg)) a3)) a3 ((fn_X5_seesSafe a3 h).2)
def tk_X5_choice_6  : Nat → Int32 → Int32 → Int32 → z_H → Prop
  | 0, _, _, _, _ => False
  | n + 1, a1, a2, a3, h => let K6 := fun (a1_ : Int32) (a2_ : Int32) (a3_ : Int32) (h_ : z_H) => tk_X5_choice_6  n a1_ a2_ a3_ h_; (((nI 4) ≤ a3) → (True)) ∧ ((¬ (nI 4) ≤ a3) → (tk_X5_seesSafe a3 h ∧ ((((z_vi (fn_X5_seesSafe a3 h)) = 0) → (tk_X5_choice_59 K6 a1 a2 a3 ((fn_X5_seesSafe a3 h).2))) ∧ ((¬ (z_vi (fn_X5_seesSafe a3 h)) = 0) → ((((fv_X2_wayBetween ((fn_X5_seesSafe a3 h).2) (((fn_X5_seesSafe a3 h).2).1 11 ((((((fn_X5_seesSafe a3 h).2).1 10 4) + (nI 0)) &&& (nI 63)).toNatClampNeg)) (fv_X0_cellBeside (((fn_X5_seesSafe a3 h).2).1 11 ((((((fn_X5_seesSafe a3 h).2).1 10 4) + (nI 0)) &&& (nI 63)).toNatClampNeg)) a3)) ≤ a2) → (tk_X5_choice_59 K6 a1 a2 a3 ((fn_X5_seesSafe a3 h).2))) ∧ ((¬ (fv_X2_wayBetween ((fn_X5_seesSafe a3 h).2) (((fn_X5_seesSafe a3 h).2).1 11 ((((((fn_X5_seesSafe a3 h).2).1 10 4) + (nI 0)) &&& (nI 63)).toNatClampNeg)) (fv_X0_cellBeside (((fn_X5_seesSafe a3 h).2).1 11 ((((((fn_X5_seesSafe a3 h).2).1 10 4) + (nI 0)) &&& (nI 63)).toNatClampNeg)) a3)) ≤ a2) → (tk_X5_choice_59 K6 a3 (fv_X2_wayBetween ((fn_X5_seesSafe a3 h).2) (((fn_X5_seesSafe a3 h).2).1 11 ((((((fn_X5_seesSafe a3 h).2).1 10 4) + (nI 0)) &&& (nI 63)).toNatClampNeg)) (fv_X0_cellBeside (((fn_X5_seesSafe a3 h).2).1 11 ((((((fn_X5_seesSafe a3 h).2).1 10 4) + (nI 0)) &&& (nI 63)).toNatClampNeg)) a3)) a3 ((fn_X5_seesSafe a3 h).2))))))))
def fn_X5_choice  (h : z_H) : z_R := fn_X5_choice_6 2000 (-1) (nI 0) (nI 0) h
def tk_X5_choice  (h : z_H) : Prop := tk_X5_choice_6 2000 (-1) (nI 0) (nI 0) h
set_option maxHeartbeats 4000000 in
set_option maxRecDepth 100000 in
theorem sp_X5_choice (l : Launch) (ext : z_Sh)  (h : z_H)   (T : tk_X5_choice  h) : z_Sp l 5 yX5_choice cX5_choice 5 (some .int) [.ref 13] (z_c ext) h (z_PI (fn_X5_choice  h)) := by
  refine z_enter ft_X5 (by decide +kernel) fo_X5 (Nat.le_of_ble_eq_true rfl) ?_
  intro p e R s m args below meth c D dA ad hB
  have hC := hB.1
  have hN := hB.2.1
  have hR := hB.2.2.1
  unfold tk_X5_choice at T; have E : (fn_X5_choice_6 2000 (-1) (nI 0) (nI 0) h) = fn_X5_choice  h := rfl
  generalize fn_X5_choice  h = RR at E ⊢
  have P59 : ∀ (k6 : Int32 → Int32 → Int32 → z_H → z_R) (K6 : Int32 → Int32 → Int32 → z_H → Prop) (hk6 : ∀ (a1 : Int32) (a2 : Int32) (a3 : Int32) (h : z_H), K6 a1 a2 a3 h → k6 a1 a2 a3 h = RR → z_G p l e R s m args below meth c D dA ad 5 (z_PI RR) (z_c ext) 6 [some (.ref 13), some (.int a1), some (.int a2), some (.int a3), none] [] h), ∀ (a1 : Int32) (a2 : Int32) (a3 : Int32) (h : z_H), tk_X5_choice_59 K6 a1 a2 a3 h → fn_X5_choice_59 k6 a1 a2 a3 h = RR → z_G p l e R s m args below meth c D dA ad 5 (z_PI RR) (z_c ext) 59 [some (.ref 13), some (.int a1), some (.int a2), some (.int a3), none] [] h := by
    intro k6 K6 hk6 a1 a2 a3 h T E
    unfold tk_X5_choice_59 at T; unfold fn_X5_choice_59 at E
    refine z_go hC (pc' := 62) (ls' := [some (.ref 13), some (.int a1), some (.int a2), some (.int (a3 + (nI 1))), none]) (st' := []) (h' := h) (cs := []) [.iinc 3 1] (by decide +kernel) rfl rfl trivial ?_
    refine z_goto hC (off := -56) 6 (by decide +kernel) (by decide) ?_
    exact hk6 a1 a2 (a3 + (nI 1)) h T E
  have P6 : ∀ (n : Nat), ∀ (a1 : Int32) (a2 : Int32) (a3 : Int32) (h : z_H), tk_X5_choice_6  n a1 a2 a3 h → fn_X5_choice_6  n a1 a2 a3 h = RR → z_G p l e R s m args below meth c D dA ad 5 (z_PI RR) (z_c ext) 6 [some (.ref 13), some (.int a1), some (.int a2), some (.int a3), none] [] h := by
    intro  n
    induction n with
    | zero => intro a1 a2 a3 h T E; exact False.elim T
    | succ n ih =>
      intro a1 a2 a3 h T E
      unfold tk_X5_choice_6 at T; unfold fn_X5_choice_6 at E; dsimp only at T E
      have hk6 := ih
      refine z_go hC (pc' := 8) (ls' := [some (.ref 13), some (.int a1), some (.int a2), some (.int a3), none]) (st' := [.int (nI 4), .int a3]) (h' := h) (cs := []) [.iload_n 3, .iconst 4] (by decide +kernel) rfl rfl trivial ?_
      refine z_icmp_ge hC (off := 57) 65 (by decide +kernel) (by decide) (fun c1 => ?_) (fun c1 => ?_)
      · skip
        have E := (if_pos c1).symm.trans E
        have T := T.1 c1
        refine z_go hC (pc' := 66) (ls' := [some (.ref 13), some (.int a1), some (.int a2), some (.int a3), none]) (st' := [.int a1]) (h' := h) (cs := []) [.iload_n 1] (by decide +kernel) rfl rfl trivial ?_
        exact z_ret_i hB rfl (by decide +kernel) (z_lfi E)
      · skip
        have E := (if_neg c1).symm.trans E
        have T := T.2 c1
        refine z_go hC (pc' := 13) (ls' := [some (.ref 13), some (.int a1), some (.int a2), some (.int a3), none]) (st' := [.int a3, .ref 13]) (h' := h) (cs := []) [.aload_n 0, .iload_n 3] (by decide +kernel) rfl rfl trivial ?_
        obtain ⟨t5, T⟩ := T
        refine z_callV hC hN hR (as := [.int a3]) (rest := []) ok_X5_66 (by decide +kernel) (sp_X5_seesSafe l _ h a3 t5) rfl rfl (Nat.le_of_ble_eq_true rfl) rfl rfl (Nat.le_of_ble_eq_true rfl) ⟨Nat.zero_le _, Nat.zero_le _⟩ (fun r2 h3 q4 => z_funb q4 (fun z6 => ?_))
        refine z_if_eq hC (off := 43) 59 (by decide +kernel) (by decide) (fun c7 => ?_) (fun c7 => ?_)
        · skip
          have E := (if_pos c7).symm.trans E
          have T := T.1 c7
          exact P59 _ _ hk6 a1 a2 a3 ((fn_X5_seesSafe a3 h).2) T E
        · skip
          have E := (if_neg c7).symm.trans E
          have T := T.2 c7
          refine z_go hC (pc' := 28) (ls' := [some (.ref 13), some (.int a1), some (.int a2), some (.int a3), none]) (st' := [.int (nI 0), .ref 10, .ref 4]) (h' := (fn_X5_seesSafe a3 h).2) (cs := []) [.aload_n 0, .getfield 9, .aload_n 0, .getfield 19, .iconst 0] (by decide +kernel) rfl rfl trivial ?_
          refine z_callV hC hN hR (as := [.int (nI 0)]) (rest := [.ref 4]) ok_X5_40 (by decide +kernel) (sp_X6_cellOf l _ ((fn_X5_seesSafe a3 h).2) (nI 0)) rfl rfl (Nat.le_of_ble_eq_true rfl) rfl rfl (Nat.le_of_ble_eq_true rfl) ⟨Nat.zero_le _, Nat.zero_le _⟩ (fun r8 h9 q10 => z_fun q10 ?_)
          refine z_go hC (pc' := 36) (ls' := [some (.ref 13), some (.int a1), some (.int a2), some (.int a3), none]) (st' := [.int (nI 0), .ref 10, .int (((fn_X5_seesSafe a3 h).2).1 11 ((((((fn_X5_seesSafe a3 h).2).1 10 4) + (nI 0)) &&& (nI 63)).toNatClampNeg)), .ref 4]) (h' := (fn_X5_seesSafe a3 h).2) (cs := []) [.aload_n 0, .getfield 19, .iconst 0] (by decide +kernel) rfl rfl trivial ?_
          refine z_callV hC hN hR (as := [.int (nI 0)]) (rest := [.int (((fn_X5_seesSafe a3 h).2).1 11 ((((((fn_X5_seesSafe a3 h).2).1 10 4) + (nI 0)) &&& (nI 63)).toNatClampNeg)), .ref 4]) ok_X5_40 (by decide +kernel) (sp_X6_cellOf l _ ((fn_X5_seesSafe a3 h).2) (nI 0)) rfl rfl (Nat.le_of_ble_eq_true rfl) rfl rfl (Nat.le_of_ble_eq_true rfl) ⟨Nat.zero_le _, Nat.zero_le _⟩ (fun r11 h12 q13 => z_fun q13 ?_)
          refine z_go hC (pc' := 40) (ls' := [some (.ref 13), some (.int a1), some (.int a2), some (.int a3), none]) (st' := [.int a3, .int (((fn_X5_seesSafe a3 h).2).1 11 ((((((fn_X5_seesSafe a3 h).2).1 10 4) + (nI 0)) &&& (nI 63)).toNatClampNeg)), .int (((fn_X5_seesSafe a3 h).2).1 11 ((((((fn_X5_seesSafe a3 h).2).1 10 4) + (nI 0)) &&& (nI 63)).toNatClampNeg)), .ref 4]) (h' := (fn_X5_seesSafe a3 h).2) (cs := []) [.iload_n 3] (by decide +kernel) rfl rfl trivial ?_
          refine z_callS hC hN hR (as := [.int (((fn_X5_seesSafe a3 h).2).1 11 ((((((fn_X5_seesSafe a3 h).2).1 10 4) + (nI 0)) &&& (nI 63)).toNatClampNeg)), .int a3]) (rest := [.int (((fn_X5_seesSafe a3 h).2).1 11 ((((((fn_X5_seesSafe a3 h).2).1 10 4) + (nI 0)) &&& (nI 63)).toNatClampNeg)), .ref 4]) ok_X5_69 (by decide +kernel) (sp_X0_cellBeside l _ ((fn_X5_seesSafe a3 h).2) (((fn_X5_seesSafe a3 h).2).1 11 ((((((fn_X5_seesSafe a3 h).2).1 10 4) + (nI 0)) &&& (nI 63)).toNatClampNeg)) a3) (Nat.le_of_ble_eq_true rfl) rfl rfl (Nat.le_of_ble_eq_true rfl) ⟨Nat.zero_le _, Nat.zero_le _⟩ (fun r14 h15 q16 => z_fun q16 ?_)
          refine z_callV hC hN hR (as := [.int (((fn_X5_seesSafe a3 h).2).1 11 ((((((fn_X5_seesSafe a3 h).2).1 10 4) + (nI 0)) &&& (nI 63)).toNatClampNeg)), .int (fv_X0_cellBeside (((fn_X5_seesSafe a3 h).2).1 11 ((((((fn_X5_seesSafe a3 h).2).1 10 4) + (nI 0)) &&& (nI 63)).toNatClampNeg)) a3)]) (rest := []) ok_X5_44 (by decide +kernel) (sp_X2_wayBetween l _ ((fn_X5_seesSafe a3 h).2) (((fn_X5_seesSafe a3 h).2).1 11 ((((((fn_X5_seesSafe a3 h).2).1 10 4) + (nI 0)) &&& (nI 63)).toNatClampNeg)) (fv_X0_cellBeside (((fn_X5_seesSafe a3 h).2).1 11 ((((((fn_X5_seesSafe a3 h).2).1 10 4) + (nI 0)) &&& (nI 63)).toNatClampNeg)) a3)) rfl rfl (Nat.le_of_ble_eq_true rfl) rfl rfl (Nat.le_of_ble_eq_true rfl) ⟨Nat.zero_le _, Nat.zero_le _⟩ (fun r17 h18 q19 => z_fun q19 ?_)
          refine z_go hC (pc' := 51) (ls' := [some (.ref 13), some (.int a1), some (.int a2), some (.int a3), some (.int (fv_X2_wayBetween ((fn_X5_seesSafe a3 h).2) (((fn_X5_seesSafe a3 h).2).1 11 ((((((fn_X5_seesSafe a3 h).2).1 10 4) + (nI 0)) &&& (nI 63)).toNatClampNeg)) (fv_X0_cellBeside (((fn_X5_seesSafe a3 h).2).1 11 ((((((fn_X5_seesSafe a3 h).2).1 10 4) + (nI 0)) &&& (nI 63)).toNatClampNeg)) a3)))]) (st' := [.int a2, .int (fv_X2_wayBetween ((fn_X5_seesSafe a3 h).2) (((fn_X5_seesSafe a3 h).2).1 11 ((((((fn_X5_seesSafe a3 h).2).1 10 4) + (nI 0)) &&& (nI 63)).toNatClampNeg)) (fv_X0_cellBeside (((fn_X5_seesSafe a3 h).2).1 11 ((((((fn_X5_seesSafe a3 h).2).1 10 4) + (nI 0)) &&& (nI 63)).toNatClampNeg)) a3))]) (h' := (fn_X5_seesSafe a3 h).2) (cs := []) [.istore 4, .iload 4, .iload_n 2] (by decide +kernel) rfl rfl trivial ?_
          refine z_icmp_le hC (off := 8) 59 (by decide +kernel) (by decide) (fun c20 => ?_) (fun c20 => ?_)
          · skip
            have E := (if_pos c20).symm.trans E
            have T := T.1 c20
            refine z_less (ls' := [some (.ref 13), some (.int a1), some (.int a2), some (.int a3), none]) (by simp [z_sub]) ?_
            exact P59 _ _ hk6 a1 a2 a3 ((fn_X5_seesSafe a3 h).2) T E
          · skip
            have E := (if_neg c20).symm.trans E
            have T := T.2 c20
            refine z_go hC (pc' := 59) (ls' := [some (.ref 13), some (.int a3), some (.int (fv_X2_wayBetween ((fn_X5_seesSafe a3 h).2) (((fn_X5_seesSafe a3 h).2).1 11 ((((((fn_X5_seesSafe a3 h).2).1 10 4) + (nI 0)) &&& (nI 63)).toNatClampNeg)) (fv_X0_cellBeside (((fn_X5_seesSafe a3 h).2).1 11 ((((((fn_X5_seesSafe a3 h).2).1 10 4) + (nI 0)) &&& (nI 63)).toNatClampNeg)) a3))), some (.int a3), some (.int (fv_X2_wayBetween ((fn_X5_seesSafe a3 h).2) (((fn_X5_seesSafe a3 h).2).1 11 ((((((fn_X5_seesSafe a3 h).2).1 10 4) + (nI 0)) &&& (nI 63)).toNatClampNeg)) (fv_X0_cellBeside (((fn_X5_seesSafe a3 h).2).1 11 ((((((fn_X5_seesSafe a3 h).2).1 10 4) + (nI 0)) &&& (nI 63)).toNatClampNeg)) a3)))]) (st' := []) (h' := (fn_X5_seesSafe a3 h).2) (cs := []) [.iload_n 3, .istore_n 1, .iload 4, .istore_n 2] (by decide +kernel) rfl rfl trivial ?_
            refine z_less (ls' := [some (.ref 13), some (.int a3), some (.int (fv_X2_wayBetween ((fn_X5_seesSafe a3 h).2) (((fn_X5_seesSafe a3 h).2).1 11 ((((((fn_X5_seesSafe a3 h).2).1 10 4) + (nI 0)) &&& (nI 63)).toNatClampNeg)) (fv_X0_cellBeside (((fn_X5_seesSafe a3 h).2).1 11 ((((((fn_X5_seesSafe a3 h).2).1 10 4) + (nI 0)) &&& (nI 63)).toNatClampNeg)) a3))), some (.int a3), none]) (by simp [z_sub]) ?_
            exact P59 _ _ hk6 a3 (fv_X2_wayBetween ((fn_X5_seesSafe a3 h).2) (((fn_X5_seesSafe a3 h).2).1 11 ((((((fn_X5_seesSafe a3 h).2).1 10 4) + (nI 0)) &&& (nI 63)).toNatClampNeg)) (fv_X0_cellBeside (((fn_X5_seesSafe a3 h).2).1 11 ((((((fn_X5_seesSafe a3 h).2).1 10 4) + (nI 0)) &&& (nI 63)).toNatClampNeg)) a3)) a3 ((fn_X5_seesSafe a3 h).2) T E
  refine z_go hC (pc' := 6) (ls' := [some (.ref 13), some (.int (-1)), some (.int (nI 0)), some (.int (nI 0)), none]) (st' := []) (h' := h) (cs := []) [.iconst (-1), .istore_n 1, .iconst 0, .istore_n 2, .iconst 0, .istore_n 3] (by decide +kernel) rfl rfl trivial ?_
  exact P6 2000 (-1) (nI 0) (nI 0) h T E

def fn_X4_countReached_135 (k45 : Int64 → Int32 → Int32 → z_H → z_R) (k61 : Int64 → Int32 → Int32 → Int32 → z_H → z_R) (a1 : Int64) (a3 : Int32) (a4 : Int32) (a5 : Int32) (h : z_H) : z_R := k61 a1 a3 a4 (a5 + (nI 1)) h
def tk_X4_countReached_135 (K45 : Int64 → Int32 → Int32 → z_H → Prop) (K61 : Int64 → Int32 → Int32 → Int32 → z_H → Prop) (a1 : Int64) (a3 : Int32) (a4 : Int32) (a5 : Int32) (h : z_H) : Prop := K61 a1 a3 a4 (a5 + (nI 1)) h
def fn_X4_countReached_61 (k45 : Int64 → Int32 → Int32 → z_H → z_R) : Nat → Int64 → Int32 → Int32 → Int32 → z_H → z_R
  | 0, _, _, _, _, h => (none, h)
  | n + 1, a1, a3, a4, a5, h => let k61 := fun (a1_ : Int64) (a3_ : Int32) (a4_ : Int32) (a5_ : Int32) (h_ : z_H) => fn_X4_countReached_61 k45 n a1_ a3_ a4_ a5_ h_; if (nI 4) ≤ a5 then k45 a1 a3 (a4 + (nI 1)) h else if (fv_X0_goFrom h (z_atv h 15 36 a4) a5) = (-1) then fn_X4_countReached_135 k45 k61 a1 a3 a4 a5 h else if (fv_X7_isIn a1 (fv_X0_goFrom h (z_atv h 15 36 a4) a5)) = 0 then if (fv_X7_isIn (h.2 10 7) (fv_X0_goFrom h (z_atv h 15 36 a4) a5)) = 0 then fn_X4_countReached_135 k45 k61 (a1 ||| (fv_X7_setOf (fv_X0_goFrom h (z_atv h 15 36 a4) a5))) (a3 + (nI 1)) a4 a5 (z_putv h 15 36 a3 (fv_X0_goFrom h (z_atv h 15 36 a4) a5)) else fn_X4_countReached_135 k45 k61 a1 a3 a4 a5 h else fn_X4_countReached_135 k45 k61 a1 a3 a4 a5 h
def tk_X4_countReached_61 (K45 : Int64 → Int32 → Int32 → z_H → Prop) : Nat → Int64 → Int32 → Int32 → Int32 → z_H → Prop
  | 0, _, _, _, _, _ => False
  | n + 1, a1, a3, a4, a5, h => let K61 := fun (a1_ : Int64) (a3_ : Int32) (a4_ : Int32) (a5_ : Int32) (h_ : z_H) => tk_X4_countReached_61 K45 n a1_ a3_ a4_ a5_ h_; (((nI 4) ≤ a5) → (K45 a1 a3 (a4 + (nI 1)) h)) ∧ ((¬ (nI 4) ≤ a5) → ((((fv_X0_goFrom h (z_atv h 15 36 a4) a5) = (-1)) → (tk_X4_countReached_135 K45 K61 a1 a3 a4 a5 h)) ∧ ((¬ (fv_X0_goFrom h (z_atv h 15 36 a4) a5) = (-1)) → ((((fv_X7_isIn a1 (fv_X0_goFrom h (z_atv h 15 36 a4) a5)) = 0) → ((((fv_X7_isIn (h.2 10 7) (fv_X0_goFrom h (z_atv h 15 36 a4) a5)) = 0) → (tk_X4_countReached_135 K45 K61 (a1 ||| (fv_X7_setOf (fv_X0_goFrom h (z_atv h 15 36 a4) a5))) (a3 + (nI 1)) a4 a5 (z_putv h 15 36 a3 (fv_X0_goFrom h (z_atv h 15 36 a4) a5)))) ∧ ((¬ (fv_X7_isIn (h.2 10 7) (fv_X0_goFrom h (z_atv h 15 36 a4) a5)) = 0) → (tk_X4_countReached_135 K45 K61 a1 a3 a4 a5 h)))) ∧ ((¬ (fv_X7_isIn a1 (fv_X0_goFrom h (z_atv h 15 36 a4) a5)) = 0) → (tk_X4_countReached_135 K45 K61 a1 a3 a4 a5 h))))))
def fn_X4_countReached_45  : Nat → Int64 → Int32 → Int32 → z_H → z_R
  | 0, _, _, _, h => (none, h)
  | n + 1, a1, a3, a4, h => let k45 := fun (a1_ : Int64) (a3_ : Int32) (a4_ : Int32) (h_ : z_H) => fn_X4_countReached_45  n a1_ a3_ a4_ h_; if a3 ≤ a4 then (some (.int (a3 - (nI 1))), h) else if (nI 36) ≤ a4 then (some (.int (a3 - (nI 1))), h) else fn_X4_countReached_61 k45 2000 a1 a3 a4 (nI 0) h
def tk_X4_countReached_45  : Nat → Int64 → Int32 → Int32 → z_H → Prop
  | 0, _, _, _, _ => False
  | n + 1, a1, a3, a4, h => let K45 := fun (a1_ : Int64) (a3_ : Int32) (a4_ : Int32) (h_ : z_H) => tk_X4_countReached_45  n a1_ a3_ a4_ h_; ((a3 ≤ a4) → (True)) ∧ ((¬ a3 ≤ a4) → ((((nI 36) ≤ a4) → (True)) ∧ ((¬ (nI 36) ≤ a4) → (tk_X4_countReached_61 K45 2000 a1 a3 a4 (nI 0) h))))
def fn_X4_countReached  (h : z_H) : z_R := if (fv_X6_isThere h ) = 0 then (some (.int (nI 0)), h) else fn_X4_countReached_45 2000 (fv_X7_setOf ((z_putv h 15 36 (nI 0) (h.1 11 ((((h.1 10 4) + (nI 0)) &&& (nI 63)).toNatClampNeg))).1 11 (((((z_putv h 15 36 (nI 0) (h.1 11 ((((h.1 10 4) + (nI 0)) &&& (nI 63)).toNatClampNeg))).1 10 4) + (nI 0)) &&& (nI 63)).toNatClampNeg))) (nI 1) (nI 0) (z_putv h 15 36 (nI 0) (h.1 11 ((((h.1 10 4) + (nI 0)) &&& (nI 63)).toNatClampNeg)))
def tk_X4_countReached  (h : z_H) : Prop := (((fv_X6_isThere h ) = 0) → (True)) ∧ ((¬ (fv_X6_isThere h ) = 0) → (tk_X4_countReached_45 2000 (fv_X7_setOf ((z_putv h 15 36 (nI 0) (h.1 11 ((((h.1 10 4) + (nI 0)) &&& (nI 63)).toNatClampNeg))).1 11 (((((z_putv h 15 36 (nI 0) (h.1 11 ((((h.1 10 4) + (nI 0)) &&& (nI 63)).toNatClampNeg))).1 10 4) + (nI 0)) &&& (nI 63)).toNatClampNeg))) (nI 1) (nI 0) (z_putv h 15 36 (nI 0) (h.1 11 ((((h.1 10 4) + (nI 0)) &&& (nI 63)).toNatClampNeg)))))
set_option maxHeartbeats 4000000 in
set_option maxRecDepth 100000 in
theorem sp_X4_countReached (l : Launch) (ext : z_Sh)  (h : z_H)   (T : tk_X4_countReached  h) : z_Sp l 3 yX4_countReached cX4_countReached 7 (some .int) [.ref 14] (z_c ext) h (z_PI (fn_X4_countReached  h)) := by
  refine z_enter ft_X4 (by decide +kernel) fo_X4 (Nat.le_of_ble_eq_true rfl) ?_
  intro p e R s m args below meth c D dA ad hB
  have hC := hB.1
  have hN := hB.2.1
  have hR := hB.2.2.1
  unfold tk_X4_countReached at T; have E : (if (fv_X6_isThere h ) = 0 then (some (.int (nI 0)), h) else fn_X4_countReached_45 2000 (fv_X7_setOf ((z_putv h 15 36 (nI 0) (h.1 11 ((((h.1 10 4) + (nI 0)) &&& (nI 63)).toNatClampNeg))).1 11 (((((z_putv h 15 36 (nI 0) (h.1 11 ((((h.1 10 4) + (nI 0)) &&& (nI 63)).toNatClampNeg))).1 10 4) + (nI 0)) &&& (nI 63)).toNatClampNeg))) (nI 1) (nI 0) (z_putv h 15 36 (nI 0) (h.1 11 ((((h.1 10 4) + (nI 0)) &&& (nI 63)).toNatClampNeg)))) = fn_X4_countReached  h := rfl
  generalize fn_X4_countReached  h = RR at E ⊢
  have P135 : ∀ (k45 : Int64 → Int32 → Int32 → z_H → z_R) (K45 : Int64 → Int32 → Int32 → z_H → Prop) (hk45 : ∀ (a1 : Int64) (a3 : Int32) (a4 : Int32) (h : z_H), K45 a1 a3 a4 h → k45 a1 a3 a4 h = RR → z_G p l e R s m args below meth c D dA ad 7 (z_PI RR) (z_c ext) 45 [some (.ref 14), some (.long a1), none, some (.int a3), some (.int a4), none, none] [] h), ∀ (k61 : Int64 → Int32 → Int32 → Int32 → z_H → z_R) (K61 : Int64 → Int32 → Int32 → Int32 → z_H → Prop) (hk61 : ∀ (a1 : Int64) (a3 : Int32) (a4 : Int32) (a5 : Int32) (h : z_H), K61 a1 a3 a4 a5 h → k61 a1 a3 a4 a5 h = RR → z_G p l e R s m args below meth c D dA ad 7 (z_PI RR) (z_c ext) 61 [some (.ref 14), some (.long a1), none, some (.int a3), some (.int a4), some (.int a5), none] [] h), ∀ (a1 : Int64) (a3 : Int32) (a4 : Int32) (a5 : Int32) (h : z_H), tk_X4_countReached_135 K45 K61 a1 a3 a4 a5 h → fn_X4_countReached_135 k45 k61 a1 a3 a4 a5 h = RR → z_G p l e R s m args below meth c D dA ad 7 (z_PI RR) (z_c ext) 135 [some (.ref 14), some (.long a1), none, some (.int a3), some (.int a4), some (.int a5), none] [] h := by
    intro k45 K45 hk45 k61 K61 hk61 a1 a3 a4 a5 h T E
    unfold tk_X4_countReached_135 at T; unfold fn_X4_countReached_135 at E
    refine z_go hC (pc' := 138) (ls' := [some (.ref 14), some (.long a1), none, some (.int a3), some (.int a4), some (.int (a5 + (nI 1))), none]) (st' := []) (h' := h) (cs := []) [.iinc 5 1] (by decide +kernel) rfl rfl trivial ?_
    refine z_goto hC (off := -77) 61 (by decide +kernel) (by decide) ?_
    exact hk61 a1 a3 a4 (a5 + (nI 1)) h T E
  have P61 : ∀ (k45 : Int64 → Int32 → Int32 → z_H → z_R) (K45 : Int64 → Int32 → Int32 → z_H → Prop) (hk45 : ∀ (a1 : Int64) (a3 : Int32) (a4 : Int32) (h : z_H), K45 a1 a3 a4 h → k45 a1 a3 a4 h = RR → z_G p l e R s m args below meth c D dA ad 7 (z_PI RR) (z_c ext) 45 [some (.ref 14), some (.long a1), none, some (.int a3), some (.int a4), none, none] [] h), ∀ (n : Nat), ∀ (a1 : Int64) (a3 : Int32) (a4 : Int32) (a5 : Int32) (h : z_H), tk_X4_countReached_61 K45 n a1 a3 a4 a5 h → fn_X4_countReached_61 k45 n a1 a3 a4 a5 h = RR → z_G p l e R s m args below meth c D dA ad 7 (z_PI RR) (z_c ext) 61 [some (.ref 14), some (.long a1), none, some (.int a3), some (.int a4), some (.int a5), none] [] h := by
    intro k45 K45 hk45 n
    induction n with
    | zero => intro a1 a3 a4 a5 h T E; exact False.elim T
    | succ n ih =>
      intro a1 a3 a4 a5 h T E
      unfold tk_X4_countReached_61 at T; unfold fn_X4_countReached_61 at E; dsimp only at T E
      have hk61 := ih
      refine z_go hC (pc' := 64) (ls' := [some (.ref 14), some (.long a1), none, some (.int a3), some (.int a4), some (.int a5), none]) (st' := [.int (nI 4), .int a5]) (h' := h) (cs := []) [.iload 5, .iconst 4] (by decide +kernel) rfl rfl trivial ?_
      refine z_icmp_ge hC (off := 77) 141 (by decide +kernel) (by decide) (fun c1 => ?_) (fun c1 => ?_)
      · skip
        have E := (if_pos c1).symm.trans E
        have T := T.1 c1
        refine z_go hC (pc' := 144) (ls' := [some (.ref 14), some (.long a1), none, some (.int a3), some (.int (a4 + (nI 1))), some (.int a5), none]) (st' := []) (h' := h) (cs := []) [.iinc 4 1] (by decide +kernel) rfl rfl trivial ?_
        refine z_goto hC (off := -99) 45 (by decide +kernel) (by decide) ?_
        refine z_less (ls' := [some (.ref 14), some (.long a1), none, some (.int a3), some (.int (a4 + (nI 1))), none, none]) (by simp [z_sub]) ?_
        exact hk45 a1 a3 (a4 + (nI 1)) h T E
      · skip
        have E := (if_neg c1).symm.trans E
        have T := T.2 c1
        refine z_go hC (pc' := 77) (ls' := [some (.ref 14), some (.long a1), none, some (.int a3), some (.int a4), some (.int a5), none]) (st' := [.int a4, .ref 15, .ref 1]) (h' := h) (cs := []) [.aload_n 0, .getfield 25, .aload_n 0, .getfield 9, .iload 4] (by decide +kernel) rfl rfl trivial ?_
        refine z_callSN hC hN hR (as := [.ref 15, .int a4]) (rest := [.ref 1]) ok_X4_55 (by decide +kernel) (sp_X7_at l _ h 15 36 [] a4 rfl (by decide)) (Nat.le_of_ble_eq_true rfl) rfl rfl (Nat.le_of_ble_eq_true rfl) ⟨Nat.zero_le _, Nat.zero_le _⟩ (fun r2 h3 q4 => z_fun q4 ?_)
        refine z_go hC (pc' := 82) (ls' := [some (.ref 14), some (.long a1), none, some (.int a3), some (.int a4), some (.int a5), none]) (st' := [.int a5, .int (z_atv h 15 36 a4), .ref 1]) (h' := h) (cs := []) [.iload 5] (by decide +kernel) rfl rfl trivial ?_
        refine z_callV hC hN hR (as := [.int (z_atv h 15 36 a4), .int a5]) (rest := []) ok_X4_59 (by decide +kernel) (sp_X0_goFrom l _ h (z_atv h 15 36 a4) a5) rfl rfl (Nat.le_of_ble_eq_true rfl) rfl rfl (Nat.le_of_ble_eq_true rfl) ⟨Nat.zero_le _, Nat.zero_le _⟩ (fun r5 h6 q7 => z_fun q7 ?_)
        refine z_go hC (pc' := 90) (ls' := [some (.ref 14), some (.long a1), none, some (.int a3), some (.int a4), some (.int a5), some (.int (fv_X0_goFrom h (z_atv h 15 36 a4) a5))]) (st' := [.int (-1), .int (fv_X0_goFrom h (z_atv h 15 36 a4) a5)]) (h' := h) (cs := []) [.istore 6, .iload 6, .iconst (-1)] (by decide +kernel) rfl rfl trivial ?_
        refine z_icmp_eq hC (off := 45) 135 (by decide +kernel) (by decide) (fun c8 => ?_) (fun c8 => ?_)
        · skip
          have E := (if_pos c8).symm.trans E
          have T := T.1 c8
          refine z_less (ls' := [some (.ref 14), some (.long a1), none, some (.int a3), some (.int a4), some (.int a5), none]) (by simp [z_sub]) ?_
          exact P135 _ _ hk45 _ _ hk61 a1 a3 a4 a5 h T E
        · skip
          have E := (if_neg c8).symm.trans E
          have T := T.2 c8
          refine z_go hC (pc' := 96) (ls' := [some (.ref 14), some (.long a1), none, some (.int a3), some (.int a4), some (.int a5), some (.int (fv_X0_goFrom h (z_atv h 15 36 a4) a5))]) (st' := [.int (fv_X0_goFrom h (z_atv h 15 36 a4) a5), .long a1]) (h' := h) (cs := []) [.lload_n 1, .iload 6] (by decide +kernel) rfl rfl trivial ?_
          refine z_callSN hC hN hR (as := [.long a1, .int (fv_X0_goFrom h (z_atv h 15 36 a4) a5)]) (rest := []) ok_X4_65 (by decide +kernel) (sp_X7_isIn l _ h a1 (fv_X0_goFrom h (z_atv h 15 36 a4) a5)) (Nat.le_of_ble_eq_true rfl) rfl rfl (Nat.le_of_ble_eq_true rfl) ⟨Nat.zero_le _, Nat.zero_le _⟩ (fun r9 h10 q11 => z_fun q11 ?_)
          refine z_if_ne hC (off := 36) 135 (by decide +kernel) (by decide) (fun c12 => ?_) (fun c12 => ?_)
          · skip
            have E := (if_neg c12).symm.trans E
            have T := T.2 c12
            refine z_less (ls' := [some (.ref 14), some (.long a1), none, some (.int a3), some (.int a4), some (.int a5), none]) (by simp [z_sub]) ?_
            exact P135 _ _ hk45 _ _ hk61 a1 a3 a4 a5 h T E
          · skip
            have E := (if_pos c12).symm.trans E
            have T := T.1 c12
            refine z_go hC (pc' := 108) (ls' := [some (.ref 14), some (.long a1), none, some (.int a3), some (.int a4), some (.int a5), some (.int (fv_X0_goFrom h (z_atv h 15 36 a4) a5))]) (st' := [.int (fv_X0_goFrom h (z_atv h 15 36 a4) a5), .ref 10]) (h' := h) (cs := []) [.aload_n 0, .getfield 33, .iload 6] (by decide +kernel) rfl rfl trivial ?_
            refine z_callV hC hN hR (as := [.int (fv_X0_goFrom h (z_atv h 15 36 a4) a5)]) (rest := []) ok_X4_69 (by decide +kernel) (sp_X6_isOn l _ h (fv_X0_goFrom h (z_atv h 15 36 a4) a5)) rfl rfl (Nat.le_of_ble_eq_true rfl) rfl rfl (Nat.le_of_ble_eq_true rfl) ⟨Nat.zero_le _, Nat.zero_le _⟩ (fun r13 h14 q15 => z_fun q15 ?_)
            refine z_if_ne hC (off := 24) 135 (by decide +kernel) (by decide) (fun c16 => ?_) (fun c16 => ?_)
            · skip
              have E := (if_neg c16).symm.trans E
              have T := T.2 c16
              refine z_less (ls' := [some (.ref 14), some (.long a1), none, some (.int a3), some (.int a4), some (.int a5), none]) (by simp [z_sub]) ?_
              exact P135 _ _ hk45 _ _ hk61 a1 a3 a4 a5 h T E
            · skip
              have E := (if_pos c16).symm.trans E
              have T := T.1 c16
              refine z_go hC (pc' := 121) (ls' := [some (.ref 14), some (.long a1), none, some (.int a3), some (.int a4), some (.int a5), some (.int (fv_X0_goFrom h (z_atv h 15 36 a4) a5))]) (st' := [.int (fv_X0_goFrom h (z_atv h 15 36 a4) a5), .int a3, .ref 15]) (h' := h) (cs := []) [.aload_n 0, .getfield 9, .iload_n 3, .iload 6] (by decide +kernel) rfl rfl trivial ?_
              refine z_callSN hC hN hR (as := [.ref 15, .int a3, .int (fv_X0_goFrom h (z_atv h 15 36 a4) a5)]) (rest := []) ok_X4_47 (by decide +kernel) (sp_X7_put l _ h 15 36 [] a3 (fv_X0_goFrom h (z_atv h 15 36 a4) a5) rfl (by decide)) (Nat.le_of_ble_eq_true rfl) rfl rfl (Nat.le_of_ble_eq_true rfl) ⟨Nat.zero_le _, Nat.zero_le _⟩ (fun r17 h18 q19 => z_fun q19 ?_)
              refine z_go hC (pc' := 127) (ls' := [some (.ref 14), some (.long a1), none, some (.int a3), some (.int a4), some (.int a5), some (.int (fv_X0_goFrom h (z_atv h 15 36 a4) a5))]) (st' := [.int (fv_X0_goFrom h (z_atv h 15 36 a4) a5), .long a1]) (h' := z_putv h 15 36 a3 (fv_X0_goFrom h (z_atv h 15 36 a4) a5)) (cs := []) [.lload_n 1, .iload 6] (by decide +kernel) rfl rfl trivial ?_
              refine z_callSN hC hN hR (as := [.int (fv_X0_goFrom h (z_atv h 15 36 a4) a5)]) (rest := [.long a1]) ok_X4_51 (by decide +kernel) (sp_X7_setOf l _ (z_putv h 15 36 a3 (fv_X0_goFrom h (z_atv h 15 36 a4) a5)) (fv_X0_goFrom h (z_atv h 15 36 a4) a5)) (Nat.le_of_ble_eq_true rfl) rfl rfl (Nat.le_of_ble_eq_true rfl) ⟨Nat.zero_le _, Nat.zero_le _⟩ (fun r20 h21 q22 => z_fun q22 ?_)
              refine z_go hC (pc' := 135) (ls' := [some (.ref 14), some (.long (a1 ||| (fv_X7_setOf (fv_X0_goFrom h (z_atv h 15 36 a4) a5)))), none, some (.int (a3 + (nI 1))), some (.int a4), some (.int a5), some (.int (fv_X0_goFrom h (z_atv h 15 36 a4) a5))]) (st' := []) (h' := z_putv h 15 36 a3 (fv_X0_goFrom h (z_atv h 15 36 a4) a5)) (cs := []) [.lor, .lstore_n 1, .iinc 3 1] (by decide +kernel) rfl rfl trivial ?_
              refine z_less (ls' := [some (.ref 14), some (.long (a1 ||| (fv_X7_setOf (fv_X0_goFrom h (z_atv h 15 36 a4) a5)))), none, some (.int (a3 + (nI 1))), some (.int a4), some (.int a5), none]) (by simp [z_sub]) ?_
              exact P135 _ _ hk45 _ _ hk61 (a1 ||| (fv_X7_setOf (fv_X0_goFrom h (z_atv h 15 36 a4) a5))) (a3 + (nI 1)) a4 a5 (z_putv h 15 36 a3 (fv_X0_goFrom h (z_atv h 15 36 a4) a5)) T E
  have P45 : ∀ (n : Nat), ∀ (a1 : Int64) (a3 : Int32) (a4 : Int32) (h : z_H), tk_X4_countReached_45  n a1 a3 a4 h → fn_X4_countReached_45  n a1 a3 a4 h = RR → z_G p l e R s m args below meth c D dA ad 7 (z_PI RR) (z_c ext) 45 [some (.ref 14), some (.long a1), none, some (.int a3), some (.int a4), none, none] [] h := by
    intro  n
    induction n with
    | zero => intro a1 a3 a4 h T E; exact False.elim T
    | succ n ih =>
      intro a1 a3 a4 h T E
      unfold tk_X4_countReached_45 at T; unfold fn_X4_countReached_45 at E; dsimp only at T E
      have hk45 := ih
      refine z_go hC (pc' := 48) (ls' := [some (.ref 14), some (.long a1), none, some (.int a3), some (.int a4), none, none]) (st' := [.int a3, .int a4]) (h' := h) (cs := []) [.iload 4, .iload_n 3] (by decide +kernel) rfl rfl trivial ?_
      refine z_icmp_ge hC (off := 99) 147 (by decide +kernel) (by decide) (fun c23 => ?_) (fun c23 => ?_)
      · skip
        have E := (if_pos c23).symm.trans E
        have T := T.1 c23
        refine z_go hC (pc' := 150) (ls' := [some (.ref 14), some (.long a1), none, some (.int a3), some (.int a4), none, none]) (st' := [.int (a3 - (nI 1))]) (h' := h) (cs := []) [.iload_n 3, .iconst 1, .isub] (by decide +kernel) rfl rfl trivial ?_
        exact z_ret_i hB rfl (by decide +kernel) (z_lfi E)
      · skip
        have E := (if_neg c23).symm.trans E
        have T := T.2 c23
        refine z_go hC (pc' := 55) (ls' := [some (.ref 14), some (.long a1), none, some (.int a3), some (.int a4), none, none]) (st' := [.int (nI 36), .int a4]) (h' := h) (cs := []) [.iload 4, .bipush 36] (by decide +kernel) rfl rfl trivial ?_
        refine z_icmp_ge hC (off := 92) 147 (by decide +kernel) (by decide) (fun c24 => ?_) (fun c24 => ?_)
        · skip
          have E := (if_pos c24).symm.trans E
          have T := T.1 c24
          refine z_go hC (pc' := 150) (ls' := [some (.ref 14), some (.long a1), none, some (.int a3), some (.int a4), none, none]) (st' := [.int (a3 - (nI 1))]) (h' := h) (cs := []) [.iload_n 3, .iconst 1, .isub] (by decide +kernel) rfl rfl trivial ?_
          exact z_ret_i hB rfl (by decide +kernel) (z_lfi E)
        · skip
          have E := (if_neg c24).symm.trans E
          have T := T.2 c24
          refine z_go hC (pc' := 61) (ls' := [some (.ref 14), some (.long a1), none, some (.int a3), some (.int a4), some (.int (nI 0)), none]) (st' := []) (h' := h) (cs := []) [.iconst 0, .istore 5] (by decide +kernel) rfl rfl trivial ?_
          exact P61 _ _ hk45 2000 a1 a3 a4 (nI 0) h T E
  refine z_go hC (pc' := 4) (ls' := [some (.ref 14), none, none, none, none, none, none]) (st' := [.ref 10]) (h' := h) (cs := []) [.aload_n 0, .getfield 33] (by decide +kernel) rfl rfl trivial ?_
  refine z_callV hC hN hR (as := []) (rest := []) ok_X4_37 (by decide +kernel) (sp_X6_isThere l _ h ) rfl rfl (Nat.le_of_ble_eq_true rfl) rfl rfl (Nat.le_of_ble_eq_true rfl) ⟨Nat.zero_le _, Nat.zero_le _⟩ (fun r25 h26 q27 => z_fun q27 ?_)
  refine z_if_ne hC (off := 5) 12 (by decide +kernel) (by decide) (fun c28 => ?_) (fun c28 => ?_)
  · skip
    have E := (if_neg c28).symm.trans E
    have T := T.2 c28
    refine z_go hC (pc' := 22) (ls' := [some (.ref 14), none, none, none, none, none, none]) (st' := [.int (nI 0), .ref 10, .int (nI 0), .ref 15]) (h' := h) (cs := []) [.aload_n 0, .getfield 9, .iconst 0, .aload_n 0, .getfield 33, .iconst 0] (by decide +kernel) rfl rfl trivial ?_
    refine z_callV hC hN hR (as := [.int (nI 0)]) (rest := [.int (nI 0), .ref 15]) ok_X4_43 (by decide +kernel) (sp_X6_cellOf l _ h (nI 0)) rfl rfl (Nat.le_of_ble_eq_true rfl) rfl rfl (Nat.le_of_ble_eq_true rfl) ⟨Nat.zero_le _, Nat.zero_le _⟩ (fun r29 h30 q31 => z_fun q31 ?_)
    refine z_callSN hC hN hR (as := [.ref 15, .int (nI 0), .int (h.1 11 ((((h.1 10 4) + (nI 0)) &&& (nI 63)).toNatClampNeg))]) (rest := []) ok_X4_47 (by decide +kernel) (sp_X7_put l _ h 15 36 [] (nI 0) (h.1 11 ((((h.1 10 4) + (nI 0)) &&& (nI 63)).toNatClampNeg)) rfl (by decide)) (Nat.le_of_ble_eq_true rfl) rfl rfl (Nat.le_of_ble_eq_true rfl) ⟨Nat.zero_le _, Nat.zero_le _⟩ (fun r32 h33 q34 => z_fun q34 ?_)
    refine z_go hC (pc' := 33) (ls' := [some (.ref 14), none, none, none, none, none, none]) (st' := [.int (nI 0), .ref 10]) (h' := z_putv h 15 36 (nI 0) (h.1 11 ((((h.1 10 4) + (nI 0)) &&& (nI 63)).toNatClampNeg))) (cs := []) [.aload_n 0, .getfield 33, .iconst 0] (by decide +kernel) rfl rfl trivial ?_
    refine z_callV hC hN hR (as := [.int (nI 0)]) (rest := []) ok_X4_43 (by decide +kernel) (sp_X6_cellOf l _ (z_putv h 15 36 (nI 0) (h.1 11 ((((h.1 10 4) + (nI 0)) &&& (nI 63)).toNatClampNeg))) (nI 0)) rfl rfl (Nat.le_of_ble_eq_true rfl) rfl rfl (Nat.le_of_ble_eq_true rfl) ⟨Nat.zero_le _, Nat.zero_le _⟩ (fun r35 h36 q37 => z_fun q37 ?_)
    refine z_callSN hC hN hR (as := [.int ((z_putv h 15 36 (nI 0) (h.1 11 ((((h.1 10 4) + (nI 0)) &&& (nI 63)).toNatClampNeg))).1 11 (((((z_putv h 15 36 (nI 0) (h.1 11 ((((h.1 10 4) + (nI 0)) &&& (nI 63)).toNatClampNeg))).1 10 4) + (nI 0)) &&& (nI 63)).toNatClampNeg))]) (rest := []) ok_X4_51 (by decide +kernel) (sp_X7_setOf l _ (z_putv h 15 36 (nI 0) (h.1 11 ((((h.1 10 4) + (nI 0)) &&& (nI 63)).toNatClampNeg))) ((z_putv h 15 36 (nI 0) (h.1 11 ((((h.1 10 4) + (nI 0)) &&& (nI 63)).toNatClampNeg))).1 11 (((((z_putv h 15 36 (nI 0) (h.1 11 ((((h.1 10 4) + (nI 0)) &&& (nI 63)).toNatClampNeg))).1 10 4) + (nI 0)) &&& (nI 63)).toNatClampNeg))) (Nat.le_of_ble_eq_true rfl) rfl rfl (Nat.le_of_ble_eq_true rfl) ⟨Nat.zero_le _, Nat.zero_le _⟩ (fun r38 h39 q40 => z_fun q40 ?_)
    refine z_go hC (pc' := 45) (ls' := [some (.ref 14), some (.long (fv_X7_setOf ((z_putv h 15 36 (nI 0) (h.1 11 ((((h.1 10 4) + (nI 0)) &&& (nI 63)).toNatClampNeg))).1 11 (((((z_putv h 15 36 (nI 0) (h.1 11 ((((h.1 10 4) + (nI 0)) &&& (nI 63)).toNatClampNeg))).1 10 4) + (nI 0)) &&& (nI 63)).toNatClampNeg)))), none, some (.int (nI 1)), some (.int (nI 0)), none, none]) (st' := []) (h' := z_putv h 15 36 (nI 0) (h.1 11 ((((h.1 10 4) + (nI 0)) &&& (nI 63)).toNatClampNeg))) (cs := []) [.lstore_n 1, .iconst 1, .istore_n 3, .iconst 0, .istore 4] (by decide +kernel) rfl rfl trivial ?_
    exact P45 2000 (fv_X7_setOf ((z_putv h 15 36 (nI 0) (h.1 11 ((((h.1 10 4) + (nI 0)) &&& (nI 63)).toNatClampNeg))).1 11 (((((z_putv h 15 36 (nI 0) (h.1 11 ((((h.1 10 4) + (nI 0)) &&& (nI 63)).toNatClampNeg))).1 10 4) + (nI 0)) &&& (nI 63)).toNatClampNeg))) (nI 1) (nI 0) (z_putv h 15 36 (nI 0) (h.1 11 ((((h.1 10 4) + (nI 0)) &&& (nI 63)).toNatClampNeg))) T E
  · skip
    have E := (if_pos c28).symm.trans E
    have T := T.1 c28
    refine z_go hC (pc' := 11) (ls' := [some (.ref 14), none, none, none, none, none, none]) (st' := [.int (nI 0)]) (h' := h) (cs := []) [.iconst 0] (by decide +kernel) rfl rfl trivial ?_
    exact z_ret_i hB rfl (by decide +kernel) (z_lfi E)

def fn_X4_longestFrom_40 (rf : Int32 → z_H → z_R) (k4 : Int32 → Int32 → Int32 → z_H → z_R) (a1 : Int32) (a2 : Int32) (a3 : Int32) (h : z_H) : z_R := k4 a1 a2 (a3 + (nI 1)) h
def tk_X4_longestFrom_40 (rf : Int32 → z_H → z_R) (rt : Int32 → z_H → Prop) (K4 : Int32 → Int32 → Int32 → z_H → Prop) (a1 : Int32) (a2 : Int32) (a3 : Int32) (h : z_H) : Prop := K4 a1 a2 (a3 + (nI 1)) h
def fn_X4_longestFrom_4 (rf : Int32 → z_H → z_R)  : Nat → Int32 → Int32 → Int32 → z_H → z_R
  | 0, _, _, _, h => (none, h)
  | n + 1, a1, a2, a3, h => let k4 := fun (a1_ : Int32) (a2_ : Int32) (a3_ : Int32) (h_ : z_H) => fn_X4_longestFrom_4 rf  n a1_ a2_ a3_ h_; if (nI 4) ≤ a3 then (some (.int a2), h) else if a1 ≤ a2 then (some (.int a2), h) else if (fv_X6_advance h a3) = 0 then fn_X4_longestFrom_40 rf k4 a1 a2 a3 (fh_X6_advance h a3) else fn_X4_longestFrom_40 rf k4 a1 (fv_J9_max_7cf53 a2 ((nI 1) + (z_vi (rf (a1 - (nI 1)) (fh_X6_advance h a3))))) a3 (fh_X6_takeBack ((rf (a1 - (nI 1)) (fh_X6_advance h a3)).2) )
def tk_X4_longestFrom_4 (rf : Int32 → z_H → z_R) (rt : Int32 → z_H → Prop)  : Nat → Int32 → Int32 → Int32 → z_H → Prop
  | 0, _, _, _, _ => False
  | n + 1, a1, a2, a3, h => let K4 := fun (a1_ : Int32) (a2_ : Int32) (a3_ : Int32) (h_ : z_H) => tk_X4_longestFrom_4 rf rt  n a1_ a2_ a3_ h_; (((nI 4) ≤ a3) → (True)) ∧ ((¬ (nI 4) ≤ a3) → (((a1 ≤ a2) → (True)) ∧ ((¬ a1 ≤ a2) → ((((fv_X6_advance h a3) = 0) → (tk_X4_longestFrom_40 rf rt K4 a1 a2 a3 (fh_X6_advance h a3))) ∧ ((¬ (fv_X6_advance h a3) = 0) → (rt (a1 - (nI 1)) (fh_X6_advance h a3) ∧ (tk_X4_longestFrom_40 rf rt K4 a1 (fv_J9_max_7cf53 a2 ((nI 1) + (z_vi (rf (a1 - (nI 1)) (fh_X6_advance h a3))))) a3 (fh_X6_takeBack ((rf (a1 - (nI 1)) (fh_X6_advance h a3)).2) ))))))))
def fn_X4_longestFrom (rf : Int32 → z_H → z_R) (x : Int32) (h : z_H) : z_R := fn_X4_longestFrom_4 rf 2000 x (nI 0) (nI 0) h
def tk_X4_longestFrom (rf : Int32 → z_H → z_R) (rt : Int32 → z_H → Prop) (x : Int32) (h : z_H) : Prop := tk_X4_longestFrom_4 rf rt 2000 x (nI 0) (nI 0) h
set_option maxHeartbeats 4000000 in
set_option maxRecDepth 100000 in
theorem sp_X4_longestFrom_r (l : Launch) (ext : z_Sh) (rf : Int32 → z_H → z_R) (rt : Int32 → z_H → Prop) (dd : Nat) (hdd : 2 ≤ dd) (hrec : ∀ (x : Int32) (h : z_H), rt x h → z_Sp l dd yX4_longestFrom cX4_longestFrom 4 (some .int) [.ref 10, .int x] (z_c ext) h (z_PI (rf x h))) (h : z_H) (x : Int32)  (T : tk_X4_longestFrom rf rt x h) : z_Sp l (dd + 1) yX4_longestFrom cX4_longestFrom 4 (some .int) [.ref 10, .int x] (z_c ext) h (z_PI (fn_X4_longestFrom rf x h)) := by
  refine z_enter ft_X4 (by decide +kernel) fo_X4 (Nat.le_of_ble_eq_true rfl) ?_
  intro p e R s m args below meth c D dA ad hB
  have hC := hB.1
  have hN := hB.2.1
  have hR := hB.2.2.1
  unfold tk_X4_longestFrom at T; have E : (fn_X4_longestFrom_4 rf 2000 x (nI 0) (nI 0) h) = fn_X4_longestFrom rf x h := rfl
  generalize fn_X4_longestFrom rf x h = RR at E ⊢
  have P40 : ∀ (k4 : Int32 → Int32 → Int32 → z_H → z_R) (K4 : Int32 → Int32 → Int32 → z_H → Prop) (hk4 : ∀ (a1 : Int32) (a2 : Int32) (a3 : Int32) (h : z_H), K4 a1 a2 a3 h → k4 a1 a2 a3 h = RR → z_G p l e R s m args below meth c D dA ad 4 (z_PI RR) (z_c ext) 4 [some (.ref 10), some (.int a1), some (.int a2), some (.int a3)] [] h), ∀ (a1 : Int32) (a2 : Int32) (a3 : Int32) (h : z_H), tk_X4_longestFrom_40 rf rt K4 a1 a2 a3 h → fn_X4_longestFrom_40 rf k4 a1 a2 a3 h = RR → z_G p l e R s m args below meth c D dA ad 4 (z_PI RR) (z_c ext) 40 [some (.ref 10), some (.int a1), some (.int a2), some (.int a3)] [] h := by
    intro k4 K4 hk4 a1 a2 a3 h T E
    unfold tk_X4_longestFrom_40 at T; unfold fn_X4_longestFrom_40 at E
    refine z_go hC (pc' := 43) (ls' := [some (.ref 10), some (.int a1), some (.int a2), some (.int (a3 + (nI 1)))]) (st' := []) (h' := h) (cs := []) [.iinc 3 1] (by decide +kernel) rfl rfl trivial ?_
    refine z_goto hC (off := -39) 4 (by decide +kernel) (by decide) ?_
    exact hk4 a1 a2 (a3 + (nI 1)) h T E
  have P4 : ∀ (n : Nat), ∀ (a1 : Int32) (a2 : Int32) (a3 : Int32) (h : z_H), tk_X4_longestFrom_4 rf rt  n a1 a2 a3 h → fn_X4_longestFrom_4 rf  n a1 a2 a3 h = RR → z_G p l e R s m args below meth c D dA ad 4 (z_PI RR) (z_c ext) 4 [some (.ref 10), some (.int a1), some (.int a2), some (.int a3)] [] h := by
    intro  n
    induction n with
    | zero => intro a1 a2 a3 h T E; exact False.elim T
    | succ n ih =>
      intro a1 a2 a3 h T E
      unfold tk_X4_longestFrom_4 at T; unfold fn_X4_longestFrom_4 at E; dsimp only at T E
      have hk4 := ih
      refine z_go hC (pc' := 6) (ls' := [some (.ref 10), some (.int a1), some (.int a2), some (.int a3)]) (st' := [.int (nI 4), .int a3]) (h' := h) (cs := []) [.iload_n 3, .iconst 4] (by decide +kernel) rfl rfl trivial ?_
      refine z_icmp_ge hC (off := 40) 46 (by decide +kernel) (by decide) (fun c1 => ?_) (fun c1 => ?_)
      · skip
        have E := (if_pos c1).symm.trans E
        have T := T.1 c1
        refine z_go hC (pc' := 47) (ls' := [some (.ref 10), some (.int a1), some (.int a2), some (.int a3)]) (st' := [.int a2]) (h' := h) (cs := []) [.iload_n 2] (by decide +kernel) rfl rfl trivial ?_
        exact z_ret_i hB rfl (by decide +kernel) (z_lfi E)
      · skip
        have E := (if_neg c1).symm.trans E
        have T := T.2 c1
        refine z_go hC (pc' := 11) (ls' := [some (.ref 10), some (.int a1), some (.int a2), some (.int a3)]) (st' := [.int a1, .int a2]) (h' := h) (cs := []) [.iload_n 2, .iload_n 1] (by decide +kernel) rfl rfl trivial ?_
        refine z_icmp_ge hC (off := 35) 46 (by decide +kernel) (by decide) (fun c2 => ?_) (fun c2 => ?_)
        · skip
          have E := (if_pos c2).symm.trans E
          have T := T.1 c2
          refine z_go hC (pc' := 47) (ls' := [some (.ref 10), some (.int a1), some (.int a2), some (.int a3)]) (st' := [.int a2]) (h' := h) (cs := []) [.iload_n 2] (by decide +kernel) rfl rfl trivial ?_
          exact z_ret_i hB rfl (by decide +kernel) (z_lfi E)
        · skip
          have E := (if_neg c2).symm.trans E
          have T := T.2 c2
          refine z_go hC (pc' := 16) (ls' := [some (.ref 10), some (.int a1), some (.int a2), some (.int a3)]) (st' := [.int a3, .ref 10]) (h' := h) (cs := []) [.aload_n 0, .iload_n 3] (by decide +kernel) rfl rfl trivial ?_
          refine z_callV hC hN hR (as := [.int a3]) (rest := []) ok_X4_77 (by decide +kernel) (sp_X6_advance l _ h a3) rfl rfl (by omega) rfl rfl (Nat.le_of_ble_eq_true rfl) ⟨Nat.zero_le _, Nat.zero_le _⟩ (fun r3 h4 q5 => z_fun q5 ?_)
          refine z_if_eq hC (off := 21) 40 (by decide +kernel) (by decide) (fun c6 => ?_) (fun c6 => ?_)
          · skip
            have E := (if_pos c6).symm.trans E
            have T := T.1 c6
            exact P40 _ _ hk4 a1 a2 a3 (fh_X6_advance h a3) T E
          · skip
            have E := (if_neg c6).symm.trans E
            have T := T.2 c6
            refine z_go hC (pc' := 28) (ls' := [some (.ref 10), some (.int a1), some (.int a2), some (.int a3)]) (st' := [.int (a1 - (nI 1)), .ref 10, .int (nI 1), .int a2]) (h' := fh_X6_advance h a3) (cs := []) [.iload_n 2, .iconst 1, .aload_n 0, .iload_n 1, .iconst 1, .isub] (by decide +kernel) rfl rfl trivial ?_
            obtain ⟨t10, T⟩ := T
            refine z_callS hC hN hR (as := [.ref 10, .int (a1 - (nI 1))]) (rest := [.int (nI 1), .int a2]) ok_X4_73 (by decide +kernel) (hrec (a1 - (nI 1)) (fh_X6_advance h a3) t10) (by omega) rfl rfl (Nat.le_of_ble_eq_true rfl) ⟨Nat.zero_le _, Nat.zero_le _⟩ (fun r7 h8 q9 => z_fun q9 ?_)
            refine z_go hC (pc' := 32) (ls' := [some (.ref 10), some (.int a1), some (.int a2), some (.int a3)]) (st' := [.int ((nI 1) + (z_vi (rf (a1 - (nI 1)) (fh_X6_advance h a3)))), .int a2]) (h' := (rf (a1 - (nI 1)) (fh_X6_advance h a3)).2) (cs := []) [.iadd] (by decide +kernel) rfl rfl trivial ?_
            refine z_callS hC hN hR (as := [.int a2, .int ((nI 1) + (z_vi (rf (a1 - (nI 1)) (fh_X6_advance h a3))))]) (rest := []) ok_X4_80 (by decide +kernel) (sp_J9_max_7cf53 l _ ((rf (a1 - (nI 1)) (fh_X6_advance h a3)).2) a2 ((nI 1) + (z_vi (rf (a1 - (nI 1)) (fh_X6_advance h a3))))) (by omega) rfl rfl (Nat.le_of_ble_eq_true rfl) ⟨Nat.zero_le _, Nat.zero_le _⟩ (fun r11 h12 q13 => z_fun q13 ?_)
            refine z_go hC (pc' := 37) (ls' := [some (.ref 10), some (.int a1), some (.int (fv_J9_max_7cf53 a2 ((nI 1) + (z_vi (rf (a1 - (nI 1)) (fh_X6_advance h a3)))))), some (.int a3)]) (st' := [.ref 10]) (h' := (rf (a1 - (nI 1)) (fh_X6_advance h a3)).2) (cs := []) [.istore_n 2, .aload_n 0] (by decide +kernel) rfl rfl trivial ?_
            refine z_callV hC hN hR (as := []) (rest := []) ok_X4_85 (by decide +kernel) (sp_X6_takeBack l _ ((rf (a1 - (nI 1)) (fh_X6_advance h a3)).2) ) rfl rfl (by omega) rfl rfl (Nat.le_of_ble_eq_true rfl) ⟨Nat.zero_le _, Nat.zero_le _⟩ (fun r14 h15 q16 => z_fun q16 ?_)
            exact P40 _ _ hk4 a1 (fv_J9_max_7cf53 a2 ((nI 1) + (z_vi (rf (a1 - (nI 1)) (fh_X6_advance h a3))))) a3 (fh_X6_takeBack ((rf (a1 - (nI 1)) (fh_X6_advance h a3)).2) ) T E
  refine z_go hC (pc' := 4) (ls' := [some (.ref 10), some (.int x), some (.int (nI 0)), some (.int (nI 0))]) (st' := []) (h' := h) (cs := []) [.iconst 0, .istore_n 2, .iconst 0, .istore_n 3] (by decide +kernel) rfl rfl trivial ?_
  exact P4 2000 x (nI 0) (nI 0) h T E
def fx_X4_longestFrom : Nat → Int32 → z_H → z_R
  | 0, _, h => (none, h)
  | n + 1, x, h => fn_X4_longestFrom (fx_X4_longestFrom n) x h
def tx_X4_longestFrom : Nat → Int32 → z_H → Prop
  | 0, _, _ => False
  | n + 1, x, h => tk_X4_longestFrom (fx_X4_longestFrom n) (tx_X4_longestFrom n) x h
theorem sp_X4_longestFrom (l : Launch) (ext : z_Sh) : ∀ (n : Nat) (x : Int32) (h : z_H), tx_X4_longestFrom n x h → z_Sp l (2 + n) yX4_longestFrom cX4_longestFrom 4 (some .int) [.ref 10, .int x] (z_c ext) h (z_PI (fx_X4_longestFrom n x h))
  | 0, _, _, T => False.elim T
  | n + 1, x, h, T => sp_X4_longestFrom_r l _ (fx_X4_longestFrom n) (tx_X4_longestFrom n) (2 + n) (by omega) (fun x h t => sp_X4_longestFrom l _ n x h t) h x T

def fn_X4_longestWalk (x : Int32) (h : z_H) : z_R := (some (.int (z_vi (fx_X4_longestFrom 8 x h))), (fx_X4_longestFrom 8 x h).2)
def tk_X4_longestWalk (x : Int32) (h : z_H) : Prop := tx_X4_longestFrom 8 x h
set_option maxHeartbeats 4000000 in
set_option maxRecDepth 100000 in
theorem sp_X4_longestWalk (l : Launch) (ext : z_Sh)  (h : z_H) (x : Int32)  (T : tk_X4_longestWalk x h) : z_Sp l 11 yX4_longestWalk cX4_longestWalk 2 (some .int) [.ref 14, .int x] (z_c ext) h (z_PI (fn_X4_longestWalk x h)) := by
  refine z_enter ft_X4 (by decide +kernel) fo_X4 (Nat.le_of_ble_eq_true rfl) ?_
  intro p e R s m args below meth c D dA ad hB
  have hC := hB.1
  have hN := hB.2.1
  have hR := hB.2.2.1
  unfold tk_X4_longestWalk at T; have E : ((some (.int (z_vi (fx_X4_longestFrom 8 x h))), (fx_X4_longestFrom 8 x h).2)) = fn_X4_longestWalk x h := rfl
  generalize fn_X4_longestWalk x h = RR at E ⊢
  refine z_go hC (pc' := 5) (ls' := [some (.ref 14), some (.int x)]) (st' := [.int x, .ref 10]) (h' := h) (cs := []) [.aload_n 0, .getfield 33, .iload_n 1] (by decide +kernel) rfl rfl trivial ?_
  have t4 := T
  refine z_callS hC hN hR (as := [.ref 10, .int x]) (rest := []) ok_X4_73 (by decide +kernel) (sp_X4_longestFrom l _ 8 x h t4) (Nat.le_of_ble_eq_true rfl) rfl rfl (Nat.le_of_ble_eq_true rfl) ⟨Nat.zero_le _, Nat.zero_le _⟩ (fun r1 h2 q3 => z_fun q3 ?_)
  exact z_ret_i hB rfl (by decide +kernel) (z_lfi E)

def fn_X4_eatsWithin_52 (rf : Int32 → z_H → z_R) (k4 : Int32 → Int32 → Int32 → z_H → z_R) (a1 : Int32) (a2 : Int32) (a3 : Int32) (h : z_H) : z_R := k4 a1 a2 (a3 + (nI 1)) h
def tk_X4_eatsWithin_52 (rf : Int32 → z_H → z_R) (rt : Int32 → z_H → Prop) (K4 : Int32 → Int32 → Int32 → z_H → Prop) (a1 : Int32) (a2 : Int32) (a3 : Int32) (h : z_H) : Prop := K4 a1 a2 (a3 + (nI 1)) h
def fn_X4_eatsWithin_47 (rf : Int32 → z_H → z_R) (k4 : Int32 → Int32 → Int32 → z_H → z_R) (a1 : Int32) (a3 : Int32) (s0 : Int32) (h : z_H) : z_R := fn_X4_eatsWithin_52 rf k4 a1 s0 a3 (fh_X6_takeBack h )
def tk_X4_eatsWithin_47 (rf : Int32 → z_H → z_R) (rt : Int32 → z_H → Prop) (K4 : Int32 → Int32 → Int32 → z_H → Prop) (a1 : Int32) (a3 : Int32) (s0 : Int32) (h : z_H) : Prop := tk_X4_eatsWithin_52 rf rt K4 a1 s0 a3 (fh_X6_takeBack h )
def fn_X4_eatsWithin_42 (rf : Int32 → z_H → z_R) (k4 : Int32 → Int32 → Int32 → z_H → z_R) (a1 : Int32) (a3 : Int32) (h : z_H) : z_R := fn_X4_eatsWithin_47 rf k4 a1 a3 (nI 1) h
def tk_X4_eatsWithin_42 (rf : Int32 → z_H → z_R) (rt : Int32 → z_H → Prop) (K4 : Int32 → Int32 → Int32 → z_H → Prop) (a1 : Int32) (a3 : Int32) (h : z_H) : Prop := tk_X4_eatsWithin_47 rf rt K4 a1 a3 (nI 1) h
def fn_X4_eatsWithin_4 (rf : Int32 → z_H → z_R)  : Nat → Int32 → Int32 → Int32 → z_H → z_R
  | 0, _, _, _, h => (none, h)
  | n + 1, a1, a2, a3, h => let k4 := fun (a1_ : Int32) (a2_ : Int32) (a3_ : Int32) (h_ : z_H) => fn_X4_eatsWithin_4 rf  n a1_ a2_ a3_ h_; if (nI 4) ≤ a3 then (some (.int a2), h) else if a1 ≤ 0 then (some (.int a2), h) else if a2 = 0 then if (fv_X6_advance h a3) = 0 then fn_X4_eatsWithin_52 rf k4 a1 a2 a3 (fh_X6_advance h a3) else if (fv_X6_hasJustEaten (fh_X6_advance h a3) ) = 0 then if (z_vi (rf (a1 - (nI 1)) (fh_X6_advance h a3))) = 0 then fn_X4_eatsWithin_47 rf k4 a1 a3 (nI 0) ((rf (a1 - (nI 1)) (fh_X6_advance h a3)).2) else fn_X4_eatsWithin_42 rf k4 a1 a3 ((rf (a1 - (nI 1)) (fh_X6_advance h a3)).2) else fn_X4_eatsWithin_42 rf k4 a1 a3 (fh_X6_advance h a3) else (some (.int a2), h)
def tk_X4_eatsWithin_4 (rf : Int32 → z_H → z_R) (rt : Int32 → z_H → Prop)  : Nat → Int32 → Int32 → Int32 → z_H → Prop
  | 0, _, _, _, _ => False
  | n + 1, a1, a2, a3, h => let K4 := fun (a1_ : Int32) (a2_ : Int32) (a3_ : Int32) (h_ : z_H) => tk_X4_eatsWithin_4 rf rt  n a1_ a2_ a3_ h_; (((nI 4) ≤ a3) → ((a2 = 0 ∨ a2 = 1))) ∧ ((¬ (nI 4) ≤ a3) → (((a1 ≤ 0) → ((a2 = 0 ∨ a2 = 1))) ∧ ((¬ a1 ≤ 0) → (((a2 = 0) → ((((fv_X6_advance h a3) = 0) → (tk_X4_eatsWithin_52 rf rt K4 a1 a2 a3 (fh_X6_advance h a3))) ∧ ((¬ (fv_X6_advance h a3) = 0) → ((((fv_X6_hasJustEaten (fh_X6_advance h a3) ) = 0) → (rt (a1 - (nI 1)) (fh_X6_advance h a3) ∧ ((((z_vi (rf (a1 - (nI 1)) (fh_X6_advance h a3))) = 0) → (tk_X4_eatsWithin_47 rf rt K4 a1 a3 (nI 0) ((rf (a1 - (nI 1)) (fh_X6_advance h a3)).2))) ∧ ((¬ (z_vi (rf (a1 - (nI 1)) (fh_X6_advance h a3))) = 0) → (tk_X4_eatsWithin_42 rf rt K4 a1 a3 ((rf (a1 - (nI 1)) (fh_X6_advance h a3)).2)))))) ∧ ((¬ (fv_X6_hasJustEaten (fh_X6_advance h a3) ) = 0) → (tk_X4_eatsWithin_42 rf rt K4 a1 a3 (fh_X6_advance h a3))))))) ∧ ((¬ a2 = 0) → ((a2 = 0 ∨ a2 = 1)))))))
def fn_X4_eatsWithin (rf : Int32 → z_H → z_R) (x : Int32) (h : z_H) : z_R := fn_X4_eatsWithin_4 rf 2000 x (nI 0) (nI 0) h
def tk_X4_eatsWithin (rf : Int32 → z_H → z_R) (rt : Int32 → z_H → Prop) (x : Int32) (h : z_H) : Prop := tk_X4_eatsWithin_4 rf rt 2000 x (nI 0) (nI 0) h
set_option maxHeartbeats 4000000 in
set_option maxRecDepth 100000 in
theorem sp_X4_eatsWithin_r (l : Launch) (ext : z_Sh) (rf : Int32 → z_H → z_R) (rt : Int32 → z_H → Prop) (dd : Nat) (hdd : 2 ≤ dd) (hrec : ∀ (x : Int32) (h : z_H), rt x h → z_Sp l dd yX4_eatsWithin cX4_eatsWithin 4 (some .boolean) [.ref 10, .int x] (z_c ext) h (z_PB (rf x h))) (h : z_H) (x : Int32)  (T : tk_X4_eatsWithin rf rt x h) : z_Sp l (dd + 1) yX4_eatsWithin cX4_eatsWithin 4 (some .boolean) [.ref 10, .int x] (z_c ext) h (z_PB (fn_X4_eatsWithin rf x h)) := by
  refine z_enter ft_X4 (by decide +kernel) fo_X4 (Nat.le_of_ble_eq_true rfl) ?_
  intro p e R s m args below meth c D dA ad hB
  have hC := hB.1
  have hN := hB.2.1
  have hR := hB.2.2.1
  unfold tk_X4_eatsWithin at T; have E : (fn_X4_eatsWithin_4 rf 2000 x (nI 0) (nI 0) h) = fn_X4_eatsWithin rf x h := rfl
  generalize fn_X4_eatsWithin rf x h = RR at E ⊢
  have P52 : ∀ (k4 : Int32 → Int32 → Int32 → z_H → z_R) (K4 : Int32 → Int32 → Int32 → z_H → Prop) (hk4 : ∀ (a1 : Int32) (a2 : Int32) (a3 : Int32) (h : z_H), K4 a1 a2 a3 h → k4 a1 a2 a3 h = RR → z_G p l e R s m args below meth c D dA ad 4 (z_PB RR) (z_c ext) 4 [some (.ref 10), some (.int a1), some (.int a2), some (.int a3)] [] h), ∀ (a1 : Int32) (a2 : Int32) (a3 : Int32) (h : z_H), tk_X4_eatsWithin_52 rf rt K4 a1 a2 a3 h → fn_X4_eatsWithin_52 rf k4 a1 a2 a3 h = RR → z_G p l e R s m args below meth c D dA ad 4 (z_PB RR) (z_c ext) 52 [some (.ref 10), some (.int a1), some (.int a2), some (.int a3)] [] h := by
    intro k4 K4 hk4 a1 a2 a3 h T E
    unfold tk_X4_eatsWithin_52 at T; unfold fn_X4_eatsWithin_52 at E
    refine z_go hC (pc' := 55) (ls' := [some (.ref 10), some (.int a1), some (.int a2), some (.int (a3 + (nI 1)))]) (st' := []) (h' := h) (cs := []) [.iinc 3 1] (by decide +kernel) rfl rfl trivial ?_
    refine z_goto hC (off := -51) 4 (by decide +kernel) (by decide) ?_
    exact hk4 a1 a2 (a3 + (nI 1)) h T E
  have P47 : ∀ (k4 : Int32 → Int32 → Int32 → z_H → z_R) (K4 : Int32 → Int32 → Int32 → z_H → Prop) (hk4 : ∀ (a1 : Int32) (a2 : Int32) (a3 : Int32) (h : z_H), K4 a1 a2 a3 h → k4 a1 a2 a3 h = RR → z_G p l e R s m args below meth c D dA ad 4 (z_PB RR) (z_c ext) 4 [some (.ref 10), some (.int a1), some (.int a2), some (.int a3)] [] h), ∀ (a1 : Int32) (a3 : Int32) (s0 : Int32) (h : z_H), tk_X4_eatsWithin_47 rf rt K4 a1 a3 s0 h → fn_X4_eatsWithin_47 rf k4 a1 a3 s0 h = RR → z_G p l e R s m args below meth c D dA ad 4 (z_PB RR) (z_c ext) 47 [some (.ref 10), some (.int a1), none, some (.int a3)] [.int s0] h := by
    intro k4 K4 hk4 a1 a3 s0 h T E
    unfold tk_X4_eatsWithin_47 at T; unfold fn_X4_eatsWithin_47 at E
    refine z_go hC (pc' := 49) (ls' := [some (.ref 10), some (.int a1), some (.int s0), some (.int a3)]) (st' := [.ref 10]) (h' := h) (cs := []) [.istore_n 2, .aload_n 0] (by decide +kernel) rfl rfl trivial ?_
    refine z_callV hC hN hR (as := []) (rest := []) ok_X4_85 (by decide +kernel) (sp_X6_takeBack l _ h ) rfl rfl (by omega) rfl rfl (Nat.le_of_ble_eq_true rfl) ⟨Nat.zero_le _, Nat.zero_le _⟩ (fun r1 h2 q3 => z_fun q3 ?_)
    exact P52 _ _ hk4 a1 s0 a3 (fh_X6_takeBack h ) T E
  have P42 : ∀ (k4 : Int32 → Int32 → Int32 → z_H → z_R) (K4 : Int32 → Int32 → Int32 → z_H → Prop) (hk4 : ∀ (a1 : Int32) (a2 : Int32) (a3 : Int32) (h : z_H), K4 a1 a2 a3 h → k4 a1 a2 a3 h = RR → z_G p l e R s m args below meth c D dA ad 4 (z_PB RR) (z_c ext) 4 [some (.ref 10), some (.int a1), some (.int a2), some (.int a3)] [] h), ∀ (a1 : Int32) (a3 : Int32) (h : z_H), tk_X4_eatsWithin_42 rf rt K4 a1 a3 h → fn_X4_eatsWithin_42 rf k4 a1 a3 h = RR → z_G p l e R s m args below meth c D dA ad 4 (z_PB RR) (z_c ext) 42 [some (.ref 10), some (.int a1), none, some (.int a3)] [] h := by
    intro k4 K4 hk4 a1 a3 h T E
    unfold tk_X4_eatsWithin_42 at T; unfold fn_X4_eatsWithin_42 at E
    refine z_go hC (pc' := 43) (ls' := [some (.ref 10), some (.int a1), none, some (.int a3)]) (st' := [.int (nI 1)]) (h' := h) (cs := []) [.iconst 1] (by decide +kernel) rfl rfl trivial ?_
    refine z_goto hC (off := 4) 47 (by decide +kernel) (by decide) ?_
    exact P47 _ _ hk4 a1 a3 (nI 1) h T E
  have P4 : ∀ (n : Nat), ∀ (a1 : Int32) (a2 : Int32) (a3 : Int32) (h : z_H), tk_X4_eatsWithin_4 rf rt  n a1 a2 a3 h → fn_X4_eatsWithin_4 rf  n a1 a2 a3 h = RR → z_G p l e R s m args below meth c D dA ad 4 (z_PB RR) (z_c ext) 4 [some (.ref 10), some (.int a1), some (.int a2), some (.int a3)] [] h := by
    intro  n
    induction n with
    | zero => intro a1 a2 a3 h T E; exact False.elim T
    | succ n ih =>
      intro a1 a2 a3 h T E
      unfold tk_X4_eatsWithin_4 at T; unfold fn_X4_eatsWithin_4 at E; dsimp only at T E
      have hk4 := ih
      refine z_go hC (pc' := 6) (ls' := [some (.ref 10), some (.int a1), some (.int a2), some (.int a3)]) (st' := [.int (nI 4), .int a3]) (h' := h) (cs := []) [.iload_n 3, .iconst 4] (by decide +kernel) rfl rfl trivial ?_
      refine z_icmp_ge hC (off := 52) 58 (by decide +kernel) (by decide) (fun c4 => ?_) (fun c4 => ?_)
      · skip
        have E := (if_pos c4).symm.trans E
        have T := T.1 c4
        refine z_go hC (pc' := 59) (ls' := [some (.ref 10), some (.int a1), some (.int a2), some (.int a3)]) (st' := [.int a2]) (h' := h) (cs := []) [.iload_n 2] (by decide +kernel) rfl rfl trivial ?_
        have t5 := T
        exact z_ret_z hB rfl t5 (by decide +kernel) (z_lfb t5 E)
      · skip
        have E := (if_neg c4).symm.trans E
        have T := T.2 c4
        refine z_go hC (pc' := 10) (ls' := [some (.ref 10), some (.int a1), some (.int a2), some (.int a3)]) (st' := [.int a1]) (h' := h) (cs := []) [.iload_n 1] (by decide +kernel) rfl rfl trivial ?_
        refine z_if_le hC (off := 48) 58 (by decide +kernel) (by decide) (fun c6 => ?_) (fun c6 => ?_)
        · skip
          have E := (if_pos c6).symm.trans E
          have T := T.1 c6
          refine z_go hC (pc' := 59) (ls' := [some (.ref 10), some (.int a1), some (.int a2), some (.int a3)]) (st' := [.int a2]) (h' := h) (cs := []) [.iload_n 2] (by decide +kernel) rfl rfl trivial ?_
          have t7 := T
          exact z_ret_z hB rfl t7 (by decide +kernel) (z_lfb t7 E)
        · skip
          have E := (if_neg c6).symm.trans E
          have T := T.2 c6
          refine z_go hC (pc' := 14) (ls' := [some (.ref 10), some (.int a1), some (.int a2), some (.int a3)]) (st' := [.int a2]) (h' := h) (cs := []) [.iload_n 2] (by decide +kernel) rfl rfl trivial ?_
          refine z_if_ne hC (off := 44) 58 (by decide +kernel) (by decide) (fun c8 => ?_) (fun c8 => ?_)
          · skip
            have E := (if_neg c8).symm.trans E
            have T := T.2 c8
            refine z_go hC (pc' := 59) (ls' := [some (.ref 10), some (.int a1), some (.int a2), some (.int a3)]) (st' := [.int a2]) (h' := h) (cs := []) [.iload_n 2] (by decide +kernel) rfl rfl trivial ?_
            have t9 := T
            exact z_ret_z hB rfl t9 (by decide +kernel) (z_lfb t9 E)
          · skip
            have E := (if_pos c8).symm.trans E
            have T := T.1 c8
            refine z_go hC (pc' := 19) (ls' := [some (.ref 10), some (.int a1), some (.int a2), some (.int a3)]) (st' := [.int a3, .ref 10]) (h' := h) (cs := []) [.aload_n 0, .iload_n 3] (by decide +kernel) rfl rfl trivial ?_
            refine z_callV hC hN hR (as := [.int a3]) (rest := []) ok_X4_77 (by decide +kernel) (sp_X6_advance l _ h a3) rfl rfl (by omega) rfl rfl (Nat.le_of_ble_eq_true rfl) ⟨Nat.zero_le _, Nat.zero_le _⟩ (fun r10 h11 q12 => z_fun q12 ?_)
            refine z_if_eq hC (off := 30) 52 (by decide +kernel) (by decide) (fun c13 => ?_) (fun c13 => ?_)
            · skip
              have E := (if_pos c13).symm.trans E
              have T := T.1 c13
              exact P52 _ _ hk4 a1 a2 a3 (fh_X6_advance h a3) T E
            · skip
              have E := (if_neg c13).symm.trans E
              have T := T.2 c13
              refine z_go hC (pc' := 26) (ls' := [some (.ref 10), some (.int a1), some (.int a2), some (.int a3)]) (st' := [.ref 10]) (h' := fh_X6_advance h a3) (cs := []) [.aload_n 0] (by decide +kernel) rfl rfl trivial ?_
              refine z_callV hC hN hR (as := []) (rest := []) ok_X4_98 (by decide +kernel) (sp_X6_hasJustEaten l _ (fh_X6_advance h a3) ) rfl rfl (by omega) rfl rfl (Nat.le_of_ble_eq_true rfl) ⟨Nat.zero_le _, Nat.zero_le _⟩ (fun r14 h15 q16 => z_fun q16 ?_)
              refine z_if_ne hC (off := 13) 42 (by decide +kernel) (by decide) (fun c17 => ?_) (fun c17 => ?_)
              · skip
                have E := (if_neg c17).symm.trans E
                have T := T.2 c17
                refine z_less (ls' := [some (.ref 10), some (.int a1), none, some (.int a3)]) (by simp [z_sub]) ?_
                exact P42 _ _ hk4 a1 a3 (fh_X6_advance h a3) T E
              · skip
                have E := (if_pos c17).symm.trans E
                have T := T.1 c17
                refine z_go hC (pc' := 36) (ls' := [some (.ref 10), some (.int a1), some (.int a2), some (.int a3)]) (st' := [.int (a1 - (nI 1)), .ref 10]) (h' := fh_X6_advance h a3) (cs := []) [.aload_n 0, .iload_n 1, .iconst 1, .isub] (by decide +kernel) rfl rfl trivial ?_
                obtain ⟨t21, T⟩ := T
                refine z_callS hC hN hR (as := [.ref 10, .int (a1 - (nI 1))]) (rest := []) ok_X4_94 (by decide +kernel) (hrec (a1 - (nI 1)) (fh_X6_advance h a3) t21) (by omega) rfl rfl (Nat.le_of_ble_eq_true rfl) ⟨Nat.zero_le _, Nat.zero_le _⟩ (fun r18 h19 q20 => z_funb q20 (fun z22 => ?_))
                refine z_if_eq hC (off := 7) 46 (by decide +kernel) (by decide) (fun c23 => ?_) (fun c23 => ?_)
                · skip
                  have E := (if_pos c23).symm.trans E
                  have T := T.1 c23
                  refine z_go hC (pc' := 47) (ls' := [some (.ref 10), some (.int a1), some (.int a2), some (.int a3)]) (st' := [.int (nI 0)]) (h' := (rf (a1 - (nI 1)) (fh_X6_advance h a3)).2) (cs := []) [.iconst 0] (by decide +kernel) rfl rfl trivial ?_
                  refine z_less (ls' := [some (.ref 10), some (.int a1), none, some (.int a3)]) (by simp [z_sub]) ?_
                  exact P47 _ _ hk4 a1 a3 (nI 0) ((rf (a1 - (nI 1)) (fh_X6_advance h a3)).2) T E
                · skip
                  have E := (if_neg c23).symm.trans E
                  have T := T.2 c23
                  refine z_less (ls' := [some (.ref 10), some (.int a1), none, some (.int a3)]) (by simp [z_sub]) ?_
                  exact P42 _ _ hk4 a1 a3 ((rf (a1 - (nI 1)) (fh_X6_advance h a3)).2) T E
  refine z_go hC (pc' := 4) (ls' := [some (.ref 10), some (.int x), some (.int (nI 0)), some (.int (nI 0))]) (st' := []) (h' := h) (cs := []) [.iconst 0, .istore_n 2, .iconst 0, .istore_n 3] (by decide +kernel) rfl rfl trivial ?_
  exact P4 2000 x (nI 0) (nI 0) h T E
def fx_X4_eatsWithin : Nat → Int32 → z_H → z_R
  | 0, _, h => (none, h)
  | n + 1, x, h => fn_X4_eatsWithin (fx_X4_eatsWithin n) x h
def tx_X4_eatsWithin : Nat → Int32 → z_H → Prop
  | 0, _, _ => False
  | n + 1, x, h => tk_X4_eatsWithin (fx_X4_eatsWithin n) (tx_X4_eatsWithin n) x h
theorem sp_X4_eatsWithin (l : Launch) (ext : z_Sh) : ∀ (n : Nat) (x : Int32) (h : z_H), tx_X4_eatsWithin n x h → z_Sp l (2 + n) yX4_eatsWithin cX4_eatsWithin 4 (some .boolean) [.ref 10, .int x] (z_c ext) h (z_PB (fx_X4_eatsWithin n x h))
  | 0, _, _, T => False.elim T
  | n + 1, x, h, T => sp_X4_eatsWithin_r l _ (fx_X4_eatsWithin n) (tx_X4_eatsWithin n) (2 + n) (by omega) (fun x h t => sp_X4_eatsWithin l _ n x h t) h x T

def fn_X4_fewestByDepths_14  : Nat → Int32 → z_H → z_R
  | 0, _, h => (none, h)
  | n + 1, a1, h => let k14 := fun (a1_ : Int32) (h_ : z_H) => fn_X4_fewestByDepths_14  n a1_ h_; if (nI 6) < a1 then (some (.int (-1)), h) else if (z_vi (fx_X4_eatsWithin 8 a1 h)) = 0 then k14 (a1 + (nI 1)) ((fx_X4_eatsWithin 8 a1 h).2) else (some (.int a1), (fx_X4_eatsWithin 8 a1 h).2)
def tk_X4_fewestByDepths_14  : Nat → Int32 → z_H → Prop
  | 0, _, _ => False
  | n + 1, a1, h => let K14 := fun (a1_ : Int32) (h_ : z_H) => tk_X4_fewestByDepths_14  n a1_ h_; (((nI 6) < a1) → (True)) ∧ ((¬ (nI 6) < a1) → (tx_X4_eatsWithin 8 a1 h ∧ ((((z_vi (fx_X4_eatsWithin 8 a1 h)) = 0) → (K14 (a1 + (nI 1)) ((fx_X4_eatsWithin 8 a1 h).2))) ∧ ((¬ (z_vi (fx_X4_eatsWithin 8 a1 h)) = 0) → (True)))))
def fn_X4_fewestByDepths  (h : z_H) : z_R := if (h.1 8 2) = 0 then (some (.int (-1)), h) else fn_X4_fewestByDepths_14 2000 (nI 1) h
def tk_X4_fewestByDepths  (h : z_H) : Prop := (((h.1 8 2) = 0) → (True)) ∧ ((¬ (h.1 8 2) = 0) → (tk_X4_fewestByDepths_14 2000 (nI 1) h))
set_option maxHeartbeats 4000000 in
set_option maxRecDepth 100000 in
theorem sp_X4_fewestByDepths (l : Launch) (ext : z_Sh)  (h : z_H)   (T : tk_X4_fewestByDepths  h) : z_Sp l 11 yX4_fewestByDepths cX4_fewestByDepths 2 (some .int) [.ref 14] (z_c ext) h (z_PI (fn_X4_fewestByDepths  h)) := by
  refine z_enter ft_X4 (by decide +kernel) fo_X4 (Nat.le_of_ble_eq_true rfl) ?_
  intro p e R s m args below meth c D dA ad hB
  have hC := hB.1
  have hN := hB.2.1
  have hR := hB.2.2.1
  unfold tk_X4_fewestByDepths at T; have E : (if (h.1 8 2) = 0 then (some (.int (-1)), h) else fn_X4_fewestByDepths_14 2000 (nI 1) h) = fn_X4_fewestByDepths  h := rfl
  generalize fn_X4_fewestByDepths  h = RR at E ⊢
  have P14 : ∀ (n : Nat), ∀ (a1 : Int32) (h : z_H), tk_X4_fewestByDepths_14  n a1 h → fn_X4_fewestByDepths_14  n a1 h = RR → z_G p l e R s m args below meth c D dA ad 2 (z_PI RR) (z_c ext) 14 [some (.ref 14), some (.int a1)] [] h := by
    intro  n
    induction n with
    | zero => intro a1 h T E; exact False.elim T
    | succ n ih =>
      intro a1 h T E
      unfold tk_X4_fewestByDepths_14 at T; unfold fn_X4_fewestByDepths_14 at E; dsimp only at T E
      have hk14 := ih
      refine z_go hC (pc' := 17) (ls' := [some (.ref 14), some (.int a1)]) (st' := [.int (nI 6), .int a1]) (h' := h) (cs := []) [.iload_n 1, .bipush 6] (by decide +kernel) rfl rfl trivial ?_
      refine z_icmp_gt hC (off := 22) 39 (by decide +kernel) (by decide) (fun c1 => ?_) (fun c1 => ?_)
      · skip
        have E := (if_pos c1).symm.trans E
        have T := T.1 c1
        refine z_go hC (pc' := 40) (ls' := [some (.ref 14), some (.int a1)]) (st' := [.int (-1)]) (h' := h) (cs := []) [.iconst (-1)] (by decide +kernel) rfl rfl trivial ?_
        exact z_ret_i hB rfl (by decide +kernel) (z_lfi E)
      · skip
        have E := (if_neg c1).symm.trans E
        have T := T.2 c1
        refine z_go hC (pc' := 25) (ls' := [some (.ref 14), some (.int a1)]) (st' := [.int a1, .ref 10]) (h' := h) (cs := []) [.aload_n 0, .getfield 33, .iload_n 1] (by decide +kernel) rfl rfl trivial ?_
        obtain ⟨t5, T⟩ := T
        refine z_callS hC hN hR (as := [.ref 10, .int a1]) (rest := []) ok_X4_94 (by decide +kernel) (sp_X4_eatsWithin l _ 8 a1 h t5) (Nat.le_of_ble_eq_true rfl) rfl rfl (Nat.le_of_ble_eq_true rfl) ⟨Nat.zero_le _, Nat.zero_le _⟩ (fun r2 h3 q4 => z_funb q4 (fun z6 => ?_))
        refine z_if_eq hC (off := 5) 33 (by decide +kernel) (by decide) (fun c7 => ?_) (fun c7 => ?_)
        · skip
          have E := (if_pos c7).symm.trans E
          have T := T.1 c7
          refine z_go hC (pc' := 36) (ls' := [some (.ref 14), some (.int (a1 + (nI 1)))]) (st' := []) (h' := (fx_X4_eatsWithin 8 a1 h).2) (cs := []) [.iinc 1 1] (by decide +kernel) rfl rfl trivial ?_
          refine z_goto hC (off := -22) 14 (by decide +kernel) (by decide) ?_
          exact hk14 (a1 + (nI 1)) ((fx_X4_eatsWithin 8 a1 h).2) T E
        · skip
          have E := (if_neg c7).symm.trans E
          have T := T.2 c7
          refine z_go hC (pc' := 32) (ls' := [some (.ref 14), some (.int a1)]) (st' := [.int a1]) (h' := (fx_X4_eatsWithin 8 a1 h).2) (cs := []) [.iload_n 1] (by decide +kernel) rfl rfl trivial ?_
          exact z_ret_i hB rfl (by decide +kernel) (z_lfi E)
  refine z_go hC (pc' := 4) (ls' := [some (.ref 14), none]) (st' := [.ref 8]) (h' := h) (cs := []) [.aload_n 0, .getfield 29] (by decide +kernel) rfl rfl trivial ?_
  refine z_callV hC hN hR (as := []) (rest := []) ok_X4_88 (by decide +kernel) (sp_X3_size l _ h ) rfl rfl (Nat.le_of_ble_eq_true rfl) rfl rfl (Nat.le_of_ble_eq_true rfl) ⟨Nat.zero_le _, Nat.zero_le _⟩ (fun r8 h9 q10 => z_fun q10 ?_)
  refine z_if_ne hC (off := 5) 12 (by decide +kernel) (by decide) (fun c11 => ?_) (fun c11 => ?_)
  · skip
    have E := (if_neg c11).symm.trans E
    have T := T.2 c11
    refine z_go hC (pc' := 14) (ls' := [some (.ref 14), some (.int (nI 1))]) (st' := []) (h' := h) (cs := []) [.iconst 1, .istore_n 1] (by decide +kernel) rfl rfl trivial ?_
    exact P14 2000 (nI 1) h T E
  · skip
    have E := (if_pos c11).symm.trans E
    have T := T.1 c11
    refine z_go hC (pc' := 11) (ls' := [some (.ref 14), none]) (st' := [.int (-1)]) (h' := h) (cs := []) [.iconst (-1)] (by decide +kernel) rfl rfl trivial ?_
    exact z_ret_i hB rfl (by decide +kernel) (z_lfi E)

def fn_X4_follow_4  : Nat → Int32 → Int32 → z_H → z_R
  | 0, _, _, h => (none, h)
  | n + 1, a1, a3, h => let k4 := fun (a1_ : Int32) (a3_ : Int32) (h_ : z_H) => fn_X4_follow_4  n a1_ a3_ h_; if a3 < 0 then (none, h) else k4 a1 (a3 + (z_bi (-1))) (fh_X6_advance h (fv_X1_directionIn a1 a3))
def tk_X4_follow_4  : Nat → Int32 → Int32 → z_H → Prop
  | 0, _, _, _ => False
  | n + 1, a1, a3, h => let K4 := fun (a1_ : Int32) (a3_ : Int32) (h_ : z_H) => tk_X4_follow_4  n a1_ a3_ h_; ((a3 < 0) → (True)) ∧ ((¬ a3 < 0) → (K4 a1 (a3 + (z_bi (-1))) (fh_X6_advance h (fv_X1_directionIn a1 a3))))
def fn_X4_follow (x : Int32) (y : Int32) (h : z_H) : z_R := fn_X4_follow_4 2000 x (y - (nI 1)) h
def tk_X4_follow (x : Int32) (y : Int32) (h : z_H) : Prop := tk_X4_follow_4 2000 x (y - (nI 1)) h
set_option maxHeartbeats 4000000 in
set_option maxRecDepth 100000 in
theorem sp_X4_follow (l : Launch) (ext : z_Sh)  (h : z_H) (x : Int32) (y : Int32)  (T : tk_X4_follow x y h) : z_Sp l 3 yX4_follow cX4_follow 4 none [.ref 14, .int x, .int y] (z_c ext) h (z_PV (fn_X4_follow x y h)) := by
  refine z_enter ft_X4 (by decide +kernel) fo_X4 (Nat.le_of_ble_eq_true rfl) ?_
  intro p e R s m args below meth c D dA ad hB
  have hC := hB.1
  have hN := hB.2.1
  have hR := hB.2.2.1
  unfold tk_X4_follow at T; have E : (fn_X4_follow_4 2000 x (y - (nI 1)) h) = fn_X4_follow x y h := rfl
  generalize fn_X4_follow x y h = RR at E ⊢
  have P4 : ∀ (n : Nat), ∀ (a1 : Int32) (a3 : Int32) (h : z_H), tk_X4_follow_4  n a1 a3 h → fn_X4_follow_4  n a1 a3 h = RR → z_G p l e R s m args below meth c D dA ad 4 (z_PV RR) (z_c ext) 4 [some (.ref 14), some (.int a1), none, some (.int a3)] [] h := by
    intro  n
    induction n with
    | zero => intro a1 a3 h T E; exact False.elim T
    | succ n ih =>
      intro a1 a3 h T E
      unfold tk_X4_follow_4 at T; unfold fn_X4_follow_4 at E; dsimp only at T E
      have hk4 := ih
      refine z_go hC (pc' := 5) (ls' := [some (.ref 14), some (.int a1), none, some (.int a3)]) (st' := [.int a3]) (h' := h) (cs := []) [.iload_n 3] (by decide +kernel) rfl rfl trivial ?_
      refine z_if_lt hC (off := 22) 27 (by decide +kernel) (by decide) (fun c1 => ?_) (fun c1 => ?_)
      · skip
        have E := (if_pos c1).symm.trans E
        have T := T.1 c1
        exact z_ret_v hB rfl (by decide +kernel) (z_lfv E)
      · skip
        have E := (if_neg c1).symm.trans E
        have T := T.2 c1
        refine z_go hC (pc' := 14) (ls' := [some (.ref 14), some (.int a1), none, some (.int a3)]) (st' := [.int a3, .int a1, .ref 10]) (h' := h) (cs := []) [.aload_n 0, .getfield 33, .iload_n 1, .iload_n 3] (by decide +kernel) rfl rfl trivial ?_
        refine z_callS hC hN hR (as := [.int a1, .int a3]) (rest := [.ref 10]) ok_X4_123 (by decide +kernel) (sp_X1_directionIn l _ h a1 a3) (Nat.le_of_ble_eq_true rfl) rfl rfl (Nat.le_of_ble_eq_true rfl) ⟨Nat.zero_le _, Nat.zero_le _⟩ (fun r2 h3 q4 => z_fun q4 ?_)
        refine z_callV hC hN hR (as := [.int (fv_X1_directionIn a1 a3)]) (rest := []) ok_X4_77 (by decide +kernel) (sp_X6_advance l _ h (fv_X1_directionIn a1 a3)) rfl rfl (Nat.le_of_ble_eq_true rfl) rfl rfl (Nat.le_of_ble_eq_true rfl) ⟨Nat.zero_le _, Nat.zero_le _⟩ (fun r5 h6 q7 => z_fun q7 ?_)
        refine z_go hC (pc' := 24) (ls' := [some (.ref 14), some (.int a1), none, some (.int (a3 + (z_bi (-1))))]) (st' := []) (h' := fh_X6_advance h (fv_X1_directionIn a1 a3)) (cs := []) [.pop, .iinc 3 (-1)] (by decide +kernel) rfl rfl trivial ?_
        refine z_goto hC (off := -20) 4 (by decide +kernel) (by decide) ?_
        exact hk4 a1 (a3 + (z_bi (-1))) (fh_X6_advance h (fv_X1_directionIn a1 a3)) T E
  refine z_go hC (pc' := 4) (ls' := [some (.ref 14), some (.int x), some (.int y), some (.int (y - (nI 1)))]) (st' := []) (h' := h) (cs := []) [.iload_n 2, .iconst 1, .isub, .istore_n 3] (by decide +kernel) rfl rfl trivial ?_
  refine z_less (ls' := [some (.ref 14), some (.int x), none, some (.int (y - (nI 1)))]) (by simp [z_sub]) ?_
  exact P4 2000 x (y - (nI 1)) h T E

def fn_X4_eatsByOneStep_16_49 (k5 : Int32 → Int32 → Int32 → z_H → z_R) (a1 : Int32) (a3 : Int32) (a4 : Int32) (h : z_H) : z_R := k5 a1 a3 (a4 + (nI 1)) h
def tk_X4_eatsByOneStep_16_49 (K5 : Int32 → Int32 → Int32 → z_H → Prop) (a1 : Int32) (a3 : Int32) (a4 : Int32) (h : z_H) : Prop := K5 a1 a3 (a4 + (nI 1)) h
def fn_X4_eatsByOneStep_16_5  : Nat → Int32 → Int32 → Int32 → z_H → z_R
  | 0, _, _, _, h => (none, h)
  | n + 1, a1, a3, a4, h => let k5 := fun (a1_ : Int32) (a3_ : Int32) (a4_ : Int32) (h_ : z_H) => fn_X4_eatsByOneStep_16_5  n a1_ a3_ a4_ h_; if (nI 4) ≤ a4 then (some (.int a3), h) else if a3 = 0 then if (fv_X6_advance h a4) = 0 then fn_X4_eatsByOneStep_16_49 k5 a1 a3 a4 (fh_X6_advance h a4) else fn_X4_eatsByOneStep_16_49 k5 a1 (fv_X6_hasJustEaten (fh_X6_advance h a4) ) a4 (fh_X6_takeBack (fh_X1_add_16 (fh_X6_advance h a4) a1 a4) ) else (some (.int a3), h)
def tk_X4_eatsByOneStep_16_5  : Nat → Int32 → Int32 → Int32 → z_H → Prop
  | 0, _, _, _, _ => False
  | n + 1, a1, a3, a4, h => let K5 := fun (a1_ : Int32) (a3_ : Int32) (a4_ : Int32) (h_ : z_H) => tk_X4_eatsByOneStep_16_5  n a1_ a3_ a4_ h_; (((nI 4) ≤ a4) → ((a3 = 0 ∨ a3 = 1))) ∧ ((¬ (nI 4) ≤ a4) → (((a3 = 0) → ((((fv_X6_advance h a4) = 0) → (tk_X4_eatsByOneStep_16_49 K5 a1 a3 a4 (fh_X6_advance h a4))) ∧ ((¬ (fv_X6_advance h a4) = 0) → (tk_X4_eatsByOneStep_16_49 K5 a1 (fv_X6_hasJustEaten (fh_X6_advance h a4) ) a4 (fh_X6_takeBack (fh_X1_add_16 (fh_X6_advance h a4) a1 a4) ))))) ∧ ((¬ a3 = 0) → ((a3 = 0 ∨ a3 = 1)))))
def fn_X4_eatsByOneStep_16 (x : Int32) (h : z_H) : z_R := fn_X4_eatsByOneStep_16_5 2000 x (nI 0) (nI 0) h
def tk_X4_eatsByOneStep_16 (x : Int32) (h : z_H) : Prop := tk_X4_eatsByOneStep_16_5 2000 x (nI 0) (nI 0) h
set_option maxHeartbeats 4000000 in
set_option maxRecDepth 100000 in
theorem sp_X4_eatsByOneStep_16 (l : Launch) (ext : z_Sh)  (h : z_H) (x : Int32)  (T : tk_X4_eatsByOneStep_16 x h) : z_Sp l 3 yX4_eatsByOneStep cX4_eatsByOneStep 5 (some .boolean) [.ref 14, .int x, .ref 16] (z_c ext) h (z_PB (fn_X4_eatsByOneStep_16 x h)) := by
  refine z_enter ft_X4 (by decide +kernel) fo_X4 (Nat.le_of_ble_eq_true rfl) ?_
  intro p e R s m args below meth c D dA ad hB
  have hC := hB.1
  have hN := hB.2.1
  have hR := hB.2.2.1
  unfold tk_X4_eatsByOneStep_16 at T; have E : (fn_X4_eatsByOneStep_16_5 2000 x (nI 0) (nI 0) h) = fn_X4_eatsByOneStep_16 x h := rfl
  generalize fn_X4_eatsByOneStep_16 x h = RR at E ⊢
  have P49 : ∀ (k5 : Int32 → Int32 → Int32 → z_H → z_R) (K5 : Int32 → Int32 → Int32 → z_H → Prop) (hk5 : ∀ (a1 : Int32) (a3 : Int32) (a4 : Int32) (h : z_H), K5 a1 a3 a4 h → k5 a1 a3 a4 h = RR → z_G p l e R s m args below meth c D dA ad 5 (z_PB RR) (z_c ext) 5 [some (.ref 14), some (.int a1), some (.ref 16), some (.int a3), some (.int a4)] [] h), ∀ (a1 : Int32) (a3 : Int32) (a4 : Int32) (h : z_H), tk_X4_eatsByOneStep_16_49 K5 a1 a3 a4 h → fn_X4_eatsByOneStep_16_49 k5 a1 a3 a4 h = RR → z_G p l e R s m args below meth c D dA ad 5 (z_PB RR) (z_c ext) 49 [some (.ref 14), some (.int a1), some (.ref 16), some (.int a3), some (.int a4)] [] h := by
    intro k5 K5 hk5 a1 a3 a4 h T E
    unfold tk_X4_eatsByOneStep_16_49 at T; unfold fn_X4_eatsByOneStep_16_49 at E
    refine z_go hC (pc' := 52) (ls' := [some (.ref 14), some (.int a1), some (.ref 16), some (.int a3), some (.int (a4 + (nI 1)))]) (st' := []) (h' := h) (cs := []) [.iinc 4 1] (by decide +kernel) rfl rfl trivial ?_
    refine z_goto hC (off := -47) 5 (by decide +kernel) (by decide) ?_
    exact hk5 a1 a3 (a4 + (nI 1)) h T E
  have P5 : ∀ (n : Nat), ∀ (a1 : Int32) (a3 : Int32) (a4 : Int32) (h : z_H), tk_X4_eatsByOneStep_16_5  n a1 a3 a4 h → fn_X4_eatsByOneStep_16_5  n a1 a3 a4 h = RR → z_G p l e R s m args below meth c D dA ad 5 (z_PB RR) (z_c ext) 5 [some (.ref 14), some (.int a1), some (.ref 16), some (.int a3), some (.int a4)] [] h := by
    intro  n
    induction n with
    | zero => intro a1 a3 a4 h T E; exact False.elim T
    | succ n ih =>
      intro a1 a3 a4 h T E
      unfold tk_X4_eatsByOneStep_16_5 at T; unfold fn_X4_eatsByOneStep_16_5 at E; dsimp only at T E
      have hk5 := ih
      refine z_go hC (pc' := 8) (ls' := [some (.ref 14), some (.int a1), some (.ref 16), some (.int a3), some (.int a4)]) (st' := [.int (nI 4), .int a4]) (h' := h) (cs := []) [.iload 4, .iconst 4] (by decide +kernel) rfl rfl trivial ?_
      refine z_icmp_ge hC (off := 47) 55 (by decide +kernel) (by decide) (fun c1 => ?_) (fun c1 => ?_)
      · skip
        have E := (if_pos c1).symm.trans E
        have T := T.1 c1
        refine z_go hC (pc' := 56) (ls' := [some (.ref 14), some (.int a1), some (.ref 16), some (.int a3), some (.int a4)]) (st' := [.int a3]) (h' := h) (cs := []) [.iload_n 3] (by decide +kernel) rfl rfl trivial ?_
        have t2 := T
        exact z_ret_z hB rfl t2 (by decide +kernel) (z_lfb t2 E)
      · skip
        have E := (if_neg c1).symm.trans E
        have T := T.2 c1
        refine z_go hC (pc' := 12) (ls' := [some (.ref 14), some (.int a1), some (.ref 16), some (.int a3), some (.int a4)]) (st' := [.int a3]) (h' := h) (cs := []) [.iload_n 3] (by decide +kernel) rfl rfl trivial ?_
        refine z_if_ne hC (off := 43) 55 (by decide +kernel) (by decide) (fun c3 => ?_) (fun c3 => ?_)
        · skip
          have E := (if_neg c3).symm.trans E
          have T := T.2 c3
          refine z_go hC (pc' := 56) (ls' := [some (.ref 14), some (.int a1), some (.ref 16), some (.int a3), some (.int a4)]) (st' := [.int a3]) (h' := h) (cs := []) [.iload_n 3] (by decide +kernel) rfl rfl trivial ?_
          have t4 := T
          exact z_ret_z hB rfl t4 (by decide +kernel) (z_lfb t4 E)
        · skip
          have E := (if_pos c3).symm.trans E
          have T := T.1 c3
          refine z_go hC (pc' := 21) (ls' := [some (.ref 14), some (.int a1), some (.ref 16), some (.int a3), some (.int a4)]) (st' := [.int a4, .ref 10]) (h' := h) (cs := []) [.aload_n 0, .getfield 33, .iload 4] (by decide +kernel) rfl rfl trivial ?_
          refine z_callV hC hN hR (as := [.int a4]) (rest := []) ok_X4_77 (by decide +kernel) (sp_X6_advance l _ h a4) rfl rfl (Nat.le_of_ble_eq_true rfl) rfl rfl (Nat.le_of_ble_eq_true rfl) ⟨Nat.zero_le _, Nat.zero_le _⟩ (fun r5 h6 q7 => z_fun q7 ?_)
          refine z_if_eq hC (off := 25) 49 (by decide +kernel) (by decide) (fun c8 => ?_) (fun c8 => ?_)
          · skip
            have E := (if_pos c8).symm.trans E
            have T := T.1 c8
            exact P49 _ _ hk5 a1 a3 a4 (fh_X6_advance h a4) T E
          · skip
            have E := (if_neg c8).symm.trans E
            have T := T.2 c8
            refine z_go hC (pc' := 31) (ls' := [some (.ref 14), some (.int a1), some (.ref 16), some (.int a3), some (.int a4)]) (st' := [.ref 10]) (h' := fh_X6_advance h a4) (cs := []) [.aload_n 0, .getfield 33] (by decide +kernel) rfl rfl trivial ?_
            refine z_callV hC hN hR (as := []) (rest := []) ok_X4_98 (by decide +kernel) (sp_X6_hasJustEaten l _ (fh_X6_advance h a4) ) rfl rfl (Nat.le_of_ble_eq_true rfl) rfl rfl (Nat.le_of_ble_eq_true rfl) ⟨Nat.zero_le _, Nat.zero_le _⟩ (fun r9 h10 q11 => z_fun q11 ?_)
            refine z_go hC (pc' := 39) (ls' := [some (.ref 14), some (.int a1), some (.ref 16), some (.int (fv_X6_hasJustEaten (fh_X6_advance h a4) )), some (.int a4)]) (st' := [.int a4, .int a1, .ref 16]) (h' := fh_X6_advance h a4) (cs := []) [.istore_n 3, .aload_n 2, .iload_n 1, .iload 4] (by decide +kernel) rfl rfl trivial ?_
            refine z_callV hC hN hR (as := [.int a1, .int a4]) (rest := []) ok_X4_126 (by decide +kernel) (sp_X1_add_16 l _ (fh_X6_advance h a4) a1 a4) rfl rfl (Nat.le_of_ble_eq_true rfl) rfl rfl (Nat.le_of_ble_eq_true rfl) ⟨Nat.zero_le _, Nat.zero_le _⟩ (fun r12 h13 q14 => z_fun q14 ?_)
            refine z_go hC (pc' := 46) (ls' := [some (.ref 14), some (.int a1), some (.ref 16), some (.int (fv_X6_hasJustEaten (fh_X6_advance h a4) )), some (.int a4)]) (st' := [.ref 10]) (h' := fh_X1_add_16 (fh_X6_advance h a4) a1 a4) (cs := []) [.aload_n 0, .getfield 33] (by decide +kernel) rfl rfl trivial ?_
            refine z_callV hC hN hR (as := []) (rest := []) ok_X4_85 (by decide +kernel) (sp_X6_takeBack l _ (fh_X1_add_16 (fh_X6_advance h a4) a1 a4) ) rfl rfl (Nat.le_of_ble_eq_true rfl) rfl rfl (Nat.le_of_ble_eq_true rfl) ⟨Nat.zero_le _, Nat.zero_le _⟩ (fun r15 h16 q17 => z_fun q17 ?_)
            exact P49 _ _ hk5 a1 (fv_X6_hasJustEaten (fh_X6_advance h a4) ) a4 (fh_X6_takeBack (fh_X1_add_16 (fh_X6_advance h a4) a1 a4) ) T E
  refine z_go hC (pc' := 5) (ls' := [some (.ref 14), some (.int x), some (.ref 16), some (.int (nI 0)), some (.int (nI 0))]) (st' := []) (h' := h) (cs := []) [.iconst 0, .istore_n 3, .iconst 0, .istore 4] (by decide +kernel) rfl rfl trivial ?_
  exact P5 2000 x (nI 0) (nI 0) h T E

def fn_X4_eatsByOneStep_18_49 (k5 : Int32 → Int32 → Int32 → z_H → z_R) (a1 : Int32) (a3 : Int32) (a4 : Int32) (h : z_H) : z_R := k5 a1 a3 (a4 + (nI 1)) h
def tk_X4_eatsByOneStep_18_49 (K5 : Int32 → Int32 → Int32 → z_H → Prop) (a1 : Int32) (a3 : Int32) (a4 : Int32) (h : z_H) : Prop := K5 a1 a3 (a4 + (nI 1)) h
def fn_X4_eatsByOneStep_18_5  : Nat → Int32 → Int32 → Int32 → z_H → z_R
  | 0, _, _, _, h => (none, h)
  | n + 1, a1, a3, a4, h => let k5 := fun (a1_ : Int32) (a3_ : Int32) (a4_ : Int32) (h_ : z_H) => fn_X4_eatsByOneStep_18_5  n a1_ a3_ a4_ h_; if (nI 4) ≤ a4 then (some (.int a3), h) else if a3 = 0 then if (fv_X6_advance h a4) = 0 then fn_X4_eatsByOneStep_18_49 k5 a1 a3 a4 (fh_X6_advance h a4) else fn_X4_eatsByOneStep_18_49 k5 a1 (fv_X6_hasJustEaten (fh_X6_advance h a4) ) a4 (fh_X6_takeBack (fh_X1_add_18 (fh_X6_advance h a4) a1 a4) ) else (some (.int a3), h)
def tk_X4_eatsByOneStep_18_5  : Nat → Int32 → Int32 → Int32 → z_H → Prop
  | 0, _, _, _, _ => False
  | n + 1, a1, a3, a4, h => let K5 := fun (a1_ : Int32) (a3_ : Int32) (a4_ : Int32) (h_ : z_H) => tk_X4_eatsByOneStep_18_5  n a1_ a3_ a4_ h_; (((nI 4) ≤ a4) → ((a3 = 0 ∨ a3 = 1))) ∧ ((¬ (nI 4) ≤ a4) → (((a3 = 0) → ((((fv_X6_advance h a4) = 0) → (tk_X4_eatsByOneStep_18_49 K5 a1 a3 a4 (fh_X6_advance h a4))) ∧ ((¬ (fv_X6_advance h a4) = 0) → (tk_X4_eatsByOneStep_18_49 K5 a1 (fv_X6_hasJustEaten (fh_X6_advance h a4) ) a4 (fh_X6_takeBack (fh_X1_add_18 (fh_X6_advance h a4) a1 a4) ))))) ∧ ((¬ a3 = 0) → ((a3 = 0 ∨ a3 = 1)))))
def fn_X4_eatsByOneStep_18 (x : Int32) (h : z_H) : z_R := fn_X4_eatsByOneStep_18_5 2000 x (nI 0) (nI 0) h
def tk_X4_eatsByOneStep_18 (x : Int32) (h : z_H) : Prop := tk_X4_eatsByOneStep_18_5 2000 x (nI 0) (nI 0) h
set_option maxHeartbeats 4000000 in
set_option maxRecDepth 100000 in
theorem sp_X4_eatsByOneStep_18 (l : Launch) (ext : z_Sh)  (h : z_H) (x : Int32)  (T : tk_X4_eatsByOneStep_18 x h) : z_Sp l 3 yX4_eatsByOneStep cX4_eatsByOneStep 5 (some .boolean) [.ref 14, .int x, .ref 18] (z_c ext) h (z_PB (fn_X4_eatsByOneStep_18 x h)) := by
  refine z_enter ft_X4 (by decide +kernel) fo_X4 (Nat.le_of_ble_eq_true rfl) ?_
  intro p e R s m args below meth c D dA ad hB
  have hC := hB.1
  have hN := hB.2.1
  have hR := hB.2.2.1
  unfold tk_X4_eatsByOneStep_18 at T; have E : (fn_X4_eatsByOneStep_18_5 2000 x (nI 0) (nI 0) h) = fn_X4_eatsByOneStep_18 x h := rfl
  generalize fn_X4_eatsByOneStep_18 x h = RR at E ⊢
  have P49 : ∀ (k5 : Int32 → Int32 → Int32 → z_H → z_R) (K5 : Int32 → Int32 → Int32 → z_H → Prop) (hk5 : ∀ (a1 : Int32) (a3 : Int32) (a4 : Int32) (h : z_H), K5 a1 a3 a4 h → k5 a1 a3 a4 h = RR → z_G p l e R s m args below meth c D dA ad 5 (z_PB RR) (z_c ext) 5 [some (.ref 14), some (.int a1), some (.ref 18), some (.int a3), some (.int a4)] [] h), ∀ (a1 : Int32) (a3 : Int32) (a4 : Int32) (h : z_H), tk_X4_eatsByOneStep_18_49 K5 a1 a3 a4 h → fn_X4_eatsByOneStep_18_49 k5 a1 a3 a4 h = RR → z_G p l e R s m args below meth c D dA ad 5 (z_PB RR) (z_c ext) 49 [some (.ref 14), some (.int a1), some (.ref 18), some (.int a3), some (.int a4)] [] h := by
    intro k5 K5 hk5 a1 a3 a4 h T E
    unfold tk_X4_eatsByOneStep_18_49 at T; unfold fn_X4_eatsByOneStep_18_49 at E
    refine z_go hC (pc' := 52) (ls' := [some (.ref 14), some (.int a1), some (.ref 18), some (.int a3), some (.int (a4 + (nI 1)))]) (st' := []) (h' := h) (cs := []) [.iinc 4 1] (by decide +kernel) rfl rfl trivial ?_
    refine z_goto hC (off := -47) 5 (by decide +kernel) (by decide) ?_
    exact hk5 a1 a3 (a4 + (nI 1)) h T E
  have P5 : ∀ (n : Nat), ∀ (a1 : Int32) (a3 : Int32) (a4 : Int32) (h : z_H), tk_X4_eatsByOneStep_18_5  n a1 a3 a4 h → fn_X4_eatsByOneStep_18_5  n a1 a3 a4 h = RR → z_G p l e R s m args below meth c D dA ad 5 (z_PB RR) (z_c ext) 5 [some (.ref 14), some (.int a1), some (.ref 18), some (.int a3), some (.int a4)] [] h := by
    intro  n
    induction n with
    | zero => intro a1 a3 a4 h T E; exact False.elim T
    | succ n ih =>
      intro a1 a3 a4 h T E
      unfold tk_X4_eatsByOneStep_18_5 at T; unfold fn_X4_eatsByOneStep_18_5 at E; dsimp only at T E
      have hk5 := ih
      refine z_go hC (pc' := 8) (ls' := [some (.ref 14), some (.int a1), some (.ref 18), some (.int a3), some (.int a4)]) (st' := [.int (nI 4), .int a4]) (h' := h) (cs := []) [.iload 4, .iconst 4] (by decide +kernel) rfl rfl trivial ?_
      refine z_icmp_ge hC (off := 47) 55 (by decide +kernel) (by decide) (fun c1 => ?_) (fun c1 => ?_)
      · skip
        have E := (if_pos c1).symm.trans E
        have T := T.1 c1
        refine z_go hC (pc' := 56) (ls' := [some (.ref 14), some (.int a1), some (.ref 18), some (.int a3), some (.int a4)]) (st' := [.int a3]) (h' := h) (cs := []) [.iload_n 3] (by decide +kernel) rfl rfl trivial ?_
        have t2 := T
        exact z_ret_z hB rfl t2 (by decide +kernel) (z_lfb t2 E)
      · skip
        have E := (if_neg c1).symm.trans E
        have T := T.2 c1
        refine z_go hC (pc' := 12) (ls' := [some (.ref 14), some (.int a1), some (.ref 18), some (.int a3), some (.int a4)]) (st' := [.int a3]) (h' := h) (cs := []) [.iload_n 3] (by decide +kernel) rfl rfl trivial ?_
        refine z_if_ne hC (off := 43) 55 (by decide +kernel) (by decide) (fun c3 => ?_) (fun c3 => ?_)
        · skip
          have E := (if_neg c3).symm.trans E
          have T := T.2 c3
          refine z_go hC (pc' := 56) (ls' := [some (.ref 14), some (.int a1), some (.ref 18), some (.int a3), some (.int a4)]) (st' := [.int a3]) (h' := h) (cs := []) [.iload_n 3] (by decide +kernel) rfl rfl trivial ?_
          have t4 := T
          exact z_ret_z hB rfl t4 (by decide +kernel) (z_lfb t4 E)
        · skip
          have E := (if_pos c3).symm.trans E
          have T := T.1 c3
          refine z_go hC (pc' := 21) (ls' := [some (.ref 14), some (.int a1), some (.ref 18), some (.int a3), some (.int a4)]) (st' := [.int a4, .ref 10]) (h' := h) (cs := []) [.aload_n 0, .getfield 33, .iload 4] (by decide +kernel) rfl rfl trivial ?_
          refine z_callV hC hN hR (as := [.int a4]) (rest := []) ok_X4_77 (by decide +kernel) (sp_X6_advance l _ h a4) rfl rfl (Nat.le_of_ble_eq_true rfl) rfl rfl (Nat.le_of_ble_eq_true rfl) ⟨Nat.zero_le _, Nat.zero_le _⟩ (fun r5 h6 q7 => z_fun q7 ?_)
          refine z_if_eq hC (off := 25) 49 (by decide +kernel) (by decide) (fun c8 => ?_) (fun c8 => ?_)
          · skip
            have E := (if_pos c8).symm.trans E
            have T := T.1 c8
            exact P49 _ _ hk5 a1 a3 a4 (fh_X6_advance h a4) T E
          · skip
            have E := (if_neg c8).symm.trans E
            have T := T.2 c8
            refine z_go hC (pc' := 31) (ls' := [some (.ref 14), some (.int a1), some (.ref 18), some (.int a3), some (.int a4)]) (st' := [.ref 10]) (h' := fh_X6_advance h a4) (cs := []) [.aload_n 0, .getfield 33] (by decide +kernel) rfl rfl trivial ?_
            refine z_callV hC hN hR (as := []) (rest := []) ok_X4_98 (by decide +kernel) (sp_X6_hasJustEaten l _ (fh_X6_advance h a4) ) rfl rfl (Nat.le_of_ble_eq_true rfl) rfl rfl (Nat.le_of_ble_eq_true rfl) ⟨Nat.zero_le _, Nat.zero_le _⟩ (fun r9 h10 q11 => z_fun q11 ?_)
            refine z_go hC (pc' := 39) (ls' := [some (.ref 14), some (.int a1), some (.ref 18), some (.int (fv_X6_hasJustEaten (fh_X6_advance h a4) )), some (.int a4)]) (st' := [.int a4, .int a1, .ref 18]) (h' := fh_X6_advance h a4) (cs := []) [.istore_n 3, .aload_n 2, .iload_n 1, .iload 4] (by decide +kernel) rfl rfl trivial ?_
            refine z_callV hC hN hR (as := [.int a1, .int a4]) (rest := []) ok_X4_126 (by decide +kernel) (sp_X1_add_18 l _ (fh_X6_advance h a4) a1 a4) rfl rfl (Nat.le_of_ble_eq_true rfl) rfl rfl (Nat.le_of_ble_eq_true rfl) ⟨Nat.zero_le _, Nat.zero_le _⟩ (fun r12 h13 q14 => z_fun q14 ?_)
            refine z_go hC (pc' := 46) (ls' := [some (.ref 14), some (.int a1), some (.ref 18), some (.int (fv_X6_hasJustEaten (fh_X6_advance h a4) )), some (.int a4)]) (st' := [.ref 10]) (h' := fh_X1_add_18 (fh_X6_advance h a4) a1 a4) (cs := []) [.aload_n 0, .getfield 33] (by decide +kernel) rfl rfl trivial ?_
            refine z_callV hC hN hR (as := []) (rest := []) ok_X4_85 (by decide +kernel) (sp_X6_takeBack l _ (fh_X1_add_18 (fh_X6_advance h a4) a1 a4) ) rfl rfl (Nat.le_of_ble_eq_true rfl) rfl rfl (Nat.le_of_ble_eq_true rfl) ⟨Nat.zero_le _, Nat.zero_le _⟩ (fun r15 h16 q17 => z_fun q17 ?_)
            exact P49 _ _ hk5 a1 (fv_X6_hasJustEaten (fh_X6_advance h a4) ) a4 (fh_X6_takeBack (fh_X1_add_18 (fh_X6_advance h a4) a1 a4) ) T E
  refine z_go hC (pc' := 5) (ls' := [some (.ref 14), some (.int x), some (.ref 18), some (.int (nI 0)), some (.int (nI 0))]) (st' := []) (h' := h) (cs := []) [.iconst 0, .istore_n 3, .iconst 0, .istore 4] (by decide +kernel) rfl rfl trivial ?_
  exact P5 2000 x (nI 0) (nI 0) h T E

def fn_X4_eatsFromOneOf_16_51 (k10 : Int32 → Int32 → Int32 → z_H → z_R) : Nat → Int32 → Int32 → Int32 → Int32 → z_H → z_R
  | 0, _, _, _, _, h => (none, h)
  | n + 1, a2, a4, a5, a7, h => let k51 := fun (a2_ : Int32) (a4_ : Int32) (a5_ : Int32) (a7_ : Int32) (h_ : z_H) => fn_X4_eatsFromOneOf_16_51 k10 n a2_ a4_ a5_ a7_ h_; if a2 ≤ a7 then k10 a2 a4 (a5 + (nI 1)) h else k51 a2 a4 a5 (a7 + (nI 1)) (fh_X6_takeBack h )
def tk_X4_eatsFromOneOf_16_51 (K10 : Int32 → Int32 → Int32 → z_H → Prop) : Nat → Int32 → Int32 → Int32 → Int32 → z_H → Prop
  | 0, _, _, _, _, _ => False
  | n + 1, a2, a4, a5, a7, h => let K51 := fun (a2_ : Int32) (a4_ : Int32) (a5_ : Int32) (a7_ : Int32) (h_ : z_H) => tk_X4_eatsFromOneOf_16_51 K10 n a2_ a4_ a5_ a7_ h_; ((a2 ≤ a7) → (K10 a2 a4 (a5 + (nI 1)) h)) ∧ ((¬ a2 ≤ a7) → (K51 a2 a4 a5 (a7 + (nI 1)) (fh_X6_takeBack h )))
def fn_X4_eatsFromOneOf_16_10  : Nat → Int32 → Int32 → Int32 → z_H → z_R
  | 0, _, _, _, h => (none, h)
  | n + 1, a2, a4, a5, h => let k10 := fun (a2_ : Int32) (a4_ : Int32) (a5_ : Int32) (h_ : z_H) => fn_X4_eatsFromOneOf_16_10  n a2_ a4_ a5_ h_; if (h.1 16 1) ≤ a5 then (some (.int a4), h) else if a4 = 0 then fn_X4_eatsFromOneOf_16_51 k10 2000 a2 (z_vi (fn_X4_eatsByOneStep_18 (z_atv h 17 1024 a5) ((fn_X4_follow (z_atv h 17 1024 a5) a2 h).2))) a5 (nI 0) ((fn_X4_eatsByOneStep_18 (z_atv h 17 1024 a5) ((fn_X4_follow (z_atv h 17 1024 a5) a2 h).2)).2) else (some (.int a4), h)
def tk_X4_eatsFromOneOf_16_10  : Nat → Int32 → Int32 → Int32 → z_H → Prop
  | 0, _, _, _, _ => False
  | n + 1, a2, a4, a5, h => let K10 := fun (a2_ : Int32) (a4_ : Int32) (a5_ : Int32) (h_ : z_H) => tk_X4_eatsFromOneOf_16_10  n a2_ a4_ a5_ h_; (((h.1 16 1) ≤ a5) → ((a4 = 0 ∨ a4 = 1))) ∧ ((¬ (h.1 16 1) ≤ a5) → (((a4 = 0) → (tk_X4_follow (z_atv h 17 1024 a5) a2 h ∧ (tk_X4_eatsByOneStep_18 (z_atv h 17 1024 a5) ((fn_X4_follow (z_atv h 17 1024 a5) a2 h).2) ∧ (tk_X4_eatsFromOneOf_16_51 K10 2000 a2 (z_vi (fn_X4_eatsByOneStep_18 (z_atv h 17 1024 a5) ((fn_X4_follow (z_atv h 17 1024 a5) a2 h).2))) a5 (nI 0) ((fn_X4_eatsByOneStep_18 (z_atv h 17 1024 a5) ((fn_X4_follow (z_atv h 17 1024 a5) a2 h).2)).2))))) ∧ ((¬ a4 = 0) → ((a4 = 0 ∨ a4 = 1)))))
def fn_X4_eatsFromOneOf_16 (x : Int32) (h : z_H) : z_R := fn_X4_eatsFromOneOf_16_10 2000 x (nI 0) (nI 0) (z_set h 18 1 (nI 0))
def tk_X4_eatsFromOneOf_16 (x : Int32) (h : z_H) : Prop := tk_X4_eatsFromOneOf_16_10 2000 x (nI 0) (nI 0) (z_set h 18 1 (nI 0))
set_option maxHeartbeats 4000000 in
set_option maxRecDepth 100000 in
theorem sp_X4_eatsFromOneOf_16 (l : Launch) (ext : z_Sh)  (h : z_H) (x : Int32)  (T : tk_X4_eatsFromOneOf_16 x h) : z_Sp l 4 yX4_eatsFromOneOf cX4_eatsFromOneOf 8 (some .boolean) [.ref 14, .ref 16, .int x, .ref 18] (z_c ext) h (z_PB (fn_X4_eatsFromOneOf_16 x h)) := by
  refine z_enter ft_X4 (by decide +kernel) fo_X4 (Nat.le_of_ble_eq_true rfl) ?_
  intro p e R s m args below meth c D dA ad hB
  have hC := hB.1
  have hN := hB.2.1
  have hR := hB.2.2.1
  unfold tk_X4_eatsFromOneOf_16 at T; have E : (fn_X4_eatsFromOneOf_16_10 2000 x (nI 0) (nI 0) (z_set h 18 1 (nI 0))) = fn_X4_eatsFromOneOf_16 x h := rfl
  generalize fn_X4_eatsFromOneOf_16 x h = RR at E ⊢
  have P51 : ∀ (k10 : Int32 → Int32 → Int32 → z_H → z_R) (K10 : Int32 → Int32 → Int32 → z_H → Prop) (hk10 : ∀ (a2 : Int32) (a4 : Int32) (a5 : Int32) (h : z_H), K10 a2 a4 a5 h → k10 a2 a4 a5 h = RR → z_G p l e R s m args below meth c D dA ad 8 (z_PB RR) (z_c ext) 10 [some (.ref 14), some (.ref 16), some (.int a2), some (.ref 18), some (.int a4), some (.int a5), none, none] [] h), ∀ (n : Nat), ∀ (a2 : Int32) (a4 : Int32) (a5 : Int32) (a7 : Int32) (h : z_H), tk_X4_eatsFromOneOf_16_51 K10 n a2 a4 a5 a7 h → fn_X4_eatsFromOneOf_16_51 k10 n a2 a4 a5 a7 h = RR → z_G p l e R s m args below meth c D dA ad 8 (z_PB RR) (z_c ext) 51 [some (.ref 14), some (.ref 16), some (.int a2), some (.ref 18), some (.int a4), some (.int a5), none, some (.int a7)] [] h := by
    intro k10 K10 hk10 n
    induction n with
    | zero => intro a2 a4 a5 a7 h T E; exact False.elim T
    | succ n ih =>
      intro a2 a4 a5 a7 h T E
      unfold tk_X4_eatsFromOneOf_16_51 at T; unfold fn_X4_eatsFromOneOf_16_51 at E; dsimp only at T E
      have hk51 := ih
      refine z_go hC (pc' := 54) (ls' := [some (.ref 14), some (.ref 16), some (.int a2), some (.ref 18), some (.int a4), some (.int a5), none, some (.int a7)]) (st' := [.int a2, .int a7]) (h' := h) (cs := []) [.iload 7, .iload_n 2] (by decide +kernel) rfl rfl trivial ?_
      refine z_icmp_ge hC (off := 16) 70 (by decide +kernel) (by decide) (fun c1 => ?_) (fun c1 => ?_)
      · skip
        have E := (if_pos c1).symm.trans E
        have T := T.1 c1
        refine z_go hC (pc' := 73) (ls' := [some (.ref 14), some (.ref 16), some (.int a2), some (.ref 18), some (.int a4), some (.int (a5 + (nI 1))), none, some (.int a7)]) (st' := []) (h' := h) (cs := []) [.iinc 5 1] (by decide +kernel) rfl rfl trivial ?_
        refine z_goto hC (off := -63) 10 (by decide +kernel) (by decide) ?_
        refine z_less (ls' := [some (.ref 14), some (.ref 16), some (.int a2), some (.ref 18), some (.int a4), some (.int (a5 + (nI 1))), none, none]) (by simp [z_sub]) ?_
        exact hk10 a2 a4 (a5 + (nI 1)) h T E
      · skip
        have E := (if_neg c1).symm.trans E
        have T := T.2 c1
        refine z_go hC (pc' := 61) (ls' := [some (.ref 14), some (.ref 16), some (.int a2), some (.ref 18), some (.int a4), some (.int a5), none, some (.int a7)]) (st' := [.ref 10]) (h' := h) (cs := []) [.aload_n 0, .getfield 33] (by decide +kernel) rfl rfl trivial ?_
        refine z_callV hC hN hR (as := []) (rest := []) ok_X4_85 (by decide +kernel) (sp_X6_takeBack l _ h ) rfl rfl (Nat.le_of_ble_eq_true rfl) rfl rfl (Nat.le_of_ble_eq_true rfl) ⟨Nat.zero_le _, Nat.zero_le _⟩ (fun r2 h3 q4 => z_fun q4 ?_)
        refine z_go hC (pc' := 67) (ls' := [some (.ref 14), some (.ref 16), some (.int a2), some (.ref 18), some (.int a4), some (.int a5), none, some (.int (a7 + (nI 1)))]) (st' := []) (h' := fh_X6_takeBack h ) (cs := []) [.iinc 7 1] (by decide +kernel) rfl rfl trivial ?_
        refine z_goto hC (off := -16) 51 (by decide +kernel) (by decide) ?_
        exact hk51 a2 a4 a5 (a7 + (nI 1)) (fh_X6_takeBack h ) T E
  have P10 : ∀ (n : Nat), ∀ (a2 : Int32) (a4 : Int32) (a5 : Int32) (h : z_H), tk_X4_eatsFromOneOf_16_10  n a2 a4 a5 h → fn_X4_eatsFromOneOf_16_10  n a2 a4 a5 h = RR → z_G p l e R s m args below meth c D dA ad 8 (z_PB RR) (z_c ext) 10 [some (.ref 14), some (.ref 16), some (.int a2), some (.ref 18), some (.int a4), some (.int a5), none, none] [] h := by
    intro  n
    induction n with
    | zero => intro a2 a4 a5 h T E; exact False.elim T
    | succ n ih =>
      intro a2 a4 a5 h T E
      unfold tk_X4_eatsFromOneOf_16_10 at T; unfold fn_X4_eatsFromOneOf_16_10 at E; dsimp only at T E
      have hk10 := ih
      refine z_go hC (pc' := 13) (ls' := [some (.ref 14), some (.ref 16), some (.int a2), some (.ref 18), some (.int a4), some (.int a5), none, none]) (st' := [.ref 16, .int a5]) (h' := h) (cs := []) [.iload 5, .aload_n 1] (by decide +kernel) rfl rfl trivial ?_
      refine z_callV hC hN hR (as := []) (rest := [.int a5]) ok_X4_111 (by decide +kernel) (sp_X1_size_16 l _ h ) rfl rfl (Nat.le_of_ble_eq_true rfl) rfl rfl (Nat.le_of_ble_eq_true rfl) ⟨Nat.zero_le _, Nat.zero_le _⟩ (fun r5 h6 q7 => z_fun q7 ?_)
      refine z_icmp_ge hC (off := 60) 76 (by decide +kernel) (by decide) (fun c8 => ?_) (fun c8 => ?_)
      · skip
        have E := (if_pos c8).symm.trans E
        have T := T.1 c8
        refine z_go hC (pc' := 78) (ls' := [some (.ref 14), some (.ref 16), some (.int a2), some (.ref 18), some (.int a4), some (.int a5), none, none]) (st' := [.int a4]) (h' := h) (cs := []) [.iload 4] (by decide +kernel) rfl rfl trivial ?_
        have t9 := T
        exact z_ret_z hB rfl t9 (by decide +kernel) (z_lfb t9 E)
      · skip
        have E := (if_neg c8).symm.trans E
        have T := T.2 c8
        refine z_go hC (pc' := 21) (ls' := [some (.ref 14), some (.ref 16), some (.int a2), some (.ref 18), some (.int a4), some (.int a5), none, none]) (st' := [.int a4]) (h' := h) (cs := []) [.iload 4] (by decide +kernel) rfl rfl trivial ?_
        refine z_if_ne hC (off := 55) 76 (by decide +kernel) (by decide) (fun c10 => ?_) (fun c10 => ?_)
        · skip
          have E := (if_neg c10).symm.trans E
          have T := T.2 c10
          refine z_go hC (pc' := 78) (ls' := [some (.ref 14), some (.ref 16), some (.int a2), some (.ref 18), some (.int a4), some (.int a5), none, none]) (st' := [.int a4]) (h' := h) (cs := []) [.iload 4] (by decide +kernel) rfl rfl trivial ?_
          have t11 := T
          exact z_ret_z hB rfl t11 (by decide +kernel) (z_lfb t11 E)
        · skip
          have E := (if_pos c10).symm.trans E
          have T := T.1 c10
          refine z_go hC (pc' := 27) (ls' := [some (.ref 14), some (.ref 16), some (.int a2), some (.ref 18), some (.int a4), some (.int a5), none, none]) (st' := [.int a5, .ref 16]) (h' := h) (cs := []) [.aload_n 1, .iload 5] (by decide +kernel) rfl rfl trivial ?_
          refine z_callV hC hN hR (as := [.int a5]) (rest := []) ok_X4_112 (by decide +kernel) (sp_X1_wayTo_16 l _ h a5) rfl rfl (Nat.le_of_ble_eq_true rfl) rfl rfl (Nat.le_of_ble_eq_true rfl) ⟨Nat.zero_le _, Nat.zero_le _⟩ (fun r12 h13 q14 => z_fun q14 ?_)
          refine z_go hC (pc' := 36) (ls' := [some (.ref 14), some (.ref 16), some (.int a2), some (.ref 18), some (.int a4), some (.int a5), some (.int (z_atv h 17 1024 a5)), none]) (st' := [.int a2, .int (z_atv h 17 1024 a5), .ref 14]) (h' := h) (cs := []) [.istore 6, .aload_n 0, .iload 6, .iload_n 2] (by decide +kernel) rfl rfl trivial ?_
          obtain ⟨t18, T⟩ := T
          refine z_callV hC hN hR (as := [.int (z_atv h 17 1024 a5), .int a2]) (rest := []) ok_X4_115 (by decide +kernel) (sp_X4_follow l _ h (z_atv h 17 1024 a5) a2 t18) rfl rfl (Nat.le_of_ble_eq_true rfl) rfl rfl (Nat.le_of_ble_eq_true rfl) ⟨Nat.zero_le _, Nat.zero_le _⟩ (fun r15 h16 q17 => z_fun q17 ?_)
          refine z_go hC (pc' := 43) (ls' := [some (.ref 14), some (.ref 16), some (.int a2), some (.ref 18), some (.int a4), some (.int a5), some (.int (z_atv h 17 1024 a5)), none]) (st' := [.ref 18, .int (z_atv h 17 1024 a5), .ref 14]) (h' := (fn_X4_follow (z_atv h 17 1024 a5) a2 h).2) (cs := []) [.aload_n 0, .iload 6, .aload_n 3] (by decide +kernel) rfl rfl trivial ?_
          obtain ⟨t22, T⟩ := T
          refine z_callV hC hN hR (as := [.int (z_atv h 17 1024 a5), .ref 18]) (rest := []) ok_X4_119 (by decide +kernel) (sp_X4_eatsByOneStep_18 l _ ((fn_X4_follow (z_atv h 17 1024 a5) a2 h).2) (z_atv h 17 1024 a5) t22) rfl rfl (Nat.le_of_ble_eq_true rfl) rfl rfl (Nat.le_of_ble_eq_true rfl) ⟨Nat.zero_le _, Nat.zero_le _⟩ (fun r19 h20 q21 => z_funb q21 (fun z23 => ?_))
          refine z_go hC (pc' := 51) (ls' := [some (.ref 14), some (.ref 16), some (.int a2), some (.ref 18), some (.int (z_vi (fn_X4_eatsByOneStep_18 (z_atv h 17 1024 a5) ((fn_X4_follow (z_atv h 17 1024 a5) a2 h).2)))), some (.int a5), some (.int (z_atv h 17 1024 a5)), some (.int (nI 0))]) (st' := []) (h' := (fn_X4_eatsByOneStep_18 (z_atv h 17 1024 a5) ((fn_X4_follow (z_atv h 17 1024 a5) a2 h).2)).2) (cs := []) [.istore 4, .iconst 0, .istore 7] (by decide +kernel) rfl rfl trivial ?_
          refine z_less (ls' := [some (.ref 14), some (.ref 16), some (.int a2), some (.ref 18), some (.int (z_vi (fn_X4_eatsByOneStep_18 (z_atv h 17 1024 a5) ((fn_X4_follow (z_atv h 17 1024 a5) a2 h).2)))), some (.int a5), none, some (.int (nI 0))]) (by simp [z_sub]) ?_
          exact P51 _ _ hk10 2000 a2 (z_vi (fn_X4_eatsByOneStep_18 (z_atv h 17 1024 a5) ((fn_X4_follow (z_atv h 17 1024 a5) a2 h).2))) a5 (nI 0) ((fn_X4_eatsByOneStep_18 (z_atv h 17 1024 a5) ((fn_X4_follow (z_atv h 17 1024 a5) a2 h).2)).2) T E
  refine z_go hC (pc' := 1) (ls' := [some (.ref 14), some (.ref 16), some (.int x), some (.ref 18), none, none, none, none]) (st' := [.ref 18]) (h' := h) (cs := []) [.aload_n 3] (by decide +kernel) rfl rfl trivial ?_
  refine z_callV hC hN hR (as := []) (rest := []) ok_X4_108 (by decide +kernel) (sp_X1_holdNone_18 l _ h ) rfl rfl (Nat.le_of_ble_eq_true rfl) rfl rfl (Nat.le_of_ble_eq_true rfl) ⟨Nat.zero_le _, Nat.zero_le _⟩ (fun r24 h25 q26 => z_fun q26 ?_)
  refine z_go hC (pc' := 10) (ls' := [some (.ref 14), some (.ref 16), some (.int x), some (.ref 18), some (.int (nI 0)), some (.int (nI 0)), none, none]) (st' := []) (h' := z_set h 18 1 (nI 0)) (cs := []) [.iconst 0, .istore 4, .iconst 0, .istore 5] (by decide +kernel) rfl rfl trivial ?_
  exact P10 2000 x (nI 0) (nI 0) (z_set h 18 1 (nI 0)) T E

def fn_X4_eatsFromOneOf_18_51 (k10 : Int32 → Int32 → Int32 → z_H → z_R) : Nat → Int32 → Int32 → Int32 → Int32 → z_H → z_R
  | 0, _, _, _, _, h => (none, h)
  | n + 1, a2, a4, a5, a7, h => let k51 := fun (a2_ : Int32) (a4_ : Int32) (a5_ : Int32) (a7_ : Int32) (h_ : z_H) => fn_X4_eatsFromOneOf_18_51 k10 n a2_ a4_ a5_ a7_ h_; if a2 ≤ a7 then k10 a2 a4 (a5 + (nI 1)) h else k51 a2 a4 a5 (a7 + (nI 1)) (fh_X6_takeBack h )
def tk_X4_eatsFromOneOf_18_51 (K10 : Int32 → Int32 → Int32 → z_H → Prop) : Nat → Int32 → Int32 → Int32 → Int32 → z_H → Prop
  | 0, _, _, _, _, _ => False
  | n + 1, a2, a4, a5, a7, h => let K51 := fun (a2_ : Int32) (a4_ : Int32) (a5_ : Int32) (a7_ : Int32) (h_ : z_H) => tk_X4_eatsFromOneOf_18_51 K10 n a2_ a4_ a5_ a7_ h_; ((a2 ≤ a7) → (K10 a2 a4 (a5 + (nI 1)) h)) ∧ ((¬ a2 ≤ a7) → (K51 a2 a4 a5 (a7 + (nI 1)) (fh_X6_takeBack h )))
def fn_X4_eatsFromOneOf_18_10  : Nat → Int32 → Int32 → Int32 → z_H → z_R
  | 0, _, _, _, h => (none, h)
  | n + 1, a2, a4, a5, h => let k10 := fun (a2_ : Int32) (a4_ : Int32) (a5_ : Int32) (h_ : z_H) => fn_X4_eatsFromOneOf_18_10  n a2_ a4_ a5_ h_; if (h.1 18 1) ≤ a5 then (some (.int a4), h) else if a4 = 0 then fn_X4_eatsFromOneOf_18_51 k10 2000 a2 (z_vi (fn_X4_eatsByOneStep_16 (z_atv h 19 1024 a5) ((fn_X4_follow (z_atv h 19 1024 a5) a2 h).2))) a5 (nI 0) ((fn_X4_eatsByOneStep_16 (z_atv h 19 1024 a5) ((fn_X4_follow (z_atv h 19 1024 a5) a2 h).2)).2) else (some (.int a4), h)
def tk_X4_eatsFromOneOf_18_10  : Nat → Int32 → Int32 → Int32 → z_H → Prop
  | 0, _, _, _, _ => False
  | n + 1, a2, a4, a5, h => let K10 := fun (a2_ : Int32) (a4_ : Int32) (a5_ : Int32) (h_ : z_H) => tk_X4_eatsFromOneOf_18_10  n a2_ a4_ a5_ h_; (((h.1 18 1) ≤ a5) → ((a4 = 0 ∨ a4 = 1))) ∧ ((¬ (h.1 18 1) ≤ a5) → (((a4 = 0) → (tk_X4_follow (z_atv h 19 1024 a5) a2 h ∧ (tk_X4_eatsByOneStep_16 (z_atv h 19 1024 a5) ((fn_X4_follow (z_atv h 19 1024 a5) a2 h).2) ∧ (tk_X4_eatsFromOneOf_18_51 K10 2000 a2 (z_vi (fn_X4_eatsByOneStep_16 (z_atv h 19 1024 a5) ((fn_X4_follow (z_atv h 19 1024 a5) a2 h).2))) a5 (nI 0) ((fn_X4_eatsByOneStep_16 (z_atv h 19 1024 a5) ((fn_X4_follow (z_atv h 19 1024 a5) a2 h).2)).2))))) ∧ ((¬ a4 = 0) → ((a4 = 0 ∨ a4 = 1)))))
def fn_X4_eatsFromOneOf_18 (x : Int32) (h : z_H) : z_R := fn_X4_eatsFromOneOf_18_10 2000 x (nI 0) (nI 0) (z_set h 16 1 (nI 0))
def tk_X4_eatsFromOneOf_18 (x : Int32) (h : z_H) : Prop := tk_X4_eatsFromOneOf_18_10 2000 x (nI 0) (nI 0) (z_set h 16 1 (nI 0))
set_option maxHeartbeats 4000000 in
set_option maxRecDepth 100000 in
theorem sp_X4_eatsFromOneOf_18 (l : Launch) (ext : z_Sh)  (h : z_H) (x : Int32)  (T : tk_X4_eatsFromOneOf_18 x h) : z_Sp l 4 yX4_eatsFromOneOf cX4_eatsFromOneOf 8 (some .boolean) [.ref 14, .ref 18, .int x, .ref 16] (z_c ext) h (z_PB (fn_X4_eatsFromOneOf_18 x h)) := by
  refine z_enter ft_X4 (by decide +kernel) fo_X4 (Nat.le_of_ble_eq_true rfl) ?_
  intro p e R s m args below meth c D dA ad hB
  have hC := hB.1
  have hN := hB.2.1
  have hR := hB.2.2.1
  unfold tk_X4_eatsFromOneOf_18 at T; have E : (fn_X4_eatsFromOneOf_18_10 2000 x (nI 0) (nI 0) (z_set h 16 1 (nI 0))) = fn_X4_eatsFromOneOf_18 x h := rfl
  generalize fn_X4_eatsFromOneOf_18 x h = RR at E ⊢
  have P51 : ∀ (k10 : Int32 → Int32 → Int32 → z_H → z_R) (K10 : Int32 → Int32 → Int32 → z_H → Prop) (hk10 : ∀ (a2 : Int32) (a4 : Int32) (a5 : Int32) (h : z_H), K10 a2 a4 a5 h → k10 a2 a4 a5 h = RR → z_G p l e R s m args below meth c D dA ad 8 (z_PB RR) (z_c ext) 10 [some (.ref 14), some (.ref 18), some (.int a2), some (.ref 16), some (.int a4), some (.int a5), none, none] [] h), ∀ (n : Nat), ∀ (a2 : Int32) (a4 : Int32) (a5 : Int32) (a7 : Int32) (h : z_H), tk_X4_eatsFromOneOf_18_51 K10 n a2 a4 a5 a7 h → fn_X4_eatsFromOneOf_18_51 k10 n a2 a4 a5 a7 h = RR → z_G p l e R s m args below meth c D dA ad 8 (z_PB RR) (z_c ext) 51 [some (.ref 14), some (.ref 18), some (.int a2), some (.ref 16), some (.int a4), some (.int a5), none, some (.int a7)] [] h := by
    intro k10 K10 hk10 n
    induction n with
    | zero => intro a2 a4 a5 a7 h T E; exact False.elim T
    | succ n ih =>
      intro a2 a4 a5 a7 h T E
      unfold tk_X4_eatsFromOneOf_18_51 at T; unfold fn_X4_eatsFromOneOf_18_51 at E; dsimp only at T E
      have hk51 := ih
      refine z_go hC (pc' := 54) (ls' := [some (.ref 14), some (.ref 18), some (.int a2), some (.ref 16), some (.int a4), some (.int a5), none, some (.int a7)]) (st' := [.int a2, .int a7]) (h' := h) (cs := []) [.iload 7, .iload_n 2] (by decide +kernel) rfl rfl trivial ?_
      refine z_icmp_ge hC (off := 16) 70 (by decide +kernel) (by decide) (fun c1 => ?_) (fun c1 => ?_)
      · skip
        have E := (if_pos c1).symm.trans E
        have T := T.1 c1
        refine z_go hC (pc' := 73) (ls' := [some (.ref 14), some (.ref 18), some (.int a2), some (.ref 16), some (.int a4), some (.int (a5 + (nI 1))), none, some (.int a7)]) (st' := []) (h' := h) (cs := []) [.iinc 5 1] (by decide +kernel) rfl rfl trivial ?_
        refine z_goto hC (off := -63) 10 (by decide +kernel) (by decide) ?_
        refine z_less (ls' := [some (.ref 14), some (.ref 18), some (.int a2), some (.ref 16), some (.int a4), some (.int (a5 + (nI 1))), none, none]) (by simp [z_sub]) ?_
        exact hk10 a2 a4 (a5 + (nI 1)) h T E
      · skip
        have E := (if_neg c1).symm.trans E
        have T := T.2 c1
        refine z_go hC (pc' := 61) (ls' := [some (.ref 14), some (.ref 18), some (.int a2), some (.ref 16), some (.int a4), some (.int a5), none, some (.int a7)]) (st' := [.ref 10]) (h' := h) (cs := []) [.aload_n 0, .getfield 33] (by decide +kernel) rfl rfl trivial ?_
        refine z_callV hC hN hR (as := []) (rest := []) ok_X4_85 (by decide +kernel) (sp_X6_takeBack l _ h ) rfl rfl (Nat.le_of_ble_eq_true rfl) rfl rfl (Nat.le_of_ble_eq_true rfl) ⟨Nat.zero_le _, Nat.zero_le _⟩ (fun r2 h3 q4 => z_fun q4 ?_)
        refine z_go hC (pc' := 67) (ls' := [some (.ref 14), some (.ref 18), some (.int a2), some (.ref 16), some (.int a4), some (.int a5), none, some (.int (a7 + (nI 1)))]) (st' := []) (h' := fh_X6_takeBack h ) (cs := []) [.iinc 7 1] (by decide +kernel) rfl rfl trivial ?_
        refine z_goto hC (off := -16) 51 (by decide +kernel) (by decide) ?_
        exact hk51 a2 a4 a5 (a7 + (nI 1)) (fh_X6_takeBack h ) T E
  have P10 : ∀ (n : Nat), ∀ (a2 : Int32) (a4 : Int32) (a5 : Int32) (h : z_H), tk_X4_eatsFromOneOf_18_10  n a2 a4 a5 h → fn_X4_eatsFromOneOf_18_10  n a2 a4 a5 h = RR → z_G p l e R s m args below meth c D dA ad 8 (z_PB RR) (z_c ext) 10 [some (.ref 14), some (.ref 18), some (.int a2), some (.ref 16), some (.int a4), some (.int a5), none, none] [] h := by
    intro  n
    induction n with
    | zero => intro a2 a4 a5 h T E; exact False.elim T
    | succ n ih =>
      intro a2 a4 a5 h T E
      unfold tk_X4_eatsFromOneOf_18_10 at T; unfold fn_X4_eatsFromOneOf_18_10 at E; dsimp only at T E
      have hk10 := ih
      refine z_go hC (pc' := 13) (ls' := [some (.ref 14), some (.ref 18), some (.int a2), some (.ref 16), some (.int a4), some (.int a5), none, none]) (st' := [.ref 18, .int a5]) (h' := h) (cs := []) [.iload 5, .aload_n 1] (by decide +kernel) rfl rfl trivial ?_
      refine z_callV hC hN hR (as := []) (rest := [.int a5]) ok_X4_111 (by decide +kernel) (sp_X1_size_18 l _ h ) rfl rfl (Nat.le_of_ble_eq_true rfl) rfl rfl (Nat.le_of_ble_eq_true rfl) ⟨Nat.zero_le _, Nat.zero_le _⟩ (fun r5 h6 q7 => z_fun q7 ?_)
      refine z_icmp_ge hC (off := 60) 76 (by decide +kernel) (by decide) (fun c8 => ?_) (fun c8 => ?_)
      · skip
        have E := (if_pos c8).symm.trans E
        have T := T.1 c8
        refine z_go hC (pc' := 78) (ls' := [some (.ref 14), some (.ref 18), some (.int a2), some (.ref 16), some (.int a4), some (.int a5), none, none]) (st' := [.int a4]) (h' := h) (cs := []) [.iload 4] (by decide +kernel) rfl rfl trivial ?_
        have t9 := T
        exact z_ret_z hB rfl t9 (by decide +kernel) (z_lfb t9 E)
      · skip
        have E := (if_neg c8).symm.trans E
        have T := T.2 c8
        refine z_go hC (pc' := 21) (ls' := [some (.ref 14), some (.ref 18), some (.int a2), some (.ref 16), some (.int a4), some (.int a5), none, none]) (st' := [.int a4]) (h' := h) (cs := []) [.iload 4] (by decide +kernel) rfl rfl trivial ?_
        refine z_if_ne hC (off := 55) 76 (by decide +kernel) (by decide) (fun c10 => ?_) (fun c10 => ?_)
        · skip
          have E := (if_neg c10).symm.trans E
          have T := T.2 c10
          refine z_go hC (pc' := 78) (ls' := [some (.ref 14), some (.ref 18), some (.int a2), some (.ref 16), some (.int a4), some (.int a5), none, none]) (st' := [.int a4]) (h' := h) (cs := []) [.iload 4] (by decide +kernel) rfl rfl trivial ?_
          have t11 := T
          exact z_ret_z hB rfl t11 (by decide +kernel) (z_lfb t11 E)
        · skip
          have E := (if_pos c10).symm.trans E
          have T := T.1 c10
          refine z_go hC (pc' := 27) (ls' := [some (.ref 14), some (.ref 18), some (.int a2), some (.ref 16), some (.int a4), some (.int a5), none, none]) (st' := [.int a5, .ref 18]) (h' := h) (cs := []) [.aload_n 1, .iload 5] (by decide +kernel) rfl rfl trivial ?_
          refine z_callV hC hN hR (as := [.int a5]) (rest := []) ok_X4_112 (by decide +kernel) (sp_X1_wayTo_18 l _ h a5) rfl rfl (Nat.le_of_ble_eq_true rfl) rfl rfl (Nat.le_of_ble_eq_true rfl) ⟨Nat.zero_le _, Nat.zero_le _⟩ (fun r12 h13 q14 => z_fun q14 ?_)
          refine z_go hC (pc' := 36) (ls' := [some (.ref 14), some (.ref 18), some (.int a2), some (.ref 16), some (.int a4), some (.int a5), some (.int (z_atv h 19 1024 a5)), none]) (st' := [.int a2, .int (z_atv h 19 1024 a5), .ref 14]) (h' := h) (cs := []) [.istore 6, .aload_n 0, .iload 6, .iload_n 2] (by decide +kernel) rfl rfl trivial ?_
          obtain ⟨t18, T⟩ := T
          refine z_callV hC hN hR (as := [.int (z_atv h 19 1024 a5), .int a2]) (rest := []) ok_X4_115 (by decide +kernel) (sp_X4_follow l _ h (z_atv h 19 1024 a5) a2 t18) rfl rfl (Nat.le_of_ble_eq_true rfl) rfl rfl (Nat.le_of_ble_eq_true rfl) ⟨Nat.zero_le _, Nat.zero_le _⟩ (fun r15 h16 q17 => z_fun q17 ?_)
          refine z_go hC (pc' := 43) (ls' := [some (.ref 14), some (.ref 18), some (.int a2), some (.ref 16), some (.int a4), some (.int a5), some (.int (z_atv h 19 1024 a5)), none]) (st' := [.ref 16, .int (z_atv h 19 1024 a5), .ref 14]) (h' := (fn_X4_follow (z_atv h 19 1024 a5) a2 h).2) (cs := []) [.aload_n 0, .iload 6, .aload_n 3] (by decide +kernel) rfl rfl trivial ?_
          obtain ⟨t22, T⟩ := T
          refine z_callV hC hN hR (as := [.int (z_atv h 19 1024 a5), .ref 16]) (rest := []) ok_X4_119 (by decide +kernel) (sp_X4_eatsByOneStep_16 l _ ((fn_X4_follow (z_atv h 19 1024 a5) a2 h).2) (z_atv h 19 1024 a5) t22) rfl rfl (Nat.le_of_ble_eq_true rfl) rfl rfl (Nat.le_of_ble_eq_true rfl) ⟨Nat.zero_le _, Nat.zero_le _⟩ (fun r19 h20 q21 => z_funb q21 (fun z23 => ?_))
          refine z_go hC (pc' := 51) (ls' := [some (.ref 14), some (.ref 18), some (.int a2), some (.ref 16), some (.int (z_vi (fn_X4_eatsByOneStep_16 (z_atv h 19 1024 a5) ((fn_X4_follow (z_atv h 19 1024 a5) a2 h).2)))), some (.int a5), some (.int (z_atv h 19 1024 a5)), some (.int (nI 0))]) (st' := []) (h' := (fn_X4_eatsByOneStep_16 (z_atv h 19 1024 a5) ((fn_X4_follow (z_atv h 19 1024 a5) a2 h).2)).2) (cs := []) [.istore 4, .iconst 0, .istore 7] (by decide +kernel) rfl rfl trivial ?_
          refine z_less (ls' := [some (.ref 14), some (.ref 18), some (.int a2), some (.ref 16), some (.int (z_vi (fn_X4_eatsByOneStep_16 (z_atv h 19 1024 a5) ((fn_X4_follow (z_atv h 19 1024 a5) a2 h).2)))), some (.int a5), none, some (.int (nI 0))]) (by simp [z_sub]) ?_
          exact P51 _ _ hk10 2000 a2 (z_vi (fn_X4_eatsByOneStep_16 (z_atv h 19 1024 a5) ((fn_X4_follow (z_atv h 19 1024 a5) a2 h).2))) a5 (nI 0) ((fn_X4_eatsByOneStep_16 (z_atv h 19 1024 a5) ((fn_X4_follow (z_atv h 19 1024 a5) a2 h).2)).2) T E
  refine z_go hC (pc' := 1) (ls' := [some (.ref 14), some (.ref 18), some (.int x), some (.ref 16), none, none, none, none]) (st' := [.ref 16]) (h' := h) (cs := []) [.aload_n 3] (by decide +kernel) rfl rfl trivial ?_
  refine z_callV hC hN hR (as := []) (rest := []) ok_X4_108 (by decide +kernel) (sp_X1_holdNone_16 l _ h ) rfl rfl (Nat.le_of_ble_eq_true rfl) rfl rfl (Nat.le_of_ble_eq_true rfl) ⟨Nat.zero_le _, Nat.zero_le _⟩ (fun r24 h25 q26 => z_fun q26 ?_)
  refine z_go hC (pc' := 10) (ls' := [some (.ref 14), some (.ref 18), some (.int x), some (.ref 16), some (.int (nI 0)), some (.int (nI 0)), none, none]) (st' := []) (h' := z_set h 16 1 (nI 0)) (cs := []) [.iconst 0, .istore 4, .iconst 0, .istore 5] (by decide +kernel) rfl rfl trivial ?_
  exact P10 2000 x (nI 0) (nI 0) (z_set h 16 1 (nI 0)) T E

def fn_X4_fewestByLevels_28  : Nat → Int32 → z_H → z_R
  | 0, _, h => (none, h)
  | n + 1, a3, h => let k28 := fun (a3_ : Int32) (h_ : z_H) => fn_X4_fewestByLevels_28  n a3_ h_; if (nI 6) < a3 then (some (.int (-1)), h) else if (z_vi (fn_X4_eatsFromOneOf_16 (a3 - (nI 1)) h)) = 0 then if (nI 6) < (a3 + (nI 1)) then (some (.int (-1)), (fn_X4_eatsFromOneOf_16 (a3 - (nI 1)) h).2) else if (z_vi (fn_X4_eatsFromOneOf_18 ((a3 + (nI 1)) - (nI 1)) ((fn_X4_eatsFromOneOf_16 (a3 - (nI 1)) h).2))) = 0 then k28 ((a3 + (nI 1)) + (nI 1)) ((fn_X4_eatsFromOneOf_18 ((a3 + (nI 1)) - (nI 1)) ((fn_X4_eatsFromOneOf_16 (a3 - (nI 1)) h).2)).2) else (some (.int (a3 + (nI 1))), (fn_X4_eatsFromOneOf_18 ((a3 + (nI 1)) - (nI 1)) ((fn_X4_eatsFromOneOf_16 (a3 - (nI 1)) h).2)).2) else (some (.int a3), (fn_X4_eatsFromOneOf_16 (a3 - (nI 1)) h).2)
def tk_X4_fewestByLevels_28  : Nat → Int32 → z_H → Prop
  | 0, _, _ => False
  | n + 1, a3, h => let K28 := fun (a3_ : Int32) (h_ : z_H) => tk_X4_fewestByLevels_28  n a3_ h_; (((nI 6) < a3) → (True)) ∧ ((¬ (nI 6) < a3) → (tk_X4_eatsFromOneOf_16 (a3 - (nI 1)) h ∧ ((((z_vi (fn_X4_eatsFromOneOf_16 (a3 - (nI 1)) h)) = 0) → ((((nI 6) < (a3 + (nI 1))) → (True)) ∧ ((¬ (nI 6) < (a3 + (nI 1))) → (tk_X4_eatsFromOneOf_18 ((a3 + (nI 1)) - (nI 1)) ((fn_X4_eatsFromOneOf_16 (a3 - (nI 1)) h).2) ∧ ((((z_vi (fn_X4_eatsFromOneOf_18 ((a3 + (nI 1)) - (nI 1)) ((fn_X4_eatsFromOneOf_16 (a3 - (nI 1)) h).2))) = 0) → (K28 ((a3 + (nI 1)) + (nI 1)) ((fn_X4_eatsFromOneOf_18 ((a3 + (nI 1)) - (nI 1)) ((fn_X4_eatsFromOneOf_16 (a3 - (nI 1)) h).2)).2))) ∧ ((¬ (z_vi (fn_X4_eatsFromOneOf_18 ((a3 + (nI 1)) - (nI 1)) ((fn_X4_eatsFromOneOf_16 (a3 - (nI 1)) h).2))) = 0) → (True))))))) ∧ ((¬ (z_vi (fn_X4_eatsFromOneOf_16 (a3 - (nI 1)) h)) = 0) → (True)))))
def fn_X4_fewestByLevels  (h : z_H) : z_R := if (h.1 8 2) = 0 then (some (.int (-1)), h) else fn_X4_fewestByLevels_28 2000 (nI 1) (z_set (z_putv h 17 1024 (nI 0) (nI 0)) 16 1 (nI 1))
def tk_X4_fewestByLevels  (h : z_H) : Prop := (((h.1 8 2) = 0) → (True)) ∧ ((¬ (h.1 8 2) = 0) → (tk_X4_fewestByLevels_28 2000 (nI 1) (z_set (z_putv h 17 1024 (nI 0) (nI 0)) 16 1 (nI 1))))
set_option maxHeartbeats 4000000 in
set_option maxRecDepth 100000 in
theorem sp_X4_fewestByLevels (l : Launch) (ext : z_Sh)  (h : z_H)   (T : tk_X4_fewestByLevels  h) : z_Sp l 5 yX4_fewestByLevels cX4_fewestByLevels 5 (some .int) [.ref 14] (z_c ext) h (z_PI (fn_X4_fewestByLevels  h)) := by
  refine z_enter ft_X4 (by decide +kernel) fo_X4 (Nat.le_of_ble_eq_true rfl) ?_
  intro p e R s m args below meth c D dA ad hB
  have hC := hB.1
  have hN := hB.2.1
  have hR := hB.2.2.1
  unfold tk_X4_fewestByLevels at T; have E : (if (h.1 8 2) = 0 then (some (.int (-1)), h) else fn_X4_fewestByLevels_28 2000 (nI 1) (z_set (z_putv h 17 1024 (nI 0) (nI 0)) 16 1 (nI 1))) = fn_X4_fewestByLevels  h := rfl
  generalize fn_X4_fewestByLevels  h = RR at E ⊢
  have P28 : ∀ (n : Nat), ∀ (a3 : Int32) (h : z_H), tk_X4_fewestByLevels_28  n a3 h → fn_X4_fewestByLevels_28  n a3 h = RR → z_G p l e R s m args below meth c D dA ad 5 (z_PI RR) (z_c ext) 28 [some (.ref 14), some (.ref 16), some (.ref 18), some (.int a3), none] [] h := by
    intro  n
    induction n with
    | zero => intro a3 h T E; exact False.elim T
    | succ n ih =>
      intro a3 h T E
      unfold tk_X4_fewestByLevels_28 at T; unfold fn_X4_fewestByLevels_28 at E; dsimp only at T E
      have hk28 := ih
      refine z_go hC (pc' := 31) (ls' := [some (.ref 14), some (.ref 16), some (.ref 18), some (.int a3), none]) (st' := [.int (nI 6), .int a3]) (h' := h) (cs := []) [.iload_n 3, .bipush 6] (by decide +kernel) rfl rfl trivial ?_
      refine z_icmp_gt hC (off := 31) 62 (by decide +kernel) (by decide) (fun c1 => ?_) (fun c1 => ?_)
      · skip
        have E := (if_pos c1).symm.trans E
        have T := T.1 c1
        refine z_go hC (pc' := 63) (ls' := [some (.ref 14), some (.ref 16), some (.ref 18), some (.int a3), none]) (st' := [.int (-1)]) (h' := h) (cs := []) [.iconst (-1)] (by decide +kernel) rfl rfl trivial ?_
        exact z_ret_i hB rfl (by decide +kernel) (z_lfi E)
      · skip
        have E := (if_neg c1).symm.trans E
        have T := T.2 c1
        refine z_go hC (pc' := 40) (ls' := [some (.ref 14), some (.ref 16), some (.ref 18), some (.int a3), none]) (st' := [.ref 18, .int (a3 - (nI 1)), .ref 16, .ref 14]) (h' := h) (cs := []) [.aload_n 0, .aload_n 1, .iload_n 3, .iconst 1, .isub, .aload_n 2] (by decide +kernel) rfl rfl trivial ?_
        obtain ⟨t5, T⟩ := T
        refine z_callV hC hN hR (as := [.ref 16, .int (a3 - (nI 1)), .ref 18]) (rest := []) ok_X4_104 (by decide +kernel) (sp_X4_eatsFromOneOf_16 l _ h (a3 - (nI 1)) t5) rfl rfl (Nat.le_of_ble_eq_true rfl) rfl rfl (Nat.le_of_ble_eq_true rfl) ⟨Nat.zero_le _, Nat.zero_le _⟩ (fun r2 h3 q4 => z_funb q4 (fun z6 => ?_))
        refine z_if_eq hC (off := 5) 48 (by decide +kernel) (by decide) (fun c7 => ?_) (fun c7 => ?_)
        · skip
          have E := (if_pos c7).symm.trans E
          have T := T.1 c7
          refine z_go hC (pc' := 59) (ls' := [some (.ref 14), some (.ref 18), some (.ref 16), some (.int (a3 + (nI 1))), some (.ref 16)]) (st' := []) (h' := (fn_X4_eatsFromOneOf_16 (a3 - (nI 1)) h).2) (cs := []) [.aload_n 1, .astore 4, .aload_n 2, .astore_n 1, .aload 4, .astore_n 2, .iinc 3 1] (by decide +kernel) rfl rfl trivial ?_
          refine z_goto hC (off := -31) 28 (by decide +kernel) (by decide) ?_
          refine z_go hC (pc' := 31) (ls' := [some (.ref 14), some (.ref 18), some (.ref 16), some (.int (a3 + (nI 1))), some (.ref 16)]) (st' := [.int (nI 6), .int (a3 + (nI 1))]) (h' := (fn_X4_eatsFromOneOf_16 (a3 - (nI 1)) h).2) (cs := []) [.iload_n 3, .bipush 6] (by decide +kernel) rfl rfl trivial ?_
          refine z_icmp_gt hC (off := 31) 62 (by decide +kernel) (by decide) (fun c8 => ?_) (fun c8 => ?_)
          · skip
            have E := (if_pos c8).symm.trans E
            have T := T.1 c8
            refine z_go hC (pc' := 63) (ls' := [some (.ref 14), some (.ref 18), some (.ref 16), some (.int (a3 + (nI 1))), some (.ref 16)]) (st' := [.int (-1)]) (h' := (fn_X4_eatsFromOneOf_16 (a3 - (nI 1)) h).2) (cs := []) [.iconst (-1)] (by decide +kernel) rfl rfl trivial ?_
            exact z_ret_i hB rfl (by decide +kernel) (z_lfi E)
          · skip
            have E := (if_neg c8).symm.trans E
            have T := T.2 c8
            refine z_go hC (pc' := 40) (ls' := [some (.ref 14), some (.ref 18), some (.ref 16), some (.int (a3 + (nI 1))), some (.ref 16)]) (st' := [.ref 16, .int ((a3 + (nI 1)) - (nI 1)), .ref 18, .ref 14]) (h' := (fn_X4_eatsFromOneOf_16 (a3 - (nI 1)) h).2) (cs := []) [.aload_n 0, .aload_n 1, .iload_n 3, .iconst 1, .isub, .aload_n 2] (by decide +kernel) rfl rfl trivial ?_
            obtain ⟨t12, T⟩ := T
            refine z_callV hC hN hR (as := [.ref 18, .int ((a3 + (nI 1)) - (nI 1)), .ref 16]) (rest := []) ok_X4_104 (by decide +kernel) (sp_X4_eatsFromOneOf_18 l _ ((fn_X4_eatsFromOneOf_16 (a3 - (nI 1)) h).2) ((a3 + (nI 1)) - (nI 1)) t12) rfl rfl (Nat.le_of_ble_eq_true rfl) rfl rfl (Nat.le_of_ble_eq_true rfl) ⟨Nat.zero_le _, Nat.zero_le _⟩ (fun r9 h10 q11 => z_funb q11 (fun z13 => ?_))
            refine z_if_eq hC (off := 5) 48 (by decide +kernel) (by decide) (fun c14 => ?_) (fun c14 => ?_)
            · skip
              have E := (if_pos c14).symm.trans E
              have T := T.1 c14
              refine z_go hC (pc' := 59) (ls' := [some (.ref 14), some (.ref 16), some (.ref 18), some (.int ((a3 + (nI 1)) + (nI 1))), some (.ref 18)]) (st' := []) (h' := (fn_X4_eatsFromOneOf_18 ((a3 + (nI 1)) - (nI 1)) ((fn_X4_eatsFromOneOf_16 (a3 - (nI 1)) h).2)).2) (cs := []) [.aload_n 1, .astore 4, .aload_n 2, .astore_n 1, .aload 4, .astore_n 2, .iinc 3 1] (by decide +kernel) rfl rfl trivial ?_
              refine z_goto hC (off := -31) 28 (by decide +kernel) (by decide) ?_
              refine z_less (ls' := [some (.ref 14), some (.ref 16), some (.ref 18), some (.int ((a3 + (nI 1)) + (nI 1))), none]) (by simp [z_sub]) ?_
              exact hk28 ((a3 + (nI 1)) + (nI 1)) ((fn_X4_eatsFromOneOf_18 ((a3 + (nI 1)) - (nI 1)) ((fn_X4_eatsFromOneOf_16 (a3 - (nI 1)) h).2)).2) T E
            · skip
              have E := (if_neg c14).symm.trans E
              have T := T.2 c14
              refine z_go hC (pc' := 47) (ls' := [some (.ref 14), some (.ref 18), some (.ref 16), some (.int (a3 + (nI 1))), some (.ref 16)]) (st' := [.int (a3 + (nI 1))]) (h' := (fn_X4_eatsFromOneOf_18 ((a3 + (nI 1)) - (nI 1)) ((fn_X4_eatsFromOneOf_16 (a3 - (nI 1)) h).2)).2) (cs := []) [.iload_n 3] (by decide +kernel) rfl rfl trivial ?_
              exact z_ret_i hB rfl (by decide +kernel) (z_lfi E)
        · skip
          have E := (if_neg c7).symm.trans E
          have T := T.2 c7
          refine z_go hC (pc' := 47) (ls' := [some (.ref 14), some (.ref 16), some (.ref 18), some (.int a3), none]) (st' := [.int a3]) (h' := (fn_X4_eatsFromOneOf_16 (a3 - (nI 1)) h).2) (cs := []) [.iload_n 3] (by decide +kernel) rfl rfl trivial ?_
          exact z_ret_i hB rfl (by decide +kernel) (z_lfi E)
  refine z_go hC (pc' := 4) (ls' := [some (.ref 14), none, none, none, none]) (st' := [.ref 8]) (h' := h) (cs := []) [.aload_n 0, .getfield 29] (by decide +kernel) rfl rfl trivial ?_
  refine z_callV hC hN hR (as := []) (rest := []) ok_X4_88 (by decide +kernel) (sp_X3_size l _ h ) rfl rfl (Nat.le_of_ble_eq_true rfl) rfl rfl (Nat.le_of_ble_eq_true rfl) ⟨Nat.zero_le _, Nat.zero_le _⟩ (fun r15 h16 q17 => z_fun q17 ?_)
  refine z_if_ne hC (off := 5) 12 (by decide +kernel) (by decide) (fun c18 => ?_) (fun c18 => ?_)
  · skip
    have E := (if_neg c18).symm.trans E
    have T := T.2 c18
    refine z_go hC (pc' := 23) (ls' := [some (.ref 14), some (.ref 16), some (.ref 18), none, none]) (st' := [.ref 16]) (h' := h) (cs := []) [.aload_n 0, .getfield 18, .astore_n 1, .aload_n 0, .getfield 22, .astore_n 2, .aload_n 1] (by decide +kernel) rfl rfl trivial ?_
    refine z_callV hC hN hR (as := []) (rest := []) ok_X4_101 (by decide +kernel) (sp_X1_holdFirstAlone_16 l _ h ) rfl rfl (Nat.le_of_ble_eq_true rfl) rfl rfl (Nat.le_of_ble_eq_true rfl) ⟨Nat.zero_le _, Nat.zero_le _⟩ (fun r19 h20 q21 => z_fun q21 ?_)
    refine z_go hC (pc' := 28) (ls' := [some (.ref 14), some (.ref 16), some (.ref 18), some (.int (nI 1)), none]) (st' := []) (h' := z_set (z_putv h 17 1024 (nI 0) (nI 0)) 16 1 (nI 1)) (cs := []) [.iconst 1, .istore_n 3] (by decide +kernel) rfl rfl trivial ?_
    exact P28 2000 (nI 1) (z_set (z_putv h 17 1024 (nI 0) (nI 0)) 16 1 (nI 1)) T E
  · skip
    have E := (if_pos c18).symm.trans E
    have T := T.1 c18
    refine z_go hC (pc' := 11) (ls' := [some (.ref 14), none, none, none, none]) (st' := [.int (-1)]) (h' := h) (cs := []) [.iconst (-1)] (by decide +kernel) rfl rfl trivial ?_
    exact z_ret_i hB rfl (by decide +kernel) (z_lfi E)
end
section
/-! ===== methods that throw: contracts, throws, calls, handlers ===== -/
abbrev z_EI : String := "java/lang/IndexOutOfBoundsException"
abbrev z_EA : String := "java/lang/IllegalArgumentException"
abbrev z_ES : String := "java/lang/IllegalStateException"
def z_exs : List String := [z_EI, z_EA, z_ES]
def z_Kin (U : State) : Prop := ∀ a ∈ z_exs, ∀ b ∈ z_exs, a ≠ b → va_Nc a b U
def z_Zz (A : Nat → Prop) (U : State) : Prop := vx_Zq Bundle.tN "UNASSIGNED_STACK" Bundle.steD A U U.heap ∧ vx_Zq Bundle.tN "SUPPRESSED_SENTINEL" Bundle.listD A U U.heap
theorem z_Kin_moved {u U : State} (hvm : u.vm.Alike U.vm) (h : z_Kin u) : z_Kin U := fun a ha b hb hab => va_Nc.moved hvm (h a ha b hb hab)
def z_Pcx (D : va_G) (dA : Nat → ClassId) (ad : Nat → Nat) (sz : Nat) (as : List Value) (sh : z_Sh) (h : z_H) : Array Value → State → Prop := fun v U => z_Pc D dA ad sz as sh h v U ∧ z_Zz (z_A ad sh.length sz) U ∧ z_Kin U
theorem z_Pcx_blind {D : va_G} {dA : Nat → ClassId} {ad : Nat → Nat} {sz : Nat} {as : List Value} {sh : z_Sh} {h : z_H} : FrameBlind (z_Pcx D dA ad sz as sh h) := fun a U g mk q =>
  ⟨z_Pc_blind a U g mk q.1, ⟨vx_Zq.moved (u := U) (U := U.calling g mk a) (Vm.Alike.refl U.vm) q.2.1.1, vx_Zq.moved (u := U) (U := U.calling g mk a) (Vm.Alike.refl U.vm) q.2.1.2⟩, z_Kin_moved (u := U) (U := U.calling g mk a) (Vm.Alike.refl U.vm) q.2.2⟩
def z_XC (D : va_G) (dA : Nat → ClassId) (ad : Nat → Nat) (sz : Nat) (sh : z_Sh) (h : z_H) (ΦX : String → Prop) : String → State → State → Prop := fun E st t => ΦX E ∧ va_P D vwCl (z_wl dA ad h sh 0) t.heap ∧ va_F (z_A ad sh.length sz) st t
/-- the contract of a method that comes back, or throws and changes nothing; w: its code's word -/
def z_Spx (l : Launch) (d : Nat) (y : MethodName) (w : Cond) (mc ms : Nat) (as : List Value) (sh : z_Sh) (h : z_H) (Φ : Option Value → z_H → Prop) (ΦX : String → Prop) : Prop :=
  ∀ (D : va_G) (dA : Nat → ClassId) (ad : Nat → Nat) (sz : Nat), vx_Met l y (w :: z_big) { frames := d, cells := mc, slots := ms, locals := 64 * d } (z_Pcx D dA ad sz as sh h) (z_Q D dA ad sz sh Φ) (z_XC D dA ad sz sh h ΦX) mc ms (z_A ad sh.length sz)
/-- the context of such a body -/
def z_Bx (p : Program) (R : Room) (s : State) (m : MethodId) (args : Array Value) (meth : Method) (c : Code) (D : va_G) (dA : Nat → ClassId) (A : Nat → Prop) (own : String) (cc : ByteArray) (nL : Nat) (fl : z_Fl) (d : Nat) (ret : Option FieldType) (mc ms : Nat) (tb : List ExceptionTableEntry) : Prop :=
  z_B p R s m args meth c D dA A own cc nL fl d ret ∧ z_Zz A s ∧ z_Kin s ∧ c.exceptionTable.toList = tb ∧ mc ≤ R.cells ∧ ms ≤ R.slots
set_option maxHeartbeats 1000000 in
theorem z_enterx {l : Launch} {d mc ms : Nat} {y : MethodName} {cc : ByteArray} {maxL : Nat} {ret : Option FieldType} {as : List Value} {sh : z_Sh} {h : z_H} {Φ : Option Value → z_H → Prop} {ΦX : String → Prop} (fl : z_Fl) (hy : plainName y.cls = true) (hfl : z_fsok y.cls fl) (hlen : (z_el as).length ≤ maxL)
    (body : ∀ (p : Program) (e : Env) (R : Room) (s : State) (m : MethodId) (args : Array Value) (below : List Frame) (meth : Method) (c : Code) (D : va_G) (dA : Nat → ClassId) (ad : Nat → Nat), z_Bx p R s m args meth c D dA (z_A ad sh.length s.heap.size) y.cls cc maxL fl d ret mc ms [] → z_Z p l e R s m args below meth c D dA (z_A ad sh.length s.heap.size) s.heap maxL ad (vx_MQ below (z_Q D dA ad s.heap.size sh Φ) (z_XC D dA ad s.heap.size sh h ΦX) args s mc ms (z_A ad sh.length s.heap.size)) 0 0 0 (z_ent maxL as) [] sh h) :
    z_Spx l d y (.code y cc maxL ret) mc ms as sh h Φ ΦX := by
  intro D dA ad sz
  refine vx_ofW (cc := cc) (maxL := maxL) (ret := ret) hy rfl ?_
  intro p e s m args below meth c s₁ B hml htab hv
  obtain ⟨⟨rfl, hsz, hP, hK, hD0, hN⟩, hZ, hKin⟩ := hv
  subst hsz
  have hts := atoms_spec (ws := .code y cc maxL ret :: z_big) B.pre
  have hown : s.vm.findClass y.cls = some m.cls := findClass_of_methodNamed B.named
  rw [lg_entry_eq]
  have hl := lv_entry (as.map (z_con ad)) (n := maxL) (by rw [z_el_len]; exact hlen)
  have htab0 : c.exceptionTable.toList = [] := List.eq_nil_iff_forall_not_mem.mpr (fun x hx => htab x hx)
  refine body p e _ s m _ below meth c D dA ad ⟨⟨⟨B.exec, B.bytes, hml, hown, fun w hw => hts w (List.mem_cons_of_mem _ hw), hK, fun q hq => Or.inr hq, hfl⟩, hN, ⟨Nat.le_refl _, Nat.le_refl _⟩, B.returns, B.notSynchronized⟩, hZ, hKin, htab0, Nat.le_refl _, Nat.le_refl _⟩ s.heap [] _ hP (z_D_self hD0) va_S.rf ⟨?_, ?_⟩
  · unfold z_ent
    simp only [List.length_append, List.length_replicate]
    omega
  · unfold z_ent
    rw [z_al_el]
    exact hl
set_option maxHeartbeats 1000000 in
/-- a body with handlers -/
theorem z_enterh {l : Launch} {d mc ms : Nat} {y : MethodName} {cc : ByteArray} {maxL : Nat} {ret : Option FieldType} {hh : List (Nat × Nat × Nat × Nat)} {as : List Value} {sh : z_Sh} {h : z_H} {Φ : Option Value → z_H → Prop} {ΦX : String → Prop} (fl : z_Fl) (hy : plainName y.cls = true) (hfl : z_fsok y.cls fl) (hlen : (z_el as).length ≤ maxL)
    (body : ∀ (p : Program) (e : Env) (R : Room) (s : State) (m : MethodId) (args : Array Value) (below : List Frame) (meth : Method) (c : Code) (D : va_G) (dA : Nat → ClassId) (ad : Nat → Nat), z_Bx p R s m args meth c D dA (z_A ad sh.length s.heap.size) y.cls cc maxL fl d ret mc ms (tableOf hh) → z_Z p l e R s m args below meth c D dA (z_A ad sh.length s.heap.size) s.heap maxL ad (vx_MQ below (z_Q D dA ad s.heap.size sh Φ) (z_XC D dA ad s.heap.size sh h ΦX) args s mc ms (z_A ad sh.length s.heap.size)) 0 0 0 (z_ent maxL as) [] sh h) :
    z_Spx l d y (.codeWith y cc maxL ret hh) mc ms as sh h Φ ΦX := by
  intro D dA ad sz
  refine vx_ofWH (cc := cc) (maxL := maxL) (ret := ret) (hh := hh) hy rfl ?_
  intro p e s m args below meth c s₁ B hml hv
  obtain ⟨⟨rfl, hsz, hP, hK, hD0, hN⟩, hZ, hKin⟩ := hv
  subst hsz
  have hts := atoms_spec (ws := .codeWith y cc maxL ret hh :: z_big) B.pre
  have hown : s.vm.findClass y.cls = some m.cls := findClass_of_methodNamed B.named
  have htab0 : c.exceptionTable.toList = tableOf hh := vx_table (x := y) B (hts _ List.mem_cons_self)
  rw [lg_entry_eq]
  have hl := lv_entry (as.map (z_con ad)) (n := maxL) (by rw [z_el_len]; exact hlen)
  refine body p e _ s m _ below meth c D dA ad ⟨⟨⟨B.exec, B.bytes, hml, hown, fun w hw => hts w (List.mem_cons_of_mem _ hw), hK, fun q hq => Or.inr hq, hfl⟩, hN, ⟨Nat.le_refl _, Nat.le_refl _⟩, B.returns, B.notSynchronized⟩, hZ, hKin, htab0, Nat.le_refl _, Nat.le_refl _⟩ s.heap [] _ hP (z_D_self hD0) va_S.rf ⟨?_, ?_⟩
  · unfold z_ent
    simp only [List.length_append, List.length_replicate]
    omega
  · unfold z_ent
    rw [z_al_el]
    exact hl
section ZX
variable {p : Program} {l : Launch} {e : Env} {R : Room} {s : State} {m : MethodId} {args : Array Value} {below : List Frame} {meth : Method} {c : Code} {D : va_G} {dA : Nat → ClassId} {A : Nat → Prop} {H0 : Heap} {nL : Nat} {ad : Nat → Nat} {Q : State → Prop} {own : String} {cc : ByteArray} {fl : z_Fl}
/-- an exception of the class E stands over the frame -/
def z_T (p : Program) (l : Launch) (e : Env) (R : Room) (s : State) (m : MethodId) (args : Array Value) (below : List Frame) (meth : Method) (c : Code) (D : va_G) (dA : Nat → ClassId) (A : Nat → Prop) (H0 : Heap) (nL : Nat) (ad : Nat → Nat) (Q : State → Prop) (k n pc : Nat) (ls : List (Option Value)) (st : List Value) (sh : z_Sh) (h : z_H) (E : String) : Prop :=
  ∀ (H : Heap) (locs : List Loc) (la : Array Slot) (q : Addr) (ce : Cell), va_P D vwCl (z_wl dA ad h sh 0) H → va_D A (z_wl dA ad h sh 0) → va_S A H0 H locs → z_lo ad nL ls la → H[q]? = some ce → ce.vm = .none → s.vm.findClass E = some ce.cls → vx_W p l e R s m args below meth c H locs k n Q (F0 m pc la (st.map (z_con ad))) q
variable {sh : z_Sh} {h : z_H} {d mc ms k n pc nn : Nat} {ls : List (Option Value)} {Φ : Option Value → z_H → Prop} {ΦX : String → Prop} {h0 : z_H}
theorem z_retx_i {tb : List ExceptionTableEntry} {v : Int32} (hB : z_Bx p R s m args meth c D dA (z_A ad nn s.heap.size) own cc nL fl d (some .int) mc ms tb) (hn : nn = sh.length) (hk : k ≤ mc ∧ n ≤ ms) (hd : decode cc pc = .ok (.ireturn, 1)) (hΦ : Φ (some (.int v)) h) : z_Z p l e R s m args below meth c D dA (z_A ad nn s.heap.size) s.heap nL ad (vx_MQ below (z_Q D dA ad s.heap.size sh Φ) (z_XC D dA ad s.heap.size sh h0 ΦX) args s mc ms (z_A ad nn s.heap.size)) k n pc ls [.int v] sh h := by
  subst hn
  exact fun H locs la hP hD hS hl => W.widen hk.1 hk.2 (vx_ret (W.iret (v := v) hB.1.1.1 hB.1.1.2.1 hB.1.2.2.2.1 (fun t ht hW => ⟨⟨some (.int v), h, rfl, hΦ, by rw [ht]; exact hP⟩, hS.F ht⟩) hS.2.2 hd hB.1.2.2.2.2))
theorem z_retx_z {tb : List ExceptionTableEntry} {v : Int32} (hB : z_Bx p R s m args meth c D dA (z_A ad nn s.heap.size) own cc nL fl d (some .boolean) mc ms tb) (hn : nn = sh.length) (hv : v = 0 ∨ v = 1) (hk : k ≤ mc ∧ n ≤ ms) (hd : decode cc pc = .ok (.ireturn, 1)) (hΦ : Φ (some (.int v)) h) : z_Z p l e R s m args below meth c D dA (z_A ad nn s.heap.size) s.heap nL ad (vx_MQ below (z_Q D dA ad s.heap.size sh Φ) (z_XC D dA ad s.heap.size sh h0 ΦX) args s mc ms (z_A ad nn s.heap.size)) k n pc ls [.int v] sh h := by
  subst hn
  exact fun H locs la hP hD hS hl => W.widen hk.1 hk.2 (vx_ret (W.zret (v := v) hB.1.1.1 hB.1.1.2.1 hB.1.2.2.2.1 (z_nar_b hv).1 (fun t ht hW => ⟨⟨some (.int v), h, rfl, hΦ, by rw [ht]; exact hP⟩, hS.F ht⟩) hS.2.2 hd hB.1.2.2.2.2))
theorem z_retx_v {tb : List ExceptionTableEntry} (hB : z_Bx p R s m args meth c D dA (z_A ad nn s.heap.size) own cc nL fl d none mc ms tb) (hn : nn = sh.length) (hk : k ≤ mc ∧ n ≤ ms) (hd : decode cc pc = .ok (.return_, 1)) (hΦ : Φ none h) : z_Z p l e R s m args below meth c D dA (z_A ad nn s.heap.size) s.heap nL ad (vx_MQ below (z_Q D dA ad s.heap.size sh Φ) (z_XC D dA ad s.heap.size sh h0 ΦX) args s mc ms (z_A ad nn s.heap.size)) k n pc ls [] sh h := by
  subst hn
  exact fun H locs la hP hD hS hl => W.widen hk.1 hk.2 (vx_ret (W.vret hB.1.1.1 hB.1.1.2.1 hB.1.2.2.2.1 (fun t ht hW => ⟨⟨none, h, rfl, hΦ, by rw [ht]; exact hP⟩, hS.F ht⟩) hS.2.2 hd hB.1.2.2.2.2))
theorem z_F_of {H : Heap} {locs : List Loc} {t : State} (hS : va_S A s.heap H locs) (h1 : H.size ≤ t.heap.size) (h2 : ∀ q : Nat, q < H.size → t.heap[q]? = H[q]?) : va_F A s t := ⟨Nat.le_trans hS.1 h1, fun q hq hA => by rw [h2 q (Nat.lt_of_lt_of_le hq hS.1)]; exact hS.2.1 q hq hA⟩
theorem z_P_of {H : Heap} {t : State} (hP : va_P D vwCl (z_wl dA ad h sh 0) H) (h2 : ∀ q : Nat, q < H.size → t.heap[q]? = H[q]?) : va_P D vwCl (z_wl dA ad h sh 0) t.heap := hP.kept (fun k q hq => h2 q.1 (hP k q hq).lt)
/-- nothing takes it: the method itself throws -/
theorem z_out {E : String} {st : List Value} {ret : Option FieldType} (hB : z_Bx p R s m args meth c D dA (z_A ad nn s.heap.size) own cc nL fl d ret mc ms []) (hn : nn = sh.length) (hk : k ≤ mc ∧ n ≤ ms) (hΦ : ΦX E) : z_T p l e R s m args below meth c D dA (z_A ad nn s.heap.size) s.heap nL ad (vx_MQ below (z_Q D dA ad s.heap.size sh Φ) (z_XC D dA ad s.heap.size sh h ΦX) args s mc ms (z_A ad nn s.heap.size)) k n pc ls st sh h E := by
  subst hn
  intro H locs la q ce hP hD hS hl hce hv hcl
  exact vx_out (fun x hx => by rw [hB.2.2.2.1] at hx; cases hx) hB.1.2.2.2.2 hce hv hcl (fun t ht hvm => ⟨hΦ, by rw [ht]; exact hP, hS.F ht⟩) hS.2.2 hk.1 hk.2
/-- the words of a throw of a new exception with a text -/
def z_okT (own : String) (ik is ic : Nat) (cls text : String) : Prop :=
  (Bundle.fit cls = true ∧ cls ∈ z_exs) ∧ Cond.classLink own ik cls ∈ z_big ∧ Cond.initialized cls ∈ z_big ∧ Cond.stringRef own is text ∈ z_nst ∧ (∀ w ∈ vx_atS own ic cls ["java/lang/RuntimeException", "java/lang/Exception"], w ∈ z_big ∨ (w.onTables = true ∧ w ∈ z_nst)) ∧ (∀ w ∈ Cond.classLink own ik cls :: Cond.initialized cls :: vx_atS own ic cls ["java/lang/RuntimeException", "java/lang/Exception"], vx_ot w = true)
theorem z_names_fit : ∀ n ∈ ["java/lang/RuntimeException", "java/lang/Exception"], Bundle.fit n = true := by decide +kernel
set_option maxHeartbeats 1000000 in
theorem z_throw {cls text : String} {ik is ic : Nat} {ret : Option FieldType} (hB : z_Bx p R s m args meth c D dA (z_A ad nn s.heap.size) own cc nL fl d ret mc ms []) (hl0 : l.stackTraces = false) (hn : nn = sh.length) (ok : z_okT own ik is ic cls text) (hd6 : 6 ≤ d) (hk : k + 1 ≤ mc ∧ n + 6 ≤ ms) (d0 : decode cc pc = .ok (.new ik, 3)) (d3 : decode cc (pc + 3) = .ok (.dup, 1)) (d4 : decode cc (pc + 4) = .ok (.ldc is, 2)) (d6 : decode cc (pc + 6) = .ok (.invokespecial ic, 3)) (d9 : decode cc (pc + 9) = .ok (.athrow, 1)) (hΦ : ΦX cls) : z_Z p l e R s m args below meth c D dA (z_A ad nn s.heap.size) s.heap nL ad (vx_MQ below (z_Q D dA ad s.heap.size sh Φ) (z_XC D dA ad s.heap.size sh h ΦX) args s mc ms (z_A ad nn s.heap.size)) k n pc ls [] sh h := by
  subst hn
  intro H locs la hP hD hS hl
  obtain ⟨⟨hC, hN, hR, hret, hlk⟩, hZ, hKin, htb, hc1, hc2⟩ := hB
  obtain ⟨hx, hb, hml, hown, hts, hK, hA, hfl⟩ := hC
  obtain ⟨⟨o1, o1'⟩, o2, o3, o4, o5, o6⟩ := ok
  obtain ⟨sa, hsa⟩ := z_str (hN _ o4)
  refine vx_throwS (text := text) (names := ["java/lang/RuntimeException", "java/lang/Exception"]) (sa := sa) (A := z_A ad sh.length s.heap.size) hx hb hl0 hown o1 z_names_fit (hts _ o2) (hts _ o3) hsa (fun w hw => ?_) o6 hZ.1 hZ.2 hS (hl.2.1.trans hml.symm) d0 d3 d4 d6 d9 (fun x hx => by rw [htb] at hx; cases hx) ?_ ?_ ?_ ?_ hlk (fun t hvm h1 h2 => ⟨hΦ, z_P_of hP h2, z_F_of hS h1 h2⟩) hS.2.2 hk.1 hk.2
  · rcases o5 w hw with h1 | ⟨h1, h2⟩
    · exact hts w h1
    · exact va_Nw.use h1 (hN _ h2)
  · simp only [List.length_cons, List.length_nil]; omega
  · simp only [List.map_nil, List.sum_nil, List.length_cons, List.length_nil]; omega
  · omega
  · omega
set_option maxHeartbeats 1000000 in
/-- behind a call that comes back or throws -/
theorem z_afterx {mc' ms' : Nat} {st0 rest : List Value} {Φ' : Option Value → z_H → Prop} {ΦX' : String → Prop} {H : Heap} {locs : List Loc} {la : Array Slot} (hr : vx_Run p l e R s m args below meth c H locs k n mc' ms' (F0 m pc la st0) (rest.map (z_con ad)) (z_Q D dA ad H.size sh Φ' args) (z_XC D dA ad H.size sh h ΦX') (z_A ad sh.length H.size)) (hA : ∀ q : Nat, H0.size ≤ q → A q) (hD : va_D A (z_wl dA ad h sh 0)) (hS : va_S A H0 H locs) (hl : z_lo ad nL ls la)
    (kx : ∀ E : String, ΦX' E → z_T p l e R s m args below meth c D dA A H0 nL ad Q (k + mc') (n + ms') pc ls rest sh h E)
    (kk : ∀ (rv : Option Value) (h' : z_H), Φ' rv h' → z_Z p l e R s m args below meth c D dA A H0 nL ad Q (k + mc') (n + ms') (pc + 3) ls (rv.toList ++ rest) sh h') : W p l e R s m args below meth c H locs k n Q (F0 m pc la st0) := by
  intro T hT X
  have hAA := z_A_in (ad := ad) (dA := dA) hA hD hS
  rcases hr T hT X with ⟨v, st₀, t, T', L, h0, X', hL, e1, e2, ⟨⟨rv, h', hv, hΦ, hP1⟩, hF⟩, st⟩ | ⟨q, st₀, t, T', L, E, ce, h0, X', hL, e1, e2, ⟨hΦ, hP1, hF⟩, hce, hcv, hcl, st⟩
  · have hv : v = rv.map (z_con ad) := by injection hv
    subst hv
    obtain ⟨k1, k2, k3⟩ := vx_keep h0 e1 hS (fun q _ h => hAA q h) hAA hL hF
    obtain ⟨t2, a1, b1⟩ := kk rv h' hΦ T'.heap (locs ++ L) la (by rw [e1]; exact hP1) (z_D_heap hD) k3 hl T' rfl X'
    refine ⟨t2, st t2 ?_, b1⟩
    have hst : (rv.toList ++ rest).map (z_con ad) = (rv.map (z_con ad)).toList ++ rest.map (z_con ad) := by
      cases rv <;> simp
    rw [hst] at a1
    exact a1
  · obtain ⟨k1, k2, k3⟩ := vx_keep h0 e1 hS (fun q _ h => hAA q h) hAA hL hF
    obtain ⟨t2, a1, b1⟩ := kx E hΦ T'.heap (locs ++ L) la q ce (by rw [e1]; exact hP1) hD k3 hl (by rw [e1]; exact hce) hcv hcl T' rfl X'
    exact ⟨t2, st.trans a1, b1⟩
theorem z_Zz_in {H : Heap} {locs : List Loc} {U : State} (hA : ∀ q : Nat, s.heap.size ≤ q → A q) (hZ : z_Zz A s) (hD : va_D A (z_wl dA ad h sh 0)) (hS : va_S A s.heap H locs) (hU : U.heap = H) (hvm : s.vm.Alike U.vm) : z_Zz (z_A ad sh.length H.size) U := by
  have hAA := z_A_in (ad := ad) (dA := dA) hA hD hS
  unfold z_Zz
  rw [hU]
  exact ⟨((hZ.1.kept (fun a h1 h2 => hS.2.1 a h1 h2)).narrow hAA).moved hvm, ((hZ.2.kept (fun a h1 h2 => hS.2.1 a h1 h2)).narrow hAA).moved hvm⟩
set_option maxHeartbeats 1000000 in
theorem z_callVx {y : MethodName} {cc' : ByteArray} {maxL idx na d d' o ci mc' ms' : Nat} {ks : List Nat} {T : u_T} {N : Nat} {ret : Option FieldType} {as rest : List Value} {st : List Value} {Φ' : Option Value → z_H → Prop} {ΦX' : String → Prop} (hC : z_Cx p s m args c D dA A s.heap own cc nL fl) (hN : z_Nt s) (hR : d ≤ R.frames ∧ 64 * d ≤ R.locals) (hZ : z_Zz A s) (hKin : z_Kin s) (ok : z_okV own idx y cc' maxL ret na) (hdg : decode cc pc = .ok (.invokevirtual idx, 3)) (hM : z_Spx l d' y (.code y cc' maxL ret) mc' ms' (.ref o :: as) sh h Φ' ΦX') (hs : z_nth sh o = some (0, ci, ks)) (hcl : vwCl[ci]? = some (y.cls, T, N)) (hd : d' + 1 ≤ d) (hn : as.length = na) (hst : st = as.reverse ++ .ref o :: rest) (hW : (rest.map fun v => v.category).sum ≤ 8) (hk : k + mc' ≤ R.cells ∧ n + ms' ≤ R.slots)
    (kx : ∀ E : String, ΦX' E → z_T p l e R s m args below meth c D dA A s.heap nL ad Q (k + mc') (n + ms') pc ls rest sh h E)
    (kk : ∀ (rv : Option Value) (h' : z_H), Φ' rv h' → z_Z p l e R s m args below meth c D dA A s.heap nL ad Q (k + mc') (n + ms') (pc + 3) ls (rv.toList ++ rest) sh h') : z_Z p l e R s m args below meth c D dA A s.heap nL ad Q k n pc ls st sh h := by
  intro H locs la hP hD hS hl
  obtain ⟨hx, hb, hml, hown, hts, hK, hA, hfl⟩ := hC
  obtain ⟨⟨o1, o2, o2'⟩, o3, o4, o5, o6⟩ := ok
  subst hst
  have run := vx_runV (e := e) (s := s) (R := R) (below := below) (meth := meth) (H := H) (locs := locs) (cells := k) (slots := n) (rest := rest.map (z_con ad)) (As := as.map (z_con ad)) (b := ad o) (C := y.cls) (g := F0 m pc la ((as.reverse ++ .ref o :: rest).map (z_con ad))) ⟨hx, hb, hml, hown, hts⟩ (hM D dA ad H.size) ⟨callB_of na hts (z_good o4) rfl rfl rfl (hts _ o3) (hts _ o1) o5 (z_rooms hR hd o6), hts _ o2, hts _ o2'⟩ ⟨z_Pcx_blind, va_recv hK hP hcl (z_wl_obj hs), fun U hU hW => ⟨⟨rfl, by rw [hU], by rw [hU]; exact hP, va_K.moved hW.alike hK, hD.weaken (fun _ _ _ _ => trivial), z_Nt_warm hW hN⟩, z_Zz_in hA hZ hD hS hU hW.alike, z_Kin_moved hW.alike hKin⟩⟩ rfl (by rw [List.length_map]; exact hn) hl.2.1 (by simp [z_con]) (lv_room (by rw [z_cats]; exact hW)) hdg ⟨hk.1, hk.2⟩
  exact z_afterx run hA hD hS hl kx kk
set_option maxHeartbeats 1000000 in
theorem z_callSx {y : MethodName} {cc' : ByteArray} {maxL idx na d d' mc' ms' : Nat} {ret : Option FieldType} {as rest : List Value} {st : List Value} {Φ' : Option Value → z_H → Prop} {ΦX' : String → Prop} (hC : z_Cx p s m args c D dA A s.heap own cc nL fl) (hN : z_Nt s) (hR : d ≤ R.frames ∧ 64 * d ≤ R.locals) (hZ : z_Zz A s) (hKin : z_Kin s) (ok : z_okS own idx y cc' maxL ret na) (hdg : decode cc pc = .ok (.invokestatic idx, 3)) (hM : z_Spx l d' y (.code y cc' maxL ret) mc' ms' as sh h Φ' ΦX') (hd : d' + 1 ≤ d) (hn : as.length = na) (hst : st = as.reverse ++ rest) (hW : (rest.map fun v => v.category).sum ≤ 8) (hk : k + mc' ≤ R.cells ∧ n + ms' ≤ R.slots)
    (kx : ∀ E : String, ΦX' E → z_T p l e R s m args below meth c D dA A s.heap nL ad Q (k + mc') (n + ms') pc ls rest sh h E)
    (kk : ∀ (rv : Option Value) (h' : z_H), Φ' rv h' → z_Z p l e R s m args below meth c D dA A s.heap nL ad Q (k + mc') (n + ms') (pc + 3) ls (rv.toList ++ rest) sh h') : z_Z p l e R s m args below meth c D dA A s.heap nL ad Q k n pc ls st sh h := by
  intro H locs la hP hD hS hl
  obtain ⟨hx, hb, hml, hown, hts, hK, hA, hfl⟩ := hC
  obtain ⟨⟨o1, o2⟩, o3, o4, o5, o6⟩ := ok
  subst hst
  have run := vx_runS (e := e) (s := s) (R := R) (below := below) (meth := meth) (H := H) (locs := locs) (cells := k) (slots := n) (rest := rest.map (z_con ad)) (As := as.map (z_con ad)) (g := F0 m pc la ((as.reverse ++ rest).map (z_con ad))) ⟨hx, hb, hml, hown, hts⟩ (hM D dA ad H.size) ⟨callB_of na hts (z_good o4) rfl rfl rfl (hts _ o3) (hts _ o1) o5 (z_rooms hR hd o6), hts _ o2⟩ ⟨z_Pcx_blind, fun U hU hW => ⟨⟨rfl, by rw [hU], by rw [hU]; exact hP, va_K.moved hW.alike hK, hD.weaken (fun _ _ _ _ => trivial), z_Nt_warm hW hN⟩, z_Zz_in hA hZ hD hS hU hW.alike, z_Kin_moved hW.alike hKin⟩⟩ rfl (by rw [List.length_map]; exact hn) hl.2.1 (by simp) (lv_room (by rw [z_cats]; exact hW)) hdg ⟨hk.1, hk.2⟩
  exact z_afterx run hA hD hS hl kx kk
/-- the words of a static call of a method with handlers -/
def z_okH (own : String) (idx : Nat) (y : MethodName) (cc : ByteArray) (maxL : Nat) (ret : Option FieldType) (hh : List (Nat × Nat × Nat × Nat)) (n : Nat) : Prop :=
  (Cond.methodLink own idx y ∈ z_big ∧ Cond.static y ∈ z_big) ∧ Cond.initialized y.cls ∈ z_big ∧ Cond.codeWith y cc maxL ret hh ∈ z_big ∧ (y.cls ≠ "java/lang/invoke/MethodHandle" ∧ y.cls ≠ "java/lang/invoke/VarHandle" ∧ (parseMethodDescriptor y.desc).map (fun d => d.parameters.length) = some n) ∧ maxL ≤ 45
set_option maxHeartbeats 1000000 in
theorem z_callSh {y : MethodName} {cc' : ByteArray} {maxL idx na d d' mc' ms' : Nat} {hh : List (Nat × Nat × Nat × Nat)} {ret : Option FieldType} {as rest : List Value} {st : List Value} {Φ' : Option Value → z_H → Prop} {ΦX' : String → Prop} (hC : z_Cx p s m args c D dA A s.heap own cc nL fl) (hN : z_Nt s) (hR : d ≤ R.frames ∧ 64 * d ≤ R.locals) (hZ : z_Zz A s) (hKin : z_Kin s) (ok : z_okH own idx y cc' maxL ret hh na) (hdg : decode cc pc = .ok (.invokestatic idx, 3)) (hM : z_Spx l d' y (.codeWith y cc' maxL ret hh) mc' ms' as sh h Φ' ΦX') (hd : d' + 1 ≤ d) (hn : as.length = na) (hst : st = as.reverse ++ rest) (hW : (rest.map fun v => v.category).sum ≤ 8) (hk : k + mc' ≤ R.cells ∧ n + ms' ≤ R.slots)
    (kx : ∀ E : String, ΦX' E → z_T p l e R s m args below meth c D dA A s.heap nL ad Q (k + mc') (n + ms') pc ls rest sh h E)
    (kk : ∀ (rv : Option Value) (h' : z_H), Φ' rv h' → z_Z p l e R s m args below meth c D dA A s.heap nL ad Q (k + mc') (n + ms') (pc + 3) ls (rv.toList ++ rest) sh h') : z_Z p l e R s m args below meth c D dA A s.heap nL ad Q k n pc ls st sh h := by
  intro H locs la hP hD hS hl
  obtain ⟨hx, hb, hml, hown, hts, hK, hA, hfl⟩ := hC
  obtain ⟨⟨o1, o2⟩, o3, o4, o5, o6⟩ := ok
  subst hst
  have hG : GoodIn z_big (va_wsS own idx y (.codeWith y cc' maxL ret hh :: z_big)) := fun x hx => by
    have : x ∈ z_big := by
      simp only [va_wsS, List.cons_append, List.nil_append, List.mem_cons] at hx
      rcases hx with rfl | rfl | rfl | rfl | hx
      · exact o1
      · exact o2
      · exact o3
      · exact o4
      · exact hx
    exact ⟨this, good_of_word (z_big_good x this)⟩
  have run := vx_runSX (e := e) (s := s) (R := R) (below := below) (meth := meth) (H := H) (locs := locs) (cells := k) (slots := n) (rest := rest.map (z_con ad)) (As := as.map (z_con ad)) (g := F0 m pc la ((as.reverse ++ rest).map (z_con ad))) ⟨hx, hb, hml, hown, hts⟩ (hM D dA ad H.size) (vx_cwSW na hts hG rfl rfl rfl o5 (z_rooms hR hd o6)) ⟨z_Pcx_blind, fun U hU hW => ⟨⟨rfl, by rw [hU], by rw [hU]; exact hP, va_K.moved hW.alike hK, hD.weaken (fun _ _ _ _ => trivial), z_Nt_warm hW hN⟩, z_Zz_in hA hZ hD hS hU hW.alike, z_Kin_moved hW.alike hKin⟩⟩ rfl (by rw [List.length_map]; exact hn) hl.2.1 (by simp) (lv_room (by rw [z_cats]; exact hW)) hdg ⟨hk.1, hk.2⟩
  exact z_afterx run hA hD hS hl kx kk
/-- a handler takes it, and puts it into a local -/
theorem z_lo_forget {ls' : List (Option Value)} {la : Array Slot} {i : Nat} {v : Value} {l' : List (Nat × Value)} (hl : z_lo ad nL ls la) (hi : i < nL) (hg : z_lg ls i = false) (hls : ls' = z_put ls i none) (hl' : l' = (i, v) :: (z_al ad ls 0).filter (fun q => !(q.1 == i) && !(q.1 + 1 == i && q.2.category == 2))) : ∀ la', lv_has la' nL l' → z_lo ad nL ls' la' := by
  subst hls
  refine fun la' h' => ⟨by rw [z_put_len]; exact hl.1, h'.1, h'.2.1, ?_⟩
  intro q hq
  obtain ⟨j, w, h1, h2⟩ := (z_al_mem ad _ 0 q).mp hq
  rw [z_put_nth] at h1
  refine h'.2.2 q ?_
  rw [hl', h2, Nat.zero_add]
  have hil : i < ls.length := by rw [hl.1]; exact hi
  by_cases hj : j = i
  · rw [if_pos ⟨hj, hil⟩] at h1
    cases h1
  · rw [if_neg (fun e => hj e.1)] at h1
    refine List.mem_cons_of_mem _ (List.mem_filter.mpr ⟨(z_al_mem ad ls 0 _).mpr ⟨j, w, h1, by rw [Nat.zero_add]⟩, ?_⟩)
    simp only [Bool.and_eq_true, Bool.not_eq_true', beq_eq_false_iff_ne, ne_eq, hj, not_false_eq_true, true_and]
    by_cases e : j + 1 = i
    · have := z_lg_cat (j := j) (by rw [e]; exact hg) h1
      simp [z_con_cat, this]
    · simp [e]
theorem z_catch {E : String} {st : List Value} {ls' : List (Option Value)} {tb : List ExceptionTableEntry} {ret : Option FieldType} {i : Nat} (hB : z_Bx p R s m args meth c D dA A own cc nL fl d ret mc ms tb) (pre : List ExceptionTableEntry) (x : ExceptionTableEntry) (suf : List ExceptionTableEntry) (hsplit : tb = pre ++ x :: suf) (hE : E ∈ z_exs) (hpass : ∀ z ∈ pre, z.catchType ≠ 0 ∧ ∃ nm ∈ z_exs, nm ≠ E ∧ Cond.classLink own z.catchType nm ∈ z_big) (hx : covers x pc = true) (hx0 : x.catchType ≠ 0) (hlink : Cond.classLink own x.catchType E ∈ z_big) (hcast : Cond.castable E E ∈ z_nst) (hi : i < nL) (hg : z_lg ls i = false) (hls : ls' = z_put ls i none) (w : Nat) (hd : (w = 2 ∧ decode cc x.handlerPc = .ok (.astore i, 2)) ∨ (w = 1 ∧ ∃ j : Fin 4, j.val = i ∧ decode cc x.handlerPc = .ok (.astore_n j, 1)))
    (kk : z_Z p l e R s m args below meth c D dA A s.heap nL ad Q k n (x.handlerPc + w) ls' [] sh h) : z_T p l e R s m args below meth c D dA A s.heap nL ad Q k n pc ls st sh h E := by
  intro H locs la q ce hP hD hS hl hce hv hcl
  obtain ⟨⟨hC, hN, hR, hret, hlk⟩, hZ, hKin, htb, hc1, hc2⟩ := hB
  obtain ⟨hxx, hb, hml, hown, hts, hK, hA, hfl⟩ := hC
  refine vx_catch hown pre x suf (by rw [htb]; exact hsplit) (fun z hz => ?_) hx hx0 (hts _ hlink) (va_Nw.use rfl (hN _ hcast)) hce hv hcl ?_
  · obtain ⟨h1, nm, h2, h3, h4⟩ := hpass z hz
    exact Or.inr ⟨h1, nm, hts _ h4, hKin E hE nm h2 (fun e => h3 e.symm)⟩
  · rcases hd with ⟨rfl, hd⟩ | ⟨rfl, j, hj, hd⟩
    · exact lv_astore hxx hb hd hl.2 hi rfl (fun la' h' => kk H locs la' hP hD hS (z_lo_forget hl hi hg hls rfl la' h'))
    · exact lv_astore_n hxx hb hd hj hl.2 hi rfl (fun la' h' => kk H locs la' hP hD hS (z_lo_forget hl hi hg hls rfl la' h'))
end ZX
/-! ===== answers of methods that throw, as functions ===== -/
abbrev z_RX : Type := Except String z_R
def z_bd (r k : z_RX) : z_RX := match r with
  | .error e => .error e
  | .ok _ => k
theorem z_bd_er {r k : z_RX} {E : String} (h : r = .error E) : z_bd r k = .error E := by rw [h]; rfl
theorem z_bd_ok {r k : z_RX} {x : z_R} (h : r = .ok x) : z_bd r k = k := by rw [h]; rfl
def z_PXV (h : z_H) (r : z_RX) : Option Value → z_H → Prop := fun rv h' => rv = none ∧ h' = h ∧ r = .ok (none, h)
def z_PXW (r : z_RX) : Option Value → z_H → Prop := fun rv h' => rv = none ∧ r = .ok (none, h')
def z_PXI (r : z_RX) : Option Value → z_H → Prop := fun rv h' => ∃ v : Int32, rv = some (.int v) ∧ r = .ok (some (.int v), h')
def z_PXB (r : z_RX) : Option Value → z_H → Prop := fun rv h' => ∃ v : Int32, rv = some (.int v) ∧ r = .ok (some (.int v), h') ∧ (v = 0 ∨ v = 1)
def z_XX (xs : List String) (r : z_RX) : String → Prop := fun E => r = .error E ∧ E ∈ xs
theorem z_msub {a b : List String} (h : ∀ x ∈ a, x ∈ b) {E : String} (hE : E ∈ a) : E ∈ b := h E hE
abbrev z_GX (p : Program) (l : Launch) (e : Env) (R : Room) (s : State) (m : MethodId) (args : Array Value) (below : List Frame) (meth : Method) (c : Code) (D : va_G) (dA : Nat → ClassId) (ad : Nat → Nat) (nL : Nat) (Φ : Option Value → z_H → Prop) (ΦX : String → Prop) (h0 : z_H) (mc ms : Nat) (sh : z_Sh) (k n pc : Nat) (ls : List (Option Value)) (st : List Value) (h : z_H) : Prop :=
  z_Z p l e R s m args below meth c D dA (z_A ad sh.length s.heap.size) s.heap nL ad (vx_MQ below (z_Q D dA ad s.heap.size sh Φ) (z_XC D dA ad s.heap.size sh h0 ΦX) args s mc ms (z_A ad sh.length s.heap.size)) k n pc ls st sh h
end
section
/-! ===== printed by wip/p27/gen: methods with loops, as functions ===== -/
def fn_X7_hasCycle  (h : z_H) : (Option Value) := some (.int (fv_X2_isThere h ))
def tk_X7_hasCycle  (h : z_H) : Prop := True
set_option maxHeartbeats 4000000 in
set_option maxRecDepth 100000 in
theorem sp_X7_hasCycle (l : Launch) (ext : z_Sh)  (h : z_H)   (T : tk_X7_hasCycle  h) : z_Sp l 1 yX7_hasCycle cX7_hasCycle 1 (some .boolean) [.ref 0] (z_c ext) h (z_QB h (fn_X7_hasCycle  h)) := by
  refine z_enter ft_X7 (by decide +kernel) fo_X7 (Nat.le_of_ble_eq_true rfl) ?_
  intro p e R s m args below meth c D dA ad hB
  have hC := hB.1
  have hN := hB.2.1
  have hR := hB.2.2.1
  unfold tk_X7_hasCycle at T; have E : (some (.int (fv_X2_isThere h ))) = fn_X7_hasCycle  h := rfl
  generalize fn_X7_hasCycle  h = RR at E ⊢
  refine z_go hC (pc' := 4) (ls' := [some (.ref 0)]) (st' := [.ref 4]) (h' := h) (cs := []) [.aload_n 0, .getfield 21] (by decide +kernel) rfl rfl trivial ?_
  refine z_callV hC hN hR (as := []) (rest := []) ok_X7_117 (by decide +kernel) (sp_X2_isThere l _ h ) rfl rfl (Nat.le_of_ble_eq_true rfl) rfl rfl (Nat.le_of_ble_eq_true rfl) ⟨Nat.zero_le _, Nat.zero_le _⟩ (fun r1 h2 q3 => z_fun q3 ?_)
  exact z_ret_z hB rfl (zb_X2_isThere h ) (by decide +kernel) (z_lfb0 (zb_X2_isThere h ) E)

def fn_X7_isAlive  (h : z_H) : (Option Value) := some (.int (fv_X6_isLiving h ))
def tk_X7_isAlive  (h : z_H) : Prop := True
set_option maxHeartbeats 4000000 in
set_option maxRecDepth 100000 in
theorem sp_X7_isAlive (l : Launch) (ext : z_Sh)  (h : z_H)   (T : tk_X7_isAlive  h) : z_Sp l 2 yX7_isAlive cX7_isAlive 1 (some .boolean) [.ref 0] (z_c ext) h (z_QB h (fn_X7_isAlive  h)) := by
  refine z_enter ft_X7 (by decide +kernel) fo_X7 (Nat.le_of_ble_eq_true rfl) ?_
  intro p e R s m args below meth c D dA ad hB
  have hC := hB.1
  have hN := hB.2.1
  have hR := hB.2.2.1
  unfold tk_X7_isAlive at T; have E : (some (.int (fv_X6_isLiving h ))) = fn_X7_isAlive  h := rfl
  generalize fn_X7_isAlive  h = RR at E ⊢
  refine z_go hC (pc' := 4) (ls' := [some (.ref 0)]) (st' := [.ref 10]) (h' := h) (cs := []) [.aload_n 0, .getfield 37] (by decide +kernel) rfl rfl trivial ?_
  refine z_callV hC hN hR (as := []) (rest := []) ok_X7_172 (by decide +kernel) (sp_X6_isLiving l _ h ) rfl rfl (Nat.le_of_ble_eq_true rfl) rfl rfl (Nat.le_of_ble_eq_true rfl) ⟨Nat.zero_le _, Nat.zero_le _⟩ (fun r1 h2 q3 => z_fun q3 ?_)
  exact z_ret_z hB rfl (zb_X6_isLiving h ) (by decide +kernel) (z_lfb0 (zb_X6_isLiving h ) E)

def fn_X7_length  (h : z_H) : (Option Value) := some (.int (h.1 10 5))
def tk_X7_length  (h : z_H) : Prop := True
set_option maxHeartbeats 4000000 in
set_option maxRecDepth 100000 in
theorem sp_X7_length (l : Launch) (ext : z_Sh)  (h : z_H)   (T : tk_X7_length  h) : z_Sp l 1 yX7_length cX7_length 1 (some .int) [.ref 0] (z_c ext) h (z_QI h (fn_X7_length  h)) := by
  refine z_enter ft_X7 (by decide +kernel) fo_X7 (Nat.le_of_ble_eq_true rfl) ?_
  intro p e R s m args below meth c D dA ad hB
  have hC := hB.1
  have hN := hB.2.1
  have hR := hB.2.2.1
  unfold tk_X7_length at T; have E : (some (.int (h.1 10 5))) = fn_X7_length  h := rfl
  generalize fn_X7_length  h = RR at E ⊢
  refine z_go hC (pc' := 4) (ls' := [some (.ref 0)]) (st' := [.ref 10]) (h' := h) (cs := []) [.aload_n 0, .getfield 37] (by decide +kernel) rfl rfl trivial ?_
  refine z_callV hC hN hR (as := []) (rest := []) ok_X7_142 (by decide +kernel) (sp_X6_size l _ h ) rfl rfl (Nat.le_of_ble_eq_true rfl) rfl rfl (Nat.le_of_ble_eq_true rfl) ⟨Nat.zero_le _, Nat.zero_le _⟩ (fun r1 h2 q3 => z_fun q3 ?_)
  exact z_ret_i hB rfl (by decide +kernel) (z_lfi0 E)

def fn_X7_owed  (h : z_H) : (Option Value) := some (.int (h.1 10 6))
def tk_X7_owed  (h : z_H) : Prop := True
set_option maxHeartbeats 4000000 in
set_option maxRecDepth 100000 in
theorem sp_X7_owed (l : Launch) (ext : z_Sh)  (h : z_H)   (T : tk_X7_owed  h) : z_Sp l 1 yX7_owed cX7_owed 1 (some .int) [.ref 0] (z_c ext) h (z_QI h (fn_X7_owed  h)) := by
  refine z_enter ft_X7 (by decide +kernel) fo_X7 (Nat.le_of_ble_eq_true rfl) ?_
  intro p e R s m args below meth c D dA ad hB
  have hC := hB.1
  have hN := hB.2.1
  have hR := hB.2.2.1
  unfold tk_X7_owed at T; have E : (some (.int (h.1 10 6))) = fn_X7_owed  h := rfl
  generalize fn_X7_owed  h = RR at E ⊢
  refine z_go hC (pc' := 4) (ls' := [some (.ref 0)]) (st' := [.ref 10]) (h' := h) (cs := []) [.aload_n 0, .getfield 37] (by decide +kernel) rfl rfl trivial ?_
  refine z_callV hC hN hR (as := []) (rest := []) ok_X7_175 (by decide +kernel) (sp_X6_growth l _ h ) rfl rfl (Nat.le_of_ble_eq_true rfl) rfl rfl (Nat.le_of_ble_eq_true rfl) ⟨Nat.zero_le _, Nat.zero_le _⟩ (fun r1 h2 q3 => z_fun q3 ?_)
  exact z_ret_i hB rfl (by decide +kernel) (z_lfi0 E)

def fn_X7_feeds  (h : z_H) : (Option Value) := some (.int (h.1 8 2))
def tk_X7_feeds  (h : z_H) : Prop := True
set_option maxHeartbeats 4000000 in
set_option maxRecDepth 100000 in
theorem sp_X7_feeds (l : Launch) (ext : z_Sh)  (h : z_H)   (T : tk_X7_feeds  h) : z_Sp l 1 yX7_feeds cX7_feeds 1 (some .int) [.ref 0] (z_c ext) h (z_QI h (fn_X7_feeds  h)) := by
  refine z_enter ft_X7 (by decide +kernel) fo_X7 (Nat.le_of_ble_eq_true rfl) ?_
  intro p e R s m args below meth c D dA ad hB
  have hC := hB.1
  have hN := hB.2.1
  have hR := hB.2.2.1
  unfold tk_X7_feeds at T; have E : (some (.int (h.1 8 2))) = fn_X7_feeds  h := rfl
  generalize fn_X7_feeds  h = RR at E ⊢
  refine z_go hC (pc' := 4) (ls' := [some (.ref 0)]) (st' := [.ref 8]) (h' := h) (cs := []) [.aload_n 0, .getfield 28] (by decide +kernel) rfl rfl trivial ?_
  refine z_callV hC hN hR (as := []) (rest := []) ok_X7_149 (by decide +kernel) (sp_X3_size l _ h ) rfl rfl (Nat.le_of_ble_eq_true rfl) rfl rfl (Nat.le_of_ble_eq_true rfl) ⟨Nat.zero_le _, Nat.zero_le _⟩ (fun r1 h2 q3 => z_fun q3 ?_)
  exact z_ret_i hB rfl (by decide +kernel) (z_lfi0 E)

def fn_X7_isInOrder  (h : z_H) : (Option Value) := some (.int (z_vi0 (fn_X5_seesOrder  h)))
def tk_X7_isInOrder  (h : z_H) : Prop := tk_X5_seesOrder  h
set_option maxHeartbeats 4000000 in
set_option maxRecDepth 100000 in
theorem sp_X7_isInOrder (l : Launch) (ext : z_Sh)  (h : z_H)   (T : tk_X7_isInOrder  h) : z_Sp l 4 yX7_isInOrder cX7_isInOrder 1 (some .boolean) [.ref 0] (z_c ext) h (z_QB h (fn_X7_isInOrder  h)) := by
  refine z_enter ft_X7 (by decide +kernel) fo_X7 (Nat.le_of_ble_eq_true rfl) ?_
  intro p e R s m args below meth c D dA ad hB
  have hC := hB.1
  have hN := hB.2.1
  have hR := hB.2.2.1
  unfold tk_X7_isInOrder at T; have E : (some (.int (z_vi0 (fn_X5_seesOrder  h)))) = fn_X7_isInOrder  h := rfl
  generalize fn_X7_isInOrder  h = RR at E ⊢
  refine z_go hC (pc' := 4) (ls' := [some (.ref 0)]) (st' := [.ref 13]) (h' := h) (cs := []) [.aload_n 0, .getfield 46] (by decide +kernel) rfl rfl trivial ?_
  have t4 := T
  refine z_callV hC hN hR (as := []) (rest := []) ok_X7_183 (by decide +kernel) (sp_X5_seesOrder l _ h  t4) rfl rfl (Nat.le_of_ble_eq_true rfl) rfl rfl (Nat.le_of_ble_eq_true rfl) ⟨Nat.zero_le _, Nat.zero_le _⟩ (fun r1 h2 q3 => z_funb q3 (fun z5 => ?_))
  exact z_ret_z hB rfl z5 (by decide +kernel) (z_lfb0 z5 E)

def fn_X7_reach  (h : z_H) : z_R := (some (.int (z_vi (fn_X4_countReached  h))), (fn_X4_countReached  h).2)
def tk_X7_reach  (h : z_H) : Prop := tk_X4_countReached  h
set_option maxHeartbeats 4000000 in
set_option maxRecDepth 100000 in
theorem sp_X7_reach (l : Launch) (ext : z_Sh)  (h : z_H)   (T : tk_X7_reach  h) : z_Sp l 4 yX7_reach cX7_reach 1 (some .int) [.ref 0] (z_c ext) h (z_PI (fn_X7_reach  h)) := by
  refine z_enter ft_X7 (by decide +kernel) fo_X7 (Nat.le_of_ble_eq_true rfl) ?_
  intro p e R s m args below meth c D dA ad hB
  have hC := hB.1
  have hN := hB.2.1
  have hR := hB.2.2.1
  unfold tk_X7_reach at T; have E : ((some (.int (z_vi (fn_X4_countReached  h))), (fn_X4_countReached  h).2)) = fn_X7_reach  h := rfl
  generalize fn_X7_reach  h = RR at E ⊢
  refine z_go hC (pc' := 4) (ls' := [some (.ref 0)]) (st' := [.ref 14]) (h' := h) (cs := []) [.aload_n 0, .getfield 55] (by decide +kernel) rfl rfl trivial ?_
  have t4 := T
  refine z_callV hC hN hR (as := []) (rest := []) ok_X7_189 (by decide +kernel) (sp_X4_countReached l _ h  t4) rfl rfl (Nat.le_of_ble_eq_true rfl) rfl rfl (Nat.le_of_ble_eq_true rfl) ⟨Nat.zero_le _, Nat.zero_le _⟩ (fun r1 h2 q3 => z_fun q3 ?_)
  exact z_ret_i hB rfl (by decide +kernel) (z_lfi E)
end
section
/-! ===== printed by wip/p27/gen: methods with loops, as functions ===== -/
set_option maxRecDepth 100000 in
theorem atS_X7_66 : ∀ w ∈ vx_atS RX7 66 z_EI ["java/lang/RuntimeException", "java/lang/Exception"], w ∈ z_big ∨ (w.onTables = true ∧ w ∈ z_nst) := by decide +kernel
set_option maxRecDepth 100000 in
theorem otS_X7_66 : ∀ w ∈ vx_atS RX7 66 z_EI ["java/lang/RuntimeException", "java/lang/Exception"], vx_ot w = true := by decide +kernel
theorem okT_X7_62_201 : z_okT RX7 62 201 66 z_EI "no such cell" := ⟨⟨by decide +kernel, by decide⟩, z_bigT 329 (by decide +kernel) rfl, z_bigT 13 (by decide +kernel) rfl, z_nstT 558 (by decide +kernel) rfl, atS_X7_66, fun w hw => (List.mem_cons.mp hw).elim (fun h => h ▸ rfl) (fun hw => (List.mem_cons.mp hw).elim (fun h => h ▸ rfl) (otS_X7_66 w))⟩
theorem okT_X7_62_203 : z_okT RX7 62 203 66 z_EI "no such link" := ⟨⟨by decide +kernel, by decide⟩, z_bigT 329 (by decide +kernel) rfl, z_bigT 13 (by decide +kernel) rfl, z_nstT 441 (by decide +kernel) rfl, atS_X7_66, fun w hw => (List.mem_cons.mp hw).elim (fun h => h ▸ rfl) (fun hw => (List.mem_cons.mp hw).elim (fun h => h ▸ rfl) (otS_X7_66 w))⟩
theorem okT_X7_62_205 : z_okT RX7 62 205 66 z_EI "no such direction" := ⟨⟨by decide +kernel, by decide⟩, z_bigT 329 (by decide +kernel) rfl, z_bigT 13 (by decide +kernel) rfl, z_nstT 597 (by decide +kernel) rfl, atS_X7_66, fun w hw => (List.mem_cons.mp hw).elim (fun h => h ▸ rfl) (fun hw => (List.mem_cons.mp hw).elim (fun h => h ▸ rfl) (otS_X7_66 w))⟩
set_option maxRecDepth 100000 in
theorem atS_X7_81 : ∀ w ∈ vx_atS RX7 81 z_ES ["java/lang/RuntimeException", "java/lang/Exception"], w ∈ z_big ∨ (w.onTables = true ∧ w ∈ z_nst) := by decide +kernel
set_option maxRecDepth 100000 in
theorem otS_X7_81 : ∀ w ∈ vx_atS RX7 81 z_ES ["java/lang/RuntimeException", "java/lang/Exception"], vx_ot w = true := by decide +kernel
theorem okT_X7_77_207 : z_okT RX7 77 207 81 z_ES "there is no cycle" := ⟨⟨by decide +kernel, by decide⟩, z_bigT 408 (by decide +kernel) rfl, z_bigT 14 (by decide +kernel) rfl, z_nstT 648 (by decide +kernel) rfl, atS_X7_81, fun w hw => (List.mem_cons.mp hw).elim (fun h => h ▸ rfl) (fun hw => (List.mem_cons.mp hw).elim (fun h => h ▸ rfl) (otS_X7_81 w))⟩
theorem okT_X7_62_178 : z_okT RX7 62 178 66 z_EI "no such place" := ⟨⟨by decide +kernel, by decide⟩, z_bigT 329 (by decide +kernel) rfl, z_bigT 13 (by decide +kernel) rfl, z_nstT 623 (by decide +kernel) rfl, atS_X7_66, fun w hw => (List.mem_cons.mp hw).elim (fun h => h ▸ rfl) (fun hw => (List.mem_cons.mp hw).elim (fun h => h ▸ rfl) (otS_X7_66 w))⟩
theorem okT_X7_77_210 : z_okT RX7 77 210 81 z_ES "there is no worm, or it is dead" := ⟨⟨by decide +kernel, by decide⟩, z_bigT 408 (by decide +kernel) rfl, z_bigT 14 (by decide +kernel) rfl, z_nstT 490 (by decide +kernel) rfl, atS_X7_81, fun w hw => (List.mem_cons.mp hw).elim (fun h => h ▸ rfl) (fun hw => (List.mem_cons.mp hw).elim (fun h => h ▸ rfl) (otS_X7_81 w))⟩
theorem okT_X7_62_64 : z_okT RX7 62 64 66 z_EI "no such block" := ⟨⟨by decide +kernel, by decide⟩, z_bigT 329 (by decide +kernel) rfl, z_bigT 13 (by decide +kernel) rfl, z_nstT 370 (by decide +kernel) rfl, atS_X7_66, fun w hw => (List.mem_cons.mp hw).elim (fun h => h ▸ rfl) (fun hw => (List.mem_cons.mp hw).elim (fun h => h ▸ rfl) (otS_X7_66 w))⟩
theorem okT_X7_77_79 : z_okT RX7 77 79 81 z_ES "there is a worm, or a feed is in the block" := ⟨⟨by decide +kernel, by decide⟩, z_bigT 408 (by decide +kernel) rfl, z_bigT 14 (by decide +kernel) rfl, z_nstT 417 (by decide +kernel) rfl, atS_X7_81, fun w hw => (List.mem_cons.mp hw).elim (fun h => h ▸ rfl) (fun hw => (List.mem_cons.mp hw).elim (fun h => h ▸ rfl) (otS_X7_81 w))⟩
set_option maxRecDepth 100000 in
theorem atS_X7_97 : ∀ w ∈ vx_atS RX7 97 z_EA ["java/lang/RuntimeException", "java/lang/Exception"], w ∈ z_big ∨ (w.onTables = true ∧ w ∈ z_nst) := by decide +kernel
set_option maxRecDepth 100000 in
theorem otS_X7_97 : ∀ w ∈ vx_atS RX7 97 z_EA ["java/lang/RuntimeException", "java/lang/Exception"], vx_ot w = true := by decide +kernel
theorem okT_X7_93_95 : z_okT RX7 93 95 97 z_EA "weight is out of range" := ⟨⟨by decide +kernel, by decide⟩, z_bigT 442 (by decide +kernel) rfl, z_bigT 15 (by decide +kernel) rfl, z_nstT 451 (by decide +kernel) rfl, atS_X7_97, fun w hw => (List.mem_cons.mp hw).elim (fun h => h ▸ rfl) (fun hw => (List.mem_cons.mp hw).elim (fun h => h ▸ rfl) (otS_X7_97 w))⟩
theorem okT_X7_77_98 : z_okT RX7 77 98 81 z_ES "there is a worm" := ⟨⟨by decide +kernel, by decide⟩, z_bigT 408 (by decide +kernel) rfl, z_bigT 14 (by decide +kernel) rfl, z_nstT 458 (by decide +kernel) rfl, atS_X7_81, fun w hw => (List.mem_cons.mp hw).elim (fun h => h ▸ rfl) (fun hw => (List.mem_cons.mp hw).elim (fun h => h ▸ rfl) (otS_X7_81 w))⟩
theorem okT_X7_93_133 : z_okT RX7 93 133 97 z_EA "owed is out of range" := ⟨⟨by decide +kernel, by decide⟩, z_bigT 442 (by decide +kernel) rfl, z_bigT 15 (by decide +kernel) rfl, z_nstT 559 (by decide +kernel) rfl, atS_X7_97, fun w hw => (List.mem_cons.mp hw).elim (fun h => h ▸ rfl) (fun hw => (List.mem_cons.mp hw).elim (fun h => h ▸ rfl) (otS_X7_97 w))⟩
theorem okT_X7_77_135 : z_okT RX7 77 135 81 z_ES "there is a worm, or the cell is a wall" := ⟨⟨by decide +kernel, by decide⟩, z_bigT 408 (by decide +kernel) rfl, z_bigT 14 (by decide +kernel) rfl, z_nstT 561 (by decide +kernel) rfl, atS_X7_81, fun w hw => (List.mem_cons.mp hw).elim (fun h => h ▸ rfl) (fun hw => (List.mem_cons.mp hw).elim (fun h => h ▸ rfl) (otS_X7_81 w))⟩
theorem okT_X7_77_140 : z_okT RX7 77 140 81 z_ES "there is no worm" := ⟨⟨by decide +kernel, by decide⟩, z_bigT 408 (by decide +kernel) rfl, z_bigT 14 (by decide +kernel) rfl, z_nstT 472 (by decide +kernel) rfl, atS_X7_81, fun w hw => (List.mem_cons.mp hw).elim (fun h => h ▸ rfl) (fun hw => (List.mem_cons.mp hw).elim (fun h => h ▸ rfl) (otS_X7_81 w))⟩
theorem okT_X7_77_150 : z_okT RX7 77 150 81 z_ES "the cell is a wall, or the row is full" := ⟨⟨by decide +kernel, by decide⟩, z_bigT 408 (by decide +kernel) rfl, z_bigT 14 (by decide +kernel) rfl, z_nstT 581 (by decide +kernel) rfl, atS_X7_81, fun w hw => (List.mem_cons.mp hw).elim (fun h => h ▸ rfl) (fun hw => (List.mem_cons.mp hw).elim (fun h => h ▸ rfl) (otS_X7_81 w))⟩
theorem okT_X7_93_167 : z_okT RX7 93 167 97 z_EA "most is out of range" := ⟨⟨by decide +kernel, by decide⟩, z_bigT 442 (by decide +kernel) rfl, z_bigT 15 (by decide +kernel) rfl, z_nstT 485 (by decide +kernel) rfl, atS_X7_97, fun w hw => (List.mem_cons.mp hw).elim (fun h => h ▸ rfl) (fun hw => (List.mem_cons.mp hw).elim (fun h => h ▸ rfl) (otS_X7_97 w))⟩
def fn_X7_checkCell_10 (h : z_H)   : z_RX := .error z_EI
def tk_X7_checkCell_10 (h : z_H)   : Prop := True
def fn_X7_checkCell (x : Int32) (h : z_H) : z_RX := if x < 0 then fn_X7_checkCell_10 h  else if x < (nI 36) then .ok (none, h) else fn_X7_checkCell_10 h 
set_option maxHeartbeats 4000000 in
set_option maxRecDepth 100000 in
theorem sp_X7_checkCell (l : Launch) (hl0 : l.stackTraces = false) (sh : z_Sh) (h : z_H) (x : Int32)  : z_Spx l 6 yX7_checkCell (.code yX7_checkCell cX7_checkCell 1 none) 1 6 [.int x] (sh) h (z_PXV h (fn_X7_checkCell x h)) (z_XX [z_EI] (fn_X7_checkCell x h)) := by
  refine z_enterx ft_X7 (by decide +kernel) fo_X7 (Nat.le_of_ble_eq_true rfl) ?_
  intro p e R s m args below meth c D dA ad hB
  have hC := hB.1.1
  have hN := hB.1.2.1
  have hR := hB.1.2.2.1
  have hZ := hB.2.1
  have hKin := hB.2.2.1
  have E : (if x < 0 then fn_X7_checkCell_10 h  else if x < (nI 36) then .ok (none, h) else fn_X7_checkCell_10 h ) = (fn_X7_checkCell x h) := rfl
  generalize (fn_X7_checkCell x h) = RR at E ⊢
  have P10 : tk_X7_checkCell_10 h   → fn_X7_checkCell_10 h   = RR → z_GX p l e R s m args below meth c D dA ad 1 (z_PXV h RR) (z_XX [z_EI] RR) h 1 6 (sh) 0 0 10 [none] [] h := by
    intro   T E
    unfold tk_X7_checkCell_10 at T; unfold fn_X7_checkCell_10 at E
    exact z_throw hB hl0 rfl okT_X7_62_201 (Nat.le_of_ble_eq_true rfl) ⟨Nat.le_of_ble_eq_true rfl, Nat.le_of_ble_eq_true rfl⟩ (by decide +kernel) (by decide +kernel) (by decide +kernel) (by decide +kernel) (by decide +kernel) ⟨E.symm, by decide⟩
  refine z_go hC (pc' := 1) (ls' := [some (.int x)]) (st' := [.int x]) (h' := h) (cs := []) [.iload_n 0] (by decide +kernel) rfl rfl trivial ?_
  refine z_if_lt hC (off := 9) 10 (by decide +kernel) (by decide) (fun c1 => ?_) (fun c1 => ?_)
  · skip
    have E := (if_pos c1).symm.trans E
    refine z_less (ls' := [none]) (by simp [z_sub]) ?_
    exact P10   trivial E
  · skip
    have E := (if_neg c1).symm.trans E
    refine z_go hC (pc' := 7) (ls' := [some (.int x)]) (st' := [.int (nI 36), .int x]) (h' := h) (cs := []) [.iload_n 0, .bipush 36] (by decide +kernel) rfl rfl trivial ?_
    refine z_icmp_lt hC (off := 13) 20 (by decide +kernel) (by decide) (fun c2 => ?_) (fun c2 => ?_)
    · skip
      have E := (if_pos c2).symm.trans E
      exact z_retx_v hB rfl ⟨Nat.le_of_ble_eq_true rfl, Nat.le_of_ble_eq_true rfl⟩ (by decide +kernel) ⟨rfl, rfl, E.symm⟩
    · skip
      have E := (if_neg c2).symm.trans E
      refine z_less (ls' := [none]) (by simp [z_sub]) ?_
      exact P10   trivial E

def fn_X7_checkLink_10 (h : z_H)   : z_RX := .error z_EI
def tk_X7_checkLink_10 (h : z_H)   : Prop := True
def fn_X7_checkLink (x : Int32) (h : z_H) : z_RX := if x < 0 then fn_X7_checkLink_10 h  else if x < (nI 12) then .ok (none, h) else fn_X7_checkLink_10 h 
set_option maxHeartbeats 4000000 in
set_option maxRecDepth 100000 in
theorem sp_X7_checkLink (l : Launch) (hl0 : l.stackTraces = false) (sh : z_Sh) (h : z_H) (x : Int32)  : z_Spx l 6 yX7_checkLink (.code yX7_checkLink cX7_checkLink 1 none) 1 6 [.int x] (sh) h (z_PXV h (fn_X7_checkLink x h)) (z_XX [z_EI] (fn_X7_checkLink x h)) := by
  refine z_enterx ft_X7 (by decide +kernel) fo_X7 (Nat.le_of_ble_eq_true rfl) ?_
  intro p e R s m args below meth c D dA ad hB
  have hC := hB.1.1
  have hN := hB.1.2.1
  have hR := hB.1.2.2.1
  have hZ := hB.2.1
  have hKin := hB.2.2.1
  have E : (if x < 0 then fn_X7_checkLink_10 h  else if x < (nI 12) then .ok (none, h) else fn_X7_checkLink_10 h ) = (fn_X7_checkLink x h) := rfl
  generalize (fn_X7_checkLink x h) = RR at E ⊢
  have P10 : tk_X7_checkLink_10 h   → fn_X7_checkLink_10 h   = RR → z_GX p l e R s m args below meth c D dA ad 1 (z_PXV h RR) (z_XX [z_EI] RR) h 1 6 (sh) 0 0 10 [none] [] h := by
    intro   T E
    unfold tk_X7_checkLink_10 at T; unfold fn_X7_checkLink_10 at E
    exact z_throw hB hl0 rfl okT_X7_62_203 (Nat.le_of_ble_eq_true rfl) ⟨Nat.le_of_ble_eq_true rfl, Nat.le_of_ble_eq_true rfl⟩ (by decide +kernel) (by decide +kernel) (by decide +kernel) (by decide +kernel) (by decide +kernel) ⟨E.symm, by decide⟩
  refine z_go hC (pc' := 1) (ls' := [some (.int x)]) (st' := [.int x]) (h' := h) (cs := []) [.iload_n 0] (by decide +kernel) rfl rfl trivial ?_
  refine z_if_lt hC (off := 9) 10 (by decide +kernel) (by decide) (fun c1 => ?_) (fun c1 => ?_)
  · skip
    have E := (if_pos c1).symm.trans E
    refine z_less (ls' := [none]) (by simp [z_sub]) ?_
    exact P10   trivial E
  · skip
    have E := (if_neg c1).symm.trans E
    refine z_go hC (pc' := 7) (ls' := [some (.int x)]) (st' := [.int (nI 12), .int x]) (h' := h) (cs := []) [.iload_n 0, .bipush 12] (by decide +kernel) rfl rfl trivial ?_
    refine z_icmp_lt hC (off := 13) 20 (by decide +kernel) (by decide) (fun c2 => ?_) (fun c2 => ?_)
    · skip
      have E := (if_pos c2).symm.trans E
      exact z_retx_v hB rfl ⟨Nat.le_of_ble_eq_true rfl, Nat.le_of_ble_eq_true rfl⟩ (by decide +kernel) ⟨rfl, rfl, E.symm⟩
    · skip
      have E := (if_neg c2).symm.trans E
      refine z_less (ls' := [none]) (by simp [z_sub]) ?_
      exact P10   trivial E

def fn_X7_checkDirection_9 (h : z_H)   : z_RX := .error z_EI
def tk_X7_checkDirection_9 (h : z_H)   : Prop := True
def fn_X7_checkDirection (x : Int32) (h : z_H) : z_RX := if x < 0 then fn_X7_checkDirection_9 h  else if x < (nI 4) then .ok (none, h) else fn_X7_checkDirection_9 h 
set_option maxHeartbeats 4000000 in
set_option maxRecDepth 100000 in
theorem sp_X7_checkDirection (l : Launch) (hl0 : l.stackTraces = false) (sh : z_Sh) (h : z_H) (x : Int32)  : z_Spx l 6 yX7_checkDirection (.code yX7_checkDirection cX7_checkDirection 1 none) 1 6 [.int x] (sh) h (z_PXV h (fn_X7_checkDirection x h)) (z_XX [z_EI] (fn_X7_checkDirection x h)) := by
  refine z_enterx ft_X7 (by decide +kernel) fo_X7 (Nat.le_of_ble_eq_true rfl) ?_
  intro p e R s m args below meth c D dA ad hB
  have hC := hB.1.1
  have hN := hB.1.2.1
  have hR := hB.1.2.2.1
  have hZ := hB.2.1
  have hKin := hB.2.2.1
  have E : (if x < 0 then fn_X7_checkDirection_9 h  else if x < (nI 4) then .ok (none, h) else fn_X7_checkDirection_9 h ) = (fn_X7_checkDirection x h) := rfl
  generalize (fn_X7_checkDirection x h) = RR at E ⊢
  have P9 : tk_X7_checkDirection_9 h   → fn_X7_checkDirection_9 h   = RR → z_GX p l e R s m args below meth c D dA ad 1 (z_PXV h RR) (z_XX [z_EI] RR) h 1 6 (sh) 0 0 9 [none] [] h := by
    intro   T E
    unfold tk_X7_checkDirection_9 at T; unfold fn_X7_checkDirection_9 at E
    exact z_throw hB hl0 rfl okT_X7_62_205 (Nat.le_of_ble_eq_true rfl) ⟨Nat.le_of_ble_eq_true rfl, Nat.le_of_ble_eq_true rfl⟩ (by decide +kernel) (by decide +kernel) (by decide +kernel) (by decide +kernel) (by decide +kernel) ⟨E.symm, by decide⟩
  refine z_go hC (pc' := 1) (ls' := [some (.int x)]) (st' := [.int x]) (h' := h) (cs := []) [.iload_n 0] (by decide +kernel) rfl rfl trivial ?_
  refine z_if_lt hC (off := 8) 9 (by decide +kernel) (by decide) (fun c1 => ?_) (fun c1 => ?_)
  · skip
    have E := (if_pos c1).symm.trans E
    refine z_less (ls' := [none]) (by simp [z_sub]) ?_
    exact P9   trivial E
  · skip
    have E := (if_neg c1).symm.trans E
    refine z_go hC (pc' := 6) (ls' := [some (.int x)]) (st' := [.int (nI 4), .int x]) (h' := h) (cs := []) [.iload_n 0, .iconst 4] (by decide +kernel) rfl rfl trivial ?_
    refine z_icmp_lt hC (off := 13) 19 (by decide +kernel) (by decide) (fun c2 => ?_) (fun c2 => ?_)
    · skip
      have E := (if_pos c2).symm.trans E
      exact z_retx_v hB rfl ⟨Nat.le_of_ble_eq_true rfl, Nat.le_of_ble_eq_true rfl⟩ (by decide +kernel) ⟨rfl, rfl, E.symm⟩
    · skip
      have E := (if_neg c2).symm.trans E
      refine z_less (ls' := [none]) (by simp [z_sub]) ?_
      exact P9   trivial E

def fn_X7_checkCycle  (h : z_H) : z_RX := if (fv_X2_isThere h ) = 0 then .error z_ES else .ok (none, h)
set_option maxHeartbeats 4000000 in
set_option maxRecDepth 100000 in
theorem sp_X7_checkCycle (l : Launch) (hl0 : l.stackTraces = false) (ext : z_Sh) (h : z_H)   : z_Spx l 6 yX7_checkCycle (.code yX7_checkCycle cX7_checkCycle 1 none) 1 6 [.ref 0] (z_c ext) h (z_PXV h (fn_X7_checkCycle  h)) (z_XX [z_ES] (fn_X7_checkCycle  h)) := by
  refine z_enterx ft_X7 (by decide +kernel) fo_X7 (Nat.le_of_ble_eq_true rfl) ?_
  intro p e R s m args below meth c D dA ad hB
  have hC := hB.1.1
  have hN := hB.1.2.1
  have hR := hB.1.2.2.1
  have hZ := hB.2.1
  have hKin := hB.2.2.1
  have E : (if (fv_X2_isThere h ) = 0 then .error z_ES else .ok (none, h)) = (fn_X7_checkCycle  h) := rfl
  generalize (fn_X7_checkCycle  h) = RR at E ⊢
  refine z_go hC (pc' := 4) (ls' := [some (.ref 0)]) (st' := [.ref 4]) (h' := h) (cs := []) [.aload_n 0, .getfield 21] (by decide +kernel) rfl rfl trivial ?_
  refine z_callV hC hN hR (as := []) (rest := []) ok_X7_117 (by decide +kernel) (sp_X2_isThere l _ h ) rfl rfl (Nat.le_of_ble_eq_true rfl) rfl rfl (Nat.le_of_ble_eq_true rfl) ⟨Nat.le_trans (Nat.le_of_ble_eq_true rfl) hB.2.2.2.2.1, Nat.le_trans (Nat.le_of_ble_eq_true rfl) hB.2.2.2.2.2⟩ (fun r1 h2 q3 => z_fun q3 ?_)
  refine z_if_ne hC (off := 13) 20 (by decide +kernel) (by decide) (fun c4 => ?_) (fun c4 => ?_)
  · skip
    have E := (if_neg c4).symm.trans E
    exact z_retx_v hB rfl ⟨Nat.le_of_ble_eq_true rfl, Nat.le_of_ble_eq_true rfl⟩ (by decide +kernel) ⟨rfl, rfl, E.symm⟩
  · skip
    have E := (if_pos c4).symm.trans E
    exact z_throw hB hl0 rfl okT_X7_77_207 (Nat.le_of_ble_eq_true rfl) ⟨Nat.le_of_ble_eq_true rfl, Nat.le_of_ble_eq_true rfl⟩ (by decide +kernel) (by decide +kernel) (by decide +kernel) (by decide +kernel) (by decide +kernel) ⟨E.symm, by decide⟩

def fn_X7_checkPlaceOfCycle_15 (h : z_H)   : z_RX := .error z_EI
def tk_X7_checkPlaceOfCycle_15 (h : z_H)   : Prop := True
def fn_X7_checkPlaceOfCycle (x : Int32) (h : z_H) : z_RX := if x < 0 then fn_X7_checkPlaceOfCycle_15 h  else if x < (h.1 4 4) then .ok (none, h) else fn_X7_checkPlaceOfCycle_15 h 
set_option maxHeartbeats 4000000 in
set_option maxRecDepth 100000 in
theorem sp_X7_checkPlaceOfCycle (l : Launch) (hl0 : l.stackTraces = false) (ext : z_Sh) (h : z_H) (x : Int32)  : z_Spx l 6 yX7_checkPlaceOfCycle (.code yX7_checkPlaceOfCycle cX7_checkPlaceOfCycle 2 none) 1 6 [.ref 0, .int x] (z_c ext) h (z_PXV h (fn_X7_checkPlaceOfCycle x h)) (z_XX [z_EI] (fn_X7_checkPlaceOfCycle x h)) := by
  refine z_enterx ft_X7 (by decide +kernel) fo_X7 (Nat.le_of_ble_eq_true rfl) ?_
  intro p e R s m args below meth c D dA ad hB
  have hC := hB.1.1
  have hN := hB.1.2.1
  have hR := hB.1.2.2.1
  have hZ := hB.2.1
  have hKin := hB.2.2.1
  have E : (if x < 0 then fn_X7_checkPlaceOfCycle_15 h  else if x < (h.1 4 4) then .ok (none, h) else fn_X7_checkPlaceOfCycle_15 h ) = (fn_X7_checkPlaceOfCycle x h) := rfl
  generalize (fn_X7_checkPlaceOfCycle x h) = RR at E ⊢
  have P15 : tk_X7_checkPlaceOfCycle_15 h   → fn_X7_checkPlaceOfCycle_15 h   = RR → z_GX p l e R s m args below meth c D dA ad 2 (z_PXV h RR) (z_XX [z_EI] RR) h 1 6 (z_c ext) 0 0 15 [none, none] [] h := by
    intro   T E
    unfold tk_X7_checkPlaceOfCycle_15 at T; unfold fn_X7_checkPlaceOfCycle_15 at E
    exact z_throw hB hl0 rfl okT_X7_62_178 (Nat.le_of_ble_eq_true rfl) ⟨Nat.le_of_ble_eq_true rfl, Nat.le_of_ble_eq_true rfl⟩ (by decide +kernel) (by decide +kernel) (by decide +kernel) (by decide +kernel) (by decide +kernel) ⟨E.symm, by decide⟩
  refine z_go hC (pc' := 1) (ls' := [some (.ref 0), some (.int x)]) (st' := [.int x]) (h' := h) (cs := []) [.iload_n 1] (by decide +kernel) rfl rfl trivial ?_
  refine z_if_lt hC (off := 14) 15 (by decide +kernel) (by decide) (fun c1 => ?_) (fun c1 => ?_)
  · skip
    have E := (if_pos c1).symm.trans E
    refine z_less (ls' := [none, none]) (by simp [z_sub]) ?_
    exact P15   trivial E
  · skip
    have E := (if_neg c1).symm.trans E
    refine z_go hC (pc' := 9) (ls' := [some (.ref 0), some (.int x)]) (st' := [.ref 4, .int x]) (h' := h) (cs := []) [.iload_n 1, .aload_n 0, .getfield 21] (by decide +kernel) rfl rfl trivial ?_
    refine z_callV hC hN hR (as := []) (rest := [.int x]) ok_X7_209 (by decide +kernel) (sp_X2_size l _ h ) rfl rfl (Nat.le_of_ble_eq_true rfl) rfl rfl (Nat.le_of_ble_eq_true rfl) ⟨Nat.le_trans (Nat.le_of_ble_eq_true rfl) hB.2.2.2.2.1, Nat.le_trans (Nat.le_of_ble_eq_true rfl) hB.2.2.2.2.2⟩ (fun r2 h3 q4 => z_fun q4 ?_)
    refine z_icmp_lt hC (off := 13) 25 (by decide +kernel) (by decide) (fun c5 => ?_) (fun c5 => ?_)
    · skip
      have E := (if_pos c5).symm.trans E
      exact z_retx_v hB rfl ⟨Nat.le_of_ble_eq_true rfl, Nat.le_of_ble_eq_true rfl⟩ (by decide +kernel) ⟨rfl, rfl, E.symm⟩
    · skip
      have E := (if_neg c5).symm.trans E
      refine z_less (ls' := [none, none]) (by simp [z_sub]) ?_
      exact P15   trivial E

def fn_X7_checkLivingWorm  (h : z_H) : z_RX := if (fv_X6_isLiving h ) = 0 then .error z_ES else .ok (none, h)
set_option maxHeartbeats 4000000 in
set_option maxRecDepth 100000 in
theorem sp_X7_checkLivingWorm (l : Launch) (hl0 : l.stackTraces = false) (ext : z_Sh) (h : z_H)   : z_Spx l 6 yX7_checkLivingWorm (.code yX7_checkLivingWorm cX7_checkLivingWorm 1 none) 1 6 [.ref 0] (z_c ext) h (z_PXV h (fn_X7_checkLivingWorm  h)) (z_XX [z_ES] (fn_X7_checkLivingWorm  h)) := by
  refine z_enterx ft_X7 (by decide +kernel) fo_X7 (Nat.le_of_ble_eq_true rfl) ?_
  intro p e R s m args below meth c D dA ad hB
  have hC := hB.1.1
  have hN := hB.1.2.1
  have hR := hB.1.2.2.1
  have hZ := hB.2.1
  have hKin := hB.2.2.1
  have E : (if (fv_X6_isLiving h ) = 0 then .error z_ES else .ok (none, h)) = (fn_X7_checkLivingWorm  h) := rfl
  generalize (fn_X7_checkLivingWorm  h) = RR at E ⊢
  refine z_go hC (pc' := 4) (ls' := [some (.ref 0)]) (st' := [.ref 10]) (h' := h) (cs := []) [.aload_n 0, .getfield 37] (by decide +kernel) rfl rfl trivial ?_
  refine z_callV hC hN hR (as := []) (rest := []) ok_X7_172 (by decide +kernel) (sp_X6_isLiving l _ h ) rfl rfl (Nat.le_of_ble_eq_true rfl) rfl rfl (Nat.le_of_ble_eq_true rfl) ⟨Nat.le_trans (Nat.le_of_ble_eq_true rfl) hB.2.2.2.2.1, Nat.le_trans (Nat.le_of_ble_eq_true rfl) hB.2.2.2.2.2⟩ (fun r1 h2 q3 => z_fun q3 ?_)
  refine z_if_ne hC (off := 13) 20 (by decide +kernel) (by decide) (fun c4 => ?_) (fun c4 => ?_)
  · skip
    have E := (if_neg c4).symm.trans E
    exact z_retx_v hB rfl ⟨Nat.le_of_ble_eq_true rfl, Nat.le_of_ble_eq_true rfl⟩ (by decide +kernel) ⟨rfl, rfl, E.symm⟩
  · skip
    have E := (if_pos c4).symm.trans E
    exact z_throw hB hl0 rfl okT_X7_77_210 (Nat.le_of_ble_eq_true rfl) ⟨Nat.le_of_ble_eq_true rfl, Nat.le_of_ble_eq_true rfl⟩ (by decide +kernel) (by decide +kernel) (by decide +kernel) (by decide +kernel) (by decide +kernel) ⟨E.symm, by decide⟩

def fn_X7_setWall_10 (h : z_H)   : z_RX := .error z_EI
def tk_X7_setWall_10 (h : z_H)   : Prop := True
def fn_X7_setWall_41 (h : z_H)   : z_RX := .error z_ES
def tk_X7_setWall_41 (h : z_H)   : Prop := True
def fn_X7_setWall (x : Int32) (y : Int32) (h : z_H) : z_RX := if x < 0 then fn_X7_setWall_10 h  else if x < (nI 9) then if (fv_X6_isThere h ) = 0 then if (z_vi0 (fn_X3_hasOneIn x h)) = 0 then .ok (some (.int (fv_X0_hasWallOn h x)), (fn_X2_layOut  (fh_X0_putWall h x y)).2) else fn_X7_setWall_41 h  else fn_X7_setWall_41 h  else fn_X7_setWall_10 h 
def tk_X7_setWall (x : Int32) (y : Int32) (h : z_H) : Prop := ((x < 0) → (True)) ∧ ((¬ x < 0) → (((x < (nI 9)) → ((((fv_X6_isThere h ) = 0) → (tk_X3_hasOneIn x h ∧ ((((z_vi0 (fn_X3_hasOneIn x h)) = 0) → (tk_X2_layOut  (fh_X0_putWall h x y))) ∧ ((¬ (z_vi0 (fn_X3_hasOneIn x h)) = 0) → (True))))) ∧ ((¬ (fv_X6_isThere h ) = 0) → (True)))) ∧ ((¬ x < (nI 9)) → (True))))
set_option maxHeartbeats 4000000 in
set_option maxRecDepth 100000 in
theorem sp_X7_setWall (l : Launch) (hl0 : l.stackTraces = false) (ext : z_Sh) (h : z_H) (x : Int32) (y : Int32) (T : tk_X7_setWall x y h) : z_Spx l 6 yX7_setWall (.code yX7_setWall cX7_setWall 4 (some .boolean)) 1 6 [.ref 0, .int x, .int y] (z_c ext) h (z_PXB (fn_X7_setWall x y h)) (z_XX [z_EI, z_ES] (fn_X7_setWall x y h)) := by
  refine z_enterx ft_X7 (by decide +kernel) fo_X7 (Nat.le_of_ble_eq_true rfl) ?_
  intro p e R s m args below meth c D dA ad hB
  have hC := hB.1.1
  have hN := hB.1.2.1
  have hR := hB.1.2.2.1
  have hZ := hB.2.1
  have hKin := hB.2.2.1
  unfold tk_X7_setWall at T
  have E : (if x < 0 then fn_X7_setWall_10 h  else if x < (nI 9) then if (fv_X6_isThere h ) = 0 then if (z_vi0 (fn_X3_hasOneIn x h)) = 0 then .ok (some (.int (fv_X0_hasWallOn h x)), (fn_X2_layOut  (fh_X0_putWall h x y)).2) else fn_X7_setWall_41 h  else fn_X7_setWall_41 h  else fn_X7_setWall_10 h ) = (fn_X7_setWall x y h) := rfl
  generalize (fn_X7_setWall x y h) = RR at E ⊢
  have P10 : tk_X7_setWall_10 h   → fn_X7_setWall_10 h   = RR → z_GX p l e R s m args below meth c D dA ad 4 (z_PXB RR) (z_XX [z_EI, z_ES] RR) h 1 6 (z_c ext) 0 0 10 [none, none, none, none] [] h := by
    intro   T E
    unfold tk_X7_setWall_10 at T; unfold fn_X7_setWall_10 at E
    exact z_throw hB hl0 rfl okT_X7_62_64 (Nat.le_of_ble_eq_true rfl) ⟨Nat.le_of_ble_eq_true rfl, Nat.le_of_ble_eq_true rfl⟩ (by decide +kernel) (by decide +kernel) (by decide +kernel) (by decide +kernel) (by decide +kernel) ⟨E.symm, by decide⟩
  have P41 : tk_X7_setWall_41 h   → fn_X7_setWall_41 h   = RR → z_GX p l e R s m args below meth c D dA ad 4 (z_PXB RR) (z_XX [z_EI, z_ES] RR) h 1 6 (z_c ext) 0 0 41 [none, none, none, none] [] h := by
    intro   T E
    unfold tk_X7_setWall_41 at T; unfold fn_X7_setWall_41 at E
    exact z_throw hB hl0 rfl okT_X7_77_79 (Nat.le_of_ble_eq_true rfl) ⟨Nat.le_of_ble_eq_true rfl, Nat.le_of_ble_eq_true rfl⟩ (by decide +kernel) (by decide +kernel) (by decide +kernel) (by decide +kernel) (by decide +kernel) ⟨E.symm, by decide⟩
  refine z_go hC (pc' := 1) (ls' := [some (.ref 0), some (.int x), some (.int y), none]) (st' := [.int x]) (h' := h) (cs := []) [.iload_n 1] (by decide +kernel) rfl rfl trivial ?_
  refine z_if_lt hC (off := 9) 10 (by decide +kernel) (by decide) (fun c1 => ?_) (fun c1 => ?_)
  · skip
    have E := (if_pos c1).symm.trans E
    have T := T.1 c1
    refine z_less (ls' := [none, none, none, none]) (by simp [z_sub]) ?_
    exact P10   trivial E
  · skip
    have E := (if_neg c1).symm.trans E
    have T := T.2 c1
    refine z_go hC (pc' := 7) (ls' := [some (.ref 0), some (.int x), some (.int y), none]) (st' := [.int (nI 9), .int x]) (h' := h) (cs := []) [.iload_n 1, .bipush 9] (by decide +kernel) rfl rfl trivial ?_
    refine z_icmp_lt hC (off := 13) 20 (by decide +kernel) (by decide) (fun c2 => ?_) (fun c2 => ?_)
    · skip
      have E := (if_pos c2).symm.trans E
      have T := T.1 c2
      refine z_go hC (pc' := 24) (ls' := [some (.ref 0), some (.int x), some (.int y), none]) (st' := [.ref 10]) (h' := h) (cs := []) [.aload_n 0, .getfield 37] (by decide +kernel) rfl rfl trivial ?_
      refine z_callV hC hN hR (as := []) (rest := []) ok_X7_69 (by decide +kernel) (sp_X6_isThere l _ h ) rfl rfl (Nat.le_of_ble_eq_true rfl) rfl rfl (Nat.le_of_ble_eq_true rfl) ⟨Nat.le_trans (Nat.le_of_ble_eq_true rfl) hB.2.2.2.2.1, Nat.le_trans (Nat.le_of_ble_eq_true rfl) hB.2.2.2.2.2⟩ (fun r3 h4 q5 => z_fun q5 ?_)
      refine z_if_ne hC (off := 14) 41 (by decide +kernel) (by decide) (fun c6 => ?_) (fun c6 => ?_)
      · skip
        have E := (if_neg c6).symm.trans E
        have T := T.2 c6
        refine z_less (ls' := [none, none, none, none]) (by simp [z_sub]) ?_
        exact P41   trivial E
      · skip
        have E := (if_pos c6).symm.trans E
        have T := T.1 c6
        refine z_go hC (pc' := 35) (ls' := [some (.ref 0), some (.int x), some (.int y), none]) (st' := [.int x, .ref 8]) (h' := h) (cs := []) [.aload_n 0, .getfield 28, .iload_n 1] (by decide +kernel) rfl rfl trivial ?_
        obtain ⟨t10, T⟩ := T
        refine z_callV hC hN hR (as := [.int x]) (rest := []) ok_X7_73 (by decide +kernel) (sp_X3_hasOneIn l _ h x t10) rfl rfl (Nat.le_of_ble_eq_true rfl) rfl rfl (Nat.le_of_ble_eq_true rfl) ⟨Nat.le_trans (Nat.le_of_ble_eq_true rfl) hB.2.2.2.2.1, Nat.le_trans (Nat.le_of_ble_eq_true rfl) hB.2.2.2.2.2⟩ (fun r7 h8 q9 => z_funb q9 (fun z11 => ?_))
        refine z_if_eq hC (off := 13) 51 (by decide +kernel) (by decide) (fun c12 => ?_) (fun c12 => ?_)
        · skip
          have E := (if_pos c12).symm.trans E
          have T := T.1 c12
          refine z_go hC (pc' := 56) (ls' := [some (.ref 0), some (.int x), some (.int y), none]) (st' := [.int x, .ref 1]) (h' := h) (cs := []) [.aload_n 0, .getfield 10, .iload_n 1] (by decide +kernel) rfl rfl trivial ?_
          refine z_callV hC hN hR (as := [.int x]) (rest := []) ok_X7_82 (by decide +kernel) (sp_X0_hasWallOn l _ h x) rfl rfl (Nat.le_of_ble_eq_true rfl) rfl rfl (Nat.le_of_ble_eq_true rfl) ⟨Nat.le_trans (Nat.le_of_ble_eq_true rfl) hB.2.2.2.2.1, Nat.le_trans (Nat.le_of_ble_eq_true rfl) hB.2.2.2.2.2⟩ (fun r13 h14 q15 => z_fun q15 ?_)
          refine z_go hC (pc' := 66) (ls' := [some (.ref 0), some (.int x), some (.int y), some (.int (fv_X0_hasWallOn h x))]) (st' := [.int y, .int x, .ref 1]) (h' := h) (cs := []) [.istore_n 3, .aload_n 0, .getfield 10, .iload_n 1, .iload_n 2] (by decide +kernel) rfl rfl trivial ?_
          refine z_callV hC hN hR (as := [.int x, .int y]) (rest := []) ok_X7_85 (by decide +kernel) (sp_X0_putWall l _ h x y) rfl rfl (Nat.le_of_ble_eq_true rfl) rfl rfl (Nat.le_of_ble_eq_true rfl) ⟨Nat.le_trans (Nat.le_of_ble_eq_true rfl) hB.2.2.2.2.1, Nat.le_trans (Nat.le_of_ble_eq_true rfl) hB.2.2.2.2.2⟩ (fun r16 h17 q18 => z_fun q18 ?_)
          refine z_go hC (pc' := 73) (ls' := [some (.ref 0), some (.int x), some (.int y), some (.int (fv_X0_hasWallOn h x))]) (st' := [.ref 4]) (h' := fh_X0_putWall h x y) (cs := []) [.aload_n 0, .getfield 21] (by decide +kernel) rfl rfl trivial ?_
          have t22 := T
          refine z_callV hC hN hR (as := []) (rest := []) ok_X7_59 (by decide +kernel) (sp_X2_layOut l _ (fh_X0_putWall h x y)  t22) rfl rfl (Nat.le_of_ble_eq_true rfl) rfl rfl (Nat.le_of_ble_eq_true rfl) ⟨Nat.le_trans (Nat.le_of_ble_eq_true rfl) hB.2.2.2.2.1, Nat.le_trans (Nat.le_of_ble_eq_true rfl) hB.2.2.2.2.2⟩ (fun r19 h20 q21 => z_fun q21 ?_)
          refine z_go hC (pc' := 77) (ls' := [some (.ref 0), some (.int x), some (.int y), some (.int (fv_X0_hasWallOn h x))]) (st' := [.int (fv_X0_hasWallOn h x)]) (h' := (fn_X2_layOut  (fh_X0_putWall h x y)).2) (cs := []) [.iload_n 3] (by decide +kernel) rfl rfl trivial ?_
          exact z_retx_z hB rfl (zb_X0_hasWallOn h x) ⟨Nat.le_of_ble_eq_true rfl, Nat.le_of_ble_eq_true rfl⟩ (by decide +kernel) ⟨_, rfl, E.symm, (zb_X0_hasWallOn h x)⟩
        · skip
          have E := (if_neg c12).symm.trans E
          have T := T.2 c12
          refine z_less (ls' := [none, none, none, none]) (by simp [z_sub]) ?_
          exact P41   trivial E
    · skip
      have E := (if_neg c2).symm.trans E
      have T := T.2 c2
      refine z_less (ls' := [none, none, none, none]) (by simp [z_sub]) ?_
      exact P10   trivial E

def fn_X7_setLink_19 (h : z_H)   : z_RX := .error z_EA
def tk_X7_setLink_19 (h : z_H)   : Prop := True
def fn_X7_setLink_29 (h : z_H)  (a1 : Int32) (a2 : Int32) : z_RX := if (fv_X6_isThere h ) = 0 then .ok (some (.int (z_atv h 2 12 a1)), (fn_X2_layOut  (z_putv h 2 12 a1 a2)).2) else .error z_ES
def tk_X7_setLink_29 (h : z_H)  (a1 : Int32) (a2 : Int32) : Prop := (((fv_X6_isThere h ) = 0) → (tk_X2_layOut  (z_putv h 2 12 a1 a2))) ∧ ((¬ (fv_X6_isThere h ) = 0) → (True))
def fn_X7_setLink (x : Int32) (y : Int32) (h : z_H) : z_RX := z_bd (fn_X7_checkLink x h) (if y = (-1) then fn_X7_setLink_29 h x y else if y < 0 then fn_X7_setLink_19 h  else if y ≤ (nI 9) then fn_X7_setLink_29 h x y else fn_X7_setLink_19 h )
def tk_X7_setLink (x : Int32) (y : Int32) (h : z_H) : Prop := ∀ rx : z_R, fn_X7_checkLink x h = .ok rx → (((y = (-1)) → (tk_X7_setLink_29 h x y)) ∧ ((¬ y = (-1)) → (((y < 0) → (True)) ∧ ((¬ y < 0) → (((y ≤ (nI 9)) → (tk_X7_setLink_29 h x y)) ∧ ((¬ y ≤ (nI 9)) → (True)))))))
set_option maxHeartbeats 4000000 in
set_option maxRecDepth 100000 in
theorem sp_X7_setLink (l : Launch) (hl0 : l.stackTraces = false) (ext : z_Sh) (h : z_H) (x : Int32) (y : Int32) (T : tk_X7_setLink x y h) : z_Spx l 7 yX7_setLink (.code yX7_setLink cX7_setLink 4 (some .int)) 2 12 [.ref 0, .int x, .int y] (z_c ext) h (z_PXI (fn_X7_setLink x y h)) (z_XX [z_EI, z_EA, z_ES] (fn_X7_setLink x y h)) := by
  refine z_enterx ft_X7 (by decide +kernel) fo_X7 (Nat.le_of_ble_eq_true rfl) ?_
  intro p e R s m args below meth c D dA ad hB
  have hC := hB.1.1
  have hN := hB.1.2.1
  have hR := hB.1.2.2.1
  have hZ := hB.2.1
  have hKin := hB.2.2.1
  unfold tk_X7_setLink at T
  have E : (z_bd (fn_X7_checkLink x h) (if y = (-1) then fn_X7_setLink_29 h x y else if y < 0 then fn_X7_setLink_19 h  else if y ≤ (nI 9) then fn_X7_setLink_29 h x y else fn_X7_setLink_19 h )) = (fn_X7_setLink x y h) := rfl
  generalize (fn_X7_setLink x y h) = RR at E ⊢
  have P19 : tk_X7_setLink_19 h   → fn_X7_setLink_19 h   = RR → z_GX p l e R s m args below meth c D dA ad 4 (z_PXI RR) (z_XX [z_EI, z_EA, z_ES] RR) h 2 12 (z_c ext) 1 6 19 [none, none, none, none] [] h := by
    intro   T E
    unfold tk_X7_setLink_19 at T; unfold fn_X7_setLink_19 at E
    exact z_throw hB hl0 rfl okT_X7_93_95 (Nat.le_of_ble_eq_true rfl) ⟨Nat.le_of_ble_eq_true rfl, Nat.le_of_ble_eq_true rfl⟩ (by decide +kernel) (by decide +kernel) (by decide +kernel) (by decide +kernel) (by decide +kernel) ⟨E.symm, by decide⟩
  have P29 : ∀ (a1 : Int32) (a2 : Int32), tk_X7_setLink_29 h  a1 a2 → fn_X7_setLink_29 h  a1 a2 = RR → z_GX p l e R s m args below meth c D dA ad 4 (z_PXI RR) (z_XX [z_EI, z_EA, z_ES] RR) h 2 12 (z_c ext) 1 6 29 [some (.ref 0), some (.int a1), some (.int a2), none] [] h := by
    intro  a1 a2 T E
    unfold tk_X7_setLink_29 at T; unfold fn_X7_setLink_29 at E
    refine z_go hC (pc' := 33) (ls' := [some (.ref 0), some (.int a1), some (.int a2), none]) (st' := [.ref 10]) (h' := h) (cs := []) [.aload_n 0, .getfield 37] (by decide +kernel) rfl rfl trivial ?_
    refine z_callV hC hN hR (as := []) (rest := []) ok_X7_69 (by decide +kernel) (sp_X6_isThere l _ h ) rfl rfl (Nat.le_of_ble_eq_true rfl) rfl rfl (Nat.le_of_ble_eq_true rfl) ⟨Nat.le_trans (Nat.le_of_ble_eq_true rfl) hB.2.2.2.2.1, Nat.le_trans (Nat.le_of_ble_eq_true rfl) hB.2.2.2.2.2⟩ (fun r1 h2 q3 => z_fun q3 ?_)
    refine z_if_eq hC (off := 13) 49 (by decide +kernel) (by decide) (fun c4 => ?_) (fun c4 => ?_)
    · skip
      have E := (if_pos c4).symm.trans E
      have T := T.1 c4
      refine z_go hC (pc' := 54) (ls' := [some (.ref 0), some (.int a1), some (.int a2), none]) (st' := [.int a1, .ref 1]) (h' := h) (cs := []) [.aload_n 0, .getfield 10, .iload_n 1] (by decide +kernel) rfl rfl trivial ?_
      refine z_callV hC hN hR (as := [.int a1]) (rest := []) ok_X7_100 (by decide +kernel) (sp_X0_weightOf l _ h a1) rfl rfl (Nat.le_of_ble_eq_true rfl) rfl rfl (Nat.le_of_ble_eq_true rfl) ⟨Nat.le_trans (Nat.le_of_ble_eq_true rfl) hB.2.2.2.2.1, Nat.le_trans (Nat.le_of_ble_eq_true rfl) hB.2.2.2.2.2⟩ (fun r5 h6 q7 => z_fun q7 ?_)
      refine z_go hC (pc' := 64) (ls' := [some (.ref 0), some (.int a1), some (.int a2), some (.int (z_atv h 2 12 a1))]) (st' := [.int a2, .int a1, .ref 1]) (h' := h) (cs := []) [.istore_n 3, .aload_n 0, .getfield 10, .iload_n 1, .iload_n 2] (by decide +kernel) rfl rfl trivial ?_
      refine z_callV hC hN hR (as := [.int a1, .int a2]) (rest := []) ok_X7_104 (by decide +kernel) (sp_X0_putWeight l _ h a1 a2) rfl rfl (Nat.le_of_ble_eq_true rfl) rfl rfl (Nat.le_of_ble_eq_true rfl) ⟨Nat.le_trans (Nat.le_of_ble_eq_true rfl) hB.2.2.2.2.1, Nat.le_trans (Nat.le_of_ble_eq_true rfl) hB.2.2.2.2.2⟩ (fun r8 h9 q10 => z_fun q10 ?_)
      refine z_go hC (pc' := 71) (ls' := [some (.ref 0), some (.int a1), some (.int a2), some (.int (z_atv h 2 12 a1))]) (st' := [.ref 4]) (h' := z_putv h 2 12 a1 a2) (cs := []) [.aload_n 0, .getfield 21] (by decide +kernel) rfl rfl trivial ?_
      have t14 := T
      refine z_callV hC hN hR (as := []) (rest := []) ok_X7_59 (by decide +kernel) (sp_X2_layOut l _ (z_putv h 2 12 a1 a2)  t14) rfl rfl (Nat.le_of_ble_eq_true rfl) rfl rfl (Nat.le_of_ble_eq_true rfl) ⟨Nat.le_trans (Nat.le_of_ble_eq_true rfl) hB.2.2.2.2.1, Nat.le_trans (Nat.le_of_ble_eq_true rfl) hB.2.2.2.2.2⟩ (fun r11 h12 q13 => z_fun q13 ?_)
      refine z_go hC (pc' := 75) (ls' := [some (.ref 0), some (.int a1), some (.int a2), some (.int (z_atv h 2 12 a1))]) (st' := [.int (z_atv h 2 12 a1)]) (h' := (fn_X2_layOut  (z_putv h 2 12 a1 a2)).2) (cs := []) [.iload_n 3] (by decide +kernel) rfl rfl trivial ?_
      exact z_retx_i hB rfl ⟨Nat.le_of_ble_eq_true rfl, Nat.le_of_ble_eq_true rfl⟩ (by decide +kernel) ⟨_, rfl, E.symm⟩
    · skip
      have E := (if_neg c4).symm.trans E
      have T := T.2 c4
      exact z_throw hB hl0 rfl okT_X7_77_98 (Nat.le_of_ble_eq_true rfl) ⟨Nat.le_of_ble_eq_true rfl, Nat.le_of_ble_eq_true rfl⟩ (by decide +kernel) (by decide +kernel) (by decide +kernel) (by decide +kernel) (by decide +kernel) ⟨E.symm, by decide⟩
  refine z_go hC (pc' := 1) (ls' := [some (.ref 0), some (.int x), some (.int y), none]) (st' := [.int x]) (h' := h) (cs := []) [.iload_n 1] (by decide +kernel) rfl rfl trivial ?_
  refine z_callSx hC hN hR hZ hKin (as := [.int x]) (rest := []) ok_X7_89 (by decide +kernel) (sp_X7_checkLink l hl0 _ h x) (Nat.le_of_ble_eq_true rfl) rfl rfl (Nat.le_of_ble_eq_true rfl) ⟨Nat.le_trans (Nat.le_of_ble_eq_true rfl) hB.2.2.2.2.1, Nat.le_trans (Nat.le_of_ble_eq_true rfl) hB.2.2.2.2.2⟩ (fun Ex qx => z_out hB rfl ⟨Nat.le_of_ble_eq_true rfl, Nat.le_of_ble_eq_true rfl⟩ ⟨((z_bd_er qx.1).symm.trans E).symm, z_msub (by decide) qx.2⟩) (fun rv hh q15 => z_fun ⟨q15.1, q15.2.1⟩ ?_)
  have E := (z_bd_ok q15.2.2).symm.trans E
  have T := T _ q15.2.2
  refine z_go hC (pc' := 6) (ls' := [some (.ref 0), some (.int x), some (.int y), none]) (st' := [.int (-1), .int y]) (h' := h) (cs := []) [.iload_n 2, .iconst (-1)] (by decide +kernel) rfl rfl trivial ?_
  refine z_icmp_eq hC (off := 23) 29 (by decide +kernel) (by decide) (fun c16 => ?_) (fun c16 => ?_)
  · skip
    have E := (if_pos c16).symm.trans E
    have T := T.1 c16
    exact P29  x y T E
  · skip
    have E := (if_neg c16).symm.trans E
    have T := T.2 c16
    refine z_go hC (pc' := 10) (ls' := [some (.ref 0), some (.int x), some (.int y), none]) (st' := [.int y]) (h' := h) (cs := []) [.iload_n 2] (by decide +kernel) rfl rfl trivial ?_
    refine z_if_lt hC (off := 9) 19 (by decide +kernel) (by decide) (fun c17 => ?_) (fun c17 => ?_)
    · skip
      have E := (if_pos c17).symm.trans E
      have T := T.1 c17
      refine z_less (ls' := [none, none, none, none]) (by simp [z_sub]) ?_
      exact P19   trivial E
    · skip
      have E := (if_neg c17).symm.trans E
      have T := T.2 c17
      refine z_go hC (pc' := 16) (ls' := [some (.ref 0), some (.int x), some (.int y), none]) (st' := [.int (nI 9), .int y]) (h' := h) (cs := []) [.iload_n 2, .bipush 9] (by decide +kernel) rfl rfl trivial ?_
      refine z_icmp_le hC (off := 13) 29 (by decide +kernel) (by decide) (fun c18 => ?_) (fun c18 => ?_)
      · skip
        have E := (if_pos c18).symm.trans E
        have T := T.1 c18
        exact P29  x y T E
      · skip
        have E := (if_neg c18).symm.trans E
        have T := T.2 c18
        refine z_less (ls' := [none, none, none, none]) (by simp [z_sub]) ?_
        exact P19   trivial E

def fn_X7_isWall (x : Int32) (h : z_H) : z_RX := z_bd (fn_X7_checkCell x h) (.ok (some (.int (fv_X0_hasWallOn h (fv_X0_blockOf x))), h))
set_option maxHeartbeats 4000000 in
set_option maxRecDepth 100000 in
theorem sp_X7_isWall (l : Launch) (hl0 : l.stackTraces = false) (ext : z_Sh) (h : z_H) (x : Int32)  : z_Spx l 7 yX7_isWall (.code yX7_isWall cX7_isWall 2 (some .boolean)) 1 6 [.ref 0, .int x] (z_c ext) h (z_PXB (fn_X7_isWall x h)) (z_XX [z_EI] (fn_X7_isWall x h)) := by
  refine z_enterx ft_X7 (by decide +kernel) fo_X7 (Nat.le_of_ble_eq_true rfl) ?_
  intro p e R s m args below meth c D dA ad hB
  have hC := hB.1.1
  have hN := hB.1.2.1
  have hR := hB.1.2.2.1
  have hZ := hB.2.1
  have hKin := hB.2.2.1
  have E : (z_bd (fn_X7_checkCell x h) (.ok (some (.int (fv_X0_hasWallOn h (fv_X0_blockOf x))), h))) = (fn_X7_isWall x h) := rfl
  generalize (fn_X7_isWall x h) = RR at E ⊢
  refine z_go hC (pc' := 1) (ls' := [some (.ref 0), some (.int x)]) (st' := [.int x]) (h' := h) (cs := []) [.iload_n 1] (by decide +kernel) rfl rfl trivial ?_
  refine z_callSx hC hN hR hZ hKin (as := [.int x]) (rest := []) ok_X7_108 (by decide +kernel) (sp_X7_checkCell l hl0 _ h x) (Nat.le_of_ble_eq_true rfl) rfl rfl (Nat.le_of_ble_eq_true rfl) ⟨Nat.le_trans (Nat.le_of_ble_eq_true rfl) hB.2.2.2.2.1, Nat.le_trans (Nat.le_of_ble_eq_true rfl) hB.2.2.2.2.2⟩ (fun Ex qx => z_out hB rfl ⟨Nat.le_of_ble_eq_true rfl, Nat.le_of_ble_eq_true rfl⟩ ⟨((z_bd_er qx.1).symm.trans E).symm, z_msub (by decide) qx.2⟩) (fun rv hh q1 => z_fun ⟨q1.1, q1.2.1⟩ ?_)
  have E := (z_bd_ok q1.2.2).symm.trans E
  refine z_go hC (pc' := 9) (ls' := [some (.ref 0), some (.int x)]) (st' := [.int x, .ref 1]) (h' := h) (cs := []) [.aload_n 0, .getfield 10, .iload_n 1] (by decide +kernel) rfl rfl trivial ?_
  refine z_callS hC hN hR (as := [.int x]) (rest := [.ref 1]) ok_X7_111 (by decide +kernel) (sp_X0_blockOf l _ h x) (Nat.le_of_ble_eq_true rfl) rfl rfl (Nat.le_of_ble_eq_true rfl) ⟨Nat.le_trans (Nat.le_of_ble_eq_true rfl) hB.2.2.2.2.1, Nat.le_trans (Nat.le_of_ble_eq_true rfl) hB.2.2.2.2.2⟩ (fun r2 h3 q4 => z_fun q4 ?_)
  refine z_callV hC hN hR (as := [.int (fv_X0_blockOf x)]) (rest := []) ok_X7_82 (by decide +kernel) (sp_X0_hasWallOn l _ h (fv_X0_blockOf x)) rfl rfl (Nat.le_of_ble_eq_true rfl) rfl rfl (Nat.le_of_ble_eq_true rfl) ⟨Nat.le_trans (Nat.le_of_ble_eq_true rfl) hB.2.2.2.2.1, Nat.le_trans (Nat.le_of_ble_eq_true rfl) hB.2.2.2.2.2⟩ (fun r5 h6 q7 => z_fun q7 ?_)
  exact z_retx_z hB rfl (zb_X0_hasWallOn h (fv_X0_blockOf x)) ⟨Nat.le_of_ble_eq_true rfl, Nat.le_of_ble_eq_true rfl⟩ (by decide +kernel) ⟨_, rfl, E.symm, (zb_X0_hasWallOn h (fv_X0_blockOf x))⟩

def fn_X7_isInTree (x : Int32) (h : z_H) : z_RX := z_bd (fn_X7_checkLink x h) (.ok (some (.int (fv_X0_treeHas h x)), h))
set_option maxHeartbeats 4000000 in
set_option maxRecDepth 100000 in
theorem sp_X7_isInTree (l : Launch) (hl0 : l.stackTraces = false) (ext : z_Sh) (h : z_H) (x : Int32)  : z_Spx l 7 yX7_isInTree (.code yX7_isInTree cX7_isInTree 2 (some .boolean)) 1 6 [.ref 0, .int x] (z_c ext) h (z_PXB (fn_X7_isInTree x h)) (z_XX [z_EI] (fn_X7_isInTree x h)) := by
  refine z_enterx ft_X7 (by decide +kernel) fo_X7 (Nat.le_of_ble_eq_true rfl) ?_
  intro p e R s m args below meth c D dA ad hB
  have hC := hB.1.1
  have hN := hB.1.2.1
  have hR := hB.1.2.2.1
  have hZ := hB.2.1
  have hKin := hB.2.2.1
  have E : (z_bd (fn_X7_checkLink x h) (.ok (some (.int (fv_X0_treeHas h x)), h))) = (fn_X7_isInTree x h) := rfl
  generalize (fn_X7_isInTree x h) = RR at E ⊢
  refine z_go hC (pc' := 1) (ls' := [some (.ref 0), some (.int x)]) (st' := [.int x]) (h' := h) (cs := []) [.iload_n 1] (by decide +kernel) rfl rfl trivial ?_
  refine z_callSx hC hN hR hZ hKin (as := [.int x]) (rest := []) ok_X7_89 (by decide +kernel) (sp_X7_checkLink l hl0 _ h x) (Nat.le_of_ble_eq_true rfl) rfl rfl (Nat.le_of_ble_eq_true rfl) ⟨Nat.le_trans (Nat.le_of_ble_eq_true rfl) hB.2.2.2.2.1, Nat.le_trans (Nat.le_of_ble_eq_true rfl) hB.2.2.2.2.2⟩ (fun Ex qx => z_out hB rfl ⟨Nat.le_of_ble_eq_true rfl, Nat.le_of_ble_eq_true rfl⟩ ⟨((z_bd_er qx.1).symm.trans E).symm, z_msub (by decide) qx.2⟩) (fun rv hh q1 => z_fun ⟨q1.1, q1.2.1⟩ ?_)
  have E := (z_bd_ok q1.2.2).symm.trans E
  refine z_go hC (pc' := 9) (ls' := [some (.ref 0), some (.int x)]) (st' := [.int x, .ref 1]) (h' := h) (cs := []) [.aload_n 0, .getfield 10, .iload_n 1] (by decide +kernel) rfl rfl trivial ?_
  refine z_callV hC hN hR (as := [.int x]) (rest := []) ok_X7_114 (by decide +kernel) (sp_X0_treeHas l _ h x) rfl rfl (Nat.le_of_ble_eq_true rfl) rfl rfl (Nat.le_of_ble_eq_true rfl) ⟨Nat.le_trans (Nat.le_of_ble_eq_true rfl) hB.2.2.2.2.1, Nat.le_trans (Nat.le_of_ble_eq_true rfl) hB.2.2.2.2.2⟩ (fun r2 h3 q4 => z_fun q4 ?_)
  exact z_retx_z hB rfl (zb_X0_treeHas h x) ⟨Nat.le_of_ble_eq_true rfl, Nat.le_of_ble_eq_true rfl⟩ (by decide +kernel) ⟨_, rfl, E.symm, (zb_X0_treeHas h x)⟩

def fn_X7_placeOf (x : Int32) (h : z_H) : z_RX := z_bd (fn_X7_checkCell x h) (z_bd (fn_X7_checkCycle  h) (.ok (some (.int (z_atv h 6 36 x)), h)))
set_option maxHeartbeats 4000000 in
set_option maxRecDepth 100000 in
theorem sp_X7_placeOf (l : Launch) (hl0 : l.stackTraces = false) (ext : z_Sh) (h : z_H) (x : Int32)  : z_Spx l 7 yX7_placeOf (.code yX7_placeOf cX7_placeOf 2 (some .int)) 2 12 [.ref 0, .int x] (z_c ext) h (z_PXI (fn_X7_placeOf x h)) (z_XX [z_EI, z_ES] (fn_X7_placeOf x h)) := by
  refine z_enterx ft_X7 (by decide +kernel) fo_X7 (Nat.le_of_ble_eq_true rfl) ?_
  intro p e R s m args below meth c D dA ad hB
  have hC := hB.1.1
  have hN := hB.1.2.1
  have hR := hB.1.2.2.1
  have hZ := hB.2.1
  have hKin := hB.2.2.1
  have E : (z_bd (fn_X7_checkCell x h) (z_bd (fn_X7_checkCycle  h) (.ok (some (.int (z_atv h 6 36 x)), h)))) = (fn_X7_placeOf x h) := rfl
  generalize (fn_X7_placeOf x h) = RR at E ⊢
  refine z_go hC (pc' := 1) (ls' := [some (.ref 0), some (.int x)]) (st' := [.int x]) (h' := h) (cs := []) [.iload_n 1] (by decide +kernel) rfl rfl trivial ?_
  refine z_callSx hC hN hR hZ hKin (as := [.int x]) (rest := []) ok_X7_108 (by decide +kernel) (sp_X7_checkCell l hl0 _ h x) (Nat.le_of_ble_eq_true rfl) rfl rfl (Nat.le_of_ble_eq_true rfl) ⟨Nat.le_trans (Nat.le_of_ble_eq_true rfl) hB.2.2.2.2.1, Nat.le_trans (Nat.le_of_ble_eq_true rfl) hB.2.2.2.2.2⟩ (fun Ex qx => z_out hB rfl ⟨Nat.le_of_ble_eq_true rfl, Nat.le_of_ble_eq_true rfl⟩ ⟨((z_bd_er qx.1).symm.trans E).symm, z_msub (by decide) qx.2⟩) (fun rv hh q1 => z_fun ⟨q1.1, q1.2.1⟩ ?_)
  have E := (z_bd_ok q1.2.2).symm.trans E
  refine z_go hC (pc' := 5) (ls' := [some (.ref 0), some (.int x)]) (st' := [.ref 0]) (h' := h) (cs := []) [.aload_n 0] (by decide +kernel) rfl rfl trivial ?_
  refine z_callVx hC hN hR hZ hKin (as := []) (rest := []) ok_X7_118 (by decide +kernel) (sp_X7_checkCycle l hl0 _ h ) rfl rfl (Nat.le_of_ble_eq_true rfl) rfl rfl (Nat.le_of_ble_eq_true rfl) ⟨Nat.le_trans (Nat.le_of_ble_eq_true rfl) hB.2.2.2.2.1, Nat.le_trans (Nat.le_of_ble_eq_true rfl) hB.2.2.2.2.2⟩ (fun Ex qx => z_out hB rfl ⟨Nat.le_of_ble_eq_true rfl, Nat.le_of_ble_eq_true rfl⟩ ⟨((z_bd_er qx.1).symm.trans E).symm, z_msub (by decide) qx.2⟩) (fun rv hh q2 => z_fun ⟨q2.1, q2.2.1⟩ ?_)
  have E := (z_bd_ok q2.2.2).symm.trans E
  refine z_go hC (pc' := 13) (ls' := [some (.ref 0), some (.int x)]) (st' := [.int x, .ref 4]) (h' := h) (cs := []) [.aload_n 0, .getfield 21, .iload_n 1] (by decide +kernel) rfl rfl trivial ?_
  refine z_callV hC hN hR (as := [.int x]) (rest := []) ok_X7_121 (by decide +kernel) (sp_X2_placeWith l _ h x) rfl rfl (Nat.le_of_ble_eq_true rfl) rfl rfl (Nat.le_of_ble_eq_true rfl) ⟨Nat.le_trans (Nat.le_of_ble_eq_true rfl) hB.2.2.2.2.1, Nat.le_trans (Nat.le_of_ble_eq_true rfl) hB.2.2.2.2.2⟩ (fun r3 h4 q5 => z_fun q5 ?_)
  exact z_retx_i hB rfl ⟨Nat.le_of_ble_eq_true rfl, Nat.le_of_ble_eq_true rfl⟩ (by decide +kernel) ⟨_, rfl, E.symm⟩

def fn_X7_cellAt (x : Int32) (h : z_H) : z_RX := z_bd (fn_X7_checkCycle  h) (z_bd (fn_X7_checkPlaceOfCycle x h) (.ok (some (.int (z_atv h 5 36 x)), h)))
set_option maxHeartbeats 4000000 in
set_option maxRecDepth 100000 in
theorem sp_X7_cellAt (l : Launch) (hl0 : l.stackTraces = false) (ext : z_Sh) (h : z_H) (x : Int32)  : z_Spx l 7 yX7_cellAt (.code yX7_cellAt cX7_cellAt 2 (some .int)) 2 12 [.ref 0, .int x] (z_c ext) h (z_PXI (fn_X7_cellAt x h)) (z_XX [z_ES, z_EI] (fn_X7_cellAt x h)) := by
  refine z_enterx ft_X7 (by decide +kernel) fo_X7 (Nat.le_of_ble_eq_true rfl) ?_
  intro p e R s m args below meth c D dA ad hB
  have hC := hB.1.1
  have hN := hB.1.2.1
  have hR := hB.1.2.2.1
  have hZ := hB.2.1
  have hKin := hB.2.2.1
  have E : (z_bd (fn_X7_checkCycle  h) (z_bd (fn_X7_checkPlaceOfCycle x h) (.ok (some (.int (z_atv h 5 36 x)), h)))) = (fn_X7_cellAt x h) := rfl
  generalize (fn_X7_cellAt x h) = RR at E ⊢
  refine z_go hC (pc' := 1) (ls' := [some (.ref 0), some (.int x)]) (st' := [.ref 0]) (h' := h) (cs := []) [.aload_n 0] (by decide +kernel) rfl rfl trivial ?_
  refine z_callVx hC hN hR hZ hKin (as := []) (rest := []) ok_X7_118 (by decide +kernel) (sp_X7_checkCycle l hl0 _ h ) rfl rfl (Nat.le_of_ble_eq_true rfl) rfl rfl (Nat.le_of_ble_eq_true rfl) ⟨Nat.le_trans (Nat.le_of_ble_eq_true rfl) hB.2.2.2.2.1, Nat.le_trans (Nat.le_of_ble_eq_true rfl) hB.2.2.2.2.2⟩ (fun Ex qx => z_out hB rfl ⟨Nat.le_of_ble_eq_true rfl, Nat.le_of_ble_eq_true rfl⟩ ⟨((z_bd_er qx.1).symm.trans E).symm, z_msub (by decide) qx.2⟩) (fun rv hh q1 => z_fun ⟨q1.1, q1.2.1⟩ ?_)
  have E := (z_bd_ok q1.2.2).symm.trans E
  refine z_go hC (pc' := 6) (ls' := [some (.ref 0), some (.int x)]) (st' := [.int x, .ref 0]) (h' := h) (cs := []) [.aload_n 0, .iload_n 1] (by decide +kernel) rfl rfl trivial ?_
  refine z_callVx hC hN hR hZ hKin (as := [.int x]) (rest := []) ok_X7_124 (by decide +kernel) (sp_X7_checkPlaceOfCycle l hl0 _ h x) rfl rfl (Nat.le_of_ble_eq_true rfl) rfl rfl (Nat.le_of_ble_eq_true rfl) ⟨Nat.le_trans (Nat.le_of_ble_eq_true rfl) hB.2.2.2.2.1, Nat.le_trans (Nat.le_of_ble_eq_true rfl) hB.2.2.2.2.2⟩ (fun Ex qx => z_out hB rfl ⟨Nat.le_of_ble_eq_true rfl, Nat.le_of_ble_eq_true rfl⟩ ⟨((z_bd_er qx.1).symm.trans E).symm, z_msub (by decide) qx.2⟩) (fun rv hh q2 => z_fun ⟨q2.1, q2.2.1⟩ ?_)
  have E := (z_bd_ok q2.2.2).symm.trans E
  refine z_go hC (pc' := 14) (ls' := [some (.ref 0), some (.int x)]) (st' := [.int x, .ref 4]) (h' := h) (cs := []) [.aload_n 0, .getfield 21, .iload_n 1] (by decide +kernel) rfl rfl trivial ?_
  refine z_callV hC hN hR (as := [.int x]) (rest := []) ok_X7_127 (by decide +kernel) (sp_X2_cellWith l _ h x) rfl rfl (Nat.le_of_ble_eq_true rfl) rfl rfl (Nat.le_of_ble_eq_true rfl) ⟨Nat.le_trans (Nat.le_of_ble_eq_true rfl) hB.2.2.2.2.1, Nat.le_trans (Nat.le_of_ble_eq_true rfl) hB.2.2.2.2.2⟩ (fun r3 h4 q5 => z_fun q5 ?_)
  exact z_retx_i hB rfl ⟨Nat.le_of_ble_eq_true rfl, Nat.le_of_ble_eq_true rfl⟩ (by decide +kernel) ⟨_, rfl, E.symm⟩

def fn_X7_cellAtByRings (x : Int32) (h : z_H) : z_RX := z_bd (fn_X7_checkCycle  h) (z_bd (fn_X7_checkPlaceOfCycle x h) (.ok (some (.int (z_vi (fn_X2_cellByRings x h))), (fn_X2_cellByRings x h).2)))
def tk_X7_cellAtByRings (x : Int32) (h : z_H) : Prop := ∀ rx : z_R, fn_X7_checkCycle  h = .ok rx → (∀ rx : z_R, fn_X7_checkPlaceOfCycle x h = .ok rx → (tk_X2_cellByRings x h))
set_option maxHeartbeats 4000000 in
set_option maxRecDepth 100000 in
theorem sp_X7_cellAtByRings (l : Launch) (hl0 : l.stackTraces = false) (ext : z_Sh) (h : z_H) (x : Int32) (T : tk_X7_cellAtByRings x h) : z_Spx l 7 yX7_cellAtByRings (.code yX7_cellAtByRings cX7_cellAtByRings 2 (some .int)) 2 12 [.ref 0, .int x] (z_c ext) h (z_PXI (fn_X7_cellAtByRings x h)) (z_XX [z_ES, z_EI] (fn_X7_cellAtByRings x h)) := by
  refine z_enterx ft_X7 (by decide +kernel) fo_X7 (Nat.le_of_ble_eq_true rfl) ?_
  intro p e R s m args below meth c D dA ad hB
  have hC := hB.1.1
  have hN := hB.1.2.1
  have hR := hB.1.2.2.1
  have hZ := hB.2.1
  have hKin := hB.2.2.1
  unfold tk_X7_cellAtByRings at T
  have E : (z_bd (fn_X7_checkCycle  h) (z_bd (fn_X7_checkPlaceOfCycle x h) (.ok (some (.int (z_vi (fn_X2_cellByRings x h))), (fn_X2_cellByRings x h).2)))) = (fn_X7_cellAtByRings x h) := rfl
  generalize (fn_X7_cellAtByRings x h) = RR at E ⊢
  refine z_go hC (pc' := 1) (ls' := [some (.ref 0), some (.int x)]) (st' := [.ref 0]) (h' := h) (cs := []) [.aload_n 0] (by decide +kernel) rfl rfl trivial ?_
  refine z_callVx hC hN hR hZ hKin (as := []) (rest := []) ok_X7_118 (by decide +kernel) (sp_X7_checkCycle l hl0 _ h ) rfl rfl (Nat.le_of_ble_eq_true rfl) rfl rfl (Nat.le_of_ble_eq_true rfl) ⟨Nat.le_trans (Nat.le_of_ble_eq_true rfl) hB.2.2.2.2.1, Nat.le_trans (Nat.le_of_ble_eq_true rfl) hB.2.2.2.2.2⟩ (fun Ex qx => z_out hB rfl ⟨Nat.le_of_ble_eq_true rfl, Nat.le_of_ble_eq_true rfl⟩ ⟨((z_bd_er qx.1).symm.trans E).symm, z_msub (by decide) qx.2⟩) (fun rv hh q1 => z_fun ⟨q1.1, q1.2.1⟩ ?_)
  have E := (z_bd_ok q1.2.2).symm.trans E
  have T := T _ q1.2.2
  refine z_go hC (pc' := 6) (ls' := [some (.ref 0), some (.int x)]) (st' := [.int x, .ref 0]) (h' := h) (cs := []) [.aload_n 0, .iload_n 1] (by decide +kernel) rfl rfl trivial ?_
  refine z_callVx hC hN hR hZ hKin (as := [.int x]) (rest := []) ok_X7_124 (by decide +kernel) (sp_X7_checkPlaceOfCycle l hl0 _ h x) rfl rfl (Nat.le_of_ble_eq_true rfl) rfl rfl (Nat.le_of_ble_eq_true rfl) ⟨Nat.le_trans (Nat.le_of_ble_eq_true rfl) hB.2.2.2.2.1, Nat.le_trans (Nat.le_of_ble_eq_true rfl) hB.2.2.2.2.2⟩ (fun Ex qx => z_out hB rfl ⟨Nat.le_of_ble_eq_true rfl, Nat.le_of_ble_eq_true rfl⟩ ⟨((z_bd_er qx.1).symm.trans E).symm, z_msub (by decide) qx.2⟩) (fun rv hh q2 => z_fun ⟨q2.1, q2.2.1⟩ ?_)
  have E := (z_bd_ok q2.2.2).symm.trans E
  have T := T _ q2.2.2
  refine z_go hC (pc' := 14) (ls' := [some (.ref 0), some (.int x)]) (st' := [.int x, .ref 4]) (h' := h) (cs := []) [.aload_n 0, .getfield 21, .iload_n 1] (by decide +kernel) rfl rfl trivial ?_
  have t6 := T
  refine z_callV hC hN hR (as := [.int x]) (rest := []) ok_X7_130 (by decide +kernel) (sp_X2_cellByRings l _ h x t6) rfl rfl (Nat.le_of_ble_eq_true rfl) rfl rfl (Nat.le_of_ble_eq_true rfl) ⟨Nat.le_trans (Nat.le_of_ble_eq_true rfl) hB.2.2.2.2.1, Nat.le_trans (Nat.le_of_ble_eq_true rfl) hB.2.2.2.2.2⟩ (fun r3 h4 q5 => z_fun q5 ?_)
  exact z_retx_i hB rfl ⟨Nat.le_of_ble_eq_true rfl, Nat.le_of_ble_eq_true rfl⟩ (by decide +kernel) ⟨_, rfl, E.symm⟩

def fn_X7_begin_14 (h : z_H)   : z_RX := .error z_EA
def tk_X7_begin_14 (h : z_H)   : Prop := True
def fn_X7_begin_48 (h : z_H)   : z_RX := .error z_ES
def tk_X7_begin_48 (h : z_H)   : Prop := True
def fn_X7_begin (x : Int32) (y : Int32) (h : z_H) : z_RX := z_bd (fn_X7_checkCell x h) (if y < 0 then fn_X7_begin_14 h  else if y ≤ (nI 20) then if (fv_X6_isThere h ) = 0 then if (fv_X0_hasWallOn h (fv_X0_blockOf x)) = 0 then .ok (none, z_set (z_setL (z_set (z_set (z_putv h 11 64 (h.1 10 4) x) 10 5 (nI 1)) 10 6 y) 10 7 (fv_X7_setOf x)) 10 8 (nI 0)) else fn_X7_begin_48 h  else fn_X7_begin_48 h  else fn_X7_begin_14 h )
set_option maxHeartbeats 4000000 in
set_option maxRecDepth 100000 in
theorem sp_X7_begin (l : Launch) (hl0 : l.stackTraces = false) (ext : z_Sh) (h : z_H) (x : Int32) (y : Int32)  : z_Spx l 7 yX7_begin (.code yX7_begin cX7_begin 3 none) 2 12 [.ref 0, .int x, .int y] (z_c ext) h (z_PXW (fn_X7_begin x y h)) (z_XX [z_EI, z_EA, z_ES] (fn_X7_begin x y h)) := by
  refine z_enterx ft_X7 (by decide +kernel) fo_X7 (Nat.le_of_ble_eq_true rfl) ?_
  intro p e R s m args below meth c D dA ad hB
  have hC := hB.1.1
  have hN := hB.1.2.1
  have hR := hB.1.2.2.1
  have hZ := hB.2.1
  have hKin := hB.2.2.1
  have E : (z_bd (fn_X7_checkCell x h) (if y < 0 then fn_X7_begin_14 h  else if y ≤ (nI 20) then if (fv_X6_isThere h ) = 0 then if (fv_X0_hasWallOn h (fv_X0_blockOf x)) = 0 then .ok (none, z_set (z_setL (z_set (z_set (z_putv h 11 64 (h.1 10 4) x) 10 5 (nI 1)) 10 6 y) 10 7 (fv_X7_setOf x)) 10 8 (nI 0)) else fn_X7_begin_48 h  else fn_X7_begin_48 h  else fn_X7_begin_14 h )) = (fn_X7_begin x y h) := rfl
  generalize (fn_X7_begin x y h) = RR at E ⊢
  have P14 : tk_X7_begin_14 h   → fn_X7_begin_14 h   = RR → z_GX p l e R s m args below meth c D dA ad 3 (z_PXW RR) (z_XX [z_EI, z_EA, z_ES] RR) h 2 12 (z_c ext) 1 6 14 [none, none, none] [] h := by
    intro   T E
    unfold tk_X7_begin_14 at T; unfold fn_X7_begin_14 at E
    exact z_throw hB hl0 rfl okT_X7_93_133 (Nat.le_of_ble_eq_true rfl) ⟨Nat.le_of_ble_eq_true rfl, Nat.le_of_ble_eq_true rfl⟩ (by decide +kernel) (by decide +kernel) (by decide +kernel) (by decide +kernel) (by decide +kernel) ⟨E.symm, by decide⟩
  have P48 : tk_X7_begin_48 h   → fn_X7_begin_48 h   = RR → z_GX p l e R s m args below meth c D dA ad 3 (z_PXW RR) (z_XX [z_EI, z_EA, z_ES] RR) h 2 12 (z_c ext) 1 6 48 [none, none, none] [] h := by
    intro   T E
    unfold tk_X7_begin_48 at T; unfold fn_X7_begin_48 at E
    exact z_throw hB hl0 rfl okT_X7_77_135 (Nat.le_of_ble_eq_true rfl) ⟨Nat.le_of_ble_eq_true rfl, Nat.le_of_ble_eq_true rfl⟩ (by decide +kernel) (by decide +kernel) (by decide +kernel) (by decide +kernel) (by decide +kernel) ⟨E.symm, by decide⟩
  refine z_go hC (pc' := 1) (ls' := [some (.ref 0), some (.int x), some (.int y)]) (st' := [.int x]) (h' := h) (cs := []) [.iload_n 1] (by decide +kernel) rfl rfl trivial ?_
  refine z_callSx hC hN hR hZ hKin (as := [.int x]) (rest := []) ok_X7_108 (by decide +kernel) (sp_X7_checkCell l hl0 _ h x) (Nat.le_of_ble_eq_true rfl) rfl rfl (Nat.le_of_ble_eq_true rfl) ⟨Nat.le_trans (Nat.le_of_ble_eq_true rfl) hB.2.2.2.2.1, Nat.le_trans (Nat.le_of_ble_eq_true rfl) hB.2.2.2.2.2⟩ (fun Ex qx => z_out hB rfl ⟨Nat.le_of_ble_eq_true rfl, Nat.le_of_ble_eq_true rfl⟩ ⟨((z_bd_er qx.1).symm.trans E).symm, z_msub (by decide) qx.2⟩) (fun rv hh q1 => z_fun ⟨q1.1, q1.2.1⟩ ?_)
  have E := (z_bd_ok q1.2.2).symm.trans E
  refine z_go hC (pc' := 5) (ls' := [some (.ref 0), some (.int x), some (.int y)]) (st' := [.int y]) (h' := h) (cs := []) [.iload_n 2] (by decide +kernel) rfl rfl trivial ?_
  refine z_if_lt hC (off := 9) 14 (by decide +kernel) (by decide) (fun c2 => ?_) (fun c2 => ?_)
  · skip
    have E := (if_pos c2).symm.trans E
    refine z_less (ls' := [none, none, none]) (by simp [z_sub]) ?_
    exact P14   trivial E
  · skip
    have E := (if_neg c2).symm.trans E
    refine z_go hC (pc' := 11) (ls' := [some (.ref 0), some (.int x), some (.int y)]) (st' := [.int (nI 20), .int y]) (h' := h) (cs := []) [.iload_n 2, .bipush 20] (by decide +kernel) rfl rfl trivial ?_
    refine z_icmp_le hC (off := 13) 24 (by decide +kernel) (by decide) (fun c3 => ?_) (fun c3 => ?_)
    · skip
      have E := (if_pos c3).symm.trans E
      refine z_go hC (pc' := 28) (ls' := [some (.ref 0), some (.int x), some (.int y)]) (st' := [.ref 10]) (h' := h) (cs := []) [.aload_n 0, .getfield 37] (by decide +kernel) rfl rfl trivial ?_
      refine z_callV hC hN hR (as := []) (rest := []) ok_X7_69 (by decide +kernel) (sp_X6_isThere l _ h ) rfl rfl (Nat.le_of_ble_eq_true rfl) rfl rfl (Nat.le_of_ble_eq_true rfl) ⟨Nat.le_trans (Nat.le_of_ble_eq_true rfl) hB.2.2.2.2.1, Nat.le_trans (Nat.le_of_ble_eq_true rfl) hB.2.2.2.2.2⟩ (fun r4 h5 q6 => z_fun q6 ?_)
      refine z_if_ne hC (off := 17) 48 (by decide +kernel) (by decide) (fun c7 => ?_) (fun c7 => ?_)
      · skip
        have E := (if_neg c7).symm.trans E
        refine z_less (ls' := [none, none, none]) (by simp [z_sub]) ?_
        exact P48   trivial E
      · skip
        have E := (if_pos c7).symm.trans E
        refine z_go hC (pc' := 39) (ls' := [some (.ref 0), some (.int x), some (.int y)]) (st' := [.int x, .ref 1]) (h' := h) (cs := []) [.aload_n 0, .getfield 10, .iload_n 1] (by decide +kernel) rfl rfl trivial ?_
        refine z_callS hC hN hR (as := [.int x]) (rest := [.ref 1]) ok_X7_111 (by decide +kernel) (sp_X0_blockOf l _ h x) (Nat.le_of_ble_eq_true rfl) rfl rfl (Nat.le_of_ble_eq_true rfl) ⟨Nat.le_trans (Nat.le_of_ble_eq_true rfl) hB.2.2.2.2.1, Nat.le_trans (Nat.le_of_ble_eq_true rfl) hB.2.2.2.2.2⟩ (fun r8 h9 q10 => z_fun q10 ?_)
        refine z_callV hC hN hR (as := [.int (fv_X0_blockOf x)]) (rest := []) ok_X7_82 (by decide +kernel) (sp_X0_hasWallOn l _ h (fv_X0_blockOf x)) rfl rfl (Nat.le_of_ble_eq_true rfl) rfl rfl (Nat.le_of_ble_eq_true rfl) ⟨Nat.le_trans (Nat.le_of_ble_eq_true rfl) hB.2.2.2.2.1, Nat.le_trans (Nat.le_of_ble_eq_true rfl) hB.2.2.2.2.2⟩ (fun r11 h12 q13 => z_fun q13 ?_)
        refine z_if_eq hC (off := 13) 58 (by decide +kernel) (by decide) (fun c14 => ?_) (fun c14 => ?_)
        · skip
          have E := (if_pos c14).symm.trans E
          refine z_go hC (pc' := 64) (ls' := [some (.ref 0), some (.int x), some (.int y)]) (st' := [.int y, .int x, .ref 10]) (h' := h) (cs := []) [.aload_n 0, .getfield 37, .iload_n 1, .iload_n 2] (by decide +kernel) rfl rfl trivial ?_
          refine z_callV hC hN hR (as := [.int x, .int y]) (rest := []) ok_X7_137 (by decide +kernel) (sp_X6_lay l _ h x y) rfl rfl (Nat.le_of_ble_eq_true rfl) rfl rfl (Nat.le_of_ble_eq_true rfl) ⟨Nat.le_trans (Nat.le_of_ble_eq_true rfl) hB.2.2.2.2.1, Nat.le_trans (Nat.le_of_ble_eq_true rfl) hB.2.2.2.2.2⟩ (fun r15 h16 q17 => z_fun q17 ?_)
          exact z_retx_v hB rfl ⟨Nat.le_of_ble_eq_true rfl, Nat.le_of_ble_eq_true rfl⟩ (by decide +kernel) ⟨rfl, E.symm⟩
        · skip
          have E := (if_neg c14).symm.trans E
          refine z_less (ls' := [none, none, none]) (by simp [z_sub]) ?_
          exact P48   trivial E
    · skip
      have E := (if_neg c3).symm.trans E
      refine z_less (ls' := [none, none, none]) (by simp [z_sub]) ?_
      exact P14   trivial E

def fn_X7_end  (h : z_H) : z_RX := if (fv_X6_isThere h ) = 0 then .error z_ES else .ok (some (.int (h.1 10 5)), z_set (z_set h 10 5 (nI 0)) 10 6 (nI 0))
set_option maxHeartbeats 4000000 in
set_option maxRecDepth 100000 in
theorem sp_X7_end (l : Launch) (hl0 : l.stackTraces = false) (ext : z_Sh) (h : z_H)   : z_Spx l 6 yX7_end (.code yX7_end cX7_end 2 (some .int)) 1 6 [.ref 0] (z_c ext) h (z_PXI (fn_X7_end  h)) (z_XX [z_ES] (fn_X7_end  h)) := by
  refine z_enterx ft_X7 (by decide +kernel) fo_X7 (Nat.le_of_ble_eq_true rfl) ?_
  intro p e R s m args below meth c D dA ad hB
  have hC := hB.1.1
  have hN := hB.1.2.1
  have hR := hB.1.2.2.1
  have hZ := hB.2.1
  have hKin := hB.2.2.1
  have E : (if (fv_X6_isThere h ) = 0 then .error z_ES else .ok (some (.int (h.1 10 5)), z_set (z_set h 10 5 (nI 0)) 10 6 (nI 0))) = (fn_X7_end  h) := rfl
  generalize (fn_X7_end  h) = RR at E ⊢
  refine z_go hC (pc' := 4) (ls' := [some (.ref 0), none]) (st' := [.ref 10]) (h' := h) (cs := []) [.aload_n 0, .getfield 37] (by decide +kernel) rfl rfl trivial ?_
  refine z_callV hC hN hR (as := []) (rest := []) ok_X7_69 (by decide +kernel) (sp_X6_isThere l _ h ) rfl rfl (Nat.le_of_ble_eq_true rfl) rfl rfl (Nat.le_of_ble_eq_true rfl) ⟨Nat.le_trans (Nat.le_of_ble_eq_true rfl) hB.2.2.2.2.1, Nat.le_trans (Nat.le_of_ble_eq_true rfl) hB.2.2.2.2.2⟩ (fun r1 h2 q3 => z_fun q3 ?_)
  refine z_if_ne hC (off := 13) 20 (by decide +kernel) (by decide) (fun c4 => ?_) (fun c4 => ?_)
  · skip
    have E := (if_neg c4).symm.trans E
    refine z_go hC (pc' := 24) (ls' := [some (.ref 0), none]) (st' := [.ref 10]) (h' := h) (cs := []) [.aload_n 0, .getfield 37] (by decide +kernel) rfl rfl trivial ?_
    refine z_callV hC hN hR (as := []) (rest := []) ok_X7_142 (by decide +kernel) (sp_X6_size l _ h ) rfl rfl (Nat.le_of_ble_eq_true rfl) rfl rfl (Nat.le_of_ble_eq_true rfl) ⟨Nat.le_trans (Nat.le_of_ble_eq_true rfl) hB.2.2.2.2.1, Nat.le_trans (Nat.le_of_ble_eq_true rfl) hB.2.2.2.2.2⟩ (fun r5 h6 q7 => z_fun q7 ?_)
    refine z_go hC (pc' := 32) (ls' := [some (.ref 0), some (.int (h.1 10 5))]) (st' := [.ref 10]) (h' := h) (cs := []) [.istore_n 1, .aload_n 0, .getfield 37] (by decide +kernel) rfl rfl trivial ?_
    refine z_callV hC hN hR (as := []) (rest := []) ok_X7_146 (by decide +kernel) (sp_X6_takeAway l _ h ) rfl rfl (Nat.le_of_ble_eq_true rfl) rfl rfl (Nat.le_of_ble_eq_true rfl) ⟨Nat.le_trans (Nat.le_of_ble_eq_true rfl) hB.2.2.2.2.1, Nat.le_trans (Nat.le_of_ble_eq_true rfl) hB.2.2.2.2.2⟩ (fun r8 h9 q10 => z_fun q10 ?_)
    refine z_go hC (pc' := 36) (ls' := [some (.ref 0), some (.int (h.1 10 5))]) (st' := [.int (h.1 10 5)]) (h' := z_set (z_set h 10 5 (nI 0)) 10 6 (nI 0)) (cs := []) [.iload_n 1] (by decide +kernel) rfl rfl trivial ?_
    exact z_retx_i hB rfl ⟨Nat.le_of_ble_eq_true rfl, Nat.le_of_ble_eq_true rfl⟩ (by decide +kernel) ⟨_, rfl, E.symm⟩
  · skip
    have E := (if_pos c4).symm.trans E
    exact z_throw hB hl0 rfl okT_X7_77_140 (Nat.le_of_ble_eq_true rfl) ⟨Nat.le_of_ble_eq_true rfl, Nat.le_of_ble_eq_true rfl⟩ (by decide +kernel) (by decide +kernel) (by decide +kernel) (by decide +kernel) (by decide +kernel) ⟨E.symm, by decide⟩

def fn_X7_feed_30 (h : z_H)   : z_RX := .error z_ES
def tk_X7_feed_30 (h : z_H)   : Prop := True
def fn_X7_feed (x : Int32) (h : z_H) : z_RX := z_bd (fn_X7_checkCell x h) (if (fv_X0_hasWallOn h (fv_X0_blockOf x)) = 0 then if (h.1 8 2) < (nI 40) then .ok (some (.int ((h.1 8 2) + (nI 1))), z_set (z_set h 9 ((((h.1 8 1) + (h.1 8 2)) &&& (nI 63)).toNatClampNeg) x) 8 2 ((h.1 8 2) + (nI 1))) else fn_X7_feed_30 h  else fn_X7_feed_30 h )
set_option maxHeartbeats 4000000 in
set_option maxRecDepth 100000 in
theorem sp_X7_feed (l : Launch) (hl0 : l.stackTraces = false) (ext : z_Sh) (h : z_H) (x : Int32)  : z_Spx l 7 yX7_feed (.code yX7_feed cX7_feed 2 (some .int)) 2 12 [.ref 0, .int x] (z_c ext) h (z_PXI (fn_X7_feed x h)) (z_XX [z_EI, z_ES] (fn_X7_feed x h)) := by
  refine z_enterx ft_X7 (by decide +kernel) fo_X7 (Nat.le_of_ble_eq_true rfl) ?_
  intro p e R s m args below meth c D dA ad hB
  have hC := hB.1.1
  have hN := hB.1.2.1
  have hR := hB.1.2.2.1
  have hZ := hB.2.1
  have hKin := hB.2.2.1
  have E : (z_bd (fn_X7_checkCell x h) (if (fv_X0_hasWallOn h (fv_X0_blockOf x)) = 0 then if (h.1 8 2) < (nI 40) then .ok (some (.int ((h.1 8 2) + (nI 1))), z_set (z_set h 9 ((((h.1 8 1) + (h.1 8 2)) &&& (nI 63)).toNatClampNeg) x) 8 2 ((h.1 8 2) + (nI 1))) else fn_X7_feed_30 h  else fn_X7_feed_30 h )) = (fn_X7_feed x h) := rfl
  generalize (fn_X7_feed x h) = RR at E ⊢
  have P30 : tk_X7_feed_30 h   → fn_X7_feed_30 h   = RR → z_GX p l e R s m args below meth c D dA ad 2 (z_PXI RR) (z_XX [z_EI, z_ES] RR) h 2 12 (z_c ext) 1 6 30 [none, none] [] h := by
    intro   T E
    unfold tk_X7_feed_30 at T; unfold fn_X7_feed_30 at E
    exact z_throw hB hl0 rfl okT_X7_77_150 (Nat.le_of_ble_eq_true rfl) ⟨Nat.le_of_ble_eq_true rfl, Nat.le_of_ble_eq_true rfl⟩ (by decide +kernel) (by decide +kernel) (by decide +kernel) (by decide +kernel) (by decide +kernel) ⟨E.symm, by decide⟩
  refine z_go hC (pc' := 1) (ls' := [some (.ref 0), some (.int x)]) (st' := [.int x]) (h' := h) (cs := []) [.iload_n 1] (by decide +kernel) rfl rfl trivial ?_
  refine z_callSx hC hN hR hZ hKin (as := [.int x]) (rest := []) ok_X7_108 (by decide +kernel) (sp_X7_checkCell l hl0 _ h x) (Nat.le_of_ble_eq_true rfl) rfl rfl (Nat.le_of_ble_eq_true rfl) ⟨Nat.le_trans (Nat.le_of_ble_eq_true rfl) hB.2.2.2.2.1, Nat.le_trans (Nat.le_of_ble_eq_true rfl) hB.2.2.2.2.2⟩ (fun Ex qx => z_out hB rfl ⟨Nat.le_of_ble_eq_true rfl, Nat.le_of_ble_eq_true rfl⟩ ⟨((z_bd_er qx.1).symm.trans E).symm, z_msub (by decide) qx.2⟩) (fun rv hh q1 => z_fun ⟨q1.1, q1.2.1⟩ ?_)
  have E := (z_bd_ok q1.2.2).symm.trans E
  refine z_go hC (pc' := 9) (ls' := [some (.ref 0), some (.int x)]) (st' := [.int x, .ref 1]) (h' := h) (cs := []) [.aload_n 0, .getfield 10, .iload_n 1] (by decide +kernel) rfl rfl trivial ?_
  refine z_callS hC hN hR (as := [.int x]) (rest := [.ref 1]) ok_X7_111 (by decide +kernel) (sp_X0_blockOf l _ h x) (Nat.le_of_ble_eq_true rfl) rfl rfl (Nat.le_of_ble_eq_true rfl) ⟨Nat.le_trans (Nat.le_of_ble_eq_true rfl) hB.2.2.2.2.1, Nat.le_trans (Nat.le_of_ble_eq_true rfl) hB.2.2.2.2.2⟩ (fun r2 h3 q4 => z_fun q4 ?_)
  refine z_callV hC hN hR (as := [.int (fv_X0_blockOf x)]) (rest := []) ok_X7_82 (by decide +kernel) (sp_X0_hasWallOn l _ h (fv_X0_blockOf x)) rfl rfl (Nat.le_of_ble_eq_true rfl) rfl rfl (Nat.le_of_ble_eq_true rfl) ⟨Nat.le_trans (Nat.le_of_ble_eq_true rfl) hB.2.2.2.2.1, Nat.le_trans (Nat.le_of_ble_eq_true rfl) hB.2.2.2.2.2⟩ (fun r5 h6 q7 => z_fun q7 ?_)
  refine z_if_ne hC (off := 15) 30 (by decide +kernel) (by decide) (fun c8 => ?_) (fun c8 => ?_)
  · skip
    have E := (if_neg c8).symm.trans E
    refine z_less (ls' := [none, none]) (by simp [z_sub]) ?_
    exact P30   trivial E
  · skip
    have E := (if_pos c8).symm.trans E
    refine z_go hC (pc' := 22) (ls' := [some (.ref 0), some (.int x)]) (st' := [.ref 8]) (h' := h) (cs := []) [.aload_n 0, .getfield 28] (by decide +kernel) rfl rfl trivial ?_
    refine z_callV hC hN hR (as := []) (rest := []) ok_X7_149 (by decide +kernel) (sp_X3_size l _ h ) rfl rfl (Nat.le_of_ble_eq_true rfl) rfl rfl (Nat.le_of_ble_eq_true rfl) ⟨Nat.le_trans (Nat.le_of_ble_eq_true rfl) hB.2.2.2.2.1, Nat.le_trans (Nat.le_of_ble_eq_true rfl) hB.2.2.2.2.2⟩ (fun r9 h10 q11 => z_fun q11 ?_)
    refine z_go hC (pc' := 27) (ls' := [some (.ref 0), some (.int x)]) (st' := [.int (nI 40), .int (h.1 8 2)]) (h' := h) (cs := []) [.bipush 40] (by decide +kernel) rfl rfl trivial ?_
    refine z_icmp_lt hC (off := 13) 40 (by decide +kernel) (by decide) (fun c12 => ?_) (fun c12 => ?_)
    · skip
      have E := (if_pos c12).symm.trans E
      refine z_go hC (pc' := 45) (ls' := [some (.ref 0), some (.int x)]) (st' := [.int x, .ref 8]) (h' := h) (cs := []) [.aload_n 0, .getfield 28, .iload_n 1] (by decide +kernel) rfl rfl trivial ?_
      refine z_callV hC hN hR (as := [.int x]) (rest := []) ok_X7_152 (by decide +kernel) (sp_X3_add l _ h x) rfl rfl (Nat.le_of_ble_eq_true rfl) rfl rfl (Nat.le_of_ble_eq_true rfl) ⟨Nat.le_trans (Nat.le_of_ble_eq_true rfl) hB.2.2.2.2.1, Nat.le_trans (Nat.le_of_ble_eq_true rfl) hB.2.2.2.2.2⟩ (fun r13 h14 q15 => z_fun q15 ?_)
      refine z_go hC (pc' := 52) (ls' := [some (.ref 0), some (.int x)]) (st' := [.ref 8]) (h' := z_set (z_set h 9 ((((h.1 8 1) + (h.1 8 2)) &&& (nI 63)).toNatClampNeg) x) 8 2 ((h.1 8 2) + (nI 1))) (cs := []) [.aload_n 0, .getfield 28] (by decide +kernel) rfl rfl trivial ?_
      refine z_callV hC hN hR (as := []) (rest := []) ok_X7_149 (by decide +kernel) (sp_X3_size l _ (z_set (z_set h 9 ((((h.1 8 1) + (h.1 8 2)) &&& (nI 63)).toNatClampNeg) x) 8 2 ((h.1 8 2) + (nI 1))) ) rfl rfl (Nat.le_of_ble_eq_true rfl) rfl rfl (Nat.le_of_ble_eq_true rfl) ⟨Nat.le_trans (Nat.le_of_ble_eq_true rfl) hB.2.2.2.2.1, Nat.le_trans (Nat.le_of_ble_eq_true rfl) hB.2.2.2.2.2⟩ (fun r16 h17 q18 => z_fun q18 ?_)
      exact z_retx_i hB rfl ⟨Nat.le_of_ble_eq_true rfl, Nat.le_of_ble_eq_true rfl⟩ (by decide +kernel) ⟨_, rfl, E.symm⟩
    · skip
      have E := (if_neg c12).symm.trans E
      refine z_less (ls' := [none, none]) (by simp [z_sub]) ?_
      exact P30   trivial E

def fn_X7_step (x : Int32) (h : z_H) : z_RX := z_bd (fn_X7_checkDirection x h) (z_bd (fn_X7_checkLivingWorm  h) (if (fv_X6_advance h x) = 0 then .ok (some (.int (nI 0)), z_set (fh_X6_advance h x) 10 8 (nI 1)) else .ok (some (.int ((fh_X6_advance h x).1 10 5)), fh_X6_advance h x)))
set_option maxHeartbeats 4000000 in
set_option maxRecDepth 100000 in
theorem sp_X7_step (l : Launch) (hl0 : l.stackTraces = false) (ext : z_Sh) (h : z_H) (x : Int32)  : z_Spx l 7 yX7_step (.code yX7_step cX7_step 2 (some .int)) 2 12 [.ref 0, .int x] (z_c ext) h (z_PXI (fn_X7_step x h)) (z_XX [z_EI, z_ES] (fn_X7_step x h)) := by
  refine z_enterx ft_X7 (by decide +kernel) fo_X7 (Nat.le_of_ble_eq_true rfl) ?_
  intro p e R s m args below meth c D dA ad hB
  have hC := hB.1.1
  have hN := hB.1.2.1
  have hR := hB.1.2.2.1
  have hZ := hB.2.1
  have hKin := hB.2.2.1
  have E : (z_bd (fn_X7_checkDirection x h) (z_bd (fn_X7_checkLivingWorm  h) (if (fv_X6_advance h x) = 0 then .ok (some (.int (nI 0)), z_set (fh_X6_advance h x) 10 8 (nI 1)) else .ok (some (.int ((fh_X6_advance h x).1 10 5)), fh_X6_advance h x)))) = (fn_X7_step x h) := rfl
  generalize (fn_X7_step x h) = RR at E ⊢
  refine z_go hC (pc' := 1) (ls' := [some (.ref 0), some (.int x)]) (st' := [.int x]) (h' := h) (cs := []) [.iload_n 1] (by decide +kernel) rfl rfl trivial ?_
  refine z_callSx hC hN hR hZ hKin (as := [.int x]) (rest := []) ok_X7_155 (by decide +kernel) (sp_X7_checkDirection l hl0 _ h x) (Nat.le_of_ble_eq_true rfl) rfl rfl (Nat.le_of_ble_eq_true rfl) ⟨Nat.le_trans (Nat.le_of_ble_eq_true rfl) hB.2.2.2.2.1, Nat.le_trans (Nat.le_of_ble_eq_true rfl) hB.2.2.2.2.2⟩ (fun Ex qx => z_out hB rfl ⟨Nat.le_of_ble_eq_true rfl, Nat.le_of_ble_eq_true rfl⟩ ⟨((z_bd_er qx.1).symm.trans E).symm, z_msub (by decide) qx.2⟩) (fun rv hh q1 => z_fun ⟨q1.1, q1.2.1⟩ ?_)
  have E := (z_bd_ok q1.2.2).symm.trans E
  refine z_go hC (pc' := 5) (ls' := [some (.ref 0), some (.int x)]) (st' := [.ref 0]) (h' := h) (cs := []) [.aload_n 0] (by decide +kernel) rfl rfl trivial ?_
  refine z_callVx hC hN hR hZ hKin (as := []) (rest := []) ok_X7_158 (by decide +kernel) (sp_X7_checkLivingWorm l hl0 _ h ) rfl rfl (Nat.le_of_ble_eq_true rfl) rfl rfl (Nat.le_of_ble_eq_true rfl) ⟨Nat.le_trans (Nat.le_of_ble_eq_true rfl) hB.2.2.2.2.1, Nat.le_trans (Nat.le_of_ble_eq_true rfl) hB.2.2.2.2.2⟩ (fun Ex qx => z_out hB rfl ⟨Nat.le_of_ble_eq_true rfl, Nat.le_of_ble_eq_true rfl⟩ ⟨((z_bd_er qx.1).symm.trans E).symm, z_msub (by decide) qx.2⟩) (fun rv hh q2 => z_fun ⟨q2.1, q2.2.1⟩ ?_)
  have E := (z_bd_ok q2.2.2).symm.trans E
  refine z_go hC (pc' := 13) (ls' := [some (.ref 0), some (.int x)]) (st' := [.int x, .ref 10]) (h' := h) (cs := []) [.aload_n 0, .getfield 37, .iload_n 1] (by decide +kernel) rfl rfl trivial ?_
  refine z_callV hC hN hR (as := [.int x]) (rest := []) ok_X7_161 (by decide +kernel) (sp_X6_advance l _ h x) rfl rfl (Nat.le_of_ble_eq_true rfl) rfl rfl (Nat.le_of_ble_eq_true rfl) ⟨Nat.le_trans (Nat.le_of_ble_eq_true rfl) hB.2.2.2.2.1, Nat.le_trans (Nat.le_of_ble_eq_true rfl) hB.2.2.2.2.2⟩ (fun r3 h4 q5 => z_fun q5 ?_)
  refine z_if_eq hC (off := 11) 27 (by decide +kernel) (by decide) (fun c6 => ?_) (fun c6 => ?_)
  · skip
    have E := (if_pos c6).symm.trans E
    refine z_go hC (pc' := 31) (ls' := [some (.ref 0), some (.int x)]) (st' := [.ref 10]) (h' := fh_X6_advance h x) (cs := []) [.aload_n 0, .getfield 37] (by decide +kernel) rfl rfl trivial ?_
    refine z_callV hC hN hR (as := []) (rest := []) ok_X7_164 (by decide +kernel) (sp_X6_die l _ (fh_X6_advance h x) ) rfl rfl (Nat.le_of_ble_eq_true rfl) rfl rfl (Nat.le_of_ble_eq_true rfl) ⟨Nat.le_trans (Nat.le_of_ble_eq_true rfl) hB.2.2.2.2.1, Nat.le_trans (Nat.le_of_ble_eq_true rfl) hB.2.2.2.2.2⟩ (fun r7 h8 q9 => z_fun q9 ?_)
    refine z_go hC (pc' := 35) (ls' := [some (.ref 0), some (.int x)]) (st' := [.int (nI 0)]) (h' := z_set (fh_X6_advance h x) 10 8 (nI 1)) (cs := []) [.iconst 0] (by decide +kernel) rfl rfl trivial ?_
    exact z_retx_i hB rfl ⟨Nat.le_of_ble_eq_true rfl, Nat.le_of_ble_eq_true rfl⟩ (by decide +kernel) ⟨_, rfl, E.symm⟩
  · skip
    have E := (if_neg c6).symm.trans E
    refine z_go hC (pc' := 23) (ls' := [some (.ref 0), some (.int x)]) (st' := [.ref 10]) (h' := fh_X6_advance h x) (cs := []) [.aload_n 0, .getfield 37] (by decide +kernel) rfl rfl trivial ?_
    refine z_callV hC hN hR (as := []) (rest := []) ok_X7_142 (by decide +kernel) (sp_X6_size l _ (fh_X6_advance h x) ) rfl rfl (Nat.le_of_ble_eq_true rfl) rfl rfl (Nat.le_of_ble_eq_true rfl) ⟨Nat.le_trans (Nat.le_of_ble_eq_true rfl) hB.2.2.2.2.1, Nat.le_trans (Nat.le_of_ble_eq_true rfl) hB.2.2.2.2.2⟩ (fun r10 h11 q12 => z_fun q12 ?_)
    exact z_retx_i hB rfl ⟨Nat.le_of_ble_eq_true rfl, Nat.le_of_ble_eq_true rfl⟩ (by decide +kernel) ⟨_, rfl, E.symm⟩

def fn_X7_play_11 (h : z_H)   : z_RX := .error z_EA
def tk_X7_play_11 (h : z_H)   : Prop := True
def fn_X7_play_27  : Nat → Int32 → Int32 → z_H → z_RX
  | 0, _, _, _ => .error ""
  | n + 1, a1, a2, hh => let k27 := fun (a1_ : Int32) (a2_ : Int32) (hh_ : z_H) => fn_X7_play_27  n a1_ a2_ hh_; if a1 ≤ a2 then .ok (some (.int a1), hh) else if (z_vi (fn_X5_choice  hh)) = (-1) then .ok (some (.int a2), (fn_X5_choice  hh).2) else if (fv_X6_advance ((fn_X5_choice  hh).2) (z_vi (fn_X5_choice  hh))) = 0 then .ok (some (.int a2), fh_X6_advance ((fn_X5_choice  hh).2) (z_vi (fn_X5_choice  hh))) else k27 a1 (a2 + (nI 1)) (fh_X6_advance ((fn_X5_choice  hh).2) (z_vi (fn_X5_choice  hh)))
def tk_X7_play_27  : Nat → Int32 → Int32 → z_H → Prop
  | 0, _, _, _ => False
  | n + 1, a1, a2, hh => let K27 := fun (a1_ : Int32) (a2_ : Int32) (hh_ : z_H) => tk_X7_play_27  n a1_ a2_ hh_; ((a1 ≤ a2) → (True)) ∧ ((¬ a1 ≤ a2) → (tk_X5_choice  hh ∧ ((((z_vi (fn_X5_choice  hh)) = (-1)) → (True)) ∧ ((¬ (z_vi (fn_X5_choice  hh)) = (-1)) → ((((fv_X6_advance ((fn_X5_choice  hh).2) (z_vi (fn_X5_choice  hh))) = 0) → (True)) ∧ ((¬ (fv_X6_advance ((fn_X5_choice  hh).2) (z_vi (fn_X5_choice  hh))) = 0) → (K27 a1 (a2 + (nI 1)) (fh_X6_advance ((fn_X5_choice  hh).2) (z_vi (fn_X5_choice  hh))))))))))
def fn_X7_play (x : Int32) (h : z_H) : z_RX := if x < (nI 1) then fn_X7_play_11 h  else if x ≤ (nI 50) then z_bd (fn_X7_checkLivingWorm  h) (fn_X7_play_27 2000 x (nI 0) h) else fn_X7_play_11 h 
def tk_X7_play (x : Int32) (h : z_H) : Prop := ((x < (nI 1)) → (True)) ∧ ((¬ x < (nI 1)) → (((x ≤ (nI 50)) → (∀ rx : z_R, fn_X7_checkLivingWorm  h = .ok rx → (tk_X7_play_27 2000 x (nI 0) h))) ∧ ((¬ x ≤ (nI 50)) → (True))))
set_option maxHeartbeats 4000000 in
set_option maxRecDepth 100000 in
theorem sp_X7_play (l : Launch) (hl0 : l.stackTraces = false) (ext : z_Sh) (h : z_H) (x : Int32) (T : tk_X7_play x h) : z_Spx l 7 yX7_play (.code yX7_play cX7_play 4 (some .int)) 1 6 [.ref 0, .int x] (z_c ext) h (z_PXI (fn_X7_play x h)) (z_XX [z_EA, z_ES] (fn_X7_play x h)) := by
  refine z_enterx ft_X7 (by decide +kernel) fo_X7 (Nat.le_of_ble_eq_true rfl) ?_
  intro p e R s m args below meth c D dA ad hB
  have hC := hB.1.1
  have hN := hB.1.2.1
  have hR := hB.1.2.2.1
  have hZ := hB.2.1
  have hKin := hB.2.2.1
  unfold tk_X7_play at T
  have E : (if x < (nI 1) then fn_X7_play_11 h  else if x ≤ (nI 50) then z_bd (fn_X7_checkLivingWorm  h) (fn_X7_play_27 2000 x (nI 0) h) else fn_X7_play_11 h ) = (fn_X7_play x h) := rfl
  generalize (fn_X7_play x h) = RR at E ⊢
  have P11 : tk_X7_play_11 h   → fn_X7_play_11 h   = RR → z_GX p l e R s m args below meth c D dA ad 4 (z_PXI RR) (z_XX [z_EA, z_ES] RR) h 1 6 (z_c ext) 0 0 11 [none, none, none, none] [] h := by
    intro   T E
    unfold tk_X7_play_11 at T; unfold fn_X7_play_11 at E
    exact z_throw hB hl0 rfl okT_X7_93_167 (Nat.le_of_ble_eq_true rfl) ⟨Nat.le_of_ble_eq_true rfl, Nat.le_of_ble_eq_true rfl⟩ (by decide +kernel) (by decide +kernel) (by decide +kernel) (by decide +kernel) (by decide +kernel) ⟨E.symm, by decide⟩
  have P27 : ∀ (n : Nat), ∀ (a1 : Int32) (a2 : Int32) (hh : z_H), tk_X7_play_27  n a1 a2 hh → fn_X7_play_27  n a1 a2 hh = RR → z_GX p l e R s m args below meth c D dA ad 4 (z_PXI RR) (z_XX [z_EA, z_ES] RR) h 1 6 (z_c ext) 1 6 27 [some (.ref 0), some (.int a1), some (.int a2), none] [] hh := by
    intro  n
    induction n with
    | zero => intro a1 a2 hh T E; exact False.elim T
    | succ n ih =>
      intro a1 a2 hh T E
      unfold tk_X7_play_27 at T; unfold fn_X7_play_27 at E; dsimp only at T E
      have hk27 := ih
      refine z_go hC (pc' := 29) (ls' := [some (.ref 0), some (.int a1), some (.int a2), none]) (st' := [.int a1, .int a2]) (h' := hh) (cs := []) [.iload_n 2, .iload_n 1] (by decide +kernel) rfl rfl trivial ?_
      refine z_icmp_ge hC (off := 35) 64 (by decide +kernel) (by decide) (fun c1 => ?_) (fun c1 => ?_)
      · skip
        have E := (if_pos c1).symm.trans E
        have T := T.1 c1
        refine z_go hC (pc' := 65) (ls' := [some (.ref 0), some (.int a1), some (.int a2), none]) (st' := [.int a1]) (h' := hh) (cs := []) [.iload_n 1] (by decide +kernel) rfl rfl trivial ?_
        exact z_retx_i hB rfl ⟨Nat.le_of_ble_eq_true rfl, Nat.le_of_ble_eq_true rfl⟩ (by decide +kernel) ⟨_, rfl, E.symm⟩
      · skip
        have E := (if_neg c1).symm.trans E
        have T := T.2 c1
        refine z_go hC (pc' := 36) (ls' := [some (.ref 0), some (.int a1), some (.int a2), none]) (st' := [.ref 13]) (h' := hh) (cs := []) [.aload_n 0, .getfield 46] (by decide +kernel) rfl rfl trivial ?_
        obtain ⟨t5, T⟩ := T
        refine z_callV hC hN hR (as := []) (rest := []) ok_X7_169 (by decide +kernel) (sp_X5_choice l _ hh  t5) rfl rfl (Nat.le_of_ble_eq_true rfl) rfl rfl (Nat.le_of_ble_eq_true rfl) ⟨Nat.le_trans (Nat.le_of_ble_eq_true rfl) hB.2.2.2.2.1, Nat.le_trans (Nat.le_of_ble_eq_true rfl) hB.2.2.2.2.2⟩ (fun r2 h3 q4 => z_fun q4 ?_)
        refine z_go hC (pc' := 42) (ls' := [some (.ref 0), some (.int a1), some (.int a2), some (.int (z_vi (fn_X5_choice  hh)))]) (st' := [.int (-1), .int (z_vi (fn_X5_choice  hh))]) (h' := (fn_X5_choice  hh).2) (cs := []) [.istore_n 3, .iload_n 3, .iconst (-1)] (by decide +kernel) rfl rfl trivial ?_
        refine z_icmp_eq hC (off := 14) 56 (by decide +kernel) (by decide) (fun c6 => ?_) (fun c6 => ?_)
        · skip
          have E := (if_pos c6).symm.trans E
          have T := T.1 c6
          refine z_go hC (pc' := 57) (ls' := [some (.ref 0), some (.int a1), some (.int a2), some (.int (z_vi (fn_X5_choice  hh)))]) (st' := [.int a2]) (h' := (fn_X5_choice  hh).2) (cs := []) [.iload_n 2] (by decide +kernel) rfl rfl trivial ?_
          exact z_retx_i hB rfl ⟨Nat.le_of_ble_eq_true rfl, Nat.le_of_ble_eq_true rfl⟩ (by decide +kernel) ⟨_, rfl, E.symm⟩
        · skip
          have E := (if_neg c6).symm.trans E
          have T := T.2 c6
          refine z_go hC (pc' := 50) (ls' := [some (.ref 0), some (.int a1), some (.int a2), some (.int (z_vi (fn_X5_choice  hh)))]) (st' := [.int (z_vi (fn_X5_choice  hh)), .ref 10]) (h' := (fn_X5_choice  hh).2) (cs := []) [.aload_n 0, .getfield 37, .iload_n 3] (by decide +kernel) rfl rfl trivial ?_
          refine z_callV hC hN hR (as := [.int (z_vi (fn_X5_choice  hh))]) (rest := []) ok_X7_161 (by decide +kernel) (sp_X6_advance l _ ((fn_X5_choice  hh).2) (z_vi (fn_X5_choice  hh))) rfl rfl (Nat.le_of_ble_eq_true rfl) rfl rfl (Nat.le_of_ble_eq_true rfl) ⟨Nat.le_trans (Nat.le_of_ble_eq_true rfl) hB.2.2.2.2.1, Nat.le_trans (Nat.le_of_ble_eq_true rfl) hB.2.2.2.2.2⟩ (fun r7 h8 q9 => z_fun q9 ?_)
          refine z_if_ne hC (off := 5) 58 (by decide +kernel) (by decide) (fun c10 => ?_) (fun c10 => ?_)
          · skip
            have E := (if_neg c10).symm.trans E
            have T := T.2 c10
            refine z_go hC (pc' := 61) (ls' := [some (.ref 0), some (.int a1), some (.int (a2 + (nI 1))), some (.int (z_vi (fn_X5_choice  hh)))]) (st' := []) (h' := fh_X6_advance ((fn_X5_choice  hh).2) (z_vi (fn_X5_choice  hh))) (cs := []) [.iinc 2 1] (by decide +kernel) rfl rfl trivial ?_
            refine z_goto hC (off := -34) 27 (by decide +kernel) (by decide) ?_
            refine z_less (ls' := [some (.ref 0), some (.int a1), some (.int (a2 + (nI 1))), none]) (by simp [z_sub]) ?_
            exact hk27 a1 (a2 + (nI 1)) (fh_X6_advance ((fn_X5_choice  hh).2) (z_vi (fn_X5_choice  hh))) T E
          · skip
            have E := (if_pos c10).symm.trans E
            have T := T.1 c10
            refine z_go hC (pc' := 57) (ls' := [some (.ref 0), some (.int a1), some (.int a2), some (.int (z_vi (fn_X5_choice  hh)))]) (st' := [.int a2]) (h' := fh_X6_advance ((fn_X5_choice  hh).2) (z_vi (fn_X5_choice  hh))) (cs := []) [.iload_n 2] (by decide +kernel) rfl rfl trivial ?_
            exact z_retx_i hB rfl ⟨Nat.le_of_ble_eq_true rfl, Nat.le_of_ble_eq_true rfl⟩ (by decide +kernel) ⟨_, rfl, E.symm⟩
  refine z_go hC (pc' := 2) (ls' := [some (.ref 0), some (.int x), none, none]) (st' := [.int (nI 1), .int x]) (h' := h) (cs := []) [.iload_n 1, .iconst 1] (by decide +kernel) rfl rfl trivial ?_
  refine z_icmp_lt hC (off := 9) 11 (by decide +kernel) (by decide) (fun c11 => ?_) (fun c11 => ?_)
  · skip
    have E := (if_pos c11).symm.trans E
    have T := T.1 c11
    refine z_less (ls' := [none, none, none, none]) (by simp [z_sub]) ?_
    exact P11   trivial E
  · skip
    have E := (if_neg c11).symm.trans E
    have T := T.2 c11
    refine z_go hC (pc' := 8) (ls' := [some (.ref 0), some (.int x), none, none]) (st' := [.int (nI 50), .int x]) (h' := h) (cs := []) [.iload_n 1, .bipush 50] (by decide +kernel) rfl rfl trivial ?_
    refine z_icmp_le hC (off := 13) 21 (by decide +kernel) (by decide) (fun c12 => ?_) (fun c12 => ?_)
    · skip
      have E := (if_pos c12).symm.trans E
      have T := T.1 c12
      refine z_go hC (pc' := 22) (ls' := [some (.ref 0), some (.int x), none, none]) (st' := [.ref 0]) (h' := h) (cs := []) [.aload_n 0] (by decide +kernel) rfl rfl trivial ?_
      refine z_callVx hC hN hR hZ hKin (as := []) (rest := []) ok_X7_158 (by decide +kernel) (sp_X7_checkLivingWorm l hl0 _ h ) rfl rfl (Nat.le_of_ble_eq_true rfl) rfl rfl (Nat.le_of_ble_eq_true rfl) ⟨Nat.le_trans (Nat.le_of_ble_eq_true rfl) hB.2.2.2.2.1, Nat.le_trans (Nat.le_of_ble_eq_true rfl) hB.2.2.2.2.2⟩ (fun Ex qx => z_out hB rfl ⟨Nat.le_of_ble_eq_true rfl, Nat.le_of_ble_eq_true rfl⟩ ⟨((z_bd_er qx.1).symm.trans E).symm, z_msub (by decide) qx.2⟩) (fun rv hh q13 => z_fun ⟨q13.1, q13.2.1⟩ ?_)
      have E := (z_bd_ok q13.2.2).symm.trans E
      have T := T _ q13.2.2
      refine z_go hC (pc' := 27) (ls' := [some (.ref 0), some (.int x), some (.int (nI 0)), none]) (st' := []) (h' := h) (cs := []) [.iconst 0, .istore_n 2] (by decide +kernel) rfl rfl trivial ?_
      exact P27 2000 x (nI 0) h T E
    · skip
      have E := (if_neg c12).symm.trans E
      have T := T.2 c12
      refine z_less (ls' := [none, none, none, none]) (by simp [z_sub]) ?_
      exact P11   trivial E

def fn_X7_bodyAt_15 (h : z_H)   : z_RX := .error z_EI
def tk_X7_bodyAt_15 (h : z_H)   : Prop := True
def fn_X7_bodyAt (x : Int32) (h : z_H) : z_RX := if x < 0 then fn_X7_bodyAt_15 h  else if x < (h.1 10 5) then .ok (some (.int (h.1 11 ((((h.1 10 4) + x) &&& (nI 63)).toNatClampNeg))), h) else fn_X7_bodyAt_15 h 
set_option maxHeartbeats 4000000 in
set_option maxRecDepth 100000 in
theorem sp_X7_bodyAt (l : Launch) (hl0 : l.stackTraces = false) (ext : z_Sh) (h : z_H) (x : Int32)  : z_Spx l 6 yX7_bodyAt (.code yX7_bodyAt cX7_bodyAt 2 (some .int)) 1 6 [.ref 0, .int x] (z_c ext) h (z_PXI (fn_X7_bodyAt x h)) (z_XX [z_EI] (fn_X7_bodyAt x h)) := by
  refine z_enterx ft_X7 (by decide +kernel) fo_X7 (Nat.le_of_ble_eq_true rfl) ?_
  intro p e R s m args below meth c D dA ad hB
  have hC := hB.1.1
  have hN := hB.1.2.1
  have hR := hB.1.2.2.1
  have hZ := hB.2.1
  have hKin := hB.2.2.1
  have E : (if x < 0 then fn_X7_bodyAt_15 h  else if x < (h.1 10 5) then .ok (some (.int (h.1 11 ((((h.1 10 4) + x) &&& (nI 63)).toNatClampNeg))), h) else fn_X7_bodyAt_15 h ) = (fn_X7_bodyAt x h) := rfl
  generalize (fn_X7_bodyAt x h) = RR at E ⊢
  have P15 : tk_X7_bodyAt_15 h   → fn_X7_bodyAt_15 h   = RR → z_GX p l e R s m args below meth c D dA ad 2 (z_PXI RR) (z_XX [z_EI] RR) h 1 6 (z_c ext) 0 0 15 [none, none] [] h := by
    intro   T E
    unfold tk_X7_bodyAt_15 at T; unfold fn_X7_bodyAt_15 at E
    exact z_throw hB hl0 rfl okT_X7_62_178 (Nat.le_of_ble_eq_true rfl) ⟨Nat.le_of_ble_eq_true rfl, Nat.le_of_ble_eq_true rfl⟩ (by decide +kernel) (by decide +kernel) (by decide +kernel) (by decide +kernel) (by decide +kernel) ⟨E.symm, by decide⟩
  refine z_go hC (pc' := 1) (ls' := [some (.ref 0), some (.int x)]) (st' := [.int x]) (h' := h) (cs := []) [.iload_n 1] (by decide +kernel) rfl rfl trivial ?_
  refine z_if_lt hC (off := 14) 15 (by decide +kernel) (by decide) (fun c1 => ?_) (fun c1 => ?_)
  · skip
    have E := (if_pos c1).symm.trans E
    refine z_less (ls' := [none, none]) (by simp [z_sub]) ?_
    exact P15   trivial E
  · skip
    have E := (if_neg c1).symm.trans E
    refine z_go hC (pc' := 9) (ls' := [some (.ref 0), some (.int x)]) (st' := [.ref 10, .int x]) (h' := h) (cs := []) [.iload_n 1, .aload_n 0, .getfield 37] (by decide +kernel) rfl rfl trivial ?_
    refine z_callV hC hN hR (as := []) (rest := [.int x]) ok_X7_142 (by decide +kernel) (sp_X6_size l _ h ) rfl rfl (Nat.le_of_ble_eq_true rfl) rfl rfl (Nat.le_of_ble_eq_true rfl) ⟨Nat.le_trans (Nat.le_of_ble_eq_true rfl) hB.2.2.2.2.1, Nat.le_trans (Nat.le_of_ble_eq_true rfl) hB.2.2.2.2.2⟩ (fun r2 h3 q4 => z_fun q4 ?_)
    refine z_icmp_lt hC (off := 13) 25 (by decide +kernel) (by decide) (fun c5 => ?_) (fun c5 => ?_)
    · skip
      have E := (if_pos c5).symm.trans E
      refine z_go hC (pc' := 30) (ls' := [some (.ref 0), some (.int x)]) (st' := [.int x, .ref 10]) (h' := h) (cs := []) [.aload_n 0, .getfield 37, .iload_n 1] (by decide +kernel) rfl rfl trivial ?_
      refine z_callV hC hN hR (as := [.int x]) (rest := []) ok_X7_180 (by decide +kernel) (sp_X6_cellOf l _ h x) rfl rfl (Nat.le_of_ble_eq_true rfl) rfl rfl (Nat.le_of_ble_eq_true rfl) ⟨Nat.le_trans (Nat.le_of_ble_eq_true rfl) hB.2.2.2.2.1, Nat.le_trans (Nat.le_of_ble_eq_true rfl) hB.2.2.2.2.2⟩ (fun r6 h7 q8 => z_fun q8 ?_)
      exact z_retx_i hB rfl ⟨Nat.le_of_ble_eq_true rfl, Nat.le_of_ble_eq_true rfl⟩ (by decide +kernel) ⟨_, rfl, E.symm⟩
    · skip
      have E := (if_neg c5).symm.trans E
      refine z_less (ls' := [none, none]) (by simp [z_sub]) ?_
      exact P15   trivial E

def fn_X7_isSafe (x : Int32) (h : z_H) : z_RX := z_bd (fn_X7_checkDirection x h) (z_bd (fn_X7_checkLivingWorm  h) (.ok (some (.int (z_vi (fn_X5_seesSafe x h))), (fn_X5_seesSafe x h).2)))
def tk_X7_isSafe (x : Int32) (h : z_H) : Prop := ∀ rx : z_R, fn_X7_checkDirection x h = .ok rx → (∀ rx : z_R, fn_X7_checkLivingWorm  h = .ok rx → (tk_X5_seesSafe x h))
set_option maxHeartbeats 4000000 in
set_option maxRecDepth 100000 in
theorem sp_X7_isSafe (l : Launch) (hl0 : l.stackTraces = false) (ext : z_Sh) (h : z_H) (x : Int32) (T : tk_X7_isSafe x h) : z_Spx l 7 yX7_isSafe (.code yX7_isSafe cX7_isSafe 2 (some .boolean)) 2 12 [.ref 0, .int x] (z_c ext) h (z_PXB (fn_X7_isSafe x h)) (z_XX [z_EI, z_ES] (fn_X7_isSafe x h)) := by
  refine z_enterx ft_X7 (by decide +kernel) fo_X7 (Nat.le_of_ble_eq_true rfl) ?_
  intro p e R s m args below meth c D dA ad hB
  have hC := hB.1.1
  have hN := hB.1.2.1
  have hR := hB.1.2.2.1
  have hZ := hB.2.1
  have hKin := hB.2.2.1
  unfold tk_X7_isSafe at T
  have E : (z_bd (fn_X7_checkDirection x h) (z_bd (fn_X7_checkLivingWorm  h) (.ok (some (.int (z_vi (fn_X5_seesSafe x h))), (fn_X5_seesSafe x h).2)))) = (fn_X7_isSafe x h) := rfl
  generalize (fn_X7_isSafe x h) = RR at E ⊢
  refine z_go hC (pc' := 1) (ls' := [some (.ref 0), some (.int x)]) (st' := [.int x]) (h' := h) (cs := []) [.iload_n 1] (by decide +kernel) rfl rfl trivial ?_
  refine z_callSx hC hN hR hZ hKin (as := [.int x]) (rest := []) ok_X7_155 (by decide +kernel) (sp_X7_checkDirection l hl0 _ h x) (Nat.le_of_ble_eq_true rfl) rfl rfl (Nat.le_of_ble_eq_true rfl) ⟨Nat.le_trans (Nat.le_of_ble_eq_true rfl) hB.2.2.2.2.1, Nat.le_trans (Nat.le_of_ble_eq_true rfl) hB.2.2.2.2.2⟩ (fun Ex qx => z_out hB rfl ⟨Nat.le_of_ble_eq_true rfl, Nat.le_of_ble_eq_true rfl⟩ ⟨((z_bd_er qx.1).symm.trans E).symm, z_msub (by decide) qx.2⟩) (fun rv hh q1 => z_fun ⟨q1.1, q1.2.1⟩ ?_)
  have E := (z_bd_ok q1.2.2).symm.trans E
  have T := T _ q1.2.2
  refine z_go hC (pc' := 5) (ls' := [some (.ref 0), some (.int x)]) (st' := [.ref 0]) (h' := h) (cs := []) [.aload_n 0] (by decide +kernel) rfl rfl trivial ?_
  refine z_callVx hC hN hR hZ hKin (as := []) (rest := []) ok_X7_158 (by decide +kernel) (sp_X7_checkLivingWorm l hl0 _ h ) rfl rfl (Nat.le_of_ble_eq_true rfl) rfl rfl (Nat.le_of_ble_eq_true rfl) ⟨Nat.le_trans (Nat.le_of_ble_eq_true rfl) hB.2.2.2.2.1, Nat.le_trans (Nat.le_of_ble_eq_true rfl) hB.2.2.2.2.2⟩ (fun Ex qx => z_out hB rfl ⟨Nat.le_of_ble_eq_true rfl, Nat.le_of_ble_eq_true rfl⟩ ⟨((z_bd_er qx.1).symm.trans E).symm, z_msub (by decide) qx.2⟩) (fun rv hh q2 => z_fun ⟨q2.1, q2.2.1⟩ ?_)
  have E := (z_bd_ok q2.2.2).symm.trans E
  have T := T _ q2.2.2
  refine z_go hC (pc' := 13) (ls' := [some (.ref 0), some (.int x)]) (st' := [.int x, .ref 13]) (h' := h) (cs := []) [.aload_n 0, .getfield 46, .iload_n 1] (by decide +kernel) rfl rfl trivial ?_
  have t6 := T
  refine z_callV hC hN hR (as := [.int x]) (rest := []) ok_X7_186 (by decide +kernel) (sp_X5_seesSafe l _ h x t6) rfl rfl (Nat.le_of_ble_eq_true rfl) rfl rfl (Nat.le_of_ble_eq_true rfl) ⟨Nat.le_trans (Nat.le_of_ble_eq_true rfl) hB.2.2.2.2.1, Nat.le_trans (Nat.le_of_ble_eq_true rfl) hB.2.2.2.2.2⟩ (fun r3 h4 q5 => z_funb q5 (fun z7 => ?_))
  exact z_retx_z hB rfl z7 ⟨Nat.le_of_ble_eq_true rfl, Nat.le_of_ble_eq_true rfl⟩ (by decide +kernel) ⟨_, rfl, E.symm, z7⟩

def fn_X7_livesFor_11 (h : z_H)   : z_RX := .error z_EA
def tk_X7_livesFor_11 (h : z_H)   : Prop := True
def fn_X7_livesFor (x : Int32) (h : z_H) : z_RX := if x < (nI 1) then fn_X7_livesFor_11 h  else if x ≤ (nI 6) then z_bd (fn_X7_checkLivingWorm  h) (.ok (some (.int (z_vi (fn_X4_longestWalk x h))), (fn_X4_longestWalk x h).2)) else fn_X7_livesFor_11 h 
def tk_X7_livesFor (x : Int32) (h : z_H) : Prop := ((x < (nI 1)) → (True)) ∧ ((¬ x < (nI 1)) → (((x ≤ (nI 6)) → (∀ rx : z_R, fn_X7_checkLivingWorm  h = .ok rx → (tk_X4_longestWalk x h))) ∧ ((¬ x ≤ (nI 6)) → (True))))
set_option maxHeartbeats 4000000 in
set_option maxRecDepth 100000 in
theorem sp_X7_livesFor (l : Launch) (hl0 : l.stackTraces = false) (ext : z_Sh) (h : z_H) (x : Int32) (T : tk_X7_livesFor x h) : z_Spx l 12 yX7_livesFor (.code yX7_livesFor cX7_livesFor 2 (some .int)) 1 6 [.ref 0, .int x] (z_c ext) h (z_PXI (fn_X7_livesFor x h)) (z_XX [z_EA, z_ES] (fn_X7_livesFor x h)) := by
  refine z_enterx ft_X7 (by decide +kernel) fo_X7 (Nat.le_of_ble_eq_true rfl) ?_
  intro p e R s m args below meth c D dA ad hB
  have hC := hB.1.1
  have hN := hB.1.2.1
  have hR := hB.1.2.2.1
  have hZ := hB.2.1
  have hKin := hB.2.2.1
  unfold tk_X7_livesFor at T
  have E : (if x < (nI 1) then fn_X7_livesFor_11 h  else if x ≤ (nI 6) then z_bd (fn_X7_checkLivingWorm  h) (.ok (some (.int (z_vi (fn_X4_longestWalk x h))), (fn_X4_longestWalk x h).2)) else fn_X7_livesFor_11 h ) = (fn_X7_livesFor x h) := rfl
  generalize (fn_X7_livesFor x h) = RR at E ⊢
  have P11 : tk_X7_livesFor_11 h   → fn_X7_livesFor_11 h   = RR → z_GX p l e R s m args below meth c D dA ad 2 (z_PXI RR) (z_XX [z_EA, z_ES] RR) h 1 6 (z_c ext) 0 0 11 [none, none] [] h := by
    intro   T E
    unfold tk_X7_livesFor_11 at T; unfold fn_X7_livesFor_11 at E
    exact z_throw hB hl0 rfl okT_X7_93_167 (Nat.le_of_ble_eq_true rfl) ⟨Nat.le_of_ble_eq_true rfl, Nat.le_of_ble_eq_true rfl⟩ (by decide +kernel) (by decide +kernel) (by decide +kernel) (by decide +kernel) (by decide +kernel) ⟨E.symm, by decide⟩
  refine z_go hC (pc' := 2) (ls' := [some (.ref 0), some (.int x)]) (st' := [.int (nI 1), .int x]) (h' := h) (cs := []) [.iload_n 1, .iconst 1] (by decide +kernel) rfl rfl trivial ?_
  refine z_icmp_lt hC (off := 9) 11 (by decide +kernel) (by decide) (fun c1 => ?_) (fun c1 => ?_)
  · skip
    have E := (if_pos c1).symm.trans E
    have T := T.1 c1
    refine z_less (ls' := [none, none]) (by simp [z_sub]) ?_
    exact P11   trivial E
  · skip
    have E := (if_neg c1).symm.trans E
    have T := T.2 c1
    refine z_go hC (pc' := 8) (ls' := [some (.ref 0), some (.int x)]) (st' := [.int (nI 6), .int x]) (h' := h) (cs := []) [.iload_n 1, .bipush 6] (by decide +kernel) rfl rfl trivial ?_
    refine z_icmp_le hC (off := 13) 21 (by decide +kernel) (by decide) (fun c2 => ?_) (fun c2 => ?_)
    · skip
      have E := (if_pos c2).symm.trans E
      have T := T.1 c2
      refine z_go hC (pc' := 22) (ls' := [some (.ref 0), some (.int x)]) (st' := [.ref 0]) (h' := h) (cs := []) [.aload_n 0] (by decide +kernel) rfl rfl trivial ?_
      refine z_callVx hC hN hR hZ hKin (as := []) (rest := []) ok_X7_158 (by decide +kernel) (sp_X7_checkLivingWorm l hl0 _ h ) rfl rfl (Nat.le_of_ble_eq_true rfl) rfl rfl (Nat.le_of_ble_eq_true rfl) ⟨Nat.le_trans (Nat.le_of_ble_eq_true rfl) hB.2.2.2.2.1, Nat.le_trans (Nat.le_of_ble_eq_true rfl) hB.2.2.2.2.2⟩ (fun Ex qx => z_out hB rfl ⟨Nat.le_of_ble_eq_true rfl, Nat.le_of_ble_eq_true rfl⟩ ⟨((z_bd_er qx.1).symm.trans E).symm, z_msub (by decide) qx.2⟩) (fun rv hh q3 => z_fun ⟨q3.1, q3.2.1⟩ ?_)
      have E := (z_bd_ok q3.2.2).symm.trans E
      have T := T _ q3.2.2
      refine z_go hC (pc' := 30) (ls' := [some (.ref 0), some (.int x)]) (st' := [.int x, .ref 14]) (h' := h) (cs := []) [.aload_n 0, .getfield 55, .iload_n 1] (by decide +kernel) rfl rfl trivial ?_
      have t7 := T
      refine z_callV hC hN hR (as := [.int x]) (rest := []) ok_X7_192 (by decide +kernel) (sp_X4_longestWalk l _ h x t7) rfl rfl (Nat.le_of_ble_eq_true rfl) rfl rfl (Nat.le_of_ble_eq_true rfl) ⟨Nat.le_trans (Nat.le_of_ble_eq_true rfl) hB.2.2.2.2.1, Nat.le_trans (Nat.le_of_ble_eq_true rfl) hB.2.2.2.2.2⟩ (fun r4 h5 q6 => z_fun q6 ?_)
      exact z_retx_i hB rfl ⟨Nat.le_of_ble_eq_true rfl, Nat.le_of_ble_eq_true rfl⟩ (by decide +kernel) ⟨_, rfl, E.symm⟩
    · skip
      have E := (if_neg c2).symm.trans E
      have T := T.2 c2
      refine z_less (ls' := [none, none]) (by simp [z_sub]) ?_
      exact P11   trivial E

def fn_X7_fewest  (h : z_H) : z_RX := z_bd (fn_X7_checkLivingWorm  h) (.ok (some (.int (z_vi (fn_X4_fewestByDepths  h))), (fn_X4_fewestByDepths  h).2))
def tk_X7_fewest  (h : z_H) : Prop := ∀ rx : z_R, fn_X7_checkLivingWorm  h = .ok rx → (tk_X4_fewestByDepths  h)
set_option maxHeartbeats 4000000 in
set_option maxRecDepth 100000 in
theorem sp_X7_fewest (l : Launch) (hl0 : l.stackTraces = false) (ext : z_Sh) (h : z_H)  (T : tk_X7_fewest  h) : z_Spx l 12 yX7_fewest (.code yX7_fewest cX7_fewest 1 (some .int)) 1 6 [.ref 0] (z_c ext) h (z_PXI (fn_X7_fewest  h)) (z_XX [z_ES] (fn_X7_fewest  h)) := by
  refine z_enterx ft_X7 (by decide +kernel) fo_X7 (Nat.le_of_ble_eq_true rfl) ?_
  intro p e R s m args below meth c D dA ad hB
  have hC := hB.1.1
  have hN := hB.1.2.1
  have hR := hB.1.2.2.1
  have hZ := hB.2.1
  have hKin := hB.2.2.1
  unfold tk_X7_fewest at T
  have E : (z_bd (fn_X7_checkLivingWorm  h) (.ok (some (.int (z_vi (fn_X4_fewestByDepths  h))), (fn_X4_fewestByDepths  h).2))) = (fn_X7_fewest  h) := rfl
  generalize (fn_X7_fewest  h) = RR at E ⊢
  refine z_go hC (pc' := 1) (ls' := [some (.ref 0)]) (st' := [.ref 0]) (h' := h) (cs := []) [.aload_n 0] (by decide +kernel) rfl rfl trivial ?_
  refine z_callVx hC hN hR hZ hKin (as := []) (rest := []) ok_X7_158 (by decide +kernel) (sp_X7_checkLivingWorm l hl0 _ h ) rfl rfl (Nat.le_of_ble_eq_true rfl) rfl rfl (Nat.le_of_ble_eq_true rfl) ⟨Nat.le_trans (Nat.le_of_ble_eq_true rfl) hB.2.2.2.2.1, Nat.le_trans (Nat.le_of_ble_eq_true rfl) hB.2.2.2.2.2⟩ (fun Ex qx => z_out hB rfl ⟨Nat.le_of_ble_eq_true rfl, Nat.le_of_ble_eq_true rfl⟩ ⟨((z_bd_er qx.1).symm.trans E).symm, z_msub (by decide) qx.2⟩) (fun rv hh q1 => z_fun ⟨q1.1, q1.2.1⟩ ?_)
  have E := (z_bd_ok q1.2.2).symm.trans E
  have T := T _ q1.2.2
  refine z_go hC (pc' := 8) (ls' := [some (.ref 0)]) (st' := [.ref 14]) (h' := h) (cs := []) [.aload_n 0, .getfield 55] (by decide +kernel) rfl rfl trivial ?_
  have t5 := T
  refine z_callV hC hN hR (as := []) (rest := []) ok_X7_195 (by decide +kernel) (sp_X4_fewestByDepths l _ h  t5) rfl rfl (Nat.le_of_ble_eq_true rfl) rfl rfl (Nat.le_of_ble_eq_true rfl) ⟨Nat.le_trans (Nat.le_of_ble_eq_true rfl) hB.2.2.2.2.1, Nat.le_trans (Nat.le_of_ble_eq_true rfl) hB.2.2.2.2.2⟩ (fun r2 h3 q4 => z_fun q4 ?_)
  exact z_retx_i hB rfl ⟨Nat.le_of_ble_eq_true rfl, Nat.le_of_ble_eq_true rfl⟩ (by decide +kernel) ⟨_, rfl, E.symm⟩

def fn_X7_fewestByBodies  (h : z_H) : z_RX := z_bd (fn_X7_checkLivingWorm  h) (.ok (some (.int (z_vi (fn_X4_fewestByLevels  h))), (fn_X4_fewestByLevels  h).2))
def tk_X7_fewestByBodies  (h : z_H) : Prop := ∀ rx : z_R, fn_X7_checkLivingWorm  h = .ok rx → (tk_X4_fewestByLevels  h)
set_option maxHeartbeats 4000000 in
set_option maxRecDepth 100000 in
theorem sp_X7_fewestByBodies (l : Launch) (hl0 : l.stackTraces = false) (ext : z_Sh) (h : z_H)  (T : tk_X7_fewestByBodies  h) : z_Spx l 7 yX7_fewestByBodies (.code yX7_fewestByBodies cX7_fewestByBodies 1 (some .int)) 1 6 [.ref 0] (z_c ext) h (z_PXI (fn_X7_fewestByBodies  h)) (z_XX [z_ES] (fn_X7_fewestByBodies  h)) := by
  refine z_enterx ft_X7 (by decide +kernel) fo_X7 (Nat.le_of_ble_eq_true rfl) ?_
  intro p e R s m args below meth c D dA ad hB
  have hC := hB.1.1
  have hN := hB.1.2.1
  have hR := hB.1.2.2.1
  have hZ := hB.2.1
  have hKin := hB.2.2.1
  unfold tk_X7_fewestByBodies at T
  have E : (z_bd (fn_X7_checkLivingWorm  h) (.ok (some (.int (z_vi (fn_X4_fewestByLevels  h))), (fn_X4_fewestByLevels  h).2))) = (fn_X7_fewestByBodies  h) := rfl
  generalize (fn_X7_fewestByBodies  h) = RR at E ⊢
  refine z_go hC (pc' := 1) (ls' := [some (.ref 0)]) (st' := [.ref 0]) (h' := h) (cs := []) [.aload_n 0] (by decide +kernel) rfl rfl trivial ?_
  refine z_callVx hC hN hR hZ hKin (as := []) (rest := []) ok_X7_158 (by decide +kernel) (sp_X7_checkLivingWorm l hl0 _ h ) rfl rfl (Nat.le_of_ble_eq_true rfl) rfl rfl (Nat.le_of_ble_eq_true rfl) ⟨Nat.le_trans (Nat.le_of_ble_eq_true rfl) hB.2.2.2.2.1, Nat.le_trans (Nat.le_of_ble_eq_true rfl) hB.2.2.2.2.2⟩ (fun Ex qx => z_out hB rfl ⟨Nat.le_of_ble_eq_true rfl, Nat.le_of_ble_eq_true rfl⟩ ⟨((z_bd_er qx.1).symm.trans E).symm, z_msub (by decide) qx.2⟩) (fun rv hh q1 => z_fun ⟨q1.1, q1.2.1⟩ ?_)
  have E := (z_bd_ok q1.2.2).symm.trans E
  have T := T _ q1.2.2
  refine z_go hC (pc' := 8) (ls' := [some (.ref 0)]) (st' := [.ref 14]) (h' := h) (cs := []) [.aload_n 0, .getfield 55] (by decide +kernel) rfl rfl trivial ?_
  have t5 := T
  refine z_callV hC hN hR (as := []) (rest := []) ok_X7_198 (by decide +kernel) (sp_X4_fewestByLevels l _ h  t5) rfl rfl (Nat.le_of_ble_eq_true rfl) rfl rfl (Nat.le_of_ble_eq_true rfl) ⟨Nat.le_trans (Nat.le_of_ble_eq_true rfl) hB.2.2.2.2.1, Nat.le_trans (Nat.le_of_ble_eq_true rfl) hB.2.2.2.2.2⟩ (fun r2 h3 q4 => z_fun q4 ?_)
  exact z_retx_i hB rfl ⟨Nat.le_of_ble_eq_true rfl, Nat.le_of_ble_eq_true rfl⟩ (by decide +kernel) ⟨_, rfl, E.symm⟩
end
section
/-! ===== two objects of the class: the world seen from the other one ===== -/
def z_sg (i : Nat) : Nat := if i < 20 then i + 20 else if i < 40 then i - 20 else i
theorem z_sg2 (i : Nat) : z_sg (z_sg i) = i := by
  unfold z_sg
  split
  · rw [if_neg (by omega), if_pos (by omega)]; omega
  · split
    · rw [if_pos (by omega)]; omega
    · rfl
def z_sv : Value → Value
  | .ref i => .ref (z_sg i)
  | v => v
def z_sw (h : z_H) : z_H := (fun a => h.1 (z_sg a), fun a => h.2 (z_sg a))
theorem z_sw2 (h : z_H) : z_sw (z_sw h) = h := by
  unfold z_sw
  simp only [z_sg2]
theorem z_ad2 (ad : Nat → Nat) : (ad ∘ z_sg) ∘ z_sg = ad := by
  funext i
  show ad (z_sg (z_sg i)) = ad i
  rw [z_sg2]
theorem z_con_sv (ad : Nat → Nat) (v : Value) : z_con (ad ∘ z_sg) (z_sv v) = z_con ad v := by
  cases v with
  | ref i => show Value.ref (ad (z_sg (z_sg i))) = .ref (ad i); rw [z_sg2]
  | _ => rfl
theorem z_map_sv (ad : Nat → Nat) : ∀ (st : List Value), (st.map z_sv).map (z_con (ad ∘ z_sg)) = st.map (z_con ad)
  | [] => rfl
  | v :: r => by rw [List.map_cons, List.map_cons, List.map_cons, z_con_sv, z_map_sv ad r]
theorem z_al_sv (ad : Nat → Nat) : ∀ (ls : List (Option Value)) (i : Nat), z_al (ad ∘ z_sg) (ls.map (Option.map z_sv)) i = z_al ad ls i
  | [], _ => rfl
  | none :: r, i => z_al_sv ad r (i + 1)
  | some v :: r, i => by
    show (i, z_con (ad ∘ z_sg) (z_sv v)) :: z_al (ad ∘ z_sg) (r.map (Option.map z_sv)) (i + 1) = (i, z_con ad v) :: z_al ad r (i + 1)
    rw [z_con_sv, z_al_sv ad r (i + 1)]
def z_rk : Nat → Nat
  | r + 3 => z_sg r + 3
  | t => t
def z_rn (c : Nat × Nat × List Nat) : Nat × Nat × List Nat := (c.1, c.2.1, c.2.2.map z_rk)
theorem z_fs_rn (ad : Nat → Nat) (f : Nat → Int32) (g : Nat → Int64) : ∀ (ks : List Nat) (k : Nat), z_fs (ad ∘ z_sg) f g (ks.map z_rk) k = z_fs ad f g ks k
  | [], _ => rfl
  | t :: ts, k => by
    have h1 : z_fv (ad ∘ z_sg) f g k (z_rk t) = z_fv ad f g k t := by
      match t with
      | 0 => rfl
      | 1 => rfl
      | 2 => rfl
      | r + 3 => show Value.ref (ad (z_sg (z_sg r))) = .ref (ad r); rw [z_sg2]
    show z_fv (ad ∘ z_sg) f g k (z_rk t) :: z_fs (ad ∘ z_sg) f g (ts.map z_rk) (k + 1) = _
    rw [h1, z_fs_rn ad f g ts (k + 1)]
    rfl
theorem z_ce_rn (dA : Nat → ClassId) (ad : Nat → Nat) (c : Nat × Nat × List Nat) (f : Nat → Int32) (g : Nat → Int64) : z_ce dA (ad ∘ z_sg) (z_rn c) f g = z_ce dA ad c f g := by
  unfold z_ce z_rn
  simp only [z_fs_rn]
theorem z_d_rn : ∀ i, i < 40 → z_d[z_sg i]? = (z_d[i]?).map z_rn := by decide +kernel
theorem z_sg_lt {i : Nat} (h : i < 40) : z_sg i < 40 := by
  unfold z_sg
  split
  · omega
  · omega
theorem z_wl_sw (dA : Nat → ClassId) (ad : Nat → Nat) (h : z_H) (i : Nat) (hi : i < 40) : (z_wl dA (ad ∘ z_sg) (z_sw h) z_d 0)[z_sg i]? = (z_wl dA ad h z_d 0)[i]? := by
  rw [z_wl_at, z_wl_at, z_d_rn i hi]
  cases z_d[i]? with
  | none => rfl
  | some c =>
    simp only [Option.map_some, Function.comp, z_sw, z_sg2]
    rw [← z_ce_rn dA ad c]
theorem z_wl_sw' (dA : Nat → ClassId) (ad : Nat → Nat) (h : z_H) {k : Nat} {q : Nat × va_E} (hq : (z_wl dA (ad ∘ z_sg) (z_sw h) z_d 0)[k]? = some q) : k < 40 ∧ (z_wl dA ad h z_d 0)[z_sg k]? = some q := by
  have hk : k < 40 := (z_wl_mem hq).1
  refine ⟨hk, ?_⟩
  rw [← z_wl_sw dA ad h (z_sg k) (z_sg_lt hk), z_sg2]
  exact hq
theorem z_P_sw {D : va_G} {dA : Nat → ClassId} {ad : Nat → Nat} {h : z_H} {H : Heap} (hP : va_P D vwCl (z_wl dA ad h z_d 0) H) : va_P D vwCl (z_wl dA (ad ∘ z_sg) (z_sw h) z_d 0) H :=
  fun _ q hq => hP _ q (z_wl_sw' dA ad h hq).2
theorem z_D_sw {dA : Nat → ClassId} {ad : Nat → Nat} {h : z_H} {A : Nat → Prop} (hD : va_D A (z_wl dA ad h z_d 0)) : va_D A (z_wl dA (ad ∘ z_sg) (z_sw h) z_d 0) := by
  refine ⟨fun i j p q hp hq hpq => ?_, fun k q hq => hD.2 _ q (z_wl_sw' dA ad h hq).2⟩
  have := hD.1 _ _ p q (z_wl_sw' dA ad h hp).2 (z_wl_sw' dA ad h hq).2 hpq
  have h2 := congrArg z_sg this
  rw [z_sg2, z_sg2] at h2
  exact h2
section ZSW
variable {p : Program} {l : Launch} {e : Env} {R : Room} {s : State} {m : MethodId} {args : Array Value} {below : List Frame} {meth : Method} {c : Code} {D : va_G} {dA : Nat → ClassId} {A : Nat → Prop} {H0 : Heap} {nL : Nat} {ad : Nat → Nat} {Q : State → Prop} {own : String} {cc : ByteArray} {fl : z_Fl}
theorem z_swp {k n pc : Nat} {ls : List (Option Value)} {st : List Value} {h : z_H} (kk : z_Z p l e R s m args below meth c D dA A H0 nL (ad ∘ z_sg) Q k n pc (ls.map (Option.map z_sv)) (st.map z_sv) z_d (z_sw h)) : z_Z p l e R s m args below meth c D dA A H0 nL ad Q k n pc ls st z_d h := by
  intro H locs la hP hD hS hl
  have := kk H locs la (z_P_sw hP) (z_D_sw hD) hS ⟨by rw [List.length_map]; exact hl.1, by rw [z_al_sv]; exact hl.2⟩
  rw [z_map_sv] at this
  exact this
theorem z_sv2 (v : Value) : z_sv (z_sv v) = v := by
  cases v with
  | ref i => show Value.ref (z_sg (z_sg i)) = .ref i; rw [z_sg2]
  | _ => rfl
theorem z_msv2 : ∀ (st : List Value), (st.map z_sv).map z_sv = st
  | [] => rfl
  | v :: r => by rw [List.map_cons, List.map_cons, z_sv2, z_msv2 r]
theorem z_lsv2 : ∀ (ls : List (Option Value)), (ls.map (Option.map z_sv)).map (Option.map z_sv) = ls
  | [] => rfl
  | none :: r => by rw [List.map_cons, List.map_cons, z_lsv2 r]; rfl
  | some v :: r => by rw [List.map_cons, List.map_cons, z_lsv2 r]; show some (z_sv (z_sv v)) :: r = some v :: r; rw [z_sv2]
/-- and back -/
theorem z_swb {k n pc : Nat} {ls : List (Option Value)} {st : List Value} {h : z_H} (kk : z_Z p l e R s m args below meth c D dA A H0 nL ad Q k n pc ls (st.map z_sv) z_d (z_sw h)) : z_Z p l e R s m args below meth c D dA A H0 nL (ad ∘ z_sg) Q k n pc (ls.map (Option.map z_sv)) st z_d h := by
  refine z_swp ?_
  rw [z_ad2, z_lsv2]
  exact kk
set_option maxHeartbeats 1000000 in
/-- a call on the other object -/
theorem z_callVp {y : MethodName} {cc' : ByteArray} {maxL idx na d d' k n pc ci : Nat} {ks : List Nat} {T : u_T} {N : Nat} {ret : Option FieldType} {as rest : List Value} {ls : List (Option Value)} {st : List Value} {h : z_H} {Φ : Option Value → z_H → Prop} (hC : z_Cx p s m args c D dA A H0 own cc nL fl) (hN : z_Nt s) (hR : d ≤ R.frames ∧ 64 * d ≤ R.locals) (ok : z_okV own idx y cc' maxL ret na) (hdg : decode cc pc = .ok (.invokevirtual idx, 3)) (hM : z_Sp l d' y cc' maxL ret (.ref 0 :: as) z_d (z_sw h) Φ) (hs : z_nth z_d 0 = some (0, ci, ks)) (hcl : vwCl[ci]? = some (y.cls, T, N)) (hd : d' + 1 ≤ d) (hn : as.length = na) (has : as.map z_sv = as) (hst : st = as.reverse ++ .ref 20 :: rest) (hW : ((rest.map z_sv).map fun v => v.category).sum ≤ 8) (hk : k ≤ R.cells ∧ n ≤ R.slots)
    (kk : ∀ (rv : Option Value) (h' : z_H), Φ rv h' → z_Z p l e R s m args below meth c D dA A H0 nL ad Q k n (pc + 3) ls ((rv.map z_sv).toList ++ rest) z_d (z_sw h')) : z_Z p l e R s m args below meth c D dA A H0 nL ad Q k n pc ls st z_d h := by
  refine z_swp (z_callV (rest := rest.map z_sv) hC hN hR ok hdg hM hs hcl hd hn ?_ hW hk (fun rv h' q => z_swb ?_))
  · rw [hst, List.map_append, List.map_reverse, has]; rfl
  · have := kk rv h' q
    rw [List.map_append, z_msv2]
    have e : (rv.toList).map z_sv = (rv.map z_sv).toList := by cases rv <;> rfl
    rw [e]
    exact this
theorem z_funp {k n pc : Nat} {ls : List (Option Value)} {rest : List Value} {h' g : z_H} {rv : Option Value} {x : Int32} (hq : rv = some (.int x) ∧ h' = z_sw g) (kk : z_Z p l e R s m args below meth c D dA A H0 nL ad Q k n pc ls (.int x :: rest) z_d g) : z_Z p l e R s m args below meth c D dA A H0 nL ad Q k n pc ls ((rv.map z_sv).toList ++ rest) z_d (z_sw h') := by
  rw [hq.1, hq.2, z_sw2]
  exact kk
theorem z_funbp {k n pc : Nat} {ls : List (Option Value)} {rest : List Value} {h' g : z_H} {rv : Option Value} {x : Int32} {zb : Prop} (hq : rv = some (.int x) ∧ h' = z_sw g ∧ zb) (kk : zb → z_Z p l e R s m args below meth c D dA A H0 nL ad Q k n pc ls (.int x :: rest) z_d g) : z_Z p l e R s m args below meth c D dA A H0 nL ad Q k n pc ls ((rv.map z_sv).toList ++ rest) z_d (z_sw h') := by
  rw [hq.1, hq.2.1, z_sw2]
  exact kk hq.2.2
set_option maxHeartbeats 1000000 in
/-- a static call with the other object in place of the first -/
theorem z_callSxp {y : MethodName} {cc' : ByteArray} {maxL idx na d d' mc' ms' k n pc : Nat} {ret : Option FieldType} {as rest : List Value} {ls : List (Option Value)} {st : List Value} {h : z_H} {Φ' : Option Value → z_H → Prop} (hC : z_Cx p s m args c D dA A s.heap own cc nL fl) (hN : z_Nt s) (hR : d ≤ R.frames ∧ 64 * d ≤ R.locals) (hZ : z_Zz A s) (hKin : z_Kin s) (ok : z_okS own idx y cc' maxL ret na) (hdg : decode cc pc = .ok (.invokestatic idx, 3)) (hM : z_Spx l d' y (.code y cc' maxL ret) mc' ms' (as.map z_sv) z_d (z_sw h) Φ' (fun _ => False)) (hd : d' + 1 ≤ d) (hn : as.length = na) (hst : st = as.reverse ++ rest) (hW : ((rest.map z_sv).map fun v => v.category).sum ≤ 8) (hk : k + mc' ≤ R.cells ∧ n + ms' ≤ R.slots)
    (kk : ∀ (rv : Option Value) (h' : z_H), Φ' rv h' → z_Z p l e R s m args below meth c D dA A s.heap nL ad Q (k + mc') (n + ms') (pc + 3) ls ((rv.map z_sv).toList ++ rest) z_d (z_sw h')) : z_Z p l e R s m args below meth c D dA A s.heap nL ad Q k n pc ls st z_d h := by
  refine z_swp (z_callSx (rest := rest.map z_sv) hC hN hR hZ hKin ok hdg hM hd ((List.length_map _).trans hn) ?_ hW hk (fun E q => q.elim) (fun rv h' q => z_swb ?_))
  · rw [hst, List.map_append, List.map_reverse]
  · have := kk rv h' q
    rw [List.map_append, z_msv2]
    have e : (rv.toList).map z_sv = (rv.map z_sv).toList := by cases rv <;> rfl
    rw [e]
    exact this
theorem z_funi {k n pc : Nat} {ls : List (Option Value)} {rest : List Value} {h' g : z_H} {rv : Option Value} {x : Int32} (hq : rv = some (.int x) ∧ h' = g) (kk : z_Z p l e R s m args below meth c D dA A H0 nL ad Q k n pc ls (.int x :: rest) z_d (z_sw g)) : z_Z p l e R s m args below meth c D dA A H0 nL ad Q k n pc ls ((rv.map z_sv).toList ++ rest) z_d (z_sw h') := by
  rw [hq.1, hq.2]
  exact kk
end ZSW
end
section
/-! THE CLAIM OUT OF ONE WALK OF THE LAW'S BODY. Your part is whole_start (and what it stands on); all else here is the same for every law, but numbers. -/
def R_law : String := "CoilwormLaw"
def lw_P (b : Addr) (xs : List Int32) (args : Array Value) (s : State) : Prop := args = #[.ref b] ∧ s.IntsAt b xs ∧ xs.length ≤ 260 ∧ (Jvm.Cond.and given_1 narrow_1).before args s = true
def lw_Q (_ : Array Value) (s : State) (o : Outcome) (t : State) : Prop := o = .returned (some (.int 1)) ∧ Framed s o t [] 600172 7300668
def lw_Z (below : List Frame) (a : Array Value) (s : State) : State → Prop := fun t => ∃ o, t.status = .running ∧ Ended t below o ∧ lw_Q a s o t
/-- the law's own end, with 1 on the stack, nothing written that was there before, its room as the claim has it -/
theorem lw_ret {p : Program} {l : Launch} {e : Env} {s : State} {m : MethodId} {below : List Frame} {meth : Method} {c : Code} {b : Nat} (hx : p.tables.exec = Jvm.exec) (hb : c.code = code) (hr : meth.sig.returnType = ret) (hlocks : meth.locks = false) {pc : Nat} {H : Heap} {ls : Array Slot} (hdg : decode code pc = .ok (.ireturn, 1)) : W p l e room_1 s m #[Value.ref b] below meth c H [] 600172 7300668 (lw_Z below #[Value.ref b] s) (F0 m pc ls [.int 1]) := by
  intro T hT X
  obtain ⟨fs, hret, hrun, hended, hW, hframe⟩ := X.leave (v := some (.int 1)) (hlocks := hlocks) (fun h => by rw [hr] at h; cases h)
  have hmeth' : T.vm.method? m = some meth := X.method'
  refine ⟨T.setFrames fs, ?_, .returned (some (.int 1)), hrun, hended, rfl, ⟨_, rfl⟩, hW, hframe⟩
  jvm_step X.here [X.here.top, hx, hb, hdg, hmeth', hr, ret, narrow_b1]
  (try refine ⟨rfl, ?_⟩); (try refine ⟨rfl, ?_⟩)
  first | (intro acts; rw [hret _ acts rfl rfl rfl]) | rw [hret _ _ rfl rfl rfl]
  exact Steps.refl _
/-- what holds at the law's entry: the machine, the code, the tables' words (any of lw_tbl by 'hts w (by decide +kernel)'), the script of L ints xs at the cell b, what the Statement gives of the start (any of its parts by flat_of_before) -/
def lw_At (p : Program) (s : State) (m : MethodId) (meth : Method) (c : Code) (b L : Nat) (xs : Nat → Int32) : Prop :=
  p.tables.exec = Jvm.exec ∧ c.code = code ∧ meth.sig.returnType = ret ∧ c.maxLocals = 8 ∧ s.vm.findClass R_law = some m.cls ∧ (∀ w ∈ lw_tbl, w.before #[Value.ref b] s = true) ∧ va_X b L xs s s.heap ∧ b < s.heap.size ∧ meth.locks = false ∧ (Jvm.Cond.and given_1 narrow_1).before #[Value.ref b] s = true
/-! ===== rows of the law's body ===== -/
section ZL
variable {p : Program} {l : Launch} {e : Env} {R : Room} {s : State} {m : MethodId} {args : Array Value} {below : List Frame} {meth : Method} {c : Code} {D : va_G} {dA : Nat → ClassId} {A : Nat → Prop} {H0 : Heap} {nL : Nat} {ad : Nat → Nat} {Q : State → Prop} {own : String} {cc : ByteArray} {fl : z_Fl}
theorem z_widen {k n k' n' pc : Nat} {ls : List (Option Value)} {st : List Value} {sh : z_Sh} {h : z_H} (h1 : k ≤ k') (h2 : n ≤ n') (kk : z_Z p l e R s m args below meth c D dA A H0 nL ad Q k' n' pc ls st sh h) : z_Z p l e R s m args below meth c D dA A H0 nL ad Q k n pc ls st sh h := fun H locs la hP hD hS hl => W.widen h1 h2 (kk H locs la hP hD hS hl)
theorem z_sld {k n pc o b L : Nat} {xs : Nat → Int32} {i : Int32} {ls : List (Option Value)} {st : List Value} {sh : z_Sh} {h : z_H} (hC : z_Cx p s m args c D dA A H0 own cc nL fl) (hX : va_X b L xs s H0) (hbl : b < H0.size) (hbA : ¬ A b) (had : ad o = b) (hd : decode cc pc = .ok (.iaload, 1)) (hin : vp_in i L) (kk : z_Z p l e R s m args below meth c D dA A H0 nL ad Q k n (pc + 1) ls (.int (xs i.toNatClampNeg) :: st) sh h) : z_Z p l e R s m args below meth c D dA A H0 nL ad Q k n pc ls (.int i :: .ref o :: st) sh h := by
  subst had
  exact fun H locs la hP hD hS hl => va_sld hC.1 hC.2.1 hX hbl hbA hS hin hd (kk H locs la hP hD hS hl)
theorem z_sle {k n pc o b L : Nat} {xs : Nat → Int32} {ls : List (Option Value)} {st : List Value} {sh : z_Sh} {h : z_H} (hC : z_Cx p s m args c D dA A H0 own cc nL fl) (hX : va_X b L xs s H0) (hbl : b < H0.size) (hbA : ¬ A b) (had : ad o = b) (hd : decode cc pc = .ok (.arraylength, 1)) (kk : z_Z p l e R s m args below meth c D dA A H0 nL ad Q k n (pc + 1) ls (.int (nI L) :: st) sh h) : z_Z p l e R s m args below meth c D dA A H0 nL ad Q k n pc ls (.ref o :: st) sh h := by
  subst had
  exact fun H locs la hP hD hS hl => va_slen hC.1 hC.2.1 hX hbl hbA hS hd (kk H locs la hP hD hS hl)
end ZL
theorem z_tabN {x : Int32} {n : Nat} (h : ∀ a, a < n + 1 → ¬ x = nI a) (hn : n < 2 ^ 30 := by decide) : x.toInt < 0 ∨ (n : Int) < x.toInt := by
  by_cases h0 : x.toInt < 0
  · exact Or.inl h0
  · refine Or.inr ?_
    by_cases h1 : (n : Int) < x.toInt
    · exact h1
    · exfalso
      refine h x.toInt.toNat (by omega) ?_
      rw [← Int32.toInt_inj, nI_toInt (by omega)]
      omega
theorem z_lawret {p : Program} {l : Launch} {e : Env} {s : State} {m : MethodId} {below : List Frame} {meth : Method} {c : Code} {D : va_G} {dA : Nat → ClassId} {ad : Nat → Nat} {b pc nL : Nat} {own : String} {fl : z_Fl} {ls : List (Option Value)} {sh : z_Sh} {h : z_H} (hC : z_Cx p s m #[Value.ref b] c D dA (fun q => s.heap.size ≤ q) s.heap own code nL fl) (hret : meth.sig.returnType = ret) (hlk : meth.locks = false) (hd : decode code pc = .ok (.ireturn, 1)) : z_Z p l e room_1 s m #[Value.ref b] below meth c D dA (fun q => s.heap.size ≤ q) s.heap nL ad (lw_Z below #[Value.ref b] s) 600172 7300668 pc ls [.int (nI 1)] sh h :=
  fun _ _ _ _ _ hS _ => va_forget hS.2.2 (lw_ret hC.1 hC.2.1 hret hlk hd)
theorem z_lawretv {p : Program} {l : Launch} {e : Env} {s : State} {m : MethodId} {below : List Frame} {meth : Method} {c : Code} {D : va_G} {dA : Nat → ClassId} {ad : Nat → Nat} {b pc nL : Nat} {own : String} {fl : z_Fl} {ls : List (Option Value)} {sh : z_Sh} {h : z_H} {v : Int32} (hC : z_Cx p s m #[Value.ref b] c D dA (fun q => s.heap.size ≤ q) s.heap own code nL fl) (hret : meth.sig.returnType = ret) (hlk : meth.locks = false) (hd : decode code pc = .ok (.ireturn, 1)) (hv : v = 1) : z_Z p l e room_1 s m #[Value.ref b] below meth c D dA (fun q => s.heap.size ≤ q) s.heap nL ad (lw_Z below #[Value.ref b] s) 600172 7300668 pc ls [.int v] sh h := by
  subst hv
  exact z_lawret hC hret hlk hd
/-! the script's cell, or what stands for it -/
def p_cell (L : Nat) (xs : Nat → Int32) (i : Int32) : Int32 := if nI L ≤ i then (nI 7919 * (i + nI 1373)) * (i + nI 509) else xs i.toNatClampNeg
def z_Pcs (D : va_G) (dA : Nat → ClassId) (ad : Nat → Nat) (sz : Nat) (as : List Value) (sh : z_Sh) (h : z_H) (o L : Nat) (xs : Nat → Int32) : Array Value → State → Prop := fun v U => z_Pc D dA ad sz as sh h v U ∧ va_X (ad o) L xs U U.heap ∧ ad o < U.heap.size ∧ ∀ i, i < sh.length → ad i ≠ ad o
theorem z_Pcs_blind {D : va_G} {dA : Nat → ClassId} {ad : Nat → Nat} {sz : Nat} {as : List Value} {sh : z_Sh} {h : z_H} {o L : Nat} {xs : Nat → Int32} : FrameBlind (z_Pcs D dA ad sz as sh h o L xs) := fun a U g mk q =>
  ⟨z_Pc_blind a U g mk q.1, va_X.moved (u := U) (U := U.calling g mk a) (Vm.Alike.refl U.vm) q.2.1, q.2.2.1, q.2.2.2⟩
set_option maxHeartbeats 4000000 in
set_option maxRecDepth 100000 in
theorem sp_L_cell (l : Launch) (sh : z_Sh) (h : z_H) (o L : Nat) (xs : Nat → Int32) (i : Int32) (hL : L < 2 ^ 31) (hi : ¬ i < 0) (D : va_G) (dA : Nat → ClassId) (ad : Nat → Nat) (sz : Nat) : Met l yL_cell (.code yL_cell cL_cell 2 (some .int) :: z_big) { frames := 0, cells := 0, slots := 0, locals := 64 * 0 } (z_Pcs D dA ad sz [.ref o, .int i] sh h o L xs) (z_Q D dA ad sz sh (fun rv h' => rv = some (.int (p_cell L xs i)) ∧ h' = h)) 0 0 (z_A ad sh.length sz) := by
  refine va_MetF (cc := cL_cell) (maxL := 2) (ret := some .int) (by decide +kernel) rfl ?_
  intro p e s m args below meth c s₁ B hml hv
  obtain ⟨⟨rfl, hsz, hP, hK, hD0, hN⟩, hX, hbl, hne⟩ := hv
  subst hsz
  have hts := atoms_spec (ws := .code yL_cell cL_cell 2 (some .int) :: z_big) B.pre
  have hown : s.vm.findClass yL_cell.cls = some m.cls := findClass_of_methodNamed B.named
  rw [lg_entry_eq]
  have hl := lv_entry (([.ref o, .int i] : List Value).map (z_con ad)) (n := 2) (Nat.le_of_ble_eq_true rfl)
  have hbA : ¬ z_A ad sh.length s.heap.size (ad o) := by
    rintro (⟨j, hj, e⟩ | e)
    · exact hne j hj e.symm
    · omega
  have hC : z_Cx p s m _ c D dA (z_A ad sh.length s.heap.size) s.heap RL cL_cell 2 ft_L := ⟨B.exec, B.bytes, hml, hown, fun w hw => hts w (List.mem_cons_of_mem _ hw), hK, fun q hq => Or.inr hq, fo_L⟩
  have hB : z_B p (headSpec (.code yL_cell cL_cell 2 (some .int) :: z_big) { frames := 0, cells := 0, slots := 0, locals := 64 * 0 }).room s m _ meth c D dA (z_A ad sh.length s.heap.size) RL cL_cell 2 ft_L 0 (some .int) := ⟨hC, hN, ⟨Nat.le_refl _, Nat.le_refl _⟩, B.returns, B.notSynchronized⟩
  suffices hh : z_Z p l e (headSpec (.code yL_cell cL_cell 2 (some .int) :: z_big) { frames := 0, cells := 0, slots := 0, locals := 64 * 0 }).room s m ((([.ref o, .int i] : List Value).map (z_con ad)).toArray) below meth c D dA (z_A ad sh.length s.heap.size) s.heap 2 ad (MQ below (z_Q D dA ad s.heap.size sh (fun rv h' => rv = some (.int (p_cell L xs i)) ∧ h' = h)) ((([.ref o, .int i] : List Value).map (z_con ad)).toArray) s 0 0 (z_A ad sh.length s.heap.size)) 0 0 0 [some (.ref o), some (.int i)] [] sh h from
    hh s.heap [] _ hP (z_D_self hD0) va_S.rf ⟨rfl, hl⟩
  refine z_go hC (pc' := 2) (ls' := [some (.ref o), some (.int i)]) (st' := [.ref o, .int i]) (h' := h) (cs := []) [.iload_n 1, .aload_n 0] (by decide +kernel) rfl rfl trivial ?_
  refine z_sle hC hX hbl hbA rfl (by decide +kernel) ?_
  refine z_icmp_ge hC (off := 9) 12 (by decide +kernel) (by decide) (fun c1 => ?_) (fun c1 => ?_)
  · refine z_go hC (pc' := 27) (ls' := [some (.ref o), some (.int i)]) (st' := [.int ((nI 7919 * (i + nI 1373)) * (i + nI 509))]) (h' := h) (cs := [(Int16.ofInt (Int.ofNat 7919)).toInt32 = nI 7919, (Int16.ofInt (Int.ofNat 1373)).toInt32 = nI 1373, (Int16.ofInt (Int.ofNat 509)).toInt32 = nI 509]) [.sipush 7919, .iload_n 1, .sipush 1373, .iadd, .imul, .iload_n 1, .sipush 509, .iadd, .imul] (by decide +kernel) rfl rfl ⟨by decide, by decide, show (Int16.ofInt (Int.ofNat 509)).toInt32 = nI 509 from by decide⟩ ?_
    exact z_ret_i hB rfl (by decide +kernel) ⟨by rw [p_cell, if_pos c1], rfl⟩
  · refine z_go hC (pc' := 8) (ls' := [some (.ref o), some (.int i)]) (st' := [.int i, .ref o]) (h' := h) (cs := []) [.aload_n 0, .iload_n 1] (by decide +kernel) rfl rfl trivial ?_
    refine z_sld hC hX hbl hbA rfl (by decide +kernel) (z_inI hi c1 hL) ?_
    refine z_goto hC (off := 18) 27 (by decide +kernel) (by decide) ?_
    exact z_ret_i hB rfl (by decide +kernel) ⟨by rw [p_cell, if_neg c1], rfl⟩
set_option maxHeartbeats 1000000 in
theorem z_callcell {p : Program} {l : Launch} {e : Env} {R : Room} {s : State} {m : MethodId} {args : Array Value} {below : List Frame} {meth : Method} {c : Code} {D : va_G} {dA : Nat → ClassId} {A : Nat → Prop} {nL : Nat} {ad : Nat → Nat} {Q : State → Prop} {own : String} {cc : ByteArray} {fl : z_Fl} {k n pc idx d o b L : Nat} {xs : Nat → Int32} {i : Int32} {ls : List (Option Value)} {rest : List Value} {sh : z_Sh} {h : z_H} (hC : z_Cx p s m args c D dA A s.heap own cc nL fl) (hN : z_Nt s) (hR : d ≤ R.frames ∧ 64 * d ≤ R.locals) (ok : z_okS own idx yL_cell cL_cell 2 (some .int) 2) (hdg : decode cc pc = .ok (.invokestatic idx, 3)) (hX : va_X b L xs s s.heap) (hbl : b < s.heap.size) (hbA : ¬ A b) (had : ad o = b) (hL : L < 2 ^ 31) (hi : ¬ i < 0) (hd : 0 + 1 ≤ d) (hW : (rest.map fun v => v.category).sum ≤ 8) (hk : k ≤ R.cells ∧ n ≤ R.slots)
    (kk : z_Z p l e R s m args below meth c D dA A s.heap nL ad Q k n (pc + 3) ls (.int (p_cell L xs i) :: rest) sh h) : z_Z p l e R s m args below meth c D dA A s.heap nL ad Q k n pc ls (.int i :: .ref o :: rest) sh h := by
  subst had
  intro H locs la hP hD hS hl
  have hC' := hC
  obtain ⟨hx, hb, hml, hown, hts, hK, hA, hfl⟩ := hC
  obtain ⟨⟨o1, o2⟩, o3, o4, o5, o6⟩ := ok
  have run := va_runS (e := e) (s := s) (R := R) (below := below) (meth := meth) (H := H) (locs := locs) (cells := k) (slots := n) (rest := rest.map (z_con ad)) (As := ([.ref o, .int i] : List Value).map (z_con ad)) (g := F0 m pc la ((([.ref o, .int i] : List Value).reverse ++ rest).map (z_con ad))) ⟨hx, hb, hml, hown, hts⟩ (sp_L_cell l sh h o L xs i hL hi D dA ad H.size) ⟨callB_of 2 hts (z_good o4) rfl rfl rfl (hts _ o3) (hts _ o1) o5 (z_rooms hR hd o6), hts _ o2⟩ ⟨z_Pcs_blind, fun U hU hW => ⟨⟨rfl, by rw [hU], by rw [hU]; exact hP, va_K.moved hW.alike hK, hD.weaken (fun _ _ _ _ => trivial), z_Nt_warm hW hN⟩, by rw [hU]; exact (va_X.kept hX (hS.2.1 _ hbl hbA)).moved hW.alike, by rw [hU]; exact Nat.lt_of_lt_of_le hbl hS.1, fun j hj e => hbA (by rw [← e]; exact z_D_in hD hj)⟩⟩ rfl rfl hl.2.1 (by simp) (lv_room (by rw [z_cats]; exact hW)) hdg ⟨hk.1, hk.2⟩
  exact z_after run hA hD hS hl (fun rv h' q => by rw [q.1, q.2]; exact kk)
end
