/-! THE CLAIM OUT OF ONE WALK OF THE LAW'S BODY. Your part is whole_start (and what it stands on); all else here is the same for every law, but numbers. -/
def R_law : String := "CoilwormLaw"
def lw_P (b : Addr) (xs : List Int32) (args : Array Value) (s : State) : Prop := args = #[.ref b] ∧ s.IntsAt b xs ∧ xs.length ≤ 1536 ∧ (Jvm.Cond.and given_1 narrow_1).before args s = true
def lw_Q (_ : Array Value) (s : State) (o : Outcome) (t : State) : Prop := o = .returned (some (.int 1)) ∧ Framed s o t [] 601024 7293034
def lw_Z (below : List Frame) (a : Array Value) (s : State) : State → Prop := fun t => ∃ o, t.status = .running ∧ Ended t below o ∧ lw_Q a s o t
/-- the law's own end, with 1 on the stack, nothing written that was there before, its room as the claim has it -/
theorem lw_ret {p : Program} {l : Launch} {e : Env} {s : State} {m : MethodId} {below : List Frame} {meth : Method} {c : Code} {b : Nat} (hx : p.tables.exec = Jvm.exec) (hb : c.code = code) (hr : meth.sig.returnType = ret) (hlocks : meth.locks = false) {pc : Nat} {H : Heap} {ls : Array Slot} (hdg : decode code pc = .ok (.ireturn, 1)) : W p l e room_1 s m #[Value.ref b] below meth c H [] 601024 7293034 (lw_Z below #[Value.ref b] s) (F0 m pc ls [.int 1]) := by
  intro T hT X
  obtain ⟨fs, hret, hrun, hended, hW, hframe⟩ := X.leave (v := some (.int 1)) (hlocks := hlocks) (fun h => by rw [hr] at h; cases h)
  have hmeth' : T.vm.method? m = some meth := X.method'
  refine ⟨T.setFrames fs, ?_, .returned (some (.int 1)), hrun, hended, rfl, ⟨_, rfl⟩, hW, hframe⟩
  jvm_step X.here [X.here.top, hx, hb, hdg, hmeth', hr, ret, narrow_b1]
  (try refine ⟨rfl, ?_⟩); (try refine ⟨rfl, ?_⟩)
  first | (intro acts; rw [hret _ acts rfl rfl rfl]) | rw [hret _ _ rfl rfl rfl]
  exact Steps.refl _
/-- what holds at the law's entry: the machine, the code, the tables' words (any of lw_tbl by 'hts w (by decide +kernel)'), the script of L ints xs at the cell b, what the Statement gives of the start (any of its parts by flat_of_before) -/
def lw_At (p : Program) (s : State) (m : MethodId) (meth : Method) (c : Code) (b L : Nat) (xs : Nat → Int32) : Prop :=
  p.tables.exec = Jvm.exec ∧ c.code = code ∧ meth.sig.returnType = ret ∧ c.maxLocals = 7 ∧ s.vm.findClass R_law = some m.cls ∧ (∀ w ∈ lw_tbl, w.before #[Value.ref b] s = true) ∧ va_X b L xs s s.heap ∧ b < s.heap.size ∧ meth.locks = false ∧ (Jvm.Cond.and given_1 narrow_1).before #[Value.ref b] s = true
/-! ===== rows of the law's body ===== -/
section ZL
variable {p : Program} {l : Launch} {e : Env} {R : Room} {s : State} {m : MethodId} {args : Array Value} {below : List Frame} {meth : Method} {c : Code} {D : va_G} {dA : Nat → ClassId} {A : Nat → Prop} {H0 : Heap} {nL : Nat} {ad : Nat → Nat} {Q : State → Prop} {own : String} {cc : ByteArray} {fl : z_Fl}
theorem z_widen {k n k' n' pc : Nat} {ls : List (Option Value)} {st : List Value} {sh : z_Sh} {h : z_H} (h1 : k ≤ k') (h2 : n ≤ n') (kk : z_Z p l e R s m args below meth c D dA A H0 nL ad Q k' n' pc ls st sh h) : z_Z p l e R s m args below meth c D dA A H0 nL ad Q k n pc ls st sh h := fun H locs la hP hD hS hl => W.widen h1 h2 (kk H locs la hP hD hS hl)
theorem z_sld {k n pc o b L : Nat} {xs : Nat → Int32} {i : Int32} {ls : List (Option Value)} {st : List Value} {sh : z_Sh} {h : z_H} (hC : z_Cx p s m args c D dA A H0 own cc nL fl) (hX : va_X b L xs s H0) (hbl : b < H0.size) (hbA : ¬ A b) (had : ad o = b) (hd : decode cc pc = .ok (.iaload, 1)) (hin : vp_in i L) (kk : z_Z p l e R s m args below meth c D dA A H0 nL ad Q k n (pc + 1) ls (.int (xs i.toNatClampNeg) :: st) sh h) : z_Z p l e R s m args below meth c D dA A H0 nL ad Q k n pc ls (.int i :: .ref o :: st) sh h := by
  subst had
  exact fun H locs la hP hD hS hl => va_sld hC.1 hC.2.1 hX hbl hbA hS hin hd (kk H locs la hP hD hS hl)
theorem z_sle {k n pc o b L : Nat} {xs : Nat → Int32} {ls : List (Option Value)} {st : List Value} {sh : z_Sh} {h : z_H} (hC : z_Cx p s m args c D dA A H0 own cc nL fl) (hX : va_X b L xs s H0) (hbl : b < H0.size) (hbA : ¬ A b) (had : ad o = b) (hd : decode cc pc = .ok (.arraylength, 1)) (kk : z_Z p l e R s m args below meth c D dA A H0 nL ad Q k n (pc + 1) ls (.int (nI L) :: st) sh h) : z_Z p l e R s m args below meth c D dA A H0 nL ad Q k n pc ls (.ref o :: st) sh h := by
  subst had
  exact fun H locs la hP hD hS hl => va_slen hC.1 hC.2.1 hX hbl hbA hS hd (kk H locs la hP hD hS hl)
end ZL
theorem z_tabN {x : Int32} {n : Nat} (h : ∀ a, a < n + 1 → ¬ x = nI a) (hn : n < 2 ^ 30 := by decide) : x.toInt < 0 ∨ (n : Int) < x.toInt := by
  by_cases h0 : x.toInt < 0
  · exact Or.inl h0
  · refine Or.inr ?_
    by_cases h1 : (n : Int) < x.toInt
    · exact h1
    · exfalso
      refine h x.toInt.toNat (by omega) ?_
      rw [← Int32.toInt_inj, nI_toInt (by omega)]
      omega
theorem z_lawret {p : Program} {l : Launch} {e : Env} {s : State} {m : MethodId} {below : List Frame} {meth : Method} {c : Code} {D : va_G} {dA : Nat → ClassId} {ad : Nat → Nat} {b pc nL : Nat} {own : String} {fl : z_Fl} {ls : List (Option Value)} {sh : z_Sh} {h : z_H} (hC : z_Cx p s m #[Value.ref b] c D dA (fun q => s.heap.size ≤ q) s.heap own code nL fl) (hret : meth.sig.returnType = ret) (hlk : meth.locks = false) (hd : decode code pc = .ok (.ireturn, 1)) : z_Z p l e room_1 s m #[Value.ref b] below meth c D dA (fun q => s.heap.size ≤ q) s.heap nL ad (lw_Z below #[Value.ref b] s) 601024 7293034 pc ls [.int (nI 1)] sh h :=
  fun _ _ _ _ _ hS _ => va_forget hS.2.2 (lw_ret hC.1 hC.2.1 hret hlk hd)
