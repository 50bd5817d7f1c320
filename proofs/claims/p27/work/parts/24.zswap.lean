/-! ===== two objects of the class: the world seen from the other one ===== -/
def z_sg (i : Nat) : Nat := if i < 20 then i + 20 else if i < 40 then i - 20 else i
theorem z_sg2 (i : Nat) : z_sg (z_sg i) = i := by
  unfold z_sg
  split
  · rw [if_neg (by omega), if_pos (by omega)]; omega
  · split
    · rw [if_pos (by omega)]; omega
    · rfl
def z_sv : Value → Value
  | .ref i => .ref (z_sg i)
  | v => v
def z_sw (h : z_H) : z_H := (fun a => h.1 (z_sg a), fun a => h.2 (z_sg a))
theorem z_sw2 (h : z_H) : z_sw (z_sw h) = h := by
  unfold z_sw
  simp only [z_sg2]
theorem z_ad2 (ad : Nat → Nat) : (ad ∘ z_sg) ∘ z_sg = ad := by
  funext i
  show ad (z_sg (z_sg i)) = ad i
  rw [z_sg2]
theorem z_con_sv (ad : Nat → Nat) (v : Value) : z_con (ad ∘ z_sg) (z_sv v) = z_con ad v := by
  cases v with
  | ref i => show Value.ref (ad (z_sg (z_sg i))) = .ref (ad i); rw [z_sg2]
  | _ => rfl
theorem z_map_sv (ad : Nat → Nat) : ∀ (st : List Value), (st.map z_sv).map (z_con (ad ∘ z_sg)) = st.map (z_con ad)
  | [] => rfl
  | v :: r => by rw [List.map_cons, List.map_cons, List.map_cons, z_con_sv, z_map_sv ad r]
theorem z_al_sv (ad : Nat → Nat) : ∀ (ls : List (Option Value)) (i : Nat), z_al (ad ∘ z_sg) (ls.map (Option.map z_sv)) i = z_al ad ls i
  | [], _ => rfl
  | none :: r, i => z_al_sv ad r (i + 1)
  | some v :: r, i => by
    show (i, z_con (ad ∘ z_sg) (z_sv v)) :: z_al (ad ∘ z_sg) (r.map (Option.map z_sv)) (i + 1) = (i, z_con ad v) :: z_al ad r (i + 1)
    rw [z_con_sv, z_al_sv ad r (i + 1)]
def z_rk : Nat → Nat
  | r + 3 => z_sg r + 3
  | t => t
def z_rn (c : Nat × Nat × List Nat) : Nat × Nat × List Nat := (c.1, c.2.1, c.2.2.map z_rk)
theorem z_fs_rn (ad : Nat → Nat) (f : Nat → Int32) (g : Nat → Int64) : ∀ (ks : List Nat) (k : Nat), z_fs (ad ∘ z_sg) f g (ks.map z_rk) k = z_fs ad f g ks k
  | [], _ => rfl
  | t :: ts, k => by
    have h1 : z_fv (ad ∘ z_sg) f g k (z_rk t) = z_fv ad f g k t := by
      match t with
      | 0 => rfl
      | 1 => rfl
      | 2 => rfl
      | r + 3 => show Value.ref (ad (z_sg (z_sg r))) = .ref (ad r); rw [z_sg2]
    show z_fv (ad ∘ z_sg) f g k (z_rk t) :: z_fs (ad ∘ z_sg) f g (ts.map z_rk) (k + 1) = _
    rw [h1, z_fs_rn ad f g ts (k + 1)]
    rfl
theorem z_ce_rn (dA : Nat → ClassId) (ad : Nat → Nat) (c : Nat × Nat × List Nat) (f : Nat → Int32) (g : Nat → Int64) : z_ce dA (ad ∘ z_sg) (z_rn c) f g = z_ce dA ad c f g := by
  unfold z_ce z_rn
  simp only [z_fs_rn]
theorem z_d_rn : ∀ i, i < 40 → z_d[z_sg i]? = (z_d[i]?).map z_rn := by decide +kernel
theorem z_sg_lt {i : Nat} (h : i < 40) : z_sg i < 40 := by
  unfold z_sg
  split
  · omega
  · omega
theorem z_wl_sw (dA : Nat → ClassId) (ad : Nat → Nat) (h : z_H) (i : Nat) (hi : i < 40) : (z_wl dA (ad ∘ z_sg) (z_sw h) z_d 0)[z_sg i]? = (z_wl dA ad h z_d 0)[i]? := by
  rw [z_wl_at, z_wl_at, z_d_rn i hi]
  cases z_d[i]? with
  | none => rfl
  | some c =>
    simp only [Option.map_some, Function.comp, z_sw, z_sg2]
    rw [← z_ce_rn dA ad c]
theorem z_wl_sw' (dA : Nat → ClassId) (ad : Nat → Nat) (h : z_H) {k : Nat} {q : Nat × va_E} (hq : (z_wl dA (ad ∘ z_sg) (z_sw h) z_d 0)[k]? = some q) : k < 40 ∧ (z_wl dA ad h z_d 0)[z_sg k]? = some q := by
  have hk : k < 40 := (z_wl_mem hq).1
  refine ⟨hk, ?_⟩
  rw [← z_wl_sw dA ad h (z_sg k) (z_sg_lt hk), z_sg2]
  exact hq
theorem z_P_sw {D : va_G} {dA : Nat → ClassId} {ad : Nat → Nat} {h : z_H} {H : Heap} (hP : va_P D vwCl (z_wl dA ad h z_d 0) H) : va_P D vwCl (z_wl dA (ad ∘ z_sg) (z_sw h) z_d 0) H :=
  fun _ q hq => hP _ q (z_wl_sw' dA ad h hq).2
theorem z_D_sw {dA : Nat → ClassId} {ad : Nat → Nat} {h : z_H} {A : Nat → Prop} (hD : va_D A (z_wl dA ad h z_d 0)) : va_D A (z_wl dA (ad ∘ z_sg) (z_sw h) z_d 0) := by
  refine ⟨fun i j p q hp hq hpq => ?_, fun k q hq => hD.2 _ q (z_wl_sw' dA ad h hq).2⟩
  have := hD.1 _ _ p q (z_wl_sw' dA ad h hp).2 (z_wl_sw' dA ad h hq).2 hpq
  have h2 := congrArg z_sg this
  rw [z_sg2, z_sg2] at h2
  exact h2
section ZSW
variable {p : Program} {l : Launch} {e : Env} {R : Room} {s : State} {m : MethodId} {args : Array Value} {below : List Frame} {meth : Method} {c : Code} {D : va_G} {dA : Nat → ClassId} {A : Nat → Prop} {H0 : Heap} {nL : Nat} {ad : Nat → Nat} {Q : State → Prop} {own : String} {cc : ByteArray} {fl : z_Fl}
theorem z_swp {k n pc : Nat} {ls : List (Option Value)} {st : List Value} {h : z_H} (kk : z_Z p l e R s m args below meth c D dA A H0 nL (ad ∘ z_sg) Q k n pc (ls.map (Option.map z_sv)) (st.map z_sv) z_d (z_sw h)) : z_Z p l e R s m args below meth c D dA A H0 nL ad Q k n pc ls st z_d h := by
  intro H locs la hP hD hS hl
  have := kk H locs la (z_P_sw hP) (z_D_sw hD) hS ⟨by rw [List.length_map]; exact hl.1, by rw [z_al_sv]; exact hl.2⟩
  rw [z_map_sv] at this
  exact this
theorem z_sv2 (v : Value) : z_sv (z_sv v) = v := by
  cases v with
  | ref i => show Value.ref (z_sg (z_sg i)) = .ref i; rw [z_sg2]
  | _ => rfl
theorem z_msv2 : ∀ (st : List Value), (st.map z_sv).map z_sv = st
  | [] => rfl
  | v :: r => by rw [List.map_cons, List.map_cons, z_sv2, z_msv2 r]
theorem z_lsv2 : ∀ (ls : List (Option Value)), (ls.map (Option.map z_sv)).map (Option.map z_sv) = ls
  | [] => rfl
  | none :: r => by rw [List.map_cons, List.map_cons, z_lsv2 r]; rfl
  | some v :: r => by rw [List.map_cons, List.map_cons, z_lsv2 r]; show some (z_sv (z_sv v)) :: r = some v :: r; rw [z_sv2]
/-- and back -/
theorem z_swb {k n pc : Nat} {ls : List (Option Value)} {st : List Value} {h : z_H} (kk : z_Z p l e R s m args below meth c D dA A H0 nL ad Q k n pc ls (st.map z_sv) z_d (z_sw h)) : z_Z p l e R s m args below meth c D dA A H0 nL (ad ∘ z_sg) Q k n pc (ls.map (Option.map z_sv)) st z_d h := by
  refine z_swp ?_
  rw [z_ad2, z_lsv2]
  exact kk
set_option maxHeartbeats 1000000 in
/-- a call on the other object -/
theorem z_callVp {y : MethodName} {cc' : ByteArray} {maxL idx na d d' k n pc ci : Nat} {ks : List Nat} {T : u_T} {N : Nat} {ret : Option FieldType} {as rest : List Value} {ls : List (Option Value)} {st : List Value} {h : z_H} {Φ : Option Value → z_H → Prop} (hC : z_Cx p s m args c D dA A H0 own cc nL fl) (hN : z_Nt s) (hR : d ≤ R.frames ∧ 64 * d ≤ R.locals) (ok : z_okV own idx y cc' maxL ret na) (hdg : decode cc pc = .ok (.invokevirtual idx, 3)) (hM : z_Sp l d' y cc' maxL ret (.ref 0 :: as) z_d (z_sw h) Φ) (hs : z_nth z_d 0 = some (0, ci, ks)) (hcl : vwCl[ci]? = some (y.cls, T, N)) (hd : d' + 1 ≤ d) (hn : as.length = na) (has : as.map z_sv = as) (hst : st = as.reverse ++ .ref 20 :: rest) (hW : ((rest.map z_sv).map fun v => v.category).sum ≤ 8) (hk : k ≤ R.cells ∧ n ≤ R.slots)
    (kk : ∀ (rv : Option Value) (h' : z_H), Φ rv h' → z_Z p l e R s m args below meth c D dA A H0 nL ad Q k n (pc + 3) ls ((rv.map z_sv).toList ++ rest) z_d (z_sw h')) : z_Z p l e R s m args below meth c D dA A H0 nL ad Q k n pc ls st z_d h := by
  refine z_swp (z_callV (rest := rest.map z_sv) hC hN hR ok hdg hM hs hcl hd hn ?_ hW hk (fun rv h' q => z_swb ?_))
  · rw [hst, List.map_append, List.map_reverse, has]; rfl
  · have := kk rv h' q
    rw [List.map_append, z_msv2]
    have e : (rv.toList).map z_sv = (rv.map z_sv).toList := by cases rv <;> rfl
    rw [e]
    exact this
theorem z_funp {k n pc : Nat} {ls : List (Option Value)} {rest : List Value} {h' g : z_H} {rv : Option Value} {x : Int32} (hq : rv = some (.int x) ∧ h' = z_sw g) (kk : z_Z p l e R s m args below meth c D dA A H0 nL ad Q k n pc ls (.int x :: rest) z_d g) : z_Z p l e R s m args below meth c D dA A H0 nL ad Q k n pc ls ((rv.map z_sv).toList ++ rest) z_d (z_sw h') := by
  rw [hq.1, hq.2, z_sw2]
  exact kk
theorem z_funbp {k n pc : Nat} {ls : List (Option Value)} {rest : List Value} {h' g : z_H} {rv : Option Value} {x : Int32} {zb : Prop} (hq : rv = some (.int x) ∧ h' = z_sw g ∧ zb) (kk : zb → z_Z p l e R s m args below meth c D dA A H0 nL ad Q k n pc ls (.int x :: rest) z_d g) : z_Z p l e R s m args below meth c D dA A H0 nL ad Q k n pc ls ((rv.map z_sv).toList ++ rest) z_d (z_sw h') := by
  rw [hq.1, hq.2.1, z_sw2]
  exact kk hq.2.2
set_option maxHeartbeats 1000000 in
/-- a static call with the other object in place of the first -/
theorem z_callSxp {y : MethodName} {cc' : ByteArray} {maxL idx na d d' mc' ms' k n pc : Nat} {ret : Option FieldType} {as rest : List Value} {ls : List (Option Value)} {st : List Value} {h : z_H} {Φ' : Option Value → z_H → Prop} (hC : z_Cx p s m args c D dA A s.heap own cc nL fl) (hN : z_Nt s) (hR : d ≤ R.frames ∧ 64 * d ≤ R.locals) (hZ : z_Zz A s) (hKin : z_Kin s) (ok : z_okS own idx y cc' maxL ret na) (hdg : decode cc pc = .ok (.invokestatic idx, 3)) (hM : z_Spx l d' y (.code y cc' maxL ret) mc' ms' (as.map z_sv) z_d (z_sw h) Φ' (fun _ => False)) (hd : d' + 1 ≤ d) (hn : as.length = na) (hst : st = as.reverse ++ rest) (hW : ((rest.map z_sv).map fun v => v.category).sum ≤ 8) (hk : k + mc' ≤ R.cells ∧ n + ms' ≤ R.slots)
    (kk : ∀ (rv : Option Value) (h' : z_H), Φ' rv h' → z_Z p l e R s m args below meth c D dA A s.heap nL ad Q (k + mc') (n + ms') (pc + 3) ls ((rv.map z_sv).toList ++ rest) z_d (z_sw h')) : z_Z p l e R s m args below meth c D dA A s.heap nL ad Q k n pc ls st z_d h := by
  refine z_swp (z_callSx (rest := rest.map z_sv) hC hN hR hZ hKin ok hdg hM hd ((List.length_map _).trans hn) ?_ hW hk (fun E q => q.elim) (fun rv h' q => z_swb ?_))
  · rw [hst, List.map_append, List.map_reverse]
  · have := kk rv h' q
    rw [List.map_append, z_msv2]
    have e : (rv.toList).map z_sv = (rv.map z_sv).toList := by cases rv <;> rfl
    rw [e]
    exact this
theorem z_funi {k n pc : Nat} {ls : List (Option Value)} {rest : List Value} {h' g : z_H} {rv : Option Value} {x : Int32} (hq : rv = some (.int x) ∧ h' = g) (kk : z_Z p l e R s m args below meth c D dA A H0 nL ad Q k n pc ls (.int x :: rest) z_d (z_sw g)) : z_Z p l e R s m args below meth c D dA A H0 nL ad Q k n pc ls ((rv.map z_sv).toList ++ rest) z_d (z_sw h') := by
  rw [hq.1, hq.2]
  exact kk
end ZSW
