/-! ===== making objects and rows: the world grows ===== -/
def z_clr (h : z_H) (M : Nat) : z_H := (fun a b => if a = M then 0 else h.1 a b, fun a b => if a = M then 0 else h.2 a b)
theorem z_clr_same1 (h : z_H) (M : Nat) : (z_clr h M).1 M = fun _ => 0 := by funext b; simp [z_clr]
theorem z_clr_same2 (h : z_H) (M : Nat) : (z_clr h M).2 M = fun _ => 0 := by funext b; simp [z_clr]
theorem z_clr_ne1 {h : z_H} {M a : Nat} (ha : a ≠ M) : (z_clr h M).1 a = h.1 a := by funext b; simp [z_clr, ha]
theorem z_clr_ne2 {h : z_H} {M a : Nat} (ha : a ≠ M) : (z_clr h M).2 a = h.2 a := by funext b; simp [z_clr, ha]
/-- nothing refers to M -/
def z_frv (M : Nat) : Value → Bool
  | .ref r => !(Nat.beq r M)
  | _ => true
def z_fro (M : Nat) : Option Value → Bool
  | some v => z_frv M v
  | none => true
def z_frk (M : Nat) (t : Nat) : Bool := !(Nat.beq t (M + 3))
def z_frs (M : Nat) (ls : List (Option Value)) (st : List Value) (sh : z_Sh) : Bool := ls.all (z_fro M) && (st.all (z_frv M) && sh.all (fun c => c.2.2.all (z_frk M)))
def z_ag (M : Nat) (ad ad' : Nat → Nat) : Prop := ∀ i, i ≠ M → ad' i = ad i
theorem z_con_ag {M : Nat} {ad ad' : Nat → Nat} (ha : z_ag M ad ad') {v : Value} (hv : z_frv M v = true) : z_con ad' v = z_con ad v := by
  cases v with
  | ref r =>
    have : r ≠ M := fun e => by subst e; simp [z_frv] at hv
    simp [z_con, ha r this]
  | _ => rfl
theorem z_fs_ag {M : Nat} {ad ad' : Nat → Nat} (ha : z_ag M ad ad') (f : Nat → Int32) (g : Nat → Int64) : ∀ (ks : List Nat) (k : Nat), ks.all (z_frk M) = true → z_fs ad' f g ks k = z_fs ad f g ks k
  | [], _, _ => rfl
  | t :: ts, k, h => by
    simp only [List.all_cons, Bool.and_eq_true] at h
    have h1 : z_fv ad' f g k t = z_fv ad f g k t := by
      match t, h.1 with
      | 0, _ => rfl
      | 1, _ => rfl
      | 2, _ => rfl
      | r + 3, h1 =>
        have : r ≠ M := fun e => by subst e; simp [z_frk] at h1
        simp [z_fv, ha r this]
    simp only [z_fs, h1, z_fs_ag ha f g ts (k + 1) h.2]
theorem z_ce_ag {M : Nat} {dA : Nat → ClassId} {ad ad' : Nat → Nat} (ha : z_ag M ad ad') {c : Nat × Nat × List Nat} (hc : c.2.2.all (z_frk M) = true) (f : Nat → Int32) (g : Nat → Int64) : z_ce dA ad' c f g = z_ce dA ad c f g := by
  unfold z_ce
  rw [z_fs_ag ha f g _ _ hc]
theorem z_al_ag {M : Nat} {ad ad' : Nat → Nat} (ha : z_ag M ad ad') : ∀ (ls : List (Option Value)) (i : Nat), ls.all (z_fro M) = true → z_al ad' ls i = z_al ad ls i
  | [], _, _ => rfl
  | none :: r, i, h => by
    simp only [List.all_cons, Bool.and_eq_true] at h
    exact z_al_ag ha r (i + 1) h.2
  | some v :: r, i, h => by
    simp only [List.all_cons, Bool.and_eq_true] at h
    show (i, z_con ad' v) :: z_al ad' r (i + 1) = (i, z_con ad v) :: z_al ad r (i + 1)
    rw [z_con_ag ha h.1, z_al_ag ha r (i + 1) h.2]
theorem z_lo_ag {M nL : Nat} {ad ad' : Nat → Nat} (ha : z_ag M ad ad') {ls : List (Option Value)} {la : Array Slot} (h : ls.all (z_fro M) = true) (hl : z_lo ad nL ls la) : z_lo ad' nL ls la := ⟨hl.1, by rw [z_al_ag ha ls 0 h]; exact hl.2⟩
theorem z_wl_grow {M : Nat} {dA : Nat → ClassId} {ad ad' : Nat → Nat} (ha : z_ag M ad ad') {h : z_H} {sh : z_Sh} (hM : sh.length = M) (hc : sh.all (fun c => c.2.2.all (z_frk M)) = true) (c : Nat × Nat × List Nat) : z_wl dA ad' (z_clr h M) (sh ++ [c]) 0 = z_wl dA ad h sh 0 ++ [(ad' M, z_ce dA ad' c (fun _ => 0) (fun _ => 0))] := by
  apply List.ext_getElem?
  intro i
  rw [z_wl_at, List.getElem?_append, List.getElem?_append, z_wl_len, z_wl_at]
  by_cases hi : i < sh.length
  · rw [if_pos hi, if_pos hi]
    have hne : i ≠ M := by omega
    rw [List.getElem?_eq_getElem hi]
    have h1 := List.all_eq_true.mp hc _ (List.getElem_mem hi)
    simp only [Option.map_some, z_clr_ne1 hne, z_clr_ne2 hne, ha i hne, z_ce_ag ha h1]
  · rw [if_neg hi, if_neg hi]
    by_cases h0 : i - sh.length = 0
    · have hiM : i = M := by omega
      subst hiM
      rw [h0]
      simp only [List.getElem?_cons_zero, Option.map_some, z_clr_same1, z_clr_same2]
    · obtain ⟨j, hj⟩ : ∃ j, i - sh.length = j + 1 := ⟨i - sh.length - 1, by omega⟩
      rw [hj]
      simp
section ZM
variable {p : Program} {l : Launch} {e : Env} {R : Room} {s : State} {m : MethodId} {args : Array Value} {below : List Frame} {meth : Method} {c : Code} {D : va_G} {dA : Nat → ClassId} {A : Nat → Prop} {H0 : Heap} {nL : Nat} {ad : Nat → Nat} {Q : State → Prop} {own : String} {cc : ByteArray} {fl : z_Fl}
variable {k n pc M : Nat} {ls : List (Option Value)} {st : List Value} {sh : z_Sh} {h : z_H}
theorem z_map_ag {ad' : Nat → Nat} (ha : z_ag M ad ad') : ∀ (st : List Value), st.all (z_frv M) = true → st.map (z_con ad') = st.map (z_con ad)
  | [], _ => rfl
  | v :: r, hv => by
    simp only [List.all_cons, Bool.and_eq_true] at hv
    rw [List.map_cons, List.map_cons, z_con_ag ha hv.1, z_map_ag ha r hv.2]
set_option maxHeartbeats 1000000 in
theorem z_newo {ci idx : Nat} {C : String} {T : u_T} {N : Nat} {ks : List Nat} {fs : List Value} (ty : Nat → FieldType) (hC : z_Cx p s m args c D dA A H0 own cc nL fl) (hcl : vwCl[ci]? = some (C, T, N)) (hty : ∀ k, k < N → parseFieldDescriptor (T k).2.2.1 = some (ty k)) (hw : Cond.classLink own idx C ∈ z_big ∧ Cond.instantiable C N ∈ z_big ∧ Cond.initialized C ∈ z_big) (hfs : ∀ a, z_fs a (fun _ => 0) (fun _ => 0) ks 0 = fs) (hdf : ∀ j, j < N → defaultValue (ty j) = vp_V fs j) (hk : k + 1 ≤ R.cells ∧ n + N ≤ R.slots) (hd : decode cc pc = .ok (.new idx, 3)) (hM : sh.length = M) (hfr : z_frs M ls st sh = true)
    (kk : ∀ ad', z_ag M ad ad' → z_Z p l e R s m args below meth c D dA A H0 nL ad' Q (k + 1) (n + N) (pc + 3) ls (.ref M :: st) (sh ++ [(0, ci, ks)]) (z_clr h M)) : z_Z p l e R s m args below meth c D dA A H0 nL ad Q k n pc ls st sh h := by
  intro H locs la hP hD hS hl
  obtain ⟨hx, hb, hml, hown, hts, hK, hA, hfl⟩ := hC
  simp only [z_frs, Bool.and_eq_true] at hfr
  obtain ⟨f1, f2, f3⟩ := hfr
  refine va_new (fs := fs) hx hb hts (z_cl_all ci C T N hcl).1 ty hty hown (hts _ hw.1) (hts _ hw.2.1) (hts _ hw.2.2) hK hP hD hS hA hcl hdf hk.1 hk.2 hd (fun q H1 hP1 hD1 hS1 => ?_)
  have ha : z_ag M ad (fun i => if i = M then q else ad i) := fun i hi => if_neg hi
  have hg := z_wl_grow (dA := dA) (h := h) ha hM f3 (0, ci, ks)
  have hce : z_ce dA (fun i => if i = M then q else ad i) (0, ci, ks) (fun _ => 0) (fun _ => 0) = .inr (ci, fs) := by
    unfold z_ce
    rw [if_pos rfl, hfs]
  rw [hce, if_pos rfl] at hg
  have hkk := kk _ ha H1 locs la (by rw [hg]; exact hP1) (by rw [hg]; exact hD1) hS1 (z_lo_ag ha f1 hl)
  have hst : (Value.ref M :: st).map (z_con (fun i => if i = M then q else ad i)) = .ref q :: st.map (z_con ad) := by
    rw [List.map_cons, z_map_ag ha st f2]
    simp [z_con]
  rw [hst] at hkk
  exact hkk
/-- the rows' types by their numbers -/
def z_ty : Nat → FieldType
  | 1 => .int
  | 2 => .long
  | _ => .boolean
def z_at : Nat → ArrayType
  | 1 => .int
  | 2 => .long
  | _ => .boolean
def z_a0 (t N : Nat) : vp_A := match t with
  | 2 => (N, .inr (.inl fun _ => 0))
  | _ => (N, .inl fun _ => 0)
theorem z_a0_ok {t N : Nat} (ht : t = 1 ∨ t = 2 ∨ t = 3) : ∀ cA : ClassId, vp_cell cA (z_a0 t N) = arrV cA N (fun _ => defaultValue (z_ty t)) := by
  rcases ht with rfl | rfl | rfl <;> intro cA <;> rfl
theorem z_dA_eq {t : Nat} (ht : t = 1) (hK : va_K D vwCl (z_tys dA) s) {cA : ClassId} {tys : List (ClassId × FieldType)} (hK2 : va_K D vwCl (tys ++ [(cA, z_ty t)]) s) : cA = dA t := by
  have h2 : va_RA s cA (z_ty t) := (hK2.2 tys.length (cA, z_ty t) (by simp)).2
  subst ht
  have h1 : va_RA s (dA 1) .int := (hK.2 0 (dA 1, .int) rfl).2
  have := (va_nm_int h2).symm.trans (va_nm_int h1)
  exact Option.some.inj this
set_option maxHeartbeats 1000000 in
theorem z_newa {t N : Nat} (ht : t = 1) (hC : z_Cx p s m args c D dA A H0 own cc nL fl) (hw : Cond.arrayClass (z_ty t) ∈ z_big) (hty : newarray.typeOf (z_at t) = z_ty t) (hN : N < 2 ^ 31) (hby : N * componentBytes (z_ty t) ≤ 536870912) (hk : k + 1 ≤ R.cells ∧ n + N ≤ R.slots) (hd : decode cc pc = .ok (.newarray (z_at t), 2)) (hM : sh.length = M) (hfr : z_frs M ls st sh = true)
    (kk : ∀ ad', z_ag M ad ad' → z_Z p l e R s m args below meth c D dA A H0 nL ad' Q (k + 1) (n + N) (pc + 2) ls (.ref M :: st) (sh ++ [(t, N, [])]) (z_clr h M)) : z_Z p l e R s m args below meth c D dA A H0 nL ad Q k n pc ls (.int (nI N) :: st) sh h := by
  intro H locs la hP hD hS hl
  obtain ⟨hx, hb, hml, hown, hts, hK, hA, hfl⟩ := hC
  simp only [z_frs, Bool.and_eq_true] at hfr
  obtain ⟨f1, f2, f3⟩ := hfr
  refine va_newa (atype := z_at t) (ty := z_ty t) (a0 := z_a0 t N) (N' := N) hx hb (by rw [hty]; exact hts _ hw) hty hK hP hD hS hA (z_a0_ok (Or.inl ht)) (nI_pos hN) (nI_clamp hN) hby hk.1 hk.2 hd (fun q cA H1 hK1 hP1 hD1 hS1 => ?_)
  have hcA := z_dA_eq ht hK hK1
  subst hcA
  have ha : z_ag M ad (fun i => if i = M then q else ad i) := fun i hi => if_neg hi
  have hg := z_wl_grow (dA := dA) (h := h) ha hM f3 (t, N, [])
  have hce : z_ce dA (fun i => if i = M then q else ad i) (t, N, []) (fun _ => 0) (fun _ => 0) = .inl (dA t, z_a0 t N) := by
    subst ht; rfl
  rw [hce, if_pos rfl] at hg
  have hkk := kk _ ha H1 locs la (by rw [hg]; exact hP1) (by rw [hg]; exact hD1) hS1 (z_lo_ag ha f1 hl)
  have hst : (Value.ref M :: st).map (z_con (fun i => if i = M then q else ad i)) = .ref q :: st.map (z_con ad) := by
    rw [List.map_cons, z_map_ag ha st f2]
    simp [z_con]
  rw [hst] at hkk
  exact hkk
theorem z_obj0 {idx o d : Nat} (hC : z_Cx p s m args c D dA A H0 own cc nL fl) (hR : d ≤ R.frames ∧ 64 * d ≤ R.locals) (hd1 : 1 ≤ d) (hw : Cond.methodLink own idx objectInit ∈ z_big ∧ Cond.instanceMethod objectInit ∈ z_big ∧ Cond.code objectInit ⟨#[0xb1]⟩ 1 none ∈ z_big) (hW : (st.map fun v => v.category).sum ≤ 8) (hd : decode cc pc = .ok (.invokespecial idx, 3)) (kk : z_Z p l e R s m args below meth c D dA A H0 nL ad Q k n (pc + 3) ls st sh h) : z_Z p l e R s m args below meth c D dA A H0 nL ad Q k n pc ls (.ref o :: st) sh h := by
  intro H locs la hP hD hS hl
  obtain ⟨hx, hb, hml, hown, hts, hK, hA, hfl⟩ := hC
  refine W.objInit (a := ad o) (rest := st.map (z_con ad)) hx hb hown (hts _ hw.1) (hts _ hw.2.1) (hts _ hw.2.2) rfl (by rw [hml]; exact hl.2.1) rfl hd (by omega) ?_ (kk H locs la hP hD hS hl)
  have := lv_room (m := m) (pc := pc) (ls := la) (rest := (Value.ref o :: st).map (z_con ad)) (st := st.map (z_con ad)) (by rw [z_cats]; exact hW)
  omega
/-- a final reference is set, by a constructor -/
theorem z_putr {idx o ci kf t r : Nat} {ks ks' : List Nat} (hC : z_Cx p s m args c D dA A H0 own cc nL fl) (hin : meth.name = "<init>") (hfl1 : z_fl fl idx = some (ci, kf, 2)) (hs : z_nth sh o = some (0, ci, ks)) (hk : z_nth ks kf = some t) (hown2 : ∀ C T N, vwCl[ci]? = some (C, T, N) → C = own ∧ ∃ tf, parseFieldDescriptor (T kf).2.2.1 = some tf ∧ narrow tf (.ref (ad r)) = .ref (ad r) ∧ fits tf (.ref (ad r)) = true) (hd : decode cc pc = .ok (.putfield idx, 3)) (hks : z_put ks kf (r + 3) = ks')
    (kk : z_Z p l e R s m args below meth c D dA A H0 nL ad Q k n (pc + 3) ls st (z_put sh o (0, ci, ks')) h) : z_Z p l e R s m args below meth c D dA A H0 nL ad Q k n pc ls (.ref r :: .ref o :: st) sh h := by
  subst hks
  intro H locs la hP hD hS hl
  obtain ⟨hx, hb, hml, hown, hts, hK, hA, hfl⟩ := hC
  obtain ⟨C, T, N, c1, c2, c3, c4, -, -, -, c5⟩ := z_fok_spec (List.all_eq_true.mp hfl _ (z_fl_mem fl idx _ hfl1))
  obtain ⟨u1, ⟨ty, u2⟩, u3⟩ := z_cl_all ci C T N c1
  obtain ⟨e1, tf, e2, e3, e4⟩ := hown2 C T N c1
  have hk2 : kf < (z_fs ad (h.1 o) (h.2 o) ks 0).length := by
    rw [z_nth_eq] at hk
    rw [z_fs_len]
    exact (List.getElem?_eq_some_iff.mp hk).1
  refine va_putF (v := .ref (ad r)) hx hb hts u1 ty u2 u3 hown hK hP hD hS o (z_wl_obj hs) c1 kf c2 (ref := C) (hts _ c4) (fun x hx => by rw [c3] at hx; exact hx) (c5 rfl) hin (by rw [c3]; exact e1) e2 e3 e4 hk2 hd (fun H1 locs1 hP1 hD1 hS1 => ?_)
  have hfs : (z_fs ad (h.1 o) (h.2 o) ks 0).set kf (.ref (ad r)) = z_fs ad (h.1 o) (h.2 o) (z_put ks kf (r + 3)) 0 := by
    apply List.ext_getElem?
    intro i
    rw [List.getElem?_set, z_fs_get, z_fs_get, z_fs_len, ← z_nth_eq (z_put ks kf (r + 3)), z_put_nth, ← z_nth_eq]
    have hlt : kf < ks.length := by rw [z_fs_len] at hk2; exact hk2
    by_cases hi : kf = i
    · subst hi
      rw [if_pos rfl, if_pos hlt, if_pos ⟨rfl, hlt⟩]
      rfl
    · rw [if_neg hi, if_neg (fun q => hi q.1.symm)]
  have hw : (z_wl dA ad h sh 0).set o (ad o, .inr (ci, (z_fs ad (h.1 o) (h.2 o) ks 0).set kf (.ref (ad r)))) = z_wl dA ad h (z_put sh o (0, ci, z_put ks kf (r + 3))) 0 := by
    rw [hfs]
    apply List.ext_getElem?
    intro i
    have hlt : o < sh.length := by rw [z_nth_eq] at hs; exact (List.getElem?_eq_some_iff.mp hs).1
    rw [List.getElem?_set, z_wl_at, z_wl_at, z_wl_len, ← z_nth_eq (z_put sh o _), z_put_nth, ← z_nth_eq]
    by_cases hi : o = i
    · subst hi
      rw [if_pos rfl, if_pos hlt, if_pos ⟨rfl, hlt⟩]
      rfl
    · rw [if_neg hi, if_neg (fun q => hi q.1.symm)]
  rw [hw] at hP1 hD1
  exact kk H1 locs1 la hP1 hD1 hS1 hl
end ZM
