/-! ===== one instruction's law over abstract heaps ===== -/
theorem z_fok_spec {own : String} {idx ci k t : Nat} (h : z_fok own (idx, ci, k, t) = true) : ∃ C T N, vwCl[ci]? = some (C, T, N) ∧ k < N ∧ (T k).1 = C ∧ Cond.fieldLink own idx C (T k).2.1 (T k).2.2.1 ∈ z_big ∧ (t = 0 → (T k).2.2.2 = false ∧ parseFieldDescriptor (T k).2.2.1 = some .int) ∧ (t = 1 → (T k).2.2.2 = false ∧ parseFieldDescriptor (T k).2.2.1 = some .long) ∧ (t = 3 → (T k).2.2.2 = false ∧ parseFieldDescriptor (T k).2.2.1 = some .boolean) ∧ (t = 2 → (T k).2.2.2 = true) := by
  unfold z_fok at h
  split at h
  · rename_i C T N hc
    simp only [Bool.and_eq_true, decide_eq_true_eq] at h
    obtain ⟨h1, h2, h3, h4⟩ := h
    refine ⟨C, T, N, hc, h1, h2, z_flinks_in _ h3, ?_, ?_, ?_, ?_⟩
    · intro e; subst e; simpa using h4
    · intro e; subst e; simpa using h4
    · intro e; subst e; simpa using h4
    · intro e; subst e; simpa using h4
  · cases h
theorem z_nar_b {x : Int32} (h : x = 0 ∨ x = 1) : narrow .boolean (.int x) = .int x ∧ fits .boolean (.int x) = true ∧ vp_nar .boolean x = x := by
  rcases h with rfl | rfl <;> exact ⟨rfl, rfl, rfl⟩
section ZZ
variable {p : Program} {l : Launch} {e : Env} {R : Room} {s : State} {m : MethodId} {args : Array Value} {below : List Frame} {meth : Method} {c : Code} {D : va_G} {dA : Nat → ClassId} {A : Nat → Prop} {H0 : Heap} {nL : Nat} {ad : Nat → Nat} {Q : State → Prop} {own : String} {cc : ByteArray} {fl : z_Fl}
def z_Z (p : Program) (l : Launch) (e : Env) (R : Room) (s : State) (m : MethodId) (args : Array Value) (below : List Frame) (meth : Method) (c : Code) (D : va_G) (dA : Nat → ClassId) (A : Nat → Prop) (H0 : Heap) (nL : Nat) (ad : Nat → Nat) (Q : State → Prop) (k n pc : Nat) (ls : List (Option Value)) (st : List Value) (sh : z_Sh) (h : z_H) : Prop :=
  ∀ (H : Heap) (locs : List Loc) (la : Array Slot), va_P D vwCl (z_wl dA ad h sh 0) H → va_D A (z_wl dA ad h sh 0) → va_S A H0 H locs → z_lo ad nL ls la → W p l e R s m args below meth c H locs k n Q (F0 m pc la (st.map (z_con ad)))
def z_Cx (p : Program) (s : State) (m : MethodId) (args : Array Value) (c : Code) (D : va_G) (dA : Nat → ClassId) (A : Nat → Prop) (H0 : Heap) (own : String) (cc : ByteArray) (nL : Nat) (fl : z_Fl) : Prop :=
  p.tables.exec = Jvm.exec ∧ c.code = cc ∧ c.maxLocals = nL ∧ s.vm.findClass own = some m.cls ∧ (∀ w ∈ z_big, w.before args s = true) ∧ va_K D vwCl (z_tys dA) s ∧ (∀ q : Nat, H0.size ≤ q → A q) ∧ z_fsok own fl
def z_len : Instr → Nat
  | .aload _ | .iload _ | .lload _ | .istore _ | .lstore _ | .astore _ | .bipush _ => 2
  | .sipush _ | .iinc _ _ | .getfield _ | .putfield _ => 3
  | _ => 1
set_option maxHeartbeats 4000000 in
theorem z_s1_ok (hC : z_Cx p s m args c D dA A H0 own cc nL fl) {k n pc : Nat} {ls ls' : List (Option Value)} {st st' : List Value} {sh : z_Sh} {h h' : z_H} {cs : List Prop} {i : Instr} (hd : decode cc pc = .ok (i, z_len i)) (h1 : z_s1 fl sh i (ls, st, h) = some ((ls', st', h'), cs)) (hcs : z_all cs)
    (kk : z_Z p l e R s m args below meth c D dA A H0 nL ad Q k n (pc + z_len i) ls' st' sh h') : z_Z p l e R s m args below meth c D dA A H0 nL ad Q k n pc ls st sh h := by
  obtain ⟨hx, hb, hml, hown, hts, hK, hA, hfl⟩ := hC
  intro H locs la hP hD hS hl
  have kk := fun H locs la => kk H locs la
  cases i with
  | aload_n j =>
    obtain ⟨v, h2, h3⟩ := Option.map_eq_some_iff.mp (show (z_ldA ls j.val).map (fun v => ((ls, v :: st, h), ([] : List Prop))) = some ((ls', st', h'), cs) from h1)
    obtain ⟨x, rfl, h4⟩ := z_ldA_of h2
    cases h3
    exact lv_aload_n hx hb hd rfl (z_lo_get hl h4) (kk H locs la hP hD hS hl)
  | aload j =>
    obtain ⟨v, h2, h3⟩ := Option.map_eq_some_iff.mp (show (z_ldA ls j).map (fun v => ((ls, v :: st, h), ([] : List Prop))) = some ((ls', st', h'), cs) from h1)
    obtain ⟨x, rfl, h4⟩ := z_ldA_of h2
    cases h3
    exact lv_aload hx hb hd (z_lo_get hl h4) (kk H locs la hP hD hS hl)
  | iload_n j =>
    obtain ⟨v, h2, h3⟩ := Option.map_eq_some_iff.mp (show (z_ldI ls j.val).map (fun v => ((ls, v :: st, h), ([] : List Prop))) = some ((ls', st', h'), cs) from h1)
    obtain ⟨x, rfl, h4⟩ := z_ldI_of h2
    cases h3
    exact lv_iload_n hx hb hd rfl (z_lo_get hl h4) (kk H locs la hP hD hS hl)
  | iload j =>
    obtain ⟨v, h2, h3⟩ := Option.map_eq_some_iff.mp (show (z_ldI ls j).map (fun v => ((ls, v :: st, h), ([] : List Prop))) = some ((ls', st', h'), cs) from h1)
    obtain ⟨x, rfl, h4⟩ := z_ldI_of h2
    cases h3
    exact lv_iload hx hb hd (z_lo_get hl h4) (kk H locs la hP hD hS hl)
  | lload_n j =>
    obtain ⟨v, h2, h3⟩ := Option.map_eq_some_iff.mp (show (z_ldL ls j.val).map (fun v => ((ls, v :: st, h), ([] : List Prop))) = some ((ls', st', h'), cs) from h1)
    obtain ⟨x, rfl, h4⟩ := z_ldL_of h2
    cases h3
    exact lv_lload_n hx hb hd rfl (z_lo_get hl h4) (kk H locs la hP hD hS hl)
  | lload j =>
    obtain ⟨v, h2, h3⟩ := Option.map_eq_some_iff.mp (show (z_ldL ls j).map (fun v => ((ls, v :: st, h), ([] : List Prop))) = some ((ls', st', h'), cs) from h1)
    obtain ⟨x, rfl, h4⟩ := z_ldL_of h2
    cases h3
    exact lv_lload hx hb hd (z_lo_get hl h4) (kk H locs la hP hD hS hl)
  | istore_n j =>
    obtain ⟨⟨l2, s2⟩, h2, h3⟩ := Option.map_eq_some_iff.mp (show (z_stI ls j.val st).map (fun q => ((q.1, q.2, h), ([] : List Prop))) = some ((ls', st', h'), cs) from h1)
    obtain ⟨x, rfl, h4⟩ := z_stI_of h2
    cases h3
    have h5 := z_lo_set hl h4 rfl
    exact lv_istore_n hx hb hd rfl hl.2 h5.1 rfl (fun la' h' => kk H locs la' hP hD hS (h5.2 la' h'))
  | istore j =>
    obtain ⟨⟨l2, s2⟩, h2, h3⟩ := Option.map_eq_some_iff.mp (show (z_stI ls j st).map (fun q => ((q.1, q.2, h), ([] : List Prop))) = some ((ls', st', h'), cs) from h1)
    obtain ⟨x, rfl, h4⟩ := z_stI_of h2
    cases h3
    have h5 := z_lo_set hl h4 rfl
    exact lv_istore hx hb hd hl.2 h5.1 rfl (fun la' h' => kk H locs la' hP hD hS (h5.2 la' h'))
  | astore_n j =>
    obtain ⟨⟨l2, s2⟩, h2, h3⟩ := Option.map_eq_some_iff.mp (show (z_stA ls j.val st).map (fun q => ((q.1, q.2, h), ([] : List Prop))) = some ((ls', st', h'), cs) from h1)
    obtain ⟨x, rfl, h4⟩ := z_stA_of h2
    cases h3
    have h5 := z_lo_set hl h4 rfl
    exact lv_astore_n hx hb hd rfl hl.2 h5.1 rfl (fun la' h' => kk H locs la' hP hD hS (h5.2 la' h'))
  | astore j =>
    obtain ⟨⟨l2, s2⟩, h2, h3⟩ := Option.map_eq_some_iff.mp (show (z_stA ls j st).map (fun q => ((q.1, q.2, h), ([] : List Prop))) = some ((ls', st', h'), cs) from h1)
    obtain ⟨x, rfl, h4⟩ := z_stA_of h2
    cases h3
    have h5 := z_lo_set hl h4 rfl
    exact lv_astore hx hb hd hl.2 h5.1 rfl (fun la' h' => kk H locs la' hP hD hS (h5.2 la' h'))
  | lstore_n j =>
    obtain ⟨⟨l2, s2⟩, h2, h3⟩ := Option.map_eq_some_iff.mp (show (z_stL ls j.val st).map (fun q => ((q.1, q.2, h), ([] : List Prop))) = some ((ls', st', h'), cs) from h1)
    obtain ⟨x, rfl, h4⟩ := z_stL_of h2
    cases h3
    have h5 := z_lo_set2 hl h4 rfl
    exact lv_lstore_n hx hb hd rfl hl.2 h5.1 rfl (fun la' h' => kk H locs la' hP hD hS (h5.2 la' h'))
  | lstore j =>
    obtain ⟨⟨l2, s2⟩, h2, h3⟩ := Option.map_eq_some_iff.mp (show (z_stL ls j st).map (fun q => ((q.1, q.2, h), ([] : List Prop))) = some ((ls', st', h'), cs) from h1)
    obtain ⟨x, rfl, h4⟩ := z_stL_of h2
    cases h3
    have h5 := z_lo_set2 hl h4 rfl
    exact lv_lstore hx hb hd hl.2 h5.1 rfl (fun la' h' => kk H locs la' hP hD hS (h5.2 la' h'))
  | iinc j n =>
    obtain ⟨l2, h2, h3⟩ := Option.map_eq_some_iff.mp (show (z_inc ls j n).map (fun l => ((l, st, h), ([] : List Prop))) = some ((ls', st', h'), cs) from h1)
    unfold z_inc at h2
    split at h2
    · rename_i x hx2
      cases h3
      have h5 := z_lo_set hl h2 rfl
      obtain ⟨q, hq⟩ := List.getElem?_of_mem ((z_al_mem ad ls 0 (j, .int x)).mpr ⟨j, .int x, hx2, by rw [Nat.zero_add]; rfl⟩)
      exact lv_iinc hx hb hd hl.2 hq (by rw [z_bi_eq]) h5.1 rfl (fun la' h' => kk H locs la' hP hD hS (h5.2 la' h'))
    · cases h2
  | iconst n =>
    cases (show some ((ls, Value.int (z_bi n) :: st, h), ([] : List Prop)) = some ((ls', st', h'), cs) from h1)
    exact lv_iconst hx hb hd (z_bi_eq n) (kk H locs la hP hD hS hl)
  | bipush b =>
    match b, hd, h1, kk with
    | .ofNat b, hd, h1, kk =>
      have h2 : (match Nat.blt b 128 with | true => some ((ls, Value.int (nI b) :: st, h), ([] : List Prop)) | false => none) = some ((ls', st', h'), cs) := h1
      split at h2
      · rename_i hb2
        cases h2
        exact lv_bipush hx hb hd (z_bi_8 b (by simpa using hb2)) (kk H locs la hP hD hS hl)
      · cases h2
    | .negSucc b, hd, h1, kk =>
      cases (show some ((ls, Value.int (z_bi (.negSucc b)) :: st, h), [(Int8.ofInt (.negSucc b)).toInt32 = z_bi (.negSucc b)]) = some ((ls', st', h'), cs) from h1)
      exact lv_bipush hx hb hd hcs (kk H locs la hP hD hS hl)
  | sipush b =>
    match b, hd, h1, kk with
    | .ofNat b, hd, h1, kk =>
      cases (show some ((ls, Value.int (nI b) :: st, h), [(Int16.ofInt (Int.ofNat b)).toInt32 = nI b]) = some ((ls', st', h'), cs) from h1)
      exact lv_sipush hx hb hd hcs (kk H locs la hP hD hS hl)
    | .negSucc b, hd, h1, kk => cases h1
  | lconst b =>
    match b, hd, h1, kk with
    | 0, hd, h1, kk =>
      cases (show some ((ls, Value.long 0 :: st, h), ([] : List Prop)) = some ((ls', st', h'), cs) from h1)
      exact lv_lconst hx hb hd rfl (kk H locs la hP hD hS hl)
    | 1, hd, h1, kk =>
      cases (show some ((ls, Value.long 1 :: st, h), ([] : List Prop)) = some ((ls', st', h'), cs) from h1)
      exact lv_lconst hx hb hd rfl (kk H locs la hP hD hS hl)
  | iadd =>
    obtain ⟨s2, h2, h3⟩ := Option.map_eq_some_iff.mp (show (z_b2 (fun a b => a + b) st).map (fun s => ((ls, s, h), ([] : List Prop))) = some ((ls', st', h'), cs) from h1)
    obtain ⟨a, b, r, rfl, rfl⟩ := z_b2_of h2
    cases h3
    exact lv_iadd hx hb hd (kk H locs la hP hD hS hl)
  | isub =>
    obtain ⟨s2, h2, h3⟩ := Option.map_eq_some_iff.mp (show (z_b2 (fun a b => a - b) st).map (fun s => ((ls, s, h), ([] : List Prop))) = some ((ls', st', h'), cs) from h1)
    obtain ⟨a, b, r, rfl, rfl⟩ := z_b2_of h2
    cases h3
    exact lv_isub hx hb hd (kk H locs la hP hD hS hl)
  | imul =>
    obtain ⟨s2, h2, h3⟩ := Option.map_eq_some_iff.mp (show (z_b2 (fun a b => a * b) st).map (fun s => ((ls, s, h), ([] : List Prop))) = some ((ls', st', h'), cs) from h1)
    obtain ⟨a, b, r, rfl, rfl⟩ := z_b2_of h2
    cases h3
    exact lv_imul hx hb hd (kk H locs la hP hD hS hl)
  | iand =>
    obtain ⟨s2, h2, h3⟩ := Option.map_eq_some_iff.mp (show (z_b2 (fun a b => a &&& b) st).map (fun s => ((ls, s, h), ([] : List Prop))) = some ((ls', st', h'), cs) from h1)
    obtain ⟨a, b, r, rfl, rfl⟩ := z_b2_of h2
    cases h3
    exact lv_iand hx hb hd (kk H locs la hP hD hS hl)
  | ior =>
    obtain ⟨s2, h2, h3⟩ := Option.map_eq_some_iff.mp (show (z_b2 (fun a b => a ||| b) st).map (fun s => ((ls, s, h), ([] : List Prop))) = some ((ls', st', h'), cs) from h1)
    obtain ⟨a, b, r, rfl, rfl⟩ := z_b2_of h2
    cases h3
    exact lv_ior hx hb hd (kk H locs la hP hD hS hl)
  | ixor =>
    obtain ⟨s2, h2, h3⟩ := Option.map_eq_some_iff.mp (show (z_b2 (fun a b => a ^^^ b) st).map (fun s => ((ls, s, h), ([] : List Prop))) = some ((ls', st', h'), cs) from h1)
    obtain ⟨a, b, r, rfl, rfl⟩ := z_b2_of h2
    cases h3
    exact lv_ixor hx hb hd (kk H locs la hP hD hS hl)
  | ishl =>
    obtain ⟨s2, h2, h3⟩ := Option.map_eq_some_iff.mp (show (z_b2 (fun a b => a <<< (b &&& 31)) st).map (fun s => ((ls, s, h), ([] : List Prop))) = some ((ls', st', h'), cs) from h1)
    obtain ⟨a, b, r, rfl, rfl⟩ := z_b2_of h2
    cases h3
    exact lv_ishl hx hb hd (kk H locs la hP hD hS hl)
  | ishr =>
    obtain ⟨s2, h2, h3⟩ := Option.map_eq_some_iff.mp (show (z_b2 (fun a b => a >>> (b &&& 31)) st).map (fun s => ((ls, s, h), ([] : List Prop))) = some ((ls', st', h'), cs) from h1)
    obtain ⟨a, b, r, rfl, rfl⟩ := z_b2_of h2
    cases h3
    exact lv_ishr hx hb hd (kk H locs la hP hD hS hl)
  | iushr =>
    obtain ⟨s2, h2, h3⟩ := Option.map_eq_some_iff.mp (show (z_b2 (fun a b => (a.toUInt32 >>> (b.toUInt32 &&& Int32.toUInt32 31)).toInt32) st).map (fun s => ((ls, s, h), ([] : List Prop))) = some ((ls', st', h'), cs) from h1)
    obtain ⟨a, b, r, rfl, rfl⟩ := z_b2_of h2
    cases h3
    exact lv_iushr hx hb hd rfl (kk H locs la hP hD hS hl)
  | idiv =>
    obtain ⟨⟨s2, c2⟩, h2, h3⟩ := Option.map_eq_some_iff.mp (show (z_div (fun a b => a / b) st).map (fun q => ((ls, q.1, h), q.2)) = some ((ls', st', h'), cs) from h1)
    obtain ⟨a, b, r, rfl, rfl, rfl⟩ := z_div_of h2
    cases h3
    exact lv_idiv hx hb hd hcs (kk H locs la hP hD hS hl)
  | irem =>
    obtain ⟨⟨s2, c2⟩, h2, h3⟩ := Option.map_eq_some_iff.mp (show (z_div (fun a b => a - a / b * b) st).map (fun q => ((ls, q.1, h), q.2)) = some ((ls', st', h'), cs) from h1)
    obtain ⟨a, b, r, rfl, rfl, rfl⟩ := z_div_of h2
    cases h3
    exact lv_irem hx hb hd hcs (kk H locs la hP hD hS hl)
  | land =>
    obtain ⟨s2, h2, h3⟩ := Option.map_eq_some_iff.mp (show (z_b2L (fun a b => .long (a &&& b)) st).map (fun s => ((ls, s, h), ([] : List Prop))) = some ((ls', st', h'), cs) from h1)
    obtain ⟨a, b, r, rfl, rfl⟩ := z_b2L_of h2
    cases h3
    exact lv_land hx hb hd (kk H locs la hP hD hS hl)
  | lor =>
    obtain ⟨s2, h2, h3⟩ := Option.map_eq_some_iff.mp (show (z_b2L (fun a b => .long (a ||| b)) st).map (fun s => ((ls, s, h), ([] : List Prop))) = some ((ls', st', h'), cs) from h1)
    obtain ⟨a, b, r, rfl, rfl⟩ := z_b2L_of h2
    cases h3
    exact lv_lor hx hb hd (kk H locs la hP hD hS hl)
  | lxor =>
    obtain ⟨s2, h2, h3⟩ := Option.map_eq_some_iff.mp (show (z_b2L (fun a b => .long (a ^^^ b)) st).map (fun s => ((ls, s, h), ([] : List Prop))) = some ((ls', st', h'), cs) from h1)
    obtain ⟨a, b, r, rfl, rfl⟩ := z_b2L_of h2
    cases h3
    exact lv_lxor hx hb hd (kk H locs la hP hD hS hl)
  | lcmp =>
    obtain ⟨s2, h2, h3⟩ := Option.map_eq_some_iff.mp (show (z_b2L (fun a b => .int (lg_cmp a b)) st).map (fun s => ((ls, s, h), ([] : List Prop))) = some ((ls', st', h'), cs) from h1)
    obtain ⟨a, b, r, rfl, rfl⟩ := z_b2L_of h2
    cases h3
    exact W.lcmp hx hb hd (kk H locs la hP hD hS hl)
  | lshr =>
    obtain ⟨s2, h2, h3⟩ := Option.map_eq_some_iff.mp (show (z_lsr st).map (fun s => ((ls, s, h), ([] : List Prop))) = some ((ls', st', h'), cs) from h1)
    unfold z_lsr at h2
    split at h2
    · cases h2; cases h3
      exact lv_lshr hx hb hd rfl (kk H locs la hP hD hS hl)
    · cases h2
  | lshl =>
    obtain ⟨s2, h2, h3⟩ := Option.map_eq_some_iff.mp (show (z_lsh st).map (fun s => ((ls, s, h), ([] : List Prop))) = some ((ls', st', h'), cs) from h1)
    unfold z_lsh at h2
    split at h2
    · cases h2; cases h3
      exact lv_lshl hx hb hd rfl (kk H locs la hP hD hS hl)
    · cases h2
  | i2l =>
    obtain ⟨s2, h2, h3⟩ := Option.map_eq_some_iff.mp (show (z_i2l st).map (fun s => ((ls, s, h), ([] : List Prop))) = some ((ls', st', h'), cs) from h1)
    unfold z_i2l at h2
    split at h2
    · cases h2; cases h3
      exact lv_i2l hx hb hd rfl (kk H locs la hP hD hS hl)
    · cases h2
  | dup =>
    obtain ⟨s2, h2, h3⟩ := Option.map_eq_some_iff.mp (show (z_dp st).map (fun s => ((ls, s, h), ([] : List Prop))) = some ((ls', st', h'), cs) from h1)
    unfold z_dp at h2
    split at h2
    · cases h2; cases h3
      exact lv_dup hx hb hd rfl (kk H locs la hP hD hS hl)
    · cases h2; cases h3
      exact lv_dup hx hb hd rfl (kk H locs la hP hD hS hl)
    · cases h2
  | dup2 =>
    obtain ⟨s2, h2, h3⟩ := Option.map_eq_some_iff.mp (show (z_dp2 st).map (fun s => ((ls, s, h), ([] : List Prop))) = some ((ls', st', h'), cs) from h1)
    unfold z_dp2 at h2
    split at h2
    · cases h2; cases h3
      exact lv_dup2_11 hx hb hd rfl rfl (kk H locs la hP hD hS hl)
    · cases h2
  | pop =>
    obtain ⟨s2, h2, h3⟩ := Option.map_eq_some_iff.mp (show (z_pop st).map (fun s => ((ls, s, h), ([] : List Prop))) = some ((ls', st', h'), cs) from h1)
    unfold z_pop at h2
    split at h2
    · cases h2; cases h3
      exact lv_pop hx hb hd rfl (kk H locs la hP hD hS hl)
    · cases h2; cases h3
      exact lv_pop hx hb hd rfl (kk H locs la hP hD hS hl)
    · cases h2
  | iaload =>
    obtain ⟨⟨s2, c2⟩, h2, h3⟩ := Option.map_eq_some_iff.mp (show (z_ald sh h 1 st).map (fun q => ((ls, q.1, h), q.2)) = some ((ls', st', h'), cs) from h1)
    obtain ⟨a, o, r, n2, ks, rfl, h4, rfl, rfl⟩ := z_ald_of h2
    cases h3
    exact va_iald hx hb hK hP o 0 (z_wl_int h4) rfl hcs hd (kk H locs la hP hD hS hl)
  | iastore =>
    obtain ⟨⟨s2, h9, c2⟩, h2, h3⟩ := Option.map_eq_some_iff.mp (show (z_ast sh h 1 st).map (fun q => ((ls, q.1, q.2.1), q.2.2)) = some ((ls', st', h'), cs) from h1)
    obtain ⟨x, a, o, n2, ks, rfl, h4, rfl, rfl⟩ := z_ast_of h2
    cases h3
    exact va_iast hx hb hK hP hD hS o 0 (z_wl_int h4) rfl hcs hd (fun H1 locs1 hP hD hS => by
      rw [z_wl_setI h4] at hP hD
      exact kk H1 locs1 la hP hD hS hl)
  | getfield idx =>
    obtain ⟨s2, h2, h3⟩ := Option.map_eq_some_iff.mp (show (z_gf fl sh h idx st).map (fun s => ((ls, s, h), ([] : List Prop))) = some ((ls', st', h'), cs) from h1)
    obtain ⟨o, r, ci, k2, t, ks, q, v, rfl, rfl, h4, h5, h6, h7⟩ := z_gf_of h2
    cases h3
    obtain ⟨C, T, N, c1, c2, c3, c4, -⟩ := z_fok_spec (List.all_eq_true.mp hfl _ (z_fl_mem fl idx _ h4))
    have hv : (z_fs ad (h.1 o) (h.2 o) ks 0)[k2]? = some (z_con ad v) := by
      rw [z_fs_get, ← z_nth_eq, h6, h7 ad, Nat.zero_add]; rfl
    exact va_get hx hb hts (z_cl_all ci C T N c1).1 hown hK hP o (z_wl_obj h5) c1 k2 c2 (ref := C) (hts _ c4) (fun x hx => by rw [c3] at hx; exact hx) hv hd (kk H locs la hP hD hS hl)
  | putfield idx =>
    obtain ⟨⟨s2, h9, c2⟩, h2, h3⟩ := Option.map_eq_some_iff.mp (show (z_pf fl sh h idx st).map (fun q => ((ls, q.1, q.2.1), q.2.2)) = some ((ls', st', h'), cs) from h1)
    obtain ⟨o, ci, k2, ks, h5, h6⟩ := z_pf_of h2
    rcases h6 with ⟨x, rfl, rfl, h7, h8⟩ | ⟨x, rfl, rfl, h7, h8, rfl⟩
    · cases h3
      have hk2 : k2 < (z_fs ad (h.1 o) (h.2 o) ks 0).length := by
        rw [z_nth_eq] at h7
        rw [z_fs_len]
        exact (List.getElem?_eq_some_iff.mp h7).1
      rcases h8 with ⟨h8, rfl⟩ | ⟨h8, rfl⟩
      · obtain ⟨C, T, N, c1, c2, c3, c4, c5, -, -, -⟩ := z_fok_spec (List.all_eq_true.mp hfl _ (z_fl_mem fl idx _ h8))
        obtain ⟨u1, ⟨ty, u2⟩, u3⟩ := z_cl_all ci C T N c1
        exact va_put (v := .int x) hx hb hts u1 ty u2 u3 hown hK hP hD hS o (z_wl_obj h5) c1 k2 c2 (ref := C) (hts _ c4) (fun x hx => by rw [c3] at hx; exact hx) (c5 rfl).1 (c5 rfl).2 rfl rfl hk2 hd (fun H1 locs1 hP hD hS => by
          rw [z_wl_setO h5 h7] at hP hD
          exact kk H1 locs1 la hP hD hS hl)
      · obtain ⟨C, T, N, c1, c2, c3, c4, -, -, c5, -⟩ := z_fok_spec (List.all_eq_true.mp hfl _ (z_fl_mem fl idx _ h8))
        obtain ⟨u1, ⟨ty, u2⟩, u3⟩ := z_cl_all ci C T N c1
        exact va_put (v := .int x) hx hb hts u1 ty u2 u3 hown hK hP hD hS o (z_wl_obj h5) c1 k2 c2 (ref := C) (hts _ c4) (fun x hx => by rw [c3] at hx; exact hx) (c5 rfl).1 (c5 rfl).2 (z_nar_b hcs).1 (z_nar_b hcs).2.1 hk2 hd (fun H1 locs1 hP hD hS => by
          rw [z_wl_setO h5 h7] at hP hD
          exact kk H1 locs1 la hP hD hS hl)
    · cases h3
      have hk2 : k2 < (z_fs ad (h.1 o) (h.2 o) ks 0).length := by
        rw [z_nth_eq] at h7
        rw [z_fs_len]
        exact (List.getElem?_eq_some_iff.mp h7).1
      obtain ⟨C, T, N, c1, c2, c3, c4, -, c5, -, -⟩ := z_fok_spec (List.all_eq_true.mp hfl _ (z_fl_mem fl idx _ h8))
      obtain ⟨u1, ⟨ty, u2⟩, u3⟩ := z_cl_all ci C T N c1
      exact va_put (v := .long x) hx hb hts u1 ty u2 u3 hown hK hP hD hS o (z_wl_obj h5) c1 k2 c2 (ref := C) (hts _ c4) (fun x hx => by rw [c3] at hx; exact hx) (c5 rfl).1 (c5 rfl).2 rfl rfl hk2 hd (fun H1 locs1 hP hD hS => by
        rw [z_wl_setOL h5 h7] at hP hD
        exact kk H1 locs1 la hP hD hS hl)
  | arraylength =>
    obtain ⟨s2, h2, h3⟩ := Option.map_eq_some_iff.mp (show (z_aln sh st).map (fun s => ((ls, s, h), ([] : List Prop))) = some ((ls', st', h'), cs) from h1)
    unfold z_aln at h2
    split at h2
    · split at h2
      · rename_i hs2
        cases h2; cases h3
        exact va_alen hx hb hK hP _ 0 (z_wl_int hs2) (ty := .int) rfl rfl hd (kk H locs la hP hD hS hl)
      · cases h2
    · cases h2
  | _ => cases h1
end ZZ
