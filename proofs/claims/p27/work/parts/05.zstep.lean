/-! ===== the judgement over abstract heaps, and one instruction ===== -/
def z_tys (dA : Nat → ClassId) : List (ClassId × FieldType) := [(dA 1, .int)]
/-- a class' fields by the numbers of its own pool: number, class, slot, kind (0 int, 1 long, 3 boolean, 2 reference) -/
abbrev z_Fl : Type := List (Nat × Nat × Nat × Nat)
def z_fl : z_Fl → Nat → Option (Nat × Nat × Nat)
  | [], _ => none
  | q :: t, i => match Nat.beq q.1 i with
    | true => some q.2
    | false => z_fl t i
def z_fok (own : String) (q : Nat × Nat × Nat × Nat) : Bool := match vwCl[q.2.1]? with
  | some (C, T, N) => decide (q.2.2.1 < N) && (decide ((T q.2.2.1).1 = C) && (decide (Cond.fieldLink own q.1 C (T q.2.2.1).2.1 (T q.2.2.1).2.2.1 ∈ z_flinks) && (match q.2.2.2 with
    | 0 => !(T q.2.2.1).2.2.2 && decide (parseFieldDescriptor (T q.2.2.1).2.2.1 = some .int)
    | 1 => !(T q.2.2.1).2.2.2 && decide (parseFieldDescriptor (T q.2.2.1).2.2.1 = some .long)
    | 3 => !(T q.2.2.1).2.2.2 && decide (parseFieldDescriptor (T q.2.2.1).2.2.1 = some .boolean)
    | _ => (T q.2.2.1).2.2.2)))
  | none => false
def z_fsok (own : String) (fl : z_Fl) : Prop := fl.all (z_fok own) = true
theorem z_fl_mem : ∀ (fl : z_Fl) (i : Nat) (q : Nat × Nat × Nat), z_fl fl i = some q → (i, q) ∈ fl
  | [], i, q, h => by simp [z_fl] at h
  | p :: t, i, q, h => by
    unfold z_fl at h
    split at h
    · rename_i hb
      have := Nat.eq_of_beq_eq_true hb
      cases h
      rw [← this]
      exact List.mem_cons_self
    · exact List.mem_cons_of_mem _ (z_fl_mem t i q h)
/-- what the tables say of a class of the world -/
def z_clok (ci : Nat) : Prop := ∀ C T N, vwCl[ci]? = some (C, T, N) → (∀ w ∈ u_ws C T N, w ∈ z_big) ∧ (∃ ty : Nat → FieldType, ∀ k, k < N → parseFieldDescriptor (T k).2.2.1 = some (ty k)) ∧ (∀ a, a < N → ∀ b, b < N → a ≠ b → (T a).2.1 ≠ (T b).2.1)
theorem z_ub0 : ∀ w ∈ wsX00, w ∈ z_big := by decide +kernel
theorem z_ub1 : ∀ w ∈ wsX10, w ∈ z_big := by decide +kernel
theorem z_ub2 : ∀ w ∈ wsX20, w ∈ z_big := by decide +kernel
theorem z_ub3 : ∀ w ∈ wsX30, w ∈ z_big := by decide +kernel
theorem z_ub4 : ∀ w ∈ wsX40, w ∈ z_big := by decide +kernel
theorem z_ub5 : ∀ w ∈ wsX50, w ∈ z_big := by decide +kernel
theorem z_ub6 : ∀ w ∈ wsX60, w ∈ z_big := by decide +kernel
theorem z_ub7 : ∀ w ∈ wsX70, w ∈ z_big := by decide +kernel
theorem z_cl_all (ci : Nat) : z_clok ci := by
  intro C T N h
  match ci, h with
  | 0, h => cases h; exact ⟨z_ub0, ⟨tyX0, tyX0_ok⟩, nmX0⟩
  | 1, h => cases h; exact ⟨z_ub1, ⟨tyX1, tyX1_ok⟩, nmX1⟩
  | 2, h => cases h; exact ⟨z_ub2, ⟨tyX2, tyX2_ok⟩, nmX2⟩
  | 3, h => cases h; exact ⟨z_ub3, ⟨tyX3, tyX3_ok⟩, nmX3⟩
  | 4, h => cases h; exact ⟨z_ub4, ⟨tyX4, tyX4_ok⟩, nmX4⟩
  | 5, h => cases h; exact ⟨z_ub5, ⟨tyX5, tyX5_ok⟩, nmX5⟩
  | 6, h => cases h; exact ⟨z_ub6, ⟨tyX6, tyX6_ok⟩, nmX6⟩
  | 7, h => cases h; exact ⟨z_ub7, ⟨tyX7, tyX7_ok⟩, nmX7⟩
  | n + 8, h => simp [vwCl] at h
/-- one instruction's numbers -/
def z_bi : Int → Int32
  | .ofNat k => nI k
  | .negSucc 0 => -1
  | .negSucc (k + 1) => Int32.ofInt (.negSucc (k + 1))
theorem z_bi_eq (n : Int) : Int32.ofInt n = z_bi n := by
  match n with
  | .ofNat k => exact Int32.ofInt_eq_ofNat
  | .negSucc 0 => rfl
  | .negSucc (k + 1) => rfl
theorem z_bi_8 : ∀ k, k < 128 → (Int8.ofInt (Int.ofNat k)).toInt32 = nI k := by decide +kernel
abbrev z_Y : Type := List (Option Value) × List Value × z_H
def z_b2 (f : Int32 → Int32 → Int32) : List Value → Option (List Value)
  | .int b :: .int a :: r => some (.int (f a b) :: r)
  | _ => none
theorem z_b2_of {f : Int32 → Int32 → Int32} {st st' : List Value} (h : z_b2 f st = some st') : ∃ a b r, st = .int b :: .int a :: r ∧ st' = .int (f a b) :: r := by
  unfold z_b2 at h
  split at h
  · cases h; exact ⟨_, _, _, rfl, rfl⟩
  · cases h
def z_b2L (f : Int64 → Int64 → Value) : List Value → Option (List Value)
  | .long b :: .long a :: r => some (f a b :: r)
  | _ => none
theorem z_b2L_of {f : Int64 → Int64 → Value} {st st' : List Value} (h : z_b2L f st = some st') : ∃ a b r, st = .long b :: .long a :: r ∧ st' = f a b :: r := by
  unfold z_b2L at h
  split at h
  · cases h; exact ⟨_, _, _, rfl, rfl⟩
  · cases h
def z_div (f : Int32 → Int32 → Int32) : List Value → Option (List Value × List Prop)
  | .int b :: .int a :: r => some (.int (f a b) :: r, [¬ b = 0])
  | _ => none
theorem z_div_of {f : Int32 → Int32 → Int32} {st st' : List Value} {cs : List Prop} (h : z_div f st = some (st', cs)) : ∃ a b r, st = .int b :: .int a :: r ∧ st' = .int (f a b) :: r ∧ cs = [¬ b = 0] := by
  unfold z_div at h
  split at h
  · cases h; exact ⟨_, _, _, rfl, rfl, rfl⟩
  · cases h
/-- loads: a local of a kind -/
def z_ldI (ls : List (Option Value)) (k : Nat) : Option Value := match z_nth ls k with
  | some (some (.int x)) => some (.int x)
  | _ => none
theorem z_ldI_of {ls : List (Option Value)} {k : Nat} {v : Value} (h : z_ldI ls k = some v) : ∃ x, v = .int x ∧ z_nth ls k = some (some (.int x)) := by
  unfold z_ldI at h
  split at h
  · cases h; exact ⟨_, rfl, by assumption⟩
  · cases h
def z_ldL (ls : List (Option Value)) (k : Nat) : Option Value := match z_nth ls k with
  | some (some (.long x)) => some (.long x)
  | _ => none
theorem z_ldL_of {ls : List (Option Value)} {k : Nat} {v : Value} (h : z_ldL ls k = some v) : ∃ x, v = .long x ∧ z_nth ls k = some (some (.long x)) := by
  unfold z_ldL at h
  split at h
  · cases h; exact ⟨_, rfl, by assumption⟩
  · cases h
def z_ldA (ls : List (Option Value)) (k : Nat) : Option Value := match z_nth ls k with
  | some (some (.ref x)) => some (.ref x)
  | _ => none
theorem z_ldA_of {ls : List (Option Value)} {k : Nat} {v : Value} (h : z_ldA ls k = some v) : ∃ x, v = .ref x ∧ z_nth ls k = some (some (.ref x)) := by
  unfold z_ldA at h
  split at h
  · cases h; exact ⟨_, rfl, by assumption⟩
  · cases h
def z_stI (ls : List (Option Value)) (k : Nat) : List Value → Option (List (Option Value) × List Value)
  | .int x :: r => (z_sto ls k (.int x)).map (fun l => (l, r))
  | _ => none
theorem z_stI_of {ls ls' : List (Option Value)} {k : Nat} {st st' : List Value} (h : z_stI ls k st = some (ls', st')) : ∃ x, st = .int x :: st' ∧ z_sto ls k (.int x) = some ls' := by
  unfold z_stI at h
  split at h
  · simp only [Option.map_eq_some_iff, Prod.mk.injEq] at h
    obtain ⟨l, h1, h2, h3⟩ := h
    subst h2; subst h3
    exact ⟨_, rfl, h1⟩
  · cases h
def z_stA (ls : List (Option Value)) (k : Nat) : List Value → Option (List (Option Value) × List Value)
  | .ref x :: r => (z_sto ls k (.ref x)).map (fun l => (l, r))
  | _ => none
theorem z_stA_of {ls ls' : List (Option Value)} {k : Nat} {st st' : List Value} (h : z_stA ls k st = some (ls', st')) : ∃ x, st = .ref x :: st' ∧ z_sto ls k (.ref x) = some ls' := by
  unfold z_stA at h
  split at h
  · simp only [Option.map_eq_some_iff, Prod.mk.injEq] at h
    obtain ⟨l, h1, h2, h3⟩ := h
    subst h2; subst h3
    exact ⟨_, rfl, h1⟩
  · cases h
def z_stL (ls : List (Option Value)) (k : Nat) : List Value → Option (List (Option Value) × List Value)
  | .long x :: r => (z_sto2 ls k (.long x)).map (fun l => (l, r))
  | _ => none
theorem z_stL_of {ls ls' : List (Option Value)} {k : Nat} {st st' : List Value} (h : z_stL ls k st = some (ls', st')) : ∃ x, st = .long x :: st' ∧ z_sto2 ls k (.long x) = some ls' := by
  unfold z_stL at h
  split at h
  · simp only [Option.map_eq_some_iff, Prod.mk.injEq] at h
    obtain ⟨l, h1, h2, h3⟩ := h
    subst h2; subst h3
    exact ⟨_, rfl, h1⟩
  · cases h
/-- arrays -/
def z_av (h : z_H) (t o : Nat) (i : Int32) : Value := match t with
  | 2 => .long (h.2 o i.toNatClampNeg)
  | _ => .int (h.1 o i.toNatClampNeg)
def z_ac (t n : Nat) (i x : Int32) : List Prop := match t with
  | 3 => [vp_in i n, x = 0 ∨ x = 1]
  | _ => [vp_in i n]
def z_ald (sh : z_Sh) (h : z_H) (t : Nat) : List Value → Option (List Value × List Prop)
  | .int i :: .ref o :: r => match z_nth sh o with
    | some (t', n, _) => match Nat.beq t' t with
      | true => some (z_av h t o i :: r, [vp_in i n])
      | false => none
    | none => none
  | _ => none
theorem z_ald_of {sh : z_Sh} {h : z_H} {t : Nat} {st st' : List Value} {cs : List Prop} (hh : z_ald sh h t st = some (st', cs)) : ∃ i o r n ks, st = .int i :: .ref o :: r ∧ z_nth sh o = some (t, n, ks) ∧ cs = [vp_in i n] ∧ st' = z_av h t o i :: r := by
  unfold z_ald at hh
  split at hh
  · split at hh
    · split at hh
      · rename_i hb
        have := Nat.eq_of_beq_eq_true hb
        subst this
        cases hh
        exact ⟨_, _, _, _, _, rfl, by assumption, rfl, rfl⟩
      · cases hh
    · cases hh
  · cases hh
def z_ast (sh : z_Sh) (h : z_H) (t : Nat) : List Value → Option (List Value × z_H × List Prop)
  | .int x :: .int i :: .ref o :: r => match z_nth sh o with
    | some (t', n, _) => match Nat.beq t' t with
      | true => some (r, z_set h o i.toNatClampNeg x, z_ac t n i x)
      | false => none
    | none => none
  | _ => none
theorem z_ast_of {sh : z_Sh} {h h' : z_H} {t : Nat} {st st' : List Value} {cs : List Prop} (hh : z_ast sh h t st = some (st', h', cs)) : ∃ x i o n ks, st = .int x :: .int i :: .ref o :: st' ∧ z_nth sh o = some (t, n, ks) ∧ h' = z_set h o i.toNatClampNeg x ∧ cs = z_ac t n i x := by
  unfold z_ast at hh
  split at hh
  · split at hh
    · split at hh
      · rename_i hb
        have := Nat.eq_of_beq_eq_true hb
        subst this
        cases hh
        exact ⟨_, _, _, _, _, rfl, by assumption, rfl, rfl⟩
      · cases hh
    · cases hh
  · cases hh
def z_astL (sh : z_Sh) (h : z_H) : List Value → Option (List Value × z_H × List Prop)
  | .long x :: .int i :: .ref o :: r => match z_nth sh o with
    | some (2, n, _) => some (r, z_setL h o i.toNatClampNeg x, [vp_in i n])
    | _ => none
  | _ => none
theorem z_astL_of {sh : z_Sh} {h h' : z_H} {st st' : List Value} {cs : List Prop} (hh : z_astL sh h st = some (st', h', cs)) : ∃ x i o n ks, st = .long x :: .int i :: .ref o :: st' ∧ z_nth sh o = some (2, n, ks) ∧ h' = z_setL h o i.toNatClampNeg x ∧ cs = [vp_in i n] := by
  unfold z_astL at hh
  split at hh
  · split at hh
    · cases hh
      exact ⟨_, _, _, _, _, rfl, by assumption, rfl, rfl⟩
    · cases hh
  · cases hh
def z_aln (sh : z_Sh) : List Value → Option (List Value)
  | .ref o :: r => match z_nth sh o with
    | some (1, n, _) => some (.int (nI n) :: r)
    | _ => none
  | _ => none
/-- fields -/
def z_gf (fl : z_Fl) (sh : z_Sh) (h : z_H) (idx : Nat) : List Value → Option (List Value)
  | .ref o :: r => match z_fl fl idx with
    | some (ci, k, _) => match z_nth sh o with
      | some (0, ci', ks) => match Nat.beq ci' ci with
        | true => match z_nth ks k with
          | some 0 => some (.int (h.1 o k) :: r)
          | some 1 => some (.long (h.2 o k) :: r)
          | some (q + 3) => some (.ref q :: r)
          | _ => none
        | false => none
      | _ => none
    | none => none
  | _ => none
theorem z_gf_of {fl : z_Fl} {sh : z_Sh} {h : z_H} {idx : Nat} {st st' : List Value} (hh : z_gf fl sh h idx st = some st') : ∃ o r ci k t ks q v, st = .ref o :: r ∧ st' = v :: r ∧ z_fl fl idx = some (ci, k, t) ∧ z_nth sh o = some (0, ci, ks) ∧ z_nth ks k = some q ∧ ∀ ad, z_con ad v = z_fv ad (h.1 o) (h.2 o) k q := by
  unfold z_gf at hh
  split at hh
  · split at hh
    · split at hh
      · split at hh
        · rename_i hb
          have := Nat.eq_of_beq_eq_true hb
          subst this
          split at hh
          · cases hh; exact ⟨_, _, _, _, _, _, _, _, rfl, rfl, by assumption, by assumption, by assumption, fun _ => rfl⟩
          · cases hh; exact ⟨_, _, _, _, _, _, _, _, rfl, rfl, by assumption, by assumption, by assumption, fun _ => rfl⟩
          · cases hh; exact ⟨_, _, _, _, _, _, _, _, rfl, rfl, by assumption, by assumption, by assumption, fun _ => rfl⟩
          · cases hh
        · cases hh
      · cases hh
    · cases hh
  · cases hh
def z_pf (fl : z_Fl) (sh : z_Sh) (h : z_H) (idx : Nat) : List Value → Option (List Value × z_H × List Prop)
  | .int x :: .ref o :: r => match z_fl fl idx with
    | some (ci, k, t) => match z_nth sh o with
      | some (0, ci', ks) => match Nat.beq ci' ci with
        | true => match z_nth ks k with
          | some 0 => match t with
            | 0 => some (r, z_set h o k x, [])
            | 3 => some (r, z_set h o k x, [x = 0 ∨ x = 1])
            | _ => none
          | _ => none
        | false => none
      | _ => none
    | none => none
  | .long x :: .ref o :: r => match z_fl fl idx with
    | some (ci, k, 1) => match z_nth sh o with
      | some (0, ci', ks) => match Nat.beq ci' ci with
        | true => match z_nth ks k with
          | some 1 => some (r, z_setL h o k x, [])
          | _ => none
        | false => none
      | _ => none
    | _ => none
  | _ => none
theorem z_pf_of {fl : z_Fl} {sh : z_Sh} {h h' : z_H} {idx : Nat} {st st' : List Value} {cs : List Prop} (hh : z_pf fl sh h idx st = some (st', h', cs)) : ∃ o ci k ks, z_nth sh o = some (0, ci, ks) ∧
    ((∃ x, st = .int x :: .ref o :: st' ∧ h' = z_set h o k x ∧ z_nth ks k = some 0 ∧ ((z_fl fl idx = some (ci, k, 0) ∧ cs = []) ∨ (z_fl fl idx = some (ci, k, 3) ∧ cs = [x = 0 ∨ x = 1]))) ∨
     (∃ x, st = .long x :: .ref o :: st' ∧ h' = z_setL h o k x ∧ z_nth ks k = some 1 ∧ z_fl fl idx = some (ci, k, 1) ∧ cs = [])) := by
  unfold z_pf at hh
  split at hh
  · split at hh
    · split at hh
      · split at hh
        · rename_i hb
          have := Nat.eq_of_beq_eq_true hb
          subst this
          split at hh
          · split at hh
            · cases hh; exact ⟨_, _, _, _, by assumption, Or.inl ⟨_, rfl, rfl, by assumption, Or.inl ⟨by assumption, rfl⟩⟩⟩
            · cases hh; exact ⟨_, _, _, _, by assumption, Or.inl ⟨_, rfl, rfl, by assumption, Or.inr ⟨by assumption, rfl⟩⟩⟩
            · cases hh
          · cases hh
        · cases hh
      · cases hh
    · cases hh
  · split at hh
    · split at hh
      · split at hh
        · rename_i hb
          have := Nat.eq_of_beq_eq_true hb
          subst this
          split at hh
          · cases hh; exact ⟨_, _, _, _, by assumption, Or.inr ⟨_, rfl, rfl, by assumption, by assumption, rfl⟩⟩
          · cases hh
        · cases hh
      · cases hh
    · cases hh
  · cases hh
def z_dp : List Value → Option (List Value)
  | .int a :: r => some (.int a :: .int a :: r)
  | .ref a :: r => some (.ref a :: .ref a :: r)
  | _ => none
def z_dp2 : List Value → Option (List Value)
  | .int a :: .ref b :: r => some (.int a :: .ref b :: .int a :: .ref b :: r)
  | _ => none
def z_i2l : List Value → Option (List Value)
  | .int a :: r => some (.long a.toInt64 :: r)
  | _ => none
def z_lsh : List Value → Option (List Value)
  | .int y :: .long x :: r => some (.long (x <<< (y.toInt64 &&& 63)) :: r)
  | _ => none
def z_lsr : List Value → Option (List Value)
  | .int y :: .long x :: r => some (.long (x >>> (y.toInt64 &&& 63)) :: r)
  | _ => none
def z_pop : List Value → Option (List Value)
  | .int _ :: r => some r
  | .ref _ :: r => some r
  | _ => none
def z_inc (ls : List (Option Value)) (i : Nat) (n : Int) : Option (List (Option Value)) := match z_nth ls i with
  | some (some (.int x)) => z_sto ls i (.int (x + z_bi n))
  | _ => none
/-- one instruction that neither jumps nor calls nor makes: locals, stack, heap, and what must hold there -/
def z_s1 (fl : z_Fl) (sh : z_Sh) : Instr → z_Y → Option (z_Y × List Prop)
  | .aload_n k, (ls, st, h) => (z_ldA ls k.val).map (fun v => ((ls, v :: st, h), []))
  | .aload k, (ls, st, h) => (z_ldA ls k).map (fun v => ((ls, v :: st, h), []))
  | .iload_n k, (ls, st, h) => (z_ldI ls k.val).map (fun v => ((ls, v :: st, h), []))
  | .iload k, (ls, st, h) => (z_ldI ls k).map (fun v => ((ls, v :: st, h), []))
  | .lload_n k, (ls, st, h) => (z_ldL ls k.val).map (fun v => ((ls, v :: st, h), []))
  | .lload k, (ls, st, h) => (z_ldL ls k).map (fun v => ((ls, v :: st, h), []))
  | .istore_n k, (ls, st, h) => (z_stI ls k.val st).map (fun q => ((q.1, q.2, h), []))
  | .istore k, (ls, st, h) => (z_stI ls k st).map (fun q => ((q.1, q.2, h), []))
  | .astore_n k, (ls, st, h) => (z_stA ls k.val st).map (fun q => ((q.1, q.2, h), []))
  | .astore k, (ls, st, h) => (z_stA ls k st).map (fun q => ((q.1, q.2, h), []))
  | .lstore_n k, (ls, st, h) => (z_stL ls k.val st).map (fun q => ((q.1, q.2, h), []))
  | .lstore k, (ls, st, h) => (z_stL ls k st).map (fun q => ((q.1, q.2, h), []))
  | .iinc i n, (ls, st, h) => (z_inc ls i n).map (fun l => ((l, st, h), []))
  | .iconst n, (ls, st, h) => some ((ls, .int (z_bi n) :: st, h), [])
  | .bipush (.ofNat n), (ls, st, h) => match Nat.blt n 128 with
    | true => some ((ls, .int (nI n) :: st, h), [])
    | false => none
  | .bipush (.negSucc n), (ls, st, h) => some ((ls, .int (z_bi (.negSucc n)) :: st, h), [(Int8.ofInt (.negSucc n)).toInt32 = z_bi (.negSucc n)])
  | .sipush (.ofNat n), (ls, st, h) => some ((ls, .int (nI n) :: st, h), [(Int16.ofInt (Int.ofNat n)).toInt32 = nI n])
  | .lconst 0, (ls, st, h) => some ((ls, .long 0 :: st, h), [])
  | .lconst 1, (ls, st, h) => some ((ls, .long 1 :: st, h), [])
  | .iadd, (ls, st, h) => (z_b2 (fun a b => a + b) st).map (fun s => ((ls, s, h), []))
  | .isub, (ls, st, h) => (z_b2 (fun a b => a - b) st).map (fun s => ((ls, s, h), []))
  | .imul, (ls, st, h) => (z_b2 (fun a b => a * b) st).map (fun s => ((ls, s, h), []))
  | .iand, (ls, st, h) => (z_b2 (fun a b => a &&& b) st).map (fun s => ((ls, s, h), []))
  | .ior, (ls, st, h) => (z_b2 (fun a b => a ||| b) st).map (fun s => ((ls, s, h), []))
  | .ixor, (ls, st, h) => (z_b2 (fun a b => a ^^^ b) st).map (fun s => ((ls, s, h), []))
  | .ishl, (ls, st, h) => (z_b2 (fun a b => a <<< (b &&& 31)) st).map (fun s => ((ls, s, h), []))
  | .ishr, (ls, st, h) => (z_b2 (fun a b => a >>> (b &&& 31)) st).map (fun s => ((ls, s, h), []))
  | .iushr, (ls, st, h) => (z_b2 (fun a b => (a.toUInt32 >>> (b.toUInt32 &&& Int32.toUInt32 31)).toInt32) st).map (fun s => ((ls, s, h), []))
  | .idiv, (ls, st, h) => (z_div (fun a b => a / b) st).map (fun q => ((ls, q.1, h), q.2))
  | .irem, (ls, st, h) => (z_div (fun a b => a - a / b * b) st).map (fun q => ((ls, q.1, h), q.2))
  | .land, (ls, st, h) => (z_b2L (fun a b => .long (a &&& b)) st).map (fun s => ((ls, s, h), []))
  | .lor, (ls, st, h) => (z_b2L (fun a b => .long (a ||| b)) st).map (fun s => ((ls, s, h), []))
  | .lxor, (ls, st, h) => (z_b2L (fun a b => .long (a ^^^ b)) st).map (fun s => ((ls, s, h), []))
  | .lcmp, (ls, st, h) => (z_b2L (fun a b => .int (lg_cmp a b)) st).map (fun s => ((ls, s, h), []))
  | .lshr, (ls, st, h) => (z_lsr st).map (fun s => ((ls, s, h), []))
  | .lshl, (ls, st, h) => (z_lsh st).map (fun s => ((ls, s, h), []))
  | .i2l, (ls, st, h) => (z_i2l st).map (fun s => ((ls, s, h), []))
  | .dup, (ls, st, h) => (z_dp st).map (fun s => ((ls, s, h), []))
  | .dup2, (ls, st, h) => (z_dp2 st).map (fun s => ((ls, s, h), []))
  | .pop, (ls, st, h) => (z_pop st).map (fun s => ((ls, s, h), []))
  | .iaload, (ls, st, h) => (z_ald sh h 1 st).map (fun q => ((ls, q.1, h), q.2))
  | .iastore, (ls, st, h) => (z_ast sh h 1 st).map (fun q => ((ls, q.1, q.2.1), q.2.2))
  | .arraylength, (ls, st, h) => (z_aln sh st).map (fun s => ((ls, s, h), []))
  | .getfield idx, (ls, st, h) => (z_gf fl sh h idx st).map (fun s => ((ls, s, h), []))
  | .putfield idx, (ls, st, h) => (z_pf fl sh h idx st).map (fun q => ((ls, q.1, q.2.1), q.2.2))
  | _, _ => none
def z_all : List Prop → Prop
  | [] => True
  | [c] => c
  | c :: cs => c ∧ z_all cs
