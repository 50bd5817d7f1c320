/-! ===== a straight stretch; branches ===== -/
section ZR
variable {p : Program} {l : Launch} {e : Env} {R : Room} {s : State} {m : MethodId} {args : Array Value} {below : List Frame} {meth : Method} {c : Code} {D : va_G} {dA : Nat → ClassId} {A : Nat → Prop} {H0 : Heap} {nL : Nat} {ad : Nat → Nat} {Q : State → Prop} {own : String} {cc : ByteArray} {fl : z_Fl}
def z_run (fl : z_Fl) (sh : z_Sh) : List Instr → z_Y → Option (z_Y × List Prop)
  | [], x => some (x, [])
  | i :: is, x => match z_s1 fl sh i x with
    | some (x', cs) => match z_run fl sh is x' with
      | some (y, cs') => some (y, cs ++ cs')
      | none => none
    | none => none
def z_dec (cc : ByteArray) : Nat → List Instr → Bool
  | _, [] => true
  | pc, i :: is => decide (decode cc pc = .ok (i, z_len i)) && z_dec cc (pc + z_len i) is
def z_end : Nat → List Instr → Nat
  | pc, [] => pc
  | pc, i :: is => z_end (pc + z_len i) is
theorem z_all_app : ∀ (a b : List Prop), z_all (a ++ b) → z_all a ∧ z_all b
  | [], b, h => ⟨trivial, h⟩
  | [c], [], h => ⟨h, trivial⟩
  | [c], d :: b, h => ⟨h.1, h.2⟩
  | c :: d :: a, b, h => by
    have h1 : c ∧ z_all ((d :: a) ++ b) := h
    obtain ⟨h2, h3⟩ := z_all_app (d :: a) b h1.2
    exact ⟨⟨h1.1, h2⟩, h3⟩
theorem z_go1 (hC : z_Cx p s m args c D dA A H0 own cc nL fl) {k n : Nat} {sh : z_Sh} : ∀ (is : List Instr) (pc : Nat) (x y : z_Y) (cs : List Prop), z_dec cc pc is = true → z_run fl sh is x = some (y, cs) → z_all cs → z_Z p l e R s m args below meth c D dA A H0 nL ad Q k n (z_end pc is) y.1 y.2.1 sh y.2.2 → z_Z p l e R s m args below meth c D dA A H0 nL ad Q k n pc x.1 x.2.1 sh x.2.2
  | [], pc, x, y, cs, hd, hr, hc, kk => by
    cases hr
    exact kk
  | i :: is, pc, x, y, cs, hd, hr, hc, kk => by
    unfold z_run at hr
    split at hr
    · rename_i x' cs1 h1
      split at hr
      · rename_i y2 cs2 h2
        cases hr
        obtain ⟨c1, c2⟩ := z_all_app _ _ hc
        simp only [z_dec, Bool.and_eq_true, decide_eq_true_eq] at hd
        obtain ⟨ls', st', h'⟩ := x'
        obtain ⟨ls, st, h⟩ := x
        exact z_s1_ok hC hd.1 h1 c1 (z_go1 hC is _ _ _ _ hd.2 h2 c2 kk)
      · cases hr
    · cases hr
/-- a straight stretch -/
theorem z_go (hC : z_Cx p s m args c D dA A H0 own cc nL fl) {k n pc pc' : Nat} {ls ls' : List (Option Value)} {st st' : List Value} {sh : z_Sh} {h h' : z_H} {cs : List Prop} (is : List Instr) (hd : z_dec cc pc is = true) (hp : z_end pc is = pc') (hr : z_run fl sh is (ls, st, h) = some ((ls', st', h'), cs)) (hc : z_all cs)
    (kk : z_Z p l e R s m args below meth c D dA A H0 nL ad Q k n pc' ls' st' sh h') : z_Z p l e R s m args below meth c D dA A H0 nL ad Q k n pc ls st sh h := by
  subst hp
  exact z_go1 hC is pc (ls, st, h) (ls', st', h') cs hd hr hc kk
theorem z_if_eq (hC : z_Cx p s m args c D dA A H0 own cc nL fl) {k n pc : Nat} {ls : List (Option Value)} {st : List Value} {sh : z_Sh} {h : z_H} {x : Int32} {off : Int} (tgt : Nat) (hd : decode cc pc = .ok (.ifCond .eq off, 3)) (ht : (pc : Int) + off = (tgt : Int)) (kt : x = 0 → z_Z p l e R s m args below meth c D dA A H0 nL ad Q k n tgt ls st sh h) (kf : ¬ x = 0 → z_Z p l e R s m args below meth c D dA A H0 nL ad Q k n (pc + 3) ls st sh h) : z_Z p l e R s m args below meth c D dA A H0 nL ad Q k n pc ls (.int x :: st) sh h := fun H locs la hP hD hS hl => lv_if_eq hC.1 hC.2.1 hd ht (fun q => kt q H locs la hP hD hS hl) (fun q => kf q H locs la hP hD hS hl)
theorem z_if_ne (hC : z_Cx p s m args c D dA A H0 own cc nL fl) {k n pc : Nat} {ls : List (Option Value)} {st : List Value} {sh : z_Sh} {h : z_H} {x : Int32} {off : Int} (tgt : Nat) (hd : decode cc pc = .ok (.ifCond .ne off, 3)) (ht : (pc : Int) + off = (tgt : Int)) (kt : ¬ x = 0 → z_Z p l e R s m args below meth c D dA A H0 nL ad Q k n tgt ls st sh h) (kf : x = 0 → z_Z p l e R s m args below meth c D dA A H0 nL ad Q k n (pc + 3) ls st sh h) : z_Z p l e R s m args below meth c D dA A H0 nL ad Q k n pc ls (.int x :: st) sh h := fun H locs la hP hD hS hl => lv_if_ne hC.1 hC.2.1 hd ht (fun q => kt q H locs la hP hD hS hl) (fun q => kf q H locs la hP hD hS hl)
theorem z_if_lt (hC : z_Cx p s m args c D dA A H0 own cc nL fl) {k n pc : Nat} {ls : List (Option Value)} {st : List Value} {sh : z_Sh} {h : z_H} {x : Int32} {off : Int} (tgt : Nat) (hd : decode cc pc = .ok (.ifCond .lt off, 3)) (ht : (pc : Int) + off = (tgt : Int)) (kt : x < 0 → z_Z p l e R s m args below meth c D dA A H0 nL ad Q k n tgt ls st sh h) (kf : ¬ x < 0 → z_Z p l e R s m args below meth c D dA A H0 nL ad Q k n (pc + 3) ls st sh h) : z_Z p l e R s m args below meth c D dA A H0 nL ad Q k n pc ls (.int x :: st) sh h := fun H locs la hP hD hS hl => lv_if_lt hC.1 hC.2.1 hd ht (fun q => kt q H locs la hP hD hS hl) (fun q => kf q H locs la hP hD hS hl)
theorem z_if_ge (hC : z_Cx p s m args c D dA A H0 own cc nL fl) {k n pc : Nat} {ls : List (Option Value)} {st : List Value} {sh : z_Sh} {h : z_H} {x : Int32} {off : Int} (tgt : Nat) (hd : decode cc pc = .ok (.ifCond .ge off, 3)) (ht : (pc : Int) + off = (tgt : Int)) (kt : 0 ≤ x → z_Z p l e R s m args below meth c D dA A H0 nL ad Q k n tgt ls st sh h) (kf : ¬ 0 ≤ x → z_Z p l e R s m args below meth c D dA A H0 nL ad Q k n (pc + 3) ls st sh h) : z_Z p l e R s m args below meth c D dA A H0 nL ad Q k n pc ls (.int x :: st) sh h := fun H locs la hP hD hS hl => lv_if_ge hC.1 hC.2.1 hd ht (fun q => kt q H locs la hP hD hS hl) (fun q => kf q H locs la hP hD hS hl)
theorem z_if_gt (hC : z_Cx p s m args c D dA A H0 own cc nL fl) {k n pc : Nat} {ls : List (Option Value)} {st : List Value} {sh : z_Sh} {h : z_H} {x : Int32} {off : Int} (tgt : Nat) (hd : decode cc pc = .ok (.ifCond .gt off, 3)) (ht : (pc : Int) + off = (tgt : Int)) (kt : 0 < x → z_Z p l e R s m args below meth c D dA A H0 nL ad Q k n tgt ls st sh h) (kf : ¬ 0 < x → z_Z p l e R s m args below meth c D dA A H0 nL ad Q k n (pc + 3) ls st sh h) : z_Z p l e R s m args below meth c D dA A H0 nL ad Q k n pc ls (.int x :: st) sh h := fun H locs la hP hD hS hl => lv_if_gt hC.1 hC.2.1 hd ht (fun q => kt q H locs la hP hD hS hl) (fun q => kf q H locs la hP hD hS hl)
theorem z_if_le (hC : z_Cx p s m args c D dA A H0 own cc nL fl) {k n pc : Nat} {ls : List (Option Value)} {st : List Value} {sh : z_Sh} {h : z_H} {x : Int32} {off : Int} (tgt : Nat) (hd : decode cc pc = .ok (.ifCond .le off, 3)) (ht : (pc : Int) + off = (tgt : Int)) (kt : x ≤ 0 → z_Z p l e R s m args below meth c D dA A H0 nL ad Q k n tgt ls st sh h) (kf : ¬ x ≤ 0 → z_Z p l e R s m args below meth c D dA A H0 nL ad Q k n (pc + 3) ls st sh h) : z_Z p l e R s m args below meth c D dA A H0 nL ad Q k n pc ls (.int x :: st) sh h := fun H locs la hP hD hS hl => lv_if_le hC.1 hC.2.1 hd ht (fun q => kt q H locs la hP hD hS hl) (fun q => kf q H locs la hP hD hS hl)
theorem z_icmp_eq (hC : z_Cx p s m args c D dA A H0 own cc nL fl) {k n pc : Nat} {ls : List (Option Value)} {st : List Value} {sh : z_Sh} {h : z_H} {x y : Int32} {off : Int} (tgt : Nat) (hd : decode cc pc = .ok (.if_icmp .eq off, 3)) (ht : (pc : Int) + off = (tgt : Int)) (kt : x = y → z_Z p l e R s m args below meth c D dA A H0 nL ad Q k n tgt ls st sh h) (kf : ¬ x = y → z_Z p l e R s m args below meth c D dA A H0 nL ad Q k n (pc + 3) ls st sh h) : z_Z p l e R s m args below meth c D dA A H0 nL ad Q k n pc ls (.int y :: .int x :: st) sh h := fun H locs la hP hD hS hl => lv_icmp_eq hC.1 hC.2.1 hd ht (fun q => kt q H locs la hP hD hS hl) (fun q => kf q H locs la hP hD hS hl)
theorem z_icmp_ne (hC : z_Cx p s m args c D dA A H0 own cc nL fl) {k n pc : Nat} {ls : List (Option Value)} {st : List Value} {sh : z_Sh} {h : z_H} {x y : Int32} {off : Int} (tgt : Nat) (hd : decode cc pc = .ok (.if_icmp .ne off, 3)) (ht : (pc : Int) + off = (tgt : Int)) (kt : ¬ x = y → z_Z p l e R s m args below meth c D dA A H0 nL ad Q k n tgt ls st sh h) (kf : x = y → z_Z p l e R s m args below meth c D dA A H0 nL ad Q k n (pc + 3) ls st sh h) : z_Z p l e R s m args below meth c D dA A H0 nL ad Q k n pc ls (.int y :: .int x :: st) sh h := fun H locs la hP hD hS hl => lv_icmp_ne hC.1 hC.2.1 hd ht (fun q => kt q H locs la hP hD hS hl) (fun q => kf q H locs la hP hD hS hl)
theorem z_icmp_lt (hC : z_Cx p s m args c D dA A H0 own cc nL fl) {k n pc : Nat} {ls : List (Option Value)} {st : List Value} {sh : z_Sh} {h : z_H} {x y : Int32} {off : Int} (tgt : Nat) (hd : decode cc pc = .ok (.if_icmp .lt off, 3)) (ht : (pc : Int) + off = (tgt : Int)) (kt : x < y → z_Z p l e R s m args below meth c D dA A H0 nL ad Q k n tgt ls st sh h) (kf : ¬ x < y → z_Z p l e R s m args below meth c D dA A H0 nL ad Q k n (pc + 3) ls st sh h) : z_Z p l e R s m args below meth c D dA A H0 nL ad Q k n pc ls (.int y :: .int x :: st) sh h := fun H locs la hP hD hS hl => lv_icmp_lt hC.1 hC.2.1 hd ht (fun q => kt q H locs la hP hD hS hl) (fun q => kf q H locs la hP hD hS hl)
theorem z_icmp_ge (hC : z_Cx p s m args c D dA A H0 own cc nL fl) {k n pc : Nat} {ls : List (Option Value)} {st : List Value} {sh : z_Sh} {h : z_H} {x y : Int32} {off : Int} (tgt : Nat) (hd : decode cc pc = .ok (.if_icmp .ge off, 3)) (ht : (pc : Int) + off = (tgt : Int)) (kt : y ≤ x → z_Z p l e R s m args below meth c D dA A H0 nL ad Q k n tgt ls st sh h) (kf : ¬ y ≤ x → z_Z p l e R s m args below meth c D dA A H0 nL ad Q k n (pc + 3) ls st sh h) : z_Z p l e R s m args below meth c D dA A H0 nL ad Q k n pc ls (.int y :: .int x :: st) sh h := fun H locs la hP hD hS hl => lv_icmp_ge hC.1 hC.2.1 hd ht (fun q => kt q H locs la hP hD hS hl) (fun q => kf q H locs la hP hD hS hl)
theorem z_icmp_gt (hC : z_Cx p s m args c D dA A H0 own cc nL fl) {k n pc : Nat} {ls : List (Option Value)} {st : List Value} {sh : z_Sh} {h : z_H} {x y : Int32} {off : Int} (tgt : Nat) (hd : decode cc pc = .ok (.if_icmp .gt off, 3)) (ht : (pc : Int) + off = (tgt : Int)) (kt : y < x → z_Z p l e R s m args below meth c D dA A H0 nL ad Q k n tgt ls st sh h) (kf : ¬ y < x → z_Z p l e R s m args below meth c D dA A H0 nL ad Q k n (pc + 3) ls st sh h) : z_Z p l e R s m args below meth c D dA A H0 nL ad Q k n pc ls (.int y :: .int x :: st) sh h := fun H locs la hP hD hS hl => lv_icmp_gt hC.1 hC.2.1 hd ht (fun q => kt q H locs la hP hD hS hl) (fun q => kf q H locs la hP hD hS hl)
theorem z_icmp_le (hC : z_Cx p s m args c D dA A H0 own cc nL fl) {k n pc : Nat} {ls : List (Option Value)} {st : List Value} {sh : z_Sh} {h : z_H} {x y : Int32} {off : Int} (tgt : Nat) (hd : decode cc pc = .ok (.if_icmp .le off, 3)) (ht : (pc : Int) + off = (tgt : Int)) (kt : x ≤ y → z_Z p l e R s m args below meth c D dA A H0 nL ad Q k n tgt ls st sh h) (kf : ¬ x ≤ y → z_Z p l e R s m args below meth c D dA A H0 nL ad Q k n (pc + 3) ls st sh h) : z_Z p l e R s m args below meth c D dA A H0 nL ad Q k n pc ls (.int y :: .int x :: st) sh h := fun H locs la hP hD hS hl => lv_icmp_le hC.1 hC.2.1 hd ht (fun q => kt q H locs la hP hD hS hl) (fun q => kf q H locs la hP hD hS hl)
theorem z_goto (hC : z_Cx p s m args c D dA A H0 own cc nL fl) {k n pc : Nat} {ls : List (Option Value)} {st : List Value} {sh : z_Sh} {h : z_H} {off : Int} (tgt : Nat) (hd : decode cc pc = .ok (.goto off, 3)) (ht : (pc : Int) + off = (tgt : Int)) (kk : z_Z p l e R s m args below meth c D dA A H0 nL ad Q k n tgt ls st sh h) : z_Z p l e R s m args below meth c D dA A H0 nL ad Q k n pc ls st sh h := fun H locs la hP hD hS hl => lv_goto hC.1 hC.2.1 hd ht (kk H locs la hP hD hS hl)
theorem z_tabIn (hC : z_Cx p s m args c D dA A H0 own cc nL fl) {k n pc : Nat} {ls : List (Option Value)} {st : List Value} {sh : z_Sh} {h : z_H} {dflt lo hi : Int} {offs : Array Int} {len : Nat} {x : Int32} {off : Int} (tgt : Nat) (hd : decode cc pc = .ok (.tableswitch dflt lo hi offs, len)) (h1 : ¬ x.toInt < lo) (h2 : ¬ hi < x.toInt) (ho : offs[(x.toInt - lo).toNat]? = some off) (ht : (pc : Int) + off = (tgt : Int)) (kk : z_Z p l e R s m args below meth c D dA A H0 nL ad Q k n tgt ls st sh h) : z_Z p l e R s m args below meth c D dA A H0 nL ad Q k n pc ls (.int x :: st) sh h := fun H locs la hP hD hS hl => lv_tableIn hC.1 hC.2.1 hd h1 h2 ho ht (kk H locs la hP hD hS hl)
theorem z_tabOut (hC : z_Cx p s m args c D dA A H0 own cc nL fl) {k n pc : Nat} {ls : List (Option Value)} {st : List Value} {sh : z_Sh} {h : z_H} {dflt lo hi : Int} {offs : Array Int} {len : Nat} {x : Int32} (tgt : Nat) (hd : decode cc pc = .ok (.tableswitch dflt lo hi offs, len)) (h1 : x.toInt < lo ∨ hi < x.toInt) (ht : (pc : Int) + dflt = (tgt : Int)) (kk : z_Z p l e R s m args below meth c D dA A H0 nL ad Q k n tgt ls st sh h) : z_Z p l e R s m args below meth c D dA A H0 nL ad Q k n pc ls (.int x :: st) sh h := fun H locs la hP hD hS hl => lv_tableOut hC.1 hC.2.1 hd h1 ht (kk H locs la hP hD hS hl)
theorem z_ldcw (hC : z_Cx p s m args c D dA A H0 own cc nL fl) {k n pc : Nat} {ls : List (Option Value)} {st : List Value} {sh : z_Sh} {h : z_H} {idx : Nat} {v : Int32} (hw : Cond.constant own idx v ∈ z_big) (hd : decode cc pc = .ok (.ldc_w idx, 3)) (kk : z_Z p l e R s m args below meth c D dA A H0 nL ad Q k n (pc + 3) ls (.int v :: st) sh h) : z_Z p l e R s m args below meth c D dA A H0 nL ad Q k n pc ls st sh h := fun H locs la hP hD hS hl => lv_ldcw hC.1 hC.2.1 hC.2.2.2.1 (hC.2.2.2.2.1 _ hw) hd (kk H locs la hP hD hS hl)
theorem z_ldc (hC : z_Cx p s m args c D dA A H0 own cc nL fl) {k n pc : Nat} {ls : List (Option Value)} {st : List Value} {sh : z_Sh} {h : z_H} {idx : Nat} {v : Int32} (hw : Cond.constant own idx v ∈ z_big) (hd : decode cc pc = .ok (.ldc idx, 2)) (kk : z_Z p l e R s m args below meth c D dA A H0 nL ad Q k n (pc + 2) ls (.int v :: st) sh h) : z_Z p l e R s m args below meth c D dA A H0 nL ad Q k n pc ls st sh h := fun H locs la hP hD hS hl => lv_ldc hC.1 hC.2.1 hC.2.2.2.1 (hC.2.2.2.2.1 _ hw) hd (kk H locs la hP hD hS hl)
theorem z_ldc2 (hC : z_Cx p s m args c D dA A H0 own cc nL fl) {k n pc : Nat} {ls : List (Option Value)} {st : List Value} {sh : z_Sh} {h : z_H} {idx : Nat} {v : Int64} (hw : Cond.constantLong own idx v ∈ z_big) (hd : decode cc pc = .ok (.ldc2_w idx, 3)) (kk : z_Z p l e R s m args below meth c D dA A H0 nL ad Q k n (pc + 3) ls (.long v :: st) sh h) : z_Z p l e R s m args below meth c D dA A H0 nL ad Q k n pc ls st sh h := fun H locs la hP hD hS hl => lv_ldc2 hC.1 hC.2.1 hC.2.2.2.1 (hC.2.2.2.2.1 _ hw) hd (kk H locs la hP hD hS hl)
/-- what is known may be said otherwise, or forgotten -/
theorem z_eq {k n pc : Nat} {ls ls' : List (Option Value)} {st st' : List Value} {sh : z_Sh} {h h' : z_H} (h1 : ls = ls') (h2 : st = st') (h3 : h = h') (kk : z_Z p l e R s m args below meth c D dA A H0 nL ad Q k n pc ls' st' sh h') : z_Z p l e R s m args below meth c D dA A H0 nL ad Q k n pc ls st sh h := by
  subst h1; subst h2; subst h3; exact kk
def z_sub : List (Option Value) → List (Option Value) → Prop
  | [], [] => True
  | _ :: a, none :: b => z_sub a b
  | some v :: a, some w :: b => v = w ∧ z_sub a b
  | _, _ => False
theorem z_sub_len : ∀ (a b : List (Option Value)), z_sub a b → a.length = b.length
  | [], [], _ => rfl
  | [], none :: b, h => h.elim
  | [], some w :: b, h => h.elim
  | x :: a, none :: b, h => by
    have : z_sub a b := by cases x <;> exact h
    simp [z_sub_len a b this]
  | some v :: a, some w :: b, h => by simp [z_sub_len a b h.2]
  | none :: a, some w :: b, h => h.elim
  | x :: a, [], h => by cases x <;> exact h.elim
theorem z_sub_nth : ∀ (a b : List (Option Value)), z_sub a b → ∀ (j : Nat) (v : Value), z_nth b j = some (some v) → z_nth a j = some (some v)
  | [], [], _, j, v, hv => hv
  | [], none :: b, h, j, v, hv => h.elim
  | [], some w :: b, h, j, v, hv => h.elim
  | x :: a, none :: b, h, j, v, hv => by
    have h2 : z_sub a b := by cases x <;> exact h
    match j, hv with
    | j + 1, hv => exact z_sub_nth a b h2 j v hv
  | some u :: a, some w :: b, h, j, v, hv => by
    match j, hv with
    | 0, hv => rw [← hv, h.1]; rfl
    | j + 1, hv => exact z_sub_nth a b h.2 j v hv
  | none :: a, some w :: b, h, j, v, hv => h.elim
  | x :: a, [], h, j, v, hv => by cases x <;> exact h.elim
theorem z_lo_sub {nL : Nat} {a b : List (Option Value)} {la : Array Slot} (h : z_lo ad nL a la) (hs : z_sub a b) : z_lo ad nL b la := by
  refine ⟨by rw [← z_sub_len a b hs]; exact h.1, h.2.1, h.2.2.1, fun q hq => ?_⟩
  obtain ⟨j, v, h1, h2⟩ := (z_al_mem ad b 0 q).mp hq
  exact h.2.2.2 q ((z_al_mem ad a 0 q).mpr ⟨j, v, z_sub_nth a b hs j v h1, h2⟩)
/-- locals are forgotten -/
theorem z_less {k n pc : Nat} {ls ls' : List (Option Value)} {st : List Value} {sh : z_Sh} {h : z_H} (hs : z_sub ls ls') (kk : z_Z p l e R s m args below meth c D dA A H0 nL ad Q k n pc ls' st sh h) : z_Z p l e R s m args below meth c D dA A H0 nL ad Q k n pc ls st sh h := fun H locs la hP hD hS hl => kk H locs la hP hD hS (z_lo_sub hl hs)
theorem z_fun {k n pc : Nat} {ls : List (Option Value)} {rest : List Value} {sh : z_Sh} {h' g : z_H} {rv v : Option Value} (hq : rv = v ∧ h' = g) (kk : z_Z p l e R s m args below meth c D dA A H0 nL ad Q k n pc ls (v.toList ++ rest) sh g) : z_Z p l e R s m args below meth c D dA A H0 nL ad Q k n pc ls (rv.toList ++ rest) sh h' := by
  rw [hq.1, hq.2]
  exact kk
end ZR
