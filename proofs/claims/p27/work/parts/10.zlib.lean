/-! ===== small facts; at and put ===== -/
theorem z_inI {i : Int32} {n : Nat} (h0 : ¬ i < 0) (h1 : ¬ nI n ≤ i) (hn : n < 2 ^ 31) : vp_in i n := by
  rw [vp_in_iff]
  rw [Int32.lt_iff_toInt_lt, Int32.toInt_zero] at h0
  rw [Int32.le_iff_toInt_le, nI_toInt hn] at h1
  omega
theorem z_tab3 {x : Int32} (h0 : ¬ x = nI 0) (h1 : ¬ x = nI 1) (h2 : ¬ x = nI 2) : x.toInt < 0 ∨ 2 < x.toInt := by
  rw [← Int32.toInt_inj, nI_toInt (by decide)] at h0 h1 h2
  omega
theorem z_in63 (x : Int32) : vp_in (x &&& nI 63) 64 := pk_andIn x 6 (by decide) (by decide)
/-- an element, if the place is one; NONE otherwise -/
def z_atv (h : z_H) (o n : Nat) (i : Int32) : Int32 := if i < 0 then (-1) else if nI n ≤ i then (-1) else h.1 o i.toNatClampNeg
def z_putv (h : z_H) (o n : Nat) (i x : Int32) : z_H := if i < 0 then h else if nI n ≤ i then h else z_set h o i.toNatClampNeg x
theorem z_in_not {i : Int32} {n : Nat} (h : vp_in i n) (hn : n < 2 ^ 31) : ¬ i < 0 ∧ ¬ nI n ≤ i := by
  rw [vp_in_iff] at h
  rw [Int32.lt_iff_toInt_lt, Int32.toInt_zero, Int32.le_iff_toInt_le, nI_toInt hn]
  omega
theorem z_atv_in {h : z_H} {o n : Nat} {i : Int32} (hi : vp_in i n) (hn : n < 2 ^ 31) : z_atv h o n i = h.1 o i.toNatClampNeg := by
  obtain ⟨h1, h2⟩ := z_in_not hi hn
  rw [z_atv, if_neg h1, if_neg h2]
theorem z_putv_in {h : z_H} {o n : Nat} {i x : Int32} (hi : vp_in i n) (hn : n < 2 ^ 31) : z_putv h o n i x = z_set h o i.toNatClampNeg x := by
  obtain ⟨h1, h2⟩ := z_in_not hi hn
  rw [z_putv, if_neg h1, if_neg h2]
set_option maxHeartbeats 4000000 in
set_option maxRecDepth 100000 in
theorem sp_X7_at (l : Launch) (sh : z_Sh) (h : z_H) (o n : Nat) (ks : List Nat) (i : Int32) (hs : z_nth sh o = some (1, n, ks)) (hn : n < 2 ^ 31) : z_Sp l 0 yX7_at cX7_at 2 (some .int) [.ref o, .int i] sh h (fun rv h' => rv = some (.int (z_atv h o n i)) ∧ h' = h) := by
  refine z_enter ft_X7 (by decide +kernel) fo_X7 (Nat.le_of_ble_eq_true rfl) ?_
  intro p e R s m args below meth c D dA ad hB
  have hC := hB.1
  refine z_go hC (pc' := 1) (ls' := [some (.ref o), some (.int i)]) (st' := [.int i]) (h' := h) (cs := []) [.iload_n 1] (by decide +kernel) rfl rfl trivial ?_
  refine z_if_lt hC (off := 15) 16 (by decide +kernel) (by decide) (fun c1 => ?_) (fun c1 => ?_)
  · refine z_go hC (pc' := 17) (ls' := [some (.ref o), some (.int i)]) (st' := [.int (-1)]) (h' := h) (cs := []) [.iconst (-1)] (by decide +kernel) rfl rfl trivial ?_
    exact z_ret_i hB rfl (by decide +kernel) ⟨by rw [z_atv, if_pos c1], rfl⟩
  · refine z_go hC (pc' := 7) (ls' := [some (.ref o), some (.int i)]) (st' := [.int (nI n), .int i]) (h' := h) (cs := []) [.iload_n 1, .aload_n 0, .arraylength] (by decide +kernel) rfl (by simp [z_run, z_s1, z_ldI, z_ldA, z_nth, z_aln, hs]) trivial ?_
    refine z_icmp_ge hC (off := 9) 16 (by decide +kernel) (by decide) (fun c2 => ?_) (fun c2 => ?_)
    · refine z_go hC (pc' := 17) (ls' := [some (.ref o), some (.int i)]) (st' := [.int (-1)]) (h' := h) (cs := []) [.iconst (-1)] (by decide +kernel) rfl rfl trivial ?_
      exact z_ret_i hB rfl (by decide +kernel) ⟨by rw [z_atv, if_neg c1, if_pos c2], rfl⟩
    · refine z_go hC (pc' := 13) (ls' := [some (.ref o), some (.int i)]) (st' := [.int (h.1 o i.toNatClampNeg)]) (h' := h) (cs := [vp_in i n]) [.aload_n 0, .iload_n 1, .iaload] (by decide +kernel) rfl (by simp [z_run, z_s1, z_ldI, z_ldA, z_nth, z_ald, hs, z_av]) (z_inI c1 c2 hn) ?_
      refine z_goto hC (off := 4) 17 (by decide +kernel) (by decide) ?_
      exact z_ret_i hB rfl (by decide +kernel) ⟨by rw [z_atv, if_neg c1, if_neg c2], rfl⟩
theorem sp_X7_atI (l : Launch) (sh : z_Sh) (h : z_H) (o n : Nat) (ks : List Nat) (i : Int32) (hs : z_nth sh o = some (1, n, ks)) (hi : vp_in i n) (hn : n < 2 ^ 31 := by decide) : z_Sp l 0 yX7_at cX7_at 2 (some .int) [.ref o, .int i] sh h (fun rv h' => rv = some (.int (h.1 o i.toNatClampNeg)) ∧ h' = h) := by
  have := sp_X7_at l sh h o n ks i hs hn
  rw [z_atv_in hi hn] at this
  exact this
set_option maxHeartbeats 4000000 in
set_option maxRecDepth 100000 in
theorem sp_X7_put (l : Launch) (sh : z_Sh) (h : z_H) (o n : Nat) (ks : List Nat) (i x : Int32) (hs : z_nth sh o = some (1, n, ks)) (hn : n < 2 ^ 31) : z_Sp l 0 yX7_put cX7_put 3 none [.ref o, .int i, .int x] sh h (fun rv h' => rv = none ∧ h' = z_putv h o n i x) := by
  refine z_enter ft_X7 (by decide +kernel) fo_X7 (Nat.le_of_ble_eq_true rfl) ?_
  intro p e R s m args below meth c D dA ad hB
  have hC := hB.1
  refine z_go hC (pc' := 1) (ls' := [some (.ref o), some (.int i), some (.int x)]) (st' := [.int i]) (h' := h) (cs := []) [.iload_n 1] (by decide +kernel) rfl rfl trivial ?_
  refine z_if_lt hC (off := 13) 14 (by decide +kernel) (by decide) (fun c1 => ?_) (fun c1 => ?_)
  · exact z_ret_v hB rfl (by decide +kernel) ⟨rfl, by rw [z_putv, if_pos c1]⟩
  · refine z_go hC (pc' := 7) (ls' := [some (.ref o), some (.int i), some (.int x)]) (st' := [.int (nI n), .int i]) (h' := h) (cs := []) [.iload_n 1, .aload_n 0, .arraylength] (by decide +kernel) rfl (by simp [z_run, z_s1, z_ldI, z_ldA, z_nth, z_aln, hs]) trivial ?_
    refine z_icmp_ge hC (off := 7) 14 (by decide +kernel) (by decide) (fun c2 => ?_) (fun c2 => ?_)
    · exact z_ret_v hB rfl (by decide +kernel) ⟨rfl, by rw [z_putv, if_neg c1, if_pos c2]⟩
    · refine z_go hC (pc' := 14) (ls' := [some (.ref o), some (.int i), some (.int x)]) (st' := []) (h' := z_set h o i.toNatClampNeg x) (cs := [vp_in i n]) [.aload_n 0, .iload_n 1, .iload_n 2, .iastore] (by decide +kernel) rfl (by simp [z_run, z_s1, z_ldI, z_ldA, z_nth, z_ast, hs, z_ac]) (z_inI c1 c2 hn) ?_
      exact z_ret_v hB rfl (by decide +kernel) ⟨rfl, by rw [z_putv, if_neg c1, if_neg c2]⟩
theorem sp_X7_putI (l : Launch) (sh : z_Sh) (h : z_H) (o n : Nat) (ks : List Nat) (i x : Int32) (hs : z_nth sh o = some (1, n, ks)) (hi : vp_in i n) (hn : n < 2 ^ 31 := by decide) : z_Sp l 0 yX7_put cX7_put 3 none [.ref o, .int i, .int x] sh h (fun rv h' => rv = none ∧ h' = z_set h o i.toNatClampNeg x) := by
  have := sp_X7_put l sh h o n ks i x hs hn
  rw [z_putv_in hi hn] at this
  exact this
/-! ===== answers as functions ===== -/
abbrev z_R : Type := Option Value × z_H
def z_vi0 : Option Value → Int32
  | some (.int v) => v
  | _ => 0
def z_vi (r : z_R) : Int32 := z_vi0 r.1
def z_vl0 : Option Value → Int64
  | some (.long v) => v
  | _ => 0
def z_vl (r : z_R) : Int64 := z_vl0 r.1
def z_PI (r : z_R) : Option Value → z_H → Prop := fun rv h' => rv = some (.int (z_vi r)) ∧ h' = r.2
def z_PL (r : z_R) : Option Value → z_H → Prop := fun rv h' => rv = some (.long (z_vl r)) ∧ h' = r.2
def z_PB (r : z_R) : Option Value → z_H → Prop := fun rv h' => rv = some (.int (z_vi r)) ∧ h' = r.2 ∧ (z_vi r = 0 ∨ z_vi r = 1)
def z_PV (r : z_R) : Option Value → z_H → Prop := fun rv h' => rv = none ∧ h' = r.2
def z_QI (h : z_H) (r : Option Value) : Option Value → z_H → Prop := fun rv h' => rv = some (.int (z_vi0 r)) ∧ h' = h
def z_QL (h : z_H) (r : Option Value) : Option Value → z_H → Prop := fun rv h' => rv = some (.long (z_vl0 r)) ∧ h' = h
def z_QB (h : z_H) (r : Option Value) : Option Value → z_H → Prop := fun rv h' => rv = some (.int (z_vi0 r)) ∧ h' = h ∧ (z_vi0 r = 0 ∨ z_vi0 r = 1)
def z_QV (h : z_H) (_ : Option Value) : Option Value → z_H → Prop := fun rv h' => rv = none ∧ h' = h
theorem z_lfi {v : Int32} {hp : z_H} {r : z_R} (E : (some (.int v), hp) = r) : z_PI r (some (.int v)) hp := by subst E; exact ⟨rfl, rfl⟩
theorem z_lfl {v : Int64} {hp : z_H} {r : z_R} (E : (some (.long v), hp) = r) : z_PL r (some (.long v)) hp := by subst E; exact ⟨rfl, rfl⟩
theorem z_lfb {v : Int32} {hp : z_H} {r : z_R} (z : v = 0 ∨ v = 1) (E : (some (.int v), hp) = r) : z_PB r (some (.int v)) hp := by subst E; exact ⟨rfl, rfl, z⟩
theorem z_lfv {hp : z_H} {r : z_R} (E : (none, hp) = r) : z_PV r none hp := by subst E; exact ⟨rfl, rfl⟩
theorem z_lfi0 {v : Int32} {h : z_H} {r : Option Value} (E : some (.int v) = r) : z_QI h r (some (.int v)) h := by subst E; exact ⟨rfl, rfl⟩
theorem z_lfl0 {v : Int64} {h : z_H} {r : Option Value} (E : some (.long v) = r) : z_QL h r (some (.long v)) h := by subst E; exact ⟨rfl, rfl⟩
theorem z_lfb0 {v : Int32} {h : z_H} {r : Option Value} (z : v = 0 ∨ v = 1) (E : some (.int v) = r) : z_QB h r (some (.int v)) h := by subst E; exact ⟨rfl, rfl, z⟩
section ZG
variable {p : Program} {l : Launch} {e : Env} {R : Room} {s : State} {m : MethodId} {args : Array Value} {below : List Frame} {meth : Method} {c : Code} {D : va_G} {dA : Nat → ClassId} {A : Nat → Prop} {H0 : Heap} {nL : Nat} {ad : Nat → Nat} {Q : State → Prop}
theorem z_funb {k n pc : Nat} {ls : List (Option Value)} {rest : List Value} {sh : z_Sh} {h' g : z_H} {rv v : Option Value} {zb : Prop} (hq : rv = v ∧ h' = g ∧ zb) (kk : zb → z_Z p l e R s m args below meth c D dA A H0 nL ad Q k n pc ls (v.toList ++ rest) sh g) : z_Z p l e R s m args below meth c D dA A H0 nL ad Q k n pc ls (rv.toList ++ rest) sh h' := by
  rw [hq.1, hq.2.1]
  exact kk hq.2.2
end ZG
/-- the judgement within a contract's body -/
abbrev z_G (p : Program) (l : Launch) (e : Env) (R : Room) (s : State) (m : MethodId) (args : Array Value) (below : List Frame) (meth : Method) (c : Code) (D : va_G) (dA : Nat → ClassId) (ad : Nat → Nat) (nL : Nat) (Φ : Option Value → z_H → Prop) (sh : z_Sh) (pc : Nat) (ls : List (Option Value)) (st : List Value) (h : z_H) : Prop :=
  z_Z p l e R s m args below meth c D dA (z_A ad sh.length s.heap.size) s.heap nL ad (MQ below (z_Q D dA ad s.heap.size sh Φ) args s 0 0 (z_A ad sh.length s.heap.size)) 0 0 pc ls st sh h
