/-! ===== abstract heaps: the world as a fixed list of shapes and two functions of numbers ===== -/
def z_big : List Cond := lw_tbl.filter goodWord
theorem z_big_good : ∀ w ∈ z_big, goodWord w = true := fun _ h => (List.mem_filter.mp h).2
theorem z_big_in : ∀ w ∈ z_big, w ∈ lw_tbl := fun _ h => (List.mem_filter.mp h).1
def z_fk : Cond → Bool
  | .fieldLink .. => true
  | _ => false
def z_flinks : List Cond := lw_tbl.filter z_fk
theorem z_flinks_in : ∀ w ∈ z_flinks, w ∈ z_big := fun w h => by
  obtain ⟨h1, h2⟩ := List.mem_filter.mp h
  refine List.mem_filter.mpr ⟨h1, ?_⟩
  cases w <;> first | rfl | (simp [z_fk] at h2)
theorem z_bigT {w : Cond} (i : Nat) (h : tables_1[i]? = some w) (hg : goodWord w = true) : w ∈ z_big := List.mem_filter.mpr ⟨List.mem_append_right _ (List.mem_of_getElem? h), hg⟩
theorem z_bigP {y : MethodName} {n : Nat} (i : Nat) (h : lw_privs[i]? = some (y, n)) : Cond.selects y.cls y y ∈ z_big := List.mem_filter.mpr ⟨List.mem_append_left _ (List.mem_map.mpr ⟨_, List.mem_of_getElem? h, rfl⟩), rfl⟩
/-- a cell's shape: (0, class, the fields' kinds) an object; (1, n, _) n ints; (2, n, _) n longs; (3, n, _) n booleans. A field's kind: 0 int, 1 long, 2 null, r + 3 the object r -/
abbrev z_Sh : Type := List (Nat × Nat × List Nat)
abbrev z_H : Type := (Nat → Nat → Int32) × (Nat → Nat → Int64)
def z_con (ad : Nat → Nat) : Value → Value
  | .ref i => .ref (ad i)
  | v => v
theorem z_con_cat (ad : Nat → Nat) (v : Value) : (z_con ad v).category = v.category := by cases v <;> rfl
def z_nth {α : Type} : List α → Nat → Option α
  | [], _ => none
  | a :: _, 0 => some a
  | _ :: l, k + 1 => z_nth l k
theorem z_nth_eq {α : Type} : ∀ (l : List α) (k : Nat), z_nth l k = l[k]?
  | [], k => by simp [z_nth]
  | a :: l, 0 => by simp [z_nth]
  | a :: l, k + 1 => by simp [z_nth, z_nth_eq l k]
def z_fv (ad : Nat → Nat) (f : Nat → Int32) (g : Nat → Int64) (k : Nat) : Nat → Value
  | 0 => .int (f k)
  | 1 => .long (g k)
  | 2 => .null
  | r + 3 => .ref (ad r)
def z_fs (ad : Nat → Nat) (f : Nat → Int32) (g : Nat → Int64) : List Nat → Nat → List Value
  | [], _ => []
  | t :: ts, k => z_fv ad f g k t :: z_fs ad f g ts (k + 1)
theorem z_fs_get (ad : Nat → Nat) (f : Nat → Int32) (g : Nat → Int64) : ∀ (ts : List Nat) (k0 k : Nat), (z_fs ad f g ts k0)[k]? = ts[k]?.map (z_fv ad f g (k0 + k))
  | [], k0, k => by simp [z_fs]
  | t :: ts, k0, 0 => by simp [z_fs]
  | t :: ts, k0, k + 1 => by
    have := z_fs_get ad f g ts (k0 + 1) k
    simp only [z_fs, List.getElem?_cons_succ, this]
    rw [show k0 + 1 + k = k0 + (k + 1) by omega]
theorem z_fs_len (ad : Nat → Nat) (f : Nat → Int32) (g : Nat → Int64) : ∀ (ts : List Nat) (k0 : Nat), (z_fs ad f g ts k0).length = ts.length
  | [], k0 => rfl
  | t :: ts, k0 => by simp [z_fs, z_fs_len ad f g ts (k0 + 1)]
def z_ce (dA : Nat → ClassId) (ad : Nat → Nat) (c : Nat × Nat × List Nat) (f : Nat → Int32) (g : Nat → Int64) : va_E :=
  if c.1 = 0 then .inr (c.2.1, z_fs ad f g c.2.2 0) else if c.1 = 2 then .inl (dA 2, c.2.1, .inr (.inl g)) else .inl (dA c.1, c.2.1, .inl f)
def z_wl (dA : Nat → ClassId) (ad : Nat → Nat) (h : z_H) : z_Sh → Nat → va_W
  | [], _ => []
  | c :: cs, i => (ad i, z_ce dA ad c (h.1 i) (h.2 i)) :: z_wl dA ad h cs (i + 1)
theorem z_wl_get (dA : Nat → ClassId) (ad : Nat → Nat) (h : z_H) : ∀ (sh : z_Sh) (i0 i : Nat), (z_wl dA ad h sh i0)[i]? = sh[i]?.map (fun c => (ad (i0 + i), z_ce dA ad c (h.1 (i0 + i)) (h.2 (i0 + i))))
  | [], i0, i => by simp [z_wl]
  | c :: cs, i0, 0 => by simp [z_wl]
  | c :: cs, i0, i + 1 => by
    have := z_wl_get dA ad h cs (i0 + 1) i
    simp only [z_wl, List.getElem?_cons_succ, this]
    rw [show i0 + 1 + i = i0 + (i + 1) by omega]
theorem z_wl_at (dA : Nat → ClassId) (ad : Nat → Nat) (h : z_H) (sh : z_Sh) (i : Nat) : (z_wl dA ad h sh 0)[i]? = sh[i]?.map (fun c => (ad i, z_ce dA ad c (h.1 i) (h.2 i))) := by
  rw [z_wl_get, Nat.zero_add]
theorem z_wl_obj {dA : Nat → ClassId} {ad : Nat → Nat} {h : z_H} {sh : z_Sh} {o ci : Nat} {ks : List Nat} (hs : z_nth sh o = some (0, ci, ks)) : (z_wl dA ad h sh 0)[o]? = some (ad o, .inr (ci, z_fs ad (h.1 o) (h.2 o) ks 0)) := by
  rw [z_wl_at, ← z_nth_eq, hs]; rfl
theorem z_wl_int {dA : Nat → ClassId} {ad : Nat → Nat} {h : z_H} {sh : z_Sh} {o n : Nat} {ks : List Nat} (hs : z_nth sh o = some (1, n, ks)) : (z_wl dA ad h sh 0)[o]? = some (ad o, .inl (dA 1, n, .inl (h.1 o))) := by
  rw [z_wl_at, ← z_nth_eq, hs]; rfl
theorem z_wl_long {dA : Nat → ClassId} {ad : Nat → Nat} {h : z_H} {sh : z_Sh} {o n : Nat} {ks : List Nat} (hs : z_nth sh o = some (2, n, ks)) : (z_wl dA ad h sh 0)[o]? = some (ad o, .inl (dA 2, n, .inr (.inl (h.2 o)))) := by
  rw [z_wl_at, ← z_nth_eq, hs]; rfl
theorem z_wl_bool {dA : Nat → ClassId} {ad : Nat → Nat} {h : z_H} {sh : z_Sh} {o n : Nat} {ks : List Nat} (hs : z_nth sh o = some (3, n, ks)) : (z_wl dA ad h sh 0)[o]? = some (ad o, .inl (dA 3, n, .inl (h.1 o))) := by
  rw [z_wl_at, ← z_nth_eq, hs]; rfl
def z_set (h : z_H) (o k : Nat) (v : Int32) : z_H := (fun a b => if a = o then (if b = k then v else h.1 a b) else h.1 a b, h.2)
def z_setL (h : z_H) (o k : Nat) (v : Int64) : z_H := (h.1, fun a b => if a = o then (if b = k then v else h.2 a b) else h.2 a b)
theorem z_set_ne {h : z_H} {o k a : Nat} {v : Int32} (ha : a ≠ o) : (z_set h o k v).1 a = h.1 a := by
  funext b; simp [z_set, ha]
theorem z_setL_ne {h : z_H} {o k a : Nat} {v : Int64} (ha : a ≠ o) : (z_setL h o k v).2 a = h.2 a := by
  funext b; simp [z_setL, ha]
theorem z_set_same (h : z_H) (o k : Nat) (v : Int32) : (z_set h o k v).1 o = upd (h.1 o) k v := by
  funext b; simp [z_set, upd]
theorem z_setL_same (h : z_H) (o k : Nat) (v : Int64) : (z_setL h o k v).2 o = vp_updL (h.2 o) k v := by
  funext b; simp [z_setL, vp_updL]
theorem z_ks_set {ad : Nat → Nat} {f : Nat → Int32} {g : Nat → Int64} {ts : List Nat} {k : Nat} {v : Int32} (hk : z_nth ts k = some 0) : (z_fs ad f g ts 0).set k (.int v) = z_fs ad (upd f k v) g ts 0 := by
  rw [z_nth_eq] at hk
  apply List.ext_getElem?
  intro i
  rw [List.getElem?_set, z_fs_get, z_fs_get, z_fs_len]
  have hlt : k < ts.length := (List.getElem?_eq_some_iff.mp hk).1
  by_cases hi : k = i
  · subst hi
    rw [if_pos rfl, if_pos hlt, hk]
    simp [z_fv, upd]
  · rw [if_neg hi]
    cases ts[i]? with
    | none => rfl
    | some t =>
      have : i ≠ k := fun e => hi e.symm
      match t with
      | 0 => simp [z_fv, upd, this]
      | 1 => rfl
      | 2 => rfl
      | r + 3 => rfl
theorem z_ks_setL {ad : Nat → Nat} {f : Nat → Int32} {g : Nat → Int64} {ts : List Nat} {k : Nat} {v : Int64} (hk : z_nth ts k = some 1) : (z_fs ad f g ts 0).set k (.long v) = z_fs ad f (vp_updL g k v) ts 0 := by
  rw [z_nth_eq] at hk
  apply List.ext_getElem?
  intro i
  rw [List.getElem?_set, z_fs_get, z_fs_get, z_fs_len]
  have hlt : k < ts.length := (List.getElem?_eq_some_iff.mp hk).1
  by_cases hi : k = i
  · subst hi
    rw [if_pos rfl, if_pos hlt, hk]
    simp [z_fv, vp_updL]
  · rw [if_neg hi]
    cases ts[i]? with
    | none => rfl
    | some t =>
      have : i ≠ k := fun e => hi e.symm
      match t with
      | 0 => rfl
      | 1 => simp [z_fv, vp_updL, this]
      | 2 => rfl
      | r + 3 => rfl
theorem z_wl_len (dA : Nat → ClassId) (ad : Nat → Nat) (h : z_H) : ∀ (sh : z_Sh) (i0 : Nat), (z_wl dA ad h sh i0).length = sh.length
  | [], _ => rfl
  | c :: cs, i0 => by simp [z_wl, z_wl_len dA ad h cs (i0 + 1)]
/-- a cell is changed: the world of the changed heap -/
theorem z_wl_put {dA : Nat → ClassId} {ad : Nat → Nat} {h h' : z_H} {sh : z_Sh} {o : Nat} {c : Nat × Nat × List Nat} {E : va_E} (hs : z_nth sh o = some c) (h1 : ∀ a, a ≠ o → h'.1 a = h.1 a) (h2 : ∀ a, a ≠ o → h'.2 a = h.2 a) (hE : E = z_ce dA ad c (h'.1 o) (h'.2 o)) : (z_wl dA ad h sh 0).set o (ad o, E) = z_wl dA ad h' sh 0 := by
  rw [z_nth_eq] at hs
  apply List.ext_getElem?
  intro i
  rw [List.getElem?_set, z_wl_at, z_wl_at, z_wl_len]
  have hlt : o < sh.length := (List.getElem?_eq_some_iff.mp hs).1
  by_cases hi : o = i
  · subst hi
    rw [if_pos rfl, if_pos hlt, hs, hE]
    rfl
  · rw [if_neg hi, h1 i (fun q => hi q.symm), h2 i (fun q => hi q.symm)]
theorem z_wl_setO {dA : Nat → ClassId} {ad : Nat → Nat} {h : z_H} {sh : z_Sh} {o ci k : Nat} {ks : List Nat} {v : Int32} (hs : z_nth sh o = some (0, ci, ks)) (hk : z_nth ks k = some 0) : (z_wl dA ad h sh 0).set o (ad o, .inr (ci, (z_fs ad (h.1 o) (h.2 o) ks 0).set k (.int v))) = z_wl dA ad (z_set h o k v) sh 0 :=
  z_wl_put hs (fun _ ha => z_set_ne ha) (fun _ _ => rfl) (by rw [z_ks_set hk, z_set_same]; rfl)
theorem z_wl_setOL {dA : Nat → ClassId} {ad : Nat → Nat} {h : z_H} {sh : z_Sh} {o ci k : Nat} {ks : List Nat} {v : Int64} (hs : z_nth sh o = some (0, ci, ks)) (hk : z_nth ks k = some 1) : (z_wl dA ad h sh 0).set o (ad o, .inr (ci, (z_fs ad (h.1 o) (h.2 o) ks 0).set k (.long v))) = z_wl dA ad (z_setL h o k v) sh 0 :=
  z_wl_put hs (fun _ _ => rfl) (fun _ ha => z_setL_ne ha) (by rw [z_ks_setL hk, z_setL_same]; rfl)
theorem z_wl_setI {dA : Nat → ClassId} {ad : Nat → Nat} {h : z_H} {sh : z_Sh} {o n k : Nat} {ks : List Nat} {v : Int32} (hs : z_nth sh o = some (1, n, ks)) : (z_wl dA ad h sh 0).set o (ad o, .inl (dA 1, n, .inl (upd (h.1 o) k v))) = z_wl dA ad (z_set h o k v) sh 0 :=
  z_wl_put hs (fun _ ha => z_set_ne ha) (fun _ _ => rfl) (by rw [z_set_same]; rfl)
theorem z_wl_setB {dA : Nat → ClassId} {ad : Nat → Nat} {h : z_H} {sh : z_Sh} {o n k : Nat} {ks : List Nat} {v : Int32} (hs : z_nth sh o = some (3, n, ks)) : (z_wl dA ad h sh 0).set o (ad o, .inl (dA 3, n, .inl (upd (h.1 o) k v))) = z_wl dA ad (z_set h o k v) sh 0 :=
  z_wl_put hs (fun _ ha => z_set_ne ha) (fun _ _ => rfl) (by rw [z_set_same]; rfl)
theorem z_wl_setJ {dA : Nat → ClassId} {ad : Nat → Nat} {h : z_H} {sh : z_Sh} {o n k : Nat} {ks : List Nat} {v : Int64} (hs : z_nth sh o = some (2, n, ks)) : (z_wl dA ad h sh 0).set o (ad o, .inl (dA 2, n, .inr (.inl (vp_updL (h.2 o) k v)))) = z_wl dA ad (z_setL h o k v) sh 0 :=
  z_wl_put hs (fun _ _ => rfl) (fun _ ha => z_setL_ne ha) (by rw [z_setL_same]; rfl)
/-! ===== locals ===== -/
def z_al (ad : Nat → Nat) : List (Option Value) → Nat → List (Nat × Value)
  | [], _ => []
  | none :: r, i => z_al ad r (i + 1)
  | some v :: r, i => (i, z_con ad v) :: z_al ad r (i + 1)
theorem z_al_mem (ad : Nat → Nat) : ∀ (ls : List (Option Value)) (i0 : Nat) (q : Nat × Value), q ∈ z_al ad ls i0 ↔ ∃ (j : Nat) (v : Value), z_nth ls j = some (some v) ∧ q = (i0 + j, z_con ad v)
  | [], i0, q => by simp [z_al, z_nth]
  | none :: r, i0, q => by
    rw [show z_al ad (none :: r) i0 = z_al ad r (i0 + 1) from rfl, z_al_mem ad r (i0 + 1) q]
    constructor
    · rintro ⟨j, v, h1, h2⟩
      exact ⟨j + 1, v, h1, by rw [h2]; congr 1; omega⟩
    · rintro ⟨j, v, h1, h2⟩
      match j, h1 with
      | j + 1, h1 => exact ⟨j, v, h1, by rw [h2]; congr 1; omega⟩
  | some w :: r, i0, q => by
    rw [show z_al ad (some w :: r) i0 = (i0, z_con ad w) :: z_al ad r (i0 + 1) from rfl, List.mem_cons, z_al_mem ad r (i0 + 1) q]
    constructor
    · rintro (h | ⟨j, v, h1, h2⟩)
      · exact ⟨0, w, rfl, h⟩
      · exact ⟨j + 1, v, h1, by rw [h2]; congr 1; omega⟩
    · rintro ⟨j, v, h1, h2⟩
      match j, h1 with
      | 0, h1 =>
        cases h1
        exact Or.inl h2
      | j + 1, h1 => exact Or.inr ⟨j, v, h1, by rw [h2]; congr 1; omega⟩
/-- the locals: of nL slots, those that are known hold their values -/
def z_lo (ad : Nat → Nat) (nL : Nat) (ls : List (Option Value)) (la : Array Slot) : Prop := ls.length = nL ∧ lv_has la nL (z_al ad ls 0)
theorem z_lo_get {ad : Nat → Nat} {nL : Nat} {ls : List (Option Value)} {la : Array Slot} (h : z_lo ad nL ls la) {i : Nat} {v : Value} (hv : z_nth ls i = some (some v)) : la[i]? = some (.val (z_con ad v)) := by
  have h1 := h.2.2.2 (i, z_con ad v) ((z_al_mem ad ls 0 _).mpr ⟨i, v, hv, by rw [Nat.zero_add]⟩)
  exact h1
def z_put {α : Type} : List α → Nat → α → List α
  | [], _, _ => []
  | _ :: l, 0, x => x :: l
  | a :: l, k + 1, x => a :: z_put l k x
theorem z_put_len {α : Type} : ∀ (l : List α) (k : Nat) (x : α), (z_put l k x).length = l.length
  | [], _, _ => rfl
  | _ :: l, 0, x => rfl
  | a :: l, k + 1, x => by simp [z_put, z_put_len l k x]
theorem z_put_nth {α : Type} : ∀ (l : List α) (k : Nat) (x : α) (j : Nat), z_nth (z_put l k x) j = if j = k ∧ k < l.length then some x else z_nth l j
  | [], k, x, j => by simp [z_put, z_nth]
  | a :: l, 0, x, 0 => by simp [z_put, z_nth]
  | a :: l, 0, x, j + 1 => by simp [z_put, z_nth]
  | a :: l, k + 1, x, 0 => by simp [z_put, z_nth]
  | a :: l, k + 1, x, j + 1 => by
    rw [show z_nth (z_put (a :: l) (k + 1) x) (j + 1) = z_nth (z_put l k x) j from rfl, z_put_nth l k x j]
    simp [z_nth]
/-- is a long listed at the slot ahead of this one? -/
def z_lg : List (Option Value) → Nat → Bool
  | _, 0 => false
  | ls, k + 1 => match z_nth ls k with
    | some (some (.long _)) => true
    | some (some (.double _)) => true
    | _ => false
def z_sto (ls : List (Option Value)) (i : Nat) (v : Value) : Option (List (Option Value)) :=
  match Nat.blt i ls.length && !z_lg ls i with
  | true => some (z_put ls i (some v))
  | false => none
def z_sto2 (ls : List (Option Value)) (i : Nat) (v : Value) : Option (List (Option Value)) :=
  match Nat.blt (i + 1) ls.length && !z_lg ls i with
  | true => some (z_put (z_put ls i (some v)) (i + 1) none)
  | false => none
theorem z_lg_cat {ls : List (Option Value)} {j : Nat} {v : Value} (h : z_lg ls (j + 1) = false) (hv : z_nth ls j = some (some v)) : v.category = 1 := by
  simp only [z_lg, hv] at h
  cases v <;> first | rfl | (simp at h)
theorem z_lo_set {ad : Nat → Nat} {nL : Nat} {ls ls' : List (Option Value)} {la : Array Slot} {i : Nat} {v : Value} {l' : List (Nat × Value)} (h : z_lo ad nL ls la) (hs : z_sto ls i v = some ls') (hl : l' = (i, z_con ad v) :: (z_al ad ls 0).filter (fun q => !(q.1 == i) && !(q.1 + 1 == i && q.2.category == 2))) : i < nL ∧ ∀ la', lv_has la' nL l' → z_lo ad nL ls' la' := by
  unfold z_sto at hs
  split at hs
  · rename_i hc
    simp only [Bool.and_eq_true, Bool.not_eq_true', Nat.blt_eq] at hc
    cases hs
    refine ⟨by rw [← h.1]; exact hc.1, fun la' h' => ⟨by rw [z_put_len]; exact h.1, h'.1, h'.2.1, ?_⟩⟩
    intro q hq
    obtain ⟨j, w, h1, h2⟩ := (z_al_mem ad _ 0 q).mp hq
    rw [z_put_nth] at h1
    refine h'.2.2 q ?_
    rw [hl, h2, Nat.zero_add]
    by_cases hj : j = i ∧ i < ls.length
    · rw [if_pos hj] at h1
      cases h1
      rw [hj.1]
      exact List.mem_cons_self
    · rw [if_neg hj] at h1
      have hji : j ≠ i := fun e => hj ⟨e, hc.1⟩
      refine List.mem_cons_of_mem _ (List.mem_filter.mpr ⟨(z_al_mem ad ls 0 _).mpr ⟨j, w, h1, by rw [Nat.zero_add]⟩, ?_⟩)
      simp only [Bool.and_eq_true, Bool.not_eq_true', beq_eq_false_iff_ne, ne_eq, hji, not_false_eq_true, true_and]
      by_cases e : j + 1 = i
      · have := z_lg_cat (j := j) (by rw [e]; exact hc.2) h1
        simp [z_con_cat, this]
      · simp [e]
  · cases hs
theorem z_lo_set2 {ad : Nat → Nat} {nL : Nat} {ls ls' : List (Option Value)} {la : Array Slot} {i : Nat} {v : Value} {l' : List (Nat × Value)} (h : z_lo ad nL ls la) (hs : z_sto2 ls i v = some ls') (hl : l' = (i, z_con ad v) :: (z_al ad ls 0).filter (fun q => !(q.1 == i) && (!(q.1 == i + 1) && !(q.1 + 1 == i && q.2.category == 2)))) : i + 1 < nL ∧ ∀ la', lv_has la' nL l' → z_lo ad nL ls' la' := by
  unfold z_sto2 at hs
  split at hs
  · rename_i hc
    simp only [Bool.and_eq_true, Bool.not_eq_true', Nat.blt_eq] at hc
    cases hs
    refine ⟨by rw [← h.1]; exact hc.1, fun la' h' => ⟨by rw [z_put_len, z_put_len]; exact h.1, h'.1, h'.2.1, ?_⟩⟩
    intro q hq
    obtain ⟨j, w, h1, h2⟩ := (z_al_mem ad _ 0 q).mp hq
    rw [z_put_nth, z_put_len, z_put_nth] at h1
    refine h'.2.2 q ?_
    rw [hl, h2, Nat.zero_add]
    by_cases hj1 : j = i + 1
    · rw [if_pos ⟨hj1, hc.1⟩] at h1
      cases h1
    · rw [if_neg (fun e => hj1 e.1)] at h1
      by_cases hj : j = i
      · rw [if_pos ⟨hj, by omega⟩] at h1
        cases h1
        rw [hj]
        exact List.mem_cons_self
      · rw [if_neg (fun e => hj e.1)] at h1
        refine List.mem_cons_of_mem _ (List.mem_filter.mpr ⟨(z_al_mem ad ls 0 _).mpr ⟨j, w, h1, by rw [Nat.zero_add]⟩, ?_⟩)
        simp only [Bool.and_eq_true, Bool.not_eq_true', beq_eq_false_iff_ne, ne_eq, hj, hj1, not_false_eq_true, true_and]
        by_cases e : j + 1 = i
        · have := z_lg_cat (j := j) (by rw [e]; exact hc.2) h1
          simp [z_con_cat, this]
        · simp [e]
  · cases hs
