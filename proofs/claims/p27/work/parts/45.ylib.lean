/-! ===== pure: a function and what it asks, walked together ===== -/
def y_W {α : Type} (T : Prop) (r : α) (P : α → Prop) : Prop := T ∧ P r
theorem y_end {α : Type} {r : α} {P : α → Prop} (h : P r) : y_W True r P := ⟨trivial, h⟩
theorem y_if {α : Type} {c A B : Prop} {d : Decidable c} {a b : α} {P : α → Prop} (f : c → y_W A a P) (g : ¬ c → y_W B b P) : y_W ((c → A) ∧ (¬ c → B)) (@ite α c d a b) P := by
  by_cases hc : c
  · rw [if_pos hc]; exact ⟨⟨fun _ => (f hc).1, fun h => absurd hc h⟩, (f hc).2⟩
  · rw [if_neg hc]; exact ⟨⟨fun h => absurd h hc, fun _ => (g hc).1⟩, (g hc).2⟩
theorem y_pos {α : Type} {c A B : Prop} {d : Decidable c} {a b : α} {P : α → Prop} (hc : c) (f : y_W A a P) : y_W ((c → A) ∧ (¬ c → B)) (@ite α c d a b) P := y_if (fun _ => f) (fun h => absurd hc h)
theorem y_neg {α : Type} {c A B : Prop} {d : Decidable c} {a b : α} {P : α → Prop} (hc : ¬ c) (f : y_W B b P) : y_W ((c → A) ∧ (¬ c → B)) (@ite α c d a b) P := y_if (fun h => absurd h hc) (fun _ => f)
theorem y_req {α : Type} {V A : Prop} {a : α} {P : α → Prop} (v : V) (f : y_W A a P) : y_W (V ∧ A) a P := ⟨⟨v, f.1⟩, f.2⟩
theorem y_mono {α : Type} {T : Prop} {a : α} {P Q : α → Prop} (f : y_W T a P) (g : P a → Q a) : y_W T a Q := ⟨f.1, g f.2⟩
theorem y_le {α : Type} {x y : Int32} {A B : Prop} {d : Decidable (x ≤ y)} {r s : α} {P : α → Prop} (a b : Nat) (hx : x = nI a) (hy : y = nI b) (f : a ≤ b → y_W A r P) (g : b < a → y_W B s P) (ha : a < 2 ^ 31 := by omega) (hb : b < 2 ^ 31 := by omega) : y_W ((x ≤ y → A) ∧ (¬ x ≤ y → B)) (@ite α (x ≤ y) d r s) P := by
  subst hx hy
  exact y_if (fun c => f ((nI_leI ha hb).mp c)) (fun c => g (Nat.lt_of_not_le (fun z => c ((nI_leI ha hb).mpr z))))
theorem y_lt {α : Type} {x y : Int32} {A B : Prop} {d : Decidable (x < y)} {r s : α} {P : α → Prop} (a b : Nat) (hx : x = nI a) (hy : y = nI b) (f : a < b → y_W A r P) (g : b ≤ a → y_W B s P) (ha : a < 2 ^ 31 := by omega) (hb : b < 2 ^ 31 := by omega) : y_W ((x < y → A) ∧ (¬ x < y → B)) (@ite α (x < y) d r s) P := by
  subst hx hy
  exact y_if (fun c => f ((nI_ltI ha hb).mp c)) (fun c => g (Nat.le_of_not_lt (fun z => c ((nI_ltI ha hb).mpr z))))
theorem y_eq {α : Type} {x y : Int32} {A B : Prop} {d : Decidable (x = y)} {r s : α} {P : α → Prop} (a b : Nat) (hx : x = nI a) (hy : y = nI b) (f : a = b → y_W A r P) (g : a ≠ b → y_W B s P) (ha : a < 2 ^ 31 := by omega) (hb : b < 2 ^ 31 := by omega) : y_W ((x = y → A) ∧ (¬ x = y → B)) (@ite α (x = y) d r s) P := by
  subst hx hy
  exact y_if (fun c => f ((nI_eq ha hb).mp c)) (fun c => g (fun z => c ((nI_eq ha hb).mpr z)))
theorem p_i_99 : p_i 99 = -1 := rfl
theorem p_i_n {n : Nat} (h : n ≠ 99) : p_i n = nI n := if_neg h
theorem y_m1 : ∀ n, n < 2 ^ 31 → nI n ≠ (-1) := by
  intro n hn h
  have := congrArg Int32.toInt h
  rw [nI_toInt hn, show ((-1 : Int32)).toInt = -1 from by decide] at this
  omega
theorem p_i_m1 {n : Nat} (hn : n < 2 ^ 31) : p_i n = (-1) ↔ n = 99 := by
  by_cases h : n = 99
  · subst h; exact ⟨fun _ => rfl, fun _ => rfl⟩
  · rw [p_i_n h]; exact ⟨fun z => absurd z (y_m1 n hn), fun z => absurd z h⟩
theorem p_i_eq {a b : Nat} (ha : a < 2 ^ 31) (hb : b < 2 ^ 31) : p_i a = p_i b ↔ a = b := by
  by_cases h : a = 99
  · subst h
    rw [p_i_99, eq_comm, p_i_m1 hb]; exact eq_comm
  · by_cases h2 : b = 99
    · subst h2
      rw [p_i_99, p_i_m1 ha]
    · rw [p_i_n h, p_i_n h2, nI_eq ha hb]
theorem p_i_eqn {a b : Nat} (ha : a < 2 ^ 31) (hb : b < 99) : p_i a = nI b ↔ a = b := by
  rw [← p_i_n (n := b) (by omega), p_i_eq ha (by omega)]
/-- is it NONE? -/
theorem y_none {α : Type} {x : Int32} {A B : Prop} {d : Decidable (x = (-1))} {r s : α} {P : α → Prop} (n : Nat) (hx : x = p_i n) (f : n = 99 → y_W A r P) (g : n ≠ 99 → y_W B s P) (hn : n < 2 ^ 31 := by omega) : y_W ((x = (-1) → A) ∧ (¬ x = (-1) → B)) (@ite α (x = (-1)) d r s) P := by
  subst hx
  exact y_if (fun c => f ((p_i_m1 hn).mp c)) (fun c => g (fun z => c ((p_i_m1 hn).mpr z)))
/-! frames -/
def y_fr (os : List Nat) (h h' : z_H) : Prop := ∀ a, a ∉ os → h'.1 a = h.1 a ∧ h'.2 a = h.2 a
theorem y_fr_refl {os : List Nat} {h : z_H} : y_fr os h h := fun _ _ => ⟨rfl, rfl⟩
theorem y_fr_trans {os : List Nat} {h h' h'' : z_H} (f : y_fr os h h') (g : y_fr os h' h'') : y_fr os h h'' := fun a ha => ⟨(g a ha).1.trans (f a ha).1, (g a ha).2.trans (f a ha).2⟩
theorem y_fr_mono {os os' : List Nat} {h h' : z_H} (f : y_fr os h h') (hs : ∀ a ∈ os, a ∈ os') : y_fr os' h h' := fun a ha => f a (fun z => ha (hs a z))
theorem y_fr_set {os : List Nat} {h h' : z_H} (f : y_fr os h h') {o k : Nat} {v : Int32} (ho : o ∈ os) : y_fr os h (z_set h' o k v) := fun a ha => ⟨(z_set_ne (fun (e : a = o) => ha (by rw [e]; exact ho))).trans (f a ha).1, (f a ha).2⟩
theorem y_fr_setL {os : List Nat} {h h' : z_H} (f : y_fr os h h') {o k : Nat} {v : Int64} (ho : o ∈ os) : y_fr os h (z_setL h' o k v) := fun a ha => ⟨(f a ha).1, (z_setL_ne (fun (e : a = o) => ha (by rw [e]; exact ho))).trans (f a ha).2⟩
theorem y_fr_at {os : List Nat} {h h' : z_H} (f : y_fr os h h') (a : Nat) (ha : a ∉ os := by decide) : h'.1 a = h.1 a := (f a ha).1
theorem y_fr_atL {os : List Nat} {h h' : z_H} (f : y_fr os h h') (a : Nat) (ha : a ∉ os := by decide) : h'.2 a = h.2 a := (f a ha).2
/-! reading behind a store -/
theorem y_sh {h : z_H} {o k : Nat} {v : Int32} : (z_set h o k v).1 o k = v := by simp [z_set]
theorem y_sk {h : z_H} {o k b : Nat} {v : Int32} (hb : b ≠ k) : (z_set h o k v).1 o b = h.1 o b := by simp [z_set, hb]
theorem y_sif (h : z_H) (o k b : Nat) (v : Int32) : (z_set h o k v).1 o b = if b = k then v else h.1 o b := by simp [z_set]
theorem y_s2 (h : z_H) (o k : Nat) (v : Int32) : (z_set h o k v).2 = h.2 := rfl
theorem y_l1 (h : z_H) (o k : Nat) (v : Int64) : (z_setL h o k v).1 = h.1 := rfl
theorem y_atv {h : z_H} {o n k : Nat} (hk : k < n) (hn : n < 2 ^ 31 := by omega) : z_atv h o n (nI k) = h.1 o k := by
  rw [z_atv_in (vp_in_nI hk hn) hn, nI_clamp (by omega)]
theorem y_putv {h : z_H} {o n k : Nat} {x : Int32} (hk : k < n) (hn : n < 2 ^ 31 := by omega) : z_putv h o n (nI k) x = z_set h o k x := by
  rw [z_putv_in (vp_in_nI hk hn) hn, nI_clamp (by omega)]
theorem y_atv99 {h : z_H} {o n : Nat} : z_atv h o n (-1) = (-1) := by
  rw [z_atv, if_pos (by decide)]
theorem y_and63 {n : Nat} (hn : n < 2 ^ 32) : nI n &&& nI 63 = nI (n % 64) := pk_andN hn 6 (by decide)
theorem y_cl63 {n : Nat} (hn : n < 2 ^ 32) : (nI n &&& nI 63).toNatClampNeg = n % 64 := by
  rw [y_and63 hn, nI_clamp (by have := Nat.mod_lt n (show 0 < 64 by decide); omega)]
