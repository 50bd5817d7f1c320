/-! ===== pure: blocks, links, and the cycle round the tree ===== -/
def p_blk (c : Nat) : Nat := 3 * (c / 6 / 2) + c % 6 / 2
def p_ul (b : Nat) : Nat := 12 * (b / 3) + 2 * (b % 3)
def p_fb (l : Nat) : Nat := if l < 6 then 3 * (l / 2) + l % 2 else l - 6
def p_sb (l : Nat) : Nat := if l < 6 then p_fb l + 1 else p_fb l + 3
/-- the link that leads out of a block in a direction; 99: none -/
def p_lo (b d : Nat) : Nat := match d with
  | 0 => if b < 3 then 99 else b + 3
  | 1 => if b % 3 = 2 then 99 else 2 * (b / 3) + b % 3
  | 2 => if b < 6 then 6 + b else 99
  | _ => if b % 3 = 0 then 99 else 2 * (b / 3) + b % 3 - 1
/-- the cell beside a cell in a direction; 99: none -/
def p_cb (c d : Nat) : Nat := match d with
  | 0 => if c < 6 then 99 else c - 6
  | 1 => if c % 6 = 5 then 99 else c + 1
  | 2 => if c < 30 then c + 6 else 99
  | _ => if c % 6 = 0 then 99 else c - 1
def p_crn (c : Nat) : Nat := if c / 6 % 2 = 1 then (if c % 2 = 1 then 2 else 3) else (if c % 2 = 1 then 1 else 0)
/-- the next cell round the tree T (a set of links) -/
def p_nx (T : Nat → Bool) (c : Nat) : Nat := if T (p_lo (p_blk c) (p_crn c)) then p_cb c (p_crn c) else p_cb c ((p_crn c + 1) % 4)
/-- a row of cells along f: from a over L to e -/
def p_ch (f : Nat → Nat) : Nat → List Nat → Nat → Prop
  | a, [], e => f a = e
  | a, b :: L, e => f a = b ∧ p_ch f b L e
theorem p_ch_app (f : Nat → Nat) : ∀ (a : Nat) (L : List Nat) (b : Nat) (M : List Nat) (e : Nat), p_ch f a (L ++ b :: M) e ↔ p_ch f a L b ∧ p_ch f b M e
  | a, [], b, M, e => Iff.rfl
  | a, x :: L, b, M, e => by
    show (f a = x ∧ p_ch f x (L ++ b :: M) e) ↔ (f a = x ∧ p_ch f x L b) ∧ p_ch f b M e
    rw [p_ch_app f x L b M e, and_assoc]
theorem p_ch_congr {f f' : Nat → Nat} : ∀ (a : Nat) (L : List Nat) (e : Nat), (∀ x ∈ a :: L, f' x = f x) → p_ch f a L e → p_ch f' a L e
  | a, [], e, h, hc => (h a List.mem_cons_self).trans hc
  | a, b :: L, e, h, hc => ⟨(h a List.mem_cons_self).trans hc.1, p_ch_congr b L e (fun x hx => h x (List.mem_cons_of_mem _ hx)) hc.2⟩
theorem p_ch_start {f f' : Nat → Nat} {u v : Nat} {N : List Nat} {e : Nat} (h : p_ch f v N e) (hu : f' u = f v) (hN : ∀ x ∈ N, f' x = f x) : p_ch f' u N e := by
  cases N with
  | nil => exact hu.trans h
  | cons b N => exact ⟨hu.trans h.1, p_ch_congr b N e hN h.2⟩
/-- a cycle may begin at any of its cells -/
theorem p_rot {f : Nat → Nat} {a : Nat} {L : List Nat} (h : p_ch f a L a) {u : Nat} (hu : u ∈ a :: L) : ∃ M, p_ch f u M u ∧ (u :: M).Perm (a :: L) := by
  rcases List.mem_cons.mp hu with rfl | hu
  · exact ⟨L, h, List.Perm.refl _⟩
  · obtain ⟨A, B, rfl⟩ := List.append_of_mem hu
    obtain ⟨h1, h2⟩ := (p_ch_app f a A u B a).mp h
    refine ⟨B ++ a :: A, (p_ch_app f u B a A u).mpr ⟨h2, h1⟩, ?_⟩
    have : (u :: B ++ a :: A).Perm (a :: A ++ u :: B) := List.perm_append_comm
    exact this
/-- two cycles that swap what follows one cell of each become one -/
theorem p_merge {f f' : Nat → Nat} {u v : Nat} {M N : List Nat} (hM : p_ch f u M u) (hN : p_ch f v N v) (h1 : f' u = f v) (h2 : f' v = f u) (hm : ∀ x ∈ M, f' x = f x) (hn : ∀ x ∈ N, f' x = f x) : p_ch f' u (N ++ v :: M) u :=
  (p_ch_app f' u N v M u).mpr ⟨p_ch_start hN h1 hn, p_ch_start hM h2 hm⟩
/-- the cells where a link shows: over (in its first block) and back (in its second) -/
def p_ov (l : Nat) : Nat := if l < 6 then p_ul (p_fb l) + 1 else p_ul (p_fb l) + 7
def p_bk (l : Nat) : Nat := if l < 6 then p_ul (p_sb l) + 6 else p_ul (p_sb l)
theorem p_shows : ∀ l, l < 12 → ∀ c, c < 36 → (p_lo (p_blk c) (p_crn c) = l ↔ c = p_ov l ∨ c = p_bk l) := by decide +kernel
theorem p_links : ∀ l, l < 12 → p_blk (p_ov l) = p_fb l ∧ p_blk (p_bk l) = p_sb l ∧ p_ov l < 36 ∧ p_bk l < 36 ∧ p_cb (p_ov l) (p_crn (p_ov l)) = p_cb (p_bk l) ((p_crn (p_bk l) + 1) % 4) ∧ p_cb (p_bk l) (p_crn (p_bk l)) = p_cb (p_ov l) ((p_crn (p_ov l) + 1) % 4) := by decide +kernel
theorem p_los : ∀ c, c < 36 → p_lo (p_blk c) (p_crn c) < 12 ∨ p_lo (p_blk c) (p_crn c) = 99 := by decide +kernel
def p_cnt (g : Nat → Nat) (a : Nat) : Nat := ((List.range 9).filter (fun b => g b == a)).length
/-- the groups g and the tree T: each cell's cycle goes through just the cells of its group -/
def p_J (g : Nat → Nat) (T : Nat → Bool) : Prop := ∀ c0, c0 < 36 → ∃ L, p_ch (p_nx T) c0 L c0 ∧ (c0 :: L).Nodup ∧ (∀ c, c ∈ c0 :: L ↔ c < 36 ∧ g (p_blk c) = g (p_blk c0)) ∧ (c0 :: L).length = 4 * p_cnt g (g (p_blk c0))
def p_ring (c : Nat) : List Nat := [p_cb c ((p_crn c + 1) % 4), p_cb (p_cb c ((p_crn c + 1) % 4)) ((p_crn (p_cb c ((p_crn c + 1) % 4)) + 1) % 4), p_cb (p_cb (p_cb c ((p_crn c + 1) % 4)) ((p_crn (p_cb c ((p_crn c + 1) % 4)) + 1) % 4)) ((p_crn (p_cb (p_cb c ((p_crn c + 1) % 4)) ((p_crn (p_cb c ((p_crn c + 1) % 4)) + 1) % 4)) + 1) % 4)]
theorem p_ring_ok : ∀ c, c < 36 → p_nx (fun _ => false) c = p_cb c ((p_crn c + 1) % 4) ∧ p_cb c ((p_crn c + 1) % 4) < 36 ∧ (p_cb (p_cb (p_cb c ((p_crn c + 1) % 4)) ((p_crn (p_cb c ((p_crn c + 1) % 4)) + 1) % 4)) ((p_crn (p_cb (p_cb c ((p_crn c + 1) % 4)) ((p_crn (p_cb c ((p_crn c + 1) % 4)) + 1) % 4)) + 1) % 4)) < 36 ∧ p_nx (fun _ => false) (p_cb (p_cb (p_cb c ((p_crn c + 1) % 4)) ((p_crn (p_cb c ((p_crn c + 1) % 4)) + 1) % 4)) ((p_crn (p_cb (p_cb c ((p_crn c + 1) % 4)) ((p_crn (p_cb c ((p_crn c + 1) % 4)) + 1) % 4)) + 1) % 4)) = c ∧ (c :: p_ring c).Nodup ∧ (∀ x ∈ c :: p_ring c, x < 36) ∧ p_cnt id (p_blk c) = 1 := by decide +kernel
theorem p_ring_mem : ∀ c, c < 36 → ∀ x, x < 36 → (x ∈ c :: p_ring c ↔ p_blk x = p_blk c) := by decide +kernel
theorem p_J0 : p_J id (fun _ => false) := by
  intro c hc
  obtain ⟨h1, h2, h3, h4, h5, h6, h7⟩ := p_ring_ok c hc
  refine ⟨p_ring c, ⟨h1, rfl, rfl, h4⟩, h5, fun x => ⟨fun hx => ⟨h6 x hx, (p_ring_mem c hc x (h6 x hx)).mp hx⟩, fun hx => (p_ring_mem c hc x hx.1).mpr hx.2⟩, ?_⟩
  show 4 = 4 * p_cnt id (p_blk c)
  rw [h7]
theorem p_cnt_merge (g : Nat → Nat) {a b : Nat} (hab : a ≠ b) : ∀ (L : List Nat), (L.filter (fun x => (if g x = b then a else g x) == a)).length = (L.filter (fun x => g x == a)).length + (L.filter (fun x => g x == b)).length
  | [] => rfl
  | x :: L => by
    have ih := p_cnt_merge g hab L
    by_cases h1 : g x = b
    · have h2 : ¬ g x = a := fun h => hab (h.symm.trans h1)
      simp only [List.filter_cons, h1, if_true, beq_self_eq_true, List.length_cons, ih]
      have h3 : (b == a) = false := by simp [Ne.symm hab]
      simp only [h3, Bool.false_eq_true, if_false]
      omega
    · by_cases h2 : g x = a
      · have h3 : (a == b) = false := by simp [hab]
        simp only [List.filter_cons, h2, if_neg hab, beq_self_eq_true, if_true, h3, Bool.false_eq_true, if_false, List.length_cons, ih]
        omega
      · have h3 : (g x == a) = false := by simp [h2]
        have h4 : (g x == b) = false := by simp [h1]
        simp only [List.filter_cons, if_neg h1, h3, h4, Bool.false_eq_true, if_false, ih]
theorem p_Jstep {g : Nat → Nat} {T : Nat → Bool} {l : Nat} (hJ : p_J g T) (hl : l < 12) (hT : T l = false) (hg : g (p_fb l) ≠ g (p_sb l)) : p_J (fun b => if g b = g (p_sb l) then g (p_fb l) else g b) (fun k => k == l || T k) := by
  obtain ⟨k1, k2, k3, k4, k5, k6⟩ := p_links l hl
  have su := (p_shows l hl _ k3).mpr (Or.inl rfl)
  have sv := (p_shows l hl _ k4).mpr (Or.inr rfl)
  have fu : p_nx T (p_ov l) = p_cb (p_ov l) ((p_crn (p_ov l) + 1) % 4) := by unfold p_nx; rw [su, hT]; rfl
  have fv : p_nx T (p_bk l) = p_cb (p_bk l) ((p_crn (p_bk l) + 1) % 4) := by unfold p_nx; rw [sv, hT]; rfl
  have gu : p_nx (fun k => k == l || T k) (p_ov l) = p_nx T (p_bk l) := by
    rw [fv, ← k5]; unfold p_nx; rw [su]; simp
  have gv : p_nx (fun k => k == l || T k) (p_bk l) = p_nx T (p_ov l) := by
    rw [fu, ← k6]; unfold p_nx; rw [sv]; simp
  have go : ∀ c, c < 36 → c ≠ p_ov l → c ≠ p_bk l → p_nx (fun k => k == l || T k) c = p_nx T c := by
    intro c hc h1 h2
    have hne : ¬ p_lo (p_blk c) (p_crn c) = l := fun e => by
      rcases (p_shows l hl c hc).mp e with h | h
      · exact h1 h
      · exact h2 h
    unfold p_nx
    have : (p_lo (p_blk c) (p_crn c) == l) = false := by simp [hne]
    simp only [this, Bool.false_or]
  obtain ⟨M, m1, m2, m3, m4⟩ := hJ _ k3
  obtain ⟨N, n1, n2, n3, n4⟩ := hJ _ k4
  rw [k1] at m3 m4
  rw [k2] at n3 n4
  have hMm : ∀ x ∈ M, p_nx (fun k => k == l || T k) x = p_nx T x := fun x hx => by
    obtain ⟨h1, h2⟩ := (m3 x).mp (List.mem_cons_of_mem _ hx)
    refine go x h1 (fun e => ?_) (fun e => ?_)
    · subst e; exact (List.nodup_cons.mp m2).1 hx
    · subst e; rw [k2] at h2; exact hg h2.symm
  have hNm : ∀ x ∈ N, p_nx (fun k => k == l || T k) x = p_nx T x := fun x hx => by
    obtain ⟨h1, h2⟩ := (n3 x).mp (List.mem_cons_of_mem _ hx)
    refine go x h1 (fun e => ?_) (fun e => ?_)
    · subst e; rw [k1] at h2; exact hg h2
    · subst e; exact (List.nodup_cons.mp n2).1 hx
  have hmerge := p_merge m1 n1 gu gv hMm hNm
  have hmem : ∀ c, c ∈ p_ov l :: (N ++ p_bk l :: M) ↔ c < 36 ∧ (g (p_blk c) = g (p_fb l) ∨ g (p_blk c) = g (p_sb l)) := by
    intro c
    have e : c ∈ p_ov l :: (N ++ p_bk l :: M) ↔ c ∈ p_ov l :: M ∨ c ∈ p_bk l :: N := by
      simp only [List.mem_cons, List.mem_append]
      constructor
      · rintro (h | h | h | h)
        · exact Or.inl (Or.inl h)
        · exact Or.inr (Or.inr h)
        · exact Or.inr (Or.inl h)
        · exact Or.inl (Or.inr h)
      · rintro ((h | h) | (h | h))
        · exact Or.inl h
        · exact Or.inr (Or.inr (Or.inr h))
        · exact Or.inr (Or.inr (Or.inl h))
        · exact Or.inr (Or.inl h)
    rw [e, m3, n3]
    constructor
    · rintro (⟨h1, h2⟩ | ⟨h1, h2⟩)
      · exact ⟨h1, Or.inl h2⟩
      · exact ⟨h1, Or.inr h2⟩
    · rintro ⟨h1, h2 | h2⟩
      · exact Or.inl ⟨h1, h2⟩
      · exact Or.inr ⟨h1, h2⟩
  have hperm : (p_ov l :: (N ++ p_bk l :: M)).Perm ((p_ov l :: M) ++ (p_bk l :: N)) := by
    have h1 : (N ++ p_bk l :: M).Perm (M ++ p_bk l :: N) := by
      have a1 : (N ++ p_bk l :: M).Perm (p_bk l :: (N ++ M)) := List.perm_middle
      have a2 : (M ++ p_bk l :: N).Perm (p_bk l :: (M ++ N)) := List.perm_middle
      exact a1.trans ((List.Perm.cons _ List.perm_append_comm).trans a2.symm)
    exact List.Perm.cons _ h1
  have hnd : (p_ov l :: (N ++ p_bk l :: M)).Nodup := by
    refine hperm.nodup_iff.mpr (List.nodup_append.mpr ⟨m2, n2, fun x hx y hy e => ?_⟩)
    subst e
    exact hg (((m3 x).mp hx).2.symm.trans ((n3 x).mp hy).2)
  have hlen : (p_ov l :: (N ++ p_bk l :: M)).length = 4 * p_cnt (fun b => if g b = g (p_sb l) then g (p_fb l) else g b) (g (p_fb l)) := by
    rw [hperm.length_eq, List.length_append, m4, n4]
    unfold p_cnt
    rw [p_cnt_merge g hg]
    omega
  intro c0 hc0
  by_cases hc : g (p_blk c0) = g (p_fb l) ∨ g (p_blk c0) = g (p_sb l)
  · obtain ⟨K, q1, q2⟩ := p_rot hmerge ((hmem c0).mpr ⟨hc0, hc⟩)
    have hg0 : (if g (p_blk c0) = g (p_sb l) then g (p_fb l) else g (p_blk c0)) = g (p_fb l) := by
      by_cases h : g (p_blk c0) = g (p_sb l)
      · rw [if_pos h]
      · rw [if_neg h]; exact hc.resolve_right h
    refine ⟨K, q1, q2.nodup_iff.mpr hnd, fun c => ?_, ?_⟩
    · rw [q2.mem_iff, hmem c]
      show _ ↔ c < 36 ∧ (if g (p_blk c) = g (p_sb l) then g (p_fb l) else g (p_blk c)) = (if g (p_blk c0) = g (p_sb l) then g (p_fb l) else g (p_blk c0))
      rw [hg0]
      constructor
      · rintro ⟨h1, h2⟩
        refine ⟨h1, ?_⟩
        by_cases h : g (p_blk c) = g (p_sb l)
        · rw [if_pos h]
        · rw [if_neg h]; exact h2.resolve_right h
      · rintro ⟨h1, h2⟩
        refine ⟨h1, ?_⟩
        by_cases h : g (p_blk c) = g (p_sb l)
        · exact Or.inr h
        · rw [if_neg h] at h2; exact Or.inl h2
    · rw [q2.length_eq, hlen]
      show _ = 4 * p_cnt _ (if g (p_blk c0) = g (p_sb l) then g (p_fb l) else g (p_blk c0))
      rw [hg0]
  · obtain ⟨L, l1, l2, l3, l4⟩ := hJ c0 hc0
    have ha : ¬ g (p_blk c0) = g (p_fb l) := fun h => hc (Or.inl h)
    have hb : ¬ g (p_blk c0) = g (p_sb l) := fun h => hc (Or.inr h)
    refine ⟨L, p_ch_congr c0 L c0 (fun x hx => ?_) l1, l2, fun c => ?_, ?_⟩
    · obtain ⟨h1, h2⟩ := (l3 x).mp hx
      refine go x h1 (fun e => ?_) (fun e => ?_)
      · subst e; rw [k1] at h2; exact ha h2.symm
      · subst e; rw [k2] at h2; exact hb h2.symm
    · rw [l3 c]
      show _ ↔ c < 36 ∧ (if g (p_blk c) = g (p_sb l) then g (p_fb l) else g (p_blk c)) = (if g (p_blk c0) = g (p_sb l) then g (p_fb l) else g (p_blk c0))
      rw [if_neg hb]
      constructor
      · rintro ⟨h1, h2⟩
        exact ⟨h1, by rw [if_neg (fun h => hb (h2.symm.trans h))]; exact h2⟩
      · rintro ⟨h1, h2⟩
        refine ⟨h1, ?_⟩
        by_cases h : g (p_blk c) = g (p_sb l)
        · rw [if_pos h] at h2; exact absurd h2.symm ha
        · rw [if_neg h] at h2; exact h2
    · rw [l4]
      show 4 * p_cnt g (g (p_blk c0)) = 4 * p_cnt _ (if g (p_blk c0) = g (p_sb l) then g (p_fb l) else g (p_blk c0))
      rw [if_neg hb]
      unfold p_cnt
      congr 2
      apply List.filter_congr
      intro b hb2
      show (g b == g (p_blk c0)) = ((if g b = g (p_sb l) then g (p_fb l) else g b) == g (p_blk c0))
      by_cases h : g b = g (p_sb l)
      · rw [if_pos h]
        have e1 : (g b == g (p_blk c0)) = false := by rw [h]; simp [Ne.symm hb]
        have e2 : (g (p_fb l) == g (p_blk c0)) = false := by simp [Ne.symm ha]
        rw [e1, e2]
      · rw [if_neg h]
