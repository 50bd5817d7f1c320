/-! ===== p27, pure: what the calls that change something do: the same to each object ===== -/
abbrev q_A : Type := Nat × (Nat → Nat) × p_St × Bool
def q_inv (n : Nat) (a : q_A) : Prop := y_wf a.1 a.2.1 ∧ y_wg a.1 a.2.2.1 n ∧ q_adj a.2.2.1.1
def q_R (a : q_A) (h : z_H) : Prop := ∃ hd f0, y_GC a.1 a.2.1 a.2.2.1 a.2.2.2 hd f0 h
def q_liv (a : q_A) : Prop := 0 < a.2.2.1.1.length ∧ a.2.2.2 = false
/-- an outcome: none, it was refused; else its answer, and what is behind it -/
def q_out (o : Option (Int32 × q_A)) (h : z_H) (r : z_R) : Prop := match o with
  | none => z_vi r = -99999 ∧ r.2 = h
  | some (v, a') => z_vi r = v ∧ q_R a' r.2 ∧ y_fr y_osC h r.2
def q_ok (n : Nat) (o : Option (Int32 × q_A)) : Prop := match o with
  | none => True
  | some (v, a') => v ≠ -99999 ∧ q_inv (n + 1) a'
/-- a call of the law does the same to each object that is in the state a -/
def q_Sim (n : Nat) (a : q_A) (T : z_H → Prop) (f : z_H → z_R) : Prop := ∃ o, q_ok n o ∧ ∀ h, q_R a h → y_W (T h) (f h) (q_out o h)
theorem q_no {n : Nat} {a : q_A} {T : z_H → Prop} {f : z_H → z_R} (g : ∀ h, q_R a h → T h ∧ f h = (some (.int (-99999)), h)) : q_Sim n a T f :=
  ⟨none, trivial, fun h hR => ⟨(g h hR).1, by rw [(g h hR).2]; exact ⟨rfl, rfl⟩⟩⟩
theorem q_yes {n : Nat} {a : q_A} {T : z_H → Prop} {f : z_H → z_R} (v : Int32) (a' : q_A) (hv : v ≠ -99999) (hi : q_inv (n + 1) a') (g : ∀ h, q_R a h → T h ∧ ∃ h', f h = (some (.int v), h') ∧ q_R a' h' ∧ y_fr y_osC h h') : q_Sim n a T f :=
  ⟨some (v, a'), ⟨hv, hi⟩, fun h hR => by
    obtain ⟨t, h', e, r1, r2⟩ := g h hR
    exact ⟨t, by rw [e]; exact ⟨rfl, r1, r2⟩⟩⟩
theorem q_ne {k : Nat} (hk : k < 2 ^ 31) : nI k ≠ -99999 := fun e => by
  have := congrArg Int32.toInt e
  rw [nI_toInt hk, show ((-99999 : Int32)).toInt = -99999 from by decide] at this
  omega
theorem q_nep {k : Nat} (hk : k < 2 ^ 31) : p_i k ≠ -99999 := by
  by_cases e : k = 99
  · subst e; decide
  · rw [p_i_n e]; exact q_ne hk
theorem q_if3 {a b c : Prop} {_ : Decidable a} {_ : Decidable b} {α : Type} (x : α) : (if a then x else if b then x else x) = x := by
  split
  · rfl
  · split <;> rfl
theorem q_if2 {a : Prop} {_ : Decidable a} {α : Type} (x : α) : (if a then x else x) = x := by
  split <;> rfl
theorem q_bool (b : Bool) (h : z_H) : (if (if b = true then nI 1 else nI 0 : Int32) = 0 then (some (Value.int (nI 0)), h) else (some (Value.int (nI 1)), h) : z_R) = (some (.int (if b = true then nI 1 else nI 0)), h) := by
  cases b with
  | true => rw [if_neg (show ¬ (if true = true then nI 1 else nI 0 : Int32) = 0 from i1_ne0)]; rfl
  | false => rw [if_pos (show (if false = true then nI 1 else nI 0 : Int32) = 0 from i0_eq0)]; rfl
theorem q_hi_s {n : Nat} {a : q_A} (h : q_inv n a) : q_inv (n + 1) a := ⟨h.1, y_wg_s h.2.1, h.2.2⟩
/-! setWall -/
theorem C_setWall {n : Nat} {a : q_A} (hi : q_inv n a) (x : Int32) (yb : Bool) : q_Sim n a (tk_L_setWall x (if yb = true then nI 1 else nI 0)) (fn_L_setWall x (if yb = true then nI 1 else nI 0)) := by
  obtain ⟨m, wt, s, dd⟩ := a
  obtain ⟨hw, hg, hadj⟩ := hi
  have hw : y_wf m wt := hw
  have hg : y_wg m s n := hg
  have hadj : q_adj s.1 := hadj
  have h40 := hg.2.2.1
  have hF36 : ∀ c ∈ s.2.2, c < 36 := fun c hc => (hg.2.2.2.1 c hc).1
  have err : (x < 0 ∨ nI 9 ≤ x) → q_Sim n (m, wt, s, dd) (tk_L_setWall x (if yb = true then nI 1 else nI 0)) (fn_L_setWall x (if yb = true then nI 1 else nI 0)) := by
    refine fun hx => q_no (fun h _ => ?_)
    have W : y_W (tk_X7_setWall x (if yb = true then nI 1 else nI 0) h) (fn_X7_setWall x (if yb = true then nI 1 else nI 0) h) (fun r => r = .error z_EI) := by
      unfold tk_X7_setWall fn_X7_setWall fn_X7_setWall_10
      rcases hx with hx | hx
      · exact y_pos hx (y_end rfl)
      · exact y_neg (i_hlt (by decide) hx).2 (y_neg (i_hlt (by decide) hx).1 (y_end rfl))
    refine ⟨W.1, ?_⟩
    unfold fn_L_setWall
    rw [W.2]; rfl
  rcases pk_ix x (n := 9) (by decide) with hx | hx | ⟨b, hb, rfl⟩
  · exact err (Or.inl hx)
  · exact err (Or.inr hx)
  · by_cases hs : 0 < s.1.length
    · refine q_no (fun h hR => ?_)
      obtain ⟨hd, f0, hC⟩ := hR
      have hC : y_GC m wt s dd hd f0 h := hC
      have hth := c_there hC.1.1 (y_wg_len hg)
      have W : y_W (tk_X7_setWall (nI b) (if yb = true then nI 1 else nI 0) h) (fn_X7_setWall (nI b) (if yb = true then nI 1 else nI 0) h) (fun r => r = .error z_ES) := by
        unfold tk_X7_setWall fn_X7_setWall fn_X7_setWall_41
        rw [hth, if_pos hs]
        exact y_neg (nI_pos (by omega)) (y_pos (nI_lt hb (by decide)) (y_neg i1_ne0 (y_end rfl)))
      refine ⟨W.1, ?_⟩
      unfold fn_L_setWall
      rw [W.2]; rfl
    · have hnil : s.1 = [] := List.eq_nil_of_length_eq_zero (by omega)
      by_cases hq : ∃ i, i < s.2.2.length ∧ p_blk (s.2.2.getD i 99) = b
      · refine q_no (fun h hR => ?_)
        obtain ⟨hd, f0, hC⟩ := hR
        have hC : y_GC m wt s dd hd f0 h := hC
        have hth := c_there hC.1.1 (y_wg_len hg)
        obtain ⟨O1, q, O2, O3⟩ := c_oneIn hC.1.1 h40 hF36 hb s.2.2.length 0 2000 (by omega) (by omega) (fun i hi => absurd hi (Nat.not_lt_zero i))
        have hq1 : q = true := O3.mpr hq
        subst hq1
        have O2' : fn_X3_hasOneIn (nI b) h = some (.int (nI 1)) := O2
        have W : y_W (tk_X7_setWall (nI b) (if yb = true then nI 1 else nI 0) h) (fn_X7_setWall (nI b) (if yb = true then nI 1 else nI 0) h) (fun r => r = .error z_ES) := by
          unfold tk_X7_setWall fn_X7_setWall fn_X7_setWall_41
          rw [hth, if_neg hs, O2']
          exact y_neg (nI_pos (by omega)) (y_pos (nI_lt hb (by decide)) (y_pos i0_eq0 (y_req (show tk_X3_hasOneIn (nI b) h from O1) (y_neg i1_ne0 (y_end rfl)))))
        refine ⟨W.1, ?_⟩
        unfold fn_L_setWall
        rw [W.2]; rfl
      · have hnof : ∀ i, i < s.2.2.length → p_blk (s.2.2.getD i 99) ≠ b := fun i h1 h2 => hq ⟨i, h1, h2⟩
        have hw' : y_wf (p_wm m b yb) wt := ⟨p_wm_lt hw.1 hb, hw.2⟩
        have hopen : ∀ c, c ∈ s.2.2 → p_op (p_wm m b yb) c := fun c hc => by
          obtain ⟨c1, c2⟩ := hg.2.2.2.1 c hc
          obtain ⟨i, i1, i2⟩ := y_mem_ix hc
          have : p_blk c ≠ b := by rw [← i2]; exact hnof i i1
          exact ⟨c1, by rw [p_wm_bit hb (s_blk c c1).2.2, if_neg this]; exact c2⟩
        have hg2 : y_wg (p_wm m b yb) s (n + 1) := ⟨hg.1, fun c hc => (by rw [hnil] at hc; cases hc), h40, hopen, (by have := hg.2.2.2.2.1; omega), hg.2.2.2.2.2⟩
        refine q_yes (if m.testBit b = true then nI 1 else nI 0) (p_wm m b yb, wt, s, dd) (by split <;> decide) ⟨hw', hg2, hadj⟩ (fun h hR => ?_)
        obtain ⟨hd, f0, hC⟩ := hR
        have hC : y_GC m wt s dd hd f0 h := hC
        have hth := c_there hC.1.1 (y_wg_len hg)
        obtain ⟨O1, q, O2, O3⟩ := c_oneIn hC.1.1 h40 hF36 hb s.2.2.length 0 2000 (by omega) (by omega) (fun i hi => absurd hi (Nat.not_lt_zero i))
        have hq0 : q = false := by
          cases q with
          | false => rfl
          | true => exact absurd (O3.mp rfl) hq
        subst hq0
        have O2' : fn_X3_hasOneIn (nI b) h = some (.int (nI 0)) := O2
        obtain ⟨P1, P2⟩ := k_put hw.1 hC.1.1.1 hb yb
        obtain ⟨L1, L2, L3, L4, L5⟩ := g_layOut hw' P2
        have hF5 : y_fr [1, 3, 4, 5, 6] h (fn_X2_layOut (fh_X0_putWall h (nI b) (if yb = true then nI 1 else nI 0))).2 := by
          refine y_fr_trans ?_ L5
          rw [P1]
          exact y_fr_set y_fr_refl (by decide)
        have W : y_W (tk_X7_setWall (nI b) (if yb = true then nI 1 else nI 0) h) (fn_X7_setWall (nI b) (if yb = true then nI 1 else nI 0) h) (fun r => r = .ok (some (.int (if m.testBit b = true then nI 1 else nI 0)), (fn_X2_layOut (fh_X0_putWall h (nI b) (if yb = true then nI 1 else nI 0))).2)) := by
          unfold tk_X7_setWall fn_X7_setWall
          rw [hth, if_neg hs, O2', k_wallv hC.1.1.1 hb]
          exact y_neg (nI_pos (by omega)) (y_pos (nI_lt hb (by decide)) (y_pos i0_eq0 (y_req (show tk_X3_hasOneIn (nI b) h from O1) (y_pos i0_eq0 ⟨L1, rfl⟩))))
        refine ⟨W.1, (fn_X2_layOut (fh_X0_putWall h (nI b) (if yb = true then nI 1 else nI 0))).2, ?_, ⟨hd, f0, ?_⟩, y_fr_mono hF5 (by decide)⟩
        · unfold fn_L_setWall
          rw [W.2]
          exact q_bool _ _
        · show y_GC (p_wm m b yb) wt s dd hd f0 _
          obtain ⟨⟨⟨_, w, f⟩, _, _⟩, c4⟩ := hC
          obtain ⟨w1, w2, w3, w4, w5, w6⟩ := w
          obtain ⟨f1, f2, f3, f4⟩ := f
          refine ⟨⟨⟨L2, ⟨w1, ?_, ?_, ?_, fun i hi => ?_, fun hne c hc => ?_⟩, ⟨f1, ?_, ?_, fun i hi => ?_⟩⟩, L4, L3⟩, ?_⟩
          · rw [y_fr_at hF5 10]; exact w2
          · rw [y_fr_at hF5 10]; exact w3
          · rw [y_fr_at hF5 10]; exact w4
          · rw [y_fr_at hF5 11]; exact w5 i hi
          · rw [y_fr_atL hF5 10]; exact w6 hne c hc
          · rw [y_fr_at hF5 8]; exact f2
          · rw [y_fr_at hF5 8]; exact f3
          · rw [y_fr_at hF5 9]; exact f4 i hi
          · rw [y_fr_at hF5 10]; exact c4
/-! setLink -/
theorem C_setLink {n : Nat} {a : q_A} (hi : q_inv n a) (x y : Int32) : q_Sim n a (tk_L_setLink x y) (fn_L_setLink x y) := by
  obtain ⟨m, wt, s, dd⟩ := a
  obtain ⟨hw, hg, hadj⟩ := hi
  have hw : y_wf m wt := hw
  have hg : y_wg m s n := hg
  have hadj : q_adj s.1 := hadj
  have err : (x < 0 ∨ nI 12 ≤ x) → q_Sim n (m, wt, s, dd) (tk_L_setLink x y) (fn_L_setLink x y) := by
    refine fun hx => q_no (fun h _ => ⟨fun rx q => (by rw [c_linkE hx] at q; cases q), ?_⟩)
    unfold fn_L_setLink fn_X7_setLink
    rw [c_linkE hx]; rfl
  rcases pk_ix x (n := 12) (by decide) with hx | hx | ⟨l, hl, rfl⟩
  · exact err (Or.inl hx)
  · exact err (Or.inr hx)
  · have bad : ¬ y = (-1) → (y < 0 ∨ nI 10 ≤ y) → q_Sim n (m, wt, s, dd) (tk_L_setLink (nI l) y) (fn_L_setLink (nI l) y) := by
      refine fun hy1 hy => q_no (fun h _ => ?_)
      have W : y_W (((y = (-1)) → (tk_X7_setLink_29 h (nI l) y)) ∧ ((¬ y = (-1)) → (((y < 0) → (True)) ∧ ((¬ y < 0) → (((y ≤ (nI 9)) → (tk_X7_setLink_29 h (nI l) y)) ∧ ((¬ y ≤ (nI 9)) → (True))))))) (if y = (-1) then fn_X7_setLink_29 h (nI l) y else if y < 0 then fn_X7_setLink_19 h else if y ≤ (nI 9) then fn_X7_setLink_29 h (nI l) y else fn_X7_setLink_19 h) (fun r => r = .error z_EA) := by
        unfold fn_X7_setLink_19
        refine y_neg hy1 ?_
        rcases hy with hy | hy
        · exact y_pos hy (y_end rfl)
        · refine y_neg (i_hlt (by decide) hy).2 (y_neg (fun z => ?_) (y_end rfl))
          rw [Int32.le_iff_toInt_le, nI_toInt (by decide)] at hy z
          omega
      refine ⟨fun rx q => W.1, ?_⟩
      unfold fn_L_setLink fn_X7_setLink
      rw [c_linkO hl, W.2]; rfl
    have good : ∀ w, (w ≤ 9 ∨ w = 99) → q_Sim n (m, wt, s, dd) (tk_L_setLink (nI l) (p_i w)) (fn_L_setLink (nI l) (p_i w)) := by
      intro w hw9
      have W29 : ∀ (h : z_H) (P : z_RX → Prop), y_W (tk_X7_setLink_29 h (nI l) (p_i w)) (fn_X7_setLink_29 h (nI l) (p_i w)) P → y_W (((p_i w = (-1)) → (tk_X7_setLink_29 h (nI l) (p_i w))) ∧ ((¬ p_i w = (-1)) → (((p_i w < 0) → (True)) ∧ ((¬ p_i w < 0) → (((p_i w ≤ (nI 9)) → (tk_X7_setLink_29 h (nI l) (p_i w))) ∧ ((¬ p_i w ≤ (nI 9)) → (True))))))) (if p_i w = (-1) then fn_X7_setLink_29 h (nI l) (p_i w) else if p_i w < 0 then fn_X7_setLink_19 h else if p_i w ≤ (nI 9) then fn_X7_setLink_29 h (nI l) (p_i w) else fn_X7_setLink_19 h) P := by
        intro h P f
        rcases hw9 with h9 | h9
        · have e : p_i w = nI w := p_i_n (by omega)
          rw [e] at f ⊢
          exact y_neg (y_m1 _ (by omega)) (y_neg (nI_pos (by omega)) (y_pos (nI_le h9 (by decide)) f))
        · have e : p_i w = (-1) := by rw [h9]; rfl
          rw [e] at f ⊢
          exact y_pos rfl f
      by_cases hs : 0 < s.1.length
      · refine q_no (fun h hR => ?_)
        obtain ⟨hd, f0, hC⟩ := hR
        have hC : y_GC m wt s dd hd f0 h := hC
        have hth := c_there hC.1.1 (y_wg_len hg)
        have W := W29 h (fun r => r = .error z_ES) (by
          unfold tk_X7_setLink_29 fn_X7_setLink_29
          rw [hth, if_pos hs]
          exact y_neg i1_ne0 (y_end rfl))
        refine ⟨fun rx q => W.1, ?_⟩
        unfold fn_L_setLink fn_X7_setLink
        rw [c_linkO hl, W.2]; rfl
      · have hw' : y_wf m (fun a => if a = l then w else wt a) := ⟨hw.1, fun a ha => by
          show (if a = l then w else wt a) ≤ 9 ∨ (if a = l then w else wt a) = 99
          by_cases e : a = l
          · rw [if_pos e]; exact hw9
          · rw [if_neg e]; exact hw.2 a ha⟩
        have hwl := hw.2 l hl
        refine q_yes (p_i (wt l)) (m, (fun a => if a = l then w else wt a), s, dd) (q_nep (by omega)) ⟨hw', y_wg_s hg, hadj⟩ (fun h hR => ?_)
        obtain ⟨hd, f0, hC⟩ := hR
        have hC : y_GC m wt s dd hd f0 h := hC
        have hth := c_there hC.1.1 (y_wg_len hg)
        have hP2 : y_BC m (fun a => if a = l then w else wt a) (z_set h 2 l (p_i w)) := by
          refine ⟨by rw [z_set_ne (by decide)]; exact hC.1.1.1.1, fun a ha => ?_⟩
          rw [y_sif]
          show _ = p_i (if a = l then w else wt a)
          by_cases e : a = l
          · rw [if_pos e, if_pos e]
          · rw [if_neg e, if_neg e]; exact hC.1.1.1.2 a ha
        obtain ⟨L1, L2, L3, L4, L5⟩ := g_layOut hw' hP2
        have hF5 : y_fr [1, 2, 3, 4, 5, 6] h (fn_X2_layOut (z_set h 2 l (p_i w))).2 := y_fr_trans (y_fr_set y_fr_refl (by decide)) (y_fr_mono L5 (by decide))
        have W := W29 h (fun r => r = .ok (some (.int (p_i (wt l))), (fn_X2_layOut (z_set h 2 l (p_i w))).2)) (by
          unfold tk_X7_setLink_29 fn_X7_setLink_29
          rw [hth, if_neg hs, y_putv hl, y_atv hl, hC.1.1.1.2 l hl]
          exact y_pos i0_eq0 ⟨L1, rfl⟩)
        refine ⟨fun rx q => W.1, (fn_X2_layOut (z_set h 2 l (p_i w))).2, ?_, ⟨hd, f0, ?_⟩, y_fr_mono hF5 (by decide)⟩
        · unfold fn_L_setLink fn_X7_setLink
          rw [c_linkO hl, W.2]; rfl
        · show y_GC m (fun a => if a = l then w else wt a) s dd hd f0 _
          obtain ⟨⟨⟨_, v, f⟩, _, _⟩, c4⟩ := hC
          obtain ⟨w1, w2, w3, w4, w5, w6⟩ := v
          obtain ⟨f1, f2, f3, f4⟩ := f
          refine ⟨⟨⟨L2, ⟨w1, ?_, ?_, ?_, fun i hi => ?_, fun hne c hc => ?_⟩, ⟨f1, ?_, ?_, fun i hi => ?_⟩⟩, L4, L3⟩, ?_⟩
          · rw [y_fr_at hF5 10]; exact w2
          · rw [y_fr_at hF5 10]; exact w3
          · rw [y_fr_at hF5 10]; exact w4
          · rw [y_fr_at hF5 11]; exact w5 i hi
          · rw [y_fr_atL hF5 10]; exact w6 hne c hc
          · rw [y_fr_at hF5 8]; exact f2
          · rw [y_fr_at hF5 8]; exact f3
          · rw [y_fr_at hF5 9]; exact f4 i hi
          · rw [y_fr_at hF5 10]; exact c4
    by_cases hy1 : y = (-1)
    · have := good 99 (Or.inr rfl)
      rw [p_i_99] at this
      rw [hy1]; exact this
    · rcases pk_ix y (n := 10) (by decide) with hy | hy | ⟨w, hw10, rfl⟩
      · exact bad hy1 (Or.inl hy)
      · exact bad hy1 (Or.inr hy)
      · have := good w (Or.inl (by omega))
        rw [p_i_n (by omega)] at this
        exact this
/-! end -/
theorem C_end {n : Nat} {a : q_A} (hi : q_inv n a) : q_Sim n a (fun _ => True) fn_L_end := by
  obtain ⟨m, wt, s, dd⟩ := a
  obtain ⟨hw, hg, hadj⟩ := hi
  have hw : y_wf m wt := hw
  have hg : y_wg m s n := hg
  have hl36 := y_wg_len hg
  by_cases hs : 0 < s.1.length
  · have hg2 : y_wg m ([], 0, s.2.2) (n + 1) := ⟨by simp, fun c hc => (by cases hc), hg.2.2.1, hg.2.2.2.1, (by have := hg.2.2.2.2.1; show 0 + 2 * s.2.2.length ≤ _; omega), fun _ => rfl⟩
    refine q_yes (nI s.1.length) (m, wt, ([], 0, s.2.2), dd) (q_ne (by omega)) ⟨hw, hg2, fun k hk => absurd hk (Nat.not_lt_zero _)⟩ (fun h hR => ?_)
    obtain ⟨hd, f0, hC⟩ := hR
    have hC : y_GC m wt s dd hd f0 h := hC
    have hth := c_there hC.1.1 hl36
    have hF : y_fr [10] h (z_set (z_set h 10 5 (nI 0)) 10 6 (nI 0)) := y_fr_set (y_fr_set y_fr_refl (by decide)) (by decide)
    refine ⟨trivial, z_set (z_set h 10 5 (nI 0)) 10 6 (nI 0), ?_, ⟨hd, f0, ?_⟩, y_fr_mono hF (by decide)⟩
    · unfold fn_L_end fn_X7_end
      rw [hth, if_pos hs, if_neg i1_ne0, hC.1.1.2.1.2.2.1]; rfl
    · show y_GC m wt ([], 0, s.2.2) dd hd f0 _
      obtain ⟨⟨⟨b, w, f⟩, c2, c3⟩, c4⟩ := hC
      obtain ⟨w1, w2, w3, w4, w5, w6⟩ := w
      obtain ⟨f1, f2, f3, f4⟩ := f
      refine ⟨⟨⟨y_BC_fr b hF, ⟨w1, ?_, ?_, ?_, fun i hi => absurd hi (Nat.not_lt_zero i), fun hne => absurd rfl hne⟩, ⟨f1, ?_, ?_, fun i hi => ?_⟩⟩, y_CC_fr c2 hF, y_TC_fr c3 hF⟩, ?_⟩
      · rw [y_sk (by decide), y_sk (by decide)]; exact w2
      · rw [y_sk (by decide), y_sh]; rfl
      · rw [y_sh]
      · rw [y_fr_at hF 8]; exact f2
      · rw [y_fr_at hF 8]; exact f3
      · rw [y_fr_at hF 9]; exact f4 i hi
      · rw [y_sk (by decide), y_sk (by decide)]; exact c4
  · refine q_no (fun h hR => ⟨trivial, ?_⟩)
    obtain ⟨hd, f0, hC⟩ := hR
    have hC : y_GC m wt s dd hd f0 h := hC
    have hth := c_there hC.1.1 hl36
    unfold fn_L_end fn_X7_end
    rw [hth, if_neg hs, if_pos i0_eq0]; rfl
/-! begin -/
theorem C_begin {n : Nat} {a : q_A} (hi : q_inv n a) (x y : Int32) : q_Sim n a (fun _ => True) (fn_L_begin x y) := by
  obtain ⟨m, wt, s, dd⟩ := a
  obtain ⟨hw, hg, hadj⟩ := hi
  have hw : y_wf m wt := hw
  have hg : y_wg m s n := hg
  have hl36 := y_wg_len hg
  have err : (x < 0 ∨ nI 36 ≤ x) → q_Sim n (m, wt, s, dd) (fun _ => True) (fn_L_begin x y) := by
    refine fun hx => q_no (fun h _ => ⟨trivial, ?_⟩)
    unfold fn_L_begin fn_X7_begin
    rw [c_cellE hx]; rfl
  rcases pk_ix x (n := 36) (by decide) with hx | hx | ⟨c, hc, rfl⟩
  · exact err (Or.inl hx)
  · exact err (Or.inr hx)
  · obtain ⟨b1, -, b9⟩ := s_blk _ hc
    have bad : (y < 0 ∨ nI 21 ≤ y) → q_Sim n (m, wt, s, dd) (fun _ => True) (fn_L_begin (nI c) y) := by
      refine fun hy => q_no (fun h _ => ⟨trivial, ?_⟩)
      unfold fn_L_begin fn_X7_begin fn_X7_begin_14
      rw [c_cellO hc]
      rcases hy with hy | hy
      · rw [if_pos hy]; rfl
      · have h2 : ¬ y ≤ nI 20 := fun z => by
          rw [Int32.le_iff_toInt_le, nI_toInt (by decide)] at hy z
          omega
        rw [if_neg (i_hlt (by decide) hy).2, if_neg h2]; rfl
    rcases pk_ix y (n := 21) (by decide) with hy | hy | ⟨w, hw21, rfl⟩
    · exact bad (Or.inl hy)
    · exact bad (Or.inr hy)
    · by_cases hok : 0 < s.1.length ∨ m.testBit (p_blk c) = true
      · refine q_no (fun h hR => ⟨trivial, ?_⟩)
        obtain ⟨hd, f0, hC⟩ := hR
        have hC : y_GC m wt s dd hd f0 h := hC
        have hth := c_there hC.1.1 hl36
        unfold fn_L_begin fn_X7_begin fn_X7_begin_48
        rw [c_cellO hc, if_neg (nI_pos (by omega)), if_pos (nI_le (by omega : w ≤ 20) (by decide)), hth, b1, k_wallv hC.1.1.1 b9]
        by_cases hs : 0 < s.1.length
        · rw [if_pos hs, if_neg i1_ne0]; rfl
        · rw [if_neg hs, if_pos i0_eq0, if_pos (hok.resolve_left hs), if_neg i1_ne0]; rfl
      · have hs : ¬ 0 < s.1.length := fun z => hok (Or.inl z)
        have hop : m.testBit (p_blk c) = false := by
          cases e : m.testBit (p_blk c) with
          | false => rfl
          | true => exact absurd (Or.inr e) hok
        have hg2 : y_wg m ([c], w, s.2.2) (n + 1) := ⟨by simp, fun a ha => (by rw [List.mem_singleton.mp ha]; exact ⟨hc, hop⟩), hg.2.2.1, hg.2.2.2.1, (by have := hg.2.2.1; show w + 2 * s.2.2.length ≤ _; omega), fun z => (by cases z)⟩
        refine q_yes (nI 0) (m, wt, ([c], w, s.2.2), false) (by decide) ⟨hw, hg2, fun k hk => (by
          have hk : k + 1 < 1 := hk
          omega)⟩ (fun h hR => ⟨trivial, ?_⟩)
        obtain ⟨hd, f0, hC⟩ := hR
        have hC : y_GC m wt s dd hd f0 h := hC
        have hth := c_there hC.1.1 hl36
        have h64 := hC.1.1.2.1.1
        have hF : y_fr [10, 11] h (z_set (z_setL (z_set (z_set (z_set h 11 hd (nI c)) 10 5 (nI 1)) 10 6 (nI w)) 10 7 (fv_X7_setOf (nI c))) 10 8 (nI 0)) := y_fr_set (y_fr_setL (y_fr_set (y_fr_set (y_fr_set y_fr_refl (by decide)) (by decide)) (by decide)) (by decide)) (by decide)
        refine ⟨z_set (z_setL (z_set (z_set (z_set h 11 hd (nI c)) 10 5 (nI 1)) 10 6 (nI w)) 10 7 (fv_X7_setOf (nI c))) 10 8 (nI 0), ?_, ⟨hd, f0, ?_⟩, y_fr_mono hF (by decide)⟩
        · unfold fn_L_begin fn_X7_begin
          rw [c_cellO hc, if_neg (nI_pos (by omega)), if_pos (nI_le (by omega : w ≤ 20) (by decide)), hth, b1, k_wallv hC.1.1.1 b9, if_neg hs, if_pos i0_eq0, hop, if_neg (by decide : ¬ false = true), if_pos i0_eq0, hC.1.1.2.1.2.1, y_putv h64]
          rfl
        · show y_GC m wt ([c], w, s.2.2) false hd f0 _
          obtain ⟨⟨⟨b, v, f⟩, c2, c3⟩, c4⟩ := hC
          obtain ⟨w1, w2, w3, w4, w5, w6⟩ := v
          obtain ⟨f1, f2, f3, f4⟩ := f
          refine ⟨⟨⟨y_BC_fr b hF, ⟨w1, ?_, ?_, ?_, fun i hi => ?_, fun _ a ha => ?_⟩, ⟨f1, ?_, ?_, fun i hi => ?_⟩⟩, y_CC_fr c2 hF, y_TC_fr c3 hF⟩, y_sh⟩
          · rw [← w2]; simp [z_set, z_setL]
          · show _ = nI 1
            simp [z_set, z_setL]
          · show _ = nI w
            simp [z_set, z_setL]
          · have hi : i < 1 := hi
            have : i = 0 := by omega
            subst this
            rw [Nat.add_zero, Nat.mod_eq_of_lt w1]
            show _ = nI c
            simp [z_set, z_setL]
          · show y_bit ((z_set (z_setL (z_set (z_set (z_set h 11 hd (nI c)) 10 5 (nI 1)) 10 6 (nI w)) 10 7 (fv_X7_setOf (nI c))) 10 8 (nI 0)).2 10 7) a = _
            have : (z_set (z_setL (z_set (z_set (z_set h 11 hd (nI c)) 10 5 (nI 1)) 10 6 (nI w)) 10 7 (fv_X7_setOf (nI c))) 10 8 (nI 0)).2 10 7 = fv_X7_setOf (nI c) := by simp [z_set, z_setL]
            rw [this, s_set c hc a (by omega)]
            simp
          · rw [y_fr_at hF 8]; exact f2
          · rw [y_fr_at hF 8]; exact f3
          · rw [y_fr_at hF 9]; exact f4 i hi
/-! feed -/
theorem C_feed {n : Nat} {a : q_A} (hi : q_inv n a) (x : Int32) : q_Sim n a (fun _ => True) (fn_L_feed x) := by
  obtain ⟨m, wt, s, dd⟩ := a
  obtain ⟨hw, hg, hadj⟩ := hi
  have hw : y_wf m wt := hw
  have hg : y_wg m s n := hg
  have err : (x < 0 ∨ nI 36 ≤ x) → q_Sim n (m, wt, s, dd) (fun _ => True) (fn_L_feed x) := by
    refine fun hx => q_no (fun h _ => ⟨trivial, ?_⟩)
    unfold fn_L_feed fn_X7_feed
    rw [c_cellE hx]; rfl
  rcases pk_ix x (n := 36) (by decide) with hx | hx | ⟨c, hc, rfl⟩
  · exact err (Or.inl hx)
  · exact err (Or.inr hx)
  · obtain ⟨b1, -, b9⟩ := s_blk _ hc
    have h40 := hg.2.2.1
    by_cases hok : m.testBit (p_blk c) = false ∧ s.2.2.length < 40
    · obtain ⟨o1, o2⟩ := hok
      have hg2 : y_wg m (s.1, s.2.1, s.2.2 ++ [c]) (n + 1) := by
        refine ⟨hg.1, hg.2.1, ?_, fun a ha => ?_, ?_, hg.2.2.2.2.2⟩
        · show (s.2.2 ++ [c]).length ≤ 40
          rw [List.length_append, List.length_singleton]; omega
        · rcases List.mem_append.mp ha with z | z
          · exact hg.2.2.2.1 a z
          · rw [List.mem_singleton.mp z]; exact ⟨hc, o1⟩
        · show s.2.1 + 2 * (s.2.2 ++ [c]).length ≤ _
          have := hg.2.2.2.2.1
          rw [List.length_append, List.length_singleton]; omega
      refine q_yes (nI (s.2.2.length + 1)) (m, wt, (s.1, s.2.1, s.2.2 ++ [c]), dd) (q_ne (by omega)) ⟨hw, hg2, hadj⟩ (fun h hR => ⟨trivial, ?_⟩)
      obtain ⟨hd, f0, hC⟩ := hR
      have hC : y_GC m wt s dd hd f0 h := hC
      have hf64 := hC.1.1.2.2.1
      have hF : y_fr [8, 9] h (z_set (z_set h 9 ((f0 + s.2.2.length) % 64) (nI c)) 8 2 (nI (s.2.2.length + 1))) := y_fr_set (y_fr_set y_fr_refl (by decide)) (by decide)
      refine ⟨z_set (z_set h 9 ((f0 + s.2.2.length) % 64) (nI c)) 8 2 (nI (s.2.2.length + 1)), ?_, ⟨hd, f0, ?_⟩, y_fr_mono hF (by decide)⟩
      · unfold fn_L_feed fn_X7_feed
        rw [c_cellO hc, b1, k_wallv hC.1.1.1 b9, o1, if_neg (by decide : ¬ false = true), if_pos i0_eq0, hC.1.1.2.2.2.2.1, if_pos (nI_lt o2 (by decide)), hC.1.1.2.2.2.1, nI_add, nI_add, y_cl63 (by omega)]
        rfl
      · show y_GC m wt (s.1, s.2.1, s.2.2 ++ [c]) dd hd f0 _
        obtain ⟨⟨⟨b, v, f⟩, c2, c3⟩, c4⟩ := hC
        obtain ⟨w1, w2, w3, w4, w5, w6⟩ := v
        obtain ⟨f1, f2, f3, f4⟩ := f
        refine ⟨⟨⟨y_BC_fr b hF, ⟨w1, ?_, ?_, ?_, fun i hi => ?_, fun hne a ha => ?_⟩, ⟨f1, ?_, ?_, fun i hi => ?_⟩⟩, y_CC_fr c2 hF, y_TC_fr c3 hF⟩, ?_⟩
        · rw [y_fr_at hF 10]; exact w2
        · rw [y_fr_at hF 10]; exact w3
        · rw [y_fr_at hF 10]; exact w4
        · rw [y_fr_at hF 11]; exact w5 i hi
        · rw [y_fr_atL hF 10]; exact w6 hne a ha
        · rw [y_sk (by decide), z_set_ne (by decide)]; exact f2
        · rw [y_sh]
          show _ = nI (s.2.2 ++ [c]).length
          rw [List.length_append, List.length_singleton]
        · have hi : i < (s.2.2 ++ [c]).length := hi
          rw [List.length_append, List.length_singleton] at hi
          rw [z_set_ne (by decide), y_sif]
          show _ = nI ((s.2.2 ++ [c]).getD i 99)
          rw [y_app_getD]
          by_cases z : i = s.2.2.length
          · rw [z, if_pos rfl, if_neg (by omega), if_pos rfl]
          · rw [if_neg (by omega), if_pos (by omega)]; exact f4 i (by omega)
        · rw [y_fr_at hF 10]; exact c4
    · refine q_no (fun h hR => ⟨trivial, ?_⟩)
      obtain ⟨hd, f0, hC⟩ := hR
      have hC : y_GC m wt s dd hd f0 h := hC
      unfold fn_L_feed fn_X7_feed fn_X7_feed_30
      rw [c_cellO hc, b1, k_wallv hC.1.1.1 b9]
      cases e : m.testBit (p_blk c) with
      | true => rw [if_neg (show ¬ (if true = true then nI 1 else nI 0 : Int32) = 0 from i1_ne0)]; rfl
      | false =>
        have : 40 ≤ s.2.2.length := Nat.le_of_not_lt (fun z => hok ⟨e, z⟩)
        rw [if_pos (show (if false = true then nI 1 else nI 0 : Int32) = 0 from i0_eq0), hC.1.1.2.2.2.2.1, if_neg (nI_nlt this (by omega))]; rfl
/-! step -/
theorem C_step {n : Nat} {a : q_A} (hi : q_inv n a) (hn : n ≤ 600) (x : Int32) : q_Sim n a (fun _ => True) (fn_L_step x) := by
  obtain ⟨m, wt, s, dd⟩ := a
  obtain ⟨hw, hg, hadj⟩ := hi
  have hw : y_wf m wt := hw
  have hg : y_wg m s n := hg
  have hadj : q_adj s.1 := hadj
  have hl36 := y_wg_len hg
  have err : (x < 0 ∨ nI 4 ≤ x) → q_Sim n (m, wt, s, dd) (fun _ => True) (fn_L_step x) := by
    refine fun hx => q_no (fun h _ => ⟨trivial, ?_⟩)
    unfold fn_L_step fn_X7_step
    rw [c_dirE hx]; rfl
  rcases pk_ix x (n := 4) (by decide) with hx | hx | ⟨d, hd4, rfl⟩
  · exact err (Or.inl hx)
  · exact err (Or.inr hx)
  · by_cases hliv : 0 < s.1.length ∧ dd = false
    · have ws := y_wg_ws hg hn hliv.1
      obtain ⟨hl0, hdd⟩ := hliv
      subst hdd
      cases hc : p_can m wt s d with
      | false =>
        refine q_yes (nI 0) (m, wt, s, true) (by decide) ⟨hw, y_wg_s hg, hadj⟩ (fun h hR => ⟨trivial, ?_⟩)
        obtain ⟨hd, f0, hC⟩ := hR
        have hC : y_GC m wt s false hd f0 h := hC
        obtain ⟨n1, n2⟩ := k_advN hw hC.1.1 ws hd4 hc
        have hF : y_fr [10] h (z_set h 10 8 (nI 1)) := y_fr_set y_fr_refl (by decide)
        refine ⟨z_set h 10 8 (nI 1), ?_, ⟨hd, f0, ?_⟩, y_fr_mono hF (by decide)⟩
        · unfold fn_L_step fn_X7_step
          rw [c_dirO hd4, c_livO hC hl36 ⟨hl0, rfl⟩, n1, n2]
          rfl
        · show y_GC m wt s true hd f0 _
          obtain ⟨⟨⟨b, v, f⟩, c2, c3⟩, c4⟩ := hC
          obtain ⟨w1, w2, w3, w4, w5, w6⟩ := v
          obtain ⟨f1, f2, f3, f4⟩ := f
          exact ⟨⟨⟨y_BC_fr b hF, ⟨w1, by rw [y_sk (by decide)]; exact w2, by rw [y_sk (by decide)]; exact w3, by rw [y_sk (by decide)]; exact w4, fun i hi => by rw [y_fr_at hF 11]; exact w5 i hi, w6⟩, ⟨f1, by rw [y_fr_at hF 8]; exact f2, by rw [y_fr_at hF 8]; exact f3, fun i hi => by rw [y_fr_at hF 9]; exact f4 i hi⟩⟩, y_CC_fr c2 hF, y_TC_fr c3 hF⟩, y_sh⟩
      | true =>
        have ws' := y_ws_adv hd4 ws hc
        have hb : s.2.1 + 2 * s.2.2.length ≤ 100 + 2 * n := hg.2.2.2.2.1
        have hg2 : y_wg m (p_adv m wt s d) (n + 1) := y_wg_of ws' (p_adv_bd (by omega))
        have hl2 := y_wg_len hg2
        refine q_yes (nI (p_adv m wt s d).1.length) (m, wt, p_adv m wt s d, false) (q_ne (by omega)) ⟨hw, hg2, q_adj_adv hd4 hc hadj⟩ (fun h hR => ⟨trivial, ?_⟩)
        obtain ⟨hd, f0, hC⟩ := hR
        have hC : y_GC m wt s false hd f0 h := hC
        obtain ⟨a1, a2, a3, a4⟩ := k_adv hw hC.1.1 ws hd4 hc
        refine ⟨fh_X6_advance h (nI d), ?_, ⟨_, _, k_near_GC hC a1 a4⟩, y_fr_mono a4.1 (by decide)⟩
        unfold fn_L_step fn_X7_step
        rw [c_dirO hd4, c_livO hC hl36 ⟨hl0, rfl⟩, (k_advY hw hC.1.1 ws hd4 hc).1, a1.2.1.2.2.1]
        rfl
    · refine q_no (fun h hR => ⟨trivial, ?_⟩)
      obtain ⟨hd, f0, hC⟩ := hR
      have hC : y_GC m wt s dd hd f0 h := hC
      unfold fn_L_step fn_X7_step
      rw [c_dirO hd4, c_livE hC hl36 hliv]; rfl
