/-! ===== p27, pure: the player ===== -/
theorem p_safe_ok {m : Nat} {wt : Nat → Nat} {s : p_St} {d : Nat} (h : p_safe m wt s d = true) : 0 < s.2.2.length ∧ p_ordd m wt s.1 = true ∧ p_can m wt s d = true ∧ p_ordd m wt (p_adv m wt s d).1 = true := by
  have := of_decide_eq_true h
  exact ⟨this.1, this.2.1, this.2.2.1, this.2.2.2.1⟩
theorem p_play_ok {m : Nat} {wt : Nat → Nat} : ∀ (k : Nat) (s : p_St), (q_adj s.1 → q_adj (p_play m wt k s).2.1) ∧ (0 < (p_play m wt k s).1 → p_ordd m wt s.1 = true) ∧ (p_ordd m wt s.1 = true → p_ordd m wt (p_play m wt k s).2.1 = true) ∧ (p_play m wt k s).1 ≤ k
  | 0, s => ⟨fun h => h, fun h => absurd h (Nat.lt_irrefl _), fun h => h, Nat.le_refl _⟩
  | k + 1, s => by
    have ep0 : p_play m wt (k + 1) s = if p_chs m wt s 4 = 99 then (0, s) else ((p_play m wt k (p_adv m wt s (p_chs m wt s 4))).1 + 1, (p_play m wt k (p_adv m wt s (p_chs m wt s 4))).2) := rfl
    by_cases e : p_chs m wt s 4 = 99
    · rw [ep0, if_pos e]
      exact ⟨fun h => h, fun h => absurd h (Nat.lt_irrefl _), fun h => h, Nat.zero_le _⟩
    · rw [ep0, if_neg e]
      obtain ⟨hlt, hs⟩ := (p_chs_lt (m := m) (wt := wt) (s := s) 4).resolve_right e
      obtain ⟨-, o1, o2, o3⟩ := p_safe_ok hs
      obtain ⟨i1, i2, i3, i4⟩ := p_play_ok (m := m) (wt := wt) k (p_adv m wt s (p_chs m wt s 4))
      exact ⟨fun h => i1 (q_adj_adv hlt o2 h), fun _ => o1, fun _ => i3 o3, Nat.succ_le_succ i4⟩
/-- what the law asks of a player's call -/
def q_pl (a : q_A) (o : Option (Int32 × q_A)) : Prop := match o with
  | none => True
  | some (v, a') => q_liv a' ∧ (¬ v ≤ 0 → p_ordd a.1 a.2.1 a.2.2.1.1 = true) ∧ (p_ordd a.1 a.2.1 a.2.2.1.1 = true → p_ordd a'.1 a'.2.1 a'.2.2.1.1 = true)
def q_SimP (n : Nat) (a : q_A) (T : z_H → Prop) (f : z_H → z_R) : Prop := ∃ o, q_ok n o ∧ q_pl a o ∧ ∀ h, q_R a h → y_W (T h) (f h) (q_out o h)
theorem q_SimP_S {n : Nat} {a : q_A} {T : z_H → Prop} {f : z_H → z_R} (h : q_SimP n a T f) : q_Sim n a T f := by
  obtain ⟨o, h1, -, h3⟩ := h
  exact ⟨o, h1, h3⟩
theorem q_noP {n : Nat} {a : q_A} {T : z_H → Prop} {f : z_H → z_R} (g : ∀ h, q_R a h → T h ∧ f h = (some (.int (-99999)), h)) : q_SimP n a T f :=
  ⟨none, trivial, trivial, fun h hR => ⟨(g h hR).1, by rw [(g h hR).2]; exact ⟨rfl, rfl⟩⟩⟩
theorem C_play {n : Nat} {a : q_A} (hi : q_inv n a) (hn : n ≤ 600) (x : Int32) : q_SimP n a (tk_L_play x) (fn_L_play x) := by
  obtain ⟨m, wt, s, dd⟩ := a
  obtain ⟨hw, hg, hadj⟩ := hi
  have hw : y_wf m wt := hw
  have hg : y_wg m s n := hg
  have hadj : q_adj s.1 := hadj
  have hl36 := y_wg_len hg
  have hb : s.2.1 + 2 * s.2.2.length ≤ 100 + 2 * n := hg.2.2.2.2.1
  have err : (x < nI 1 ∨ nI 51 ≤ x) → q_SimP n (m, wt, s, dd) (tk_L_play x) (fn_L_play x) := by
    refine fun hx => q_noP (fun h _ => ?_)
    have W : y_W (tk_X7_play x h) (fn_X7_play x h) (fun r => r = .error z_EA) := by
      unfold tk_X7_play fn_X7_play fn_X7_play_11
      rcases hx with hx | hx
      · exact y_pos hx (y_end rfl)
      · exact y_neg (i_hle (by decide) hx (by decide)).1 (y_neg (i_hle (by decide) hx (by decide)).2 (y_end rfl))
    refine ⟨W.1, ?_⟩
    unfold fn_L_play
    rw [W.2]; rfl
  rcases i_ix1 x (n := 50) (by decide) with hx | hx | ⟨j, hj1, hj50, rfl⟩
  · exact err (Or.inl hx)
  · exact err (Or.inr hx)
  · by_cases hliv : 0 < s.1.length ∧ dd = false
    · have ws := y_wg_ws hg hn hliv.1
      obtain ⟨p1, p2, p3, p4⟩ := p_play_ok (m := m) (wt := wt) j s
      -- the walk of one object shows the state behind it is well
      refine Classical.byCases (p := ∃ h, q_R (m, wt, s, dd) h) (fun hex => ?_) (fun hno => ⟨none, trivial, trivial, fun h hR => absurd ⟨h, hR⟩ hno⟩)
      have key : ∀ h, q_R (m, wt, s, dd) h → ∃ h', y_W (tk_L_play (nI j) h) (fn_L_play (nI j) h) (fun r => r = (some (.int (nI (p_play m wt j s).1)), h')) ∧ (∃ hd' f0', y_GC m wt (p_play m wt j s).2 dd hd' f0' h') ∧ y_fr y_osC h h' ∧ y_ws m (p_play m wt j s).2 ∧ (p_play m wt j s).2.2.1 + 2 * (p_play m wt j s).2.2.2.length ≤ 100 + 2 * (n + 1) := by
        intro h hR
        obtain ⟨hd, f0, hC⟩ := hR
        have hC : y_GC m wt s dd hd f0 h := hC
        obtain ⟨P1, h', P2, P3, P4, P5, P6⟩ := c_play (h0 := h) hw j 0 s hd f0 h 2000 (100 + 2 * (n + 1)) (by omega) (by omega) hC ws (k_near_refl h) (by omega)
        rw [Nat.zero_add] at P1 P2
        have W : y_W (tk_X7_play (nI j) h) (fn_X7_play (nI j) h) (fun r => r = .ok (some (.int (nI (p_play m wt j s).1)), h')) := by
          unfold tk_X7_play fn_X7_play
          rw [c_livO hC hl36 hliv]
          refine y_neg (nI_nlt hj1 (by omega)) (y_pos (nI_le hj50 (by decide)) ⟨fun rx _ => P1, ?_⟩)
          show fn_X7_play_27 2000 (nI j) (nI 0) h = _
          rw [P2, Nat.zero_add]
        refine ⟨h', ⟨W.1, ?_⟩, P3, y_fr_mono P4.1 (by decide), P5, P6⟩
        unfold fn_L_play
        rw [W.2]; rfl
      obtain ⟨h1, hR1⟩ := hex
      obtain ⟨-, -, -, -, ws', b'⟩ := key h1 hR1
      have hg2 := y_wg_of ws' b'
      refine ⟨some (nI (p_play m wt j s).1, (m, wt, (p_play m wt j s).2, dd)), ⟨q_ne (by omega), hw, hg2, p1 hadj⟩, ⟨⟨List.length_pos_iff.mpr ws'.1, hliv.2⟩, fun z => ?_, p3⟩, fun h hR => ?_⟩
      · refine p2 (Nat.pos_of_ne_zero (fun e => z ?_))
        rw [e]; decide
      · obtain ⟨h', W, q1, q2, -, -⟩ := key h hR
        refine ⟨W.1, ?_⟩
        rw [W.2]
        exact ⟨rfl, q1, q2⟩
    · refine q_noP (fun h hR => ?_)
      obtain ⟨hd, f0, hC⟩ := hR
      have hC : y_GC m wt s dd hd f0 h := hC
      have W : y_W (tk_X7_play (nI j) h) (fn_X7_play (nI j) h) (fun r => r = .error z_ES) := by
        unfold tk_X7_play fn_X7_play
        rw [c_livE hC hl36 hliv]
        exact y_neg (nI_nlt hj1 (by omega)) (y_pos (nI_le hj50 (by decide)) ⟨fun rx q => (by cases q), rfl⟩)
      refine ⟨W.1, ?_⟩
      unfold fn_L_play
      rw [W.2]; rfl
