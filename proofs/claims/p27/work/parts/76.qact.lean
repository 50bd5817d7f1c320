/-! ===== p27, pure: act ===== -/
def q_low (x y : Int32) : Int32 := (x &&& (2147483647)) - (x &&& (2147483647)) / y * y
theorem q_lowE (x y : Int32) (h : z_H) : z_vi0 (fn_L_low x y h) = q_low x y := rfl
def q_SimX (n : Nat) (a : q_A) (X : Prop) (T : z_H → Prop) (f : z_H → z_R) : Prop := ∃ o, q_ok n o ∧ (X → q_pl a o) ∧ ∀ h, q_R a h → y_W (T h) (f h) (q_out o h)
section QS
variable {n : Nat} {a : q_A} {X : Prop} {T T1 T2 V : z_H → Prop} {f f1 f2 : z_H → z_R}
theorem q_s_S (hX : ¬ X) (g : q_Sim n a T f) : q_SimX n a X T f := by
  obtain ⟨o, h1, h2⟩ := g
  exact ⟨o, h1, fun z => absurd z hX, h2⟩
theorem q_s_P (g : q_SimP n a T f) : q_SimX n a X T f := by
  obtain ⟨o, h1, h2, h3⟩ := g
  exact ⟨o, h1, fun _ => h2, h3⟩
theorem q_s_re (g : q_SimX n a X T f) : q_SimX n a X T (fun h => (some (.int (z_vi (f h))), (f h).2)) := by
  obtain ⟨o, h1, h2, h3⟩ := g
  refine ⟨o, h1, h2, fun h hR => ⟨(h3 h hR).1, ?_⟩⟩
  have := (h3 h hR).2
  cases o with
  | none => exact this
  | some q => exact this
theorem q_s_rq (hv : ∀ h, V h) (g : q_SimX n a X T f) : q_SimX n a X (fun h => V h ∧ T h) f := by
  obtain ⟨o, h1, h2, h3⟩ := g
  exact ⟨o, h1, h2, fun h hR => y_req (hv h) (h3 h hR)⟩
theorem q_s_rt (hv : ∀ h, V h) (g : q_SimX n a X (fun _ => True) f) : q_SimX n a X V f := by
  obtain ⟨o, h1, h2, h3⟩ := g
  exact ⟨o, h1, h2, fun h hR => ⟨hv h, (h3 h hR).2⟩⟩
theorem q_s_ic {c : Prop} {d : z_H → Decidable c} (g1 : c → q_SimX n a X T1 f1) (g2 : ¬ c → q_SimX n a X T2 f2) : q_SimX n a X (fun h => (c → T1 h) ∧ (¬ c → T2 h)) (fun h => @ite z_R c (d h) (f1 h) (f2 h)) := by
  by_cases hc : c
  · obtain ⟨o, h1, h2, h3⟩ := g1 hc
    exact ⟨o, h1, h2, fun h hR => y_pos hc (h3 h hR)⟩
  · obtain ⟨o, h1, h2, h3⟩ := g2 hc
    exact ⟨o, h1, h2, fun h hR => y_neg hc (h3 h hR)⟩
theorem q_s_iv {c : z_H → Prop} {d : ∀ h, Decidable (c h)} (c0 : Prop) (hc : ∀ h, q_R a h → (c h ↔ c0)) (g1 : c0 → q_SimX n a X T1 f1) (g2 : ¬ c0 → q_SimX n a X T2 f2) : q_SimX n a X (fun h => (c h → T1 h) ∧ (¬ c h → T2 h)) (fun h => @ite z_R (c h) (d h) (f1 h) (f2 h)) := by
  by_cases h0 : c0
  · obtain ⟨o, h1, h2, h3⟩ := g1 h0
    exact ⟨o, h1, h2, fun h hR => y_pos ((hc h hR).mpr h0) (h3 h hR)⟩
  · obtain ⟨o, h1, h2, h3⟩ := g2 h0
    exact ⟨o, h1, h2, fun h hR => y_neg (fun z => h0 ((hc h hR).mp z)) (h3 h hR)⟩
end QS
section QA
variable {n : Nat} {a : q_A} {X : Prop}
theorem q_aliveC (hi : q_inv n a) : ∀ h, q_R a h → (z_vi0 (fn_X7_isAlive h) = 0 ↔ ¬ q_liv a) := by
  intro h hR
  obtain ⟨hd, f0, hC⟩ := hR
  rw [O_alive hC (y_wg_len hi.2.1)]
  by_cases e : 0 < a.2.2.1.1.length ∧ a.2.2.2 = false
  · rw [if_pos e]
    exact ⟨fun z => absurd z i1_ne0, fun z => absurd e z⟩
  · rw [if_neg e]
    exact ⟨fun _ => e, fun _ => i0_eq0⟩
theorem q_lenC (hi : q_inv n a) : ∀ h, q_R a h → (z_vi0 (fn_X7_length h) ≤ 0 ↔ a.2.2.1.1.length = 0) := by
  intro h hR
  obtain ⟨hd, f0, hC⟩ := hR
  have := y_wg_len hi.2.1
  rw [O_len hC]
  by_cases e : 0 < a.2.2.1.1.length
  · exact ⟨fun z => absurd z (nI_nle e (by omega)), fun z => by omega⟩
  · have e0 : a.2.2.1.1.length = 0 := by omega
    rw [e0]
    exact ⟨fun _ => rfl, fun _ => by decide⟩
theorem q_lowT (x : Int32) {k : Nat} (hk : 0 < k) (hk2 : k < 2 ^ 31) (h : z_H) : tk_L_low x (nI k) h := nI_ne0 hk hk2
theorem A_setWall (hi : q_inv n a) (hX : ¬ X) (x y : Int32) (hy : y = nI 1 ∨ y = nI 0) : q_SimX n a X (fun h => tk_L_setWall x y h) (fun h => (some (.int (z_vi (fn_L_setWall x y h))), (fn_L_setWall x y h).2)) := by
  rcases hy with rfl | rfl
  · exact q_s_re (q_s_S hX (C_setWall hi x true))
  · exact q_s_re (q_s_S hX (C_setWall hi x false))
theorem A_begin (hi : q_inv n a) (hX : ¬ X) (x y : Int32) : q_SimX n a X (fun _ => True) (fun h => (some (.int (z_vi (fn_L_begin x y h))), (fn_L_begin x y h).2)) := q_s_re (q_s_S hX (C_begin hi x y))
theorem A_end (hi : q_inv n a) (hX : ¬ X) : q_SimX n a X (fun _ => True) (fun h => (some (.int (z_vi (fn_L_end h))), (fn_L_end h).2)) := q_s_re (q_s_S hX (C_end hi))
theorem A_feed (hi : q_inv n a) (hX : ¬ X) (x : Int32) : q_SimX n a X (fun _ => True) (fun h => (some (.int (z_vi (fn_L_feed x h))), (fn_L_feed x h).2)) := q_s_re (q_s_S hX (C_feed hi x))
theorem A_step (hi : q_inv n a) (hn : n ≤ 600) (hX : ¬ X) (x : Int32) : q_SimX n a X (fun _ => True) (fun h => (some (.int (z_vi (fn_L_step x h))), (fn_L_step x h).2)) := q_s_re (q_s_S hX (C_step hi hn x))
theorem A_setLink (hi : q_inv n a) (hX : ¬ X) (x y : Int32) : q_SimX n a X (fun h => tk_L_setLink x y h) (fun h => (some (.int (z_vi (fn_L_setLink x y h))), (fn_L_setLink x y h).2)) := q_s_re (q_s_S hX (C_setLink hi x y))
theorem A_play (hi : q_inv n a) (hn : n ≤ 600) (x : Int32) : q_SimX n a X (fun h => tk_L_play x h) (fun h => (some (.int (z_vi (fn_L_play x h))), (fn_L_play x h).2)) := q_s_re (q_s_P (C_play hi hn x))
theorem A_332 (hi : q_inv n a) (hX : ¬ X) (a1 a2 a3 : Int32) : q_SimX n a X (fun h => tk_L_act_332 a1 a2 a3 h) (fun h => fn_L_act_332 a1 a2 a3 h) := by
  unfold tk_L_act_332 fn_L_act_332 fn_L_act_360
  dsimp only [q_lowE]
  exact q_s_ic (fun _ => q_s_rt (fun h => q_lowT _ (by decide) (by decide) h) (A_begin hi hX _ _)) (fun _ => q_s_rt (fun h => q_lowT _ (by decide) (by decide) h) (A_begin hi hX _ _))
theorem A_186 (hi : q_inv n a) (hX : ¬ X) (a1 a2 s0 : Int32) : q_SimX n a X (fun h => tk_L_act_186 a1 a2 s0 h) (fun h => fn_L_act_186 a1 a2 s0 h) := by
  unfold tk_L_act_186 fn_L_act_186 tk_L_act_215 fn_L_act_215
  dsimp only [q_lowE]
  exact q_s_ic (fun _ => q_s_rq (fun h => q_lowT _ (by decide) (by decide) h) (A_setLink hi hX _ _)) (fun _ => q_s_rq (fun h => q_lowT _ (by decide) (by decide) h) (A_setLink hi hX _ _))
theorem A_142 (hi : q_inv n a) (hX : ¬ X) (a1 s0 : Int32) : q_SimX n a X (fun h => tk_L_act_142 a1 s0 h) (fun h => fn_L_act_142 a1 s0 h) := by
  unfold tk_L_act_142 fn_L_act_142 tk_L_act_156 fn_L_act_156
  exact q_s_ic (fun _ => A_setWall hi hX _ _ (Or.inl rfl)) (fun _ => A_setWall hi hX _ _ (Or.inr rfl))
def q_isPl (v : Int32) : Prop := ¬ q_low v (nI 18) ≤ nI 8 ∧ ¬ nI 13 ≤ q_low v (nI 18)
theorem q_npl {v : Int32} {k : Nat} (e : q_low v (nI 18) = nI k) (hk : k ≤ 8) : ¬ q_isPl v := fun z => z.1 (by rw [e]; exact nI_le hk (by decide))
theorem A_43 (hi : q_inv n a) (hn : n ≤ 600) (a1 a2 s0 : Int32) : q_SimX n a (q_isPl a1) (fun h => tk_L_act_43 a1 a2 s0 h) (fun h => fn_L_act_43 a1 a2 s0 h) := by
  unfold tk_L_act_43 fn_L_act_43 fn_L_act_307 tk_L_act_273 fn_L_act_273 tk_L_act_398 fn_L_act_398 fn_L_act_427
  dsimp only [q_lowE]
  have L := fun (x : Int32) {k : Nat} (hk : 0 < k) (hk2 : k < 2 ^ 31) => fun h : z_H => q_lowT x hk hk2 h
  have PL : ∀ x y : Int32, q_SimX n a (q_isPl a1) (fun h => tk_L_play x h) (fun h => (some (.int (z_vi (fn_L_play x h))), (fn_L_play x h).2)) := fun x _ => A_play hi hn x
  refine q_s_rq (L _ (by decide) (by decide)) (q_s_ic (fun e => ?_) (fun e0 => q_s_ic (fun e => ?_) (fun e1 => q_s_ic (fun e => ?_) (fun e2 => q_s_ic (fun e => ?_) (fun e3 => q_s_ic (fun e => ?_) (fun e4 => q_s_ic (fun e => ?_) (fun e5 => q_s_ic (fun e => ?_) (fun e6 => q_s_ic (fun e => ?_) (fun e7 => q_s_ic (fun e => ?_) (fun e8 => q_s_ic (fun e => ?_) (fun e9 => q_s_ic (fun e => ?_) (fun ea => q_s_ic (fun e => ?_) (fun eb => q_s_ic (fun e => ?_) (fun ec => ?_)))))))))))))) 
  · have hX := q_npl e (by decide)
    exact q_s_ic (fun _ => q_s_rq (L _ (by decide) (by decide)) (A_142 hi hX _ _)) (fun _ => q_s_rq (L _ (by decide) (by decide)) (A_142 hi hX _ _))
  · have hX := q_npl e (by decide)
    exact q_s_ic (fun _ => q_s_rq (L _ (by decide) (by decide)) (A_186 hi hX _ _ _)) (fun _ => q_s_rq (L _ (by decide) (by decide)) (A_186 hi hX _ _ _))
  · have hX := q_npl e (by decide)
    exact q_s_ic (fun _ => q_s_rq (L _ (by decide) (by decide)) (A_186 hi hX _ _ _)) (fun _ => q_s_rq (L _ (by decide) (by decide)) (A_186 hi hX _ _ _))
  · have hX := q_npl e (by decide)
    refine q_s_rq (L _ (by decide) (by decide)) (q_s_ic (fun _ => A_end hi hX) (fun _ => q_s_iv _ (q_aliveC hi) (fun _ => ?_) (fun _ => ?_)))
    · exact q_s_ic (fun _ => q_s_rt (L _ (by decide) (by decide)) (A_begin hi hX _ _)) (fun _ => q_s_rt (L _ (by decide) (by decide)) (A_begin hi hX _ _))
    · exact q_s_ic (fun _ => q_s_rq (L _ (by decide) (by decide)) (A_play hi hn _)) (fun _ => q_s_rq (L _ (by decide) (by decide)) (A_play hi hn _))
  · have hX := q_npl e (by decide)
    exact q_s_iv _ (q_lenC hi) (fun _ => A_332 hi hX _ _ _) (fun _ => q_s_iv _ (q_aliveC hi) (fun _ => A_end hi hX) (fun _ => A_332 hi hX _ _ _))
  · exact A_feed hi (q_npl e (by decide)) _
  · exact A_feed hi (q_npl e (by decide)) _
  · exact A_feed hi (q_npl e (by decide)) _
  · exact A_feed hi (q_npl e (by decide)) _
  · exact q_s_ic (fun _ => q_s_rq (L _ (by decide) (by decide)) (A_play hi hn _)) (fun _ => q_s_rq (L _ (by decide) (by decide)) (A_play hi hn _))
  · exact q_s_ic (fun _ => q_s_rq (L _ (by decide) (by decide)) (A_play hi hn _)) (fun _ => q_s_rq (L _ (by decide) (by decide)) (A_play hi hn _))
  · exact q_s_ic (fun _ => q_s_rq (L _ (by decide) (by decide)) (A_play hi hn _)) (fun _ => q_s_rq (L _ (by decide) (by decide)) (A_play hi hn _))
  · exact q_s_ic (fun _ => q_s_rq (L _ (by decide) (by decide)) (A_play hi hn _)) (fun _ => q_s_rq (L _ (by decide) (by decide)) (A_play hi hn _))
  · have hX : ¬ q_isPl a1 := by
      rintro ⟨z1, z2⟩
      have n9 := e9
      rw [← Int32.toInt_inj, nI_toInt (by decide)] at e9 ea eb ec
      rw [Int32.le_iff_toInt_le, nI_toInt (by decide)] at z1 z2
      omega
    exact q_s_ic (fun _ => q_s_rt (L _ (by decide) (by decide)) (A_step hi hn hX _)) (fun _ => q_s_rt (L _ (by decide) (by decide)) (A_step hi hn hX _))
theorem C_act (hi : q_inv n a) (hn : n ≤ 600) (v : Int32) : q_SimX n a (q_isPl v) (fun h => tk_L_act v h) (fun h => fn_L_act v h) := by
  unfold tk_L_act fn_L_act tk_L_act_17 fn_L_act_17
  dsimp only [q_lowE]
  have L := fun (x : Int32) {k : Nat} (hk : 0 < k) (hk2 : k < 2 ^ 31) => fun h : z_H => q_lowT x hk hk2 h
  have G : ∀ s0 : Int32, q_SimX n a (q_isPl v) (fun h => ((s0 = 0) → (tk_L_low (v >>> ((nI 4) &&& 31)) (nI 36) h ∧ (tk_L_act_43 v s0 (q_low (v >>> ((nI 4) &&& 31)) (nI 36)) h))) ∧ ((¬ s0 = 0) → (tk_L_low (v >>> ((nI 4) &&& 31)) (nI 39) h ∧ (tk_L_act_43 v s0 ((q_low (v >>> ((nI 4) &&& 31)) (nI 39)) - (nI 1)) h)))) (fun h => if s0 = 0 then fn_L_act_43 v s0 (q_low (v >>> ((nI 4) &&& 31)) (nI 36)) h else fn_L_act_43 v s0 ((q_low (v >>> ((nI 4) &&& 31)) (nI 39)) - (nI 1)) h) := fun s0 =>
    q_s_ic (fun _ => q_s_rq (L _ (by decide) (by decide)) (A_43 hi hn _ _ _)) (fun _ => q_s_rq (L _ (by decide) (by decide)) (A_43 hi hn _ _ _))
  exact q_s_rq (L _ (by decide) (by decide)) (q_s_ic (fun _ => G _) (fun _ => G _))
end QA
