/-! ===== pure: steps and steps back, together ===== -/
def y_rs (hd k : Nat) (h h' : z_H) : Prop := ∀ b, b < 64 → (∀ i, i < k → b ≠ (hd + 63 - i) % 64) → h'.1 11 b = h.1 11 b ∧ h'.1 12 b = h.1 12 b
theorem y_rs_refl {hd k : Nat} {h : z_H} : y_rs hd k h h := fun _ _ _ => ⟨rfl, rfl⟩
theorem y_rs_trans {hd k : Nat} {h h' h'' : z_H} (f : y_rs hd k h h') (g : y_rs hd k h' h'') : y_rs hd k h h'' := fun b h1 h2 => ⟨(g b h1 h2).1.trans (f b h1 h2).1, (g b h1 h2).2.trans (f b h1 h2).2⟩
theorem y_rs_mono {hd k k' : Nat} {h h' : z_H} (f : y_rs hd k h h') (hk : k ≤ k') : y_rs hd k' h h' := fun b h1 h2 => f b h1 (fun i hi => h2 i (by omega))
theorem k_back2 {m : Nat} {wt : Nat → Nat} {s : p_St} {hd f0 : Nat} {h h2 : z_H} (hw : y_wf m wt) (hR : y_RC m wt s hd f0 h) (ws : y_ws m s) {d : Nat} (hd4 : d < 4) (hc : p_can m wt s d = true) {k : Nat} (hk : k ≤ 6) (hR2 : y_RC m wt (p_adv m wt s d) ((hd + 63) % 64) (k_f0 m wt s d f0) h2) (hn : k_near (fh_X6_advance h (nI d)) h2) (hr : y_rs ((hd + 63) % 64) k (fh_X6_advance h (nI d)) h2) :
    y_RC m wt s hd f0 (fh_X6_takeBack h2) ∧ k_near h (fh_X6_takeBack h2) ∧ y_rs hd (k + 1) h (fh_X6_takeBack h2) := by
  obtain ⟨a1, a2, a3, a4⟩ := k_adv hw hR ws hd4 hc
  have hl := y_ws_len ws
  have hd64 := hR.2.1.1
  have hf64 := hR.2.2.1
  have e12 : h2.1 12 ((hd + 63) % 64) = nI (p_deed m wt s d) := by
    rw [(hr _ (Nat.mod_lt _ (by decide)) (fun i hi => by omega)).2]; exact a2
  have htail : h2.1 11 ((hd + (s.1.length - 1)) % 64) = nI (s.1.getD (s.1.length - 1) 99) := by
    rw [(hr _ (Nat.mod_lt _ (by decide)) (fun i hi => by omega)).1, (a3 _ (by omega)).1]
    exact hR.2.1.2.2.2.2.1 _ (by omega)
  have hfd : p_eats m wt s d = true → h2.1 9 f0 = nI (s.2.2.getD 0 99) := fun e => by
    rw [y_fr_at hn.1 9, y_fr_at a4.1 9]
    have := hR.2.2.2.2.2 0 (p_eats_iff.mp e).1
    rw [Nat.add_zero, Nat.mod_eq_of_lt hf64] at this
    exact this
  obtain ⟨b1, b2, b3, b4⟩ := k_back ws hd4 hc hd64 hf64 hR2 e12 htail hfd
  refine ⟨b1, k_near_trans (k_near_trans a4 hn) b4, fun b hb hw => ?_⟩
  rw [b2, b3]
  have h1 := hw 0 (by omega)
  have h2' := hr b hb (fun i hi => by have := hw (i + 1) (by omega); omega)
  rw [h2'.1, h2'.2]
  exact a3 b (by omega)
/-! ===== pure: ways along the cycle ===== -/
def p_far (m : Nat) (wt : Nat → Nat) (a b : Nat) : Nat := (p_plc m wt b + p_N m wt - p_plc m wt a) % p_N m wt
def p_ext (m : Nat) (wt : Nat → Nat) : List Nat → Nat
  | [] => 0
  | [_] => 0
  | a :: b :: L => p_far m wt b a + p_ext m wt (b :: L)
theorem p_far_lt {m : Nat} {wt : Nat → Nat} (hN : 0 < p_N m wt) (a b : Nat) : p_far m wt a b < p_N m wt := Nat.mod_lt _ hN
theorem p_ext_le {m : Nat} {wt : Nat → Nat} (hN : 0 < p_N m wt) : ∀ L, p_ext m wt L ≤ 36 * L.length
  | [] => Nat.zero_le _
  | [_] => Nat.zero_le _
  | a :: b :: L => by
    have h1 := p_ext_le hN (b :: L)
    have h2 := p_far_lt hN b a
    have h3 := p_N_le (m := m) (wt := wt)
    show p_far m wt b a + p_ext m wt (b :: L) ≤ _
    rw [List.length_cons]
    omega
theorem p_far_v {m : Nat} {wt : Nat → Nat} (hm : m < 512) (hN : 0 < p_N m wt) {a b : Nat} (ha : p_op m a) (hb : p_op m b) : p_far m wt a b = if p_plc m wt a ≤ p_plc m wt b then p_plc m wt b - p_plc m wt a else p_plc m wt b + p_N m wt - p_plc m wt a := by
  have h1 := (p_plc_op hm hN ha).1
  have h2 := (p_plc_op hm hN hb).1
  unfold p_far
  split
  · rw [show p_plc m wt b + p_N m wt - p_plc m wt a = (p_plc m wt b - p_plc m wt a) + p_N m wt by omega, Nat.add_mod_right, Nat.mod_eq_of_lt (by omega)]
  · rw [Nat.mod_eq_of_lt (by omega)]
theorem p_far_0 {m : Nat} {wt : Nat → Nat} (hm : m < 512) (hN : 0 < p_N m wt) {a b : Nat} (ha : p_op m a) (hb : p_op m b) : p_far m wt a b = 0 ↔ a = b := by
  have h1 := (p_plc_op hm hN ha).1
  have h2 := (p_plc_op hm hN hb).1
  rw [p_far_v hm hN ha hb]
  constructor
  · intro h
    apply p_plc_inj hm hN ha hb
    split at h <;> omega
  · intro h
    subst h
    simp
theorem p_ext_drop {m : Nat} {wt : Nat → Nat} {B : List Nat} {k : Nat} (hk : k + 1 < B.length) : p_ext m wt (B.drop k) = p_far m wt (B.getD (k + 1) 99) (B.getD k 99) + p_ext m wt (B.drop (k + 1)) := by
  rw [List.drop_eq_getElem_cons (show k < B.length by omega), List.drop_eq_getElem_cons hk]
  have e1 : B.getD k 99 = B[k] := by rw [List.getD_eq_getElem?_getD, List.getElem?_eq_getElem (by omega)]; rfl
  have e2 : B.getD (k + 1) 99 = B[k + 1] := by rw [List.getD_eq_getElem?_getD, List.getElem?_eq_getElem hk]; rfl
  rw [e1, e2]
  rfl
theorem p_ext_last {m : Nat} {wt : Nat → Nat} {B : List Nat} : p_ext m wt (B.drop (B.length - 1)) = 0 := by
  have h : (B.drop (B.length - 1)).length ≤ 1 := by rw [List.length_drop]; omega
  cases e : B.drop (B.length - 1) with
  | nil => rfl
  | cons a L =>
    cases L with
    | nil => rfl
    | cons b L => rw [e] at h; simp at h
theorem k_way {m : Nat} {wt : Nat → Nat} {h : z_H} (hm : m < 512) (hN : 0 < p_N m wt) (hC : y_CC m wt h) {a b : Nat} (ha : p_op m a) (hb : p_op m b) : fv_X2_wayBetween h (nI a) (nI b) = nI (p_far m wt a b) := by
  have h1 := (p_plc_op hm hN ha).1
  have h2 := (p_plc_op hm hN hb).1
  have h3 := p_N_le (m := m) (wt := wt)
  unfold fv_X2_wayBetween
  rw [y_atv ha.1, y_atv hb.1, hC.2.2 _ ha.1, hC.2.2 _ hb.1, hC.1, p_i_n (by omega), p_i_n (by omega), p_far_v hm hN ha hb]
  by_cases e : p_plc m wt a ≤ p_plc m wt b
  · rw [if_pos e, pk_sub e, if_pos (nI_pos' (by omega))]
  · have hneg : ¬ (0 : Int32) ≤ nI (p_plc m wt b) - nI (p_plc m wt a) := fun z => by
      have := pk_sneg (a := p_plc m wt b) (b := p_plc m wt a) (by omega) (by omega)
      rw [Int32.lt_iff_toInt_lt] at this
      rw [Int32.le_iff_toInt_le] at z
      omega
    rw [if_neg e, if_neg hneg, ← pk_sub (by omega), ← nI_add]
    rw [Int32.sub_eq_add_neg, Int32.sub_eq_add_neg, Int32.add_assoc, Int32.add_assoc, Int32.add_comm (-_) (nI (p_N m wt))]
def p_ordd (m : Nat) (wt : Nat → Nat) (B : List Nat) : Bool := decide (0 < B.length ∧ 0 < p_N m wt ∧ p_ext m wt B < p_N m wt)
theorem p_ordd_iff {m : Nat} {wt : Nat → Nat} {B : List Nat} : p_ordd m wt B = true ↔ 0 < B.length ∧ 0 < p_N m wt ∧ p_ext m wt B < p_N m wt := by unfold p_ordd; exact decide_eq_true_iff
theorem k_wayOf {m : Nat} {wt : Nat → Nat} {s : p_St} {hd f0 : Nat} {h : z_H} (hm : m < 512) (hN : 0 < p_N m wt) (hC : y_CC m wt h) (hR : y_RC m wt s hd f0 h) (ws : y_ws m s) : ∀ (k n : Nat), k < s.1.length → k < n → y_W (tk_X5_wayOfBody_12 h n (nI (p_ext m wt (s.1.drop k))) (nI k)) (fn_X5_wayOfBody_12 h n (nI (p_ext m wt (s.1.drop k))) (nI k)) (fun r => r = some (.int (nI (p_ext m wt s.1))))
  | 0, n + 1, hk, hn => by
    unfold tk_X5_wayOfBody_12 fn_X5_wayOfBody_12
    dsimp only
    exact y_pos (by decide) (y_end rfl)
  | k + 1, n + 1, hk, hn => by
    have hl := y_ws_len ws
    unfold tk_X5_wayOfBody_12 fn_X5_wayOfBody_12
    dsimp only
    refine y_neg (nI_nle (Nat.succ_pos k) (by omega)) ?_
    rw [y_dec, pk_sub (Nat.le_add_left 1 k), Nat.add_sub_cancel, k_c0 hR hl.1 hk (by omega), k_c0 hR hl.1 (show k < s.1.length by omega) (by omega), k_way hm hN hC (ws.2.2.1 _ (y_getD_mem hk)) (ws.2.2.1 _ (y_getD_mem (by omega))), nI_add, Nat.add_comm (p_ext m wt _), ← p_ext_drop hk]
    exact k_wayOf hm hN hC hR ws k n (by omega) (by omega)
theorem k_wayOfB {m : Nat} {wt : Nat → Nat} {s : p_St} {hd f0 : Nat} {h : z_H} (hm : m < 512) (hN : 0 < p_N m wt) (hC : y_CC m wt h) (hR : y_RC m wt s hd f0 h) (ws : y_ws m s) : tk_X5_wayOfBody h ∧ fn_X5_wayOfBody h = some (.int (nI (p_ext m wt s.1))) := by
  have hl := y_ws_len ws
  have := k_wayOf hm hN hC hR ws (s.1.length - 1) 2000 (by omega) (by omega)
  rw [p_ext_last] at this
  unfold tk_X5_wayOfBody fn_X5_wayOfBody
  rw [hR.2.1.2.2.1, pk_sub (by omega)]
  exact this
theorem k_order {m : Nat} {wt : Nat → Nat} {s : p_St} {hd f0 : Nat} {h : z_H} (hm : m < 512) (hC : y_CC m wt h) (hR : y_RC m wt s hd f0 h) (ws : y_ws m s ∨ s.1 = []) : tk_X5_seesOrder h ∧ fn_X5_seesOrder h = some (.int (if p_ordd m wt s.1 = true then nI 1 else nI 0)) := by
  have h3 := p_N_le (m := m) (wt := wt)
  have W : y_W (tk_X5_seesOrder h) (fn_X5_seesOrder h) (fun r => r = some (.int (if p_ordd m wt s.1 = true then nI 1 else nI 0))) := by
    unfold tk_X5_seesOrder fn_X5_seesOrder fv_X6_isThere fv_X2_isThere
    rw [hR.2.1.2.2.1, hC.1]
    rcases ws with ws | ws
    · have hl := y_ws_len ws
      rw [if_neg (nI_nle hl.1 (by omega))]
      refine y_neg i1_ne0 ?_
      by_cases hN : 0 < p_N m wt
      · rw [if_neg (nI_nle hN (by omega))]
        obtain ⟨q1, q2⟩ := k_wayOfB hm hN hC hR ws
        refine y_neg i1_ne0 ⟨q1, ?_⟩
        rw [q2]
        have := p_ext_le hN s.1
        show (if nI (p_N m wt) ≤ nI (p_ext m wt s.1) then _ else _) = _
        by_cases e : p_ext m wt s.1 < p_N m wt
        · rw [if_neg (nI_ge e (by omega)), if_pos (p_ordd_iff.mpr ⟨hl.1, hN, e⟩)]
        · rw [if_pos (nI_le (by omega) (by omega)), if_neg (fun z => e (p_ordd_iff.mp z).2.2)]
      · have e : p_N m wt = 0 := by omega
        rw [e]
        refine y_pos (by decide) (y_end ?_)
        rw [if_neg (fun z => hN (p_ordd_iff.mp z).2.1)]
    · rw [ws]
      refine y_pos (by decide) (y_end ?_)
      rfl
  exact W
/-! ===== pure: the player ===== -/
def p_safe (m : Nat) (wt : Nat → Nat) (s : p_St) (d : Nat) : Bool := decide (0 < s.2.2.length ∧ p_ordd m wt s.1 = true ∧ p_can m wt s d = true ∧ p_ordd m wt (p_adv m wt s d).1 = true ∧ p_far m wt (s.1.getD 0 99) (p_to m wt s d) ≤ (if s.2.2.getD 0 99 = s.1.getD 0 99 then p_N m wt else p_far m wt (s.1.getD 0 99) (s.2.2.getD 0 99)) ∧ (p_adv m wt s d).2.1 + p_ext m wt (p_adv m wt s d).1 + 1 ≤ p_N m wt)
def y_K (m : Nat) (wt : Nat → Nat) (s : p_St) (hd f0 : Nat) (h : z_H) : Prop := y_RC m wt s hd f0 h ∧ y_CC m wt h ∧ y_TC (p_gT m wt) h
theorem y_CC_fr {m : Nat} {wt : Nat → Nat} {os : List Nat} {h h' : z_H} (hC : y_CC m wt h) (hF : y_fr os h h') (h4 : 4 ∉ os := by decide) (h5 : 5 ∉ os := by decide) (h6 : 6 ∉ os := by decide) : y_CC m wt h' := ⟨by rw [y_fr_at hF 4 h4]; exact hC.1, fun p hp => by rw [y_fr_at hF 5 h5]; exact hC.2.1 p hp, fun c hc => by rw [y_fr_at hF 6 h6]; exact hC.2.2 c hc⟩
theorem y_sv0 {b : Bool} : (if b = true then nI 1 else nI 0 : Int32) = 0 ↔ b = false := by
  cases b with
  | true => exact ⟨fun z => absurd z i1_ne0, fun z => by cases z⟩
  | false => exact ⟨fun _ => rfl, fun _ => rfl⟩
theorem k_safe {m : Nat} {wt : Nat → Nat} {s : p_St} {hd f0 : Nat} {h : z_H} (hw : y_wf m wt) (hK : y_K m wt s hd f0 h) (ws : y_ws m s) {d : Nat} (hd4 : d < 4) : y_W (tk_X5_seesSafe (nI d) h) (fn_X5_seesSafe (nI d) h) (fun r => z_vi r = (if p_safe m wt s d = true then nI 1 else nI 0) ∧ y_K m wt s hd f0 r.2 ∧ k_near h r.2) := by
  obtain ⟨hR, hC, hT⟩ := hK
  have hl := y_ws_len ws
  have h3 := p_N_le (m := m) (wt := wt)
  have hF1 := k_first hR.2.2 (by have := ws.2.2.2.1; omega)
  obtain ⟨o1, o2⟩ := k_order hw.1 hC hR (Or.inl ws)
  have no : ¬ p_safe m wt s d = true → y_W True ((some (.int (nI 0)), h) : z_R) (fun r => z_vi r = (if p_safe m wt s d = true then nI 1 else nI 0) ∧ y_K m wt s hd f0 r.2 ∧ k_near h r.2) := fun z => y_end ⟨by rw [if_neg z]; rfl, ⟨hR, hC, hT⟩, k_near_refl h⟩
  unfold tk_X5_seesSafe fn_X5_seesSafe
  rw [hF1, o2, k_c0 hR hl.1 hl.1 (by omega)]
  by_cases hf : 0 < s.2.2.length
  · rw [if_pos hf]
    have hfo := ws.2.2.2.2.1 _ (y_getD_mem hf)
    refine y_neg (y_m1 _ (by have := hfo.1; omega)) (y_req o1 ?_)
    cases ho : p_ordd m wt s.1 with
    | false => exact y_pos rfl (no (fun z => by have := (of_decide_eq_true z).2.1; rw [ho] at this; cases this))
    | true =>
      obtain ⟨-, hN, hlt⟩ := p_ordd_iff.mp ho
      refine y_neg i1_ne0 ?_
      cases hc : p_can m wt s d with
      | false =>
        obtain ⟨n1, n2⟩ := k_advN hw hR ws hd4 hc
        rw [n1, n2]
        exact y_pos rfl (no (fun z => by have := (of_decide_eq_true z).2.2.1; rw [hc] at this; cases this))
      | true =>
        rw [(k_advY hw hR ws hd4 hc).1]
        refine y_neg i1_ne0 ?_
        obtain ⟨a1, a2, a3, a4⟩ := k_adv hw hR ws hd4 hc
        have ws' := y_ws_adv hd4 ws hc
        have hl' := y_ws_len ws'
        have hC' := y_CC_fr hC a4.1
        have hT' := y_TC_fr hT a4.1
        obtain ⟨c1, c2⟩ := p_can_iff.mp hc
        have hhd := y_ws_hd ws
        have hhd' : p_op m (p_to m wt s d) := y_ws_hd ws'
        obtain ⟨b1, b2, b3⟩ := k_back2 hw hR ws hd4 hc (k := 0) (by omega) a1 (k_near_refl _) y_rs_refl
        obtain ⟨o1', o2'⟩ := k_order hw.1 hC' a1 (Or.inl ws')
        obtain ⟨x1, x2⟩ := k_wayOfB hw.1 hN hC' a1 ws'
        have hce : (fh_X6_advance h (nI d)).1 11 ((((fh_X6_advance h (nI d)).1 10 4 + nI 0) &&& nI 63).toNatClampNeg) = nI (p_to m wt s d) := k_c0 a1 hl'.1 hl'.1 (by omega)
        have hex := p_ext_le hN (p_adv m wt s d).1
        have hg6 := ws'.2.2.2.2.2
        have fin : ∀ b : Bool, b = p_safe m wt s d → y_W (tk_X5_seesSafe_125 (if b = true then nI 1 else nI 0) (fh_X6_advance h (nI d))) (fn_X5_seesSafe_125 (if b = true then nI 1 else nI 0) (fh_X6_advance h (nI d))) (fun r => z_vi r = (if p_safe m wt s d = true then nI 1 else nI 0) ∧ y_K m wt s hd f0 r.2 ∧ k_near h r.2) := by
          intro b hb
          unfold tk_X5_seesSafe_125 fn_X5_seesSafe_125
          exact ⟨by cases b; exact Or.inl rfl; exact Or.inr rfl, by rw [hb]; rfl, ⟨b1, y_CC_fr hC b2.1, y_TC_fr hT b2.1⟩, b2⟩
        have go66 : ∀ fa : Nat, fa = (if s.2.2.getD 0 99 = s.1.getD 0 99 then p_N m wt else p_far m wt (s.1.getD 0 99) (s.2.2.getD 0 99)) → y_W (tk_X5_seesSafe_66 (nI (s.1.getD 0 99)) (nI fa) (fh_X6_advance h (nI d))) (fn_X5_seesSafe_66 (nI (s.1.getD 0 99)) (nI fa) (fh_X6_advance h (nI d))) (fun r => z_vi r = (if p_safe m wt s d = true then nI 1 else nI 0) ∧ y_K m wt s hd f0 r.2 ∧ k_near h r.2) := by
          intro fa hfa
          have hfa36 : fa ≤ 36 := by
            rw [hfa]; split
            · exact h3
            · have := p_far_lt hN (s.1.getD 0 99) (s.2.2.getD 0 99); omega
          have hfw := p_far_lt hN (s.1.getD 0 99) (p_to m wt s d)
          unfold tk_X5_seesSafe_66 fn_X5_seesSafe_66 tk_X5_seesSafe_124 fn_X5_seesSafe_124
          rw [o2', hce, k_way hw.1 hN hC' hhd hhd', x2, hC'.1, a1.2.1.2.2.2.1]
          refine y_req o1' ?_
          cases ho' : p_ordd m wt (p_adv m wt s d).1 with
          | false => exact y_pos rfl (fin false (by cases e : p_safe m wt s d; rfl; have := (of_decide_eq_true e).2.2.2.1; rw [ho'] at this; cases this))
          | true =>
            have hlt' := (p_ordd_iff.mp ho').2.2
            refine y_neg i1_ne0 ?_
            refine y_lt fa (p_far m wt (s.1.getD 0 99) (p_to m wt s d)) rfl rfl (fun e => ?_) (fun e => ?_)
            · refine fin false ?_
              cases e2 : p_safe m wt s d
              · rfl
              · have := (of_decide_eq_true e2).2.2.2.2.1
                rw [← hfa] at this
                omega
            · refine y_req x1 ?_
              have q : nI (p_N m wt) - nI 1 - nI (p_ext m wt (p_adv m wt s d).1) = nI (p_N m wt - 1 - p_ext m wt (p_adv m wt s d).1) := by rw [pk_sub (by omega), pk_sub (by omega)]
              refine y_lt (p_N m wt - 1 - p_ext m wt (p_adv m wt s d).1) (p_adv m wt s d).2.1 q rfl (fun e2 => ?_) (fun e2 => ?_)
              · refine fin false ?_
                cases e3 : p_safe m wt s d
                · rfl
                · have := (of_decide_eq_true e3).2.2.2.2.2
                  omega
              · refine fin true ?_
                unfold p_safe
                rw [eq_comm, decide_eq_true_iff]
                exact ⟨hf, ho, hc, ho', by rw [← hfa]; exact e, by omega⟩
        refine y_eq (s.2.2.getD 0 99) (s.1.getD 0 99) rfl rfl (fun e => ?_) (fun e => ?_) (by have := hfo.1; omega) (by have := hhd.1; omega)
        · rw [hC'.1]
          exact go66 _ (by rw [if_pos e])
        · rw [k_way hw.1 hN hC' hhd hfo]
          exact go66 _ (by rw [if_neg e])
  · rw [if_neg hf]
    exact y_pos rfl (no (fun z => hf (of_decide_eq_true z).1))
def p_chs (m : Nat) (wt : Nat → Nat) (s : p_St) : Nat → Nat
  | 0 => 99
  | k + 1 => if p_safe m wt s k = true ∧ (p_chs m wt s k = 99 ∨ p_far m wt (s.1.getD 0 99) (p_to m wt s (p_chs m wt s k)) < p_far m wt (s.1.getD 0 99) (p_to m wt s k)) then k else p_chs m wt s k
theorem p_chs_lt {m : Nat} {wt : Nat → Nat} {s : p_St} : ∀ k, p_chs m wt s k < k ∧ p_safe m wt s (p_chs m wt s k) = true ∨ p_chs m wt s k = 99
  | 0 => Or.inr rfl
  | k + 1 => by
    unfold p_chs
    split
    · rename_i h; exact Or.inl ⟨Nat.lt_succ_self k, h.1⟩
    · rcases p_chs_lt (m := m) (wt := wt) (s := s) k with h | h
      · exact Or.inl ⟨by omega, h.2⟩
      · exact Or.inr h
theorem p_safe_far {m : Nat} {wt : Nat → Nat} {s : p_St} (hm : m < 512) (ws : y_ws m s) {d : Nat} (hd4 : d < 4) (h : p_safe m wt s d = true) : p_op m (p_to m wt s d) ∧ p_to m wt s d = p_cb (s.1.getD 0 99) d ∧ 0 < p_far m wt (s.1.getD 0 99) (p_to m wt s d) ∧ 0 < p_N m wt := by
  obtain ⟨-, h2, h3, -⟩ := of_decide_eq_true h
  obtain ⟨c1, -⟩ := p_can_iff.mp h3
  have hN := (p_ordd_iff.mp h2).2.1
  have hhd := y_ws_hd ws
  have ho := p_go_op hhd.1 hd4 c1
  have hcb := p_go_cb c1
  refine ⟨ho, hcb, ?_, hN⟩
  refine Nat.pos_of_ne_zero (fun z => ?_)
  have := (p_far_0 hm hN hhd ho).mp z
  rw [hcb] at this
  have ne : ∀ c, c < 36 → ∀ d, d < 4 → p_cb c d ≠ c := by decide +kernel
  exact ne _ hhd.1 _ hd4 this.symm
theorem k_choice {m : Nat} {wt : Nat → Nat} {s : p_St} {hd f0 : Nat} {h0 : z_H} (hw : y_wf m wt) (ws : y_ws m s) : ∀ (j k : Nat) (h : z_H) (n : Nat), k + j = 4 → j < n → y_K m wt s hd f0 h → k_near h0 h →
    y_W (tk_X5_choice_6 n (p_i (p_chs m wt s k)) (nI (if p_chs m wt s k = 99 then 0 else p_far m wt (s.1.getD 0 99) (p_to m wt s (p_chs m wt s k)))) (nI k) h) (fn_X5_choice_6 n (p_i (p_chs m wt s k)) (nI (if p_chs m wt s k = 99 then 0 else p_far m wt (s.1.getD 0 99) (p_to m wt s (p_chs m wt s k)))) (nI k) h) (fun r => z_vi r = p_i (p_chs m wt s 4) ∧ y_K m wt s hd f0 r.2 ∧ k_near h0 r.2)
  | 0, k, h, n + 1, hk, hn, hK, hn0 => by
    have : k = 4 := by omega
    subst this
    unfold tk_X5_choice_6 fn_X5_choice_6
    dsimp only
    exact y_pos (nI_le (Nat.le_refl 4) (by decide)) (y_end ⟨rfl, hK, hn0⟩)
  | j + 1, k, h, n + 1, hk, hn, hK, hn0 => by
    have hlt : k < 4 := by omega
    have hl := y_ws_len ws
    obtain ⟨S1, S2, S3, S4⟩ := k_safe hw hK ws hlt
    have hl' := y_ws_len ws
    unfold tk_X5_choice_6 fn_X5_choice_6
    dsimp only
    refine y_neg (nI_ge hlt (by decide)) (y_req S1 ?_)
    unfold tk_X5_choice_59 fn_X5_choice_59
    rw [S2]
    generalize (fn_X5_seesSafe (nI k) h).2 = h1 at S3 S4 ⊢
    have ih := k_choice (h0 := h0) hw ws j (k + 1) h1 n (by omega) (by omega) S3 (k_near_trans hn0 S4)
    have hch := p_chs_lt (m := m) (wt := wt) (s := s) k
    rw [nI_add]
    have eqs : p_chs m wt s (k + 1) = if p_safe m wt s k = true ∧ (p_chs m wt s k = 99 ∨ p_far m wt (s.1.getD 0 99) (p_to m wt s (p_chs m wt s k)) < p_far m wt (s.1.getD 0 99) (p_to m wt s k)) then k else p_chs m wt s k := rfl
    cases hs : p_safe m wt s k with
    | false =>
      rw [hs, if_neg (fun z => by cases z.1)] at eqs
      rw [eqs] at ih
      exact y_pos rfl ih
    | true =>
      obtain ⟨q1, q2, q3, hN⟩ := p_safe_far hw.1 ws hlt hs
      refine y_neg i1_ne0 ?_
      have hcb : fv_X0_cellBeside (nI (s.1.getD 0 99)) (nI k) = nI (p_to m wt s k) := by
        rw [(s_cb _ (y_ws_hd ws).1 _ hlt).1, ← q2, p_i_n (by have := q1.1; omega)]
      have h3 := p_N_le (m := m) (wt := wt)
      have hf1 := p_far_lt hN (s.1.getD 0 99) (p_to m wt s k)
      have hf2 := p_far_lt hN (s.1.getD 0 99) (p_to m wt s (p_chs m wt s k))
      rw [k_c0 S3.1 hl.1 hl.1 (by omega), hcb, k_way hw.1 hN S3.2.1 (y_ws_hd ws) q1]
      refine y_le _ _ rfl rfl (fun e => ?_) (fun e => ?_) (by omega) (by split <;> omega)
      · rw [if_neg] at eqs
        · rw [eqs] at ih; exact ih
        · rintro ⟨-, z⟩
          rcases z with z | z
          · rw [if_pos z] at e; omega
          · by_cases z2 : p_chs m wt s k = 99
            · rw [if_pos z2] at e; omega
            · rw [if_neg z2] at e; omega
      · rw [if_pos] at eqs
        · rw [eqs, if_neg (by omega), p_i_n (by omega)] at ih; exact ih
        · refine ⟨hs, ?_⟩
          by_cases z2 : p_chs m wt s k = 99
          · exact Or.inl z2
          · rw [if_neg z2] at e; exact Or.inr e
