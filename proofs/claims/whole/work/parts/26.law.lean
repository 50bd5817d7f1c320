/-! ===== printed by wip/whole/gen: methods with loops, as functions ===== -/
def fn_L_law_1215 (L : Nat) (xs : Nat → Int32) (k23 : Int32 → z_H → Int32) (a4 : Int32) (h : z_H) : Int32 := k23 (a4 + (nI 3)) h
def tk_L_law_1215 (L : Nat) (xs : Nat → Int32) (K23 : Int32 → z_H → Prop) (a4 : Int32) (h : z_H) : Prop := K23 (a4 + (nI 3)) h
def fn_L_law_1212 (L : Nat) (xs : Nat → Int32) (k23 : Int32 → z_H → Int32) (a4 : Int32) (h : z_H) : Int32 := fn_L_law_1215 L xs k23 a4 h
def tk_L_law_1212 (L : Nat) (xs : Nat → Int32) (K23 : Int32 → z_H → Prop) (a4 : Int32) (h : z_H) : Prop := tk_L_law_1215 L xs K23 a4 h
def fn_L_law_1168 (L : Nat) (xs : Nat → Int32) (k23 : Int32 → z_H → Int32) (a4 : Int32) (h : z_H) : Int32 := fn_L_law_1215 L xs k23 a4 h
def tk_L_law_1168 (L : Nat) (xs : Nat → Int32) (K23 : Int32 → z_H → Prop) (a4 : Int32) (h : z_H) : Prop := tk_L_law_1215 L xs K23 a4 h
def fn_L_law_1124 (L : Nat) (xs : Nat → Int32) (k23 : Int32 → z_H → Int32) (a4 : Int32) (h : z_H) : Int32 := fn_L_law_1215 L xs k23 a4 h
def tk_L_law_1124 (L : Nat) (xs : Nat → Int32) (K23 : Int32 → z_H → Prop) (a4 : Int32) (h : z_H) : Prop := tk_L_law_1215 L xs K23 a4 h
def fn_L_law_1055 (L : Nat) (xs : Nat → Int32) (k23 : Int32 → z_H → Int32) (a4 : Int32) (h : z_H) : Int32 := fn_L_law_1215 L xs k23 a4 h
def tk_L_law_1055 (L : Nat) (xs : Nat → Int32) (K23 : Int32 → z_H → Prop) (a4 : Int32) (h : z_H) : Prop := tk_L_law_1215 L xs K23 a4 h
def fn_L_law_1049 (L : Nat) (xs : Nat → Int32) (k23 : Int32 → z_H → Int32) (a4 : Int32) (s0 : Int64) (s1 : Int64) (h : z_H) : Int32 := if (lg_cmp s1 s0) = 0 then fn_L_law_1055 L xs k23 a4 h else nI 0
def tk_L_law_1049 (L : Nat) (xs : Nat → Int32) (K23 : Int32 → z_H → Prop) (a4 : Int32) (s0 : Int64) (s1 : Int64) (h : z_H) : Prop := (((lg_cmp s1 s0) = 0) → (tk_L_law_1055 L xs K23 a4 h)) ∧ ((¬ (lg_cmp s1 s0) = 0) → (True))
def fn_L_law_966 (L : Nat) (xs : Nat → Int32) (k23 : Int32 → z_H → Int32) (a4 : Int32) (h : z_H) : Int32 := fn_L_law_1215 L xs k23 a4 h
def tk_L_law_966 (L : Nat) (xs : Nat → Int32) (K23 : Int32 → z_H → Prop) (a4 : Int32) (h : z_H) : Prop := tk_L_law_1215 L xs K23 a4 h
def fn_L_law_871 (L : Nat) (xs : Nat → Int32) (k23 : Int32 → z_H → Int32) (a4 : Int32) (h : z_H) : Int32 := fn_L_law_1215 L xs k23 a4 h
def tk_L_law_871 (L : Nat) (xs : Nat → Int32) (K23 : Int32 → z_H → Prop) (a4 : Int32) (h : z_H) : Prop := tk_L_law_1215 L xs K23 a4 h
def fn_L_law_815 (L : Nat) (xs : Nat → Int32) (k23 : Int32 → z_H → Int32) (a4 : Int32) (h : z_H) : Int32 := fn_L_law_1215 L xs k23 a4 h
def tk_L_law_815 (L : Nat) (xs : Nat → Int32) (K23 : Int32 → z_H → Prop) (a4 : Int32) (h : z_H) : Prop := tk_L_law_1215 L xs K23 a4 h
def fn_L_law_759 (L : Nat) (xs : Nat → Int32) (k23 : Int32 → z_H → Int32) (a4 : Int32) (h : z_H) : Int32 := fn_L_law_1215 L xs k23 a4 h
def tk_L_law_759 (L : Nat) (xs : Nat → Int32) (K23 : Int32 → z_H → Prop) (a4 : Int32) (h : z_H) : Prop := tk_L_law_1215 L xs K23 a4 h
def fn_L_law_703 (L : Nat) (xs : Nat → Int32) (k23 : Int32 → z_H → Int32) (a4 : Int32) (h : z_H) : Int32 := fn_L_law_1215 L xs k23 a4 h
def tk_L_law_703 (L : Nat) (xs : Nat → Int32) (K23 : Int32 → z_H → Prop) (a4 : Int32) (h : z_H) : Prop := tk_L_law_1215 L xs K23 a4 h
def fn_L_law_611 (L : Nat) (xs : Nat → Int32) (k23 : Int32 → z_H → Int32) (a4 : Int32) (h : z_H) : Int32 := fn_L_law_1215 L xs k23 a4 h
def tk_L_law_611 (L : Nat) (xs : Nat → Int32) (K23 : Int32 → z_H → Prop) (a4 : Int32) (h : z_H) : Prop := tk_L_law_1215 L xs K23 a4 h
def fn_L_law_555 (L : Nat) (xs : Nat → Int32) (k23 : Int32 → z_H → Int32) (a4 : Int32) (h : z_H) : Int32 := fn_L_law_1215 L xs k23 a4 h
def tk_L_law_555 (L : Nat) (xs : Nat → Int32) (K23 : Int32 → z_H → Prop) (a4 : Int32) (h : z_H) : Prop := tk_L_law_1215 L xs K23 a4 h
def fn_L_law_499 (L : Nat) (xs : Nat → Int32) (k23 : Int32 → z_H → Int32) (a4 : Int32) (h : z_H) : Int32 := fn_L_law_1215 L xs k23 a4 h
def tk_L_law_499 (L : Nat) (xs : Nat → Int32) (K23 : Int32 → z_H → Prop) (a4 : Int32) (h : z_H) : Prop := tk_L_law_1215 L xs K23 a4 h
def fn_L_law_430 (L : Nat) (xs : Nat → Int32) (k23 : Int32 → z_H → Int32) (a4 : Int32) (h : z_H) : Int32 := fn_L_law_1215 L xs k23 a4 h
def tk_L_law_430 (L : Nat) (xs : Nat → Int32) (K23 : Int32 → z_H → Prop) (a4 : Int32) (h : z_H) : Prop := tk_L_law_1215 L xs K23 a4 h
def fn_L_law_424 (L : Nat) (xs : Nat → Int32) (k23 : Int32 → z_H → Int32) (a4 : Int32) (s0 : Int64) (s1 : Int64) (h : z_H) : Int32 := if (lg_cmp s1 s0) = 0 then fn_L_law_430 L xs k23 a4 h else nI 0
def tk_L_law_424 (L : Nat) (xs : Nat → Int32) (K23 : Int32 → z_H → Prop) (a4 : Int32) (s0 : Int64) (s1 : Int64) (h : z_H) : Prop := (((lg_cmp s1 s0) = 0) → (tk_L_law_430 L xs K23 a4 h)) ∧ ((¬ (lg_cmp s1 s0) = 0) → (True))
def fn_L_law_367 (L : Nat) (xs : Nat → Int32) (k23 : Int32 → z_H → Int32) (a4 : Int32) (h : z_H) : Int32 := fn_L_law_1215 L xs k23 a4 h
def tk_L_law_367 (L : Nat) (xs : Nat → Int32) (K23 : Int32 → z_H → Prop) (a4 : Int32) (h : z_H) : Prop := tk_L_law_1215 L xs K23 a4 h
def fn_L_law_361 (L : Nat) (xs : Nat → Int32) (k23 : Int32 → z_H → Int32) (a4 : Int32) (s0 : Int64) (s1 : Int64) (h : z_H) : Int32 := if (lg_cmp s1 s0) = 0 then fn_L_law_367 L xs k23 a4 h else nI 0
def tk_L_law_361 (L : Nat) (xs : Nat → Int32) (K23 : Int32 → z_H → Prop) (a4 : Int32) (s0 : Int64) (s1 : Int64) (h : z_H) : Prop := (((lg_cmp s1 s0) = 0) → (tk_L_law_367 L xs K23 a4 h)) ∧ ((¬ (lg_cmp s1 s0) = 0) → (True))
def fn_L_law_304 (L : Nat) (xs : Nat → Int32) (k23 : Int32 → z_H → Int32) (a4 : Int32) (h : z_H) : Int32 := fn_L_law_1215 L xs k23 a4 h
def tk_L_law_304 (L : Nat) (xs : Nat → Int32) (K23 : Int32 → z_H → Prop) (a4 : Int32) (h : z_H) : Prop := tk_L_law_1215 L xs K23 a4 h
def fn_L_law_236 (L : Nat) (xs : Nat → Int32) (k23 : Int32 → z_H → Int32) (a4 : Int32) (h : z_H) : Int32 := fn_L_law_1215 L xs k23 a4 h
def tk_L_law_236 (L : Nat) (xs : Nat → Int32) (K23 : Int32 → z_H → Prop) (a4 : Int32) (h : z_H) : Prop := tk_L_law_1215 L xs K23 a4 h
def fn_L_law_230 (L : Nat) (xs : Nat → Int32) (k23 : Int32 → z_H → Int32) (a4 : Int32) (s0 : Int64) (s1 : Int64) (h : z_H) : Int32 := if (lg_cmp s1 s0) = 0 then fn_L_law_236 L xs k23 a4 h else nI 0
def tk_L_law_230 (L : Nat) (xs : Nat → Int32) (K23 : Int32 → z_H → Prop) (a4 : Int32) (s0 : Int64) (s1 : Int64) (h : z_H) : Prop := (((lg_cmp s1 s0) = 0) → (tk_L_law_236 L xs K23 a4 h)) ∧ ((¬ (lg_cmp s1 s0) = 0) → (True))
def fn_L_law_196 (L : Nat) (xs : Nat → Int32) (k23 : Int32 → z_H → Int32) (a4 : Int32) (a5 : Int32) (s0 : Int32) (s1 : Int32) (h : z_H) : Int32 := if (((fn_X8_setWall s1 s0 h).2).1 20 0) = a5 then if a5 = 0 then if (z_vi (fn_X8_setWall s1 s0 h)) = 0 then fn_L_law_230 L xs k23 a4 0 (((fn_X8_setWall s1 s0 h).2).2 35 ((nI 0).toNatClampNeg)) ((fn_X8_setWall s1 s0 h).2) else fn_L_law_230 L xs k23 a4 1 (((fn_X8_setWall s1 s0 h).2).2 35 ((nI 0).toNatClampNeg)) ((fn_X8_setWall s1 s0 h).2) else fn_L_law_236 L xs k23 a4 ((fn_X8_setWall s1 s0 h).2) else nI 0
def tk_L_law_196 (L : Nat) (xs : Nat → Int32) (K23 : Int32 → z_H → Prop) (a4 : Int32) (a5 : Int32) (s0 : Int32) (s1 : Int32) (h : z_H) : Prop := tk_X8_setWall s1 s0 h ∧ ((((((fn_X8_setWall s1 s0 h).2).1 20 0) = a5) → (((a5 = 0) → ((((z_vi (fn_X8_setWall s1 s0 h)) = 0) → (tk_L_law_230 L xs K23 a4 0 (((fn_X8_setWall s1 s0 h).2).2 35 ((nI 0).toNatClampNeg)) ((fn_X8_setWall s1 s0 h).2))) ∧ ((¬ (z_vi (fn_X8_setWall s1 s0 h)) = 0) → (tk_L_law_230 L xs K23 a4 1 (((fn_X8_setWall s1 s0 h).2).2 35 ((nI 0).toNatClampNeg)) ((fn_X8_setWall s1 s0 h).2))))) ∧ ((¬ a5 = 0) → (tk_L_law_236 L xs K23 a4 ((fn_X8_setWall s1 s0 h).2))))) ∧ ((¬ (((fn_X8_setWall s1 s0 h).2).1 20 0) = a5) → (True)))
def fn_L_law_169 (L : Nat) (xs : Nat → Int32) (k23 : Int32 → z_H → Int32) (a4 : Int32) (s0 : Int32) (s1 : Int32) (h : z_H) : Int32 := if (xs (a4 + (nI 2)).toNatClampNeg) = 0 then fn_L_law_196 L xs k23 a4 (z_vi (fn_L_setWall s1 s0 h)) (nI 0) (xs (a4 + (nI 1)).toNatClampNeg) ((fn_L_setWall s1 s0 h).2) else fn_L_law_196 L xs k23 a4 (z_vi (fn_L_setWall s1 s0 h)) (nI 1) (xs (a4 + (nI 1)).toNatClampNeg) ((fn_L_setWall s1 s0 h).2)
def tk_L_law_169 (L : Nat) (xs : Nat → Int32) (K23 : Int32 → z_H → Prop) (a4 : Int32) (s0 : Int32) (s1 : Int32) (h : z_H) : Prop := tk_L_setWall s1 s0 h ∧ (vp_in (a4 + (nI 1)) L ∧ (vp_in (a4 + (nI 2)) L ∧ ((((xs (a4 + (nI 2)).toNatClampNeg) = 0) → (tk_L_law_196 L xs K23 a4 (z_vi (fn_L_setWall s1 s0 h)) (nI 0) (xs (a4 + (nI 1)).toNatClampNeg) ((fn_L_setWall s1 s0 h).2))) ∧ ((¬ (xs (a4 + (nI 2)).toNatClampNeg) = 0) → (tk_L_law_196 L xs K23 a4 (z_vi (fn_L_setWall s1 s0 h)) (nI 1) (xs (a4 + (nI 1)).toNatClampNeg) ((fn_L_setWall s1 s0 h).2))))))
def fn_L_law_23 (L : Nat) (xs : Nat → Int32) : Nat → Int32 → z_H → Int32
  | 0, _, _ => 0
  | n + 1, a4, h => let k23 := fun (a4_ : Int32) (h_ : z_H) => fn_L_law_23 L xs n a4_ h_; if ((nI L) - (nI 3)) < a4 then nI 1 else if ((xs a4.toNatClampNeg) &&& (nI 31)) = nI 0 then if (xs (a4 + (nI 2)).toNatClampNeg) = 0 then fn_L_law_169 L xs k23 a4 (nI 0) (xs (a4 + (nI 1)).toNatClampNeg) h else fn_L_law_169 L xs k23 a4 (nI 1) (xs (a4 + (nI 1)).toNatClampNeg) h else if ((xs a4.toNatClampNeg) &&& (nI 31)) = nI 1 then if (((fn_X8_setLink (xs (a4 + (nI 1)).toNatClampNeg) (xs (a4 + (nI 2)).toNatClampNeg) ((fn_L_setLink (xs (a4 + (nI 1)).toNatClampNeg) (xs (a4 + (nI 2)).toNatClampNeg) h).2)).2).1 20 0) = (z_vi (fn_L_setLink (xs (a4 + (nI 1)).toNatClampNeg) (xs (a4 + (nI 2)).toNatClampNeg) h)) then if (z_vi (fn_L_setLink (xs (a4 + (nI 1)).toNatClampNeg) (xs (a4 + (nI 2)).toNatClampNeg) h)) = 0 then if (lg_cmp (((fn_X8_setLink (xs (a4 + (nI 1)).toNatClampNeg) (xs (a4 + (nI 2)).toNatClampNeg) ((fn_L_setLink (xs (a4 + (nI 1)).toNatClampNeg) (xs (a4 + (nI 2)).toNatClampNeg) h).2)).2).2 35 ((nI 0).toNatClampNeg)) ((z_vi (fn_X8_setLink (xs (a4 + (nI 1)).toNatClampNeg) (xs (a4 + (nI 2)).toNatClampNeg) ((fn_L_setLink (xs (a4 + (nI 1)).toNatClampNeg) (xs (a4 + (nI 2)).toNatClampNeg) h).2))).toInt64)) = 0 then fn_L_law_304 L xs k23 a4 ((fn_X8_setLink (xs (a4 + (nI 1)).toNatClampNeg) (xs (a4 + (nI 2)).toNatClampNeg) ((fn_L_setLink (xs (a4 + (nI 1)).toNatClampNeg) (xs (a4 + (nI 2)).toNatClampNeg) h).2)).2) else nI 0 else fn_L_law_304 L xs k23 a4 ((fn_X8_setLink (xs (a4 + (nI 1)).toNatClampNeg) (xs (a4 + (nI 2)).toNatClampNeg) ((fn_L_setLink (xs (a4 + (nI 1)).toNatClampNeg) (xs (a4 + (nI 2)).toNatClampNeg) h).2)).2) else nI 0 else if ((xs a4.toNatClampNeg) &&& (nI 31)) = nI 2 then if (((fn_X8_isWall (xs (a4 + (nI 1)).toNatClampNeg) ((fn_L_isWall (xs (a4 + (nI 1)).toNatClampNeg) h).2)).2).1 20 0) = (z_vi (fn_L_isWall (xs (a4 + (nI 1)).toNatClampNeg) h)) then if (z_vi (fn_L_isWall (xs (a4 + (nI 1)).toNatClampNeg) h)) = 0 then if (z_vi (fn_X8_isWall (xs (a4 + (nI 1)).toNatClampNeg) ((fn_L_isWall (xs (a4 + (nI 1)).toNatClampNeg) h).2))) = 0 then fn_L_law_361 L xs k23 a4 0 (((fn_X8_isWall (xs (a4 + (nI 1)).toNatClampNeg) ((fn_L_isWall (xs (a4 + (nI 1)).toNatClampNeg) h).2)).2).2 35 ((nI 0).toNatClampNeg)) ((fn_X8_isWall (xs (a4 + (nI 1)).toNatClampNeg) ((fn_L_isWall (xs (a4 + (nI 1)).toNatClampNeg) h).2)).2) else fn_L_law_361 L xs k23 a4 1 (((fn_X8_isWall (xs (a4 + (nI 1)).toNatClampNeg) ((fn_L_isWall (xs (a4 + (nI 1)).toNatClampNeg) h).2)).2).2 35 ((nI 0).toNatClampNeg)) ((fn_X8_isWall (xs (a4 + (nI 1)).toNatClampNeg) ((fn_L_isWall (xs (a4 + (nI 1)).toNatClampNeg) h).2)).2) else fn_L_law_367 L xs k23 a4 ((fn_X8_isWall (xs (a4 + (nI 1)).toNatClampNeg) ((fn_L_isWall (xs (a4 + (nI 1)).toNatClampNeg) h).2)).2) else nI 0 else if ((xs a4.toNatClampNeg) &&& (nI 31)) = nI 3 then if (((fn_X8_isInTree (xs (a4 + (nI 1)).toNatClampNeg) ((fn_L_isInTree (xs (a4 + (nI 1)).toNatClampNeg) h).2)).2).1 20 0) = (z_vi (fn_L_isInTree (xs (a4 + (nI 1)).toNatClampNeg) h)) then if (z_vi (fn_L_isInTree (xs (a4 + (nI 1)).toNatClampNeg) h)) = 0 then if (z_vi (fn_X8_isInTree (xs (a4 + (nI 1)).toNatClampNeg) ((fn_L_isInTree (xs (a4 + (nI 1)).toNatClampNeg) h).2))) = 0 then fn_L_law_424 L xs k23 a4 0 (((fn_X8_isInTree (xs (a4 + (nI 1)).toNatClampNeg) ((fn_L_isInTree (xs (a4 + (nI 1)).toNatClampNeg) h).2)).2).2 35 ((nI 0).toNatClampNeg)) ((fn_X8_isInTree (xs (a4 + (nI 1)).toNatClampNeg) ((fn_L_isInTree (xs (a4 + (nI 1)).toNatClampNeg) h).2)).2) else fn_L_law_424 L xs k23 a4 1 (((fn_X8_isInTree (xs (a4 + (nI 1)).toNatClampNeg) ((fn_L_isInTree (xs (a4 + (nI 1)).toNatClampNeg) h).2)).2).2 35 ((nI 0).toNatClampNeg)) ((fn_X8_isInTree (xs (a4 + (nI 1)).toNatClampNeg) ((fn_L_isInTree (xs (a4 + (nI 1)).toNatClampNeg) h).2)).2) else fn_L_law_430 L xs k23 a4 ((fn_X8_isInTree (xs (a4 + (nI 1)).toNatClampNeg) ((fn_L_isInTree (xs (a4 + (nI 1)).toNatClampNeg) h).2)).2) else nI 0 else if ((xs a4.toNatClampNeg) &&& (nI 31)) = nI 4 then if (z_vi0 (fn_X7_hasCycle  h)) = (fv_X8_hasCycle h ) then fn_L_law_1215 L xs k23 a4 (fh_X8_hasCycle h ) else nI 0 else if ((xs a4.toNatClampNeg) &&& (nI 31)) = nI 5 then if (((fn_X8_placeOf (xs (a4 + (nI 1)).toNatClampNeg) ((fn_L_placeOf (xs (a4 + (nI 1)).toNatClampNeg) h).2)).2).1 20 0) = (z_vi (fn_L_placeOf (xs (a4 + (nI 1)).toNatClampNeg) h)) then if (z_vi (fn_L_placeOf (xs (a4 + (nI 1)).toNatClampNeg) h)) = 0 then if (lg_cmp (((fn_X8_placeOf (xs (a4 + (nI 1)).toNatClampNeg) ((fn_L_placeOf (xs (a4 + (nI 1)).toNatClampNeg) h).2)).2).2 35 ((nI 0).toNatClampNeg)) ((z_vi (fn_X8_placeOf (xs (a4 + (nI 1)).toNatClampNeg) ((fn_L_placeOf (xs (a4 + (nI 1)).toNatClampNeg) h).2))).toInt64)) = 0 then fn_L_law_499 L xs k23 a4 ((fn_X8_placeOf (xs (a4 + (nI 1)).toNatClampNeg) ((fn_L_placeOf (xs (a4 + (nI 1)).toNatClampNeg) h).2)).2) else nI 0 else fn_L_law_499 L xs k23 a4 ((fn_X8_placeOf (xs (a4 + (nI 1)).toNatClampNeg) ((fn_L_placeOf (xs (a4 + (nI 1)).toNatClampNeg) h).2)).2) else nI 0 else if ((xs a4.toNatClampNeg) &&& (nI 31)) = nI 6 then if (((fn_X8_cellAt (xs (a4 + (nI 1)).toNatClampNeg) ((fn_L_cellAt (xs (a4 + (nI 1)).toNatClampNeg) h).2)).2).1 20 0) = (z_vi (fn_L_cellAt (xs (a4 + (nI 1)).toNatClampNeg) h)) then if (z_vi (fn_L_cellAt (xs (a4 + (nI 1)).toNatClampNeg) h)) = 0 then if (lg_cmp (((fn_X8_cellAt (xs (a4 + (nI 1)).toNatClampNeg) ((fn_L_cellAt (xs (a4 + (nI 1)).toNatClampNeg) h).2)).2).2 35 ((nI 0).toNatClampNeg)) ((z_vi (fn_X8_cellAt (xs (a4 + (nI 1)).toNatClampNeg) ((fn_L_cellAt (xs (a4 + (nI 1)).toNatClampNeg) h).2))).toInt64)) = 0 then fn_L_law_555 L xs k23 a4 ((fn_X8_cellAt (xs (a4 + (nI 1)).toNatClampNeg) ((fn_L_cellAt (xs (a4 + (nI 1)).toNatClampNeg) h).2)).2) else nI 0 else fn_L_law_555 L xs k23 a4 ((fn_X8_cellAt (xs (a4 + (nI 1)).toNatClampNeg) ((fn_L_cellAt (xs (a4 + (nI 1)).toNatClampNeg) h).2)).2) else nI 0 else if ((xs a4.toNatClampNeg) &&& (nI 31)) = nI 7 then if (((fn_X8_cellAtByRings (xs (a4 + (nI 1)).toNatClampNeg) ((fn_L_cellAtByRings (xs (a4 + (nI 1)).toNatClampNeg) h).2)).2).1 20 0) = (z_vi (fn_L_cellAtByRings (xs (a4 + (nI 1)).toNatClampNeg) h)) then if (z_vi (fn_L_cellAtByRings (xs (a4 + (nI 1)).toNatClampNeg) h)) = 0 then if (lg_cmp (((fn_X8_cellAtByRings (xs (a4 + (nI 1)).toNatClampNeg) ((fn_L_cellAtByRings (xs (a4 + (nI 1)).toNatClampNeg) h).2)).2).2 35 ((nI 0).toNatClampNeg)) ((z_vi (fn_X8_cellAtByRings (xs (a4 + (nI 1)).toNatClampNeg) ((fn_L_cellAtByRings (xs (a4 + (nI 1)).toNatClampNeg) h).2))).toInt64)) = 0 then fn_L_law_611 L xs k23 a4 ((fn_X8_cellAtByRings (xs (a4 + (nI 1)).toNatClampNeg) ((fn_L_cellAtByRings (xs (a4 + (nI 1)).toNatClampNeg) h).2)).2) else nI 0 else fn_L_law_611 L xs k23 a4 ((fn_X8_cellAtByRings (xs (a4 + (nI 1)).toNatClampNeg) ((fn_L_cellAtByRings (xs (a4 + (nI 1)).toNatClampNeg) h).2)).2) else nI 0 else if ((xs a4.toNatClampNeg) &&& (nI 31)) = nI 8 then if (((fn_X8_begin (xs (a4 + (nI 1)).toNatClampNeg) (xs (a4 + (nI 2)).toNatClampNeg) ((fn_L_begin (xs (a4 + (nI 1)).toNatClampNeg) (xs (a4 + (nI 2)).toNatClampNeg) h).2)).2).1 20 0) = (z_vi (fn_L_begin (xs (a4 + (nI 1)).toNatClampNeg) (xs (a4 + (nI 2)).toNatClampNeg) h)) then fn_L_law_1215 L xs k23 a4 ((fn_X8_begin (xs (a4 + (nI 1)).toNatClampNeg) (xs (a4 + (nI 2)).toNatClampNeg) ((fn_L_begin (xs (a4 + (nI 1)).toNatClampNeg) (xs (a4 + (nI 2)).toNatClampNeg) h).2)).2) else nI 0 else if ((xs a4.toNatClampNeg) &&& (nI 31)) = nI 9 then if (((fn_X8_end  ((fn_L_end  h).2)).2).1 20 0) = (z_vi (fn_L_end  h)) then if (z_vi (fn_L_end  h)) = 0 then if (lg_cmp (((fn_X8_end  ((fn_L_end  h).2)).2).2 35 ((nI 0).toNatClampNeg)) ((z_vi (fn_X8_end  ((fn_L_end  h).2))).toInt64)) = 0 then fn_L_law_703 L xs k23 a4 ((fn_X8_end  ((fn_L_end  h).2)).2) else nI 0 else fn_L_law_703 L xs k23 a4 ((fn_X8_end  ((fn_L_end  h).2)).2) else nI 0 else if ((xs a4.toNatClampNeg) &&& (nI 31)) = nI 10 then if (((fn_X8_feed (xs (a4 + (nI 1)).toNatClampNeg) ((fn_L_feed (xs (a4 + (nI 1)).toNatClampNeg) h).2)).2).1 20 0) = (z_vi (fn_L_feed (xs (a4 + (nI 1)).toNatClampNeg) h)) then if (z_vi (fn_L_feed (xs (a4 + (nI 1)).toNatClampNeg) h)) = 0 then if (lg_cmp (((fn_X8_feed (xs (a4 + (nI 1)).toNatClampNeg) ((fn_L_feed (xs (a4 + (nI 1)).toNatClampNeg) h).2)).2).2 35 ((nI 0).toNatClampNeg)) ((z_vi (fn_X8_feed (xs (a4 + (nI 1)).toNatClampNeg) ((fn_L_feed (xs (a4 + (nI 1)).toNatClampNeg) h).2))).toInt64)) = 0 then fn_L_law_759 L xs k23 a4 ((fn_X8_feed (xs (a4 + (nI 1)).toNatClampNeg) ((fn_L_feed (xs (a4 + (nI 1)).toNatClampNeg) h).2)).2) else nI 0 else fn_L_law_759 L xs k23 a4 ((fn_X8_feed (xs (a4 + (nI 1)).toNatClampNeg) ((fn_L_feed (xs (a4 + (nI 1)).toNatClampNeg) h).2)).2) else nI 0 else if ((xs a4.toNatClampNeg) &&& (nI 31)) = nI 11 then if (((fn_X8_step (xs (a4 + (nI 1)).toNatClampNeg) ((fn_L_step (xs (a4 + (nI 1)).toNatClampNeg) h).2)).2).1 20 0) = (z_vi (fn_L_step (xs (a4 + (nI 1)).toNatClampNeg) h)) then if (z_vi (fn_L_step (xs (a4 + (nI 1)).toNatClampNeg) h)) = 0 then if (lg_cmp (((fn_X8_step (xs (a4 + (nI 1)).toNatClampNeg) ((fn_L_step (xs (a4 + (nI 1)).toNatClampNeg) h).2)).2).2 35 ((nI 0).toNatClampNeg)) ((z_vi (fn_X8_step (xs (a4 + (nI 1)).toNatClampNeg) ((fn_L_step (xs (a4 + (nI 1)).toNatClampNeg) h).2))).toInt64)) = 0 then fn_L_law_815 L xs k23 a4 ((fn_X8_step (xs (a4 + (nI 1)).toNatClampNeg) ((fn_L_step (xs (a4 + (nI 1)).toNatClampNeg) h).2)).2) else nI 0 else fn_L_law_815 L xs k23 a4 ((fn_X8_step (xs (a4 + (nI 1)).toNatClampNeg) ((fn_L_step (xs (a4 + (nI 1)).toNatClampNeg) h).2)).2) else nI 0 else if ((xs a4.toNatClampNeg) &&& (nI 31)) = nI 12 then if (((fn_X8_play (xs (a4 + (nI 1)).toNatClampNeg) ((fn_L_play (xs (a4 + (nI 1)).toNatClampNeg) h).2)).2).1 20 0) = (z_vi (fn_L_play (xs (a4 + (nI 1)).toNatClampNeg) h)) then if (z_vi (fn_L_play (xs (a4 + (nI 1)).toNatClampNeg) h)) = 0 then if (lg_cmp (((fn_X8_play (xs (a4 + (nI 1)).toNatClampNeg) ((fn_L_play (xs (a4 + (nI 1)).toNatClampNeg) h).2)).2).2 35 ((nI 0).toNatClampNeg)) ((z_vi (fn_X8_play (xs (a4 + (nI 1)).toNatClampNeg) ((fn_L_play (xs (a4 + (nI 1)).toNatClampNeg) h).2))).toInt64)) = 0 then fn_L_law_871 L xs k23 a4 ((fn_X8_play (xs (a4 + (nI 1)).toNatClampNeg) ((fn_L_play (xs (a4 + (nI 1)).toNatClampNeg) h).2)).2) else nI 0 else fn_L_law_871 L xs k23 a4 ((fn_X8_play (xs (a4 + (nI 1)).toNatClampNeg) ((fn_L_play (xs (a4 + (nI 1)).toNatClampNeg) h).2)).2) else nI 0 else if ((xs a4.toNatClampNeg) &&& (nI 31)) = nI 13 then if (z_vi0 (fn_X7_isAlive  h)) = (fv_X8_lives (z_set h 20 0 (nI 0)) ) then fn_L_law_1215 L xs k23 a4 (z_set h 20 0 (nI 0)) else nI 0 else if ((xs a4.toNatClampNeg) &&& (nI 31)) = nI 14 then if (z_vi0 (fn_X7_length  h)) = (h.1 20 12) then fn_L_law_1215 L xs k23 a4 (z_set h 20 0 (nI 0)) else nI 0 else if ((xs a4.toNatClampNeg) &&& (nI 31)) = nI 15 then if (z_vi0 (fn_X7_owed  h)) = (h.1 20 13) then fn_L_law_1215 L xs k23 a4 (z_set h 20 0 (nI 0)) else nI 0 else if ((xs a4.toNatClampNeg) &&& (nI 31)) = nI 16 then if (((fn_X8_bodyAt (xs (a4 + (nI 1)).toNatClampNeg) ((fn_L_bodyAt (xs (a4 + (nI 1)).toNatClampNeg) h).2)).2).1 20 0) = (z_vi (fn_L_bodyAt (xs (a4 + (nI 1)).toNatClampNeg) h)) then if (z_vi (fn_L_bodyAt (xs (a4 + (nI 1)).toNatClampNeg) h)) = 0 then if (lg_cmp (((fn_X8_bodyAt (xs (a4 + (nI 1)).toNatClampNeg) ((fn_L_bodyAt (xs (a4 + (nI 1)).toNatClampNeg) h).2)).2).2 35 ((nI 0).toNatClampNeg)) ((z_vi (fn_X8_bodyAt (xs (a4 + (nI 1)).toNatClampNeg) ((fn_L_bodyAt (xs (a4 + (nI 1)).toNatClampNeg) h).2))).toInt64)) = 0 then fn_L_law_966 L xs k23 a4 ((fn_X8_bodyAt (xs (a4 + (nI 1)).toNatClampNeg) ((fn_L_bodyAt (xs (a4 + (nI 1)).toNatClampNeg) h).2)).2) else nI 0 else fn_L_law_966 L xs k23 a4 ((fn_X8_bodyAt (xs (a4 + (nI 1)).toNatClampNeg) ((fn_L_bodyAt (xs (a4 + (nI 1)).toNatClampNeg) h).2)).2) else nI 0 else if ((xs a4.toNatClampNeg) &&& (nI 31)) = nI 17 then if (z_vi0 (fn_X7_feeds  h)) = (h.1 20 8) then fn_L_law_1215 L xs k23 a4 (z_set h 20 0 (nI 0)) else nI 0 else if ((xs a4.toNatClampNeg) &&& (nI 31)) = nI 18 then if (z_vi0 (fn_X7_isInOrder  h)) = (z_vi (fn_X8_isInOrder  h)) then fn_L_law_1215 L xs k23 a4 ((fn_X8_isInOrder  h).2) else nI 0 else if ((xs a4.toNatClampNeg) &&& (nI 31)) = nI 19 then if (((fn_X8_isSafe (xs (a4 + (nI 1)).toNatClampNeg) ((fn_L_isSafe (xs (a4 + (nI 1)).toNatClampNeg) h).2)).2).1 20 0) = (z_vi (fn_L_isSafe (xs (a4 + (nI 1)).toNatClampNeg) h)) then if (z_vi (fn_L_isSafe (xs (a4 + (nI 1)).toNatClampNeg) h)) = 0 then if (z_vi (fn_X8_isSafe (xs (a4 + (nI 1)).toNatClampNeg) ((fn_L_isSafe (xs (a4 + (nI 1)).toNatClampNeg) h).2))) = 0 then fn_L_law_1049 L xs k23 a4 0 (((fn_X8_isSafe (xs (a4 + (nI 1)).toNatClampNeg) ((fn_L_isSafe (xs (a4 + (nI 1)).toNatClampNeg) h).2)).2).2 35 ((nI 0).toNatClampNeg)) ((fn_X8_isSafe (xs (a4 + (nI 1)).toNatClampNeg) ((fn_L_isSafe (xs (a4 + (nI 1)).toNatClampNeg) h).2)).2) else fn_L_law_1049 L xs k23 a4 1 (((fn_X8_isSafe (xs (a4 + (nI 1)).toNatClampNeg) ((fn_L_isSafe (xs (a4 + (nI 1)).toNatClampNeg) h).2)).2).2 35 ((nI 0).toNatClampNeg)) ((fn_X8_isSafe (xs (a4 + (nI 1)).toNatClampNeg) ((fn_L_isSafe (xs (a4 + (nI 1)).toNatClampNeg) h).2)).2) else fn_L_law_1055 L xs k23 a4 ((fn_X8_isSafe (xs (a4 + (nI 1)).toNatClampNeg) ((fn_L_isSafe (xs (a4 + (nI 1)).toNatClampNeg) h).2)).2) else nI 0 else if ((xs a4.toNatClampNeg) &&& (nI 31)) = nI 20 then if (z_vi (fn_X7_reach  h)) = (z_vi (fn_X8_reach  ((fn_X7_reach  h).2))) then fn_L_law_1215 L xs k23 a4 ((fn_X8_reach  ((fn_X7_reach  h).2)).2) else nI 0 else if ((xs a4.toNatClampNeg) &&& (nI 31)) = nI 21 then if (((fn_X8_livesFor (xs (a4 + (nI 1)).toNatClampNeg) ((fn_L_livesFor (xs (a4 + (nI 1)).toNatClampNeg) h).2)).2).1 20 0) = (z_vi (fn_L_livesFor (xs (a4 + (nI 1)).toNatClampNeg) h)) then if (z_vi (fn_L_livesFor (xs (a4 + (nI 1)).toNatClampNeg) h)) = 0 then if (lg_cmp (((fn_X8_livesFor (xs (a4 + (nI 1)).toNatClampNeg) ((fn_L_livesFor (xs (a4 + (nI 1)).toNatClampNeg) h).2)).2).2 35 ((nI 0).toNatClampNeg)) ((z_vi (fn_X8_livesFor (xs (a4 + (nI 1)).toNatClampNeg) ((fn_L_livesFor (xs (a4 + (nI 1)).toNatClampNeg) h).2))).toInt64)) = 0 then fn_L_law_1124 L xs k23 a4 ((fn_X8_livesFor (xs (a4 + (nI 1)).toNatClampNeg) ((fn_L_livesFor (xs (a4 + (nI 1)).toNatClampNeg) h).2)).2) else nI 0 else fn_L_law_1124 L xs k23 a4 ((fn_X8_livesFor (xs (a4 + (nI 1)).toNatClampNeg) ((fn_L_livesFor (xs (a4 + (nI 1)).toNatClampNeg) h).2)).2) else nI 0 else if ((xs a4.toNatClampNeg) &&& (nI 31)) = nI 22 then if (((fn_X8_fewest  ((fn_L_fewest  h).2)).2).1 20 0) = (z_vi (fn_L_fewest  h)) then if (z_vi (fn_L_fewest  h)) = 0 then if (lg_cmp (((fn_X8_fewest  ((fn_L_fewest  h).2)).2).2 35 ((nI 0).toNatClampNeg)) ((z_vi (fn_X8_fewest  ((fn_L_fewest  h).2))).toInt64)) = 0 then fn_L_law_1168 L xs k23 a4 ((fn_X8_fewest  ((fn_L_fewest  h).2)).2) else nI 0 else fn_L_law_1168 L xs k23 a4 ((fn_X8_fewest  ((fn_L_fewest  h).2)).2) else nI 0 else if ((xs a4.toNatClampNeg) &&& (nI 31)) = nI 23 then if (((fn_X8_fewestByBodies  ((fn_L_fewestByBodies  h).2)).2).1 20 0) = (z_vi (fn_L_fewestByBodies  h)) then if (z_vi (fn_L_fewestByBodies  h)) = 0 then if (lg_cmp (((fn_X8_fewestByBodies  ((fn_L_fewestByBodies  h).2)).2).2 35 ((nI 0).toNatClampNeg)) ((z_vi (fn_X8_fewestByBodies  ((fn_L_fewestByBodies  h).2))).toInt64)) = 0 then fn_L_law_1212 L xs k23 a4 ((fn_X8_fewestByBodies  ((fn_L_fewestByBodies  h).2)).2) else nI 0 else fn_L_law_1212 L xs k23 a4 ((fn_X8_fewestByBodies  ((fn_L_fewestByBodies  h).2)).2) else nI 0 else fn_L_law_1215 L xs k23 a4 h
def tk_L_law_23 (L : Nat) (xs : Nat → Int32) : Nat → Int32 → z_H → Prop
  | 0, _, _ => False
  | n + 1, a4, h => let K23 := fun (a4_ : Int32) (h_ : z_H) => tk_L_law_23 L xs n a4_ h_; ((((nI L) - (nI 3)) < a4) → (True)) ∧ ((¬ ((nI L) - (nI 3)) < a4) → (vp_in a4 L ∧ (((((xs a4.toNatClampNeg) &&& (nI 31)) = nI 0) → (vp_in (a4 + (nI 1)) L ∧ (vp_in (a4 + (nI 2)) L ∧ ((((xs (a4 + (nI 2)).toNatClampNeg) = 0) → (tk_L_law_169 L xs K23 a4 (nI 0) (xs (a4 + (nI 1)).toNatClampNeg) h)) ∧ ((¬ (xs (a4 + (nI 2)).toNatClampNeg) = 0) → (tk_L_law_169 L xs K23 a4 (nI 1) (xs (a4 + (nI 1)).toNatClampNeg) h)))))) ∧ ((¬ ((xs a4.toNatClampNeg) &&& (nI 31)) = nI 0) → (((((xs a4.toNatClampNeg) &&& (nI 31)) = nI 1) → (vp_in (a4 + (nI 1)) L ∧ (vp_in (a4 + (nI 2)) L ∧ (tk_L_setLink (xs (a4 + (nI 1)).toNatClampNeg) (xs (a4 + (nI 2)).toNatClampNeg) h ∧ (vp_in (a4 + (nI 1)) L ∧ (vp_in (a4 + (nI 2)) L ∧ (tk_X8_setLink (xs (a4 + (nI 1)).toNatClampNeg) (xs (a4 + (nI 2)).toNatClampNeg) ((fn_L_setLink (xs (a4 + (nI 1)).toNatClampNeg) (xs (a4 + (nI 2)).toNatClampNeg) h).2) ∧ ((((((fn_X8_setLink (xs (a4 + (nI 1)).toNatClampNeg) (xs (a4 + (nI 2)).toNatClampNeg) ((fn_L_setLink (xs (a4 + (nI 1)).toNatClampNeg) (xs (a4 + (nI 2)).toNatClampNeg) h).2)).2).1 20 0) = (z_vi (fn_L_setLink (xs (a4 + (nI 1)).toNatClampNeg) (xs (a4 + (nI 2)).toNatClampNeg) h))) → ((((z_vi (fn_L_setLink (xs (a4 + (nI 1)).toNatClampNeg) (xs (a4 + (nI 2)).toNatClampNeg) h)) = 0) → ((((lg_cmp (((fn_X8_setLink (xs (a4 + (nI 1)).toNatClampNeg) (xs (a4 + (nI 2)).toNatClampNeg) ((fn_L_setLink (xs (a4 + (nI 1)).toNatClampNeg) (xs (a4 + (nI 2)).toNatClampNeg) h).2)).2).2 35 ((nI 0).toNatClampNeg)) ((z_vi (fn_X8_setLink (xs (a4 + (nI 1)).toNatClampNeg) (xs (a4 + (nI 2)).toNatClampNeg) ((fn_L_setLink (xs (a4 + (nI 1)).toNatClampNeg) (xs (a4 + (nI 2)).toNatClampNeg) h).2))).toInt64)) = 0) → (tk_L_law_304 L xs K23 a4 ((fn_X8_setLink (xs (a4 + (nI 1)).toNatClampNeg) (xs (a4 + (nI 2)).toNatClampNeg) ((fn_L_setLink (xs (a4 + (nI 1)).toNatClampNeg) (xs (a4 + (nI 2)).toNatClampNeg) h).2)).2))) ∧ ((¬ (lg_cmp (((fn_X8_setLink (xs (a4 + (nI 1)).toNatClampNeg) (xs (a4 + (nI 2)).toNatClampNeg) ((fn_L_setLink (xs (a4 + (nI 1)).toNatClampNeg) (xs (a4 + (nI 2)).toNatClampNeg) h).2)).2).2 35 ((nI 0).toNatClampNeg)) ((z_vi (fn_X8_setLink (xs (a4 + (nI 1)).toNatClampNeg) (xs (a4 + (nI 2)).toNatClampNeg) ((fn_L_setLink (xs (a4 + (nI 1)).toNatClampNeg) (xs (a4 + (nI 2)).toNatClampNeg) h).2))).toInt64)) = 0) → (True)))) ∧ ((¬ (z_vi (fn_L_setLink (xs (a4 + (nI 1)).toNatClampNeg) (xs (a4 + (nI 2)).toNatClampNeg) h)) = 0) → (tk_L_law_304 L xs K23 a4 ((fn_X8_setLink (xs (a4 + (nI 1)).toNatClampNeg) (xs (a4 + (nI 2)).toNatClampNeg) ((fn_L_setLink (xs (a4 + (nI 1)).toNatClampNeg) (xs (a4 + (nI 2)).toNatClampNeg) h).2)).2))))) ∧ ((¬ (((fn_X8_setLink (xs (a4 + (nI 1)).toNatClampNeg) (xs (a4 + (nI 2)).toNatClampNeg) ((fn_L_setLink (xs (a4 + (nI 1)).toNatClampNeg) (xs (a4 + (nI 2)).toNatClampNeg) h).2)).2).1 20 0) = (z_vi (fn_L_setLink (xs (a4 + (nI 1)).toNatClampNeg) (xs (a4 + (nI 2)).toNatClampNeg) h))) → (True)))))))))) ∧ ((¬ ((xs a4.toNatClampNeg) &&& (nI 31)) = nI 1) → (((((xs a4.toNatClampNeg) &&& (nI 31)) = nI 2) → (vp_in (a4 + (nI 1)) L ∧ (vp_in (a4 + (nI 1)) L ∧ (tk_X8_isWall (xs (a4 + (nI 1)).toNatClampNeg) ((fn_L_isWall (xs (a4 + (nI 1)).toNatClampNeg) h).2) ∧ ((((((fn_X8_isWall (xs (a4 + (nI 1)).toNatClampNeg) ((fn_L_isWall (xs (a4 + (nI 1)).toNatClampNeg) h).2)).2).1 20 0) = (z_vi (fn_L_isWall (xs (a4 + (nI 1)).toNatClampNeg) h))) → ((((z_vi (fn_L_isWall (xs (a4 + (nI 1)).toNatClampNeg) h)) = 0) → ((((z_vi (fn_X8_isWall (xs (a4 + (nI 1)).toNatClampNeg) ((fn_L_isWall (xs (a4 + (nI 1)).toNatClampNeg) h).2))) = 0) → (tk_L_law_361 L xs K23 a4 0 (((fn_X8_isWall (xs (a4 + (nI 1)).toNatClampNeg) ((fn_L_isWall (xs (a4 + (nI 1)).toNatClampNeg) h).2)).2).2 35 ((nI 0).toNatClampNeg)) ((fn_X8_isWall (xs (a4 + (nI 1)).toNatClampNeg) ((fn_L_isWall (xs (a4 + (nI 1)).toNatClampNeg) h).2)).2))) ∧ ((¬ (z_vi (fn_X8_isWall (xs (a4 + (nI 1)).toNatClampNeg) ((fn_L_isWall (xs (a4 + (nI 1)).toNatClampNeg) h).2))) = 0) → (tk_L_law_361 L xs K23 a4 1 (((fn_X8_isWall (xs (a4 + (nI 1)).toNatClampNeg) ((fn_L_isWall (xs (a4 + (nI 1)).toNatClampNeg) h).2)).2).2 35 ((nI 0).toNatClampNeg)) ((fn_X8_isWall (xs (a4 + (nI 1)).toNatClampNeg) ((fn_L_isWall (xs (a4 + (nI 1)).toNatClampNeg) h).2)).2))))) ∧ ((¬ (z_vi (fn_L_isWall (xs (a4 + (nI 1)).toNatClampNeg) h)) = 0) → (tk_L_law_367 L xs K23 a4 ((fn_X8_isWall (xs (a4 + (nI 1)).toNatClampNeg) ((fn_L_isWall (xs (a4 + (nI 1)).toNatClampNeg) h).2)).2))))) ∧ ((¬ (((fn_X8_isWall (xs (a4 + (nI 1)).toNatClampNeg) ((fn_L_isWall (xs (a4 + (nI 1)).toNatClampNeg) h).2)).2).1 20 0) = (z_vi (fn_L_isWall (xs (a4 + (nI 1)).toNatClampNeg) h))) → (True))))))) ∧ ((¬ ((xs a4.toNatClampNeg) &&& (nI 31)) = nI 2) → (((((xs a4.toNatClampNeg) &&& (nI 31)) = nI 3) → (vp_in (a4 + (nI 1)) L ∧ (vp_in (a4 + (nI 1)) L ∧ (tk_X8_isInTree (xs (a4 + (nI 1)).toNatClampNeg) ((fn_L_isInTree (xs (a4 + (nI 1)).toNatClampNeg) h).2) ∧ ((((((fn_X8_isInTree (xs (a4 + (nI 1)).toNatClampNeg) ((fn_L_isInTree (xs (a4 + (nI 1)).toNatClampNeg) h).2)).2).1 20 0) = (z_vi (fn_L_isInTree (xs (a4 + (nI 1)).toNatClampNeg) h))) → ((((z_vi (fn_L_isInTree (xs (a4 + (nI 1)).toNatClampNeg) h)) = 0) → ((((z_vi (fn_X8_isInTree (xs (a4 + (nI 1)).toNatClampNeg) ((fn_L_isInTree (xs (a4 + (nI 1)).toNatClampNeg) h).2))) = 0) → (tk_L_law_424 L xs K23 a4 0 (((fn_X8_isInTree (xs (a4 + (nI 1)).toNatClampNeg) ((fn_L_isInTree (xs (a4 + (nI 1)).toNatClampNeg) h).2)).2).2 35 ((nI 0).toNatClampNeg)) ((fn_X8_isInTree (xs (a4 + (nI 1)).toNatClampNeg) ((fn_L_isInTree (xs (a4 + (nI 1)).toNatClampNeg) h).2)).2))) ∧ ((¬ (z_vi (fn_X8_isInTree (xs (a4 + (nI 1)).toNatClampNeg) ((fn_L_isInTree (xs (a4 + (nI 1)).toNatClampNeg) h).2))) = 0) → (tk_L_law_424 L xs K23 a4 1 (((fn_X8_isInTree (xs (a4 + (nI 1)).toNatClampNeg) ((fn_L_isInTree (xs (a4 + (nI 1)).toNatClampNeg) h).2)).2).2 35 ((nI 0).toNatClampNeg)) ((fn_X8_isInTree (xs (a4 + (nI 1)).toNatClampNeg) ((fn_L_isInTree (xs (a4 + (nI 1)).toNatClampNeg) h).2)).2))))) ∧ ((¬ (z_vi (fn_L_isInTree (xs (a4 + (nI 1)).toNatClampNeg) h)) = 0) → (tk_L_law_430 L xs K23 a4 ((fn_X8_isInTree (xs (a4 + (nI 1)).toNatClampNeg) ((fn_L_isInTree (xs (a4 + (nI 1)).toNatClampNeg) h).2)).2))))) ∧ ((¬ (((fn_X8_isInTree (xs (a4 + (nI 1)).toNatClampNeg) ((fn_L_isInTree (xs (a4 + (nI 1)).toNatClampNeg) h).2)).2).1 20 0) = (z_vi (fn_L_isInTree (xs (a4 + (nI 1)).toNatClampNeg) h))) → (True))))))) ∧ ((¬ ((xs a4.toNatClampNeg) &&& (nI 31)) = nI 3) → (((((xs a4.toNatClampNeg) &&& (nI 31)) = nI 4) → ((((z_vi0 (fn_X7_hasCycle  h)) = (fv_X8_hasCycle h )) → (tk_L_law_1215 L xs K23 a4 (fh_X8_hasCycle h ))) ∧ ((¬ (z_vi0 (fn_X7_hasCycle  h)) = (fv_X8_hasCycle h )) → (True)))) ∧ ((¬ ((xs a4.toNatClampNeg) &&& (nI 31)) = nI 4) → (((((xs a4.toNatClampNeg) &&& (nI 31)) = nI 5) → (vp_in (a4 + (nI 1)) L ∧ (vp_in (a4 + (nI 1)) L ∧ (tk_X8_placeOf (xs (a4 + (nI 1)).toNatClampNeg) ((fn_L_placeOf (xs (a4 + (nI 1)).toNatClampNeg) h).2) ∧ ((((((fn_X8_placeOf (xs (a4 + (nI 1)).toNatClampNeg) ((fn_L_placeOf (xs (a4 + (nI 1)).toNatClampNeg) h).2)).2).1 20 0) = (z_vi (fn_L_placeOf (xs (a4 + (nI 1)).toNatClampNeg) h))) → ((((z_vi (fn_L_placeOf (xs (a4 + (nI 1)).toNatClampNeg) h)) = 0) → ((((lg_cmp (((fn_X8_placeOf (xs (a4 + (nI 1)).toNatClampNeg) ((fn_L_placeOf (xs (a4 + (nI 1)).toNatClampNeg) h).2)).2).2 35 ((nI 0).toNatClampNeg)) ((z_vi (fn_X8_placeOf (xs (a4 + (nI 1)).toNatClampNeg) ((fn_L_placeOf (xs (a4 + (nI 1)).toNatClampNeg) h).2))).toInt64)) = 0) → (tk_L_law_499 L xs K23 a4 ((fn_X8_placeOf (xs (a4 + (nI 1)).toNatClampNeg) ((fn_L_placeOf (xs (a4 + (nI 1)).toNatClampNeg) h).2)).2))) ∧ ((¬ (lg_cmp (((fn_X8_placeOf (xs (a4 + (nI 1)).toNatClampNeg) ((fn_L_placeOf (xs (a4 + (nI 1)).toNatClampNeg) h).2)).2).2 35 ((nI 0).toNatClampNeg)) ((z_vi (fn_X8_placeOf (xs (a4 + (nI 1)).toNatClampNeg) ((fn_L_placeOf (xs (a4 + (nI 1)).toNatClampNeg) h).2))).toInt64)) = 0) → (True)))) ∧ ((¬ (z_vi (fn_L_placeOf (xs (a4 + (nI 1)).toNatClampNeg) h)) = 0) → (tk_L_law_499 L xs K23 a4 ((fn_X8_placeOf (xs (a4 + (nI 1)).toNatClampNeg) ((fn_L_placeOf (xs (a4 + (nI 1)).toNatClampNeg) h).2)).2))))) ∧ ((¬ (((fn_X8_placeOf (xs (a4 + (nI 1)).toNatClampNeg) ((fn_L_placeOf (xs (a4 + (nI 1)).toNatClampNeg) h).2)).2).1 20 0) = (z_vi (fn_L_placeOf (xs (a4 + (nI 1)).toNatClampNeg) h))) → (True))))))) ∧ ((¬ ((xs a4.toNatClampNeg) &&& (nI 31)) = nI 5) → (((((xs a4.toNatClampNeg) &&& (nI 31)) = nI 6) → (vp_in (a4 + (nI 1)) L ∧ (vp_in (a4 + (nI 1)) L ∧ (tk_X8_cellAt (xs (a4 + (nI 1)).toNatClampNeg) ((fn_L_cellAt (xs (a4 + (nI 1)).toNatClampNeg) h).2) ∧ ((((((fn_X8_cellAt (xs (a4 + (nI 1)).toNatClampNeg) ((fn_L_cellAt (xs (a4 + (nI 1)).toNatClampNeg) h).2)).2).1 20 0) = (z_vi (fn_L_cellAt (xs (a4 + (nI 1)).toNatClampNeg) h))) → ((((z_vi (fn_L_cellAt (xs (a4 + (nI 1)).toNatClampNeg) h)) = 0) → ((((lg_cmp (((fn_X8_cellAt (xs (a4 + (nI 1)).toNatClampNeg) ((fn_L_cellAt (xs (a4 + (nI 1)).toNatClampNeg) h).2)).2).2 35 ((nI 0).toNatClampNeg)) ((z_vi (fn_X8_cellAt (xs (a4 + (nI 1)).toNatClampNeg) ((fn_L_cellAt (xs (a4 + (nI 1)).toNatClampNeg) h).2))).toInt64)) = 0) → (tk_L_law_555 L xs K23 a4 ((fn_X8_cellAt (xs (a4 + (nI 1)).toNatClampNeg) ((fn_L_cellAt (xs (a4 + (nI 1)).toNatClampNeg) h).2)).2))) ∧ ((¬ (lg_cmp (((fn_X8_cellAt (xs (a4 + (nI 1)).toNatClampNeg) ((fn_L_cellAt (xs (a4 + (nI 1)).toNatClampNeg) h).2)).2).2 35 ((nI 0).toNatClampNeg)) ((z_vi (fn_X8_cellAt (xs (a4 + (nI 1)).toNatClampNeg) ((fn_L_cellAt (xs (a4 + (nI 1)).toNatClampNeg) h).2))).toInt64)) = 0) → (True)))) ∧ ((¬ (z_vi (fn_L_cellAt (xs (a4 + (nI 1)).toNatClampNeg) h)) = 0) → (tk_L_law_555 L xs K23 a4 ((fn_X8_cellAt (xs (a4 + (nI 1)).toNatClampNeg) ((fn_L_cellAt (xs (a4 + (nI 1)).toNatClampNeg) h).2)).2))))) ∧ ((¬ (((fn_X8_cellAt (xs (a4 + (nI 1)).toNatClampNeg) ((fn_L_cellAt (xs (a4 + (nI 1)).toNatClampNeg) h).2)).2).1 20 0) = (z_vi (fn_L_cellAt (xs (a4 + (nI 1)).toNatClampNeg) h))) → (True))))))) ∧ ((¬ ((xs a4.toNatClampNeg) &&& (nI 31)) = nI 6) → (((((xs a4.toNatClampNeg) &&& (nI 31)) = nI 7) → (vp_in (a4 + (nI 1)) L ∧ (tk_L_cellAtByRings (xs (a4 + (nI 1)).toNatClampNeg) h ∧ (vp_in (a4 + (nI 1)) L ∧ (tk_X8_cellAtByRings (xs (a4 + (nI 1)).toNatClampNeg) ((fn_L_cellAtByRings (xs (a4 + (nI 1)).toNatClampNeg) h).2) ∧ ((((((fn_X8_cellAtByRings (xs (a4 + (nI 1)).toNatClampNeg) ((fn_L_cellAtByRings (xs (a4 + (nI 1)).toNatClampNeg) h).2)).2).1 20 0) = (z_vi (fn_L_cellAtByRings (xs (a4 + (nI 1)).toNatClampNeg) h))) → ((((z_vi (fn_L_cellAtByRings (xs (a4 + (nI 1)).toNatClampNeg) h)) = 0) → ((((lg_cmp (((fn_X8_cellAtByRings (xs (a4 + (nI 1)).toNatClampNeg) ((fn_L_cellAtByRings (xs (a4 + (nI 1)).toNatClampNeg) h).2)).2).2 35 ((nI 0).toNatClampNeg)) ((z_vi (fn_X8_cellAtByRings (xs (a4 + (nI 1)).toNatClampNeg) ((fn_L_cellAtByRings (xs (a4 + (nI 1)).toNatClampNeg) h).2))).toInt64)) = 0) → (tk_L_law_611 L xs K23 a4 ((fn_X8_cellAtByRings (xs (a4 + (nI 1)).toNatClampNeg) ((fn_L_cellAtByRings (xs (a4 + (nI 1)).toNatClampNeg) h).2)).2))) ∧ ((¬ (lg_cmp (((fn_X8_cellAtByRings (xs (a4 + (nI 1)).toNatClampNeg) ((fn_L_cellAtByRings (xs (a4 + (nI 1)).toNatClampNeg) h).2)).2).2 35 ((nI 0).toNatClampNeg)) ((z_vi (fn_X8_cellAtByRings (xs (a4 + (nI 1)).toNatClampNeg) ((fn_L_cellAtByRings (xs (a4 + (nI 1)).toNatClampNeg) h).2))).toInt64)) = 0) → (True)))) ∧ ((¬ (z_vi (fn_L_cellAtByRings (xs (a4 + (nI 1)).toNatClampNeg) h)) = 0) → (tk_L_law_611 L xs K23 a4 ((fn_X8_cellAtByRings (xs (a4 + (nI 1)).toNatClampNeg) ((fn_L_cellAtByRings (xs (a4 + (nI 1)).toNatClampNeg) h).2)).2))))) ∧ ((¬ (((fn_X8_cellAtByRings (xs (a4 + (nI 1)).toNatClampNeg) ((fn_L_cellAtByRings (xs (a4 + (nI 1)).toNatClampNeg) h).2)).2).1 20 0) = (z_vi (fn_L_cellAtByRings (xs (a4 + (nI 1)).toNatClampNeg) h))) → (True)))))))) ∧ ((¬ ((xs a4.toNatClampNeg) &&& (nI 31)) = nI 7) → (((((xs a4.toNatClampNeg) &&& (nI 31)) = nI 8) → (vp_in (a4 + (nI 1)) L ∧ (vp_in (a4 + (nI 2)) L ∧ (vp_in (a4 + (nI 1)) L ∧ (vp_in (a4 + (nI 2)) L ∧ (tk_X8_begin (xs (a4 + (nI 1)).toNatClampNeg) (xs (a4 + (nI 2)).toNatClampNeg) ((fn_L_begin (xs (a4 + (nI 1)).toNatClampNeg) (xs (a4 + (nI 2)).toNatClampNeg) h).2) ∧ ((((((fn_X8_begin (xs (a4 + (nI 1)).toNatClampNeg) (xs (a4 + (nI 2)).toNatClampNeg) ((fn_L_begin (xs (a4 + (nI 1)).toNatClampNeg) (xs (a4 + (nI 2)).toNatClampNeg) h).2)).2).1 20 0) = (z_vi (fn_L_begin (xs (a4 + (nI 1)).toNatClampNeg) (xs (a4 + (nI 2)).toNatClampNeg) h))) → (tk_L_law_1215 L xs K23 a4 ((fn_X8_begin (xs (a4 + (nI 1)).toNatClampNeg) (xs (a4 + (nI 2)).toNatClampNeg) ((fn_L_begin (xs (a4 + (nI 1)).toNatClampNeg) (xs (a4 + (nI 2)).toNatClampNeg) h).2)).2))) ∧ ((¬ (((fn_X8_begin (xs (a4 + (nI 1)).toNatClampNeg) (xs (a4 + (nI 2)).toNatClampNeg) ((fn_L_begin (xs (a4 + (nI 1)).toNatClampNeg) (xs (a4 + (nI 2)).toNatClampNeg) h).2)).2).1 20 0) = (z_vi (fn_L_begin (xs (a4 + (nI 1)).toNatClampNeg) (xs (a4 + (nI 2)).toNatClampNeg) h))) → (True))))))))) ∧ ((¬ ((xs a4.toNatClampNeg) &&& (nI 31)) = nI 8) → (((((xs a4.toNatClampNeg) &&& (nI 31)) = nI 9) → (tk_X8_end  ((fn_L_end  h).2) ∧ ((((((fn_X8_end  ((fn_L_end  h).2)).2).1 20 0) = (z_vi (fn_L_end  h))) → ((((z_vi (fn_L_end  h)) = 0) → ((((lg_cmp (((fn_X8_end  ((fn_L_end  h).2)).2).2 35 ((nI 0).toNatClampNeg)) ((z_vi (fn_X8_end  ((fn_L_end  h).2))).toInt64)) = 0) → (tk_L_law_703 L xs K23 a4 ((fn_X8_end  ((fn_L_end  h).2)).2))) ∧ ((¬ (lg_cmp (((fn_X8_end  ((fn_L_end  h).2)).2).2 35 ((nI 0).toNatClampNeg)) ((z_vi (fn_X8_end  ((fn_L_end  h).2))).toInt64)) = 0) → (True)))) ∧ ((¬ (z_vi (fn_L_end  h)) = 0) → (tk_L_law_703 L xs K23 a4 ((fn_X8_end  ((fn_L_end  h).2)).2))))) ∧ ((¬ (((fn_X8_end  ((fn_L_end  h).2)).2).1 20 0) = (z_vi (fn_L_end  h))) → (True))))) ∧ ((¬ ((xs a4.toNatClampNeg) &&& (nI 31)) = nI 9) → (((((xs a4.toNatClampNeg) &&& (nI 31)) = nI 10) → (vp_in (a4 + (nI 1)) L ∧ (vp_in (a4 + (nI 1)) L ∧ (tk_X8_feed (xs (a4 + (nI 1)).toNatClampNeg) ((fn_L_feed (xs (a4 + (nI 1)).toNatClampNeg) h).2) ∧ ((((((fn_X8_feed (xs (a4 + (nI 1)).toNatClampNeg) ((fn_L_feed (xs (a4 + (nI 1)).toNatClampNeg) h).2)).2).1 20 0) = (z_vi (fn_L_feed (xs (a4 + (nI 1)).toNatClampNeg) h))) → ((((z_vi (fn_L_feed (xs (a4 + (nI 1)).toNatClampNeg) h)) = 0) → ((((lg_cmp (((fn_X8_feed (xs (a4 + (nI 1)).toNatClampNeg) ((fn_L_feed (xs (a4 + (nI 1)).toNatClampNeg) h).2)).2).2 35 ((nI 0).toNatClampNeg)) ((z_vi (fn_X8_feed (xs (a4 + (nI 1)).toNatClampNeg) ((fn_L_feed (xs (a4 + (nI 1)).toNatClampNeg) h).2))).toInt64)) = 0) → (tk_L_law_759 L xs K23 a4 ((fn_X8_feed (xs (a4 + (nI 1)).toNatClampNeg) ((fn_L_feed (xs (a4 + (nI 1)).toNatClampNeg) h).2)).2))) ∧ ((¬ (lg_cmp (((fn_X8_feed (xs (a4 + (nI 1)).toNatClampNeg) ((fn_L_feed (xs (a4 + (nI 1)).toNatClampNeg) h).2)).2).2 35 ((nI 0).toNatClampNeg)) ((z_vi (fn_X8_feed (xs (a4 + (nI 1)).toNatClampNeg) ((fn_L_feed (xs (a4 + (nI 1)).toNatClampNeg) h).2))).toInt64)) = 0) → (True)))) ∧ ((¬ (z_vi (fn_L_feed (xs (a4 + (nI 1)).toNatClampNeg) h)) = 0) → (tk_L_law_759 L xs K23 a4 ((fn_X8_feed (xs (a4 + (nI 1)).toNatClampNeg) ((fn_L_feed (xs (a4 + (nI 1)).toNatClampNeg) h).2)).2))))) ∧ ((¬ (((fn_X8_feed (xs (a4 + (nI 1)).toNatClampNeg) ((fn_L_feed (xs (a4 + (nI 1)).toNatClampNeg) h).2)).2).1 20 0) = (z_vi (fn_L_feed (xs (a4 + (nI 1)).toNatClampNeg) h))) → (True))))))) ∧ ((¬ ((xs a4.toNatClampNeg) &&& (nI 31)) = nI 10) → (((((xs a4.toNatClampNeg) &&& (nI 31)) = nI 11) → (vp_in (a4 + (nI 1)) L ∧ (vp_in (a4 + (nI 1)) L ∧ (tk_X8_step (xs (a4 + (nI 1)).toNatClampNeg) ((fn_L_step (xs (a4 + (nI 1)).toNatClampNeg) h).2) ∧ ((((((fn_X8_step (xs (a4 + (nI 1)).toNatClampNeg) ((fn_L_step (xs (a4 + (nI 1)).toNatClampNeg) h).2)).2).1 20 0) = (z_vi (fn_L_step (xs (a4 + (nI 1)).toNatClampNeg) h))) → ((((z_vi (fn_L_step (xs (a4 + (nI 1)).toNatClampNeg) h)) = 0) → ((((lg_cmp (((fn_X8_step (xs (a4 + (nI 1)).toNatClampNeg) ((fn_L_step (xs (a4 + (nI 1)).toNatClampNeg) h).2)).2).2 35 ((nI 0).toNatClampNeg)) ((z_vi (fn_X8_step (xs (a4 + (nI 1)).toNatClampNeg) ((fn_L_step (xs (a4 + (nI 1)).toNatClampNeg) h).2))).toInt64)) = 0) → (tk_L_law_815 L xs K23 a4 ((fn_X8_step (xs (a4 + (nI 1)).toNatClampNeg) ((fn_L_step (xs (a4 + (nI 1)).toNatClampNeg) h).2)).2))) ∧ ((¬ (lg_cmp (((fn_X8_step (xs (a4 + (nI 1)).toNatClampNeg) ((fn_L_step (xs (a4 + (nI 1)).toNatClampNeg) h).2)).2).2 35 ((nI 0).toNatClampNeg)) ((z_vi (fn_X8_step (xs (a4 + (nI 1)).toNatClampNeg) ((fn_L_step (xs (a4 + (nI 1)).toNatClampNeg) h).2))).toInt64)) = 0) → (True)))) ∧ ((¬ (z_vi (fn_L_step (xs (a4 + (nI 1)).toNatClampNeg) h)) = 0) → (tk_L_law_815 L xs K23 a4 ((fn_X8_step (xs (a4 + (nI 1)).toNatClampNeg) ((fn_L_step (xs (a4 + (nI 1)).toNatClampNeg) h).2)).2))))) ∧ ((¬ (((fn_X8_step (xs (a4 + (nI 1)).toNatClampNeg) ((fn_L_step (xs (a4 + (nI 1)).toNatClampNeg) h).2)).2).1 20 0) = (z_vi (fn_L_step (xs (a4 + (nI 1)).toNatClampNeg) h))) → (True))))))) ∧ ((¬ ((xs a4.toNatClampNeg) &&& (nI 31)) = nI 11) → (((((xs a4.toNatClampNeg) &&& (nI 31)) = nI 12) → (vp_in (a4 + (nI 1)) L ∧ (tk_L_play (xs (a4 + (nI 1)).toNatClampNeg) h ∧ (vp_in (a4 + (nI 1)) L ∧ (tk_X8_play (xs (a4 + (nI 1)).toNatClampNeg) ((fn_L_play (xs (a4 + (nI 1)).toNatClampNeg) h).2) ∧ ((((((fn_X8_play (xs (a4 + (nI 1)).toNatClampNeg) ((fn_L_play (xs (a4 + (nI 1)).toNatClampNeg) h).2)).2).1 20 0) = (z_vi (fn_L_play (xs (a4 + (nI 1)).toNatClampNeg) h))) → ((((z_vi (fn_L_play (xs (a4 + (nI 1)).toNatClampNeg) h)) = 0) → ((((lg_cmp (((fn_X8_play (xs (a4 + (nI 1)).toNatClampNeg) ((fn_L_play (xs (a4 + (nI 1)).toNatClampNeg) h).2)).2).2 35 ((nI 0).toNatClampNeg)) ((z_vi (fn_X8_play (xs (a4 + (nI 1)).toNatClampNeg) ((fn_L_play (xs (a4 + (nI 1)).toNatClampNeg) h).2))).toInt64)) = 0) → (tk_L_law_871 L xs K23 a4 ((fn_X8_play (xs (a4 + (nI 1)).toNatClampNeg) ((fn_L_play (xs (a4 + (nI 1)).toNatClampNeg) h).2)).2))) ∧ ((¬ (lg_cmp (((fn_X8_play (xs (a4 + (nI 1)).toNatClampNeg) ((fn_L_play (xs (a4 + (nI 1)).toNatClampNeg) h).2)).2).2 35 ((nI 0).toNatClampNeg)) ((z_vi (fn_X8_play (xs (a4 + (nI 1)).toNatClampNeg) ((fn_L_play (xs (a4 + (nI 1)).toNatClampNeg) h).2))).toInt64)) = 0) → (True)))) ∧ ((¬ (z_vi (fn_L_play (xs (a4 + (nI 1)).toNatClampNeg) h)) = 0) → (tk_L_law_871 L xs K23 a4 ((fn_X8_play (xs (a4 + (nI 1)).toNatClampNeg) ((fn_L_play (xs (a4 + (nI 1)).toNatClampNeg) h).2)).2))))) ∧ ((¬ (((fn_X8_play (xs (a4 + (nI 1)).toNatClampNeg) ((fn_L_play (xs (a4 + (nI 1)).toNatClampNeg) h).2)).2).1 20 0) = (z_vi (fn_L_play (xs (a4 + (nI 1)).toNatClampNeg) h))) → (True)))))))) ∧ ((¬ ((xs a4.toNatClampNeg) &&& (nI 31)) = nI 12) → (((((xs a4.toNatClampNeg) &&& (nI 31)) = nI 13) → ((((z_vi0 (fn_X7_isAlive  h)) = (fv_X8_lives (z_set h 20 0 (nI 0)) )) → (tk_L_law_1215 L xs K23 a4 (z_set h 20 0 (nI 0)))) ∧ ((¬ (z_vi0 (fn_X7_isAlive  h)) = (fv_X8_lives (z_set h 20 0 (nI 0)) )) → (True)))) ∧ ((¬ ((xs a4.toNatClampNeg) &&& (nI 31)) = nI 13) → (((((xs a4.toNatClampNeg) &&& (nI 31)) = nI 14) → ((((z_vi0 (fn_X7_length  h)) = (h.1 20 12)) → (tk_L_law_1215 L xs K23 a4 (z_set h 20 0 (nI 0)))) ∧ ((¬ (z_vi0 (fn_X7_length  h)) = (h.1 20 12)) → (True)))) ∧ ((¬ ((xs a4.toNatClampNeg) &&& (nI 31)) = nI 14) → (((((xs a4.toNatClampNeg) &&& (nI 31)) = nI 15) → ((((z_vi0 (fn_X7_owed  h)) = (h.1 20 13)) → (tk_L_law_1215 L xs K23 a4 (z_set h 20 0 (nI 0)))) ∧ ((¬ (z_vi0 (fn_X7_owed  h)) = (h.1 20 13)) → (True)))) ∧ ((¬ ((xs a4.toNatClampNeg) &&& (nI 31)) = nI 15) → (((((xs a4.toNatClampNeg) &&& (nI 31)) = nI 16) → (vp_in (a4 + (nI 1)) L ∧ (vp_in (a4 + (nI 1)) L ∧ (tk_X8_bodyAt (xs (a4 + (nI 1)).toNatClampNeg) ((fn_L_bodyAt (xs (a4 + (nI 1)).toNatClampNeg) h).2) ∧ ((((((fn_X8_bodyAt (xs (a4 + (nI 1)).toNatClampNeg) ((fn_L_bodyAt (xs (a4 + (nI 1)).toNatClampNeg) h).2)).2).1 20 0) = (z_vi (fn_L_bodyAt (xs (a4 + (nI 1)).toNatClampNeg) h))) → ((((z_vi (fn_L_bodyAt (xs (a4 + (nI 1)).toNatClampNeg) h)) = 0) → ((((lg_cmp (((fn_X8_bodyAt (xs (a4 + (nI 1)).toNatClampNeg) ((fn_L_bodyAt (xs (a4 + (nI 1)).toNatClampNeg) h).2)).2).2 35 ((nI 0).toNatClampNeg)) ((z_vi (fn_X8_bodyAt (xs (a4 + (nI 1)).toNatClampNeg) ((fn_L_bodyAt (xs (a4 + (nI 1)).toNatClampNeg) h).2))).toInt64)) = 0) → (tk_L_law_966 L xs K23 a4 ((fn_X8_bodyAt (xs (a4 + (nI 1)).toNatClampNeg) ((fn_L_bodyAt (xs (a4 + (nI 1)).toNatClampNeg) h).2)).2))) ∧ ((¬ (lg_cmp (((fn_X8_bodyAt (xs (a4 + (nI 1)).toNatClampNeg) ((fn_L_bodyAt (xs (a4 + (nI 1)).toNatClampNeg) h).2)).2).2 35 ((nI 0).toNatClampNeg)) ((z_vi (fn_X8_bodyAt (xs (a4 + (nI 1)).toNatClampNeg) ((fn_L_bodyAt (xs (a4 + (nI 1)).toNatClampNeg) h).2))).toInt64)) = 0) → (True)))) ∧ ((¬ (z_vi (fn_L_bodyAt (xs (a4 + (nI 1)).toNatClampNeg) h)) = 0) → (tk_L_law_966 L xs K23 a4 ((fn_X8_bodyAt (xs (a4 + (nI 1)).toNatClampNeg) ((fn_L_bodyAt (xs (a4 + (nI 1)).toNatClampNeg) h).2)).2))))) ∧ ((¬ (((fn_X8_bodyAt (xs (a4 + (nI 1)).toNatClampNeg) ((fn_L_bodyAt (xs (a4 + (nI 1)).toNatClampNeg) h).2)).2).1 20 0) = (z_vi (fn_L_bodyAt (xs (a4 + (nI 1)).toNatClampNeg) h))) → (True))))))) ∧ ((¬ ((xs a4.toNatClampNeg) &&& (nI 31)) = nI 16) → (((((xs a4.toNatClampNeg) &&& (nI 31)) = nI 17) → ((((z_vi0 (fn_X7_feeds  h)) = (h.1 20 8)) → (tk_L_law_1215 L xs K23 a4 (z_set h 20 0 (nI 0)))) ∧ ((¬ (z_vi0 (fn_X7_feeds  h)) = (h.1 20 8)) → (True)))) ∧ ((¬ ((xs a4.toNatClampNeg) &&& (nI 31)) = nI 17) → (((((xs a4.toNatClampNeg) &&& (nI 31)) = nI 18) → (tk_X7_isInOrder  h ∧ (tk_X8_isInOrder  h ∧ ((((z_vi0 (fn_X7_isInOrder  h)) = (z_vi (fn_X8_isInOrder  h))) → (tk_L_law_1215 L xs K23 a4 ((fn_X8_isInOrder  h).2))) ∧ ((¬ (z_vi0 (fn_X7_isInOrder  h)) = (z_vi (fn_X8_isInOrder  h))) → (True)))))) ∧ ((¬ ((xs a4.toNatClampNeg) &&& (nI 31)) = nI 18) → (((((xs a4.toNatClampNeg) &&& (nI 31)) = nI 19) → (vp_in (a4 + (nI 1)) L ∧ (tk_L_isSafe (xs (a4 + (nI 1)).toNatClampNeg) h ∧ (vp_in (a4 + (nI 1)) L ∧ (tk_X8_isSafe (xs (a4 + (nI 1)).toNatClampNeg) ((fn_L_isSafe (xs (a4 + (nI 1)).toNatClampNeg) h).2) ∧ ((((((fn_X8_isSafe (xs (a4 + (nI 1)).toNatClampNeg) ((fn_L_isSafe (xs (a4 + (nI 1)).toNatClampNeg) h).2)).2).1 20 0) = (z_vi (fn_L_isSafe (xs (a4 + (nI 1)).toNatClampNeg) h))) → ((((z_vi (fn_L_isSafe (xs (a4 + (nI 1)).toNatClampNeg) h)) = 0) → ((((z_vi (fn_X8_isSafe (xs (a4 + (nI 1)).toNatClampNeg) ((fn_L_isSafe (xs (a4 + (nI 1)).toNatClampNeg) h).2))) = 0) → (tk_L_law_1049 L xs K23 a4 0 (((fn_X8_isSafe (xs (a4 + (nI 1)).toNatClampNeg) ((fn_L_isSafe (xs (a4 + (nI 1)).toNatClampNeg) h).2)).2).2 35 ((nI 0).toNatClampNeg)) ((fn_X8_isSafe (xs (a4 + (nI 1)).toNatClampNeg) ((fn_L_isSafe (xs (a4 + (nI 1)).toNatClampNeg) h).2)).2))) ∧ ((¬ (z_vi (fn_X8_isSafe (xs (a4 + (nI 1)).toNatClampNeg) ((fn_L_isSafe (xs (a4 + (nI 1)).toNatClampNeg) h).2))) = 0) → (tk_L_law_1049 L xs K23 a4 1 (((fn_X8_isSafe (xs (a4 + (nI 1)).toNatClampNeg) ((fn_L_isSafe (xs (a4 + (nI 1)).toNatClampNeg) h).2)).2).2 35 ((nI 0).toNatClampNeg)) ((fn_X8_isSafe (xs (a4 + (nI 1)).toNatClampNeg) ((fn_L_isSafe (xs (a4 + (nI 1)).toNatClampNeg) h).2)).2))))) ∧ ((¬ (z_vi (fn_L_isSafe (xs (a4 + (nI 1)).toNatClampNeg) h)) = 0) → (tk_L_law_1055 L xs K23 a4 ((fn_X8_isSafe (xs (a4 + (nI 1)).toNatClampNeg) ((fn_L_isSafe (xs (a4 + (nI 1)).toNatClampNeg) h).2)).2))))) ∧ ((¬ (((fn_X8_isSafe (xs (a4 + (nI 1)).toNatClampNeg) ((fn_L_isSafe (xs (a4 + (nI 1)).toNatClampNeg) h).2)).2).1 20 0) = (z_vi (fn_L_isSafe (xs (a4 + (nI 1)).toNatClampNeg) h))) → (True)))))))) ∧ ((¬ ((xs a4.toNatClampNeg) &&& (nI 31)) = nI 19) → (((((xs a4.toNatClampNeg) &&& (nI 31)) = nI 20) → (tk_X7_reach  h ∧ (tk_X8_reach  ((fn_X7_reach  h).2) ∧ ((((z_vi (fn_X7_reach  h)) = (z_vi (fn_X8_reach  ((fn_X7_reach  h).2)))) → (tk_L_law_1215 L xs K23 a4 ((fn_X8_reach  ((fn_X7_reach  h).2)).2))) ∧ ((¬ (z_vi (fn_X7_reach  h)) = (z_vi (fn_X8_reach  ((fn_X7_reach  h).2)))) → (True)))))) ∧ ((¬ ((xs a4.toNatClampNeg) &&& (nI 31)) = nI 20) → (((((xs a4.toNatClampNeg) &&& (nI 31)) = nI 21) → (vp_in (a4 + (nI 1)) L ∧ (tk_L_livesFor (xs (a4 + (nI 1)).toNatClampNeg) h ∧ (vp_in (a4 + (nI 1)) L ∧ (tk_X8_livesFor (xs (a4 + (nI 1)).toNatClampNeg) ((fn_L_livesFor (xs (a4 + (nI 1)).toNatClampNeg) h).2) ∧ ((((((fn_X8_livesFor (xs (a4 + (nI 1)).toNatClampNeg) ((fn_L_livesFor (xs (a4 + (nI 1)).toNatClampNeg) h).2)).2).1 20 0) = (z_vi (fn_L_livesFor (xs (a4 + (nI 1)).toNatClampNeg) h))) → ((((z_vi (fn_L_livesFor (xs (a4 + (nI 1)).toNatClampNeg) h)) = 0) → ((((lg_cmp (((fn_X8_livesFor (xs (a4 + (nI 1)).toNatClampNeg) ((fn_L_livesFor (xs (a4 + (nI 1)).toNatClampNeg) h).2)).2).2 35 ((nI 0).toNatClampNeg)) ((z_vi (fn_X8_livesFor (xs (a4 + (nI 1)).toNatClampNeg) ((fn_L_livesFor (xs (a4 + (nI 1)).toNatClampNeg) h).2))).toInt64)) = 0) → (tk_L_law_1124 L xs K23 a4 ((fn_X8_livesFor (xs (a4 + (nI 1)).toNatClampNeg) ((fn_L_livesFor (xs (a4 + (nI 1)).toNatClampNeg) h).2)).2))) ∧ ((¬ (lg_cmp (((fn_X8_livesFor (xs (a4 + (nI 1)).toNatClampNeg) ((fn_L_livesFor (xs (a4 + (nI 1)).toNatClampNeg) h).2)).2).2 35 ((nI 0).toNatClampNeg)) ((z_vi (fn_X8_livesFor (xs (a4 + (nI 1)).toNatClampNeg) ((fn_L_livesFor (xs (a4 + (nI 1)).toNatClampNeg) h).2))).toInt64)) = 0) → (True)))) ∧ ((¬ (z_vi (fn_L_livesFor (xs (a4 + (nI 1)).toNatClampNeg) h)) = 0) → (tk_L_law_1124 L xs K23 a4 ((fn_X8_livesFor (xs (a4 + (nI 1)).toNatClampNeg) ((fn_L_livesFor (xs (a4 + (nI 1)).toNatClampNeg) h).2)).2))))) ∧ ((¬ (((fn_X8_livesFor (xs (a4 + (nI 1)).toNatClampNeg) ((fn_L_livesFor (xs (a4 + (nI 1)).toNatClampNeg) h).2)).2).1 20 0) = (z_vi (fn_L_livesFor (xs (a4 + (nI 1)).toNatClampNeg) h))) → (True)))))))) ∧ ((¬ ((xs a4.toNatClampNeg) &&& (nI 31)) = nI 21) → (((((xs a4.toNatClampNeg) &&& (nI 31)) = nI 22) → (tk_L_fewest  h ∧ (tk_X8_fewest  ((fn_L_fewest  h).2) ∧ ((((((fn_X8_fewest  ((fn_L_fewest  h).2)).2).1 20 0) = (z_vi (fn_L_fewest  h))) → ((((z_vi (fn_L_fewest  h)) = 0) → ((((lg_cmp (((fn_X8_fewest  ((fn_L_fewest  h).2)).2).2 35 ((nI 0).toNatClampNeg)) ((z_vi (fn_X8_fewest  ((fn_L_fewest  h).2))).toInt64)) = 0) → (tk_L_law_1168 L xs K23 a4 ((fn_X8_fewest  ((fn_L_fewest  h).2)).2))) ∧ ((¬ (lg_cmp (((fn_X8_fewest  ((fn_L_fewest  h).2)).2).2 35 ((nI 0).toNatClampNeg)) ((z_vi (fn_X8_fewest  ((fn_L_fewest  h).2))).toInt64)) = 0) → (True)))) ∧ ((¬ (z_vi (fn_L_fewest  h)) = 0) → (tk_L_law_1168 L xs K23 a4 ((fn_X8_fewest  ((fn_L_fewest  h).2)).2))))) ∧ ((¬ (((fn_X8_fewest  ((fn_L_fewest  h).2)).2).1 20 0) = (z_vi (fn_L_fewest  h))) → (True)))))) ∧ ((¬ ((xs a4.toNatClampNeg) &&& (nI 31)) = nI 22) → (((((xs a4.toNatClampNeg) &&& (nI 31)) = nI 23) → (tk_L_fewestByBodies  h ∧ (tk_X8_fewestByBodies  ((fn_L_fewestByBodies  h).2) ∧ ((((((fn_X8_fewestByBodies  ((fn_L_fewestByBodies  h).2)).2).1 20 0) = (z_vi (fn_L_fewestByBodies  h))) → ((((z_vi (fn_L_fewestByBodies  h)) = 0) → ((((lg_cmp (((fn_X8_fewestByBodies  ((fn_L_fewestByBodies  h).2)).2).2 35 ((nI 0).toNatClampNeg)) ((z_vi (fn_X8_fewestByBodies  ((fn_L_fewestByBodies  h).2))).toInt64)) = 0) → (tk_L_law_1212 L xs K23 a4 ((fn_X8_fewestByBodies  ((fn_L_fewestByBodies  h).2)).2))) ∧ ((¬ (lg_cmp (((fn_X8_fewestByBodies  ((fn_L_fewestByBodies  h).2)).2).2 35 ((nI 0).toNatClampNeg)) ((z_vi (fn_X8_fewestByBodies  ((fn_L_fewestByBodies  h).2))).toInt64)) = 0) → (True)))) ∧ ((¬ (z_vi (fn_L_fewestByBodies  h)) = 0) → (tk_L_law_1212 L xs K23 a4 ((fn_X8_fewestByBodies  ((fn_L_fewestByBodies  h).2)).2))))) ∧ ((¬ (((fn_X8_fewestByBodies  ((fn_L_fewestByBodies  h).2)).2).1 20 0) = (z_vi (fn_L_fewestByBodies  h))) → (True)))))) ∧ ((¬ ((xs a4.toNatClampNeg) &&& (nI 31)) = nI 23) → (tk_L_law_1215 L xs K23 a4 h)))))))))))))))))))))))))))))))))))))))))))))))))))
set_option maxHeartbeats 40000000 in
set_option maxRecDepth 100000 in
theorem sp_L_law {p : Program} {l : Launch} {e : Env} {s : State} {m : MethodId} {below : List Frame} {meth : Method} {c : Code} {D : va_G} {dA : Nat → ClassId} {ad : Nat → Nat} {b L : Nat} {xs : Nat → Int32} (hC : z_Cx p s m #[Value.ref b] c D dA (fun q => s.heap.size ≤ q) s.heap RL code 7 ft_L) (hN : z_Nt s) (hZ : z_Zz (fun q => s.heap.size ≤ q) s) (hKin : z_Kin s) (hl0 : l.stackTraces = false) (hret : meth.sig.returnType = ret) (hlk : meth.locks = false) (hX : va_X b L xs s s.heap) (hbl : b < s.heap.size) (had : ad 36 = b) : ∀ (n kk nn : Nat), kk + 2 * n ≤ 601000 → nn + 12 * n ≤ 7293000 → ∀ (a4 : Int32) (h : z_H), tk_L_law_23 L xs n a4 h → fn_L_law_23 L xs n a4 h = 1 → z_Z p l e room_1 s m #[Value.ref b] below meth c D dA (fun q => s.heap.size ≤ q) s.heap 7 ad (lw_Z below #[Value.ref b] s) kk nn 23 [some (.ref 36), some (.ref 0), some (.ref 20), some (.ref 35), some (.int a4), none, none] [] (z_o []) h := by
  have hbA : ¬ (fun q : Nat => s.heap.size ≤ q) b := Nat.not_le.mpr hbl
  have hR : 40 ≤ room_1.frames ∧ 64 * 40 ≤ room_1.locals := ⟨by decide, by decide⟩
  have P1215 : ∀ (k23 : Int32 → z_H → Int32) (K23 : Int32 → z_H → Prop) (kk nn : Nat) (h1 : kk + 2 ≤ 601000) (h2 : nn + 12 ≤ 7293000) (hk23 : ∀ (k2 n2 : Nat), k2 = kk + 2 → n2 = nn + 12 → ∀ (a4 : Int32) (h : z_H), K23 a4 h → k23 a4 h = 1 → z_Z p l e room_1 s m #[Value.ref b] below meth c D dA (fun q => s.heap.size ≤ q) s.heap 7 ad (lw_Z below #[Value.ref b] s) k2 n2 23 [some (.ref 36), some (.ref 0), some (.ref 20), some (.ref 35), some (.int a4), none, none] [] (z_o []) h) (a4 : Int32) (h : z_H), tk_L_law_1215 L xs K23 a4 h → fn_L_law_1215 L xs k23 a4 h = 1 → z_Z p l e room_1 s m #[Value.ref b] below meth c D dA (fun q => s.heap.size ≤ q) s.heap 7 ad (lw_Z below #[Value.ref b] s) (kk + 2) (nn + 12) 1215 [some (.ref 36), some (.ref 0), some (.ref 20), some (.ref 35), some (.int a4), none, none] [] (z_o []) h := by
    intro k23 K23 kk nn h1 h2 hk23 a4 h T E
    unfold tk_L_law_1215 at T; unfold fn_L_law_1215 at E
    refine z_go hC (pc' := 1218) (ls' := [some (.ref 36), some (.ref 0), some (.ref 20), some (.ref 35), some (.int (a4 + (nI 3))), none, none]) (st' := []) (h' := h) (cs := []) [.iinc 4 3] (by decide +kernel) rfl rfl trivial ?_
    refine z_goto hC (off := -1195) 23 (by decide +kernel) (by decide) ?_
    refine z_widen (k' := kk + 2) (n' := nn + 12) (by omega) (by omega) ?_
    exact hk23 _ _ (by omega) (by omega) (a4 + (nI 3)) h T E
  have P1212 : ∀ (k23 : Int32 → z_H → Int32) (K23 : Int32 → z_H → Prop) (kk nn : Nat) (h1 : kk + 2 ≤ 601000) (h2 : nn + 12 ≤ 7293000) (hk23 : ∀ (k2 n2 : Nat), k2 = kk + 2 → n2 = nn + 12 → ∀ (a4 : Int32) (h : z_H), K23 a4 h → k23 a4 h = 1 → z_Z p l e room_1 s m #[Value.ref b] below meth c D dA (fun q => s.heap.size ≤ q) s.heap 7 ad (lw_Z below #[Value.ref b] s) k2 n2 23 [some (.ref 36), some (.ref 0), some (.ref 20), some (.ref 35), some (.int a4), none, none] [] (z_o []) h) (a4 : Int32) (h : z_H), tk_L_law_1212 L xs K23 a4 h → fn_L_law_1212 L xs k23 a4 h = 1 → z_Z p l e room_1 s m #[Value.ref b] below meth c D dA (fun q => s.heap.size ≤ q) s.heap 7 ad (lw_Z below #[Value.ref b] s) (kk + 1) (nn + 6) 1212 [some (.ref 36), some (.ref 0), some (.ref 20), some (.ref 35), some (.int a4), none, none] [] (z_o []) h := by
    intro k23 K23 kk nn h1 h2 hk23 a4 h T E
    unfold tk_L_law_1212 at T; unfold fn_L_law_1212 at E
    refine z_goto hC (off := 3) 1215 (by decide +kernel) (by decide) ?_
    refine z_widen (k' := kk + 2) (n' := nn + 12) (by omega) (by omega) ?_
    exact P1215 _ _ kk nn h1 h2 hk23 a4 h T E
  have P1168 : ∀ (k23 : Int32 → z_H → Int32) (K23 : Int32 → z_H → Prop) (kk nn : Nat) (h1 : kk + 2 ≤ 601000) (h2 : nn + 12 ≤ 7293000) (hk23 : ∀ (k2 n2 : Nat), k2 = kk + 2 → n2 = nn + 12 → ∀ (a4 : Int32) (h : z_H), K23 a4 h → k23 a4 h = 1 → z_Z p l e room_1 s m #[Value.ref b] below meth c D dA (fun q => s.heap.size ≤ q) s.heap 7 ad (lw_Z below #[Value.ref b] s) k2 n2 23 [some (.ref 36), some (.ref 0), some (.ref 20), some (.ref 35), some (.int a4), none, none] [] (z_o []) h) (a4 : Int32) (h : z_H), tk_L_law_1168 L xs K23 a4 h → fn_L_law_1168 L xs k23 a4 h = 1 → z_Z p l e room_1 s m #[Value.ref b] below meth c D dA (fun q => s.heap.size ≤ q) s.heap 7 ad (lw_Z below #[Value.ref b] s) (kk + 1) (nn + 6) 1168 [some (.ref 36), some (.ref 0), some (.ref 20), some (.ref 35), some (.int a4), none, none] [] (z_o []) h := by
    intro k23 K23 kk nn h1 h2 hk23 a4 h T E
    unfold tk_L_law_1168 at T; unfold fn_L_law_1168 at E
    refine z_goto hC (off := 47) 1215 (by decide +kernel) (by decide) ?_
    refine z_widen (k' := kk + 2) (n' := nn + 12) (by omega) (by omega) ?_
    exact P1215 _ _ kk nn h1 h2 hk23 a4 h T E
  have P1124 : ∀ (k23 : Int32 → z_H → Int32) (K23 : Int32 → z_H → Prop) (kk nn : Nat) (h1 : kk + 2 ≤ 601000) (h2 : nn + 12 ≤ 7293000) (hk23 : ∀ (k2 n2 : Nat), k2 = kk + 2 → n2 = nn + 12 → ∀ (a4 : Int32) (h : z_H), K23 a4 h → k23 a4 h = 1 → z_Z p l e room_1 s m #[Value.ref b] below meth c D dA (fun q => s.heap.size ≤ q) s.heap 7 ad (lw_Z below #[Value.ref b] s) k2 n2 23 [some (.ref 36), some (.ref 0), some (.ref 20), some (.ref 35), some (.int a4), none, none] [] (z_o []) h) (a4 : Int32) (h : z_H), tk_L_law_1124 L xs K23 a4 h → fn_L_law_1124 L xs k23 a4 h = 1 → z_Z p l e room_1 s m #[Value.ref b] below meth c D dA (fun q => s.heap.size ≤ q) s.heap 7 ad (lw_Z below #[Value.ref b] s) (kk + 1) (nn + 6) 1124 [some (.ref 36), some (.ref 0), some (.ref 20), some (.ref 35), some (.int a4), none, none] [] (z_o []) h := by
    intro k23 K23 kk nn h1 h2 hk23 a4 h T E
    unfold tk_L_law_1124 at T; unfold fn_L_law_1124 at E
    refine z_goto hC (off := 91) 1215 (by decide +kernel) (by decide) ?_
    refine z_widen (k' := kk + 2) (n' := nn + 12) (by omega) (by omega) ?_
    exact P1215 _ _ kk nn h1 h2 hk23 a4 h T E
  have P1055 : ∀ (k23 : Int32 → z_H → Int32) (K23 : Int32 → z_H → Prop) (kk nn : Nat) (h1 : kk + 2 ≤ 601000) (h2 : nn + 12 ≤ 7293000) (hk23 : ∀ (k2 n2 : Nat), k2 = kk + 2 → n2 = nn + 12 → ∀ (a4 : Int32) (h : z_H), K23 a4 h → k23 a4 h = 1 → z_Z p l e room_1 s m #[Value.ref b] below meth c D dA (fun q => s.heap.size ≤ q) s.heap 7 ad (lw_Z below #[Value.ref b] s) k2 n2 23 [some (.ref 36), some (.ref 0), some (.ref 20), some (.ref 35), some (.int a4), none, none] [] (z_o []) h) (a4 : Int32) (h : z_H), tk_L_law_1055 L xs K23 a4 h → fn_L_law_1055 L xs k23 a4 h = 1 → z_Z p l e room_1 s m #[Value.ref b] below meth c D dA (fun q => s.heap.size ≤ q) s.heap 7 ad (lw_Z below #[Value.ref b] s) (kk + 2) (nn + 12) 1055 [some (.ref 36), some (.ref 0), some (.ref 20), some (.ref 35), some (.int a4), none, none] [] (z_o []) h := by
    intro k23 K23 kk nn h1 h2 hk23 a4 h T E
    unfold tk_L_law_1055 at T; unfold fn_L_law_1055 at E
    refine z_goto hC (off := 160) 1215 (by decide +kernel) (by decide) ?_
    refine z_widen (k' := kk + 2) (n' := nn + 12) (by omega) (by omega) ?_
    exact P1215 _ _ kk nn h1 h2 hk23 a4 h T E
  have P1049 : ∀ (k23 : Int32 → z_H → Int32) (K23 : Int32 → z_H → Prop) (kk nn : Nat) (h1 : kk + 2 ≤ 601000) (h2 : nn + 12 ≤ 7293000) (hk23 : ∀ (k2 n2 : Nat), k2 = kk + 2 → n2 = nn + 12 → ∀ (a4 : Int32) (h : z_H), K23 a4 h → k23 a4 h = 1 → z_Z p l e room_1 s m #[Value.ref b] below meth c D dA (fun q => s.heap.size ≤ q) s.heap 7 ad (lw_Z below #[Value.ref b] s) k2 n2 23 [some (.ref 36), some (.ref 0), some (.ref 20), some (.ref 35), some (.int a4), none, none] [] (z_o []) h) (a4 : Int32) (s0 : Int64) (s1 : Int64) (h : z_H), tk_L_law_1049 L xs K23 a4 s0 s1 h → fn_L_law_1049 L xs k23 a4 s0 s1 h = 1 → z_Z p l e room_1 s m #[Value.ref b] below meth c D dA (fun q => s.heap.size ≤ q) s.heap 7 ad (lw_Z below #[Value.ref b] s) (kk + 2) (nn + 12) 1049 [some (.ref 36), some (.ref 0), some (.ref 20), some (.ref 35), some (.int a4), none, none] [.long s0, .long s1] (z_o []) h := by
    intro k23 K23 kk nn h1 h2 hk23 a4 s0 s1 h T E
    unfold tk_L_law_1049 at T; unfold fn_L_law_1049 at E
    refine z_go hC (pc' := 1050) (ls' := [some (.ref 36), some (.ref 0), some (.ref 20), some (.ref 35), some (.int a4), none, none]) (st' := [.int (lg_cmp s1 s0)]) (h' := h) (cs := []) [.lcmp] (by decide +kernel) rfl rfl trivial ?_
    refine z_if_eq hC (off := 5) 1055 (by decide +kernel) (by decide) (fun c1 => ?_) (fun c1 => ?_)
    · skip
      have E := (if_pos c1).symm.trans E
      have T := T.1 c1
      refine z_widen (k' := kk + 2) (n' := nn + 12) (by omega) (by omega) ?_
      exact P1055 _ _ kk nn h1 h2 hk23 a4 h T E
    · skip
      have E := (if_neg c1).symm.trans E
      have T := T.2 c1
      refine z_go hC (pc' := 1054) (ls' := [some (.ref 36), some (.ref 0), some (.ref 20), some (.ref 35), some (.int a4), none, none]) (st' := [.int (nI 0)]) (h' := h) (cs := []) [.iconst 0] (by decide +kernel) rfl rfl trivial ?_
      exact absurd E (by decide)
  have P966 : ∀ (k23 : Int32 → z_H → Int32) (K23 : Int32 → z_H → Prop) (kk nn : Nat) (h1 : kk + 2 ≤ 601000) (h2 : nn + 12 ≤ 7293000) (hk23 : ∀ (k2 n2 : Nat), k2 = kk + 2 → n2 = nn + 12 → ∀ (a4 : Int32) (h : z_H), K23 a4 h → k23 a4 h = 1 → z_Z p l e room_1 s m #[Value.ref b] below meth c D dA (fun q => s.heap.size ≤ q) s.heap 7 ad (lw_Z below #[Value.ref b] s) k2 n2 23 [some (.ref 36), some (.ref 0), some (.ref 20), some (.ref 35), some (.int a4), none, none] [] (z_o []) h) (a4 : Int32) (h : z_H), tk_L_law_966 L xs K23 a4 h → fn_L_law_966 L xs k23 a4 h = 1 → z_Z p l e room_1 s m #[Value.ref b] below meth c D dA (fun q => s.heap.size ≤ q) s.heap 7 ad (lw_Z below #[Value.ref b] s) (kk + 1) (nn + 6) 966 [some (.ref 36), some (.ref 0), some (.ref 20), some (.ref 35), some (.int a4), none, none] [] (z_o []) h := by
    intro k23 K23 kk nn h1 h2 hk23 a4 h T E
    unfold tk_L_law_966 at T; unfold fn_L_law_966 at E
    refine z_goto hC (off := 249) 1215 (by decide +kernel) (by decide) ?_
    refine z_widen (k' := kk + 2) (n' := nn + 12) (by omega) (by omega) ?_
    exact P1215 _ _ kk nn h1 h2 hk23 a4 h T E
  have P871 : ∀ (k23 : Int32 → z_H → Int32) (K23 : Int32 → z_H → Prop) (kk nn : Nat) (h1 : kk + 2 ≤ 601000) (h2 : nn + 12 ≤ 7293000) (hk23 : ∀ (k2 n2 : Nat), k2 = kk + 2 → n2 = nn + 12 → ∀ (a4 : Int32) (h : z_H), K23 a4 h → k23 a4 h = 1 → z_Z p l e room_1 s m #[Value.ref b] below meth c D dA (fun q => s.heap.size ≤ q) s.heap 7 ad (lw_Z below #[Value.ref b] s) k2 n2 23 [some (.ref 36), some (.ref 0), some (.ref 20), some (.ref 35), some (.int a4), none, none] [] (z_o []) h) (a4 : Int32) (h : z_H), tk_L_law_871 L xs K23 a4 h → fn_L_law_871 L xs k23 a4 h = 1 → z_Z p l e room_1 s m #[Value.ref b] below meth c D dA (fun q => s.heap.size ≤ q) s.heap 7 ad (lw_Z below #[Value.ref b] s) (kk + 1) (nn + 6) 871 [some (.ref 36), some (.ref 0), some (.ref 20), some (.ref 35), some (.int a4), none, none] [] (z_o []) h := by
    intro k23 K23 kk nn h1 h2 hk23 a4 h T E
    unfold tk_L_law_871 at T; unfold fn_L_law_871 at E
    refine z_goto hC (off := 344) 1215 (by decide +kernel) (by decide) ?_
    refine z_widen (k' := kk + 2) (n' := nn + 12) (by omega) (by omega) ?_
    exact P1215 _ _ kk nn h1 h2 hk23 a4 h T E
  have P815 : ∀ (k23 : Int32 → z_H → Int32) (K23 : Int32 → z_H → Prop) (kk nn : Nat) (h1 : kk + 2 ≤ 601000) (h2 : nn + 12 ≤ 7293000) (hk23 : ∀ (k2 n2 : Nat), k2 = kk + 2 → n2 = nn + 12 → ∀ (a4 : Int32) (h : z_H), K23 a4 h → k23 a4 h = 1 → z_Z p l e room_1 s m #[Value.ref b] below meth c D dA (fun q => s.heap.size ≤ q) s.heap 7 ad (lw_Z below #[Value.ref b] s) k2 n2 23 [some (.ref 36), some (.ref 0), some (.ref 20), some (.ref 35), some (.int a4), none, none] [] (z_o []) h) (a4 : Int32) (h : z_H), tk_L_law_815 L xs K23 a4 h → fn_L_law_815 L xs k23 a4 h = 1 → z_Z p l e room_1 s m #[Value.ref b] below meth c D dA (fun q => s.heap.size ≤ q) s.heap 7 ad (lw_Z below #[Value.ref b] s) (kk + 2) (nn + 12) 815 [some (.ref 36), some (.ref 0), some (.ref 20), some (.ref 35), some (.int a4), none, none] [] (z_o []) h := by
    intro k23 K23 kk nn h1 h2 hk23 a4 h T E
    unfold tk_L_law_815 at T; unfold fn_L_law_815 at E
    refine z_goto hC (off := 400) 1215 (by decide +kernel) (by decide) ?_
    refine z_widen (k' := kk + 2) (n' := nn + 12) (by omega) (by omega) ?_
    exact P1215 _ _ kk nn h1 h2 hk23 a4 h T E
  have P759 : ∀ (k23 : Int32 → z_H → Int32) (K23 : Int32 → z_H → Prop) (kk nn : Nat) (h1 : kk + 2 ≤ 601000) (h2 : nn + 12 ≤ 7293000) (hk23 : ∀ (k2 n2 : Nat), k2 = kk + 2 → n2 = nn + 12 → ∀ (a4 : Int32) (h : z_H), K23 a4 h → k23 a4 h = 1 → z_Z p l e room_1 s m #[Value.ref b] below meth c D dA (fun q => s.heap.size ≤ q) s.heap 7 ad (lw_Z below #[Value.ref b] s) k2 n2 23 [some (.ref 36), some (.ref 0), some (.ref 20), some (.ref 35), some (.int a4), none, none] [] (z_o []) h) (a4 : Int32) (h : z_H), tk_L_law_759 L xs K23 a4 h → fn_L_law_759 L xs k23 a4 h = 1 → z_Z p l e room_1 s m #[Value.ref b] below meth c D dA (fun q => s.heap.size ≤ q) s.heap 7 ad (lw_Z below #[Value.ref b] s) (kk + 2) (nn + 12) 759 [some (.ref 36), some (.ref 0), some (.ref 20), some (.ref 35), some (.int a4), none, none] [] (z_o []) h := by
    intro k23 K23 kk nn h1 h2 hk23 a4 h T E
    unfold tk_L_law_759 at T; unfold fn_L_law_759 at E
    refine z_goto hC (off := 456) 1215 (by decide +kernel) (by decide) ?_
    refine z_widen (k' := kk + 2) (n' := nn + 12) (by omega) (by omega) ?_
    exact P1215 _ _ kk nn h1 h2 hk23 a4 h T E
  have P703 : ∀ (k23 : Int32 → z_H → Int32) (K23 : Int32 → z_H → Prop) (kk nn : Nat) (h1 : kk + 2 ≤ 601000) (h2 : nn + 12 ≤ 7293000) (hk23 : ∀ (k2 n2 : Nat), k2 = kk + 2 → n2 = nn + 12 → ∀ (a4 : Int32) (h : z_H), K23 a4 h → k23 a4 h = 1 → z_Z p l e room_1 s m #[Value.ref b] below meth c D dA (fun q => s.heap.size ≤ q) s.heap 7 ad (lw_Z below #[Value.ref b] s) k2 n2 23 [some (.ref 36), some (.ref 0), some (.ref 20), some (.ref 35), some (.int a4), none, none] [] (z_o []) h) (a4 : Int32) (h : z_H), tk_L_law_703 L xs K23 a4 h → fn_L_law_703 L xs k23 a4 h = 1 → z_Z p l e room_1 s m #[Value.ref b] below meth c D dA (fun q => s.heap.size ≤ q) s.heap 7 ad (lw_Z below #[Value.ref b] s) (kk + 1) (nn + 6) 703 [some (.ref 36), some (.ref 0), some (.ref 20), some (.ref 35), some (.int a4), none, none] [] (z_o []) h := by
    intro k23 K23 kk nn h1 h2 hk23 a4 h T E
    unfold tk_L_law_703 at T; unfold fn_L_law_703 at E
    refine z_goto hC (off := 512) 1215 (by decide +kernel) (by decide) ?_
    refine z_widen (k' := kk + 2) (n' := nn + 12) (by omega) (by omega) ?_
    exact P1215 _ _ kk nn h1 h2 hk23 a4 h T E
  have P611 : ∀ (k23 : Int32 → z_H → Int32) (K23 : Int32 → z_H → Prop) (kk nn : Nat) (h1 : kk + 2 ≤ 601000) (h2 : nn + 12 ≤ 7293000) (hk23 : ∀ (k2 n2 : Nat), k2 = kk + 2 → n2 = nn + 12 → ∀ (a4 : Int32) (h : z_H), K23 a4 h → k23 a4 h = 1 → z_Z p l e room_1 s m #[Value.ref b] below meth c D dA (fun q => s.heap.size ≤ q) s.heap 7 ad (lw_Z below #[Value.ref b] s) k2 n2 23 [some (.ref 36), some (.ref 0), some (.ref 20), some (.ref 35), some (.int a4), none, none] [] (z_o []) h) (a4 : Int32) (h : z_H), tk_L_law_611 L xs K23 a4 h → fn_L_law_611 L xs k23 a4 h = 1 → z_Z p l e room_1 s m #[Value.ref b] below meth c D dA (fun q => s.heap.size ≤ q) s.heap 7 ad (lw_Z below #[Value.ref b] s) (kk + 2) (nn + 12) 611 [some (.ref 36), some (.ref 0), some (.ref 20), some (.ref 35), some (.int a4), none, none] [] (z_o []) h := by
    intro k23 K23 kk nn h1 h2 hk23 a4 h T E
    unfold tk_L_law_611 at T; unfold fn_L_law_611 at E
    refine z_goto hC (off := 604) 1215 (by decide +kernel) (by decide) ?_
    refine z_widen (k' := kk + 2) (n' := nn + 12) (by omega) (by omega) ?_
    exact P1215 _ _ kk nn h1 h2 hk23 a4 h T E
  have P555 : ∀ (k23 : Int32 → z_H → Int32) (K23 : Int32 → z_H → Prop) (kk nn : Nat) (h1 : kk + 2 ≤ 601000) (h2 : nn + 12 ≤ 7293000) (hk23 : ∀ (k2 n2 : Nat), k2 = kk + 2 → n2 = nn + 12 → ∀ (a4 : Int32) (h : z_H), K23 a4 h → k23 a4 h = 1 → z_Z p l e room_1 s m #[Value.ref b] below meth c D dA (fun q => s.heap.size ≤ q) s.heap 7 ad (lw_Z below #[Value.ref b] s) k2 n2 23 [some (.ref 36), some (.ref 0), some (.ref 20), some (.ref 35), some (.int a4), none, none] [] (z_o []) h) (a4 : Int32) (h : z_H), tk_L_law_555 L xs K23 a4 h → fn_L_law_555 L xs k23 a4 h = 1 → z_Z p l e room_1 s m #[Value.ref b] below meth c D dA (fun q => s.heap.size ≤ q) s.heap 7 ad (lw_Z below #[Value.ref b] s) (kk + 2) (nn + 12) 555 [some (.ref 36), some (.ref 0), some (.ref 20), some (.ref 35), some (.int a4), none, none] [] (z_o []) h := by
    intro k23 K23 kk nn h1 h2 hk23 a4 h T E
    unfold tk_L_law_555 at T; unfold fn_L_law_555 at E
    refine z_goto hC (off := 660) 1215 (by decide +kernel) (by decide) ?_
    refine z_widen (k' := kk + 2) (n' := nn + 12) (by omega) (by omega) ?_
    exact P1215 _ _ kk nn h1 h2 hk23 a4 h T E
  have P499 : ∀ (k23 : Int32 → z_H → Int32) (K23 : Int32 → z_H → Prop) (kk nn : Nat) (h1 : kk + 2 ≤ 601000) (h2 : nn + 12 ≤ 7293000) (hk23 : ∀ (k2 n2 : Nat), k2 = kk + 2 → n2 = nn + 12 → ∀ (a4 : Int32) (h : z_H), K23 a4 h → k23 a4 h = 1 → z_Z p l e room_1 s m #[Value.ref b] below meth c D dA (fun q => s.heap.size ≤ q) s.heap 7 ad (lw_Z below #[Value.ref b] s) k2 n2 23 [some (.ref 36), some (.ref 0), some (.ref 20), some (.ref 35), some (.int a4), none, none] [] (z_o []) h) (a4 : Int32) (h : z_H), tk_L_law_499 L xs K23 a4 h → fn_L_law_499 L xs k23 a4 h = 1 → z_Z p l e room_1 s m #[Value.ref b] below meth c D dA (fun q => s.heap.size ≤ q) s.heap 7 ad (lw_Z below #[Value.ref b] s) (kk + 2) (nn + 12) 499 [some (.ref 36), some (.ref 0), some (.ref 20), some (.ref 35), some (.int a4), none, none] [] (z_o []) h := by
    intro k23 K23 kk nn h1 h2 hk23 a4 h T E
    unfold tk_L_law_499 at T; unfold fn_L_law_499 at E
    refine z_goto hC (off := 716) 1215 (by decide +kernel) (by decide) ?_
    refine z_widen (k' := kk + 2) (n' := nn + 12) (by omega) (by omega) ?_
    exact P1215 _ _ kk nn h1 h2 hk23 a4 h T E
  have P430 : ∀ (k23 : Int32 → z_H → Int32) (K23 : Int32 → z_H → Prop) (kk nn : Nat) (h1 : kk + 2 ≤ 601000) (h2 : nn + 12 ≤ 7293000) (hk23 : ∀ (k2 n2 : Nat), k2 = kk + 2 → n2 = nn + 12 → ∀ (a4 : Int32) (h : z_H), K23 a4 h → k23 a4 h = 1 → z_Z p l e room_1 s m #[Value.ref b] below meth c D dA (fun q => s.heap.size ≤ q) s.heap 7 ad (lw_Z below #[Value.ref b] s) k2 n2 23 [some (.ref 36), some (.ref 0), some (.ref 20), some (.ref 35), some (.int a4), none, none] [] (z_o []) h) (a4 : Int32) (h : z_H), tk_L_law_430 L xs K23 a4 h → fn_L_law_430 L xs k23 a4 h = 1 → z_Z p l e room_1 s m #[Value.ref b] below meth c D dA (fun q => s.heap.size ≤ q) s.heap 7 ad (lw_Z below #[Value.ref b] s) (kk + 1) (nn + 6) 430 [some (.ref 36), some (.ref 0), some (.ref 20), some (.ref 35), some (.int a4), none, none] [] (z_o []) h := by
    intro k23 K23 kk nn h1 h2 hk23 a4 h T E
    unfold tk_L_law_430 at T; unfold fn_L_law_430 at E
    refine z_goto hC (off := 785) 1215 (by decide +kernel) (by decide) ?_
    refine z_widen (k' := kk + 2) (n' := nn + 12) (by omega) (by omega) ?_
    exact P1215 _ _ kk nn h1 h2 hk23 a4 h T E
  have P424 : ∀ (k23 : Int32 → z_H → Int32) (K23 : Int32 → z_H → Prop) (kk nn : Nat) (h1 : kk + 2 ≤ 601000) (h2 : nn + 12 ≤ 7293000) (hk23 : ∀ (k2 n2 : Nat), k2 = kk + 2 → n2 = nn + 12 → ∀ (a4 : Int32) (h : z_H), K23 a4 h → k23 a4 h = 1 → z_Z p l e room_1 s m #[Value.ref b] below meth c D dA (fun q => s.heap.size ≤ q) s.heap 7 ad (lw_Z below #[Value.ref b] s) k2 n2 23 [some (.ref 36), some (.ref 0), some (.ref 20), some (.ref 35), some (.int a4), none, none] [] (z_o []) h) (a4 : Int32) (s0 : Int64) (s1 : Int64) (h : z_H), tk_L_law_424 L xs K23 a4 s0 s1 h → fn_L_law_424 L xs k23 a4 s0 s1 h = 1 → z_Z p l e room_1 s m #[Value.ref b] below meth c D dA (fun q => s.heap.size ≤ q) s.heap 7 ad (lw_Z below #[Value.ref b] s) (kk + 1) (nn + 6) 424 [some (.ref 36), some (.ref 0), some (.ref 20), some (.ref 35), some (.int a4), none, none] [.long s0, .long s1] (z_o []) h := by
    intro k23 K23 kk nn h1 h2 hk23 a4 s0 s1 h T E
    unfold tk_L_law_424 at T; unfold fn_L_law_424 at E
    refine z_go hC (pc' := 425) (ls' := [some (.ref 36), some (.ref 0), some (.ref 20), some (.ref 35), some (.int a4), none, none]) (st' := [.int (lg_cmp s1 s0)]) (h' := h) (cs := []) [.lcmp] (by decide +kernel) rfl rfl trivial ?_
    refine z_if_eq hC (off := 5) 430 (by decide +kernel) (by decide) (fun c2 => ?_) (fun c2 => ?_)
    · skip
      have E := (if_pos c2).symm.trans E
      have T := T.1 c2
      refine z_widen (k' := kk + 1) (n' := nn + 6) (by omega) (by omega) ?_
      exact P430 _ _ kk nn h1 h2 hk23 a4 h T E
    · skip
      have E := (if_neg c2).symm.trans E
      have T := T.2 c2
      refine z_go hC (pc' := 429) (ls' := [some (.ref 36), some (.ref 0), some (.ref 20), some (.ref 35), some (.int a4), none, none]) (st' := [.int (nI 0)]) (h' := h) (cs := []) [.iconst 0] (by decide +kernel) rfl rfl trivial ?_
      exact absurd E (by decide)
  have P367 : ∀ (k23 : Int32 → z_H → Int32) (K23 : Int32 → z_H → Prop) (kk nn : Nat) (h1 : kk + 2 ≤ 601000) (h2 : nn + 12 ≤ 7293000) (hk23 : ∀ (k2 n2 : Nat), k2 = kk + 2 → n2 = nn + 12 → ∀ (a4 : Int32) (h : z_H), K23 a4 h → k23 a4 h = 1 → z_Z p l e room_1 s m #[Value.ref b] below meth c D dA (fun q => s.heap.size ≤ q) s.heap 7 ad (lw_Z below #[Value.ref b] s) k2 n2 23 [some (.ref 36), some (.ref 0), some (.ref 20), some (.ref 35), some (.int a4), none, none] [] (z_o []) h) (a4 : Int32) (h : z_H), tk_L_law_367 L xs K23 a4 h → fn_L_law_367 L xs k23 a4 h = 1 → z_Z p l e room_1 s m #[Value.ref b] below meth c D dA (fun q => s.heap.size ≤ q) s.heap 7 ad (lw_Z below #[Value.ref b] s) (kk + 1) (nn + 6) 367 [some (.ref 36), some (.ref 0), some (.ref 20), some (.ref 35), some (.int a4), none, none] [] (z_o []) h := by
    intro k23 K23 kk nn h1 h2 hk23 a4 h T E
    unfold tk_L_law_367 at T; unfold fn_L_law_367 at E
    refine z_goto hC (off := 848) 1215 (by decide +kernel) (by decide) ?_
    refine z_widen (k' := kk + 2) (n' := nn + 12) (by omega) (by omega) ?_
    exact P1215 _ _ kk nn h1 h2 hk23 a4 h T E
  have P361 : ∀ (k23 : Int32 → z_H → Int32) (K23 : Int32 → z_H → Prop) (kk nn : Nat) (h1 : kk + 2 ≤ 601000) (h2 : nn + 12 ≤ 7293000) (hk23 : ∀ (k2 n2 : Nat), k2 = kk + 2 → n2 = nn + 12 → ∀ (a4 : Int32) (h : z_H), K23 a4 h → k23 a4 h = 1 → z_Z p l e room_1 s m #[Value.ref b] below meth c D dA (fun q => s.heap.size ≤ q) s.heap 7 ad (lw_Z below #[Value.ref b] s) k2 n2 23 [some (.ref 36), some (.ref 0), some (.ref 20), some (.ref 35), some (.int a4), none, none] [] (z_o []) h) (a4 : Int32) (s0 : Int64) (s1 : Int64) (h : z_H), tk_L_law_361 L xs K23 a4 s0 s1 h → fn_L_law_361 L xs k23 a4 s0 s1 h = 1 → z_Z p l e room_1 s m #[Value.ref b] below meth c D dA (fun q => s.heap.size ≤ q) s.heap 7 ad (lw_Z below #[Value.ref b] s) (kk + 1) (nn + 6) 361 [some (.ref 36), some (.ref 0), some (.ref 20), some (.ref 35), some (.int a4), none, none] [.long s0, .long s1] (z_o []) h := by
    intro k23 K23 kk nn h1 h2 hk23 a4 s0 s1 h T E
    unfold tk_L_law_361 at T; unfold fn_L_law_361 at E
    refine z_go hC (pc' := 362) (ls' := [some (.ref 36), some (.ref 0), some (.ref 20), some (.ref 35), some (.int a4), none, none]) (st' := [.int (lg_cmp s1 s0)]) (h' := h) (cs := []) [.lcmp] (by decide +kernel) rfl rfl trivial ?_
    refine z_if_eq hC (off := 5) 367 (by decide +kernel) (by decide) (fun c3 => ?_) (fun c3 => ?_)
    · skip
      have E := (if_pos c3).symm.trans E
      have T := T.1 c3
      refine z_widen (k' := kk + 1) (n' := nn + 6) (by omega) (by omega) ?_
      exact P367 _ _ kk nn h1 h2 hk23 a4 h T E
    · skip
      have E := (if_neg c3).symm.trans E
      have T := T.2 c3
      refine z_go hC (pc' := 366) (ls' := [some (.ref 36), some (.ref 0), some (.ref 20), some (.ref 35), some (.int a4), none, none]) (st' := [.int (nI 0)]) (h' := h) (cs := []) [.iconst 0] (by decide +kernel) rfl rfl trivial ?_
      exact absurd E (by decide)
  have P304 : ∀ (k23 : Int32 → z_H → Int32) (K23 : Int32 → z_H → Prop) (kk nn : Nat) (h1 : kk + 2 ≤ 601000) (h2 : nn + 12 ≤ 7293000) (hk23 : ∀ (k2 n2 : Nat), k2 = kk + 2 → n2 = nn + 12 → ∀ (a4 : Int32) (h : z_H), K23 a4 h → k23 a4 h = 1 → z_Z p l e room_1 s m #[Value.ref b] below meth c D dA (fun q => s.heap.size ≤ q) s.heap 7 ad (lw_Z below #[Value.ref b] s) k2 n2 23 [some (.ref 36), some (.ref 0), some (.ref 20), some (.ref 35), some (.int a4), none, none] [] (z_o []) h) (a4 : Int32) (h : z_H), tk_L_law_304 L xs K23 a4 h → fn_L_law_304 L xs k23 a4 h = 1 → z_Z p l e room_1 s m #[Value.ref b] below meth c D dA (fun q => s.heap.size ≤ q) s.heap 7 ad (lw_Z below #[Value.ref b] s) (kk + 2) (nn + 12) 304 [some (.ref 36), some (.ref 0), some (.ref 20), some (.ref 35), some (.int a4), none, none] [] (z_o []) h := by
    intro k23 K23 kk nn h1 h2 hk23 a4 h T E
    unfold tk_L_law_304 at T; unfold fn_L_law_304 at E
    refine z_goto hC (off := 911) 1215 (by decide +kernel) (by decide) ?_
    refine z_widen (k' := kk + 2) (n' := nn + 12) (by omega) (by omega) ?_
    exact P1215 _ _ kk nn h1 h2 hk23 a4 h T E
  have P236 : ∀ (k23 : Int32 → z_H → Int32) (K23 : Int32 → z_H → Prop) (kk nn : Nat) (h1 : kk + 2 ≤ 601000) (h2 : nn + 12 ≤ 7293000) (hk23 : ∀ (k2 n2 : Nat), k2 = kk + 2 → n2 = nn + 12 → ∀ (a4 : Int32) (h : z_H), K23 a4 h → k23 a4 h = 1 → z_Z p l e room_1 s m #[Value.ref b] below meth c D dA (fun q => s.heap.size ≤ q) s.heap 7 ad (lw_Z below #[Value.ref b] s) k2 n2 23 [some (.ref 36), some (.ref 0), some (.ref 20), some (.ref 35), some (.int a4), none, none] [] (z_o []) h) (a4 : Int32) (h : z_H), tk_L_law_236 L xs K23 a4 h → fn_L_law_236 L xs k23 a4 h = 1 → z_Z p l e room_1 s m #[Value.ref b] below meth c D dA (fun q => s.heap.size ≤ q) s.heap 7 ad (lw_Z below #[Value.ref b] s) (kk + 1) (nn + 6) 236 [some (.ref 36), some (.ref 0), some (.ref 20), some (.ref 35), some (.int a4), none, none] [] (z_o []) h := by
    intro k23 K23 kk nn h1 h2 hk23 a4 h T E
    unfold tk_L_law_236 at T; unfold fn_L_law_236 at E
    refine z_goto hC (off := 979) 1215 (by decide +kernel) (by decide) ?_
    refine z_widen (k' := kk + 2) (n' := nn + 12) (by omega) (by omega) ?_
    exact P1215 _ _ kk nn h1 h2 hk23 a4 h T E
  have P230 : ∀ (k23 : Int32 → z_H → Int32) (K23 : Int32 → z_H → Prop) (kk nn : Nat) (h1 : kk + 2 ≤ 601000) (h2 : nn + 12 ≤ 7293000) (hk23 : ∀ (k2 n2 : Nat), k2 = kk + 2 → n2 = nn + 12 → ∀ (a4 : Int32) (h : z_H), K23 a4 h → k23 a4 h = 1 → z_Z p l e room_1 s m #[Value.ref b] below meth c D dA (fun q => s.heap.size ≤ q) s.heap 7 ad (lw_Z below #[Value.ref b] s) k2 n2 23 [some (.ref 36), some (.ref 0), some (.ref 20), some (.ref 35), some (.int a4), none, none] [] (z_o []) h) (a4 : Int32) (s0 : Int64) (s1 : Int64) (h : z_H), tk_L_law_230 L xs K23 a4 s0 s1 h → fn_L_law_230 L xs k23 a4 s0 s1 h = 1 → z_Z p l e room_1 s m #[Value.ref b] below meth c D dA (fun q => s.heap.size ≤ q) s.heap 7 ad (lw_Z below #[Value.ref b] s) (kk + 1) (nn + 6) 230 [some (.ref 36), some (.ref 0), some (.ref 20), some (.ref 35), some (.int a4), none, none] [.long s0, .long s1] (z_o []) h := by
    intro k23 K23 kk nn h1 h2 hk23 a4 s0 s1 h T E
    unfold tk_L_law_230 at T; unfold fn_L_law_230 at E
    refine z_go hC (pc' := 231) (ls' := [some (.ref 36), some (.ref 0), some (.ref 20), some (.ref 35), some (.int a4), none, none]) (st' := [.int (lg_cmp s1 s0)]) (h' := h) (cs := []) [.lcmp] (by decide +kernel) rfl rfl trivial ?_
    refine z_if_eq hC (off := 5) 236 (by decide +kernel) (by decide) (fun c4 => ?_) (fun c4 => ?_)
    · skip
      have E := (if_pos c4).symm.trans E
      have T := T.1 c4
      refine z_widen (k' := kk + 1) (n' := nn + 6) (by omega) (by omega) ?_
      exact P236 _ _ kk nn h1 h2 hk23 a4 h T E
    · skip
      have E := (if_neg c4).symm.trans E
      have T := T.2 c4
      refine z_go hC (pc' := 235) (ls' := [some (.ref 36), some (.ref 0), some (.ref 20), some (.ref 35), some (.int a4), none, none]) (st' := [.int (nI 0)]) (h' := h) (cs := []) [.iconst 0] (by decide +kernel) rfl rfl trivial ?_
      exact absurd E (by decide)
  have P196 : ∀ (k23 : Int32 → z_H → Int32) (K23 : Int32 → z_H → Prop) (kk nn : Nat) (h1 : kk + 2 ≤ 601000) (h2 : nn + 12 ≤ 7293000) (hk23 : ∀ (k2 n2 : Nat), k2 = kk + 2 → n2 = nn + 12 → ∀ (a4 : Int32) (h : z_H), K23 a4 h → k23 a4 h = 1 → z_Z p l e room_1 s m #[Value.ref b] below meth c D dA (fun q => s.heap.size ≤ q) s.heap 7 ad (lw_Z below #[Value.ref b] s) k2 n2 23 [some (.ref 36), some (.ref 0), some (.ref 20), some (.ref 35), some (.int a4), none, none] [] (z_o []) h) (a4 : Int32) (a5 : Int32) (s0 : Int32) (s1 : Int32) (h : z_H), tk_L_law_196 L xs K23 a4 a5 s0 s1 h → fn_L_law_196 L xs k23 a4 a5 s0 s1 h = 1 → z_Z p l e room_1 s m #[Value.ref b] below meth c D dA (fun q => s.heap.size ≤ q) s.heap 7 ad (lw_Z below #[Value.ref b] s) (kk + 1) (nn + 6) 196 [some (.ref 36), some (.ref 0), some (.ref 20), some (.ref 35), some (.int a4), some (.int a5), none] [.int s0, .int s1, .ref 20] (z_o []) h := by
    intro k23 K23 kk nn h1 h2 hk23 a4 a5 s0 s1 h T E
    unfold tk_L_law_196 at T; unfold fn_L_law_196 at E
    obtain ⟨t8, T⟩ := T
    refine z_callV hC hN hR (as := [.int s1, .int s0]) (rest := []) ok_L_81 (by decide +kernel) (sp_X8_setWall l _ h s1 s0 t8) rfl rfl (Nat.le_of_ble_eq_true rfl) rfl rfl (Nat.le_of_ble_eq_true rfl) ⟨by show _ ≤ 601024; omega, by show _ ≤ 7293034; omega⟩ (fun r5 h6 q7 => z_funb q7 (fun z9 => ?_))
    refine z_go hC (pc' := 202) (ls' := [some (.ref 36), some (.ref 0), some (.ref 20), some (.ref 35), some (.int a4), some (.int a5), some (.int (z_vi (fn_X8_setWall s1 s0 h)))]) (st' := [.ref 20]) (h' := (fn_X8_setWall s1 s0 h).2) (cs := []) [.istore 6, .aload_n 2] (by decide +kernel) rfl rfl trivial ?_
    refine z_callV hC hN hR (as := []) (rest := []) ok_L_82 (by decide +kernel) (sp_X8_thrown l _ ((fn_X8_setWall s1 s0 h).2) ) rfl rfl (Nat.le_of_ble_eq_true rfl) rfl rfl (Nat.le_of_ble_eq_true rfl) ⟨by show _ ≤ 601024; omega, by show _ ≤ 7293034; omega⟩ (fun r10 h11 q12 => z_fun q12 ?_)
    refine z_go hC (pc' := 207) (ls' := [some (.ref 36), some (.ref 0), some (.ref 20), some (.ref 35), some (.int a4), some (.int a5), some (.int (z_vi (fn_X8_setWall s1 s0 h)))]) (st' := [.int a5, .int (((fn_X8_setWall s1 s0 h).2).1 20 0)]) (h' := (fn_X8_setWall s1 s0 h).2) (cs := []) [.iload 5] (by decide +kernel) rfl rfl trivial ?_
    refine z_icmp_eq hC (off := 5) 212 (by decide +kernel) (by decide) (fun c13 => ?_) (fun c13 => ?_)
    · skip
      have E := (if_pos c13).symm.trans E
      have T := T.1 c13
      refine z_go hC (pc' := 214) (ls' := [some (.ref 36), some (.ref 0), some (.ref 20), some (.ref 35), some (.int a4), some (.int a5), some (.int (z_vi (fn_X8_setWall s1 s0 h)))]) (st' := [.int a5]) (h' := (fn_X8_setWall s1 s0 h).2) (cs := []) [.iload 5] (by decide +kernel) rfl rfl trivial ?_
      refine z_if_ne hC (off := 22) 236 (by decide +kernel) (by decide) (fun c14 => ?_) (fun c14 => ?_)
      · skip
        have E := (if_neg c14).symm.trans E
        have T := T.2 c14
        refine z_less (ls' := [some (.ref 36), some (.ref 0), some (.ref 20), some (.ref 35), some (.int a4), none, none]) (by simp [z_sub]) ?_
        refine z_widen (k' := kk + 1) (n' := nn + 6) (by omega) (by omega) ?_
        exact P236 _ _ kk nn h1 h2 hk23 a4 ((fn_X8_setWall s1 s0 h).2) T E
      · skip
        have E := (if_pos c14).symm.trans E
        have T := T.1 c14
        refine z_go hC (pc' := 222) (ls' := [some (.ref 36), some (.ref 0), some (.ref 20), some (.ref 35), some (.int a4), some (.int a5), some (.int (z_vi (fn_X8_setWall s1 s0 h)))]) (st' := [.int (z_vi (fn_X8_setWall s1 s0 h)), .long (((fn_X8_setWall s1 s0 h).2).2 35 ((nI 0).toNatClampNeg))]) (h' := (fn_X8_setWall s1 s0 h).2) (cs := [vp_in (nI 0) 1]) [.aload_n 3, .iconst 0, .laload, .iload 6] (by decide +kernel) rfl rfl (vp_in_nI (n := 0) (N := 1) (by decide) (by decide)) ?_
        refine z_if_eq hC (off := 7) 229 (by decide +kernel) (by decide) (fun c15 => ?_) (fun c15 => ?_)
        · skip
          have E := (if_pos c15).symm.trans E
          have T := T.1 c15
          refine z_go hC (pc' := 230) (ls' := [some (.ref 36), some (.ref 0), some (.ref 20), some (.ref 35), some (.int a4), some (.int a5), some (.int (z_vi (fn_X8_setWall s1 s0 h)))]) (st' := [.long 0, .long (((fn_X8_setWall s1 s0 h).2).2 35 ((nI 0).toNatClampNeg))]) (h' := (fn_X8_setWall s1 s0 h).2) (cs := []) [.lconst 0] (by decide +kernel) rfl rfl trivial ?_
          refine z_less (ls' := [some (.ref 36), some (.ref 0), some (.ref 20), some (.ref 35), some (.int a4), none, none]) (by simp [z_sub]) ?_
          refine z_widen (k' := kk + 1) (n' := nn + 6) (by omega) (by omega) ?_
          exact P230 _ _ kk nn h1 h2 hk23 a4 0 (((fn_X8_setWall s1 s0 h).2).2 35 ((nI 0).toNatClampNeg)) ((fn_X8_setWall s1 s0 h).2) T E
        · skip
          have E := (if_neg c15).symm.trans E
          have T := T.2 c15
          refine z_go hC (pc' := 226) (ls' := [some (.ref 36), some (.ref 0), some (.ref 20), some (.ref 35), some (.int a4), some (.int a5), some (.int (z_vi (fn_X8_setWall s1 s0 h)))]) (st' := [.long 1, .long (((fn_X8_setWall s1 s0 h).2).2 35 ((nI 0).toNatClampNeg))]) (h' := (fn_X8_setWall s1 s0 h).2) (cs := []) [.lconst 1] (by decide +kernel) rfl rfl trivial ?_
          refine z_goto hC (off := 4) 230 (by decide +kernel) (by decide) ?_
          refine z_less (ls' := [some (.ref 36), some (.ref 0), some (.ref 20), some (.ref 35), some (.int a4), none, none]) (by simp [z_sub]) ?_
          refine z_widen (k' := kk + 1) (n' := nn + 6) (by omega) (by omega) ?_
          exact P230 _ _ kk nn h1 h2 hk23 a4 1 (((fn_X8_setWall s1 s0 h).2).2 35 ((nI 0).toNatClampNeg)) ((fn_X8_setWall s1 s0 h).2) T E
    · skip
      have E := (if_neg c13).symm.trans E
      have T := T.2 c13
      refine z_go hC (pc' := 211) (ls' := [some (.ref 36), some (.ref 0), some (.ref 20), some (.ref 35), some (.int a4), some (.int a5), some (.int (z_vi (fn_X8_setWall s1 s0 h)))]) (st' := [.int (nI 0)]) (h' := (fn_X8_setWall s1 s0 h).2) (cs := []) [.iconst 0] (by decide +kernel) rfl rfl trivial ?_
      exact absurd E (by decide)
  have P169 : ∀ (k23 : Int32 → z_H → Int32) (K23 : Int32 → z_H → Prop) (kk nn : Nat) (h1 : kk + 2 ≤ 601000) (h2 : nn + 12 ≤ 7293000) (hk23 : ∀ (k2 n2 : Nat), k2 = kk + 2 → n2 = nn + 12 → ∀ (a4 : Int32) (h : z_H), K23 a4 h → k23 a4 h = 1 → z_Z p l e room_1 s m #[Value.ref b] below meth c D dA (fun q => s.heap.size ≤ q) s.heap 7 ad (lw_Z below #[Value.ref b] s) k2 n2 23 [some (.ref 36), some (.ref 0), some (.ref 20), some (.ref 35), some (.int a4), none, none] [] (z_o []) h) (a4 : Int32) (s0 : Int32) (s1 : Int32) (h : z_H), tk_L_law_169 L xs K23 a4 s0 s1 h → fn_L_law_169 L xs k23 a4 s0 s1 h = 1 → z_Z p l e room_1 s m #[Value.ref b] below meth c D dA (fun q => s.heap.size ≤ q) s.heap 7 ad (lw_Z below #[Value.ref b] s) (kk + 0) (nn + 0) 169 [some (.ref 36), some (.ref 0), some (.ref 20), some (.ref 35), some (.int a4), none, none] [.int s0, .int s1, .ref 0] (z_o []) h := by
    intro k23 K23 kk nn h1 h2 hk23 a4 s0 s1 h T E
    unfold tk_L_law_169 at T; unfold fn_L_law_169 at E
    refine z_go hC (pc' := 170) (ls' := [some (.ref 36), some (.ref 0), some (.ref 20), some (.ref 35), some (.int a4), none, none]) (st' := [.ref 35, .int s0, .int s1, .ref 0]) (h' := h) (cs := []) [.aload_n 3] (by decide +kernel) rfl rfl trivial ?_
    obtain ⟨t16, T⟩ := T
    refine z_callSh hC hN hR hZ hKin (as := [.ref 0, .int s1, .int s0, .ref 35]) (rest := []) ok_L_76 (by decide +kernel) (sp_L_setWall l hl0 _ h s1 s0 t16) (Nat.le_of_ble_eq_true rfl) rfl rfl (Nat.le_of_ble_eq_true rfl) ⟨by show _ ≤ 601024; omega, by show _ ≤ 7293034; omega⟩ (fun Ex qx => False.elim qx) (fun rv hh q17 => z_fun q17 ?_)
    refine z_go hC (pc' := 181) (ls' := [some (.ref 36), some (.ref 0), some (.ref 20), some (.ref 35), some (.int a4), some (.int (z_vi (fn_L_setWall s1 s0 h))), none]) (st' := [.int (a4 + (nI 1)), .ref 36, .ref 20]) (h' := (fn_L_setWall s1 s0 h).2) (cs := []) [.istore 5, .aload_n 2, .aload_n 0, .iload 4, .iconst 1, .iadd] (by decide +kernel) rfl rfl trivial ?_
    obtain ⟨t18, T⟩ := T
    refine z_sld hC hX hbl hbA had (by decide +kernel) t18 ?_
    refine z_go hC (pc' := 187) (ls' := [some (.ref 36), some (.ref 0), some (.ref 20), some (.ref 35), some (.int a4), some (.int (z_vi (fn_L_setWall s1 s0 h))), none]) (st' := [.int (a4 + (nI 2)), .ref 36, .int (xs (a4 + (nI 1)).toNatClampNeg), .ref 20]) (h' := (fn_L_setWall s1 s0 h).2) (cs := []) [.aload_n 0, .iload 4, .iconst 2, .iadd] (by decide +kernel) rfl rfl trivial ?_
    obtain ⟨t19, T⟩ := T
    refine z_sld hC hX hbl hbA had (by decide +kernel) t19 ?_
    refine z_if_eq hC (off := 7) 195 (by decide +kernel) (by decide) (fun c20 => ?_) (fun c20 => ?_)
    · skip
      have E := (if_pos c20).symm.trans E
      have T := T.1 c20
      refine z_go hC (pc' := 196) (ls' := [some (.ref 36), some (.ref 0), some (.ref 20), some (.ref 35), some (.int a4), some (.int (z_vi (fn_L_setWall s1 s0 h))), none]) (st' := [.int (nI 0), .int (xs (a4 + (nI 1)).toNatClampNeg), .ref 20]) (h' := (fn_L_setWall s1 s0 h).2) (cs := []) [.iconst 0] (by decide +kernel) rfl rfl trivial ?_
      refine z_widen (k' := kk + 1) (n' := nn + 6) (by omega) (by omega) ?_
      exact P196 _ _ kk nn h1 h2 hk23 a4 (z_vi (fn_L_setWall s1 s0 h)) (nI 0) (xs (a4 + (nI 1)).toNatClampNeg) ((fn_L_setWall s1 s0 h).2) T E
    · skip
      have E := (if_neg c20).symm.trans E
      have T := T.2 c20
      refine z_go hC (pc' := 192) (ls' := [some (.ref 36), some (.ref 0), some (.ref 20), some (.ref 35), some (.int a4), some (.int (z_vi (fn_L_setWall s1 s0 h))), none]) (st' := [.int (nI 1), .int (xs (a4 + (nI 1)).toNatClampNeg), .ref 20]) (h' := (fn_L_setWall s1 s0 h).2) (cs := []) [.iconst 1] (by decide +kernel) rfl rfl trivial ?_
      refine z_goto hC (off := 4) 196 (by decide +kernel) (by decide) ?_
      refine z_widen (k' := kk + 1) (n' := nn + 6) (by omega) (by omega) ?_
      exact P196 _ _ kk nn h1 h2 hk23 a4 (z_vi (fn_L_setWall s1 s0 h)) (nI 1) (xs (a4 + (nI 1)).toNatClampNeg) ((fn_L_setWall s1 s0 h).2) T E
  intro n
  induction n with
  | zero => intro kk nn _ _ a4 h T E; exact False.elim T
  | succ n ih =>
    intro kk nn h1 h2 a4 h T E
    unfold tk_L_law_23 at T; unfold fn_L_law_23 at E; dsimp only at T E
    have hk23 : ∀ (k2 n2 : Nat), k2 = kk + 2 → n2 = nn + 12 → ∀ (a4 : Int32) (h : z_H), tk_L_law_23 L xs n a4 h → fn_L_law_23 L xs n a4 h = 1 → z_Z p l e room_1 s m #[Value.ref b] below meth c D dA (fun q => s.heap.size ≤ q) s.heap 7 ad (lw_Z below #[Value.ref b] s) k2 n2 23 [some (.ref 36), some (.ref 0), some (.ref 20), some (.ref 35), some (.int a4), none, none] [] (z_o []) h := fun k2 n2 e1 e2 a4 h T E => ih k2 n2 (by omega) (by omega) a4 h T E
    have h1 : kk + 2 ≤ 601000 := by omega
    have h2 : nn + 12 ≤ 7293000 := by omega
    refine z_go hC (pc' := 26) (ls' := [some (.ref 36), some (.ref 0), some (.ref 20), some (.ref 35), some (.int a4), none, none]) (st' := [.ref 36, .int a4]) (h' := h) (cs := []) [.iload 4, .aload_n 0] (by decide +kernel) rfl rfl trivial ?_
    refine z_sle hC hX hbl hbA had (by decide +kernel) ?_
    refine z_go hC (pc' := 29) (ls' := [some (.ref 36), some (.ref 0), some (.ref 20), some (.ref 35), some (.int a4), none, none]) (st' := [.int ((nI L) - (nI 3)), .int a4]) (h' := h) (cs := []) [.iconst 3, .isub] (by decide +kernel) rfl rfl trivial ?_
    refine z_icmp_gt hC (off := 1192) 1221 (by decide +kernel) (by decide) (fun c21 => ?_) (fun c21 => ?_)
    · skip
      have E := (if_pos c21).symm.trans E
      have T := T.1 c21
      refine z_go hC (pc' := 1222) (ls' := [some (.ref 36), some (.ref 0), some (.ref 20), some (.ref 35), some (.int a4), none, none]) (st' := [.int (nI 1)]) (h' := h) (cs := []) [.iconst 1] (by decide +kernel) rfl rfl trivial ?_
      refine z_widen (k' := 601024) (n' := 7293034) (by omega) (by omega) ?_
      exact z_lawret hC hret hlk (by decide +kernel)
    · skip
      have E := (if_neg c21).symm.trans E
      have T := T.2 c21
      refine z_go hC (pc' := 35) (ls' := [some (.ref 36), some (.ref 0), some (.ref 20), some (.ref 35), some (.int a4), none, none]) (st' := [.int a4, .ref 36]) (h' := h) (cs := []) [.aload_n 0, .iload 4] (by decide +kernel) rfl rfl trivial ?_
      obtain ⟨t22, T⟩ := T
      refine z_sld hC hX hbl hbA had (by decide +kernel) t22 ?_
      refine z_go hC (pc' := 39) (ls' := [some (.ref 36), some (.ref 0), some (.ref 20), some (.ref 35), some (.int a4), none, none]) (st' := [.int ((xs a4.toNatClampNeg) &&& (nI 31))]) (h' := h) (cs := []) [.bipush 31, .iand] (by decide +kernel) rfl rfl trivial ?_
      by_cases c23 : ((xs a4.toNatClampNeg) &&& (nI 31)) = nI 0
      · skip
        have E := (if_pos c23).symm.trans E
        have T := T.1 c23
        refine z_tabIn hC (dflt := 1176) (lo := 0) (hi := 23) (offs := #[109, 200, 268, 331, 394, 407, 463, 519, 575, 623, 667, 723, 779, 835, 848, 861, 874, 930, 943, 956, 1019, 1032, 1088, 1132]) (len := 109) (off := 109) 148 (by decide +kernel) (by rw [c23]; decide) (by rw [c23]; decide) (by rw [c23]; rfl) (by decide) ?_
        refine z_go hC (pc' := 154) (ls' := [some (.ref 36), some (.ref 0), some (.ref 20), some (.ref 35), some (.int a4), none, none]) (st' := [.int (a4 + (nI 1)), .ref 36, .ref 0]) (h' := h) (cs := []) [.aload_n 1, .aload_n 0, .iload 4, .iconst 1, .iadd] (by decide +kernel) rfl rfl trivial ?_
        obtain ⟨t318, T⟩ := T
        refine z_sld hC hX hbl hbA had (by decide +kernel) t318 ?_
        refine z_go hC (pc' := 160) (ls' := [some (.ref 36), some (.ref 0), some (.ref 20), some (.ref 35), some (.int a4), none, none]) (st' := [.int (a4 + (nI 2)), .ref 36, .int (xs (a4 + (nI 1)).toNatClampNeg), .ref 0]) (h' := h) (cs := []) [.aload_n 0, .iload 4, .iconst 2, .iadd] (by decide +kernel) rfl rfl trivial ?_
        obtain ⟨t319, T⟩ := T
        refine z_sld hC hX hbl hbA had (by decide +kernel) t319 ?_
        refine z_if_eq hC (off := 7) 168 (by decide +kernel) (by decide) (fun c320 => ?_) (fun c320 => ?_)
        · skip
          have E := (if_pos c320).symm.trans E
          have T := T.1 c320
          refine z_go hC (pc' := 169) (ls' := [some (.ref 36), some (.ref 0), some (.ref 20), some (.ref 35), some (.int a4), none, none]) (st' := [.int (nI 0), .int (xs (a4 + (nI 1)).toNatClampNeg), .ref 0]) (h' := h) (cs := []) [.iconst 0] (by decide +kernel) rfl rfl trivial ?_
          refine z_widen (k' := kk + 0) (n' := nn + 0) (by omega) (by omega) ?_
          exact P169 _ _ kk nn h1 h2 hk23 a4 (nI 0) (xs (a4 + (nI 1)).toNatClampNeg) h T E
        · skip
          have E := (if_neg c320).symm.trans E
          have T := T.2 c320
          refine z_go hC (pc' := 165) (ls' := [some (.ref 36), some (.ref 0), some (.ref 20), some (.ref 35), some (.int a4), none, none]) (st' := [.int (nI 1), .int (xs (a4 + (nI 1)).toNatClampNeg), .ref 0]) (h' := h) (cs := []) [.iconst 1] (by decide +kernel) rfl rfl trivial ?_
          refine z_goto hC (off := 4) 169 (by decide +kernel) (by decide) ?_
          refine z_widen (k' := kk + 0) (n' := nn + 0) (by omega) (by omega) ?_
          exact P169 _ _ kk nn h1 h2 hk23 a4 (nI 1) (xs (a4 + (nI 1)).toNatClampNeg) h T E
      · skip
        have E := (if_neg c23).symm.trans E
        have T := T.2 c23
        by_cases c24 : ((xs a4.toNatClampNeg) &&& (nI 31)) = nI 1
        · skip
          have E := (if_pos c24).symm.trans E
          have T := T.1 c24
          refine z_tabIn hC (dflt := 1176) (lo := 0) (hi := 23) (offs := #[109, 200, 268, 331, 394, 407, 463, 519, 575, 623, 667, 723, 779, 835, 848, 861, 874, 930, 943, 956, 1019, 1032, 1088, 1132]) (len := 109) (off := 200) 239 (by decide +kernel) (by rw [c24]; decide) (by rw [c24]; decide) (by rw [c24]; rfl) (by decide) ?_
          refine z_go hC (pc' := 245) (ls' := [some (.ref 36), some (.ref 0), some (.ref 20), some (.ref 35), some (.int a4), none, none]) (st' := [.int (a4 + (nI 1)), .ref 36, .ref 0]) (h' := h) (cs := []) [.aload_n 1, .aload_n 0, .iload 4, .iconst 1, .iadd] (by decide +kernel) rfl rfl trivial ?_
          obtain ⟨t302, T⟩ := T
          refine z_sld hC hX hbl hbA had (by decide +kernel) t302 ?_
          refine z_go hC (pc' := 251) (ls' := [some (.ref 36), some (.ref 0), some (.ref 20), some (.ref 35), some (.int a4), none, none]) (st' := [.int (a4 + (nI 2)), .ref 36, .int (xs (a4 + (nI 1)).toNatClampNeg), .ref 0]) (h' := h) (cs := []) [.aload_n 0, .iload 4, .iconst 2, .iadd] (by decide +kernel) rfl rfl trivial ?_
          obtain ⟨t303, T⟩ := T
          refine z_sld hC hX hbl hbA had (by decide +kernel) t303 ?_
          refine z_go hC (pc' := 253) (ls' := [some (.ref 36), some (.ref 0), some (.ref 20), some (.ref 35), some (.int a4), none, none]) (st' := [.ref 35, .int (xs (a4 + (nI 2)).toNatClampNeg), .int (xs (a4 + (nI 1)).toNatClampNeg), .ref 0]) (h' := h) (cs := []) [.aload_n 3] (by decide +kernel) rfl rfl trivial ?_
          obtain ⟨t304, T⟩ := T
          refine z_callSh hC hN hR hZ hKin (as := [.ref 0, .int (xs (a4 + (nI 1)).toNatClampNeg), .int (xs (a4 + (nI 2)).toNatClampNeg), .ref 35]) (rest := []) ok_L_85 (by decide +kernel) (sp_L_setLink l hl0 _ h (xs (a4 + (nI 1)).toNatClampNeg) (xs (a4 + (nI 2)).toNatClampNeg) t304) (Nat.le_of_ble_eq_true rfl) rfl rfl (Nat.le_of_ble_eq_true rfl) ⟨by show _ ≤ 601024; omega, by show _ ≤ 7293034; omega⟩ (fun Ex qx => False.elim qx) (fun rv hh q305 => z_fun q305 ?_)
          refine z_go hC (pc' := 264) (ls' := [some (.ref 36), some (.ref 0), some (.ref 20), some (.ref 35), some (.int a4), some (.int (z_vi (fn_L_setLink (xs (a4 + (nI 1)).toNatClampNeg) (xs (a4 + (nI 2)).toNatClampNeg) h))), none]) (st' := [.int (a4 + (nI 1)), .ref 36, .ref 20]) (h' := (fn_L_setLink (xs (a4 + (nI 1)).toNatClampNeg) (xs (a4 + (nI 2)).toNatClampNeg) h).2) (cs := []) [.istore 5, .aload_n 2, .aload_n 0, .iload 4, .iconst 1, .iadd] (by decide +kernel) rfl rfl trivial ?_
          obtain ⟨t306, T⟩ := T
          refine z_sld hC hX hbl hbA had (by decide +kernel) t306 ?_
          refine z_go hC (pc' := 270) (ls' := [some (.ref 36), some (.ref 0), some (.ref 20), some (.ref 35), some (.int a4), some (.int (z_vi (fn_L_setLink (xs (a4 + (nI 1)).toNatClampNeg) (xs (a4 + (nI 2)).toNatClampNeg) h))), none]) (st' := [.int (a4 + (nI 2)), .ref 36, .int (xs (a4 + (nI 1)).toNatClampNeg), .ref 20]) (h' := (fn_L_setLink (xs (a4 + (nI 1)).toNatClampNeg) (xs (a4 + (nI 2)).toNatClampNeg) h).2) (cs := []) [.aload_n 0, .iload 4, .iconst 2, .iadd] (by decide +kernel) rfl rfl trivial ?_
          obtain ⟨t307, T⟩ := T
          refine z_sld hC hX hbl hbA had (by decide +kernel) t307 ?_
          obtain ⟨t311, T⟩ := T
          refine z_callV hC hN hR (as := [.int (xs (a4 + (nI 1)).toNatClampNeg), .int (xs (a4 + (nI 2)).toNatClampNeg)]) (rest := []) ok_L_88 (by decide +kernel) (sp_X8_setLink l _ ((fn_L_setLink (xs (a4 + (nI 1)).toNatClampNeg) (xs (a4 + (nI 2)).toNatClampNeg) h).2) (xs (a4 + (nI 1)).toNatClampNeg) (xs (a4 + (nI 2)).toNatClampNeg) t311) rfl rfl (Nat.le_of_ble_eq_true rfl) rfl rfl (Nat.le_of_ble_eq_true rfl) ⟨by show _ ≤ 601024; omega, by show _ ≤ 7293034; omega⟩ (fun r308 h309 q310 => z_fun q310 ?_)
          refine z_go hC (pc' := 277) (ls' := [some (.ref 36), some (.ref 0), some (.ref 20), some (.ref 35), some (.int a4), some (.int (z_vi (fn_L_setLink (xs (a4 + (nI 1)).toNatClampNeg) (xs (a4 + (nI 2)).toNatClampNeg) h))), some (.int (z_vi (fn_X8_setLink (xs (a4 + (nI 1)).toNatClampNeg) (xs (a4 + (nI 2)).toNatClampNeg) ((fn_L_setLink (xs (a4 + (nI 1)).toNatClampNeg) (xs (a4 + (nI 2)).toNatClampNeg) h).2))))]) (st' := [.ref 20]) (h' := (fn_X8_setLink (xs (a4 + (nI 1)).toNatClampNeg) (xs (a4 + (nI 2)).toNatClampNeg) ((fn_L_setLink (xs (a4 + (nI 1)).toNatClampNeg) (xs (a4 + (nI 2)).toNatClampNeg) h).2)).2) (cs := []) [.istore 6, .aload_n 2] (by decide +kernel) rfl rfl trivial ?_
          refine z_callV hC hN hR (as := []) (rest := []) ok_L_82 (by decide +kernel) (sp_X8_thrown l _ ((fn_X8_setLink (xs (a4 + (nI 1)).toNatClampNeg) (xs (a4 + (nI 2)).toNatClampNeg) ((fn_L_setLink (xs (a4 + (nI 1)).toNatClampNeg) (xs (a4 + (nI 2)).toNatClampNeg) h).2)).2) ) rfl rfl (Nat.le_of_ble_eq_true rfl) rfl rfl (Nat.le_of_ble_eq_true rfl) ⟨by show _ ≤ 601024; omega, by show _ ≤ 7293034; omega⟩ (fun r312 h313 q314 => z_fun q314 ?_)
          refine z_go hC (pc' := 282) (ls' := [some (.ref 36), some (.ref 0), some (.ref 20), some (.ref 35), some (.int a4), some (.int (z_vi (fn_L_setLink (xs (a4 + (nI 1)).toNatClampNeg) (xs (a4 + (nI 2)).toNatClampNeg) h))), some (.int (z_vi (fn_X8_setLink (xs (a4 + (nI 1)).toNatClampNeg) (xs (a4 + (nI 2)).toNatClampNeg) ((fn_L_setLink (xs (a4 + (nI 1)).toNatClampNeg) (xs (a4 + (nI 2)).toNatClampNeg) h).2))))]) (st' := [.int (z_vi (fn_L_setLink (xs (a4 + (nI 1)).toNatClampNeg) (xs (a4 + (nI 2)).toNatClampNeg) h)), .int (((fn_X8_setLink (xs (a4 + (nI 1)).toNatClampNeg) (xs (a4 + (nI 2)).toNatClampNeg) ((fn_L_setLink (xs (a4 + (nI 1)).toNatClampNeg) (xs (a4 + (nI 2)).toNatClampNeg) h).2)).2).1 20 0)]) (h' := (fn_X8_setLink (xs (a4 + (nI 1)).toNatClampNeg) (xs (a4 + (nI 2)).toNatClampNeg) ((fn_L_setLink (xs (a4 + (nI 1)).toNatClampNeg) (xs (a4 + (nI 2)).toNatClampNeg) h).2)).2) (cs := []) [.iload 5] (by decide +kernel) rfl rfl trivial ?_
          refine z_icmp_eq hC (off := 5) 287 (by decide +kernel) (by decide) (fun c315 => ?_) (fun c315 => ?_)
          · skip
            have E := (if_pos c315).symm.trans E
            have T := T.1 c315
            refine z_go hC (pc' := 289) (ls' := [some (.ref 36), some (.ref 0), some (.ref 20), some (.ref 35), some (.int a4), some (.int (z_vi (fn_L_setLink (xs (a4 + (nI 1)).toNatClampNeg) (xs (a4 + (nI 2)).toNatClampNeg) h))), some (.int (z_vi (fn_X8_setLink (xs (a4 + (nI 1)).toNatClampNeg) (xs (a4 + (nI 2)).toNatClampNeg) ((fn_L_setLink (xs (a4 + (nI 1)).toNatClampNeg) (xs (a4 + (nI 2)).toNatClampNeg) h).2))))]) (st' := [.int (z_vi (fn_L_setLink (xs (a4 + (nI 1)).toNatClampNeg) (xs (a4 + (nI 2)).toNatClampNeg) h))]) (h' := (fn_X8_setLink (xs (a4 + (nI 1)).toNatClampNeg) (xs (a4 + (nI 2)).toNatClampNeg) ((fn_L_setLink (xs (a4 + (nI 1)).toNatClampNeg) (xs (a4 + (nI 2)).toNatClampNeg) h).2)).2) (cs := []) [.iload 5] (by decide +kernel) rfl rfl trivial ?_
            refine z_if_ne hC (off := 15) 304 (by decide +kernel) (by decide) (fun c316 => ?_) (fun c316 => ?_)
            · skip
              have E := (if_neg c316).symm.trans E
              have T := T.2 c316
              refine z_less (ls' := [some (.ref 36), some (.ref 0), some (.ref 20), some (.ref 35), some (.int a4), none, none]) (by simp [z_sub]) ?_
              refine z_widen (k' := kk + 2) (n' := nn + 12) (by omega) (by omega) ?_
              exact P304 _ _ kk nn h1 h2 hk23 a4 ((fn_X8_setLink (xs (a4 + (nI 1)).toNatClampNeg) (xs (a4 + (nI 2)).toNatClampNeg) ((fn_L_setLink (xs (a4 + (nI 1)).toNatClampNeg) (xs (a4 + (nI 2)).toNatClampNeg) h).2)).2) T E
            · skip
              have E := (if_pos c316).symm.trans E
              have T := T.1 c316
              refine z_go hC (pc' := 299) (ls' := [some (.ref 36), some (.ref 0), some (.ref 20), some (.ref 35), some (.int a4), some (.int (z_vi (fn_L_setLink (xs (a4 + (nI 1)).toNatClampNeg) (xs (a4 + (nI 2)).toNatClampNeg) h))), some (.int (z_vi (fn_X8_setLink (xs (a4 + (nI 1)).toNatClampNeg) (xs (a4 + (nI 2)).toNatClampNeg) ((fn_L_setLink (xs (a4 + (nI 1)).toNatClampNeg) (xs (a4 + (nI 2)).toNatClampNeg) h).2))))]) (st' := [.int (lg_cmp (((fn_X8_setLink (xs (a4 + (nI 1)).toNatClampNeg) (xs (a4 + (nI 2)).toNatClampNeg) ((fn_L_setLink (xs (a4 + (nI 1)).toNatClampNeg) (xs (a4 + (nI 2)).toNatClampNeg) h).2)).2).2 35 ((nI 0).toNatClampNeg)) ((z_vi (fn_X8_setLink (xs (a4 + (nI 1)).toNatClampNeg) (xs (a4 + (nI 2)).toNatClampNeg) ((fn_L_setLink (xs (a4 + (nI 1)).toNatClampNeg) (xs (a4 + (nI 2)).toNatClampNeg) h).2))).toInt64))]) (h' := (fn_X8_setLink (xs (a4 + (nI 1)).toNatClampNeg) (xs (a4 + (nI 2)).toNatClampNeg) ((fn_L_setLink (xs (a4 + (nI 1)).toNatClampNeg) (xs (a4 + (nI 2)).toNatClampNeg) h).2)).2) (cs := [vp_in (nI 0) 1]) [.aload_n 3, .iconst 0, .laload, .iload 6, .i2l, .lcmp] (by decide +kernel) rfl rfl (vp_in_nI (n := 0) (N := 1) (by decide) (by decide)) ?_
              refine z_if_eq hC (off := 5) 304 (by decide +kernel) (by decide) (fun c317 => ?_) (fun c317 => ?_)
              · skip
                have E := (if_pos c317).symm.trans E
                have T := T.1 c317
                refine z_less (ls' := [some (.ref 36), some (.ref 0), some (.ref 20), some (.ref 35), some (.int a4), none, none]) (by simp [z_sub]) ?_
                refine z_widen (k' := kk + 2) (n' := nn + 12) (by omega) (by omega) ?_
                exact P304 _ _ kk nn h1 h2 hk23 a4 ((fn_X8_setLink (xs (a4 + (nI 1)).toNatClampNeg) (xs (a4 + (nI 2)).toNatClampNeg) ((fn_L_setLink (xs (a4 + (nI 1)).toNatClampNeg) (xs (a4 + (nI 2)).toNatClampNeg) h).2)).2) T E
              · skip
                have E := (if_neg c317).symm.trans E
                have T := T.2 c317
                refine z_go hC (pc' := 303) (ls' := [some (.ref 36), some (.ref 0), some (.ref 20), some (.ref 35), some (.int a4), some (.int (z_vi (fn_L_setLink (xs (a4 + (nI 1)).toNatClampNeg) (xs (a4 + (nI 2)).toNatClampNeg) h))), some (.int (z_vi (fn_X8_setLink (xs (a4 + (nI 1)).toNatClampNeg) (xs (a4 + (nI 2)).toNatClampNeg) ((fn_L_setLink (xs (a4 + (nI 1)).toNatClampNeg) (xs (a4 + (nI 2)).toNatClampNeg) h).2))))]) (st' := [.int (nI 0)]) (h' := (fn_X8_setLink (xs (a4 + (nI 1)).toNatClampNeg) (xs (a4 + (nI 2)).toNatClampNeg) ((fn_L_setLink (xs (a4 + (nI 1)).toNatClampNeg) (xs (a4 + (nI 2)).toNatClampNeg) h).2)).2) (cs := []) [.iconst 0] (by decide +kernel) rfl rfl trivial ?_
                exact absurd E (by decide)
          · skip
            have E := (if_neg c315).symm.trans E
            have T := T.2 c315
            refine z_go hC (pc' := 286) (ls' := [some (.ref 36), some (.ref 0), some (.ref 20), some (.ref 35), some (.int a4), some (.int (z_vi (fn_L_setLink (xs (a4 + (nI 1)).toNatClampNeg) (xs (a4 + (nI 2)).toNatClampNeg) h))), some (.int (z_vi (fn_X8_setLink (xs (a4 + (nI 1)).toNatClampNeg) (xs (a4 + (nI 2)).toNatClampNeg) ((fn_L_setLink (xs (a4 + (nI 1)).toNatClampNeg) (xs (a4 + (nI 2)).toNatClampNeg) h).2))))]) (st' := [.int (nI 0)]) (h' := (fn_X8_setLink (xs (a4 + (nI 1)).toNatClampNeg) (xs (a4 + (nI 2)).toNatClampNeg) ((fn_L_setLink (xs (a4 + (nI 1)).toNatClampNeg) (xs (a4 + (nI 2)).toNatClampNeg) h).2)).2) (cs := []) [.iconst 0] (by decide +kernel) rfl rfl trivial ?_
            exact absurd E (by decide)
        · skip
          have E := (if_neg c24).symm.trans E
          have T := T.2 c24
          by_cases c25 : ((xs a4.toNatClampNeg) &&& (nI 31)) = nI 2
          · skip
            have E := (if_pos c25).symm.trans E
            have T := T.1 c25
            refine z_tabIn hC (dflt := 1176) (lo := 0) (hi := 23) (offs := #[109, 200, 268, 331, 394, 407, 463, 519, 575, 623, 667, 723, 779, 835, 848, 861, 874, 930, 943, 956, 1019, 1032, 1088, 1132]) (len := 109) (off := 268) 307 (by decide +kernel) (by rw [c25]; decide) (by rw [c25]; decide) (by rw [c25]; rfl) (by decide) ?_
            refine z_go hC (pc' := 313) (ls' := [some (.ref 36), some (.ref 0), some (.ref 20), some (.ref 35), some (.int a4), none, none]) (st' := [.int (a4 + (nI 1)), .ref 36, .ref 0]) (h' := h) (cs := []) [.aload_n 1, .aload_n 0, .iload 4, .iconst 1, .iadd] (by decide +kernel) rfl rfl trivial ?_
            obtain ⟨t288, T⟩ := T
            refine z_sld hC hX hbl hbA had (by decide +kernel) t288 ?_
            refine z_go hC (pc' := 315) (ls' := [some (.ref 36), some (.ref 0), some (.ref 20), some (.ref 35), some (.int a4), none, none]) (st' := [.ref 35, .int (xs (a4 + (nI 1)).toNatClampNeg), .ref 0]) (h' := h) (cs := []) [.aload_n 3] (by decide +kernel) rfl rfl trivial ?_
            refine z_callSh hC hN hR hZ hKin (as := [.ref 0, .int (xs (a4 + (nI 1)).toNatClampNeg), .ref 35]) (rest := []) ok_L_89 (by decide +kernel) (sp_L_isWall l hl0 _ h (xs (a4 + (nI 1)).toNatClampNeg)) (Nat.le_of_ble_eq_true rfl) rfl rfl (Nat.le_of_ble_eq_true rfl) ⟨by show _ ≤ 601024; omega, by show _ ≤ 7293034; omega⟩ (fun Ex qx => False.elim qx) (fun rv hh q289 => z_fun q289 ?_)
            refine z_go hC (pc' := 326) (ls' := [some (.ref 36), some (.ref 0), some (.ref 20), some (.ref 35), some (.int a4), some (.int (z_vi (fn_L_isWall (xs (a4 + (nI 1)).toNatClampNeg) h))), none]) (st' := [.int (a4 + (nI 1)), .ref 36, .ref 20]) (h' := (fn_L_isWall (xs (a4 + (nI 1)).toNatClampNeg) h).2) (cs := []) [.istore 5, .aload_n 2, .aload_n 0, .iload 4, .iconst 1, .iadd] (by decide +kernel) rfl rfl trivial ?_
            obtain ⟨t290, T⟩ := T
            refine z_sld hC hX hbl hbA had (by decide +kernel) t290 ?_
            obtain ⟨t294, T⟩ := T
            refine z_callV hC hN hR (as := [.int (xs (a4 + (nI 1)).toNatClampNeg)]) (rest := []) ok_L_92 (by decide +kernel) (sp_X8_isWall l _ ((fn_L_isWall (xs (a4 + (nI 1)).toNatClampNeg) h).2) (xs (a4 + (nI 1)).toNatClampNeg) t294) rfl rfl (Nat.le_of_ble_eq_true rfl) rfl rfl (Nat.le_of_ble_eq_true rfl) ⟨by show _ ≤ 601024; omega, by show _ ≤ 7293034; omega⟩ (fun r291 h292 q293 => z_funb q293 (fun z295 => ?_))
            refine z_go hC (pc' := 333) (ls' := [some (.ref 36), some (.ref 0), some (.ref 20), some (.ref 35), some (.int a4), some (.int (z_vi (fn_L_isWall (xs (a4 + (nI 1)).toNatClampNeg) h))), some (.int (z_vi (fn_X8_isWall (xs (a4 + (nI 1)).toNatClampNeg) ((fn_L_isWall (xs (a4 + (nI 1)).toNatClampNeg) h).2))))]) (st' := [.ref 20]) (h' := (fn_X8_isWall (xs (a4 + (nI 1)).toNatClampNeg) ((fn_L_isWall (xs (a4 + (nI 1)).toNatClampNeg) h).2)).2) (cs := []) [.istore 6, .aload_n 2] (by decide +kernel) rfl rfl trivial ?_
            refine z_callV hC hN hR (as := []) (rest := []) ok_L_82 (by decide +kernel) (sp_X8_thrown l _ ((fn_X8_isWall (xs (a4 + (nI 1)).toNatClampNeg) ((fn_L_isWall (xs (a4 + (nI 1)).toNatClampNeg) h).2)).2) ) rfl rfl (Nat.le_of_ble_eq_true rfl) rfl rfl (Nat.le_of_ble_eq_true rfl) ⟨by show _ ≤ 601024; omega, by show _ ≤ 7293034; omega⟩ (fun r296 h297 q298 => z_fun q298 ?_)
            refine z_go hC (pc' := 338) (ls' := [some (.ref 36), some (.ref 0), some (.ref 20), some (.ref 35), some (.int a4), some (.int (z_vi (fn_L_isWall (xs (a4 + (nI 1)).toNatClampNeg) h))), some (.int (z_vi (fn_X8_isWall (xs (a4 + (nI 1)).toNatClampNeg) ((fn_L_isWall (xs (a4 + (nI 1)).toNatClampNeg) h).2))))]) (st' := [.int (z_vi (fn_L_isWall (xs (a4 + (nI 1)).toNatClampNeg) h)), .int (((fn_X8_isWall (xs (a4 + (nI 1)).toNatClampNeg) ((fn_L_isWall (xs (a4 + (nI 1)).toNatClampNeg) h).2)).2).1 20 0)]) (h' := (fn_X8_isWall (xs (a4 + (nI 1)).toNatClampNeg) ((fn_L_isWall (xs (a4 + (nI 1)).toNatClampNeg) h).2)).2) (cs := []) [.iload 5] (by decide +kernel) rfl rfl trivial ?_
            refine z_icmp_eq hC (off := 5) 343 (by decide +kernel) (by decide) (fun c299 => ?_) (fun c299 => ?_)
            · skip
              have E := (if_pos c299).symm.trans E
              have T := T.1 c299
              refine z_go hC (pc' := 345) (ls' := [some (.ref 36), some (.ref 0), some (.ref 20), some (.ref 35), some (.int a4), some (.int (z_vi (fn_L_isWall (xs (a4 + (nI 1)).toNatClampNeg) h))), some (.int (z_vi (fn_X8_isWall (xs (a4 + (nI 1)).toNatClampNeg) ((fn_L_isWall (xs (a4 + (nI 1)).toNatClampNeg) h).2))))]) (st' := [.int (z_vi (fn_L_isWall (xs (a4 + (nI 1)).toNatClampNeg) h))]) (h' := (fn_X8_isWall (xs (a4 + (nI 1)).toNatClampNeg) ((fn_L_isWall (xs (a4 + (nI 1)).toNatClampNeg) h).2)).2) (cs := []) [.iload 5] (by decide +kernel) rfl rfl trivial ?_
              refine z_if_ne hC (off := 22) 367 (by decide +kernel) (by decide) (fun c300 => ?_) (fun c300 => ?_)
              · skip
                have E := (if_neg c300).symm.trans E
                have T := T.2 c300
                refine z_less (ls' := [some (.ref 36), some (.ref 0), some (.ref 20), some (.ref 35), some (.int a4), none, none]) (by simp [z_sub]) ?_
                refine z_widen (k' := kk + 1) (n' := nn + 6) (by omega) (by omega) ?_
                exact P367 _ _ kk nn h1 h2 hk23 a4 ((fn_X8_isWall (xs (a4 + (nI 1)).toNatClampNeg) ((fn_L_isWall (xs (a4 + (nI 1)).toNatClampNeg) h).2)).2) T E
              · skip
                have E := (if_pos c300).symm.trans E
                have T := T.1 c300
                refine z_go hC (pc' := 353) (ls' := [some (.ref 36), some (.ref 0), some (.ref 20), some (.ref 35), some (.int a4), some (.int (z_vi (fn_L_isWall (xs (a4 + (nI 1)).toNatClampNeg) h))), some (.int (z_vi (fn_X8_isWall (xs (a4 + (nI 1)).toNatClampNeg) ((fn_L_isWall (xs (a4 + (nI 1)).toNatClampNeg) h).2))))]) (st' := [.int (z_vi (fn_X8_isWall (xs (a4 + (nI 1)).toNatClampNeg) ((fn_L_isWall (xs (a4 + (nI 1)).toNatClampNeg) h).2))), .long (((fn_X8_isWall (xs (a4 + (nI 1)).toNatClampNeg) ((fn_L_isWall (xs (a4 + (nI 1)).toNatClampNeg) h).2)).2).2 35 ((nI 0).toNatClampNeg))]) (h' := (fn_X8_isWall (xs (a4 + (nI 1)).toNatClampNeg) ((fn_L_isWall (xs (a4 + (nI 1)).toNatClampNeg) h).2)).2) (cs := [vp_in (nI 0) 1]) [.aload_n 3, .iconst 0, .laload, .iload 6] (by decide +kernel) rfl rfl (vp_in_nI (n := 0) (N := 1) (by decide) (by decide)) ?_
                refine z_if_eq hC (off := 7) 360 (by decide +kernel) (by decide) (fun c301 => ?_) (fun c301 => ?_)
                · skip
                  have E := (if_pos c301).symm.trans E
                  have T := T.1 c301
                  refine z_go hC (pc' := 361) (ls' := [some (.ref 36), some (.ref 0), some (.ref 20), some (.ref 35), some (.int a4), some (.int (z_vi (fn_L_isWall (xs (a4 + (nI 1)).toNatClampNeg) h))), some (.int (z_vi (fn_X8_isWall (xs (a4 + (nI 1)).toNatClampNeg) ((fn_L_isWall (xs (a4 + (nI 1)).toNatClampNeg) h).2))))]) (st' := [.long 0, .long (((fn_X8_isWall (xs (a4 + (nI 1)).toNatClampNeg) ((fn_L_isWall (xs (a4 + (nI 1)).toNatClampNeg) h).2)).2).2 35 ((nI 0).toNatClampNeg))]) (h' := (fn_X8_isWall (xs (a4 + (nI 1)).toNatClampNeg) ((fn_L_isWall (xs (a4 + (nI 1)).toNatClampNeg) h).2)).2) (cs := []) [.lconst 0] (by decide +kernel) rfl rfl trivial ?_
                  refine z_less (ls' := [some (.ref 36), some (.ref 0), some (.ref 20), some (.ref 35), some (.int a4), none, none]) (by simp [z_sub]) ?_
                  refine z_widen (k' := kk + 1) (n' := nn + 6) (by omega) (by omega) ?_
                  exact P361 _ _ kk nn h1 h2 hk23 a4 0 (((fn_X8_isWall (xs (a4 + (nI 1)).toNatClampNeg) ((fn_L_isWall (xs (a4 + (nI 1)).toNatClampNeg) h).2)).2).2 35 ((nI 0).toNatClampNeg)) ((fn_X8_isWall (xs (a4 + (nI 1)).toNatClampNeg) ((fn_L_isWall (xs (a4 + (nI 1)).toNatClampNeg) h).2)).2) T E
                · skip
                  have E := (if_neg c301).symm.trans E
                  have T := T.2 c301
                  refine z_go hC (pc' := 357) (ls' := [some (.ref 36), some (.ref 0), some (.ref 20), some (.ref 35), some (.int a4), some (.int (z_vi (fn_L_isWall (xs (a4 + (nI 1)).toNatClampNeg) h))), some (.int (z_vi (fn_X8_isWall (xs (a4 + (nI 1)).toNatClampNeg) ((fn_L_isWall (xs (a4 + (nI 1)).toNatClampNeg) h).2))))]) (st' := [.long 1, .long (((fn_X8_isWall (xs (a4 + (nI 1)).toNatClampNeg) ((fn_L_isWall (xs (a4 + (nI 1)).toNatClampNeg) h).2)).2).2 35 ((nI 0).toNatClampNeg))]) (h' := (fn_X8_isWall (xs (a4 + (nI 1)).toNatClampNeg) ((fn_L_isWall (xs (a4 + (nI 1)).toNatClampNeg) h).2)).2) (cs := []) [.lconst 1] (by decide +kernel) rfl rfl trivial ?_
                  refine z_goto hC (off := 4) 361 (by decide +kernel) (by decide) ?_
                  refine z_less (ls' := [some (.ref 36), some (.ref 0), some (.ref 20), some (.ref 35), some (.int a4), none, none]) (by simp [z_sub]) ?_
                  refine z_widen (k' := kk + 1) (n' := nn + 6) (by omega) (by omega) ?_
                  exact P361 _ _ kk nn h1 h2 hk23 a4 1 (((fn_X8_isWall (xs (a4 + (nI 1)).toNatClampNeg) ((fn_L_isWall (xs (a4 + (nI 1)).toNatClampNeg) h).2)).2).2 35 ((nI 0).toNatClampNeg)) ((fn_X8_isWall (xs (a4 + (nI 1)).toNatClampNeg) ((fn_L_isWall (xs (a4 + (nI 1)).toNatClampNeg) h).2)).2) T E
            · skip
              have E := (if_neg c299).symm.trans E
              have T := T.2 c299
              refine z_go hC (pc' := 342) (ls' := [some (.ref 36), some (.ref 0), some (.ref 20), some (.ref 35), some (.int a4), some (.int (z_vi (fn_L_isWall (xs (a4 + (nI 1)).toNatClampNeg) h))), some (.int (z_vi (fn_X8_isWall (xs (a4 + (nI 1)).toNatClampNeg) ((fn_L_isWall (xs (a4 + (nI 1)).toNatClampNeg) h).2))))]) (st' := [.int (nI 0)]) (h' := (fn_X8_isWall (xs (a4 + (nI 1)).toNatClampNeg) ((fn_L_isWall (xs (a4 + (nI 1)).toNatClampNeg) h).2)).2) (cs := []) [.iconst 0] (by decide +kernel) rfl rfl trivial ?_
              exact absurd E (by decide)
          · skip
            have E := (if_neg c25).symm.trans E
            have T := T.2 c25
            by_cases c26 : ((xs a4.toNatClampNeg) &&& (nI 31)) = nI 3
            · skip
              have E := (if_pos c26).symm.trans E
              have T := T.1 c26
              refine z_tabIn hC (dflt := 1176) (lo := 0) (hi := 23) (offs := #[109, 200, 268, 331, 394, 407, 463, 519, 575, 623, 667, 723, 779, 835, 848, 861, 874, 930, 943, 956, 1019, 1032, 1088, 1132]) (len := 109) (off := 331) 370 (by decide +kernel) (by rw [c26]; decide) (by rw [c26]; decide) (by rw [c26]; rfl) (by decide) ?_
              refine z_go hC (pc' := 376) (ls' := [some (.ref 36), some (.ref 0), some (.ref 20), some (.ref 35), some (.int a4), none, none]) (st' := [.int (a4 + (nI 1)), .ref 36, .ref 0]) (h' := h) (cs := []) [.aload_n 1, .aload_n 0, .iload 4, .iconst 1, .iadd] (by decide +kernel) rfl rfl trivial ?_
              obtain ⟨t274, T⟩ := T
              refine z_sld hC hX hbl hbA had (by decide +kernel) t274 ?_
              refine z_go hC (pc' := 378) (ls' := [some (.ref 36), some (.ref 0), some (.ref 20), some (.ref 35), some (.int a4), none, none]) (st' := [.ref 35, .int (xs (a4 + (nI 1)).toNatClampNeg), .ref 0]) (h' := h) (cs := []) [.aload_n 3] (by decide +kernel) rfl rfl trivial ?_
              refine z_callSh hC hN hR hZ hKin (as := [.ref 0, .int (xs (a4 + (nI 1)).toNatClampNeg), .ref 35]) (rest := []) ok_L_93 (by decide +kernel) (sp_L_isInTree l hl0 _ h (xs (a4 + (nI 1)).toNatClampNeg)) (Nat.le_of_ble_eq_true rfl) rfl rfl (Nat.le_of_ble_eq_true rfl) ⟨by show _ ≤ 601024; omega, by show _ ≤ 7293034; omega⟩ (fun Ex qx => False.elim qx) (fun rv hh q275 => z_fun q275 ?_)
              refine z_go hC (pc' := 389) (ls' := [some (.ref 36), some (.ref 0), some (.ref 20), some (.ref 35), some (.int a4), some (.int (z_vi (fn_L_isInTree (xs (a4 + (nI 1)).toNatClampNeg) h))), none]) (st' := [.int (a4 + (nI 1)), .ref 36, .ref 20]) (h' := (fn_L_isInTree (xs (a4 + (nI 1)).toNatClampNeg) h).2) (cs := []) [.istore 5, .aload_n 2, .aload_n 0, .iload 4, .iconst 1, .iadd] (by decide +kernel) rfl rfl trivial ?_
              obtain ⟨t276, T⟩ := T
              refine z_sld hC hX hbl hbA had (by decide +kernel) t276 ?_
              obtain ⟨t280, T⟩ := T
              refine z_callV hC hN hR (as := [.int (xs (a4 + (nI 1)).toNatClampNeg)]) (rest := []) ok_L_95 (by decide +kernel) (sp_X8_isInTree l _ ((fn_L_isInTree (xs (a4 + (nI 1)).toNatClampNeg) h).2) (xs (a4 + (nI 1)).toNatClampNeg) t280) rfl rfl (Nat.le_of_ble_eq_true rfl) rfl rfl (Nat.le_of_ble_eq_true rfl) ⟨by show _ ≤ 601024; omega, by show _ ≤ 7293034; omega⟩ (fun r277 h278 q279 => z_funb q279 (fun z281 => ?_))
              refine z_go hC (pc' := 396) (ls' := [some (.ref 36), some (.ref 0), some (.ref 20), some (.ref 35), some (.int a4), some (.int (z_vi (fn_L_isInTree (xs (a4 + (nI 1)).toNatClampNeg) h))), some (.int (z_vi (fn_X8_isInTree (xs (a4 + (nI 1)).toNatClampNeg) ((fn_L_isInTree (xs (a4 + (nI 1)).toNatClampNeg) h).2))))]) (st' := [.ref 20]) (h' := (fn_X8_isInTree (xs (a4 + (nI 1)).toNatClampNeg) ((fn_L_isInTree (xs (a4 + (nI 1)).toNatClampNeg) h).2)).2) (cs := []) [.istore 6, .aload_n 2] (by decide +kernel) rfl rfl trivial ?_
              refine z_callV hC hN hR (as := []) (rest := []) ok_L_82 (by decide +kernel) (sp_X8_thrown l _ ((fn_X8_isInTree (xs (a4 + (nI 1)).toNatClampNeg) ((fn_L_isInTree (xs (a4 + (nI 1)).toNatClampNeg) h).2)).2) ) rfl rfl (Nat.le_of_ble_eq_true rfl) rfl rfl (Nat.le_of_ble_eq_true rfl) ⟨by show _ ≤ 601024; omega, by show _ ≤ 7293034; omega⟩ (fun r282 h283 q284 => z_fun q284 ?_)
              refine z_go hC (pc' := 401) (ls' := [some (.ref 36), some (.ref 0), some (.ref 20), some (.ref 35), some (.int a4), some (.int (z_vi (fn_L_isInTree (xs (a4 + (nI 1)).toNatClampNeg) h))), some (.int (z_vi (fn_X8_isInTree (xs (a4 + (nI 1)).toNatClampNeg) ((fn_L_isInTree (xs (a4 + (nI 1)).toNatClampNeg) h).2))))]) (st' := [.int (z_vi (fn_L_isInTree (xs (a4 + (nI 1)).toNatClampNeg) h)), .int (((fn_X8_isInTree (xs (a4 + (nI 1)).toNatClampNeg) ((fn_L_isInTree (xs (a4 + (nI 1)).toNatClampNeg) h).2)).2).1 20 0)]) (h' := (fn_X8_isInTree (xs (a4 + (nI 1)).toNatClampNeg) ((fn_L_isInTree (xs (a4 + (nI 1)).toNatClampNeg) h).2)).2) (cs := []) [.iload 5] (by decide +kernel) rfl rfl trivial ?_
              refine z_icmp_eq hC (off := 5) 406 (by decide +kernel) (by decide) (fun c285 => ?_) (fun c285 => ?_)
              · skip
                have E := (if_pos c285).symm.trans E
                have T := T.1 c285
                refine z_go hC (pc' := 408) (ls' := [some (.ref 36), some (.ref 0), some (.ref 20), some (.ref 35), some (.int a4), some (.int (z_vi (fn_L_isInTree (xs (a4 + (nI 1)).toNatClampNeg) h))), some (.int (z_vi (fn_X8_isInTree (xs (a4 + (nI 1)).toNatClampNeg) ((fn_L_isInTree (xs (a4 + (nI 1)).toNatClampNeg) h).2))))]) (st' := [.int (z_vi (fn_L_isInTree (xs (a4 + (nI 1)).toNatClampNeg) h))]) (h' := (fn_X8_isInTree (xs (a4 + (nI 1)).toNatClampNeg) ((fn_L_isInTree (xs (a4 + (nI 1)).toNatClampNeg) h).2)).2) (cs := []) [.iload 5] (by decide +kernel) rfl rfl trivial ?_
                refine z_if_ne hC (off := 22) 430 (by decide +kernel) (by decide) (fun c286 => ?_) (fun c286 => ?_)
                · skip
                  have E := (if_neg c286).symm.trans E
                  have T := T.2 c286
                  refine z_less (ls' := [some (.ref 36), some (.ref 0), some (.ref 20), some (.ref 35), some (.int a4), none, none]) (by simp [z_sub]) ?_
                  refine z_widen (k' := kk + 1) (n' := nn + 6) (by omega) (by omega) ?_
                  exact P430 _ _ kk nn h1 h2 hk23 a4 ((fn_X8_isInTree (xs (a4 + (nI 1)).toNatClampNeg) ((fn_L_isInTree (xs (a4 + (nI 1)).toNatClampNeg) h).2)).2) T E
                · skip
                  have E := (if_pos c286).symm.trans E
                  have T := T.1 c286
                  refine z_go hC (pc' := 416) (ls' := [some (.ref 36), some (.ref 0), some (.ref 20), some (.ref 35), some (.int a4), some (.int (z_vi (fn_L_isInTree (xs (a4 + (nI 1)).toNatClampNeg) h))), some (.int (z_vi (fn_X8_isInTree (xs (a4 + (nI 1)).toNatClampNeg) ((fn_L_isInTree (xs (a4 + (nI 1)).toNatClampNeg) h).2))))]) (st' := [.int (z_vi (fn_X8_isInTree (xs (a4 + (nI 1)).toNatClampNeg) ((fn_L_isInTree (xs (a4 + (nI 1)).toNatClampNeg) h).2))), .long (((fn_X8_isInTree (xs (a4 + (nI 1)).toNatClampNeg) ((fn_L_isInTree (xs (a4 + (nI 1)).toNatClampNeg) h).2)).2).2 35 ((nI 0).toNatClampNeg))]) (h' := (fn_X8_isInTree (xs (a4 + (nI 1)).toNatClampNeg) ((fn_L_isInTree (xs (a4 + (nI 1)).toNatClampNeg) h).2)).2) (cs := [vp_in (nI 0) 1]) [.aload_n 3, .iconst 0, .laload, .iload 6] (by decide +kernel) rfl rfl (vp_in_nI (n := 0) (N := 1) (by decide) (by decide)) ?_
                  refine z_if_eq hC (off := 7) 423 (by decide +kernel) (by decide) (fun c287 => ?_) (fun c287 => ?_)
                  · skip
                    have E := (if_pos c287).symm.trans E
                    have T := T.1 c287
                    refine z_go hC (pc' := 424) (ls' := [some (.ref 36), some (.ref 0), some (.ref 20), some (.ref 35), some (.int a4), some (.int (z_vi (fn_L_isInTree (xs (a4 + (nI 1)).toNatClampNeg) h))), some (.int (z_vi (fn_X8_isInTree (xs (a4 + (nI 1)).toNatClampNeg) ((fn_L_isInTree (xs (a4 + (nI 1)).toNatClampNeg) h).2))))]) (st' := [.long 0, .long (((fn_X8_isInTree (xs (a4 + (nI 1)).toNatClampNeg) ((fn_L_isInTree (xs (a4 + (nI 1)).toNatClampNeg) h).2)).2).2 35 ((nI 0).toNatClampNeg))]) (h' := (fn_X8_isInTree (xs (a4 + (nI 1)).toNatClampNeg) ((fn_L_isInTree (xs (a4 + (nI 1)).toNatClampNeg) h).2)).2) (cs := []) [.lconst 0] (by decide +kernel) rfl rfl trivial ?_
                    refine z_less (ls' := [some (.ref 36), some (.ref 0), some (.ref 20), some (.ref 35), some (.int a4), none, none]) (by simp [z_sub]) ?_
                    refine z_widen (k' := kk + 1) (n' := nn + 6) (by omega) (by omega) ?_
                    exact P424 _ _ kk nn h1 h2 hk23 a4 0 (((fn_X8_isInTree (xs (a4 + (nI 1)).toNatClampNeg) ((fn_L_isInTree (xs (a4 + (nI 1)).toNatClampNeg) h).2)).2).2 35 ((nI 0).toNatClampNeg)) ((fn_X8_isInTree (xs (a4 + (nI 1)).toNatClampNeg) ((fn_L_isInTree (xs (a4 + (nI 1)).toNatClampNeg) h).2)).2) T E
                  · skip
                    have E := (if_neg c287).symm.trans E
                    have T := T.2 c287
                    refine z_go hC (pc' := 420) (ls' := [some (.ref 36), some (.ref 0), some (.ref 20), some (.ref 35), some (.int a4), some (.int (z_vi (fn_L_isInTree (xs (a4 + (nI 1)).toNatClampNeg) h))), some (.int (z_vi (fn_X8_isInTree (xs (a4 + (nI 1)).toNatClampNeg) ((fn_L_isInTree (xs (a4 + (nI 1)).toNatClampNeg) h).2))))]) (st' := [.long 1, .long (((fn_X8_isInTree (xs (a4 + (nI 1)).toNatClampNeg) ((fn_L_isInTree (xs (a4 + (nI 1)).toNatClampNeg) h).2)).2).2 35 ((nI 0).toNatClampNeg))]) (h' := (fn_X8_isInTree (xs (a4 + (nI 1)).toNatClampNeg) ((fn_L_isInTree (xs (a4 + (nI 1)).toNatClampNeg) h).2)).2) (cs := []) [.lconst 1] (by decide +kernel) rfl rfl trivial ?_
                    refine z_goto hC (off := 4) 424 (by decide +kernel) (by decide) ?_
                    refine z_less (ls' := [some (.ref 36), some (.ref 0), some (.ref 20), some (.ref 35), some (.int a4), none, none]) (by simp [z_sub]) ?_
                    refine z_widen (k' := kk + 1) (n' := nn + 6) (by omega) (by omega) ?_
                    exact P424 _ _ kk nn h1 h2 hk23 a4 1 (((fn_X8_isInTree (xs (a4 + (nI 1)).toNatClampNeg) ((fn_L_isInTree (xs (a4 + (nI 1)).toNatClampNeg) h).2)).2).2 35 ((nI 0).toNatClampNeg)) ((fn_X8_isInTree (xs (a4 + (nI 1)).toNatClampNeg) ((fn_L_isInTree (xs (a4 + (nI 1)).toNatClampNeg) h).2)).2) T E
              · skip
                have E := (if_neg c285).symm.trans E
                have T := T.2 c285
                refine z_go hC (pc' := 405) (ls' := [some (.ref 36), some (.ref 0), some (.ref 20), some (.ref 35), some (.int a4), some (.int (z_vi (fn_L_isInTree (xs (a4 + (nI 1)).toNatClampNeg) h))), some (.int (z_vi (fn_X8_isInTree (xs (a4 + (nI 1)).toNatClampNeg) ((fn_L_isInTree (xs (a4 + (nI 1)).toNatClampNeg) h).2))))]) (st' := [.int (nI 0)]) (h' := (fn_X8_isInTree (xs (a4 + (nI 1)).toNatClampNeg) ((fn_L_isInTree (xs (a4 + (nI 1)).toNatClampNeg) h).2)).2) (cs := []) [.iconst 0] (by decide +kernel) rfl rfl trivial ?_
                exact absurd E (by decide)
            · skip
              have E := (if_neg c26).symm.trans E
              have T := T.2 c26
              by_cases c27 : ((xs a4.toNatClampNeg) &&& (nI 31)) = nI 4
              · skip
                have E := (if_pos c27).symm.trans E
                have T := T.1 c27
                refine z_tabIn hC (dflt := 1176) (lo := 0) (hi := 23) (offs := #[109, 200, 268, 331, 394, 407, 463, 519, 575, 623, 667, 723, 779, 835, 848, 861, 874, 930, 943, 956, 1019, 1032, 1088, 1132]) (len := 109) (off := 394) 433 (by decide +kernel) (by rw [c27]; decide) (by rw [c27]; decide) (by rw [c27]; rfl) (by decide) ?_
                refine z_go hC (pc' := 434) (ls' := [some (.ref 36), some (.ref 0), some (.ref 20), some (.ref 35), some (.int a4), none, none]) (st' := [.ref 0]) (h' := h) (cs := []) [.aload_n 1] (by decide +kernel) rfl rfl trivial ?_
                refine z_callV hC hN hR (as := []) (rest := []) ok_L_96 (by decide +kernel) (sp_X7_hasCycle l _ h  trivial) rfl rfl (Nat.le_of_ble_eq_true rfl) rfl rfl (Nat.le_of_ble_eq_true rfl) ⟨by show _ ≤ 601024; omega, by show _ ≤ 7293034; omega⟩ (fun r266 h267 q268 => z_funb q268 (fun z269 => ?_))
                refine z_go hC (pc' := 438) (ls' := [some (.ref 36), some (.ref 0), some (.ref 20), some (.ref 35), some (.int a4), none, none]) (st' := [.ref 20, .int (z_vi0 (fn_X7_hasCycle  h))]) (h' := h) (cs := []) [.aload_n 2] (by decide +kernel) rfl rfl trivial ?_
                refine z_callV hC hN hR (as := []) (rest := [.int (z_vi0 (fn_X7_hasCycle  h))]) ok_L_100 (by decide +kernel) (sp_X8_hasCycle l _ h ) rfl rfl (Nat.le_of_ble_eq_true rfl) rfl rfl (Nat.le_of_ble_eq_true rfl) ⟨by show _ ≤ 601024; omega, by show _ ≤ 7293034; omega⟩ (fun r270 h271 q272 => z_fun q272 ?_)
                refine z_icmp_eq hC (off := 774) 1215 (by decide +kernel) (by decide) (fun c273 => ?_) (fun c273 => ?_)
                · skip
                  have E := (if_pos c273).symm.trans E
                  have T := T.1 c273
                  refine z_widen (k' := kk + 2) (n' := nn + 12) (by omega) (by omega) ?_
                  exact P1215 _ _ kk nn h1 h2 hk23 a4 (fh_X8_hasCycle h ) T E
                · skip
                  have E := (if_neg c273).symm.trans E
                  have T := T.2 c273
                  refine z_go hC (pc' := 445) (ls' := [some (.ref 36), some (.ref 0), some (.ref 20), some (.ref 35), some (.int a4), none, none]) (st' := [.int (nI 0)]) (h' := fh_X8_hasCycle h ) (cs := []) [.iconst 0] (by decide +kernel) rfl rfl trivial ?_
                  exact absurd E (by decide)
              · skip
                have E := (if_neg c27).symm.trans E
                have T := T.2 c27
                by_cases c28 : ((xs a4.toNatClampNeg) &&& (nI 31)) = nI 5
                · skip
                  have E := (if_pos c28).symm.trans E
                  have T := T.1 c28
                  refine z_tabIn hC (dflt := 1176) (lo := 0) (hi := 23) (offs := #[109, 200, 268, 331, 394, 407, 463, 519, 575, 623, 667, 723, 779, 835, 848, 861, 874, 930, 943, 956, 1019, 1032, 1088, 1132]) (len := 109) (off := 407) 446 (by decide +kernel) (by rw [c28]; decide) (by rw [c28]; decide) (by rw [c28]; rfl) (by decide) ?_
                  refine z_go hC (pc' := 452) (ls' := [some (.ref 36), some (.ref 0), some (.ref 20), some (.ref 35), some (.int a4), none, none]) (st' := [.int (a4 + (nI 1)), .ref 36, .ref 0]) (h' := h) (cs := []) [.aload_n 1, .aload_n 0, .iload 4, .iconst 1, .iadd] (by decide +kernel) rfl rfl trivial ?_
                  obtain ⟨t253, T⟩ := T
                  refine z_sld hC hX hbl hbA had (by decide +kernel) t253 ?_
                  refine z_go hC (pc' := 454) (ls' := [some (.ref 36), some (.ref 0), some (.ref 20), some (.ref 35), some (.int a4), none, none]) (st' := [.ref 35, .int (xs (a4 + (nI 1)).toNatClampNeg), .ref 0]) (h' := h) (cs := []) [.aload_n 3] (by decide +kernel) rfl rfl trivial ?_
                  refine z_callSh hC hN hR hZ hKin (as := [.ref 0, .int (xs (a4 + (nI 1)).toNatClampNeg), .ref 35]) (rest := []) ok_L_101 (by decide +kernel) (sp_L_placeOf l hl0 _ h (xs (a4 + (nI 1)).toNatClampNeg)) (Nat.le_of_ble_eq_true rfl) rfl rfl (Nat.le_of_ble_eq_true rfl) ⟨by show _ ≤ 601024; omega, by show _ ≤ 7293034; omega⟩ (fun Ex qx => False.elim qx) (fun rv hh q254 => z_fun q254 ?_)
                  refine z_go hC (pc' := 465) (ls' := [some (.ref 36), some (.ref 0), some (.ref 20), some (.ref 35), some (.int a4), some (.int (z_vi (fn_L_placeOf (xs (a4 + (nI 1)).toNatClampNeg) h))), none]) (st' := [.int (a4 + (nI 1)), .ref 36, .ref 20]) (h' := (fn_L_placeOf (xs (a4 + (nI 1)).toNatClampNeg) h).2) (cs := []) [.istore 5, .aload_n 2, .aload_n 0, .iload 4, .iconst 1, .iadd] (by decide +kernel) rfl rfl trivial ?_
                  obtain ⟨t255, T⟩ := T
                  refine z_sld hC hX hbl hbA had (by decide +kernel) t255 ?_
                  obtain ⟨t259, T⟩ := T
                  refine z_callV hC hN hR (as := [.int (xs (a4 + (nI 1)).toNatClampNeg)]) (rest := []) ok_L_103 (by decide +kernel) (sp_X8_placeOf l _ ((fn_L_placeOf (xs (a4 + (nI 1)).toNatClampNeg) h).2) (xs (a4 + (nI 1)).toNatClampNeg) t259) rfl rfl (Nat.le_of_ble_eq_true rfl) rfl rfl (Nat.le_of_ble_eq_true rfl) ⟨by show _ ≤ 601024; omega, by show _ ≤ 7293034; omega⟩ (fun r256 h257 q258 => z_fun q258 ?_)
                  refine z_go hC (pc' := 472) (ls' := [some (.ref 36), some (.ref 0), some (.ref 20), some (.ref 35), some (.int a4), some (.int (z_vi (fn_L_placeOf (xs (a4 + (nI 1)).toNatClampNeg) h))), some (.int (z_vi (fn_X8_placeOf (xs (a4 + (nI 1)).toNatClampNeg) ((fn_L_placeOf (xs (a4 + (nI 1)).toNatClampNeg) h).2))))]) (st' := [.ref 20]) (h' := (fn_X8_placeOf (xs (a4 + (nI 1)).toNatClampNeg) ((fn_L_placeOf (xs (a4 + (nI 1)).toNatClampNeg) h).2)).2) (cs := []) [.istore 6, .aload_n 2] (by decide +kernel) rfl rfl trivial ?_
                  refine z_callV hC hN hR (as := []) (rest := []) ok_L_82 (by decide +kernel) (sp_X8_thrown l _ ((fn_X8_placeOf (xs (a4 + (nI 1)).toNatClampNeg) ((fn_L_placeOf (xs (a4 + (nI 1)).toNatClampNeg) h).2)).2) ) rfl rfl (Nat.le_of_ble_eq_true rfl) rfl rfl (Nat.le_of_ble_eq_true rfl) ⟨by show _ ≤ 601024; omega, by show _ ≤ 7293034; omega⟩ (fun r260 h261 q262 => z_fun q262 ?_)
                  refine z_go hC (pc' := 477) (ls' := [some (.ref 36), some (.ref 0), some (.ref 20), some (.ref 35), some (.int a4), some (.int (z_vi (fn_L_placeOf (xs (a4 + (nI 1)).toNatClampNeg) h))), some (.int (z_vi (fn_X8_placeOf (xs (a4 + (nI 1)).toNatClampNeg) ((fn_L_placeOf (xs (a4 + (nI 1)).toNatClampNeg) h).2))))]) (st' := [.int (z_vi (fn_L_placeOf (xs (a4 + (nI 1)).toNatClampNeg) h)), .int (((fn_X8_placeOf (xs (a4 + (nI 1)).toNatClampNeg) ((fn_L_placeOf (xs (a4 + (nI 1)).toNatClampNeg) h).2)).2).1 20 0)]) (h' := (fn_X8_placeOf (xs (a4 + (nI 1)).toNatClampNeg) ((fn_L_placeOf (xs (a4 + (nI 1)).toNatClampNeg) h).2)).2) (cs := []) [.iload 5] (by decide +kernel) rfl rfl trivial ?_
                  refine z_icmp_eq hC (off := 5) 482 (by decide +kernel) (by decide) (fun c263 => ?_) (fun c263 => ?_)
                  · skip
                    have E := (if_pos c263).symm.trans E
                    have T := T.1 c263
                    refine z_go hC (pc' := 484) (ls' := [some (.ref 36), some (.ref 0), some (.ref 20), some (.ref 35), some (.int a4), some (.int (z_vi (fn_L_placeOf (xs (a4 + (nI 1)).toNatClampNeg) h))), some (.int (z_vi (fn_X8_placeOf (xs (a4 + (nI 1)).toNatClampNeg) ((fn_L_placeOf (xs (a4 + (nI 1)).toNatClampNeg) h).2))))]) (st' := [.int (z_vi (fn_L_placeOf (xs (a4 + (nI 1)).toNatClampNeg) h))]) (h' := (fn_X8_placeOf (xs (a4 + (nI 1)).toNatClampNeg) ((fn_L_placeOf (xs (a4 + (nI 1)).toNatClampNeg) h).2)).2) (cs := []) [.iload 5] (by decide +kernel) rfl rfl trivial ?_
                    refine z_if_ne hC (off := 15) 499 (by decide +kernel) (by decide) (fun c264 => ?_) (fun c264 => ?_)
                    · skip
                      have E := (if_neg c264).symm.trans E
                      have T := T.2 c264
                      refine z_less (ls' := [some (.ref 36), some (.ref 0), some (.ref 20), some (.ref 35), some (.int a4), none, none]) (by simp [z_sub]) ?_
                      refine z_widen (k' := kk + 2) (n' := nn + 12) (by omega) (by omega) ?_
                      exact P499 _ _ kk nn h1 h2 hk23 a4 ((fn_X8_placeOf (xs (a4 + (nI 1)).toNatClampNeg) ((fn_L_placeOf (xs (a4 + (nI 1)).toNatClampNeg) h).2)).2) T E
                    · skip
                      have E := (if_pos c264).symm.trans E
                      have T := T.1 c264
                      refine z_go hC (pc' := 494) (ls' := [some (.ref 36), some (.ref 0), some (.ref 20), some (.ref 35), some (.int a4), some (.int (z_vi (fn_L_placeOf (xs (a4 + (nI 1)).toNatClampNeg) h))), some (.int (z_vi (fn_X8_placeOf (xs (a4 + (nI 1)).toNatClampNeg) ((fn_L_placeOf (xs (a4 + (nI 1)).toNatClampNeg) h).2))))]) (st' := [.int (lg_cmp (((fn_X8_placeOf (xs (a4 + (nI 1)).toNatClampNeg) ((fn_L_placeOf (xs (a4 + (nI 1)).toNatClampNeg) h).2)).2).2 35 ((nI 0).toNatClampNeg)) ((z_vi (fn_X8_placeOf (xs (a4 + (nI 1)).toNatClampNeg) ((fn_L_placeOf (xs (a4 + (nI 1)).toNatClampNeg) h).2))).toInt64))]) (h' := (fn_X8_placeOf (xs (a4 + (nI 1)).toNatClampNeg) ((fn_L_placeOf (xs (a4 + (nI 1)).toNatClampNeg) h).2)).2) (cs := [vp_in (nI 0) 1]) [.aload_n 3, .iconst 0, .laload, .iload 6, .i2l, .lcmp] (by decide +kernel) rfl rfl (vp_in_nI (n := 0) (N := 1) (by decide) (by decide)) ?_
                      refine z_if_eq hC (off := 5) 499 (by decide +kernel) (by decide) (fun c265 => ?_) (fun c265 => ?_)
                      · skip
                        have E := (if_pos c265).symm.trans E
                        have T := T.1 c265
                        refine z_less (ls' := [some (.ref 36), some (.ref 0), some (.ref 20), some (.ref 35), some (.int a4), none, none]) (by simp [z_sub]) ?_
                        refine z_widen (k' := kk + 2) (n' := nn + 12) (by omega) (by omega) ?_
                        exact P499 _ _ kk nn h1 h2 hk23 a4 ((fn_X8_placeOf (xs (a4 + (nI 1)).toNatClampNeg) ((fn_L_placeOf (xs (a4 + (nI 1)).toNatClampNeg) h).2)).2) T E
                      · skip
                        have E := (if_neg c265).symm.trans E
                        have T := T.2 c265
                        refine z_go hC (pc' := 498) (ls' := [some (.ref 36), some (.ref 0), some (.ref 20), some (.ref 35), some (.int a4), some (.int (z_vi (fn_L_placeOf (xs (a4 + (nI 1)).toNatClampNeg) h))), some (.int (z_vi (fn_X8_placeOf (xs (a4 + (nI 1)).toNatClampNeg) ((fn_L_placeOf (xs (a4 + (nI 1)).toNatClampNeg) h).2))))]) (st' := [.int (nI 0)]) (h' := (fn_X8_placeOf (xs (a4 + (nI 1)).toNatClampNeg) ((fn_L_placeOf (xs (a4 + (nI 1)).toNatClampNeg) h).2)).2) (cs := []) [.iconst 0] (by decide +kernel) rfl rfl trivial ?_
                        exact absurd E (by decide)
                  · skip
                    have E := (if_neg c263).symm.trans E
                    have T := T.2 c263
                    refine z_go hC (pc' := 481) (ls' := [some (.ref 36), some (.ref 0), some (.ref 20), some (.ref 35), some (.int a4), some (.int (z_vi (fn_L_placeOf (xs (a4 + (nI 1)).toNatClampNeg) h))), some (.int (z_vi (fn_X8_placeOf (xs (a4 + (nI 1)).toNatClampNeg) ((fn_L_placeOf (xs (a4 + (nI 1)).toNatClampNeg) h).2))))]) (st' := [.int (nI 0)]) (h' := (fn_X8_placeOf (xs (a4 + (nI 1)).toNatClampNeg) ((fn_L_placeOf (xs (a4 + (nI 1)).toNatClampNeg) h).2)).2) (cs := []) [.iconst 0] (by decide +kernel) rfl rfl trivial ?_
                    exact absurd E (by decide)
                · skip
                  have E := (if_neg c28).symm.trans E
                  have T := T.2 c28
                  by_cases c29 : ((xs a4.toNatClampNeg) &&& (nI 31)) = nI 6
                  · skip
                    have E := (if_pos c29).symm.trans E
                    have T := T.1 c29
                    refine z_tabIn hC (dflt := 1176) (lo := 0) (hi := 23) (offs := #[109, 200, 268, 331, 394, 407, 463, 519, 575, 623, 667, 723, 779, 835, 848, 861, 874, 930, 943, 956, 1019, 1032, 1088, 1132]) (len := 109) (off := 463) 502 (by decide +kernel) (by rw [c29]; decide) (by rw [c29]; decide) (by rw [c29]; rfl) (by decide) ?_
                    refine z_go hC (pc' := 508) (ls' := [some (.ref 36), some (.ref 0), some (.ref 20), some (.ref 35), some (.int a4), none, none]) (st' := [.int (a4 + (nI 1)), .ref 36, .ref 0]) (h' := h) (cs := []) [.aload_n 1, .aload_n 0, .iload 4, .iconst 1, .iadd] (by decide +kernel) rfl rfl trivial ?_
                    obtain ⟨t240, T⟩ := T
                    refine z_sld hC hX hbl hbA had (by decide +kernel) t240 ?_
                    refine z_go hC (pc' := 510) (ls' := [some (.ref 36), some (.ref 0), some (.ref 20), some (.ref 35), some (.int a4), none, none]) (st' := [.ref 35, .int (xs (a4 + (nI 1)).toNatClampNeg), .ref 0]) (h' := h) (cs := []) [.aload_n 3] (by decide +kernel) rfl rfl trivial ?_
                    refine z_callSh hC hN hR hZ hKin (as := [.ref 0, .int (xs (a4 + (nI 1)).toNatClampNeg), .ref 35]) (rest := []) ok_L_104 (by decide +kernel) (sp_L_cellAt l hl0 _ h (xs (a4 + (nI 1)).toNatClampNeg)) (Nat.le_of_ble_eq_true rfl) rfl rfl (Nat.le_of_ble_eq_true rfl) ⟨by show _ ≤ 601024; omega, by show _ ≤ 7293034; omega⟩ (fun Ex qx => False.elim qx) (fun rv hh q241 => z_fun q241 ?_)
                    refine z_go hC (pc' := 521) (ls' := [some (.ref 36), some (.ref 0), some (.ref 20), some (.ref 35), some (.int a4), some (.int (z_vi (fn_L_cellAt (xs (a4 + (nI 1)).toNatClampNeg) h))), none]) (st' := [.int (a4 + (nI 1)), .ref 36, .ref 20]) (h' := (fn_L_cellAt (xs (a4 + (nI 1)).toNatClampNeg) h).2) (cs := []) [.istore 5, .aload_n 2, .aload_n 0, .iload 4, .iconst 1, .iadd] (by decide +kernel) rfl rfl trivial ?_
                    obtain ⟨t242, T⟩ := T
                    refine z_sld hC hX hbl hbA had (by decide +kernel) t242 ?_
                    obtain ⟨t246, T⟩ := T
                    refine z_callV hC hN hR (as := [.int (xs (a4 + (nI 1)).toNatClampNeg)]) (rest := []) ok_L_106 (by decide +kernel) (sp_X8_cellAt l _ ((fn_L_cellAt (xs (a4 + (nI 1)).toNatClampNeg) h).2) (xs (a4 + (nI 1)).toNatClampNeg) t246) rfl rfl (Nat.le_of_ble_eq_true rfl) rfl rfl (Nat.le_of_ble_eq_true rfl) ⟨by show _ ≤ 601024; omega, by show _ ≤ 7293034; omega⟩ (fun r243 h244 q245 => z_fun q245 ?_)
                    refine z_go hC (pc' := 528) (ls' := [some (.ref 36), some (.ref 0), some (.ref 20), some (.ref 35), some (.int a4), some (.int (z_vi (fn_L_cellAt (xs (a4 + (nI 1)).toNatClampNeg) h))), some (.int (z_vi (fn_X8_cellAt (xs (a4 + (nI 1)).toNatClampNeg) ((fn_L_cellAt (xs (a4 + (nI 1)).toNatClampNeg) h).2))))]) (st' := [.ref 20]) (h' := (fn_X8_cellAt (xs (a4 + (nI 1)).toNatClampNeg) ((fn_L_cellAt (xs (a4 + (nI 1)).toNatClampNeg) h).2)).2) (cs := []) [.istore 6, .aload_n 2] (by decide +kernel) rfl rfl trivial ?_
                    refine z_callV hC hN hR (as := []) (rest := []) ok_L_82 (by decide +kernel) (sp_X8_thrown l _ ((fn_X8_cellAt (xs (a4 + (nI 1)).toNatClampNeg) ((fn_L_cellAt (xs (a4 + (nI 1)).toNatClampNeg) h).2)).2) ) rfl rfl (Nat.le_of_ble_eq_true rfl) rfl rfl (Nat.le_of_ble_eq_true rfl) ⟨by show _ ≤ 601024; omega, by show _ ≤ 7293034; omega⟩ (fun r247 h248 q249 => z_fun q249 ?_)
                    refine z_go hC (pc' := 533) (ls' := [some (.ref 36), some (.ref 0), some (.ref 20), some (.ref 35), some (.int a4), some (.int (z_vi (fn_L_cellAt (xs (a4 + (nI 1)).toNatClampNeg) h))), some (.int (z_vi (fn_X8_cellAt (xs (a4 + (nI 1)).toNatClampNeg) ((fn_L_cellAt (xs (a4 + (nI 1)).toNatClampNeg) h).2))))]) (st' := [.int (z_vi (fn_L_cellAt (xs (a4 + (nI 1)).toNatClampNeg) h)), .int (((fn_X8_cellAt (xs (a4 + (nI 1)).toNatClampNeg) ((fn_L_cellAt (xs (a4 + (nI 1)).toNatClampNeg) h).2)).2).1 20 0)]) (h' := (fn_X8_cellAt (xs (a4 + (nI 1)).toNatClampNeg) ((fn_L_cellAt (xs (a4 + (nI 1)).toNatClampNeg) h).2)).2) (cs := []) [.iload 5] (by decide +kernel) rfl rfl trivial ?_
                    refine z_icmp_eq hC (off := 5) 538 (by decide +kernel) (by decide) (fun c250 => ?_) (fun c250 => ?_)
                    · skip
                      have E := (if_pos c250).symm.trans E
                      have T := T.1 c250
                      refine z_go hC (pc' := 540) (ls' := [some (.ref 36), some (.ref 0), some (.ref 20), some (.ref 35), some (.int a4), some (.int (z_vi (fn_L_cellAt (xs (a4 + (nI 1)).toNatClampNeg) h))), some (.int (z_vi (fn_X8_cellAt (xs (a4 + (nI 1)).toNatClampNeg) ((fn_L_cellAt (xs (a4 + (nI 1)).toNatClampNeg) h).2))))]) (st' := [.int (z_vi (fn_L_cellAt (xs (a4 + (nI 1)).toNatClampNeg) h))]) (h' := (fn_X8_cellAt (xs (a4 + (nI 1)).toNatClampNeg) ((fn_L_cellAt (xs (a4 + (nI 1)).toNatClampNeg) h).2)).2) (cs := []) [.iload 5] (by decide +kernel) rfl rfl trivial ?_
                      refine z_if_ne hC (off := 15) 555 (by decide +kernel) (by decide) (fun c251 => ?_) (fun c251 => ?_)
                      · skip
                        have E := (if_neg c251).symm.trans E
                        have T := T.2 c251
                        refine z_less (ls' := [some (.ref 36), some (.ref 0), some (.ref 20), some (.ref 35), some (.int a4), none, none]) (by simp [z_sub]) ?_
                        refine z_widen (k' := kk + 2) (n' := nn + 12) (by omega) (by omega) ?_
                        exact P555 _ _ kk nn h1 h2 hk23 a4 ((fn_X8_cellAt (xs (a4 + (nI 1)).toNatClampNeg) ((fn_L_cellAt (xs (a4 + (nI 1)).toNatClampNeg) h).2)).2) T E
                      · skip
                        have E := (if_pos c251).symm.trans E
                        have T := T.1 c251
                        refine z_go hC (pc' := 550) (ls' := [some (.ref 36), some (.ref 0), some (.ref 20), some (.ref 35), some (.int a4), some (.int (z_vi (fn_L_cellAt (xs (a4 + (nI 1)).toNatClampNeg) h))), some (.int (z_vi (fn_X8_cellAt (xs (a4 + (nI 1)).toNatClampNeg) ((fn_L_cellAt (xs (a4 + (nI 1)).toNatClampNeg) h).2))))]) (st' := [.int (lg_cmp (((fn_X8_cellAt (xs (a4 + (nI 1)).toNatClampNeg) ((fn_L_cellAt (xs (a4 + (nI 1)).toNatClampNeg) h).2)).2).2 35 ((nI 0).toNatClampNeg)) ((z_vi (fn_X8_cellAt (xs (a4 + (nI 1)).toNatClampNeg) ((fn_L_cellAt (xs (a4 + (nI 1)).toNatClampNeg) h).2))).toInt64))]) (h' := (fn_X8_cellAt (xs (a4 + (nI 1)).toNatClampNeg) ((fn_L_cellAt (xs (a4 + (nI 1)).toNatClampNeg) h).2)).2) (cs := [vp_in (nI 0) 1]) [.aload_n 3, .iconst 0, .laload, .iload 6, .i2l, .lcmp] (by decide +kernel) rfl rfl (vp_in_nI (n := 0) (N := 1) (by decide) (by decide)) ?_
                        refine z_if_eq hC (off := 5) 555 (by decide +kernel) (by decide) (fun c252 => ?_) (fun c252 => ?_)
                        · skip
                          have E := (if_pos c252).symm.trans E
                          have T := T.1 c252
                          refine z_less (ls' := [some (.ref 36), some (.ref 0), some (.ref 20), some (.ref 35), some (.int a4), none, none]) (by simp [z_sub]) ?_
                          refine z_widen (k' := kk + 2) (n' := nn + 12) (by omega) (by omega) ?_
                          exact P555 _ _ kk nn h1 h2 hk23 a4 ((fn_X8_cellAt (xs (a4 + (nI 1)).toNatClampNeg) ((fn_L_cellAt (xs (a4 + (nI 1)).toNatClampNeg) h).2)).2) T E
                        · skip
                          have E := (if_neg c252).symm.trans E
                          have T := T.2 c252
                          refine z_go hC (pc' := 554) (ls' := [some (.ref 36), some (.ref 0), some (.ref 20), some (.ref 35), some (.int a4), some (.int (z_vi (fn_L_cellAt (xs (a4 + (nI 1)).toNatClampNeg) h))), some (.int (z_vi (fn_X8_cellAt (xs (a4 + (nI 1)).toNatClampNeg) ((fn_L_cellAt (xs (a4 + (nI 1)).toNatClampNeg) h).2))))]) (st' := [.int (nI 0)]) (h' := (fn_X8_cellAt (xs (a4 + (nI 1)).toNatClampNeg) ((fn_L_cellAt (xs (a4 + (nI 1)).toNatClampNeg) h).2)).2) (cs := []) [.iconst 0] (by decide +kernel) rfl rfl trivial ?_
                          exact absurd E (by decide)
                    · skip
                      have E := (if_neg c250).symm.trans E
                      have T := T.2 c250
                      refine z_go hC (pc' := 537) (ls' := [some (.ref 36), some (.ref 0), some (.ref 20), some (.ref 35), some (.int a4), some (.int (z_vi (fn_L_cellAt (xs (a4 + (nI 1)).toNatClampNeg) h))), some (.int (z_vi (fn_X8_cellAt (xs (a4 + (nI 1)).toNatClampNeg) ((fn_L_cellAt (xs (a4 + (nI 1)).toNatClampNeg) h).2))))]) (st' := [.int (nI 0)]) (h' := (fn_X8_cellAt (xs (a4 + (nI 1)).toNatClampNeg) ((fn_L_cellAt (xs (a4 + (nI 1)).toNatClampNeg) h).2)).2) (cs := []) [.iconst 0] (by decide +kernel) rfl rfl trivial ?_
                      exact absurd E (by decide)
                  · skip
                    have E := (if_neg c29).symm.trans E
                    have T := T.2 c29
                    by_cases c30 : ((xs a4.toNatClampNeg) &&& (nI 31)) = nI 7
                    · skip
                      have E := (if_pos c30).symm.trans E
                      have T := T.1 c30
                      refine z_tabIn hC (dflt := 1176) (lo := 0) (hi := 23) (offs := #[109, 200, 268, 331, 394, 407, 463, 519, 575, 623, 667, 723, 779, 835, 848, 861, 874, 930, 943, 956, 1019, 1032, 1088, 1132]) (len := 109) (off := 519) 558 (by decide +kernel) (by rw [c30]; decide) (by rw [c30]; decide) (by rw [c30]; rfl) (by decide) ?_
                      refine z_go hC (pc' := 564) (ls' := [some (.ref 36), some (.ref 0), some (.ref 20), some (.ref 35), some (.int a4), none, none]) (st' := [.int (a4 + (nI 1)), .ref 36, .ref 0]) (h' := h) (cs := []) [.aload_n 1, .aload_n 0, .iload 4, .iconst 1, .iadd] (by decide +kernel) rfl rfl trivial ?_
                      obtain ⟨t226, T⟩ := T
                      refine z_sld hC hX hbl hbA had (by decide +kernel) t226 ?_
                      refine z_go hC (pc' := 566) (ls' := [some (.ref 36), some (.ref 0), some (.ref 20), some (.ref 35), some (.int a4), none, none]) (st' := [.ref 35, .int (xs (a4 + (nI 1)).toNatClampNeg), .ref 0]) (h' := h) (cs := []) [.aload_n 3] (by decide +kernel) rfl rfl trivial ?_
                      obtain ⟨t227, T⟩ := T
                      refine z_callSh hC hN hR hZ hKin (as := [.ref 0, .int (xs (a4 + (nI 1)).toNatClampNeg), .ref 35]) (rest := []) ok_L_107 (by decide +kernel) (sp_L_cellAtByRings l hl0 _ h (xs (a4 + (nI 1)).toNatClampNeg) t227) (Nat.le_of_ble_eq_true rfl) rfl rfl (Nat.le_of_ble_eq_true rfl) ⟨by show _ ≤ 601024; omega, by show _ ≤ 7293034; omega⟩ (fun Ex qx => False.elim qx) (fun rv hh q228 => z_fun q228 ?_)
                      refine z_go hC (pc' := 577) (ls' := [some (.ref 36), some (.ref 0), some (.ref 20), some (.ref 35), some (.int a4), some (.int (z_vi (fn_L_cellAtByRings (xs (a4 + (nI 1)).toNatClampNeg) h))), none]) (st' := [.int (a4 + (nI 1)), .ref 36, .ref 20]) (h' := (fn_L_cellAtByRings (xs (a4 + (nI 1)).toNatClampNeg) h).2) (cs := []) [.istore 5, .aload_n 2, .aload_n 0, .iload 4, .iconst 1, .iadd] (by decide +kernel) rfl rfl trivial ?_
                      obtain ⟨t229, T⟩ := T
                      refine z_sld hC hX hbl hbA had (by decide +kernel) t229 ?_
                      obtain ⟨t233, T⟩ := T
                      refine z_callV hC hN hR (as := [.int (xs (a4 + (nI 1)).toNatClampNeg)]) (rest := []) ok_L_109 (by decide +kernel) (sp_X8_cellAtByRings l _ ((fn_L_cellAtByRings (xs (a4 + (nI 1)).toNatClampNeg) h).2) (xs (a4 + (nI 1)).toNatClampNeg) t233) rfl rfl (Nat.le_of_ble_eq_true rfl) rfl rfl (Nat.le_of_ble_eq_true rfl) ⟨by show _ ≤ 601024; omega, by show _ ≤ 7293034; omega⟩ (fun r230 h231 q232 => z_fun q232 ?_)
                      refine z_go hC (pc' := 584) (ls' := [some (.ref 36), some (.ref 0), some (.ref 20), some (.ref 35), some (.int a4), some (.int (z_vi (fn_L_cellAtByRings (xs (a4 + (nI 1)).toNatClampNeg) h))), some (.int (z_vi (fn_X8_cellAtByRings (xs (a4 + (nI 1)).toNatClampNeg) ((fn_L_cellAtByRings (xs (a4 + (nI 1)).toNatClampNeg) h).2))))]) (st' := [.ref 20]) (h' := (fn_X8_cellAtByRings (xs (a4 + (nI 1)).toNatClampNeg) ((fn_L_cellAtByRings (xs (a4 + (nI 1)).toNatClampNeg) h).2)).2) (cs := []) [.istore 6, .aload_n 2] (by decide +kernel) rfl rfl trivial ?_
                      refine z_callV hC hN hR (as := []) (rest := []) ok_L_82 (by decide +kernel) (sp_X8_thrown l _ ((fn_X8_cellAtByRings (xs (a4 + (nI 1)).toNatClampNeg) ((fn_L_cellAtByRings (xs (a4 + (nI 1)).toNatClampNeg) h).2)).2) ) rfl rfl (Nat.le_of_ble_eq_true rfl) rfl rfl (Nat.le_of_ble_eq_true rfl) ⟨by show _ ≤ 601024; omega, by show _ ≤ 7293034; omega⟩ (fun r234 h235 q236 => z_fun q236 ?_)
                      refine z_go hC (pc' := 589) (ls' := [some (.ref 36), some (.ref 0), some (.ref 20), some (.ref 35), some (.int a4), some (.int (z_vi (fn_L_cellAtByRings (xs (a4 + (nI 1)).toNatClampNeg) h))), some (.int (z_vi (fn_X8_cellAtByRings (xs (a4 + (nI 1)).toNatClampNeg) ((fn_L_cellAtByRings (xs (a4 + (nI 1)).toNatClampNeg) h).2))))]) (st' := [.int (z_vi (fn_L_cellAtByRings (xs (a4 + (nI 1)).toNatClampNeg) h)), .int (((fn_X8_cellAtByRings (xs (a4 + (nI 1)).toNatClampNeg) ((fn_L_cellAtByRings (xs (a4 + (nI 1)).toNatClampNeg) h).2)).2).1 20 0)]) (h' := (fn_X8_cellAtByRings (xs (a4 + (nI 1)).toNatClampNeg) ((fn_L_cellAtByRings (xs (a4 + (nI 1)).toNatClampNeg) h).2)).2) (cs := []) [.iload 5] (by decide +kernel) rfl rfl trivial ?_
                      refine z_icmp_eq hC (off := 5) 594 (by decide +kernel) (by decide) (fun c237 => ?_) (fun c237 => ?_)
                      · skip
                        have E := (if_pos c237).symm.trans E
                        have T := T.1 c237
                        refine z_go hC (pc' := 596) (ls' := [some (.ref 36), some (.ref 0), some (.ref 20), some (.ref 35), some (.int a4), some (.int (z_vi (fn_L_cellAtByRings (xs (a4 + (nI 1)).toNatClampNeg) h))), some (.int (z_vi (fn_X8_cellAtByRings (xs (a4 + (nI 1)).toNatClampNeg) ((fn_L_cellAtByRings (xs (a4 + (nI 1)).toNatClampNeg) h).2))))]) (st' := [.int (z_vi (fn_L_cellAtByRings (xs (a4 + (nI 1)).toNatClampNeg) h))]) (h' := (fn_X8_cellAtByRings (xs (a4 + (nI 1)).toNatClampNeg) ((fn_L_cellAtByRings (xs (a4 + (nI 1)).toNatClampNeg) h).2)).2) (cs := []) [.iload 5] (by decide +kernel) rfl rfl trivial ?_
                        refine z_if_ne hC (off := 15) 611 (by decide +kernel) (by decide) (fun c238 => ?_) (fun c238 => ?_)
                        · skip
                          have E := (if_neg c238).symm.trans E
                          have T := T.2 c238
                          refine z_less (ls' := [some (.ref 36), some (.ref 0), some (.ref 20), some (.ref 35), some (.int a4), none, none]) (by simp [z_sub]) ?_
                          refine z_widen (k' := kk + 2) (n' := nn + 12) (by omega) (by omega) ?_
                          exact P611 _ _ kk nn h1 h2 hk23 a4 ((fn_X8_cellAtByRings (xs (a4 + (nI 1)).toNatClampNeg) ((fn_L_cellAtByRings (xs (a4 + (nI 1)).toNatClampNeg) h).2)).2) T E
                        · skip
                          have E := (if_pos c238).symm.trans E
                          have T := T.1 c238
                          refine z_go hC (pc' := 606) (ls' := [some (.ref 36), some (.ref 0), some (.ref 20), some (.ref 35), some (.int a4), some (.int (z_vi (fn_L_cellAtByRings (xs (a4 + (nI 1)).toNatClampNeg) h))), some (.int (z_vi (fn_X8_cellAtByRings (xs (a4 + (nI 1)).toNatClampNeg) ((fn_L_cellAtByRings (xs (a4 + (nI 1)).toNatClampNeg) h).2))))]) (st' := [.int (lg_cmp (((fn_X8_cellAtByRings (xs (a4 + (nI 1)).toNatClampNeg) ((fn_L_cellAtByRings (xs (a4 + (nI 1)).toNatClampNeg) h).2)).2).2 35 ((nI 0).toNatClampNeg)) ((z_vi (fn_X8_cellAtByRings (xs (a4 + (nI 1)).toNatClampNeg) ((fn_L_cellAtByRings (xs (a4 + (nI 1)).toNatClampNeg) h).2))).toInt64))]) (h' := (fn_X8_cellAtByRings (xs (a4 + (nI 1)).toNatClampNeg) ((fn_L_cellAtByRings (xs (a4 + (nI 1)).toNatClampNeg) h).2)).2) (cs := [vp_in (nI 0) 1]) [.aload_n 3, .iconst 0, .laload, .iload 6, .i2l, .lcmp] (by decide +kernel) rfl rfl (vp_in_nI (n := 0) (N := 1) (by decide) (by decide)) ?_
                          refine z_if_eq hC (off := 5) 611 (by decide +kernel) (by decide) (fun c239 => ?_) (fun c239 => ?_)
                          · skip
                            have E := (if_pos c239).symm.trans E
                            have T := T.1 c239
                            refine z_less (ls' := [some (.ref 36), some (.ref 0), some (.ref 20), some (.ref 35), some (.int a4), none, none]) (by simp [z_sub]) ?_
                            refine z_widen (k' := kk + 2) (n' := nn + 12) (by omega) (by omega) ?_
                            exact P611 _ _ kk nn h1 h2 hk23 a4 ((fn_X8_cellAtByRings (xs (a4 + (nI 1)).toNatClampNeg) ((fn_L_cellAtByRings (xs (a4 + (nI 1)).toNatClampNeg) h).2)).2) T E
                          · skip
                            have E := (if_neg c239).symm.trans E
                            have T := T.2 c239
                            refine z_go hC (pc' := 610) (ls' := [some (.ref 36), some (.ref 0), some (.ref 20), some (.ref 35), some (.int a4), some (.int (z_vi (fn_L_cellAtByRings (xs (a4 + (nI 1)).toNatClampNeg) h))), some (.int (z_vi (fn_X8_cellAtByRings (xs (a4 + (nI 1)).toNatClampNeg) ((fn_L_cellAtByRings (xs (a4 + (nI 1)).toNatClampNeg) h).2))))]) (st' := [.int (nI 0)]) (h' := (fn_X8_cellAtByRings (xs (a4 + (nI 1)).toNatClampNeg) ((fn_L_cellAtByRings (xs (a4 + (nI 1)).toNatClampNeg) h).2)).2) (cs := []) [.iconst 0] (by decide +kernel) rfl rfl trivial ?_
                            exact absurd E (by decide)
                      · skip
                        have E := (if_neg c237).symm.trans E
                        have T := T.2 c237
                        refine z_go hC (pc' := 593) (ls' := [some (.ref 36), some (.ref 0), some (.ref 20), some (.ref 35), some (.int a4), some (.int (z_vi (fn_L_cellAtByRings (xs (a4 + (nI 1)).toNatClampNeg) h))), some (.int (z_vi (fn_X8_cellAtByRings (xs (a4 + (nI 1)).toNatClampNeg) ((fn_L_cellAtByRings (xs (a4 + (nI 1)).toNatClampNeg) h).2))))]) (st' := [.int (nI 0)]) (h' := (fn_X8_cellAtByRings (xs (a4 + (nI 1)).toNatClampNeg) ((fn_L_cellAtByRings (xs (a4 + (nI 1)).toNatClampNeg) h).2)).2) (cs := []) [.iconst 0] (by decide +kernel) rfl rfl trivial ?_
                        exact absurd E (by decide)
                    · skip
                      have E := (if_neg c30).symm.trans E
                      have T := T.2 c30
                      by_cases c31 : ((xs a4.toNatClampNeg) &&& (nI 31)) = nI 8
                      · skip
                        have E := (if_pos c31).symm.trans E
                        have T := T.1 c31
                        refine z_tabIn hC (dflt := 1176) (lo := 0) (hi := 23) (offs := #[109, 200, 268, 331, 394, 407, 463, 519, 575, 623, 667, 723, 779, 835, 848, 861, 874, 930, 943, 956, 1019, 1032, 1088, 1132]) (len := 109) (off := 575) 614 (by decide +kernel) (by rw [c31]; decide) (by rw [c31]; decide) (by rw [c31]; rfl) (by decide) ?_
                        refine z_go hC (pc' := 620) (ls' := [some (.ref 36), some (.ref 0), some (.ref 20), some (.ref 35), some (.int a4), none, none]) (st' := [.int (a4 + (nI 1)), .ref 36, .ref 0]) (h' := h) (cs := []) [.aload_n 1, .aload_n 0, .iload 4, .iconst 1, .iadd] (by decide +kernel) rfl rfl trivial ?_
                        obtain ⟨t213, T⟩ := T
                        refine z_sld hC hX hbl hbA had (by decide +kernel) t213 ?_
                        refine z_go hC (pc' := 626) (ls' := [some (.ref 36), some (.ref 0), some (.ref 20), some (.ref 35), some (.int a4), none, none]) (st' := [.int (a4 + (nI 2)), .ref 36, .int (xs (a4 + (nI 1)).toNatClampNeg), .ref 0]) (h' := h) (cs := []) [.aload_n 0, .iload 4, .iconst 2, .iadd] (by decide +kernel) rfl rfl trivial ?_
                        obtain ⟨t214, T⟩ := T
                        refine z_sld hC hX hbl hbA had (by decide +kernel) t214 ?_
                        refine z_callSh hC hN hR hZ hKin (as := [.ref 0, .int (xs (a4 + (nI 1)).toNatClampNeg), .int (xs (a4 + (nI 2)).toNatClampNeg)]) (rest := []) ok_L_110 (by decide +kernel) (sp_L_begin l hl0 _ h (xs (a4 + (nI 1)).toNatClampNeg) (xs (a4 + (nI 2)).toNatClampNeg)) (Nat.le_of_ble_eq_true rfl) rfl rfl (Nat.le_of_ble_eq_true rfl) ⟨by show _ ≤ 601024; omega, by show _ ≤ 7293034; omega⟩ (fun Ex qx => False.elim qx) (fun rv hh q215 => z_fun q215 ?_)
                        refine z_go hC (pc' := 638) (ls' := [some (.ref 36), some (.ref 0), some (.ref 20), some (.ref 35), some (.int a4), some (.int (z_vi (fn_L_begin (xs (a4 + (nI 1)).toNatClampNeg) (xs (a4 + (nI 2)).toNatClampNeg) h))), none]) (st' := [.int (a4 + (nI 1)), .ref 36, .ref 20]) (h' := (fn_L_begin (xs (a4 + (nI 1)).toNatClampNeg) (xs (a4 + (nI 2)).toNatClampNeg) h).2) (cs := []) [.istore 5, .aload_n 2, .aload_n 0, .iload 4, .iconst 1, .iadd] (by decide +kernel) rfl rfl trivial ?_
                        obtain ⟨t216, T⟩ := T
                        refine z_sld hC hX hbl hbA had (by decide +kernel) t216 ?_
                        refine z_go hC (pc' := 644) (ls' := [some (.ref 36), some (.ref 0), some (.ref 20), some (.ref 35), some (.int a4), some (.int (z_vi (fn_L_begin (xs (a4 + (nI 1)).toNatClampNeg) (xs (a4 + (nI 2)).toNatClampNeg) h))), none]) (st' := [.int (a4 + (nI 2)), .ref 36, .int (xs (a4 + (nI 1)).toNatClampNeg), .ref 20]) (h' := (fn_L_begin (xs (a4 + (nI 1)).toNatClampNeg) (xs (a4 + (nI 2)).toNatClampNeg) h).2) (cs := []) [.aload_n 0, .iload 4, .iconst 2, .iadd] (by decide +kernel) rfl rfl trivial ?_
                        obtain ⟨t217, T⟩ := T
                        refine z_sld hC hX hbl hbA had (by decide +kernel) t217 ?_
                        obtain ⟨t221, T⟩ := T
                        refine z_callV hC hN hR (as := [.int (xs (a4 + (nI 1)).toNatClampNeg), .int (xs (a4 + (nI 2)).toNatClampNeg)]) (rest := []) ok_L_113 (by decide +kernel) (sp_X8_begin l _ ((fn_L_begin (xs (a4 + (nI 1)).toNatClampNeg) (xs (a4 + (nI 2)).toNatClampNeg) h).2) (xs (a4 + (nI 1)).toNatClampNeg) (xs (a4 + (nI 2)).toNatClampNeg) t221) rfl rfl (Nat.le_of_ble_eq_true rfl) rfl rfl (Nat.le_of_ble_eq_true rfl) ⟨by show _ ≤ 601024; omega, by show _ ≤ 7293034; omega⟩ (fun r218 h219 q220 => z_fun q220 ?_)
                        refine z_go hC (pc' := 649) (ls' := [some (.ref 36), some (.ref 0), some (.ref 20), some (.ref 35), some (.int a4), some (.int (z_vi (fn_L_begin (xs (a4 + (nI 1)).toNatClampNeg) (xs (a4 + (nI 2)).toNatClampNeg) h))), none]) (st' := [.ref 20]) (h' := (fn_X8_begin (xs (a4 + (nI 1)).toNatClampNeg) (xs (a4 + (nI 2)).toNatClampNeg) ((fn_L_begin (xs (a4 + (nI 1)).toNatClampNeg) (xs (a4 + (nI 2)).toNatClampNeg) h).2)).2) (cs := []) [.aload_n 2] (by decide +kernel) rfl rfl trivial ?_
                        refine z_callV hC hN hR (as := []) (rest := []) ok_L_82 (by decide +kernel) (sp_X8_thrown l _ ((fn_X8_begin (xs (a4 + (nI 1)).toNatClampNeg) (xs (a4 + (nI 2)).toNatClampNeg) ((fn_L_begin (xs (a4 + (nI 1)).toNatClampNeg) (xs (a4 + (nI 2)).toNatClampNeg) h).2)).2) ) rfl rfl (Nat.le_of_ble_eq_true rfl) rfl rfl (Nat.le_of_ble_eq_true rfl) ⟨by show _ ≤ 601024; omega, by show _ ≤ 7293034; omega⟩ (fun r222 h223 q224 => z_fun q224 ?_)
                        refine z_go hC (pc' := 654) (ls' := [some (.ref 36), some (.ref 0), some (.ref 20), some (.ref 35), some (.int a4), some (.int (z_vi (fn_L_begin (xs (a4 + (nI 1)).toNatClampNeg) (xs (a4 + (nI 2)).toNatClampNeg) h))), none]) (st' := [.int (z_vi (fn_L_begin (xs (a4 + (nI 1)).toNatClampNeg) (xs (a4 + (nI 2)).toNatClampNeg) h)), .int (((fn_X8_begin (xs (a4 + (nI 1)).toNatClampNeg) (xs (a4 + (nI 2)).toNatClampNeg) ((fn_L_begin (xs (a4 + (nI 1)).toNatClampNeg) (xs (a4 + (nI 2)).toNatClampNeg) h).2)).2).1 20 0)]) (h' := (fn_X8_begin (xs (a4 + (nI 1)).toNatClampNeg) (xs (a4 + (nI 2)).toNatClampNeg) ((fn_L_begin (xs (a4 + (nI 1)).toNatClampNeg) (xs (a4 + (nI 2)).toNatClampNeg) h).2)).2) (cs := []) [.iload 5] (by decide +kernel) rfl rfl trivial ?_
                        refine z_icmp_eq hC (off := 5) 659 (by decide +kernel) (by decide) (fun c225 => ?_) (fun c225 => ?_)
                        · skip
                          have E := (if_pos c225).symm.trans E
                          have T := T.1 c225
                          refine z_goto hC (off := 556) 1215 (by decide +kernel) (by decide) ?_
                          refine z_less (ls' := [some (.ref 36), some (.ref 0), some (.ref 20), some (.ref 35), some (.int a4), none, none]) (by simp [z_sub]) ?_
                          refine z_widen (k' := kk + 2) (n' := nn + 12) (by omega) (by omega) ?_
                          exact P1215 _ _ kk nn h1 h2 hk23 a4 ((fn_X8_begin (xs (a4 + (nI 1)).toNatClampNeg) (xs (a4 + (nI 2)).toNatClampNeg) ((fn_L_begin (xs (a4 + (nI 1)).toNatClampNeg) (xs (a4 + (nI 2)).toNatClampNeg) h).2)).2) T E
                        · skip
                          have E := (if_neg c225).symm.trans E
                          have T := T.2 c225
                          refine z_go hC (pc' := 658) (ls' := [some (.ref 36), some (.ref 0), some (.ref 20), some (.ref 35), some (.int a4), some (.int (z_vi (fn_L_begin (xs (a4 + (nI 1)).toNatClampNeg) (xs (a4 + (nI 2)).toNatClampNeg) h))), none]) (st' := [.int (nI 0)]) (h' := (fn_X8_begin (xs (a4 + (nI 1)).toNatClampNeg) (xs (a4 + (nI 2)).toNatClampNeg) ((fn_L_begin (xs (a4 + (nI 1)).toNatClampNeg) (xs (a4 + (nI 2)).toNatClampNeg) h).2)).2) (cs := []) [.iconst 0] (by decide +kernel) rfl rfl trivial ?_
                          exact absurd E (by decide)
                      · skip
                        have E := (if_neg c31).symm.trans E
                        have T := T.2 c31
                        by_cases c32 : ((xs a4.toNatClampNeg) &&& (nI 31)) = nI 9
                        · skip
                          have E := (if_pos c32).symm.trans E
                          have T := T.1 c32
                          refine z_tabIn hC (dflt := 1176) (lo := 0) (hi := 23) (offs := #[109, 200, 268, 331, 394, 407, 463, 519, 575, 623, 667, 723, 779, 835, 848, 861, 874, 930, 943, 956, 1019, 1032, 1088, 1132]) (len := 109) (off := 623) 662 (by decide +kernel) (by rw [c32]; decide) (by rw [c32]; decide) (by rw [c32]; rfl) (by decide) ?_
                          refine z_go hC (pc' := 664) (ls' := [some (.ref 36), some (.ref 0), some (.ref 20), some (.ref 35), some (.int a4), none, none]) (st' := [.ref 35, .ref 0]) (h' := h) (cs := []) [.aload_n 1, .aload_n 3] (by decide +kernel) rfl rfl trivial ?_
                          refine z_callSh hC hN hR hZ hKin (as := [.ref 0, .ref 35]) (rest := []) ok_L_114 (by decide +kernel) (sp_L_end l hl0 _ h ) (Nat.le_of_ble_eq_true rfl) rfl rfl (Nat.le_of_ble_eq_true rfl) ⟨by show _ ≤ 601024; omega, by show _ ≤ 7293034; omega⟩ (fun Ex qx => False.elim qx) (fun rv hh q202 => z_fun q202 ?_)
                          refine z_go hC (pc' := 670) (ls' := [some (.ref 36), some (.ref 0), some (.ref 20), some (.ref 35), some (.int a4), some (.int (z_vi (fn_L_end  h))), none]) (st' := [.ref 20]) (h' := (fn_L_end  h).2) (cs := []) [.istore 5, .aload_n 2] (by decide +kernel) rfl rfl trivial ?_
                          obtain ⟨t206, T⟩ := T
                          refine z_callV hC hN hR (as := []) (rest := []) ok_L_117 (by decide +kernel) (sp_X8_end l _ ((fn_L_end  h).2)  t206) rfl rfl (Nat.le_of_ble_eq_true rfl) rfl rfl (Nat.le_of_ble_eq_true rfl) ⟨by show _ ≤ 601024; omega, by show _ ≤ 7293034; omega⟩ (fun r203 h204 q205 => z_fun q205 ?_)
                          refine z_go hC (pc' := 676) (ls' := [some (.ref 36), some (.ref 0), some (.ref 20), some (.ref 35), some (.int a4), some (.int (z_vi (fn_L_end  h))), some (.int (z_vi (fn_X8_end  ((fn_L_end  h).2))))]) (st' := [.ref 20]) (h' := (fn_X8_end  ((fn_L_end  h).2)).2) (cs := []) [.istore 6, .aload_n 2] (by decide +kernel) rfl rfl trivial ?_
                          refine z_callV hC hN hR (as := []) (rest := []) ok_L_82 (by decide +kernel) (sp_X8_thrown l _ ((fn_X8_end  ((fn_L_end  h).2)).2) ) rfl rfl (Nat.le_of_ble_eq_true rfl) rfl rfl (Nat.le_of_ble_eq_true rfl) ⟨by show _ ≤ 601024; omega, by show _ ≤ 7293034; omega⟩ (fun r207 h208 q209 => z_fun q209 ?_)
                          refine z_go hC (pc' := 681) (ls' := [some (.ref 36), some (.ref 0), some (.ref 20), some (.ref 35), some (.int a4), some (.int (z_vi (fn_L_end  h))), some (.int (z_vi (fn_X8_end  ((fn_L_end  h).2))))]) (st' := [.int (z_vi (fn_L_end  h)), .int (((fn_X8_end  ((fn_L_end  h).2)).2).1 20 0)]) (h' := (fn_X8_end  ((fn_L_end  h).2)).2) (cs := []) [.iload 5] (by decide +kernel) rfl rfl trivial ?_
                          refine z_icmp_eq hC (off := 5) 686 (by decide +kernel) (by decide) (fun c210 => ?_) (fun c210 => ?_)
                          · skip
                            have E := (if_pos c210).symm.trans E
                            have T := T.1 c210
                            refine z_go hC (pc' := 688) (ls' := [some (.ref 36), some (.ref 0), some (.ref 20), some (.ref 35), some (.int a4), some (.int (z_vi (fn_L_end  h))), some (.int (z_vi (fn_X8_end  ((fn_L_end  h).2))))]) (st' := [.int (z_vi (fn_L_end  h))]) (h' := (fn_X8_end  ((fn_L_end  h).2)).2) (cs := []) [.iload 5] (by decide +kernel) rfl rfl trivial ?_
                            refine z_if_ne hC (off := 15) 703 (by decide +kernel) (by decide) (fun c211 => ?_) (fun c211 => ?_)
                            · skip
                              have E := (if_neg c211).symm.trans E
                              have T := T.2 c211
                              refine z_less (ls' := [some (.ref 36), some (.ref 0), some (.ref 20), some (.ref 35), some (.int a4), none, none]) (by simp [z_sub]) ?_
                              refine z_widen (k' := kk + 1) (n' := nn + 6) (by omega) (by omega) ?_
                              exact P703 _ _ kk nn h1 h2 hk23 a4 ((fn_X8_end  ((fn_L_end  h).2)).2) T E
                            · skip
                              have E := (if_pos c211).symm.trans E
                              have T := T.1 c211
                              refine z_go hC (pc' := 698) (ls' := [some (.ref 36), some (.ref 0), some (.ref 20), some (.ref 35), some (.int a4), some (.int (z_vi (fn_L_end  h))), some (.int (z_vi (fn_X8_end  ((fn_L_end  h).2))))]) (st' := [.int (lg_cmp (((fn_X8_end  ((fn_L_end  h).2)).2).2 35 ((nI 0).toNatClampNeg)) ((z_vi (fn_X8_end  ((fn_L_end  h).2))).toInt64))]) (h' := (fn_X8_end  ((fn_L_end  h).2)).2) (cs := [vp_in (nI 0) 1]) [.aload_n 3, .iconst 0, .laload, .iload 6, .i2l, .lcmp] (by decide +kernel) rfl rfl (vp_in_nI (n := 0) (N := 1) (by decide) (by decide)) ?_
                              refine z_if_eq hC (off := 5) 703 (by decide +kernel) (by decide) (fun c212 => ?_) (fun c212 => ?_)
                              · skip
                                have E := (if_pos c212).symm.trans E
                                have T := T.1 c212
                                refine z_less (ls' := [some (.ref 36), some (.ref 0), some (.ref 20), some (.ref 35), some (.int a4), none, none]) (by simp [z_sub]) ?_
                                refine z_widen (k' := kk + 1) (n' := nn + 6) (by omega) (by omega) ?_
                                exact P703 _ _ kk nn h1 h2 hk23 a4 ((fn_X8_end  ((fn_L_end  h).2)).2) T E
                              · skip
                                have E := (if_neg c212).symm.trans E
                                have T := T.2 c212
                                refine z_go hC (pc' := 702) (ls' := [some (.ref 36), some (.ref 0), some (.ref 20), some (.ref 35), some (.int a4), some (.int (z_vi (fn_L_end  h))), some (.int (z_vi (fn_X8_end  ((fn_L_end  h).2))))]) (st' := [.int (nI 0)]) (h' := (fn_X8_end  ((fn_L_end  h).2)).2) (cs := []) [.iconst 0] (by decide +kernel) rfl rfl trivial ?_
                                exact absurd E (by decide)
                          · skip
                            have E := (if_neg c210).symm.trans E
                            have T := T.2 c210
                            refine z_go hC (pc' := 685) (ls' := [some (.ref 36), some (.ref 0), some (.ref 20), some (.ref 35), some (.int a4), some (.int (z_vi (fn_L_end  h))), some (.int (z_vi (fn_X8_end  ((fn_L_end  h).2))))]) (st' := [.int (nI 0)]) (h' := (fn_X8_end  ((fn_L_end  h).2)).2) (cs := []) [.iconst 0] (by decide +kernel) rfl rfl trivial ?_
                            exact absurd E (by decide)
                        · skip
                          have E := (if_neg c32).symm.trans E
                          have T := T.2 c32
                          by_cases c33 : ((xs a4.toNatClampNeg) &&& (nI 31)) = nI 10
                          · skip
                            have E := (if_pos c33).symm.trans E
                            have T := T.1 c33
                            refine z_tabIn hC (dflt := 1176) (lo := 0) (hi := 23) (offs := #[109, 200, 268, 331, 394, 407, 463, 519, 575, 623, 667, 723, 779, 835, 848, 861, 874, 930, 943, 956, 1019, 1032, 1088, 1132]) (len := 109) (off := 667) 706 (by decide +kernel) (by rw [c33]; decide) (by rw [c33]; decide) (by rw [c33]; rfl) (by decide) ?_
                            refine z_go hC (pc' := 712) (ls' := [some (.ref 36), some (.ref 0), some (.ref 20), some (.ref 35), some (.int a4), none, none]) (st' := [.int (a4 + (nI 1)), .ref 36, .ref 0]) (h' := h) (cs := []) [.aload_n 1, .aload_n 0, .iload 4, .iconst 1, .iadd] (by decide +kernel) rfl rfl trivial ?_
                            obtain ⟨t189, T⟩ := T
                            refine z_sld hC hX hbl hbA had (by decide +kernel) t189 ?_
                            refine z_go hC (pc' := 714) (ls' := [some (.ref 36), some (.ref 0), some (.ref 20), some (.ref 35), some (.int a4), none, none]) (st' := [.ref 35, .int (xs (a4 + (nI 1)).toNatClampNeg), .ref 0]) (h' := h) (cs := []) [.aload_n 3] (by decide +kernel) rfl rfl trivial ?_
                            refine z_callSh hC hN hR hZ hKin (as := [.ref 0, .int (xs (a4 + (nI 1)).toNatClampNeg), .ref 35]) (rest := []) ok_L_118 (by decide +kernel) (sp_L_feed l hl0 _ h (xs (a4 + (nI 1)).toNatClampNeg)) (Nat.le_of_ble_eq_true rfl) rfl rfl (Nat.le_of_ble_eq_true rfl) ⟨by show _ ≤ 601024; omega, by show _ ≤ 7293034; omega⟩ (fun Ex qx => False.elim qx) (fun rv hh q190 => z_fun q190 ?_)
                            refine z_go hC (pc' := 725) (ls' := [some (.ref 36), some (.ref 0), some (.ref 20), some (.ref 35), some (.int a4), some (.int (z_vi (fn_L_feed (xs (a4 + (nI 1)).toNatClampNeg) h))), none]) (st' := [.int (a4 + (nI 1)), .ref 36, .ref 20]) (h' := (fn_L_feed (xs (a4 + (nI 1)).toNatClampNeg) h).2) (cs := []) [.istore 5, .aload_n 2, .aload_n 0, .iload 4, .iconst 1, .iadd] (by decide +kernel) rfl rfl trivial ?_
                            obtain ⟨t191, T⟩ := T
                            refine z_sld hC hX hbl hbA had (by decide +kernel) t191 ?_
                            obtain ⟨t195, T⟩ := T
                            refine z_callV hC hN hR (as := [.int (xs (a4 + (nI 1)).toNatClampNeg)]) (rest := []) ok_L_120 (by decide +kernel) (sp_X8_feed l _ ((fn_L_feed (xs (a4 + (nI 1)).toNatClampNeg) h).2) (xs (a4 + (nI 1)).toNatClampNeg) t195) rfl rfl (Nat.le_of_ble_eq_true rfl) rfl rfl (Nat.le_of_ble_eq_true rfl) ⟨by show _ ≤ 601024; omega, by show _ ≤ 7293034; omega⟩ (fun r192 h193 q194 => z_fun q194 ?_)
                            refine z_go hC (pc' := 732) (ls' := [some (.ref 36), some (.ref 0), some (.ref 20), some (.ref 35), some (.int a4), some (.int (z_vi (fn_L_feed (xs (a4 + (nI 1)).toNatClampNeg) h))), some (.int (z_vi (fn_X8_feed (xs (a4 + (nI 1)).toNatClampNeg) ((fn_L_feed (xs (a4 + (nI 1)).toNatClampNeg) h).2))))]) (st' := [.ref 20]) (h' := (fn_X8_feed (xs (a4 + (nI 1)).toNatClampNeg) ((fn_L_feed (xs (a4 + (nI 1)).toNatClampNeg) h).2)).2) (cs := []) [.istore 6, .aload_n 2] (by decide +kernel) rfl rfl trivial ?_
                            refine z_callV hC hN hR (as := []) (rest := []) ok_L_82 (by decide +kernel) (sp_X8_thrown l _ ((fn_X8_feed (xs (a4 + (nI 1)).toNatClampNeg) ((fn_L_feed (xs (a4 + (nI 1)).toNatClampNeg) h).2)).2) ) rfl rfl (Nat.le_of_ble_eq_true rfl) rfl rfl (Nat.le_of_ble_eq_true rfl) ⟨by show _ ≤ 601024; omega, by show _ ≤ 7293034; omega⟩ (fun r196 h197 q198 => z_fun q198 ?_)
                            refine z_go hC (pc' := 737) (ls' := [some (.ref 36), some (.ref 0), some (.ref 20), some (.ref 35), some (.int a4), some (.int (z_vi (fn_L_feed (xs (a4 + (nI 1)).toNatClampNeg) h))), some (.int (z_vi (fn_X8_feed (xs (a4 + (nI 1)).toNatClampNeg) ((fn_L_feed (xs (a4 + (nI 1)).toNatClampNeg) h).2))))]) (st' := [.int (z_vi (fn_L_feed (xs (a4 + (nI 1)).toNatClampNeg) h)), .int (((fn_X8_feed (xs (a4 + (nI 1)).toNatClampNeg) ((fn_L_feed (xs (a4 + (nI 1)).toNatClampNeg) h).2)).2).1 20 0)]) (h' := (fn_X8_feed (xs (a4 + (nI 1)).toNatClampNeg) ((fn_L_feed (xs (a4 + (nI 1)).toNatClampNeg) h).2)).2) (cs := []) [.iload 5] (by decide +kernel) rfl rfl trivial ?_
                            refine z_icmp_eq hC (off := 5) 742 (by decide +kernel) (by decide) (fun c199 => ?_) (fun c199 => ?_)
                            · skip
                              have E := (if_pos c199).symm.trans E
                              have T := T.1 c199
                              refine z_go hC (pc' := 744) (ls' := [some (.ref 36), some (.ref 0), some (.ref 20), some (.ref 35), some (.int a4), some (.int (z_vi (fn_L_feed (xs (a4 + (nI 1)).toNatClampNeg) h))), some (.int (z_vi (fn_X8_feed (xs (a4 + (nI 1)).toNatClampNeg) ((fn_L_feed (xs (a4 + (nI 1)).toNatClampNeg) h).2))))]) (st' := [.int (z_vi (fn_L_feed (xs (a4 + (nI 1)).toNatClampNeg) h))]) (h' := (fn_X8_feed (xs (a4 + (nI 1)).toNatClampNeg) ((fn_L_feed (xs (a4 + (nI 1)).toNatClampNeg) h).2)).2) (cs := []) [.iload 5] (by decide +kernel) rfl rfl trivial ?_
                              refine z_if_ne hC (off := 15) 759 (by decide +kernel) (by decide) (fun c200 => ?_) (fun c200 => ?_)
                              · skip
                                have E := (if_neg c200).symm.trans E
                                have T := T.2 c200
                                refine z_less (ls' := [some (.ref 36), some (.ref 0), some (.ref 20), some (.ref 35), some (.int a4), none, none]) (by simp [z_sub]) ?_
                                refine z_widen (k' := kk + 2) (n' := nn + 12) (by omega) (by omega) ?_
                                exact P759 _ _ kk nn h1 h2 hk23 a4 ((fn_X8_feed (xs (a4 + (nI 1)).toNatClampNeg) ((fn_L_feed (xs (a4 + (nI 1)).toNatClampNeg) h).2)).2) T E
                              · skip
                                have E := (if_pos c200).symm.trans E
                                have T := T.1 c200
                                refine z_go hC (pc' := 754) (ls' := [some (.ref 36), some (.ref 0), some (.ref 20), some (.ref 35), some (.int a4), some (.int (z_vi (fn_L_feed (xs (a4 + (nI 1)).toNatClampNeg) h))), some (.int (z_vi (fn_X8_feed (xs (a4 + (nI 1)).toNatClampNeg) ((fn_L_feed (xs (a4 + (nI 1)).toNatClampNeg) h).2))))]) (st' := [.int (lg_cmp (((fn_X8_feed (xs (a4 + (nI 1)).toNatClampNeg) ((fn_L_feed (xs (a4 + (nI 1)).toNatClampNeg) h).2)).2).2 35 ((nI 0).toNatClampNeg)) ((z_vi (fn_X8_feed (xs (a4 + (nI 1)).toNatClampNeg) ((fn_L_feed (xs (a4 + (nI 1)).toNatClampNeg) h).2))).toInt64))]) (h' := (fn_X8_feed (xs (a4 + (nI 1)).toNatClampNeg) ((fn_L_feed (xs (a4 + (nI 1)).toNatClampNeg) h).2)).2) (cs := [vp_in (nI 0) 1]) [.aload_n 3, .iconst 0, .laload, .iload 6, .i2l, .lcmp] (by decide +kernel) rfl rfl (vp_in_nI (n := 0) (N := 1) (by decide) (by decide)) ?_
                                refine z_if_eq hC (off := 5) 759 (by decide +kernel) (by decide) (fun c201 => ?_) (fun c201 => ?_)
                                · skip
                                  have E := (if_pos c201).symm.trans E
                                  have T := T.1 c201
                                  refine z_less (ls' := [some (.ref 36), some (.ref 0), some (.ref 20), some (.ref 35), some (.int a4), none, none]) (by simp [z_sub]) ?_
                                  refine z_widen (k' := kk + 2) (n' := nn + 12) (by omega) (by omega) ?_
                                  exact P759 _ _ kk nn h1 h2 hk23 a4 ((fn_X8_feed (xs (a4 + (nI 1)).toNatClampNeg) ((fn_L_feed (xs (a4 + (nI 1)).toNatClampNeg) h).2)).2) T E
                                · skip
                                  have E := (if_neg c201).symm.trans E
                                  have T := T.2 c201
                                  refine z_go hC (pc' := 758) (ls' := [some (.ref 36), some (.ref 0), some (.ref 20), some (.ref 35), some (.int a4), some (.int (z_vi (fn_L_feed (xs (a4 + (nI 1)).toNatClampNeg) h))), some (.int (z_vi (fn_X8_feed (xs (a4 + (nI 1)).toNatClampNeg) ((fn_L_feed (xs (a4 + (nI 1)).toNatClampNeg) h).2))))]) (st' := [.int (nI 0)]) (h' := (fn_X8_feed (xs (a4 + (nI 1)).toNatClampNeg) ((fn_L_feed (xs (a4 + (nI 1)).toNatClampNeg) h).2)).2) (cs := []) [.iconst 0] (by decide +kernel) rfl rfl trivial ?_
                                  exact absurd E (by decide)
                            · skip
                              have E := (if_neg c199).symm.trans E
                              have T := T.2 c199
                              refine z_go hC (pc' := 741) (ls' := [some (.ref 36), some (.ref 0), some (.ref 20), some (.ref 35), some (.int a4), some (.int (z_vi (fn_L_feed (xs (a4 + (nI 1)).toNatClampNeg) h))), some (.int (z_vi (fn_X8_feed (xs (a4 + (nI 1)).toNatClampNeg) ((fn_L_feed (xs (a4 + (nI 1)).toNatClampNeg) h).2))))]) (st' := [.int (nI 0)]) (h' := (fn_X8_feed (xs (a4 + (nI 1)).toNatClampNeg) ((fn_L_feed (xs (a4 + (nI 1)).toNatClampNeg) h).2)).2) (cs := []) [.iconst 0] (by decide +kernel) rfl rfl trivial ?_
                              exact absurd E (by decide)
                          · skip
                            have E := (if_neg c33).symm.trans E
                            have T := T.2 c33
                            by_cases c34 : ((xs a4.toNatClampNeg) &&& (nI 31)) = nI 11
                            · skip
                              have E := (if_pos c34).symm.trans E
                              have T := T.1 c34
                              refine z_tabIn hC (dflt := 1176) (lo := 0) (hi := 23) (offs := #[109, 200, 268, 331, 394, 407, 463, 519, 575, 623, 667, 723, 779, 835, 848, 861, 874, 930, 943, 956, 1019, 1032, 1088, 1132]) (len := 109) (off := 723) 762 (by decide +kernel) (by rw [c34]; decide) (by rw [c34]; decide) (by rw [c34]; rfl) (by decide) ?_
                              refine z_go hC (pc' := 768) (ls' := [some (.ref 36), some (.ref 0), some (.ref 20), some (.ref 35), some (.int a4), none, none]) (st' := [.int (a4 + (nI 1)), .ref 36, .ref 0]) (h' := h) (cs := []) [.aload_n 1, .aload_n 0, .iload 4, .iconst 1, .iadd] (by decide +kernel) rfl rfl trivial ?_
                              obtain ⟨t176, T⟩ := T
                              refine z_sld hC hX hbl hbA had (by decide +kernel) t176 ?_
                              refine z_go hC (pc' := 770) (ls' := [some (.ref 36), some (.ref 0), some (.ref 20), some (.ref 35), some (.int a4), none, none]) (st' := [.ref 35, .int (xs (a4 + (nI 1)).toNatClampNeg), .ref 0]) (h' := h) (cs := []) [.aload_n 3] (by decide +kernel) rfl rfl trivial ?_
                              refine z_callSh hC hN hR hZ hKin (as := [.ref 0, .int (xs (a4 + (nI 1)).toNatClampNeg), .ref 35]) (rest := []) ok_L_121 (by decide +kernel) (sp_L_step l hl0 _ h (xs (a4 + (nI 1)).toNatClampNeg)) (Nat.le_of_ble_eq_true rfl) rfl rfl (Nat.le_of_ble_eq_true rfl) ⟨by show _ ≤ 601024; omega, by show _ ≤ 7293034; omega⟩ (fun Ex qx => False.elim qx) (fun rv hh q177 => z_fun q177 ?_)
                              refine z_go hC (pc' := 781) (ls' := [some (.ref 36), some (.ref 0), some (.ref 20), some (.ref 35), some (.int a4), some (.int (z_vi (fn_L_step (xs (a4 + (nI 1)).toNatClampNeg) h))), none]) (st' := [.int (a4 + (nI 1)), .ref 36, .ref 20]) (h' := (fn_L_step (xs (a4 + (nI 1)).toNatClampNeg) h).2) (cs := []) [.istore 5, .aload_n 2, .aload_n 0, .iload 4, .iconst 1, .iadd] (by decide +kernel) rfl rfl trivial ?_
                              obtain ⟨t178, T⟩ := T
                              refine z_sld hC hX hbl hbA had (by decide +kernel) t178 ?_
                              obtain ⟨t182, T⟩ := T
                              refine z_callV hC hN hR (as := [.int (xs (a4 + (nI 1)).toNatClampNeg)]) (rest := []) ok_L_123 (by decide +kernel) (sp_X8_step l _ ((fn_L_step (xs (a4 + (nI 1)).toNatClampNeg) h).2) (xs (a4 + (nI 1)).toNatClampNeg) t182) rfl rfl (Nat.le_of_ble_eq_true rfl) rfl rfl (Nat.le_of_ble_eq_true rfl) ⟨by show _ ≤ 601024; omega, by show _ ≤ 7293034; omega⟩ (fun r179 h180 q181 => z_fun q181 ?_)
                              refine z_go hC (pc' := 788) (ls' := [some (.ref 36), some (.ref 0), some (.ref 20), some (.ref 35), some (.int a4), some (.int (z_vi (fn_L_step (xs (a4 + (nI 1)).toNatClampNeg) h))), some (.int (z_vi (fn_X8_step (xs (a4 + (nI 1)).toNatClampNeg) ((fn_L_step (xs (a4 + (nI 1)).toNatClampNeg) h).2))))]) (st' := [.ref 20]) (h' := (fn_X8_step (xs (a4 + (nI 1)).toNatClampNeg) ((fn_L_step (xs (a4 + (nI 1)).toNatClampNeg) h).2)).2) (cs := []) [.istore 6, .aload_n 2] (by decide +kernel) rfl rfl trivial ?_
                              refine z_callV hC hN hR (as := []) (rest := []) ok_L_82 (by decide +kernel) (sp_X8_thrown l _ ((fn_X8_step (xs (a4 + (nI 1)).toNatClampNeg) ((fn_L_step (xs (a4 + (nI 1)).toNatClampNeg) h).2)).2) ) rfl rfl (Nat.le_of_ble_eq_true rfl) rfl rfl (Nat.le_of_ble_eq_true rfl) ⟨by show _ ≤ 601024; omega, by show _ ≤ 7293034; omega⟩ (fun r183 h184 q185 => z_fun q185 ?_)
                              refine z_go hC (pc' := 793) (ls' := [some (.ref 36), some (.ref 0), some (.ref 20), some (.ref 35), some (.int a4), some (.int (z_vi (fn_L_step (xs (a4 + (nI 1)).toNatClampNeg) h))), some (.int (z_vi (fn_X8_step (xs (a4 + (nI 1)).toNatClampNeg) ((fn_L_step (xs (a4 + (nI 1)).toNatClampNeg) h).2))))]) (st' := [.int (z_vi (fn_L_step (xs (a4 + (nI 1)).toNatClampNeg) h)), .int (((fn_X8_step (xs (a4 + (nI 1)).toNatClampNeg) ((fn_L_step (xs (a4 + (nI 1)).toNatClampNeg) h).2)).2).1 20 0)]) (h' := (fn_X8_step (xs (a4 + (nI 1)).toNatClampNeg) ((fn_L_step (xs (a4 + (nI 1)).toNatClampNeg) h).2)).2) (cs := []) [.iload 5] (by decide +kernel) rfl rfl trivial ?_
                              refine z_icmp_eq hC (off := 5) 798 (by decide +kernel) (by decide) (fun c186 => ?_) (fun c186 => ?_)
                              · skip
                                have E := (if_pos c186).symm.trans E
                                have T := T.1 c186
                                refine z_go hC (pc' := 800) (ls' := [some (.ref 36), some (.ref 0), some (.ref 20), some (.ref 35), some (.int a4), some (.int (z_vi (fn_L_step (xs (a4 + (nI 1)).toNatClampNeg) h))), some (.int (z_vi (fn_X8_step (xs (a4 + (nI 1)).toNatClampNeg) ((fn_L_step (xs (a4 + (nI 1)).toNatClampNeg) h).2))))]) (st' := [.int (z_vi (fn_L_step (xs (a4 + (nI 1)).toNatClampNeg) h))]) (h' := (fn_X8_step (xs (a4 + (nI 1)).toNatClampNeg) ((fn_L_step (xs (a4 + (nI 1)).toNatClampNeg) h).2)).2) (cs := []) [.iload 5] (by decide +kernel) rfl rfl trivial ?_
                                refine z_if_ne hC (off := 15) 815 (by decide +kernel) (by decide) (fun c187 => ?_) (fun c187 => ?_)
                                · skip
                                  have E := (if_neg c187).symm.trans E
                                  have T := T.2 c187
                                  refine z_less (ls' := [some (.ref 36), some (.ref 0), some (.ref 20), some (.ref 35), some (.int a4), none, none]) (by simp [z_sub]) ?_
                                  refine z_widen (k' := kk + 2) (n' := nn + 12) (by omega) (by omega) ?_
                                  exact P815 _ _ kk nn h1 h2 hk23 a4 ((fn_X8_step (xs (a4 + (nI 1)).toNatClampNeg) ((fn_L_step (xs (a4 + (nI 1)).toNatClampNeg) h).2)).2) T E
                                · skip
                                  have E := (if_pos c187).symm.trans E
                                  have T := T.1 c187
                                  refine z_go hC (pc' := 810) (ls' := [some (.ref 36), some (.ref 0), some (.ref 20), some (.ref 35), some (.int a4), some (.int (z_vi (fn_L_step (xs (a4 + (nI 1)).toNatClampNeg) h))), some (.int (z_vi (fn_X8_step (xs (a4 + (nI 1)).toNatClampNeg) ((fn_L_step (xs (a4 + (nI 1)).toNatClampNeg) h).2))))]) (st' := [.int (lg_cmp (((fn_X8_step (xs (a4 + (nI 1)).toNatClampNeg) ((fn_L_step (xs (a4 + (nI 1)).toNatClampNeg) h).2)).2).2 35 ((nI 0).toNatClampNeg)) ((z_vi (fn_X8_step (xs (a4 + (nI 1)).toNatClampNeg) ((fn_L_step (xs (a4 + (nI 1)).toNatClampNeg) h).2))).toInt64))]) (h' := (fn_X8_step (xs (a4 + (nI 1)).toNatClampNeg) ((fn_L_step (xs (a4 + (nI 1)).toNatClampNeg) h).2)).2) (cs := [vp_in (nI 0) 1]) [.aload_n 3, .iconst 0, .laload, .iload 6, .i2l, .lcmp] (by decide +kernel) rfl rfl (vp_in_nI (n := 0) (N := 1) (by decide) (by decide)) ?_
                                  refine z_if_eq hC (off := 5) 815 (by decide +kernel) (by decide) (fun c188 => ?_) (fun c188 => ?_)
                                  · skip
                                    have E := (if_pos c188).symm.trans E
                                    have T := T.1 c188
                                    refine z_less (ls' := [some (.ref 36), some (.ref 0), some (.ref 20), some (.ref 35), some (.int a4), none, none]) (by simp [z_sub]) ?_
                                    refine z_widen (k' := kk + 2) (n' := nn + 12) (by omega) (by omega) ?_
                                    exact P815 _ _ kk nn h1 h2 hk23 a4 ((fn_X8_step (xs (a4 + (nI 1)).toNatClampNeg) ((fn_L_step (xs (a4 + (nI 1)).toNatClampNeg) h).2)).2) T E
                                  · skip
                                    have E := (if_neg c188).symm.trans E
                                    have T := T.2 c188
                                    refine z_go hC (pc' := 814) (ls' := [some (.ref 36), some (.ref 0), some (.ref 20), some (.ref 35), some (.int a4), some (.int (z_vi (fn_L_step (xs (a4 + (nI 1)).toNatClampNeg) h))), some (.int (z_vi (fn_X8_step (xs (a4 + (nI 1)).toNatClampNeg) ((fn_L_step (xs (a4 + (nI 1)).toNatClampNeg) h).2))))]) (st' := [.int (nI 0)]) (h' := (fn_X8_step (xs (a4 + (nI 1)).toNatClampNeg) ((fn_L_step (xs (a4 + (nI 1)).toNatClampNeg) h).2)).2) (cs := []) [.iconst 0] (by decide +kernel) rfl rfl trivial ?_
                                    exact absurd E (by decide)
                              · skip
                                have E := (if_neg c186).symm.trans E
                                have T := T.2 c186
                                refine z_go hC (pc' := 797) (ls' := [some (.ref 36), some (.ref 0), some (.ref 20), some (.ref 35), some (.int a4), some (.int (z_vi (fn_L_step (xs (a4 + (nI 1)).toNatClampNeg) h))), some (.int (z_vi (fn_X8_step (xs (a4 + (nI 1)).toNatClampNeg) ((fn_L_step (xs (a4 + (nI 1)).toNatClampNeg) h).2))))]) (st' := [.int (nI 0)]) (h' := (fn_X8_step (xs (a4 + (nI 1)).toNatClampNeg) ((fn_L_step (xs (a4 + (nI 1)).toNatClampNeg) h).2)).2) (cs := []) [.iconst 0] (by decide +kernel) rfl rfl trivial ?_
                                exact absurd E (by decide)
                            · skip
                              have E := (if_neg c34).symm.trans E
                              have T := T.2 c34
                              by_cases c35 : ((xs a4.toNatClampNeg) &&& (nI 31)) = nI 12
                              · skip
                                have E := (if_pos c35).symm.trans E
                                have T := T.1 c35
                                refine z_tabIn hC (dflt := 1176) (lo := 0) (hi := 23) (offs := #[109, 200, 268, 331, 394, 407, 463, 519, 575, 623, 667, 723, 779, 835, 848, 861, 874, 930, 943, 956, 1019, 1032, 1088, 1132]) (len := 109) (off := 779) 818 (by decide +kernel) (by rw [c35]; decide) (by rw [c35]; decide) (by rw [c35]; rfl) (by decide) ?_
                                refine z_go hC (pc' := 824) (ls' := [some (.ref 36), some (.ref 0), some (.ref 20), some (.ref 35), some (.int a4), none, none]) (st' := [.int (a4 + (nI 1)), .ref 36, .ref 0]) (h' := h) (cs := []) [.aload_n 1, .aload_n 0, .iload 4, .iconst 1, .iadd] (by decide +kernel) rfl rfl trivial ?_
                                obtain ⟨t162, T⟩ := T
                                refine z_sld hC hX hbl hbA had (by decide +kernel) t162 ?_
                                refine z_go hC (pc' := 826) (ls' := [some (.ref 36), some (.ref 0), some (.ref 20), some (.ref 35), some (.int a4), none, none]) (st' := [.ref 35, .int (xs (a4 + (nI 1)).toNatClampNeg), .ref 0]) (h' := h) (cs := []) [.aload_n 3] (by decide +kernel) rfl rfl trivial ?_
                                obtain ⟨t163, T⟩ := T
                                refine z_callSh hC hN hR hZ hKin (as := [.ref 0, .int (xs (a4 + (nI 1)).toNatClampNeg), .ref 35]) (rest := []) ok_L_124 (by decide +kernel) (sp_L_play l hl0 _ h (xs (a4 + (nI 1)).toNatClampNeg) t163) (Nat.le_of_ble_eq_true rfl) rfl rfl (Nat.le_of_ble_eq_true rfl) ⟨by show _ ≤ 601024; omega, by show _ ≤ 7293034; omega⟩ (fun Ex qx => False.elim qx) (fun rv hh q164 => z_fun q164 ?_)
                                refine z_go hC (pc' := 837) (ls' := [some (.ref 36), some (.ref 0), some (.ref 20), some (.ref 35), some (.int a4), some (.int (z_vi (fn_L_play (xs (a4 + (nI 1)).toNatClampNeg) h))), none]) (st' := [.int (a4 + (nI 1)), .ref 36, .ref 20]) (h' := (fn_L_play (xs (a4 + (nI 1)).toNatClampNeg) h).2) (cs := []) [.istore 5, .aload_n 2, .aload_n 0, .iload 4, .iconst 1, .iadd] (by decide +kernel) rfl rfl trivial ?_
                                obtain ⟨t165, T⟩ := T
                                refine z_sld hC hX hbl hbA had (by decide +kernel) t165 ?_
                                obtain ⟨t169, T⟩ := T
                                refine z_callV hC hN hR (as := [.int (xs (a4 + (nI 1)).toNatClampNeg)]) (rest := []) ok_L_126 (by decide +kernel) (sp_X8_play l _ ((fn_L_play (xs (a4 + (nI 1)).toNatClampNeg) h).2) (xs (a4 + (nI 1)).toNatClampNeg) t169) rfl rfl (Nat.le_of_ble_eq_true rfl) rfl rfl (Nat.le_of_ble_eq_true rfl) ⟨by show _ ≤ 601024; omega, by show _ ≤ 7293034; omega⟩ (fun r166 h167 q168 => z_fun q168 ?_)
                                refine z_go hC (pc' := 844) (ls' := [some (.ref 36), some (.ref 0), some (.ref 20), some (.ref 35), some (.int a4), some (.int (z_vi (fn_L_play (xs (a4 + (nI 1)).toNatClampNeg) h))), some (.int (z_vi (fn_X8_play (xs (a4 + (nI 1)).toNatClampNeg) ((fn_L_play (xs (a4 + (nI 1)).toNatClampNeg) h).2))))]) (st' := [.ref 20]) (h' := (fn_X8_play (xs (a4 + (nI 1)).toNatClampNeg) ((fn_L_play (xs (a4 + (nI 1)).toNatClampNeg) h).2)).2) (cs := []) [.istore 6, .aload_n 2] (by decide +kernel) rfl rfl trivial ?_
                                refine z_callV hC hN hR (as := []) (rest := []) ok_L_82 (by decide +kernel) (sp_X8_thrown l _ ((fn_X8_play (xs (a4 + (nI 1)).toNatClampNeg) ((fn_L_play (xs (a4 + (nI 1)).toNatClampNeg) h).2)).2) ) rfl rfl (Nat.le_of_ble_eq_true rfl) rfl rfl (Nat.le_of_ble_eq_true rfl) ⟨by show _ ≤ 601024; omega, by show _ ≤ 7293034; omega⟩ (fun r170 h171 q172 => z_fun q172 ?_)
                                refine z_go hC (pc' := 849) (ls' := [some (.ref 36), some (.ref 0), some (.ref 20), some (.ref 35), some (.int a4), some (.int (z_vi (fn_L_play (xs (a4 + (nI 1)).toNatClampNeg) h))), some (.int (z_vi (fn_X8_play (xs (a4 + (nI 1)).toNatClampNeg) ((fn_L_play (xs (a4 + (nI 1)).toNatClampNeg) h).2))))]) (st' := [.int (z_vi (fn_L_play (xs (a4 + (nI 1)).toNatClampNeg) h)), .int (((fn_X8_play (xs (a4 + (nI 1)).toNatClampNeg) ((fn_L_play (xs (a4 + (nI 1)).toNatClampNeg) h).2)).2).1 20 0)]) (h' := (fn_X8_play (xs (a4 + (nI 1)).toNatClampNeg) ((fn_L_play (xs (a4 + (nI 1)).toNatClampNeg) h).2)).2) (cs := []) [.iload 5] (by decide +kernel) rfl rfl trivial ?_
                                refine z_icmp_eq hC (off := 5) 854 (by decide +kernel) (by decide) (fun c173 => ?_) (fun c173 => ?_)
                                · skip
                                  have E := (if_pos c173).symm.trans E
                                  have T := T.1 c173
                                  refine z_go hC (pc' := 856) (ls' := [some (.ref 36), some (.ref 0), some (.ref 20), some (.ref 35), some (.int a4), some (.int (z_vi (fn_L_play (xs (a4 + (nI 1)).toNatClampNeg) h))), some (.int (z_vi (fn_X8_play (xs (a4 + (nI 1)).toNatClampNeg) ((fn_L_play (xs (a4 + (nI 1)).toNatClampNeg) h).2))))]) (st' := [.int (z_vi (fn_L_play (xs (a4 + (nI 1)).toNatClampNeg) h))]) (h' := (fn_X8_play (xs (a4 + (nI 1)).toNatClampNeg) ((fn_L_play (xs (a4 + (nI 1)).toNatClampNeg) h).2)).2) (cs := []) [.iload 5] (by decide +kernel) rfl rfl trivial ?_
                                  refine z_if_ne hC (off := 15) 871 (by decide +kernel) (by decide) (fun c174 => ?_) (fun c174 => ?_)
                                  · skip
                                    have E := (if_neg c174).symm.trans E
                                    have T := T.2 c174
                                    refine z_less (ls' := [some (.ref 36), some (.ref 0), some (.ref 20), some (.ref 35), some (.int a4), none, none]) (by simp [z_sub]) ?_
                                    refine z_widen (k' := kk + 1) (n' := nn + 6) (by omega) (by omega) ?_
                                    exact P871 _ _ kk nn h1 h2 hk23 a4 ((fn_X8_play (xs (a4 + (nI 1)).toNatClampNeg) ((fn_L_play (xs (a4 + (nI 1)).toNatClampNeg) h).2)).2) T E
                                  · skip
                                    have E := (if_pos c174).symm.trans E
                                    have T := T.1 c174
                                    refine z_go hC (pc' := 866) (ls' := [some (.ref 36), some (.ref 0), some (.ref 20), some (.ref 35), some (.int a4), some (.int (z_vi (fn_L_play (xs (a4 + (nI 1)).toNatClampNeg) h))), some (.int (z_vi (fn_X8_play (xs (a4 + (nI 1)).toNatClampNeg) ((fn_L_play (xs (a4 + (nI 1)).toNatClampNeg) h).2))))]) (st' := [.int (lg_cmp (((fn_X8_play (xs (a4 + (nI 1)).toNatClampNeg) ((fn_L_play (xs (a4 + (nI 1)).toNatClampNeg) h).2)).2).2 35 ((nI 0).toNatClampNeg)) ((z_vi (fn_X8_play (xs (a4 + (nI 1)).toNatClampNeg) ((fn_L_play (xs (a4 + (nI 1)).toNatClampNeg) h).2))).toInt64))]) (h' := (fn_X8_play (xs (a4 + (nI 1)).toNatClampNeg) ((fn_L_play (xs (a4 + (nI 1)).toNatClampNeg) h).2)).2) (cs := [vp_in (nI 0) 1]) [.aload_n 3, .iconst 0, .laload, .iload 6, .i2l, .lcmp] (by decide +kernel) rfl rfl (vp_in_nI (n := 0) (N := 1) (by decide) (by decide)) ?_
                                    refine z_if_eq hC (off := 5) 871 (by decide +kernel) (by decide) (fun c175 => ?_) (fun c175 => ?_)
                                    · skip
                                      have E := (if_pos c175).symm.trans E
                                      have T := T.1 c175
                                      refine z_less (ls' := [some (.ref 36), some (.ref 0), some (.ref 20), some (.ref 35), some (.int a4), none, none]) (by simp [z_sub]) ?_
                                      refine z_widen (k' := kk + 1) (n' := nn + 6) (by omega) (by omega) ?_
                                      exact P871 _ _ kk nn h1 h2 hk23 a4 ((fn_X8_play (xs (a4 + (nI 1)).toNatClampNeg) ((fn_L_play (xs (a4 + (nI 1)).toNatClampNeg) h).2)).2) T E
                                    · skip
                                      have E := (if_neg c175).symm.trans E
                                      have T := T.2 c175
                                      refine z_go hC (pc' := 870) (ls' := [some (.ref 36), some (.ref 0), some (.ref 20), some (.ref 35), some (.int a4), some (.int (z_vi (fn_L_play (xs (a4 + (nI 1)).toNatClampNeg) h))), some (.int (z_vi (fn_X8_play (xs (a4 + (nI 1)).toNatClampNeg) ((fn_L_play (xs (a4 + (nI 1)).toNatClampNeg) h).2))))]) (st' := [.int (nI 0)]) (h' := (fn_X8_play (xs (a4 + (nI 1)).toNatClampNeg) ((fn_L_play (xs (a4 + (nI 1)).toNatClampNeg) h).2)).2) (cs := []) [.iconst 0] (by decide +kernel) rfl rfl trivial ?_
                                      exact absurd E (by decide)
                                · skip
                                  have E := (if_neg c173).symm.trans E
                                  have T := T.2 c173
                                  refine z_go hC (pc' := 853) (ls' := [some (.ref 36), some (.ref 0), some (.ref 20), some (.ref 35), some (.int a4), some (.int (z_vi (fn_L_play (xs (a4 + (nI 1)).toNatClampNeg) h))), some (.int (z_vi (fn_X8_play (xs (a4 + (nI 1)).toNatClampNeg) ((fn_L_play (xs (a4 + (nI 1)).toNatClampNeg) h).2))))]) (st' := [.int (nI 0)]) (h' := (fn_X8_play (xs (a4 + (nI 1)).toNatClampNeg) ((fn_L_play (xs (a4 + (nI 1)).toNatClampNeg) h).2)).2) (cs := []) [.iconst 0] (by decide +kernel) rfl rfl trivial ?_
                                  exact absurd E (by decide)
                              · skip
                                have E := (if_neg c35).symm.trans E
                                have T := T.2 c35
                                by_cases c36 : ((xs a4.toNatClampNeg) &&& (nI 31)) = nI 13
                                · skip
                                  have E := (if_pos c36).symm.trans E
                                  have T := T.1 c36
                                  refine z_tabIn hC (dflt := 1176) (lo := 0) (hi := 23) (offs := #[109, 200, 268, 331, 394, 407, 463, 519, 575, 623, 667, 723, 779, 835, 848, 861, 874, 930, 943, 956, 1019, 1032, 1088, 1132]) (len := 109) (off := 835) 874 (by decide +kernel) (by rw [c36]; decide) (by rw [c36]; decide) (by rw [c36]; rfl) (by decide) ?_
                                  refine z_go hC (pc' := 875) (ls' := [some (.ref 36), some (.ref 0), some (.ref 20), some (.ref 35), some (.int a4), none, none]) (st' := [.ref 0]) (h' := h) (cs := []) [.aload_n 1] (by decide +kernel) rfl rfl trivial ?_
                                  refine z_callV hC hN hR (as := []) (rest := []) ok_L_127 (by decide +kernel) (sp_X7_isAlive l _ h  trivial) rfl rfl (Nat.le_of_ble_eq_true rfl) rfl rfl (Nat.le_of_ble_eq_true rfl) ⟨by show _ ≤ 601024; omega, by show _ ≤ 7293034; omega⟩ (fun r154 h155 q156 => z_funb q156 (fun z157 => ?_))
                                  refine z_go hC (pc' := 879) (ls' := [some (.ref 36), some (.ref 0), some (.ref 20), some (.ref 35), some (.int a4), none, none]) (st' := [.ref 20, .int (z_vi0 (fn_X7_isAlive  h))]) (h' := h) (cs := []) [.aload_n 2] (by decide +kernel) rfl rfl trivial ?_
                                  refine z_callV hC hN hR (as := []) (rest := [.int (z_vi0 (fn_X7_isAlive  h))]) ok_L_130 (by decide +kernel) (sp_X8_isAlive l _ h ) rfl rfl (Nat.le_of_ble_eq_true rfl) rfl rfl (Nat.le_of_ble_eq_true rfl) ⟨by show _ ≤ 601024; omega, by show _ ≤ 7293034; omega⟩ (fun r158 h159 q160 => z_fun q160 ?_)
                                  refine z_icmp_eq hC (off := 333) 1215 (by decide +kernel) (by decide) (fun c161 => ?_) (fun c161 => ?_)
                                  · skip
                                    have E := (if_pos c161).symm.trans E
                                    have T := T.1 c161
                                    refine z_widen (k' := kk + 2) (n' := nn + 12) (by omega) (by omega) ?_
                                    exact P1215 _ _ kk nn h1 h2 hk23 a4 (z_set h 20 0 (nI 0)) T E
                                  · skip
                                    have E := (if_neg c161).symm.trans E
                                    have T := T.2 c161
                                    refine z_go hC (pc' := 886) (ls' := [some (.ref 36), some (.ref 0), some (.ref 20), some (.ref 35), some (.int a4), none, none]) (st' := [.int (nI 0)]) (h' := z_set h 20 0 (nI 0)) (cs := []) [.iconst 0] (by decide +kernel) rfl rfl trivial ?_
                                    exact absurd E (by decide)
                                · skip
                                  have E := (if_neg c36).symm.trans E
                                  have T := T.2 c36
                                  by_cases c37 : ((xs a4.toNatClampNeg) &&& (nI 31)) = nI 14
                                  · skip
                                    have E := (if_pos c37).symm.trans E
                                    have T := T.1 c37
                                    refine z_tabIn hC (dflt := 1176) (lo := 0) (hi := 23) (offs := #[109, 200, 268, 331, 394, 407, 463, 519, 575, 623, 667, 723, 779, 835, 848, 861, 874, 930, 943, 956, 1019, 1032, 1088, 1132]) (len := 109) (off := 848) 887 (by decide +kernel) (by rw [c37]; decide) (by rw [c37]; decide) (by rw [c37]; rfl) (by decide) ?_
                                    refine z_go hC (pc' := 888) (ls' := [some (.ref 36), some (.ref 0), some (.ref 20), some (.ref 35), some (.int a4), none, none]) (st' := [.ref 0]) (h' := h) (cs := []) [.aload_n 1] (by decide +kernel) rfl rfl trivial ?_
                                    refine z_callV hC hN hR (as := []) (rest := []) ok_L_131 (by decide +kernel) (sp_X7_length l _ h  trivial) rfl rfl (Nat.le_of_ble_eq_true rfl) rfl rfl (Nat.le_of_ble_eq_true rfl) ⟨by show _ ≤ 601024; omega, by show _ ≤ 7293034; omega⟩ (fun r147 h148 q149 => z_fun q149 ?_)
                                    refine z_go hC (pc' := 892) (ls' := [some (.ref 36), some (.ref 0), some (.ref 20), some (.ref 35), some (.int a4), none, none]) (st' := [.ref 20, .int (z_vi0 (fn_X7_length  h))]) (h' := h) (cs := []) [.aload_n 2] (by decide +kernel) rfl rfl trivial ?_
                                    refine z_callV hC hN hR (as := []) (rest := [.int (z_vi0 (fn_X7_length  h))]) ok_L_134 (by decide +kernel) (sp_X8_length l _ h ) rfl rfl (Nat.le_of_ble_eq_true rfl) rfl rfl (Nat.le_of_ble_eq_true rfl) ⟨by show _ ≤ 601024; omega, by show _ ≤ 7293034; omega⟩ (fun r150 h151 q152 => z_fun q152 ?_)
                                    refine z_icmp_eq hC (off := 320) 1215 (by decide +kernel) (by decide) (fun c153 => ?_) (fun c153 => ?_)
                                    · skip
                                      have E := (if_pos c153).symm.trans E
                                      have T := T.1 c153
                                      refine z_widen (k' := kk + 2) (n' := nn + 12) (by omega) (by omega) ?_
                                      exact P1215 _ _ kk nn h1 h2 hk23 a4 (z_set h 20 0 (nI 0)) T E
                                    · skip
                                      have E := (if_neg c153).symm.trans E
                                      have T := T.2 c153
                                      refine z_go hC (pc' := 899) (ls' := [some (.ref 36), some (.ref 0), some (.ref 20), some (.ref 35), some (.int a4), none, none]) (st' := [.int (nI 0)]) (h' := z_set h 20 0 (nI 0)) (cs := []) [.iconst 0] (by decide +kernel) rfl rfl trivial ?_
                                      exact absurd E (by decide)
                                  · skip
                                    have E := (if_neg c37).symm.trans E
                                    have T := T.2 c37
                                    by_cases c38 : ((xs a4.toNatClampNeg) &&& (nI 31)) = nI 15
                                    · skip
                                      have E := (if_pos c38).symm.trans E
                                      have T := T.1 c38
                                      refine z_tabIn hC (dflt := 1176) (lo := 0) (hi := 23) (offs := #[109, 200, 268, 331, 394, 407, 463, 519, 575, 623, 667, 723, 779, 835, 848, 861, 874, 930, 943, 956, 1019, 1032, 1088, 1132]) (len := 109) (off := 861) 900 (by decide +kernel) (by rw [c38]; decide) (by rw [c38]; decide) (by rw [c38]; rfl) (by decide) ?_
                                      refine z_go hC (pc' := 901) (ls' := [some (.ref 36), some (.ref 0), some (.ref 20), some (.ref 35), some (.int a4), none, none]) (st' := [.ref 0]) (h' := h) (cs := []) [.aload_n 1] (by decide +kernel) rfl rfl trivial ?_
                                      refine z_callV hC hN hR (as := []) (rest := []) ok_L_135 (by decide +kernel) (sp_X7_owed l _ h  trivial) rfl rfl (Nat.le_of_ble_eq_true rfl) rfl rfl (Nat.le_of_ble_eq_true rfl) ⟨by show _ ≤ 601024; omega, by show _ ≤ 7293034; omega⟩ (fun r140 h141 q142 => z_fun q142 ?_)
                                      refine z_go hC (pc' := 905) (ls' := [some (.ref 36), some (.ref 0), some (.ref 20), some (.ref 35), some (.int a4), none, none]) (st' := [.ref 20, .int (z_vi0 (fn_X7_owed  h))]) (h' := h) (cs := []) [.aload_n 2] (by decide +kernel) rfl rfl trivial ?_
                                      refine z_callV hC hN hR (as := []) (rest := [.int (z_vi0 (fn_X7_owed  h))]) ok_L_138 (by decide +kernel) (sp_X8_owed l _ h ) rfl rfl (Nat.le_of_ble_eq_true rfl) rfl rfl (Nat.le_of_ble_eq_true rfl) ⟨by show _ ≤ 601024; omega, by show _ ≤ 7293034; omega⟩ (fun r143 h144 q145 => z_fun q145 ?_)
                                      refine z_icmp_eq hC (off := 307) 1215 (by decide +kernel) (by decide) (fun c146 => ?_) (fun c146 => ?_)
                                      · skip
                                        have E := (if_pos c146).symm.trans E
                                        have T := T.1 c146
                                        refine z_widen (k' := kk + 2) (n' := nn + 12) (by omega) (by omega) ?_
                                        exact P1215 _ _ kk nn h1 h2 hk23 a4 (z_set h 20 0 (nI 0)) T E
                                      · skip
                                        have E := (if_neg c146).symm.trans E
                                        have T := T.2 c146
                                        refine z_go hC (pc' := 912) (ls' := [some (.ref 36), some (.ref 0), some (.ref 20), some (.ref 35), some (.int a4), none, none]) (st' := [.int (nI 0)]) (h' := z_set h 20 0 (nI 0)) (cs := []) [.iconst 0] (by decide +kernel) rfl rfl trivial ?_
                                        exact absurd E (by decide)
                                    · skip
                                      have E := (if_neg c38).symm.trans E
                                      have T := T.2 c38
                                      by_cases c39 : ((xs a4.toNatClampNeg) &&& (nI 31)) = nI 16
                                      · skip
                                        have E := (if_pos c39).symm.trans E
                                        have T := T.1 c39
                                        refine z_tabIn hC (dflt := 1176) (lo := 0) (hi := 23) (offs := #[109, 200, 268, 331, 394, 407, 463, 519, 575, 623, 667, 723, 779, 835, 848, 861, 874, 930, 943, 956, 1019, 1032, 1088, 1132]) (len := 109) (off := 874) 913 (by decide +kernel) (by rw [c39]; decide) (by rw [c39]; decide) (by rw [c39]; rfl) (by decide) ?_
                                        refine z_go hC (pc' := 919) (ls' := [some (.ref 36), some (.ref 0), some (.ref 20), some (.ref 35), some (.int a4), none, none]) (st' := [.int (a4 + (nI 1)), .ref 36, .ref 0]) (h' := h) (cs := []) [.aload_n 1, .aload_n 0, .iload 4, .iconst 1, .iadd] (by decide +kernel) rfl rfl trivial ?_
                                        obtain ⟨t127, T⟩ := T
                                        refine z_sld hC hX hbl hbA had (by decide +kernel) t127 ?_
                                        refine z_go hC (pc' := 921) (ls' := [some (.ref 36), some (.ref 0), some (.ref 20), some (.ref 35), some (.int a4), none, none]) (st' := [.ref 35, .int (xs (a4 + (nI 1)).toNatClampNeg), .ref 0]) (h' := h) (cs := []) [.aload_n 3] (by decide +kernel) rfl rfl trivial ?_
                                        refine z_callSh hC hN hR hZ hKin (as := [.ref 0, .int (xs (a4 + (nI 1)).toNatClampNeg), .ref 35]) (rest := []) ok_L_139 (by decide +kernel) (sp_L_bodyAt l hl0 _ h (xs (a4 + (nI 1)).toNatClampNeg)) (Nat.le_of_ble_eq_true rfl) rfl rfl (Nat.le_of_ble_eq_true rfl) ⟨by show _ ≤ 601024; omega, by show _ ≤ 7293034; omega⟩ (fun Ex qx => False.elim qx) (fun rv hh q128 => z_fun q128 ?_)
                                        refine z_go hC (pc' := 932) (ls' := [some (.ref 36), some (.ref 0), some (.ref 20), some (.ref 35), some (.int a4), some (.int (z_vi (fn_L_bodyAt (xs (a4 + (nI 1)).toNatClampNeg) h))), none]) (st' := [.int (a4 + (nI 1)), .ref 36, .ref 20]) (h' := (fn_L_bodyAt (xs (a4 + (nI 1)).toNatClampNeg) h).2) (cs := []) [.istore 5, .aload_n 2, .aload_n 0, .iload 4, .iconst 1, .iadd] (by decide +kernel) rfl rfl trivial ?_
                                        obtain ⟨t129, T⟩ := T
                                        refine z_sld hC hX hbl hbA had (by decide +kernel) t129 ?_
                                        obtain ⟨t133, T⟩ := T
                                        refine z_callV hC hN hR (as := [.int (xs (a4 + (nI 1)).toNatClampNeg)]) (rest := []) ok_L_141 (by decide +kernel) (sp_X8_bodyAt l _ ((fn_L_bodyAt (xs (a4 + (nI 1)).toNatClampNeg) h).2) (xs (a4 + (nI 1)).toNatClampNeg) t133) rfl rfl (Nat.le_of_ble_eq_true rfl) rfl rfl (Nat.le_of_ble_eq_true rfl) ⟨by show _ ≤ 601024; omega, by show _ ≤ 7293034; omega⟩ (fun r130 h131 q132 => z_fun q132 ?_)
                                        refine z_go hC (pc' := 939) (ls' := [some (.ref 36), some (.ref 0), some (.ref 20), some (.ref 35), some (.int a4), some (.int (z_vi (fn_L_bodyAt (xs (a4 + (nI 1)).toNatClampNeg) h))), some (.int (z_vi (fn_X8_bodyAt (xs (a4 + (nI 1)).toNatClampNeg) ((fn_L_bodyAt (xs (a4 + (nI 1)).toNatClampNeg) h).2))))]) (st' := [.ref 20]) (h' := (fn_X8_bodyAt (xs (a4 + (nI 1)).toNatClampNeg) ((fn_L_bodyAt (xs (a4 + (nI 1)).toNatClampNeg) h).2)).2) (cs := []) [.istore 6, .aload_n 2] (by decide +kernel) rfl rfl trivial ?_
                                        refine z_callV hC hN hR (as := []) (rest := []) ok_L_82 (by decide +kernel) (sp_X8_thrown l _ ((fn_X8_bodyAt (xs (a4 + (nI 1)).toNatClampNeg) ((fn_L_bodyAt (xs (a4 + (nI 1)).toNatClampNeg) h).2)).2) ) rfl rfl (Nat.le_of_ble_eq_true rfl) rfl rfl (Nat.le_of_ble_eq_true rfl) ⟨by show _ ≤ 601024; omega, by show _ ≤ 7293034; omega⟩ (fun r134 h135 q136 => z_fun q136 ?_)
                                        refine z_go hC (pc' := 944) (ls' := [some (.ref 36), some (.ref 0), some (.ref 20), some (.ref 35), some (.int a4), some (.int (z_vi (fn_L_bodyAt (xs (a4 + (nI 1)).toNatClampNeg) h))), some (.int (z_vi (fn_X8_bodyAt (xs (a4 + (nI 1)).toNatClampNeg) ((fn_L_bodyAt (xs (a4 + (nI 1)).toNatClampNeg) h).2))))]) (st' := [.int (z_vi (fn_L_bodyAt (xs (a4 + (nI 1)).toNatClampNeg) h)), .int (((fn_X8_bodyAt (xs (a4 + (nI 1)).toNatClampNeg) ((fn_L_bodyAt (xs (a4 + (nI 1)).toNatClampNeg) h).2)).2).1 20 0)]) (h' := (fn_X8_bodyAt (xs (a4 + (nI 1)).toNatClampNeg) ((fn_L_bodyAt (xs (a4 + (nI 1)).toNatClampNeg) h).2)).2) (cs := []) [.iload 5] (by decide +kernel) rfl rfl trivial ?_
                                        refine z_icmp_eq hC (off := 5) 949 (by decide +kernel) (by decide) (fun c137 => ?_) (fun c137 => ?_)
                                        · skip
                                          have E := (if_pos c137).symm.trans E
                                          have T := T.1 c137
                                          refine z_go hC (pc' := 951) (ls' := [some (.ref 36), some (.ref 0), some (.ref 20), some (.ref 35), some (.int a4), some (.int (z_vi (fn_L_bodyAt (xs (a4 + (nI 1)).toNatClampNeg) h))), some (.int (z_vi (fn_X8_bodyAt (xs (a4 + (nI 1)).toNatClampNeg) ((fn_L_bodyAt (xs (a4 + (nI 1)).toNatClampNeg) h).2))))]) (st' := [.int (z_vi (fn_L_bodyAt (xs (a4 + (nI 1)).toNatClampNeg) h))]) (h' := (fn_X8_bodyAt (xs (a4 + (nI 1)).toNatClampNeg) ((fn_L_bodyAt (xs (a4 + (nI 1)).toNatClampNeg) h).2)).2) (cs := []) [.iload 5] (by decide +kernel) rfl rfl trivial ?_
                                          refine z_if_ne hC (off := 15) 966 (by decide +kernel) (by decide) (fun c138 => ?_) (fun c138 => ?_)
                                          · skip
                                            have E := (if_neg c138).symm.trans E
                                            have T := T.2 c138
                                            refine z_less (ls' := [some (.ref 36), some (.ref 0), some (.ref 20), some (.ref 35), some (.int a4), none, none]) (by simp [z_sub]) ?_
                                            refine z_widen (k' := kk + 1) (n' := nn + 6) (by omega) (by omega) ?_
                                            exact P966 _ _ kk nn h1 h2 hk23 a4 ((fn_X8_bodyAt (xs (a4 + (nI 1)).toNatClampNeg) ((fn_L_bodyAt (xs (a4 + (nI 1)).toNatClampNeg) h).2)).2) T E
                                          · skip
                                            have E := (if_pos c138).symm.trans E
                                            have T := T.1 c138
                                            refine z_go hC (pc' := 961) (ls' := [some (.ref 36), some (.ref 0), some (.ref 20), some (.ref 35), some (.int a4), some (.int (z_vi (fn_L_bodyAt (xs (a4 + (nI 1)).toNatClampNeg) h))), some (.int (z_vi (fn_X8_bodyAt (xs (a4 + (nI 1)).toNatClampNeg) ((fn_L_bodyAt (xs (a4 + (nI 1)).toNatClampNeg) h).2))))]) (st' := [.int (lg_cmp (((fn_X8_bodyAt (xs (a4 + (nI 1)).toNatClampNeg) ((fn_L_bodyAt (xs (a4 + (nI 1)).toNatClampNeg) h).2)).2).2 35 ((nI 0).toNatClampNeg)) ((z_vi (fn_X8_bodyAt (xs (a4 + (nI 1)).toNatClampNeg) ((fn_L_bodyAt (xs (a4 + (nI 1)).toNatClampNeg) h).2))).toInt64))]) (h' := (fn_X8_bodyAt (xs (a4 + (nI 1)).toNatClampNeg) ((fn_L_bodyAt (xs (a4 + (nI 1)).toNatClampNeg) h).2)).2) (cs := [vp_in (nI 0) 1]) [.aload_n 3, .iconst 0, .laload, .iload 6, .i2l, .lcmp] (by decide +kernel) rfl rfl (vp_in_nI (n := 0) (N := 1) (by decide) (by decide)) ?_
                                            refine z_if_eq hC (off := 5) 966 (by decide +kernel) (by decide) (fun c139 => ?_) (fun c139 => ?_)
                                            · skip
                                              have E := (if_pos c139).symm.trans E
                                              have T := T.1 c139
                                              refine z_less (ls' := [some (.ref 36), some (.ref 0), some (.ref 20), some (.ref 35), some (.int a4), none, none]) (by simp [z_sub]) ?_
                                              refine z_widen (k' := kk + 1) (n' := nn + 6) (by omega) (by omega) ?_
                                              exact P966 _ _ kk nn h1 h2 hk23 a4 ((fn_X8_bodyAt (xs (a4 + (nI 1)).toNatClampNeg) ((fn_L_bodyAt (xs (a4 + (nI 1)).toNatClampNeg) h).2)).2) T E
                                            · skip
                                              have E := (if_neg c139).symm.trans E
                                              have T := T.2 c139
                                              refine z_go hC (pc' := 965) (ls' := [some (.ref 36), some (.ref 0), some (.ref 20), some (.ref 35), some (.int a4), some (.int (z_vi (fn_L_bodyAt (xs (a4 + (nI 1)).toNatClampNeg) h))), some (.int (z_vi (fn_X8_bodyAt (xs (a4 + (nI 1)).toNatClampNeg) ((fn_L_bodyAt (xs (a4 + (nI 1)).toNatClampNeg) h).2))))]) (st' := [.int (nI 0)]) (h' := (fn_X8_bodyAt (xs (a4 + (nI 1)).toNatClampNeg) ((fn_L_bodyAt (xs (a4 + (nI 1)).toNatClampNeg) h).2)).2) (cs := []) [.iconst 0] (by decide +kernel) rfl rfl trivial ?_
                                              exact absurd E (by decide)
                                        · skip
                                          have E := (if_neg c137).symm.trans E
                                          have T := T.2 c137
                                          refine z_go hC (pc' := 948) (ls' := [some (.ref 36), some (.ref 0), some (.ref 20), some (.ref 35), some (.int a4), some (.int (z_vi (fn_L_bodyAt (xs (a4 + (nI 1)).toNatClampNeg) h))), some (.int (z_vi (fn_X8_bodyAt (xs (a4 + (nI 1)).toNatClampNeg) ((fn_L_bodyAt (xs (a4 + (nI 1)).toNatClampNeg) h).2))))]) (st' := [.int (nI 0)]) (h' := (fn_X8_bodyAt (xs (a4 + (nI 1)).toNatClampNeg) ((fn_L_bodyAt (xs (a4 + (nI 1)).toNatClampNeg) h).2)).2) (cs := []) [.iconst 0] (by decide +kernel) rfl rfl trivial ?_
                                          exact absurd E (by decide)
                                      · skip
                                        have E := (if_neg c39).symm.trans E
                                        have T := T.2 c39
                                        by_cases c40 : ((xs a4.toNatClampNeg) &&& (nI 31)) = nI 17
                                        · skip
                                          have E := (if_pos c40).symm.trans E
                                          have T := T.1 c40
                                          refine z_tabIn hC (dflt := 1176) (lo := 0) (hi := 23) (offs := #[109, 200, 268, 331, 394, 407, 463, 519, 575, 623, 667, 723, 779, 835, 848, 861, 874, 930, 943, 956, 1019, 1032, 1088, 1132]) (len := 109) (off := 930) 969 (by decide +kernel) (by rw [c40]; decide) (by rw [c40]; decide) (by rw [c40]; rfl) (by decide) ?_
                                          refine z_go hC (pc' := 970) (ls' := [some (.ref 36), some (.ref 0), some (.ref 20), some (.ref 35), some (.int a4), none, none]) (st' := [.ref 0]) (h' := h) (cs := []) [.aload_n 1] (by decide +kernel) rfl rfl trivial ?_
                                          refine z_callV hC hN hR (as := []) (rest := []) ok_L_142 (by decide +kernel) (sp_X7_feeds l _ h  trivial) rfl rfl (Nat.le_of_ble_eq_true rfl) rfl rfl (Nat.le_of_ble_eq_true rfl) ⟨by show _ ≤ 601024; omega, by show _ ≤ 7293034; omega⟩ (fun r120 h121 q122 => z_fun q122 ?_)
                                          refine z_go hC (pc' := 974) (ls' := [some (.ref 36), some (.ref 0), some (.ref 20), some (.ref 35), some (.int a4), none, none]) (st' := [.ref 20, .int (z_vi0 (fn_X7_feeds  h))]) (h' := h) (cs := []) [.aload_n 2] (by decide +kernel) rfl rfl trivial ?_
                                          refine z_callV hC hN hR (as := []) (rest := [.int (z_vi0 (fn_X7_feeds  h))]) ok_L_145 (by decide +kernel) (sp_X8_feeds l _ h ) rfl rfl (Nat.le_of_ble_eq_true rfl) rfl rfl (Nat.le_of_ble_eq_true rfl) ⟨by show _ ≤ 601024; omega, by show _ ≤ 7293034; omega⟩ (fun r123 h124 q125 => z_fun q125 ?_)
                                          refine z_icmp_eq hC (off := 238) 1215 (by decide +kernel) (by decide) (fun c126 => ?_) (fun c126 => ?_)
                                          · skip
                                            have E := (if_pos c126).symm.trans E
                                            have T := T.1 c126
                                            refine z_widen (k' := kk + 2) (n' := nn + 12) (by omega) (by omega) ?_
                                            exact P1215 _ _ kk nn h1 h2 hk23 a4 (z_set h 20 0 (nI 0)) T E
                                          · skip
                                            have E := (if_neg c126).symm.trans E
                                            have T := T.2 c126
                                            refine z_go hC (pc' := 981) (ls' := [some (.ref 36), some (.ref 0), some (.ref 20), some (.ref 35), some (.int a4), none, none]) (st' := [.int (nI 0)]) (h' := z_set h 20 0 (nI 0)) (cs := []) [.iconst 0] (by decide +kernel) rfl rfl trivial ?_
                                            exact absurd E (by decide)
                                        · skip
                                          have E := (if_neg c40).symm.trans E
                                          have T := T.2 c40
                                          by_cases c41 : ((xs a4.toNatClampNeg) &&& (nI 31)) = nI 18
                                          · skip
                                            have E := (if_pos c41).symm.trans E
                                            have T := T.1 c41
                                            refine z_tabIn hC (dflt := 1176) (lo := 0) (hi := 23) (offs := #[109, 200, 268, 331, 394, 407, 463, 519, 575, 623, 667, 723, 779, 835, 848, 861, 874, 930, 943, 956, 1019, 1032, 1088, 1132]) (len := 109) (off := 943) 982 (by decide +kernel) (by rw [c41]; decide) (by rw [c41]; decide) (by rw [c41]; rfl) (by decide) ?_
                                            refine z_go hC (pc' := 983) (ls' := [some (.ref 36), some (.ref 0), some (.ref 20), some (.ref 35), some (.int a4), none, none]) (st' := [.ref 0]) (h' := h) (cs := []) [.aload_n 1] (by decide +kernel) rfl rfl trivial ?_
                                            obtain ⟨t112, T⟩ := T
                                            refine z_callV hC hN hR (as := []) (rest := []) ok_L_146 (by decide +kernel) (sp_X7_isInOrder l _ h  t112) rfl rfl (Nat.le_of_ble_eq_true rfl) rfl rfl (Nat.le_of_ble_eq_true rfl) ⟨by show _ ≤ 601024; omega, by show _ ≤ 7293034; omega⟩ (fun r109 h110 q111 => z_funb q111 (fun z113 => ?_))
                                            refine z_go hC (pc' := 987) (ls' := [some (.ref 36), some (.ref 0), some (.ref 20), some (.ref 35), some (.int a4), none, none]) (st' := [.ref 20, .int (z_vi0 (fn_X7_isInOrder  h))]) (h' := h) (cs := []) [.aload_n 2] (by decide +kernel) rfl rfl trivial ?_
                                            obtain ⟨t117, T⟩ := T
                                            refine z_callV hC hN hR (as := []) (rest := [.int (z_vi0 (fn_X7_isInOrder  h))]) ok_L_149 (by decide +kernel) (sp_X8_isInOrder l _ h  t117) rfl rfl (Nat.le_of_ble_eq_true rfl) rfl rfl (Nat.le_of_ble_eq_true rfl) ⟨by show _ ≤ 601024; omega, by show _ ≤ 7293034; omega⟩ (fun r114 h115 q116 => z_funb q116 (fun z118 => ?_))
                                            refine z_icmp_eq hC (off := 225) 1215 (by decide +kernel) (by decide) (fun c119 => ?_) (fun c119 => ?_)
                                            · skip
                                              have E := (if_pos c119).symm.trans E
                                              have T := T.1 c119
                                              refine z_widen (k' := kk + 2) (n' := nn + 12) (by omega) (by omega) ?_
                                              exact P1215 _ _ kk nn h1 h2 hk23 a4 ((fn_X8_isInOrder  h).2) T E
                                            · skip
                                              have E := (if_neg c119).symm.trans E
                                              have T := T.2 c119
                                              refine z_go hC (pc' := 994) (ls' := [some (.ref 36), some (.ref 0), some (.ref 20), some (.ref 35), some (.int a4), none, none]) (st' := [.int (nI 0)]) (h' := (fn_X8_isInOrder  h).2) (cs := []) [.iconst 0] (by decide +kernel) rfl rfl trivial ?_
                                              exact absurd E (by decide)
                                          · skip
                                            have E := (if_neg c41).symm.trans E
                                            have T := T.2 c41
                                            by_cases c42 : ((xs a4.toNatClampNeg) &&& (nI 31)) = nI 19
                                            · skip
                                              have E := (if_pos c42).symm.trans E
                                              have T := T.1 c42
                                              refine z_tabIn hC (dflt := 1176) (lo := 0) (hi := 23) (offs := #[109, 200, 268, 331, 394, 407, 463, 519, 575, 623, 667, 723, 779, 835, 848, 861, 874, 930, 943, 956, 1019, 1032, 1088, 1132]) (len := 109) (off := 956) 995 (by decide +kernel) (by rw [c42]; decide) (by rw [c42]; decide) (by rw [c42]; rfl) (by decide) ?_
                                              refine z_go hC (pc' := 1001) (ls' := [some (.ref 36), some (.ref 0), some (.ref 20), some (.ref 35), some (.int a4), none, none]) (st' := [.int (a4 + (nI 1)), .ref 36, .ref 0]) (h' := h) (cs := []) [.aload_n 1, .aload_n 0, .iload 4, .iconst 1, .iadd] (by decide +kernel) rfl rfl trivial ?_
                                              obtain ⟨t94, T⟩ := T
                                              refine z_sld hC hX hbl hbA had (by decide +kernel) t94 ?_
                                              refine z_go hC (pc' := 1003) (ls' := [some (.ref 36), some (.ref 0), some (.ref 20), some (.ref 35), some (.int a4), none, none]) (st' := [.ref 35, .int (xs (a4 + (nI 1)).toNatClampNeg), .ref 0]) (h' := h) (cs := []) [.aload_n 3] (by decide +kernel) rfl rfl trivial ?_
                                              obtain ⟨t95, T⟩ := T
                                              refine z_callSh hC hN hR hZ hKin (as := [.ref 0, .int (xs (a4 + (nI 1)).toNatClampNeg), .ref 35]) (rest := []) ok_L_150 (by decide +kernel) (sp_L_isSafe l hl0 _ h (xs (a4 + (nI 1)).toNatClampNeg) t95) (Nat.le_of_ble_eq_true rfl) rfl rfl (Nat.le_of_ble_eq_true rfl) ⟨by show _ ≤ 601024; omega, by show _ ≤ 7293034; omega⟩ (fun Ex qx => False.elim qx) (fun rv hh q96 => z_fun q96 ?_)
                                              refine z_go hC (pc' := 1014) (ls' := [some (.ref 36), some (.ref 0), some (.ref 20), some (.ref 35), some (.int a4), some (.int (z_vi (fn_L_isSafe (xs (a4 + (nI 1)).toNatClampNeg) h))), none]) (st' := [.int (a4 + (nI 1)), .ref 36, .ref 20]) (h' := (fn_L_isSafe (xs (a4 + (nI 1)).toNatClampNeg) h).2) (cs := []) [.istore 5, .aload_n 2, .aload_n 0, .iload 4, .iconst 1, .iadd] (by decide +kernel) rfl rfl trivial ?_
                                              obtain ⟨t97, T⟩ := T
                                              refine z_sld hC hX hbl hbA had (by decide +kernel) t97 ?_
                                              obtain ⟨t101, T⟩ := T
                                              refine z_callV hC hN hR (as := [.int (xs (a4 + (nI 1)).toNatClampNeg)]) (rest := []) ok_L_152 (by decide +kernel) (sp_X8_isSafe l _ ((fn_L_isSafe (xs (a4 + (nI 1)).toNatClampNeg) h).2) (xs (a4 + (nI 1)).toNatClampNeg) t101) rfl rfl (Nat.le_of_ble_eq_true rfl) rfl rfl (Nat.le_of_ble_eq_true rfl) ⟨by show _ ≤ 601024; omega, by show _ ≤ 7293034; omega⟩ (fun r98 h99 q100 => z_funb q100 (fun z102 => ?_))
                                              refine z_go hC (pc' := 1021) (ls' := [some (.ref 36), some (.ref 0), some (.ref 20), some (.ref 35), some (.int a4), some (.int (z_vi (fn_L_isSafe (xs (a4 + (nI 1)).toNatClampNeg) h))), some (.int (z_vi (fn_X8_isSafe (xs (a4 + (nI 1)).toNatClampNeg) ((fn_L_isSafe (xs (a4 + (nI 1)).toNatClampNeg) h).2))))]) (st' := [.ref 20]) (h' := (fn_X8_isSafe (xs (a4 + (nI 1)).toNatClampNeg) ((fn_L_isSafe (xs (a4 + (nI 1)).toNatClampNeg) h).2)).2) (cs := []) [.istore 6, .aload_n 2] (by decide +kernel) rfl rfl trivial ?_
                                              refine z_callV hC hN hR (as := []) (rest := []) ok_L_82 (by decide +kernel) (sp_X8_thrown l _ ((fn_X8_isSafe (xs (a4 + (nI 1)).toNatClampNeg) ((fn_L_isSafe (xs (a4 + (nI 1)).toNatClampNeg) h).2)).2) ) rfl rfl (Nat.le_of_ble_eq_true rfl) rfl rfl (Nat.le_of_ble_eq_true rfl) ⟨by show _ ≤ 601024; omega, by show _ ≤ 7293034; omega⟩ (fun r103 h104 q105 => z_fun q105 ?_)
                                              refine z_go hC (pc' := 1026) (ls' := [some (.ref 36), some (.ref 0), some (.ref 20), some (.ref 35), some (.int a4), some (.int (z_vi (fn_L_isSafe (xs (a4 + (nI 1)).toNatClampNeg) h))), some (.int (z_vi (fn_X8_isSafe (xs (a4 + (nI 1)).toNatClampNeg) ((fn_L_isSafe (xs (a4 + (nI 1)).toNatClampNeg) h).2))))]) (st' := [.int (z_vi (fn_L_isSafe (xs (a4 + (nI 1)).toNatClampNeg) h)), .int (((fn_X8_isSafe (xs (a4 + (nI 1)).toNatClampNeg) ((fn_L_isSafe (xs (a4 + (nI 1)).toNatClampNeg) h).2)).2).1 20 0)]) (h' := (fn_X8_isSafe (xs (a4 + (nI 1)).toNatClampNeg) ((fn_L_isSafe (xs (a4 + (nI 1)).toNatClampNeg) h).2)).2) (cs := []) [.iload 5] (by decide +kernel) rfl rfl trivial ?_
                                              refine z_icmp_eq hC (off := 5) 1031 (by decide +kernel) (by decide) (fun c106 => ?_) (fun c106 => ?_)
                                              · skip
                                                have E := (if_pos c106).symm.trans E
                                                have T := T.1 c106
                                                refine z_go hC (pc' := 1033) (ls' := [some (.ref 36), some (.ref 0), some (.ref 20), some (.ref 35), some (.int a4), some (.int (z_vi (fn_L_isSafe (xs (a4 + (nI 1)).toNatClampNeg) h))), some (.int (z_vi (fn_X8_isSafe (xs (a4 + (nI 1)).toNatClampNeg) ((fn_L_isSafe (xs (a4 + (nI 1)).toNatClampNeg) h).2))))]) (st' := [.int (z_vi (fn_L_isSafe (xs (a4 + (nI 1)).toNatClampNeg) h))]) (h' := (fn_X8_isSafe (xs (a4 + (nI 1)).toNatClampNeg) ((fn_L_isSafe (xs (a4 + (nI 1)).toNatClampNeg) h).2)).2) (cs := []) [.iload 5] (by decide +kernel) rfl rfl trivial ?_
                                                refine z_if_ne hC (off := 22) 1055 (by decide +kernel) (by decide) (fun c107 => ?_) (fun c107 => ?_)
                                                · skip
                                                  have E := (if_neg c107).symm.trans E
                                                  have T := T.2 c107
                                                  refine z_less (ls' := [some (.ref 36), some (.ref 0), some (.ref 20), some (.ref 35), some (.int a4), none, none]) (by simp [z_sub]) ?_
                                                  refine z_widen (k' := kk + 2) (n' := nn + 12) (by omega) (by omega) ?_
                                                  exact P1055 _ _ kk nn h1 h2 hk23 a4 ((fn_X8_isSafe (xs (a4 + (nI 1)).toNatClampNeg) ((fn_L_isSafe (xs (a4 + (nI 1)).toNatClampNeg) h).2)).2) T E
                                                · skip
                                                  have E := (if_pos c107).symm.trans E
                                                  have T := T.1 c107
                                                  refine z_go hC (pc' := 1041) (ls' := [some (.ref 36), some (.ref 0), some (.ref 20), some (.ref 35), some (.int a4), some (.int (z_vi (fn_L_isSafe (xs (a4 + (nI 1)).toNatClampNeg) h))), some (.int (z_vi (fn_X8_isSafe (xs (a4 + (nI 1)).toNatClampNeg) ((fn_L_isSafe (xs (a4 + (nI 1)).toNatClampNeg) h).2))))]) (st' := [.int (z_vi (fn_X8_isSafe (xs (a4 + (nI 1)).toNatClampNeg) ((fn_L_isSafe (xs (a4 + (nI 1)).toNatClampNeg) h).2))), .long (((fn_X8_isSafe (xs (a4 + (nI 1)).toNatClampNeg) ((fn_L_isSafe (xs (a4 + (nI 1)).toNatClampNeg) h).2)).2).2 35 ((nI 0).toNatClampNeg))]) (h' := (fn_X8_isSafe (xs (a4 + (nI 1)).toNatClampNeg) ((fn_L_isSafe (xs (a4 + (nI 1)).toNatClampNeg) h).2)).2) (cs := [vp_in (nI 0) 1]) [.aload_n 3, .iconst 0, .laload, .iload 6] (by decide +kernel) rfl rfl (vp_in_nI (n := 0) (N := 1) (by decide) (by decide)) ?_
                                                  refine z_if_eq hC (off := 7) 1048 (by decide +kernel) (by decide) (fun c108 => ?_) (fun c108 => ?_)
                                                  · skip
                                                    have E := (if_pos c108).symm.trans E
                                                    have T := T.1 c108
                                                    refine z_go hC (pc' := 1049) (ls' := [some (.ref 36), some (.ref 0), some (.ref 20), some (.ref 35), some (.int a4), some (.int (z_vi (fn_L_isSafe (xs (a4 + (nI 1)).toNatClampNeg) h))), some (.int (z_vi (fn_X8_isSafe (xs (a4 + (nI 1)).toNatClampNeg) ((fn_L_isSafe (xs (a4 + (nI 1)).toNatClampNeg) h).2))))]) (st' := [.long 0, .long (((fn_X8_isSafe (xs (a4 + (nI 1)).toNatClampNeg) ((fn_L_isSafe (xs (a4 + (nI 1)).toNatClampNeg) h).2)).2).2 35 ((nI 0).toNatClampNeg))]) (h' := (fn_X8_isSafe (xs (a4 + (nI 1)).toNatClampNeg) ((fn_L_isSafe (xs (a4 + (nI 1)).toNatClampNeg) h).2)).2) (cs := []) [.lconst 0] (by decide +kernel) rfl rfl trivial ?_
                                                    refine z_less (ls' := [some (.ref 36), some (.ref 0), some (.ref 20), some (.ref 35), some (.int a4), none, none]) (by simp [z_sub]) ?_
                                                    refine z_widen (k' := kk + 2) (n' := nn + 12) (by omega) (by omega) ?_
                                                    exact P1049 _ _ kk nn h1 h2 hk23 a4 0 (((fn_X8_isSafe (xs (a4 + (nI 1)).toNatClampNeg) ((fn_L_isSafe (xs (a4 + (nI 1)).toNatClampNeg) h).2)).2).2 35 ((nI 0).toNatClampNeg)) ((fn_X8_isSafe (xs (a4 + (nI 1)).toNatClampNeg) ((fn_L_isSafe (xs (a4 + (nI 1)).toNatClampNeg) h).2)).2) T E
                                                  · skip
                                                    have E := (if_neg c108).symm.trans E
                                                    have T := T.2 c108
                                                    refine z_go hC (pc' := 1045) (ls' := [some (.ref 36), some (.ref 0), some (.ref 20), some (.ref 35), some (.int a4), some (.int (z_vi (fn_L_isSafe (xs (a4 + (nI 1)).toNatClampNeg) h))), some (.int (z_vi (fn_X8_isSafe (xs (a4 + (nI 1)).toNatClampNeg) ((fn_L_isSafe (xs (a4 + (nI 1)).toNatClampNeg) h).2))))]) (st' := [.long 1, .long (((fn_X8_isSafe (xs (a4 + (nI 1)).toNatClampNeg) ((fn_L_isSafe (xs (a4 + (nI 1)).toNatClampNeg) h).2)).2).2 35 ((nI 0).toNatClampNeg))]) (h' := (fn_X8_isSafe (xs (a4 + (nI 1)).toNatClampNeg) ((fn_L_isSafe (xs (a4 + (nI 1)).toNatClampNeg) h).2)).2) (cs := []) [.lconst 1] (by decide +kernel) rfl rfl trivial ?_
                                                    refine z_goto hC (off := 4) 1049 (by decide +kernel) (by decide) ?_
                                                    refine z_less (ls' := [some (.ref 36), some (.ref 0), some (.ref 20), some (.ref 35), some (.int a4), none, none]) (by simp [z_sub]) ?_
                                                    refine z_widen (k' := kk + 2) (n' := nn + 12) (by omega) (by omega) ?_
                                                    exact P1049 _ _ kk nn h1 h2 hk23 a4 1 (((fn_X8_isSafe (xs (a4 + (nI 1)).toNatClampNeg) ((fn_L_isSafe (xs (a4 + (nI 1)).toNatClampNeg) h).2)).2).2 35 ((nI 0).toNatClampNeg)) ((fn_X8_isSafe (xs (a4 + (nI 1)).toNatClampNeg) ((fn_L_isSafe (xs (a4 + (nI 1)).toNatClampNeg) h).2)).2) T E
                                              · skip
                                                have E := (if_neg c106).symm.trans E
                                                have T := T.2 c106
                                                refine z_go hC (pc' := 1030) (ls' := [some (.ref 36), some (.ref 0), some (.ref 20), some (.ref 35), some (.int a4), some (.int (z_vi (fn_L_isSafe (xs (a4 + (nI 1)).toNatClampNeg) h))), some (.int (z_vi (fn_X8_isSafe (xs (a4 + (nI 1)).toNatClampNeg) ((fn_L_isSafe (xs (a4 + (nI 1)).toNatClampNeg) h).2))))]) (st' := [.int (nI 0)]) (h' := (fn_X8_isSafe (xs (a4 + (nI 1)).toNatClampNeg) ((fn_L_isSafe (xs (a4 + (nI 1)).toNatClampNeg) h).2)).2) (cs := []) [.iconst 0] (by decide +kernel) rfl rfl trivial ?_
                                                exact absurd E (by decide)
                                            · skip
                                              have E := (if_neg c42).symm.trans E
                                              have T := T.2 c42
                                              by_cases c43 : ((xs a4.toNatClampNeg) &&& (nI 31)) = nI 20
                                              · skip
                                                have E := (if_pos c43).symm.trans E
                                                have T := T.1 c43
                                                refine z_tabIn hC (dflt := 1176) (lo := 0) (hi := 23) (offs := #[109, 200, 268, 331, 394, 407, 463, 519, 575, 623, 667, 723, 779, 835, 848, 861, 874, 930, 943, 956, 1019, 1032, 1088, 1132]) (len := 109) (off := 1019) 1058 (by decide +kernel) (by rw [c43]; decide) (by rw [c43]; decide) (by rw [c43]; rfl) (by decide) ?_
                                                refine z_go hC (pc' := 1059) (ls' := [some (.ref 36), some (.ref 0), some (.ref 20), some (.ref 35), some (.int a4), none, none]) (st' := [.ref 0]) (h' := h) (cs := []) [.aload_n 1] (by decide +kernel) rfl rfl trivial ?_
                                                obtain ⟨t88, T⟩ := T
                                                refine z_callV hC hN hR (as := []) (rest := []) ok_L_153 (by decide +kernel) (sp_X7_reach l _ h  t88) rfl rfl (Nat.le_of_ble_eq_true rfl) rfl rfl (Nat.le_of_ble_eq_true rfl) ⟨by show _ ≤ 601024; omega, by show _ ≤ 7293034; omega⟩ (fun r85 h86 q87 => z_fun q87 ?_)
                                                refine z_go hC (pc' := 1063) (ls' := [some (.ref 36), some (.ref 0), some (.ref 20), some (.ref 35), some (.int a4), none, none]) (st' := [.ref 20, .int (z_vi (fn_X7_reach  h))]) (h' := (fn_X7_reach  h).2) (cs := []) [.aload_n 2] (by decide +kernel) rfl rfl trivial ?_
                                                obtain ⟨t92, T⟩ := T
                                                refine z_callV hC hN hR (as := []) (rest := [.int (z_vi (fn_X7_reach  h))]) ok_L_156 (by decide +kernel) (sp_X8_reach l _ ((fn_X7_reach  h).2)  t92) rfl rfl (Nat.le_of_ble_eq_true rfl) rfl rfl (Nat.le_of_ble_eq_true rfl) ⟨by show _ ≤ 601024; omega, by show _ ≤ 7293034; omega⟩ (fun r89 h90 q91 => z_fun q91 ?_)
                                                refine z_icmp_eq hC (off := 149) 1215 (by decide +kernel) (by decide) (fun c93 => ?_) (fun c93 => ?_)
                                                · skip
                                                  have E := (if_pos c93).symm.trans E
                                                  have T := T.1 c93
                                                  refine z_widen (k' := kk + 2) (n' := nn + 12) (by omega) (by omega) ?_
                                                  exact P1215 _ _ kk nn h1 h2 hk23 a4 ((fn_X8_reach  ((fn_X7_reach  h).2)).2) T E
                                                · skip
                                                  have E := (if_neg c93).symm.trans E
                                                  have T := T.2 c93
                                                  refine z_go hC (pc' := 1070) (ls' := [some (.ref 36), some (.ref 0), some (.ref 20), some (.ref 35), some (.int a4), none, none]) (st' := [.int (nI 0)]) (h' := (fn_X8_reach  ((fn_X7_reach  h).2)).2) (cs := []) [.iconst 0] (by decide +kernel) rfl rfl trivial ?_
                                                  exact absurd E (by decide)
                                              · skip
                                                have E := (if_neg c43).symm.trans E
                                                have T := T.2 c43
                                                by_cases c44 : ((xs a4.toNatClampNeg) &&& (nI 31)) = nI 21
                                                · skip
                                                  have E := (if_pos c44).symm.trans E
                                                  have T := T.1 c44
                                                  refine z_tabIn hC (dflt := 1176) (lo := 0) (hi := 23) (offs := #[109, 200, 268, 331, 394, 407, 463, 519, 575, 623, 667, 723, 779, 835, 848, 861, 874, 930, 943, 956, 1019, 1032, 1088, 1132]) (len := 109) (off := 1032) 1071 (by decide +kernel) (by rw [c44]; decide) (by rw [c44]; decide) (by rw [c44]; rfl) (by decide) ?_
                                                  refine z_go hC (pc' := 1077) (ls' := [some (.ref 36), some (.ref 0), some (.ref 20), some (.ref 35), some (.int a4), none, none]) (st' := [.int (a4 + (nI 1)), .ref 36, .ref 0]) (h' := h) (cs := []) [.aload_n 1, .aload_n 0, .iload 4, .iconst 1, .iadd] (by decide +kernel) rfl rfl trivial ?_
                                                  obtain ⟨t71, T⟩ := T
                                                  refine z_sld hC hX hbl hbA had (by decide +kernel) t71 ?_
                                                  refine z_go hC (pc' := 1079) (ls' := [some (.ref 36), some (.ref 0), some (.ref 20), some (.ref 35), some (.int a4), none, none]) (st' := [.ref 35, .int (xs (a4 + (nI 1)).toNatClampNeg), .ref 0]) (h' := h) (cs := []) [.aload_n 3] (by decide +kernel) rfl rfl trivial ?_
                                                  obtain ⟨t72, T⟩ := T
                                                  refine z_callSh hC hN hR hZ hKin (as := [.ref 0, .int (xs (a4 + (nI 1)).toNatClampNeg), .ref 35]) (rest := []) ok_L_157 (by decide +kernel) (sp_L_livesFor l hl0 _ h (xs (a4 + (nI 1)).toNatClampNeg) t72) (Nat.le_of_ble_eq_true rfl) rfl rfl (Nat.le_of_ble_eq_true rfl) ⟨by show _ ≤ 601024; omega, by show _ ≤ 7293034; omega⟩ (fun Ex qx => False.elim qx) (fun rv hh q73 => z_fun q73 ?_)
                                                  refine z_go hC (pc' := 1090) (ls' := [some (.ref 36), some (.ref 0), some (.ref 20), some (.ref 35), some (.int a4), some (.int (z_vi (fn_L_livesFor (xs (a4 + (nI 1)).toNatClampNeg) h))), none]) (st' := [.int (a4 + (nI 1)), .ref 36, .ref 20]) (h' := (fn_L_livesFor (xs (a4 + (nI 1)).toNatClampNeg) h).2) (cs := []) [.istore 5, .aload_n 2, .aload_n 0, .iload 4, .iconst 1, .iadd] (by decide +kernel) rfl rfl trivial ?_
                                                  obtain ⟨t74, T⟩ := T
                                                  refine z_sld hC hX hbl hbA had (by decide +kernel) t74 ?_
                                                  obtain ⟨t78, T⟩ := T
                                                  refine z_callV hC hN hR (as := [.int (xs (a4 + (nI 1)).toNatClampNeg)]) (rest := []) ok_L_159 (by decide +kernel) (sp_X8_livesFor l _ ((fn_L_livesFor (xs (a4 + (nI 1)).toNatClampNeg) h).2) (xs (a4 + (nI 1)).toNatClampNeg) t78) rfl rfl (Nat.le_of_ble_eq_true rfl) rfl rfl (Nat.le_of_ble_eq_true rfl) ⟨by show _ ≤ 601024; omega, by show _ ≤ 7293034; omega⟩ (fun r75 h76 q77 => z_fun q77 ?_)
                                                  refine z_go hC (pc' := 1097) (ls' := [some (.ref 36), some (.ref 0), some (.ref 20), some (.ref 35), some (.int a4), some (.int (z_vi (fn_L_livesFor (xs (a4 + (nI 1)).toNatClampNeg) h))), some (.int (z_vi (fn_X8_livesFor (xs (a4 + (nI 1)).toNatClampNeg) ((fn_L_livesFor (xs (a4 + (nI 1)).toNatClampNeg) h).2))))]) (st' := [.ref 20]) (h' := (fn_X8_livesFor (xs (a4 + (nI 1)).toNatClampNeg) ((fn_L_livesFor (xs (a4 + (nI 1)).toNatClampNeg) h).2)).2) (cs := []) [.istore 6, .aload_n 2] (by decide +kernel) rfl rfl trivial ?_
                                                  refine z_callV hC hN hR (as := []) (rest := []) ok_L_82 (by decide +kernel) (sp_X8_thrown l _ ((fn_X8_livesFor (xs (a4 + (nI 1)).toNatClampNeg) ((fn_L_livesFor (xs (a4 + (nI 1)).toNatClampNeg) h).2)).2) ) rfl rfl (Nat.le_of_ble_eq_true rfl) rfl rfl (Nat.le_of_ble_eq_true rfl) ⟨by show _ ≤ 601024; omega, by show _ ≤ 7293034; omega⟩ (fun r79 h80 q81 => z_fun q81 ?_)
                                                  refine z_go hC (pc' := 1102) (ls' := [some (.ref 36), some (.ref 0), some (.ref 20), some (.ref 35), some (.int a4), some (.int (z_vi (fn_L_livesFor (xs (a4 + (nI 1)).toNatClampNeg) h))), some (.int (z_vi (fn_X8_livesFor (xs (a4 + (nI 1)).toNatClampNeg) ((fn_L_livesFor (xs (a4 + (nI 1)).toNatClampNeg) h).2))))]) (st' := [.int (z_vi (fn_L_livesFor (xs (a4 + (nI 1)).toNatClampNeg) h)), .int (((fn_X8_livesFor (xs (a4 + (nI 1)).toNatClampNeg) ((fn_L_livesFor (xs (a4 + (nI 1)).toNatClampNeg) h).2)).2).1 20 0)]) (h' := (fn_X8_livesFor (xs (a4 + (nI 1)).toNatClampNeg) ((fn_L_livesFor (xs (a4 + (nI 1)).toNatClampNeg) h).2)).2) (cs := []) [.iload 5] (by decide +kernel) rfl rfl trivial ?_
                                                  refine z_icmp_eq hC (off := 5) 1107 (by decide +kernel) (by decide) (fun c82 => ?_) (fun c82 => ?_)
                                                  · skip
                                                    have E := (if_pos c82).symm.trans E
                                                    have T := T.1 c82
                                                    refine z_go hC (pc' := 1109) (ls' := [some (.ref 36), some (.ref 0), some (.ref 20), some (.ref 35), some (.int a4), some (.int (z_vi (fn_L_livesFor (xs (a4 + (nI 1)).toNatClampNeg) h))), some (.int (z_vi (fn_X8_livesFor (xs (a4 + (nI 1)).toNatClampNeg) ((fn_L_livesFor (xs (a4 + (nI 1)).toNatClampNeg) h).2))))]) (st' := [.int (z_vi (fn_L_livesFor (xs (a4 + (nI 1)).toNatClampNeg) h))]) (h' := (fn_X8_livesFor (xs (a4 + (nI 1)).toNatClampNeg) ((fn_L_livesFor (xs (a4 + (nI 1)).toNatClampNeg) h).2)).2) (cs := []) [.iload 5] (by decide +kernel) rfl rfl trivial ?_
                                                    refine z_if_ne hC (off := 15) 1124 (by decide +kernel) (by decide) (fun c83 => ?_) (fun c83 => ?_)
                                                    · skip
                                                      have E := (if_neg c83).symm.trans E
                                                      have T := T.2 c83
                                                      refine z_less (ls' := [some (.ref 36), some (.ref 0), some (.ref 20), some (.ref 35), some (.int a4), none, none]) (by simp [z_sub]) ?_
                                                      refine z_widen (k' := kk + 1) (n' := nn + 6) (by omega) (by omega) ?_
                                                      exact P1124 _ _ kk nn h1 h2 hk23 a4 ((fn_X8_livesFor (xs (a4 + (nI 1)).toNatClampNeg) ((fn_L_livesFor (xs (a4 + (nI 1)).toNatClampNeg) h).2)).2) T E
                                                    · skip
                                                      have E := (if_pos c83).symm.trans E
                                                      have T := T.1 c83
                                                      refine z_go hC (pc' := 1119) (ls' := [some (.ref 36), some (.ref 0), some (.ref 20), some (.ref 35), some (.int a4), some (.int (z_vi (fn_L_livesFor (xs (a4 + (nI 1)).toNatClampNeg) h))), some (.int (z_vi (fn_X8_livesFor (xs (a4 + (nI 1)).toNatClampNeg) ((fn_L_livesFor (xs (a4 + (nI 1)).toNatClampNeg) h).2))))]) (st' := [.int (lg_cmp (((fn_X8_livesFor (xs (a4 + (nI 1)).toNatClampNeg) ((fn_L_livesFor (xs (a4 + (nI 1)).toNatClampNeg) h).2)).2).2 35 ((nI 0).toNatClampNeg)) ((z_vi (fn_X8_livesFor (xs (a4 + (nI 1)).toNatClampNeg) ((fn_L_livesFor (xs (a4 + (nI 1)).toNatClampNeg) h).2))).toInt64))]) (h' := (fn_X8_livesFor (xs (a4 + (nI 1)).toNatClampNeg) ((fn_L_livesFor (xs (a4 + (nI 1)).toNatClampNeg) h).2)).2) (cs := [vp_in (nI 0) 1]) [.aload_n 3, .iconst 0, .laload, .iload 6, .i2l, .lcmp] (by decide +kernel) rfl rfl (vp_in_nI (n := 0) (N := 1) (by decide) (by decide)) ?_
                                                      refine z_if_eq hC (off := 5) 1124 (by decide +kernel) (by decide) (fun c84 => ?_) (fun c84 => ?_)
                                                      · skip
                                                        have E := (if_pos c84).symm.trans E
                                                        have T := T.1 c84
                                                        refine z_less (ls' := [some (.ref 36), some (.ref 0), some (.ref 20), some (.ref 35), some (.int a4), none, none]) (by simp [z_sub]) ?_
                                                        refine z_widen (k' := kk + 1) (n' := nn + 6) (by omega) (by omega) ?_
                                                        exact P1124 _ _ kk nn h1 h2 hk23 a4 ((fn_X8_livesFor (xs (a4 + (nI 1)).toNatClampNeg) ((fn_L_livesFor (xs (a4 + (nI 1)).toNatClampNeg) h).2)).2) T E
                                                      · skip
                                                        have E := (if_neg c84).symm.trans E
                                                        have T := T.2 c84
                                                        refine z_go hC (pc' := 1123) (ls' := [some (.ref 36), some (.ref 0), some (.ref 20), some (.ref 35), some (.int a4), some (.int (z_vi (fn_L_livesFor (xs (a4 + (nI 1)).toNatClampNeg) h))), some (.int (z_vi (fn_X8_livesFor (xs (a4 + (nI 1)).toNatClampNeg) ((fn_L_livesFor (xs (a4 + (nI 1)).toNatClampNeg) h).2))))]) (st' := [.int (nI 0)]) (h' := (fn_X8_livesFor (xs (a4 + (nI 1)).toNatClampNeg) ((fn_L_livesFor (xs (a4 + (nI 1)).toNatClampNeg) h).2)).2) (cs := []) [.iconst 0] (by decide +kernel) rfl rfl trivial ?_
                                                        exact absurd E (by decide)
                                                  · skip
                                                    have E := (if_neg c82).symm.trans E
                                                    have T := T.2 c82
                                                    refine z_go hC (pc' := 1106) (ls' := [some (.ref 36), some (.ref 0), some (.ref 20), some (.ref 35), some (.int a4), some (.int (z_vi (fn_L_livesFor (xs (a4 + (nI 1)).toNatClampNeg) h))), some (.int (z_vi (fn_X8_livesFor (xs (a4 + (nI 1)).toNatClampNeg) ((fn_L_livesFor (xs (a4 + (nI 1)).toNatClampNeg) h).2))))]) (st' := [.int (nI 0)]) (h' := (fn_X8_livesFor (xs (a4 + (nI 1)).toNatClampNeg) ((fn_L_livesFor (xs (a4 + (nI 1)).toNatClampNeg) h).2)).2) (cs := []) [.iconst 0] (by decide +kernel) rfl rfl trivial ?_
                                                    exact absurd E (by decide)
                                                · skip
                                                  have E := (if_neg c44).symm.trans E
                                                  have T := T.2 c44
                                                  by_cases c45 : ((xs a4.toNatClampNeg) &&& (nI 31)) = nI 22
                                                  · skip
                                                    have E := (if_pos c45).symm.trans E
                                                    have T := T.1 c45
                                                    refine z_tabIn hC (dflt := 1176) (lo := 0) (hi := 23) (offs := #[109, 200, 268, 331, 394, 407, 463, 519, 575, 623, 667, 723, 779, 835, 848, 861, 874, 930, 943, 956, 1019, 1032, 1088, 1132]) (len := 109) (off := 1088) 1127 (by decide +kernel) (by rw [c45]; decide) (by rw [c45]; decide) (by rw [c45]; rfl) (by decide) ?_
                                                    refine z_go hC (pc' := 1129) (ls' := [some (.ref 36), some (.ref 0), some (.ref 20), some (.ref 35), some (.int a4), none, none]) (st' := [.ref 35, .ref 0]) (h' := h) (cs := []) [.aload_n 1, .aload_n 3] (by decide +kernel) rfl rfl trivial ?_
                                                    obtain ⟨t59, T⟩ := T
                                                    refine z_callSh hC hN hR hZ hKin (as := [.ref 0, .ref 35]) (rest := []) ok_L_160 (by decide +kernel) (sp_L_fewest l hl0 _ h  t59) (Nat.le_of_ble_eq_true rfl) rfl rfl (Nat.le_of_ble_eq_true rfl) ⟨by show _ ≤ 601024; omega, by show _ ≤ 7293034; omega⟩ (fun Ex qx => False.elim qx) (fun rv hh q60 => z_fun q60 ?_)
                                                    refine z_go hC (pc' := 1135) (ls' := [some (.ref 36), some (.ref 0), some (.ref 20), some (.ref 35), some (.int a4), some (.int (z_vi (fn_L_fewest  h))), none]) (st' := [.ref 20]) (h' := (fn_L_fewest  h).2) (cs := []) [.istore 5, .aload_n 2] (by decide +kernel) rfl rfl trivial ?_
                                                    obtain ⟨t64, T⟩ := T
                                                    refine z_callV hC hN hR (as := []) (rest := []) ok_L_162 (by decide +kernel) (sp_X8_fewest l _ ((fn_L_fewest  h).2)  t64) rfl rfl (Nat.le_of_ble_eq_true rfl) rfl rfl (Nat.le_of_ble_eq_true rfl) ⟨by show _ ≤ 601024; omega, by show _ ≤ 7293034; omega⟩ (fun r61 h62 q63 => z_fun q63 ?_)
                                                    refine z_go hC (pc' := 1141) (ls' := [some (.ref 36), some (.ref 0), some (.ref 20), some (.ref 35), some (.int a4), some (.int (z_vi (fn_L_fewest  h))), some (.int (z_vi (fn_X8_fewest  ((fn_L_fewest  h).2))))]) (st' := [.ref 20]) (h' := (fn_X8_fewest  ((fn_L_fewest  h).2)).2) (cs := []) [.istore 6, .aload_n 2] (by decide +kernel) rfl rfl trivial ?_
                                                    refine z_callV hC hN hR (as := []) (rest := []) ok_L_82 (by decide +kernel) (sp_X8_thrown l _ ((fn_X8_fewest  ((fn_L_fewest  h).2)).2) ) rfl rfl (Nat.le_of_ble_eq_true rfl) rfl rfl (Nat.le_of_ble_eq_true rfl) ⟨by show _ ≤ 601024; omega, by show _ ≤ 7293034; omega⟩ (fun r65 h66 q67 => z_fun q67 ?_)
                                                    refine z_go hC (pc' := 1146) (ls' := [some (.ref 36), some (.ref 0), some (.ref 20), some (.ref 35), some (.int a4), some (.int (z_vi (fn_L_fewest  h))), some (.int (z_vi (fn_X8_fewest  ((fn_L_fewest  h).2))))]) (st' := [.int (z_vi (fn_L_fewest  h)), .int (((fn_X8_fewest  ((fn_L_fewest  h).2)).2).1 20 0)]) (h' := (fn_X8_fewest  ((fn_L_fewest  h).2)).2) (cs := []) [.iload 5] (by decide +kernel) rfl rfl trivial ?_
                                                    refine z_icmp_eq hC (off := 5) 1151 (by decide +kernel) (by decide) (fun c68 => ?_) (fun c68 => ?_)
                                                    · skip
                                                      have E := (if_pos c68).symm.trans E
                                                      have T := T.1 c68
                                                      refine z_go hC (pc' := 1153) (ls' := [some (.ref 36), some (.ref 0), some (.ref 20), some (.ref 35), some (.int a4), some (.int (z_vi (fn_L_fewest  h))), some (.int (z_vi (fn_X8_fewest  ((fn_L_fewest  h).2))))]) (st' := [.int (z_vi (fn_L_fewest  h))]) (h' := (fn_X8_fewest  ((fn_L_fewest  h).2)).2) (cs := []) [.iload 5] (by decide +kernel) rfl rfl trivial ?_
                                                      refine z_if_ne hC (off := 15) 1168 (by decide +kernel) (by decide) (fun c69 => ?_) (fun c69 => ?_)
                                                      · skip
                                                        have E := (if_neg c69).symm.trans E
                                                        have T := T.2 c69
                                                        refine z_less (ls' := [some (.ref 36), some (.ref 0), some (.ref 20), some (.ref 35), some (.int a4), none, none]) (by simp [z_sub]) ?_
                                                        refine z_widen (k' := kk + 1) (n' := nn + 6) (by omega) (by omega) ?_
                                                        exact P1168 _ _ kk nn h1 h2 hk23 a4 ((fn_X8_fewest  ((fn_L_fewest  h).2)).2) T E
                                                      · skip
                                                        have E := (if_pos c69).symm.trans E
                                                        have T := T.1 c69
                                                        refine z_go hC (pc' := 1163) (ls' := [some (.ref 36), some (.ref 0), some (.ref 20), some (.ref 35), some (.int a4), some (.int (z_vi (fn_L_fewest  h))), some (.int (z_vi (fn_X8_fewest  ((fn_L_fewest  h).2))))]) (st' := [.int (lg_cmp (((fn_X8_fewest  ((fn_L_fewest  h).2)).2).2 35 ((nI 0).toNatClampNeg)) ((z_vi (fn_X8_fewest  ((fn_L_fewest  h).2))).toInt64))]) (h' := (fn_X8_fewest  ((fn_L_fewest  h).2)).2) (cs := [vp_in (nI 0) 1]) [.aload_n 3, .iconst 0, .laload, .iload 6, .i2l, .lcmp] (by decide +kernel) rfl rfl (vp_in_nI (n := 0) (N := 1) (by decide) (by decide)) ?_
                                                        refine z_if_eq hC (off := 5) 1168 (by decide +kernel) (by decide) (fun c70 => ?_) (fun c70 => ?_)
                                                        · skip
                                                          have E := (if_pos c70).symm.trans E
                                                          have T := T.1 c70
                                                          refine z_less (ls' := [some (.ref 36), some (.ref 0), some (.ref 20), some (.ref 35), some (.int a4), none, none]) (by simp [z_sub]) ?_
                                                          refine z_widen (k' := kk + 1) (n' := nn + 6) (by omega) (by omega) ?_
                                                          exact P1168 _ _ kk nn h1 h2 hk23 a4 ((fn_X8_fewest  ((fn_L_fewest  h).2)).2) T E
                                                        · skip
                                                          have E := (if_neg c70).symm.trans E
                                                          have T := T.2 c70
                                                          refine z_go hC (pc' := 1167) (ls' := [some (.ref 36), some (.ref 0), some (.ref 20), some (.ref 35), some (.int a4), some (.int (z_vi (fn_L_fewest  h))), some (.int (z_vi (fn_X8_fewest  ((fn_L_fewest  h).2))))]) (st' := [.int (nI 0)]) (h' := (fn_X8_fewest  ((fn_L_fewest  h).2)).2) (cs := []) [.iconst 0] (by decide +kernel) rfl rfl trivial ?_
                                                          exact absurd E (by decide)
                                                    · skip
                                                      have E := (if_neg c68).symm.trans E
                                                      have T := T.2 c68
                                                      refine z_go hC (pc' := 1150) (ls' := [some (.ref 36), some (.ref 0), some (.ref 20), some (.ref 35), some (.int a4), some (.int (z_vi (fn_L_fewest  h))), some (.int (z_vi (fn_X8_fewest  ((fn_L_fewest  h).2))))]) (st' := [.int (nI 0)]) (h' := (fn_X8_fewest  ((fn_L_fewest  h).2)).2) (cs := []) [.iconst 0] (by decide +kernel) rfl rfl trivial ?_
                                                      exact absurd E (by decide)
                                                  · skip
                                                    have E := (if_neg c45).symm.trans E
                                                    have T := T.2 c45
                                                    by_cases c46 : ((xs a4.toNatClampNeg) &&& (nI 31)) = nI 23
                                                    · skip
                                                      have E := (if_pos c46).symm.trans E
                                                      have T := T.1 c46
                                                      refine z_tabIn hC (dflt := 1176) (lo := 0) (hi := 23) (offs := #[109, 200, 268, 331, 394, 407, 463, 519, 575, 623, 667, 723, 779, 835, 848, 861, 874, 930, 943, 956, 1019, 1032, 1088, 1132]) (len := 109) (off := 1132) 1171 (by decide +kernel) (by rw [c46]; decide) (by rw [c46]; decide) (by rw [c46]; rfl) (by decide) ?_
                                                      refine z_go hC (pc' := 1173) (ls' := [some (.ref 36), some (.ref 0), some (.ref 20), some (.ref 35), some (.int a4), none, none]) (st' := [.ref 35, .ref 0]) (h' := h) (cs := []) [.aload_n 1, .aload_n 3] (by decide +kernel) rfl rfl trivial ?_
                                                      obtain ⟨t47, T⟩ := T
                                                      refine z_callSh hC hN hR hZ hKin (as := [.ref 0, .ref 35]) (rest := []) ok_L_163 (by decide +kernel) (sp_L_fewestByBodies l hl0 _ h  t47) (Nat.le_of_ble_eq_true rfl) rfl rfl (Nat.le_of_ble_eq_true rfl) ⟨by show _ ≤ 601024; omega, by show _ ≤ 7293034; omega⟩ (fun Ex qx => False.elim qx) (fun rv hh q48 => z_fun q48 ?_)
                                                      refine z_go hC (pc' := 1179) (ls' := [some (.ref 36), some (.ref 0), some (.ref 20), some (.ref 35), some (.int a4), some (.int (z_vi (fn_L_fewestByBodies  h))), none]) (st' := [.ref 20]) (h' := (fn_L_fewestByBodies  h).2) (cs := []) [.istore 5, .aload_n 2] (by decide +kernel) rfl rfl trivial ?_
                                                      obtain ⟨t52, T⟩ := T
                                                      refine z_callV hC hN hR (as := []) (rest := []) ok_L_165 (by decide +kernel) (sp_X8_fewestByBodies l _ ((fn_L_fewestByBodies  h).2)  t52) rfl rfl (Nat.le_of_ble_eq_true rfl) rfl rfl (Nat.le_of_ble_eq_true rfl) ⟨by show _ ≤ 601024; omega, by show _ ≤ 7293034; omega⟩ (fun r49 h50 q51 => z_fun q51 ?_)
                                                      refine z_go hC (pc' := 1185) (ls' := [some (.ref 36), some (.ref 0), some (.ref 20), some (.ref 35), some (.int a4), some (.int (z_vi (fn_L_fewestByBodies  h))), some (.int (z_vi (fn_X8_fewestByBodies  ((fn_L_fewestByBodies  h).2))))]) (st' := [.ref 20]) (h' := (fn_X8_fewestByBodies  ((fn_L_fewestByBodies  h).2)).2) (cs := []) [.istore 6, .aload_n 2] (by decide +kernel) rfl rfl trivial ?_
                                                      refine z_callV hC hN hR (as := []) (rest := []) ok_L_82 (by decide +kernel) (sp_X8_thrown l _ ((fn_X8_fewestByBodies  ((fn_L_fewestByBodies  h).2)).2) ) rfl rfl (Nat.le_of_ble_eq_true rfl) rfl rfl (Nat.le_of_ble_eq_true rfl) ⟨by show _ ≤ 601024; omega, by show _ ≤ 7293034; omega⟩ (fun r53 h54 q55 => z_fun q55 ?_)
                                                      refine z_go hC (pc' := 1190) (ls' := [some (.ref 36), some (.ref 0), some (.ref 20), some (.ref 35), some (.int a4), some (.int (z_vi (fn_L_fewestByBodies  h))), some (.int (z_vi (fn_X8_fewestByBodies  ((fn_L_fewestByBodies  h).2))))]) (st' := [.int (z_vi (fn_L_fewestByBodies  h)), .int (((fn_X8_fewestByBodies  ((fn_L_fewestByBodies  h).2)).2).1 20 0)]) (h' := (fn_X8_fewestByBodies  ((fn_L_fewestByBodies  h).2)).2) (cs := []) [.iload 5] (by decide +kernel) rfl rfl trivial ?_
                                                      refine z_icmp_eq hC (off := 5) 1195 (by decide +kernel) (by decide) (fun c56 => ?_) (fun c56 => ?_)
                                                      · skip
                                                        have E := (if_pos c56).symm.trans E
                                                        have T := T.1 c56
                                                        refine z_go hC (pc' := 1197) (ls' := [some (.ref 36), some (.ref 0), some (.ref 20), some (.ref 35), some (.int a4), some (.int (z_vi (fn_L_fewestByBodies  h))), some (.int (z_vi (fn_X8_fewestByBodies  ((fn_L_fewestByBodies  h).2))))]) (st' := [.int (z_vi (fn_L_fewestByBodies  h))]) (h' := (fn_X8_fewestByBodies  ((fn_L_fewestByBodies  h).2)).2) (cs := []) [.iload 5] (by decide +kernel) rfl rfl trivial ?_
                                                        refine z_if_ne hC (off := 15) 1212 (by decide +kernel) (by decide) (fun c57 => ?_) (fun c57 => ?_)
                                                        · skip
                                                          have E := (if_neg c57).symm.trans E
                                                          have T := T.2 c57
                                                          refine z_less (ls' := [some (.ref 36), some (.ref 0), some (.ref 20), some (.ref 35), some (.int a4), none, none]) (by simp [z_sub]) ?_
                                                          refine z_widen (k' := kk + 1) (n' := nn + 6) (by omega) (by omega) ?_
                                                          exact P1212 _ _ kk nn h1 h2 hk23 a4 ((fn_X8_fewestByBodies  ((fn_L_fewestByBodies  h).2)).2) T E
                                                        · skip
                                                          have E := (if_pos c57).symm.trans E
                                                          have T := T.1 c57
                                                          refine z_go hC (pc' := 1207) (ls' := [some (.ref 36), some (.ref 0), some (.ref 20), some (.ref 35), some (.int a4), some (.int (z_vi (fn_L_fewestByBodies  h))), some (.int (z_vi (fn_X8_fewestByBodies  ((fn_L_fewestByBodies  h).2))))]) (st' := [.int (lg_cmp (((fn_X8_fewestByBodies  ((fn_L_fewestByBodies  h).2)).2).2 35 ((nI 0).toNatClampNeg)) ((z_vi (fn_X8_fewestByBodies  ((fn_L_fewestByBodies  h).2))).toInt64))]) (h' := (fn_X8_fewestByBodies  ((fn_L_fewestByBodies  h).2)).2) (cs := [vp_in (nI 0) 1]) [.aload_n 3, .iconst 0, .laload, .iload 6, .i2l, .lcmp] (by decide +kernel) rfl rfl (vp_in_nI (n := 0) (N := 1) (by decide) (by decide)) ?_
                                                          refine z_if_eq hC (off := 5) 1212 (by decide +kernel) (by decide) (fun c58 => ?_) (fun c58 => ?_)
                                                          · skip
                                                            have E := (if_pos c58).symm.trans E
                                                            have T := T.1 c58
                                                            refine z_less (ls' := [some (.ref 36), some (.ref 0), some (.ref 20), some (.ref 35), some (.int a4), none, none]) (by simp [z_sub]) ?_
                                                            refine z_widen (k' := kk + 1) (n' := nn + 6) (by omega) (by omega) ?_
                                                            exact P1212 _ _ kk nn h1 h2 hk23 a4 ((fn_X8_fewestByBodies  ((fn_L_fewestByBodies  h).2)).2) T E
                                                          · skip
                                                            have E := (if_neg c58).symm.trans E
                                                            have T := T.2 c58
                                                            refine z_go hC (pc' := 1211) (ls' := [some (.ref 36), some (.ref 0), some (.ref 20), some (.ref 35), some (.int a4), some (.int (z_vi (fn_L_fewestByBodies  h))), some (.int (z_vi (fn_X8_fewestByBodies  ((fn_L_fewestByBodies  h).2))))]) (st' := [.int (nI 0)]) (h' := (fn_X8_fewestByBodies  ((fn_L_fewestByBodies  h).2)).2) (cs := []) [.iconst 0] (by decide +kernel) rfl rfl trivial ?_
                                                            exact absurd E (by decide)
                                                      · skip
                                                        have E := (if_neg c56).symm.trans E
                                                        have T := T.2 c56
                                                        refine z_go hC (pc' := 1194) (ls' := [some (.ref 36), some (.ref 0), some (.ref 20), some (.ref 35), some (.int a4), some (.int (z_vi (fn_L_fewestByBodies  h))), some (.int (z_vi (fn_X8_fewestByBodies  ((fn_L_fewestByBodies  h).2))))]) (st' := [.int (nI 0)]) (h' := (fn_X8_fewestByBodies  ((fn_L_fewestByBodies  h).2)).2) (cs := []) [.iconst 0] (by decide +kernel) rfl rfl trivial ?_
                                                        exact absurd E (by decide)
                                                    · skip
                                                      have E := (if_neg c46).symm.trans E
                                                      have T := T.2 c46
                                                      refine z_tabOut hC (dflt := 1176) (lo := 0) (hi := 23) (offs := #[109, 200, 268, 331, 394, 407, 463, 519, 575, 623, 667, 723, 779, 835, 848, 861, 874, 930, 943, 956, 1019, 1032, 1088, 1132]) (len := 109) 1215 (by decide +kernel) (z_tabN (lt_s (lt_s (lt_s (lt_s (lt_s (lt_s (lt_s (lt_s (lt_s (lt_s (lt_s (lt_s (lt_s (lt_s (lt_s (lt_s (lt_s (lt_s (lt_s (lt_s (lt_s (lt_s (lt_s (lt_s lt_0 c23) c24) c25) c26) c27) c28) c29) c30) c31) c32) c33) c34) c35) c36) c37) c38) c39) c40) c41) c42) c43) c44) c45) c46)) (by decide) ?_
                                                      refine z_widen (k' := kk + 2) (n' := nn + 12) (by omega) (by omega) ?_
                                                      exact P1215 _ _ kk nn h1 h2 hk23 a4 h T E
