set_option maxRecDepth 20000 in
theorem b_X10_settle {x : jX} {tb : jT} {d : Nat} {M : jM} {P : jM → Prop} {p : Nat} {o1 : Nat} (a0 : aX10 tb p)
    (h : JC x tb mX5_copyFrom d [.ref (x.2.2.2 (p + 1)), .ref (x.2.2.2 o1)] M (jV fun M1 => 0 + 25 ≤ 25 ∧ 0 + 25 ≤ 25 ∧ (∀ M2, M2 = jrI M1 (p + 10) (va_cpy (M1.1 (p + 3)) (M1.1 (p + 10)) 0 0 25) → JC x tb mX3_begin d [.ref (x.2.2.2 (p + 11)), .int (0 : Int32)] M2 (jV fun M3 => P M3)))) :
    JC x tb mX10_settle (d + 1) [.ref (x.2.2.2 p), .ref (x.2.2.2 o1)] M (jV P) := by
  refine JC.of rfl (Nat.le_of_ble_eq_true rfl) ?_
  refine jw_ls (ls' := [(0, .ref (x.2.2.2 p)), (1, .ref (x.2.2.2 o1))]) rfl ?_
  refine jw_aload_n (pc := 0) (j := 0) dX10_settle_0 rfl rfl ?_
  refine jw_getR (pc := 1) (r := p + 1) dX10_settle_1 a0.1 fl_X10_12 (by decide) rfl rfl ?_
  refine jw_aload_n (pc := 4) (j := 1) dX10_settle_4 rfl rfl ?_
  refine jw_callV (pc := 5) (m2 := mX5_copyFrom) (As := [.ref (x.2.2.2 o1)]) (st := []) dX10_settle_5 a0.2.1 (by decide) rfl rfl gm_X5_copyFrom ml_X10_29 rfl (Nat.le_of_ble_eq_true rfl) (JC.mono h ?_)
  clear h
  rintro M1 _ ⟨rfl, h⟩
  refine jw_st (st' := []) rfl ?_
  refine jw_aload_n (pc := 8) (j := 0) dX10_settle_8 rfl rfl ?_
  refine jw_getR (pc := 9) (r := p + 1) dX10_settle_9 a0.1 fl_X10_12 (by decide) rfl rfl ?_
  refine jw_getR (pc := 12) (r := p + 3) dX10_settle_12 a0.2.1 fl_X10_33 (by decide) rfl rfl ?_
  refine jw_iconst (pc := 15) (v := 0) dX10_settle_15 rfl ?_
  refine jw_aload_n (pc := 16) (j := 0) dX10_settle_16 rfl rfl ?_
  refine jw_getR (pc := 17) (r := p + 10) dX10_settle_17 a0.1 fl_X10_18 (by decide) rfl rfl ?_
  refine jw_iconst (pc := 20) (v := 0) dX10_settle_20 rfl ?_
  refine jw_bipush (pc := 21) (v := 25) dX10_settle_21 rfl ?_
  obtain ⟨q1, q2, h⟩ := h
  refine jw_copyI (pc := 23) (a := 0) (b := 0) (k := 25) (st := []) dX10_settle_23 ac_X10_36 ac_n ac_s ac_i a0.2.2.2.1 a0.2.2.2.2.2.2.2.2.2.2.1 rfl rfl rfl q1 q2 (by decide) (by decide) (jcw (Nat.le_of_ble_eq_true rfl)) ?_
  replace h := h _ rfl
  generalize jrI M1 (p + 10) (va_cpy (M1.1 (p + 3)) (M1.1 (p + 10)) 0 0 25) = M2 at h ⊢
  refine jw_aload_n (pc := 26) (j := 0) dX10_settle_26 rfl rfl ?_
  refine jw_getR (pc := 27) (r := p + 11) dX10_settle_27 a0.1 fl_X10_25 (by decide) rfl rfl ?_
  refine jw_iconst (pc := 30) (v := 0) dX10_settle_30 rfl ?_
  refine jw_callV (pc := 31) (m2 := mX3_begin) (As := [.int (0 : Int32)]) (st := []) dX10_settle_31 a0.2.2.2.2.2.2.2.2.2.2.2.1 (by decide) rfl rfl gm_X3_begin ml_X10_42 rfl (Nat.le_of_ble_eq_true rfl) (JC.mono h ?_)
  clear h
  rintro M3 _ ⟨rfl, h⟩
  refine jw_st (st' := []) rfl ?_
  exact jw_vret (pc := 34) dX10_settle_34 rfl ⟨rfl, h⟩
set_option maxRecDepth 20000 in
theorem b_X10_copyFrom {x : jX} {tb : jT} {d : Nat} {M : jM} {P : jM → Prop} {p : Nat} {o1 : Nat} (a0 : aX10 tb p) (b1 : aX10 tb o1)
    (h : JC x tb mX5_copyFrom d [.ref (x.2.2.2 (p + 1)), .ref (x.2.2.2 (o1 + 1))] M (jV fun M1 => 0 + 25 ≤ 25 ∧ 0 + 25 ≤ 25 ∧ (∀ M2, M2 = jrI M1 (p + 10) (va_cpy (M1.1 (o1 + 10)) (M1.1 (p + 10)) 0 0 25) → JC x tb mX3_copyFrom d [.ref (x.2.2.2 (p + 11)), .ref (x.2.2.2 (o1 + 11))] M2 (jV fun M3 => P M3)))) :
    JC x tb mX10_copyFrom (d + 1) [.ref (x.2.2.2 p), .ref (x.2.2.2 o1)] M (jV P) := by
  refine JC.of rfl (Nat.le_of_ble_eq_true rfl) ?_
  refine jw_ls (ls' := [(0, .ref (x.2.2.2 p)), (1, .ref (x.2.2.2 o1))]) rfl ?_
  refine jw_aload_n (pc := 0) (j := 0) dX10_copyFrom_0 rfl rfl ?_
  refine jw_getR (pc := 1) (r := p + 1) dX10_copyFrom_1 a0.1 fl_X10_12 (by decide) rfl rfl ?_
  refine jw_aload_n (pc := 4) (j := 1) dX10_copyFrom_4 rfl rfl ?_
  refine jw_getR (pc := 5) (r := o1 + 1) dX10_copyFrom_5 b1.1 fl_X10_12 (by decide) rfl rfl ?_
  refine jw_callV (pc := 8) (m2 := mX5_copyFrom) (As := [.ref (x.2.2.2 (o1 + 1))]) (st := []) dX10_copyFrom_8 a0.2.1 (by decide) rfl rfl gm_X5_copyFrom ml_X10_29 rfl (Nat.le_of_ble_eq_true rfl) (JC.mono h ?_)
  clear h
  rintro M1 _ ⟨rfl, h⟩
  refine jw_st (st' := []) rfl ?_
  refine jw_aload_n (pc := 11) (j := 1) dX10_copyFrom_11 rfl rfl ?_
  refine jw_getR (pc := 12) (r := o1 + 10) dX10_copyFrom_12 b1.1 fl_X10_18 (by decide) rfl rfl ?_
  refine jw_iconst (pc := 15) (v := 0) dX10_copyFrom_15 rfl ?_
  refine jw_aload_n (pc := 16) (j := 0) dX10_copyFrom_16 rfl rfl ?_
  refine jw_getR (pc := 17) (r := p + 10) dX10_copyFrom_17 a0.1 fl_X10_18 (by decide) rfl rfl ?_
  refine jw_iconst (pc := 20) (v := 0) dX10_copyFrom_20 rfl ?_
  refine jw_bipush (pc := 21) (v := 25) dX10_copyFrom_21 rfl ?_
  obtain ⟨q1, q2, h⟩ := h
  refine jw_copyI (pc := 23) (a := 0) (b := 0) (k := 25) (st := []) dX10_copyFrom_23 ac_X10_36 ac_n ac_s ac_i b1.2.2.2.2.2.2.2.2.2.2.1 a0.2.2.2.2.2.2.2.2.2.2.1 rfl rfl rfl q1 q2 (by decide) (by decide) (jcw (Nat.le_of_ble_eq_true rfl)) ?_
  replace h := h _ rfl
  generalize jrI M1 (p + 10) (va_cpy (M1.1 (o1 + 10)) (M1.1 (p + 10)) 0 0 25) = M2 at h ⊢
  refine jw_aload_n (pc := 26) (j := 0) dX10_copyFrom_26 rfl rfl ?_
  refine jw_getR (pc := 27) (r := p + 11) dX10_copyFrom_27 a0.1 fl_X10_25 (by decide) rfl rfl ?_
  refine jw_aload_n (pc := 30) (j := 1) dX10_copyFrom_30 rfl rfl ?_
  refine jw_getR (pc := 31) (r := o1 + 11) dX10_copyFrom_31 b1.1 fl_X10_25 (by decide) rfl rfl ?_
  refine jw_callV (pc := 34) (m2 := mX3_copyFrom) (As := [.ref (x.2.2.2 (o1 + 11))]) (st := []) dX10_copyFrom_34 a0.2.2.2.2.2.2.2.2.2.2.2.1 (by decide) rfl rfl gm_X3_copyFrom ml_X10_46 rfl (Nat.le_of_ble_eq_true rfl) (JC.mono h ?_)
  clear h
  rintro M3 _ ⟨rfl, h⟩
  refine jw_st (st' := []) rfl ?_
  exact jw_vret (pc := 37) dX10_copyFrom_37 rfl ⟨rfl, h⟩
