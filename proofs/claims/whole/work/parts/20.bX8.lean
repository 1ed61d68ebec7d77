set_option maxRecDepth 20000 in
theorem b_X8_wantPromises {x : jX} {d : Nat} {M : jM} {P : jM → Prop} {a2 : Int32} 
    (h : 0 + 54 ≤ 54 ∧ 0 + 54 ≤ 54 ∧ (∀ M1, M1 = jrI M 52 (va_cpy (M.1 36) (M.1 52) 0 0 54) → ∀ M2, M2 = jrI M1 49 (upd (M1.1 49) 6 (a2 &&& (M1.1 30 4))) → JC x jtbC mX8_findCaps d [.ref (x.2.2.2 49), .ref (x.2.2.2 30)] M2 (jV fun M3 => P M3))) :
    JC x jtbC mX8_wantPromises (d + 1) [.ref (x.2.2.2 49), .ref (x.2.2.2 30), .int a2] M (jV P) := by
  refine JC.of rfl (Nat.le_of_ble_eq_true rfl) ?_
  refine jw_ls (ls' := [(0, .ref (x.2.2.2 49)), (1, .ref (x.2.2.2 30)), (2, .int a2)]) rfl ?_
  refine jw_aload_n (pc := 0) (j := 1) dX8_wantPromises_0 rfl rfl ?_
  refine jw_getR (pc := 1) (r := 36) dX8_wantPromises_1 sC_30 fl_X8_35 (by decide) rfl rfl ?_
  refine jw_iconst (pc := 4) (v := 0) dX8_wantPromises_4 rfl ?_
  refine jw_aload_n (pc := 5) (j := 0) dX8_wantPromises_5 rfl rfl ?_
  refine jw_getR (pc := 6) (r := 52) dX8_wantPromises_6 sC_49 fl_X8_18 (by decide) rfl rfl ?_
  refine jw_iconst (pc := 9) (v := 0) dX8_wantPromises_9 rfl ?_
  refine jw_bipush (pc := 10) (v := 54) dX8_wantPromises_10 rfl ?_
  obtain ⟨q1, q2, h⟩ := h
  refine jw_copyI (pc := 12) (a := 0) (b := 0) (k := 54) (st := []) dX8_wantPromises_12 ac_X8_40 ac_n ac_s ac_i sC_36 sC_52 rfl rfl rfl q1 q2 (by decide) (by decide) (jcw (Nat.le_of_ble_eq_true rfl)) ?_
  replace h := h _ rfl
  generalize jrI M 52 (va_cpy (M.1 36) (M.1 52) 0 0 54) = M1 at h ⊢
  refine jw_aload_n (pc := 15) (j := 0) dX8_wantPromises_15 rfl rfl ?_
  refine jw_iload_n (pc := 16) (j := 2) dX8_wantPromises_16 rfl rfl ?_
  refine jw_aload_n (pc := 17) (j := 1) dX8_wantPromises_17 rfl rfl ?_
  refine jw_getI (pc := 18) dX8_wantPromises_18 sC_30 fl_X8_46 (by decide) rfl ?_
  refine jw_iand (pc := 21) dX8_wantPromises_21 ?_
  refine jw_putI (pc := 22) dX8_wantPromises_22 sC_49 fl_X8_50 fw_8_6 (by decide) rfl ?_
  replace h := h _ rfl
  generalize jrI M1 49 (upd (M1.1 49) 6 (a2 &&& (M1.1 30 4))) = M2 at h ⊢
  refine jw_aload_n (pc := 25) (j := 0) dX8_wantPromises_25 rfl rfl ?_
  refine jw_aload_n (pc := 26) (j := 1) dX8_wantPromises_26 rfl rfl ?_
  refine jw_callV (pc := 27) (m2 := mX8_findCaps) (As := [.ref (x.2.2.2 30)]) (st := []) dX8_wantPromises_27 sC_49 (by decide) rfl rfl gm_X8_findCaps ml_X8_53 rfl (Nat.le_of_ble_eq_true rfl) (JC.mono h ?_)
  clear h
  rintro M3 _ ⟨rfl, h⟩
  refine jw_st (st' := []) rfl ?_
  exact jw_vret (pc := 30) dX8_wantPromises_30 rfl ⟨rfl, h⟩
set_option maxRecDepth 20000 in
theorem b_X8_wantFromAll {x : jX} {d : Nat} {M : jM} {P : jM → Prop} {o2 : Nat} {n2 : Nat} (s2 : js jtbC o2 = (20, n2)) (z2 : n2 < 2 ^ 31)
    (h : 0 + 54 ≤ n2 ∧ 0 + 54 ≤ 54 ∧ (∀ M1, M1 = jrI M 52 (va_cpy (M.1 o2) (M.1 52) 0 0 54) → ∀ M2, M2 = jrI M1 49 (upd (M1.1 49) 6 (((1 : Int32) <<< ((M1.1 30 3) &&& 31)) - (1 : Int32))) → JC x jtbC mX8_findCaps d [.ref (x.2.2.2 49), .ref (x.2.2.2 30)] M2 (jV fun M3 => P M3))) :
    JC x jtbC mX8_wantFromAll (d + 1) [.ref (x.2.2.2 49), .ref (x.2.2.2 30), .ref (x.2.2.2 o2)] M (jV P) := by
  refine JC.of rfl (Nat.le_of_ble_eq_true rfl) ?_
  refine jw_ls (ls' := [(0, .ref (x.2.2.2 49)), (1, .ref (x.2.2.2 30)), (2, .ref (x.2.2.2 o2))]) rfl ?_
  refine jw_aload_n (pc := 0) (j := 2) dX8_wantFromAll_0 rfl rfl ?_
  refine jw_iconst (pc := 1) (v := 0) dX8_wantFromAll_1 rfl ?_
  refine jw_aload_n (pc := 2) (j := 0) dX8_wantFromAll_2 rfl rfl ?_
  refine jw_getR (pc := 3) (r := 52) dX8_wantFromAll_3 sC_49 fl_X8_18 (by decide) rfl rfl ?_
  refine jw_iconst (pc := 6) (v := 0) dX8_wantFromAll_6 rfl ?_
  refine jw_bipush (pc := 7) (v := 54) dX8_wantFromAll_7 rfl ?_
  obtain ⟨q1, q2, h⟩ := h
  refine jw_copyI (pc := 9) (a := 0) (b := 0) (k := 54) (st := []) dX8_wantFromAll_9 ac_X8_40 ac_n ac_s ac_i s2 sC_52 rfl rfl rfl q1 q2 z2 (by decide) (jcw (Nat.le_of_ble_eq_true rfl)) ?_
  replace h := h _ rfl
  generalize jrI M 52 (va_cpy (M.1 o2) (M.1 52) 0 0 54) = M1 at h ⊢
  refine jw_aload_n (pc := 12) (j := 0) dX8_wantFromAll_12 rfl rfl ?_
  refine jw_iconst (pc := 13) (v := 1) dX8_wantFromAll_13 rfl ?_
  refine jw_aload_n (pc := 14) (j := 1) dX8_wantFromAll_14 rfl rfl ?_
  refine jw_getI (pc := 15) dX8_wantFromAll_15 sC_30 fl_X8_57 (by decide) rfl ?_
  refine jw_ishl (pc := 18) dX8_wantFromAll_18 ?_
  refine jw_iconst (pc := 19) (v := 1) dX8_wantFromAll_19 rfl ?_
  refine jw_isub (pc := 20) dX8_wantFromAll_20 ?_
  refine jw_putI (pc := 21) dX8_wantFromAll_21 sC_49 fl_X8_50 fw_8_6 (by decide) rfl ?_
  replace h := h _ rfl
  generalize jrI M1 49 (upd (M1.1 49) 6 (((1 : Int32) <<< ((M1.1 30 3) &&& 31)) - (1 : Int32))) = M2 at h ⊢
  refine jw_aload_n (pc := 24) (j := 0) dX8_wantFromAll_24 rfl rfl ?_
  refine jw_aload_n (pc := 25) (j := 1) dX8_wantFromAll_25 rfl rfl ?_
  refine jw_callV (pc := 26) (m2 := mX8_findCaps) (As := [.ref (x.2.2.2 30)]) (st := []) dX8_wantFromAll_26 sC_49 (by decide) rfl rfl gm_X8_findCaps ml_X8_53 rfl (Nat.le_of_ble_eq_true rfl) (JC.mono h ?_)
  clear h
  rintro M3 _ ⟨rfl, h⟩
  refine jw_st (st' := []) rfl ?_
  exact jw_vret (pc := 29) dX8_wantFromAll_29 rfl ⟨rfl, h⟩
set_option maxRecDepth 20000 in
theorem b_X8_wantViews {x : jX} {d : Nat} {M : jM} {P : jM → Prop} {o2 : Nat} 
    (h : JC x jtbC mX5_lookFromAll d [.ref (x.2.2.2 30), .ref (x.2.2.2 o2), .ref (x.2.2.2 52)] M (jV fun M1 => ∀ M2, M2 = jrI M1 49 (upd (M1.1 49) 6 (((1 : Int32) <<< ((M1.1 30 3) &&& 31)) - (1 : Int32))) → JC x jtbC mX8_findCaps d [.ref (x.2.2.2 49), .ref (x.2.2.2 30)] M2 (jV fun M3 => P M3))) :
    JC x jtbC mX8_wantViews (d + 1) [.ref (x.2.2.2 49), .ref (x.2.2.2 30), .ref (x.2.2.2 o2)] M (jV P) := by
  refine JC.of rfl (Nat.le_of_ble_eq_true rfl) ?_
  refine jw_ls (ls' := [(0, .ref (x.2.2.2 49)), (1, .ref (x.2.2.2 30)), (2, .ref (x.2.2.2 o2))]) rfl ?_
  refine jw_aload_n (pc := 0) (j := 1) dX8_wantViews_0 rfl rfl ?_
  refine jw_aload_n (pc := 1) (j := 2) dX8_wantViews_1 rfl rfl ?_
  refine jw_aload_n (pc := 2) (j := 0) dX8_wantViews_2 rfl rfl ?_
  refine jw_getR (pc := 3) (r := 52) dX8_wantViews_3 sC_49 fl_X8_18 (by decide) rfl rfl ?_
  refine jw_callV (pc := 6) (m2 := mX5_lookFromAll) (As := [.ref (x.2.2.2 o2), .ref (x.2.2.2 52)]) (st := []) dX8_wantViews_6 sC_30 (by decide) rfl rfl gm_X5_lookFromAll ml_X8_60 rfl (Nat.le_of_ble_eq_true rfl) (JC.mono h ?_)
  clear h
  rintro M1 _ ⟨rfl, h⟩
  refine jw_st (st' := []) rfl ?_
  refine jw_aload_n (pc := 9) (j := 0) dX8_wantViews_9 rfl rfl ?_
  refine jw_iconst (pc := 10) (v := 1) dX8_wantViews_10 rfl ?_
  refine jw_aload_n (pc := 11) (j := 1) dX8_wantViews_11 rfl rfl ?_
  refine jw_getI (pc := 12) dX8_wantViews_12 sC_30 fl_X8_57 (by decide) rfl ?_
  refine jw_ishl (pc := 15) dX8_wantViews_15 ?_
  refine jw_iconst (pc := 16) (v := 1) dX8_wantViews_16 rfl ?_
  refine jw_isub (pc := 17) dX8_wantViews_17 ?_
  refine jw_putI (pc := 18) dX8_wantViews_18 sC_49 fl_X8_50 fw_8_6 (by decide) rfl ?_
  replace h := h _ rfl
  generalize jrI M1 49 (upd (M1.1 49) 6 (((1 : Int32) <<< ((M1.1 30 3) &&& 31)) - (1 : Int32))) = M2 at h ⊢
  refine jw_aload_n (pc := 21) (j := 0) dX8_wantViews_21 rfl rfl ?_
  refine jw_aload_n (pc := 22) (j := 1) dX8_wantViews_22 rfl rfl ?_
  refine jw_callV (pc := 23) (m2 := mX8_findCaps) (As := [.ref (x.2.2.2 30)]) (st := []) dX8_wantViews_23 sC_49 (by decide) rfl rfl gm_X8_findCaps ml_X8_53 rfl (Nat.le_of_ble_eq_true rfl) (JC.mono h ?_)
  clear h
  rintro M3 _ ⟨rfl, h⟩
  refine jw_st (st' := []) rfl ?_
  exact jw_vret (pc := 26) dX8_wantViews_26 rfl ⟨rfl, h⟩
set_option maxRecDepth 20000 in
theorem b_X8_findCaps {x : jX} {d : Nat} {M : jM} {P : jM → Prop}  
    (h : ∃ c1, M.1 30 2 = nI c1 ∧ 0 + c1 ≤ 25 ∧ 0 + c1 ≤ 25 ∧ (∀ M1, M1 = jrI M 50 (va_cpy (M.1 31) (M.1 50) 0 0 c1) → JW x jtbC mX8_findCaps (d + 1) (jV P) 21 [(0, .ref (x.2.2.2 49)), (1, .ref (x.2.2.2 30)), (2, .int (M.1 30 2)), (3, .int (0 : Int32))] [] M1)) :
    JC x jtbC mX8_findCaps (d + 1) [.ref (x.2.2.2 49), .ref (x.2.2.2 30)] M (jV P) := by
  refine JC.of rfl (Nat.le_of_ble_eq_true rfl) ?_
  refine jw_ls (ls' := [(0, .ref (x.2.2.2 49)), (1, .ref (x.2.2.2 30))]) rfl ?_
  refine jw_aload_n (pc := 0) (j := 1) dX8_findCaps_0 rfl rfl ?_
  refine jw_getI (pc := 1) dX8_findCaps_1 sC_30 fl_X8_64 (by decide) rfl ?_
  refine jw_istore_n (pc := 4) (ls' := [(2, .int (M.1 30 2)), (0, .ref (x.2.2.2 49)), (1, .ref (x.2.2.2 30))]) dX8_findCaps_4 rfl (by decide) rfl ?_
  refine jw_aload_n (pc := 5) (j := 2) dX8_findCaps_5 rfl rfl ?_
  refine jw_getR (pc := 6) (r := 31) dX8_findCaps_6 sC_30 fl_X8_67 (by decide) rfl rfl ?_
  refine jw_iconst (pc := 9) (v := 0) dX8_findCaps_9 rfl ?_
  refine jw_aload_n (pc := 10) (j := 1) dX8_findCaps_10 rfl rfl ?_
  refine jw_getR (pc := 11) (r := 50) dX8_findCaps_11 sC_49 fl_X8_9 (by decide) rfl rfl ?_
  refine jw_iconst (pc := 14) (v := 0) dX8_findCaps_14 rfl ?_
  refine jw_iload_n (pc := 15) (j := 0) dX8_findCaps_15 rfl rfl ?_
  obtain ⟨c1, ec1, q1, q2, h⟩ := h
  refine jw_copyI (pc := 16) (a := 0) (b := 0) (k := c1) (st := []) dX8_findCaps_16 ac_X8_40 ac_n ac_s ac_i sC_31 sC_50 rfl rfl ec1 q1 q2 (by decide) (by decide) (jcw (Nat.le_of_ble_eq_true rfl)) ?_
  replace h := h _ rfl
  generalize jrI M 50 (va_cpy (M.1 31) (M.1 50) 0 0 c1) = M1 at h ⊢
  refine jw_iconst (pc := 19) (v := 0) dX8_findCaps_19 rfl ?_
  refine jw_istore_n (pc := 20) (ls' := [(3, .int (0 : Int32)), (2, .int (M.1 30 2)), (0, .ref (x.2.2.2 49)), (1, .ref (x.2.2.2 30))]) dX8_findCaps_20 rfl (by decide) rfl ?_
  exact jw_sub [2, 3, 1, 0] rfl h
set_option maxRecDepth 20000 in
theorem b_X8_findCaps_21 {x : jX} {d : Nat} {M : jM} {P : jM → Prop} {l2 : Int32} {l3 : Int32} 
    (h : ((M.1 30 3) ≤ l3 → P M) ∧ (¬ (M.1 30 3) ≤ l3 → JC x jtbC mX8_isWatching d [.ref (x.2.2.2 49), .int l3] M (jZ fun M1 b1 => (b1 = false → JW x jtbC mX8_findCaps (d + 1) (jV P) 21 [(0, .ref (x.2.2.2 49)), (1, .ref (x.2.2.2 30)), (2, .int l2), (3, .int (l3 + 1))] [] M1) ∧ (b1 = true → JW x jtbC mX8_findCaps (d + 1) (jV P) 40 [(0, .ref (x.2.2.2 49)), (1, .ref (x.2.2.2 30)), (2, .int l2), (3, .int l3), (4, .int (0 : Int32))] [] M1)))) :
    JW x jtbC mX8_findCaps (d + 1) (jV P) 21 [(0, .ref (x.2.2.2 49)), (1, .ref (x.2.2.2 30)), (2, .int l2), (3, .int l3)] [] M := by
  refine jw_iload_n (pc := 21) (j := 3) dX8_findCaps_21 rfl rfl ?_
  refine jw_aload_n (pc := 22) (j := 1) dX8_findCaps_22 rfl rfl ?_
  refine jw_getI (pc := 23) dX8_findCaps_23 sC_30 fl_X8_57 (by decide) rfl ?_
  refine jw_icmp_ge (pc := 26) (tgt := 101) dX8_findCaps_26 (by decide) (fun c => ?_) (fun c => ?_)
  · replace h := h.1 c
    exact jw_vret (pc := 101) dX8_findCaps_101 rfl ⟨rfl, h⟩
  · replace h := h.2 c
    refine jw_aload_n (pc := 29) (j := 0) dX8_findCaps_29 rfl rfl ?_
    refine jw_iload_n (pc := 30) (j := 3) dX8_findCaps_30 rfl rfl ?_
    refine jw_callV (pc := 31) (m2 := mX8_isWatching) (As := [.int l3]) (st := []) dX8_findCaps_31 sC_49 (by decide) rfl rfl gm_X8_isWatching ml_X8_70 rfl (Nat.le_of_ble_eq_true rfl) (JC.mono h ?_)
    clear h
    rintro M1 _ ⟨b1, rfl, h⟩
    refine jw_st (st' := [.int (jb b1)]) rfl ?_
    refine jw_if_eq (pc := 34) (tgt := 95) dX8_findCaps_34 (by decide) (fun c => ?_) (fun c => ?_)
    · replace h := h.1 ((jb_0 _).mp c)
      refine jw_iinc (pc := 95) (j := 3) (u := l3 + 1) (ls' := [(3, .int (l3 + 1)), (0, .ref (x.2.2.2 49)), (1, .ref (x.2.2.2 30)), (2, .int l2)]) dX8_findCaps_95 rfl rfl (by decide) rfl ?_
      refine jw_goto (pc := 98) (tgt := 21) dX8_findCaps_98 (by decide) ?_
      exact jw_sub [1, 2, 3, 0] rfl h
    · replace h := h.2 (jb_ne c)
      refine jw_iconst (pc := 37) (v := 0) dX8_findCaps_37 rfl ?_
      refine jw_istore (pc := 38) (ls' := [(4, .int (0 : Int32)), (0, .ref (x.2.2.2 49)), (1, .ref (x.2.2.2 30)), (2, .int l2), (3, .int l3)]) dX8_findCaps_38 (by decide) rfl ?_
      exact jw_sub [1, 2, 3, 4, 0] rfl h
set_option maxRecDepth 20000 in
theorem b_X8_findCaps_40 {x : jX} {d : Nat} {M : jM} {P : jM → Prop} {l2 : Int32} {l3 : Int32} {l4 : Int32} 
    (h : (l2 ≤ l4 → JW x jtbC mX8_findCaps (d + 1) (jV P) 21 [(0, .ref (x.2.2.2 49)), (1, .ref (x.2.2.2 30)), (2, .int l2), (3, .int (l3 + 1))] [] M) ∧ (¬ l2 ≤ l4 → ∃ j1, j1 < 6 ∧ l3 = nI j1 ∧ (JC x jtbC mX5_stripAt d [.ref (x.2.2.2 30), .int (M.1 35 j1), .int l4] M (jI fun M1 r1 => ∃ j2, j2 < 25 ∧ l4 = nI j2 ∧ (∃ j3, j3 < 54 ∧ (l3 * (9 : Int32)) + r1 = nI j3 ∧ (JC x jtbC mJ9_min_7cf53 d [.int (M1.1 50 j2), .int (M1.1 52 j3)] M1 (jI fun M2 r2 => ∀ M3, M3 = jrI M2 50 (upd (M2.1 50) j2 r2) → JW x jtbC mX8_findCaps (d + 1) (jV P) 40 [(0, .ref (x.2.2.2 49)), (1, .ref (x.2.2.2 30)), (2, .int l2), (3, .int l3), (4, .int (l4 + 1))] [] M3))))))) :
    JW x jtbC mX8_findCaps (d + 1) (jV P) 40 [(0, .ref (x.2.2.2 49)), (1, .ref (x.2.2.2 30)), (2, .int l2), (3, .int l3), (4, .int l4)] [] M := by
  refine jw_iload (pc := 40) (j := 4) dX8_findCaps_40 rfl ?_
  refine jw_iload_n (pc := 42) (j := 2) dX8_findCaps_42 rfl rfl ?_
  refine jw_icmp_ge (pc := 43) (tgt := 95) dX8_findCaps_43 (by decide) (fun c => ?_) (fun c => ?_)
  · replace h := h.1 c
    refine jw_iinc (pc := 95) (j := 3) (u := l3 + 1) (ls' := [(3, .int (l3 + 1)), (0, .ref (x.2.2.2 49)), (1, .ref (x.2.2.2 30)), (2, .int l2), (4, .int l4)]) dX8_findCaps_95 rfl rfl (by decide) rfl ?_
    refine jw_goto (pc := 98) (tgt := 21) dX8_findCaps_98 (by decide) ?_
    exact jw_sub [1, 2, 3, 0] rfl h
  · replace h := h.2 c
    refine jw_aload_n (pc := 46) (j := 1) dX8_findCaps_46 rfl rfl ?_
    refine jw_aload_n (pc := 47) (j := 1) dX8_findCaps_47 rfl rfl ?_
    refine jw_getR (pc := 48) (r := 35) dX8_findCaps_48 sC_30 fl_X8_74 (by decide) rfl rfl ?_
    refine jw_iload_n (pc := 51) (j := 3) dX8_findCaps_51 rfl rfl ?_
    obtain ⟨j1, hj1, ej1, h⟩ := h
    refine jw_iald (pc := 52) (j := j1) dX8_findCaps_52 sC_35 hj1 ej1 (by decide) ?_
    refine jw_iload (pc := 53) (j := 4) dX8_findCaps_53 rfl ?_
    refine jw_callV (pc := 55) (m2 := mX5_stripAt) (As := [.int (M.1 35 j1), .int l4]) (st := []) dX8_findCaps_55 sC_30 (by decide) rfl rfl gm_X5_stripAt ml_X8_77 rfl (Nat.le_of_ble_eq_true rfl) (JC.mono h ?_)
    clear h
    rintro M1 _ ⟨r1, rfl, h⟩
    refine jw_st (st' := [.int r1]) rfl ?_
    refine jw_istore (pc := 58) (ls' := [(5, .int r1), (0, .ref (x.2.2.2 49)), (1, .ref (x.2.2.2 30)), (2, .int l2), (3, .int l3), (4, .int l4)]) dX8_findCaps_58 (by decide) rfl ?_
    refine jw_aload_n (pc := 60) (j := 1) dX8_findCaps_60 rfl rfl ?_
    refine jw_getR (pc := 61) (r := 50) dX8_findCaps_61 sC_49 fl_X8_9 (by decide) rfl rfl ?_
    refine jw_iload (pc := 64) (j := 5) dX8_findCaps_64 rfl ?_
    refine jw_aload_n (pc := 66) (j := 1) dX8_findCaps_66 rfl rfl ?_
    refine jw_getR (pc := 67) (r := 50) dX8_findCaps_67 sC_49 fl_X8_9 (by decide) rfl rfl ?_
    refine jw_iload (pc := 70) (j := 5) dX8_findCaps_70 rfl ?_
    obtain ⟨j2, hj2, ej2, h⟩ := h
    refine jw_iald (pc := 72) (j := j2) dX8_findCaps_72 sC_50 hj2 ej2 (by decide) ?_
    refine jw_aload_n (pc := 73) (j := 1) dX8_findCaps_73 rfl rfl ?_
    refine jw_getR (pc := 74) (r := 52) dX8_findCaps_74 sC_49 fl_X8_18 (by decide) rfl rfl ?_
    refine jw_iload_n (pc := 77) (j := 4) dX8_findCaps_77 rfl rfl ?_
    refine jw_bipush (pc := 78) (v := 9) dX8_findCaps_78 rfl ?_
    refine jw_imul (pc := 80) dX8_findCaps_80 ?_
    refine jw_iload (pc := 81) (j := 0) dX8_findCaps_81 rfl ?_
    refine jw_iadd (pc := 83) dX8_findCaps_83 ?_
    obtain ⟨j3, hj3, ej3, h⟩ := h
    refine jw_iald (pc := 84) (j := j3) dX8_findCaps_84 sC_52 hj3 ej3 (by decide) ?_
    refine jw_callS (pc := 85) (m2 := mJ9_min_7cf53) (As := [.int (M1.1 50 j2), .int (M1.1 52 j3)]) (st := [.int l4, .ref (x.2.2.2 50)]) dX8_findCaps_85 gm_J9_min_7cf53 ml_X8_81 rfl (Nat.le_of_ble_eq_true rfl) (JC.mono h ?_)
    clear h
    rintro M2 _ ⟨r2, rfl, h⟩
    refine jw_st (st' := [.int r2, .int l4, .ref (x.2.2.2 50)]) rfl ?_
    refine jw_iast (pc := 88) (j := j2) dX8_findCaps_88 sC_50 hj2 ej2 (by decide) ?_
    replace h := h _ rfl
    generalize jrI M2 50 (upd (M2.1 50) j2 r2) = M3 at h ⊢
    refine jw_iinc (pc := 89) (j := 5) (u := l4 + 1) (ls' := [(4, .int (l4 + 1)), (5, .int r1), (0, .ref (x.2.2.2 49)), (1, .ref (x.2.2.2 30)), (2, .int l2), (3, .int l3)]) dX8_findCaps_89 rfl rfl (by decide) rfl ?_
    refine jw_goto (pc := 92) (tgt := 40) dX8_findCaps_92 (by decide) ?_
    exact jw_sub [2, 3, 4, 5, 0] rfl h
set_option maxRecDepth 20000 in
theorem b_X8_isWatching {x : jX} {d : Nat} {M : jM} {P : jM → Bool → Prop} {a1 : Int32} 
    (h : (¬ (((M.1 49 6) >>> (a1 &&& 31)) &&& (1 : Int32)) = (1 : Int32) → P M false) ∧ ((((M.1 49 6) >>> (a1 &&& 31)) &&& (1 : Int32)) = (1 : Int32) → P M true)) :
    JC x jtbC mX8_isWatching d [.ref (x.2.2.2 49), .int a1] M (jZ P) := by
  refine JC.of rfl (Nat.le_of_ble_eq_true rfl) ?_
  refine jw_ls (ls' := [(0, .ref (x.2.2.2 49)), (1, .int a1)]) rfl ?_
  refine jw_aload_n (pc := 0) (j := 0) dX8_isWatching_0 rfl rfl ?_
  refine jw_getI (pc := 1) dX8_isWatching_1 sC_49 fl_X8_50 (by decide) rfl ?_
  refine jw_iload_n (pc := 4) (j := 1) dX8_isWatching_4 rfl rfl ?_
  refine jw_ishr (pc := 5) dX8_isWatching_5 ?_
  refine jw_iconst (pc := 6) (v := 1) dX8_isWatching_6 rfl ?_
  refine jw_iand (pc := 7) dX8_isWatching_7 ?_
  refine jw_iconst (pc := 8) (v := 1) dX8_isWatching_8 rfl ?_
  refine jw_icmp_ne (pc := 9) (tgt := 16) dX8_isWatching_9 (by decide) (fun c => ?_) (fun c => ?_)
  · replace h := h.1 c
    refine jw_iconst (pc := 16) (v := 0) dX8_isWatching_16 rfl ?_
    exact jw_zret (pc := 17) dX8_isWatching_17 rfl (Or.inl rfl) ⟨false, rfl, h⟩
  · replace h := h.2 c
    refine jw_iconst (pc := 12) (v := 1) dX8_isWatching_12 rfl ?_
    refine jw_goto (pc := 13) (tgt := 17) dX8_isWatching_13 (by decide) ?_
    exact jw_zret (pc := 17) dX8_isWatching_17 rfl (Or.inr rfl) ⟨true, rfl, h⟩
set_option maxRecDepth 20000 in
theorem b_X8_keepLow {x : jX} {d : Nat} {M : jM} {P : jM → Prop} {a2 : Int32} 
    (h : ∃ j1, j1 < 25 ∧ a2 = nI j1 ∧ (JC x jtbC mJ9_min_7cf53 d [.int (M.1 50 j1), .int (M.1 32 j1)] M (jI fun M1 r1 => ∀ M2, M2 = jrI M1 50 (upd (M1.1 50) j1 r1) → P M2))) :
    JC x jtbC mX8_keepLow (d + 1) [.ref (x.2.2.2 49), .ref (x.2.2.2 30), .int a2] M (jV P) := by
  refine JC.of rfl (Nat.le_of_ble_eq_true rfl) ?_
  refine jw_ls (ls' := [(0, .ref (x.2.2.2 49)), (1, .ref (x.2.2.2 30)), (2, .int a2)]) rfl ?_
  refine jw_aload_n (pc := 0) (j := 0) dX8_keepLow_0 rfl rfl ?_
  refine jw_getR (pc := 1) (r := 50) dX8_keepLow_1 sC_49 fl_X8_9 (by decide) rfl rfl ?_
  refine jw_iload_n (pc := 4) (j := 2) dX8_keepLow_4 rfl rfl ?_
  refine jw_aload_n (pc := 5) (j := 0) dX8_keepLow_5 rfl rfl ?_
  refine jw_getR (pc := 6) (r := 50) dX8_keepLow_6 sC_49 fl_X8_9 (by decide) rfl rfl ?_
  refine jw_iload_n (pc := 9) (j := 2) dX8_keepLow_9 rfl rfl ?_
  obtain ⟨j1, hj1, ej1, h⟩ := h
  refine jw_iald (pc := 10) (j := j1) dX8_keepLow_10 sC_50 hj1 ej1 (by decide) ?_
  refine jw_aload_n (pc := 11) (j := 1) dX8_keepLow_11 rfl rfl ?_
  refine jw_getR (pc := 12) (r := 32) dX8_keepLow_12 sC_30 fl_X8_86 (by decide) rfl rfl ?_
  refine jw_iload_n (pc := 15) (j := 2) dX8_keepLow_15 rfl rfl ?_
  refine jw_iald (pc := 16) (j := j1) dX8_keepLow_16 sC_32 hj1 ej1 (by decide) ?_
  refine jw_callS (pc := 17) (m2 := mJ9_min_7cf53) (As := [.int (M.1 50 j1), .int (M.1 32 j1)]) (st := [.int a2, .ref (x.2.2.2 50)]) dX8_keepLow_17 gm_J9_min_7cf53 ml_X8_81 rfl (Nat.le_of_ble_eq_true rfl) (JC.mono h ?_)
  clear h
  rintro M1 _ ⟨r1, rfl, h⟩
  refine jw_st (st' := [.int r1, .int a2, .ref (x.2.2.2 50)]) rfl ?_
  refine jw_iast (pc := 20) (j := j1) dX8_keepLow_20 sC_50 hj1 ej1 (by decide) ?_
  replace h := h _ rfl
  generalize jrI M1 50 (upd (M1.1 50) j1 r1) = M2 at h ⊢
  exact jw_vret (pc := 21) dX8_keepLow_21 rfl ⟨rfl, h⟩
set_option maxRecDepth 20000 in
theorem b_X8_canBeKept {x : jX} {d : Nat} {M : jM} {P : jM → Bool → Prop}  
    (h : JC x jtbC mJ7_fill_53178 d [.ref (x.2.2.2 51), .int (-1 : Int32)] M (jV fun M1 => JW x jtbC mX8_canBeKept (d + 1) (jZ P) 10 [(0, .ref (x.2.2.2 49)), (1, .ref (x.2.2.2 30)), (2, .int (0 : Int32))] [] M1)) :
    JC x jtbC mX8_canBeKept (d + 1) [.ref (x.2.2.2 49), .ref (x.2.2.2 30)] M (jZ P) := by
  refine JC.of rfl (Nat.le_of_ble_eq_true rfl) ?_
  refine jw_ls (ls' := [(0, .ref (x.2.2.2 49)), (1, .ref (x.2.2.2 30))]) rfl ?_
  refine jw_aload_n (pc := 0) (j := 0) dX8_canBeKept_0 rfl rfl ?_
  refine jw_getR (pc := 1) (r := 51) dX8_canBeKept_1 sC_49 fl_X8_15 (by decide) rfl rfl ?_
  refine jw_iconst (pc := 4) (v := (-1)) dX8_canBeKept_4 rfl ?_
  refine jw_callS (pc := 5) (m2 := mJ7_fill_53178) (As := [.ref (x.2.2.2 51), .int (-1 : Int32)]) (st := []) dX8_canBeKept_5 gm_J7_fill_53178 ml_X8_89 rfl (Nat.le_of_ble_eq_true rfl) (JC.mono h ?_)
  clear h
  rintro M1 _ ⟨rfl, h⟩
  refine jw_st (st' := []) rfl ?_
  refine jw_iconst (pc := 8) (v := 0) dX8_canBeKept_8 rfl ?_
  refine jw_istore_n (pc := 9) (ls' := [(2, .int (0 : Int32)), (0, .ref (x.2.2.2 49)), (1, .ref (x.2.2.2 30))]) dX8_canBeKept_9 rfl (by decide) rfl ?_
  exact jw_sub [1, 2, 0] rfl h
set_option maxRecDepth 20000 in
theorem b_X8_canBeKept_10 {x : jX} {d : Nat} {M : jM} {P : jM → Bool → Prop} {l2 : Int32} 
    (h : ((M.1 30 2) ≤ l2 → JW x jtbC mX8_canBeKept (d + 1) (jZ P) 50 [(0, .ref (x.2.2.2 49)), (1, .ref (x.2.2.2 30)), (2, .int (0 : Int32))] [] M) ∧ (¬ (M.1 30 2) ≤ l2 → ∃ j1, j1 < 25 ∧ l2 = nI j1 ∧ (((M.1 32 j1) ≤ (M.1 50 j1) → JW x jtbC mX8_canBeKept (d + 1) (jZ P) 10 [(0, .ref (x.2.2.2 49)), (1, .ref (x.2.2.2 30)), (2, .int (l2 + 1))] [] M) ∧ (¬ (M.1 32 j1) ≤ (M.1 50 j1) → ∀ M1, M1 = jrI M 51 (upd (M.1 51) 0 l2) → P M1 false)))) :
    JW x jtbC mX8_canBeKept (d + 1) (jZ P) 10 [(0, .ref (x.2.2.2 49)), (1, .ref (x.2.2.2 30)), (2, .int l2)] [] M := by
  refine jw_iload_n (pc := 10) (j := 2) dX8_canBeKept_10 rfl rfl ?_
  refine jw_aload_n (pc := 11) (j := 1) dX8_canBeKept_11 rfl rfl ?_
  refine jw_getI (pc := 12) dX8_canBeKept_12 sC_30 fl_X8_64 (by decide) rfl ?_
  refine jw_icmp_ge (pc := 15) (tgt := 48) dX8_canBeKept_15 (by decide) (fun c => ?_) (fun c => ?_)
  · replace h := h.1 c
    refine jw_iconst (pc := 48) (v := 0) dX8_canBeKept_48 rfl ?_
    refine jw_istore_n (pc := 49) (ls' := [(2, .int (0 : Int32)), (0, .ref (x.2.2.2 49)), (1, .ref (x.2.2.2 30))]) dX8_canBeKept_49 rfl (by decide) rfl ?_
    exact jw_sub [1, 2, 0] rfl h
  · replace h := h.2 c
    refine jw_aload_n (pc := 18) (j := 0) dX8_canBeKept_18 rfl rfl ?_
    refine jw_getR (pc := 19) (r := 50) dX8_canBeKept_19 sC_49 fl_X8_9 (by decide) rfl rfl ?_
    refine jw_iload_n (pc := 22) (j := 2) dX8_canBeKept_22 rfl rfl ?_
    obtain ⟨j1, hj1, ej1, h⟩ := h
    refine jw_iald (pc := 23) (j := j1) dX8_canBeKept_23 sC_50 hj1 ej1 (by decide) ?_
    refine jw_aload_n (pc := 24) (j := 1) dX8_canBeKept_24 rfl rfl ?_
    refine jw_getR (pc := 25) (r := 32) dX8_canBeKept_25 sC_30 fl_X8_86 (by decide) rfl rfl ?_
    refine jw_iload_n (pc := 28) (j := 2) dX8_canBeKept_28 rfl rfl ?_
    refine jw_iald (pc := 29) (j := j1) dX8_canBeKept_29 sC_32 hj1 ej1 (by decide) ?_
    refine jw_icmp_ge (pc := 30) (tgt := 42) dX8_canBeKept_30 (by decide) (fun c => ?_) (fun c => ?_)
    · replace h := h.1 c
      refine jw_iinc (pc := 42) (j := 2) (u := l2 + 1) (ls' := [(2, .int (l2 + 1)), (0, .ref (x.2.2.2 49)), (1, .ref (x.2.2.2 30))]) dX8_canBeKept_42 rfl rfl (by decide) rfl ?_
      refine jw_goto (pc := 45) (tgt := 10) dX8_canBeKept_45 (by decide) ?_
      exact jw_sub [1, 2, 0] rfl h
    · replace h := h.2 c
      refine jw_aload_n (pc := 33) (j := 0) dX8_canBeKept_33 rfl rfl ?_
      refine jw_getR (pc := 34) (r := 51) dX8_canBeKept_34 sC_49 fl_X8_15 (by decide) rfl rfl ?_
      refine jw_iconst (pc := 37) (v := 0) dX8_canBeKept_37 rfl ?_
      refine jw_iload_n (pc := 38) (j := 2) dX8_canBeKept_38 rfl rfl ?_
      refine jw_iast (pc := 39) (j := 0) dX8_canBeKept_39 sC_51 (by decide) rfl (by decide) ?_
      replace h := h _ rfl
      generalize jrI M 51 (upd (M.1 51) 0 l2) = M1 at h ⊢
      refine jw_iconst (pc := 40) (v := 0) dX8_canBeKept_40 rfl ?_
      exact jw_zret (pc := 41) dX8_canBeKept_41 rfl (Or.inl rfl) ⟨false, rfl, h⟩
set_option maxRecDepth 20000 in
theorem b_X8_canBeKept_50 {x : jX} {d : Nat} {M : jM} {P : jM → Bool → Prop} {l2 : Int32} 
    (h : ((M.1 30 3) ≤ l2 → P M true) ∧ (¬ (M.1 30 3) ≤ l2 → JC x jtbC mX8_isWatching d [.ref (x.2.2.2 49), .int l2] M (jZ fun M1 b1 => (b1 = false → JW x jtbC mX8_canBeKept (d + 1) (jZ P) 50 [(0, .ref (x.2.2.2 49)), (1, .ref (x.2.2.2 30)), (2, .int (l2 + 1))] [] M1) ∧ (b1 = true → JC x jtbC mX8_isSeenByCaps d [.ref (x.2.2.2 49), .ref (x.2.2.2 30), .int l2] M1 (jZ fun M2 b2 => (b2 = true → JW x jtbC mX8_canBeKept (d + 1) (jZ P) 50 [(0, .ref (x.2.2.2 49)), (1, .ref (x.2.2.2 30)), (2, .int (l2 + 1))] [] M2) ∧ (b2 = false → P M2 false)))))) :
    JW x jtbC mX8_canBeKept (d + 1) (jZ P) 50 [(0, .ref (x.2.2.2 49)), (1, .ref (x.2.2.2 30)), (2, .int l2)] [] M := by
  refine jw_iload_n (pc := 50) (j := 2) dX8_canBeKept_50 rfl rfl ?_
  refine jw_aload_n (pc := 51) (j := 1) dX8_canBeKept_51 rfl rfl ?_
  refine jw_getI (pc := 52) dX8_canBeKept_52 sC_30 fl_X8_57 (by decide) rfl ?_
  refine jw_icmp_ge (pc := 55) (tgt := 83) dX8_canBeKept_55 (by decide) (fun c => ?_) (fun c => ?_)
  · replace h := h.1 c
    refine jw_iconst (pc := 83) (v := 1) dX8_canBeKept_83 rfl ?_
    exact jw_zret (pc := 84) dX8_canBeKept_84 rfl (Or.inr rfl) ⟨true, rfl, h⟩
  · replace h := h.2 c
    refine jw_aload_n (pc := 58) (j := 0) dX8_canBeKept_58 rfl rfl ?_
    refine jw_iload_n (pc := 59) (j := 2) dX8_canBeKept_59 rfl rfl ?_
    refine jw_callV (pc := 60) (m2 := mX8_isWatching) (As := [.int l2]) (st := []) dX8_canBeKept_60 sC_49 (by decide) rfl rfl gm_X8_isWatching ml_X8_70 rfl (Nat.le_of_ble_eq_true rfl) (JC.mono h ?_)
    clear h
    rintro M1 _ ⟨b1, rfl, h⟩
    refine jw_st (st' := [.int (jb b1)]) rfl ?_
    refine jw_if_eq (pc := 63) (tgt := 77) dX8_canBeKept_63 (by decide) (fun c => ?_) (fun c => ?_)
    · replace h := h.1 ((jb_0 _).mp c)
      refine jw_iinc (pc := 77) (j := 2) (u := l2 + 1) (ls' := [(2, .int (l2 + 1)), (0, .ref (x.2.2.2 49)), (1, .ref (x.2.2.2 30))]) dX8_canBeKept_77 rfl rfl (by decide) rfl ?_
      refine jw_goto (pc := 80) (tgt := 50) dX8_canBeKept_80 (by decide) ?_
      exact jw_sub [1, 2, 0] rfl h
    · replace h := h.2 (jb_ne c)
      refine jw_aload_n (pc := 66) (j := 0) dX8_canBeKept_66 rfl rfl ?_
      refine jw_aload_n (pc := 67) (j := 1) dX8_canBeKept_67 rfl rfl ?_
      refine jw_iload_n (pc := 68) (j := 2) dX8_canBeKept_68 rfl rfl ?_
      refine jw_callV (pc := 69) (m2 := mX8_isSeenByCaps) (As := [.ref (x.2.2.2 30), .int l2]) (st := []) dX8_canBeKept_69 sC_49 (by decide) rfl rfl gm_X8_isSeenByCaps ml_X8_95 rfl (Nat.le_of_ble_eq_true rfl) (JC.mono h ?_)
      clear h
      rintro M2 _ ⟨b2, rfl, h⟩
      refine jw_st (st' := [.int (jb b2)]) rfl ?_
      refine jw_if_ne (pc := 72) (tgt := 77) dX8_canBeKept_72 (by decide) (fun c => ?_) (fun c => ?_)
      · replace h := h.1 (jb_ne c)
        refine jw_iinc (pc := 77) (j := 2) (u := l2 + 1) (ls' := [(2, .int (l2 + 1)), (0, .ref (x.2.2.2 49)), (1, .ref (x.2.2.2 30))]) dX8_canBeKept_77 rfl rfl (by decide) rfl ?_
        refine jw_goto (pc := 80) (tgt := 50) dX8_canBeKept_80 (by decide) ?_
        exact jw_sub [1, 2, 0] rfl h
      · replace h := h.2 ((jb_0 _).mp c)
        refine jw_iconst (pc := 75) (v := 0) dX8_canBeKept_75 rfl ?_
        exact jw_zret (pc := 76) dX8_canBeKept_76 rfl (Or.inl rfl) ⟨false, rfl, h⟩
set_option maxRecDepth 20000 in
theorem b_X8_isSeenByCaps {x : jX} {d : Nat} {M : jM} {P : jM → Bool → Prop} {a2 : Int32} 
    (h : ∃ j1, j1 < 6 ∧ a2 = nI j1 ∧ (JC x jtbC mX5_lookFrom d [.ref (x.2.2.2 30), .int (M.1 35 j1), .ref (x.2.2.2 50), .ref (x.2.2.2 53), .int (0 : Int32)] M (jV fun M1 => JW x jtbC mX8_isSeenByCaps (d + 1) (jZ P) 21 [(0, .ref (x.2.2.2 49)), (1, .ref (x.2.2.2 30)), (2, .int a2), (3, .int (0 : Int32))] [] M1))) :
    JC x jtbC mX8_isSeenByCaps (d + 1) [.ref (x.2.2.2 49), .ref (x.2.2.2 30), .int a2] M (jZ P) := by
  refine JC.of rfl (Nat.le_of_ble_eq_true rfl) ?_
  refine jw_ls (ls' := [(0, .ref (x.2.2.2 49)), (1, .ref (x.2.2.2 30)), (2, .int a2)]) rfl ?_
  refine jw_aload_n (pc := 0) (j := 1) dX8_isSeenByCaps_0 rfl rfl ?_
  refine jw_aload_n (pc := 1) (j := 1) dX8_isSeenByCaps_1 rfl rfl ?_
  refine jw_getR (pc := 2) (r := 35) dX8_isSeenByCaps_2 sC_30 fl_X8_74 (by decide) rfl rfl ?_
  refine jw_iload_n (pc := 5) (j := 2) dX8_isSeenByCaps_5 rfl rfl ?_
  obtain ⟨j1, hj1, ej1, h⟩ := h
  refine jw_iald (pc := 6) (j := j1) dX8_isSeenByCaps_6 sC_35 hj1 ej1 (by decide) ?_
  refine jw_aload_n (pc := 7) (j := 0) dX8_isSeenByCaps_7 rfl rfl ?_
  refine jw_getR (pc := 8) (r := 50) dX8_isSeenByCaps_8 sC_49 fl_X8_9 (by decide) rfl rfl ?_
  refine jw_aload_n (pc := 11) (j := 0) dX8_isSeenByCaps_11 rfl rfl ?_
  refine jw_getR (pc := 12) (r := 53) dX8_isSeenByCaps_12 sC_49 fl_X8_21 (by decide) rfl rfl ?_
  refine jw_iconst (pc := 15) (v := 0) dX8_isSeenByCaps_15 rfl ?_
  refine jw_callV (pc := 16) (m2 := mX5_lookFrom) (As := [.int (M.1 35 j1), .ref (x.2.2.2 50), .ref (x.2.2.2 53), .int (0 : Int32)]) (st := []) dX8_isSeenByCaps_16 sC_30 (by decide) rfl rfl gm_X5_lookFrom ml_X8_99 rfl (Nat.le_of_ble_eq_true rfl) (JC.mono h ?_)
  clear h
  rintro M1 _ ⟨rfl, h⟩
  refine jw_st (st' := []) rfl ?_
  refine jw_iconst (pc := 19) (v := 0) dX8_isSeenByCaps_19 rfl ?_
  refine jw_istore_n (pc := 20) (ls' := [(3, .int (0 : Int32)), (0, .ref (x.2.2.2 49)), (1, .ref (x.2.2.2 30)), (2, .int a2)]) dX8_isSeenByCaps_20 rfl (by decide) rfl ?_
  exact jw_sub [1, 2, 3, 0] rfl h
set_option maxRecDepth 20000 in
theorem b_X8_isSeenByCaps_21 {x : jX} {d : Nat} {M : jM} {P : jM → Bool → Prop} {l2 : Int32} {l3 : Int32} 
    (h : JC x jtbC mX5_stripsOf d [.ref (x.2.2.2 30), .int l2] M (jI fun M1 r1 => (r1 ≤ l3 → P M1 true) ∧ (¬ r1 ≤ l3 → ∃ j1, j1 < 9 ∧ l3 = nI j1 ∧ (∃ j2, j2 < 54 ∧ (l2 * (9 : Int32)) + l3 = nI j2 ∧ (((M1.1 53 j1) = (M1.1 52 j2) → JW x jtbC mX8_isSeenByCaps (d + 1) (jZ P) 21 [(0, .ref (x.2.2.2 49)), (1, .ref (x.2.2.2 30)), (2, .int l2), (3, .int (l3 + 1))] [] M1) ∧ (¬ (M1.1 53 j1) = (M1.1 52 j2) → ∀ M2, M2 = jrI M1 51 (upd (M1.1 51) 1 l2) → ∀ M3, M3 = jrI M2 51 (upd (M2.1 51) 2 l3) → P M3 false)))))) :
    JW x jtbC mX8_isSeenByCaps (d + 1) (jZ P) 21 [(0, .ref (x.2.2.2 49)), (1, .ref (x.2.2.2 30)), (2, .int l2), (3, .int l3)] [] M := by
  refine jw_iload_n (pc := 21) (j := 3) dX8_isSeenByCaps_21 rfl rfl ?_
  refine jw_aload_n (pc := 22) (j := 1) dX8_isSeenByCaps_22 rfl rfl ?_
  refine jw_iload_n (pc := 23) (j := 2) dX8_isSeenByCaps_23 rfl rfl ?_
  refine jw_callV (pc := 24) (m2 := mX5_stripsOf) (As := [.int l2]) (st := [.int l3]) dX8_isSeenByCaps_24 sC_30 (by decide) rfl rfl gm_X5_stripsOf ml_X8_103 rfl (Nat.le_of_ble_eq_true rfl) (JC.mono h ?_)
  clear h
  rintro M1 _ ⟨r1, rfl, h⟩
  refine jw_st (st' := [.int r1, .int l3]) rfl ?_
  refine jw_icmp_ge (pc := 27) (tgt := 72) dX8_isSeenByCaps_27 (by decide) (fun c => ?_) (fun c => ?_)
  · replace h := h.1 c
    refine jw_iconst (pc := 72) (v := 1) dX8_isSeenByCaps_72 rfl ?_
    exact jw_zret (pc := 73) dX8_isSeenByCaps_73 rfl (Or.inr rfl) ⟨true, rfl, h⟩
  · replace h := h.2 c
    refine jw_aload_n (pc := 30) (j := 0) dX8_isSeenByCaps_30 rfl rfl ?_
    refine jw_getR (pc := 31) (r := 53) dX8_isSeenByCaps_31 sC_49 fl_X8_21 (by decide) rfl rfl ?_
    refine jw_iload_n (pc := 34) (j := 3) dX8_isSeenByCaps_34 rfl rfl ?_
    obtain ⟨j1, hj1, ej1, h⟩ := h
    refine jw_iald (pc := 35) (j := j1) dX8_isSeenByCaps_35 sC_53 hj1 ej1 (by decide) ?_
    refine jw_aload_n (pc := 36) (j := 0) dX8_isSeenByCaps_36 rfl rfl ?_
    refine jw_getR (pc := 37) (r := 52) dX8_isSeenByCaps_37 sC_49 fl_X8_18 (by decide) rfl rfl ?_
    refine jw_iload_n (pc := 40) (j := 2) dX8_isSeenByCaps_40 rfl rfl ?_
    refine jw_bipush (pc := 41) (v := 9) dX8_isSeenByCaps_41 rfl ?_
    refine jw_imul (pc := 43) dX8_isSeenByCaps_43 ?_
    refine jw_iload_n (pc := 44) (j := 3) dX8_isSeenByCaps_44 rfl rfl ?_
    refine jw_iadd (pc := 45) dX8_isSeenByCaps_45 ?_
    obtain ⟨j2, hj2, ej2, h⟩ := h
    refine jw_iald (pc := 46) (j := j2) dX8_isSeenByCaps_46 sC_52 hj2 ej2 (by decide) ?_
    refine jw_icmp_eq (pc := 47) (tgt := 66) dX8_isSeenByCaps_47 (by decide) (fun c => ?_) (fun c => ?_)
    · replace h := h.1 c
      refine jw_iinc (pc := 66) (j := 3) (u := l3 + 1) (ls' := [(3, .int (l3 + 1)), (0, .ref (x.2.2.2 49)), (1, .ref (x.2.2.2 30)), (2, .int l2)]) dX8_isSeenByCaps_66 rfl rfl (by decide) rfl ?_
      refine jw_goto (pc := 69) (tgt := 21) dX8_isSeenByCaps_69 (by decide) ?_
      exact jw_sub [1, 2, 3, 0] rfl h
    · replace h := h.2 c
      refine jw_aload_n (pc := 50) (j := 0) dX8_isSeenByCaps_50 rfl rfl ?_
      refine jw_getR (pc := 51) (r := 51) dX8_isSeenByCaps_51 sC_49 fl_X8_15 (by decide) rfl rfl ?_
      refine jw_iconst (pc := 54) (v := 1) dX8_isSeenByCaps_54 rfl ?_
      refine jw_iload_n (pc := 55) (j := 2) dX8_isSeenByCaps_55 rfl rfl ?_
      refine jw_iast (pc := 56) (j := 1) dX8_isSeenByCaps_56 sC_51 (by decide) rfl (by decide) ?_
      replace h := h _ rfl
      generalize jrI M1 51 (upd (M1.1 51) 1 l2) = M2 at h ⊢
      refine jw_aload_n (pc := 57) (j := 0) dX8_isSeenByCaps_57 rfl rfl ?_
      refine jw_getR (pc := 58) (r := 51) dX8_isSeenByCaps_58 sC_49 fl_X8_15 (by decide) rfl rfl ?_
      refine jw_iconst (pc := 61) (v := 2) dX8_isSeenByCaps_61 rfl ?_
      refine jw_iload_n (pc := 62) (j := 3) dX8_isSeenByCaps_62 rfl rfl ?_
      refine jw_iast (pc := 63) (j := 2) dX8_isSeenByCaps_63 sC_51 (by decide) rfl (by decide) ?_
      replace h := h _ rfl
      generalize jrI M2 51 (upd (M2.1 51) 2 l3) = M3 at h ⊢
      refine jw_iconst (pc := 64) (v := 0) dX8_isSeenByCaps_64 rfl ?_
      exact jw_zret (pc := 65) dX8_isSeenByCaps_65 rfl (Or.inl rfl) ⟨false, rfl, h⟩
set_option maxRecDepth 20000 in
theorem b_X8_gatherNeeds {x : jX} {d : Nat} {M : jM} {P : jM → Prop}  
    (h : JC x jtbC mX1_begin d [.ref (x.2.2.2 55)] M (jV fun M1 => JW x jtbC mX8_gatherNeeds (d + 1) (jV P) 11 [(0, .ref (x.2.2.2 49)), (1, .ref (x.2.2.2 30)), (2, .int (0 : Int32)), (3, .int (0 : Int32))] [] M1)) :
    JC x jtbC mX8_gatherNeeds (d + 1) [.ref (x.2.2.2 49), .ref (x.2.2.2 30)] M (jV P) := by
  refine JC.of rfl (Nat.le_of_ble_eq_true rfl) ?_
  refine jw_ls (ls' := [(0, .ref (x.2.2.2 49)), (1, .ref (x.2.2.2 30))]) rfl ?_
  refine jw_aload_n (pc := 0) (j := 0) dX8_gatherNeeds_0 rfl rfl ?_
  refine jw_getR (pc := 1) (r := 55) dX8_gatherNeeds_1 sC_49 fl_X8_31 (by decide) rfl rfl ?_
  refine jw_callV (pc := 4) (m2 := mX1_begin) (As := []) (st := []) dX8_gatherNeeds_4 sC_55 (by decide) rfl rfl gm_X1_begin ml_X8_107 rfl (Nat.le_of_ble_eq_true rfl) (JC.mono h ?_)
  clear h
  rintro M1 _ ⟨rfl, h⟩
  refine jw_st (st' := []) rfl ?_
  refine jw_iconst (pc := 7) (v := 0) dX8_gatherNeeds_7 rfl ?_
  refine jw_istore_n (pc := 8) (ls' := [(2, .int (0 : Int32)), (0, .ref (x.2.2.2 49)), (1, .ref (x.2.2.2 30))]) dX8_gatherNeeds_8 rfl (by decide) rfl ?_
  refine jw_iconst (pc := 9) (v := 0) dX8_gatherNeeds_9 rfl ?_
  refine jw_istore_n (pc := 10) (ls' := [(3, .int (0 : Int32)), (2, .int (0 : Int32)), (0, .ref (x.2.2.2 49)), (1, .ref (x.2.2.2 30))]) dX8_gatherNeeds_10 rfl (by decide) rfl ?_
  exact jw_sub [2, 3, 1, 0] rfl h
set_option maxRecDepth 20000 in
theorem b_X8_gatherNeeds_11 {x : jX} {d : Nat} {M : jM} {P : jM → Prop} {l2 : Int32} {l3 : Int32} 
    (h : ((M.1 30 2) ≤ l3 → JW x jtbC mX8_gatherNeeds (d + 1) (jV P) 52 [(0, .ref (x.2.2.2 49)), (1, .ref (x.2.2.2 30)), (2, .int l2), (3, .int (0 : Int32))] [] M) ∧ (¬ (M.1 30 2) ≤ l3 → ∃ j1, j1 < 25 ∧ l3 = nI j1 ∧ ((¬ (M.1 50 j1) = (M.1 32 j1) → JW x jtbC mX8_gatherNeeds (d + 1) (jV P) 11 [(0, .ref (x.2.2.2 49)), (1, .ref (x.2.2.2 30)), (2, .int (l2 ||| (0 : Int32))), (3, .int (l3 + 1))] [] M) ∧ ((M.1 50 j1) = (M.1 32 j1) → JW x jtbC mX8_gatherNeeds (d + 1) (jV P) 11 [(0, .ref (x.2.2.2 49)), (1, .ref (x.2.2.2 30)), (2, .int (l2 ||| ((1 : Int32) <<< (l3 &&& 31)))), (3, .int (l3 + 1))] [] M)))) :
    JW x jtbC mX8_gatherNeeds (d + 1) (jV P) 11 [(0, .ref (x.2.2.2 49)), (1, .ref (x.2.2.2 30)), (2, .int l2), (3, .int l3)] [] M := by
  refine jw_iload_n (pc := 11) (j := 3) dX8_gatherNeeds_11 rfl rfl ?_
  refine jw_aload_n (pc := 12) (j := 1) dX8_gatherNeeds_12 rfl rfl ?_
  refine jw_getI (pc := 13) dX8_gatherNeeds_13 sC_30 fl_X8_64 (by decide) rfl ?_
  refine jw_icmp_ge (pc := 16) (tgt := 50) dX8_gatherNeeds_16 (by decide) (fun c => ?_) (fun c => ?_)
  · replace h := h.1 c
    refine jw_iconst (pc := 50) (v := 0) dX8_gatherNeeds_50 rfl ?_
    refine jw_istore_n (pc := 51) (ls' := [(3, .int (0 : Int32)), (0, .ref (x.2.2.2 49)), (1, .ref (x.2.2.2 30)), (2, .int l2)]) dX8_gatherNeeds_51 rfl (by decide) rfl ?_
    exact jw_sub [1, 2, 3, 0] rfl h
  · replace h := h.2 c
    refine jw_iload_n (pc := 19) (j := 2) dX8_gatherNeeds_19 rfl rfl ?_
    refine jw_aload_n (pc := 20) (j := 0) dX8_gatherNeeds_20 rfl rfl ?_
    refine jw_getR (pc := 21) (r := 50) dX8_gatherNeeds_21 sC_49 fl_X8_9 (by decide) rfl rfl ?_
    refine jw_iload_n (pc := 24) (j := 3) dX8_gatherNeeds_24 rfl rfl ?_
    obtain ⟨j1, hj1, ej1, h⟩ := h
    refine jw_iald (pc := 25) (j := j1) dX8_gatherNeeds_25 sC_50 hj1 ej1 (by decide) ?_
    refine jw_aload_n (pc := 26) (j := 1) dX8_gatherNeeds_26 rfl rfl ?_
    refine jw_getR (pc := 27) (r := 32) dX8_gatherNeeds_27 sC_30 fl_X8_86 (by decide) rfl rfl ?_
    refine jw_iload_n (pc := 30) (j := 3) dX8_gatherNeeds_30 rfl rfl ?_
    refine jw_iald (pc := 31) (j := j1) dX8_gatherNeeds_31 sC_32 hj1 ej1 (by decide) ?_
    refine jw_icmp_ne (pc := 32) (tgt := 41) dX8_gatherNeeds_32 (by decide) (fun c => ?_) (fun c => ?_)
    · replace h := h.1 c
      refine jw_iconst (pc := 41) (v := 0) dX8_gatherNeeds_41 rfl ?_
      refine jw_ior (pc := 42) dX8_gatherNeeds_42 ?_
      refine jw_istore_n (pc := 43) (ls' := [(2, .int (l2 ||| (0 : Int32))), (0, .ref (x.2.2.2 49)), (1, .ref (x.2.2.2 30)), (3, .int l3)]) dX8_gatherNeeds_43 rfl (by decide) rfl ?_
      refine jw_iinc (pc := 44) (j := 3) (u := l3 + 1) (ls' := [(3, .int (l3 + 1)), (2, .int (l2 ||| (0 : Int32))), (0, .ref (x.2.2.2 49)), (1, .ref (x.2.2.2 30))]) dX8_gatherNeeds_44 rfl rfl (by decide) rfl ?_
      refine jw_goto (pc := 47) (tgt := 11) dX8_gatherNeeds_47 (by decide) ?_
      exact jw_sub [2, 3, 1, 0] rfl h
    · replace h := h.2 c
      refine jw_iconst (pc := 35) (v := 1) dX8_gatherNeeds_35 rfl ?_
      refine jw_iload_n (pc := 36) (j := 3) dX8_gatherNeeds_36 rfl rfl ?_
      refine jw_ishl (pc := 37) dX8_gatherNeeds_37 ?_
      refine jw_goto (pc := 38) (tgt := 42) dX8_gatherNeeds_38 (by decide) ?_
      refine jw_ior (pc := 42) dX8_gatherNeeds_42 ?_
      refine jw_istore_n (pc := 43) (ls' := [(2, .int (l2 ||| ((1 : Int32) <<< (l3 &&& 31)))), (0, .ref (x.2.2.2 49)), (1, .ref (x.2.2.2 30)), (3, .int l3)]) dX8_gatherNeeds_43 rfl (by decide) rfl ?_
      refine jw_iinc (pc := 44) (j := 3) (u := l3 + 1) (ls' := [(3, .int (l3 + 1)), (2, .int (l2 ||| ((1 : Int32) <<< (l3 &&& 31)))), (0, .ref (x.2.2.2 49)), (1, .ref (x.2.2.2 30))]) dX8_gatherNeeds_44 rfl rfl (by decide) rfl ?_
      refine jw_goto (pc := 47) (tgt := 11) dX8_gatherNeeds_47 (by decide) ?_
      exact jw_sub [2, 3, 1, 0] rfl h
set_option maxRecDepth 20000 in
theorem b_X8_gatherNeeds_52 {x : jX} {d : Nat} {M : jM} {P : jM → Prop} {l2 : Int32} {l3 : Int32} 
    (h : ((M.1 30 3) ≤ l3 → JC x jtbC mX1_findForced d [.ref (x.2.2.2 55)] M (jV fun M1 => P M1)) ∧ (¬ (M.1 30 3) ≤ l3 → JC x jtbC mX8_isWatching d [.ref (x.2.2.2 49), .int l3] M (jZ fun M2 b1 => (b1 = false → JW x jtbC mX8_gatherNeeds (d + 1) (jV P) 52 [(0, .ref (x.2.2.2 49)), (1, .ref (x.2.2.2 30)), (2, .int l2), (3, .int (l3 + 1))] [] M2) ∧ (b1 = true → JC x jtbC mX8_gatherNeedsOf d [.ref (x.2.2.2 49), .ref (x.2.2.2 30), .int l3, .int l2] M2 (jV fun M3 => JW x jtbC mX8_gatherNeeds (d + 1) (jV P) 52 [(0, .ref (x.2.2.2 49)), (1, .ref (x.2.2.2 30)), (2, .int l2), (3, .int (l3 + 1))] [] M3))))) :
    JW x jtbC mX8_gatherNeeds (d + 1) (jV P) 52 [(0, .ref (x.2.2.2 49)), (1, .ref (x.2.2.2 30)), (2, .int l2), (3, .int l3)] [] M := by
  refine jw_iload_n (pc := 52) (j := 3) dX8_gatherNeeds_52 rfl rfl ?_
  refine jw_aload_n (pc := 53) (j := 1) dX8_gatherNeeds_53 rfl rfl ?_
  refine jw_getI (pc := 54) dX8_gatherNeeds_54 sC_30 fl_X8_57 (by decide) rfl ?_
  refine jw_icmp_ge (pc := 57) (tgt := 81) dX8_gatherNeeds_57 (by decide) (fun c => ?_) (fun c => ?_)
  · replace h := h.1 c
    refine jw_aload_n (pc := 81) (j := 0) dX8_gatherNeeds_81 rfl rfl ?_
    refine jw_getR (pc := 82) (r := 55) dX8_gatherNeeds_82 sC_49 fl_X8_31 (by decide) rfl rfl ?_
    refine jw_callV (pc := 85) (m2 := mX1_findForced) (As := []) (st := []) dX8_gatherNeeds_85 sC_55 (by decide) rfl rfl gm_X1_findForced ml_X8_114 rfl (Nat.le_of_ble_eq_true rfl) (JC.mono h ?_)
    clear h
    rintro M1 _ ⟨rfl, h⟩
    refine jw_st (st' := []) rfl ?_
    exact jw_vret (pc := 88) dX8_gatherNeeds_88 rfl ⟨rfl, h⟩
  · replace h := h.2 c
    refine jw_aload_n (pc := 60) (j := 0) dX8_gatherNeeds_60 rfl rfl ?_
    refine jw_iload_n (pc := 61) (j := 3) dX8_gatherNeeds_61 rfl rfl ?_
    refine jw_callV (pc := 62) (m2 := mX8_isWatching) (As := [.int l3]) (st := []) dX8_gatherNeeds_62 sC_49 (by decide) rfl rfl gm_X8_isWatching ml_X8_70 rfl (Nat.le_of_ble_eq_true rfl) (JC.mono h ?_)
    clear h
    rintro M2 _ ⟨b1, rfl, h⟩
    refine jw_st (st' := [.int (jb b1)]) rfl ?_
    refine jw_if_eq (pc := 65) (tgt := 75) dX8_gatherNeeds_65 (by decide) (fun c => ?_) (fun c => ?_)
    · replace h := h.1 ((jb_0 _).mp c)
      refine jw_iinc (pc := 75) (j := 3) (u := l3 + 1) (ls' := [(3, .int (l3 + 1)), (0, .ref (x.2.2.2 49)), (1, .ref (x.2.2.2 30)), (2, .int l2)]) dX8_gatherNeeds_75 rfl rfl (by decide) rfl ?_
      refine jw_goto (pc := 78) (tgt := 52) dX8_gatherNeeds_78 (by decide) ?_
      exact jw_sub [1, 2, 3, 0] rfl h
    · replace h := h.2 (jb_ne c)
      refine jw_aload_n (pc := 68) (j := 0) dX8_gatherNeeds_68 rfl rfl ?_
      refine jw_aload_n (pc := 69) (j := 1) dX8_gatherNeeds_69 rfl rfl ?_
      refine jw_iload_n (pc := 70) (j := 3) dX8_gatherNeeds_70 rfl rfl ?_
      refine jw_iload_n (pc := 71) (j := 2) dX8_gatherNeeds_71 rfl rfl ?_
      refine jw_callV (pc := 72) (m2 := mX8_gatherNeedsOf) (As := [.ref (x.2.2.2 30), .int l3, .int l2]) (st := []) dX8_gatherNeeds_72 sC_49 (by decide) rfl rfl gm_X8_gatherNeedsOf ml_X8_110 rfl (Nat.le_of_ble_eq_true rfl) (JC.mono h ?_)
      clear h
      rintro M3 _ ⟨rfl, h⟩
      refine jw_st (st' := []) rfl ?_
      refine jw_iinc (pc := 75) (j := 3) (u := l3 + 1) (ls' := [(3, .int (l3 + 1)), (0, .ref (x.2.2.2 49)), (1, .ref (x.2.2.2 30)), (2, .int l2)]) dX8_gatherNeeds_75 rfl rfl (by decide) rfl ?_
      refine jw_goto (pc := 78) (tgt := 52) dX8_gatherNeeds_78 (by decide) ?_
      exact jw_sub [1, 2, 3, 0] rfl h
set_option maxRecDepth 20000 in
theorem b_X8_gatherNeedsOf {x : jX} {d : Nat} {M : jM} {P : jM → Prop} {a2 : Int32} {a3 : Int32} 
    (h : JC x jtbC mJ7_fill_53178 d [.ref (x.2.2.2 53), .int (0 : Int32)] M (jV fun M1 => JW x jtbC mX8_gatherNeedsOf (d + 1) (jV P) 11 [(0, .ref (x.2.2.2 49)), (1, .ref (x.2.2.2 30)), (2, .int a2), (3, .int a3), (4, .int (0 : Int32))] [] M1)) :
    JC x jtbC mX8_gatherNeedsOf (d + 1) [.ref (x.2.2.2 49), .ref (x.2.2.2 30), .int a2, .int a3] M (jV P) := by
  refine JC.of rfl (Nat.le_of_ble_eq_true rfl) ?_
  refine jw_ls (ls' := [(0, .ref (x.2.2.2 49)), (1, .ref (x.2.2.2 30)), (2, .int a2), (3, .int a3)]) rfl ?_
  refine jw_aload_n (pc := 0) (j := 0) dX8_gatherNeedsOf_0 rfl rfl ?_
  refine jw_getR (pc := 1) (r := 53) dX8_gatherNeedsOf_1 sC_49 fl_X8_21 (by decide) rfl rfl ?_
  refine jw_iconst (pc := 4) (v := 0) dX8_gatherNeedsOf_4 rfl ?_
  refine jw_callS (pc := 5) (m2 := mJ7_fill_53178) (As := [.ref (x.2.2.2 53), .int (0 : Int32)]) (st := []) dX8_gatherNeedsOf_5 gm_J7_fill_53178 ml_X8_89 rfl (Nat.le_of_ble_eq_true rfl) (JC.mono h ?_)
  clear h
  rintro M1 _ ⟨rfl, h⟩
  refine jw_st (st' := []) rfl ?_
  refine jw_iconst (pc := 8) (v := 0) dX8_gatherNeedsOf_8 rfl ?_
  refine jw_istore (pc := 9) (ls' := [(4, .int (0 : Int32)), (0, .ref (x.2.2.2 49)), (1, .ref (x.2.2.2 30)), (2, .int a2), (3, .int a3)]) dX8_gatherNeedsOf_9 (by decide) rfl ?_
  exact jw_sub [1, 2, 3, 4, 0] rfl h
set_option maxRecDepth 20000 in
theorem b_X8_gatherNeedsOf_11 {x : jX} {d : Nat} {M : jM} {P : jM → Prop} {l2 : Int32} {l3 : Int32} {l4 : Int32} 
    (h : ((M.1 30 2) ≤ l4 → JW x jtbC mX8_gatherNeedsOf (d + 1) (jV P) 83 [(0, .ref (x.2.2.2 49)), (1, .ref (x.2.2.2 30)), (2, .int l2), (3, .int l3), (4, .int (0 : Int32))] [] M) ∧ (¬ (M.1 30 2) ≤ l4 → ∃ j1, j1 < 6 ∧ l2 = nI j1 ∧ (JC x jtbC mX5_stripAt d [.ref (x.2.2.2 30), .int (M.1 35 j1), .int l4] M (jI fun M1 r1 => ∃ j2, j2 < 9 ∧ r1 = nI j2 ∧ (∃ j3, j3 < 25 ∧ l4 = nI j3 ∧ (∃ j4, j4 < 54 ∧ (l2 * (9 : Int32)) + r1 = nI j4 ∧ ((¬ (M1.1 50 j3) = (M1.1 52 j4) → ∀ M2, M2 = jrI M1 53 (upd (M1.1 53) j2 ((M1.1 53 j2) ||| (0 : Int32))) → JW x jtbC mX8_gatherNeedsOf (d + 1) (jV P) 11 [(0, .ref (x.2.2.2 49)), (1, .ref (x.2.2.2 30)), (2, .int l2), (3, .int l3), (4, .int (l4 + 1))] [] M2) ∧ ((M1.1 50 j3) = (M1.1 52 j4) → ∀ M3, M3 = jrI M1 53 (upd (M1.1 53) j2 ((M1.1 53 j2) ||| ((1 : Int32) <<< (l4 &&& 31)))) → JW x jtbC mX8_gatherNeedsOf (d + 1) (jV P) 11 [(0, .ref (x.2.2.2 49)), (1, .ref (x.2.2.2 30)), (2, .int l2), (3, .int l3), (4, .int (l4 + 1))] [] M3)))))))) :
    JW x jtbC mX8_gatherNeedsOf (d + 1) (jV P) 11 [(0, .ref (x.2.2.2 49)), (1, .ref (x.2.2.2 30)), (2, .int l2), (3, .int l3), (4, .int l4)] [] M := by
  refine jw_iload (pc := 11) (j := 4) dX8_gatherNeedsOf_11 rfl ?_
  refine jw_aload_n (pc := 13) (j := 1) dX8_gatherNeedsOf_13 rfl rfl ?_
  refine jw_getI (pc := 14) dX8_gatherNeedsOf_14 sC_30 fl_X8_64 (by decide) rfl ?_
  refine jw_icmp_ge (pc := 17) (tgt := 80) dX8_gatherNeedsOf_17 (by decide) (fun c => ?_) (fun c => ?_)
  · replace h := h.1 c
    refine jw_iconst (pc := 80) (v := 0) dX8_gatherNeedsOf_80 rfl ?_
    refine jw_istore (pc := 81) (ls' := [(4, .int (0 : Int32)), (0, .ref (x.2.2.2 49)), (1, .ref (x.2.2.2 30)), (2, .int l2), (3, .int l3)]) dX8_gatherNeedsOf_81 (by decide) rfl ?_
    exact jw_sub [1, 2, 3, 4, 0] rfl h
  · replace h := h.2 c
    refine jw_aload_n (pc := 20) (j := 1) dX8_gatherNeedsOf_20 rfl rfl ?_
    refine jw_aload_n (pc := 21) (j := 1) dX8_gatherNeedsOf_21 rfl rfl ?_
    refine jw_getR (pc := 22) (r := 35) dX8_gatherNeedsOf_22 sC_30 fl_X8_74 (by decide) rfl rfl ?_
    refine jw_iload_n (pc := 25) (j := 2) dX8_gatherNeedsOf_25 rfl rfl ?_
    obtain ⟨j1, hj1, ej1, h⟩ := h
    refine jw_iald (pc := 26) (j := j1) dX8_gatherNeedsOf_26 sC_35 hj1 ej1 (by decide) ?_
    refine jw_iload (pc := 27) (j := 4) dX8_gatherNeedsOf_27 rfl ?_
    refine jw_callV (pc := 29) (m2 := mX5_stripAt) (As := [.int (M.1 35 j1), .int l4]) (st := []) dX8_gatherNeedsOf_29 sC_30 (by decide) rfl rfl gm_X5_stripAt ml_X8_77 rfl (Nat.le_of_ble_eq_true rfl) (JC.mono h ?_)
    clear h
    rintro M1 _ ⟨r1, rfl, h⟩
    refine jw_st (st' := [.int r1]) rfl ?_
    refine jw_istore (pc := 32) (ls' := [(5, .int r1), (0, .ref (x.2.2.2 49)), (1, .ref (x.2.2.2 30)), (2, .int l2), (3, .int l3), (4, .int l4)]) dX8_gatherNeedsOf_32 (by decide) rfl ?_
    refine jw_aload_n (pc := 34) (j := 1) dX8_gatherNeedsOf_34 rfl rfl ?_
    refine jw_getR (pc := 35) (r := 53) dX8_gatherNeedsOf_35 sC_49 fl_X8_21 (by decide) rfl rfl ?_
    refine jw_iload (pc := 38) (j := 0) dX8_gatherNeedsOf_38 rfl ?_
    refine jw_dup2 (pc := 40) dX8_gatherNeedsOf_40 rfl rfl ?_
    obtain ⟨j2, hj2, ej2, h⟩ := h
    refine jw_iald (pc := 41) (j := j2) dX8_gatherNeedsOf_41 sC_53 hj2 ej2 (by decide) ?_
    refine jw_aload_n (pc := 42) (j := 1) dX8_gatherNeedsOf_42 rfl rfl ?_
    refine jw_getR (pc := 43) (r := 50) dX8_gatherNeedsOf_43 sC_49 fl_X8_9 (by decide) rfl rfl ?_
    refine jw_iload (pc := 46) (j := 5) dX8_gatherNeedsOf_46 rfl ?_
    obtain ⟨j3, hj3, ej3, h⟩ := h
    refine jw_iald (pc := 48) (j := j3) dX8_gatherNeedsOf_48 sC_50 hj3 ej3 (by decide) ?_
    refine jw_aload_n (pc := 49) (j := 1) dX8_gatherNeedsOf_49 rfl rfl ?_
    refine jw_getR (pc := 50) (r := 52) dX8_gatherNeedsOf_50 sC_49 fl_X8_18 (by decide) rfl rfl ?_
    refine jw_iload_n (pc := 53) (j := 3) dX8_gatherNeedsOf_53 rfl rfl ?_
    refine jw_bipush (pc := 54) (v := 9) dX8_gatherNeedsOf_54 rfl ?_
    refine jw_imul (pc := 56) dX8_gatherNeedsOf_56 ?_
    refine jw_iload (pc := 57) (j := 0) dX8_gatherNeedsOf_57 rfl ?_
    refine jw_iadd (pc := 59) dX8_gatherNeedsOf_59 ?_
    obtain ⟨j4, hj4, ej4, h⟩ := h
    refine jw_iald (pc := 60) (j := j4) dX8_gatherNeedsOf_60 sC_52 hj4 ej4 (by decide) ?_
    refine jw_icmp_ne (pc := 61) (tgt := 71) dX8_gatherNeedsOf_61 (by decide) (fun c => ?_) (fun c => ?_)
    · replace h := h.1 c
      refine jw_iconst (pc := 71) (v := 0) dX8_gatherNeedsOf_71 rfl ?_
      refine jw_ior (pc := 72) dX8_gatherNeedsOf_72 ?_
      refine jw_iast (pc := 73) (j := j2) dX8_gatherNeedsOf_73 sC_53 hj2 ej2 (by decide) ?_
      replace h := h _ rfl
      generalize jrI M1 53 (upd (M1.1 53) j2 ((M1.1 53 j2) ||| (0 : Int32))) = M2 at h ⊢
      refine jw_iinc (pc := 74) (j := 5) (u := l4 + 1) (ls' := [(4, .int (l4 + 1)), (5, .int r1), (0, .ref (x.2.2.2 49)), (1, .ref (x.2.2.2 30)), (2, .int l2), (3, .int l3)]) dX8_gatherNeedsOf_74 rfl rfl (by decide) rfl ?_
      refine jw_goto (pc := 77) (tgt := 11) dX8_gatherNeedsOf_77 (by decide) ?_
      exact jw_sub [2, 3, 4, 5, 0] rfl h
    · replace h := h.2 c
      refine jw_iconst (pc := 64) (v := 1) dX8_gatherNeedsOf_64 rfl ?_
      refine jw_iload (pc := 65) (j := 5) dX8_gatherNeedsOf_65 rfl ?_
      refine jw_ishl (pc := 67) dX8_gatherNeedsOf_67 ?_
      refine jw_goto (pc := 68) (tgt := 72) dX8_gatherNeedsOf_68 (by decide) ?_
      refine jw_ior (pc := 72) dX8_gatherNeedsOf_72 ?_
      refine jw_iast (pc := 73) (j := j2) dX8_gatherNeedsOf_73 sC_53 hj2 ej2 (by decide) ?_
      replace h := h _ rfl
      generalize jrI M1 53 (upd (M1.1 53) j2 ((M1.1 53 j2) ||| ((1 : Int32) <<< (l4 &&& 31)))) = M3 at h ⊢
      refine jw_iinc (pc := 74) (j := 5) (u := l4 + 1) (ls' := [(4, .int (l4 + 1)), (5, .int r1), (0, .ref (x.2.2.2 49)), (1, .ref (x.2.2.2 30)), (2, .int l2), (3, .int l3)]) dX8_gatherNeedsOf_74 rfl rfl (by decide) rfl ?_
      refine jw_goto (pc := 77) (tgt := 11) dX8_gatherNeedsOf_77 (by decide) ?_
      exact jw_sub [2, 3, 4, 5, 0] rfl h
set_option maxRecDepth 20000 in
theorem b_X8_gatherNeedsOf_83 {x : jX} {d : Nat} {M : jM} {P : jM → Prop} {l2 : Int32} {l3 : Int32} {l4 : Int32} 
    (h : JC x jtbC mX5_stripsOf d [.ref (x.2.2.2 30), .int l2] M (jI fun M1 r1 => (r1 ≤ l4 → P M1) ∧ (¬ r1 ≤ l4 → ∃ j1, j1 < 9 ∧ l4 = nI j1 ∧ ((¬ ((M1.1 53 j1) &&& l3) = 0 → JW x jtbC mX8_gatherNeedsOf (d + 1) (jV P) 83 [(0, .ref (x.2.2.2 49)), (1, .ref (x.2.2.2 30)), (2, .int l2), (3, .int l3), (4, .int (l4 + 1))] [] M1) ∧ (((M1.1 53 j1) &&& l3) = 0 → ∃ j2, j2 < 6 ∧ l2 = nI j2 ∧ (JC x jtbC mX1_require d [.ref (x.2.2.2 55), .int (M1.1 53 j1), .int ((M1.1 35 j2) - (M1.1 35 j2) / (4 : Int32) * (4 : Int32))] M1 (jV fun M2 => JW x jtbC mX8_gatherNeedsOf (d + 1) (jV P) 83 [(0, .ref (x.2.2.2 49)), (1, .ref (x.2.2.2 30)), (2, .int l2), (3, .int l3), (4, .int (l4 + 1))] [] M2))))))) :
    JW x jtbC mX8_gatherNeedsOf (d + 1) (jV P) 83 [(0, .ref (x.2.2.2 49)), (1, .ref (x.2.2.2 30)), (2, .int l2), (3, .int l3), (4, .int l4)] [] M := by
  refine jw_iload (pc := 83) (j := 4) dX8_gatherNeedsOf_83 rfl ?_
  refine jw_aload_n (pc := 85) (j := 1) dX8_gatherNeedsOf_85 rfl rfl ?_
  refine jw_iload_n (pc := 86) (j := 2) dX8_gatherNeedsOf_86 rfl rfl ?_
  refine jw_callV (pc := 87) (m2 := mX5_stripsOf) (As := [.int l2]) (st := [.int l4]) dX8_gatherNeedsOf_87 sC_30 (by decide) rfl rfl gm_X5_stripsOf ml_X8_103 rfl (Nat.le_of_ble_eq_true rfl) (JC.mono h ?_)
  clear h
  rintro M1 _ ⟨r1, rfl, h⟩
  refine jw_st (st' := [.int r1, .int l4]) rfl ?_
  refine jw_icmp_ge (pc := 90) (tgt := 133) dX8_gatherNeedsOf_90 (by decide) (fun c => ?_) (fun c => ?_)
  · replace h := h.1 c
    exact jw_vret (pc := 133) dX8_gatherNeedsOf_133 rfl ⟨rfl, h⟩
  · replace h := h.2 c
    refine jw_aload_n (pc := 93) (j := 0) dX8_gatherNeedsOf_93 rfl rfl ?_
    refine jw_getR (pc := 94) (r := 53) dX8_gatherNeedsOf_94 sC_49 fl_X8_21 (by decide) rfl rfl ?_
    refine jw_iload (pc := 97) (j := 4) dX8_gatherNeedsOf_97 rfl ?_
    obtain ⟨j1, hj1, ej1, h⟩ := h
    refine jw_iald (pc := 99) (j := j1) dX8_gatherNeedsOf_99 sC_53 hj1 ej1 (by decide) ?_
    refine jw_iload_n (pc := 100) (j := 3) dX8_gatherNeedsOf_100 rfl rfl ?_
    refine jw_iand (pc := 101) dX8_gatherNeedsOf_101 ?_
    refine jw_if_ne (pc := 102) (tgt := 127) dX8_gatherNeedsOf_102 (by decide) (fun c => ?_) (fun c => ?_)
    · replace h := h.1 c
      refine jw_iinc (pc := 127) (j := 4) (u := l4 + 1) (ls' := [(4, .int (l4 + 1)), (0, .ref (x.2.2.2 49)), (1, .ref (x.2.2.2 30)), (2, .int l2), (3, .int l3)]) dX8_gatherNeedsOf_127 rfl rfl (by decide) rfl ?_
      refine jw_goto (pc := 130) (tgt := 83) dX8_gatherNeedsOf_130 (by decide) ?_
      exact jw_sub [1, 2, 3, 4, 0] rfl h
    · replace h := h.2 c
      refine jw_aload_n (pc := 105) (j := 0) dX8_gatherNeedsOf_105 rfl rfl ?_
      refine jw_getR (pc := 106) (r := 55) dX8_gatherNeedsOf_106 sC_49 fl_X8_31 (by decide) rfl rfl ?_
      refine jw_aload_n (pc := 109) (j := 0) dX8_gatherNeedsOf_109 rfl rfl ?_
      refine jw_getR (pc := 110) (r := 53) dX8_gatherNeedsOf_110 sC_49 fl_X8_21 (by decide) rfl rfl ?_
      refine jw_iload (pc := 113) (j := 4) dX8_gatherNeedsOf_113 rfl ?_
      refine jw_iald (pc := 115) (j := j1) dX8_gatherNeedsOf_115 sC_53 hj1 ej1 (by decide) ?_
      refine jw_aload_n (pc := 116) (j := 1) dX8_gatherNeedsOf_116 rfl rfl ?_
      refine jw_getR (pc := 117) (r := 35) dX8_gatherNeedsOf_117 sC_30 fl_X8_74 (by decide) rfl rfl ?_
      refine jw_iload_n (pc := 120) (j := 2) dX8_gatherNeedsOf_120 rfl rfl ?_
      obtain ⟨j2, hj2, ej2, h⟩ := h
      refine jw_iald (pc := 121) (j := j2) dX8_gatherNeedsOf_121 sC_35 hj2 ej2 (by decide) ?_
      refine jw_iconst (pc := 122) (v := 4) dX8_gatherNeedsOf_122 rfl ?_
      refine jw_irem (pc := 123) dX8_gatherNeedsOf_123 (by decide) ?_
      refine jw_callV (pc := 124) (m2 := mX1_require) (As := [.int (M1.1 53 j1), .int ((M1.1 35 j2) - (M1.1 35 j2) / (4 : Int32) * (4 : Int32))]) (st := []) dX8_gatherNeedsOf_124 sC_55 (by decide) rfl rfl gm_X1_require ml_X8_117 rfl (Nat.le_of_ble_eq_true rfl) (JC.mono h ?_)
      clear h
      rintro M2 _ ⟨rfl, h⟩
      refine jw_st (st' := []) rfl ?_
      refine jw_iinc (pc := 127) (j := 4) (u := l4 + 1) (ls' := [(4, .int (l4 + 1)), (0, .ref (x.2.2.2 49)), (1, .ref (x.2.2.2 30)), (2, .int l2), (3, .int l3)]) dX8_gatherNeedsOf_127 rfl rfl (by decide) rfl ?_
      refine jw_goto (pc := 130) (tgt := 83) dX8_gatherNeedsOf_130 (by decide) ?_
      exact jw_sub [1, 2, 3, 4, 0] rfl h
set_option maxRecDepth 20000 in
theorem b_X8_cheapestTown {x : jX} {d : Nat} {M : jM} {P : jM → Prop} {o2 : Nat} 
    (h : JC x jtbC mX8_gatherNeeds d [.ref (x.2.2.2 49), .ref (x.2.2.2 30)] M (jV fun M1 => JW x jtbC mX8_cheapestTown (d + 1) (jV P) 7 [(0, .ref (x.2.2.2 49)), (1, .ref (x.2.2.2 30)), (2, .ref (x.2.2.2 o2)), (3, .int (0 : Int32))] [] M1)) :
    JC x jtbC mX8_cheapestTown (d + 1) [.ref (x.2.2.2 49), .ref (x.2.2.2 30), .ref (x.2.2.2 o2)] M (jV P) := by
  refine JC.of rfl (Nat.le_of_ble_eq_true rfl) ?_
  refine jw_ls (ls' := [(0, .ref (x.2.2.2 49)), (1, .ref (x.2.2.2 30)), (2, .ref (x.2.2.2 o2))]) rfl ?_
  refine jw_aload_n (pc := 0) (j := 0) dX8_cheapestTown_0 rfl rfl ?_
  refine jw_aload_n (pc := 1) (j := 1) dX8_cheapestTown_1 rfl rfl ?_
  refine jw_callV (pc := 2) (m2 := mX8_gatherNeeds) (As := [.ref (x.2.2.2 30)]) (st := []) dX8_cheapestTown_2 sC_49 (by decide) rfl rfl gm_X8_gatherNeeds ml_X8_121 rfl (Nat.le_of_ble_eq_true rfl) (JC.mono h ?_)
  clear h
  rintro M1 _ ⟨rfl, h⟩
  refine jw_st (st' := []) rfl ?_
  refine jw_iconst (pc := 5) (v := 0) dX8_cheapestTown_5 rfl ?_
  refine jw_istore_n (pc := 6) (ls' := [(3, .int (0 : Int32)), (0, .ref (x.2.2.2 49)), (1, .ref (x.2.2.2 30)), (2, .ref (x.2.2.2 o2))]) dX8_cheapestTown_6 rfl (by decide) rfl ?_
  exact jw_sub [1, 2, 3, 0] rfl h
set_option maxRecDepth 20000 in
theorem b_X8_cheapestTown_7 {x : jX} {d : Nat} {M : jM} {P : jM → Prop} {o2 : Nat} {l3 : Int32} 
    (h : ((M.1 30 2) ≤ l3 → JC x jtbC mX1_leastWeight d [.ref (x.2.2.2 55), .ref (x.2.2.2 54)] M (jL fun M1 r1 => JW x jtbC mX8_cheapestTown (d + 1) (jV P) 78 [(0, .ref (x.2.2.2 49)), (1, .ref (x.2.2.2 30)), (2, .ref (x.2.2.2 o2)), (3, .long r1), (5, .int (0 : Int32))] [] M1)) ∧ (¬ (M.1 30 2) ≤ l3 → ∃ j1, j1 < 25 ∧ l3 = nI j1 ∧ (∀ M2, M2 = jrL M 54 (vp_updL (M.2 54) j1 ((((((M.1 50 j1) - (M.1 32 j1)).toInt64) * ((M.1 33 j1).toInt64)) <<< ((25 : Int32).toInt64 &&& 63)) ||| ((1 : Int64) <<< (((24 : Int32) - l3).toInt64 &&& 63)))) → JW x jtbC mX8_cheapestTown (d + 1) (jV P) 7 [(0, .ref (x.2.2.2 49)), (1, .ref (x.2.2.2 30)), (2, .ref (x.2.2.2 o2)), (3, .int (l3 + 1))] [] M2))) :
    JW x jtbC mX8_cheapestTown (d + 1) (jV P) 7 [(0, .ref (x.2.2.2 49)), (1, .ref (x.2.2.2 30)), (2, .ref (x.2.2.2 o2)), (3, .int l3)] [] M := by
  refine jw_iload_n (pc := 7) (j := 3) dX8_cheapestTown_7 rfl rfl ?_
  refine jw_aload_n (pc := 8) (j := 1) dX8_cheapestTown_8 rfl rfl ?_
  refine jw_getI (pc := 9) dX8_cheapestTown_9 sC_30 fl_X8_64 (by decide) rfl ?_
  refine jw_icmp_ge (pc := 12) (tgt := 63) dX8_cheapestTown_12 (by decide) (fun c => ?_) (fun c => ?_)
  · replace h := h.1 c
    refine jw_aload_n (pc := 63) (j := 0) dX8_cheapestTown_63 rfl rfl ?_
    refine jw_getR (pc := 64) (r := 55) dX8_cheapestTown_64 sC_49 fl_X8_31 (by decide) rfl rfl ?_
    refine jw_aload_n (pc := 67) (j := 0) dX8_cheapestTown_67 rfl rfl ?_
    refine jw_getR (pc := 68) (r := 54) dX8_cheapestTown_68 sC_49 fl_X8_24 (by decide) rfl rfl ?_
    refine jw_callV (pc := 71) (m2 := mX1_leastWeight) (As := [.ref (x.2.2.2 54)]) (st := []) dX8_cheapestTown_71 sC_55 (by decide) rfl rfl gm_X1_leastWeight ml_X8_127 rfl (Nat.le_of_ble_eq_true rfl) (JC.mono h ?_)
    clear h
    rintro M1 _ ⟨r1, rfl, h⟩
    refine jw_st (st' := [.long r1]) rfl ?_
    refine jw_lstore_n (pc := 74) (ls' := [(3, .long r1), (0, .ref (x.2.2.2 49)), (1, .ref (x.2.2.2 30)), (2, .ref (x.2.2.2 o2))]) dX8_cheapestTown_74 rfl (by decide) rfl ?_
    refine jw_iconst (pc := 75) (v := 0) dX8_cheapestTown_75 rfl ?_
    refine jw_istore (pc := 76) (ls' := [(5, .int (0 : Int32)), (3, .long r1), (0, .ref (x.2.2.2 49)), (1, .ref (x.2.2.2 30)), (2, .ref (x.2.2.2 o2))]) dX8_cheapestTown_76 (by decide) rfl ?_
    exact jw_sub [2, 3, 4, 1, 0] rfl h
  · replace h := h.2 c
    refine jw_aload_n (pc := 15) (j := 0) dX8_cheapestTown_15 rfl rfl ?_
    refine jw_getR (pc := 16) (r := 50) dX8_cheapestTown_16 sC_49 fl_X8_9 (by decide) rfl rfl ?_
    refine jw_iload_n (pc := 19) (j := 3) dX8_cheapestTown_19 rfl rfl ?_
    obtain ⟨j1, hj1, ej1, h⟩ := h
    refine jw_iald (pc := 20) (j := j1) dX8_cheapestTown_20 sC_50 hj1 ej1 (by decide) ?_
    refine jw_aload_n (pc := 21) (j := 1) dX8_cheapestTown_21 rfl rfl ?_
    refine jw_getR (pc := 22) (r := 32) dX8_cheapestTown_22 sC_30 fl_X8_86 (by decide) rfl rfl ?_
    refine jw_iload_n (pc := 25) (j := 3) dX8_cheapestTown_25 rfl rfl ?_
    refine jw_iald (pc := 26) (j := j1) dX8_cheapestTown_26 sC_32 hj1 ej1 (by decide) ?_
    refine jw_isub (pc := 27) dX8_cheapestTown_27 ?_
    refine jw_i2l (pc := 28) dX8_cheapestTown_28 ?_
    refine jw_aload_n (pc := 29) (j := 1) dX8_cheapestTown_29 rfl rfl ?_
    refine jw_getR (pc := 30) (r := 33) dX8_cheapestTown_30 sC_30 fl_X8_124 (by decide) rfl rfl ?_
    refine jw_iload_n (pc := 33) (j := 3) dX8_cheapestTown_33 rfl rfl ?_
    refine jw_iald (pc := 34) (j := j1) dX8_cheapestTown_34 sC_33 hj1 ej1 (by decide) ?_
    refine jw_i2l (pc := 35) dX8_cheapestTown_35 ?_
    refine jw_lmul (pc := 36) dX8_cheapestTown_36 ?_
    refine jw_lstore (pc := 37) (ls' := [(4, .long ((((M.1 50 j1) - (M.1 32 j1)).toInt64) * ((M.1 33 j1).toInt64))), (0, .ref (x.2.2.2 49)), (1, .ref (x.2.2.2 30)), (2, .ref (x.2.2.2 o2)), (3, .int l3)]) dX8_cheapestTown_37 (by decide) rfl ?_
    refine jw_aload_n (pc := 39) (j := 1) dX8_cheapestTown_39 rfl rfl ?_
    refine jw_getR (pc := 40) (r := 54) dX8_cheapestTown_40 sC_49 fl_X8_24 (by decide) rfl rfl ?_
    refine jw_iload_n (pc := 43) (j := 4) dX8_cheapestTown_43 rfl rfl ?_
    refine jw_lload (pc := 44) (j := 0) dX8_cheapestTown_44 rfl ?_
    refine jw_bipush (pc := 46) (v := 25) dX8_cheapestTown_46 rfl ?_
    refine jw_lshl (pc := 48) dX8_cheapestTown_48 ?_
    refine jw_lconst (pc := 49) (v := 1) dX8_cheapestTown_49 rfl ?_
    refine jw_bipush (pc := 50) (v := 24) dX8_cheapestTown_50 rfl ?_
    refine jw_iload_n (pc := 52) (j := 4) dX8_cheapestTown_52 rfl rfl ?_
    refine jw_isub (pc := 53) dX8_cheapestTown_53 ?_
    refine jw_lshl (pc := 54) dX8_cheapestTown_54 ?_
    refine jw_lor (pc := 55) dX8_cheapestTown_55 ?_
    refine jw_last (pc := 56) (j := j1) dX8_cheapestTown_56 sC_54 hj1 ej1 (by decide) ?_
    replace h := h _ rfl
    generalize jrL M 54 (vp_updL (M.2 54) j1 ((((((M.1 50 j1) - (M.1 32 j1)).toInt64) * ((M.1 33 j1).toInt64)) <<< ((25 : Int32).toInt64 &&& 63)) ||| ((1 : Int64) <<< (((24 : Int32) - l3).toInt64 &&& 63)))) = M2 at h ⊢
    refine jw_iinc (pc := 57) (j := 4) (u := l3 + 1) (ls' := [(3, .int (l3 + 1)), (4, .long ((((M.1 50 j1) - (M.1 32 j1)).toInt64) * ((M.1 33 j1).toInt64))), (0, .ref (x.2.2.2 49)), (1, .ref (x.2.2.2 30)), (2, .ref (x.2.2.2 o2))]) dX8_cheapestTown_57 rfl rfl (by decide) rfl ?_
    refine jw_goto (pc := 60) (tgt := 7) dX8_cheapestTown_60 (by decide) ?_
    exact jw_sub [2, 3, 4, 0] rfl h
set_option maxRecDepth 20000 in
theorem b_X8_cheapestTown_78 {x : jX} {d : Nat} {M : jM} {P : jM → Prop} {o2 : Nat} {l3 : Int64} {l5 : Int32} 
    (h : ((M.1 30 2) ≤ l5 → P M) ∧ (¬ (M.1 30 2) ≤ l5 → (¬ ((l3 >>> (((24 : Int32) - l5).toInt64 &&& 63)) &&& (1 : Int64)) = (1 : Int64) → JW x jtbC mX8_cheapestTown (d + 1) (jV P) 106 [(0, .ref (x.2.2.2 49)), (1, .ref (x.2.2.2 30)), (2, .ref (x.2.2.2 o2)), (3, .long l3), (5, .int l5)] [.int (0 : Int32)] M) ∧ (((l3 >>> (((24 : Int32) - l5).toInt64 &&& 63)) &&& (1 : Int64)) = (1 : Int64) → JW x jtbC mX8_cheapestTown (d + 1) (jV P) 106 [(0, .ref (x.2.2.2 49)), (1, .ref (x.2.2.2 30)), (2, .ref (x.2.2.2 o2)), (3, .long l3), (5, .int l5)] [.int (1 : Int32)] M))) :
    JW x jtbC mX8_cheapestTown (d + 1) (jV P) 78 [(0, .ref (x.2.2.2 49)), (1, .ref (x.2.2.2 30)), (2, .ref (x.2.2.2 o2)), (3, .long l3), (5, .int l5)] [] M := by
  refine jw_iload (pc := 78) (j := 4) dX8_cheapestTown_78 rfl ?_
  refine jw_aload_n (pc := 80) (j := 1) dX8_cheapestTown_80 rfl rfl ?_
  refine jw_getI (pc := 81) dX8_cheapestTown_81 sC_30 fl_X8_64 (by decide) rfl ?_
  refine jw_icmp_ge (pc := 84) (tgt := 140) dX8_cheapestTown_84 (by decide) (fun c => ?_) (fun c => ?_)
  · replace h := h.1 c
    exact jw_vret (pc := 140) dX8_cheapestTown_140 rfl ⟨rfl, h⟩
  · replace h := h.2 c
    refine jw_lload_n (pc := 87) (j := 3) dX8_cheapestTown_87 rfl rfl ?_
    refine jw_bipush (pc := 88) (v := 24) dX8_cheapestTown_88 rfl ?_
    refine jw_iload (pc := 90) (j := 4) dX8_cheapestTown_90 rfl ?_
    refine jw_isub (pc := 92) dX8_cheapestTown_92 ?_
    refine jw_lshr (pc := 93) dX8_cheapestTown_93 ?_
    refine jw_lconst (pc := 94) (v := 1) dX8_cheapestTown_94 rfl ?_
    refine jw_land (pc := 95) dX8_cheapestTown_95 ?_
    refine jw_lconst (pc := 96) (v := 1) dX8_cheapestTown_96 rfl ?_
    refine jw_lcmp (pc := 97) dX8_cheapestTown_97 ?_
    refine jw_if_ne (pc := 98) (tgt := 105) dX8_cheapestTown_98 (by decide) (fun c => ?_) (fun c => ?_)
    · replace h := h.1 (fun z => c ((jcmp_eq _ _).mpr z))
      refine jw_iconst (pc := 105) (v := 0) dX8_cheapestTown_105 rfl ?_
      exact jw_sub [0, 1, 2, 3, 4] rfl h
    · replace h := h.2 ((jcmp_eq _ _).mp c)
      refine jw_iconst (pc := 101) (v := 1) dX8_cheapestTown_101 rfl ?_
      refine jw_goto (pc := 102) (tgt := 106) dX8_cheapestTown_102 (by decide) ?_
      exact jw_sub [0, 1, 2, 3, 4] rfl h
set_option maxRecDepth 20000 in
theorem b_X8_cheapestTown_106 {x : jX} {d : Nat} {M : jM} {P : jM → Prop} {o2 : Nat} {n2 : Nat} {l3 : Int64} {l5 : Int32} {k0 : Int32} (s2 : js jtbC o2 = (20, n2)) (z2 : n2 < 2 ^ 31)
    (h : (k0 = 0 → ∃ j1, j1 < 25 ∧ l5 = nI j1 ∧ (j1 < n2 ∧ (∀ M1, M1 = jrI M o2 (upd (M.1 o2) j1 (M.1 32 j1)) → JW x jtbC mX8_cheapestTown (d + 1) (jV P) 78 [(0, .ref (x.2.2.2 49)), (1, .ref (x.2.2.2 30)), (2, .ref (x.2.2.2 o2)), (3, .long l3), (5, .int (l5 + 1))] [] M1))) ∧ (¬ k0 = 0 → ∃ j2, j2 < 25 ∧ l5 = nI j2 ∧ (j2 < n2 ∧ (∀ M2, M2 = jrI M o2 (upd (M.1 o2) j2 (M.1 50 j2)) → JW x jtbC mX8_cheapestTown (d + 1) (jV P) 78 [(0, .ref (x.2.2.2 49)), (1, .ref (x.2.2.2 30)), (2, .ref (x.2.2.2 o2)), (3, .long l3), (5, .int (l5 + 1))] [] M2)))) :
    JW x jtbC mX8_cheapestTown (d + 1) (jV P) 106 [(0, .ref (x.2.2.2 49)), (1, .ref (x.2.2.2 30)), (2, .ref (x.2.2.2 o2)), (3, .long l3), (5, .int l5)] [.int k0] M := by
  refine jw_istore (pc := 106) (ls' := [(6, .int k0), (0, .ref (x.2.2.2 49)), (1, .ref (x.2.2.2 30)), (2, .ref (x.2.2.2 o2)), (3, .long l3), (5, .int l5)]) dX8_cheapestTown_106 (by decide) rfl ?_
  refine jw_aload_n (pc := 108) (j := 3) dX8_cheapestTown_108 rfl rfl ?_
  refine jw_iload (pc := 109) (j := 5) dX8_cheapestTown_109 rfl ?_
  refine jw_iload (pc := 111) (j := 0) dX8_cheapestTown_111 rfl ?_
  refine jw_if_eq (pc := 113) (tgt := 126) dX8_cheapestTown_113 (by decide) (fun c => ?_) (fun c => ?_)
  · replace h := h.1 c
    refine jw_aload_n (pc := 126) (j := 2) dX8_cheapestTown_126 rfl rfl ?_
    refine jw_getR (pc := 127) (r := 32) dX8_cheapestTown_127 sC_30 fl_X8_86 (by decide) rfl rfl ?_
    refine jw_iload (pc := 130) (j := 5) dX8_cheapestTown_130 rfl ?_
    obtain ⟨j1, hj1, ej1, h⟩ := h
    refine jw_iald (pc := 132) (j := j1) dX8_cheapestTown_132 sC_32 hj1 ej1 (by decide) ?_
    obtain ⟨hj1, h⟩ := h
    refine jw_iast (pc := 133) (j := j1) dX8_cheapestTown_133 s2 hj1 ej1 z2 ?_
    replace h := h _ rfl
    generalize jrI M o2 (upd (M.1 o2) j1 (M.1 32 j1)) = M1 at h ⊢
    refine jw_iinc (pc := 134) (j := 5) (u := l5 + 1) (ls' := [(5, .int (l5 + 1)), (6, .int k0), (0, .ref (x.2.2.2 49)), (1, .ref (x.2.2.2 30)), (2, .ref (x.2.2.2 o2)), (3, .long l3)]) dX8_cheapestTown_134 rfl rfl (by decide) rfl ?_
    refine jw_goto (pc := 137) (tgt := 78) dX8_cheapestTown_137 (by decide) ?_
    exact jw_sub [2, 3, 4, 5, 0] rfl h
  · replace h := h.2 c
    refine jw_aload_n (pc := 116) (j := 1) dX8_cheapestTown_116 rfl rfl ?_
    refine jw_getR (pc := 117) (r := 50) dX8_cheapestTown_117 sC_49 fl_X8_9 (by decide) rfl rfl ?_
    refine jw_iload (pc := 120) (j := 5) dX8_cheapestTown_120 rfl ?_
    obtain ⟨j2, hj2, ej2, h⟩ := h
    refine jw_iald (pc := 122) (j := j2) dX8_cheapestTown_122 sC_50 hj2 ej2 (by decide) ?_
    refine jw_goto (pc := 123) (tgt := 133) dX8_cheapestTown_123 (by decide) ?_
    obtain ⟨hj2, h⟩ := h
    refine jw_iast (pc := 133) (j := j2) dX8_cheapestTown_133 s2 hj2 ej2 z2 ?_
    replace h := h _ rfl
    generalize jrI M o2 (upd (M.1 o2) j2 (M.1 50 j2)) = M2 at h ⊢
    refine jw_iinc (pc := 134) (j := 5) (u := l5 + 1) (ls' := [(5, .int (l5 + 1)), (6, .int k0), (0, .ref (x.2.2.2 49)), (1, .ref (x.2.2.2 30)), (2, .ref (x.2.2.2 o2)), (3, .long l3)]) dX8_cheapestTown_134 rfl rfl (by decide) rfl ?_
    refine jw_goto (pc := 137) (tgt := 78) dX8_cheapestTown_137 (by decide) ?_
    exact jw_sub [2, 3, 4, 5, 0] rfl h
set_option maxRecDepth 20000 in
theorem b_X8_fewestRaised {x : jX} {d : Nat} {M : jM} {P : jM → Int32 → Prop}  
    (h : JC x jtbC mX8_gatherNeeds d [.ref (x.2.2.2 49), .ref (x.2.2.2 30)] M (jV fun M1 => JC x jtbC mJ7_fill_d0a16 d [.ref (x.2.2.2 54), .long (1 : Int64)] M1 (jV fun M2 => JC x jtbC mX1_leastWeight d [.ref (x.2.2.2 55), .ref (x.2.2.2 54)] M2 (jL fun M3 r1 => P M3 r1.toInt32)))) :
    JC x jtbC mX8_fewestRaised (d + 1) [.ref (x.2.2.2 49), .ref (x.2.2.2 30)] M (jI P) := by
  refine JC.of rfl (Nat.le_of_ble_eq_true rfl) ?_
  refine jw_ls (ls' := [(0, .ref (x.2.2.2 49)), (1, .ref (x.2.2.2 30))]) rfl ?_
  refine jw_aload_n (pc := 0) (j := 0) dX8_fewestRaised_0 rfl rfl ?_
  refine jw_aload_n (pc := 1) (j := 1) dX8_fewestRaised_1 rfl rfl ?_
  refine jw_callV (pc := 2) (m2 := mX8_gatherNeeds) (As := [.ref (x.2.2.2 30)]) (st := []) dX8_fewestRaised_2 sC_49 (by decide) rfl rfl gm_X8_gatherNeeds ml_X8_121 rfl (Nat.le_of_ble_eq_true rfl) (JC.mono h ?_)
  clear h
  rintro M1 _ ⟨rfl, h⟩
  refine jw_st (st' := []) rfl ?_
  refine jw_aload_n (pc := 5) (j := 0) dX8_fewestRaised_5 rfl rfl ?_
  refine jw_getR (pc := 6) (r := 54) dX8_fewestRaised_6 sC_49 fl_X8_24 (by decide) rfl rfl ?_
  refine jw_lconst (pc := 9) (v := 1) dX8_fewestRaised_9 rfl ?_
  refine jw_callS (pc := 10) (m2 := mJ7_fill_d0a16) (As := [.ref (x.2.2.2 54), .long (1 : Int64)]) (st := []) dX8_fewestRaised_10 gm_J7_fill_d0a16 ml_X8_131 rfl (Nat.le_of_ble_eq_true rfl) (JC.mono h ?_)
  clear h
  rintro M2 _ ⟨rfl, h⟩
  refine jw_st (st' := []) rfl ?_
  refine jw_aload_n (pc := 13) (j := 0) dX8_fewestRaised_13 rfl rfl ?_
  refine jw_getR (pc := 14) (r := 55) dX8_fewestRaised_14 sC_49 fl_X8_31 (by decide) rfl rfl ?_
  refine jw_aload_n (pc := 17) (j := 0) dX8_fewestRaised_17 rfl rfl ?_
  refine jw_getR (pc := 18) (r := 54) dX8_fewestRaised_18 sC_49 fl_X8_24 (by decide) rfl rfl ?_
  refine jw_callV (pc := 21) (m2 := mX1_leastWeight) (As := [.ref (x.2.2.2 54)]) (st := []) dX8_fewestRaised_21 sC_55 (by decide) rfl rfl gm_X1_leastWeight ml_X8_127 rfl (Nat.le_of_ble_eq_true rfl) (JC.mono h ?_)
  clear h
  rintro M3 _ ⟨r1, rfl, h⟩
  refine jw_st (st' := [.long r1]) rfl ?_
  refine jw_l2i (pc := 24) dX8_fewestRaised_24 ?_
  exact jw_iret (pc := 25) dX8_fewestRaised_25 rfl ⟨_, rfl, h⟩
set_option maxRecDepth 20000 in
theorem b_X8_mustRaise {x : jX} {d : Nat} {M : jM} {P : jM → Bool → Prop} {a2 : Int32} 
    (h : JC x jtbC mX8_gatherNeeds d [.ref (x.2.2.2 49), .ref (x.2.2.2 30)] M (jV fun M1 => (¬ (((M1.1 55 0) >>> (a2 &&& 31)) &&& (1 : Int32)) = (1 : Int32) → P M1 false) ∧ ((((M1.1 55 0) >>> (a2 &&& 31)) &&& (1 : Int32)) = (1 : Int32) → P M1 true))) :
    JC x jtbC mX8_mustRaise (d + 1) [.ref (x.2.2.2 49), .ref (x.2.2.2 30), .int a2] M (jZ P) := by
  refine JC.of rfl (Nat.le_of_ble_eq_true rfl) ?_
  refine jw_ls (ls' := [(0, .ref (x.2.2.2 49)), (1, .ref (x.2.2.2 30)), (2, .int a2)]) rfl ?_
  refine jw_aload_n (pc := 0) (j := 0) dX8_mustRaise_0 rfl rfl ?_
  refine jw_aload_n (pc := 1) (j := 1) dX8_mustRaise_1 rfl rfl ?_
  refine jw_callV (pc := 2) (m2 := mX8_gatherNeeds) (As := [.ref (x.2.2.2 30)]) (st := []) dX8_mustRaise_2 sC_49 (by decide) rfl rfl gm_X8_gatherNeeds ml_X8_121 rfl (Nat.le_of_ble_eq_true rfl) (JC.mono h ?_)
  clear h
  rintro M1 _ ⟨rfl, h⟩
  refine jw_st (st' := []) rfl ?_
  refine jw_aload_n (pc := 5) (j := 0) dX8_mustRaise_5 rfl rfl ?_
  refine jw_getR (pc := 6) (r := 55) dX8_mustRaise_6 sC_49 fl_X8_31 (by decide) rfl rfl ?_
  refine jw_getI (pc := 9) dX8_mustRaise_9 sC_55 fl_X8_134 (by decide) rfl ?_
  refine jw_iload_n (pc := 12) (j := 2) dX8_mustRaise_12 rfl rfl ?_
  refine jw_ishr (pc := 13) dX8_mustRaise_13 ?_
  refine jw_iconst (pc := 14) (v := 1) dX8_mustRaise_14 rfl ?_
  refine jw_iand (pc := 15) dX8_mustRaise_15 ?_
  refine jw_iconst (pc := 16) (v := 1) dX8_mustRaise_16 rfl ?_
  refine jw_icmp_ne (pc := 17) (tgt := 24) dX8_mustRaise_17 (by decide) (fun c => ?_) (fun c => ?_)
  · replace h := h.1 c
    refine jw_iconst (pc := 24) (v := 0) dX8_mustRaise_24 rfl ?_
    exact jw_zret (pc := 25) dX8_mustRaise_25 rfl (Or.inl rfl) ⟨false, rfl, h⟩
  · replace h := h.2 c
    refine jw_iconst (pc := 20) (v := 1) dX8_mustRaise_20 rfl ?_
    refine jw_goto (pc := 21) (tgt := 25) dX8_mustRaise_21 (by decide) ?_
    exact jw_zret (pc := 25) dX8_mustRaise_25 rfl (Or.inr rfl) ⟨true, rfl, h⟩
set_option maxRecDepth 20000 in
theorem b_X8_countTowns {x : jX} {d : Nat} {M : jM} {P : jM → Int32 → Prop}  
    (h : JC x jtbC mX8_gatherNeeds d [.ref (x.2.2.2 49), .ref (x.2.2.2 30)] M (jV fun M1 => JW x jtbC mX8_countTowns (d + 1) (jI P) 7 [(0, .ref (x.2.2.2 49)), (1, .ref (x.2.2.2 30)), (2, .int (0 : Int32))] [] M1)) :
    JC x jtbC mX8_countTowns (d + 1) [.ref (x.2.2.2 49), .ref (x.2.2.2 30)] M (jI P) := by
  refine JC.of rfl (Nat.le_of_ble_eq_true rfl) ?_
  refine jw_ls (ls' := [(0, .ref (x.2.2.2 49)), (1, .ref (x.2.2.2 30))]) rfl ?_
  refine jw_aload_n (pc := 0) (j := 0) dX8_countTowns_0 rfl rfl ?_
  refine jw_aload_n (pc := 1) (j := 1) dX8_countTowns_1 rfl rfl ?_
  refine jw_callV (pc := 2) (m2 := mX8_gatherNeeds) (As := [.ref (x.2.2.2 30)]) (st := []) dX8_countTowns_2 sC_49 (by decide) rfl rfl gm_X8_gatherNeeds ml_X8_121 rfl (Nat.le_of_ble_eq_true rfl) (JC.mono h ?_)
  clear h
  rintro M1 _ ⟨rfl, h⟩
  refine jw_st (st' := []) rfl ?_
  refine jw_iconst (pc := 5) (v := 0) dX8_countTowns_5 rfl ?_
  refine jw_istore_n (pc := 6) (ls' := [(2, .int (0 : Int32)), (0, .ref (x.2.2.2 49)), (1, .ref (x.2.2.2 30))]) dX8_countTowns_6 rfl (by decide) rfl ?_
  exact jw_sub [1, 2, 0] rfl h
set_option maxRecDepth 20000 in
theorem b_X8_countTowns_7 {x : jX} {d : Nat} {M : jM} {P : jM → Int32 → Prop} {l2 : Int32} 
    (h : ((M.1 30 2) ≤ l2 → JC x jtbC mX1_countWays d [.ref (x.2.2.2 55), .int (M.1 30 2), .ref (x.2.2.2 54)] M (jL fun M1 r1 => P M1 r1.toInt32)) ∧ (¬ (M.1 30 2) ≤ l2 → ∃ j1, j1 < 25 ∧ l2 = nI j1 ∧ (∀ M2, M2 = jrL M 54 (vp_updL (M.2 54) j1 (((M.1 50 j1) - (M.1 32 j1)).toInt64)) → JW x jtbC mX8_countTowns (d + 1) (jI P) 7 [(0, .ref (x.2.2.2 49)), (1, .ref (x.2.2.2 30)), (2, .int (l2 + 1))] [] M2))) :
    JW x jtbC mX8_countTowns (d + 1) (jI P) 7 [(0, .ref (x.2.2.2 49)), (1, .ref (x.2.2.2 30)), (2, .int l2)] [] M := by
  refine jw_iload_n (pc := 7) (j := 2) dX8_countTowns_7 rfl rfl ?_
  refine jw_aload_n (pc := 8) (j := 1) dX8_countTowns_8 rfl rfl ?_
  refine jw_getI (pc := 9) dX8_countTowns_9 sC_30 fl_X8_64 (by decide) rfl ?_
  refine jw_icmp_ge (pc := 12) (tgt := 41) dX8_countTowns_12 (by decide) (fun c => ?_) (fun c => ?_)
  · replace h := h.1 c
    refine jw_aload_n (pc := 41) (j := 0) dX8_countTowns_41 rfl rfl ?_
    refine jw_getR (pc := 42) (r := 55) dX8_countTowns_42 sC_49 fl_X8_31 (by decide) rfl rfl ?_
    refine jw_aload_n (pc := 45) (j := 1) dX8_countTowns_45 rfl rfl ?_
    refine jw_getI (pc := 46) dX8_countTowns_46 sC_30 fl_X8_64 (by decide) rfl ?_
    refine jw_aload_n (pc := 49) (j := 0) dX8_countTowns_49 rfl rfl ?_
    refine jw_getR (pc := 50) (r := 54) dX8_countTowns_50 sC_49 fl_X8_24 (by decide) rfl rfl ?_
    refine jw_callV (pc := 53) (m2 := mX1_countWays) (As := [.int (M.1 30 2), .ref (x.2.2.2 54)]) (st := []) dX8_countTowns_53 sC_55 (by decide) rfl rfl gm_X1_countWays ml_X8_137 rfl (Nat.le_of_ble_eq_true rfl) (JC.mono h ?_)
    clear h
    rintro M1 _ ⟨r1, rfl, h⟩
    refine jw_st (st' := [.long r1]) rfl ?_
    refine jw_l2i (pc := 56) dX8_countTowns_56 ?_
    exact jw_iret (pc := 57) dX8_countTowns_57 rfl ⟨_, rfl, h⟩
  · replace h := h.2 c
    refine jw_aload_n (pc := 15) (j := 0) dX8_countTowns_15 rfl rfl ?_
    refine jw_getR (pc := 16) (r := 54) dX8_countTowns_16 sC_49 fl_X8_24 (by decide) rfl rfl ?_
    refine jw_iload_n (pc := 19) (j := 2) dX8_countTowns_19 rfl rfl ?_
    refine jw_aload_n (pc := 20) (j := 0) dX8_countTowns_20 rfl rfl ?_
    refine jw_getR (pc := 21) (r := 50) dX8_countTowns_21 sC_49 fl_X8_9 (by decide) rfl rfl ?_
    refine jw_iload_n (pc := 24) (j := 2) dX8_countTowns_24 rfl rfl ?_
    obtain ⟨j1, hj1, ej1, h⟩ := h
    refine jw_iald (pc := 25) (j := j1) dX8_countTowns_25 sC_50 hj1 ej1 (by decide) ?_
    refine jw_aload_n (pc := 26) (j := 1) dX8_countTowns_26 rfl rfl ?_
    refine jw_getR (pc := 27) (r := 32) dX8_countTowns_27 sC_30 fl_X8_86 (by decide) rfl rfl ?_
    refine jw_iload_n (pc := 30) (j := 2) dX8_countTowns_30 rfl rfl ?_
    refine jw_iald (pc := 31) (j := j1) dX8_countTowns_31 sC_32 hj1 ej1 (by decide) ?_
    refine jw_isub (pc := 32) dX8_countTowns_32 ?_
    refine jw_i2l (pc := 33) dX8_countTowns_33 ?_
    refine jw_last (pc := 34) (j := j1) dX8_countTowns_34 sC_54 hj1 ej1 (by decide) ?_
    replace h := h _ rfl
    generalize jrL M 54 (vp_updL (M.2 54) j1 (((M.1 50 j1) - (M.1 32 j1)).toInt64)) = M2 at h ⊢
    refine jw_iinc (pc := 35) (j := 2) (u := l2 + 1) (ls' := [(2, .int (l2 + 1)), (0, .ref (x.2.2.2 49)), (1, .ref (x.2.2.2 30))]) dX8_countTowns_35 rfl rfl (by decide) rfl ?_
    refine jw_goto (pc := 38) (tgt := 7) dX8_countTowns_38 (by decide) ?_
    exact jw_sub [1, 2, 0] rfl h
