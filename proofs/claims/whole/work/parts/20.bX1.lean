set_option maxRecDepth 20000 in
theorem b_X1_begin {x : jX} {d : Nat} {M : jM} {P : jM → Prop}  
    (h : ∀ M1, M1 = jrI M 55 (upd (M.1 55) 3 (0 : Int32)) → ∀ M2, M2 = jrI M1 55 (upd (M1.1 55) 0 (0 : Int32)) → P M2) :
    JC x jtbC mX1_begin d [.ref (x.2.2.2 55)] M (jV P) := by
  refine JC.of rfl (Nat.le_of_ble_eq_true rfl) ?_
  refine jw_ls (ls' := [(0, .ref (x.2.2.2 55))]) rfl ?_
  refine jw_aload_n (pc := 0) (j := 0) dX1_begin_0 rfl rfl ?_
  refine jw_iconst (pc := 1) (v := 0) dX1_begin_1 rfl ?_
  refine jw_putI (pc := 2) dX1_begin_2 sC_55 fl_X1_31 fw_1_3 (by decide) rfl ?_
  replace h := h _ rfl
  generalize jrI M 55 (upd (M.1 55) 3 (0 : Int32)) = M1 at h ⊢
  refine jw_aload_n (pc := 5) (j := 0) dX1_begin_5 rfl rfl ?_
  refine jw_iconst (pc := 6) (v := 0) dX1_begin_6 rfl ?_
  refine jw_putI (pc := 7) dX1_begin_7 sC_55 fl_X1_35 fw_1_0 (by decide) rfl ?_
  replace h := h _ rfl
  generalize jrI M1 55 (upd (M1.1 55) 0 (0 : Int32)) = M2 at h ⊢
  exact jw_vret (pc := 10) dX1_begin_10 rfl ⟨rfl, h⟩
set_option maxRecDepth 20000 in
theorem b_X1_require {x : jX} {d : Nat} {M : jM} {P : jM → Prop} {a1 : Int32} {a2 : Int32} 
    (h : JW x jtbC mX1_require (d + 1) (jV P) 2 [(0, .ref (x.2.2.2 55)), (1, .int a1), (2, .int a2), (3, .int (0 : Int32))] [] M) :
    JC x jtbC mX1_require (d + 1) [.ref (x.2.2.2 55), .int a1, .int a2] M (jV P) := by
  refine JC.of rfl (Nat.le_of_ble_eq_true rfl) ?_
  refine jw_ls (ls' := [(0, .ref (x.2.2.2 55)), (1, .int a1), (2, .int a2)]) rfl ?_
  refine jw_iconst (pc := 0) (v := 0) dX1_require_0 rfl ?_
  refine jw_istore_n (pc := 1) (ls' := [(3, .int (0 : Int32)), (0, .ref (x.2.2.2 55)), (1, .int a1), (2, .int a2)]) dX1_require_1 rfl (by decide) rfl ?_
  exact jw_sub [1, 2, 3, 0] rfl h
set_option maxRecDepth 20000 in
theorem b_X1_require_2 {x : jX} {d : Nat} {M : jM} {P : jM → Prop} {l1 : Int32} {l2 : Int32} {l3 : Int32} 
    (h : ((M.1 55 3) ≤ l3 → JW x jtbC mX1_require (d + 1) (jV P) 39 [(0, .ref (x.2.2.2 55)), (1, .int l1), (2, .int l2), (3, .int (0 : Int32)), (4, .int (0 : Int32))] [] M) ∧ (¬ (M.1 55 3) ≤ l3 → ∃ j1, j1 < 54 ∧ l3 = nI j1 ∧ ((¬ ((M.1 56 j1) &&& l1) = (M.1 56 j1) → JW x jtbC mX1_require (d + 1) (jV P) 2 [(0, .ref (x.2.2.2 55)), (1, .int l1), (2, .int l2), (3, .int (l3 + 1))] [] M) ∧ (((M.1 56 j1) &&& l1) = (M.1 56 j1) → P M)))) :
    JW x jtbC mX1_require (d + 1) (jV P) 2 [(0, .ref (x.2.2.2 55)), (1, .int l1), (2, .int l2), (3, .int l3)] [] M := by
  refine jw_iload_n (pc := 2) (j := 3) dX1_require_2 rfl rfl ?_
  refine jw_aload_n (pc := 3) (j := 0) dX1_require_3 rfl rfl ?_
  refine jw_getI (pc := 4) dX1_require_4 sC_55 fl_X1_31 (by decide) rfl ?_
  refine jw_icmp_ge (pc := 7) (tgt := 34) dX1_require_7 (by decide) (fun c => ?_) (fun c => ?_)
  · replace h := h.1 c
    refine jw_iconst (pc := 34) (v := 0) dX1_require_34 rfl ?_
    refine jw_istore_n (pc := 35) (ls' := [(3, .int (0 : Int32)), (0, .ref (x.2.2.2 55)), (1, .int l1), (2, .int l2)]) dX1_require_35 rfl (by decide) rfl ?_
    refine jw_iconst (pc := 36) (v := 0) dX1_require_36 rfl ?_
    refine jw_istore (pc := 37) (ls' := [(4, .int (0 : Int32)), (3, .int (0 : Int32)), (0, .ref (x.2.2.2 55)), (1, .int l1), (2, .int l2)]) dX1_require_37 (by decide) rfl ?_
    exact jw_sub [2, 3, 4, 1, 0] rfl h
  · replace h := h.2 c
    refine jw_aload_n (pc := 10) (j := 0) dX1_require_10 rfl rfl ?_
    refine jw_getR (pc := 11) (r := 56) dX1_require_11 sC_55 fl_X1_9 (by decide) rfl rfl ?_
    refine jw_iload_n (pc := 14) (j := 3) dX1_require_14 rfl rfl ?_
    obtain ⟨j1, hj1, ej1, h⟩ := h
    refine jw_iald (pc := 15) (j := j1) dX1_require_15 sC_56 hj1 ej1 (by decide) ?_
    refine jw_iload_n (pc := 16) (j := 1) dX1_require_16 rfl rfl ?_
    refine jw_iand (pc := 17) dX1_require_17 ?_
    refine jw_aload_n (pc := 18) (j := 0) dX1_require_18 rfl rfl ?_
    refine jw_getR (pc := 19) (r := 56) dX1_require_19 sC_55 fl_X1_9 (by decide) rfl rfl ?_
    refine jw_iload_n (pc := 22) (j := 3) dX1_require_22 rfl rfl ?_
    refine jw_iald (pc := 23) (j := j1) dX1_require_23 sC_56 hj1 ej1 (by decide) ?_
    refine jw_icmp_ne (pc := 24) (tgt := 28) dX1_require_24 (by decide) (fun c => ?_) (fun c => ?_)
    · replace h := h.1 c
      refine jw_iinc (pc := 28) (j := 3) (u := l3 + 1) (ls' := [(3, .int (l3 + 1)), (0, .ref (x.2.2.2 55)), (1, .int l1), (2, .int l2)]) dX1_require_28 rfl rfl (by decide) rfl ?_
      refine jw_goto (pc := 31) (tgt := 2) dX1_require_31 (by decide) ?_
      exact jw_sub [1, 2, 3, 0] rfl h
    · replace h := h.2 c
      exact jw_vret (pc := 27) dX1_require_27 rfl ⟨rfl, h⟩
set_option maxRecDepth 20000 in
theorem b_X1_require_39 {x : jX} {d : Nat} {M : jM} {P : jM → Prop} {l1 : Int32} {l2 : Int32} {l3 : Int32} {l4 : Int32} 
    (h : ((M.1 55 3) ≤ l4 → ∀ M1, M1 = jrI M 55 (upd (M.1 55) 3 l3) → ((54 : Int32) ≤ (M1.1 55 3) → P M1) ∧ (¬ (54 : Int32) ≤ (M1.1 55 3) → ∃ j1, j1 < 54 ∧ M1.1 55 3 = nI j1 ∧ (∀ M2, M2 = jrI M1 56 (upd (M1.1 56) j1 l1) → ∃ j2, j2 < 54 ∧ M2.1 55 3 = nI j2 ∧ (∀ M3, M3 = jrI M2 57 (upd (M2.1 57) j2 l2) → ∀ M4, M4 = jrI M3 55 (upd (M3.1 55) 3 ((M3.1 55 3) + (1 : Int32))) → P M4)))) ∧ (¬ (M.1 55 3) ≤ l4 → ∃ j3, j3 < 54 ∧ l4 = nI j3 ∧ ((((M.1 56 j3) &&& l1) = l1 → JW x jtbC mX1_require (d + 1) (jV P) 39 [(0, .ref (x.2.2.2 55)), (1, .int l1), (2, .int l2), (3, .int l3), (4, .int (l4 + 1))] [] M) ∧ (¬ ((M.1 56 j3) &&& l1) = l1 → JC x jtbC mX1_move d [.ref (x.2.2.2 55), .int l4, .int l3] M (jV fun M5 => JW x jtbC mX1_require (d + 1) (jV P) 39 [(0, .ref (x.2.2.2 55)), (1, .int l1), (2, .int l2), (3, .int (l3 + 1)), (4, .int (l4 + 1))] [] M5))))) :
    JW x jtbC mX1_require (d + 1) (jV P) 39 [(0, .ref (x.2.2.2 55)), (1, .int l1), (2, .int l2), (3, .int l3), (4, .int l4)] [] M := by
  refine jw_iload (pc := 39) (j := 4) dX1_require_39 rfl ?_
  refine jw_aload_n (pc := 41) (j := 0) dX1_require_41 rfl rfl ?_
  refine jw_getI (pc := 42) dX1_require_42 sC_55 fl_X1_31 (by decide) rfl ?_
  refine jw_icmp_ge (pc := 45) (tgt := 77) dX1_require_45 (by decide) (fun c => ?_) (fun c => ?_)
  · replace h := h.1 c
    refine jw_aload_n (pc := 77) (j := 0) dX1_require_77 rfl rfl ?_
    refine jw_iload_n (pc := 78) (j := 3) dX1_require_78 rfl rfl ?_
    refine jw_putI (pc := 79) dX1_require_79 sC_55 fl_X1_31 fw_1_3 (by decide) rfl ?_
    replace h := h _ rfl
    generalize jrI M 55 (upd (M.1 55) 3 l3) = M1 at h ⊢
    refine jw_aload_n (pc := 82) (j := 0) dX1_require_82 rfl rfl ?_
    refine jw_getI (pc := 83) dX1_require_83 sC_55 fl_X1_31 (by decide) rfl ?_
    refine jw_bipush (pc := 86) (v := 54) dX1_require_86 rfl ?_
    refine jw_icmp_ge (pc := 88) (tgt := 121) dX1_require_88 (by decide) (fun c => ?_) (fun c => ?_)
    · replace h := h.1 c
      exact jw_vret (pc := 121) dX1_require_121 rfl ⟨rfl, h⟩
    · replace h := h.2 c
      refine jw_aload_n (pc := 91) (j := 0) dX1_require_91 rfl rfl ?_
      refine jw_getR (pc := 92) (r := 56) dX1_require_92 sC_55 fl_X1_9 (by decide) rfl rfl ?_
      refine jw_aload_n (pc := 95) (j := 0) dX1_require_95 rfl rfl ?_
      refine jw_getI (pc := 96) dX1_require_96 sC_55 fl_X1_31 (by decide) rfl ?_
      refine jw_iload_n (pc := 99) (j := 1) dX1_require_99 rfl rfl ?_
      obtain ⟨j1, hj1, ej1, h⟩ := h
      refine jw_iast (pc := 100) (j := j1) dX1_require_100 sC_56 hj1 ej1 (by decide) ?_
      replace h := h _ rfl
      generalize jrI M1 56 (upd (M1.1 56) j1 l1) = M2 at h ⊢
      refine jw_aload_n (pc := 101) (j := 0) dX1_require_101 rfl rfl ?_
      refine jw_getR (pc := 102) (r := 57) dX1_require_102 sC_55 fl_X1_15 (by decide) rfl rfl ?_
      refine jw_aload_n (pc := 105) (j := 0) dX1_require_105 rfl rfl ?_
      refine jw_getI (pc := 106) dX1_require_106 sC_55 fl_X1_31 (by decide) rfl ?_
      refine jw_iload_n (pc := 109) (j := 2) dX1_require_109 rfl rfl ?_
      obtain ⟨j2, hj2, ej2, h⟩ := h
      refine jw_iast (pc := 110) (j := j2) dX1_require_110 sC_57 hj2 ej2 (by decide) ?_
      replace h := h _ rfl
      generalize jrI M2 57 (upd (M2.1 57) j2 l2) = M3 at h ⊢
      refine jw_aload_n (pc := 111) (j := 0) dX1_require_111 rfl rfl ?_
      refine jw_dup (pc := 112) dX1_require_112 rfl ?_
      refine jw_getI (pc := 113) dX1_require_113 sC_55 fl_X1_31 (by decide) rfl ?_
      refine jw_iconst (pc := 116) (v := 1) dX1_require_116 rfl ?_
      refine jw_iadd (pc := 117) dX1_require_117 ?_
      refine jw_putI (pc := 118) dX1_require_118 sC_55 fl_X1_31 fw_1_3 (by decide) rfl ?_
      replace h := h _ rfl
      generalize jrI M3 55 (upd (M3.1 55) 3 ((M3.1 55 3) + (1 : Int32))) = M4 at h ⊢
      exact jw_vret (pc := 121) dX1_require_121 rfl ⟨rfl, h⟩
  · replace h := h.2 c
    refine jw_aload_n (pc := 48) (j := 0) dX1_require_48 rfl rfl ?_
    refine jw_getR (pc := 49) (r := 56) dX1_require_49 sC_55 fl_X1_9 (by decide) rfl rfl ?_
    refine jw_iload (pc := 52) (j := 4) dX1_require_52 rfl ?_
    obtain ⟨j3, hj3, ej3, h⟩ := h
    refine jw_iald (pc := 54) (j := j3) dX1_require_54 sC_56 hj3 ej3 (by decide) ?_
    refine jw_iload_n (pc := 55) (j := 1) dX1_require_55 rfl rfl ?_
    refine jw_iand (pc := 56) dX1_require_56 ?_
    refine jw_iload_n (pc := 57) (j := 1) dX1_require_57 rfl rfl ?_
    refine jw_icmp_eq (pc := 58) (tgt := 71) dX1_require_58 (by decide) (fun c => ?_) (fun c => ?_)
    · replace h := h.1 c
      refine jw_iinc (pc := 71) (j := 4) (u := l4 + 1) (ls' := [(4, .int (l4 + 1)), (0, .ref (x.2.2.2 55)), (1, .int l1), (2, .int l2), (3, .int l3)]) dX1_require_71 rfl rfl (by decide) rfl ?_
      refine jw_goto (pc := 74) (tgt := 39) dX1_require_74 (by decide) ?_
      exact jw_sub [1, 2, 3, 4, 0] rfl h
    · replace h := h.2 c
      refine jw_aload_n (pc := 61) (j := 0) dX1_require_61 rfl rfl ?_
      refine jw_iload (pc := 62) (j := 4) dX1_require_62 rfl ?_
      refine jw_iload_n (pc := 64) (j := 3) dX1_require_64 rfl rfl ?_
      refine jw_callV (pc := 65) (m2 := mX1_move) (As := [.int l4, .int l3]) (st := []) dX1_require_65 sC_55 (by decide) rfl rfl gm_X1_move ml_X1_38 rfl (Nat.le_of_ble_eq_true rfl) (JC.mono h ?_)
      clear h
      rintro M5 _ ⟨rfl, h⟩
      refine jw_st (st' := []) rfl ?_
      refine jw_iinc (pc := 68) (j := 3) (u := l3 + 1) (ls' := [(3, .int (l3 + 1)), (0, .ref (x.2.2.2 55)), (1, .int l1), (2, .int l2), (4, .int l4)]) dX1_require_68 rfl rfl (by decide) rfl ?_
      refine jw_iinc (pc := 71) (j := 4) (u := l4 + 1) (ls' := [(4, .int (l4 + 1)), (3, .int (l3 + 1)), (0, .ref (x.2.2.2 55)), (1, .int l1), (2, .int l2)]) dX1_require_71 rfl rfl (by decide) rfl ?_
      refine jw_goto (pc := 74) (tgt := 39) dX1_require_74 (by decide) ?_
      exact jw_sub [2, 3, 4, 1, 0] rfl h
set_option maxRecDepth 20000 in
theorem b_X1_move {x : jX} {d : Nat} {M : jM} {P : jM → Prop} {a1 : Int32} {a2 : Int32} 
    (h : ∃ j1, j1 < 54 ∧ a1 = nI j1 ∧ (∃ j2, j2 < 54 ∧ a2 = nI j2 ∧ (∀ M1, M1 = jrI M 56 (upd (M.1 56) j2 (M.1 56 j1)) → ∀ M2, M2 = jrI M1 57 (upd (M1.1 57) j2 (M1.1 57 j1)) → P M2))) :
    JC x jtbC mX1_move d [.ref (x.2.2.2 55), .int a1, .int a2] M (jV P) := by
  refine JC.of rfl (Nat.le_of_ble_eq_true rfl) ?_
  refine jw_ls (ls' := [(0, .ref (x.2.2.2 55)), (1, .int a1), (2, .int a2)]) rfl ?_
  refine jw_aload_n (pc := 0) (j := 0) dX1_move_0 rfl rfl ?_
  refine jw_getR (pc := 1) (r := 56) dX1_move_1 sC_55 fl_X1_9 (by decide) rfl rfl ?_
  refine jw_iload_n (pc := 4) (j := 2) dX1_move_4 rfl rfl ?_
  refine jw_aload_n (pc := 5) (j := 0) dX1_move_5 rfl rfl ?_
  refine jw_getR (pc := 6) (r := 56) dX1_move_6 sC_55 fl_X1_9 (by decide) rfl rfl ?_
  refine jw_iload_n (pc := 9) (j := 1) dX1_move_9 rfl rfl ?_
  obtain ⟨j1, hj1, ej1, h⟩ := h
  refine jw_iald (pc := 10) (j := j1) dX1_move_10 sC_56 hj1 ej1 (by decide) ?_
  obtain ⟨j2, hj2, ej2, h⟩ := h
  refine jw_iast (pc := 11) (j := j2) dX1_move_11 sC_56 hj2 ej2 (by decide) ?_
  replace h := h _ rfl
  generalize jrI M 56 (upd (M.1 56) j2 (M.1 56 j1)) = M1 at h ⊢
  refine jw_aload_n (pc := 12) (j := 0) dX1_move_12 rfl rfl ?_
  refine jw_getR (pc := 13) (r := 57) dX1_move_13 sC_55 fl_X1_15 (by decide) rfl rfl ?_
  refine jw_iload_n (pc := 16) (j := 2) dX1_move_16 rfl rfl ?_
  refine jw_aload_n (pc := 17) (j := 0) dX1_move_17 rfl rfl ?_
  refine jw_getR (pc := 18) (r := 57) dX1_move_18 sC_55 fl_X1_15 (by decide) rfl rfl ?_
  refine jw_iload_n (pc := 21) (j := 1) dX1_move_21 rfl rfl ?_
  refine jw_iald (pc := 22) (j := j1) dX1_move_22 sC_57 hj1 ej1 (by decide) ?_
  refine jw_iast (pc := 23) (j := j2) dX1_move_23 sC_57 hj2 ej2 (by decide) ?_
  replace h := h _ rfl
  generalize jrI M1 57 (upd (M1.1 57) j2 (M1.1 57 j1)) = M2 at h ⊢
  exact jw_vret (pc := 24) dX1_move_24 rfl ⟨rfl, h⟩
set_option maxRecDepth 20000 in
theorem b_X1_findForced {x : jX} {d : Nat} {M : jM} {P : jM → Prop}  
    (h : JW x jtbC mX1_findForced (d + 1) (jV P) 4 [(0, .ref (x.2.2.2 55)), (1, .int (0 : Int32)), (2, .int (0 : Int32))] [] M) :
    JC x jtbC mX1_findForced (d + 1) [.ref (x.2.2.2 55)] M (jV P) := by
  refine JC.of rfl (Nat.le_of_ble_eq_true rfl) ?_
  refine jw_ls (ls' := [(0, .ref (x.2.2.2 55))]) rfl ?_
  refine jw_iconst (pc := 0) (v := 0) dX1_findForced_0 rfl ?_
  refine jw_istore_n (pc := 1) (ls' := [(1, .int (0 : Int32)), (0, .ref (x.2.2.2 55))]) dX1_findForced_1 rfl (by decide) rfl ?_
  refine jw_iconst (pc := 2) (v := 0) dX1_findForced_2 rfl ?_
  refine jw_istore_n (pc := 3) (ls' := [(2, .int (0 : Int32)), (1, .int (0 : Int32)), (0, .ref (x.2.2.2 55))]) dX1_findForced_3 rfl (by decide) rfl ?_
  exact jw_sub [2, 1, 0] rfl h
set_option maxRecDepth 20000 in
theorem b_X1_findForced_4 {x : jX} {d : Nat} {M : jM} {P : jM → Prop} {l1 : Int32} {l2 : Int32} 
    (h : ((M.1 55 3) ≤ l2 → ∀ M1, M1 = jrI M 55 (upd (M.1 55) 3 l1) → P M1) ∧ (¬ (M.1 55 3) ≤ l2 → ∃ j1, j1 < 54 ∧ l2 = nI j1 ∧ (JC x jtbC mJ6_bitCount_0f7a4 d [.int (M.1 56 j1)] M (jI fun M2 r1 => (¬ r1 = (1 : Int32) → JC x jtbC mX1_move d [.ref (x.2.2.2 55), .int l2, .int l1] M2 (jV fun M3 => JW x jtbC mX1_findForced (d + 1) (jV P) 4 [(0, .ref (x.2.2.2 55)), (1, .int (l1 + 1)), (2, .int (l2 + 1))] [] M3)) ∧ (r1 = (1 : Int32) → ∀ M4, M4 = jrI M2 55 (upd (M2.1 55) 0 ((M2.1 55 0) ||| (M2.1 56 j1))) → JW x jtbC mX1_findForced (d + 1) (jV P) 4 [(0, .ref (x.2.2.2 55)), (1, .int l1), (2, .int (l2 + 1))] [] M4))))) :
    JW x jtbC mX1_findForced (d + 1) (jV P) 4 [(0, .ref (x.2.2.2 55)), (1, .int l1), (2, .int l2)] [] M := by
  refine jw_iload_n (pc := 4) (j := 2) dX1_findForced_4 rfl rfl ?_
  refine jw_aload_n (pc := 5) (j := 0) dX1_findForced_5 rfl rfl ?_
  refine jw_getI (pc := 6) dX1_findForced_6 sC_55 fl_X1_31 (by decide) rfl ?_
  refine jw_icmp_ge (pc := 9) (tgt := 58) dX1_findForced_9 (by decide) (fun c => ?_) (fun c => ?_)
  · replace h := h.1 c
    refine jw_aload_n (pc := 58) (j := 0) dX1_findForced_58 rfl rfl ?_
    refine jw_iload_n (pc := 59) (j := 1) dX1_findForced_59 rfl rfl ?_
    refine jw_putI (pc := 60) dX1_findForced_60 sC_55 fl_X1_31 fw_1_3 (by decide) rfl ?_
    replace h := h _ rfl
    generalize jrI M 55 (upd (M.1 55) 3 l1) = M1 at h ⊢
    exact jw_vret (pc := 63) dX1_findForced_63 rfl ⟨rfl, h⟩
  · replace h := h.2 c
    refine jw_aload_n (pc := 12) (j := 0) dX1_findForced_12 rfl rfl ?_
    refine jw_getR (pc := 13) (r := 56) dX1_findForced_13 sC_55 fl_X1_9 (by decide) rfl rfl ?_
    refine jw_iload_n (pc := 16) (j := 2) dX1_findForced_16 rfl rfl ?_
    obtain ⟨j1, hj1, ej1, h⟩ := h
    refine jw_iald (pc := 17) (j := j1) dX1_findForced_17 sC_56 hj1 ej1 (by decide) ?_
    refine jw_callS (pc := 18) (m2 := mJ6_bitCount_0f7a4) (As := [.int (M.1 56 j1)]) (st := []) dX1_findForced_18 gm_J6_bitCount_0f7a4 ml_X1_42 rfl (Nat.le_of_ble_eq_true rfl) (JC.mono h ?_)
    clear h
    rintro M2 _ ⟨r1, rfl, h⟩
    refine jw_st (st' := [.int r1]) rfl ?_
    refine jw_iconst (pc := 21) (v := 1) dX1_findForced_21 rfl ?_
    refine jw_icmp_ne (pc := 22) (tgt := 43) dX1_findForced_22 (by decide) (fun c => ?_) (fun c => ?_)
    · replace h := h.1 c
      refine jw_aload_n (pc := 43) (j := 0) dX1_findForced_43 rfl rfl ?_
      refine jw_iload_n (pc := 44) (j := 2) dX1_findForced_44 rfl rfl ?_
      refine jw_iload_n (pc := 45) (j := 1) dX1_findForced_45 rfl rfl ?_
      refine jw_callV (pc := 46) (m2 := mX1_move) (As := [.int l2, .int l1]) (st := []) dX1_findForced_46 sC_55 (by decide) rfl rfl gm_X1_move ml_X1_38 rfl (Nat.le_of_ble_eq_true rfl) (JC.mono h ?_)
      clear h
      rintro M3 _ ⟨rfl, h⟩
      refine jw_st (st' := []) rfl ?_
      refine jw_iinc (pc := 49) (j := 1) (u := l1 + 1) (ls' := [(1, .int (l1 + 1)), (0, .ref (x.2.2.2 55)), (2, .int l2)]) dX1_findForced_49 rfl rfl (by decide) rfl ?_
      refine jw_iinc (pc := 52) (j := 2) (u := l2 + 1) (ls' := [(2, .int (l2 + 1)), (1, .int (l1 + 1)), (0, .ref (x.2.2.2 55))]) dX1_findForced_52 rfl rfl (by decide) rfl ?_
      refine jw_goto (pc := 55) (tgt := 4) dX1_findForced_55 (by decide) ?_
      exact jw_sub [2, 1, 0] rfl h
    · replace h := h.2 c
      refine jw_aload_n (pc := 25) (j := 0) dX1_findForced_25 rfl rfl ?_
      refine jw_dup (pc := 26) dX1_findForced_26 rfl ?_
      refine jw_getI (pc := 27) dX1_findForced_27 sC_55 fl_X1_35 (by decide) rfl ?_
      refine jw_aload_n (pc := 30) (j := 0) dX1_findForced_30 rfl rfl ?_
      refine jw_getR (pc := 31) (r := 56) dX1_findForced_31 sC_55 fl_X1_9 (by decide) rfl rfl ?_
      refine jw_iload_n (pc := 34) (j := 2) dX1_findForced_34 rfl rfl ?_
      refine jw_iald (pc := 35) (j := j1) dX1_findForced_35 sC_56 hj1 ej1 (by decide) ?_
      refine jw_ior (pc := 36) dX1_findForced_36 ?_
      refine jw_putI (pc := 37) dX1_findForced_37 sC_55 fl_X1_35 fw_1_0 (by decide) rfl ?_
      replace h := h _ rfl
      generalize jrI M2 55 (upd (M2.1 55) 0 ((M2.1 55 0) ||| (M2.1 56 j1))) = M4 at h ⊢
      refine jw_goto (pc := 40) (tgt := 52) dX1_findForced_40 (by decide) ?_
      refine jw_iinc (pc := 52) (j := 2) (u := l2 + 1) (ls' := [(2, .int (l2 + 1)), (0, .ref (x.2.2.2 55)), (1, .int l1)]) dX1_findForced_52 rfl rfl (by decide) rfl ?_
      refine jw_goto (pc := 55) (tgt := 4) dX1_findForced_55 (by decide) ?_
      exact jw_sub [1, 2, 0] rfl h
set_option maxRecDepth 20000 in
theorem b_X1_leastWeight {x : jX} {d : Nat} {M : jM} {P : jM → Int64 → Prop} {o1 : Nat} 
    (h : JW x jtbC mX1_leastWeight (d + 1) (jL P) 5 [(0, .ref (x.2.2.2 55)), (1, .ref (x.2.2.2 o1)), (2, .long (0 : Int64)), (4, .int (0 : Int32))] [] M) :
    JC x jtbC mX1_leastWeight (d + 1) [.ref (x.2.2.2 55), .ref (x.2.2.2 o1)] M (jL P) := by
  refine JC.of rfl (Nat.le_of_ble_eq_true rfl) ?_
  refine jw_ls (ls' := [(0, .ref (x.2.2.2 55)), (1, .ref (x.2.2.2 o1))]) rfl ?_
  refine jw_lconst (pc := 0) (v := 0) dX1_leastWeight_0 rfl ?_
  refine jw_lstore_n (pc := 1) (ls' := [(2, .long (0 : Int64)), (0, .ref (x.2.2.2 55)), (1, .ref (x.2.2.2 o1))]) dX1_leastWeight_1 rfl (by decide) rfl ?_
  refine jw_iconst (pc := 2) (v := 0) dX1_leastWeight_2 rfl ?_
  refine jw_istore (pc := 3) (ls' := [(4, .int (0 : Int32)), (2, .long (0 : Int64)), (0, .ref (x.2.2.2 55)), (1, .ref (x.2.2.2 o1))]) dX1_leastWeight_3 (by decide) rfl ?_
  exact jw_sub [2, 3, 1, 0] rfl h
set_option maxRecDepth 20000 in
theorem b_X1_leastWeight_5 {x : jX} {d : Nat} {M : jM} {P : jM → Int64 → Prop} {o1 : Nat} {n1 : Nat} {l2 : Int64} {l4 : Int32} (s1 : js jtbC o1 = (23, n1)) (z1 : n1 < 2 ^ 31)
    (h : ((25 : Int32) ≤ l4 → ∀ M1, M1 = jrL M 55 (vp_updL (M.2 55) 6 (1152921504606846976 : Int64)) → JC x jtbC mX1_search d [.ref (x.2.2.2 55), .ref (x.2.2.2 o1), .int (M1.1 55 0), .int (0 : Int32), .long l2, .int (0 : Int32)] M1 (jV fun M2 => P M2 (M2.2 55 6))) ∧ (¬ (25 : Int32) ≤ l4 → (¬ (((M.1 55 0) >>> (l4 &&& 31)) &&& (1 : Int32)) = (1 : Int32) → JW x jtbC mX1_leastWeight (d + 1) (jL P) 5 [(0, .ref (x.2.2.2 55)), (1, .ref (x.2.2.2 o1)), (2, .long (l2 + (0 : Int64))), (4, .int (l4 + 1))] [] M) ∧ ((((M.1 55 0) >>> (l4 &&& 31)) &&& (1 : Int32)) = (1 : Int32) → ∃ j1, j1 < n1 ∧ l4 = nI j1 ∧ (JW x jtbC mX1_leastWeight (d + 1) (jL P) 5 [(0, .ref (x.2.2.2 55)), (1, .ref (x.2.2.2 o1)), (2, .long (l2 + (M.2 o1 j1))), (4, .int (l4 + 1))] [] M)))) :
    JW x jtbC mX1_leastWeight (d + 1) (jL P) 5 [(0, .ref (x.2.2.2 55)), (1, .ref (x.2.2.2 o1)), (2, .long l2), (4, .int l4)] [] M := by
  refine jw_iload (pc := 5) (j := 3) dX1_leastWeight_5 rfl ?_
  refine jw_bipush (pc := 7) (v := 25) dX1_leastWeight_7 rfl ?_
  refine jw_icmp_ge (pc := 9) (tgt := 42) dX1_leastWeight_9 (by decide) (fun c => ?_) (fun c => ?_)
  · replace h := h.1 c
    refine jw_aload_n (pc := 42) (j := 0) dX1_leastWeight_42 rfl rfl ?_
    refine jw_ldc2 (pc := 43) (v := 1152921504606846976) dX1_leastWeight_43 kl_X1_48 ?_
    refine jw_putJ (pc := 46) dX1_leastWeight_46 sC_55 fl_X1_50 fw_1_6 (by decide) rfl ?_
    replace h := h _ rfl
    generalize jrL M 55 (vp_updL (M.2 55) 6 (1152921504606846976 : Int64)) = M1 at h ⊢
    refine jw_aload_n (pc := 49) (j := 0) dX1_leastWeight_49 rfl rfl ?_
    refine jw_aload_n (pc := 50) (j := 1) dX1_leastWeight_50 rfl rfl ?_
    refine jw_aload_n (pc := 51) (j := 0) dX1_leastWeight_51 rfl rfl ?_
    refine jw_getI (pc := 52) dX1_leastWeight_52 sC_55 fl_X1_35 (by decide) rfl ?_
    refine jw_iconst (pc := 55) (v := 0) dX1_leastWeight_55 rfl ?_
    refine jw_lload_n (pc := 56) (j := 2) dX1_leastWeight_56 rfl rfl ?_
    refine jw_iconst (pc := 57) (v := 0) dX1_leastWeight_57 rfl ?_
    refine jw_callV (pc := 58) (m2 := mX1_search) (As := [.ref (x.2.2.2 o1), .int (M1.1 55 0), .int (0 : Int32), .long l2, .int (0 : Int32)]) (st := []) dX1_leastWeight_58 sC_55 (by decide) rfl rfl gm_X1_search ml_X1_54 rfl (Nat.le_of_ble_eq_true rfl) (JC.mono h ?_)
    clear h
    rintro M2 _ ⟨rfl, h⟩
    refine jw_st (st' := []) rfl ?_
    refine jw_aload_n (pc := 61) (j := 0) dX1_leastWeight_61 rfl rfl ?_
    refine jw_getL (pc := 62) dX1_leastWeight_62 sC_55 fl_X1_50 (by decide) rfl ?_
    exact jw_lret (pc := 65) dX1_leastWeight_65 rfl ⟨_, rfl, h⟩
  · replace h := h.2 c
    refine jw_lload_n (pc := 12) (j := 2) dX1_leastWeight_12 rfl rfl ?_
    refine jw_aload_n (pc := 13) (j := 0) dX1_leastWeight_13 rfl rfl ?_
    refine jw_getI (pc := 14) dX1_leastWeight_14 sC_55 fl_X1_35 (by decide) rfl ?_
    refine jw_iload (pc := 17) (j := 3) dX1_leastWeight_17 rfl ?_
    refine jw_ishr (pc := 19) dX1_leastWeight_19 ?_
    refine jw_iconst (pc := 20) (v := 1) dX1_leastWeight_20 rfl ?_
    refine jw_iand (pc := 21) dX1_leastWeight_21 ?_
    refine jw_iconst (pc := 22) (v := 1) dX1_leastWeight_22 rfl ?_
    refine jw_icmp_ne (pc := 23) (tgt := 33) dX1_leastWeight_23 (by decide) (fun c => ?_) (fun c => ?_)
    · replace h := h.1 c
      refine jw_lconst (pc := 33) (v := 0) dX1_leastWeight_33 rfl ?_
      refine jw_ladd (pc := 34) dX1_leastWeight_34 ?_
      refine jw_lstore_n (pc := 35) (ls' := [(2, .long (l2 + (0 : Int64))), (0, .ref (x.2.2.2 55)), (1, .ref (x.2.2.2 o1)), (4, .int l4)]) dX1_leastWeight_35 rfl (by decide) rfl ?_
      refine jw_iinc (pc := 36) (j := 3) (u := l4 + 1) (ls' := [(4, .int (l4 + 1)), (2, .long (l2 + (0 : Int64))), (0, .ref (x.2.2.2 55)), (1, .ref (x.2.2.2 o1))]) dX1_leastWeight_36 rfl rfl (by decide) rfl ?_
      refine jw_goto (pc := 39) (tgt := 5) dX1_leastWeight_39 (by decide) ?_
      exact jw_sub [2, 3, 1, 0] rfl h
    · replace h := h.2 c
      refine jw_aload_n (pc := 26) (j := 1) dX1_leastWeight_26 rfl rfl ?_
      refine jw_iload (pc := 27) (j := 3) dX1_leastWeight_27 rfl ?_
      obtain ⟨j1, hj1, ej1, h⟩ := h
      refine jw_lald (pc := 29) (j := j1) dX1_leastWeight_29 s1 hj1 ej1 z1 ?_
      refine jw_goto (pc := 30) (tgt := 34) dX1_leastWeight_30 (by decide) ?_
      refine jw_ladd (pc := 34) dX1_leastWeight_34 ?_
      refine jw_lstore_n (pc := 35) (ls' := [(2, .long (l2 + (M.2 o1 j1))), (0, .ref (x.2.2.2 55)), (1, .ref (x.2.2.2 o1)), (4, .int l4)]) dX1_leastWeight_35 rfl (by decide) rfl ?_
      refine jw_iinc (pc := 36) (j := 3) (u := l4 + 1) (ls' := [(4, .int (l4 + 1)), (2, .long (l2 + (M.2 o1 j1))), (0, .ref (x.2.2.2 55)), (1, .ref (x.2.2.2 o1))]) dX1_leastWeight_36 rfl rfl (by decide) rfl ?_
      refine jw_goto (pc := 39) (tgt := 5) dX1_leastWeight_39 (by decide) ?_
      exact jw_sub [2, 3, 1, 0] rfl h
set_option maxRecDepth 20000 in
theorem b_X1_search {x : jX} {d : Nat} {M : jM} {P : jM → Prop} {o1 : Nat} {a2 : Int32} {a3 : Int32} {a4 : Int64} {a6 : Int32} 
    (h : ((25 : Int32) < a6 → P M) ∧ (¬ (25 : Int32) < a6 → JC x jtbC mX1_floorOf d [.ref (x.2.2.2 55), .ref (x.2.2.2 o1), .int a2, .int a3] M (jL fun M1 r1 => ((a4 + r1) < (M1.2 55 6) → (¬ (M1.1 55 5) = 0 → JW x jtbC mX1_search (d + 1) (jV P) 50 [(0, .ref (x.2.2.2 55)), (1, .ref (x.2.2.2 o1)), (2, .int a2), (4, .long a4), (6, .int a6), (7, .int (M1.1 55 5)), (8, .int a3), (9, .int (0 : Int32))] [] M1) ∧ ((M1.1 55 5) = 0 → ∀ M2, M2 = jrL M1 55 (vp_updL (M1.2 55) 6 a4) → P M2)) ∧ (¬ (a4 + r1) < (M1.2 55 6) → P M1)))) :
    JC x jtbC mX1_search (d + 1) [.ref (x.2.2.2 55), .ref (x.2.2.2 o1), .int a2, .int a3, .long a4, .int a6] M (jV P) := by
  refine JC.of rfl (Nat.le_of_ble_eq_true rfl) ?_
  refine jw_ls (ls' := [(0, .ref (x.2.2.2 55)), (1, .ref (x.2.2.2 o1)), (2, .int a2), (3, .int a3), (4, .long a4), (6, .int a6)]) rfl ?_
  refine jw_iload (pc := 0) (j := 5) dX1_search_0 rfl ?_
  refine jw_bipush (pc := 2) (v := 25) dX1_search_2 rfl ?_
  refine jw_icmp_gt (pc := 4) (tgt := 25) dX1_search_4 (by decide) (fun c => ?_) (fun c => ?_)
  · replace h := h.1 c
    exact jw_vret (pc := 25) dX1_search_25 rfl ⟨rfl, h⟩
  · replace h := h.2 c
    refine jw_lload (pc := 7) (j := 4) dX1_search_7 rfl ?_
    refine jw_aload_n (pc := 9) (j := 0) dX1_search_9 rfl rfl ?_
    refine jw_aload_n (pc := 10) (j := 1) dX1_search_10 rfl rfl ?_
    refine jw_iload_n (pc := 11) (j := 2) dX1_search_11 rfl rfl ?_
    refine jw_iload_n (pc := 12) (j := 3) dX1_search_12 rfl rfl ?_
    refine jw_callV (pc := 13) (m2 := mX1_floorOf) (As := [.ref (x.2.2.2 o1), .int a2, .int a3]) (st := [.long a4]) dX1_search_13 sC_55 (by decide) rfl rfl gm_X1_floorOf ml_X1_58 rfl (Nat.le_of_ble_eq_true rfl) (JC.mono h ?_)
    clear h
    rintro M1 _ ⟨r1, rfl, h⟩
    refine jw_st (st' := [.long r1, .long a4]) rfl ?_
    refine jw_ladd (pc := 16) dX1_search_16 ?_
    refine jw_aload_n (pc := 17) (j := 0) dX1_search_17 rfl rfl ?_
    refine jw_getL (pc := 18) dX1_search_18 sC_55 fl_X1_50 (by decide) rfl ?_
    refine jw_lcmp (pc := 21) dX1_search_21 ?_
    refine jw_if_lt (pc := 22) (tgt := 26) dX1_search_22 (by decide) (fun c => ?_) (fun c => ?_)
    · replace h := h.1 ((jcmp_lt _ _).mp c)
      refine jw_aload_n (pc := 26) (j := 0) dX1_search_26 rfl rfl ?_
      refine jw_getI (pc := 27) dX1_search_27 sC_55 fl_X1_62 (by decide) rfl ?_
      refine jw_istore (pc := 30) (ls' := [(7, .int (M1.1 55 5)), (0, .ref (x.2.2.2 55)), (1, .ref (x.2.2.2 o1)), (2, .int a2), (3, .int a3), (4, .long a4), (6, .int a6)]) dX1_search_30 (by decide) rfl ?_
      refine jw_iload (pc := 32) (j := 0) dX1_search_32 rfl ?_
      refine jw_if_ne (pc := 34) (tgt := 44) dX1_search_34 (by decide) (fun c => ?_) (fun c => ?_)
      · replace h := h.1 c
        refine jw_iload_n (pc := 44) (j := 4) dX1_search_44 rfl rfl ?_
        refine jw_istore (pc := 45) (ls' := [(8, .int a3), (7, .int (M1.1 55 5)), (0, .ref (x.2.2.2 55)), (1, .ref (x.2.2.2 o1)), (2, .int a2), (3, .int a3), (4, .long a4), (6, .int a6)]) dX1_search_45 (by decide) rfl ?_
        refine jw_iconst (pc := 47) (v := 0) dX1_search_47 rfl ?_
        refine jw_istore (pc := 48) (ls' := [(9, .int (0 : Int32)), (8, .int a3), (7, .int (M1.1 55 5)), (0, .ref (x.2.2.2 55)), (1, .ref (x.2.2.2 o1)), (2, .int a2), (3, .int a3), (4, .long a4), (6, .int a6)]) dX1_search_48 (by decide) rfl ?_
        exact jw_sub [3, 4, 5, 7, 8, 2, 1, 0] rfl h
      · replace h := h.2 c
        refine jw_aload_n (pc := 37) (j := 1) dX1_search_37 rfl rfl ?_
        refine jw_lload (pc := 38) (j := 5) dX1_search_38 rfl ?_
        refine jw_putJ (pc := 40) dX1_search_40 sC_55 fl_X1_50 fw_1_6 (by decide) rfl ?_
        replace h := h _ rfl
        generalize jrL M1 55 (vp_updL (M1.2 55) 6 a4) = M2 at h ⊢
        exact jw_vret (pc := 43) dX1_search_43 rfl ⟨rfl, h⟩
    · replace h := h.2 (fun z => c ((jcmp_lt _ _).mpr z))
      exact jw_vret (pc := 25) dX1_search_25 rfl ⟨rfl, h⟩
set_option maxRecDepth 20000 in
theorem b_X1_search_50 {x : jX} {d : Nat} {M : jM} {P : jM → Prop} {o1 : Nat} {n1 : Nat} {l2 : Int32} {l4 : Int64} {l6 : Int32} {l7 : Int32} {l8 : Int32} {l9 : Int32} (s1 : js jtbC o1 = (23, n1)) (z1 : n1 < 2 ^ 31)
    (h : ((25 : Int32) ≤ l9 → P M) ∧ (¬ (25 : Int32) ≤ l9 → (l7 = 0 → P M) ∧ (¬ l7 = 0 → JC x jtbC mX1_lightest d [.ref (x.2.2.2 o1), .int l7] M (jI fun M1 r1 => ∃ j1, j1 < n1 ∧ r1 = nI j1 ∧ (JC x jtbC mX1_search d [.ref (x.2.2.2 55), .ref (x.2.2.2 o1), .int (l2 ||| ((1 : Int32) <<< (r1 &&& 31))), .int l8, .long (l4 + (M1.2 o1 j1)), .int (l6 + (1 : Int32))] M1 (jV fun M2 => JW x jtbC mX1_search (d + 1) (jV P) 50 [(0, .ref (x.2.2.2 55)), (1, .ref (x.2.2.2 o1)), (2, .int l2), (4, .long l4), (6, .int l6), (7, .int (l7 &&& (((1 : Int32) <<< (r1 &&& 31)) ^^^ (-1 : Int32)))), (8, .int (l8 ||| ((1 : Int32) <<< (r1 &&& 31)))), (9, .int (l9 + 1))] [] M2)))))) :
    JW x jtbC mX1_search (d + 1) (jV P) 50 [(0, .ref (x.2.2.2 55)), (1, .ref (x.2.2.2 o1)), (2, .int l2), (4, .long l4), (6, .int l6), (7, .int l7), (8, .int l8), (9, .int l9)] [] M := by
  refine jw_iload (pc := 50) (j := 7) dX1_search_50 rfl ?_
  refine jw_bipush (pc := 52) (v := 25) dX1_search_52 rfl ?_
  refine jw_icmp_ge (pc := 54) (tgt := 120) dX1_search_54 (by decide) (fun c => ?_) (fun c => ?_)
  · replace h := h.1 c
    exact jw_vret (pc := 120) dX1_search_120 rfl ⟨rfl, h⟩
  · replace h := h.2 c
    refine jw_iload (pc := 57) (j := 5) dX1_search_57 rfl ?_
    refine jw_if_eq (pc := 59) (tgt := 120) dX1_search_59 (by decide) (fun c => ?_) (fun c => ?_)
    · replace h := h.1 c
      exact jw_vret (pc := 120) dX1_search_120 rfl ⟨rfl, h⟩
    · replace h := h.2 c
      refine jw_aload_n (pc := 62) (j := 1) dX1_search_62 rfl rfl ?_
      refine jw_iload (pc := 63) (j := 5) dX1_search_63 rfl ?_
      refine jw_callS (pc := 65) (m2 := mX1_lightest) (As := [.ref (x.2.2.2 o1), .int l7]) (st := []) dX1_search_65 gm_X1_lightest ml_X1_65 rfl (Nat.le_of_ble_eq_true rfl) (JC.mono h ?_)
      clear h
      rintro M1 _ ⟨r1, rfl, h⟩
      refine jw_st (st' := [.int r1]) rfl ?_
      refine jw_istore (pc := 68) (ls' := [(10, .int r1), (0, .ref (x.2.2.2 55)), (1, .ref (x.2.2.2 o1)), (2, .int l2), (4, .long l4), (6, .int l6), (7, .int l7), (8, .int l8), (9, .int l9)]) dX1_search_68 (by decide) rfl ?_
      refine jw_aload_n (pc := 70) (j := 1) dX1_search_70 rfl rfl ?_
      refine jw_aload_n (pc := 71) (j := 2) dX1_search_71 rfl rfl ?_
      refine jw_iload_n (pc := 72) (j := 3) dX1_search_72 rfl rfl ?_
      refine jw_iconst (pc := 73) (v := 1) dX1_search_73 rfl ?_
      refine jw_iload (pc := 74) (j := 0) dX1_search_74 rfl ?_
      refine jw_ishl (pc := 76) dX1_search_76 ?_
      refine jw_ior (pc := 77) dX1_search_77 ?_
      refine jw_iload (pc := 78) (j := 7) dX1_search_78 rfl ?_
      refine jw_lload (pc := 80) (j := 4) dX1_search_80 rfl ?_
      refine jw_aload_n (pc := 82) (j := 2) dX1_search_82 rfl rfl ?_
      refine jw_iload (pc := 83) (j := 0) dX1_search_83 rfl ?_
      obtain ⟨j1, hj1, ej1, h⟩ := h
      refine jw_lald (pc := 85) (j := j1) dX1_search_85 s1 hj1 ej1 z1 ?_
      refine jw_ladd (pc := 86) dX1_search_86 ?_
      refine jw_iload (pc := 87) (j := 5) dX1_search_87 rfl ?_
      refine jw_iconst (pc := 89) (v := 1) dX1_search_89 rfl ?_
      refine jw_iadd (pc := 90) dX1_search_90 ?_
      refine jw_callV (pc := 91) (m2 := mX1_search) (As := [.ref (x.2.2.2 o1), .int (l2 ||| ((1 : Int32) <<< (r1 &&& 31))), .int l8, .long (l4 + (M1.2 o1 j1)), .int (l6 + (1 : Int32))]) (st := []) dX1_search_91 sC_55 (by decide) rfl rfl gm_X1_search ml_X1_54 rfl (Nat.le_of_ble_eq_true rfl) (JC.mono h ?_)
      clear h
      rintro M2 _ ⟨rfl, h⟩
      refine jw_st (st' := []) rfl ?_
      refine jw_iload (pc := 94) (j := 7) dX1_search_94 rfl ?_
      refine jw_iconst (pc := 96) (v := 1) dX1_search_96 rfl ?_
      refine jw_iload (pc := 97) (j := 0) dX1_search_97 rfl ?_
      refine jw_ishl (pc := 99) dX1_search_99 ?_
      refine jw_ior (pc := 100) dX1_search_100 ?_
      refine jw_istore (pc := 101) (ls' := [(8, .int (l8 ||| ((1 : Int32) <<< (r1 &&& 31)))), (10, .int r1), (0, .ref (x.2.2.2 55)), (1, .ref (x.2.2.2 o1)), (2, .int l2), (4, .long l4), (6, .int l6), (7, .int l7), (9, .int l9)]) dX1_search_101 (by decide) rfl ?_
      refine jw_iload (pc := 103) (j := 7) dX1_search_103 rfl ?_
      refine jw_iconst (pc := 105) (v := 1) dX1_search_105 rfl ?_
      refine jw_iload (pc := 106) (j := 1) dX1_search_106 rfl ?_
      refine jw_ishl (pc := 108) dX1_search_108 ?_
      refine jw_iconst (pc := 109) (v := (-1)) dX1_search_109 rfl ?_
      refine jw_ixor (pc := 110) dX1_search_110 ?_
      refine jw_iand (pc := 111) dX1_search_111 ?_
      refine jw_istore (pc := 112) (ls' := [(7, .int (l7 &&& (((1 : Int32) <<< (r1 &&& 31)) ^^^ (-1 : Int32)))), (8, .int (l8 ||| ((1 : Int32) <<< (r1 &&& 31)))), (10, .int r1), (0, .ref (x.2.2.2 55)), (1, .ref (x.2.2.2 o1)), (2, .int l2), (4, .long l4), (6, .int l6), (9, .int l9)]) dX1_search_112 (by decide) rfl ?_
      refine jw_iinc (pc := 114) (j := 8) (u := l9 + 1) (ls' := [(9, .int (l9 + 1)), (7, .int (l7 &&& (((1 : Int32) <<< (r1 &&& 31)) ^^^ (-1 : Int32)))), (8, .int (l8 ||| ((1 : Int32) <<< (r1 &&& 31)))), (10, .int r1), (0, .ref (x.2.2.2 55)), (1, .ref (x.2.2.2 o1)), (2, .int l2), (4, .long l4), (6, .int l6)]) dX1_search_114 rfl rfl (by decide) rfl ?_
      refine jw_goto (pc := 117) (tgt := 50) dX1_search_117 (by decide) ?_
      exact jw_sub [4, 5, 6, 7, 8, 1, 2, 0] rfl h
set_option maxRecDepth 20000 in
theorem b_X1_floorOf {x : jX} {d : Nat} {M : jM} {P : jM → Int64 → Prop} {o1 : Nat} {a2 : Int32} {a3 : Int32} 
    (h : JC x jtbC mJ7_fill_d0a16 d [.ref (x.2.2.2 58), .long (0 : Int64)] M (jV fun M1 => ∀ M2, M2 = jrI M1 55 (upd (M1.1 55) 5 (0 : Int32)) → JW x jtbC mX1_floorOf (d + 1) (jL P) 16 [(0, .ref (x.2.2.2 55)), (1, .ref (x.2.2.2 o1)), (2, .int a2), (3, .int a3), (4, .int (0 : Int32))] [] M2)) :
    JC x jtbC mX1_floorOf (d + 1) [.ref (x.2.2.2 55), .ref (x.2.2.2 o1), .int a2, .int a3] M (jL P) := by
  refine JC.of rfl (Nat.le_of_ble_eq_true rfl) ?_
  refine jw_ls (ls' := [(0, .ref (x.2.2.2 55)), (1, .ref (x.2.2.2 o1)), (2, .int a2), (3, .int a3)]) rfl ?_
  refine jw_aload_n (pc := 0) (j := 0) dX1_floorOf_0 rfl rfl ?_
  refine jw_getR (pc := 1) (r := 58) dX1_floorOf_1 sC_55 fl_X1_18 (by decide) rfl rfl ?_
  refine jw_lconst (pc := 4) (v := 0) dX1_floorOf_4 rfl ?_
  refine jw_callS (pc := 5) (m2 := mJ7_fill_d0a16) (As := [.ref (x.2.2.2 58), .long (0 : Int64)]) (st := []) dX1_floorOf_5 gm_J7_fill_d0a16 ml_X1_69 rfl (Nat.le_of_ble_eq_true rfl) (JC.mono h ?_)
  clear h
  rintro M1 _ ⟨rfl, h⟩
  refine jw_st (st' := []) rfl ?_
  refine jw_aload_n (pc := 8) (j := 0) dX1_floorOf_8 rfl rfl ?_
  refine jw_iconst (pc := 9) (v := 0) dX1_floorOf_9 rfl ?_
  refine jw_putI (pc := 10) dX1_floorOf_10 sC_55 fl_X1_62 fw_1_5 (by decide) rfl ?_
  replace h := h _ rfl
  generalize jrI M1 55 (upd (M1.1 55) 5 (0 : Int32)) = M2 at h ⊢
  refine jw_iconst (pc := 13) (v := 0) dX1_floorOf_13 rfl ?_
  refine jw_istore (pc := 14) (ls' := [(4, .int (0 : Int32)), (0, .ref (x.2.2.2 55)), (1, .ref (x.2.2.2 o1)), (2, .int a2), (3, .int a3)]) dX1_floorOf_14 (by decide) rfl ?_
  exact jw_sub [1, 2, 3, 4, 0] rfl h
set_option maxRecDepth 20000 in
theorem b_X1_floorOf_16 {x : jX} {d : Nat} {M : jM} {P : jM → Int64 → Prop} {o1 : Nat} {l2 : Int32} {l3 : Int32} {l4 : Int32} 
    (h : ((M.1 55 3) ≤ l4 → JC x jtbC mJ9_max_f86c9 d [.long (M.2 58 0), .long (M.2 58 1)] M (jL fun M1 r1 => JC x jtbC mJ9_max_f86c9 d [.long (M1.2 58 2), .long (M1.2 58 3)] M1 (jL fun M2 r2 => JC x jtbC mJ9_max_f86c9 d [.long r1, .long r2] M2 (jL fun M3 r3 => P M3 r3)))) ∧ (¬ (M.1 55 3) ≤ l4 → ∃ j1, j1 < 54 ∧ l4 = nI j1 ∧ ((¬ ((M.1 56 j1) &&& l2) = 0 → JW x jtbC mX1_floorOf (d + 1) (jL P) 16 [(0, .ref (x.2.2.2 55)), (1, .ref (x.2.2.2 o1)), (2, .int l2), (3, .int l3), (4, .int (l4 + 1))] [] M) ∧ (((M.1 56 j1) &&& l2) = 0 → (¬ ((M.1 56 j1) &&& (l3 ^^^ (-1 : Int32))) = 0 → ((M.1 55 5) = 0 → ∀ M4, M4 = jrI M 55 (upd (M.1 55) 5 ((M.1 56 j1) &&& (l3 ^^^ (-1 : Int32)))) → JW x jtbC mX1_floorOf (d + 1) (jL P) 87 [(0, .ref (x.2.2.2 55)), (1, .ref (x.2.2.2 o1)), (2, .int l2), (3, .int l3), (4, .int l4), (5, .int ((M.1 56 j1) &&& (l3 ^^^ (-1 : Int32))))] [] M4) ∧ (¬ (M.1 55 5) = 0 → JC x jtbC mJ6_bitCount_0f7a4 d [.int ((M.1 56 j1) &&& (l3 ^^^ (-1 : Int32)))] M (jI fun M5 r4 => JC x jtbC mJ6_bitCount_0f7a4 d [.int (M5.1 55 5)] M5 (jI fun M6 r5 => (r5 ≤ r4 → JW x jtbC mX1_floorOf (d + 1) (jL P) 87 [(0, .ref (x.2.2.2 55)), (1, .ref (x.2.2.2 o1)), (2, .int l2), (3, .int l3), (4, .int l4), (5, .int ((M.1 56 j1) &&& (l3 ^^^ (-1 : Int32))))] [] M6) ∧ (¬ r5 ≤ r4 → ∀ M7, M7 = jrI M6 55 (upd (M6.1 55) 5 ((M.1 56 j1) &&& (l3 ^^^ (-1 : Int32)))) → JW x jtbC mX1_floorOf (d + 1) (jL P) 87 [(0, .ref (x.2.2.2 55)), (1, .ref (x.2.2.2 o1)), (2, .int l2), (3, .int l3), (4, .int l4), (5, .int ((M.1 56 j1) &&& (l3 ^^^ (-1 : Int32))))] [] M7))))) ∧ (((M.1 56 j1) &&& (l3 ^^^ (-1 : Int32))) = 0 → P M (1152921504606846976 : Int64)))))) :
    JW x jtbC mX1_floorOf (d + 1) (jL P) 16 [(0, .ref (x.2.2.2 55)), (1, .ref (x.2.2.2 o1)), (2, .int l2), (3, .int l3), (4, .int l4)] [] M := by
  refine jw_iload (pc := 16) (j := 4) dX1_floorOf_16 rfl ?_
  refine jw_aload_n (pc := 18) (j := 0) dX1_floorOf_18 rfl rfl ?_
  refine jw_getI (pc := 19) dX1_floorOf_19 sC_55 fl_X1_31 (by decide) rfl ?_
  refine jw_icmp_ge (pc := 22) (tgt := 116) dX1_floorOf_22 (by decide) (fun c => ?_) (fun c => ?_)
  · replace h := h.1 c
    refine jw_aload_n (pc := 116) (j := 0) dX1_floorOf_116 rfl rfl ?_
    refine jw_getR (pc := 117) (r := 58) dX1_floorOf_117 sC_55 fl_X1_18 (by decide) rfl rfl ?_
    refine jw_iconst (pc := 120) (v := 0) dX1_floorOf_120 rfl ?_
    refine jw_lald (pc := 121) (j := 0) dX1_floorOf_121 sC_58 (by decide) rfl (by decide) ?_
    refine jw_aload_n (pc := 122) (j := 0) dX1_floorOf_122 rfl rfl ?_
    refine jw_getR (pc := 123) (r := 58) dX1_floorOf_123 sC_55 fl_X1_18 (by decide) rfl rfl ?_
    refine jw_iconst (pc := 126) (v := 1) dX1_floorOf_126 rfl ?_
    refine jw_lald (pc := 127) (j := 1) dX1_floorOf_127 sC_58 (by decide) rfl (by decide) ?_
    refine jw_callS (pc := 128) (m2 := mJ9_max_f86c9) (As := [.long (M.2 58 0), .long (M.2 58 1)]) (st := []) dX1_floorOf_128 gm_J9_max_f86c9 ml_X1_75 rfl (Nat.le_of_ble_eq_true rfl) (JC.mono h ?_)
    clear h
    rintro M1 _ ⟨r1, rfl, h⟩
    refine jw_st (st' := [.long r1]) rfl ?_
    refine jw_aload_n (pc := 131) (j := 0) dX1_floorOf_131 rfl rfl ?_
    refine jw_getR (pc := 132) (r := 58) dX1_floorOf_132 sC_55 fl_X1_18 (by decide) rfl rfl ?_
    refine jw_iconst (pc := 135) (v := 2) dX1_floorOf_135 rfl ?_
    refine jw_lald (pc := 136) (j := 2) dX1_floorOf_136 sC_58 (by decide) rfl (by decide) ?_
    refine jw_aload_n (pc := 137) (j := 0) dX1_floorOf_137 rfl rfl ?_
    refine jw_getR (pc := 138) (r := 58) dX1_floorOf_138 sC_55 fl_X1_18 (by decide) rfl rfl ?_
    refine jw_iconst (pc := 141) (v := 3) dX1_floorOf_141 rfl ?_
    refine jw_lald (pc := 142) (j := 3) dX1_floorOf_142 sC_58 (by decide) rfl (by decide) ?_
    refine jw_callS (pc := 143) (m2 := mJ9_max_f86c9) (As := [.long (M1.2 58 2), .long (M1.2 58 3)]) (st := [.long r1]) dX1_floorOf_143 gm_J9_max_f86c9 ml_X1_75 rfl (Nat.le_of_ble_eq_true rfl) (JC.mono h ?_)
    clear h
    rintro M2 _ ⟨r2, rfl, h⟩
    refine jw_st (st' := [.long r2, .long r1]) rfl ?_
    refine jw_callS (pc := 146) (m2 := mJ9_max_f86c9) (As := [.long r1, .long r2]) (st := []) dX1_floorOf_146 gm_J9_max_f86c9 ml_X1_75 rfl (Nat.le_of_ble_eq_true rfl) (JC.mono h ?_)
    clear h
    rintro M3 _ ⟨r3, rfl, h⟩
    refine jw_st (st' := [.long r3]) rfl ?_
    exact jw_lret (pc := 149) dX1_floorOf_149 rfl ⟨_, rfl, h⟩
  · replace h := h.2 c
    refine jw_aload_n (pc := 25) (j := 0) dX1_floorOf_25 rfl rfl ?_
    refine jw_getR (pc := 26) (r := 56) dX1_floorOf_26 sC_55 fl_X1_9 (by decide) rfl rfl ?_
    refine jw_iload (pc := 29) (j := 4) dX1_floorOf_29 rfl ?_
    obtain ⟨j1, hj1, ej1, h⟩ := h
    refine jw_iald (pc := 31) (j := j1) dX1_floorOf_31 sC_56 hj1 ej1 (by decide) ?_
    refine jw_iload_n (pc := 32) (j := 2) dX1_floorOf_32 rfl rfl ?_
    refine jw_iand (pc := 33) dX1_floorOf_33 ?_
    refine jw_if_ne (pc := 34) (tgt := 110) dX1_floorOf_34 (by decide) (fun c => ?_) (fun c => ?_)
    · replace h := h.1 c
      refine jw_iinc (pc := 110) (j := 4) (u := l4 + 1) (ls' := [(4, .int (l4 + 1)), (0, .ref (x.2.2.2 55)), (1, .ref (x.2.2.2 o1)), (2, .int l2), (3, .int l3)]) dX1_floorOf_110 rfl rfl (by decide) rfl ?_
      refine jw_goto (pc := 113) (tgt := 16) dX1_floorOf_113 (by decide) ?_
      exact jw_sub [1, 2, 3, 4, 0] rfl h
    · replace h := h.2 c
      refine jw_aload_n (pc := 37) (j := 0) dX1_floorOf_37 rfl rfl ?_
      refine jw_getR (pc := 38) (r := 56) dX1_floorOf_38 sC_55 fl_X1_9 (by decide) rfl rfl ?_
      refine jw_iload (pc := 41) (j := 4) dX1_floorOf_41 rfl ?_
      refine jw_iald (pc := 43) (j := j1) dX1_floorOf_43 sC_56 hj1 ej1 (by decide) ?_
      refine jw_iload_n (pc := 44) (j := 3) dX1_floorOf_44 rfl rfl ?_
      refine jw_iconst (pc := 45) (v := (-1)) dX1_floorOf_45 rfl ?_
      refine jw_ixor (pc := 46) dX1_floorOf_46 ?_
      refine jw_iand (pc := 47) dX1_floorOf_47 ?_
      refine jw_istore (pc := 48) (ls' := [(5, .int ((M.1 56 j1) &&& (l3 ^^^ (-1 : Int32)))), (0, .ref (x.2.2.2 55)), (1, .ref (x.2.2.2 o1)), (2, .int l2), (3, .int l3), (4, .int l4)]) dX1_floorOf_48 (by decide) rfl ?_
      refine jw_iload (pc := 50) (j := 0) dX1_floorOf_50 rfl ?_
      refine jw_if_ne (pc := 52) (tgt := 59) dX1_floorOf_52 (by decide) (fun c => ?_) (fun c => ?_)
      · replace h := h.1 c
        refine jw_aload_n (pc := 59) (j := 1) dX1_floorOf_59 rfl rfl ?_
        refine jw_getI (pc := 60) dX1_floorOf_60 sC_55 fl_X1_62 (by decide) rfl ?_
        refine jw_if_eq (pc := 63) (tgt := 81) dX1_floorOf_63 (by decide) (fun c => ?_) (fun c => ?_)
        · replace h := h.1 c
          refine jw_aload_n (pc := 81) (j := 1) dX1_floorOf_81 rfl rfl ?_
          refine jw_iload (pc := 82) (j := 0) dX1_floorOf_82 rfl ?_
          refine jw_putI (pc := 84) dX1_floorOf_84 sC_55 fl_X1_62 fw_1_5 (by decide) rfl ?_
          replace h := h _ rfl
          generalize jrI M 55 (upd (M.1 55) 5 ((M.1 56 j1) &&& (l3 ^^^ (-1 : Int32)))) = M4 at h ⊢
          exact jw_sub [1, 2, 3, 4, 5, 0] rfl h
        · replace h := h.2 c
          refine jw_iload (pc := 66) (j := 0) dX1_floorOf_66 rfl ?_
          refine jw_callS (pc := 68) (m2 := mJ6_bitCount_0f7a4) (As := [.int ((M.1 56 j1) &&& (l3 ^^^ (-1 : Int32)))]) (st := []) dX1_floorOf_68 gm_J6_bitCount_0f7a4 ml_X1_42 rfl (Nat.le_of_ble_eq_true rfl) (JC.mono h ?_)
          clear h
          rintro M5 _ ⟨r4, rfl, h⟩
          refine jw_st (st' := [.int r4]) rfl ?_
          refine jw_aload_n (pc := 71) (j := 1) dX1_floorOf_71 rfl rfl ?_
          refine jw_getI (pc := 72) dX1_floorOf_72 sC_55 fl_X1_62 (by decide) rfl ?_
          refine jw_callS (pc := 75) (m2 := mJ6_bitCount_0f7a4) (As := [.int (M5.1 55 5)]) (st := [.int r4]) dX1_floorOf_75 gm_J6_bitCount_0f7a4 ml_X1_42 rfl (Nat.le_of_ble_eq_true rfl) (JC.mono h ?_)
          clear h
          rintro M6 _ ⟨r5, rfl, h⟩
          refine jw_st (st' := [.int r5, .int r4]) rfl ?_
          refine jw_icmp_ge (pc := 78) (tgt := 87) dX1_floorOf_78 (by decide) (fun c => ?_) (fun c => ?_)
          · replace h := h.1 c
            exact jw_sub [1, 2, 3, 4, 5, 0] rfl h
          · replace h := h.2 c
            refine jw_aload_n (pc := 81) (j := 1) dX1_floorOf_81 rfl rfl ?_
            refine jw_iload (pc := 82) (j := 0) dX1_floorOf_82 rfl ?_
            refine jw_putI (pc := 84) dX1_floorOf_84 sC_55 fl_X1_62 fw_1_5 (by decide) rfl ?_
            replace h := h _ rfl
            generalize jrI M6 55 (upd (M6.1 55) 5 ((M.1 56 j1) &&& (l3 ^^^ (-1 : Int32)))) = M7 at h ⊢
            exact jw_sub [1, 2, 3, 4, 5, 0] rfl h
      · replace h := h.2 c
        refine jw_ldc2 (pc := 55) (v := 1152921504606846976) dX1_floorOf_55 kl_X1_48 ?_
        exact jw_lret (pc := 58) dX1_floorOf_58 rfl ⟨_, rfl, h⟩
set_option maxRecDepth 20000 in
theorem b_X1_floorOf_87 {x : jX} {d : Nat} {M : jM} {P : jM → Int64 → Prop} {o1 : Nat} {n1 : Nat} {l2 : Int32} {l3 : Int32} {l4 : Int32} {l5 : Int32} (s1 : js jtbC o1 = (23, n1)) (z1 : n1 < 2 ^ 31)
    (h : ∃ j1, j1 < 54 ∧ l4 = nI j1 ∧ (∃ j2, j2 < 4 ∧ M.1 57 j1 = nI j2 ∧ (JC x jtbC mX1_lightest d [.ref (x.2.2.2 o1), .int l5] M (jI fun M1 r1 => ∃ j3, j3 < n1 ∧ r1 = nI j3 ∧ (∀ M2, M2 = jrL M1 58 (vp_updL (M1.2 58) j2 ((M.2 58 j2) + (M1.2 o1 j3))) → JW x jtbC mX1_floorOf (d + 1) (jL P) 16 [(0, .ref (x.2.2.2 55)), (1, .ref (x.2.2.2 o1)), (2, .int l2), (3, .int l3), (4, .int (l4 + 1))] [] M2))))) :
    JW x jtbC mX1_floorOf (d + 1) (jL P) 87 [(0, .ref (x.2.2.2 55)), (1, .ref (x.2.2.2 o1)), (2, .int l2), (3, .int l3), (4, .int l4), (5, .int l5)] [] M := by
  refine jw_aload_n (pc := 87) (j := 0) dX1_floorOf_87 rfl rfl ?_
  refine jw_getR (pc := 88) (r := 58) dX1_floorOf_88 sC_55 fl_X1_18 (by decide) rfl rfl ?_
  refine jw_aload_n (pc := 91) (j := 0) dX1_floorOf_91 rfl rfl ?_
  refine jw_getR (pc := 92) (r := 57) dX1_floorOf_92 sC_55 fl_X1_15 (by decide) rfl rfl ?_
  refine jw_iload (pc := 95) (j := 4) dX1_floorOf_95 rfl ?_
  obtain ⟨j1, hj1, ej1, h⟩ := h
  refine jw_iald (pc := 97) (j := j1) dX1_floorOf_97 sC_57 hj1 ej1 (by decide) ?_
  refine jw_dup2 (pc := 98) dX1_floorOf_98 rfl rfl ?_
  obtain ⟨j2, hj2, ej2, h⟩ := h
  refine jw_lald (pc := 99) (j := j2) dX1_floorOf_99 sC_58 hj2 ej2 (by decide) ?_
  refine jw_aload_n (pc := 100) (j := 1) dX1_floorOf_100 rfl rfl ?_
  refine jw_aload_n (pc := 101) (j := 1) dX1_floorOf_101 rfl rfl ?_
  refine jw_iload (pc := 102) (j := 5) dX1_floorOf_102 rfl ?_
  refine jw_callS (pc := 104) (m2 := mX1_lightest) (As := [.ref (x.2.2.2 o1), .int l5]) (st := [.ref (x.2.2.2 o1), .long (M.2 58 j2), .int (M.1 57 j1), .ref (x.2.2.2 58)]) dX1_floorOf_104 gm_X1_lightest ml_X1_65 rfl (Nat.le_of_ble_eq_true rfl) (JC.mono h ?_)
  clear h
  rintro M1 _ ⟨r1, rfl, h⟩
  refine jw_st (st' := [.int r1, .ref (x.2.2.2 o1), .long (M.2 58 j2), .int (M.1 57 j1), .ref (x.2.2.2 58)]) rfl ?_
  obtain ⟨j3, hj3, ej3, h⟩ := h
  refine jw_lald (pc := 107) (j := j3) dX1_floorOf_107 s1 hj3 ej3 z1 ?_
  refine jw_ladd (pc := 108) dX1_floorOf_108 ?_
  refine jw_last (pc := 109) (j := j2) dX1_floorOf_109 sC_58 hj2 ej2 (by decide) ?_
  replace h := h _ rfl
  generalize jrL M1 58 (vp_updL (M1.2 58) j2 ((M.2 58 j2) + (M1.2 o1 j3))) = M2 at h ⊢
  refine jw_iinc (pc := 110) (j := 4) (u := l4 + 1) (ls' := [(4, .int (l4 + 1)), (0, .ref (x.2.2.2 55)), (1, .ref (x.2.2.2 o1)), (2, .int l2), (3, .int l3), (5, .int l5)]) dX1_floorOf_110 rfl rfl (by decide) rfl ?_
  refine jw_goto (pc := 113) (tgt := 16) dX1_floorOf_113 (by decide) ?_
  exact jw_sub [1, 2, 3, 4, 0] rfl h
set_option maxRecDepth 20000 in
theorem b_X1_lightest {x : jX} {d : Nat} {M : jM} {P : jM → Int32 → Prop} {o0 : Nat} {a1 : Int32} 
    (h : JW x jtbC mX1_lightest (d + 1) (jI P) 7 [(0, .ref (x.2.2.2 o0)), (2, .int a1), (3, .int (-1 : Int32)), (4, .int (0 : Int32))] [] M) :
    JC x jtbC mX1_lightest (d + 1) [.ref (x.2.2.2 o0), .int a1] M (jI P) := by
  refine JC.of rfl (Nat.le_of_ble_eq_true rfl) ?_
  refine jw_ls (ls' := [(0, .ref (x.2.2.2 o0)), (1, .int a1)]) rfl ?_
  refine jw_iload_n (pc := 0) (j := 1) dX1_lightest_0 rfl rfl ?_
  refine jw_istore_n (pc := 1) (ls' := [(2, .int a1), (0, .ref (x.2.2.2 o0)), (1, .int a1)]) dX1_lightest_1 rfl (by decide) rfl ?_
  refine jw_iconst (pc := 2) (v := (-1)) dX1_lightest_2 rfl ?_
  refine jw_istore_n (pc := 3) (ls' := [(3, .int (-1 : Int32)), (2, .int a1), (0, .ref (x.2.2.2 o0)), (1, .int a1)]) dX1_lightest_3 rfl (by decide) rfl ?_
  refine jw_iconst (pc := 4) (v := 0) dX1_lightest_4 rfl ?_
  refine jw_istore (pc := 5) (ls' := [(4, .int (0 : Int32)), (3, .int (-1 : Int32)), (2, .int a1), (0, .ref (x.2.2.2 o0)), (1, .int a1)]) dX1_lightest_5 (by decide) rfl ?_
  exact jw_sub [3, 2, 1, 0] rfl h
set_option maxRecDepth 20000 in
theorem b_X1_lightest_7 {x : jX} {d : Nat} {M : jM} {P : jM → Int32 → Prop} {o0 : Nat} {n0 : Nat} {l2 : Int32} {l3 : Int32} {l4 : Int32} (s0 : js jtbC o0 = (23, n0)) (z0 : n0 < 2 ^ 31)
    (h : ((25 : Int32) ≤ l4 → JC x jtbC mJ9_max_7cf53 d [.int l3, .int (0 : Int32)] M (jI fun M1 r1 => P M1 r1)) ∧ (¬ (25 : Int32) ≤ l4 → (l2 = 0 → JC x jtbC mJ9_max_7cf53 d [.int l3, .int (0 : Int32)] M (jI fun M2 r2 => P M2 r2)) ∧ (¬ l2 = 0 → JC x jtbC mJ6_numberOfTrailingZeros_0f7a4 d [.int l2] M (jI fun M3 r3 => (l3 = (-1 : Int32) → JW x jtbC mX1_lightest (d + 1) (jI P) 40 [(0, .ref (x.2.2.2 o0)), (2, .int l2), (4, .int l4), (5, .int r3)] [] M3) ∧ (¬ l3 = (-1 : Int32) → ∃ j1, j1 < n0 ∧ r3 = nI j1 ∧ (∃ j2, j2 < n0 ∧ l3 = nI j2 ∧ (((M3.2 o0 j2) ≤ (M3.2 o0 j1) → JW x jtbC mX1_lightest (d + 1) (jI P) 7 [(0, .ref (x.2.2.2 o0)), (2, .int (l2 &&& (l2 - (1 : Int32)))), (3, .int l3), (4, .int (l4 + 1))] [] M3) ∧ (¬ (M3.2 o0 j2) ≤ (M3.2 o0 j1) → JW x jtbC mX1_lightest (d + 1) (jI P) 40 [(0, .ref (x.2.2.2 o0)), (2, .int l2), (4, .int l4), (5, .int r3)] [] M3)))))))) :
    JW x jtbC mX1_lightest (d + 1) (jI P) 7 [(0, .ref (x.2.2.2 o0)), (2, .int l2), (3, .int l3), (4, .int l4)] [] M := by
  refine jw_iload (pc := 7) (j := 3) dX1_lightest_7 rfl ?_
  refine jw_bipush (pc := 9) (v := 25) dX1_lightest_9 rfl ?_
  refine jw_icmp_ge (pc := 11) (tgt := 55) dX1_lightest_11 (by decide) (fun c => ?_) (fun c => ?_)
  · replace h := h.1 c
    refine jw_iload_n (pc := 55) (j := 2) dX1_lightest_55 rfl rfl ?_
    refine jw_iconst (pc := 56) (v := 0) dX1_lightest_56 rfl ?_
    refine jw_callS (pc := 57) (m2 := mJ9_max_7cf53) (As := [.int l3, .int (0 : Int32)]) (st := []) dX1_lightest_57 gm_J9_max_7cf53 ml_X1_84 rfl (Nat.le_of_ble_eq_true rfl) (JC.mono h ?_)
    clear h
    rintro M1 _ ⟨r1, rfl, h⟩
    refine jw_st (st' := [.int r1]) rfl ?_
    exact jw_iret (pc := 60) dX1_lightest_60 rfl ⟨_, rfl, h⟩
  · replace h := h.2 c
    refine jw_iload_n (pc := 14) (j := 1) dX1_lightest_14 rfl rfl ?_
    refine jw_if_eq (pc := 15) (tgt := 55) dX1_lightest_15 (by decide) (fun c => ?_) (fun c => ?_)
    · replace h := h.1 c
      refine jw_iload_n (pc := 55) (j := 2) dX1_lightest_55 rfl rfl ?_
      refine jw_iconst (pc := 56) (v := 0) dX1_lightest_56 rfl ?_
      refine jw_callS (pc := 57) (m2 := mJ9_max_7cf53) (As := [.int l3, .int (0 : Int32)]) (st := []) dX1_lightest_57 gm_J9_max_7cf53 ml_X1_84 rfl (Nat.le_of_ble_eq_true rfl) (JC.mono h ?_)
      clear h
      rintro M2 _ ⟨r2, rfl, h⟩
      refine jw_st (st' := [.int r2]) rfl ?_
      exact jw_iret (pc := 60) dX1_lightest_60 rfl ⟨_, rfl, h⟩
    · replace h := h.2 c
      refine jw_iload_n (pc := 18) (j := 1) dX1_lightest_18 rfl rfl ?_
      refine jw_callS (pc := 19) (m2 := mJ6_numberOfTrailingZeros_0f7a4) (As := [.int l2]) (st := []) dX1_lightest_19 gm_J6_numberOfTrailingZeros_0f7a4 ml_X1_81 rfl (Nat.le_of_ble_eq_true rfl) (JC.mono h ?_)
      clear h
      rintro M3 _ ⟨r3, rfl, h⟩
      refine jw_st (st' := [.int r3]) rfl ?_
      refine jw_istore (pc := 22) (ls' := [(5, .int r3), (0, .ref (x.2.2.2 o0)), (2, .int l2), (3, .int l3), (4, .int l4)]) dX1_lightest_22 (by decide) rfl ?_
      refine jw_iload_n (pc := 24) (j := 3) dX1_lightest_24 rfl rfl ?_
      refine jw_iconst (pc := 25) (v := (-1)) dX1_lightest_25 rfl ?_
      refine jw_icmp_eq (pc := 26) (tgt := 40) dX1_lightest_26 (by decide) (fun c => ?_) (fun c => ?_)
      · replace h := h.1 c
        exact jw_sub [1, 2, 4, 0] rfl h
      · replace h := h.2 c
        refine jw_aload_n (pc := 29) (j := 1) dX1_lightest_29 rfl rfl ?_
        refine jw_iload (pc := 30) (j := 0) dX1_lightest_30 rfl ?_
        obtain ⟨j1, hj1, ej1, h⟩ := h
        refine jw_lald (pc := 32) (j := j1) dX1_lightest_32 s0 hj1 ej1 z0 ?_
        refine jw_aload_n (pc := 33) (j := 1) dX1_lightest_33 rfl rfl ?_
        refine jw_iload_n (pc := 34) (j := 3) dX1_lightest_34 rfl rfl ?_
        obtain ⟨j2, hj2, ej2, h⟩ := h
        refine jw_lald (pc := 35) (j := j2) dX1_lightest_35 s0 hj2 ej2 z0 ?_
        refine jw_lcmp (pc := 36) dX1_lightest_36 ?_
        refine jw_if_ge (pc := 37) (tgt := 43) dX1_lightest_37 (by decide) (fun c => ?_) (fun c => ?_)
        · replace h := h.1 ((jcmp_ge _ _).mp c)
          refine jw_iload_n (pc := 43) (j := 2) dX1_lightest_43 rfl rfl ?_
          refine jw_iload_n (pc := 44) (j := 2) dX1_lightest_44 rfl rfl ?_
          refine jw_iconst (pc := 45) (v := 1) dX1_lightest_45 rfl ?_
          refine jw_isub (pc := 46) dX1_lightest_46 ?_
          refine jw_iand (pc := 47) dX1_lightest_47 ?_
          refine jw_istore_n (pc := 48) (ls' := [(2, .int (l2 &&& (l2 - (1 : Int32)))), (5, .int r3), (0, .ref (x.2.2.2 o0)), (3, .int l3), (4, .int l4)]) dX1_lightest_48 rfl (by decide) rfl ?_
          refine jw_iinc (pc := 49) (j := 4) (u := l4 + 1) (ls' := [(4, .int (l4 + 1)), (2, .int (l2 &&& (l2 - (1 : Int32)))), (5, .int r3), (0, .ref (x.2.2.2 o0)), (3, .int l3)]) dX1_lightest_49 rfl rfl (by decide) rfl ?_
          refine jw_goto (pc := 52) (tgt := 7) dX1_lightest_52 (by decide) ?_
          exact jw_sub [3, 1, 4, 0] rfl h
        · replace h := h.2 (fun z => c ((jcmp_ge _ _).mpr z))
          exact jw_sub [1, 2, 4, 0] rfl h
set_option maxRecDepth 20000 in
theorem b_X1_lightest_40 {x : jX} {d : Nat} {M : jM} {P : jM → Int32 → Prop} {o0 : Nat} {l2 : Int32} {l4 : Int32} {l5 : Int32} 
    (h : JW x jtbC mX1_lightest (d + 1) (jI P) 7 [(0, .ref (x.2.2.2 o0)), (2, .int (l2 &&& (l2 - (1 : Int32)))), (3, .int l5), (4, .int (l4 + 1))] [] M) :
    JW x jtbC mX1_lightest (d + 1) (jI P) 40 [(0, .ref (x.2.2.2 o0)), (2, .int l2), (4, .int l4), (5, .int l5)] [] M := by
  refine jw_iload (pc := 40) (j := 3) dX1_lightest_40 rfl ?_
  refine jw_istore_n (pc := 42) (ls' := [(3, .int l5), (0, .ref (x.2.2.2 o0)), (2, .int l2), (4, .int l4), (5, .int l5)]) dX1_lightest_42 rfl (by decide) rfl ?_
  refine jw_iload_n (pc := 43) (j := 2) dX1_lightest_43 rfl rfl ?_
  refine jw_iload_n (pc := 44) (j := 2) dX1_lightest_44 rfl rfl ?_
  refine jw_iconst (pc := 45) (v := 1) dX1_lightest_45 rfl ?_
  refine jw_isub (pc := 46) dX1_lightest_46 ?_
  refine jw_iand (pc := 47) dX1_lightest_47 ?_
  refine jw_istore_n (pc := 48) (ls' := [(2, .int (l2 &&& (l2 - (1 : Int32)))), (3, .int l5), (0, .ref (x.2.2.2 o0)), (4, .int l4), (5, .int l5)]) dX1_lightest_48 rfl (by decide) rfl ?_
  refine jw_iinc (pc := 49) (j := 3) (u := l4 + 1) (ls' := [(4, .int (l4 + 1)), (2, .int (l2 &&& (l2 - (1 : Int32)))), (3, .int l5), (0, .ref (x.2.2.2 o0)), (5, .int l5)]) dX1_lightest_49 rfl rfl (by decide) rfl ?_
  refine jw_goto (pc := 52) (tgt := 7) dX1_lightest_52 (by decide) ?_
  exact jw_sub [3, 1, 2, 0] rfl h
set_option maxRecDepth 20000 in
theorem b_X1_countWays {x : jX} {d : Nat} {M : jM} {P : jM → Int64 → Prop} {a1 : Int32} {o2 : Nat} 
    (h : JC x jtbC mX1_holdSlots d [.ref (x.2.2.2 55), .int a1] M (jZ fun M1 b1 => (b1 = true → JC x jtbC mJ7_fill_d0a16 d [.ref (x.2.2.2 61), .long (0 : Int64)] M1 (jV fun M2 => ∀ M3, M3 = jrL M2 61 (vp_updL (M2.2 61) 0 (1 : Int64)) → JW x jtbC mX1_countWays (d + 1) (jL P) 30 [(0, .ref (x.2.2.2 55)), (1, .int a1), (2, .ref (x.2.2.2 o2)), (3, .long (1 : Int64)), (5, .int (0 : Int32))] [] M3)) ∧ (b1 = false → P M1 (0 : Int64)))) :
    JC x jtbC mX1_countWays (d + 1) [.ref (x.2.2.2 55), .int a1, .ref (x.2.2.2 o2)] M (jL P) := by
  refine JC.of rfl (Nat.le_of_ble_eq_true rfl) ?_
  refine jw_ls (ls' := [(0, .ref (x.2.2.2 55)), (1, .int a1), (2, .ref (x.2.2.2 o2))]) rfl ?_
  refine jw_aload_n (pc := 0) (j := 0) dX1_countWays_0 rfl rfl ?_
  refine jw_iload_n (pc := 1) (j := 1) dX1_countWays_1 rfl rfl ?_
  refine jw_callV (pc := 2) (m2 := mX1_holdSlots) (As := [.int a1]) (st := []) dX1_countWays_2 sC_55 (by decide) rfl rfl gm_X1_holdSlots ml_X1_87 rfl (Nat.le_of_ble_eq_true rfl) (JC.mono h ?_)
  clear h
  rintro M1 _ ⟨b1, rfl, h⟩
  refine jw_st (st' := [.int (jb b1)]) rfl ?_
  refine jw_if_ne (pc := 5) (tgt := 10) dX1_countWays_5 (by decide) (fun c => ?_) (fun c => ?_)
  · replace h := h.1 (jb_ne c)
    refine jw_aload_n (pc := 10) (j := 0) dX1_countWays_10 rfl rfl ?_
    refine jw_getR (pc := 11) (r := 61) dX1_countWays_11 sC_55 fl_X1_28 (by decide) rfl rfl ?_
    refine jw_lconst (pc := 14) (v := 0) dX1_countWays_14 rfl ?_
    refine jw_callS (pc := 15) (m2 := mJ7_fill_d0a16) (As := [.ref (x.2.2.2 61), .long (0 : Int64)]) (st := []) dX1_countWays_15 gm_J7_fill_d0a16 ml_X1_69 rfl (Nat.le_of_ble_eq_true rfl) (JC.mono h ?_)
    clear h
    rintro M2 _ ⟨rfl, h⟩
    refine jw_st (st' := []) rfl ?_
    refine jw_aload_n (pc := 18) (j := 0) dX1_countWays_18 rfl rfl ?_
    refine jw_getR (pc := 19) (r := 61) dX1_countWays_19 sC_55 fl_X1_28 (by decide) rfl rfl ?_
    refine jw_iconst (pc := 22) (v := 0) dX1_countWays_22 rfl ?_
    refine jw_lconst (pc := 23) (v := 1) dX1_countWays_23 rfl ?_
    refine jw_last (pc := 24) (j := 0) dX1_countWays_24 sC_61 (by decide) rfl (by decide) ?_
    replace h := h _ rfl
    generalize jrL M2 61 (vp_updL (M2.2 61) 0 (1 : Int64)) = M3 at h ⊢
    refine jw_lconst (pc := 25) (v := 1) dX1_countWays_25 rfl ?_
    refine jw_lstore_n (pc := 26) (ls' := [(3, .long (1 : Int64)), (0, .ref (x.2.2.2 55)), (1, .int a1), (2, .ref (x.2.2.2 o2))]) dX1_countWays_26 rfl (by decide) rfl ?_
    refine jw_iconst (pc := 27) (v := 0) dX1_countWays_27 rfl ?_
    refine jw_istore (pc := 28) (ls' := [(5, .int (0 : Int32)), (3, .long (1 : Int64)), (0, .ref (x.2.2.2 55)), (1, .int a1), (2, .ref (x.2.2.2 o2))]) dX1_countWays_28 (by decide) rfl ?_
    exact jw_sub [2, 3, 4, 1, 0] rfl h
  · replace h := h.2 ((jb_0 _).mp c)
    refine jw_lconst (pc := 8) (v := 0) dX1_countWays_8 rfl ?_
    exact jw_lret (pc := 9) dX1_countWays_9 rfl ⟨_, rfl, h⟩
set_option maxRecDepth 20000 in
theorem b_X1_countWays_30 {x : jX} {d : Nat} {M : jM} {P : jM → Int64 → Prop} {o2 : Nat} {n2 : Nat} {l1 : Int32} {l3 : Int64} {l5 : Int32} (s2 : js jtbC o2 = (23, n2)) (z2 : n2 < 2 ^ 31)
    (h : (l1 ≤ l5 → P M ((l3 * (M.2 61 0)) - (l3 * (M.2 61 0)) / (1000007 : Int64) * (1000007 : Int64))) ∧ (¬ l1 ≤ l5 → JC x jtbC mX1_slotsMet d [.ref (x.2.2.2 55), .int l5] M (jI fun M1 r1 => (r1 = 0 → (¬ (((M1.1 55 0) >>> (l5 &&& 31)) &&& (1 : Int32)) = 0 → JW x jtbC mX1_countWays (d + 1) (jL P) 30 [(0, .ref (x.2.2.2 55)), (1, .int l1), (2, .ref (x.2.2.2 o2)), (3, .long l3), (5, .int (l5 + 1))] [] M1) ∧ ((((M1.1 55 0) >>> (l5 &&& 31)) &&& (1 : Int32)) = 0 → ∃ j1, j1 < n2 ∧ l5 = nI j1 ∧ (JW x jtbC mX1_countWays (d + 1) (jL P) 30 [(0, .ref (x.2.2.2 55)), (1, .int l1), (2, .ref (x.2.2.2 o2)), (3, .long ((l3 * ((M1.2 o2 j1) + (1 : Int64))) - (l3 * ((M1.2 o2 j1) + (1 : Int64))) / (1000007 : Int64) * (1000007 : Int64))), (5, .int (l5 + 1))] [] M1))) ∧ (¬ r1 = 0 → ∃ j2, j2 < n2 ∧ l5 = nI j2 ∧ (j2 < 25 ∧ (JC x jtbC mX1_raiseOrNot d [.ref (x.2.2.2 55), .int r1, .long (M1.2 o2 j2), .int (M1.1 60 j2)] M1 (jV fun M2 => JC x jtbC mX1_slotsClosing d [.ref (x.2.2.2 55), .int l5] M2 (jI fun M3 r2 => JC x jtbC mX1_closeSlots d [.ref (x.2.2.2 55), .int r2, .int (M3.1 60 j2)] M3 (jV fun M4 => JW x jtbC mX1_countWays (d + 1) (jL P) 30 [(0, .ref (x.2.2.2 55)), (1, .int l1), (2, .ref (x.2.2.2 o2)), (3, .long l3), (5, .int (l5 + 1))] [] M4))))))))) :
    JW x jtbC mX1_countWays (d + 1) (jL P) 30 [(0, .ref (x.2.2.2 55)), (1, .int l1), (2, .ref (x.2.2.2 o2)), (3, .long l3), (5, .int l5)] [] M := by
  refine jw_iload (pc := 30) (j := 4) dX1_countWays_30 rfl ?_
  refine jw_iload_n (pc := 32) (j := 1) dX1_countWays_32 rfl rfl ?_
  refine jw_icmp_ge (pc := 33) (tgt := 117) dX1_countWays_33 (by decide) (fun c => ?_) (fun c => ?_)
  · replace h := h.1 c
    refine jw_lload_n (pc := 117) (j := 3) dX1_countWays_117 rfl rfl ?_
    refine jw_aload_n (pc := 118) (j := 0) dX1_countWays_118 rfl rfl ?_
    refine jw_getR (pc := 119) (r := 61) dX1_countWays_119 sC_55 fl_X1_28 (by decide) rfl rfl ?_
    refine jw_iconst (pc := 122) (v := 0) dX1_countWays_122 rfl ?_
    refine jw_lald (pc := 123) (j := 0) dX1_countWays_123 sC_61 (by decide) rfl (by decide) ?_
    refine jw_lmul (pc := 124) dX1_countWays_124 ?_
    refine jw_ldc2 (pc := 125) (v := 1000007) dX1_countWays_125 kl_X1_104 ?_
    refine jw_lrem (pc := 128) dX1_countWays_128 (by decide) ?_
    exact jw_lret (pc := 129) dX1_countWays_129 rfl ⟨_, rfl, h⟩
  · replace h := h.2 c
    refine jw_aload_n (pc := 36) (j := 0) dX1_countWays_36 rfl rfl ?_
    refine jw_iload (pc := 37) (j := 4) dX1_countWays_37 rfl ?_
    refine jw_callV (pc := 39) (m2 := mX1_slotsMet) (As := [.int l5]) (st := []) dX1_countWays_39 sC_55 (by decide) rfl rfl gm_X1_slotsMet ml_X1_91 rfl (Nat.le_of_ble_eq_true rfl) (JC.mono h ?_)
    clear h
    rintro M1 _ ⟨r1, rfl, h⟩
    refine jw_st (st' := [.int r1]) rfl ?_
    refine jw_istore (pc := 42) (ls' := [(6, .int r1), (0, .ref (x.2.2.2 55)), (1, .int l1), (2, .ref (x.2.2.2 o2)), (3, .long l3), (5, .int l5)]) dX1_countWays_42 (by decide) rfl ?_
    refine jw_iload (pc := 44) (j := 0) dX1_countWays_44 rfl ?_
    refine jw_if_eq (pc := 46) (tgt := 86) dX1_countWays_46 (by decide) (fun c => ?_) (fun c => ?_)
    · replace h := h.1 c
      refine jw_aload_n (pc := 86) (j := 1) dX1_countWays_86 rfl rfl ?_
      refine jw_getI (pc := 87) dX1_countWays_87 sC_55 fl_X1_35 (by decide) rfl ?_
      refine jw_iload (pc := 90) (j := 5) dX1_countWays_90 rfl ?_
      refine jw_ishr (pc := 92) dX1_countWays_92 ?_
      refine jw_iconst (pc := 93) (v := 1) dX1_countWays_93 rfl ?_
      refine jw_iand (pc := 94) dX1_countWays_94 ?_
      refine jw_if_ne (pc := 95) (tgt := 111) dX1_countWays_95 (by decide) (fun c => ?_) (fun c => ?_)
      · replace h := h.1 c
        refine jw_iinc (pc := 111) (j := 5) (u := l5 + 1) (ls' := [(5, .int (l5 + 1)), (6, .int r1), (0, .ref (x.2.2.2 55)), (1, .int l1), (2, .ref (x.2.2.2 o2)), (3, .long l3)]) dX1_countWays_111 rfl rfl (by decide) rfl ?_
        refine jw_goto (pc := 114) (tgt := 30) dX1_countWays_114 (by decide) ?_
        exact jw_sub [2, 3, 4, 5, 0] rfl h
      · replace h := h.2 c
        refine jw_lload_n (pc := 98) (j := 4) dX1_countWays_98 rfl rfl ?_
        refine jw_aload_n (pc := 99) (j := 3) dX1_countWays_99 rfl rfl ?_
        refine jw_iload (pc := 100) (j := 5) dX1_countWays_100 rfl ?_
        obtain ⟨j1, hj1, ej1, h⟩ := h
        refine jw_lald (pc := 102) (j := j1) dX1_countWays_102 s2 hj1 ej1 z2 ?_
        refine jw_lconst (pc := 103) (v := 1) dX1_countWays_103 rfl ?_
        refine jw_ladd (pc := 104) dX1_countWays_104 ?_
        refine jw_lmul (pc := 105) dX1_countWays_105 ?_
        refine jw_ldc2 (pc := 106) (v := 1000007) dX1_countWays_106 kl_X1_104 ?_
        refine jw_lrem (pc := 109) dX1_countWays_109 (by decide) ?_
        refine jw_lstore_n (pc := 110) (ls' := [(3, .long ((l3 * ((M1.2 o2 j1) + (1 : Int64))) - (l3 * ((M1.2 o2 j1) + (1 : Int64))) / (1000007 : Int64) * (1000007 : Int64))), (6, .int r1), (0, .ref (x.2.2.2 55)), (1, .int l1), (2, .ref (x.2.2.2 o2)), (5, .int l5)]) dX1_countWays_110 rfl (by decide) rfl ?_
        refine jw_iinc (pc := 111) (j := 5) (u := l5 + 1) (ls' := [(5, .int (l5 + 1)), (3, .long ((l3 * ((M1.2 o2 j1) + (1 : Int64))) - (l3 * ((M1.2 o2 j1) + (1 : Int64))) / (1000007 : Int64) * (1000007 : Int64))), (6, .int r1), (0, .ref (x.2.2.2 55)), (1, .int l1), (2, .ref (x.2.2.2 o2))]) dX1_countWays_111 rfl rfl (by decide) rfl ?_
        refine jw_goto (pc := 114) (tgt := 30) dX1_countWays_114 (by decide) ?_
        exact jw_sub [3, 4, 5, 1, 0] rfl h
    · replace h := h.2 c
      refine jw_aload_n (pc := 49) (j := 1) dX1_countWays_49 rfl rfl ?_
      refine jw_iload (pc := 50) (j := 0) dX1_countWays_50 rfl ?_
      refine jw_aload_n (pc := 52) (j := 3) dX1_countWays_52 rfl rfl ?_
      refine jw_iload (pc := 53) (j := 5) dX1_countWays_53 rfl ?_
      obtain ⟨j2, hj2, ej2, h⟩ := h
      refine jw_lald (pc := 55) (j := j2) dX1_countWays_55 s2 hj2 ej2 z2 ?_
      refine jw_aload_n (pc := 56) (j := 1) dX1_countWays_56 rfl rfl ?_
      refine jw_getR (pc := 57) (r := 60) dX1_countWays_57 sC_55 fl_X1_25 (by decide) rfl rfl ?_
      refine jw_iload (pc := 60) (j := 5) dX1_countWays_60 rfl ?_
      obtain ⟨hj1, h⟩ := h
      refine jw_iald (pc := 62) (j := j2) dX1_countWays_62 sC_60 hj1 ej2 (by decide) ?_
      refine jw_callV (pc := 63) (m2 := mX1_raiseOrNot) (As := [.int r1, .long (M1.2 o2 j2), .int (M1.1 60 j2)]) (st := []) dX1_countWays_63 sC_55 (by decide) rfl rfl gm_X1_raiseOrNot ml_X1_94 rfl (Nat.le_of_ble_eq_true rfl) (JC.mono h ?_)
      clear h
      rintro M2 _ ⟨rfl, h⟩
      refine jw_st (st' := []) rfl ?_
      refine jw_aload_n (pc := 66) (j := 1) dX1_countWays_66 rfl rfl ?_
      refine jw_aload_n (pc := 67) (j := 1) dX1_countWays_67 rfl rfl ?_
      refine jw_iload (pc := 68) (j := 5) dX1_countWays_68 rfl ?_
      refine jw_callV (pc := 70) (m2 := mX1_slotsClosing) (As := [.int l5]) (st := [.ref (x.2.2.2 55)]) dX1_countWays_70 sC_55 (by decide) rfl rfl gm_X1_slotsClosing ml_X1_98 rfl (Nat.le_of_ble_eq_true rfl) (JC.mono h ?_)
      clear h
      rintro M3 _ ⟨r2, rfl, h⟩
      refine jw_st (st' := [.int r2, .ref (x.2.2.2 55)]) rfl ?_
      refine jw_aload_n (pc := 73) (j := 1) dX1_countWays_73 rfl rfl ?_
      refine jw_getR (pc := 74) (r := 60) dX1_countWays_74 sC_55 fl_X1_25 (by decide) rfl rfl ?_
      refine jw_iload (pc := 77) (j := 5) dX1_countWays_77 rfl ?_
      refine jw_iald (pc := 79) (j := j2) dX1_countWays_79 sC_60 hj1 ej2 (by decide) ?_
      refine jw_callV (pc := 80) (m2 := mX1_closeSlots) (As := [.int r2, .int (M3.1 60 j2)]) (st := []) dX1_countWays_80 sC_55 (by decide) rfl rfl gm_X1_closeSlots ml_X1_101 rfl (Nat.le_of_ble_eq_true rfl) (JC.mono h ?_)
      clear h
      rintro M4 _ ⟨rfl, h⟩
      refine jw_st (st' := []) rfl ?_
      refine jw_goto (pc := 83) (tgt := 111) dX1_countWays_83 (by decide) ?_
      refine jw_iinc (pc := 111) (j := 5) (u := l5 + 1) (ls' := [(5, .int (l5 + 1)), (6, .int r1), (0, .ref (x.2.2.2 55)), (1, .int l1), (2, .ref (x.2.2.2 o2)), (3, .long l3)]) dX1_countWays_111 rfl rfl (by decide) rfl ?_
      refine jw_goto (pc := 114) (tgt := 30) dX1_countWays_114 (by decide) ?_
      exact jw_sub [2, 3, 4, 5, 0] rfl h
set_option maxRecDepth 20000 in
theorem b_X1_holdSlots {x : jX} {d : Nat} {M : jM} {P : jM → Bool → Prop} {a1 : Int32} 
    (h : JW x jtbC mX1_holdSlots (d + 1) (jZ P) 4 [(0, .ref (x.2.2.2 55)), (1, .int a1), (2, .int (0 : Int32)), (3, .int (0 : Int32))] [] M) :
    JC x jtbC mX1_holdSlots (d + 1) [.ref (x.2.2.2 55), .int a1] M (jZ P) := by
  refine JC.of rfl (Nat.le_of_ble_eq_true rfl) ?_
  refine jw_ls (ls' := [(0, .ref (x.2.2.2 55)), (1, .int a1)]) rfl ?_
  refine jw_iconst (pc := 0) (v := 0) dX1_holdSlots_0 rfl ?_
  refine jw_istore_n (pc := 1) (ls' := [(2, .int (0 : Int32)), (0, .ref (x.2.2.2 55)), (1, .int a1)]) dX1_holdSlots_1 rfl (by decide) rfl ?_
  refine jw_iconst (pc := 2) (v := 0) dX1_holdSlots_2 rfl ?_
  refine jw_istore_n (pc := 3) (ls' := [(3, .int (0 : Int32)), (2, .int (0 : Int32)), (0, .ref (x.2.2.2 55)), (1, .int a1)]) dX1_holdSlots_3 rfl (by decide) rfl ?_
  exact jw_sub [2, 3, 1, 0] rfl h
set_option maxRecDepth 20000 in
theorem b_X1_holdSlots_4 {x : jX} {d : Nat} {M : jM} {P : jM → Bool → Prop} {l1 : Int32} {l2 : Int32} {l3 : Int32} 
    (h : (l1 ≤ l3 → P M true) ∧ (¬ l1 ≤ l3 → JW x jtbC mX1_holdSlots (d + 1) (jZ P) 12 [(0, .ref (x.2.2.2 55)), (1, .int l1), (2, .int l2), (3, .int l3), (4, .int (0 : Int32))] [] M)) :
    JW x jtbC mX1_holdSlots (d + 1) (jZ P) 4 [(0, .ref (x.2.2.2 55)), (1, .int l1), (2, .int l2), (3, .int l3)] [] M := by
  refine jw_iload_n (pc := 4) (j := 3) dX1_holdSlots_4 rfl rfl ?_
  refine jw_iload_n (pc := 5) (j := 1) dX1_holdSlots_5 rfl rfl ?_
  refine jw_icmp_ge (pc := 6) (tgt := 106) dX1_holdSlots_6 (by decide) (fun c => ?_) (fun c => ?_)
  · replace h := h.1 c
    refine jw_iconst (pc := 106) (v := 1) dX1_holdSlots_106 rfl ?_
    exact jw_zret (pc := 107) dX1_holdSlots_107 rfl (Or.inr rfl) ⟨true, rfl, h⟩
  · replace h := h.2 c
    refine jw_iconst (pc := 9) (v := 0) dX1_holdSlots_9 rfl ?_
    refine jw_istore (pc := 10) (ls' := [(4, .int (0 : Int32)), (0, .ref (x.2.2.2 55)), (1, .int l1), (2, .int l2), (3, .int l3)]) dX1_holdSlots_10 (by decide) rfl ?_
    exact jw_sub [1, 2, 3, 4, 0] rfl h
set_option maxRecDepth 20000 in
theorem b_X1_holdSlots_12 {x : jX} {d : Nat} {M : jM} {P : jM → Bool → Prop} {l1 : Int32} {l2 : Int32} {l3 : Int32} {l4 : Int32} 
    (h : ((M.1 55 3) ≤ l4 → (l2 < (2048 : Int32) → JC x jtbC mJ6_numberOfLeadingZeros_0f7a4 d [.int l2] M (jI fun M1 r1 => ∃ j1, j1 < 25 ∧ l3 = nI j1 ∧ (∀ M2, M2 = jrI M1 60 (upd (M1.1 60) j1 ((1 : Int32) <<< (((32 : Int32) - r1) &&& 31))) → JC x jtbC mX1_slotsClosing d [.ref (x.2.2.2 55), .int l3] M2 (jI fun M3 r2 => JW x jtbC mX1_holdSlots (d + 1) (jZ P) 4 [(0, .ref (x.2.2.2 55)), (1, .int l1), (2, .int (l2 &&& (r2 ^^^ (-1 : Int32)))), (3, .int (l3 + 1))] [] M3)))) ∧ (¬ l2 < (2048 : Int32) → P M false)) ∧ (¬ (M.1 55 3) ≤ l4 → ∃ j2, j2 < 54 ∧ l4 = nI j2 ∧ (JC x jtbC mJ6_numberOfTrailingZeros_0f7a4 d [.int (M.1 56 j2)] M (jI fun M4 r3 => (¬ r3 = l3 → JW x jtbC mX1_holdSlots (d + 1) (jZ P) 12 [(0, .ref (x.2.2.2 55)), (1, .int l1), (2, .int l2), (3, .int l3), (4, .int (l4 + 1))] [] M4) ∧ (r3 = l3 → JC x jtbC mJ6_numberOfTrailingZeros_0f7a4 d [.int (l2 ^^^ (-1 : Int32))] M4 (jI fun M5 r4 => ∀ M6, M6 = jrI M5 59 (upd (M5.1 59) j2 r4) → JW x jtbC mX1_holdSlots (d + 1) (jZ P) 12 [(0, .ref (x.2.2.2 55)), (1, .int l1), (2, .int (l2 ||| ((1 : Int32) <<< ((M6.1 59 j2) &&& 31)))), (3, .int l3), (4, .int (l4 + 1))] [] M6)))))) :
    JW x jtbC mX1_holdSlots (d + 1) (jZ P) 12 [(0, .ref (x.2.2.2 55)), (1, .int l1), (2, .int l2), (3, .int l3), (4, .int l4)] [] M := by
  refine jw_iload (pc := 12) (j := 4) dX1_holdSlots_12 rfl ?_
  refine jw_aload_n (pc := 14) (j := 0) dX1_holdSlots_14 rfl rfl ?_
  refine jw_getI (pc := 15) dX1_holdSlots_15 sC_55 fl_X1_31 (by decide) rfl ?_
  refine jw_icmp_ge (pc := 18) (tgt := 66) dX1_holdSlots_18 (by decide) (fun c => ?_) (fun c => ?_)
  · replace h := h.1 c
    refine jw_iload_n (pc := 66) (j := 2) dX1_holdSlots_66 rfl rfl ?_
    refine jw_sipush (pc := 67) (v := 2048) dX1_holdSlots_67 rfl ?_
    refine jw_icmp_lt (pc := 70) (tgt := 75) dX1_holdSlots_70 (by decide) (fun c => ?_) (fun c => ?_)
    · replace h := h.1 c
      refine jw_aload_n (pc := 75) (j := 0) dX1_holdSlots_75 rfl rfl ?_
      refine jw_getR (pc := 76) (r := 60) dX1_holdSlots_76 sC_55 fl_X1_25 (by decide) rfl rfl ?_
      refine jw_iload_n (pc := 79) (j := 3) dX1_holdSlots_79 rfl rfl ?_
      refine jw_iconst (pc := 80) (v := 1) dX1_holdSlots_80 rfl ?_
      refine jw_bipush (pc := 81) (v := 32) dX1_holdSlots_81 rfl ?_
      refine jw_iload_n (pc := 83) (j := 2) dX1_holdSlots_83 rfl rfl ?_
      refine jw_callS (pc := 84) (m2 := mJ6_numberOfLeadingZeros_0f7a4) (As := [.int l2]) (st := [.int (32 : Int32), .int (1 : Int32), .int l3, .ref (x.2.2.2 60)]) dX1_holdSlots_84 gm_J6_numberOfLeadingZeros_0f7a4 ml_X1_106 rfl (Nat.le_of_ble_eq_true rfl) (JC.mono h ?_)
      clear h
      rintro M1 _ ⟨r1, rfl, h⟩
      refine jw_st (st' := [.int r1, .int (32 : Int32), .int (1 : Int32), .int l3, .ref (x.2.2.2 60)]) rfl ?_
      refine jw_isub (pc := 87) dX1_holdSlots_87 ?_
      refine jw_ishl (pc := 88) dX1_holdSlots_88 ?_
      obtain ⟨j1, hj1, ej1, h⟩ := h
      refine jw_iast (pc := 89) (j := j1) dX1_holdSlots_89 sC_60 hj1 ej1 (by decide) ?_
      replace h := h _ rfl
      generalize jrI M1 60 (upd (M1.1 60) j1 ((1 : Int32) <<< (((32 : Int32) - r1) &&& 31))) = M2 at h ⊢
      refine jw_iload_n (pc := 90) (j := 2) dX1_holdSlots_90 rfl rfl ?_
      refine jw_aload_n (pc := 91) (j := 0) dX1_holdSlots_91 rfl rfl ?_
      refine jw_iload_n (pc := 92) (j := 3) dX1_holdSlots_92 rfl rfl ?_
      refine jw_callV (pc := 93) (m2 := mX1_slotsClosing) (As := [.int l3]) (st := [.int l2]) dX1_holdSlots_93 sC_55 (by decide) rfl rfl gm_X1_slotsClosing ml_X1_98 rfl (Nat.le_of_ble_eq_true rfl) (JC.mono h ?_)
      clear h
      rintro M3 _ ⟨r2, rfl, h⟩
      refine jw_st (st' := [.int r2, .int l2]) rfl ?_
      refine jw_iconst (pc := 96) (v := (-1)) dX1_holdSlots_96 rfl ?_
      refine jw_ixor (pc := 97) dX1_holdSlots_97 ?_
      refine jw_iand (pc := 98) dX1_holdSlots_98 ?_
      refine jw_istore_n (pc := 99) (ls' := [(2, .int (l2 &&& (r2 ^^^ (-1 : Int32)))), (0, .ref (x.2.2.2 55)), (1, .int l1), (3, .int l3), (4, .int l4)]) dX1_holdSlots_99 rfl (by decide) rfl ?_
      refine jw_iinc (pc := 100) (j := 3) (u := l3 + 1) (ls' := [(3, .int (l3 + 1)), (2, .int (l2 &&& (r2 ^^^ (-1 : Int32)))), (0, .ref (x.2.2.2 55)), (1, .int l1), (4, .int l4)]) dX1_holdSlots_100 rfl rfl (by decide) rfl ?_
      refine jw_goto (pc := 103) (tgt := 4) dX1_holdSlots_103 (by decide) ?_
      exact jw_sub [2, 3, 1, 0] rfl h
    · replace h := h.2 c
      refine jw_iconst (pc := 73) (v := 0) dX1_holdSlots_73 rfl ?_
      exact jw_zret (pc := 74) dX1_holdSlots_74 rfl (Or.inl rfl) ⟨false, rfl, h⟩
  · replace h := h.2 c
    refine jw_aload_n (pc := 21) (j := 0) dX1_holdSlots_21 rfl rfl ?_
    refine jw_getR (pc := 22) (r := 56) dX1_holdSlots_22 sC_55 fl_X1_9 (by decide) rfl rfl ?_
    refine jw_iload (pc := 25) (j := 4) dX1_holdSlots_25 rfl ?_
    obtain ⟨j2, hj2, ej2, h⟩ := h
    refine jw_iald (pc := 27) (j := j2) dX1_holdSlots_27 sC_56 hj2 ej2 (by decide) ?_
    refine jw_callS (pc := 28) (m2 := mJ6_numberOfTrailingZeros_0f7a4) (As := [.int (M.1 56 j2)]) (st := []) dX1_holdSlots_28 gm_J6_numberOfTrailingZeros_0f7a4 ml_X1_81 rfl (Nat.le_of_ble_eq_true rfl) (JC.mono h ?_)
    clear h
    rintro M4 _ ⟨r3, rfl, h⟩
    refine jw_st (st' := [.int r3]) rfl ?_
    refine jw_iload_n (pc := 31) (j := 3) dX1_holdSlots_31 rfl rfl ?_
    refine jw_icmp_ne (pc := 32) (tgt := 60) dX1_holdSlots_32 (by decide) (fun c => ?_) (fun c => ?_)
    · replace h := h.1 c
      refine jw_iinc (pc := 60) (j := 4) (u := l4 + 1) (ls' := [(4, .int (l4 + 1)), (0, .ref (x.2.2.2 55)), (1, .int l1), (2, .int l2), (3, .int l3)]) dX1_holdSlots_60 rfl rfl (by decide) rfl ?_
      refine jw_goto (pc := 63) (tgt := 12) dX1_holdSlots_63 (by decide) ?_
      exact jw_sub [1, 2, 3, 4, 0] rfl h
    · replace h := h.2 c
      refine jw_aload_n (pc := 35) (j := 0) dX1_holdSlots_35 rfl rfl ?_
      refine jw_getR (pc := 36) (r := 59) dX1_holdSlots_36 sC_55 fl_X1_22 (by decide) rfl rfl ?_
      refine jw_iload (pc := 39) (j := 4) dX1_holdSlots_39 rfl ?_
      refine jw_iload_n (pc := 41) (j := 2) dX1_holdSlots_41 rfl rfl ?_
      refine jw_iconst (pc := 42) (v := (-1)) dX1_holdSlots_42 rfl ?_
      refine jw_ixor (pc := 43) dX1_holdSlots_43 ?_
      refine jw_callS (pc := 44) (m2 := mJ6_numberOfTrailingZeros_0f7a4) (As := [.int (l2 ^^^ (-1 : Int32))]) (st := [.int l4, .ref (x.2.2.2 59)]) dX1_holdSlots_44 gm_J6_numberOfTrailingZeros_0f7a4 ml_X1_81 rfl (Nat.le_of_ble_eq_true rfl) (JC.mono h ?_)
      clear h
      rintro M5 _ ⟨r4, rfl, h⟩
      refine jw_st (st' := [.int r4, .int l4, .ref (x.2.2.2 59)]) rfl ?_
      refine jw_iast (pc := 47) (j := j2) dX1_holdSlots_47 sC_59 hj2 ej2 (by decide) ?_
      replace h := h _ rfl
      generalize jrI M5 59 (upd (M5.1 59) j2 r4) = M6 at h ⊢
      refine jw_iload_n (pc := 48) (j := 2) dX1_holdSlots_48 rfl rfl ?_
      refine jw_iconst (pc := 49) (v := 1) dX1_holdSlots_49 rfl ?_
      refine jw_aload_n (pc := 50) (j := 0) dX1_holdSlots_50 rfl rfl ?_
      refine jw_getR (pc := 51) (r := 59) dX1_holdSlots_51 sC_55 fl_X1_22 (by decide) rfl rfl ?_
      refine jw_iload (pc := 54) (j := 4) dX1_holdSlots_54 rfl ?_
      refine jw_iald (pc := 56) (j := j2) dX1_holdSlots_56 sC_59 hj2 ej2 (by decide) ?_
      refine jw_ishl (pc := 57) dX1_holdSlots_57 ?_
      refine jw_ior (pc := 58) dX1_holdSlots_58 ?_
      refine jw_istore_n (pc := 59) (ls' := [(2, .int (l2 ||| ((1 : Int32) <<< ((M6.1 59 j2) &&& 31)))), (0, .ref (x.2.2.2 55)), (1, .int l1), (3, .int l3), (4, .int l4)]) dX1_holdSlots_59 rfl (by decide) rfl ?_
      refine jw_iinc (pc := 60) (j := 4) (u := l4 + 1) (ls' := [(4, .int (l4 + 1)), (2, .int (l2 ||| ((1 : Int32) <<< ((M6.1 59 j2) &&& 31)))), (0, .ref (x.2.2.2 55)), (1, .int l1), (3, .int l3)]) dX1_holdSlots_60 rfl rfl (by decide) rfl ?_
      refine jw_goto (pc := 63) (tgt := 12) dX1_holdSlots_63 (by decide) ?_
      exact jw_sub [2, 3, 1, 4, 0] rfl h
set_option maxRecDepth 20000 in
theorem b_X1_slotsClosing {x : jX} {d : Nat} {M : jM} {P : jM → Int32 → Prop} {a1 : Int32} 
    (h : JW x jtbC mX1_slotsClosing (d + 1) (jI P) 4 [(0, .ref (x.2.2.2 55)), (1, .int a1), (2, .int (0 : Int32)), (3, .int (0 : Int32))] [] M) :
    JC x jtbC mX1_slotsClosing (d + 1) [.ref (x.2.2.2 55), .int a1] M (jI P) := by
  refine JC.of rfl (Nat.le_of_ble_eq_true rfl) ?_
  refine jw_ls (ls' := [(0, .ref (x.2.2.2 55)), (1, .int a1)]) rfl ?_
  refine jw_iconst (pc := 0) (v := 0) dX1_slotsClosing_0 rfl ?_
  refine jw_istore_n (pc := 1) (ls' := [(2, .int (0 : Int32)), (0, .ref (x.2.2.2 55)), (1, .int a1)]) dX1_slotsClosing_1 rfl (by decide) rfl ?_
  refine jw_iconst (pc := 2) (v := 0) dX1_slotsClosing_2 rfl ?_
  refine jw_istore_n (pc := 3) (ls' := [(3, .int (0 : Int32)), (2, .int (0 : Int32)), (0, .ref (x.2.2.2 55)), (1, .int a1)]) dX1_slotsClosing_3 rfl (by decide) rfl ?_
  exact jw_sub [2, 3, 1, 0] rfl h
set_option maxRecDepth 20000 in
theorem b_X1_slotsClosing_4 {x : jX} {d : Nat} {M : jM} {P : jM → Int32 → Prop} {l1 : Int32} {l2 : Int32} {l3 : Int32} 
    (h : ((M.1 55 3) ≤ l3 → P M l2) ∧ (¬ (M.1 55 3) ≤ l3 → ∃ j1, j1 < 54 ∧ l3 = nI j1 ∧ (JC x jtbC mJ6_numberOfLeadingZeros_0f7a4 d [.int (M.1 56 j1)] M (jI fun M1 r1 => (¬ ((31 : Int32) - r1) = l1 → JW x jtbC mX1_slotsClosing (d + 1) (jI P) 33 [(0, .ref (x.2.2.2 55)), (1, .int l1), (2, .int l2), (3, .int l3)] [.int (0 : Int32)] M1) ∧ (((31 : Int32) - r1) = l1 → JW x jtbC mX1_slotsClosing (d + 1) (jI P) 33 [(0, .ref (x.2.2.2 55)), (1, .int l1), (2, .int l2), (3, .int l3)] [.int (1 : Int32)] M1))))) :
    JW x jtbC mX1_slotsClosing (d + 1) (jI P) 4 [(0, .ref (x.2.2.2 55)), (1, .int l1), (2, .int l2), (3, .int l3)] [] M := by
  refine jw_iload_n (pc := 4) (j := 3) dX1_slotsClosing_4 rfl rfl ?_
  refine jw_aload_n (pc := 5) (j := 0) dX1_slotsClosing_5 rfl rfl ?_
  refine jw_getI (pc := 6) dX1_slotsClosing_6 sC_55 fl_X1_31 (by decide) rfl ?_
  refine jw_icmp_ge (pc := 9) (tgt := 61) dX1_slotsClosing_9 (by decide) (fun c => ?_) (fun c => ?_)
  · replace h := h.1 c
    refine jw_iload_n (pc := 61) (j := 2) dX1_slotsClosing_61 rfl rfl ?_
    exact jw_iret (pc := 62) dX1_slotsClosing_62 rfl ⟨_, rfl, h⟩
  · replace h := h.2 c
    refine jw_bipush (pc := 12) (v := 31) dX1_slotsClosing_12 rfl ?_
    refine jw_aload_n (pc := 14) (j := 0) dX1_slotsClosing_14 rfl rfl ?_
    refine jw_getR (pc := 15) (r := 56) dX1_slotsClosing_15 sC_55 fl_X1_9 (by decide) rfl rfl ?_
    refine jw_iload_n (pc := 18) (j := 3) dX1_slotsClosing_18 rfl rfl ?_
    obtain ⟨j1, hj1, ej1, h⟩ := h
    refine jw_iald (pc := 19) (j := j1) dX1_slotsClosing_19 sC_56 hj1 ej1 (by decide) ?_
    refine jw_callS (pc := 20) (m2 := mJ6_numberOfLeadingZeros_0f7a4) (As := [.int (M.1 56 j1)]) (st := [.int (31 : Int32)]) dX1_slotsClosing_20 gm_J6_numberOfLeadingZeros_0f7a4 ml_X1_106 rfl (Nat.le_of_ble_eq_true rfl) (JC.mono h ?_)
    clear h
    rintro M1 _ ⟨r1, rfl, h⟩
    refine jw_st (st' := [.int r1, .int (31 : Int32)]) rfl ?_
    refine jw_isub (pc := 23) dX1_slotsClosing_23 ?_
    refine jw_iload_n (pc := 24) (j := 1) dX1_slotsClosing_24 rfl rfl ?_
    refine jw_icmp_ne (pc := 25) (tgt := 32) dX1_slotsClosing_25 (by decide) (fun c => ?_) (fun c => ?_)
    · replace h := h.1 c
      refine jw_iconst (pc := 32) (v := 0) dX1_slotsClosing_32 rfl ?_
      exact jw_sub [0, 1, 2, 3] rfl h
    · replace h := h.2 c
      refine jw_iconst (pc := 28) (v := 1) dX1_slotsClosing_28 rfl ?_
      refine jw_goto (pc := 29) (tgt := 33) dX1_slotsClosing_29 (by decide) ?_
      exact jw_sub [0, 1, 2, 3] rfl h
set_option maxRecDepth 20000 in
theorem b_X1_slotsClosing_33 {x : jX} {d : Nat} {M : jM} {P : jM → Int32 → Prop} {l1 : Int32} {l2 : Int32} {l3 : Int32} {k0 : Int32} 
    (h : (k0 = 0 → JW x jtbC mX1_slotsClosing (d + 1) (jI P) 4 [(0, .ref (x.2.2.2 55)), (1, .int l1), (2, .int (l2 ||| (0 : Int32))), (3, .int (l3 + 1))] [] M) ∧ (¬ k0 = 0 → ∃ j1, j1 < 54 ∧ l3 = nI j1 ∧ (JW x jtbC mX1_slotsClosing (d + 1) (jI P) 4 [(0, .ref (x.2.2.2 55)), (1, .int l1), (2, .int (l2 ||| ((1 : Int32) <<< ((M.1 59 j1) &&& 31)))), (3, .int (l3 + 1))] [] M))) :
    JW x jtbC mX1_slotsClosing (d + 1) (jI P) 33 [(0, .ref (x.2.2.2 55)), (1, .int l1), (2, .int l2), (3, .int l3)] [.int k0] M := by
  refine jw_istore (pc := 33) (ls' := [(4, .int k0), (0, .ref (x.2.2.2 55)), (1, .int l1), (2, .int l2), (3, .int l3)]) dX1_slotsClosing_33 (by decide) rfl ?_
  refine jw_iload_n (pc := 35) (j := 3) dX1_slotsClosing_35 rfl rfl ?_
  refine jw_iload (pc := 36) (j := 0) dX1_slotsClosing_36 rfl ?_
  refine jw_if_eq (pc := 38) (tgt := 52) dX1_slotsClosing_38 (by decide) (fun c => ?_) (fun c => ?_)
  · replace h := h.1 c
    refine jw_iconst (pc := 52) (v := 0) dX1_slotsClosing_52 rfl ?_
    refine jw_ior (pc := 53) dX1_slotsClosing_53 ?_
    refine jw_istore_n (pc := 54) (ls' := [(2, .int (l2 ||| (0 : Int32))), (4, .int k0), (0, .ref (x.2.2.2 55)), (1, .int l1), (3, .int l3)]) dX1_slotsClosing_54 rfl (by decide) rfl ?_
    refine jw_iinc (pc := 55) (j := 4) (u := l3 + 1) (ls' := [(3, .int (l3 + 1)), (2, .int (l2 ||| (0 : Int32))), (4, .int k0), (0, .ref (x.2.2.2 55)), (1, .int l1)]) dX1_slotsClosing_55 rfl rfl (by decide) rfl ?_
    refine jw_goto (pc := 58) (tgt := 4) dX1_slotsClosing_58 (by decide) ?_
    exact jw_sub [3, 4, 1, 0] rfl h
  · replace h := h.2 c
    refine jw_iconst (pc := 41) (v := 1) dX1_slotsClosing_41 rfl ?_
    refine jw_aload_n (pc := 42) (j := 1) dX1_slotsClosing_42 rfl rfl ?_
    refine jw_getR (pc := 43) (r := 59) dX1_slotsClosing_43 sC_55 fl_X1_22 (by decide) rfl rfl ?_
    refine jw_iload_n (pc := 46) (j := 4) dX1_slotsClosing_46 rfl rfl ?_
    obtain ⟨j1, hj1, ej1, h⟩ := h
    refine jw_iald (pc := 47) (j := j1) dX1_slotsClosing_47 sC_59 hj1 ej1 (by decide) ?_
    refine jw_ishl (pc := 48) dX1_slotsClosing_48 ?_
    refine jw_goto (pc := 49) (tgt := 53) dX1_slotsClosing_49 (by decide) ?_
    refine jw_ior (pc := 53) dX1_slotsClosing_53 ?_
    refine jw_istore_n (pc := 54) (ls' := [(2, .int (l2 ||| ((1 : Int32) <<< ((M.1 59 j1) &&& 31)))), (4, .int k0), (0, .ref (x.2.2.2 55)), (1, .int l1), (3, .int l3)]) dX1_slotsClosing_54 rfl (by decide) rfl ?_
    refine jw_iinc (pc := 55) (j := 4) (u := l3 + 1) (ls' := [(3, .int (l3 + 1)), (2, .int (l2 ||| ((1 : Int32) <<< ((M.1 59 j1) &&& 31)))), (4, .int k0), (0, .ref (x.2.2.2 55)), (1, .int l1)]) dX1_slotsClosing_55 rfl rfl (by decide) rfl ?_
    refine jw_goto (pc := 58) (tgt := 4) dX1_slotsClosing_58 (by decide) ?_
    exact jw_sub [3, 4, 1, 0] rfl h
set_option maxRecDepth 20000 in
theorem b_X1_slotsMet {x : jX} {d : Nat} {M : jM} {P : jM → Int32 → Prop} {a1 : Int32} 
    (h : JW x jtbC mX1_slotsMet d (jI P) 4 [(0, .ref (x.2.2.2 55)), (1, .int a1), (2, .int (0 : Int32)), (3, .int (0 : Int32))] [] M) :
    JC x jtbC mX1_slotsMet d [.ref (x.2.2.2 55), .int a1] M (jI P) := by
  refine JC.of rfl (Nat.le_of_ble_eq_true rfl) ?_
  refine jw_ls (ls' := [(0, .ref (x.2.2.2 55)), (1, .int a1)]) rfl ?_
  refine jw_iconst (pc := 0) (v := 0) dX1_slotsMet_0 rfl ?_
  refine jw_istore_n (pc := 1) (ls' := [(2, .int (0 : Int32)), (0, .ref (x.2.2.2 55)), (1, .int a1)]) dX1_slotsMet_1 rfl (by decide) rfl ?_
  refine jw_iconst (pc := 2) (v := 0) dX1_slotsMet_2 rfl ?_
  refine jw_istore_n (pc := 3) (ls' := [(3, .int (0 : Int32)), (2, .int (0 : Int32)), (0, .ref (x.2.2.2 55)), (1, .int a1)]) dX1_slotsMet_3 rfl (by decide) rfl ?_
  exact jw_sub [2, 3, 1, 0] rfl h
set_option maxRecDepth 20000 in
theorem b_X1_slotsMet_4 {x : jX} {d : Nat} {M : jM} {P : jM → Int32 → Prop} {l1 : Int32} {l2 : Int32} {l3 : Int32} 
    (h : ((M.1 55 3) ≤ l3 → P M l2) ∧ (¬ (M.1 55 3) ≤ l3 → ∃ j1, j1 < 54 ∧ l3 = nI j1 ∧ ((¬ (((M.1 56 j1) >>> (l1 &&& 31)) &&& (1 : Int32)) = (1 : Int32) → JW x jtbC mX1_slotsMet d (jI P) 4 [(0, .ref (x.2.2.2 55)), (1, .int l1), (2, .int (l2 ||| (0 : Int32))), (3, .int (l3 + 1))] [] M) ∧ ((((M.1 56 j1) >>> (l1 &&& 31)) &&& (1 : Int32)) = (1 : Int32) → JW x jtbC mX1_slotsMet d (jI P) 4 [(0, .ref (x.2.2.2 55)), (1, .int l1), (2, .int (l2 ||| ((1 : Int32) <<< ((M.1 59 j1) &&& 31)))), (3, .int (l3 + 1))] [] M)))) :
    JW x jtbC mX1_slotsMet d (jI P) 4 [(0, .ref (x.2.2.2 55)), (1, .int l1), (2, .int l2), (3, .int l3)] [] M := by
  refine jw_iload_n (pc := 4) (j := 3) dX1_slotsMet_4 rfl rfl ?_
  refine jw_aload_n (pc := 5) (j := 0) dX1_slotsMet_5 rfl rfl ?_
  refine jw_getI (pc := 6) dX1_slotsMet_6 sC_55 fl_X1_31 (by decide) rfl ?_
  refine jw_icmp_ge (pc := 9) (tgt := 47) dX1_slotsMet_9 (by decide) (fun c => ?_) (fun c => ?_)
  · replace h := h.1 c
    refine jw_iload_n (pc := 47) (j := 2) dX1_slotsMet_47 rfl rfl ?_
    exact jw_iret (pc := 48) dX1_slotsMet_48 rfl ⟨_, rfl, h⟩
  · replace h := h.2 c
    refine jw_iload_n (pc := 12) (j := 2) dX1_slotsMet_12 rfl rfl ?_
    refine jw_aload_n (pc := 13) (j := 0) dX1_slotsMet_13 rfl rfl ?_
    refine jw_getR (pc := 14) (r := 56) dX1_slotsMet_14 sC_55 fl_X1_9 (by decide) rfl rfl ?_
    refine jw_iload_n (pc := 17) (j := 3) dX1_slotsMet_17 rfl rfl ?_
    obtain ⟨j1, hj1, ej1, h⟩ := h
    refine jw_iald (pc := 18) (j := j1) dX1_slotsMet_18 sC_56 hj1 ej1 (by decide) ?_
    refine jw_iload_n (pc := 19) (j := 1) dX1_slotsMet_19 rfl rfl ?_
    refine jw_ishr (pc := 20) dX1_slotsMet_20 ?_
    refine jw_iconst (pc := 21) (v := 1) dX1_slotsMet_21 rfl ?_
    refine jw_iand (pc := 22) dX1_slotsMet_22 ?_
    refine jw_iconst (pc := 23) (v := 1) dX1_slotsMet_23 rfl ?_
    refine jw_icmp_ne (pc := 24) (tgt := 38) dX1_slotsMet_24 (by decide) (fun c => ?_) (fun c => ?_)
    · replace h := h.1 c
      refine jw_iconst (pc := 38) (v := 0) dX1_slotsMet_38 rfl ?_
      refine jw_ior (pc := 39) dX1_slotsMet_39 ?_
      refine jw_istore_n (pc := 40) (ls' := [(2, .int (l2 ||| (0 : Int32))), (0, .ref (x.2.2.2 55)), (1, .int l1), (3, .int l3)]) dX1_slotsMet_40 rfl (by decide) rfl ?_
      refine jw_iinc (pc := 41) (j := 3) (u := l3 + 1) (ls' := [(3, .int (l3 + 1)), (2, .int (l2 ||| (0 : Int32))), (0, .ref (x.2.2.2 55)), (1, .int l1)]) dX1_slotsMet_41 rfl rfl (by decide) rfl ?_
      refine jw_goto (pc := 44) (tgt := 4) dX1_slotsMet_44 (by decide) ?_
      exact jw_sub [2, 3, 1, 0] rfl h
    · replace h := h.2 c
      refine jw_iconst (pc := 27) (v := 1) dX1_slotsMet_27 rfl ?_
      refine jw_aload_n (pc := 28) (j := 0) dX1_slotsMet_28 rfl rfl ?_
      refine jw_getR (pc := 29) (r := 59) dX1_slotsMet_29 sC_55 fl_X1_22 (by decide) rfl rfl ?_
      refine jw_iload_n (pc := 32) (j := 3) dX1_slotsMet_32 rfl rfl ?_
      refine jw_iald (pc := 33) (j := j1) dX1_slotsMet_33 sC_59 hj1 ej1 (by decide) ?_
      refine jw_ishl (pc := 34) dX1_slotsMet_34 ?_
      refine jw_goto (pc := 35) (tgt := 39) dX1_slotsMet_35 (by decide) ?_
      refine jw_ior (pc := 39) dX1_slotsMet_39 ?_
      refine jw_istore_n (pc := 40) (ls' := [(2, .int (l2 ||| ((1 : Int32) <<< ((M.1 59 j1) &&& 31)))), (0, .ref (x.2.2.2 55)), (1, .int l1), (3, .int l3)]) dX1_slotsMet_40 rfl (by decide) rfl ?_
      refine jw_iinc (pc := 41) (j := 3) (u := l3 + 1) (ls' := [(3, .int (l3 + 1)), (2, .int (l2 ||| ((1 : Int32) <<< ((M.1 59 j1) &&& 31)))), (0, .ref (x.2.2.2 55)), (1, .int l1)]) dX1_slotsMet_41 rfl rfl (by decide) rfl ?_
      refine jw_goto (pc := 44) (tgt := 4) dX1_slotsMet_44 (by decide) ?_
      exact jw_sub [2, 3, 1, 0] rfl h
set_option maxRecDepth 20000 in
theorem b_X1_raiseOrNot {x : jX} {d : Nat} {M : jM} {P : jM → Prop} {a1 : Int32} {a2 : Int64} {a4 : Int32} 
    (h : JW x jtbC mX1_raiseOrNot d (jV P) 6 [(0, .ref (x.2.2.2 55)), (1, .int a1), (2, .long a2), (5, .int (a4 - (1 : Int32)))] [] M) :
    JC x jtbC mX1_raiseOrNot d [.ref (x.2.2.2 55), .int a1, .long a2, .int a4] M (jV P) := by
  refine JC.of rfl (Nat.le_of_ble_eq_true rfl) ?_
  refine jw_ls (ls' := [(0, .ref (x.2.2.2 55)), (1, .int a1), (2, .long a2), (4, .int a4)]) rfl ?_
  refine jw_iload (pc := 0) (j := 3) dX1_raiseOrNot_0 rfl ?_
  refine jw_iconst (pc := 2) (v := 1) dX1_raiseOrNot_2 rfl ?_
  refine jw_isub (pc := 3) dX1_raiseOrNot_3 ?_
  refine jw_istore (pc := 4) (ls' := [(5, .int (a4 - (1 : Int32))), (0, .ref (x.2.2.2 55)), (1, .int a1), (2, .long a2), (4, .int a4)]) dX1_raiseOrNot_4 (by decide) rfl ?_
  exact jw_sub [1, 2, 3, 0] rfl h
set_option maxRecDepth 20000 in
theorem b_X1_raiseOrNot_6 {x : jX} {d : Nat} {M : jM} {P : jM → Prop} {l1 : Int32} {l2 : Int64} {l5 : Int32} 
    (h : (l5 < 0 → P M) ∧ (¬ l5 < 0 → ∃ j1, j1 < 2048 ∧ l5 = nI j1 ∧ (((M.2 61 j1) = (0 : Int64) → JW x jtbC mX1_raiseOrNot d (jV P) 6 [(0, .ref (x.2.2.2 55)), (1, .int l1), (2, .long l2), (5, .int (l5 + (-1)))] [] M) ∧ (¬ (M.2 61 j1) = (0 : Int64) → ∀ M1, M1 = jrL M 61 (vp_updL (M.2 61) j1 (((M.2 61 j1) * l2) - ((M.2 61 j1) * l2) / (1000007 : Int64) * (1000007 : Int64))) → ∃ j2, j2 < 2048 ∧ l5 ||| l1 = nI j2 ∧ (∀ M2, M2 = jrL M1 61 (vp_updL (M1.2 61) j2 (((M1.2 61 j2) + (M.2 61 j1)) - ((M1.2 61 j2) + (M.2 61 j1)) / (1000007 : Int64) * (1000007 : Int64))) → JW x jtbC mX1_raiseOrNot d (jV P) 6 [(0, .ref (x.2.2.2 55)), (1, .int l1), (2, .long l2), (5, .int (l5 + (-1)))] [] M2))))) :
    JW x jtbC mX1_raiseOrNot d (jV P) 6 [(0, .ref (x.2.2.2 55)), (1, .int l1), (2, .long l2), (5, .int l5)] [] M := by
  refine jw_iload (pc := 6) (j := 3) dX1_raiseOrNot_6 rfl ?_
  refine jw_if_lt (pc := 8) (tgt := 73) dX1_raiseOrNot_8 (by decide) (fun c => ?_) (fun c => ?_)
  · replace h := h.1 c
    exact jw_vret (pc := 73) dX1_raiseOrNot_73 rfl ⟨rfl, h⟩
  · replace h := h.2 c
    refine jw_aload_n (pc := 11) (j := 0) dX1_raiseOrNot_11 rfl rfl ?_
    refine jw_getR (pc := 12) (r := 61) dX1_raiseOrNot_12 sC_55 fl_X1_28 (by decide) rfl rfl ?_
    refine jw_iload (pc := 15) (j := 3) dX1_raiseOrNot_15 rfl ?_
    obtain ⟨j1, hj1, ej1, h⟩ := h
    refine jw_lald (pc := 17) (j := j1) dX1_raiseOrNot_17 sC_61 hj1 ej1 (by decide) ?_
    refine jw_lstore (pc := 18) (ls' := [(6, .long (M.2 61 j1)), (0, .ref (x.2.2.2 55)), (1, .int l1), (2, .long l2), (5, .int l5)]) dX1_raiseOrNot_18 (by decide) rfl ?_
    refine jw_lload (pc := 20) (j := 0) dX1_raiseOrNot_20 rfl ?_
    refine jw_lconst (pc := 22) (v := 0) dX1_raiseOrNot_22 rfl ?_
    refine jw_lcmp (pc := 23) dX1_raiseOrNot_23 ?_
    refine jw_if_eq (pc := 24) (tgt := 67) dX1_raiseOrNot_24 (by decide) (fun c => ?_) (fun c => ?_)
    · replace h := h.1 ((jcmp_eq _ _).mp c)
      refine jw_iinc (pc := 67) (j := 4) (u := l5 + (-1)) (ls' := [(5, .int (l5 + (-1))), (6, .long (M.2 61 j1)), (0, .ref (x.2.2.2 55)), (1, .int l1), (2, .long l2)]) dX1_raiseOrNot_67 rfl rfl (by decide) rfl ?_
      refine jw_goto (pc := 70) (tgt := 6) dX1_raiseOrNot_70 (by decide) ?_
      exact jw_sub [2, 3, 4, 0] rfl h
    · replace h := h.2 (fun z => c ((jcmp_eq _ _).mpr z))
      refine jw_aload_n (pc := 27) (j := 1) dX1_raiseOrNot_27 rfl rfl ?_
      refine jw_getR (pc := 28) (r := 61) dX1_raiseOrNot_28 sC_55 fl_X1_28 (by decide) rfl rfl ?_
      refine jw_iload (pc := 31) (j := 4) dX1_raiseOrNot_31 rfl ?_
      refine jw_lload (pc := 33) (j := 0) dX1_raiseOrNot_33 rfl ?_
      refine jw_lload_n (pc := 35) (j := 3) dX1_raiseOrNot_35 rfl rfl ?_
      refine jw_lmul (pc := 36) dX1_raiseOrNot_36 ?_
      refine jw_ldc2 (pc := 37) (v := 1000007) dX1_raiseOrNot_37 kl_X1_104 ?_
      refine jw_lrem (pc := 40) dX1_raiseOrNot_40 (by decide) ?_
      refine jw_last (pc := 41) (j := j1) dX1_raiseOrNot_41 sC_61 hj1 ej1 (by decide) ?_
      replace h := h _ rfl
      generalize jrL M 61 (vp_updL (M.2 61) j1 (((M.2 61 j1) * l2) - ((M.2 61 j1) * l2) / (1000007 : Int64) * (1000007 : Int64))) = M1 at h ⊢
      refine jw_aload_n (pc := 42) (j := 1) dX1_raiseOrNot_42 rfl rfl ?_
      refine jw_getR (pc := 43) (r := 61) dX1_raiseOrNot_43 sC_55 fl_X1_28 (by decide) rfl rfl ?_
      refine jw_iload (pc := 46) (j := 4) dX1_raiseOrNot_46 rfl ?_
      refine jw_iload_n (pc := 48) (j := 2) dX1_raiseOrNot_48 rfl rfl ?_
      refine jw_ior (pc := 49) dX1_raiseOrNot_49 ?_
      refine jw_aload_n (pc := 50) (j := 1) dX1_raiseOrNot_50 rfl rfl ?_
      refine jw_getR (pc := 51) (r := 61) dX1_raiseOrNot_51 sC_55 fl_X1_28 (by decide) rfl rfl ?_
      refine jw_iload (pc := 54) (j := 4) dX1_raiseOrNot_54 rfl ?_
      refine jw_iload_n (pc := 56) (j := 2) dX1_raiseOrNot_56 rfl rfl ?_
      refine jw_ior (pc := 57) dX1_raiseOrNot_57 ?_
      obtain ⟨j2, hj2, ej2, h⟩ := h
      refine jw_lald (pc := 58) (j := j2) dX1_raiseOrNot_58 sC_61 hj2 ej2 (by decide) ?_
      refine jw_lload (pc := 59) (j := 0) dX1_raiseOrNot_59 rfl ?_
      refine jw_ladd (pc := 61) dX1_raiseOrNot_61 ?_
      refine jw_ldc2 (pc := 62) (v := 1000007) dX1_raiseOrNot_62 kl_X1_104 ?_
      refine jw_lrem (pc := 65) dX1_raiseOrNot_65 (by decide) ?_
      refine jw_last (pc := 66) (j := j2) dX1_raiseOrNot_66 sC_61 hj2 ej2 (by decide) ?_
      replace h := h _ rfl
      generalize jrL M1 61 (vp_updL (M1.2 61) j2 (((M1.2 61 j2) + (M.2 61 j1)) - ((M1.2 61 j2) + (M.2 61 j1)) / (1000007 : Int64) * (1000007 : Int64))) = M2 at h ⊢
      refine jw_iinc (pc := 67) (j := 4) (u := l5 + (-1)) (ls' := [(5, .int (l5 + (-1))), (6, .long (M.2 61 j1)), (0, .ref (x.2.2.2 55)), (1, .int l1), (2, .long l2)]) dX1_raiseOrNot_67 rfl rfl (by decide) rfl ?_
      refine jw_goto (pc := 70) (tgt := 6) dX1_raiseOrNot_70 (by decide) ?_
      exact jw_sub [2, 3, 4, 0] rfl h
set_option maxRecDepth 20000 in
theorem b_X1_closeSlots {x : jX} {d : Nat} {M : jM} {P : jM → Prop} {a1 : Int32} {a2 : Int32} 
    (h : (¬ a1 = 0 → JW x jtbC mX1_closeSlots d (jV P) 7 [(0, .ref (x.2.2.2 55)), (1, .int a1), (2, .int a2), (3, .int (0 : Int32))] [] M) ∧ (a1 = 0 → P M)) :
    JC x jtbC mX1_closeSlots d [.ref (x.2.2.2 55), .int a1, .int a2] M (jV P) := by
  refine JC.of rfl (Nat.le_of_ble_eq_true rfl) ?_
  refine jw_ls (ls' := [(0, .ref (x.2.2.2 55)), (1, .int a1), (2, .int a2)]) rfl ?_
  refine jw_iload_n (pc := 0) (j := 1) dX1_closeSlots_0 rfl rfl ?_
  refine jw_if_ne (pc := 1) (tgt := 5) dX1_closeSlots_1 (by decide) (fun c => ?_) (fun c => ?_)
  · replace h := h.1 c
    refine jw_iconst (pc := 5) (v := 0) dX1_closeSlots_5 rfl ?_
    refine jw_istore_n (pc := 6) (ls' := [(3, .int (0 : Int32)), (0, .ref (x.2.2.2 55)), (1, .int a1), (2, .int a2)]) dX1_closeSlots_6 rfl (by decide) rfl ?_
    exact jw_sub [1, 2, 3, 0] rfl h
  · replace h := h.2 c
    exact jw_vret (pc := 4) dX1_closeSlots_4 rfl ⟨rfl, h⟩
set_option maxRecDepth 20000 in
theorem b_X1_closeSlots_7 {x : jX} {d : Nat} {M : jM} {P : jM → Prop} {l1 : Int32} {l2 : Int32} {l3 : Int32} 
    (h : (l2 ≤ l3 → P M) ∧ (¬ l2 ≤ l3 → (¬ (l3 &&& l1) = 0 → ∃ j1, j1 < 2048 ∧ l3 = nI j1 ∧ (∀ M1, M1 = jrL M 61 (vp_updL (M.2 61) j1 (0 : Int64)) → JW x jtbC mX1_closeSlots d (jV P) 7 [(0, .ref (x.2.2.2 55)), (1, .int l1), (2, .int l2), (3, .int (l3 + 1))] [] M1)) ∧ ((l3 &&& l1) = 0 → ∃ j2, j2 < 2048 ∧ l3 ||| l1 = nI j2 ∧ (∃ j3, j3 < 2048 ∧ l3 = nI j3 ∧ (∀ M2, M2 = jrL M 61 (vp_updL (M.2 61) j3 (M.2 61 j2)) → JW x jtbC mX1_closeSlots d (jV P) 7 [(0, .ref (x.2.2.2 55)), (1, .int l1), (2, .int l2), (3, .int (l3 + 1))] [] M2))))) :
    JW x jtbC mX1_closeSlots d (jV P) 7 [(0, .ref (x.2.2.2 55)), (1, .int l1), (2, .int l2), (3, .int l3)] [] M := by
  refine jw_iload_n (pc := 7) (j := 3) dX1_closeSlots_7 rfl rfl ?_
  refine jw_iload_n (pc := 8) (j := 2) dX1_closeSlots_8 rfl rfl ?_
  refine jw_icmp_ge (pc := 9) (tgt := 42) dX1_closeSlots_9 (by decide) (fun c => ?_) (fun c => ?_)
  · replace h := h.1 c
    exact jw_vret (pc := 42) dX1_closeSlots_42 rfl ⟨rfl, h⟩
  · replace h := h.2 c
    refine jw_aload_n (pc := 12) (j := 0) dX1_closeSlots_12 rfl rfl ?_
    refine jw_getR (pc := 13) (r := 61) dX1_closeSlots_13 sC_55 fl_X1_28 (by decide) rfl rfl ?_
    refine jw_iload_n (pc := 16) (j := 3) dX1_closeSlots_16 rfl rfl ?_
    refine jw_iload_n (pc := 17) (j := 3) dX1_closeSlots_17 rfl rfl ?_
    refine jw_iload_n (pc := 18) (j := 1) dX1_closeSlots_18 rfl rfl ?_
    refine jw_iand (pc := 19) dX1_closeSlots_19 ?_
    refine jw_if_ne (pc := 20) (tgt := 34) dX1_closeSlots_20 (by decide) (fun c => ?_) (fun c => ?_)
    · replace h := h.1 c
      refine jw_lconst (pc := 34) (v := 0) dX1_closeSlots_34 rfl ?_
      obtain ⟨j1, hj1, ej1, h⟩ := h
      refine jw_last (pc := 35) (j := j1) dX1_closeSlots_35 sC_61 hj1 ej1 (by decide) ?_
      replace h := h _ rfl
      generalize jrL M 61 (vp_updL (M.2 61) j1 (0 : Int64)) = M1 at h ⊢
      refine jw_iinc (pc := 36) (j := 3) (u := l3 + 1) (ls' := [(3, .int (l3 + 1)), (0, .ref (x.2.2.2 55)), (1, .int l1), (2, .int l2)]) dX1_closeSlots_36 rfl rfl (by decide) rfl ?_
      refine jw_goto (pc := 39) (tgt := 7) dX1_closeSlots_39 (by decide) ?_
      exact jw_sub [1, 2, 3, 0] rfl h
    · replace h := h.2 c
      refine jw_aload_n (pc := 23) (j := 0) dX1_closeSlots_23 rfl rfl ?_
      refine jw_getR (pc := 24) (r := 61) dX1_closeSlots_24 sC_55 fl_X1_28 (by decide) rfl rfl ?_
      refine jw_iload_n (pc := 27) (j := 3) dX1_closeSlots_27 rfl rfl ?_
      refine jw_iload_n (pc := 28) (j := 1) dX1_closeSlots_28 rfl rfl ?_
      refine jw_ior (pc := 29) dX1_closeSlots_29 ?_
      obtain ⟨j2, hj2, ej2, h⟩ := h
      refine jw_lald (pc := 30) (j := j2) dX1_closeSlots_30 sC_61 hj2 ej2 (by decide) ?_
      refine jw_goto (pc := 31) (tgt := 35) dX1_closeSlots_31 (by decide) ?_
      obtain ⟨j3, hj3, ej3, h⟩ := h
      refine jw_last (pc := 35) (j := j3) dX1_closeSlots_35 sC_61 hj3 ej3 (by decide) ?_
      replace h := h _ rfl
      generalize jrL M 61 (vp_updL (M.2 61) j3 (M.2 61 j2)) = M2 at h ⊢
      refine jw_iinc (pc := 36) (j := 3) (u := l3 + 1) (ls' := [(3, .int (l3 + 1)), (0, .ref (x.2.2.2 55)), (1, .int l1), (2, .int l2)]) dX1_closeSlots_36 rfl rfl (by decide) rfl ?_
      refine jw_goto (pc := 39) (tgt := 7) dX1_closeSlots_39 (by decide) ?_
      exact jw_sub [1, 2, 3, 0] rfl h
