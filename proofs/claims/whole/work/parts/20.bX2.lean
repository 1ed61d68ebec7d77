set_option maxRecDepth 20000 in
theorem b_X2_work {x : jX} {d : Nat} {M : jM} {P : jM → Prop} {o3 : Nat} {a4 : Int32} 
    (h : ∀ M1, M1 = jrI M 70 (upd (M.1 70) 0 (0 : Int32)) → ∀ M2, M2 = jrI M1 70 (upd (M1.1 70) 1 (0 : Int32)) → ∀ M3, M3 = jrI M2 70 (upd (M2.1 70) 2 (0 : Int32)) → ∀ M4, M4 = jrI M3 70 (upd (M3.1 70) 3 (0 : Int32)) → ∀ M5, M5 = jrI M4 70 (upd (M4.1 70) 5 a4) → JW x jtbC mX2_work (d + 1) (jV P) 32 [(0, .ref (x.2.2.2 70)), (1, .ref (x.2.2.2 40)), (2, .ref (x.2.2.2 30)), (3, .ref (x.2.2.2 o3)), (5, .int (0 : Int32)), (6, .int (0 : Int32))] [] M5) :
    JC x jtbC mX2_work (d + 1) [.ref (x.2.2.2 70), .ref (x.2.2.2 40), .ref (x.2.2.2 30), .ref (x.2.2.2 o3), .int a4] M (jV P) := by
  refine JC.of rfl (Nat.le_of_ble_eq_true rfl) ?_
  refine jw_ls (ls' := [(0, .ref (x.2.2.2 70)), (1, .ref (x.2.2.2 40)), (2, .ref (x.2.2.2 30)), (3, .ref (x.2.2.2 o3)), (4, .int a4)]) rfl ?_
  refine jw_aload_n (pc := 0) (j := 0) dX2_work_0 rfl rfl ?_
  refine jw_iconst (pc := 1) (v := 0) dX2_work_1 rfl ?_
  refine jw_putI (pc := 2) dX2_work_2 sC_70 fl_X2_15 fw_2_0 (by decide) rfl ?_
  replace h := h _ rfl
  generalize jrI M 70 (upd (M.1 70) 0 (0 : Int32)) = M1 at h ⊢
  refine jw_aload_n (pc := 5) (j := 0) dX2_work_5 rfl rfl ?_
  refine jw_iconst (pc := 6) (v := 0) dX2_work_6 rfl ?_
  refine jw_putI (pc := 7) dX2_work_7 sC_70 fl_X2_19 fw_2_1 (by decide) rfl ?_
  replace h := h _ rfl
  generalize jrI M1 70 (upd (M1.1 70) 1 (0 : Int32)) = M2 at h ⊢
  refine jw_aload_n (pc := 10) (j := 0) dX2_work_10 rfl rfl ?_
  refine jw_iconst (pc := 11) (v := 0) dX2_work_11 rfl ?_
  refine jw_putI (pc := 12) dX2_work_12 sC_70 fl_X2_22 fw_2_2 (by decide) rfl ?_
  replace h := h _ rfl
  generalize jrI M2 70 (upd (M2.1 70) 2 (0 : Int32)) = M3 at h ⊢
  refine jw_aload_n (pc := 15) (j := 0) dX2_work_15 rfl rfl ?_
  refine jw_iconst (pc := 16) (v := 0) dX2_work_16 rfl ?_
  refine jw_putI (pc := 17) dX2_work_17 sC_70 fl_X2_25 fw_2_3 (by decide) rfl ?_
  replace h := h _ rfl
  generalize jrI M3 70 (upd (M3.1 70) 3 (0 : Int32)) = M4 at h ⊢
  refine jw_aload_n (pc := 20) (j := 0) dX2_work_20 rfl rfl ?_
  refine jw_iload (pc := 21) (j := 4) dX2_work_21 rfl ?_
  refine jw_putI (pc := 23) dX2_work_23 sC_70 fl_X2_28 fw_2_5 (by decide) rfl ?_
  replace h := h _ rfl
  generalize jrI M4 70 (upd (M4.1 70) 5 a4) = M5 at h ⊢
  refine jw_iconst (pc := 26) (v := 0) dX2_work_26 rfl ?_
  refine jw_istore (pc := 27) (ls' := [(5, .int (0 : Int32)), (0, .ref (x.2.2.2 70)), (1, .ref (x.2.2.2 40)), (2, .ref (x.2.2.2 30)), (3, .ref (x.2.2.2 o3)), (4, .int a4)]) dX2_work_27 (by decide) rfl ?_
  refine jw_iconst (pc := 29) (v := 0) dX2_work_29 rfl ?_
  refine jw_istore (pc := 30) (ls' := [(6, .int (0 : Int32)), (5, .int (0 : Int32)), (0, .ref (x.2.2.2 70)), (1, .ref (x.2.2.2 40)), (2, .ref (x.2.2.2 30)), (3, .ref (x.2.2.2 o3)), (4, .int a4)]) dX2_work_30 (by decide) rfl ?_
  exact jw_sub [2, 3, 4, 5, 1, 0] rfl h
set_option maxRecDepth 20000 in
theorem b_X2_work_32 {x : jX} {d : Nat} {M : jM} {P : jM → Prop} {o3 : Nat} {l5 : Int32} {l6 : Int32} 
    (h : ((1000000 : Int32) ≤ l6 → P M) ∧ (¬ (1000000 : Int32) ≤ l6 → ((M.1 40 2) ≤ l5 → P M) ∧ (¬ (M.1 40 2) ≤ l5 → ∃ j1, j1 < 60 ∧ l5 = nI j1 ∧ ((¬ (M.1 41 j1) = (16 : Int32) → ((M.1 70 0) < (400 : Int32) → ∀ M1, M1 = jrI M 70 (upd (M.1 70) 0 ((M.1 70 0) + (1 : Int32))) → JC x jtbC mX2_behindStep d [.ref (x.2.2.2 70), .ref (x.2.2.2 40), .ref (x.2.2.2 30), .ref (x.2.2.2 o3), .int l5] M1 (jI fun M2 r1 => JW x jtbC mX2_work (d + 1) (jV P) 32 [(0, .ref (x.2.2.2 70)), (1, .ref (x.2.2.2 40)), (2, .ref (x.2.2.2 30)), (3, .ref (x.2.2.2 o3)), (5, .int r1), (6, .int (l6 + 1))] [] M2)) ∧ (¬ (M.1 70 0) < (400 : Int32) → ∀ M3, M3 = jrI M 70 (upd (M.1 70) 3 (1 : Int32)) → P M3)) ∧ ((M.1 41 j1) = (16 : Int32) → JC x jtbC mX2_behindEnd d [.ref (x.2.2.2 70), .ref (x.2.2.2 40), .int l5] M (jI fun M4 r2 => JW x jtbC mX2_work (d + 1) (jV P) 32 [(0, .ref (x.2.2.2 70)), (1, .ref (x.2.2.2 40)), (2, .ref (x.2.2.2 30)), (3, .ref (x.2.2.2 o3)), (5, .int r2), (6, .int (l6 + 1))] [] M4)))))) :
    JW x jtbC mX2_work (d + 1) (jV P) 32 [(0, .ref (x.2.2.2 70)), (1, .ref (x.2.2.2 40)), (2, .ref (x.2.2.2 30)), (3, .ref (x.2.2.2 o3)), (5, .int l5), (6, .int l6)] [] M := by
  refine jw_iload (pc := 32) (j := 5) dX2_work_32 rfl ?_
  refine jw_ldc (pc := 34) (v := 1000000) dX2_work_34 kc_X2_31 ?_
  refine jw_icmp_ge (pc := 36) (tgt := 115) dX2_work_36 (by decide) (fun c => ?_) (fun c => ?_)
  · replace h := h.1 c
    exact jw_vret (pc := 115) dX2_work_115 rfl ⟨rfl, h⟩
  · replace h := h.2 c
    refine jw_iload (pc := 39) (j := 4) dX2_work_39 rfl ?_
    refine jw_aload_n (pc := 41) (j := 1) dX2_work_41 rfl rfl ?_
    refine jw_getI (pc := 42) dX2_work_42 sC_40 fl_X2_32 (by decide) rfl ?_
    refine jw_icmp_ge (pc := 45) (tgt := 115) dX2_work_45 (by decide) (fun c => ?_) (fun c => ?_)
    · replace h := h.1 c
      exact jw_vret (pc := 115) dX2_work_115 rfl ⟨rfl, h⟩
    · replace h := h.2 c
      refine jw_aload_n (pc := 48) (j := 1) dX2_work_48 rfl rfl ?_
      refine jw_getR (pc := 49) (r := 41) dX2_work_49 sC_40 fl_X2_37 (by decide) rfl rfl ?_
      refine jw_iload (pc := 52) (j := 4) dX2_work_52 rfl ?_
      obtain ⟨j1, hj1, ej1, h⟩ := h
      refine jw_iald (pc := 54) (j := j1) dX2_work_54 sC_41 hj1 ej1 (by decide) ?_
      refine jw_bipush (pc := 55) (v := 16) dX2_work_55 rfl ?_
      refine jw_icmp_ne (pc := 57) (tgt := 72) dX2_work_57 (by decide) (fun c => ?_) (fun c => ?_)
      · replace h := h.1 c
        refine jw_aload_n (pc := 72) (j := 0) dX2_work_72 rfl rfl ?_
        refine jw_getI (pc := 73) dX2_work_73 sC_70 fl_X2_15 (by decide) rfl ?_
        refine jw_sipush (pc := 76) (v := 400) dX2_work_76 rfl ?_
        refine jw_icmp_lt (pc := 79) (tgt := 88) dX2_work_79 (by decide) (fun c => ?_) (fun c => ?_)
        · replace h := h.1 c
          refine jw_aload_n (pc := 88) (j := 0) dX2_work_88 rfl rfl ?_
          refine jw_dup (pc := 89) dX2_work_89 rfl ?_
          refine jw_getI (pc := 90) dX2_work_90 sC_70 fl_X2_15 (by decide) rfl ?_
          refine jw_iconst (pc := 93) (v := 1) dX2_work_93 rfl ?_
          refine jw_iadd (pc := 94) dX2_work_94 ?_
          refine jw_putI (pc := 95) dX2_work_95 sC_70 fl_X2_15 fw_2_0 (by decide) rfl ?_
          replace h := h _ rfl
          generalize jrI M 70 (upd (M.1 70) 0 ((M.1 70 0) + (1 : Int32))) = M1 at h ⊢
          refine jw_aload_n (pc := 98) (j := 0) dX2_work_98 rfl rfl ?_
          refine jw_aload_n (pc := 99) (j := 1) dX2_work_99 rfl rfl ?_
          refine jw_aload_n (pc := 100) (j := 2) dX2_work_100 rfl rfl ?_
          refine jw_aload_n (pc := 101) (j := 3) dX2_work_101 rfl rfl ?_
          refine jw_iload (pc := 102) (j := 4) dX2_work_102 rfl ?_
          refine jw_callV (pc := 104) (m2 := mX2_behindStep) (As := [.ref (x.2.2.2 40), .ref (x.2.2.2 30), .ref (x.2.2.2 o3), .int l5]) (st := []) dX2_work_104 sC_70 (by decide) rfl rfl gm_X2_behindStep ml_X2_44 rfl (Nat.le_of_ble_eq_true rfl) (JC.mono h ?_)
          clear h
          rintro M2 _ ⟨r1, rfl, h⟩
          refine jw_st (st' := [.int r1]) rfl ?_
          refine jw_istore (pc := 107) (ls' := [(5, .int r1), (0, .ref (x.2.2.2 70)), (1, .ref (x.2.2.2 40)), (2, .ref (x.2.2.2 30)), (3, .ref (x.2.2.2 o3)), (6, .int l6)]) dX2_work_107 (by decide) rfl ?_
          refine jw_iinc (pc := 109) (j := 5) (u := l6 + 1) (ls' := [(6, .int (l6 + 1)), (5, .int r1), (0, .ref (x.2.2.2 70)), (1, .ref (x.2.2.2 40)), (2, .ref (x.2.2.2 30)), (3, .ref (x.2.2.2 o3))]) dX2_work_109 rfl rfl (by decide) rfl ?_
          refine jw_goto (pc := 112) (tgt := 32) dX2_work_112 (by decide) ?_
          exact jw_sub [2, 3, 4, 5, 1, 0] rfl h
        · replace h := h.2 c
          refine jw_aload_n (pc := 82) (j := 0) dX2_work_82 rfl rfl ?_
          refine jw_iconst (pc := 83) (v := 1) dX2_work_83 rfl ?_
          refine jw_putI (pc := 84) dX2_work_84 sC_70 fl_X2_25 fw_2_3 (by decide) rfl ?_
          replace h := h _ rfl
          generalize jrI M 70 (upd (M.1 70) 3 (1 : Int32)) = M3 at h ⊢
          exact jw_vret (pc := 87) dX2_work_87 rfl ⟨rfl, h⟩
      · replace h := h.2 c
        refine jw_aload_n (pc := 60) (j := 0) dX2_work_60 rfl rfl ?_
        refine jw_aload_n (pc := 61) (j := 1) dX2_work_61 rfl rfl ?_
        refine jw_iload (pc := 62) (j := 4) dX2_work_62 rfl ?_
        refine jw_callV (pc := 64) (m2 := mX2_behindEnd) (As := [.ref (x.2.2.2 40), .int l5]) (st := []) dX2_work_64 sC_70 (by decide) rfl rfl gm_X2_behindEnd ml_X2_40 rfl (Nat.le_of_ble_eq_true rfl) (JC.mono h ?_)
        clear h
        rintro M4 _ ⟨r2, rfl, h⟩
        refine jw_st (st' := [.int r2]) rfl ?_
        refine jw_istore (pc := 67) (ls' := [(5, .int r2), (0, .ref (x.2.2.2 70)), (1, .ref (x.2.2.2 40)), (2, .ref (x.2.2.2 30)), (3, .ref (x.2.2.2 o3)), (6, .int l6)]) dX2_work_67 (by decide) rfl ?_
        refine jw_goto (pc := 69) (tgt := 109) dX2_work_69 (by decide) ?_
        refine jw_iinc (pc := 109) (j := 5) (u := l6 + 1) (ls' := [(6, .int (l6 + 1)), (5, .int r2), (0, .ref (x.2.2.2 70)), (1, .ref (x.2.2.2 40)), (2, .ref (x.2.2.2 30)), (3, .ref (x.2.2.2 o3))]) dX2_work_109 rfl rfl (by decide) rfl ?_
        refine jw_goto (pc := 112) (tgt := 32) dX2_work_112 (by decide) ?_
        exact jw_sub [2, 3, 4, 5, 1, 0] rfl h
set_option maxRecDepth 20000 in
theorem b_X2_behindEnd {x : jX} {d : Nat} {M : jM} {P : jM → Int32 → Prop} {a2 : Int32} 
    (h : ∃ j1, j1 < 60 ∧ a2 = nI j1 ∧ (∃ j2, j2 < 60 ∧ M.1 47 j1 = nI j2 ∧ ((¬ (M.1 41 j2) = (15 : Int32) → P M (a2 + (1 : Int32))) ∧ ((M.1 41 j2) = (15 : Int32) → ∀ M1, M1 = jrI M 71 (upd (M.1 71) j2 ((M.1 71 j2) - (1 : Int32))) → ((M1.1 71 j2) ≤ 0 → P M1 (a2 + (1 : Int32))) ∧ (¬ (M1.1 71 j2) ≤ 0 → P M1 ((M.1 47 j1) + (1 : Int32))))))) :
    JC x jtbC mX2_behindEnd d [.ref (x.2.2.2 70), .ref (x.2.2.2 40), .int a2] M (jI P) := by
  refine JC.of rfl (Nat.le_of_ble_eq_true rfl) ?_
  refine jw_ls (ls' := [(0, .ref (x.2.2.2 70)), (1, .ref (x.2.2.2 40)), (2, .int a2)]) rfl ?_
  refine jw_aload_n (pc := 0) (j := 1) dX2_behindEnd_0 rfl rfl ?_
  refine jw_getR (pc := 1) (r := 47) dX2_behindEnd_1 sC_40 fl_X2_48 (by decide) rfl rfl ?_
  refine jw_iload_n (pc := 4) (j := 2) dX2_behindEnd_4 rfl rfl ?_
  obtain ⟨j1, hj1, ej1, h⟩ := h
  refine jw_iald (pc := 5) (j := j1) dX2_behindEnd_5 sC_47 hj1 ej1 (by decide) ?_
  refine jw_istore_n (pc := 6) (ls' := [(3, .int (M.1 47 j1)), (0, .ref (x.2.2.2 70)), (1, .ref (x.2.2.2 40)), (2, .int a2)]) dX2_behindEnd_6 rfl (by decide) rfl ?_
  refine jw_aload_n (pc := 7) (j := 2) dX2_behindEnd_7 rfl rfl ?_
  refine jw_getR (pc := 8) (r := 41) dX2_behindEnd_8 sC_40 fl_X2_37 (by decide) rfl rfl ?_
  refine jw_iload_n (pc := 11) (j := 0) dX2_behindEnd_11 rfl rfl ?_
  obtain ⟨j2, hj2, ej2, h⟩ := h
  refine jw_iald (pc := 12) (j := j2) dX2_behindEnd_12 sC_41 hj2 ej2 (by decide) ?_
  refine jw_bipush (pc := 13) (v := 15) dX2_behindEnd_13 rfl ?_
  refine jw_icmp_ne (pc := 15) (tgt := 41) dX2_behindEnd_15 (by decide) (fun c => ?_) (fun c => ?_)
  · replace h := h.1 c
    refine jw_iload_n (pc := 41) (j := 3) dX2_behindEnd_41 rfl rfl ?_
    refine jw_iconst (pc := 42) (v := 1) dX2_behindEnd_42 rfl ?_
    refine jw_iadd (pc := 43) dX2_behindEnd_43 ?_
    exact jw_iret (pc := 44) dX2_behindEnd_44 rfl ⟨_, rfl, h⟩
  · replace h := h.2 c
    refine jw_aload_n (pc := 18) (j := 1) dX2_behindEnd_18 rfl rfl ?_
    refine jw_getR (pc := 19) (r := 71) dX2_behindEnd_19 sC_70 fl_X2_9 (by decide) rfl rfl ?_
    refine jw_iload_n (pc := 22) (j := 0) dX2_behindEnd_22 rfl rfl ?_
    refine jw_dup2 (pc := 23) dX2_behindEnd_23 rfl rfl ?_
    refine jw_iald (pc := 24) (j := j2) dX2_behindEnd_24 sC_71 hj2 ej2 (by decide) ?_
    refine jw_iconst (pc := 25) (v := 1) dX2_behindEnd_25 rfl ?_
    refine jw_isub (pc := 26) dX2_behindEnd_26 ?_
    refine jw_iast (pc := 27) (j := j2) dX2_behindEnd_27 sC_71 hj2 ej2 (by decide) ?_
    replace h := h _ rfl
    generalize jrI M 71 (upd (M.1 71) j2 ((M.1 71 j2) - (1 : Int32))) = M1 at h ⊢
    refine jw_aload_n (pc := 28) (j := 1) dX2_behindEnd_28 rfl rfl ?_
    refine jw_getR (pc := 29) (r := 71) dX2_behindEnd_29 sC_70 fl_X2_9 (by decide) rfl rfl ?_
    refine jw_iload_n (pc := 32) (j := 0) dX2_behindEnd_32 rfl rfl ?_
    refine jw_iald (pc := 33) (j := j2) dX2_behindEnd_33 sC_71 hj2 ej2 (by decide) ?_
    refine jw_if_le (pc := 34) (tgt := 41) dX2_behindEnd_34 (by decide) (fun c => ?_) (fun c => ?_)
    · replace h := h.1 c
      refine jw_iload_n (pc := 41) (j := 3) dX2_behindEnd_41 rfl rfl ?_
      refine jw_iconst (pc := 42) (v := 1) dX2_behindEnd_42 rfl ?_
      refine jw_iadd (pc := 43) dX2_behindEnd_43 ?_
      exact jw_iret (pc := 44) dX2_behindEnd_44 rfl ⟨_, rfl, h⟩
    · replace h := h.2 c
      refine jw_iload_n (pc := 37) (j := 0) dX2_behindEnd_37 rfl rfl ?_
      refine jw_iconst (pc := 38) (v := 1) dX2_behindEnd_38 rfl ?_
      refine jw_iadd (pc := 39) dX2_behindEnd_39 ?_
      exact jw_iret (pc := 40) dX2_behindEnd_40 rfl ⟨_, rfl, h⟩
set_option maxRecDepth 20000 in
theorem b_X2_behindStep {x : jX} {d : Nat} {M : jM} {P : jM → Int32 → Prop} {o3 : Nat} {a4 : Int32} 
    (h : ∃ j1, j1 < 60 ∧ a4 = nI j1 ∧ (((M.1 41 j1) = 6 → JC x jtbC mX5_hasCell d [.ref (x.2.2.2 30), .int (M.1 43 j1)] M (jZ fun M1 b1 => (b1 = false → P M1 (a4 + (1 : Int32))) ∧ (b1 = true → JC x jtbC mX2_lay d [.ref (x.2.2.2 70), .ref (x.2.2.2 o3), .int (M.1 43 j1), .int (M1.1 46 j1)] M1 (jV fun M2 => P M2 (a4 + (1 : Int32)))))) ∧ (¬ (M.1 41 j1) = 6 → ((M.1 41 j1) = 7 → JC x jtbC mX5_hasCell d [.ref (x.2.2.2 30), .int (M.1 43 j1)] M (jZ fun M3 b2 => (b2 = false → P M3 (a4 + (1 : Int32))) ∧ (b2 = true → JC x jtbC mX2_take d [.ref (x.2.2.2 70), .ref (x.2.2.2 o3), .int (M.1 43 j1), .int (M3.1 46 j1)] M3 (jV fun M4 => P M4 (a4 + (1 : Int32)))))) ∧ (¬ (M.1 41 j1) = 7 → ((M.1 41 j1) = 8 → P M (M.1 40 2)) ∧ (¬ (M.1 41 j1) = 8 → ((M.1 41 j1) = 9 → JC x jtbC mX2_rage d [.ref (x.2.2.2 70), .ref (x.2.2.2 o3), .int (M.1 30 2), .int (M.1 46 j1)] M (jV fun M5 => P M5 (a4 + (1 : Int32)))) ∧ (¬ (M.1 41 j1) = 9 → ((M.1 41 j1) = 10 → JC x jtbC mX2_isSo d [.ref (x.2.2.2 70), .ref (x.2.2.2 40), .ref (x.2.2.2 30), .ref (x.2.2.2 o3), .int a4] M (jZ fun M6 b3 => (b3 = false → P M6 ((M6.1 47 j1) + (1 : Int32))) ∧ (b3 = true → P M6 (a4 + (1 : Int32))))) ∧ (¬ (M.1 41 j1) = 10 → ((M.1 41 j1) = 11 → P M (M.1 40 2)) ∧ (¬ (M.1 41 j1) = 11 → ((M.1 41 j1) = 12 → P M (M.1 40 2)) ∧ (¬ (M.1 41 j1) = 12 → ((M.1 41 j1) = 13 → P M (M.1 40 2)) ∧ (¬ (M.1 41 j1) = 13 → ((M.1 41 j1) = 14 → P M (M.1 40 2)) ∧ (¬ (M.1 41 j1) = 14 → ((M.1 41 j1) = 15 → ∀ M7, M7 = jrI M 71 (upd (M.1 71) j1 (M.1 46 j1)) → P M7 (a4 + (1 : Int32))) ∧ (¬ (M.1 41 j1) = 15 → P M (M.1 40 2))))))))))))) :
    JC x jtbC mX2_behindStep (d + 1) [.ref (x.2.2.2 70), .ref (x.2.2.2 40), .ref (x.2.2.2 30), .ref (x.2.2.2 o3), .int a4] M (jI P) := by
  refine JC.of rfl (Nat.le_of_ble_eq_true rfl) ?_
  refine jw_ls (ls' := [(0, .ref (x.2.2.2 70)), (1, .ref (x.2.2.2 40)), (2, .ref (x.2.2.2 30)), (3, .ref (x.2.2.2 o3)), (4, .int a4)]) rfl ?_
  refine jw_aload_n (pc := 0) (j := 1) dX2_behindStep_0 rfl rfl ?_
  refine jw_getR (pc := 1) (r := 43) dX2_behindStep_1 sC_40 fl_X2_51 (by decide) rfl rfl ?_
  refine jw_iload (pc := 4) (j := 4) dX2_behindStep_4 rfl ?_
  obtain ⟨j1, hj1, ej1, h⟩ := h
  refine jw_iald (pc := 6) (j := j1) dX2_behindStep_6 sC_43 hj1 ej1 (by decide) ?_
  refine jw_istore (pc := 7) (ls' := [(5, .int (M.1 43 j1)), (0, .ref (x.2.2.2 70)), (1, .ref (x.2.2.2 40)), (2, .ref (x.2.2.2 30)), (3, .ref (x.2.2.2 o3)), (4, .int a4)]) dX2_behindStep_7 (by decide) rfl ?_
  refine jw_aload_n (pc := 9) (j := 2) dX2_behindStep_9 rfl rfl ?_
  refine jw_getR (pc := 10) (r := 41) dX2_behindStep_10 sC_40 fl_X2_37 (by decide) rfl rfl ?_
  refine jw_iload (pc := 13) (j := 5) dX2_behindStep_13 rfl ?_
  refine jw_iald (pc := 15) (j := j1) dX2_behindStep_15 sC_41 hj1 ej1 (by decide) ?_
  refine (Decidable.em ((M.1 41 j1) = 6)).elim (fun c0 => ?_) (fun c0 => ?_)
  · replace h := h.1 c0
    refine jw_tableIn (pc := 16) (tgt := 72) dX2_behindStep_16 (by rw [c0]; decide) (by rw [c0]; decide) (by rw [c0]; rfl) (by decide) ?_
    refine jw_aload_n (pc := 72) (j := 3) dX2_behindStep_72 rfl rfl ?_
    refine jw_iload (pc := 73) (j := 0) dX2_behindStep_73 rfl ?_
    refine jw_callV (pc := 75) (m2 := mX5_hasCell) (As := [.int (M.1 43 j1)]) (st := []) dX2_behindStep_75 sC_30 (by decide) rfl rfl gm_X5_hasCell ml_X2_54 rfl (Nat.le_of_ble_eq_true rfl) (JC.mono h ?_)
    clear h
    rintro M1 _ ⟨b1, rfl, h⟩
    refine jw_st (st' := [.int (jb b1)]) rfl ?_
    refine jw_if_eq (pc := 78) (tgt := 95) dX2_behindStep_78 (by decide) (fun c => ?_) (fun c => ?_)
    · replace h := h.1 ((jb_0 _).mp c)
      refine jw_iload (pc := 95) (j := 5) dX2_behindStep_95 rfl ?_
      refine jw_iconst (pc := 97) (v := 1) dX2_behindStep_97 rfl ?_
      refine jw_iadd (pc := 98) dX2_behindStep_98 ?_
      exact jw_iret (pc := 99) dX2_behindStep_99 rfl ⟨_, rfl, h⟩
    · replace h := h.2 (jb_ne c)
      refine jw_aload_n (pc := 81) (j := 1) dX2_behindStep_81 rfl rfl ?_
      refine jw_aload_n (pc := 82) (j := 4) dX2_behindStep_82 rfl rfl ?_
      refine jw_iload (pc := 83) (j := 0) dX2_behindStep_83 rfl ?_
      refine jw_aload_n (pc := 85) (j := 2) dX2_behindStep_85 rfl rfl ?_
      refine jw_getR (pc := 86) (r := 46) dX2_behindStep_86 sC_40 fl_X2_60 (by decide) rfl rfl ?_
      refine jw_iload (pc := 89) (j := 5) dX2_behindStep_89 rfl ?_
      refine jw_iald (pc := 91) (j := j1) dX2_behindStep_91 sC_46 hj1 ej1 (by decide) ?_
      refine jw_callV (pc := 92) (m2 := mX2_lay) (As := [.ref (x.2.2.2 o3), .int (M.1 43 j1), .int (M1.1 46 j1)]) (st := []) dX2_behindStep_92 sC_70 (by decide) rfl rfl gm_X2_lay ml_X2_63 rfl (Nat.le_of_ble_eq_true rfl) (JC.mono h ?_)
      clear h
      rintro M2 _ ⟨rfl, h⟩
      refine jw_st (st' := []) rfl ?_
      refine jw_iload (pc := 95) (j := 5) dX2_behindStep_95 rfl ?_
      refine jw_iconst (pc := 97) (v := 1) dX2_behindStep_97 rfl ?_
      refine jw_iadd (pc := 98) dX2_behindStep_98 ?_
      exact jw_iret (pc := 99) dX2_behindStep_99 rfl ⟨_, rfl, h⟩
  · replace h := h.2 c0
    refine (Decidable.em ((M.1 41 j1) = 7)).elim (fun c1 => ?_) (fun c1 => ?_)
    · replace h := h.1 c1
      refine jw_tableIn (pc := 16) (tgt := 100) dX2_behindStep_16 (by rw [c1]; decide) (by rw [c1]; decide) (by rw [c1]; rfl) (by decide) ?_
      refine jw_aload_n (pc := 100) (j := 3) dX2_behindStep_100 rfl rfl ?_
      refine jw_iload (pc := 101) (j := 0) dX2_behindStep_101 rfl ?_
      refine jw_callV (pc := 103) (m2 := mX5_hasCell) (As := [.int (M.1 43 j1)]) (st := []) dX2_behindStep_103 sC_30 (by decide) rfl rfl gm_X5_hasCell ml_X2_54 rfl (Nat.le_of_ble_eq_true rfl) (JC.mono h ?_)
      clear h
      rintro M3 _ ⟨b2, rfl, h⟩
      refine jw_st (st' := [.int (jb b2)]) rfl ?_
      refine jw_if_eq (pc := 106) (tgt := 123) dX2_behindStep_106 (by decide) (fun c => ?_) (fun c => ?_)
      · replace h := h.1 ((jb_0 _).mp c)
        refine jw_iload (pc := 123) (j := 5) dX2_behindStep_123 rfl ?_
        refine jw_iconst (pc := 125) (v := 1) dX2_behindStep_125 rfl ?_
        refine jw_iadd (pc := 126) dX2_behindStep_126 ?_
        exact jw_iret (pc := 127) dX2_behindStep_127 rfl ⟨_, rfl, h⟩
      · replace h := h.2 (jb_ne c)
        refine jw_aload_n (pc := 109) (j := 1) dX2_behindStep_109 rfl rfl ?_
        refine jw_aload_n (pc := 110) (j := 4) dX2_behindStep_110 rfl rfl ?_
        refine jw_iload (pc := 111) (j := 0) dX2_behindStep_111 rfl ?_
        refine jw_aload_n (pc := 113) (j := 2) dX2_behindStep_113 rfl rfl ?_
        refine jw_getR (pc := 114) (r := 46) dX2_behindStep_114 sC_40 fl_X2_60 (by decide) rfl rfl ?_
        refine jw_iload (pc := 117) (j := 5) dX2_behindStep_117 rfl ?_
        refine jw_iald (pc := 119) (j := j1) dX2_behindStep_119 sC_46 hj1 ej1 (by decide) ?_
        refine jw_callV (pc := 120) (m2 := mX2_take) (As := [.ref (x.2.2.2 o3), .int (M.1 43 j1), .int (M3.1 46 j1)]) (st := []) dX2_behindStep_120 sC_70 (by decide) rfl rfl gm_X2_take ml_X2_67 rfl (Nat.le_of_ble_eq_true rfl) (JC.mono h ?_)
        clear h
        rintro M4 _ ⟨rfl, h⟩
        refine jw_st (st' := []) rfl ?_
        refine jw_iload (pc := 123) (j := 5) dX2_behindStep_123 rfl ?_
        refine jw_iconst (pc := 125) (v := 1) dX2_behindStep_125 rfl ?_
        refine jw_iadd (pc := 126) dX2_behindStep_126 ?_
        exact jw_iret (pc := 127) dX2_behindStep_127 rfl ⟨_, rfl, h⟩
    · replace h := h.2 c1
      refine (Decidable.em ((M.1 41 j1) = 8)).elim (fun c2 => ?_) (fun c2 => ?_)
      · replace h := h.1 c2
        refine jw_tableIn (pc := 16) (tgt := 197) dX2_behindStep_16 (by rw [c2]; decide) (by rw [c2]; decide) (by rw [c2]; rfl) (by decide) ?_
        refine jw_aload_n (pc := 197) (j := 2) dX2_behindStep_197 rfl rfl ?_
        refine jw_getI (pc := 198) dX2_behindStep_198 sC_40 fl_X2_32 (by decide) rfl ?_
        exact jw_iret (pc := 201) dX2_behindStep_201 rfl ⟨_, rfl, h⟩
      · replace h := h.2 c2
        refine (Decidable.em ((M.1 41 j1) = 9)).elim (fun c3 => ?_) (fun c3 => ?_)
        · replace h := h.1 c3
          refine jw_tableIn (pc := 16) (tgt := 128) dX2_behindStep_16 (by rw [c3]; decide) (by rw [c3]; decide) (by rw [c3]; rfl) (by decide) ?_
          refine jw_aload_n (pc := 128) (j := 1) dX2_behindStep_128 rfl rfl ?_
          refine jw_aload_n (pc := 129) (j := 4) dX2_behindStep_129 rfl rfl ?_
          refine jw_aload_n (pc := 130) (j := 3) dX2_behindStep_130 rfl rfl ?_
          refine jw_getI (pc := 131) dX2_behindStep_131 sC_30 fl_X2_70 (by decide) rfl ?_
          refine jw_aload_n (pc := 134) (j := 2) dX2_behindStep_134 rfl rfl ?_
          refine jw_getR (pc := 135) (r := 46) dX2_behindStep_135 sC_40 fl_X2_60 (by decide) rfl rfl ?_
          refine jw_iload (pc := 138) (j := 5) dX2_behindStep_138 rfl ?_
          refine jw_iald (pc := 140) (j := j1) dX2_behindStep_140 sC_46 hj1 ej1 (by decide) ?_
          refine jw_callV (pc := 141) (m2 := mX2_rage) (As := [.ref (x.2.2.2 o3), .int (M.1 30 2), .int (M.1 46 j1)]) (st := []) dX2_behindStep_141 sC_70 (by decide) rfl rfl gm_X2_rage ml_X2_73 rfl (Nat.le_of_ble_eq_true rfl) (JC.mono h ?_)
          clear h
          rintro M5 _ ⟨rfl, h⟩
          refine jw_st (st' := []) rfl ?_
          refine jw_iload (pc := 144) (j := 5) dX2_behindStep_144 rfl ?_
          refine jw_iconst (pc := 146) (v := 1) dX2_behindStep_146 rfl ?_
          refine jw_iadd (pc := 147) dX2_behindStep_147 ?_
          exact jw_iret (pc := 148) dX2_behindStep_148 rfl ⟨_, rfl, h⟩
        · replace h := h.2 c3
          refine (Decidable.em ((M.1 41 j1) = 10)).elim (fun c4 => ?_) (fun c4 => ?_)
          · replace h := h.1 c4
            refine jw_tableIn (pc := 16) (tgt := 149) dX2_behindStep_16 (by rw [c4]; decide) (by rw [c4]; decide) (by rw [c4]; rfl) (by decide) ?_
            refine jw_aload_n (pc := 149) (j := 1) dX2_behindStep_149 rfl rfl ?_
            refine jw_aload_n (pc := 150) (j := 2) dX2_behindStep_150 rfl rfl ?_
            refine jw_aload_n (pc := 151) (j := 3) dX2_behindStep_151 rfl rfl ?_
            refine jw_aload_n (pc := 152) (j := 4) dX2_behindStep_152 rfl rfl ?_
            refine jw_iload (pc := 153) (j := 5) dX2_behindStep_153 rfl ?_
            refine jw_callV (pc := 155) (m2 := mX2_isSo) (As := [.ref (x.2.2.2 40), .ref (x.2.2.2 30), .ref (x.2.2.2 o3), .int a4]) (st := []) dX2_behindStep_155 sC_70 (by decide) rfl rfl gm_X2_isSo ml_X2_76 rfl (Nat.le_of_ble_eq_true rfl) (JC.mono h ?_)
            clear h
            rintro M6 _ ⟨b3, rfl, h⟩
            refine jw_st (st' := [.int (jb b3)]) rfl ?_
            refine jw_if_eq (pc := 158) (tgt := 168) dX2_behindStep_158 (by decide) (fun c => ?_) (fun c => ?_)
            · replace h := h.1 ((jb_0 _).mp c)
              refine jw_aload_n (pc := 168) (j := 2) dX2_behindStep_168 rfl rfl ?_
              refine jw_getR (pc := 169) (r := 47) dX2_behindStep_169 sC_40 fl_X2_48 (by decide) rfl rfl ?_
              refine jw_iload (pc := 172) (j := 5) dX2_behindStep_172 rfl ?_
              refine jw_iald (pc := 174) (j := j1) dX2_behindStep_174 sC_47 hj1 ej1 (by decide) ?_
              refine jw_iconst (pc := 175) (v := 1) dX2_behindStep_175 rfl ?_
              refine jw_iadd (pc := 176) dX2_behindStep_176 ?_
              exact jw_iret (pc := 177) dX2_behindStep_177 rfl ⟨_, rfl, h⟩
            · replace h := h.2 (jb_ne c)
              refine jw_iload (pc := 161) (j := 5) dX2_behindStep_161 rfl ?_
              refine jw_iconst (pc := 163) (v := 1) dX2_behindStep_163 rfl ?_
              refine jw_iadd (pc := 164) dX2_behindStep_164 ?_
              refine jw_goto (pc := 165) (tgt := 177) dX2_behindStep_165 (by decide) ?_
              exact jw_iret (pc := 177) dX2_behindStep_177 rfl ⟨_, rfl, h⟩
          · replace h := h.2 c4
            refine (Decidable.em ((M.1 41 j1) = 11)).elim (fun c5 => ?_) (fun c5 => ?_)
            · replace h := h.1 c5
              refine jw_tableIn (pc := 16) (tgt := 197) dX2_behindStep_16 (by rw [c5]; decide) (by rw [c5]; decide) (by rw [c5]; rfl) (by decide) ?_
              refine jw_aload_n (pc := 197) (j := 2) dX2_behindStep_197 rfl rfl ?_
              refine jw_getI (pc := 198) dX2_behindStep_198 sC_40 fl_X2_32 (by decide) rfl ?_
              exact jw_iret (pc := 201) dX2_behindStep_201 rfl ⟨_, rfl, h⟩
            · replace h := h.2 c5
              refine (Decidable.em ((M.1 41 j1) = 12)).elim (fun c6 => ?_) (fun c6 => ?_)
              · replace h := h.1 c6
                refine jw_tableIn (pc := 16) (tgt := 197) dX2_behindStep_16 (by rw [c6]; decide) (by rw [c6]; decide) (by rw [c6]; rfl) (by decide) ?_
                refine jw_aload_n (pc := 197) (j := 2) dX2_behindStep_197 rfl rfl ?_
                refine jw_getI (pc := 198) dX2_behindStep_198 sC_40 fl_X2_32 (by decide) rfl ?_
                exact jw_iret (pc := 201) dX2_behindStep_201 rfl ⟨_, rfl, h⟩
              · replace h := h.2 c6
                refine (Decidable.em ((M.1 41 j1) = 13)).elim (fun c7 => ?_) (fun c7 => ?_)
                · replace h := h.1 c7
                  refine jw_tableIn (pc := 16) (tgt := 197) dX2_behindStep_16 (by rw [c7]; decide) (by rw [c7]; decide) (by rw [c7]; rfl) (by decide) ?_
                  refine jw_aload_n (pc := 197) (j := 2) dX2_behindStep_197 rfl rfl ?_
                  refine jw_getI (pc := 198) dX2_behindStep_198 sC_40 fl_X2_32 (by decide) rfl ?_
                  exact jw_iret (pc := 201) dX2_behindStep_201 rfl ⟨_, rfl, h⟩
                · replace h := h.2 c7
                  refine (Decidable.em ((M.1 41 j1) = 14)).elim (fun c8 => ?_) (fun c8 => ?_)
                  · replace h := h.1 c8
                    refine jw_tableIn (pc := 16) (tgt := 197) dX2_behindStep_16 (by rw [c8]; decide) (by rw [c8]; decide) (by rw [c8]; rfl) (by decide) ?_
                    refine jw_aload_n (pc := 197) (j := 2) dX2_behindStep_197 rfl rfl ?_
                    refine jw_getI (pc := 198) dX2_behindStep_198 sC_40 fl_X2_32 (by decide) rfl ?_
                    exact jw_iret (pc := 201) dX2_behindStep_201 rfl ⟨_, rfl, h⟩
                  · replace h := h.2 c8
                    refine (Decidable.em ((M.1 41 j1) = 15)).elim (fun c9 => ?_) (fun c9 => ?_)
                    · replace h := h.1 c9
                      refine jw_tableIn (pc := 16) (tgt := 178) dX2_behindStep_16 (by rw [c9]; decide) (by rw [c9]; decide) (by rw [c9]; rfl) (by decide) ?_
                      refine jw_aload_n (pc := 178) (j := 1) dX2_behindStep_178 rfl rfl ?_
                      refine jw_getR (pc := 179) (r := 71) dX2_behindStep_179 sC_70 fl_X2_9 (by decide) rfl rfl ?_
                      refine jw_iload (pc := 182) (j := 5) dX2_behindStep_182 rfl ?_
                      refine jw_aload_n (pc := 184) (j := 2) dX2_behindStep_184 rfl rfl ?_
                      refine jw_getR (pc := 185) (r := 46) dX2_behindStep_185 sC_40 fl_X2_60 (by decide) rfl rfl ?_
                      refine jw_iload (pc := 188) (j := 5) dX2_behindStep_188 rfl ?_
                      refine jw_iald (pc := 190) (j := j1) dX2_behindStep_190 sC_46 hj1 ej1 (by decide) ?_
                      refine jw_iast (pc := 191) (j := j1) dX2_behindStep_191 sC_71 hj1 ej1 (by decide) ?_
                      replace h := h _ rfl
                      generalize jrI M 71 (upd (M.1 71) j1 (M.1 46 j1)) = M7 at h ⊢
                      refine jw_iload (pc := 192) (j := 5) dX2_behindStep_192 rfl ?_
                      refine jw_iconst (pc := 194) (v := 1) dX2_behindStep_194 rfl ?_
                      refine jw_iadd (pc := 195) dX2_behindStep_195 ?_
                      exact jw_iret (pc := 196) dX2_behindStep_196 rfl ⟨_, rfl, h⟩
                    · replace h := h.2 c9
                      have e0 := jne_i (k := 6) (n := 6) c0 (by decide)
                      have e1 := jne_i (k := 7) (n := 7) c1 (by decide)
                      have e2 := jne_i (k := 8) (n := 8) c2 (by decide)
                      have e3 := jne_i (k := 9) (n := 9) c3 (by decide)
                      have e4 := jne_i (k := 10) (n := 10) c4 (by decide)
                      have e5 := jne_i (k := 11) (n := 11) c5 (by decide)
                      have e6 := jne_i (k := 12) (n := 12) c6 (by decide)
                      have e7 := jne_i (k := 13) (n := 13) c7 (by decide)
                      have e8 := jne_i (k := 14) (n := 14) c8 (by decide)
                      have e9 := jne_i (k := 15) (n := 15) c9 (by decide)
                      refine jw_tableOut (pc := 16) (tgt := 197) dX2_behindStep_16 (by omega) (by decide) ?_
                      refine jw_aload_n (pc := 197) (j := 2) dX2_behindStep_197 rfl rfl ?_
                      refine jw_getI (pc := 198) dX2_behindStep_198 sC_40 fl_X2_32 (by decide) rfl ?_
                      exact jw_iret (pc := 201) dX2_behindStep_201 rfl ⟨_, rfl, h⟩
set_option maxRecDepth 20000 in
theorem b_X2_lay {x : jX} {d : Nat} {M : jM} {P : jM → Prop} {o1 : Nat} {n1 : Nat} {a2 : Int32} {a3 : Int32} (s1 : js jtbC o1 = (20, n1)) (z1 : n1 < 2 ^ 31)
    (h : ∃ j1, j1 < n1 ∧ a2 = nI j1 ∧ (JC x jtbC mJ9_min_7cf53 d [.int a3, .int ((99 : Int32) - (M.1 o1 j1))] M (jI fun M1 r1 => ∀ M2, M2 = jrI M1 o1 (upd (M1.1 o1) j1 ((M1.1 o1 j1) + r1)) → ∀ M3, M3 = jrI M2 70 (upd (M2.1 70) 1 ((M2.1 70 1) + r1)) → P M3))) :
    JC x jtbC mX2_lay (d + 1) [.ref (x.2.2.2 70), .ref (x.2.2.2 o1), .int a2, .int a3] M (jV P) := by
  refine JC.of rfl (Nat.le_of_ble_eq_true rfl) ?_
  refine jw_ls (ls' := [(0, .ref (x.2.2.2 70)), (1, .ref (x.2.2.2 o1)), (2, .int a2), (3, .int a3)]) rfl ?_
  refine jw_iload_n (pc := 0) (j := 3) dX2_lay_0 rfl rfl ?_
  refine jw_bipush (pc := 1) (v := 99) dX2_lay_1 rfl ?_
  refine jw_aload_n (pc := 3) (j := 1) dX2_lay_3 rfl rfl ?_
  refine jw_iload_n (pc := 4) (j := 2) dX2_lay_4 rfl rfl ?_
  obtain ⟨j1, hj1, ej1, h⟩ := h
  refine jw_iald (pc := 5) (j := j1) dX2_lay_5 s1 hj1 ej1 z1 ?_
  refine jw_isub (pc := 6) dX2_lay_6 ?_
  refine jw_callS (pc := 7) (m2 := mJ9_min_7cf53) (As := [.int a3, .int ((99 : Int32) - (M.1 o1 j1))]) (st := []) dX2_lay_7 gm_J9_min_7cf53 ml_X2_80 rfl (Nat.le_of_ble_eq_true rfl) (JC.mono h ?_)
  clear h
  rintro M1 _ ⟨r1, rfl, h⟩
  refine jw_st (st' := [.int r1]) rfl ?_
  refine jw_istore (pc := 10) (ls' := [(4, .int r1), (0, .ref (x.2.2.2 70)), (1, .ref (x.2.2.2 o1)), (2, .int a2), (3, .int a3)]) dX2_lay_10 (by decide) rfl ?_
  refine jw_aload_n (pc := 12) (j := 2) dX2_lay_12 rfl rfl ?_
  refine jw_iload_n (pc := 13) (j := 3) dX2_lay_13 rfl rfl ?_
  refine jw_dup2 (pc := 14) dX2_lay_14 rfl rfl ?_
  refine jw_iald (pc := 15) (j := j1) dX2_lay_15 s1 hj1 ej1 z1 ?_
  refine jw_iload (pc := 16) (j := 0) dX2_lay_16 rfl ?_
  refine jw_iadd (pc := 18) dX2_lay_18 ?_
  refine jw_iast (pc := 19) (j := j1) dX2_lay_19 s1 hj1 ej1 z1 ?_
  replace h := h _ rfl
  generalize jrI M1 o1 (upd (M1.1 o1) j1 ((M1.1 o1 j1) + r1)) = M2 at h ⊢
  refine jw_aload_n (pc := 20) (j := 1) dX2_lay_20 rfl rfl ?_
  refine jw_dup (pc := 21) dX2_lay_21 rfl ?_
  refine jw_getI (pc := 22) dX2_lay_22 sC_70 fl_X2_19 (by decide) rfl ?_
  refine jw_iload (pc := 25) (j := 0) dX2_lay_25 rfl ?_
  refine jw_iadd (pc := 27) dX2_lay_27 ?_
  refine jw_putI (pc := 28) dX2_lay_28 sC_70 fl_X2_19 fw_2_1 (by decide) rfl ?_
  replace h := h _ rfl
  generalize jrI M2 70 (upd (M2.1 70) 1 ((M2.1 70 1) + r1)) = M3 at h ⊢
  exact jw_vret (pc := 31) dX2_lay_31 rfl ⟨rfl, h⟩
set_option maxRecDepth 20000 in
theorem b_X2_take {x : jX} {d : Nat} {M : jM} {P : jM → Prop} {o1 : Nat} {n1 : Nat} {a2 : Int32} {a3 : Int32} (s1 : js jtbC o1 = (20, n1)) (z1 : n1 < 2 ^ 31)
    (h : ∃ j1, j1 < n1 ∧ a2 = nI j1 ∧ (JC x jtbC mJ9_min_7cf53 d [.int a3, .int (M.1 o1 j1)] M (jI fun M1 r1 => ∀ M2, M2 = jrI M1 o1 (upd (M1.1 o1) j1 ((M1.1 o1 j1) - r1)) → ∀ M3, M3 = jrI M2 70 (upd (M2.1 70) 2 ((M2.1 70 2) + r1)) → P M3))) :
    JC x jtbC mX2_take (d + 1) [.ref (x.2.2.2 70), .ref (x.2.2.2 o1), .int a2, .int a3] M (jV P) := by
  refine JC.of rfl (Nat.le_of_ble_eq_true rfl) ?_
  refine jw_ls (ls' := [(0, .ref (x.2.2.2 70)), (1, .ref (x.2.2.2 o1)), (2, .int a2), (3, .int a3)]) rfl ?_
  refine jw_iload_n (pc := 0) (j := 3) dX2_take_0 rfl rfl ?_
  refine jw_aload_n (pc := 1) (j := 1) dX2_take_1 rfl rfl ?_
  refine jw_iload_n (pc := 2) (j := 2) dX2_take_2 rfl rfl ?_
  obtain ⟨j1, hj1, ej1, h⟩ := h
  refine jw_iald (pc := 3) (j := j1) dX2_take_3 s1 hj1 ej1 z1 ?_
  refine jw_callS (pc := 4) (m2 := mJ9_min_7cf53) (As := [.int a3, .int (M.1 o1 j1)]) (st := []) dX2_take_4 gm_J9_min_7cf53 ml_X2_80 rfl (Nat.le_of_ble_eq_true rfl) (JC.mono h ?_)
  clear h
  rintro M1 _ ⟨r1, rfl, h⟩
  refine jw_st (st' := [.int r1]) rfl ?_
  refine jw_istore (pc := 7) (ls' := [(4, .int r1), (0, .ref (x.2.2.2 70)), (1, .ref (x.2.2.2 o1)), (2, .int a2), (3, .int a3)]) dX2_take_7 (by decide) rfl ?_
  refine jw_aload_n (pc := 9) (j := 2) dX2_take_9 rfl rfl ?_
  refine jw_iload_n (pc := 10) (j := 3) dX2_take_10 rfl rfl ?_
  refine jw_dup2 (pc := 11) dX2_take_11 rfl rfl ?_
  refine jw_iald (pc := 12) (j := j1) dX2_take_12 s1 hj1 ej1 z1 ?_
  refine jw_iload (pc := 13) (j := 0) dX2_take_13 rfl ?_
  refine jw_isub (pc := 15) dX2_take_15 ?_
  refine jw_iast (pc := 16) (j := j1) dX2_take_16 s1 hj1 ej1 z1 ?_
  replace h := h _ rfl
  generalize jrI M1 o1 (upd (M1.1 o1) j1 ((M1.1 o1 j1) - r1)) = M2 at h ⊢
  refine jw_aload_n (pc := 17) (j := 1) dX2_take_17 rfl rfl ?_
  refine jw_dup (pc := 18) dX2_take_18 rfl ?_
  refine jw_getI (pc := 19) dX2_take_19 sC_70 fl_X2_22 (by decide) rfl ?_
  refine jw_iload (pc := 22) (j := 0) dX2_take_22 rfl ?_
  refine jw_iadd (pc := 24) dX2_take_24 ?_
  refine jw_putI (pc := 25) dX2_take_25 sC_70 fl_X2_22 fw_2_2 (by decide) rfl ?_
  replace h := h _ rfl
  generalize jrI M2 70 (upd (M2.1 70) 2 ((M2.1 70 2) + r1)) = M3 at h ⊢
  exact jw_vret (pc := 28) dX2_take_28 rfl ⟨rfl, h⟩
set_option maxRecDepth 20000 in
theorem b_X2_rage {x : jX} {d : Nat} {M : jM} {P : jM → Prop} {o1 : Nat} {a2 : Int32} {a3 : Int32} 
    (h : (0 < a2 → JW x jtbC mX2_rage (d + 1) (jV P) 8 [(0, .ref (x.2.2.2 70)), (1, .ref (x.2.2.2 o1)), (2, .int a2), (3, .int a3), (4, .int (0 : Int32))] [] M) ∧ (¬ 0 < a2 → P M)) :
    JC x jtbC mX2_rage (d + 1) [.ref (x.2.2.2 70), .ref (x.2.2.2 o1), .int a2, .int a3] M (jV P) := by
  refine JC.of rfl (Nat.le_of_ble_eq_true rfl) ?_
  refine jw_ls (ls' := [(0, .ref (x.2.2.2 70)), (1, .ref (x.2.2.2 o1)), (2, .int a2), (3, .int a3)]) rfl ?_
  refine jw_iload_n (pc := 0) (j := 2) dX2_rage_0 rfl rfl ?_
  refine jw_if_gt (pc := 1) (tgt := 5) dX2_rage_1 (by decide) (fun c => ?_) (fun c => ?_)
  · replace h := h.1 c
    refine jw_iconst (pc := 5) (v := 0) dX2_rage_5 rfl ?_
    refine jw_istore (pc := 6) (ls' := [(4, .int (0 : Int32)), (0, .ref (x.2.2.2 70)), (1, .ref (x.2.2.2 o1)), (2, .int a2), (3, .int a3)]) dX2_rage_6 (by decide) rfl ?_
    exact jw_sub [1, 2, 3, 4, 0] rfl h
  · replace h := h.2 c
    exact jw_vret (pc := 4) dX2_rage_4 rfl ⟨rfl, h⟩
set_option maxRecDepth 20000 in
theorem b_X2_rage_8 {x : jX} {d : Nat} {M : jM} {P : jM → Prop} {o1 : Nat} {l2 : Int32} {l3 : Int32} {l4 : Int32} 
    (h : (l3 ≤ l4 → P M) ∧ (¬ l3 ≤ l4 → ∀ M1, M1 = jrI M 70 (upd (M.1 70) 5 ((((M.1 70 5) * (2861 : Int32)) + (12007 : Int32)) - (((M.1 70 5) * (2861 : Int32)) + (12007 : Int32)) / (65536 : Int32) * (65536 : Int32))) → ¬ l2 = 0 ∧ (JC x jtbC mX2_take d [.ref (x.2.2.2 70), .ref (x.2.2.2 o1), .int (((M1.1 70 5) / (8 : Int32)) - ((M1.1 70 5) / (8 : Int32)) / l2 * l2), .int (1 : Int32)] M1 (jV fun M2 => JW x jtbC mX2_rage (d + 1) (jV P) 8 [(0, .ref (x.2.2.2 70)), (1, .ref (x.2.2.2 o1)), (2, .int l2), (3, .int l3), (4, .int (l4 + 1))] [] M2)))) :
    JW x jtbC mX2_rage (d + 1) (jV P) 8 [(0, .ref (x.2.2.2 70)), (1, .ref (x.2.2.2 o1)), (2, .int l2), (3, .int l3), (4, .int l4)] [] M := by
  refine jw_iload (pc := 8) (j := 4) dX2_rage_8 rfl ?_
  refine jw_iload_n (pc := 10) (j := 3) dX2_rage_10 rfl rfl ?_
  refine jw_icmp_ge (pc := 11) (tgt := 54) dX2_rage_11 (by decide) (fun c => ?_) (fun c => ?_)
  · replace h := h.1 c
    exact jw_vret (pc := 54) dX2_rage_54 rfl ⟨rfl, h⟩
  · replace h := h.2 c
    refine jw_aload_n (pc := 14) (j := 0) dX2_rage_14 rfl rfl ?_
    refine jw_aload_n (pc := 15) (j := 0) dX2_rage_15 rfl rfl ?_
    refine jw_getI (pc := 16) dX2_rage_16 sC_70 fl_X2_28 (by decide) rfl ?_
    refine jw_sipush (pc := 19) (v := 2861) dX2_rage_19 rfl ?_
    refine jw_imul (pc := 22) dX2_rage_22 ?_
    refine jw_sipush (pc := 23) (v := 12007) dX2_rage_23 rfl ?_
    refine jw_iadd (pc := 26) dX2_rage_26 ?_
    refine jw_ldc (pc := 27) (v := 65536) dX2_rage_27 kc_X2_86 ?_
    refine jw_irem (pc := 29) dX2_rage_29 (by decide) ?_
    refine jw_putI (pc := 30) dX2_rage_30 sC_70 fl_X2_28 fw_2_5 (by decide) rfl ?_
    replace h := h _ rfl
    generalize jrI M 70 (upd (M.1 70) 5 ((((M.1 70 5) * (2861 : Int32)) + (12007 : Int32)) - (((M.1 70 5) * (2861 : Int32)) + (12007 : Int32)) / (65536 : Int32) * (65536 : Int32))) = M1 at h ⊢
    refine jw_aload_n (pc := 33) (j := 0) dX2_rage_33 rfl rfl ?_
    refine jw_aload_n (pc := 34) (j := 1) dX2_rage_34 rfl rfl ?_
    refine jw_aload_n (pc := 35) (j := 0) dX2_rage_35 rfl rfl ?_
    refine jw_getI (pc := 36) dX2_rage_36 sC_70 fl_X2_28 (by decide) rfl ?_
    refine jw_bipush (pc := 39) (v := 8) dX2_rage_39 rfl ?_
    refine jw_idiv (pc := 41) dX2_rage_41 (by decide) ?_
    refine jw_iload_n (pc := 42) (j := 2) dX2_rage_42 rfl rfl ?_
    obtain ⟨h0, h⟩ := h
    refine jw_irem (pc := 43) dX2_rage_43 h0 ?_
    refine jw_iconst (pc := 44) (v := 1) dX2_rage_44 rfl ?_
    refine jw_callV (pc := 45) (m2 := mX2_take) (As := [.ref (x.2.2.2 o1), .int (((M1.1 70 5) / (8 : Int32)) - ((M1.1 70 5) / (8 : Int32)) / l2 * l2), .int (1 : Int32)]) (st := []) dX2_rage_45 sC_70 (by decide) rfl rfl gm_X2_take ml_X2_67 rfl (Nat.le_of_ble_eq_true rfl) (JC.mono h ?_)
    clear h
    rintro M2 _ ⟨rfl, h⟩
    refine jw_st (st' := []) rfl ?_
    refine jw_iinc (pc := 48) (j := 4) (u := l4 + 1) (ls' := [(4, .int (l4 + 1)), (0, .ref (x.2.2.2 70)), (1, .ref (x.2.2.2 o1)), (2, .int l2), (3, .int l3)]) dX2_rage_48 rfl rfl (by decide) rfl ?_
    refine jw_goto (pc := 51) (tgt := 8) dX2_rage_51 (by decide) ?_
    exact jw_sub [1, 2, 3, 4, 0] rfl h
set_option maxRecDepth 20000 in
theorem b_X2_isSo {x : jX} {d : Nat} {M : jM} {P : jM → Bool → Prop} {o3 : Nat} {n3 : Nat} {a4 : Int32} (s3 : js jtbC o3 = (20, n3)) (z3 : n3 < 2 ^ 31)
    (h : ∃ j1, j1 < 60 ∧ a4 = nI j1 ∧ (((M.1 42 j1) = 5 → JC x jtbC mX5_hasStrip d [.ref (x.2.2.2 30), .int (M.1 43 j1), .int (M.1 44 j1)] M (jZ fun M1 b1 => (b1 = false → P M1 false) ∧ (b1 = true → JC x jtbC mX5_sightOf d [.ref (x.2.2.2 30), .int (M.1 43 j1), .int (M1.1 44 j1), .ref (x.2.2.2 o3)] M1 (jI fun M2 r1 => JC x jtbC mX2_compares d [.int r1, .int (M.1 45 j1), .int (M.1 46 j1)] M2 (jZ fun M3 b2 => (b2 = false → P M3 false) ∧ (b2 = true → P M3 true)))))) ∧ (¬ (M.1 42 j1) = 5 → ((M.1 42 j1) = 11 → JC x jtbC mX5_hasCell d [.ref (x.2.2.2 30), .int (M.1 43 j1)] M (jZ fun M4 b3 => (b3 = false → P M4 false) ∧ (b3 = true → ∃ j2, j2 < n3 ∧ M.1 43 j1 = nI j2 ∧ (JC x jtbC mX2_compares d [.int (M4.1 o3 j2), .int (M.1 45 j1), .int (M.1 46 j1)] M4 (jZ fun M5 b4 => (b4 = false → P M5 false) ∧ (b4 = true → P M5 true)))))) ∧ (¬ (M.1 42 j1) = 11 → ((M.1 42 j1) = 13 → JC x jtbC mX5_hasVillage d [.ref (x.2.2.2 30), .int (M.1 43 j1)] M (jZ fun M6 b5 => (b5 = false → P M6 false) ∧ (b5 = true → JC x jtbC mX5_hasSky d [.ref (x.2.2.2 30), .int (M.1 43 j1)] M6 (jZ fun M7 b6 => (b6 = false → P M7 false) ∧ (b6 = true → JC x jtbC mX5_firstUnlikeStrip d [.ref (x.2.2.2 30), .int (M.1 43 j1), .ref (x.2.2.2 o3)] M7 (jI fun M8 r2 => (¬ r2 = (-1 : Int32) → P M8 false) ∧ (r2 = (-1 : Int32) → P M8 true))))))) ∧ (¬ (M.1 42 j1) = 13 → JC x jtbC mX5_stoneOf d [.ref (x.2.2.2 30), .ref (x.2.2.2 o3)] M (jI fun M9 r3 => JC x jtbC mX2_compares d [.int r3, .int (M.1 45 j1), .int (M.1 46 j1)] M9 (jZ fun M10 b7 => P M10 b7))))))) :
    JC x jtbC mX2_isSo (d + 1) [.ref (x.2.2.2 70), .ref (x.2.2.2 40), .ref (x.2.2.2 30), .ref (x.2.2.2 o3), .int a4] M (jZ P) := by
  refine JC.of rfl (Nat.le_of_ble_eq_true rfl) ?_
  refine jw_ls (ls' := [(0, .ref (x.2.2.2 70)), (1, .ref (x.2.2.2 40)), (2, .ref (x.2.2.2 30)), (3, .ref (x.2.2.2 o3)), (4, .int a4)]) rfl ?_
  refine jw_aload_n (pc := 0) (j := 1) dX2_isSo_0 rfl rfl ?_
  refine jw_getR (pc := 1) (r := 43) dX2_isSo_1 sC_40 fl_X2_51 (by decide) rfl rfl ?_
  refine jw_iload (pc := 4) (j := 4) dX2_isSo_4 rfl ?_
  obtain ⟨j1, hj1, ej1, h⟩ := h
  refine jw_iald (pc := 6) (j := j1) dX2_isSo_6 sC_43 hj1 ej1 (by decide) ?_
  refine jw_istore (pc := 7) (ls' := [(5, .int (M.1 43 j1)), (0, .ref (x.2.2.2 70)), (1, .ref (x.2.2.2 40)), (2, .ref (x.2.2.2 30)), (3, .ref (x.2.2.2 o3)), (4, .int a4)]) dX2_isSo_7 (by decide) rfl ?_
  refine jw_aload_n (pc := 9) (j := 2) dX2_isSo_9 rfl rfl ?_
  refine jw_getR (pc := 10) (r := 45) dX2_isSo_10 sC_40 fl_X2_87 (by decide) rfl rfl ?_
  refine jw_iload (pc := 13) (j := 5) dX2_isSo_13 rfl ?_
  refine jw_iald (pc := 15) (j := j1) dX2_isSo_15 sC_45 hj1 ej1 (by decide) ?_
  refine jw_istore (pc := 16) (ls' := [(6, .int (M.1 45 j1)), (5, .int (M.1 43 j1)), (0, .ref (x.2.2.2 70)), (1, .ref (x.2.2.2 40)), (2, .ref (x.2.2.2 30)), (3, .ref (x.2.2.2 o3)), (4, .int a4)]) dX2_isSo_16 (by decide) rfl ?_
  refine jw_aload_n (pc := 18) (j := 3) dX2_isSo_18 rfl rfl ?_
  refine jw_getR (pc := 19) (r := 46) dX2_isSo_19 sC_40 fl_X2_60 (by decide) rfl rfl ?_
  refine jw_iload (pc := 22) (j := 6) dX2_isSo_22 rfl ?_
  refine jw_iald (pc := 24) (j := j1) dX2_isSo_24 sC_46 hj1 ej1 (by decide) ?_
  refine jw_istore (pc := 25) (ls' := [(7, .int (M.1 46 j1)), (6, .int (M.1 45 j1)), (5, .int (M.1 43 j1)), (0, .ref (x.2.2.2 70)), (1, .ref (x.2.2.2 40)), (2, .ref (x.2.2.2 30)), (3, .ref (x.2.2.2 o3)), (4, .int a4)]) dX2_isSo_25 (by decide) rfl ?_
  refine jw_aload_n (pc := 27) (j := 4) dX2_isSo_27 rfl rfl ?_
  refine jw_getR (pc := 28) (r := 42) dX2_isSo_28 sC_40 fl_X2_90 (by decide) rfl rfl ?_
  refine jw_iload (pc := 31) (j := 7) dX2_isSo_31 rfl ?_
  refine jw_iald (pc := 33) (j := j1) dX2_isSo_33 sC_42 hj1 ej1 (by decide) ?_
  refine (Decidable.em ((M.1 42 j1) = 5)).elim (fun c0 => ?_) (fun c0 => ?_)
  · replace h := h.1 c0
    refine jw_lookup (pc := 34) (off := 63) (tgt := 97) dX2_isSo_34 (by decide) (by rw [c0]; decide) (by decide) ?_
    refine jw_aload_n (pc := 97) (j := 5) dX2_isSo_97 rfl rfl ?_
    refine jw_iload (pc := 98) (j := 2) dX2_isSo_98 rfl ?_
    refine jw_aload_n (pc := 100) (j := 4) dX2_isSo_100 rfl rfl ?_
    refine jw_getR (pc := 101) (r := 44) dX2_isSo_101 sC_40 fl_X2_97 (by decide) rfl rfl ?_
    refine jw_iload (pc := 104) (j := 7) dX2_isSo_104 rfl ?_
    refine jw_iald (pc := 106) (j := j1) dX2_isSo_106 sC_44 hj1 ej1 (by decide) ?_
    refine jw_callV (pc := 107) (m2 := mX5_hasStrip) (As := [.int (M.1 43 j1), .int (M.1 44 j1)]) (st := []) dX2_isSo_107 sC_30 (by decide) rfl rfl gm_X5_hasStrip ml_X2_100 rfl (Nat.le_of_ble_eq_true rfl) (JC.mono h ?_)
    clear h
    rintro M1 _ ⟨b1, rfl, h⟩
    refine jw_st (st' := [.int (jb b1)]) rfl ?_
    refine jw_if_eq (pc := 110) (tgt := 141) dX2_isSo_110 (by decide) (fun c => ?_) (fun c => ?_)
    · replace h := h.1 ((jb_0 _).mp c)
      refine jw_iconst (pc := 141) (v := 0) dX2_isSo_141 rfl ?_
      exact jw_zret (pc := 142) dX2_isSo_142 rfl (Or.inl rfl) ⟨false, rfl, h⟩
    · replace h := h.2 (jb_ne c)
      refine jw_aload_n (pc := 113) (j := 5) dX2_isSo_113 rfl rfl ?_
      refine jw_iload (pc := 114) (j := 2) dX2_isSo_114 rfl ?_
      refine jw_aload_n (pc := 116) (j := 4) dX2_isSo_116 rfl rfl ?_
      refine jw_getR (pc := 117) (r := 44) dX2_isSo_117 sC_40 fl_X2_97 (by decide) rfl rfl ?_
      refine jw_iload (pc := 120) (j := 7) dX2_isSo_120 rfl ?_
      refine jw_iald (pc := 122) (j := j1) dX2_isSo_122 sC_44 hj1 ej1 (by decide) ?_
      refine jw_aload_n (pc := 123) (j := 6) dX2_isSo_123 rfl rfl ?_
      refine jw_callV (pc := 124) (m2 := mX5_sightOf) (As := [.int (M.1 43 j1), .int (M1.1 44 j1), .ref (x.2.2.2 o3)]) (st := []) dX2_isSo_124 sC_30 (by decide) rfl rfl gm_X5_sightOf ml_X2_104 rfl (Nat.le_of_ble_eq_true rfl) (JC.mono h ?_)
      clear h
      rintro M2 _ ⟨r1, rfl, h⟩
      refine jw_st (st' := [.int r1]) rfl ?_
      refine jw_iload (pc := 127) (j := 1) dX2_isSo_127 rfl ?_
      refine jw_iload (pc := 129) (j := 0) dX2_isSo_129 rfl ?_
      refine jw_callS (pc := 131) (m2 := mX2_compares) (As := [.int r1, .int (M.1 45 j1), .int (M.1 46 j1)]) (st := []) dX2_isSo_131 gm_X2_compares ml_X2_93 rfl (Nat.le_of_ble_eq_true rfl) (JC.mono h ?_)
      clear h
      rintro M3 _ ⟨b2, rfl, h⟩
      refine jw_st (st' := [.int (jb b2)]) rfl ?_
      refine jw_if_eq (pc := 134) (tgt := 141) dX2_isSo_134 (by decide) (fun c => ?_) (fun c => ?_)
      · replace h := h.1 ((jb_0 _).mp c)
        refine jw_iconst (pc := 141) (v := 0) dX2_isSo_141 rfl ?_
        exact jw_zret (pc := 142) dX2_isSo_142 rfl (Or.inl rfl) ⟨false, rfl, h⟩
      · replace h := h.2 (jb_ne c)
        refine jw_iconst (pc := 137) (v := 1) dX2_isSo_137 rfl ?_
        refine jw_goto (pc := 138) (tgt := 142) dX2_isSo_138 (by decide) ?_
        exact jw_zret (pc := 142) dX2_isSo_142 rfl (Or.inr rfl) ⟨true, rfl, h⟩
  · replace h := h.2 c0
    refine (Decidable.em ((M.1 42 j1) = 11)).elim (fun c1 => ?_) (fun c1 => ?_)
    · replace h := h.1 c1
      refine jw_lookup (pc := 34) (off := 34) (tgt := 68) dX2_isSo_34 (by decide) (by rw [c1]; decide) (by decide) ?_
      refine jw_aload_n (pc := 68) (j := 5) dX2_isSo_68 rfl rfl ?_
      refine jw_iload (pc := 69) (j := 2) dX2_isSo_69 rfl ?_
      refine jw_callV (pc := 71) (m2 := mX5_hasCell) (As := [.int (M.1 43 j1)]) (st := []) dX2_isSo_71 sC_30 (by decide) rfl rfl gm_X5_hasCell ml_X2_54 rfl (Nat.le_of_ble_eq_true rfl) (JC.mono h ?_)
      clear h
      rintro M4 _ ⟨b3, rfl, h⟩
      refine jw_st (st' := [.int (jb b3)]) rfl ?_
      refine jw_if_eq (pc := 74) (tgt := 95) dX2_isSo_74 (by decide) (fun c => ?_) (fun c => ?_)
      · replace h := h.1 ((jb_0 _).mp c)
        refine jw_iconst (pc := 95) (v := 0) dX2_isSo_95 rfl ?_
        exact jw_zret (pc := 96) dX2_isSo_96 rfl (Or.inl rfl) ⟨false, rfl, h⟩
      · replace h := h.2 (jb_ne c)
        refine jw_aload_n (pc := 77) (j := 6) dX2_isSo_77 rfl rfl ?_
        refine jw_iload (pc := 78) (j := 2) dX2_isSo_78 rfl ?_
        obtain ⟨j2, hj2, ej2, h⟩ := h
        refine jw_iald (pc := 80) (j := j2) dX2_isSo_80 s3 hj2 ej2 z3 ?_
        refine jw_iload (pc := 81) (j := 1) dX2_isSo_81 rfl ?_
        refine jw_iload (pc := 83) (j := 0) dX2_isSo_83 rfl ?_
        refine jw_callS (pc := 85) (m2 := mX2_compares) (As := [.int (M4.1 o3 j2), .int (M.1 45 j1), .int (M.1 46 j1)]) (st := []) dX2_isSo_85 gm_X2_compares ml_X2_93 rfl (Nat.le_of_ble_eq_true rfl) (JC.mono h ?_)
        clear h
        rintro M5 _ ⟨b4, rfl, h⟩
        refine jw_st (st' := [.int (jb b4)]) rfl ?_
        refine jw_if_eq (pc := 88) (tgt := 95) dX2_isSo_88 (by decide) (fun c => ?_) (fun c => ?_)
        · replace h := h.1 ((jb_0 _).mp c)
          refine jw_iconst (pc := 95) (v := 0) dX2_isSo_95 rfl ?_
          exact jw_zret (pc := 96) dX2_isSo_96 rfl (Or.inl rfl) ⟨false, rfl, h⟩
        · replace h := h.2 (jb_ne c)
          refine jw_iconst (pc := 91) (v := 1) dX2_isSo_91 rfl ?_
          refine jw_goto (pc := 92) (tgt := 96) dX2_isSo_92 (by decide) ?_
          exact jw_zret (pc := 96) dX2_isSo_96 rfl (Or.inr rfl) ⟨true, rfl, h⟩
    · replace h := h.2 c1
      refine (Decidable.em ((M.1 42 j1) = 13)).elim (fun c2 => ?_) (fun c2 => ?_)
      · replace h := h.1 c2
        refine jw_lookup (pc := 34) (off := 109) (tgt := 143) dX2_isSo_34 (by decide) (by rw [c2]; decide) (by decide) ?_
        refine jw_aload_n (pc := 143) (j := 5) dX2_isSo_143 rfl rfl ?_
        refine jw_iload (pc := 144) (j := 2) dX2_isSo_144 rfl ?_
        refine jw_callV (pc := 146) (m2 := mX5_hasVillage) (As := [.int (M.1 43 j1)]) (st := []) dX2_isSo_146 sC_30 (by decide) rfl rfl gm_X5_hasVillage ml_X2_108 rfl (Nat.le_of_ble_eq_true rfl) (JC.mono h ?_)
        clear h
        rintro M6 _ ⟨b5, rfl, h⟩
        refine jw_st (st' := [.int (jb b5)]) rfl ?_
        refine jw_if_eq (pc := 149) (tgt := 176) dX2_isSo_149 (by decide) (fun c => ?_) (fun c => ?_)
        · replace h := h.1 ((jb_0 _).mp c)
          refine jw_iconst (pc := 176) (v := 0) dX2_isSo_176 rfl ?_
          exact jw_zret (pc := 177) dX2_isSo_177 rfl (Or.inl rfl) ⟨false, rfl, h⟩
        · replace h := h.2 (jb_ne c)
          refine jw_aload_n (pc := 152) (j := 5) dX2_isSo_152 rfl rfl ?_
          refine jw_iload (pc := 153) (j := 2) dX2_isSo_153 rfl ?_
          refine jw_callV (pc := 155) (m2 := mX5_hasSky) (As := [.int (M.1 43 j1)]) (st := []) dX2_isSo_155 sC_30 (by decide) rfl rfl gm_X5_hasSky ml_X2_111 rfl (Nat.le_of_ble_eq_true rfl) (JC.mono h ?_)
          clear h
          rintro M7 _ ⟨b6, rfl, h⟩
          refine jw_st (st' := [.int (jb b6)]) rfl ?_
          refine jw_if_eq (pc := 158) (tgt := 176) dX2_isSo_158 (by decide) (fun c => ?_) (fun c => ?_)
          · replace h := h.1 ((jb_0 _).mp c)
            refine jw_iconst (pc := 176) (v := 0) dX2_isSo_176 rfl ?_
            exact jw_zret (pc := 177) dX2_isSo_177 rfl (Or.inl rfl) ⟨false, rfl, h⟩
          · replace h := h.2 (jb_ne c)
            refine jw_aload_n (pc := 161) (j := 5) dX2_isSo_161 rfl rfl ?_
            refine jw_iload (pc := 162) (j := 2) dX2_isSo_162 rfl ?_
            refine jw_aload_n (pc := 164) (j := 6) dX2_isSo_164 rfl rfl ?_
            refine jw_callV (pc := 165) (m2 := mX5_firstUnlikeStrip) (As := [.int (M.1 43 j1), .ref (x.2.2.2 o3)]) (st := []) dX2_isSo_165 sC_30 (by decide) rfl rfl gm_X5_firstUnlikeStrip ml_X2_114 rfl (Nat.le_of_ble_eq_true rfl) (JC.mono h ?_)
            clear h
            rintro M8 _ ⟨r2, rfl, h⟩
            refine jw_st (st' := [.int r2]) rfl ?_
            refine jw_iconst (pc := 168) (v := (-1)) dX2_isSo_168 rfl ?_
            refine jw_icmp_ne (pc := 169) (tgt := 176) dX2_isSo_169 (by decide) (fun c => ?_) (fun c => ?_)
            · replace h := h.1 c
              refine jw_iconst (pc := 176) (v := 0) dX2_isSo_176 rfl ?_
              exact jw_zret (pc := 177) dX2_isSo_177 rfl (Or.inl rfl) ⟨false, rfl, h⟩
            · replace h := h.2 c
              refine jw_iconst (pc := 172) (v := 1) dX2_isSo_172 rfl ?_
              refine jw_goto (pc := 173) (tgt := 177) dX2_isSo_173 (by decide) ?_
              exact jw_zret (pc := 177) dX2_isSo_177 rfl (Or.inr rfl) ⟨true, rfl, h⟩
      · replace h := h.2 c2
        have e0 := jne_i (k := 5) (n := 5) c0 (by decide)
        have e1 := jne_i (k := 11) (n := 11) c1 (by decide)
        have e2 := jne_i (k := 13) (n := 13) c2 (by decide)
        refine jw_lookup (pc := 34) (off := 144) (tgt := 178) dX2_isSo_34 (by decide) (by simp [Op.lookupswitch.offset, e0, e1, e2, Ne.symm e0, Ne.symm e1, Ne.symm e2]) (by decide) ?_
        refine jw_aload_n (pc := 178) (j := 5) dX2_isSo_178 rfl rfl ?_
        refine jw_aload_n (pc := 179) (j := 6) dX2_isSo_179 rfl rfl ?_
        refine jw_callV (pc := 180) (m2 := mX5_stoneOf) (As := [.ref (x.2.2.2 o3)]) (st := []) dX2_isSo_180 sC_30 (by decide) rfl rfl gm_X5_stoneOf ml_X2_118 rfl (Nat.le_of_ble_eq_true rfl) (JC.mono h ?_)
        clear h
        rintro M9 _ ⟨r3, rfl, h⟩
        refine jw_st (st' := [.int r3]) rfl ?_
        refine jw_iload (pc := 183) (j := 1) dX2_isSo_183 rfl ?_
        refine jw_iload (pc := 185) (j := 0) dX2_isSo_185 rfl ?_
        refine jw_callS (pc := 187) (m2 := mX2_compares) (As := [.int r3, .int (M.1 45 j1), .int (M.1 46 j1)]) (st := []) dX2_isSo_187 gm_X2_compares ml_X2_93 rfl (Nat.le_of_ble_eq_true rfl) (JC.mono h ?_)
        clear h
        rintro M10 _ ⟨b7, rfl, h⟩
        refine jw_st (st' := [.int (jb b7)]) rfl ?_
        exact jw_zret (pc := 190) dX2_isSo_190 rfl (jb_01 _) ⟨_, rfl, h⟩
set_option maxRecDepth 20000 in
theorem b_X2_compares {x : jX} {d : Nat} {M : jM} {P : jM → Bool → Prop} {a0 : Int32} {a1 : Int32} {a2 : Int32} 
    (h : (a1 = 60 → (a2 ≤ a0 → P M false) ∧ (¬ a2 ≤ a0 → P M true)) ∧ (¬ a1 = 60 → (a1 = 62 → (a0 ≤ a2 → P M false) ∧ (¬ a0 ≤ a2 → P M true)) ∧ (¬ a1 = 62 → (¬ a0 = a2 → P M false) ∧ (a0 = a2 → P M true)))) :
    JC x jtbC mX2_compares d [.int a0, .int a1, .int a2] M (jZ P) := by
  refine JC.of rfl (Nat.le_of_ble_eq_true rfl) ?_
  refine jw_ls (ls' := [(0, .int a0), (1, .int a1), (2, .int a2)]) rfl ?_
  refine jw_iload_n (pc := 0) (j := 1) dX2_compares_0 rfl rfl ?_
  refine (Decidable.em (a1 = 60)).elim (fun c0 => ?_) (fun c0 => ?_)
  · replace h := h.1 c0
    refine jw_lookup (pc := 1) (off := 27) (tgt := 28) dX2_compares_1 (by decide) (by rw [c0]; decide) (by decide) ?_
    refine jw_iload_n (pc := 28) (j := 0) dX2_compares_28 rfl rfl ?_
    refine jw_iload_n (pc := 29) (j := 2) dX2_compares_29 rfl rfl ?_
    refine jw_icmp_ge (pc := 30) (tgt := 37) dX2_compares_30 (by decide) (fun c => ?_) (fun c => ?_)
    · replace h := h.1 c
      refine jw_iconst (pc := 37) (v := 0) dX2_compares_37 rfl ?_
      exact jw_zret (pc := 38) dX2_compares_38 rfl (Or.inl rfl) ⟨false, rfl, h⟩
    · replace h := h.2 c
      refine jw_iconst (pc := 33) (v := 1) dX2_compares_33 rfl ?_
      refine jw_goto (pc := 34) (tgt := 38) dX2_compares_34 (by decide) ?_
      exact jw_zret (pc := 38) dX2_compares_38 rfl (Or.inr rfl) ⟨true, rfl, h⟩
  · replace h := h.2 c0
    refine (Decidable.em (a1 = 62)).elim (fun c1 => ?_) (fun c1 => ?_)
    · replace h := h.1 c1
      refine jw_lookup (pc := 1) (off := 38) (tgt := 39) dX2_compares_1 (by decide) (by rw [c1]; decide) (by decide) ?_
      refine jw_iload_n (pc := 39) (j := 0) dX2_compares_39 rfl rfl ?_
      refine jw_iload_n (pc := 40) (j := 2) dX2_compares_40 rfl rfl ?_
      refine jw_icmp_le (pc := 41) (tgt := 48) dX2_compares_41 (by decide) (fun c => ?_) (fun c => ?_)
      · replace h := h.1 c
        refine jw_iconst (pc := 48) (v := 0) dX2_compares_48 rfl ?_
        exact jw_zret (pc := 49) dX2_compares_49 rfl (Or.inl rfl) ⟨false, rfl, h⟩
      · replace h := h.2 c
        refine jw_iconst (pc := 44) (v := 1) dX2_compares_44 rfl ?_
        refine jw_goto (pc := 45) (tgt := 49) dX2_compares_45 (by decide) ?_
        exact jw_zret (pc := 49) dX2_compares_49 rfl (Or.inr rfl) ⟨true, rfl, h⟩
    · replace h := h.2 c1
      have e0 := jne_i (k := 60) (n := 60) c0 (by decide)
      have e1 := jne_i (k := 62) (n := 62) c1 (by decide)
      refine jw_lookup (pc := 1) (off := 49) (tgt := 50) dX2_compares_1 (by decide) (by simp [Op.lookupswitch.offset, e0, e1, Ne.symm e0, Ne.symm e1]) (by decide) ?_
      refine jw_iload_n (pc := 50) (j := 0) dX2_compares_50 rfl rfl ?_
      refine jw_iload_n (pc := 51) (j := 2) dX2_compares_51 rfl rfl ?_
      refine jw_icmp_ne (pc := 52) (tgt := 59) dX2_compares_52 (by decide) (fun c => ?_) (fun c => ?_)
      · replace h := h.1 c
        refine jw_iconst (pc := 59) (v := 0) dX2_compares_59 rfl ?_
        exact jw_zret (pc := 60) dX2_compares_60 rfl (Or.inl rfl) ⟨false, rfl, h⟩
      · replace h := h.2 c
        refine jw_iconst (pc := 55) (v := 1) dX2_compares_55 rfl ?_
        refine jw_goto (pc := 56) (tgt := 60) dX2_compares_56 (by decide) ?_
        exact jw_zret (pc := 60) dX2_compares_60 rfl (Or.inr rfl) ⟨true, rfl, h⟩
